def f_X5_most (i0 : Int32) (om : OS) : Option (Int64 × OS) := Option.bind (f_X5_in i0 0 2) fun x1 => if x1 = 0 then some ((-1), om) else Option.bind (f_X5_sharesNow om) fun x3 => Option.bind (f_X5_laysMost x3) fun x4 => if x4.1 = 0 then some ((-9), x4.2) else Option.bind (f_X5_tellsMost i0 x4.2) fun x6 => some (x6, x4.2)
set_option maxHeartbeats 4000000 in
set_option maxRecDepth 100000 in
theorem c_X5_most (l : Launch) (D : va_G) (cI cZ cS : ClassId) (a : Nat) (q : Nat → Nat) (i0 : Int32) (om : OS) (x : (Int64 × OS)) (hf : f_X5_most i0 om = some x) : Ct l yX5_most cX5_most 2 (some .long) 5 113 D cI cZ cS [.ref a, .int i0] (bX5 cI cZ a q om) (some (.long x.1)) (bX5 cI cZ a q x.2) := by
  intro sz
  refine Met.ofW (cc := cX5_most) (maxL := 2) (ret := (some .long)) (by decide +kernel) rfl ?_
  intro p e s m args below meth c s₁ B hml hv
  obtain ⟨rfl, hsz, hP, hK, hD0⟩ := hv
  have hx := B.exec
  have hb := B.bytes
  have hr := B.returns
  have hts0 := atoms_spec (ws := .code yX5_most cX5_most 2 (some .long) :: TB) B.pre
  have hts := fun w (h : w ∈ TB) => hts0 w (List.mem_cons_of_mem _ h)
  have hown : s.vm.findClass RX5 = some m.cls := findClass_of_methodNamed B.named
  have hlocks := B.notSynchronized
  subst hsz
  have hD := hD0.self (sz := s.heap.size)
  generalize hAe : va_A (bX5 cI cZ a q om) s.heap.size = A at hD ⊢
  have hA : ∀ q : Nat, s.heap.size ≤ q → A q := fun q h => by rw [← hAe]; exact Or.inr h
  have hS : va_S A s.heap s.heap [] := va_S.rf
  obtain ⟨H, hH⟩ : ∃ H, H = s.heap := ⟨_, rfl⟩
  rw [← hH] at hP
  have hS : va_S A s.heap H [] := by rw [hH]; exact hS
  have hl := lv_entry ([.ref a, .int i0]) (n := 2) (Nat.le_of_ble_eq_true rfl)
  rw [lg_entry_eq]
  generalize (lg_sl ([.ref a, .int i0]) ++ List.replicate (2 - (lg_sl ([.ref a, .int i0])).length) Slot.unset).toArray = ls at hl ⊢
  have hl : lv_has ls 2 [(0, .ref a), (1, .int i0)] := hl
  refine W_heap hH ?_
  obtain ⟨locs, hlo⟩ : ∃ locs : List Loc, locs = [] := ⟨_, rfl⟩
  rw [← hlo] at hS ⊢
  unfold f_X5_most at hf
  refine lv_iload_n (pc := 0) hx hb dX5_most_0 rfl (lv_at hl 1 rfl) ?_
  refine lv_iconst (v := 0) (pc := 1) hx hb dX5_most_1 (by decide) ?_
  refine lv_iconst (v := 2) (pc := 2) hx hb dX5_most_2 (by decide) ?_
  obtain ⟨x1, ex1, hf⟩ := bd_some hf
  refine ct_S0 (pc := 3) (As := [.int i0, .int 0, .int 2]) (rest := []) ⟨hx, hb, hml, hown, hts⟩ hK (c_X5_in l D cI cZ cS i0 0 2 x1 ex1) gs_RX5_57 hs_X5_in rfl ⟨Nat.le_of_ble_eq_true rfl, Nat.le_of_ble_eq_true rfl⟩ hl.1 rfl (Nat.le_of_ble_eq_true rfl) dX5_most_3 ⟨Nat.zero_le _, Nat.zero_le _⟩ hP hS hA (fun H locs hP hS => ?_)
  refine lv_if_ne (pc := 6) (tgt := 13) hx hb dX5_most_6 (by decide) (fun c2 => ?_) (fun c2 => ?_)
  · replace hf := im c2 hf
    refine lv_aload_n (pc := 13) hx hb dX5_most_13 rfl (lv_at hl 0 rfl) ?_
    obtain ⟨x3, ex3, hf⟩ := bd_some hf
    refine ct_V1 (pc := 14) (As := []) (rest := []) (W1 := bX5 cI cZ a q x3) ⟨hx, hb, hml, hown, hts⟩ hK (c_X5_sharesNow l D cI cZ cS a q om x3 ex3) gv_RX5_239 rfl hs_X5_sharesNow rfl ⟨Nat.le_of_ble_eq_true rfl, Nat.le_of_ble_eq_true rfl⟩ (ci := 5) (q0 := 0) rfl rfl rfl hl.1 rfl (Nat.le_of_ble_eq_true rfl) dX5_most_14 ⟨Nat.zero_le _, Nat.zero_le _⟩ hP hD hS hA (fun H locs hP hD hS => ?_)
    refine lv_aload_n (pc := 17) hx hb dX5_most_17 rfl (lv_at hl 0 rfl) ?_
    obtain ⟨x4, ex4, hf⟩ := bd_some hf
    refine ct_V1 (pc := 18) (As := []) (rest := []) (W1 := bX5 cI cZ a q x4.2) ⟨hx, hb, hml, hown, hts⟩ hK (c_X5_laysMost l D cI cZ cS a q x3 x4 ex4) gv_RX5_248 rfl hs_X5_laysMost rfl ⟨Nat.le_of_ble_eq_true rfl, Nat.le_of_ble_eq_true rfl⟩ (ci := 5) (q0 := 0) rfl rfl rfl hl.1 rfl (Nat.le_of_ble_eq_true rfl) dX5_most_18 ⟨Nat.zero_le _, Nat.zero_le _⟩ hP hD hS hA (fun H locs hP hD hS => ?_)
    refine lv_if_eq (pc := 21) (tgt := 32) hx hb dX5_most_21 (by decide) (fun c5 => ?_) (fun c5 => ?_)
    · replace hf := ip c5 hf
      refine lv_ldc2 (pc := 32) (v := -9) hx hb hown (hts _ cn_RX5_242) dX5_most_32 ?_
      obtain rfl := Option.some.inj hf
      exact W.lret hx hb hr (fun t ht hW => ⟨rfl, by rw [ht]; exact hP, hD, hS.F ht⟩) hS.2.2 dX5_most_35
    · replace hf := im c5 hf
      refine lv_aload_n (pc := 24) hx hb dX5_most_24 rfl (lv_at hl 0 rfl) ?_
      refine lv_iload_n (pc := 25) hx hb dX5_most_25 rfl (lv_at hl 1 rfl) ?_
      obtain ⟨x6, ex6, hf⟩ := bd_some hf
      refine ct_V1 (pc := 26) (As := [.int i0]) (rest := []) (W1 := bX5 cI cZ a q x4.2) ⟨hx, hb, hml, hown, hts⟩ hK (c_X5_tellsMost l D cI cZ cS a q i0 x4.2 x6 ex6) gv_RX5_251 rfl hs_X5_tellsMost rfl ⟨Nat.le_of_ble_eq_true rfl, Nat.le_of_ble_eq_true rfl⟩ (ci := 5) (q0 := 0) rfl rfl rfl hl.1 rfl (Nat.le_of_ble_eq_true rfl) dX5_most_26 ⟨Nat.zero_le _, Nat.zero_le _⟩ hP hD hS hA (fun H locs hP hD hS => ?_)
      refine lv_goto (pc := 29) (tgt := 35) hx hb dX5_most_29 (by decide) ?_
      obtain rfl := Option.some.inj hf
      exact W.lret hx hb hr (fun t ht hW => ⟨rfl, by rw [ht]; exact hP, hD, hS.F ht⟩) hS.2.2 dX5_most_35
  · replace hf := ip c2 hf
    refine lv_ldc2 (pc := 9) (v := -1) hx hb hown (hts _ cn_RX5_246) dX5_most_9 ?_
    obtain rfl := Option.some.inj hf
    exact W.lret hx hb hr (fun t ht hW => ⟨rfl, by rw [ht]; exact hP, hD, hS.F ht⟩) hS.2.2 dX5_most_12
def f_X5_factor (i0 : Int32) (om : OS) : Option (Int64 × OS) := Option.bind (f_X5_in i0 0 1) fun x1 => if x1 = 0 then some ((-1), om) else Option.bind (f_X5_sharesNow om) fun x3 => Option.bind (f_X5_laysMost x3) fun x4 => if x4.1 = 0 then some ((-9), x4.2) else if (x4.2.2.1 33) = 0 then some ((-9), x4.2) else Option.bind (f_X5_part (x4.2.2.1 33) (x4.2.2.1 34) (1 - i0)) fun x7 => some (x7, x4.2)
set_option maxHeartbeats 4000000 in
set_option maxRecDepth 100000 in
theorem c_X5_factor (l : Launch) (D : va_G) (cI cZ cS : ClassId) (a : Nat) (q : Nat → Nat) (i0 : Int32) (om : OS) (x : (Int64 × OS)) (hf : f_X5_factor i0 om = some x) : Ct l yX5_factor cX5_factor 2 (some .long) 5 113 D cI cZ cS [.ref a, .int i0] (bX5 cI cZ a q om) (some (.long x.1)) (bX5 cI cZ a q x.2) := by
  intro sz
  refine Met.ofW (cc := cX5_factor) (maxL := 2) (ret := (some .long)) (by decide +kernel) rfl ?_
  intro p e s m args below meth c s₁ B hml hv
  obtain ⟨rfl, hsz, hP, hK, hD0⟩ := hv
  have hx := B.exec
  have hb := B.bytes
  have hr := B.returns
  have hts0 := atoms_spec (ws := .code yX5_factor cX5_factor 2 (some .long) :: TB) B.pre
  have hts := fun w (h : w ∈ TB) => hts0 w (List.mem_cons_of_mem _ h)
  have hown : s.vm.findClass RX5 = some m.cls := findClass_of_methodNamed B.named
  have hlocks := B.notSynchronized
  subst hsz
  have hD := hD0.self (sz := s.heap.size)
  generalize hAe : va_A (bX5 cI cZ a q om) s.heap.size = A at hD ⊢
  have hA : ∀ q : Nat, s.heap.size ≤ q → A q := fun q h => by rw [← hAe]; exact Or.inr h
  have hS : va_S A s.heap s.heap [] := va_S.rf
  obtain ⟨H, hH⟩ : ∃ H, H = s.heap := ⟨_, rfl⟩
  rw [← hH] at hP
  have hS : va_S A s.heap H [] := by rw [hH]; exact hS
  have hl := lv_entry ([.ref a, .int i0]) (n := 2) (Nat.le_of_ble_eq_true rfl)
  rw [lg_entry_eq]
  generalize (lg_sl ([.ref a, .int i0]) ++ List.replicate (2 - (lg_sl ([.ref a, .int i0])).length) Slot.unset).toArray = ls at hl ⊢
  have hl : lv_has ls 2 [(0, .ref a), (1, .int i0)] := hl
  refine W_heap hH ?_
  obtain ⟨locs, hlo⟩ : ∃ locs : List Loc, locs = [] := ⟨_, rfl⟩
  rw [← hlo] at hS ⊢
  unfold f_X5_factor at hf
  refine lv_iload_n (pc := 0) hx hb dX5_factor_0 rfl (lv_at hl 1 rfl) ?_
  refine lv_iconst (v := 0) (pc := 1) hx hb dX5_factor_1 (by decide) ?_
  refine lv_iconst (v := 1) (pc := 2) hx hb dX5_factor_2 (by decide) ?_
  obtain ⟨x1, ex1, hf⟩ := bd_some hf
  refine ct_S0 (pc := 3) (As := [.int i0, .int 0, .int 1]) (rest := []) ⟨hx, hb, hml, hown, hts⟩ hK (c_X5_in l D cI cZ cS i0 0 1 x1 ex1) gs_RX5_57 hs_X5_in rfl ⟨Nat.le_of_ble_eq_true rfl, Nat.le_of_ble_eq_true rfl⟩ hl.1 rfl (Nat.le_of_ble_eq_true rfl) dX5_factor_3 ⟨Nat.zero_le _, Nat.zero_le _⟩ hP hS hA (fun H locs hP hS => ?_)
  refine lv_if_ne (pc := 6) (tgt := 13) hx hb dX5_factor_6 (by decide) (fun c2 => ?_) (fun c2 => ?_)
  · replace hf := im c2 hf
    refine lv_aload_n (pc := 13) hx hb dX5_factor_13 rfl (lv_at hl 0 rfl) ?_
    obtain ⟨x3, ex3, hf⟩ := bd_some hf
    refine ct_V1 (pc := 14) (As := []) (rest := []) (W1 := bX5 cI cZ a q x3) ⟨hx, hb, hml, hown, hts⟩ hK (c_X5_sharesNow l D cI cZ cS a q om x3 ex3) gv_RX5_239 rfl hs_X5_sharesNow rfl ⟨Nat.le_of_ble_eq_true rfl, Nat.le_of_ble_eq_true rfl⟩ (ci := 5) (q0 := 0) rfl rfl rfl hl.1 rfl (Nat.le_of_ble_eq_true rfl) dX5_factor_14 ⟨Nat.zero_le _, Nat.zero_le _⟩ hP hD hS hA (fun H locs hP hD hS => ?_)
    refine lv_aload_n (pc := 17) hx hb dX5_factor_17 rfl (lv_at hl 0 rfl) ?_
    obtain ⟨x4, ex4, hf⟩ := bd_some hf
    refine ct_V1 (pc := 18) (As := []) (rest := []) (W1 := bX5 cI cZ a q x4.2) ⟨hx, hb, hml, hown, hts⟩ hK (c_X5_laysMost l D cI cZ cS a q x3 x4 ex4) gv_RX5_248 rfl hs_X5_laysMost rfl ⟨Nat.le_of_ble_eq_true rfl, Nat.le_of_ble_eq_true rfl⟩ (ci := 5) (q0 := 0) rfl rfl rfl hl.1 rfl (Nat.le_of_ble_eq_true rfl) dX5_factor_18 ⟨Nat.zero_le _, Nat.zero_le _⟩ hP hD hS hA (fun H locs hP hD hS => ?_)
    refine lv_if_eq (pc := 21) (tgt := 50) hx hb dX5_factor_21 (by decide) (fun c5 => ?_) (fun c5 => ?_)
    · replace hf := ip c5 hf
      refine lv_ldc2 (pc := 50) (v := -9) hx hb hown (hts _ cn_RX5_242) dX5_factor_50 ?_
      obtain rfl := Option.some.inj hf
      exact W.lret hx hb hr (fun t ht hW => ⟨rfl, by rw [ht]; exact hP, hD, hS.F ht⟩) hS.2.2 dX5_factor_53
    · replace hf := im c5 hf
      refine lv_aload_n (pc := 24) hx hb dX5_factor_24 rfl (lv_at hl 0 rfl) ?_
      refine va_get (pc := 25) (D := D) (ci := 5) (v := .long (x4.2.2.1 33)) (C := RX5) (T := TX5) (N := 41) hx hb hts iX5 hown hK.1 hP 0 rfl rfl 33 (by decide) (hts _ fl_RX5_227) (fun _ h => h) rfl dX5_factor_25 ?_
      refine lv_lconst (v := 0) (pc := 28) hx hb dX5_factor_28 (by decide) ?_
      refine W.lcmp (pc := 29) hx hb dX5_factor_29 ?_
      refine lv_if_eq (pc := 30) (tgt := 50) hx hb dX5_factor_30 (by decide) (fun c6 => ?_) (fun c6 => ?_)
      · replace c6 := (lg_cmp_eq _ _).mp c6
        replace hf := ip c6 hf
        refine lv_ldc2 (pc := 50) (v := -9) hx hb hown (hts _ cn_RX5_242) dX5_factor_50 ?_
        obtain rfl := Option.some.inj hf
        exact W.lret hx hb hr (fun t ht hW => ⟨rfl, by rw [ht]; exact hP, hD, hS.F ht⟩) hS.2.2 dX5_factor_53
      · replace c6 := fun q => c6 ((lg_cmp_eq _ _).mpr q)
        replace hf := im c6 hf
        refine lv_aload_n (pc := 33) hx hb dX5_factor_33 rfl (lv_at hl 0 rfl) ?_
        refine va_get (pc := 34) (D := D) (ci := 5) (v := .long (x4.2.2.1 33)) (C := RX5) (T := TX5) (N := 41) hx hb hts iX5 hown hK.1 hP 0 rfl rfl 33 (by decide) (hts _ fl_RX5_227) (fun _ h => h) rfl dX5_factor_34 ?_
        refine lv_aload_n (pc := 37) hx hb dX5_factor_37 rfl (lv_at hl 0 rfl) ?_
        refine va_get (pc := 38) (D := D) (ci := 5) (v := .long (x4.2.2.1 34)) (C := RX5) (T := TX5) (N := 41) hx hb hts iX5 hown hK.1 hP 0 rfl rfl 34 (by decide) (hts _ fl_RX5_230) (fun _ h => h) rfl dX5_factor_38 ?_
        refine lv_iconst (v := 1) (pc := 41) hx hb dX5_factor_41 (by decide) ?_
        refine lv_iload_n (pc := 42) hx hb dX5_factor_42 rfl (lv_at hl 1 rfl) ?_
        refine lv_isub (pc := 43) hx hb dX5_factor_43 ?_
        obtain ⟨x7, ex7, hf⟩ := bd_some hf
        refine ct_S0 (pc := 44) (As := [.long (x4.2.2.1 33), .long (x4.2.2.1 34), .int (1 - i0)]) (rest := []) ⟨hx, hb, hml, hown, hts⟩ hK (c_X5_part l D cI cZ cS (x4.2.2.1 33) (x4.2.2.1 34) (1 - i0) x7 ex7) gs_RX5_233 hs_X5_part rfl ⟨Nat.le_of_ble_eq_true rfl, Nat.le_of_ble_eq_true rfl⟩ hl.1 rfl (Nat.le_of_ble_eq_true rfl) dX5_factor_44 ⟨Nat.zero_le _, Nat.zero_le _⟩ hP hS hA (fun H locs hP hS => ?_)
        refine lv_goto (pc := 47) (tgt := 53) hx hb dX5_factor_47 (by decide) ?_
        obtain rfl := Option.some.inj hf
        exact W.lret hx hb hr (fun t ht hW => ⟨rfl, by rw [ht]; exact hP, hD, hS.F ht⟩) hS.2.2 dX5_factor_53
  · replace hf := ip c2 hf
    refine lv_ldc2 (pc := 9) (v := -1) hx hb hown (hts _ cn_RX5_246) dX5_factor_9 ?_
    obtain rfl := Option.some.inj hf
    exact W.lret hx hb hr (fun t ht hW => ⟨rfl, by rw [ht]; exact hP, hD, hS.F ht⟩) hS.2.2 dX5_factor_12
def f_X5_isKern (i0 : Int32) (i1 : Int32) (om : OS) : Option (Int32 × OS) := Option.bind (f_X5_laysLoad 1 i0 i1 om) fun x1 => lt (sI x1 26 (x1.1 22)) fun o2 => Option.bind (f_X5_isSteady (o2.1 22) o2) fun x3 => if x3.1 = 0 then some ((-9), x3.2) else Option.bind (f_X5_goesOut x3.2) fun x5 => if x5 = (-9) then some (1, x3.2) else some (0, x3.2)
set_option maxHeartbeats 4000000 in
set_option maxRecDepth 100000 in
theorem c_X5_isKern (l : Launch) (D : va_G) (cI cZ cS : ClassId) (a : Nat) (q : Nat → Nat) (i0 : Int32) (i1 : Int32) (om : OS) (x : (Int32 × OS)) (hf : f_X5_isKern i0 i1 om = some x) : Ct l yX5_isKern cX5_isKern 3 (some .int) 3 71 D cI cZ cS [.ref a, .int i0, .int i1] (bX5 cI cZ a q om) (some (.int x.1)) (bX5 cI cZ a q x.2) := by
  intro sz
  refine Met.ofW (cc := cX5_isKern) (maxL := 3) (ret := (some .int)) (by decide +kernel) rfl ?_
  intro p e s m args below meth c s₁ B hml hv
  obtain ⟨rfl, hsz, hP, hK, hD0⟩ := hv
  have hx := B.exec
  have hb := B.bytes
  have hr := B.returns
  have hts0 := atoms_spec (ws := .code yX5_isKern cX5_isKern 3 (some .int) :: TB) B.pre
  have hts := fun w (h : w ∈ TB) => hts0 w (List.mem_cons_of_mem _ h)
  have hown : s.vm.findClass RX5 = some m.cls := findClass_of_methodNamed B.named
  have hlocks := B.notSynchronized
  subst hsz
  have hD := hD0.self (sz := s.heap.size)
  generalize hAe : va_A (bX5 cI cZ a q om) s.heap.size = A at hD ⊢
  have hA : ∀ q : Nat, s.heap.size ≤ q → A q := fun q h => by rw [← hAe]; exact Or.inr h
  have hS : va_S A s.heap s.heap [] := va_S.rf
  obtain ⟨H, hH⟩ : ∃ H, H = s.heap := ⟨_, rfl⟩
  rw [← hH] at hP
  have hS : va_S A s.heap H [] := by rw [hH]; exact hS
  have hl := lv_entry ([.ref a, .int i0, .int i1]) (n := 3) (Nat.le_of_ble_eq_true rfl)
  rw [lg_entry_eq]
  generalize (lg_sl ([.ref a, .int i0, .int i1]) ++ List.replicate (3 - (lg_sl ([.ref a, .int i0, .int i1])).length) Slot.unset).toArray = ls at hl ⊢
  have hl : lv_has ls 3 [(0, .ref a), (1, .int i0), (2, .int i1)] := hl
  refine W_heap hH ?_
  obtain ⟨locs, hlo⟩ : ∃ locs : List Loc, locs = [] := ⟨_, rfl⟩
  rw [← hlo] at hS ⊢
  unfold f_X5_isKern at hf
  refine lv_aload_n (pc := 0) hx hb dX5_isKern_0 rfl (lv_at hl 0 rfl) ?_
  refine lv_iconst (v := 1) (pc := 1) hx hb dX5_isKern_1 (by decide) ?_
  refine lv_iload_n (pc := 2) hx hb dX5_isKern_2 rfl (lv_at hl 1 rfl) ?_
  refine lv_iload_n (pc := 3) hx hb dX5_isKern_3 rfl (lv_at hl 2 rfl) ?_
  obtain ⟨x1, ex1, hf⟩ := bd_some hf
  refine ct_V1 (pc := 4) (As := [.int 1, .int i0, .int i1]) (rest := []) (W1 := bX5 cI cZ a q x1) ⟨hx, hb, hml, hown, hts⟩ hK (c_X5_laysLoad l D cI cZ cS a q 1 i0 i1 om x1 ex1) gv_RX5_254 rfl hs_X5_laysLoad rfl ⟨Nat.le_of_ble_eq_true rfl, Nat.le_of_ble_eq_true rfl⟩ (ci := 5) (q0 := 0) rfl rfl rfl hl.1 rfl (Nat.le_of_ble_eq_true rfl) dX5_isKern_4 ⟨Nat.zero_le _, Nat.zero_le _⟩ hP hD hS hA (fun H locs hP hD hS => ?_)
  refine lv_aload_n (pc := 7) hx hb dX5_isKern_7 rfl (lv_at hl 0 rfl) ?_
  refine lv_aload_n (pc := 8) hx hb dX5_isKern_8 rfl (lv_at hl 0 rfl) ?_
  refine va_get (pc := 9) (D := D) (ci := 5) (v := .int (x1.1 22)) (C := RX5) (T := TX5) (N := 41) hx hb hts iX5 hown hK.1 hP 0 rfl rfl 22 (by decide) (hts _ fl_RX5_153) (fun _ h => h) rfl dX5_isKern_9 ?_
  obtain ⟨o2, eo2, hf⟩ := lt_some hf
  refine va_put (pc := 12) (D := D) (ci := 5) (v := .int (x1.1 22)) (ty := .int) (C := RX5) (T := TX5) (N := 41) hx hb hts iX5 tyX5 tyX5_ok nmX5 hown hK.1 hP hD hS 0 rfl rfl 26 (by decide) (hts _ fl_RX5_186) (fun _ h => h) rfl (tyX5_ok 26 (by decide)) rfl rfl (Nat.le_of_ble_eq_true rfl) dX5_isKern_12 (fun H locs hP hD hS => ?_)
  replace hP : va_P D vwCl (bX5 cI cZ a q o2) H := by rw [eo2]; exact hP
  replace hD : va_D A (bX5 cI cZ a q o2) := by rw [eo2]; exact hD
  refine lv_aload_n (pc := 15) hx hb dX5_isKern_15 rfl (lv_at hl 0 rfl) ?_
  refine lv_aload_n (pc := 16) hx hb dX5_isKern_16 rfl (lv_at hl 0 rfl) ?_
  refine va_get (pc := 17) (D := D) (ci := 5) (v := .int (o2.1 22)) (C := RX5) (T := TX5) (N := 41) hx hb hts iX5 hown hK.1 hP 0 rfl rfl 22 (by decide) (hts _ fl_RX5_153) (fun _ h => h) rfl dX5_isKern_17 ?_
  obtain ⟨x3, ex3, hf⟩ := bd_some hf
  refine ct_V1 (pc := 20) (As := [.int (o2.1 22)]) (rest := []) (W1 := bX5 cI cZ a q x3.2) ⟨hx, hb, hml, hown, hts⟩ hK (c_X5_isSteady l D cI cZ cS a q (o2.1 22) o2 x3 ex3) gv_RX5_202 rfl hs_X5_isSteady rfl ⟨Nat.le_of_ble_eq_true rfl, Nat.le_of_ble_eq_true rfl⟩ (ci := 5) (q0 := 0) rfl rfl rfl hl.1 rfl (Nat.le_of_ble_eq_true rfl) dX5_isKern_20 ⟨Nat.zero_le _, Nat.zero_le _⟩ hP hD hS hA (fun H locs hP hD hS => ?_)
  refine lv_if_ne (pc := 23) (tgt := 29) hx hb dX5_isKern_23 (by decide) (fun c4 => ?_) (fun c4 => ?_)
  · replace hf := im c4 hf
    refine lv_aload_n (pc := 29) hx hb dX5_isKern_29 rfl (lv_at hl 0 rfl) ?_
    obtain ⟨x5, ex5, hf⟩ := bd_some hf
    refine ct_V1 (pc := 30) (As := []) (rest := []) (W1 := bX5 cI cZ a q x3.2) ⟨hx, hb, hml, hown, hts⟩ hK (c_X5_goesOut l D cI cZ cS a q x3.2 x5 ex5) gv_RX5_205 rfl hs_X5_goesOut rfl ⟨Nat.le_of_ble_eq_true rfl, Nat.le_of_ble_eq_true rfl⟩ (ci := 5) (q0 := 0) rfl rfl rfl hl.1 rfl (Nat.le_of_ble_eq_true rfl) dX5_isKern_30 ⟨Nat.zero_le _, Nat.zero_le _⟩ hP hD hS hA (fun H locs hP hD hS => ?_)
    refine lv_bipush (v := -9) (pc := 33) hx hb dX5_isKern_33 (by decide) ?_
    refine lv_icmp_ne (pc := 35) (tgt := 42) hx hb dX5_isKern_35 (by decide) (fun c6 => ?_) (fun c6 => ?_)
    · replace hf := im c6 hf
      refine lv_iconst (v := 0) (pc := 42) hx hb dX5_isKern_42 (by decide) ?_
      obtain rfl := Option.some.inj hf
      exact W.iret hx hb hr (fun t ht hW => ⟨rfl, by rw [ht]; exact hP, hD, hS.F ht⟩) hS.2.2 dX5_isKern_43
    · replace hf := ip c6 hf
      refine lv_iconst (v := 1) (pc := 38) hx hb dX5_isKern_38 (by decide) ?_
      refine lv_goto (pc := 39) (tgt := 43) hx hb dX5_isKern_39 (by decide) ?_
      obtain rfl := Option.some.inj hf
      exact W.iret hx hb hr (fun t ht hW => ⟨rfl, by rw [ht]; exact hP, hD, hS.F ht⟩) hS.2.2 dX5_isKern_43
  · replace hf := ip c4 hf
    refine lv_bipush (v := -9) (pc := 26) hx hb dX5_isKern_26 (by decide) ?_
    obtain rfl := Option.some.inj hf
    exact W.iret hx hb hr (fun t ht hW => ⟨rfl, by rw [ht]; exact hP, hD, hS.F ht⟩) hS.2.2 dX5_isKern_28
def f_X5_kern (i0 : Int32) (i1 : Int32) (om : OS) : Option (Int32 × OS) := Option.bind (f_X5_isPlace i0 i1) fun x1 => if x1 = 0 then some ((-1), om) else Option.bind (f_X5_laysPiles om) fun x3 => Option.bind (f_X5_isKern i0 i1 x3) fun x4 => some (x4.1, x4.2)
set_option maxHeartbeats 4000000 in
set_option maxRecDepth 100000 in
theorem c_X5_kern (l : Launch) (D : va_G) (cI cZ cS : ClassId) (a : Nat) (q : Nat → Nat) (i0 : Int32) (i1 : Int32) (om : OS) (x : (Int32 × OS)) (hf : f_X5_kern i0 i1 om = some x) : Ct l yX5_kern cX5_kern 3 (some .int) 4 93 D cI cZ cS [.ref a, .int i0, .int i1] (bX5 cI cZ a q om) (some (.int x.1)) (bX5 cI cZ a q x.2) := by
  intro sz
  refine Met.ofW (cc := cX5_kern) (maxL := 3) (ret := (some .int)) (by decide +kernel) rfl ?_
  intro p e s m args below meth c s₁ B hml hv
  obtain ⟨rfl, hsz, hP, hK, hD0⟩ := hv
  have hx := B.exec
  have hb := B.bytes
  have hr := B.returns
  have hts0 := atoms_spec (ws := .code yX5_kern cX5_kern 3 (some .int) :: TB) B.pre
  have hts := fun w (h : w ∈ TB) => hts0 w (List.mem_cons_of_mem _ h)
  have hown : s.vm.findClass RX5 = some m.cls := findClass_of_methodNamed B.named
  have hlocks := B.notSynchronized
  subst hsz
  have hD := hD0.self (sz := s.heap.size)
  generalize hAe : va_A (bX5 cI cZ a q om) s.heap.size = A at hD ⊢
  have hA : ∀ q : Nat, s.heap.size ≤ q → A q := fun q h => by rw [← hAe]; exact Or.inr h
  have hS : va_S A s.heap s.heap [] := va_S.rf
  obtain ⟨H, hH⟩ : ∃ H, H = s.heap := ⟨_, rfl⟩
  rw [← hH] at hP
  have hS : va_S A s.heap H [] := by rw [hH]; exact hS
  have hl := lv_entry ([.ref a, .int i0, .int i1]) (n := 3) (Nat.le_of_ble_eq_true rfl)
  rw [lg_entry_eq]
  generalize (lg_sl ([.ref a, .int i0, .int i1]) ++ List.replicate (3 - (lg_sl ([.ref a, .int i0, .int i1])).length) Slot.unset).toArray = ls at hl ⊢
  have hl : lv_has ls 3 [(0, .ref a), (1, .int i0), (2, .int i1)] := hl
  refine W_heap hH ?_
  obtain ⟨locs, hlo⟩ : ∃ locs : List Loc, locs = [] := ⟨_, rfl⟩
  rw [← hlo] at hS ⊢
  unfold f_X5_kern at hf
  refine lv_iload_n (pc := 0) hx hb dX5_kern_0 rfl (lv_at hl 1 rfl) ?_
  refine lv_iload_n (pc := 1) hx hb dX5_kern_1 rfl (lv_at hl 2 rfl) ?_
  obtain ⟨x1, ex1, hf⟩ := bd_some hf
  refine ct_S0 (pc := 2) (As := [.int i0, .int i1]) (rest := []) ⟨hx, hb, hml, hown, hts⟩ hK (c_X5_isPlace l D cI cZ cS i0 i1 x1 ex1) gs_RX5_121 hs_X5_isPlace rfl ⟨Nat.le_of_ble_eq_true rfl, Nat.le_of_ble_eq_true rfl⟩ hl.1 rfl (Nat.le_of_ble_eq_true rfl) dX5_kern_2 ⟨Nat.zero_le _, Nat.zero_le _⟩ hP hS hA (fun H locs hP hS => ?_)
  refine lv_if_ne (pc := 5) (tgt := 10) hx hb dX5_kern_5 (by decide) (fun c2 => ?_) (fun c2 => ?_)
  · replace hf := im c2 hf
    refine lv_aload_n (pc := 10) hx hb dX5_kern_10 rfl (lv_at hl 0 rfl) ?_
    obtain ⟨x3, ex3, hf⟩ := bd_some hf
    refine ct_V1 (pc := 11) (As := []) (rest := []) (W1 := bX5 cI cZ a q x3) ⟨hx, hb, hml, hown, hts⟩ hK (c_X5_laysPiles l D cI cZ cS a q om x3 ex3) gv_RX5_211 rfl hs_X5_laysPiles rfl ⟨Nat.le_of_ble_eq_true rfl, Nat.le_of_ble_eq_true rfl⟩ (ci := 5) (q0 := 0) rfl rfl rfl hl.1 rfl (Nat.le_of_ble_eq_true rfl) dX5_kern_11 ⟨Nat.zero_le _, Nat.zero_le _⟩ hP hD hS hA (fun H locs hP hD hS => ?_)
    refine lv_aload_n (pc := 14) hx hb dX5_kern_14 rfl (lv_at hl 0 rfl) ?_
    refine lv_iload_n (pc := 15) hx hb dX5_kern_15 rfl (lv_at hl 1 rfl) ?_
    refine lv_iload_n (pc := 16) hx hb dX5_kern_16 rfl (lv_at hl 2 rfl) ?_
    obtain ⟨x4, ex4, hf⟩ := bd_some hf
    refine ct_V1 (pc := 17) (As := [.int i0, .int i1]) (rest := []) (W1 := bX5 cI cZ a q x4.2) ⟨hx, hb, hml, hown, hts⟩ hK (c_X5_isKern l D cI cZ cS a q i0 i1 x3 x4 ex4) gv_RX5_258 rfl hs_X5_isKern rfl ⟨Nat.le_of_ble_eq_true rfl, Nat.le_of_ble_eq_true rfl⟩ (ci := 5) (q0 := 0) rfl rfl rfl hl.1 rfl (Nat.le_of_ble_eq_true rfl) dX5_kern_17 ⟨Nat.zero_le _, Nat.zero_le _⟩ hP hD hS hA (fun H locs hP hD hS => ?_)
    obtain rfl := Option.some.inj hf
    exact W.iret hx hb hr (fun t ht hW => ⟨rfl, by rw [ht]; exact hP, hD, hS.F ht⟩) hS.2.2 dX5_kern_20
  · replace hf := ip c2 hf
    refine lv_iconst (v := -1) (pc := 8) hx hb dX5_kern_8 (by decide) ?_
    obtain rfl := Option.some.inj hf
    exact W.iret hx hb hr (fun t ht hW => ⟨rfl, by rw [ht]; exact hP, hD, hS.F ht⟩) hS.2.2 dX5_kern_9
def lp_X5_kerns_23 : Nat → Int32 → Int32 → Int32 → OS → Option ((Int32 × OS) ⊕ (Int32 × Int32 × Int32 × OS))
  | 0, _, _, _, _ => none
  | n + 1, v2, v3, v4, w_M => if 361 ≤ v4 then some (.inr (v2, v3, v4, w_M)) else Option.bind (f_X5_isKern ((v4 / 19) - 9) ((v4 - v4 / 19 * 19) - 9) w_M) fun x10 => if x10.1 = (-9) then some (.inl ((-9), x10.2)) else if x10.1 = 1 then if v3 = (-9) then lp_X5_kerns_23 n (v2 + x10.1) v4 (v4 + 1) x10.2 else lp_X5_kerns_23 n (v2 + x10.1) v3 (v4 + 1) x10.2 else lp_X5_kerns_23 n (v2 + x10.1) v3 (v4 + 1) x10.2
def f_X5_kerns (i0 : Int32) (om : OS) : Option (Int32 × OS) := Option.bind (f_X5_in i0 0 1) fun x1 => if x1 = 0 then some ((-1), om) else Option.bind (f_X5_laysPiles om) fun x3 => Option.bind (lp_X5_kerns_23 1000 0 (-9) 0 x3) (Sum.elim (fun r => some r) (fun z7 => if i0 = 0 then some (z7.1, z7.2.2.2) else some (z7.2.1, z7.2.2.2)))
set_option maxHeartbeats 4000000 in
set_option maxRecDepth 100000 in
theorem c_X5_kerns (l : Launch) (D : va_G) (cI cZ cS : ClassId) (a : Nat) (q : Nat → Nat) (i0 : Int32) (om : OS) (x : (Int32 × OS)) (hf : f_X5_kerns i0 om = some x) : Ct l yX5_kerns cX5_kerns 6 (some .int) 4 93 D cI cZ cS [.ref a, .int i0] (bX5 cI cZ a q om) (some (.int x.1)) (bX5 cI cZ a q x.2) := by
  intro sz
  refine Met.ofW (cc := cX5_kerns) (maxL := 6) (ret := (some .int)) (by decide +kernel) rfl ?_
  intro p e s m args below meth c s₁ B hml hv
  obtain ⟨rfl, hsz, hP, hK, hD0⟩ := hv
  have hx := B.exec
  have hb := B.bytes
  have hr := B.returns
  have hts0 := atoms_spec (ws := .code yX5_kerns cX5_kerns 6 (some .int) :: TB) B.pre
  have hts := fun w (h : w ∈ TB) => hts0 w (List.mem_cons_of_mem _ h)
  have hown : s.vm.findClass RX5 = some m.cls := findClass_of_methodNamed B.named
  have hlocks := B.notSynchronized
  subst hsz
  have hD := hD0.self (sz := s.heap.size)
  generalize hAe : va_A (bX5 cI cZ a q om) s.heap.size = A at hD ⊢
  have hA : ∀ q : Nat, s.heap.size ≤ q → A q := fun q h => by rw [← hAe]; exact Or.inr h
  have hS : va_S A s.heap s.heap [] := va_S.rf
  obtain ⟨H, hH⟩ : ∃ H, H = s.heap := ⟨_, rfl⟩
  rw [← hH] at hP
  have hS : va_S A s.heap H [] := by rw [hH]; exact hS
  have hl := lv_entry ([.ref a, .int i0]) (n := 6) (Nat.le_of_ble_eq_true rfl)
  rw [lg_entry_eq]
  generalize (lg_sl ([.ref a, .int i0]) ++ List.replicate (6 - (lg_sl ([.ref a, .int i0])).length) Slot.unset).toArray = ls at hl ⊢
  have hl : lv_has ls 6 [(0, .ref a), (1, .int i0)] := hl
  refine W_heap hH ?_
  obtain ⟨locs, hlo⟩ : ∃ locs : List Loc, locs = [] := ⟨_, rfl⟩
  rw [← hlo] at hS ⊢
  unfold f_X5_kerns at hf
  refine lv_iload_n (pc := 0) hx hb dX5_kerns_0 rfl (lv_at hl 1 rfl) ?_
  refine lv_iconst (v := 0) (pc := 1) hx hb dX5_kerns_1 (by decide) ?_
  refine lv_iconst (v := 1) (pc := 2) hx hb dX5_kerns_2 (by decide) ?_
  obtain ⟨x1, ex1, hf⟩ := bd_some hf
  refine ct_S0 (pc := 3) (As := [.int i0, .int 0, .int 1]) (rest := []) ⟨hx, hb, hml, hown, hts⟩ hK (c_X5_in l D cI cZ cS i0 0 1 x1 ex1) gs_RX5_57 hs_X5_in rfl ⟨Nat.le_of_ble_eq_true rfl, Nat.le_of_ble_eq_true rfl⟩ hl.1 rfl (Nat.le_of_ble_eq_true rfl) dX5_kerns_3 ⟨Nat.zero_le _, Nat.zero_le _⟩ hP hS hA (fun H locs hP hS => ?_)
  refine lv_if_ne (pc := 6) (tgt := 11) hx hb dX5_kerns_6 (by decide) (fun c2 => ?_) (fun c2 => ?_)
  · replace hf := im c2 hf
    refine lv_aload_n (pc := 11) hx hb dX5_kerns_11 rfl (lv_at hl 0 rfl) ?_
    obtain ⟨x3, ex3, hf⟩ := bd_some hf
    refine ct_V1 (pc := 12) (As := []) (rest := []) (W1 := bX5 cI cZ a q x3) ⟨hx, hb, hml, hown, hts⟩ hK (c_X5_laysPiles l D cI cZ cS a q om x3 ex3) gv_RX5_211 rfl hs_X5_laysPiles rfl ⟨Nat.le_of_ble_eq_true rfl, Nat.le_of_ble_eq_true rfl⟩ (ci := 5) (q0 := 0) rfl rfl rfl hl.1 rfl (Nat.le_of_ble_eq_true rfl) dX5_kerns_12 ⟨Nat.zero_le _, Nat.zero_le _⟩ hP hD hS hA (fun H locs hP hD hS => ?_)
    refine lv_iconst (v := 0) (pc := 15) hx hb dX5_kerns_15 (by decide) ?_
    refine lv_istore_n (lv' := [(2, .int 0), (0, .ref a), (1, .int i0)]) (pc := 16) hx hb dX5_kerns_16 rfl hl (by decide) rfl (fun ls hl => ?_)
    refine lv_bipush (v := -9) (pc := 17) hx hb dX5_kerns_17 (by decide) ?_
    refine lv_istore_n (lv' := [(3, .int (-9)), (2, .int 0), (0, .ref a), (1, .int i0)]) (pc := 19) hx hb dX5_kerns_19 rfl hl (by decide) rfl (fun ls hl => ?_)
    refine lv_iconst (v := 0) (pc := 20) hx hb dX5_kerns_20 (by decide) ?_
    refine lv_istore (lv' := [(4, .int 0), (3, .int (-9)), (2, .int 0), (0, .ref a), (1, .int i0)]) (pc := 21) hx hb dX5_kerns_21 hl (by decide) rfl (fun ls hl => ?_)
    obtain ⟨z4, hz4, hf⟩ := bd_some hf
    have hfz4 := hf
    clear hf
    have K5 : ∀ z7, z4 = .inr z7 → ∀ (H : Heap) (locs : List Loc) (ls : Array Slot), va_P D vwCl (bX5 cI cZ a q z7.2.2.2) H → va_D A (bX5 cI cZ a q z7.2.2.2) → va_S A s.heap H locs → lv_has ls 6 [(0, .ref a), (1, .int i0), (2, .int z7.1), (3, .int z7.2.1), (4, .int z7.2.2.1)] → GW l yX5_kerns cX5_kerns 6 (some .int) 4 93 D [.ref a, .int i0] (some (.int x.1)) (bX5 cI cZ a q x.2) A p e s m below meth c H locs (F0 m 93 ls []) := by
      intro z7 hy H locs ls hP hD hS hl
      subst hy
      replace hf := sum_r hfz4
      refine lv_iload_n (pc := 93) hx hb dX5_kerns_93 rfl (lv_at hl 1 rfl) ?_
      refine lv_if_ne (pc := 94) (tgt := 101) hx hb dX5_kerns_94 (by decide) (fun c8 => ?_) (fun c8 => ?_)
      · replace hf := im c8 hf
        refine lv_iload_n (pc := 101) hx hb dX5_kerns_101 rfl (lv_at hl 3 rfl) ?_
        obtain rfl := Option.some.inj hf
        exact W.iret hx hb hr (fun t ht hW => ⟨rfl, by rw [ht]; exact hP, hD, hS.F ht⟩) hS.2.2 dX5_kerns_102
      · replace hf := ip c8 hf
        refine lv_iload_n (pc := 97) hx hb dX5_kerns_97 rfl (lv_at hl 2 rfl) ?_
        refine lv_goto (pc := 98) (tgt := 102) hx hb dX5_kerns_98 (by decide) ?_
        obtain rfl := Option.some.inj hf
        exact W.iret hx hb hr (fun t ht hW => ⟨rfl, by rw [ht]; exact hP, hD, hS.F ht⟩) hS.2.2 dX5_kerns_102
    have KL6 : ∀ (n : Nat) (v2 : Int32) (v3 : Int32) (v4 : Int32) (w_M : OS) (H : Heap) (locs : List Loc) (ls : Array Slot), lp_X5_kerns_23 n v2 v3 v4 w_M = some z4 → va_P D vwCl (bX5 cI cZ a q w_M) H → va_D A (bX5 cI cZ a q w_M) → va_S A s.heap H locs → lv_has ls 6 [(0, .ref a), (1, .int i0), (2, .int v2), (3, .int v3), (4, .int v4)] → GW l yX5_kerns cX5_kerns 6 (some .int) 4 93 D [.ref a, .int i0] (some (.int x.1)) (bX5 cI cZ a q x.2) A p e s m below meth c H locs (F0 m 23 ls []) := by
      intro n
      induction n with
      | zero => intro v2 v3 v4 w_M H locs ls hf; cases hf
      | succ n ih =>
        intro v2 v3 v4 w_M H locs ls hf hP hD hS hl
        rw [lp_X5_kerns_23] at hf
        refine lv_iload (pc := 23) hx hb dX5_kerns_23 (lv_at hl 4 rfl) ?_
        refine lv_sipush (v := 361) (pc := 25) hx hb dX5_kerns_25 (by decide) ?_
        refine lv_icmp_ge (pc := 28) (tgt := 93) hx hb dX5_kerns_28 (by decide) (fun c9 => ?_) (fun c9 => ?_)
        · replace hf := ip c9 hf
          obtain rfl := Option.some.inj hf
          exact K5 _ rfl H locs ls hP hD hS (lv_sub hl [0, 1, 2, 3, 4] rfl)
        · replace hf := im c9 hf
          refine lv_aload_n (pc := 31) hx hb dX5_kerns_31 rfl (lv_at hl 0 rfl) ?_
          refine lv_iload (pc := 32) hx hb dX5_kerns_32 (lv_at hl 4 rfl) ?_
          refine lv_bipush (v := 19) (pc := 34) hx hb dX5_kerns_34 (by decide) ?_
          refine lv_idiv (pc := 36) hx hb dX5_kerns_36 (by decide) ?_
          refine lv_bipush (v := 9) (pc := 37) hx hb dX5_kerns_37 (by decide) ?_
          refine lv_isub (pc := 39) hx hb dX5_kerns_39 ?_
          refine lv_iload (pc := 40) hx hb dX5_kerns_40 (lv_at hl 4 rfl) ?_
          refine lv_bipush (v := 19) (pc := 42) hx hb dX5_kerns_42 (by decide) ?_
          refine lv_irem (pc := 44) hx hb dX5_kerns_44 (by decide) ?_
          refine lv_bipush (v := 9) (pc := 45) hx hb dX5_kerns_45 (by decide) ?_
          refine lv_isub (pc := 47) hx hb dX5_kerns_47 ?_
          obtain ⟨x10, ex10, hf⟩ := bd_some hf
          refine ct_V1 (pc := 48) (As := [.int ((v4 / 19) - 9), .int ((v4 - v4 / 19 * 19) - 9)]) (rest := []) (W1 := bX5 cI cZ a q x10.2) ⟨hx, hb, hml, hown, hts⟩ hK (c_X5_isKern l D cI cZ cS a q ((v4 / 19) - 9) ((v4 - v4 / 19 * 19) - 9) w_M x10 ex10) gv_RX5_258 rfl hs_X5_isKern rfl ⟨Nat.le_of_ble_eq_true rfl, Nat.le_of_ble_eq_true rfl⟩ (ci := 5) (q0 := 0) rfl rfl rfl hl.1 rfl (Nat.le_of_ble_eq_true rfl) dX5_kerns_48 ⟨Nat.zero_le _, Nat.zero_le _⟩ hP hD hS hA (fun H locs hP hD hS => ?_)
          refine lv_istore (lv' := [(5, .int x10.1), (0, .ref a), (1, .int i0), (2, .int v2), (3, .int v3), (4, .int v4)]) (pc := 51) hx hb dX5_kerns_51 hl (by decide) rfl (fun ls hl => ?_)
          refine lv_iload (pc := 53) hx hb dX5_kerns_53 (lv_at hl 0 rfl) ?_
          refine lv_bipush (v := -9) (pc := 55) hx hb dX5_kerns_55 (by decide) ?_
          refine lv_icmp_ne (pc := 57) (tgt := 63) hx hb dX5_kerns_57 (by decide) (fun c11 => ?_) (fun c11 => ?_)
          · replace hf := im c11 hf
            refine lv_iload_n (pc := 63) hx hb dX5_kerns_63 rfl (lv_at hl 3 rfl) ?_
            refine lv_iload (pc := 64) hx hb dX5_kerns_64 (lv_at hl 0 rfl) ?_
            refine lv_iadd (pc := 66) hx hb dX5_kerns_66 ?_
            refine lv_istore_n (lv' := [(2, .int (v2 + x10.1)), (5, .int x10.1), (0, .ref a), (1, .int i0), (3, .int v3), (4, .int v4)]) (pc := 67) hx hb dX5_kerns_67 rfl hl (by decide) rfl (fun ls hl => ?_)
            refine lv_iload (pc := 68) hx hb dX5_kerns_68 (lv_at hl 1 rfl) ?_
            refine lv_iconst (v := 1) (pc := 70) hx hb dX5_kerns_70 (by decide) ?_
            refine lv_icmp_ne (pc := 71) (tgt := 85) hx hb dX5_kerns_71 (by decide) (fun c12 => ?_) (fun c12 => ?_)
            · replace hf := im c12 hf
              refine lv_iload_n (pc := 85) hx hb dX5_kerns_85 rfl (lv_at hl 4 rfl) ?_
              refine lv_istore_n (lv' := [(3, .int v3), (2, .int (v2 + x10.1)), (5, .int x10.1), (0, .ref a), (1, .int i0), (4, .int v4)]) (pc := 86) hx hb dX5_kerns_86 rfl hl (by decide) rfl (fun ls hl => ?_)
              refine lv_iinc (v := (v4 + 1)) (lv' := [(4, .int (v4 + 1)), (3, .int v3), (2, .int (v2 + x10.1)), (5, .int x10.1), (0, .ref a), (1, .int i0)]) (pc := 87) hx hb dX5_kerns_87 hl (k := 5) rfl rfl (by decide) rfl (fun ls hl => ?_)
              refine lv_goto (pc := 90) (tgt := 23) hx hb dX5_kerns_90 (by decide) ?_
              exact ih _ _ _ _ H locs ls hf hP hD hS (lv_sub hl [4, 5, 2, 1, 0] rfl)
            · replace hf := ip c12 hf
              refine lv_iload_n (pc := 74) hx hb dX5_kerns_74 rfl (lv_at hl 4 rfl) ?_
              refine lv_bipush (v := -9) (pc := 75) hx hb dX5_kerns_75 (by decide) ?_
              refine lv_icmp_ne (pc := 77) (tgt := 85) hx hb dX5_kerns_77 (by decide) (fun c13 => ?_) (fun c13 => ?_)
              · replace hf := im c13 hf
                refine lv_iload_n (pc := 85) hx hb dX5_kerns_85 rfl (lv_at hl 4 rfl) ?_
                refine lv_istore_n (lv' := [(3, .int v3), (2, .int (v2 + x10.1)), (5, .int x10.1), (0, .ref a), (1, .int i0), (4, .int v4)]) (pc := 86) hx hb dX5_kerns_86 rfl hl (by decide) rfl (fun ls hl => ?_)
                refine lv_iinc (v := (v4 + 1)) (lv' := [(4, .int (v4 + 1)), (3, .int v3), (2, .int (v2 + x10.1)), (5, .int x10.1), (0, .ref a), (1, .int i0)]) (pc := 87) hx hb dX5_kerns_87 hl (k := 5) rfl rfl (by decide) rfl (fun ls hl => ?_)
                refine lv_goto (pc := 90) (tgt := 23) hx hb dX5_kerns_90 (by decide) ?_
                exact ih _ _ _ _ H locs ls hf hP hD hS (lv_sub hl [4, 5, 2, 1, 0] rfl)
              · replace hf := ip c13 hf
                refine lv_iload (pc := 80) hx hb dX5_kerns_80 (lv_at hl 5 rfl) ?_
                refine lv_goto (pc := 82) (tgt := 86) hx hb dX5_kerns_82 (by decide) ?_
                refine lv_istore_n (lv' := [(3, .int v4), (2, .int (v2 + x10.1)), (5, .int x10.1), (0, .ref a), (1, .int i0), (4, .int v4)]) (pc := 86) hx hb dX5_kerns_86 rfl hl (by decide) rfl (fun ls hl => ?_)
                refine lv_iinc (v := (v4 + 1)) (lv' := [(4, .int (v4 + 1)), (3, .int v4), (2, .int (v2 + x10.1)), (5, .int x10.1), (0, .ref a), (1, .int i0)]) (pc := 87) hx hb dX5_kerns_87 hl (k := 5) rfl rfl (by decide) rfl (fun ls hl => ?_)
                refine lv_goto (pc := 90) (tgt := 23) hx hb dX5_kerns_90 (by decide) ?_
                exact ih _ _ _ _ H locs ls hf hP hD hS (lv_sub hl [4, 5, 2, 1, 0] rfl)
          · replace hf := ip c11 hf
            refine lv_bipush (v := -9) (pc := 60) hx hb dX5_kerns_60 (by decide) ?_
            obtain rfl := Option.some.inj hf
            replace hfz4 := sum_l hfz4
            obtain rfl := Option.some.inj hfz4
            exact W.iret hx hb hr (fun t ht hW => ⟨rfl, by rw [ht]; exact hP, hD, hS.F ht⟩) hS.2.2 dX5_kerns_62
    exact KL6 1000 _ _ _ _ H locs ls hz4 hP hD hS (lv_sub hl [3, 4, 2, 1, 0] rfl)
  · replace hf := ip c2 hf
    refine lv_iconst (v := -1) (pc := 9) hx hb dX5_kerns_9 (by decide) ?_
    obtain rfl := Option.some.inj hf
    exact W.iret hx hb hr (fun t ht hW => ⟨rfl, by rw [ht]; exact hP, hD, hS.F ht⟩) hS.2.2 dX5_kerns_10
def f_X5_laysWithout (i0 : Int32) (om : OS) : Option (Int32 × OS) := Option.bind (f_X5_laysPiles om) fun x1 => Option.bind (f_X5_laysSums x1) fun x2 => lt (sI x2 22 ((x2.1 22) &&& ((1 <<< (i0 &&& 31)) ^^^ (-1)))) fun o3 => Option.bind (f_X5_shares o3) fun x4 => Option.bind (f_X5_laysMost x4) fun x5 => bz x5.1 (some (x5.1, x5.2))
set_option maxHeartbeats 4000000 in
set_option maxRecDepth 100000 in
theorem c_X5_laysWithout (l : Launch) (D : va_G) (cI cZ cS : ClassId) (a : Nat) (q : Nat → Nat) (i0 : Int32) (om : OS) (x : (Int32 × OS)) (hf : f_X5_laysWithout i0 om = some x) : Ct l yX5_laysWithout cX5_laysWithout 2 (some .boolean) 4 93 D cI cZ cS [.ref a, .int i0] (bX5 cI cZ a q om) (some (.int x.1)) (bX5 cI cZ a q x.2) := by
  intro sz
  refine Met.ofW (cc := cX5_laysWithout) (maxL := 2) (ret := (some .boolean)) (by decide +kernel) rfl ?_
  intro p e s m args below meth c s₁ B hml hv
  obtain ⟨rfl, hsz, hP, hK, hD0⟩ := hv
  have hx := B.exec
  have hb := B.bytes
  have hr := B.returns
  have hts0 := atoms_spec (ws := .code yX5_laysWithout cX5_laysWithout 2 (some .boolean) :: TB) B.pre
  have hts := fun w (h : w ∈ TB) => hts0 w (List.mem_cons_of_mem _ h)
  have hown : s.vm.findClass RX5 = some m.cls := findClass_of_methodNamed B.named
  have hlocks := B.notSynchronized
  subst hsz
  have hD := hD0.self (sz := s.heap.size)
  generalize hAe : va_A (bX5 cI cZ a q om) s.heap.size = A at hD ⊢
  have hA : ∀ q : Nat, s.heap.size ≤ q → A q := fun q h => by rw [← hAe]; exact Or.inr h
  have hS : va_S A s.heap s.heap [] := va_S.rf
  obtain ⟨H, hH⟩ : ∃ H, H = s.heap := ⟨_, rfl⟩
  rw [← hH] at hP
  have hS : va_S A s.heap H [] := by rw [hH]; exact hS
  have hl := lv_entry ([.ref a, .int i0]) (n := 2) (Nat.le_of_ble_eq_true rfl)
  rw [lg_entry_eq]
  generalize (lg_sl ([.ref a, .int i0]) ++ List.replicate (2 - (lg_sl ([.ref a, .int i0])).length) Slot.unset).toArray = ls at hl ⊢
  have hl : lv_has ls 2 [(0, .ref a), (1, .int i0)] := hl
  refine W_heap hH ?_
  obtain ⟨locs, hlo⟩ : ∃ locs : List Loc, locs = [] := ⟨_, rfl⟩
  rw [← hlo] at hS ⊢
  unfold f_X5_laysWithout at hf
  refine lv_aload_n (pc := 0) hx hb dX5_laysWithout_0 rfl (lv_at hl 0 rfl) ?_
  obtain ⟨x1, ex1, hf⟩ := bd_some hf
  refine ct_V1 (pc := 1) (As := []) (rest := []) (W1 := bX5 cI cZ a q x1) ⟨hx, hb, hml, hown, hts⟩ hK (c_X5_laysPiles l D cI cZ cS a q om x1 ex1) gv_RX5_211 rfl hs_X5_laysPiles rfl ⟨Nat.le_of_ble_eq_true rfl, Nat.le_of_ble_eq_true rfl⟩ (ci := 5) (q0 := 0) rfl rfl rfl hl.1 rfl (Nat.le_of_ble_eq_true rfl) dX5_laysWithout_1 ⟨Nat.zero_le _, Nat.zero_le _⟩ hP hD hS hA (fun H locs hP hD hS => ?_)
  refine lv_aload_n (pc := 4) hx hb dX5_laysWithout_4 rfl (lv_at hl 0 rfl) ?_
  obtain ⟨x2, ex2, hf⟩ := bd_some hf
  refine ct_V1 (pc := 5) (As := []) (rest := []) (W1 := bX5 cI cZ a q x2) ⟨hx, hb, hml, hown, hts⟩ hK (c_X5_laysSums l D cI cZ cS a q x1 x2 ex2) gv_RX5_214 rfl hs_X5_laysSums rfl ⟨Nat.le_of_ble_eq_true rfl, Nat.le_of_ble_eq_true rfl⟩ (ci := 5) (q0 := 0) rfl rfl rfl hl.1 rfl (Nat.le_of_ble_eq_true rfl) dX5_laysWithout_5 ⟨Nat.zero_le _, Nat.zero_le _⟩ hP hD hS hA (fun H locs hP hD hS => ?_)
  refine lv_aload_n (pc := 8) hx hb dX5_laysWithout_8 rfl (lv_at hl 0 rfl) ?_
  refine lv_dup (pc := 9) hx hb dX5_laysWithout_9 rfl ?_
  refine va_get (pc := 10) (D := D) (ci := 5) (v := .int (x2.1 22)) (C := RX5) (T := TX5) (N := 41) hx hb hts iX5 hown hK.1 hP 0 rfl rfl 22 (by decide) (hts _ fl_RX5_153) (fun _ h => h) rfl dX5_laysWithout_10 ?_
  refine lv_iconst (v := 1) (pc := 13) hx hb dX5_laysWithout_13 (by decide) ?_
  refine lv_iload_n (pc := 14) hx hb dX5_laysWithout_14 rfl (lv_at hl 1 rfl) ?_
  refine lv_ishl (pc := 15) hx hb dX5_laysWithout_15 ?_
  refine lv_iconst (v := -1) (pc := 16) hx hb dX5_laysWithout_16 (by decide) ?_
  refine lv_ixor (pc := 17) hx hb dX5_laysWithout_17 ?_
  refine lv_iand (pc := 18) hx hb dX5_laysWithout_18 ?_
  obtain ⟨o3, eo3, hf⟩ := lt_some hf
  refine va_put (pc := 19) (D := D) (ci := 5) (v := .int ((x2.1 22) &&& ((1 <<< (i0 &&& 31)) ^^^ (-1)))) (ty := .int) (C := RX5) (T := TX5) (N := 41) hx hb hts iX5 tyX5 tyX5_ok nmX5 hown hK.1 hP hD hS 0 rfl rfl 22 (by decide) (hts _ fl_RX5_153) (fun _ h => h) rfl (tyX5_ok 22 (by decide)) rfl rfl (Nat.le_of_ble_eq_true rfl) dX5_laysWithout_19 (fun H locs hP hD hS => ?_)
  replace hP : va_P D vwCl (bX5 cI cZ a q o3) H := by rw [eo3]; exact hP
  replace hD : va_D A (bX5 cI cZ a q o3) := by rw [eo3]; exact hD
  refine lv_aload_n (pc := 22) hx hb dX5_laysWithout_22 rfl (lv_at hl 0 rfl) ?_
  obtain ⟨x4, ex4, hf⟩ := bd_some hf
  refine ct_V1 (pc := 23) (As := []) (rest := []) (W1 := bX5 cI cZ a q x4) ⟨hx, hb, hml, hown, hts⟩ hK (c_X5_shares l D cI cZ cS a q o3 x4 ex4) gv_RX5_217 rfl hs_X5_shares rfl ⟨Nat.le_of_ble_eq_true rfl, Nat.le_of_ble_eq_true rfl⟩ (ci := 5) (q0 := 0) rfl rfl rfl hl.1 rfl (Nat.le_of_ble_eq_true rfl) dX5_laysWithout_23 ⟨Nat.zero_le _, Nat.zero_le _⟩ hP hD hS hA (fun H locs hP hD hS => ?_)
  refine lv_aload_n (pc := 26) hx hb dX5_laysWithout_26 rfl (lv_at hl 0 rfl) ?_
  obtain ⟨x5, ex5, hf⟩ := bd_some hf
  refine ct_V1 (pc := 27) (As := []) (rest := []) (W1 := bX5 cI cZ a q x5.2) ⟨hx, hb, hml, hown, hts⟩ hK (c_X5_laysMost l D cI cZ cS a q x4 x5 ex5) gv_RX5_248 rfl hs_X5_laysMost rfl ⟨Nat.le_of_ble_eq_true rfl, Nat.le_of_ble_eq_true rfl⟩ (ci := 5) (q0 := 0) rfl rfl rfl hl.1 rfl (Nat.le_of_ble_eq_true rfl) dX5_laysWithout_27 ⟨Nat.zero_le _, Nat.zero_le _⟩ hP hD hS hA (fun H locs hP hD hS => ?_)
  obtain ⟨h6, hf⟩ := bz_some hf
  obtain rfl := Option.some.inj hf
  exact W.zret hx hb hr h6 (fun t ht hW => ⟨rfl, by rw [ht]; exact hP, hD, hS.F ht⟩) hS.2.2 dX5_laysWithout_30
def f_X5_without (i0 : Int32) (i1 : Int32) (om : OS) : Option (Int64 × OS) := Option.bind (f_X5_isPile i0 om) fun x1 => if x1 = 0 then some ((-1), om) else Option.bind (f_X5_in i1 0 2) fun x3 => if x3 = 0 then some ((-1), om) else Option.bind (f_X5_ofPile i0 4 om) fun x5 => if x5 = 1 then some ((-2), om) else Option.bind (f_X5_laysWithout i0 om) fun x7 => if x7.1 = 0 then some ((-9), x7.2) else Option.bind (f_X5_tellsMost i1 x7.2) fun x9 => some (x9, x7.2)
set_option maxHeartbeats 4000000 in
set_option maxRecDepth 100000 in
theorem c_X5_without (l : Launch) (D : va_G) (cI cZ cS : ClassId) (a : Nat) (q : Nat → Nat) (i0 : Int32) (i1 : Int32) (om : OS) (x : (Int64 × OS)) (hf : f_X5_without i0 i1 om = some x) : Ct l yX5_without cX5_without 3 (some .long) 5 114 D cI cZ cS [.ref a, .int i0, .int i1] (bX5 cI cZ a q om) (some (.long x.1)) (bX5 cI cZ a q x.2) := by
  intro sz
  refine Met.ofW (cc := cX5_without) (maxL := 3) (ret := (some .long)) (by decide +kernel) rfl ?_
  intro p e s m args below meth c s₁ B hml hv
  obtain ⟨rfl, hsz, hP, hK, hD0⟩ := hv
  have hx := B.exec
  have hb := B.bytes
  have hr := B.returns
  have hts0 := atoms_spec (ws := .code yX5_without cX5_without 3 (some .long) :: TB) B.pre
  have hts := fun w (h : w ∈ TB) => hts0 w (List.mem_cons_of_mem _ h)
  have hown : s.vm.findClass RX5 = some m.cls := findClass_of_methodNamed B.named
  have hlocks := B.notSynchronized
  subst hsz
  have hD := hD0.self (sz := s.heap.size)
  generalize hAe : va_A (bX5 cI cZ a q om) s.heap.size = A at hD ⊢
  have hA : ∀ q : Nat, s.heap.size ≤ q → A q := fun q h => by rw [← hAe]; exact Or.inr h
  have hS : va_S A s.heap s.heap [] := va_S.rf
  obtain ⟨H, hH⟩ : ∃ H, H = s.heap := ⟨_, rfl⟩
  rw [← hH] at hP
  have hS : va_S A s.heap H [] := by rw [hH]; exact hS
  have hl := lv_entry ([.ref a, .int i0, .int i1]) (n := 3) (Nat.le_of_ble_eq_true rfl)
  rw [lg_entry_eq]
  generalize (lg_sl ([.ref a, .int i0, .int i1]) ++ List.replicate (3 - (lg_sl ([.ref a, .int i0, .int i1])).length) Slot.unset).toArray = ls at hl ⊢
  have hl : lv_has ls 3 [(0, .ref a), (1, .int i0), (2, .int i1)] := hl
  refine W_heap hH ?_
  obtain ⟨locs, hlo⟩ : ∃ locs : List Loc, locs = [] := ⟨_, rfl⟩
  rw [← hlo] at hS ⊢
  unfold f_X5_without at hf
  refine lv_aload_n (pc := 0) hx hb dX5_without_0 rfl (lv_at hl 0 rfl) ?_
  refine lv_iload_n (pc := 1) hx hb dX5_without_1 rfl (lv_at hl 1 rfl) ?_
  obtain ⟨x1, ex1, hf⟩ := bd_some hf
  refine ct_V1 (pc := 2) (As := [.int i0]) (rest := []) (W1 := bX5 cI cZ a q om) ⟨hx, hb, hml, hown, hts⟩ hK (c_X5_isPile l D cI cZ cS a q i0 om x1 ex1) gv_RX5_133 rfl hs_X5_isPile rfl ⟨Nat.le_of_ble_eq_true rfl, Nat.le_of_ble_eq_true rfl⟩ (ci := 5) (q0 := 0) rfl rfl rfl hl.1 rfl (Nat.le_of_ble_eq_true rfl) dX5_without_2 ⟨Nat.zero_le _, Nat.zero_le _⟩ hP hD hS hA (fun H locs hP hD hS => ?_)
  refine lv_if_eq (pc := 5) (tgt := 17) hx hb dX5_without_5 (by decide) (fun c2 => ?_) (fun c2 => ?_)
  · replace hf := ip c2 hf
    refine lv_ldc2 (pc := 17) (v := -1) hx hb hown (hts _ cn_RX5_246) dX5_without_17 ?_
    obtain rfl := Option.some.inj hf
    exact W.lret hx hb hr (fun t ht hW => ⟨rfl, by rw [ht]; exact hP, hD, hS.F ht⟩) hS.2.2 dX5_without_20
  · replace hf := im c2 hf
    refine lv_iload_n (pc := 8) hx hb dX5_without_8 rfl (lv_at hl 2 rfl) ?_
    refine lv_iconst (v := 0) (pc := 9) hx hb dX5_without_9 (by decide) ?_
    refine lv_iconst (v := 2) (pc := 10) hx hb dX5_without_10 (by decide) ?_
    obtain ⟨x3, ex3, hf⟩ := bd_some hf
    refine ct_S0 (pc := 11) (As := [.int i1, .int 0, .int 2]) (rest := []) ⟨hx, hb, hml, hown, hts⟩ hK (c_X5_in l D cI cZ cS i1 0 2 x3 ex3) gs_RX5_57 hs_X5_in rfl ⟨Nat.le_of_ble_eq_true rfl, Nat.le_of_ble_eq_true rfl⟩ hl.1 rfl (Nat.le_of_ble_eq_true rfl) dX5_without_11 ⟨Nat.zero_le _, Nat.zero_le _⟩ hP hS hA (fun H locs hP hS => ?_)
    refine lv_if_ne (pc := 14) (tgt := 21) hx hb dX5_without_14 (by decide) (fun c4 => ?_) (fun c4 => ?_)
    · replace hf := im c4 hf
      refine lv_aload_n (pc := 21) hx hb dX5_without_21 rfl (lv_at hl 0 rfl) ?_
      refine lv_iload_n (pc := 22) hx hb dX5_without_22 rfl (lv_at hl 1 rfl) ?_
      refine lv_iconst (v := 4) (pc := 23) hx hb dX5_without_23 (by decide) ?_
      obtain ⟨x5, ex5, hf⟩ := bd_some hf
      refine ct_V1 (pc := 24) (As := [.int i0, .int 4]) (rest := []) (W1 := bX5 cI cZ a q om) ⟨hx, hb, hml, hown, hts⟩ hK (c_X5_ofPile l D cI cZ cS a q i0 4 om x5 ex5) gv_RX5_117 rfl hs_X5_ofPile rfl ⟨Nat.le_of_ble_eq_true rfl, Nat.le_of_ble_eq_true rfl⟩ (ci := 5) (q0 := 0) rfl rfl rfl hl.1 rfl (Nat.le_of_ble_eq_true rfl) dX5_without_24 ⟨Nat.zero_le _, Nat.zero_le _⟩ hP hD hS hA (fun H locs hP hD hS => ?_)
      refine lv_iconst (v := 1) (pc := 27) hx hb dX5_without_27 (by decide) ?_
      refine lv_icmp_ne (pc := 28) (tgt := 35) hx hb dX5_without_28 (by decide) (fun c6 => ?_) (fun c6 => ?_)
      · replace hf := im c6 hf
        refine lv_aload_n (pc := 35) hx hb dX5_without_35 rfl (lv_at hl 0 rfl) ?_
        refine lv_iload_n (pc := 36) hx hb dX5_without_36 rfl (lv_at hl 1 rfl) ?_
        obtain ⟨x7, ex7, hf⟩ := bd_some hf
        refine ct_V1 (pc := 37) (As := [.int i0]) (rest := []) (W1 := bX5 cI cZ a q x7.2) ⟨hx, hb, hml, hown, hts⟩ hK (c_X5_laysWithout l D cI cZ cS a q i0 om x7 ex7) gv_RX5_263 rfl hs_X5_laysWithout rfl ⟨Nat.le_of_ble_eq_true rfl, Nat.le_of_ble_eq_true rfl⟩ (ci := 5) (q0 := 0) rfl rfl rfl hl.1 rfl (Nat.le_of_ble_eq_true rfl) dX5_without_37 ⟨Nat.zero_le _, Nat.zero_le _⟩ hP hD hS hA (fun H locs hP hD hS => ?_)
        refine lv_if_eq (pc := 40) (tgt := 51) hx hb dX5_without_40 (by decide) (fun c8 => ?_) (fun c8 => ?_)
        · replace hf := ip c8 hf
          refine lv_ldc2 (pc := 51) (v := -9) hx hb hown (hts _ cn_RX5_242) dX5_without_51 ?_
          obtain rfl := Option.some.inj hf
          exact W.lret hx hb hr (fun t ht hW => ⟨rfl, by rw [ht]; exact hP, hD, hS.F ht⟩) hS.2.2 dX5_without_54
        · replace hf := im c8 hf
          refine lv_aload_n (pc := 43) hx hb dX5_without_43 rfl (lv_at hl 0 rfl) ?_
          refine lv_iload_n (pc := 44) hx hb dX5_without_44 rfl (lv_at hl 2 rfl) ?_
          obtain ⟨x9, ex9, hf⟩ := bd_some hf
          refine ct_V1 (pc := 45) (As := [.int i1]) (rest := []) (W1 := bX5 cI cZ a q x7.2) ⟨hx, hb, hml, hown, hts⟩ hK (c_X5_tellsMost l D cI cZ cS a q i1 x7.2 x9 ex9) gv_RX5_251 rfl hs_X5_tellsMost rfl ⟨Nat.le_of_ble_eq_true rfl, Nat.le_of_ble_eq_true rfl⟩ (ci := 5) (q0 := 0) rfl rfl rfl hl.1 rfl (Nat.le_of_ble_eq_true rfl) dX5_without_45 ⟨Nat.zero_le _, Nat.zero_le _⟩ hP hD hS hA (fun H locs hP hD hS => ?_)
          refine lv_goto (pc := 48) (tgt := 54) hx hb dX5_without_48 (by decide) ?_
          obtain rfl := Option.some.inj hf
          exact W.lret hx hb hr (fun t ht hW => ⟨rfl, by rw [ht]; exact hP, hD, hS.F ht⟩) hS.2.2 dX5_without_54
      · replace hf := ip c6 hf
        refine lv_ldc2 (pc := 31) (v := -2) hx hb hown (hts _ cn_RX5_261) dX5_without_31 ?_
        obtain rfl := Option.some.inj hf
        exact W.lret hx hb hr (fun t ht hW => ⟨rfl, by rw [ht]; exact hP, hD, hS.F ht⟩) hS.2.2 dX5_without_34
    · replace hf := ip c4 hf
      refine lv_ldc2 (pc := 17) (v := -1) hx hb hown (hts _ cn_RX5_246) dX5_without_17 ?_
      obtain rfl := Option.some.inj hf
      exact W.lret hx hb hr (fun t ht hW => ⟨rfl, by rw [ht]; exact hP, hD, hS.F ht⟩) hS.2.2 dX5_without_20
def lp_X5_key_11 : Nat → Int32 → Int64 → Int64 → Int32 → OS → Option ((Int32 × OS) ⊕ (Int32 × Int64 × Int64 × Int32 × OS))
  | 0, _, _, _, _, _ => none
  | n + 1, v1, v2, v4, v6, w_M => if (w_M.2.2 0 (0 : Int32).toNatClampNeg) ≤ v6 then some (.inr (v1, v2, v4, v6, w_M)) else Option.bind (f_X5_ofPile v6 4 w_M) fun x7 => if x7 = 0 then Option.bind (f_X5_laysWithout v6 w_M) fun x9 => if x9.1 = 0 then some (.inl (v6, x9.2)) else if v1 = (-9) then lp_X5_key_11 n v6 (x9.2.2.1 33) (x9.2.2.1 34) (v6 + 1) x9.2 else Option.bind (f_X5_against (x9.2.2.1 33) (x9.2.2.1 34) v2 v4) fun x12 => if x12 ≤ 0 then lp_X5_key_11 n v1 v2 v4 (v6 + 1) x9.2 else lp_X5_key_11 n v6 (x9.2.2.1 33) (x9.2.2.1 34) (v6 + 1) x9.2 else lp_X5_key_11 n v1 v2 v4 (v6 + 1) w_M
def f_X5_key (om : OS) : Option (Int32 × OS) := Option.bind (lp_X5_key_11 1000 (-9) 0 0 0 om) (Sum.elim (fun r => some r) (fun z4 => some (z4.1, z4.2.2.2.2)))
set_option maxHeartbeats 4000000 in
set_option maxRecDepth 100000 in
theorem c_X5_key (l : Launch) (D : va_G) (cI cZ cS : ClassId) (a : Nat) (q : Nat → Nat) (om : OS) (x : (Int32 × OS)) (hf : f_X5_key om = some x) : Ct l yX5_key cX5_key 7 (some .int) 5 114 D cI cZ cS [.ref a] (bX5 cI cZ a q om) (some (.int x.1)) (bX5 cI cZ a q x.2) := by
  intro sz
  refine Met.ofW (cc := cX5_key) (maxL := 7) (ret := (some .int)) (by decide +kernel) rfl ?_
  intro p e s m args below meth c s₁ B hml hv
  obtain ⟨rfl, hsz, hP, hK, hD0⟩ := hv
  have hx := B.exec
  have hb := B.bytes
  have hr := B.returns
  have hts0 := atoms_spec (ws := .code yX5_key cX5_key 7 (some .int) :: TB) B.pre
  have hts := fun w (h : w ∈ TB) => hts0 w (List.mem_cons_of_mem _ h)
  have hown : s.vm.findClass RX5 = some m.cls := findClass_of_methodNamed B.named
  have hlocks := B.notSynchronized
  subst hsz
  have hD := hD0.self (sz := s.heap.size)
  generalize hAe : va_A (bX5 cI cZ a q om) s.heap.size = A at hD ⊢
  have hA : ∀ q : Nat, s.heap.size ≤ q → A q := fun q h => by rw [← hAe]; exact Or.inr h
  have hS : va_S A s.heap s.heap [] := va_S.rf
  obtain ⟨H, hH⟩ : ∃ H, H = s.heap := ⟨_, rfl⟩
  rw [← hH] at hP
  have hS : va_S A s.heap H [] := by rw [hH]; exact hS
  have hl := lv_entry ([.ref a]) (n := 7) (Nat.le_of_ble_eq_true rfl)
  rw [lg_entry_eq]
  generalize (lg_sl ([.ref a]) ++ List.replicate (7 - (lg_sl ([.ref a])).length) Slot.unset).toArray = ls at hl ⊢
  have hl : lv_has ls 7 [(0, .ref a)] := hl
  refine W_heap hH ?_
  obtain ⟨locs, hlo⟩ : ∃ locs : List Loc, locs = [] := ⟨_, rfl⟩
  rw [← hlo] at hS ⊢
  unfold f_X5_key at hf
  refine lv_bipush (v := -9) (pc := 0) hx hb dX5_key_0 (by decide) ?_
  refine lv_istore_n (lv' := [(1, .int (-9)), (0, .ref a)]) (pc := 2) hx hb dX5_key_2 rfl hl (by decide) rfl (fun ls hl => ?_)
  refine lv_lconst (v := 0) (pc := 3) hx hb dX5_key_3 (by decide) ?_
  refine lv_lstore_n (lv' := [(2, .long 0), (1, .int (-9)), (0, .ref a)]) (pc := 4) hx hb dX5_key_4 rfl hl (by decide) rfl (fun ls hl => ?_)
  refine lv_lconst (v := 0) (pc := 5) hx hb dX5_key_5 (by decide) ?_
  refine lv_lstore (lv' := [(4, .long 0), (2, .long 0), (1, .int (-9)), (0, .ref a)]) (pc := 6) hx hb dX5_key_6 hl (by decide) rfl (fun ls hl => ?_)
  refine lv_iconst (v := 0) (pc := 8) hx hb dX5_key_8 (by decide) ?_
  refine lv_istore (lv' := [(6, .int 0), (4, .long 0), (2, .long 0), (1, .int (-9)), (0, .ref a)]) (pc := 9) hx hb dX5_key_9 hl (by decide) rfl (fun ls hl => ?_)
  obtain ⟨z1, hz1, hf⟩ := bd_some hf
  have hfz1 := hf
  clear hf
  have K2 : ∀ z4, z1 = .inr z4 → ∀ (H : Heap) (locs : List Loc) (ls : Array Slot), va_P D vwCl (bX5 cI cZ a q z4.2.2.2.2) H → va_D A (bX5 cI cZ a q z4.2.2.2.2) → va_S A s.heap H locs → lv_has ls 7 [(0, .ref a), (1, .int z4.1), (2, .long z4.2.1), (4, .long z4.2.2.1), (6, .int z4.2.2.2.1)] → GW l yX5_key cX5_key 7 (some .int) 5 114 D [.ref a] (some (.int x.1)) (bX5 cI cZ a q x.2) A p e s m below meth c H locs (F0 m 87 ls []) := by
    intro z4 hy H locs ls hP hD hS hl
    subst hy
    replace hf := sum_r hfz1
    refine lv_iload_n (pc := 87) hx hb dX5_key_87 rfl (lv_at hl 1 rfl) ?_
    obtain rfl := Option.some.inj hf
    exact W.iret hx hb hr (fun t ht hW => ⟨rfl, by rw [ht]; exact hP, hD, hS.F ht⟩) hS.2.2 dX5_key_88
  have KL3 : ∀ (n : Nat) (v1 : Int32) (v2 : Int64) (v4 : Int64) (v6 : Int32) (w_M : OS) (H : Heap) (locs : List Loc) (ls : Array Slot), lp_X5_key_11 n v1 v2 v4 v6 w_M = some z1 → va_P D vwCl (bX5 cI cZ a q w_M) H → va_D A (bX5 cI cZ a q w_M) → va_S A s.heap H locs → lv_has ls 7 [(0, .ref a), (1, .int v1), (2, .long v2), (4, .long v4), (6, .int v6)] → GW l yX5_key cX5_key 7 (some .int) 5 114 D [.ref a] (some (.int x.1)) (bX5 cI cZ a q x.2) A p e s m below meth c H locs (F0 m 11 ls []) := by
    intro n
    induction n with
    | zero => intro v1 v2 v4 v6 w_M H locs ls hf; cases hf
    | succ n ih =>
      intro v1 v2 v4 v6 w_M H locs ls hf hP hD hS hl
      rw [lp_X5_key_11] at hf
      refine lv_iload (pc := 11) hx hb dX5_key_11 (lv_at hl 4 rfl) ?_
      refine lv_aload_n (pc := 13) hx hb dX5_key_13 rfl (lv_at hl 0 rfl) ?_
      refine va_get (pc := 14) (D := D) (ci := 5) (v := .ref (q 0)) (C := RX5) (T := TX5) (N := 41) hx hb hts iX5 hown hK.1 hP 0 rfl rfl 0 (by decide) (hts _ fl_RX5_7) (fun _ h => h) rfl dX5_key_14 ?_
      refine lv_iconst (v := 0) (pc := 17) hx hb dX5_key_17 (by decide) ?_
      have h5 : vp_in 0 59 := by unfold vp_in; decide
      refine va_iald (pc := 18) (f := w_M.2.2 0) hx hb hK.1 hP 1 0 rfl rfl h5 dX5_key_18 ?_
      refine lv_icmp_ge (pc := 19) (tgt := 87) hx hb dX5_key_19 (by decide) (fun c6 => ?_) (fun c6 => ?_)
      · replace hf := ip c6 hf
        obtain rfl := Option.some.inj hf
        exact K2 _ rfl H locs ls hP hD hS (lv_sub hl [0, 1, 2, 3, 4] rfl)
      · replace hf := im c6 hf
        refine lv_aload_n (pc := 22) hx hb dX5_key_22 rfl (lv_at hl 0 rfl) ?_
        refine lv_iload (pc := 23) hx hb dX5_key_23 (lv_at hl 4 rfl) ?_
        refine lv_iconst (v := 4) (pc := 25) hx hb dX5_key_25 (by decide) ?_
        obtain ⟨x7, ex7, hf⟩ := bd_some hf
        refine ct_V1 (pc := 26) (As := [.int v6, .int 4]) (rest := []) (W1 := bX5 cI cZ a q w_M) ⟨hx, hb, hml, hown, hts⟩ hK (c_X5_ofPile l D cI cZ cS a q v6 4 w_M x7 ex7) gv_RX5_117 rfl hs_X5_ofPile rfl ⟨Nat.le_of_ble_eq_true rfl, Nat.le_of_ble_eq_true rfl⟩ (ci := 5) (q0 := 0) rfl rfl rfl hl.1 rfl (Nat.le_of_ble_eq_true rfl) dX5_key_26 ⟨Nat.zero_le _, Nat.zero_le _⟩ hP hD hS hA (fun H locs hP hD hS => ?_)
        refine lv_if_ne (pc := 29) (tgt := 81) hx hb dX5_key_29 (by decide) (fun c8 => ?_) (fun c8 => ?_)
        · replace hf := im c8 hf
          refine lv_iinc (v := (v6 + 1)) (lv' := [(6, .int (v6 + 1)), (0, .ref a), (1, .int v1), (2, .long v2), (4, .long v4)]) (pc := 81) hx hb dX5_key_81 hl (k := 4) rfl rfl (by decide) rfl (fun ls hl => ?_)
          refine lv_goto (pc := 84) (tgt := 11) hx hb dX5_key_84 (by decide) ?_
          exact ih _ _ _ _ _ H locs ls hf hP hD hS (lv_sub hl [1, 2, 3, 4, 0] rfl)
        · replace hf := ip c8 hf
          refine lv_aload_n (pc := 32) hx hb dX5_key_32 rfl (lv_at hl 0 rfl) ?_
          refine lv_iload (pc := 33) hx hb dX5_key_33 (lv_at hl 4 rfl) ?_
          obtain ⟨x9, ex9, hf⟩ := bd_some hf
          refine ct_V1 (pc := 35) (As := [.int v6]) (rest := []) (W1 := bX5 cI cZ a q x9.2) ⟨hx, hb, hml, hown, hts⟩ hK (c_X5_laysWithout l D cI cZ cS a q v6 w_M x9 ex9) gv_RX5_263 rfl hs_X5_laysWithout rfl ⟨Nat.le_of_ble_eq_true rfl, Nat.le_of_ble_eq_true rfl⟩ (ci := 5) (q0 := 0) rfl rfl rfl hl.1 rfl (Nat.le_of_ble_eq_true rfl) dX5_key_35 ⟨Nat.zero_le _, Nat.zero_le _⟩ hP hD hS hA (fun H locs hP hD hS => ?_)
          refine lv_if_ne (pc := 38) (tgt := 44) hx hb dX5_key_38 (by decide) (fun c10 => ?_) (fun c10 => ?_)
          · replace hf := im c10 hf
            refine lv_iload_n (pc := 44) hx hb dX5_key_44 rfl (lv_at hl 1 rfl) ?_
            refine lv_bipush (v := -9) (pc := 45) hx hb dX5_key_45 (by decide) ?_
            refine lv_icmp_eq (pc := 47) (tgt := 67) hx hb dX5_key_47 (by decide) (fun c11 => ?_) (fun c11 => ?_)
            · replace hf := ip c11 hf
              refine lv_iload (pc := 67) hx hb dX5_key_67 (lv_at hl 4 rfl) ?_
              refine lv_istore_n (lv' := [(1, .int v6), (0, .ref a), (2, .long v2), (4, .long v4), (6, .int v6)]) (pc := 69) hx hb dX5_key_69 rfl hl (by decide) rfl (fun ls hl => ?_)
              refine lv_aload_n (pc := 70) hx hb dX5_key_70 rfl (lv_at hl 1 rfl) ?_
              refine va_get (pc := 71) (D := D) (ci := 5) (v := .long (x9.2.2.1 33)) (C := RX5) (T := TX5) (N := 41) hx hb hts iX5 hown hK.1 hP 0 rfl rfl 33 (by decide) (hts _ fl_RX5_227) (fun _ h => h) rfl dX5_key_71 ?_
              refine lv_lstore_n (lv' := [(2, .long (x9.2.2.1 33)), (1, .int v6), (0, .ref a), (4, .long v4), (6, .int v6)]) (pc := 74) hx hb dX5_key_74 rfl hl (by decide) rfl (fun ls hl => ?_)
              refine lv_aload_n (pc := 75) hx hb dX5_key_75 rfl (lv_at hl 2 rfl) ?_
              refine va_get (pc := 76) (D := D) (ci := 5) (v := .long (x9.2.2.1 34)) (C := RX5) (T := TX5) (N := 41) hx hb hts iX5 hown hK.1 hP 0 rfl rfl 34 (by decide) (hts _ fl_RX5_230) (fun _ h => h) rfl dX5_key_76 ?_
              refine lv_lstore (lv' := [(4, .long (x9.2.2.1 34)), (2, .long (x9.2.2.1 33)), (1, .int v6), (0, .ref a), (6, .int v6)]) (pc := 79) hx hb dX5_key_79 hl (by decide) rfl (fun ls hl => ?_)
              refine lv_iinc (v := (v6 + 1)) (lv' := [(6, .int (v6 + 1)), (4, .long (x9.2.2.1 34)), (2, .long (x9.2.2.1 33)), (1, .int v6), (0, .ref a)]) (pc := 81) hx hb dX5_key_81 hl (k := 4) rfl rfl (by decide) rfl (fun ls hl => ?_)
              refine lv_goto (pc := 84) (tgt := 11) hx hb dX5_key_84 (by decide) ?_
              exact ih _ _ _ _ _ H locs ls hf hP hD hS (lv_sub hl [4, 3, 2, 1, 0] rfl)
            · replace hf := im c11 hf
              refine lv_aload_n (pc := 50) hx hb dX5_key_50 rfl (lv_at hl 0 rfl) ?_
              refine va_get (pc := 51) (D := D) (ci := 5) (v := .long (x9.2.2.1 33)) (C := RX5) (T := TX5) (N := 41) hx hb hts iX5 hown hK.1 hP 0 rfl rfl 33 (by decide) (hts _ fl_RX5_227) (fun _ h => h) rfl dX5_key_51 ?_
              refine lv_aload_n (pc := 54) hx hb dX5_key_54 rfl (lv_at hl 0 rfl) ?_
              refine va_get (pc := 55) (D := D) (ci := 5) (v := .long (x9.2.2.1 34)) (C := RX5) (T := TX5) (N := 41) hx hb hts iX5 hown hK.1 hP 0 rfl rfl 34 (by decide) (hts _ fl_RX5_230) (fun _ h => h) rfl dX5_key_55 ?_
              refine lv_lload_n (pc := 58) hx hb dX5_key_58 rfl (lv_at hl 2 rfl) ?_
              refine lv_lload (pc := 59) hx hb dX5_key_59 (lv_at hl 3 rfl) ?_
              obtain ⟨x12, ex12, hf⟩ := bd_some hf
              refine ct_S0 (pc := 61) (As := [.long (x9.2.2.1 33), .long (x9.2.2.1 34), .long v2, .long v4]) (rest := []) ⟨hx, hb, hml, hown, hts⟩ hK (c_X5_against l D cI cZ cS (x9.2.2.1 33) (x9.2.2.1 34) v2 v4 x12 ex12) gs_RX5_266 hs_X5_against rfl ⟨Nat.le_of_ble_eq_true rfl, Nat.le_of_ble_eq_true rfl⟩ hl.1 rfl (Nat.le_of_ble_eq_true rfl) dX5_key_61 ⟨Nat.zero_le _, Nat.zero_le _⟩ hP hS hA (fun H locs hP hS => ?_)
              refine lv_if_le (pc := 64) (tgt := 81) hx hb dX5_key_64 (by decide) (fun c13 => ?_) (fun c13 => ?_)
              · replace hf := ip c13 hf
                refine lv_iinc (v := (v6 + 1)) (lv' := [(6, .int (v6 + 1)), (0, .ref a), (1, .int v1), (2, .long v2), (4, .long v4)]) (pc := 81) hx hb dX5_key_81 hl (k := 4) rfl rfl (by decide) rfl (fun ls hl => ?_)
                refine lv_goto (pc := 84) (tgt := 11) hx hb dX5_key_84 (by decide) ?_
                exact ih _ _ _ _ _ H locs ls hf hP hD hS (lv_sub hl [1, 2, 3, 4, 0] rfl)
              · replace hf := im c13 hf
                refine lv_iload (pc := 67) hx hb dX5_key_67 (lv_at hl 4 rfl) ?_
                refine lv_istore_n (lv' := [(1, .int v6), (0, .ref a), (2, .long v2), (4, .long v4), (6, .int v6)]) (pc := 69) hx hb dX5_key_69 rfl hl (by decide) rfl (fun ls hl => ?_)
                refine lv_aload_n (pc := 70) hx hb dX5_key_70 rfl (lv_at hl 1 rfl) ?_
                refine va_get (pc := 71) (D := D) (ci := 5) (v := .long (x9.2.2.1 33)) (C := RX5) (T := TX5) (N := 41) hx hb hts iX5 hown hK.1 hP 0 rfl rfl 33 (by decide) (hts _ fl_RX5_227) (fun _ h => h) rfl dX5_key_71 ?_
                refine lv_lstore_n (lv' := [(2, .long (x9.2.2.1 33)), (1, .int v6), (0, .ref a), (4, .long v4), (6, .int v6)]) (pc := 74) hx hb dX5_key_74 rfl hl (by decide) rfl (fun ls hl => ?_)
                refine lv_aload_n (pc := 75) hx hb dX5_key_75 rfl (lv_at hl 2 rfl) ?_
                refine va_get (pc := 76) (D := D) (ci := 5) (v := .long (x9.2.2.1 34)) (C := RX5) (T := TX5) (N := 41) hx hb hts iX5 hown hK.1 hP 0 rfl rfl 34 (by decide) (hts _ fl_RX5_230) (fun _ h => h) rfl dX5_key_76 ?_
                refine lv_lstore (lv' := [(4, .long (x9.2.2.1 34)), (2, .long (x9.2.2.1 33)), (1, .int v6), (0, .ref a), (6, .int v6)]) (pc := 79) hx hb dX5_key_79 hl (by decide) rfl (fun ls hl => ?_)
                refine lv_iinc (v := (v6 + 1)) (lv' := [(6, .int (v6 + 1)), (4, .long (x9.2.2.1 34)), (2, .long (x9.2.2.1 33)), (1, .int v6), (0, .ref a)]) (pc := 81) hx hb dX5_key_81 hl (k := 4) rfl rfl (by decide) rfl (fun ls hl => ?_)
                refine lv_goto (pc := 84) (tgt := 11) hx hb dX5_key_84 (by decide) ?_
                exact ih _ _ _ _ _ H locs ls hf hP hD hS (lv_sub hl [4, 3, 2, 1, 0] rfl)
          · replace hf := ip c10 hf
            refine lv_iload (pc := 41) hx hb dX5_key_41 (lv_at hl 4 rfl) ?_
            obtain rfl := Option.some.inj hf
            replace hfz1 := sum_l hfz1
            obtain rfl := Option.some.inj hfz1
            exact W.iret hx hb hr (fun t ht hW => ⟨rfl, by rw [ht]; exact hP, hD, hS.F ht⟩) hS.2.2 dX5_key_43
  exact KL3 1000 _ _ _ _ _ H locs ls hz1 hP hD hS (lv_sub hl [4, 3, 2, 1, 0] rfl)
def lp_X5_extra_22 (r1 : Int32) (r2 : Int32) : Nat → Int32 → Int64 → Int64 → Int32 → OS → Option (Int32 × Int64 × Int64 × Int32 × OS)
  | 0, _, _, _, _, _ => none
  | n + 1, v3, v4, v6, v8, w_M => if 361 ≤ v8 then some (v3, v4, v6, v8, w_M) else Option.bind (f_X5_isTaken ((v8 / 19) - 9) ((v8 - v8 / 19 * 19) - 9) w_M) fun x7 => if x7 = 0 then Option.bind (f_X5_laysPiles w_M) fun x9 => Option.bind (f_X5_laysSums x9) fun x10 => ck (x10.1 21) 9 (lt (sA x10 17 (((x10.1 21) : Int32).toNatClampNeg) ((v8 / 19) - 9)) fun o12 => ck (o12.1 21) 9 (lt (sA o12 18 (((o12.1 21) : Int32).toNatClampNeg) ((v8 - v8 / 19 * 19) - 9)) fun o14 => ck (o14.1 21) 9 (lt (sA o14 19 (((o14.1 21) : Int32).toNatClampNeg) r1) fun o16 => ck (o16.1 21) 9 (lt (sA o16 20 (((o16.1 21) : Int32).toNatClampNeg) r2) fun o18 => lt (sI o18 22 ((o18.1 22) ||| (1 <<< ((o18.1 21) &&& 31)))) fun o19 => lt (sI o19 21 ((o19.1 21) + 1)) fun o20 => Option.bind (f_X5_shares o20) fun x21 => Option.bind (f_X5_laysMost x21) fun x22 => if x22.1 = 0 then lp_X5_extra_22 r1 r2 n v3 v4 v6 (v8 + 1) x22.2 else if v3 = (-9) then lp_X5_extra_22 r1 r2 n v8 (x22.2.2.1 33) (x22.2.2.1 34) (v8 + 1) x22.2 else Option.bind (f_X5_against (x22.2.2.1 33) (x22.2.2.1 34) v4 v6) fun x25 => if 0 ≤ x25 then lp_X5_extra_22 r1 r2 n v3 v4 v6 (v8 + 1) x22.2 else lp_X5_extra_22 r1 r2 n v8 (x22.2.2.1 33) (x22.2.2.1 34) (v8 + 1) x22.2)))) else lp_X5_extra_22 r1 r2 n v3 v4 v6 (v8 + 1) w_M
def f_X5_extra (i0 : Int32) (i1 : Int32) (om : OS) : Option (Int32 × OS) := Option.bind (f_X5_isKind i0 i1) fun x1 => if x1 = 0 then some ((-1), om) else Option.bind (lp_X5_extra_22 i0 i1 1000 (-9) 0 0 0 om) fun z3 => some (z3.1, z3.2.2.2.2)
set_option maxHeartbeats 4000000 in
set_option maxRecDepth 100000 in
theorem c_X5_extra (l : Launch) (D : va_G) (cI cZ cS : ClassId) (a : Nat) (q : Nat → Nat) (i0 : Int32) (i1 : Int32) (om : OS) (x : (Int32 × OS)) (hf : f_X5_extra i0 i1 om = some x) : Ct l yX5_extra cX5_extra 11 (some .int) 4 93 D cI cZ cS [.ref a, .int i0, .int i1] (bX5 cI cZ a q om) (some (.int x.1)) (bX5 cI cZ a q x.2) := by
  intro sz
  refine Met.ofW (cc := cX5_extra) (maxL := 11) (ret := (some .int)) (by decide +kernel) rfl ?_
  intro p e s m args below meth c s₁ B hml hv
  obtain ⟨rfl, hsz, hP, hK, hD0⟩ := hv
  have hx := B.exec
  have hb := B.bytes
  have hr := B.returns
  have hts0 := atoms_spec (ws := .code yX5_extra cX5_extra 11 (some .int) :: TB) B.pre
  have hts := fun w (h : w ∈ TB) => hts0 w (List.mem_cons_of_mem _ h)
  have hown : s.vm.findClass RX5 = some m.cls := findClass_of_methodNamed B.named
  have hlocks := B.notSynchronized
  subst hsz
  have hD := hD0.self (sz := s.heap.size)
  generalize hAe : va_A (bX5 cI cZ a q om) s.heap.size = A at hD ⊢
  have hA : ∀ q : Nat, s.heap.size ≤ q → A q := fun q h => by rw [← hAe]; exact Or.inr h
  have hS : va_S A s.heap s.heap [] := va_S.rf
  obtain ⟨H, hH⟩ : ∃ H, H = s.heap := ⟨_, rfl⟩
  rw [← hH] at hP
  have hS : va_S A s.heap H [] := by rw [hH]; exact hS
  have hl := lv_entry ([.ref a, .int i0, .int i1]) (n := 11) (Nat.le_of_ble_eq_true rfl)
  rw [lg_entry_eq]
  generalize (lg_sl ([.ref a, .int i0, .int i1]) ++ List.replicate (11 - (lg_sl ([.ref a, .int i0, .int i1])).length) Slot.unset).toArray = ls at hl ⊢
  have hl : lv_has ls 11 [(0, .ref a), (1, .int i0), (2, .int i1)] := hl
  refine W_heap hH ?_
  obtain ⟨locs, hlo⟩ : ∃ locs : List Loc, locs = [] := ⟨_, rfl⟩
  rw [← hlo] at hS ⊢
  unfold f_X5_extra at hf
  refine lv_iload_n (pc := 0) hx hb dX5_extra_0 rfl (lv_at hl 1 rfl) ?_
  refine lv_iload_n (pc := 1) hx hb dX5_extra_1 rfl (lv_at hl 2 rfl) ?_
  obtain ⟨x1, ex1, hf⟩ := bd_some hf
  refine ct_S0 (pc := 2) (As := [.int i0, .int i1]) (rest := []) ⟨hx, hb, hml, hown, hts⟩ hK (c_X5_isKind l D cI cZ cS i0 i1 x1 ex1) gs_RX5_124 hs_X5_isKind rfl ⟨Nat.le_of_ble_eq_true rfl, Nat.le_of_ble_eq_true rfl⟩ hl.1 rfl (Nat.le_of_ble_eq_true rfl) dX5_extra_2 ⟨Nat.zero_le _, Nat.zero_le _⟩ hP hS hA (fun H locs hP hS => ?_)
  refine lv_if_ne (pc := 5) (tgt := 10) hx hb dX5_extra_5 (by decide) (fun c2 => ?_) (fun c2 => ?_)
  · replace hf := im c2 hf
    refine lv_bipush (v := -9) (pc := 10) hx hb dX5_extra_10 (by decide) ?_
    refine lv_istore_n (lv' := [(3, .int (-9)), (0, .ref a), (1, .int i0), (2, .int i1)]) (pc := 12) hx hb dX5_extra_12 rfl hl (by decide) rfl (fun ls hl => ?_)
    refine lv_lconst (v := 0) (pc := 13) hx hb dX5_extra_13 (by decide) ?_
    refine lv_lstore (lv' := [(4, .long 0), (3, .int (-9)), (0, .ref a), (1, .int i0), (2, .int i1)]) (pc := 14) hx hb dX5_extra_14 hl (by decide) rfl (fun ls hl => ?_)
    refine lv_lconst (v := 0) (pc := 16) hx hb dX5_extra_16 (by decide) ?_
    refine lv_lstore (lv' := [(6, .long 0), (4, .long 0), (3, .int (-9)), (0, .ref a), (1, .int i0), (2, .int i1)]) (pc := 17) hx hb dX5_extra_17 hl (by decide) rfl (fun ls hl => ?_)
    refine lv_iconst (v := 0) (pc := 19) hx hb dX5_extra_19 (by decide) ?_
    refine lv_istore (lv' := [(8, .int 0), (6, .long 0), (4, .long 0), (3, .int (-9)), (0, .ref a), (1, .int i0), (2, .int i1)]) (pc := 20) hx hb dX5_extra_20 hl (by decide) rfl (fun ls hl => ?_)
    obtain ⟨z3, hz3, hf⟩ := bd_some hf
    have hfz3 := hf
    clear hf
    have K4 : ∀ (H : Heap) (locs : List Loc) (ls : Array Slot), va_P D vwCl (bX5 cI cZ a q z3.2.2.2.2) H → va_D A (bX5 cI cZ a q z3.2.2.2.2) → va_S A s.heap H locs → lv_has ls 11 [(0, .ref a), (1, .int i0), (2, .int i1), (3, .int z3.1), (4, .long z3.2.1), (6, .long z3.2.2.1), (8, .int z3.2.2.2.1)] → GW l yX5_extra cX5_extra 11 (some .int) 4 93 D [.ref a, .int i0, .int i1] (some (.int x.1)) (bX5 cI cZ a q x.2) A p e s m below meth c H locs (F0 m 192 ls []) := by
      intro H locs ls hP hD hS hl
      have hf := hfz3
      refine lv_iload_n (pc := 192) hx hb dX5_extra_192 rfl (lv_at hl 3 rfl) ?_
      obtain rfl := Option.some.inj hf
      exact W.iret hx hb hr (fun t ht hW => ⟨rfl, by rw [ht]; exact hP, hD, hS.F ht⟩) hS.2.2 dX5_extra_193
    have KL5 : ∀ (n : Nat) (v3 : Int32) (v4 : Int64) (v6 : Int64) (v8 : Int32) (w_M : OS) (H : Heap) (locs : List Loc) (ls : Array Slot), lp_X5_extra_22 i0 i1 n v3 v4 v6 v8 w_M = some z3 → va_P D vwCl (bX5 cI cZ a q w_M) H → va_D A (bX5 cI cZ a q w_M) → va_S A s.heap H locs → lv_has ls 11 [(0, .ref a), (1, .int i0), (2, .int i1), (3, .int v3), (4, .long v4), (6, .long v6), (8, .int v8)] → GW l yX5_extra cX5_extra 11 (some .int) 4 93 D [.ref a, .int i0, .int i1] (some (.int x.1)) (bX5 cI cZ a q x.2) A p e s m below meth c H locs (F0 m 22 ls []) := by
      intro n
      induction n with
      | zero => intro v3 v4 v6 v8 w_M H locs ls hf; cases hf
      | succ n ih =>
        intro v3 v4 v6 v8 w_M H locs ls hf hP hD hS hl
        rw [lp_X5_extra_22] at hf
        refine lv_iload (pc := 22) hx hb dX5_extra_22 (lv_at hl 6 rfl) ?_
        refine lv_sipush (v := 361) (pc := 24) hx hb dX5_extra_24 (by decide) ?_
        refine lv_icmp_ge (pc := 27) (tgt := 192) hx hb dX5_extra_27 (by decide) (fun c6 => ?_) (fun c6 => ?_)
        · replace hf := ip c6 hf
          obtain rfl := Option.some.inj hf
          exact K4 H locs ls hP hD hS (lv_sub hl [0, 1, 2, 3, 4, 5, 6] rfl)
        · replace hf := im c6 hf
          refine lv_iload (pc := 30) hx hb dX5_extra_30 (lv_at hl 6 rfl) ?_
          refine lv_bipush (v := 19) (pc := 32) hx hb dX5_extra_32 (by decide) ?_
          refine lv_idiv (pc := 34) hx hb dX5_extra_34 (by decide) ?_
          refine lv_bipush (v := 9) (pc := 35) hx hb dX5_extra_35 (by decide) ?_
          refine lv_isub (pc := 37) hx hb dX5_extra_37 ?_
          refine lv_istore (lv' := [(9, .int ((v8 / 19) - 9)), (0, .ref a), (1, .int i0), (2, .int i1), (3, .int v3), (4, .long v4), (6, .long v6), (8, .int v8)]) (pc := 38) hx hb dX5_extra_38 hl (by decide) rfl (fun ls hl => ?_)
          refine lv_iload (pc := 40) hx hb dX5_extra_40 (lv_at hl 7 rfl) ?_
          refine lv_bipush (v := 19) (pc := 42) hx hb dX5_extra_42 (by decide) ?_
          refine lv_irem (pc := 44) hx hb dX5_extra_44 (by decide) ?_
          refine lv_bipush (v := 9) (pc := 45) hx hb dX5_extra_45 (by decide) ?_
          refine lv_isub (pc := 47) hx hb dX5_extra_47 ?_
          refine lv_istore (lv' := [(10, .int ((v8 - v8 / 19 * 19) - 9)), (9, .int ((v8 / 19) - 9)), (0, .ref a), (1, .int i0), (2, .int i1), (3, .int v3), (4, .long v4), (6, .long v6), (8, .int v8)]) (pc := 48) hx hb dX5_extra_48 hl (by decide) rfl (fun ls hl => ?_)
          refine lv_aload_n (pc := 50) hx hb dX5_extra_50 rfl (lv_at hl 2 rfl) ?_
          refine lv_iload (pc := 51) hx hb dX5_extra_51 (lv_at hl 1 rfl) ?_
          refine lv_iload (pc := 53) hx hb dX5_extra_53 (lv_at hl 0 rfl) ?_
          obtain ⟨x7, ex7, hf⟩ := bd_some hf
          refine ct_V1 (pc := 55) (As := [.int ((v8 / 19) - 9), .int ((v8 - v8 / 19 * 19) - 9)]) (rest := []) (W1 := bX5 cI cZ a q w_M) ⟨hx, hb, hml, hown, hts⟩ hK (c_X5_isTaken l D cI cZ cS a q ((v8 / 19) - 9) ((v8 - v8 / 19 * 19) - 9) w_M x7 ex7) gv_RX5_127 rfl hs_X5_isTaken rfl ⟨Nat.le_of_ble_eq_true rfl, Nat.le_of_ble_eq_true rfl⟩ (ci := 5) (q0 := 0) rfl rfl rfl hl.1 rfl (Nat.le_of_ble_eq_true rfl) dX5_extra_55 ⟨Nat.zero_le _, Nat.zero_le _⟩ hP hD hS hA (fun H locs hP hD hS => ?_)
          refine lv_if_ne (pc := 58) (tgt := 186) hx hb dX5_extra_58 (by decide) (fun c8 => ?_) (fun c8 => ?_)
          · replace hf := im c8 hf
            refine lv_iinc (v := (v8 + 1)) (lv' := [(8, .int (v8 + 1)), (10, .int ((v8 - v8 / 19 * 19) - 9)), (9, .int ((v8 / 19) - 9)), (0, .ref a), (1, .int i0), (2, .int i1), (3, .int v3), (4, .long v4), (6, .long v6)]) (pc := 186) hx hb dX5_extra_186 hl (k := 8) rfl rfl (by decide) rfl (fun ls hl => ?_)
            refine lv_goto (pc := 189) (tgt := 22) hx hb dX5_extra_189 (by decide) ?_
            exact ih _ _ _ _ _ H locs ls hf hP hD hS (lv_sub hl [3, 4, 5, 6, 7, 8, 0] rfl)
          · replace hf := ip c8 hf
            refine lv_aload_n (pc := 61) hx hb dX5_extra_61 rfl (lv_at hl 2 rfl) ?_
            obtain ⟨x9, ex9, hf⟩ := bd_some hf
            refine ct_V1 (pc := 62) (As := []) (rest := []) (W1 := bX5 cI cZ a q x9) ⟨hx, hb, hml, hown, hts⟩ hK (c_X5_laysPiles l D cI cZ cS a q w_M x9 ex9) gv_RX5_211 rfl hs_X5_laysPiles rfl ⟨Nat.le_of_ble_eq_true rfl, Nat.le_of_ble_eq_true rfl⟩ (ci := 5) (q0 := 0) rfl rfl rfl hl.1 rfl (Nat.le_of_ble_eq_true rfl) dX5_extra_62 ⟨Nat.zero_le _, Nat.zero_le _⟩ hP hD hS hA (fun H locs hP hD hS => ?_)
            refine lv_aload_n (pc := 65) hx hb dX5_extra_65 rfl (lv_at hl 2 rfl) ?_
            obtain ⟨x10, ex10, hf⟩ := bd_some hf
            refine ct_V1 (pc := 66) (As := []) (rest := []) (W1 := bX5 cI cZ a q x10) ⟨hx, hb, hml, hown, hts⟩ hK (c_X5_laysSums l D cI cZ cS a q x9 x10 ex10) gv_RX5_214 rfl hs_X5_laysSums rfl ⟨Nat.le_of_ble_eq_true rfl, Nat.le_of_ble_eq_true rfl⟩ (ci := 5) (q0 := 0) rfl rfl rfl hl.1 rfl (Nat.le_of_ble_eq_true rfl) dX5_extra_66 ⟨Nat.zero_le _, Nat.zero_le _⟩ hP hD hS hA (fun H locs hP hD hS => ?_)
            refine lv_aload_n (pc := 69) hx hb dX5_extra_69 rfl (lv_at hl 2 rfl) ?_
            refine va_get (pc := 70) (D := D) (ci := 5) (v := .ref (q 17)) (C := RX5) (T := TX5) (N := 41) hx hb hts iX5 hown hK.1 hP 0 rfl rfl 17 (by decide) (hts _ fl_RX5_36) (fun _ h => h) rfl dX5_extra_70 ?_
            refine lv_aload_n (pc := 73) hx hb dX5_extra_73 rfl (lv_at hl 2 rfl) ?_
            refine va_get (pc := 74) (D := D) (ci := 5) (v := .int (x10.1 21)) (C := RX5) (T := TX5) (N := 41) hx hb hts iX5 hown hK.1 hP 0 rfl rfl 21 (by decide) (hts _ fl_RX5_150) (fun _ h => h) rfl dX5_extra_74 ?_
            refine lv_iload (pc := 77) hx hb dX5_extra_77 (lv_at hl 1 rfl) ?_
            obtain ⟨h11, hf⟩ := ck_some hf
            obtain ⟨o12, eo12, hf⟩ := lt_some hf
            refine va_iast (pc := 79) (f := x10.2.2 17) hx hb hK.1 hP hD hS 8 0 rfl rfl h11 dX5_extra_79 (fun H locs hP hD hS => ?_)
            replace hP : va_P D vwCl (bX5 cI cZ a q o12) H := by rw [eo12]; exact hP
            replace hD : va_D A (bX5 cI cZ a q o12) := by rw [eo12]; exact hD
            refine lv_aload_n (pc := 80) hx hb dX5_extra_80 rfl (lv_at hl 2 rfl) ?_
            refine va_get (pc := 81) (D := D) (ci := 5) (v := .ref (q 18)) (C := RX5) (T := TX5) (N := 41) hx hb hts iX5 hown hK.1 hP 0 rfl rfl 18 (by decide) (hts _ fl_RX5_39) (fun _ h => h) rfl dX5_extra_81 ?_
            refine lv_aload_n (pc := 84) hx hb dX5_extra_84 rfl (lv_at hl 2 rfl) ?_
            refine va_get (pc := 85) (D := D) (ci := 5) (v := .int (o12.1 21)) (C := RX5) (T := TX5) (N := 41) hx hb hts iX5 hown hK.1 hP 0 rfl rfl 21 (by decide) (hts _ fl_RX5_150) (fun _ h => h) rfl dX5_extra_85 ?_
            refine lv_iload (pc := 88) hx hb dX5_extra_88 (lv_at hl 0 rfl) ?_
            obtain ⟨h13, hf⟩ := ck_some hf
            obtain ⟨o14, eo14, hf⟩ := lt_some hf
            refine va_iast (pc := 90) (f := o12.2.2 18) hx hb hK.1 hP hD hS 9 0 rfl rfl h13 dX5_extra_90 (fun H locs hP hD hS => ?_)
            replace hP : va_P D vwCl (bX5 cI cZ a q o14) H := by rw [eo14]; exact hP
            replace hD : va_D A (bX5 cI cZ a q o14) := by rw [eo14]; exact hD
            refine lv_aload_n (pc := 91) hx hb dX5_extra_91 rfl (lv_at hl 2 rfl) ?_
            refine va_get (pc := 92) (D := D) (ci := 5) (v := .ref (q 19)) (C := RX5) (T := TX5) (N := 41) hx hb hts iX5 hown hK.1 hP 0 rfl rfl 19 (by decide) (hts _ fl_RX5_42) (fun _ h => h) rfl dX5_extra_92 ?_
            refine lv_aload_n (pc := 95) hx hb dX5_extra_95 rfl (lv_at hl 2 rfl) ?_
            refine va_get (pc := 96) (D := D) (ci := 5) (v := .int (o14.1 21)) (C := RX5) (T := TX5) (N := 41) hx hb hts iX5 hown hK.1 hP 0 rfl rfl 21 (by decide) (hts _ fl_RX5_150) (fun _ h => h) rfl dX5_extra_96 ?_
            refine lv_iload_n (pc := 99) hx hb dX5_extra_99 rfl (lv_at hl 3 rfl) ?_
            obtain ⟨h15, hf⟩ := ck_some hf
            obtain ⟨o16, eo16, hf⟩ := lt_some hf
            refine va_iast (pc := 100) (f := o14.2.2 19) hx hb hK.1 hP hD hS 10 0 rfl rfl h15 dX5_extra_100 (fun H locs hP hD hS => ?_)
            replace hP : va_P D vwCl (bX5 cI cZ a q o16) H := by rw [eo16]; exact hP
            replace hD : va_D A (bX5 cI cZ a q o16) := by rw [eo16]; exact hD
            refine lv_aload_n (pc := 101) hx hb dX5_extra_101 rfl (lv_at hl 2 rfl) ?_
            refine va_get (pc := 102) (D := D) (ci := 5) (v := .ref (q 20)) (C := RX5) (T := TX5) (N := 41) hx hb hts iX5 hown hK.1 hP 0 rfl rfl 20 (by decide) (hts _ fl_RX5_45) (fun _ h => h) rfl dX5_extra_102 ?_
            refine lv_aload_n (pc := 105) hx hb dX5_extra_105 rfl (lv_at hl 2 rfl) ?_
            refine va_get (pc := 106) (D := D) (ci := 5) (v := .int (o16.1 21)) (C := RX5) (T := TX5) (N := 41) hx hb hts iX5 hown hK.1 hP 0 rfl rfl 21 (by decide) (hts _ fl_RX5_150) (fun _ h => h) rfl dX5_extra_106 ?_
            refine lv_iload_n (pc := 109) hx hb dX5_extra_109 rfl (lv_at hl 4 rfl) ?_
            obtain ⟨h17, hf⟩ := ck_some hf
            obtain ⟨o18, eo18, hf⟩ := lt_some hf
            refine va_iast (pc := 110) (f := o16.2.2 20) hx hb hK.1 hP hD hS 11 0 rfl rfl h17 dX5_extra_110 (fun H locs hP hD hS => ?_)
            replace hP : va_P D vwCl (bX5 cI cZ a q o18) H := by rw [eo18]; exact hP
            replace hD : va_D A (bX5 cI cZ a q o18) := by rw [eo18]; exact hD
            refine lv_aload_n (pc := 111) hx hb dX5_extra_111 rfl (lv_at hl 2 rfl) ?_
            refine lv_dup (pc := 112) hx hb dX5_extra_112 rfl ?_
            refine va_get (pc := 113) (D := D) (ci := 5) (v := .int (o18.1 22)) (C := RX5) (T := TX5) (N := 41) hx hb hts iX5 hown hK.1 hP 0 rfl rfl 22 (by decide) (hts _ fl_RX5_153) (fun _ h => h) rfl dX5_extra_113 ?_
            refine lv_iconst (v := 1) (pc := 116) hx hb dX5_extra_116 (by decide) ?_
            refine lv_aload_n (pc := 117) hx hb dX5_extra_117 rfl (lv_at hl 2 rfl) ?_
            refine va_get (pc := 118) (D := D) (ci := 5) (v := .int (o18.1 21)) (C := RX5) (T := TX5) (N := 41) hx hb hts iX5 hown hK.1 hP 0 rfl rfl 21 (by decide) (hts _ fl_RX5_150) (fun _ h => h) rfl dX5_extra_118 ?_
            refine lv_ishl (pc := 121) hx hb dX5_extra_121 ?_
            refine lv_ior (pc := 122) hx hb dX5_extra_122 ?_
            obtain ⟨o19, eo19, hf⟩ := lt_some hf
            refine va_put (pc := 123) (D := D) (ci := 5) (v := .int ((o18.1 22) ||| (1 <<< ((o18.1 21) &&& 31)))) (ty := .int) (C := RX5) (T := TX5) (N := 41) hx hb hts iX5 tyX5 tyX5_ok nmX5 hown hK.1 hP hD hS 0 rfl rfl 22 (by decide) (hts _ fl_RX5_153) (fun _ h => h) rfl (tyX5_ok 22 (by decide)) rfl rfl (Nat.le_of_ble_eq_true rfl) dX5_extra_123 (fun H locs hP hD hS => ?_)
            replace hP : va_P D vwCl (bX5 cI cZ a q o19) H := by rw [eo19]; exact hP
            replace hD : va_D A (bX5 cI cZ a q o19) := by rw [eo19]; exact hD
            refine lv_aload_n (pc := 126) hx hb dX5_extra_126 rfl (lv_at hl 2 rfl) ?_
            refine lv_dup (pc := 127) hx hb dX5_extra_127 rfl ?_
            refine va_get (pc := 128) (D := D) (ci := 5) (v := .int (o19.1 21)) (C := RX5) (T := TX5) (N := 41) hx hb hts iX5 hown hK.1 hP 0 rfl rfl 21 (by decide) (hts _ fl_RX5_150) (fun _ h => h) rfl dX5_extra_128 ?_
            refine lv_iconst (v := 1) (pc := 131) hx hb dX5_extra_131 (by decide) ?_
            refine lv_iadd (pc := 132) hx hb dX5_extra_132 ?_
            obtain ⟨o20, eo20, hf⟩ := lt_some hf
            refine va_put (pc := 133) (D := D) (ci := 5) (v := .int ((o19.1 21) + 1)) (ty := .int) (C := RX5) (T := TX5) (N := 41) hx hb hts iX5 tyX5 tyX5_ok nmX5 hown hK.1 hP hD hS 0 rfl rfl 21 (by decide) (hts _ fl_RX5_150) (fun _ h => h) rfl (tyX5_ok 21 (by decide)) rfl rfl (Nat.le_of_ble_eq_true rfl) dX5_extra_133 (fun H locs hP hD hS => ?_)
            replace hP : va_P D vwCl (bX5 cI cZ a q o20) H := by rw [eo20]; exact hP
            replace hD : va_D A (bX5 cI cZ a q o20) := by rw [eo20]; exact hD
            refine lv_aload_n (pc := 136) hx hb dX5_extra_136 rfl (lv_at hl 2 rfl) ?_
            obtain ⟨x21, ex21, hf⟩ := bd_some hf
            refine ct_V1 (pc := 137) (As := []) (rest := []) (W1 := bX5 cI cZ a q x21) ⟨hx, hb, hml, hown, hts⟩ hK (c_X5_shares l D cI cZ cS a q o20 x21 ex21) gv_RX5_217 rfl hs_X5_shares rfl ⟨Nat.le_of_ble_eq_true rfl, Nat.le_of_ble_eq_true rfl⟩ (ci := 5) (q0 := 0) rfl rfl rfl hl.1 rfl (Nat.le_of_ble_eq_true rfl) dX5_extra_137 ⟨Nat.zero_le _, Nat.zero_le _⟩ hP hD hS hA (fun H locs hP hD hS => ?_)
            refine lv_aload_n (pc := 140) hx hb dX5_extra_140 rfl (lv_at hl 2 rfl) ?_
            obtain ⟨x22, ex22, hf⟩ := bd_some hf
            refine ct_V1 (pc := 141) (As := []) (rest := []) (W1 := bX5 cI cZ a q x22.2) ⟨hx, hb, hml, hown, hts⟩ hK (c_X5_laysMost l D cI cZ cS a q x21 x22 ex22) gv_RX5_248 rfl hs_X5_laysMost rfl ⟨Nat.le_of_ble_eq_true rfl, Nat.le_of_ble_eq_true rfl⟩ (ci := 5) (q0 := 0) rfl rfl rfl hl.1 rfl (Nat.le_of_ble_eq_true rfl) dX5_extra_141 ⟨Nat.zero_le _, Nat.zero_le _⟩ hP hD hS hA (fun H locs hP hD hS => ?_)
            refine lv_if_eq (pc := 144) (tgt := 186) hx hb dX5_extra_144 (by decide) (fun c23 => ?_) (fun c23 => ?_)
            · replace hf := ip c23 hf
              refine lv_iinc (v := (v8 + 1)) (lv' := [(8, .int (v8 + 1)), (10, .int ((v8 - v8 / 19 * 19) - 9)), (9, .int ((v8 / 19) - 9)), (0, .ref a), (1, .int i0), (2, .int i1), (3, .int v3), (4, .long v4), (6, .long v6)]) (pc := 186) hx hb dX5_extra_186 hl (k := 8) rfl rfl (by decide) rfl (fun ls hl => ?_)
              refine lv_goto (pc := 189) (tgt := 22) hx hb dX5_extra_189 (by decide) ?_
              exact ih _ _ _ _ _ H locs ls hf hP hD hS (lv_sub hl [3, 4, 5, 6, 7, 8, 0] rfl)
            · replace hf := im c23 hf
              refine lv_iload_n (pc := 147) hx hb dX5_extra_147 rfl (lv_at hl 5 rfl) ?_
              refine lv_bipush (v := -9) (pc := 148) hx hb dX5_extra_148 (by decide) ?_
              refine lv_icmp_eq (pc := 150) (tgt := 171) hx hb dX5_extra_150 (by decide) (fun c24 => ?_) (fun c24 => ?_)
              · replace hf := ip c24 hf
                refine lv_iload (pc := 171) hx hb dX5_extra_171 (lv_at hl 8 rfl) ?_
                refine lv_istore_n (lv' := [(3, .int v8), (10, .int ((v8 - v8 / 19 * 19) - 9)), (9, .int ((v8 / 19) - 9)), (0, .ref a), (1, .int i0), (2, .int i1), (4, .long v4), (6, .long v6), (8, .int v8)]) (pc := 173) hx hb dX5_extra_173 rfl hl (by decide) rfl (fun ls hl => ?_)
                refine lv_aload_n (pc := 174) hx hb dX5_extra_174 rfl (lv_at hl 3 rfl) ?_
                refine va_get (pc := 175) (D := D) (ci := 5) (v := .long (x22.2.2.1 33)) (C := RX5) (T := TX5) (N := 41) hx hb hts iX5 hown hK.1 hP 0 rfl rfl 33 (by decide) (hts _ fl_RX5_227) (fun _ h => h) rfl dX5_extra_175 ?_
                refine lv_lstore (lv' := [(4, .long (x22.2.2.1 33)), (3, .int v8), (10, .int ((v8 - v8 / 19 * 19) - 9)), (9, .int ((v8 / 19) - 9)), (0, .ref a), (1, .int i0), (2, .int i1), (6, .long v6), (8, .int v8)]) (pc := 178) hx hb dX5_extra_178 hl (by decide) rfl (fun ls hl => ?_)
                refine lv_aload_n (pc := 180) hx hb dX5_extra_180 rfl (lv_at hl 4 rfl) ?_
                refine va_get (pc := 181) (D := D) (ci := 5) (v := .long (x22.2.2.1 34)) (C := RX5) (T := TX5) (N := 41) hx hb hts iX5 hown hK.1 hP 0 rfl rfl 34 (by decide) (hts _ fl_RX5_230) (fun _ h => h) rfl dX5_extra_181 ?_
                refine lv_lstore (lv' := [(6, .long (x22.2.2.1 34)), (4, .long (x22.2.2.1 33)), (3, .int v8), (10, .int ((v8 - v8 / 19 * 19) - 9)), (9, .int ((v8 / 19) - 9)), (0, .ref a), (1, .int i0), (2, .int i1), (8, .int v8)]) (pc := 184) hx hb dX5_extra_184 hl (by decide) rfl (fun ls hl => ?_)
                refine lv_iinc (v := (v8 + 1)) (lv' := [(8, .int (v8 + 1)), (6, .long (x22.2.2.1 34)), (4, .long (x22.2.2.1 33)), (3, .int v8), (10, .int ((v8 - v8 / 19 * 19) - 9)), (9, .int ((v8 / 19) - 9)), (0, .ref a), (1, .int i0), (2, .int i1)]) (pc := 186) hx hb dX5_extra_186 hl (k := 8) rfl rfl (by decide) rfl (fun ls hl => ?_)
                refine lv_goto (pc := 189) (tgt := 22) hx hb dX5_extra_189 (by decide) ?_
                exact ih _ _ _ _ _ H locs ls hf hP hD hS (lv_sub hl [6, 7, 8, 3, 2, 1, 0] rfl)
              · replace hf := im c24 hf
                refine lv_aload_n (pc := 153) hx hb dX5_extra_153 rfl (lv_at hl 2 rfl) ?_
                refine va_get (pc := 154) (D := D) (ci := 5) (v := .long (x22.2.2.1 33)) (C := RX5) (T := TX5) (N := 41) hx hb hts iX5 hown hK.1 hP 0 rfl rfl 33 (by decide) (hts _ fl_RX5_227) (fun _ h => h) rfl dX5_extra_154 ?_
                refine lv_aload_n (pc := 157) hx hb dX5_extra_157 rfl (lv_at hl 2 rfl) ?_
                refine va_get (pc := 158) (D := D) (ci := 5) (v := .long (x22.2.2.1 34)) (C := RX5) (T := TX5) (N := 41) hx hb hts iX5 hown hK.1 hP 0 rfl rfl 34 (by decide) (hts _ fl_RX5_230) (fun _ h => h) rfl dX5_extra_158 ?_
                refine lv_lload (pc := 161) hx hb dX5_extra_161 (lv_at hl 6 rfl) ?_
                refine lv_lload (pc := 163) hx hb dX5_extra_163 (lv_at hl 7 rfl) ?_
                obtain ⟨x25, ex25, hf⟩ := bd_some hf
                refine ct_S0 (pc := 165) (As := [.long (x22.2.2.1 33), .long (x22.2.2.1 34), .long v4, .long v6]) (rest := []) ⟨hx, hb, hml, hown, hts⟩ hK (c_X5_against l D cI cZ cS (x22.2.2.1 33) (x22.2.2.1 34) v4 v6 x25 ex25) gs_RX5_266 hs_X5_against rfl ⟨Nat.le_of_ble_eq_true rfl, Nat.le_of_ble_eq_true rfl⟩ hl.1 rfl (Nat.le_of_ble_eq_true rfl) dX5_extra_165 ⟨Nat.zero_le _, Nat.zero_le _⟩ hP hS hA (fun H locs hP hS => ?_)
                refine lv_if_ge (pc := 168) (tgt := 186) hx hb dX5_extra_168 (by decide) (fun c26 => ?_) (fun c26 => ?_)
                · replace hf := ip c26 hf
                  refine lv_iinc (v := (v8 + 1)) (lv' := [(8, .int (v8 + 1)), (10, .int ((v8 - v8 / 19 * 19) - 9)), (9, .int ((v8 / 19) - 9)), (0, .ref a), (1, .int i0), (2, .int i1), (3, .int v3), (4, .long v4), (6, .long v6)]) (pc := 186) hx hb dX5_extra_186 hl (k := 8) rfl rfl (by decide) rfl (fun ls hl => ?_)
                  refine lv_goto (pc := 189) (tgt := 22) hx hb dX5_extra_189 (by decide) ?_
                  exact ih _ _ _ _ _ H locs ls hf hP hD hS (lv_sub hl [3, 4, 5, 6, 7, 8, 0] rfl)
                · replace hf := im c26 hf
                  refine lv_iload (pc := 171) hx hb dX5_extra_171 (lv_at hl 8 rfl) ?_
                  refine lv_istore_n (lv' := [(3, .int v8), (10, .int ((v8 - v8 / 19 * 19) - 9)), (9, .int ((v8 / 19) - 9)), (0, .ref a), (1, .int i0), (2, .int i1), (4, .long v4), (6, .long v6), (8, .int v8)]) (pc := 173) hx hb dX5_extra_173 rfl hl (by decide) rfl (fun ls hl => ?_)
                  refine lv_aload_n (pc := 174) hx hb dX5_extra_174 rfl (lv_at hl 3 rfl) ?_
                  refine va_get (pc := 175) (D := D) (ci := 5) (v := .long (x22.2.2.1 33)) (C := RX5) (T := TX5) (N := 41) hx hb hts iX5 hown hK.1 hP 0 rfl rfl 33 (by decide) (hts _ fl_RX5_227) (fun _ h => h) rfl dX5_extra_175 ?_
                  refine lv_lstore (lv' := [(4, .long (x22.2.2.1 33)), (3, .int v8), (10, .int ((v8 - v8 / 19 * 19) - 9)), (9, .int ((v8 / 19) - 9)), (0, .ref a), (1, .int i0), (2, .int i1), (6, .long v6), (8, .int v8)]) (pc := 178) hx hb dX5_extra_178 hl (by decide) rfl (fun ls hl => ?_)
                  refine lv_aload_n (pc := 180) hx hb dX5_extra_180 rfl (lv_at hl 4 rfl) ?_
                  refine va_get (pc := 181) (D := D) (ci := 5) (v := .long (x22.2.2.1 34)) (C := RX5) (T := TX5) (N := 41) hx hb hts iX5 hown hK.1 hP 0 rfl rfl 34 (by decide) (hts _ fl_RX5_230) (fun _ h => h) rfl dX5_extra_181 ?_
                  refine lv_lstore (lv' := [(6, .long (x22.2.2.1 34)), (4, .long (x22.2.2.1 33)), (3, .int v8), (10, .int ((v8 - v8 / 19 * 19) - 9)), (9, .int ((v8 / 19) - 9)), (0, .ref a), (1, .int i0), (2, .int i1), (8, .int v8)]) (pc := 184) hx hb dX5_extra_184 hl (by decide) rfl (fun ls hl => ?_)
                  refine lv_iinc (v := (v8 + 1)) (lv' := [(8, .int (v8 + 1)), (6, .long (x22.2.2.1 34)), (4, .long (x22.2.2.1 33)), (3, .int v8), (10, .int ((v8 - v8 / 19 * 19) - 9)), (9, .int ((v8 / 19) - 9)), (0, .ref a), (1, .int i0), (2, .int i1)]) (pc := 186) hx hb dX5_extra_186 hl (k := 8) rfl rfl (by decide) rfl (fun ls hl => ?_)
                  refine lv_goto (pc := 189) (tgt := 22) hx hb dX5_extra_189 (by decide) ?_
                  exact ih _ _ _ _ _ H locs ls hf hP hD hS (lv_sub hl [6, 7, 8, 3, 2, 1, 0] rfl)
    exact KL5 1000 _ _ _ _ _ H locs ls hz3 hP hD hS (lv_sub hl [4, 5, 6, 3, 2, 1, 0] rfl)
  · replace hf := ip c2 hf
    refine lv_iconst (v := -1) (pc := 8) hx hb dX5_extra_8 (by decide) ?_
    obtain rfl := Option.some.inj hf
    exact W.iret hx hb hr (fun t ht hW => ⟨rfl, by rw [ht]; exact hP, hD, hS.F ht⟩) hS.2.2 dX5_extra_9
def lp_X5_odds_109 (r1 : Int32) (r3 : Int32) (r8 : Int32) (u_M : OS) : Nat → Int64 → Int32 → Option (Int64 × Int32)
  | 0, _, _ => none
  | n + 1, v9, v11 => if (u_M.1 21) ≤ v11 then some (v9, v11) else if ((r3 >>> (v11 &&& 31)) &&& 1) = 0 then lp_X5_odds_109 r1 r3 r8 u_M n (v9 * 1) (v11 + 1) else if ((r8 >>> (v11 &&& 31)) &&& 1) = 1 then lp_X5_odds_109 r1 r3 r8 u_M n (v9 * (((10 - r1) : Int32).toInt64)) (v11 + 1) else lp_X5_odds_109 r1 r3 r8 u_M n (v9 * r1.toInt64) (v11 + 1)
def lp_X5_odds_83 (r1 : Int32) (r3 : Int32) : Nat → Int64 → Int32 → OS → Option (Int64 × Int32 × OS)
  | 0, _, _, _ => none
  | n + 1, v4, v8, w_M => if (1 <<< ((w_M.1 21) &&& 31)) ≤ v8 then some (v4, v8, w_M) else if (v8 &&& (r3 ^^^ (-1))) = 0 then Option.bind (lp_X5_odds_109 r1 r3 v8 w_M 1000 1 0) fun z16 => lt (sI w_M 22 v8) fun o19 => Option.bind (f_X5_shares o19) fun x20 => Option.bind (f_X5_laysMost x20) fun x21 => if x21.1 = 0 then lp_X5_odds_83 r1 r3 n (v4 + 0) (v8 + 1) x21.2 else if (x21.2.2.1 34) < (x21.2.2.1 33) then lp_X5_odds_83 r1 r3 n (v4 + 0) (v8 + 1) x21.2 else lp_X5_odds_83 r1 r3 n (v4 + z16.1) (v8 + 1) x21.2 else lp_X5_odds_83 r1 r3 n v4 (v8 + 1) w_M
def lp_X5_odds_43 (r3 : Int32) (u_M : OS) : Nat → Int64 → Int32 → Option (Int64 × Int32)
  | 0, _, _ => none
  | n + 1, v6, v8 => if (u_M.1 21) ≤ v8 then some (v6, v8) else if ((r3 >>> (v8 &&& 31)) &&& 1) = 1 then lp_X5_odds_43 r3 u_M n (v6 * 10) (v8 + 1) else lp_X5_odds_43 r3 u_M n (v6 * 1) (v8 + 1)
def f_X5_odds (i0 : Int32) (i1 : Int32) (om : OS) : Option (Int32 × OS) := Option.bind (f_X5_in i0 0 10) fun x1 => if x1 = 0 then some ((-1), om) else Option.bind (f_X5_in i1 0 1) fun x3 => if x3 = 0 then some ((-1), om) else Option.bind (f_X5_laysPiles om) fun x5 => Option.bind (f_X5_laysSums x5) fun x6 => Option.bind (lp_X5_odds_43 (x6.1 22) x6 1000 1 0) fun z7 => Option.bind (lp_X5_odds_83 i0 (x6.1 22) 1000 0 0 x6) fun z10 => Option.bind (f_X5_part z10.1 z7.1 i1) fun x13 => some (((x13 : Int64).toInt32), z10.2.2)
set_option maxHeartbeats 4000000 in
set_option maxRecDepth 100000 in
theorem c_X5_odds (l : Launch) (D : va_G) (cI cZ cS : ClassId) (a : Nat) (q : Nat → Nat) (i0 : Int32) (i1 : Int32) (om : OS) (x : (Int32 × OS)) (hf : f_X5_odds i0 i1 om = some x) : Ct l yX5_odds cX5_odds 12 (some .int) 4 93 D cI cZ cS [.ref a, .int i0, .int i1] (bX5 cI cZ a q om) (some (.int x.1)) (bX5 cI cZ a q x.2) := by
  intro sz
  refine Met.ofW (cc := cX5_odds) (maxL := 12) (ret := (some .int)) (by decide +kernel) rfl ?_
  intro p e s m args below meth c s₁ B hml hv
  obtain ⟨rfl, hsz, hP, hK, hD0⟩ := hv
  have hx := B.exec
  have hb := B.bytes
  have hr := B.returns
  have hts0 := atoms_spec (ws := .code yX5_odds cX5_odds 12 (some .int) :: TB) B.pre
  have hts := fun w (h : w ∈ TB) => hts0 w (List.mem_cons_of_mem _ h)
  have hown : s.vm.findClass RX5 = some m.cls := findClass_of_methodNamed B.named
  have hlocks := B.notSynchronized
  subst hsz
  have hD := hD0.self (sz := s.heap.size)
  generalize hAe : va_A (bX5 cI cZ a q om) s.heap.size = A at hD ⊢
  have hA : ∀ q : Nat, s.heap.size ≤ q → A q := fun q h => by rw [← hAe]; exact Or.inr h
  have hS : va_S A s.heap s.heap [] := va_S.rf
  obtain ⟨H, hH⟩ : ∃ H, H = s.heap := ⟨_, rfl⟩
  rw [← hH] at hP
  have hS : va_S A s.heap H [] := by rw [hH]; exact hS
  have hl := lv_entry ([.ref a, .int i0, .int i1]) (n := 12) (Nat.le_of_ble_eq_true rfl)
  rw [lg_entry_eq]
  generalize (lg_sl ([.ref a, .int i0, .int i1]) ++ List.replicate (12 - (lg_sl ([.ref a, .int i0, .int i1])).length) Slot.unset).toArray = ls at hl ⊢
  have hl : lv_has ls 12 [(0, .ref a), (1, .int i0), (2, .int i1)] := hl
  refine W_heap hH ?_
  obtain ⟨locs, hlo⟩ : ∃ locs : List Loc, locs = [] := ⟨_, rfl⟩
  rw [← hlo] at hS ⊢
  unfold f_X5_odds at hf
  refine lv_iload_n (pc := 0) hx hb dX5_odds_0 rfl (lv_at hl 1 rfl) ?_
  refine lv_iconst (v := 0) (pc := 1) hx hb dX5_odds_1 (by decide) ?_
  refine lv_bipush (v := 10) (pc := 2) hx hb dX5_odds_2 (by decide) ?_
  obtain ⟨x1, ex1, hf⟩ := bd_some hf
  refine ct_S0 (pc := 4) (As := [.int i0, .int 0, .int 10]) (rest := []) ⟨hx, hb, hml, hown, hts⟩ hK (c_X5_in l D cI cZ cS i0 0 10 x1 ex1) gs_RX5_57 hs_X5_in rfl ⟨Nat.le_of_ble_eq_true rfl, Nat.le_of_ble_eq_true rfl⟩ hl.1 rfl (Nat.le_of_ble_eq_true rfl) dX5_odds_4 ⟨Nat.zero_le _, Nat.zero_le _⟩ hP hS hA (fun H locs hP hS => ?_)
  refine lv_if_eq (pc := 7) (tgt := 19) hx hb dX5_odds_7 (by decide) (fun c2 => ?_) (fun c2 => ?_)
  · replace hf := ip c2 hf
    refine lv_iconst (v := -1) (pc := 19) hx hb dX5_odds_19 (by decide) ?_
    obtain rfl := Option.some.inj hf
    exact W.iret hx hb hr (fun t ht hW => ⟨rfl, by rw [ht]; exact hP, hD, hS.F ht⟩) hS.2.2 dX5_odds_20
  · replace hf := im c2 hf
    refine lv_iload_n (pc := 10) hx hb dX5_odds_10 rfl (lv_at hl 2 rfl) ?_
    refine lv_iconst (v := 0) (pc := 11) hx hb dX5_odds_11 (by decide) ?_
    refine lv_iconst (v := 1) (pc := 12) hx hb dX5_odds_12 (by decide) ?_
    obtain ⟨x3, ex3, hf⟩ := bd_some hf
    refine ct_S0 (pc := 13) (As := [.int i1, .int 0, .int 1]) (rest := []) ⟨hx, hb, hml, hown, hts⟩ hK (c_X5_in l D cI cZ cS i1 0 1 x3 ex3) gs_RX5_57 hs_X5_in rfl ⟨Nat.le_of_ble_eq_true rfl, Nat.le_of_ble_eq_true rfl⟩ hl.1 rfl (Nat.le_of_ble_eq_true rfl) dX5_odds_13 ⟨Nat.zero_le _, Nat.zero_le _⟩ hP hS hA (fun H locs hP hS => ?_)
    refine lv_if_ne (pc := 16) (tgt := 21) hx hb dX5_odds_16 (by decide) (fun c4 => ?_) (fun c4 => ?_)
    · replace hf := im c4 hf
      refine lv_aload_n (pc := 21) hx hb dX5_odds_21 rfl (lv_at hl 0 rfl) ?_
      obtain ⟨x5, ex5, hf⟩ := bd_some hf
      refine ct_V1 (pc := 22) (As := []) (rest := []) (W1 := bX5 cI cZ a q x5) ⟨hx, hb, hml, hown, hts⟩ hK (c_X5_laysPiles l D cI cZ cS a q om x5 ex5) gv_RX5_211 rfl hs_X5_laysPiles rfl ⟨Nat.le_of_ble_eq_true rfl, Nat.le_of_ble_eq_true rfl⟩ (ci := 5) (q0 := 0) rfl rfl rfl hl.1 rfl (Nat.le_of_ble_eq_true rfl) dX5_odds_22 ⟨Nat.zero_le _, Nat.zero_le _⟩ hP hD hS hA (fun H locs hP hD hS => ?_)
      refine lv_aload_n (pc := 25) hx hb dX5_odds_25 rfl (lv_at hl 0 rfl) ?_
      obtain ⟨x6, ex6, hf⟩ := bd_some hf
      refine ct_V1 (pc := 26) (As := []) (rest := []) (W1 := bX5 cI cZ a q x6) ⟨hx, hb, hml, hown, hts⟩ hK (c_X5_laysSums l D cI cZ cS a q x5 x6 ex6) gv_RX5_214 rfl hs_X5_laysSums rfl ⟨Nat.le_of_ble_eq_true rfl, Nat.le_of_ble_eq_true rfl⟩ (ci := 5) (q0 := 0) rfl rfl rfl hl.1 rfl (Nat.le_of_ble_eq_true rfl) dX5_odds_26 ⟨Nat.zero_le _, Nat.zero_le _⟩ hP hD hS hA (fun H locs hP hD hS => ?_)
      refine lv_aload_n (pc := 29) hx hb dX5_odds_29 rfl (lv_at hl 0 rfl) ?_
      refine va_get (pc := 30) (D := D) (ci := 5) (v := .int (x6.1 22)) (C := RX5) (T := TX5) (N := 41) hx hb hts iX5 hown hK.1 hP 0 rfl rfl 22 (by decide) (hts _ fl_RX5_153) (fun _ h => h) rfl dX5_odds_30 ?_
      refine lv_istore_n (lv' := [(3, .int (x6.1 22)), (0, .ref a), (1, .int i0), (2, .int i1)]) (pc := 33) hx hb dX5_odds_33 rfl hl (by decide) rfl (fun ls hl => ?_)
      refine lv_lconst (v := 0) (pc := 34) hx hb dX5_odds_34 (by decide) ?_
      refine lv_lstore (lv' := [(4, .long 0), (3, .int (x6.1 22)), (0, .ref a), (1, .int i0), (2, .int i1)]) (pc := 35) hx hb dX5_odds_35 hl (by decide) rfl (fun ls hl => ?_)
      refine lv_lconst (v := 1) (pc := 37) hx hb dX5_odds_37 (by decide) ?_
      refine lv_lstore (lv' := [(6, .long 1), (4, .long 0), (3, .int (x6.1 22)), (0, .ref a), (1, .int i0), (2, .int i1)]) (pc := 38) hx hb dX5_odds_38 hl (by decide) rfl (fun ls hl => ?_)
      refine lv_iconst (v := 0) (pc := 40) hx hb dX5_odds_40 (by decide) ?_
      refine lv_istore (lv' := [(8, .int 0), (6, .long 1), (4, .long 0), (3, .int (x6.1 22)), (0, .ref a), (1, .int i0), (2, .int i1)]) (pc := 41) hx hb dX5_odds_41 hl (by decide) rfl (fun ls hl => ?_)
      obtain ⟨z7, hz7, hf⟩ := bd_some hf
      have hfz7 := hf
      clear hf
      have K8 : ∀ (H : Heap) (locs : List Loc) (ls : Array Slot), va_P D vwCl (bX5 cI cZ a q x6) H → va_D A (bX5 cI cZ a q x6) → va_S A s.heap H locs → lv_has ls 12 [(0, .ref a), (1, .int i0), (2, .int i1), (3, .int (x6.1 22)), (4, .long 0), (6, .long z7.1), (8, .int z7.2)] → GW l yX5_odds cX5_odds 12 (some .int) 4 93 D [.ref a, .int i0, .int i1] (some (.int x.1)) (bX5 cI cZ a q x.2) A p e s m below meth c H locs (F0 m 80 ls []) := by
        intro H locs ls hP hD hS hl
        have hf := hfz7
        refine lv_iconst (v := 0) (pc := 80) hx hb dX5_odds_80 (by decide) ?_
        refine lv_istore (lv' := [(8, .int 0), (0, .ref a), (1, .int i0), (2, .int i1), (3, .int (x6.1 22)), (4, .long 0), (6, .long z7.1)]) (pc := 81) hx hb dX5_odds_81 hl (by decide) rfl (fun ls hl => ?_)
        obtain ⟨z10, hz10, hf⟩ := bd_some hf
        have hfz10 := hf
        clear hf
        have K11 : ∀ (H : Heap) (locs : List Loc) (ls : Array Slot), va_P D vwCl (bX5 cI cZ a q z10.2.2) H → va_D A (bX5 cI cZ a q z10.2.2) → va_S A s.heap H locs → lv_has ls 12 [(0, .ref a), (1, .int i0), (2, .int i1), (3, .int (x6.1 22)), (4, .long z10.1), (6, .long z7.1), (8, .int z10.2.1)] → GW l yX5_odds cX5_odds 12 (some .int) 4 93 D [.ref a, .int i0, .int i1] (some (.int x.1)) (bX5 cI cZ a q x.2) A p e s m below meth c H locs (F0 m 209 ls []) := by
          intro H locs ls hP hD hS hl
          have hf := hfz10
          refine lv_lload (pc := 209) hx hb dX5_odds_209 (lv_at hl 4 rfl) ?_
          refine lv_lload (pc := 211) hx hb dX5_odds_211 (lv_at hl 5 rfl) ?_
          refine lv_iload_n (pc := 213) hx hb dX5_odds_213 rfl (lv_at hl 2 rfl) ?_
          obtain ⟨x13, ex13, hf⟩ := bd_some hf
          refine ct_S0 (pc := 214) (As := [.long z10.1, .long z7.1, .int i1]) (rest := []) ⟨hx, hb, hml, hown, hts⟩ hK (c_X5_part l D cI cZ cS z10.1 z7.1 i1 x13 ex13) gs_RX5_233 hs_X5_part rfl ⟨Nat.le_of_ble_eq_true rfl, Nat.le_of_ble_eq_true rfl⟩ hl.1 rfl (Nat.le_of_ble_eq_true rfl) dX5_odds_214 ⟨Nat.zero_le _, Nat.zero_le _⟩ hP hS hA (fun H locs hP hS => ?_)
          refine lv_l2i (pc := 217) hx hb dX5_odds_217 rfl ?_
          obtain rfl := Option.some.inj hf
          exact W.iret hx hb hr (fun t ht hW => ⟨rfl, by rw [ht]; exact hP, hD, hS.F ht⟩) hS.2.2 dX5_odds_218
        have KL12 : ∀ (n : Nat) (v4 : Int64) (v8 : Int32) (w_M : OS) (H : Heap) (locs : List Loc) (ls : Array Slot), lp_X5_odds_83 i0 (x6.1 22) n v4 v8 w_M = some z10 → va_P D vwCl (bX5 cI cZ a q w_M) H → va_D A (bX5 cI cZ a q w_M) → va_S A s.heap H locs → lv_has ls 12 [(0, .ref a), (1, .int i0), (2, .int i1), (3, .int (x6.1 22)), (4, .long v4), (6, .long z7.1), (8, .int v8)] → GW l yX5_odds cX5_odds 12 (some .int) 4 93 D [.ref a, .int i0, .int i1] (some (.int x.1)) (bX5 cI cZ a q x.2) A p e s m below meth c H locs (F0 m 83 ls []) := by
          intro n
          induction n with
          | zero => intro v4 v8 w_M H locs ls hf; cases hf
          | succ n ih =>
            intro v4 v8 w_M H locs ls hf hP hD hS hl
            rw [lp_X5_odds_83] at hf
            refine lv_iload (pc := 83) hx hb dX5_odds_83 (lv_at hl 6 rfl) ?_
            refine lv_iconst (v := 1) (pc := 85) hx hb dX5_odds_85 (by decide) ?_
            refine lv_aload_n (pc := 86) hx hb dX5_odds_86 rfl (lv_at hl 0 rfl) ?_
            refine va_get (pc := 87) (D := D) (ci := 5) (v := .int (w_M.1 21)) (C := RX5) (T := TX5) (N := 41) hx hb hts iX5 hown hK.1 hP 0 rfl rfl 21 (by decide) (hts _ fl_RX5_150) (fun _ h => h) rfl dX5_odds_87 ?_
            refine lv_ishl (pc := 90) hx hb dX5_odds_90 ?_
            refine lv_icmp_ge (pc := 91) (tgt := 209) hx hb dX5_odds_91 (by decide) (fun c14 => ?_) (fun c14 => ?_)
            · replace hf := ip c14 hf
              obtain rfl := Option.some.inj hf
              exact K11 H locs ls hP hD hS (lv_sub hl [0, 1, 2, 3, 4, 5, 6] rfl)
            · replace hf := im c14 hf
              refine lv_iload (pc := 94) hx hb dX5_odds_94 (lv_at hl 6 rfl) ?_
              refine lv_iload_n (pc := 96) hx hb dX5_odds_96 rfl (lv_at hl 3 rfl) ?_
              refine lv_iconst (v := -1) (pc := 97) hx hb dX5_odds_97 (by decide) ?_
              refine lv_ixor (pc := 98) hx hb dX5_odds_98 ?_
              refine lv_iand (pc := 99) hx hb dX5_odds_99 ?_
              refine lv_if_ne (pc := 100) (tgt := 203) hx hb dX5_odds_100 (by decide) (fun c15 => ?_) (fun c15 => ?_)
              · replace hf := im c15 hf
                refine lv_iinc (v := (v8 + 1)) (lv' := [(8, .int (v8 + 1)), (0, .ref a), (1, .int i0), (2, .int i1), (3, .int (x6.1 22)), (4, .long v4), (6, .long z7.1)]) (pc := 203) hx hb dX5_odds_203 hl (k := 6) rfl rfl (by decide) rfl (fun ls hl => ?_)
                refine lv_goto (pc := 206) (tgt := 83) hx hb dX5_odds_206 (by decide) ?_
                exact ih _ _ _ H locs ls hf hP hD hS (lv_sub hl [1, 2, 3, 4, 5, 6, 0] rfl)
              · replace hf := ip c15 hf
                refine lv_lconst (v := 1) (pc := 103) hx hb dX5_odds_103 (by decide) ?_
                refine lv_lstore (lv' := [(9, .long 1), (0, .ref a), (1, .int i0), (2, .int i1), (3, .int (x6.1 22)), (4, .long v4), (6, .long z7.1), (8, .int v8)]) (pc := 104) hx hb dX5_odds_104 hl (by decide) rfl (fun ls hl => ?_)
                refine lv_iconst (v := 0) (pc := 106) hx hb dX5_odds_106 (by decide) ?_
                refine lv_istore (lv' := [(11, .int 0), (9, .long 1), (0, .ref a), (1, .int i0), (2, .int i1), (3, .int (x6.1 22)), (4, .long v4), (6, .long z7.1), (8, .int v8)]) (pc := 107) hx hb dX5_odds_107 hl (by decide) rfl (fun ls hl => ?_)
                obtain ⟨z16, hz16, hf⟩ := bd_some hf
                have hfz16 := hf
                clear hf
                have K17 : ∀ (H : Heap) (locs : List Loc) (ls : Array Slot), va_P D vwCl (bX5 cI cZ a q w_M) H → va_D A (bX5 cI cZ a q w_M) → va_S A s.heap H locs → lv_has ls 12 [(0, .ref a), (1, .int i0), (2, .int i1), (3, .int (x6.1 22)), (4, .long v4), (6, .long z7.1), (8, .int v8), (9, .long z16.1), (11, .int z16.2)] → GW l yX5_odds cX5_odds 12 (some .int) 4 93 D [.ref a, .int i0, .int i1] (some (.int x.1)) (bX5 cI cZ a q x.2) A p e s m below meth c H locs (F0 m 163 ls []) := by
                  intro H locs ls hP hD hS hl
                  have hf := hfz16
                  refine lv_aload_n (pc := 163) hx hb dX5_odds_163 rfl (lv_at hl 0 rfl) ?_
                  refine lv_iload (pc := 164) hx hb dX5_odds_164 (lv_at hl 6 rfl) ?_
                  obtain ⟨o19, eo19, hf⟩ := lt_some hf
                  refine va_put (pc := 166) (D := D) (ci := 5) (v := .int v8) (ty := .int) (C := RX5) (T := TX5) (N := 41) hx hb hts iX5 tyX5 tyX5_ok nmX5 hown hK.1 hP hD hS 0 rfl rfl 22 (by decide) (hts _ fl_RX5_153) (fun _ h => h) rfl (tyX5_ok 22 (by decide)) rfl rfl (Nat.le_of_ble_eq_true rfl) dX5_odds_166 (fun H locs hP hD hS => ?_)
                  replace hP : va_P D vwCl (bX5 cI cZ a q o19) H := by rw [eo19]; exact hP
                  replace hD : va_D A (bX5 cI cZ a q o19) := by rw [eo19]; exact hD
                  refine lv_aload_n (pc := 169) hx hb dX5_odds_169 rfl (lv_at hl 0 rfl) ?_
                  obtain ⟨x20, ex20, hf⟩ := bd_some hf
                  refine ct_V1 (pc := 170) (As := []) (rest := []) (W1 := bX5 cI cZ a q x20) ⟨hx, hb, hml, hown, hts⟩ hK (c_X5_shares l D cI cZ cS a q o19 x20 ex20) gv_RX5_217 rfl hs_X5_shares rfl ⟨Nat.le_of_ble_eq_true rfl, Nat.le_of_ble_eq_true rfl⟩ (ci := 5) (q0 := 0) rfl rfl rfl hl.1 rfl (Nat.le_of_ble_eq_true rfl) dX5_odds_170 ⟨Nat.zero_le _, Nat.zero_le _⟩ hP hD hS hA (fun H locs hP hD hS => ?_)
                  refine lv_lload (pc := 173) hx hb dX5_odds_173 (lv_at hl 4 rfl) ?_
                  refine lv_aload_n (pc := 175) hx hb dX5_odds_175 rfl (lv_at hl 0 rfl) ?_
                  obtain ⟨x21, ex21, hf⟩ := bd_some hf
                  refine ct_V1 (pc := 176) (As := []) (rest := [.long v4]) (W1 := bX5 cI cZ a q x21.2) ⟨hx, hb, hml, hown, hts⟩ hK (c_X5_laysMost l D cI cZ cS a q x20 x21 ex21) gv_RX5_248 rfl hs_X5_laysMost rfl ⟨Nat.le_of_ble_eq_true rfl, Nat.le_of_ble_eq_true rfl⟩ (ci := 5) (q0 := 0) rfl rfl rfl hl.1 rfl (Nat.le_of_ble_eq_true rfl) dX5_odds_176 ⟨Nat.zero_le _, Nat.zero_le _⟩ hP hD hS hA (fun H locs hP hD hS => ?_)
                  refine lv_if_eq (pc := 179) (tgt := 199) hx hb dX5_odds_179 (by decide) (fun c22 => ?_) (fun c22 => ?_)
                  · replace hf := ip c22 hf
                    refine lv_lconst (v := 0) (pc := 199) hx hb dX5_odds_199 (by decide) ?_
                    refine lv_ladd (pc := 200) hx hb dX5_odds_200 ?_
                    refine lv_lstore (lv' := [(4, .long (v4 + 0)), (0, .ref a), (1, .int i0), (2, .int i1), (3, .int (x6.1 22)), (6, .long z7.1), (8, .int v8), (9, .long z16.1), (11, .int z16.2)]) (pc := 201) hx hb dX5_odds_201 hl (by decide) rfl (fun ls hl => ?_)
                    refine lv_iinc (v := (v8 + 1)) (lv' := [(8, .int (v8 + 1)), (4, .long (v4 + 0)), (0, .ref a), (1, .int i0), (2, .int i1), (3, .int (x6.1 22)), (6, .long z7.1), (9, .long z16.1), (11, .int z16.2)]) (pc := 203) hx hb dX5_odds_203 hl (k := 6) rfl rfl (by decide) rfl (fun ls hl => ?_)
                    refine lv_goto (pc := 206) (tgt := 83) hx hb dX5_odds_206 (by decide) ?_
                    exact ih _ _ _ H locs ls hf hP hD hS (lv_sub hl [2, 3, 4, 5, 1, 6, 0] rfl)
                  · replace hf := im c22 hf
                    refine lv_aload_n (pc := 182) hx hb dX5_odds_182 rfl (lv_at hl 0 rfl) ?_
                    refine va_get (pc := 183) (D := D) (ci := 5) (v := .long (x21.2.2.1 33)) (C := RX5) (T := TX5) (N := 41) hx hb hts iX5 hown hK.1 hP 0 rfl rfl 33 (by decide) (hts _ fl_RX5_227) (fun _ h => h) rfl dX5_odds_183 ?_
                    refine lv_aload_n (pc := 186) hx hb dX5_odds_186 rfl (lv_at hl 0 rfl) ?_
                    refine va_get (pc := 187) (D := D) (ci := 5) (v := .long (x21.2.2.1 34)) (C := RX5) (T := TX5) (N := 41) hx hb hts iX5 hown hK.1 hP 0 rfl rfl 34 (by decide) (hts _ fl_RX5_230) (fun _ h => h) rfl dX5_odds_187 ?_
                    refine W.lcmp (pc := 190) hx hb dX5_odds_190 ?_
                    refine lv_if_gt (pc := 191) (tgt := 199) hx hb dX5_odds_191 (by decide) (fun c23 => ?_) (fun c23 => ?_)
                    · replace c23 := (lg_cmp_gt _ _).mp c23
                      replace hf := ip c23 hf
                      refine lv_lconst (v := 0) (pc := 199) hx hb dX5_odds_199 (by decide) ?_
                      refine lv_ladd (pc := 200) hx hb dX5_odds_200 ?_
                      refine lv_lstore (lv' := [(4, .long (v4 + 0)), (0, .ref a), (1, .int i0), (2, .int i1), (3, .int (x6.1 22)), (6, .long z7.1), (8, .int v8), (9, .long z16.1), (11, .int z16.2)]) (pc := 201) hx hb dX5_odds_201 hl (by decide) rfl (fun ls hl => ?_)
                      refine lv_iinc (v := (v8 + 1)) (lv' := [(8, .int (v8 + 1)), (4, .long (v4 + 0)), (0, .ref a), (1, .int i0), (2, .int i1), (3, .int (x6.1 22)), (6, .long z7.1), (9, .long z16.1), (11, .int z16.2)]) (pc := 203) hx hb dX5_odds_203 hl (k := 6) rfl rfl (by decide) rfl (fun ls hl => ?_)
                      refine lv_goto (pc := 206) (tgt := 83) hx hb dX5_odds_206 (by decide) ?_
                      exact ih _ _ _ H locs ls hf hP hD hS (lv_sub hl [2, 3, 4, 5, 1, 6, 0] rfl)
                    · replace c23 := fun q => c23 ((lg_cmp_gt _ _).mpr q)
                      replace hf := im c23 hf
                      refine lv_lload (pc := 194) hx hb dX5_odds_194 (lv_at hl 7 rfl) ?_
                      refine lv_goto (pc := 196) (tgt := 200) hx hb dX5_odds_196 (by decide) ?_
                      refine lv_ladd (pc := 200) hx hb dX5_odds_200 ?_
                      refine lv_lstore (lv' := [(4, .long (v4 + z16.1)), (0, .ref a), (1, .int i0), (2, .int i1), (3, .int (x6.1 22)), (6, .long z7.1), (8, .int v8), (9, .long z16.1), (11, .int z16.2)]) (pc := 201) hx hb dX5_odds_201 hl (by decide) rfl (fun ls hl => ?_)
                      refine lv_iinc (v := (v8 + 1)) (lv' := [(8, .int (v8 + 1)), (4, .long (v4 + z16.1)), (0, .ref a), (1, .int i0), (2, .int i1), (3, .int (x6.1 22)), (6, .long z7.1), (9, .long z16.1), (11, .int z16.2)]) (pc := 203) hx hb dX5_odds_203 hl (k := 6) rfl rfl (by decide) rfl (fun ls hl => ?_)
                      refine lv_goto (pc := 206) (tgt := 83) hx hb dX5_odds_206 (by decide) ?_
                      exact ih _ _ _ H locs ls hf hP hD hS (lv_sub hl [2, 3, 4, 5, 1, 6, 0] rfl)
                have KL18 : ∀ (n : Nat) (v9 : Int64) (v11 : Int32) (H : Heap) (locs : List Loc) (ls : Array Slot), lp_X5_odds_109 i0 (x6.1 22) v8 w_M n v9 v11 = some z16 → va_P D vwCl (bX5 cI cZ a q w_M) H → va_D A (bX5 cI cZ a q w_M) → va_S A s.heap H locs → lv_has ls 12 [(0, .ref a), (1, .int i0), (2, .int i1), (3, .int (x6.1 22)), (4, .long v4), (6, .long z7.1), (8, .int v8), (9, .long v9), (11, .int v11)] → GW l yX5_odds cX5_odds 12 (some .int) 4 93 D [.ref a, .int i0, .int i1] (some (.int x.1)) (bX5 cI cZ a q x.2) A p e s m below meth c H locs (F0 m 109 ls []) := by
                  intro n
                  induction n with
                  | zero => intro v9 v11 H locs ls hf; cases hf
                  | succ n ih =>
                    intro v9 v11 H locs ls hf hP hD hS hl
                    rw [lp_X5_odds_109] at hf
                    refine lv_iload (pc := 109) hx hb dX5_odds_109 (lv_at hl 8 rfl) ?_
                    refine lv_aload_n (pc := 111) hx hb dX5_odds_111 rfl (lv_at hl 0 rfl) ?_
                    refine va_get (pc := 112) (D := D) (ci := 5) (v := .int (w_M.1 21)) (C := RX5) (T := TX5) (N := 41) hx hb hts iX5 hown hK.1 hP 0 rfl rfl 21 (by decide) (hts _ fl_RX5_150) (fun _ h => h) rfl dX5_odds_112 ?_
                    refine lv_icmp_ge (pc := 115) (tgt := 163) hx hb dX5_odds_115 (by decide) (fun c24 => ?_) (fun c24 => ?_)
                    · replace hf := ip c24 hf
                      obtain rfl := Option.some.inj hf
                      exact K17 H locs ls hP hD hS (lv_sub hl [0, 1, 2, 3, 4, 5, 6, 7, 8] rfl)
                    · replace hf := im c24 hf
                      refine lv_lload (pc := 118) hx hb dX5_odds_118 (lv_at hl 7 rfl) ?_
                      refine lv_iload_n (pc := 120) hx hb dX5_odds_120 rfl (lv_at hl 3 rfl) ?_
                      refine lv_iload (pc := 121) hx hb dX5_odds_121 (lv_at hl 8 rfl) ?_
                      refine lv_ishr (pc := 123) hx hb dX5_odds_123 ?_
                      refine lv_iconst (v := 1) (pc := 124) hx hb dX5_odds_124 (by decide) ?_
                      refine lv_iand (pc := 125) hx hb dX5_odds_125 ?_
                      refine lv_if_ne (pc := 126) (tgt := 133) hx hb dX5_odds_126 (by decide) (fun c25 => ?_) (fun c25 => ?_)
                      · replace hf := im c25 hf
                        refine lv_iload (pc := 133) hx hb dX5_odds_133 (lv_at hl 6 rfl) ?_
                        refine lv_iload (pc := 135) hx hb dX5_odds_135 (lv_at hl 8 rfl) ?_
                        refine lv_ishr (pc := 137) hx hb dX5_odds_137 ?_
                        refine lv_iconst (v := 1) (pc := 138) hx hb dX5_odds_138 (by decide) ?_
                        refine lv_iand (pc := 139) hx hb dX5_odds_139 ?_
                        refine lv_iconst (v := 1) (pc := 140) hx hb dX5_odds_140 (by decide) ?_
                        refine lv_icmp_ne (pc := 141) (tgt := 152) hx hb dX5_odds_141 (by decide) (fun c26 => ?_) (fun c26 => ?_)
                        · replace hf := im c26 hf
                          refine lv_iload_n (pc := 152) hx hb dX5_odds_152 rfl (lv_at hl 1 rfl) ?_
                          refine lv_i2l (pc := 153) hx hb dX5_odds_153 rfl ?_
                          refine lv_lmul (pc := 154) hx hb dX5_odds_154 ?_
                          refine lv_lstore (lv' := [(9, .long (v9 * i0.toInt64)), (0, .ref a), (1, .int i0), (2, .int i1), (3, .int (x6.1 22)), (4, .long v4), (6, .long z7.1), (8, .int v8), (11, .int v11)]) (pc := 155) hx hb dX5_odds_155 hl (by decide) rfl (fun ls hl => ?_)
                          refine lv_iinc (v := (v11 + 1)) (lv' := [(11, .int (v11 + 1)), (9, .long (v9 * i0.toInt64)), (0, .ref a), (1, .int i0), (2, .int i1), (3, .int (x6.1 22)), (4, .long v4), (6, .long z7.1), (8, .int v8)]) (pc := 157) hx hb dX5_odds_157 hl (k := 8) rfl rfl (by decide) rfl (fun ls hl => ?_)
                          refine lv_goto (pc := 160) (tgt := 109) hx hb dX5_odds_160 (by decide) ?_
                          exact ih _ _ H locs ls hf hP hD hS (lv_sub hl [2, 3, 4, 5, 6, 7, 8, 1, 0] rfl)
                        · replace hf := ip c26 hf
                          refine lv_bipush (v := 10) (pc := 144) hx hb dX5_odds_144 (by decide) ?_
                          refine lv_iload_n (pc := 146) hx hb dX5_odds_146 rfl (lv_at hl 1 rfl) ?_
                          refine lv_isub (pc := 147) hx hb dX5_odds_147 ?_
                          refine lv_i2l (pc := 148) hx hb dX5_odds_148 rfl ?_
                          refine lv_goto (pc := 149) (tgt := 154) hx hb dX5_odds_149 (by decide) ?_
                          refine lv_lmul (pc := 154) hx hb dX5_odds_154 ?_
                          refine lv_lstore (lv' := [(9, .long (v9 * (((10 - i0) : Int32).toInt64))), (0, .ref a), (1, .int i0), (2, .int i1), (3, .int (x6.1 22)), (4, .long v4), (6, .long z7.1), (8, .int v8), (11, .int v11)]) (pc := 155) hx hb dX5_odds_155 hl (by decide) rfl (fun ls hl => ?_)
                          refine lv_iinc (v := (v11 + 1)) (lv' := [(11, .int (v11 + 1)), (9, .long (v9 * (((10 - i0) : Int32).toInt64))), (0, .ref a), (1, .int i0), (2, .int i1), (3, .int (x6.1 22)), (4, .long v4), (6, .long z7.1), (8, .int v8)]) (pc := 157) hx hb dX5_odds_157 hl (k := 8) rfl rfl (by decide) rfl (fun ls hl => ?_)
                          refine lv_goto (pc := 160) (tgt := 109) hx hb dX5_odds_160 (by decide) ?_
                          exact ih _ _ H locs ls hf hP hD hS (lv_sub hl [2, 3, 4, 5, 6, 7, 8, 1, 0] rfl)
                      · replace hf := ip c25 hf
                        refine lv_lconst (v := 1) (pc := 129) hx hb dX5_odds_129 (by decide) ?_
                        refine lv_goto (pc := 130) (tgt := 154) hx hb dX5_odds_130 (by decide) ?_
                        refine lv_lmul (pc := 154) hx hb dX5_odds_154 ?_
                        refine lv_lstore (lv' := [(9, .long (v9 * 1)), (0, .ref a), (1, .int i0), (2, .int i1), (3, .int (x6.1 22)), (4, .long v4), (6, .long z7.1), (8, .int v8), (11, .int v11)]) (pc := 155) hx hb dX5_odds_155 hl (by decide) rfl (fun ls hl => ?_)
                        refine lv_iinc (v := (v11 + 1)) (lv' := [(11, .int (v11 + 1)), (9, .long (v9 * 1)), (0, .ref a), (1, .int i0), (2, .int i1), (3, .int (x6.1 22)), (4, .long v4), (6, .long z7.1), (8, .int v8)]) (pc := 157) hx hb dX5_odds_157 hl (k := 8) rfl rfl (by decide) rfl (fun ls hl => ?_)
                        refine lv_goto (pc := 160) (tgt := 109) hx hb dX5_odds_160 (by decide) ?_
                        exact ih _ _ H locs ls hf hP hD hS (lv_sub hl [2, 3, 4, 5, 6, 7, 8, 1, 0] rfl)
                exact KL18 1000 _ _ H locs ls hz16 hP hD hS (lv_sub hl [2, 3, 4, 5, 6, 7, 8, 1, 0] rfl)
        exact KL12 1000 _ _ _ H locs ls hz10 hP hD hS (lv_sub hl [1, 2, 3, 4, 5, 6, 0] rfl)
      have KL9 : ∀ (n : Nat) (v6 : Int64) (v8 : Int32) (H : Heap) (locs : List Loc) (ls : Array Slot), lp_X5_odds_43 (x6.1 22) x6 n v6 v8 = some z7 → va_P D vwCl (bX5 cI cZ a q x6) H → va_D A (bX5 cI cZ a q x6) → va_S A s.heap H locs → lv_has ls 12 [(0, .ref a), (1, .int i0), (2, .int i1), (3, .int (x6.1 22)), (4, .long 0), (6, .long v6), (8, .int v8)] → GW l yX5_odds cX5_odds 12 (some .int) 4 93 D [.ref a, .int i0, .int i1] (some (.int x.1)) (bX5 cI cZ a q x.2) A p e s m below meth c H locs (F0 m 43 ls []) := by
        intro n
        induction n with
        | zero => intro v6 v8 H locs ls hf; cases hf
        | succ n ih =>
          intro v6 v8 H locs ls hf hP hD hS hl
          rw [lp_X5_odds_43] at hf
          refine lv_iload (pc := 43) hx hb dX5_odds_43 (lv_at hl 6 rfl) ?_
          refine lv_aload_n (pc := 45) hx hb dX5_odds_45 rfl (lv_at hl 0 rfl) ?_
          refine va_get (pc := 46) (D := D) (ci := 5) (v := .int (x6.1 21)) (C := RX5) (T := TX5) (N := 41) hx hb hts iX5 hown hK.1 hP 0 rfl rfl 21 (by decide) (hts _ fl_RX5_150) (fun _ h => h) rfl dX5_odds_46 ?_
          refine lv_icmp_ge (pc := 49) (tgt := 80) hx hb dX5_odds_49 (by decide) (fun c27 => ?_) (fun c27 => ?_)
          · replace hf := ip c27 hf
            obtain rfl := Option.some.inj hf
            exact K8 H locs ls hP hD hS (lv_sub hl [0, 1, 2, 3, 4, 5, 6] rfl)
          · replace hf := im c27 hf
            refine lv_lload (pc := 52) hx hb dX5_odds_52 (lv_at hl 5 rfl) ?_
            refine lv_iload_n (pc := 54) hx hb dX5_odds_54 rfl (lv_at hl 3 rfl) ?_
            refine lv_iload (pc := 55) hx hb dX5_odds_55 (lv_at hl 6 rfl) ?_
            refine lv_ishr (pc := 57) hx hb dX5_odds_57 ?_
            refine lv_iconst (v := 1) (pc := 58) hx hb dX5_odds_58 (by decide) ?_
            refine lv_iand (pc := 59) hx hb dX5_odds_59 ?_
            refine lv_iconst (v := 1) (pc := 60) hx hb dX5_odds_60 (by decide) ?_
            refine lv_icmp_ne (pc := 61) (tgt := 70) hx hb dX5_odds_61 (by decide) (fun c28 => ?_) (fun c28 => ?_)
            · replace hf := im c28 hf
              refine lv_lconst (v := 1) (pc := 70) hx hb dX5_odds_70 (by decide) ?_
              refine lv_lmul (pc := 71) hx hb dX5_odds_71 ?_
              refine lv_lstore (lv' := [(6, .long (v6 * 1)), (0, .ref a), (1, .int i0), (2, .int i1), (3, .int (x6.1 22)), (4, .long 0), (8, .int v8)]) (pc := 72) hx hb dX5_odds_72 hl (by decide) rfl (fun ls hl => ?_)
              refine lv_iinc (v := (v8 + 1)) (lv' := [(8, .int (v8 + 1)), (6, .long (v6 * 1)), (0, .ref a), (1, .int i0), (2, .int i1), (3, .int (x6.1 22)), (4, .long 0)]) (pc := 74) hx hb dX5_odds_74 hl (k := 6) rfl rfl (by decide) rfl (fun ls hl => ?_)
              refine lv_goto (pc := 77) (tgt := 43) hx hb dX5_odds_77 (by decide) ?_
              exact ih _ _ H locs ls hf hP hD hS (lv_sub hl [2, 3, 4, 5, 6, 1, 0] rfl)
            · replace hf := ip c28 hf
              refine lv_ldc2 (pc := 64) (v := 10) hx hb hown (hts _ cn_RX5_270) dX5_odds_64 ?_
              refine lv_goto (pc := 67) (tgt := 71) hx hb dX5_odds_67 (by decide) ?_
              refine lv_lmul (pc := 71) hx hb dX5_odds_71 ?_
              refine lv_lstore (lv' := [(6, .long (v6 * 10)), (0, .ref a), (1, .int i0), (2, .int i1), (3, .int (x6.1 22)), (4, .long 0), (8, .int v8)]) (pc := 72) hx hb dX5_odds_72 hl (by decide) rfl (fun ls hl => ?_)
              refine lv_iinc (v := (v8 + 1)) (lv' := [(8, .int (v8 + 1)), (6, .long (v6 * 10)), (0, .ref a), (1, .int i0), (2, .int i1), (3, .int (x6.1 22)), (4, .long 0)]) (pc := 74) hx hb dX5_odds_74 hl (k := 6) rfl rfl (by decide) rfl (fun ls hl => ?_)
              refine lv_goto (pc := 77) (tgt := 43) hx hb dX5_odds_77 (by decide) ?_
              exact ih _ _ H locs ls hf hP hD hS (lv_sub hl [2, 3, 4, 5, 6, 1, 0] rfl)
      exact KL9 1000 _ _ H locs ls hz7 hP hD hS (lv_sub hl [4, 5, 6, 3, 2, 1, 0] rfl)
    · replace hf := ip c4 hf
      refine lv_iconst (v := -1) (pc := 19) hx hb dX5_odds_19 (by decide) ?_
      obtain rfl := Option.some.inj hf
      exact W.iret hx hb hr (fun t ht hW => ⟨rfl, by rw [ht]; exact hP, hD, hS.F ht⟩) hS.2.2 dX5_odds_20
def f_X5_hunts (i0 : Int32) (om : OS) : Option (Int32 × OS) := Option.bind (f_X5_in i0 1 99) fun x1 => if x1 = 0 then some ((-1), om) else lt (sI om 5 i0) fun o3 => lt (sI o3 7 0) fun o4 => some ((om.1 7), o4)
set_option maxHeartbeats 4000000 in
set_option maxRecDepth 100000 in
theorem c_X5_hunts (l : Launch) (D : va_G) (cI cZ cS : ClassId) (a : Nat) (q : Nat → Nat) (i0 : Int32) (om : OS) (x : (Int32 × OS)) (hf : f_X5_hunts i0 om = some x) : Ct l yX5_hunts cX5_hunts 3 (some .int) 1 22 D cI cZ cS [.ref a, .int i0] (bX5 cI cZ a q om) (some (.int x.1)) (bX5 cI cZ a q x.2) := by
  intro sz
  refine Met.ofW (cc := cX5_hunts) (maxL := 3) (ret := (some .int)) (by decide +kernel) rfl ?_
  intro p e s m args below meth c s₁ B hml hv
  obtain ⟨rfl, hsz, hP, hK, hD0⟩ := hv
  have hx := B.exec
  have hb := B.bytes
  have hr := B.returns
  have hts0 := atoms_spec (ws := .code yX5_hunts cX5_hunts 3 (some .int) :: TB) B.pre
  have hts := fun w (h : w ∈ TB) => hts0 w (List.mem_cons_of_mem _ h)
  have hown : s.vm.findClass RX5 = some m.cls := findClass_of_methodNamed B.named
  have hlocks := B.notSynchronized
  subst hsz
  have hD := hD0.self (sz := s.heap.size)
  generalize hAe : va_A (bX5 cI cZ a q om) s.heap.size = A at hD ⊢
  have hA : ∀ q : Nat, s.heap.size ≤ q → A q := fun q h => by rw [← hAe]; exact Or.inr h
  have hS : va_S A s.heap s.heap [] := va_S.rf
  obtain ⟨H, hH⟩ : ∃ H, H = s.heap := ⟨_, rfl⟩
  rw [← hH] at hP
  have hS : va_S A s.heap H [] := by rw [hH]; exact hS
  have hl := lv_entry ([.ref a, .int i0]) (n := 3) (Nat.le_of_ble_eq_true rfl)
  rw [lg_entry_eq]
  generalize (lg_sl ([.ref a, .int i0]) ++ List.replicate (3 - (lg_sl ([.ref a, .int i0])).length) Slot.unset).toArray = ls at hl ⊢
  have hl : lv_has ls 3 [(0, .ref a), (1, .int i0)] := hl
  refine W_heap hH ?_
  obtain ⟨locs, hlo⟩ : ∃ locs : List Loc, locs = [] := ⟨_, rfl⟩
  rw [← hlo] at hS ⊢
  unfold f_X5_hunts at hf
  refine lv_iload_n (pc := 0) hx hb dX5_hunts_0 rfl (lv_at hl 1 rfl) ?_
  refine lv_iconst (v := 1) (pc := 1) hx hb dX5_hunts_1 (by decide) ?_
  refine lv_bipush (v := 99) (pc := 2) hx hb dX5_hunts_2 (by decide) ?_
  obtain ⟨x1, ex1, hf⟩ := bd_some hf
  refine ct_S0 (pc := 4) (As := [.int i0, .int 1, .int 99]) (rest := []) ⟨hx, hb, hml, hown, hts⟩ hK (c_X5_in l D cI cZ cS i0 1 99 x1 ex1) gs_RX5_57 hs_X5_in rfl ⟨Nat.le_of_ble_eq_true rfl, Nat.le_of_ble_eq_true rfl⟩ hl.1 rfl (Nat.le_of_ble_eq_true rfl) dX5_hunts_4 ⟨Nat.zero_le _, Nat.zero_le _⟩ hP hS hA (fun H locs hP hS => ?_)
  refine lv_if_ne (pc := 7) (tgt := 12) hx hb dX5_hunts_7 (by decide) (fun c2 => ?_) (fun c2 => ?_)
  · replace hf := im c2 hf
    refine lv_aload_n (pc := 12) hx hb dX5_hunts_12 rfl (lv_at hl 0 rfl) ?_
    refine va_get (pc := 13) (D := D) (ci := 5) (v := .int (om.1 7)) (C := RX5) (T := TX5) (N := 41) hx hb hts iX5 hown hK.1 hP 0 rfl rfl 7 (by decide) (hts _ fl_RX5_114) (fun _ h => h) rfl dX5_hunts_13 ?_
    refine lv_istore_n (lv' := [(2, .int (om.1 7)), (0, .ref a), (1, .int i0)]) (pc := 16) hx hb dX5_hunts_16 rfl hl (by decide) rfl (fun ls hl => ?_)
    refine lv_aload_n (pc := 17) hx hb dX5_hunts_17 rfl (lv_at hl 1 rfl) ?_
    refine lv_iload_n (pc := 18) hx hb dX5_hunts_18 rfl (lv_at hl 2 rfl) ?_
    obtain ⟨o3, eo3, hf⟩ := lt_some hf
    refine va_put (pc := 19) (D := D) (ci := 5) (v := .int i0) (ty := .int) (C := RX5) (T := TX5) (N := 41) hx hb hts iX5 tyX5 tyX5_ok nmX5 hown hK.1 hP hD hS 0 rfl rfl 5 (by decide) (hts _ fl_RX5_23) (fun _ h => h) rfl (tyX5_ok 5 (by decide)) rfl rfl (Nat.le_of_ble_eq_true rfl) dX5_hunts_19 (fun H locs hP hD hS => ?_)
    replace hP : va_P D vwCl (bX5 cI cZ a q o3) H := by rw [eo3]; exact hP
    replace hD : va_D A (bX5 cI cZ a q o3) := by rw [eo3]; exact hD
    refine lv_aload_n (pc := 22) hx hb dX5_hunts_22 rfl (lv_at hl 1 rfl) ?_
    refine lv_iconst (v := 0) (pc := 23) hx hb dX5_hunts_23 (by decide) ?_
    obtain ⟨o4, eo4, hf⟩ := lt_some hf
    refine va_put (pc := 24) (D := D) (ci := 5) (v := .int 0) (ty := .int) (C := RX5) (T := TX5) (N := 41) hx hb hts iX5 tyX5 tyX5_ok nmX5 hown hK.1 hP hD hS 0 rfl rfl 7 (by decide) (hts _ fl_RX5_114) (fun _ h => h) rfl (tyX5_ok 7 (by decide)) rfl rfl (Nat.le_of_ble_eq_true rfl) dX5_hunts_24 (fun H locs hP hD hS => ?_)
    replace hP : va_P D vwCl (bX5 cI cZ a q o4) H := by rw [eo4]; exact hP
    replace hD : va_D A (bX5 cI cZ a q o4) := by rw [eo4]; exact hD
    refine lv_iload_n (pc := 27) hx hb dX5_hunts_27 rfl (lv_at hl 0 rfl) ?_
    obtain rfl := Option.some.inj hf
    exact W.iret hx hb hr (fun t ht hW => ⟨rfl, by rw [ht]; exact hP, hD, hS.F ht⟩) hS.2.2 dX5_hunts_28
  · replace hf := ip c2 hf
    refine lv_iconst (v := -1) (pc := 10) hx hb dX5_hunts_10 (by decide) ?_
    obtain rfl := Option.some.inj hf
    exact W.iret hx hb hr (fun t ht hW => ⟨rfl, by rw [ht]; exact hP, hD, hS.F ht⟩) hS.2.2 dX5_hunts_11
def f_X5_sees (i0 : Int32) (i1 : Int32) (om : OS) : Option (Int32 × OS) := Option.bind (f_X5_isPile i0 om) fun x1 => if x1 = 0 then some ((-1), om) else Option.bind (f_X5_in i1 0 999) fun x3 => if x3 = 0 then some ((-1), om) else if (om.1 7) = 6 then some ((-3), om) else ck (2 * (om.1 7)) 12 (lt (sA om 6 (((2 * (om.1 7)) : Int32).toNatClampNeg) i0) fun o7 => ck ((2 * (o7.1 7)) + 1) 12 (lt (sA o7 6 ((((2 * (o7.1 7)) + 1) : Int32).toNatClampNeg) i1) fun o9 => lt (sI o9 7 ((o9.1 7) + 1)) fun o10 => some ((o10.1 7), o10)))
set_option maxHeartbeats 4000000 in
set_option maxRecDepth 100000 in
theorem c_X5_sees (l : Launch) (D : va_G) (cI cZ cS : ClassId) (a : Nat) (q : Nat → Nat) (i0 : Int32) (i1 : Int32) (om : OS) (x : (Int32 × OS)) (hf : f_X5_sees i0 i1 om = some x) : Ct l yX5_sees cX5_sees 3 (some .int) 2 43 D cI cZ cS [.ref a, .int i0, .int i1] (bX5 cI cZ a q om) (some (.int x.1)) (bX5 cI cZ a q x.2) := by
  intro sz
  refine Met.ofW (cc := cX5_sees) (maxL := 3) (ret := (some .int)) (by decide +kernel) rfl ?_
  intro p e s m args below meth c s₁ B hml hv
  obtain ⟨rfl, hsz, hP, hK, hD0⟩ := hv
  have hx := B.exec
  have hb := B.bytes
  have hr := B.returns
  have hts0 := atoms_spec (ws := .code yX5_sees cX5_sees 3 (some .int) :: TB) B.pre
  have hts := fun w (h : w ∈ TB) => hts0 w (List.mem_cons_of_mem _ h)
  have hown : s.vm.findClass RX5 = some m.cls := findClass_of_methodNamed B.named
  have hlocks := B.notSynchronized
  subst hsz
  have hD := hD0.self (sz := s.heap.size)
  generalize hAe : va_A (bX5 cI cZ a q om) s.heap.size = A at hD ⊢
  have hA : ∀ q : Nat, s.heap.size ≤ q → A q := fun q h => by rw [← hAe]; exact Or.inr h
  have hS : va_S A s.heap s.heap [] := va_S.rf
  obtain ⟨H, hH⟩ : ∃ H, H = s.heap := ⟨_, rfl⟩
  rw [← hH] at hP
  have hS : va_S A s.heap H [] := by rw [hH]; exact hS
  have hl := lv_entry ([.ref a, .int i0, .int i1]) (n := 3) (Nat.le_of_ble_eq_true rfl)
  rw [lg_entry_eq]
  generalize (lg_sl ([.ref a, .int i0, .int i1]) ++ List.replicate (3 - (lg_sl ([.ref a, .int i0, .int i1])).length) Slot.unset).toArray = ls at hl ⊢
  have hl : lv_has ls 3 [(0, .ref a), (1, .int i0), (2, .int i1)] := hl
  refine W_heap hH ?_
  obtain ⟨locs, hlo⟩ : ∃ locs : List Loc, locs = [] := ⟨_, rfl⟩
  rw [← hlo] at hS ⊢
  unfold f_X5_sees at hf
  refine lv_aload_n (pc := 0) hx hb dX5_sees_0 rfl (lv_at hl 0 rfl) ?_
  refine lv_iload_n (pc := 1) hx hb dX5_sees_1 rfl (lv_at hl 1 rfl) ?_
  obtain ⟨x1, ex1, hf⟩ := bd_some hf
  refine ct_V1 (pc := 2) (As := [.int i0]) (rest := []) (W1 := bX5 cI cZ a q om) ⟨hx, hb, hml, hown, hts⟩ hK (c_X5_isPile l D cI cZ cS a q i0 om x1 ex1) gv_RX5_133 rfl hs_X5_isPile rfl ⟨Nat.le_of_ble_eq_true rfl, Nat.le_of_ble_eq_true rfl⟩ (ci := 5) (q0 := 0) rfl rfl rfl hl.1 rfl (Nat.le_of_ble_eq_true rfl) dX5_sees_2 ⟨Nat.zero_le _, Nat.zero_le _⟩ hP hD hS hA (fun H locs hP hD hS => ?_)
  refine lv_if_eq (pc := 5) (tgt := 19) hx hb dX5_sees_5 (by decide) (fun c2 => ?_) (fun c2 => ?_)
  · replace hf := ip c2 hf
    refine lv_iconst (v := -1) (pc := 19) hx hb dX5_sees_19 (by decide) ?_
    obtain rfl := Option.some.inj hf
    exact W.iret hx hb hr (fun t ht hW => ⟨rfl, by rw [ht]; exact hP, hD, hS.F ht⟩) hS.2.2 dX5_sees_20
  · replace hf := im c2 hf
    refine lv_iload_n (pc := 8) hx hb dX5_sees_8 rfl (lv_at hl 2 rfl) ?_
    refine lv_iconst (v := 0) (pc := 9) hx hb dX5_sees_9 (by decide) ?_
    refine lv_sipush (v := 999) (pc := 10) hx hb dX5_sees_10 (by decide) ?_
    obtain ⟨x3, ex3, hf⟩ := bd_some hf
    refine ct_S0 (pc := 13) (As := [.int i1, .int 0, .int 999]) (rest := []) ⟨hx, hb, hml, hown, hts⟩ hK (c_X5_in l D cI cZ cS i1 0 999 x3 ex3) gs_RX5_57 hs_X5_in rfl ⟨Nat.le_of_ble_eq_true rfl, Nat.le_of_ble_eq_true rfl⟩ hl.1 rfl (Nat.le_of_ble_eq_true rfl) dX5_sees_13 ⟨Nat.zero_le _, Nat.zero_le _⟩ hP hS hA (fun H locs hP hS => ?_)
    refine lv_if_ne (pc := 16) (tgt := 21) hx hb dX5_sees_16 (by decide) (fun c4 => ?_) (fun c4 => ?_)
    · replace hf := im c4 hf
      refine lv_aload_n (pc := 21) hx hb dX5_sees_21 rfl (lv_at hl 0 rfl) ?_
      refine va_get (pc := 22) (D := D) (ci := 5) (v := .int (om.1 7)) (C := RX5) (T := TX5) (N := 41) hx hb hts iX5 hown hK.1 hP 0 rfl rfl 7 (by decide) (hts _ fl_RX5_114) (fun _ h => h) rfl dX5_sees_22 ?_
      refine lv_bipush (v := 6) (pc := 25) hx hb dX5_sees_25 (by decide) ?_
      refine lv_icmp_ne (pc := 27) (tgt := 33) hx hb dX5_sees_27 (by decide) (fun c5 => ?_) (fun c5 => ?_)
      · replace hf := im c5 hf
        refine lv_aload_n (pc := 33) hx hb dX5_sees_33 rfl (lv_at hl 0 rfl) ?_
        refine va_get (pc := 34) (D := D) (ci := 5) (v := .ref (q 6)) (C := RX5) (T := TX5) (N := 41) hx hb hts iX5 hown hK.1 hP 0 rfl rfl 6 (by decide) (hts _ fl_RX5_27) (fun _ h => h) rfl dX5_sees_34 ?_
        refine lv_iconst (v := 2) (pc := 37) hx hb dX5_sees_37 (by decide) ?_
        refine lv_aload_n (pc := 38) hx hb dX5_sees_38 rfl (lv_at hl 0 rfl) ?_
        refine va_get (pc := 39) (D := D) (ci := 5) (v := .int (om.1 7)) (C := RX5) (T := TX5) (N := 41) hx hb hts iX5 hown hK.1 hP 0 rfl rfl 7 (by decide) (hts _ fl_RX5_114) (fun _ h => h) rfl dX5_sees_39 ?_
        refine lv_imul (pc := 42) hx hb dX5_sees_42 ?_
        refine lv_iload_n (pc := 43) hx hb dX5_sees_43 rfl (lv_at hl 1 rfl) ?_
        obtain ⟨h6, hf⟩ := ck_some hf
        obtain ⟨o7, eo7, hf⟩ := lt_some hf
        refine va_iast (pc := 44) (f := om.2.2 6) hx hb hK.1 hP hD hS 5 0 rfl rfl h6 dX5_sees_44 (fun H locs hP hD hS => ?_)
        replace hP : va_P D vwCl (bX5 cI cZ a q o7) H := by rw [eo7]; exact hP
        replace hD : va_D A (bX5 cI cZ a q o7) := by rw [eo7]; exact hD
        refine lv_aload_n (pc := 45) hx hb dX5_sees_45 rfl (lv_at hl 0 rfl) ?_
        refine va_get (pc := 46) (D := D) (ci := 5) (v := .ref (q 6)) (C := RX5) (T := TX5) (N := 41) hx hb hts iX5 hown hK.1 hP 0 rfl rfl 6 (by decide) (hts _ fl_RX5_27) (fun _ h => h) rfl dX5_sees_46 ?_
        refine lv_iconst (v := 2) (pc := 49) hx hb dX5_sees_49 (by decide) ?_
        refine lv_aload_n (pc := 50) hx hb dX5_sees_50 rfl (lv_at hl 0 rfl) ?_
        refine va_get (pc := 51) (D := D) (ci := 5) (v := .int (o7.1 7)) (C := RX5) (T := TX5) (N := 41) hx hb hts iX5 hown hK.1 hP 0 rfl rfl 7 (by decide) (hts _ fl_RX5_114) (fun _ h => h) rfl dX5_sees_51 ?_
        refine lv_imul (pc := 54) hx hb dX5_sees_54 ?_
        refine lv_iconst (v := 1) (pc := 55) hx hb dX5_sees_55 (by decide) ?_
        refine lv_iadd (pc := 56) hx hb dX5_sees_56 ?_
        refine lv_iload_n (pc := 57) hx hb dX5_sees_57 rfl (lv_at hl 2 rfl) ?_
        obtain ⟨h8, hf⟩ := ck_some hf
        obtain ⟨o9, eo9, hf⟩ := lt_some hf
        refine va_iast (pc := 58) (f := o7.2.2 6) hx hb hK.1 hP hD hS 5 0 rfl rfl h8 dX5_sees_58 (fun H locs hP hD hS => ?_)
        replace hP : va_P D vwCl (bX5 cI cZ a q o9) H := by rw [eo9]; exact hP
        replace hD : va_D A (bX5 cI cZ a q o9) := by rw [eo9]; exact hD
        refine lv_aload_n (pc := 59) hx hb dX5_sees_59 rfl (lv_at hl 0 rfl) ?_
        refine lv_dup (pc := 60) hx hb dX5_sees_60 rfl ?_
        refine va_get (pc := 61) (D := D) (ci := 5) (v := .int (o9.1 7)) (C := RX5) (T := TX5) (N := 41) hx hb hts iX5 hown hK.1 hP 0 rfl rfl 7 (by decide) (hts _ fl_RX5_114) (fun _ h => h) rfl dX5_sees_61 ?_
        refine lv_iconst (v := 1) (pc := 64) hx hb dX5_sees_64 (by decide) ?_
        refine lv_iadd (pc := 65) hx hb dX5_sees_65 ?_
        obtain ⟨o10, eo10, hf⟩ := lt_some hf
        refine va_put (pc := 66) (D := D) (ci := 5) (v := .int ((o9.1 7) + 1)) (ty := .int) (C := RX5) (T := TX5) (N := 41) hx hb hts iX5 tyX5 tyX5_ok nmX5 hown hK.1 hP hD hS 0 rfl rfl 7 (by decide) (hts _ fl_RX5_114) (fun _ h => h) rfl (tyX5_ok 7 (by decide)) rfl rfl (Nat.le_of_ble_eq_true rfl) dX5_sees_66 (fun H locs hP hD hS => ?_)
        replace hP : va_P D vwCl (bX5 cI cZ a q o10) H := by rw [eo10]; exact hP
        replace hD : va_D A (bX5 cI cZ a q o10) := by rw [eo10]; exact hD
        refine lv_aload_n (pc := 69) hx hb dX5_sees_69 rfl (lv_at hl 0 rfl) ?_
        refine va_get (pc := 70) (D := D) (ci := 5) (v := .int (o10.1 7)) (C := RX5) (T := TX5) (N := 41) hx hb hts iX5 hown hK.1 hP 0 rfl rfl 7 (by decide) (hts _ fl_RX5_114) (fun _ h => h) rfl dX5_sees_70 ?_
        obtain rfl := Option.some.inj hf
        exact W.iret hx hb hr (fun t ht hW => ⟨rfl, by rw [ht]; exact hP, hD, hS.F ht⟩) hS.2.2 dX5_sees_73
      · replace hf := ip c5 hf
        refine lv_bipush (v := -3) (pc := 30) hx hb dX5_sees_30 (by decide) ?_
        obtain rfl := Option.some.inj hf
        exact W.iret hx hb hr (fun t ht hW => ⟨rfl, by rw [ht]; exact hP, hD, hS.F ht⟩) hS.2.2 dX5_sees_32
    · replace hf := ip c4 hf
      refine lv_iconst (v := -1) (pc := 19) hx hb dX5_sees_19 (by decide) ?_
      obtain rfl := Option.some.inj hf
      exact W.iret hx hb hr (fun t ht hW => ⟨rfl, by rw [ht]; exact hP, hD, hS.F ht⟩) hS.2.2 dX5_sees_20
def f_X5_forget (om : OS) : Option (Int32 × OS) := lt (sI om 7 0) fun o1 => some ((om.1 7), o1)
set_option maxHeartbeats 4000000 in
set_option maxRecDepth 100000 in
theorem c_X5_forget (l : Launch) (D : va_G) (cI cZ cS : ClassId) (a : Nat) (q : Nat → Nat) (om : OS) (x : (Int32 × OS)) (hf : f_X5_forget om = some x) : Ct l yX5_forget cX5_forget 2 (some .int) 0 0 D cI cZ cS [.ref a] (bX5 cI cZ a q om) (some (.int x.1)) (bX5 cI cZ a q x.2) := by
  intro sz
  refine Met.ofW (cc := cX5_forget) (maxL := 2) (ret := (some .int)) (by decide +kernel) rfl ?_
  intro p e s m args below meth c s₁ B hml hv
  obtain ⟨rfl, hsz, hP, hK, hD0⟩ := hv
  have hx := B.exec
  have hb := B.bytes
  have hr := B.returns
  have hts0 := atoms_spec (ws := .code yX5_forget cX5_forget 2 (some .int) :: TB) B.pre
  have hts := fun w (h : w ∈ TB) => hts0 w (List.mem_cons_of_mem _ h)
  have hown : s.vm.findClass RX5 = some m.cls := findClass_of_methodNamed B.named
  have hlocks := B.notSynchronized
  subst hsz
  have hD := hD0.self (sz := s.heap.size)
  generalize hAe : va_A (bX5 cI cZ a q om) s.heap.size = A at hD ⊢
  have hA : ∀ q : Nat, s.heap.size ≤ q → A q := fun q h => by rw [← hAe]; exact Or.inr h
  have hS : va_S A s.heap s.heap [] := va_S.rf
  obtain ⟨H, hH⟩ : ∃ H, H = s.heap := ⟨_, rfl⟩
  rw [← hH] at hP
  have hS : va_S A s.heap H [] := by rw [hH]; exact hS
  have hl := lv_entry ([.ref a]) (n := 2) (Nat.le_of_ble_eq_true rfl)
  rw [lg_entry_eq]
  generalize (lg_sl ([.ref a]) ++ List.replicate (2 - (lg_sl ([.ref a])).length) Slot.unset).toArray = ls at hl ⊢
  have hl : lv_has ls 2 [(0, .ref a)] := hl
  refine W_heap hH ?_
  obtain ⟨locs, hlo⟩ : ∃ locs : List Loc, locs = [] := ⟨_, rfl⟩
  rw [← hlo] at hS ⊢
  unfold f_X5_forget at hf
  refine lv_aload_n (pc := 0) hx hb dX5_forget_0 rfl (lv_at hl 0 rfl) ?_
  refine va_get (pc := 1) (D := D) (ci := 5) (v := .int (om.1 7)) (C := RX5) (T := TX5) (N := 41) hx hb hts iX5 hown hK.1 hP 0 rfl rfl 7 (by decide) (hts _ fl_RX5_114) (fun _ h => h) rfl dX5_forget_1 ?_
  refine lv_istore_n (lv' := [(1, .int (om.1 7)), (0, .ref a)]) (pc := 4) hx hb dX5_forget_4 rfl hl (by decide) rfl (fun ls hl => ?_)
  refine lv_aload_n (pc := 5) hx hb dX5_forget_5 rfl (lv_at hl 1 rfl) ?_
  refine lv_iconst (v := 0) (pc := 6) hx hb dX5_forget_6 (by decide) ?_
  obtain ⟨o1, eo1, hf⟩ := lt_some hf
  refine va_put (pc := 7) (D := D) (ci := 5) (v := .int 0) (ty := .int) (C := RX5) (T := TX5) (N := 41) hx hb hts iX5 tyX5 tyX5_ok nmX5 hown hK.1 hP hD hS 0 rfl rfl 7 (by decide) (hts _ fl_RX5_114) (fun _ h => h) rfl (tyX5_ok 7 (by decide)) rfl rfl (Nat.le_of_ble_eq_true rfl) dX5_forget_7 (fun H locs hP hD hS => ?_)
  replace hP : va_P D vwCl (bX5 cI cZ a q o1) H := by rw [eo1]; exact hP
  replace hD : va_D A (bX5 cI cZ a q o1) := by rw [eo1]; exact hD
  refine lv_iload_n (pc := 10) hx hb dX5_forget_10 rfl (lv_at hl 0 rfl) ?_
  obtain rfl := Option.some.inj hf
  exact W.iret hx hb hr (fun t ht hW => ⟨rfl, by rw [ht]; exact hP, hD, hS.F ht⟩) hS.2.2 dX5_forget_11
def lp_X5_isSo_7 (u_M : OS) : Nat → Int32 → Int32 → Option (Int32 × Int32)
  | 0, _, _ => none
  | n + 1, v1, v2 => if (u_M.1 7) ≤ v2 then some (v1, v2) else if v1 = 0 then some (v1, v2) else ck (2 * v2) 12 (lt (u_M.2.2 6 ((2 * v2) : Int32).toNatClampNeg) fun y8 => Option.bind (f_X5_bears y8 u_M) fun x9 => dzL (u_M.2.1 29) (ck ((2 * v2) + 1) 12 (if (x9 / (u_M.2.1 29)) = (((u_M.2.2 6 (((2 * v2) + 1) : Int32).toNatClampNeg) : Int32).toInt64) then lp_X5_isSo_7 u_M n 1 (v2 + 1) else lp_X5_isSo_7 u_M n 0 (v2 + 1))))
def f_X5_isSo (om : OS) : Option Int32 := Option.bind (lp_X5_isSo_7 om 1000 (om.1 28) 0) fun z1 => bz z1.1 (some z1.1)
set_option maxHeartbeats 4000000 in
set_option maxRecDepth 100000 in
theorem c_X5_isSo (l : Launch) (D : va_G) (cI cZ cS : ClassId) (a : Nat) (q : Nat → Nat) (om : OS) (x : Int32) (hf : f_X5_isSo om = some x) : Ct l yX5_isSo cX5_isSo 4 (some .boolean) 2 43 D cI cZ cS [.ref a] (bX5 cI cZ a q om) (some (.int x)) (bX5 cI cZ a q om) := by
  intro sz
  refine Met.ofW (cc := cX5_isSo) (maxL := 4) (ret := (some .boolean)) (by decide +kernel) rfl ?_
  intro p e s m args below meth c s₁ B hml hv
  obtain ⟨rfl, hsz, hP, hK, hD0⟩ := hv
  have hx := B.exec
  have hb := B.bytes
  have hr := B.returns
  have hts0 := atoms_spec (ws := .code yX5_isSo cX5_isSo 4 (some .boolean) :: TB) B.pre
  have hts := fun w (h : w ∈ TB) => hts0 w (List.mem_cons_of_mem _ h)
  have hown : s.vm.findClass RX5 = some m.cls := findClass_of_methodNamed B.named
  have hlocks := B.notSynchronized
  subst hsz
  have hD := hD0.self (sz := s.heap.size)
  generalize hAe : va_A (bX5 cI cZ a q om) s.heap.size = A at hD ⊢
  have hA : ∀ q : Nat, s.heap.size ≤ q → A q := fun q h => by rw [← hAe]; exact Or.inr h
  have hS : va_S A s.heap s.heap [] := va_S.rf
  obtain ⟨H, hH⟩ : ∃ H, H = s.heap := ⟨_, rfl⟩
  rw [← hH] at hP
  have hS : va_S A s.heap H [] := by rw [hH]; exact hS
  have hl := lv_entry ([.ref a]) (n := 4) (Nat.le_of_ble_eq_true rfl)
  rw [lg_entry_eq]
  generalize (lg_sl ([.ref a]) ++ List.replicate (4 - (lg_sl ([.ref a])).length) Slot.unset).toArray = ls at hl ⊢
  have hl : lv_has ls 4 [(0, .ref a)] := hl
  refine W_heap hH ?_
  obtain ⟨locs, hlo⟩ : ∃ locs : List Loc, locs = [] := ⟨_, rfl⟩
  rw [← hlo] at hS ⊢
  unfold f_X5_isSo at hf
  refine lv_aload_n (pc := 0) hx hb dX5_isSo_0 rfl (lv_at hl 0 rfl) ?_
  refine va_get (pc := 1) (D := D) (ci := 5) (v := .int (om.1 28)) (C := RX5) (T := TX5) (N := 41) hx hb hts iX5 hown hK.1 hP 0 rfl rfl 28 (by decide) (hts _ fl_RX5_199) (fun _ h => h) rfl dX5_isSo_1 ?_
  refine lv_istore_n (lv' := [(1, .int (om.1 28)), (0, .ref a)]) (pc := 4) hx hb dX5_isSo_4 rfl hl (by decide) rfl (fun ls hl => ?_)
  refine lv_iconst (v := 0) (pc := 5) hx hb dX5_isSo_5 (by decide) ?_
  refine lv_istore_n (lv' := [(2, .int 0), (1, .int (om.1 28)), (0, .ref a)]) (pc := 6) hx hb dX5_isSo_6 rfl hl (by decide) rfl (fun ls hl => ?_)
  obtain ⟨z1, hz1, hf⟩ := bd_some hf
  have hfz1 := hf
  clear hf
  have K2 : ∀ (H : Heap) (locs : List Loc) (ls : Array Slot), va_P D vwCl (bX5 cI cZ a q om) H → va_D A (bX5 cI cZ a q om) → va_S A s.heap H locs → lv_has ls 4 [(0, .ref a), (1, .int z1.1), (2, .int z1.2)] → GW l yX5_isSo cX5_isSo 4 (some .boolean) 2 43 D [.ref a] (some (.int x)) (bX5 cI cZ a q om) A p e s m below meth c H locs (F0 m 65 ls []) := by
    intro H locs ls hP hD hS hl
    have hf := hfz1
    refine lv_iload_n (pc := 65) hx hb dX5_isSo_65 rfl (lv_at hl 1 rfl) ?_
    obtain ⟨h4, hf⟩ := bz_some hf
    obtain rfl := Option.some.inj hf
    exact W.zret hx hb hr h4 (fun t ht hW => ⟨rfl, by rw [ht]; exact hP, hD, hS.F ht⟩) hS.2.2 dX5_isSo_66
  have KL3 : ∀ (n : Nat) (v1 : Int32) (v2 : Int32) (H : Heap) (locs : List Loc) (ls : Array Slot), lp_X5_isSo_7 om n v1 v2 = some z1 → va_P D vwCl (bX5 cI cZ a q om) H → va_D A (bX5 cI cZ a q om) → va_S A s.heap H locs → lv_has ls 4 [(0, .ref a), (1, .int v1), (2, .int v2)] → GW l yX5_isSo cX5_isSo 4 (some .boolean) 2 43 D [.ref a] (some (.int x)) (bX5 cI cZ a q om) A p e s m below meth c H locs (F0 m 7 ls []) := by
    intro n
    induction n with
    | zero => intro v1 v2 H locs ls hf; cases hf
    | succ n ih =>
      intro v1 v2 H locs ls hf hP hD hS hl
      rw [lp_X5_isSo_7] at hf
      refine lv_iload_n (pc := 7) hx hb dX5_isSo_7 rfl (lv_at hl 2 rfl) ?_
      refine lv_aload_n (pc := 8) hx hb dX5_isSo_8 rfl (lv_at hl 0 rfl) ?_
      refine va_get (pc := 9) (D := D) (ci := 5) (v := .int (om.1 7)) (C := RX5) (T := TX5) (N := 41) hx hb hts iX5 hown hK.1 hP 0 rfl rfl 7 (by decide) (hts _ fl_RX5_114) (fun _ h => h) rfl dX5_isSo_9 ?_
      refine lv_icmp_ge (pc := 12) (tgt := 65) hx hb dX5_isSo_12 (by decide) (fun c5 => ?_) (fun c5 => ?_)
      · replace hf := ip c5 hf
        obtain rfl := Option.some.inj hf
        exact K2 H locs ls hP hD hS (lv_sub hl [0, 1, 2] rfl)
      · replace hf := im c5 hf
        refine lv_iload_n (pc := 15) hx hb dX5_isSo_15 rfl (lv_at hl 1 rfl) ?_
        refine lv_if_eq (pc := 16) (tgt := 65) hx hb dX5_isSo_16 (by decide) (fun c6 => ?_) (fun c6 => ?_)
        · replace hf := ip c6 hf
          obtain rfl := Option.some.inj hf
          exact K2 H locs ls hP hD hS (lv_sub hl [0, 1, 2] rfl)
        · replace hf := im c6 hf
          refine lv_aload_n (pc := 19) hx hb dX5_isSo_19 rfl (lv_at hl 0 rfl) ?_
          refine va_get (pc := 20) (D := D) (ci := 5) (v := .ref (q 6)) (C := RX5) (T := TX5) (N := 41) hx hb hts iX5 hown hK.1 hP 0 rfl rfl 6 (by decide) (hts _ fl_RX5_27) (fun _ h => h) rfl dX5_isSo_20 ?_
          refine lv_iconst (v := 2) (pc := 23) hx hb dX5_isSo_23 (by decide) ?_
          refine lv_iload_n (pc := 24) hx hb dX5_isSo_24 rfl (lv_at hl 2 rfl) ?_
          refine lv_imul (pc := 25) hx hb dX5_isSo_25 ?_
          obtain ⟨h7, hf⟩ := ck_some hf
          refine va_iald (pc := 26) (f := om.2.2 6) hx hb hK.1 hP 5 0 rfl rfl h7 dX5_isSo_26 ?_
          obtain ⟨y8, ey8, hf⟩ := lt_some hf
          refine lv_nmI ey8 ?_
          refine lv_istore_n (lv' := [(3, .int y8), (0, .ref a), (1, .int v1), (2, .int v2)]) (pc := 27) hx hb dX5_isSo_27 rfl hl (by decide) rfl (fun ls hl => ?_)
          refine lv_aload_n (pc := 28) hx hb dX5_isSo_28 rfl (lv_at hl 1 rfl) ?_
          refine lv_iload_n (pc := 29) hx hb dX5_isSo_29 rfl (lv_at hl 0 rfl) ?_
          obtain ⟨x9, ex9, hf⟩ := bd_some hf
          refine ct_V1 (pc := 30) (As := [.int y8]) (rest := []) (W1 := bX5 cI cZ a q om) ⟨hx, hb, hml, hown, hts⟩ hK (c_X5_bears l D cI cZ cS a q y8 om x9 ex9) gv_RX5_193 rfl hs_X5_bears rfl ⟨Nat.le_of_ble_eq_true rfl, Nat.le_of_ble_eq_true rfl⟩ (ci := 5) (q0 := 0) rfl rfl rfl hl.1 rfl (Nat.le_of_ble_eq_true rfl) dX5_isSo_30 ⟨Nat.zero_le _, Nat.zero_le _⟩ hP hD hS hA (fun H locs hP hD hS => ?_)
          refine lv_aload_n (pc := 33) hx hb dX5_isSo_33 rfl (lv_at hl 1 rfl) ?_
          refine va_get (pc := 34) (D := D) (ci := 5) (v := .long (om.2.1 29)) (C := RX5) (T := TX5) (N := 41) hx hb hts iX5 hown hK.1 hP 0 rfl rfl 29 (by decide) (hts _ fl_RX5_174) (fun _ h => h) rfl dX5_isSo_34 ?_
          obtain ⟨h10, hf⟩ := dzL_some hf
          refine lv_ldiv (pc := 37) hx hb dX5_isSo_37 h10 ?_
          refine lv_aload_n (pc := 38) hx hb dX5_isSo_38 rfl (lv_at hl 1 rfl) ?_
          refine va_get (pc := 39) (D := D) (ci := 5) (v := .ref (q 6)) (C := RX5) (T := TX5) (N := 41) hx hb hts iX5 hown hK.1 hP 0 rfl rfl 6 (by decide) (hts _ fl_RX5_27) (fun _ h => h) rfl dX5_isSo_39 ?_
          refine lv_iconst (v := 2) (pc := 42) hx hb dX5_isSo_42 (by decide) ?_
          refine lv_iload_n (pc := 43) hx hb dX5_isSo_43 rfl (lv_at hl 3 rfl) ?_
          refine lv_imul (pc := 44) hx hb dX5_isSo_44 ?_
          refine lv_iconst (v := 1) (pc := 45) hx hb dX5_isSo_45 (by decide) ?_
          refine lv_iadd (pc := 46) hx hb dX5_isSo_46 ?_
          obtain ⟨h11, hf⟩ := ck_some hf
          refine va_iald (pc := 47) (f := om.2.2 6) hx hb hK.1 hP 5 0 rfl rfl h11 dX5_isSo_47 ?_
          refine lv_i2l (pc := 48) hx hb dX5_isSo_48 rfl ?_
          refine W.lcmp (pc := 49) hx hb dX5_isSo_49 ?_
          refine lv_if_ne (pc := 50) (tgt := 57) hx hb dX5_isSo_50 (by decide) (fun c12 => ?_) (fun c12 => ?_)
          · replace c12 := fun q => c12 ((lg_cmp_eq _ _).mpr q)
            replace hf := im c12 hf
            refine lv_iconst (v := 0) (pc := 57) hx hb dX5_isSo_57 (by decide) ?_
            refine lv_istore_n (lv' := [(1, .int 0), (3, .int y8), (0, .ref a), (2, .int v2)]) (pc := 58) hx hb dX5_isSo_58 rfl hl (by decide) rfl (fun ls hl => ?_)
            refine lv_iinc (v := (v2 + 1)) (lv' := [(2, .int (v2 + 1)), (1, .int 0), (3, .int y8), (0, .ref a)]) (pc := 59) hx hb dX5_isSo_59 hl (k := 3) rfl rfl (by decide) rfl (fun ls hl => ?_)
            refine lv_goto (pc := 62) (tgt := 7) hx hb dX5_isSo_62 (by decide) ?_
            exact ih _ _ H locs ls hf hP hD hS (lv_sub hl [3, 1, 0] rfl)
          · replace c12 := (lg_cmp_eq _ _).mp c12
            replace hf := ip c12 hf
            refine lv_iconst (v := 1) (pc := 53) hx hb dX5_isSo_53 (by decide) ?_
            refine lv_goto (pc := 54) (tgt := 58) hx hb dX5_isSo_54 (by decide) ?_
            refine lv_istore_n (lv' := [(1, .int 1), (3, .int y8), (0, .ref a), (2, .int v2)]) (pc := 58) hx hb dX5_isSo_58 rfl hl (by decide) rfl (fun ls hl => ?_)
            refine lv_iinc (v := (v2 + 1)) (lv' := [(2, .int (v2 + 1)), (1, .int 1), (3, .int y8), (0, .ref a)]) (pc := 59) hx hb dX5_isSo_59 hl (k := 3) rfl rfl (by decide) rfl (fun ls hl => ?_)
            refine lv_goto (pc := 62) (tgt := 7) hx hb dX5_isSo_62 (by decide) ?_
            exact ih _ _ H locs ls hf hP hD hS (lv_sub hl [3, 1, 0] rfl)
  exact KL3 1000 _ _ H locs ls hz1 hP hD hS (lv_sub hl [2, 1, 0] rfl)
def lp_X5_laysSpots_102 (r1 : Int32) : Nat → Int32 → OS → Option (Int32 × OS)
  | 0, _, _ => none
  | n + 1, v2, w_M => if (w_M.1 21) ≤ v2 then some (v2, w_M) else Option.bind (f_X5_bears v2 w_M) fun x23 => dzL (w_M.2.1 29) (ck ((8 * r1) + v2) 2888 (lt (sA w_M 37 ((((8 * r1) + v2) : Int32).toNatClampNeg) (((x23 / (w_M.2.1 29)) : Int64).toInt32)) fun o26 => lp_X5_laysSpots_102 r1 n (v2 + 1) o26))
def lp_X5_laysSpots_17 : Nat → Int32 → OS → Option (Int32 × OS)
  | 0, _, _ => none
  | n + 1, v1, w_M => if 361 ≤ v1 then some (v1, w_M) else Option.bind (f_X5_laysLoad (w_M.1 5) ((v1 / 19) - 9) ((v1 - v1 / 19 * 19) - 9) w_M) fun x8 => Option.bind (f_X5_shares x8) fun x9 => Option.bind (f_X5_isSo x9) fun x10 => ck v1 361 (lt (sA x9 36 ((v1 : Int32).toNatClampNeg) (vp_nar .boolean x10)) fun o12 => ck v1 361 (if (o12.2.2 36 (v1 : Int32).toNatClampNeg) = 0 then lp_X5_laysSpots_17 n (v1 + 1) o12 else lt (sI o12 38 ((o12.1 38) + 1)) fun o15 => Option.bind (if (o15.1 39) = (-9) then some v1 else some (o15.1 39) : Option Int32) fun z16 => lt (sI o15 39 z16) fun o18 => Option.bind (lp_X5_laysSpots_102 v1 1000 0 o18) fun z19 => lp_X5_laysSpots_17 n (v1 + 1) z19.2))
def f_X5_laysSpots (om : OS) : Option OS := Option.bind (f_X5_laysPiles om) fun x1 => lt (sI x1 38 0) fun o2 => lt (sI o2 39 (-9)) fun o3 => Option.bind (lp_X5_laysSpots_17 1000 0 o3) fun z4 => some z4.2
set_option maxHeartbeats 4000000 in
set_option maxRecDepth 100000 in
theorem c_X5_laysSpots (l : Launch) (D : va_G) (cI cZ cS : ClassId) (a : Nat) (q : Nat → Nat) (om : OS) (x : OS) (hf : f_X5_laysSpots om = some x) : Ct l yX5_laysSpots cX5_laysSpots 3 none 4 93 D cI cZ cS [.ref a] (bX5 cI cZ a q om) none (bX5 cI cZ a q x) := by
  intro sz
  refine Met.ofW (cc := cX5_laysSpots) (maxL := 3) (ret := none) (by decide +kernel) rfl ?_
  intro p e s m args below meth c s₁ B hml hv
  obtain ⟨rfl, hsz, hP, hK, hD0⟩ := hv
  have hx := B.exec
  have hb := B.bytes
  have hr := B.returns
  have hts0 := atoms_spec (ws := .code yX5_laysSpots cX5_laysSpots 3 none :: TB) B.pre
  have hts := fun w (h : w ∈ TB) => hts0 w (List.mem_cons_of_mem _ h)
  have hown : s.vm.findClass RX5 = some m.cls := findClass_of_methodNamed B.named
  have hlocks := B.notSynchronized
  subst hsz
  have hD := hD0.self (sz := s.heap.size)
  generalize hAe : va_A (bX5 cI cZ a q om) s.heap.size = A at hD ⊢
  have hA : ∀ q : Nat, s.heap.size ≤ q → A q := fun q h => by rw [← hAe]; exact Or.inr h
  have hS : va_S A s.heap s.heap [] := va_S.rf
  obtain ⟨H, hH⟩ : ∃ H, H = s.heap := ⟨_, rfl⟩
  rw [← hH] at hP
  have hS : va_S A s.heap H [] := by rw [hH]; exact hS
  have hl := lv_entry ([.ref a]) (n := 3) (Nat.le_of_ble_eq_true rfl)
  rw [lg_entry_eq]
  generalize (lg_sl ([.ref a]) ++ List.replicate (3 - (lg_sl ([.ref a])).length) Slot.unset).toArray = ls at hl ⊢
  have hl : lv_has ls 3 [(0, .ref a)] := hl
  refine W_heap hH ?_
  obtain ⟨locs, hlo⟩ : ∃ locs : List Loc, locs = [] := ⟨_, rfl⟩
  rw [← hlo] at hS ⊢
  unfold f_X5_laysSpots at hf
  refine lv_aload_n (pc := 0) hx hb dX5_laysSpots_0 rfl (lv_at hl 0 rfl) ?_
  obtain ⟨x1, ex1, hf⟩ := bd_some hf
  refine ct_V1 (pc := 1) (As := []) (rest := []) (W1 := bX5 cI cZ a q x1) ⟨hx, hb, hml, hown, hts⟩ hK (c_X5_laysPiles l D cI cZ cS a q om x1 ex1) gv_RX5_211 rfl hs_X5_laysPiles rfl ⟨Nat.le_of_ble_eq_true rfl, Nat.le_of_ble_eq_true rfl⟩ (ci := 5) (q0 := 0) rfl rfl rfl hl.1 rfl (Nat.le_of_ble_eq_true rfl) dX5_laysSpots_1 ⟨Nat.zero_le _, Nat.zero_le _⟩ hP hD hS hA (fun H locs hP hD hS => ?_)
  refine lv_aload_n (pc := 4) hx hb dX5_laysSpots_4 rfl (lv_at hl 0 rfl) ?_
  refine lv_iconst (v := 0) (pc := 5) hx hb dX5_laysSpots_5 (by decide) ?_
  obtain ⟨o2, eo2, hf⟩ := lt_some hf
  refine va_put (pc := 6) (D := D) (ci := 5) (v := .int 0) (ty := .int) (C := RX5) (T := TX5) (N := 41) hx hb hts iX5 tyX5 tyX5_ok nmX5 hown hK.1 hP hD hS 0 rfl rfl 38 (by decide) (hts _ fl_RX5_272) (fun _ h => h) rfl (tyX5_ok 38 (by decide)) rfl rfl (Nat.le_of_ble_eq_true rfl) dX5_laysSpots_6 (fun H locs hP hD hS => ?_)
  replace hP : va_P D vwCl (bX5 cI cZ a q o2) H := by rw [eo2]; exact hP
  replace hD : va_D A (bX5 cI cZ a q o2) := by rw [eo2]; exact hD
  refine lv_aload_n (pc := 9) hx hb dX5_laysSpots_9 rfl (lv_at hl 0 rfl) ?_
  refine lv_bipush (v := -9) (pc := 10) hx hb dX5_laysSpots_10 (by decide) ?_
  obtain ⟨o3, eo3, hf⟩ := lt_some hf
  refine va_put (pc := 12) (D := D) (ci := 5) (v := .int (-9)) (ty := .int) (C := RX5) (T := TX5) (N := 41) hx hb hts iX5 tyX5 tyX5_ok nmX5 hown hK.1 hP hD hS 0 rfl rfl 39 (by decide) (hts _ fl_RX5_275) (fun _ h => h) rfl (tyX5_ok 39 (by decide)) rfl rfl (Nat.le_of_ble_eq_true rfl) dX5_laysSpots_12 (fun H locs hP hD hS => ?_)
  replace hP : va_P D vwCl (bX5 cI cZ a q o3) H := by rw [eo3]; exact hP
  replace hD : va_D A (bX5 cI cZ a q o3) := by rw [eo3]; exact hD
  refine lv_iconst (v := 0) (pc := 15) hx hb dX5_laysSpots_15 (by decide) ?_
  refine lv_istore_n (lv' := [(1, .int 0), (0, .ref a)]) (pc := 16) hx hb dX5_laysSpots_16 rfl hl (by decide) rfl (fun ls hl => ?_)
  obtain ⟨z4, hz4, hf⟩ := bd_some hf
  have hfz4 := hf
  clear hf
  have K5 : ∀ (H : Heap) (locs : List Loc) (ls : Array Slot), va_P D vwCl (bX5 cI cZ a q z4.2) H → va_D A (bX5 cI cZ a q z4.2) → va_S A s.heap H locs → lv_has ls 3 [(0, .ref a), (1, .int z4.1)] → GW l yX5_laysSpots cX5_laysSpots 3 none 4 93 D [.ref a] none (bX5 cI cZ a q x) A p e s m below meth c H locs (F0 m 144 ls []) := by
    intro H locs ls hP hD hS hl
    have hf := hfz4
    obtain rfl := Option.some.inj hf
    exact W.vret hx hb hr (fun t ht hW => ⟨rfl, by rw [ht]; exact hP, hD, hS.F ht⟩) hS.2.2 dX5_laysSpots_144
  have KL6 : ∀ (n : Nat) (v1 : Int32) (w_M : OS) (H : Heap) (locs : List Loc) (ls : Array Slot), lp_X5_laysSpots_17 n v1 w_M = some z4 → va_P D vwCl (bX5 cI cZ a q w_M) H → va_D A (bX5 cI cZ a q w_M) → va_S A s.heap H locs → lv_has ls 3 [(0, .ref a), (1, .int v1)] → GW l yX5_laysSpots cX5_laysSpots 3 none 4 93 D [.ref a] none (bX5 cI cZ a q x) A p e s m below meth c H locs (F0 m 17 ls []) := by
    intro n
    induction n with
    | zero => intro v1 w_M H locs ls hf; cases hf
    | succ n ih =>
      intro v1 w_M H locs ls hf hP hD hS hl
      rw [lp_X5_laysSpots_17] at hf
      refine lv_iload_n (pc := 17) hx hb dX5_laysSpots_17 rfl (lv_at hl 1 rfl) ?_
      refine lv_sipush (v := 361) (pc := 18) hx hb dX5_laysSpots_18 (by decide) ?_
      refine lv_icmp_ge (pc := 21) (tgt := 144) hx hb dX5_laysSpots_21 (by decide) (fun c7 => ?_) (fun c7 => ?_)
      · replace hf := ip c7 hf
        obtain rfl := Option.some.inj hf
        exact K5 H locs ls hP hD hS (lv_sub hl [0, 1] rfl)
      · replace hf := im c7 hf
        refine lv_aload_n (pc := 24) hx hb dX5_laysSpots_24 rfl (lv_at hl 0 rfl) ?_
        refine lv_aload_n (pc := 25) hx hb dX5_laysSpots_25 rfl (lv_at hl 0 rfl) ?_
        refine va_get (pc := 26) (D := D) (ci := 5) (v := .int (w_M.1 5)) (C := RX5) (T := TX5) (N := 41) hx hb hts iX5 hown hK.1 hP 0 rfl rfl 5 (by decide) (hts _ fl_RX5_23) (fun _ h => h) rfl dX5_laysSpots_26 ?_
        refine lv_iload_n (pc := 29) hx hb dX5_laysSpots_29 rfl (lv_at hl 1 rfl) ?_
        refine lv_bipush (v := 19) (pc := 30) hx hb dX5_laysSpots_30 (by decide) ?_
        refine lv_idiv (pc := 32) hx hb dX5_laysSpots_32 (by decide) ?_
        refine lv_bipush (v := 9) (pc := 33) hx hb dX5_laysSpots_33 (by decide) ?_
        refine lv_isub (pc := 35) hx hb dX5_laysSpots_35 ?_
        refine lv_iload_n (pc := 36) hx hb dX5_laysSpots_36 rfl (lv_at hl 1 rfl) ?_
        refine lv_bipush (v := 19) (pc := 37) hx hb dX5_laysSpots_37 (by decide) ?_
        refine lv_irem (pc := 39) hx hb dX5_laysSpots_39 (by decide) ?_
        refine lv_bipush (v := 9) (pc := 40) hx hb dX5_laysSpots_40 (by decide) ?_
        refine lv_isub (pc := 42) hx hb dX5_laysSpots_42 ?_
        obtain ⟨x8, ex8, hf⟩ := bd_some hf
        refine ct_V1 (pc := 43) (As := [.int (w_M.1 5), .int ((v1 / 19) - 9), .int ((v1 - v1 / 19 * 19) - 9)]) (rest := []) (W1 := bX5 cI cZ a q x8) ⟨hx, hb, hml, hown, hts⟩ hK (c_X5_laysLoad l D cI cZ cS a q (w_M.1 5) ((v1 / 19) - 9) ((v1 - v1 / 19 * 19) - 9) w_M x8 ex8) gv_RX5_254 rfl hs_X5_laysLoad rfl ⟨Nat.le_of_ble_eq_true rfl, Nat.le_of_ble_eq_true rfl⟩ (ci := 5) (q0 := 0) rfl rfl rfl hl.1 rfl (Nat.le_of_ble_eq_true rfl) dX5_laysSpots_43 ⟨Nat.zero_le _, Nat.zero_le _⟩ hP hD hS hA (fun H locs hP hD hS => ?_)
        refine lv_aload_n (pc := 46) hx hb dX5_laysSpots_46 rfl (lv_at hl 0 rfl) ?_
        obtain ⟨x9, ex9, hf⟩ := bd_some hf
        refine ct_V1 (pc := 47) (As := []) (rest := []) (W1 := bX5 cI cZ a q x9) ⟨hx, hb, hml, hown, hts⟩ hK (c_X5_shares l D cI cZ cS a q x8 x9 ex9) gv_RX5_217 rfl hs_X5_shares rfl ⟨Nat.le_of_ble_eq_true rfl, Nat.le_of_ble_eq_true rfl⟩ (ci := 5) (q0 := 0) rfl rfl rfl hl.1 rfl (Nat.le_of_ble_eq_true rfl) dX5_laysSpots_47 ⟨Nat.zero_le _, Nat.zero_le _⟩ hP hD hS hA (fun H locs hP hD hS => ?_)
        refine lv_aload_n (pc := 50) hx hb dX5_laysSpots_50 rfl (lv_at hl 0 rfl) ?_
        refine va_get (pc := 51) (D := D) (ci := 5) (v := .ref (q 36)) (C := RX5) (T := TX5) (N := 41) hx hb hts iX5 hown hK.1 hP 0 rfl rfl 36 (by decide) (hts _ fl_RX5_48) (fun _ h => h) rfl dX5_laysSpots_51 ?_
        refine lv_iload_n (pc := 54) hx hb dX5_laysSpots_54 rfl (lv_at hl 1 rfl) ?_
        refine lv_aload_n (pc := 55) hx hb dX5_laysSpots_55 rfl (lv_at hl 0 rfl) ?_
        obtain ⟨x10, ex10, hf⟩ := bd_some hf
        refine ct_V1 (pc := 56) (As := []) (rest := [.int v1, .ref (q 36)]) (W1 := bX5 cI cZ a q x9) ⟨hx, hb, hml, hown, hts⟩ hK (c_X5_isSo l D cI cZ cS a q x9 x10 ex10) gv_RX5_278 rfl hs_X5_isSo rfl ⟨Nat.le_of_ble_eq_true rfl, Nat.le_of_ble_eq_true rfl⟩ (ci := 5) (q0 := 0) rfl rfl rfl hl.1 rfl (Nat.le_of_ble_eq_true rfl) dX5_laysSpots_56 ⟨Nat.zero_le _, Nat.zero_le _⟩ hP hD hS hA (fun H locs hP hD hS => ?_)
        obtain ⟨h11, hf⟩ := ck_some hf
        obtain ⟨o12, eo12, hf⟩ := lt_some hf
        refine va_zast (pc := 59) (f := x9.2.2 36) hx hb hK.1 hP hD hS 12 1 rfl rfl h11 dX5_laysSpots_59 (fun H locs hP hD hS => ?_)
        replace hP : va_P D vwCl (bX5 cI cZ a q o12) H := by rw [eo12]; exact hP
        replace hD : va_D A (bX5 cI cZ a q o12) := by rw [eo12]; exact hD
        refine lv_aload_n (pc := 60) hx hb dX5_laysSpots_60 rfl (lv_at hl 0 rfl) ?_
        refine va_get (pc := 61) (D := D) (ci := 5) (v := .ref (q 36)) (C := RX5) (T := TX5) (N := 41) hx hb hts iX5 hown hK.1 hP 0 rfl rfl 36 (by decide) (hts _ fl_RX5_48) (fun _ h => h) rfl dX5_laysSpots_61 ?_
        refine lv_iload_n (pc := 64) hx hb dX5_laysSpots_64 rfl (lv_at hl 1 rfl) ?_
        obtain ⟨h13, hf⟩ := ck_some hf
        refine va_zald (pc := 65) (f := o12.2.2 36) hx hb hK.1 hP 12 1 rfl rfl h13 dX5_laysSpots_65 ?_
        refine lv_if_eq (pc := 66) (tgt := 138) hx hb dX5_laysSpots_66 (by decide) (fun c14 => ?_) (fun c14 => ?_)
        · replace hf := ip c14 hf
          refine lv_iinc (v := (v1 + 1)) (lv' := [(1, .int (v1 + 1)), (0, .ref a)]) (pc := 138) hx hb dX5_laysSpots_138 hl (k := 1) rfl rfl (by decide) rfl (fun ls hl => ?_)
          refine lv_goto (pc := 141) (tgt := 17) hx hb dX5_laysSpots_141 (by decide) ?_
          exact ih _ _ H locs ls hf hP hD hS (lv_sub hl [1, 0] rfl)
        · replace hf := im c14 hf
          refine lv_aload_n (pc := 69) hx hb dX5_laysSpots_69 rfl (lv_at hl 0 rfl) ?_
          refine lv_dup (pc := 70) hx hb dX5_laysSpots_70 rfl ?_
          refine va_get (pc := 71) (D := D) (ci := 5) (v := .int (o12.1 38)) (C := RX5) (T := TX5) (N := 41) hx hb hts iX5 hown hK.1 hP 0 rfl rfl 38 (by decide) (hts _ fl_RX5_272) (fun _ h => h) rfl dX5_laysSpots_71 ?_
          refine lv_iconst (v := 1) (pc := 74) hx hb dX5_laysSpots_74 (by decide) ?_
          refine lv_iadd (pc := 75) hx hb dX5_laysSpots_75 ?_
          obtain ⟨o15, eo15, hf⟩ := lt_some hf
          refine va_put (pc := 76) (D := D) (ci := 5) (v := .int ((o12.1 38) + 1)) (ty := .int) (C := RX5) (T := TX5) (N := 41) hx hb hts iX5 tyX5 tyX5_ok nmX5 hown hK.1 hP hD hS 0 rfl rfl 38 (by decide) (hts _ fl_RX5_272) (fun _ h => h) rfl (tyX5_ok 38 (by decide)) rfl rfl (Nat.le_of_ble_eq_true rfl) dX5_laysSpots_76 (fun H locs hP hD hS => ?_)
          replace hP : va_P D vwCl (bX5 cI cZ a q o15) H := by rw [eo15]; exact hP
          replace hD : va_D A (bX5 cI cZ a q o15) := by rw [eo15]; exact hD
          refine lv_aload_n (pc := 79) hx hb dX5_laysSpots_79 rfl (lv_at hl 0 rfl) ?_
          refine lv_aload_n (pc := 80) hx hb dX5_laysSpots_80 rfl (lv_at hl 0 rfl) ?_
          refine va_get (pc := 81) (D := D) (ci := 5) (v := .int (o15.1 39)) (C := RX5) (T := TX5) (N := 41) hx hb hts iX5 hown hK.1 hP 0 rfl rfl 39 (by decide) (hts _ fl_RX5_275) (fun _ h => h) rfl dX5_laysSpots_81 ?_
          refine lv_bipush (v := -9) (pc := 84) hx hb dX5_laysSpots_84 (by decide) ?_
          obtain ⟨z16, hz16, hf⟩ := bd_some hf
          have K17 : ∀ (H : Heap) (locs : List Loc) (ls : Array Slot), va_P D vwCl (bX5 cI cZ a q o15) H → va_D A (bX5 cI cZ a q o15) → va_S A s.heap H locs → lv_has ls 3 [(0, .ref a), (1, .int v1)] → GW l yX5_laysSpots cX5_laysSpots 3 none 4 93 D [.ref a] none (bX5 cI cZ a q x) A p e s m below meth c H locs (F0 m 97 ls [.int z16, .ref a]) := by
            intro H locs ls hP hD hS hl
            obtain ⟨o18, eo18, hf⟩ := lt_some hf
            refine va_put (pc := 97) (D := D) (ci := 5) (v := .int z16) (ty := .int) (C := RX5) (T := TX5) (N := 41) hx hb hts iX5 tyX5 tyX5_ok nmX5 hown hK.1 hP hD hS 0 rfl rfl 39 (by decide) (hts _ fl_RX5_275) (fun _ h => h) rfl (tyX5_ok 39 (by decide)) rfl rfl (Nat.le_of_ble_eq_true rfl) dX5_laysSpots_97 (fun H locs hP hD hS => ?_)
            replace hP : va_P D vwCl (bX5 cI cZ a q o18) H := by rw [eo18]; exact hP
            replace hD : va_D A (bX5 cI cZ a q o18) := by rw [eo18]; exact hD
            refine lv_iconst (v := 0) (pc := 100) hx hb dX5_laysSpots_100 (by decide) ?_
            refine lv_istore_n (lv' := [(2, .int 0), (0, .ref a), (1, .int v1)]) (pc := 101) hx hb dX5_laysSpots_101 rfl hl (by decide) rfl (fun ls hl => ?_)
            obtain ⟨z19, hz19, hf⟩ := bd_some hf
            have hfz19 := hf
            clear hf
            have K20 : ∀ (H : Heap) (locs : List Loc) (ls : Array Slot), va_P D vwCl (bX5 cI cZ a q z19.2) H → va_D A (bX5 cI cZ a q z19.2) → va_S A s.heap H locs → lv_has ls 3 [(0, .ref a), (1, .int v1), (2, .int z19.1)] → GW l yX5_laysSpots cX5_laysSpots 3 none 4 93 D [.ref a] none (bX5 cI cZ a q x) A p e s m below meth c H locs (F0 m 138 ls []) := by
              intro H locs ls hP hD hS hl
              have hf := hfz19
              refine lv_iinc (v := (v1 + 1)) (lv' := [(1, .int (v1 + 1)), (0, .ref a), (2, .int z19.1)]) (pc := 138) hx hb dX5_laysSpots_138 hl (k := 1) rfl rfl (by decide) rfl (fun ls hl => ?_)
              refine lv_goto (pc := 141) (tgt := 17) hx hb dX5_laysSpots_141 (by decide) ?_
              exact ih _ _ H locs ls hf hP hD hS (lv_sub hl [1, 0] rfl)
            have KL21 : ∀ (n : Nat) (v2 : Int32) (w_M : OS) (H : Heap) (locs : List Loc) (ls : Array Slot), lp_X5_laysSpots_102 v1 n v2 w_M = some z19 → va_P D vwCl (bX5 cI cZ a q w_M) H → va_D A (bX5 cI cZ a q w_M) → va_S A s.heap H locs → lv_has ls 3 [(0, .ref a), (1, .int v1), (2, .int v2)] → GW l yX5_laysSpots cX5_laysSpots 3 none 4 93 D [.ref a] none (bX5 cI cZ a q x) A p e s m below meth c H locs (F0 m 102 ls []) := by
              intro n
              induction n with
              | zero => intro v2 w_M H locs ls hf; cases hf
              | succ n ih =>
                intro v2 w_M H locs ls hf hP hD hS hl
                rw [lp_X5_laysSpots_102] at hf
                refine lv_iload_n (pc := 102) hx hb dX5_laysSpots_102 rfl (lv_at hl 2 rfl) ?_
                refine lv_aload_n (pc := 103) hx hb dX5_laysSpots_103 rfl (lv_at hl 0 rfl) ?_
                refine va_get (pc := 104) (D := D) (ci := 5) (v := .int (w_M.1 21)) (C := RX5) (T := TX5) (N := 41) hx hb hts iX5 hown hK.1 hP 0 rfl rfl 21 (by decide) (hts _ fl_RX5_150) (fun _ h => h) rfl dX5_laysSpots_104 ?_
                refine lv_icmp_ge (pc := 107) (tgt := 138) hx hb dX5_laysSpots_107 (by decide) (fun c22 => ?_) (fun c22 => ?_)
                · replace hf := ip c22 hf
                  obtain rfl := Option.some.inj hf
                  exact K20 H locs ls hP hD hS (lv_sub hl [0, 1, 2] rfl)
                · replace hf := im c22 hf
                  refine lv_aload_n (pc := 110) hx hb dX5_laysSpots_110 rfl (lv_at hl 0 rfl) ?_
                  refine va_get (pc := 111) (D := D) (ci := 5) (v := .ref (q 37)) (C := RX5) (T := TX5) (N := 41) hx hb hts iX5 hown hK.1 hP 0 rfl rfl 37 (by decide) (hts _ fl_RX5_51) (fun _ h => h) rfl dX5_laysSpots_111 ?_
                  refine lv_bipush (v := 8) (pc := 114) hx hb dX5_laysSpots_114 (by decide) ?_
                  refine lv_iload_n (pc := 116) hx hb dX5_laysSpots_116 rfl (lv_at hl 1 rfl) ?_
                  refine lv_imul (pc := 117) hx hb dX5_laysSpots_117 ?_
                  refine lv_iload_n (pc := 118) hx hb dX5_laysSpots_118 rfl (lv_at hl 2 rfl) ?_
                  refine lv_iadd (pc := 119) hx hb dX5_laysSpots_119 ?_
                  refine lv_aload_n (pc := 120) hx hb dX5_laysSpots_120 rfl (lv_at hl 0 rfl) ?_
                  refine lv_iload_n (pc := 121) hx hb dX5_laysSpots_121 rfl (lv_at hl 2 rfl) ?_
                  obtain ⟨x23, ex23, hf⟩ := bd_some hf
                  refine ct_V1 (pc := 122) (As := [.int v2]) (rest := [.int ((8 * v1) + v2), .ref (q 37)]) (W1 := bX5 cI cZ a q w_M) ⟨hx, hb, hml, hown, hts⟩ hK (c_X5_bears l D cI cZ cS a q v2 w_M x23 ex23) gv_RX5_193 rfl hs_X5_bears rfl ⟨Nat.le_of_ble_eq_true rfl, Nat.le_of_ble_eq_true rfl⟩ (ci := 5) (q0 := 0) rfl rfl rfl hl.1 rfl (Nat.le_of_ble_eq_true rfl) dX5_laysSpots_122 ⟨Nat.zero_le _, Nat.zero_le _⟩ hP hD hS hA (fun H locs hP hD hS => ?_)
                  refine lv_aload_n (pc := 125) hx hb dX5_laysSpots_125 rfl (lv_at hl 0 rfl) ?_
                  refine va_get (pc := 126) (D := D) (ci := 5) (v := .long (w_M.2.1 29)) (C := RX5) (T := TX5) (N := 41) hx hb hts iX5 hown hK.1 hP 0 rfl rfl 29 (by decide) (hts _ fl_RX5_174) (fun _ h => h) rfl dX5_laysSpots_126 ?_
                  obtain ⟨h24, hf⟩ := dzL_some hf
                  refine lv_ldiv (pc := 129) hx hb dX5_laysSpots_129 h24 ?_
                  refine lv_l2i (pc := 130) hx hb dX5_laysSpots_130 rfl ?_
                  obtain ⟨h25, hf⟩ := ck_some hf
                  obtain ⟨o26, eo26, hf⟩ := lt_some hf
                  refine va_iast (pc := 131) (f := w_M.2.2 37) hx hb hK.1 hP hD hS 13 0 rfl rfl h25 dX5_laysSpots_131 (fun H locs hP hD hS => ?_)
                  replace hP : va_P D vwCl (bX5 cI cZ a q o26) H := by rw [eo26]; exact hP
                  replace hD : va_D A (bX5 cI cZ a q o26) := by rw [eo26]; exact hD
                  refine lv_iinc (v := (v2 + 1)) (lv' := [(2, .int (v2 + 1)), (0, .ref a), (1, .int v1)]) (pc := 132) hx hb dX5_laysSpots_132 hl (k := 2) rfl rfl (by decide) rfl (fun ls hl => ?_)
                  refine lv_goto (pc := 135) (tgt := 102) hx hb dX5_laysSpots_135 (by decide) ?_
                  exact ih _ _ H locs ls hf hP hD hS (lv_sub hl [1, 2, 0] rfl)
            exact KL21 1000 _ _ H locs ls hz19 hP hD hS (lv_sub hl [1, 2, 0] rfl)
          replace hf := hz16
          refine lv_icmp_ne (pc := 86) (tgt := 93) hx hb dX5_laysSpots_86 (by decide) (fun c27 => ?_) (fun c27 => ?_)
          · replace hf := im c27 hf
            refine lv_aload_n (pc := 93) hx hb dX5_laysSpots_93 rfl (lv_at hl 0 rfl) ?_
            refine va_get (pc := 94) (D := D) (ci := 5) (v := .int (o15.1 39)) (C := RX5) (T := TX5) (N := 41) hx hb hts iX5 hown hK.1 hP 0 rfl rfl 39 (by decide) (hts _ fl_RX5_275) (fun _ h => h) rfl dX5_laysSpots_94 ?_
            obtain rfl := Option.some.inj hf
            exact K17 H locs ls hP hD hS (lv_sub hl [0, 1] rfl)
          · replace hf := ip c27 hf
            refine lv_iload_n (pc := 89) hx hb dX5_laysSpots_89 rfl (lv_at hl 1 rfl) ?_
            refine lv_goto (pc := 90) (tgt := 97) hx hb dX5_laysSpots_90 (by decide) ?_
            obtain rfl := Option.some.inj hf
            exact K17 H locs ls hP hD hS (lv_sub hl [0, 1] rfl)
  exact KL6 1000 _ _ H locs ls hz4 hP hD hS (lv_sub hl [1, 0] rfl)
def f_X5_spots (i0 : Int32) (om : OS) : Option (Int32 × OS) := Option.bind (f_X5_in i0 0 1) fun x1 => if x1 = 0 then some ((-1), om) else Option.bind (f_X5_laysSpots om) fun x3 => if i0 = 0 then some ((x3.1 38), x3) else some ((x3.1 39), x3)
set_option maxHeartbeats 4000000 in
set_option maxRecDepth 100000 in
theorem c_X5_spots (l : Launch) (D : va_G) (cI cZ cS : ClassId) (a : Nat) (q : Nat → Nat) (i0 : Int32) (om : OS) (x : (Int32 × OS)) (hf : f_X5_spots i0 om = some x) : Ct l yX5_spots cX5_spots 2 (some .int) 5 115 D cI cZ cS [.ref a, .int i0] (bX5 cI cZ a q om) (some (.int x.1)) (bX5 cI cZ a q x.2) := by
  intro sz
  refine Met.ofW (cc := cX5_spots) (maxL := 2) (ret := (some .int)) (by decide +kernel) rfl ?_
  intro p e s m args below meth c s₁ B hml hv
  obtain ⟨rfl, hsz, hP, hK, hD0⟩ := hv
  have hx := B.exec
  have hb := B.bytes
  have hr := B.returns
  have hts0 := atoms_spec (ws := .code yX5_spots cX5_spots 2 (some .int) :: TB) B.pre
  have hts := fun w (h : w ∈ TB) => hts0 w (List.mem_cons_of_mem _ h)
  have hown : s.vm.findClass RX5 = some m.cls := findClass_of_methodNamed B.named
  have hlocks := B.notSynchronized
  subst hsz
  have hD := hD0.self (sz := s.heap.size)
  generalize hAe : va_A (bX5 cI cZ a q om) s.heap.size = A at hD ⊢
  have hA : ∀ q : Nat, s.heap.size ≤ q → A q := fun q h => by rw [← hAe]; exact Or.inr h
  have hS : va_S A s.heap s.heap [] := va_S.rf
  obtain ⟨H, hH⟩ : ∃ H, H = s.heap := ⟨_, rfl⟩
  rw [← hH] at hP
  have hS : va_S A s.heap H [] := by rw [hH]; exact hS
  have hl := lv_entry ([.ref a, .int i0]) (n := 2) (Nat.le_of_ble_eq_true rfl)
  rw [lg_entry_eq]
  generalize (lg_sl ([.ref a, .int i0]) ++ List.replicate (2 - (lg_sl ([.ref a, .int i0])).length) Slot.unset).toArray = ls at hl ⊢
  have hl : lv_has ls 2 [(0, .ref a), (1, .int i0)] := hl
  refine W_heap hH ?_
  obtain ⟨locs, hlo⟩ : ∃ locs : List Loc, locs = [] := ⟨_, rfl⟩
  rw [← hlo] at hS ⊢
  unfold f_X5_spots at hf
  refine lv_iload_n (pc := 0) hx hb dX5_spots_0 rfl (lv_at hl 1 rfl) ?_
  refine lv_iconst (v := 0) (pc := 1) hx hb dX5_spots_1 (by decide) ?_
  refine lv_iconst (v := 1) (pc := 2) hx hb dX5_spots_2 (by decide) ?_
  obtain ⟨x1, ex1, hf⟩ := bd_some hf
  refine ct_S0 (pc := 3) (As := [.int i0, .int 0, .int 1]) (rest := []) ⟨hx, hb, hml, hown, hts⟩ hK (c_X5_in l D cI cZ cS i0 0 1 x1 ex1) gs_RX5_57 hs_X5_in rfl ⟨Nat.le_of_ble_eq_true rfl, Nat.le_of_ble_eq_true rfl⟩ hl.1 rfl (Nat.le_of_ble_eq_true rfl) dX5_spots_3 ⟨Nat.zero_le _, Nat.zero_le _⟩ hP hS hA (fun H locs hP hS => ?_)
  refine lv_if_ne (pc := 6) (tgt := 11) hx hb dX5_spots_6 (by decide) (fun c2 => ?_) (fun c2 => ?_)
  · replace hf := im c2 hf
    refine lv_aload_n (pc := 11) hx hb dX5_spots_11 rfl (lv_at hl 0 rfl) ?_
    obtain ⟨x3, ex3, hf⟩ := bd_some hf
    refine ct_V1 (pc := 12) (As := []) (rest := []) (W1 := bX5 cI cZ a q x3) ⟨hx, hb, hml, hown, hts⟩ hK (c_X5_laysSpots l D cI cZ cS a q om x3 ex3) gv_RX5_281 rfl hs_X5_laysSpots rfl ⟨Nat.le_of_ble_eq_true rfl, Nat.le_of_ble_eq_true rfl⟩ (ci := 5) (q0 := 0) rfl rfl rfl hl.1 rfl (Nat.le_of_ble_eq_true rfl) dX5_spots_12 ⟨Nat.zero_le _, Nat.zero_le _⟩ hP hD hS hA (fun H locs hP hD hS => ?_)
    refine lv_iload_n (pc := 15) hx hb dX5_spots_15 rfl (lv_at hl 1 rfl) ?_
    refine lv_if_ne (pc := 16) (tgt := 26) hx hb dX5_spots_16 (by decide) (fun c4 => ?_) (fun c4 => ?_)
    · replace hf := im c4 hf
      refine lv_aload_n (pc := 26) hx hb dX5_spots_26 rfl (lv_at hl 0 rfl) ?_
      refine va_get (pc := 27) (D := D) (ci := 5) (v := .int (x3.1 39)) (C := RX5) (T := TX5) (N := 41) hx hb hts iX5 hown hK.1 hP 0 rfl rfl 39 (by decide) (hts _ fl_RX5_275) (fun _ h => h) rfl dX5_spots_27 ?_
      obtain rfl := Option.some.inj hf
      exact W.iret hx hb hr (fun t ht hW => ⟨rfl, by rw [ht]; exact hP, hD, hS.F ht⟩) hS.2.2 dX5_spots_30
    · replace hf := ip c4 hf
      refine lv_aload_n (pc := 19) hx hb dX5_spots_19 rfl (lv_at hl 0 rfl) ?_
      refine va_get (pc := 20) (D := D) (ci := 5) (v := .int (x3.1 38)) (C := RX5) (T := TX5) (N := 41) hx hb hts iX5 hown hK.1 hP 0 rfl rfl 38 (by decide) (hts _ fl_RX5_272) (fun _ h => h) rfl dX5_spots_20 ?_
      refine lv_goto (pc := 23) (tgt := 30) hx hb dX5_spots_23 (by decide) ?_
      obtain rfl := Option.some.inj hf
      exact W.iret hx hb hr (fun t ht hW => ⟨rfl, by rw [ht]; exact hP, hD, hS.F ht⟩) hS.2.2 dX5_spots_30
  · replace hf := ip c2 hf
    refine lv_iconst (v := -1) (pc := 9) hx hb dX5_spots_9 (by decide) ?_
    obtain rfl := Option.some.inj hf
    exact W.iret hx hb hr (fun t ht hW => ⟨rfl, by rw [ht]; exact hP, hD, hS.F ht⟩) hS.2.2 dX5_spots_10
def lp_X5_mostAlike_25 (r1 : Int32) : Nat → Int32 → Int32 → OS → Option (Int32 × Int32 × OS)
  | 0, _, _, _ => none
  | n + 1, v2, v3, w_M => if 361 ≤ v3 then some (v2, v3, w_M) else ck v3 361 (if (w_M.2.2 36 (v3 : Int32).toNatClampNeg) = 0 then lp_X5_mostAlike_25 r1 n v2 (v3 + 1) w_M else ck ((8 * v3) + r1) 2888 (lt (w_M.2.2 37 (((8 * v3) + r1) : Int32).toNatClampNeg) fun y11 => ck y11 100 (ck y11 100 (lt (sA w_M 40 ((y11 : Int32).toNatClampNeg) ((w_M.2.2 40 (y11 : Int32).toNatClampNeg) + 1)) fun o14 => ck y11 100 (if (o14.2.2 40 (y11 : Int32).toNatClampNeg) ≤ v2 then lp_X5_mostAlike_25 r1 n v2 (v3 + 1) o14 else ck y11 100 (lp_X5_mostAlike_25 r1 n (o14.2.2 40 (y11 : Int32).toNatClampNeg) (v3 + 1) o14))))))
def lp_X5_mostAlike_2 : Nat → Int32 → OS → Option (Int32 × OS)
  | 0, _, _ => none
  | n + 1, v2, w_M => if 100 ≤ v2 then some (v2, w_M) else ck v2 100 (lt (sA w_M 40 ((v2 : Int32).toNatClampNeg) 0) fun o20 => lp_X5_mostAlike_2 n (v2 + 1) o20)
def f_X5_mostAlike (i0 : Int32) (om : OS) : Option (Int32 × OS) := Option.bind (lp_X5_mostAlike_2 1000 0 om) fun z1 => Option.bind (lp_X5_mostAlike_25 i0 1000 0 0 z1.2) fun z4 => some (z4.1, z4.2.2)
set_option maxHeartbeats 4000000 in
set_option maxRecDepth 100000 in
theorem c_X5_mostAlike (l : Launch) (D : va_G) (cI cZ cS : ClassId) (a : Nat) (q : Nat → Nat) (i0 : Int32) (om : OS) (x : (Int32 × OS)) (hf : f_X5_mostAlike i0 om = some x) : Ct l yX5_mostAlike cX5_mostAlike 5 (some .int) 0 0 D cI cZ cS [.ref a, .int i0] (bX5 cI cZ a q om) (some (.int x.1)) (bX5 cI cZ a q x.2) := by
  intro sz
  refine Met.ofW (cc := cX5_mostAlike) (maxL := 5) (ret := (some .int)) (by decide +kernel) rfl ?_
  intro p e s m args below meth c s₁ B hml hv
  obtain ⟨rfl, hsz, hP, hK, hD0⟩ := hv
  have hx := B.exec
  have hb := B.bytes
  have hr := B.returns
  have hts0 := atoms_spec (ws := .code yX5_mostAlike cX5_mostAlike 5 (some .int) :: TB) B.pre
  have hts := fun w (h : w ∈ TB) => hts0 w (List.mem_cons_of_mem _ h)
  have hown : s.vm.findClass RX5 = some m.cls := findClass_of_methodNamed B.named
  have hlocks := B.notSynchronized
  subst hsz
  have hD := hD0.self (sz := s.heap.size)
  generalize hAe : va_A (bX5 cI cZ a q om) s.heap.size = A at hD ⊢
  have hA : ∀ q : Nat, s.heap.size ≤ q → A q := fun q h => by rw [← hAe]; exact Or.inr h
  have hS : va_S A s.heap s.heap [] := va_S.rf
  obtain ⟨H, hH⟩ : ∃ H, H = s.heap := ⟨_, rfl⟩
  rw [← hH] at hP
  have hS : va_S A s.heap H [] := by rw [hH]; exact hS
  have hl := lv_entry ([.ref a, .int i0]) (n := 5) (Nat.le_of_ble_eq_true rfl)
  rw [lg_entry_eq]
  generalize (lg_sl ([.ref a, .int i0]) ++ List.replicate (5 - (lg_sl ([.ref a, .int i0])).length) Slot.unset).toArray = ls at hl ⊢
  have hl : lv_has ls 5 [(0, .ref a), (1, .int i0)] := hl
  refine W_heap hH ?_
  obtain ⟨locs, hlo⟩ : ∃ locs : List Loc, locs = [] := ⟨_, rfl⟩
  rw [← hlo] at hS ⊢
  unfold f_X5_mostAlike at hf
  refine lv_iconst (v := 0) (pc := 0) hx hb dX5_mostAlike_0 (by decide) ?_
  refine lv_istore_n (lv' := [(2, .int 0), (0, .ref a), (1, .int i0)]) (pc := 1) hx hb dX5_mostAlike_1 rfl hl (by decide) rfl (fun ls hl => ?_)
  obtain ⟨z1, hz1, hf⟩ := bd_some hf
  have hfz1 := hf
  clear hf
  have K2 : ∀ (H : Heap) (locs : List Loc) (ls : Array Slot), va_P D vwCl (bX5 cI cZ a q z1.2) H → va_D A (bX5 cI cZ a q z1.2) → va_S A s.heap H locs → lv_has ls 5 [(0, .ref a), (1, .int i0), (2, .int z1.1)] → GW l yX5_mostAlike cX5_mostAlike 5 (some .int) 0 0 D [.ref a, .int i0] (some (.int x.1)) (bX5 cI cZ a q x.2) A p e s m below meth c H locs (F0 m 21 ls []) := by
    intro H locs ls hP hD hS hl
    have hf := hfz1
    refine lv_iconst (v := 0) (pc := 21) hx hb dX5_mostAlike_21 (by decide) ?_
    refine lv_istore_n (lv' := [(2, .int 0), (0, .ref a), (1, .int i0)]) (pc := 22) hx hb dX5_mostAlike_22 rfl hl (by decide) rfl (fun ls hl => ?_)
    refine lv_iconst (v := 0) (pc := 23) hx hb dX5_mostAlike_23 (by decide) ?_
    refine lv_istore_n (lv' := [(3, .int 0), (2, .int 0), (0, .ref a), (1, .int i0)]) (pc := 24) hx hb dX5_mostAlike_24 rfl hl (by decide) rfl (fun ls hl => ?_)
    obtain ⟨z4, hz4, hf⟩ := bd_some hf
    have hfz4 := hf
    clear hf
    have K5 : ∀ (H : Heap) (locs : List Loc) (ls : Array Slot), va_P D vwCl (bX5 cI cZ a q z4.2.2) H → va_D A (bX5 cI cZ a q z4.2.2) → va_S A s.heap H locs → lv_has ls 5 [(0, .ref a), (1, .int i0), (2, .int z4.1), (3, .int z4.2.1)] → GW l yX5_mostAlike cX5_mostAlike 5 (some .int) 0 0 D [.ref a, .int i0] (some (.int x.1)) (bX5 cI cZ a q x.2) A p e s m below meth c H locs (F0 m 94 ls []) := by
      intro H locs ls hP hD hS hl
      have hf := hfz4
      refine lv_iload_n (pc := 94) hx hb dX5_mostAlike_94 rfl (lv_at hl 2 rfl) ?_
      obtain rfl := Option.some.inj hf
      exact W.iret hx hb hr (fun t ht hW => ⟨rfl, by rw [ht]; exact hP, hD, hS.F ht⟩) hS.2.2 dX5_mostAlike_95
    have KL6 : ∀ (n : Nat) (v2 : Int32) (v3 : Int32) (w_M : OS) (H : Heap) (locs : List Loc) (ls : Array Slot), lp_X5_mostAlike_25 i0 n v2 v3 w_M = some z4 → va_P D vwCl (bX5 cI cZ a q w_M) H → va_D A (bX5 cI cZ a q w_M) → va_S A s.heap H locs → lv_has ls 5 [(0, .ref a), (1, .int i0), (2, .int v2), (3, .int v3)] → GW l yX5_mostAlike cX5_mostAlike 5 (some .int) 0 0 D [.ref a, .int i0] (some (.int x.1)) (bX5 cI cZ a q x.2) A p e s m below meth c H locs (F0 m 25 ls []) := by
      intro n
      induction n with
      | zero => intro v2 v3 w_M H locs ls hf; cases hf
      | succ n ih =>
        intro v2 v3 w_M H locs ls hf hP hD hS hl
        rw [lp_X5_mostAlike_25] at hf
        refine lv_iload_n (pc := 25) hx hb dX5_mostAlike_25 rfl (lv_at hl 3 rfl) ?_
        refine lv_sipush (v := 361) (pc := 26) hx hb dX5_mostAlike_26 (by decide) ?_
        refine lv_icmp_ge (pc := 29) (tgt := 94) hx hb dX5_mostAlike_29 (by decide) (fun c7 => ?_) (fun c7 => ?_)
        · replace hf := ip c7 hf
          obtain rfl := Option.some.inj hf
          exact K5 H locs ls hP hD hS (lv_sub hl [0, 1, 2, 3] rfl)
        · replace hf := im c7 hf
          refine lv_aload_n (pc := 32) hx hb dX5_mostAlike_32 rfl (lv_at hl 0 rfl) ?_
          refine va_get (pc := 33) (D := D) (ci := 5) (v := .ref (q 36)) (C := RX5) (T := TX5) (N := 41) hx hb hts iX5 hown hK.1 hP 0 rfl rfl 36 (by decide) (hts _ fl_RX5_48) (fun _ h => h) rfl dX5_mostAlike_33 ?_
          refine lv_iload_n (pc := 36) hx hb dX5_mostAlike_36 rfl (lv_at hl 3 rfl) ?_
          obtain ⟨h8, hf⟩ := ck_some hf
          refine va_zald (pc := 37) (f := w_M.2.2 36) hx hb hK.1 hP 12 1 rfl rfl h8 dX5_mostAlike_37 ?_
          refine lv_if_eq (pc := 38) (tgt := 88) hx hb dX5_mostAlike_38 (by decide) (fun c9 => ?_) (fun c9 => ?_)
          · replace hf := ip c9 hf
            refine lv_iinc (v := (v3 + 1)) (lv' := [(3, .int (v3 + 1)), (0, .ref a), (1, .int i0), (2, .int v2)]) (pc := 88) hx hb dX5_mostAlike_88 hl (k := 3) rfl rfl (by decide) rfl (fun ls hl => ?_)
            refine lv_goto (pc := 91) (tgt := 25) hx hb dX5_mostAlike_91 (by decide) ?_
            exact ih _ _ _ H locs ls hf hP hD hS (lv_sub hl [1, 2, 3, 0] rfl)
          · replace hf := im c9 hf
            refine lv_aload_n (pc := 41) hx hb dX5_mostAlike_41 rfl (lv_at hl 0 rfl) ?_
            refine va_get (pc := 42) (D := D) (ci := 5) (v := .ref (q 37)) (C := RX5) (T := TX5) (N := 41) hx hb hts iX5 hown hK.1 hP 0 rfl rfl 37 (by decide) (hts _ fl_RX5_51) (fun _ h => h) rfl dX5_mostAlike_42 ?_
            refine lv_bipush (v := 8) (pc := 45) hx hb dX5_mostAlike_45 (by decide) ?_
            refine lv_iload_n (pc := 47) hx hb dX5_mostAlike_47 rfl (lv_at hl 3 rfl) ?_
            refine lv_imul (pc := 48) hx hb dX5_mostAlike_48 ?_
            refine lv_iload_n (pc := 49) hx hb dX5_mostAlike_49 rfl (lv_at hl 1 rfl) ?_
            refine lv_iadd (pc := 50) hx hb dX5_mostAlike_50 ?_
            obtain ⟨h10, hf⟩ := ck_some hf
            refine va_iald (pc := 51) (f := w_M.2.2 37) hx hb hK.1 hP 13 0 rfl rfl h10 dX5_mostAlike_51 ?_
            obtain ⟨y11, ey11, hf⟩ := lt_some hf
            refine lv_nmI ey11 ?_
            refine lv_istore (lv' := [(4, .int y11), (0, .ref a), (1, .int i0), (2, .int v2), (3, .int v3)]) (pc := 52) hx hb dX5_mostAlike_52 hl (by decide) rfl (fun ls hl => ?_)
            refine lv_aload_n (pc := 54) hx hb dX5_mostAlike_54 rfl (lv_at hl 1 rfl) ?_
            refine va_get (pc := 55) (D := D) (ci := 5) (v := .ref (q 40)) (C := RX5) (T := TX5) (N := 41) hx hb hts iX5 hown hK.1 hP 0 rfl rfl 40 (by decide) (hts _ fl_RX5_54) (fun _ h => h) rfl dX5_mostAlike_55 ?_
            refine lv_iload (pc := 58) hx hb dX5_mostAlike_58 (lv_at hl 0 rfl) ?_
            refine lv_dup2_11 (pc := 60) hx hb dX5_mostAlike_60 rfl rfl ?_
            obtain ⟨h12, hf⟩ := ck_some hf
            refine va_iald (pc := 61) (f := w_M.2.2 40) hx hb hK.1 hP 14 0 rfl rfl h12 dX5_mostAlike_61 ?_
            refine lv_iconst (v := 1) (pc := 62) hx hb dX5_mostAlike_62 (by decide) ?_
            refine lv_iadd (pc := 63) hx hb dX5_mostAlike_63 ?_
            obtain ⟨h13, hf⟩ := ck_some hf
            obtain ⟨o14, eo14, hf⟩ := lt_some hf
            refine va_iast (pc := 64) (f := w_M.2.2 40) hx hb hK.1 hP hD hS 14 0 rfl rfl h13 dX5_mostAlike_64 (fun H locs hP hD hS => ?_)
            replace hP : va_P D vwCl (bX5 cI cZ a q o14) H := by rw [eo14]; exact hP
            replace hD : va_D A (bX5 cI cZ a q o14) := by rw [eo14]; exact hD
            refine lv_aload_n (pc := 65) hx hb dX5_mostAlike_65 rfl (lv_at hl 1 rfl) ?_
            refine va_get (pc := 66) (D := D) (ci := 5) (v := .ref (q 40)) (C := RX5) (T := TX5) (N := 41) hx hb hts iX5 hown hK.1 hP 0 rfl rfl 40 (by decide) (hts _ fl_RX5_54) (fun _ h => h) rfl dX5_mostAlike_66 ?_
            refine lv_iload (pc := 69) hx hb dX5_mostAlike_69 (lv_at hl 0 rfl) ?_
            obtain ⟨h15, hf⟩ := ck_some hf
            refine va_iald (pc := 71) (f := o14.2.2 40) hx hb hK.1 hP 14 0 rfl rfl h15 dX5_mostAlike_71 ?_
            refine lv_iload_n (pc := 72) hx hb dX5_mostAlike_72 rfl (lv_at hl 3 rfl) ?_
            refine lv_icmp_le (pc := 73) (tgt := 86) hx hb dX5_mostAlike_73 (by decide) (fun c16 => ?_) (fun c16 => ?_)
            · replace hf := ip c16 hf
              refine lv_iload_n (pc := 86) hx hb dX5_mostAlike_86 rfl (lv_at hl 3 rfl) ?_
              refine lv_istore_n (lv' := [(2, .int v2), (4, .int y11), (0, .ref a), (1, .int i0), (3, .int v3)]) (pc := 87) hx hb dX5_mostAlike_87 rfl hl (by decide) rfl (fun ls hl => ?_)
              refine lv_iinc (v := (v3 + 1)) (lv' := [(3, .int (v3 + 1)), (2, .int v2), (4, .int y11), (0, .ref a), (1, .int i0)]) (pc := 88) hx hb dX5_mostAlike_88 hl (k := 4) rfl rfl (by decide) rfl (fun ls hl => ?_)
              refine lv_goto (pc := 91) (tgt := 25) hx hb dX5_mostAlike_91 (by decide) ?_
              exact ih _ _ _ H locs ls hf hP hD hS (lv_sub hl [3, 4, 1, 0] rfl)
            · replace hf := im c16 hf
              refine lv_aload_n (pc := 76) hx hb dX5_mostAlike_76 rfl (lv_at hl 1 rfl) ?_
              refine va_get (pc := 77) (D := D) (ci := 5) (v := .ref (q 40)) (C := RX5) (T := TX5) (N := 41) hx hb hts iX5 hown hK.1 hP 0 rfl rfl 40 (by decide) (hts _ fl_RX5_54) (fun _ h => h) rfl dX5_mostAlike_77 ?_
              refine lv_iload (pc := 80) hx hb dX5_mostAlike_80 (lv_at hl 0 rfl) ?_
              obtain ⟨h17, hf⟩ := ck_some hf
              refine va_iald (pc := 82) (f := o14.2.2 40) hx hb hK.1 hP 14 0 rfl rfl h17 dX5_mostAlike_82 ?_
              refine lv_goto (pc := 83) (tgt := 87) hx hb dX5_mostAlike_83 (by decide) ?_
              refine lv_istore_n (lv' := [(2, .int (o14.2.2 40 (y11 : Int32).toNatClampNeg)), (4, .int y11), (0, .ref a), (1, .int i0), (3, .int v3)]) (pc := 87) hx hb dX5_mostAlike_87 rfl hl (by decide) rfl (fun ls hl => ?_)
              refine lv_iinc (v := (v3 + 1)) (lv' := [(3, .int (v3 + 1)), (2, .int (o14.2.2 40 (y11 : Int32).toNatClampNeg)), (4, .int y11), (0, .ref a), (1, .int i0)]) (pc := 88) hx hb dX5_mostAlike_88 hl (k := 4) rfl rfl (by decide) rfl (fun ls hl => ?_)
              refine lv_goto (pc := 91) (tgt := 25) hx hb dX5_mostAlike_91 (by decide) ?_
              exact ih _ _ _ H locs ls hf hP hD hS (lv_sub hl [3, 4, 1, 0] rfl)
    exact KL6 1000 _ _ _ H locs ls hz4 hP hD hS (lv_sub hl [2, 3, 1, 0] rfl)
  have KL3 : ∀ (n : Nat) (v2 : Int32) (w_M : OS) (H : Heap) (locs : List Loc) (ls : Array Slot), lp_X5_mostAlike_2 n v2 w_M = some z1 → va_P D vwCl (bX5 cI cZ a q w_M) H → va_D A (bX5 cI cZ a q w_M) → va_S A s.heap H locs → lv_has ls 5 [(0, .ref a), (1, .int i0), (2, .int v2)] → GW l yX5_mostAlike cX5_mostAlike 5 (some .int) 0 0 D [.ref a, .int i0] (some (.int x.1)) (bX5 cI cZ a q x.2) A p e s m below meth c H locs (F0 m 2 ls []) := by
    intro n
    induction n with
    | zero => intro v2 w_M H locs ls hf; cases hf
    | succ n ih =>
      intro v2 w_M H locs ls hf hP hD hS hl
      rw [lp_X5_mostAlike_2] at hf
      refine lv_iload_n (pc := 2) hx hb dX5_mostAlike_2 rfl (lv_at hl 2 rfl) ?_
      refine lv_bipush (v := 100) (pc := 3) hx hb dX5_mostAlike_3 (by decide) ?_
      refine lv_icmp_ge (pc := 5) (tgt := 21) hx hb dX5_mostAlike_5 (by decide) (fun c18 => ?_) (fun c18 => ?_)
      · replace hf := ip c18 hf
        obtain rfl := Option.some.inj hf
        exact K2 H locs ls hP hD hS (lv_sub hl [0, 1, 2] rfl)
      · replace hf := im c18 hf
        refine lv_aload_n (pc := 8) hx hb dX5_mostAlike_8 rfl (lv_at hl 0 rfl) ?_
        refine va_get (pc := 9) (D := D) (ci := 5) (v := .ref (q 40)) (C := RX5) (T := TX5) (N := 41) hx hb hts iX5 hown hK.1 hP 0 rfl rfl 40 (by decide) (hts _ fl_RX5_54) (fun _ h => h) rfl dX5_mostAlike_9 ?_
        refine lv_iload_n (pc := 12) hx hb dX5_mostAlike_12 rfl (lv_at hl 2 rfl) ?_
        refine lv_iconst (v := 0) (pc := 13) hx hb dX5_mostAlike_13 (by decide) ?_
        obtain ⟨h19, hf⟩ := ck_some hf
        obtain ⟨o20, eo20, hf⟩ := lt_some hf
        refine va_iast (pc := 14) (f := w_M.2.2 40) hx hb hK.1 hP hD hS 14 0 rfl rfl h19 dX5_mostAlike_14 (fun H locs hP hD hS => ?_)
        replace hP : va_P D vwCl (bX5 cI cZ a q o20) H := by rw [eo20]; exact hP
        replace hD : va_D A (bX5 cI cZ a q o20) := by rw [eo20]; exact hD
        refine lv_iinc (v := (v2 + 1)) (lv' := [(2, .int (v2 + 1)), (0, .ref a), (1, .int i0)]) (pc := 15) hx hb dX5_mostAlike_15 hl (k := 2) rfl rfl (by decide) rfl (fun ls hl => ?_)
        refine lv_goto (pc := 18) (tgt := 2) hx hb dX5_mostAlike_18 (by decide) ?_
        exact ih _ _ H locs ls hf hP hD hS (lv_sub hl [1, 2, 0] rfl)
  exact KL3 1000 _ _ H locs ls hz1 hP hD hS (lv_sub hl [1, 2, 0] rfl)
def lp_X5_ask_22 : Nat → Int32 → Int32 → Int32 → OS → Option (Int32 × Int32 × Int32 × OS)
  | 0, _, _, _, _ => none
  | n + 1, v1, v2, v3, w_M => if (w_M.1 21) ≤ v3 then some (v1, v2, v3, w_M) else if (((w_M.1 22) >>> (v3 &&& 31)) &&& 1) = 1 then Option.bind (f_X5_mostAlike v3 w_M) fun x8 => Option.bind (if v1 = (-9) then some v3 else if v2 ≤ x8.1 then some v1 else some v3 : Option Int32) fun z9 => if z9 = v3 then lp_X5_ask_22 n z9 x8.1 (v3 + 1) x8.2 else lp_X5_ask_22 n z9 v2 (v3 + 1) x8.2 else lp_X5_ask_22 n v1 v2 (v3 + 1) w_M
def f_X5_ask (om : OS) : Option (Int32 × OS) := Option.bind (f_X5_laysSpots om) fun x1 => if 2 ≤ (x1.1 38) then Option.bind (lp_X5_ask_22 1000 (-9) 0 0 x1) fun z3 => some (z3.1, z3.2.2.2) else some ((-9), x1)
set_option maxHeartbeats 4000000 in
set_option maxRecDepth 100000 in
theorem c_X5_ask (l : Launch) (D : va_G) (cI cZ cS : ClassId) (a : Nat) (q : Nat → Nat) (om : OS) (x : (Int32 × OS)) (hf : f_X5_ask om = some x) : Ct l yX5_ask cX5_ask 5 (some .int) 5 115 D cI cZ cS [.ref a] (bX5 cI cZ a q om) (some (.int x.1)) (bX5 cI cZ a q x.2) := by
  intro sz
  refine Met.ofW (cc := cX5_ask) (maxL := 5) (ret := (some .int)) (by decide +kernel) rfl ?_
  intro p e s m args below meth c s₁ B hml hv
  obtain ⟨rfl, hsz, hP, hK, hD0⟩ := hv
  have hx := B.exec
  have hb := B.bytes
  have hr := B.returns
  have hts0 := atoms_spec (ws := .code yX5_ask cX5_ask 5 (some .int) :: TB) B.pre
  have hts := fun w (h : w ∈ TB) => hts0 w (List.mem_cons_of_mem _ h)
  have hown : s.vm.findClass RX5 = some m.cls := findClass_of_methodNamed B.named
  have hlocks := B.notSynchronized
  subst hsz
  have hD := hD0.self (sz := s.heap.size)
  generalize hAe : va_A (bX5 cI cZ a q om) s.heap.size = A at hD ⊢
  have hA : ∀ q : Nat, s.heap.size ≤ q → A q := fun q h => by rw [← hAe]; exact Or.inr h
  have hS : va_S A s.heap s.heap [] := va_S.rf
  obtain ⟨H, hH⟩ : ∃ H, H = s.heap := ⟨_, rfl⟩
  rw [← hH] at hP
  have hS : va_S A s.heap H [] := by rw [hH]; exact hS
  have hl := lv_entry ([.ref a]) (n := 5) (Nat.le_of_ble_eq_true rfl)
  rw [lg_entry_eq]
  generalize (lg_sl ([.ref a]) ++ List.replicate (5 - (lg_sl ([.ref a])).length) Slot.unset).toArray = ls at hl ⊢
  have hl : lv_has ls 5 [(0, .ref a)] := hl
  refine W_heap hH ?_
  obtain ⟨locs, hlo⟩ : ∃ locs : List Loc, locs = [] := ⟨_, rfl⟩
  rw [← hlo] at hS ⊢
  unfold f_X5_ask at hf
  refine lv_aload_n (pc := 0) hx hb dX5_ask_0 rfl (lv_at hl 0 rfl) ?_
  obtain ⟨x1, ex1, hf⟩ := bd_some hf
  refine ct_V1 (pc := 1) (As := []) (rest := []) (W1 := bX5 cI cZ a q x1) ⟨hx, hb, hml, hown, hts⟩ hK (c_X5_laysSpots l D cI cZ cS a q om x1 ex1) gv_RX5_281 rfl hs_X5_laysSpots rfl ⟨Nat.le_of_ble_eq_true rfl, Nat.le_of_ble_eq_true rfl⟩ (ci := 5) (q0 := 0) rfl rfl rfl hl.1 rfl (Nat.le_of_ble_eq_true rfl) dX5_ask_1 ⟨Nat.zero_le _, Nat.zero_le _⟩ hP hD hS hA (fun H locs hP hD hS => ?_)
  refine lv_aload_n (pc := 4) hx hb dX5_ask_4 rfl (lv_at hl 0 rfl) ?_
  refine va_get (pc := 5) (D := D) (ci := 5) (v := .int (x1.1 38)) (C := RX5) (T := TX5) (N := 41) hx hb hts iX5 hown hK.1 hP 0 rfl rfl 38 (by decide) (hts _ fl_RX5_272) (fun _ h => h) rfl dX5_ask_5 ?_
  refine lv_iconst (v := 2) (pc := 8) hx hb dX5_ask_8 (by decide) ?_
  refine lv_icmp_ge (pc := 9) (tgt := 15) hx hb dX5_ask_9 (by decide) (fun c2 => ?_) (fun c2 => ?_)
  · replace hf := ip c2 hf
    refine lv_bipush (v := -9) (pc := 15) hx hb dX5_ask_15 (by decide) ?_
    refine lv_istore_n (lv' := [(1, .int (-9)), (0, .ref a)]) (pc := 17) hx hb dX5_ask_17 rfl hl (by decide) rfl (fun ls hl => ?_)
    refine lv_iconst (v := 0) (pc := 18) hx hb dX5_ask_18 (by decide) ?_
    refine lv_istore_n (lv' := [(2, .int 0), (1, .int (-9)), (0, .ref a)]) (pc := 19) hx hb dX5_ask_19 rfl hl (by decide) rfl (fun ls hl => ?_)
    refine lv_iconst (v := 0) (pc := 20) hx hb dX5_ask_20 (by decide) ?_
    refine lv_istore_n (lv' := [(3, .int 0), (2, .int 0), (1, .int (-9)), (0, .ref a)]) (pc := 21) hx hb dX5_ask_21 rfl hl (by decide) rfl (fun ls hl => ?_)
    obtain ⟨z3, hz3, hf⟩ := bd_some hf
    have hfz3 := hf
    clear hf
    have K4 : ∀ (H : Heap) (locs : List Loc) (ls : Array Slot), va_P D vwCl (bX5 cI cZ a q z3.2.2.2) H → va_D A (bX5 cI cZ a q z3.2.2.2) → va_S A s.heap H locs → lv_has ls 5 [(0, .ref a), (1, .int z3.1), (2, .int z3.2.1), (3, .int z3.2.2.1)] → GW l yX5_ask cX5_ask 5 (some .int) 5 115 D [.ref a] (some (.int x.1)) (bX5 cI cZ a q x.2) A p e s m below meth c H locs (F0 m 85 ls []) := by
      intro H locs ls hP hD hS hl
      have hf := hfz3
      refine lv_iload_n (pc := 85) hx hb dX5_ask_85 rfl (lv_at hl 1 rfl) ?_
      obtain rfl := Option.some.inj hf
      exact W.iret hx hb hr (fun t ht hW => ⟨rfl, by rw [ht]; exact hP, hD, hS.F ht⟩) hS.2.2 dX5_ask_86
    have KL5 : ∀ (n : Nat) (v1 : Int32) (v2 : Int32) (v3 : Int32) (w_M : OS) (H : Heap) (locs : List Loc) (ls : Array Slot), lp_X5_ask_22 n v1 v2 v3 w_M = some z3 → va_P D vwCl (bX5 cI cZ a q w_M) H → va_D A (bX5 cI cZ a q w_M) → va_S A s.heap H locs → lv_has ls 5 [(0, .ref a), (1, .int v1), (2, .int v2), (3, .int v3)] → GW l yX5_ask cX5_ask 5 (some .int) 5 115 D [.ref a] (some (.int x.1)) (bX5 cI cZ a q x.2) A p e s m below meth c H locs (F0 m 22 ls []) := by
      intro n
      induction n with
      | zero => intro v1 v2 v3 w_M H locs ls hf; cases hf
      | succ n ih =>
        intro v1 v2 v3 w_M H locs ls hf hP hD hS hl
        rw [lp_X5_ask_22] at hf
        refine lv_iload_n (pc := 22) hx hb dX5_ask_22 rfl (lv_at hl 3 rfl) ?_
        refine lv_aload_n (pc := 23) hx hb dX5_ask_23 rfl (lv_at hl 0 rfl) ?_
        refine va_get (pc := 24) (D := D) (ci := 5) (v := .int (w_M.1 21)) (C := RX5) (T := TX5) (N := 41) hx hb hts iX5 hown hK.1 hP 0 rfl rfl 21 (by decide) (hts _ fl_RX5_150) (fun _ h => h) rfl dX5_ask_24 ?_
        refine lv_icmp_ge (pc := 27) (tgt := 85) hx hb dX5_ask_27 (by decide) (fun c6 => ?_) (fun c6 => ?_)
        · replace hf := ip c6 hf
          obtain rfl := Option.some.inj hf
          exact K4 H locs ls hP hD hS (lv_sub hl [0, 1, 2, 3] rfl)
        · replace hf := im c6 hf
          refine lv_aload_n (pc := 30) hx hb dX5_ask_30 rfl (lv_at hl 0 rfl) ?_
          refine va_get (pc := 31) (D := D) (ci := 5) (v := .int (w_M.1 22)) (C := RX5) (T := TX5) (N := 41) hx hb hts iX5 hown hK.1 hP 0 rfl rfl 22 (by decide) (hts _ fl_RX5_153) (fun _ h => h) rfl dX5_ask_31 ?_
          refine lv_iload_n (pc := 34) hx hb dX5_ask_34 rfl (lv_at hl 3 rfl) ?_
          refine lv_ishr (pc := 35) hx hb dX5_ask_35 ?_
          refine lv_iconst (v := 1) (pc := 36) hx hb dX5_ask_36 (by decide) ?_
          refine lv_iand (pc := 37) hx hb dX5_ask_37 ?_
          refine lv_iconst (v := 1) (pc := 38) hx hb dX5_ask_38 (by decide) ?_
          refine lv_icmp_ne (pc := 39) (tgt := 79) hx hb dX5_ask_39 (by decide) (fun c7 => ?_) (fun c7 => ?_)
          · replace hf := im c7 hf
            refine lv_iinc (v := (v3 + 1)) (lv' := [(3, .int (v3 + 1)), (0, .ref a), (1, .int v1), (2, .int v2)]) (pc := 79) hx hb dX5_ask_79 hl (k := 3) rfl rfl (by decide) rfl (fun ls hl => ?_)
            refine lv_goto (pc := 82) (tgt := 22) hx hb dX5_ask_82 (by decide) ?_
            exact ih _ _ _ _ H locs ls hf hP hD hS (lv_sub hl [1, 2, 3, 0] rfl)
          · replace hf := ip c7 hf
            refine lv_aload_n (pc := 42) hx hb dX5_ask_42 rfl (lv_at hl 0 rfl) ?_
            refine lv_iload_n (pc := 43) hx hb dX5_ask_43 rfl (lv_at hl 3 rfl) ?_
            obtain ⟨x8, ex8, hf⟩ := bd_some hf
            refine ct_V1 (pc := 44) (As := [.int v3]) (rest := []) (W1 := bX5 cI cZ a q x8.2) ⟨hx, hb, hml, hown, hts⟩ hK (c_X5_mostAlike l D cI cZ cS a q v3 w_M x8 ex8) gv_RX5_284 rfl hs_X5_mostAlike rfl ⟨Nat.le_of_ble_eq_true rfl, Nat.le_of_ble_eq_true rfl⟩ (ci := 5) (q0 := 0) rfl rfl rfl hl.1 rfl (Nat.le_of_ble_eq_true rfl) dX5_ask_44 ⟨Nat.zero_le _, Nat.zero_le _⟩ hP hD hS hA (fun H locs hP hD hS => ?_)
            refine lv_istore (lv' := [(4, .int x8.1), (0, .ref a), (1, .int v1), (2, .int v2), (3, .int v3)]) (pc := 47) hx hb dX5_ask_47 hl (by decide) rfl (fun ls hl => ?_)
            refine lv_iload_n (pc := 49) hx hb dX5_ask_49 rfl (lv_at hl 2 rfl) ?_
            refine lv_bipush (v := -9) (pc := 50) hx hb dX5_ask_50 (by decide) ?_
            obtain ⟨z9, hz9, hf⟩ := bd_some hf
            have K10 : ∀ (H : Heap) (locs : List Loc) (ls : Array Slot), va_P D vwCl (bX5 cI cZ a q x8.2) H → va_D A (bX5 cI cZ a q x8.2) → va_S A s.heap H locs → lv_has ls 5 [(0, .ref a), (1, .int v1), (2, .int v2), (3, .int v3), (4, .int x8.1)] → GW l yX5_ask cX5_ask 5 (some .int) 5 115 D [.ref a] (some (.int x.1)) (bX5 cI cZ a q x.2) A p e s m below meth c H locs (F0 m 66 ls [.int z9]) := by
              intro H locs ls hP hD hS hl
              refine lv_istore_n (lv' := [(1, .int z9), (0, .ref a), (2, .int v2), (3, .int v3), (4, .int x8.1)]) (pc := 66) hx hb dX5_ask_66 rfl hl (by decide) rfl (fun ls hl => ?_)
              refine lv_iload_n (pc := 67) hx hb dX5_ask_67 rfl (lv_at hl 0 rfl) ?_
              refine lv_iload_n (pc := 68) hx hb dX5_ask_68 rfl (lv_at hl 3 rfl) ?_
              refine lv_icmp_ne (pc := 69) (tgt := 77) hx hb dX5_ask_69 (by decide) (fun c11 => ?_) (fun c11 => ?_)
              · replace hf := im c11 hf
                refine lv_iload_n (pc := 77) hx hb dX5_ask_77 rfl (lv_at hl 2 rfl) ?_
                refine lv_istore_n (lv' := [(2, .int v2), (1, .int z9), (0, .ref a), (3, .int v3), (4, .int x8.1)]) (pc := 78) hx hb dX5_ask_78 rfl hl (by decide) rfl (fun ls hl => ?_)
                refine lv_iinc (v := (v3 + 1)) (lv' := [(3, .int (v3 + 1)), (2, .int v2), (1, .int z9), (0, .ref a), (4, .int x8.1)]) (pc := 79) hx hb dX5_ask_79 hl (k := 3) rfl rfl (by decide) rfl (fun ls hl => ?_)
                refine lv_goto (pc := 82) (tgt := 22) hx hb dX5_ask_82 (by decide) ?_
                exact ih _ _ _ _ H locs ls hf hP hD hS (lv_sub hl [3, 2, 1, 0] rfl)
              · replace hf := ip c11 hf
                refine lv_iload (pc := 72) hx hb dX5_ask_72 (lv_at hl 4 rfl) ?_
                refine lv_goto (pc := 74) (tgt := 78) hx hb dX5_ask_74 (by decide) ?_
                refine lv_istore_n (lv' := [(2, .int x8.1), (1, .int z9), (0, .ref a), (3, .int v3), (4, .int x8.1)]) (pc := 78) hx hb dX5_ask_78 rfl hl (by decide) rfl (fun ls hl => ?_)
                refine lv_iinc (v := (v3 + 1)) (lv' := [(3, .int (v3 + 1)), (2, .int x8.1), (1, .int z9), (0, .ref a), (4, .int x8.1)]) (pc := 79) hx hb dX5_ask_79 hl (k := 3) rfl rfl (by decide) rfl (fun ls hl => ?_)
                refine lv_goto (pc := 82) (tgt := 22) hx hb dX5_ask_82 (by decide) ?_
                exact ih _ _ _ _ H locs ls hf hP hD hS (lv_sub hl [3, 2, 1, 0] rfl)
            replace hf := hz9
            refine lv_icmp_eq (pc := 52) (tgt := 61) hx hb dX5_ask_52 (by decide) (fun c12 => ?_) (fun c12 => ?_)
            · replace hf := ip c12 hf
              refine lv_iload_n (pc := 61) hx hb dX5_ask_61 rfl (lv_at hl 4 rfl) ?_
              refine lv_goto (pc := 62) (tgt := 66) hx hb dX5_ask_62 (by decide) ?_
              obtain rfl := Option.some.inj hf
              exact K10 H locs ls hP hD hS (lv_sub hl [1, 2, 3, 4, 0] rfl)
            · replace hf := im c12 hf
              refine lv_iload (pc := 55) hx hb dX5_ask_55 (lv_at hl 0 rfl) ?_
              refine lv_iload_n (pc := 57) hx hb dX5_ask_57 rfl (lv_at hl 3 rfl) ?_
              refine lv_icmp_ge (pc := 58) (tgt := 65) hx hb dX5_ask_58 (by decide) (fun c13 => ?_) (fun c13 => ?_)
              · replace hf := ip c13 hf
                refine lv_iload_n (pc := 65) hx hb dX5_ask_65 rfl (lv_at hl 2 rfl) ?_
                obtain rfl := Option.some.inj hf
                exact K10 H locs ls hP hD hS (lv_sub hl [1, 2, 3, 4, 0] rfl)
              · replace hf := im c13 hf
                refine lv_iload_n (pc := 61) hx hb dX5_ask_61 rfl (lv_at hl 4 rfl) ?_
                refine lv_goto (pc := 62) (tgt := 66) hx hb dX5_ask_62 (by decide) ?_
                obtain rfl := Option.some.inj hf
                exact K10 H locs ls hP hD hS (lv_sub hl [1, 2, 3, 4, 0] rfl)
    exact KL5 1000 _ _ _ _ H locs ls hz3 hP hD hS (lv_sub hl [3, 2, 1, 0] rfl)
  · replace hf := im c2 hf
    refine lv_bipush (v := -9) (pc := 12) hx hb dX5_ask_12 (by decide) ?_
    obtain rfl := Option.some.inj hf
    exact W.iret hx hb hr (fun t ht hW => ⟨rfl, by rw [ht]; exact hP, hD, hS.F ht⟩) hS.2.2 dX5_ask_14
def lp_X5_keep_13 (r1 : Int32) : Nat → Int32 → OS → Option (Int32 × OS)
  | 0, _, _ => none
  | n + 1, v2, w_M => if 59 ≤ v2 then some (v2, w_M) else ck v2 59 (ck ((59 * r1) + v2) 118 (lt (sA w_M 3 ((((59 * r1) + v2) : Int32).toNatClampNeg) (w_M.2.2 0 (v2 : Int32).toNatClampNeg)) fun o12 => lp_X5_keep_13 r1 n (v2 + 1) o12))
def f_X5_keep (i0 : Int32) (om : OS) : Option (Int32 × OS) := Option.bind (f_X5_in i0 0 1) fun x1 => if x1 = 0 then some ((-1), om) else Option.bind (lp_X5_keep_13 i0 1000 0 om) fun z3 => ck i0 2 (lt (sA z3.2 4 ((i0 : Int32).toNatClampNeg) (vp_nar .boolean 1)) fun o7 => some ((o7.2.2 0 (0 : Int32).toNatClampNeg), o7))
set_option maxHeartbeats 4000000 in
set_option maxRecDepth 100000 in
theorem c_X5_keep (l : Launch) (D : va_G) (cI cZ cS : ClassId) (a : Nat) (q : Nat → Nat) (i0 : Int32) (om : OS) (x : (Int32 × OS)) (hf : f_X5_keep i0 om = some x) : Ct l yX5_keep cX5_keep 3 (some .int) 1 22 D cI cZ cS [.ref a, .int i0] (bX5 cI cZ a q om) (some (.int x.1)) (bX5 cI cZ a q x.2) := by
  intro sz
  refine Met.ofW (cc := cX5_keep) (maxL := 3) (ret := (some .int)) (by decide +kernel) rfl ?_
  intro p e s m args below meth c s₁ B hml hv
  obtain ⟨rfl, hsz, hP, hK, hD0⟩ := hv
  have hx := B.exec
  have hb := B.bytes
  have hr := B.returns
  have hts0 := atoms_spec (ws := .code yX5_keep cX5_keep 3 (some .int) :: TB) B.pre
  have hts := fun w (h : w ∈ TB) => hts0 w (List.mem_cons_of_mem _ h)
  have hown : s.vm.findClass RX5 = some m.cls := findClass_of_methodNamed B.named
  have hlocks := B.notSynchronized
  subst hsz
  have hD := hD0.self (sz := s.heap.size)
  generalize hAe : va_A (bX5 cI cZ a q om) s.heap.size = A at hD ⊢
  have hA : ∀ q : Nat, s.heap.size ≤ q → A q := fun q h => by rw [← hAe]; exact Or.inr h
  have hS : va_S A s.heap s.heap [] := va_S.rf
  obtain ⟨H, hH⟩ : ∃ H, H = s.heap := ⟨_, rfl⟩
  rw [← hH] at hP
  have hS : va_S A s.heap H [] := by rw [hH]; exact hS
  have hl := lv_entry ([.ref a, .int i0]) (n := 3) (Nat.le_of_ble_eq_true rfl)
  rw [lg_entry_eq]
  generalize (lg_sl ([.ref a, .int i0]) ++ List.replicate (3 - (lg_sl ([.ref a, .int i0])).length) Slot.unset).toArray = ls at hl ⊢
  have hl : lv_has ls 3 [(0, .ref a), (1, .int i0)] := hl
  refine W_heap hH ?_
  obtain ⟨locs, hlo⟩ : ∃ locs : List Loc, locs = [] := ⟨_, rfl⟩
  rw [← hlo] at hS ⊢
  unfold f_X5_keep at hf
  refine lv_iload_n (pc := 0) hx hb dX5_keep_0 rfl (lv_at hl 1 rfl) ?_
  refine lv_iconst (v := 0) (pc := 1) hx hb dX5_keep_1 (by decide) ?_
  refine lv_iconst (v := 1) (pc := 2) hx hb dX5_keep_2 (by decide) ?_
  obtain ⟨x1, ex1, hf⟩ := bd_some hf
  refine ct_S0 (pc := 3) (As := [.int i0, .int 0, .int 1]) (rest := []) ⟨hx, hb, hml, hown, hts⟩ hK (c_X5_in l D cI cZ cS i0 0 1 x1 ex1) gs_RX5_57 hs_X5_in rfl ⟨Nat.le_of_ble_eq_true rfl, Nat.le_of_ble_eq_true rfl⟩ hl.1 rfl (Nat.le_of_ble_eq_true rfl) dX5_keep_3 ⟨Nat.zero_le _, Nat.zero_le _⟩ hP hS hA (fun H locs hP hS => ?_)
  refine lv_if_ne (pc := 6) (tgt := 11) hx hb dX5_keep_6 (by decide) (fun c2 => ?_) (fun c2 => ?_)
  · replace hf := im c2 hf
    refine lv_iconst (v := 0) (pc := 11) hx hb dX5_keep_11 (by decide) ?_
    refine lv_istore_n (lv' := [(2, .int 0), (0, .ref a), (1, .int i0)]) (pc := 12) hx hb dX5_keep_12 rfl hl (by decide) rfl (fun ls hl => ?_)
    obtain ⟨z3, hz3, hf⟩ := bd_some hf
    have hfz3 := hf
    clear hf
    have K4 : ∀ (H : Heap) (locs : List Loc) (ls : Array Slot), va_P D vwCl (bX5 cI cZ a q z3.2) H → va_D A (bX5 cI cZ a q z3.2) → va_S A s.heap H locs → lv_has ls 3 [(0, .ref a), (1, .int i0), (2, .int z3.1)] → GW l yX5_keep cX5_keep 3 (some .int) 1 22 D [.ref a, .int i0] (some (.int x.1)) (bX5 cI cZ a q x.2) A p e s m below meth c H locs (F0 m 42 ls []) := by
      intro H locs ls hP hD hS hl
      have hf := hfz3
      refine lv_aload_n (pc := 42) hx hb dX5_keep_42 rfl (lv_at hl 0 rfl) ?_
      refine va_get (pc := 43) (D := D) (ci := 5) (v := .ref (q 4)) (C := RX5) (T := TX5) (N := 41) hx hb hts iX5 hown hK.1 hP 0 rfl rfl 4 (by decide) (hts _ fl_RX5_19) (fun _ h => h) rfl dX5_keep_43 ?_
      refine lv_iload_n (pc := 46) hx hb dX5_keep_46 rfl (lv_at hl 1 rfl) ?_
      refine lv_iconst (v := 1) (pc := 47) hx hb dX5_keep_47 (by decide) ?_
      obtain ⟨h6, hf⟩ := ck_some hf
      obtain ⟨o7, eo7, hf⟩ := lt_some hf
      refine va_zast (pc := 48) (f := z3.2.2.2 4) hx hb hK.1 hP hD hS 4 1 rfl rfl h6 dX5_keep_48 (fun H locs hP hD hS => ?_)
      replace hP : va_P D vwCl (bX5 cI cZ a q o7) H := by rw [eo7]; exact hP
      replace hD : va_D A (bX5 cI cZ a q o7) := by rw [eo7]; exact hD
      refine lv_aload_n (pc := 49) hx hb dX5_keep_49 rfl (lv_at hl 0 rfl) ?_
      refine va_get (pc := 50) (D := D) (ci := 5) (v := .ref (q 0)) (C := RX5) (T := TX5) (N := 41) hx hb hts iX5 hown hK.1 hP 0 rfl rfl 0 (by decide) (hts _ fl_RX5_7) (fun _ h => h) rfl dX5_keep_50 ?_
      refine lv_iconst (v := 0) (pc := 53) hx hb dX5_keep_53 (by decide) ?_
      have h8 : vp_in 0 59 := by unfold vp_in; decide
      refine va_iald (pc := 54) (f := o7.2.2 0) hx hb hK.1 hP 1 0 rfl rfl h8 dX5_keep_54 ?_
      obtain rfl := Option.some.inj hf
      exact W.iret hx hb hr (fun t ht hW => ⟨rfl, by rw [ht]; exact hP, hD, hS.F ht⟩) hS.2.2 dX5_keep_55
    have KL5 : ∀ (n : Nat) (v2 : Int32) (w_M : OS) (H : Heap) (locs : List Loc) (ls : Array Slot), lp_X5_keep_13 i0 n v2 w_M = some z3 → va_P D vwCl (bX5 cI cZ a q w_M) H → va_D A (bX5 cI cZ a q w_M) → va_S A s.heap H locs → lv_has ls 3 [(0, .ref a), (1, .int i0), (2, .int v2)] → GW l yX5_keep cX5_keep 3 (some .int) 1 22 D [.ref a, .int i0] (some (.int x.1)) (bX5 cI cZ a q x.2) A p e s m below meth c H locs (F0 m 13 ls []) := by
      intro n
      induction n with
      | zero => intro v2 w_M H locs ls hf; cases hf
      | succ n ih =>
        intro v2 w_M H locs ls hf hP hD hS hl
        rw [lp_X5_keep_13] at hf
        refine lv_iload_n (pc := 13) hx hb dX5_keep_13 rfl (lv_at hl 2 rfl) ?_
        refine lv_bipush (v := 59) (pc := 14) hx hb dX5_keep_14 (by decide) ?_
        refine lv_icmp_ge (pc := 16) (tgt := 42) hx hb dX5_keep_16 (by decide) (fun c9 => ?_) (fun c9 => ?_)
        · replace hf := ip c9 hf
          obtain rfl := Option.some.inj hf
          exact K4 H locs ls hP hD hS (lv_sub hl [0, 1, 2] rfl)
        · replace hf := im c9 hf
          refine lv_aload_n (pc := 19) hx hb dX5_keep_19 rfl (lv_at hl 0 rfl) ?_
          refine va_get (pc := 20) (D := D) (ci := 5) (v := .ref (q 3)) (C := RX5) (T := TX5) (N := 41) hx hb hts iX5 hown hK.1 hP 0 rfl rfl 3 (by decide) (hts _ fl_RX5_16) (fun _ h => h) rfl dX5_keep_20 ?_
          refine lv_bipush (v := 59) (pc := 23) hx hb dX5_keep_23 (by decide) ?_
          refine lv_iload_n (pc := 25) hx hb dX5_keep_25 rfl (lv_at hl 1 rfl) ?_
          refine lv_imul (pc := 26) hx hb dX5_keep_26 ?_
          refine lv_iload_n (pc := 27) hx hb dX5_keep_27 rfl (lv_at hl 2 rfl) ?_
          refine lv_iadd (pc := 28) hx hb dX5_keep_28 ?_
          refine lv_aload_n (pc := 29) hx hb dX5_keep_29 rfl (lv_at hl 0 rfl) ?_
          refine va_get (pc := 30) (D := D) (ci := 5) (v := .ref (q 0)) (C := RX5) (T := TX5) (N := 41) hx hb hts iX5 hown hK.1 hP 0 rfl rfl 0 (by decide) (hts _ fl_RX5_7) (fun _ h => h) rfl dX5_keep_30 ?_
          refine lv_iload_n (pc := 33) hx hb dX5_keep_33 rfl (lv_at hl 2 rfl) ?_
          obtain ⟨h10, hf⟩ := ck_some hf
          refine va_iald (pc := 34) (f := w_M.2.2 0) hx hb hK.1 hP 1 0 rfl rfl h10 dX5_keep_34 ?_
          obtain ⟨h11, hf⟩ := ck_some hf
          obtain ⟨o12, eo12, hf⟩ := lt_some hf
          refine va_iast (pc := 35) (f := w_M.2.2 3) hx hb hK.1 hP hD hS 3 0 rfl rfl h11 dX5_keep_35 (fun H locs hP hD hS => ?_)
          replace hP : va_P D vwCl (bX5 cI cZ a q o12) H := by rw [eo12]; exact hP
          replace hD : va_D A (bX5 cI cZ a q o12) := by rw [eo12]; exact hD
          refine lv_iinc (v := (v2 + 1)) (lv' := [(2, .int (v2 + 1)), (0, .ref a), (1, .int i0)]) (pc := 36) hx hb dX5_keep_36 hl (k := 2) rfl rfl (by decide) rfl (fun ls hl => ?_)
          refine lv_goto (pc := 39) (tgt := 13) hx hb dX5_keep_39 (by decide) ?_
          exact ih _ _ H locs ls hf hP hD hS (lv_sub hl [1, 2, 0] rfl)
    exact KL5 1000 _ _ H locs ls hz3 hP hD hS (lv_sub hl [1, 2, 0] rfl)
  · replace hf := ip c2 hf
    refine lv_iconst (v := -1) (pc := 9) hx hb dX5_keep_9 (by decide) ?_
    obtain rfl := Option.some.inj hf
    exact W.iret hx hb hr (fun t ht hW => ⟨rfl, by rw [ht]; exact hP, hD, hS.F ht⟩) hS.2.2 dX5_keep_10
def lp_X5_back_25 (r1 : Int32) : Nat → Int32 → OS → Option (Int32 × OS)
  | 0, _, _ => none
  | n + 1, v2, w_M => if 59 ≤ v2 then some (v2, w_M) else ck ((59 * r1) + v2) 118 (ck v2 59 (lt (sA w_M 0 ((v2 : Int32).toNatClampNeg) (w_M.2.2 3 (((59 * r1) + v2) : Int32).toNatClampNeg)) fun o13 => lp_X5_back_25 r1 n (v2 + 1) o13))
def f_X5_back (i0 : Int32) (om : OS) : Option (Int32 × OS) := Option.bind (f_X5_in i0 0 1) fun x1 => if x1 = 0 then some ((-1), om) else ck i0 2 (if (om.2.2 4 (i0 : Int32).toNatClampNeg) = 0 then some ((-2), om) else Option.bind (lp_X5_back_25 i0 1000 0 om) fun z5 => lt (sI z5.2 2 0) fun o8 => some ((o8.2.2 0 (0 : Int32).toNatClampNeg), o8))
set_option maxHeartbeats 4000000 in
set_option maxRecDepth 100000 in
theorem c_X5_back (l : Launch) (D : va_G) (cI cZ cS : ClassId) (a : Nat) (q : Nat → Nat) (i0 : Int32) (om : OS) (x : (Int32 × OS)) (hf : f_X5_back i0 om = some x) : Ct l yX5_back cX5_back 3 (some .int) 1 22 D cI cZ cS [.ref a, .int i0] (bX5 cI cZ a q om) (some (.int x.1)) (bX5 cI cZ a q x.2) := by
  intro sz
  refine Met.ofW (cc := cX5_back) (maxL := 3) (ret := (some .int)) (by decide +kernel) rfl ?_
  intro p e s m args below meth c s₁ B hml hv
  obtain ⟨rfl, hsz, hP, hK, hD0⟩ := hv
  have hx := B.exec
  have hb := B.bytes
  have hr := B.returns
  have hts0 := atoms_spec (ws := .code yX5_back cX5_back 3 (some .int) :: TB) B.pre
  have hts := fun w (h : w ∈ TB) => hts0 w (List.mem_cons_of_mem _ h)
  have hown : s.vm.findClass RX5 = some m.cls := findClass_of_methodNamed B.named
  have hlocks := B.notSynchronized
  subst hsz
  have hD := hD0.self (sz := s.heap.size)
  generalize hAe : va_A (bX5 cI cZ a q om) s.heap.size = A at hD ⊢
  have hA : ∀ q : Nat, s.heap.size ≤ q → A q := fun q h => by rw [← hAe]; exact Or.inr h
  have hS : va_S A s.heap s.heap [] := va_S.rf
  obtain ⟨H, hH⟩ : ∃ H, H = s.heap := ⟨_, rfl⟩
  rw [← hH] at hP
  have hS : va_S A s.heap H [] := by rw [hH]; exact hS
  have hl := lv_entry ([.ref a, .int i0]) (n := 3) (Nat.le_of_ble_eq_true rfl)
  rw [lg_entry_eq]
  generalize (lg_sl ([.ref a, .int i0]) ++ List.replicate (3 - (lg_sl ([.ref a, .int i0])).length) Slot.unset).toArray = ls at hl ⊢
  have hl : lv_has ls 3 [(0, .ref a), (1, .int i0)] := hl
  refine W_heap hH ?_
  obtain ⟨locs, hlo⟩ : ∃ locs : List Loc, locs = [] := ⟨_, rfl⟩
  rw [← hlo] at hS ⊢
  unfold f_X5_back at hf
  refine lv_iload_n (pc := 0) hx hb dX5_back_0 rfl (lv_at hl 1 rfl) ?_
  refine lv_iconst (v := 0) (pc := 1) hx hb dX5_back_1 (by decide) ?_
  refine lv_iconst (v := 1) (pc := 2) hx hb dX5_back_2 (by decide) ?_
  obtain ⟨x1, ex1, hf⟩ := bd_some hf
  refine ct_S0 (pc := 3) (As := [.int i0, .int 0, .int 1]) (rest := []) ⟨hx, hb, hml, hown, hts⟩ hK (c_X5_in l D cI cZ cS i0 0 1 x1 ex1) gs_RX5_57 hs_X5_in rfl ⟨Nat.le_of_ble_eq_true rfl, Nat.le_of_ble_eq_true rfl⟩ hl.1 rfl (Nat.le_of_ble_eq_true rfl) dX5_back_3 ⟨Nat.zero_le _, Nat.zero_le _⟩ hP hS hA (fun H locs hP hS => ?_)
  refine lv_if_ne (pc := 6) (tgt := 11) hx hb dX5_back_6 (by decide) (fun c2 => ?_) (fun c2 => ?_)
  · replace hf := im c2 hf
    refine lv_aload_n (pc := 11) hx hb dX5_back_11 rfl (lv_at hl 0 rfl) ?_
    refine va_get (pc := 12) (D := D) (ci := 5) (v := .ref (q 4)) (C := RX5) (T := TX5) (N := 41) hx hb hts iX5 hown hK.1 hP 0 rfl rfl 4 (by decide) (hts _ fl_RX5_19) (fun _ h => h) rfl dX5_back_12 ?_
    refine lv_iload_n (pc := 15) hx hb dX5_back_15 rfl (lv_at hl 1 rfl) ?_
    obtain ⟨h3, hf⟩ := ck_some hf
    refine va_zald (pc := 16) (f := om.2.2 4) hx hb hK.1 hP 4 1 rfl rfl h3 dX5_back_16 ?_
    refine lv_if_ne (pc := 17) (tgt := 23) hx hb dX5_back_17 (by decide) (fun c4 => ?_) (fun c4 => ?_)
    · replace hf := im c4 hf
      refine lv_iconst (v := 0) (pc := 23) hx hb dX5_back_23 (by decide) ?_
      refine lv_istore_n (lv' := [(2, .int 0), (0, .ref a), (1, .int i0)]) (pc := 24) hx hb dX5_back_24 rfl hl (by decide) rfl (fun ls hl => ?_)
      obtain ⟨z5, hz5, hf⟩ := bd_some hf
      have hfz5 := hf
      clear hf
      have K6 : ∀ (H : Heap) (locs : List Loc) (ls : Array Slot), va_P D vwCl (bX5 cI cZ a q z5.2) H → va_D A (bX5 cI cZ a q z5.2) → va_S A s.heap H locs → lv_has ls 3 [(0, .ref a), (1, .int i0), (2, .int z5.1)] → GW l yX5_back cX5_back 3 (some .int) 1 22 D [.ref a, .int i0] (some (.int x.1)) (bX5 cI cZ a q x.2) A p e s m below meth c H locs (F0 m 54 ls []) := by
        intro H locs ls hP hD hS hl
        have hf := hfz5
        refine lv_aload_n (pc := 54) hx hb dX5_back_54 rfl (lv_at hl 0 rfl) ?_
        refine lv_iconst (v := 0) (pc := 55) hx hb dX5_back_55 (by decide) ?_
        obtain ⟨o8, eo8, hf⟩ := lt_some hf
        refine va_put (pc := 56) (D := D) (ci := 5) (v := .int 0) (ty := .int) (C := RX5) (T := TX5) (N := 41) hx hb hts iX5 tyX5 tyX5_ok nmX5 hown hK.1 hP hD hS 0 rfl rfl 2 (by decide) (hts _ fl_RX5_111) (fun _ h => h) rfl (tyX5_ok 2 (by decide)) rfl rfl (Nat.le_of_ble_eq_true rfl) dX5_back_56 (fun H locs hP hD hS => ?_)
        replace hP : va_P D vwCl (bX5 cI cZ a q o8) H := by rw [eo8]; exact hP
        replace hD : va_D A (bX5 cI cZ a q o8) := by rw [eo8]; exact hD
        refine lv_aload_n (pc := 59) hx hb dX5_back_59 rfl (lv_at hl 0 rfl) ?_
        refine va_get (pc := 60) (D := D) (ci := 5) (v := .ref (q 0)) (C := RX5) (T := TX5) (N := 41) hx hb hts iX5 hown hK.1 hP 0 rfl rfl 0 (by decide) (hts _ fl_RX5_7) (fun _ h => h) rfl dX5_back_60 ?_
        refine lv_iconst (v := 0) (pc := 63) hx hb dX5_back_63 (by decide) ?_
        have h9 : vp_in 0 59 := by unfold vp_in; decide
        refine va_iald (pc := 64) (f := o8.2.2 0) hx hb hK.1 hP 1 0 rfl rfl h9 dX5_back_64 ?_
        obtain rfl := Option.some.inj hf
        exact W.iret hx hb hr (fun t ht hW => ⟨rfl, by rw [ht]; exact hP, hD, hS.F ht⟩) hS.2.2 dX5_back_65
      have KL7 : ∀ (n : Nat) (v2 : Int32) (w_M : OS) (H : Heap) (locs : List Loc) (ls : Array Slot), lp_X5_back_25 i0 n v2 w_M = some z5 → va_P D vwCl (bX5 cI cZ a q w_M) H → va_D A (bX5 cI cZ a q w_M) → va_S A s.heap H locs → lv_has ls 3 [(0, .ref a), (1, .int i0), (2, .int v2)] → GW l yX5_back cX5_back 3 (some .int) 1 22 D [.ref a, .int i0] (some (.int x.1)) (bX5 cI cZ a q x.2) A p e s m below meth c H locs (F0 m 25 ls []) := by
        intro n
        induction n with
        | zero => intro v2 w_M H locs ls hf; cases hf
        | succ n ih =>
          intro v2 w_M H locs ls hf hP hD hS hl
          rw [lp_X5_back_25] at hf
          refine lv_iload_n (pc := 25) hx hb dX5_back_25 rfl (lv_at hl 2 rfl) ?_
          refine lv_bipush (v := 59) (pc := 26) hx hb dX5_back_26 (by decide) ?_
          refine lv_icmp_ge (pc := 28) (tgt := 54) hx hb dX5_back_28 (by decide) (fun c10 => ?_) (fun c10 => ?_)
          · replace hf := ip c10 hf
            obtain rfl := Option.some.inj hf
            exact K6 H locs ls hP hD hS (lv_sub hl [0, 1, 2] rfl)
          · replace hf := im c10 hf
            refine lv_aload_n (pc := 31) hx hb dX5_back_31 rfl (lv_at hl 0 rfl) ?_
            refine va_get (pc := 32) (D := D) (ci := 5) (v := .ref (q 0)) (C := RX5) (T := TX5) (N := 41) hx hb hts iX5 hown hK.1 hP 0 rfl rfl 0 (by decide) (hts _ fl_RX5_7) (fun _ h => h) rfl dX5_back_32 ?_
            refine lv_iload_n (pc := 35) hx hb dX5_back_35 rfl (lv_at hl 2 rfl) ?_
            refine lv_aload_n (pc := 36) hx hb dX5_back_36 rfl (lv_at hl 0 rfl) ?_
            refine va_get (pc := 37) (D := D) (ci := 5) (v := .ref (q 3)) (C := RX5) (T := TX5) (N := 41) hx hb hts iX5 hown hK.1 hP 0 rfl rfl 3 (by decide) (hts _ fl_RX5_16) (fun _ h => h) rfl dX5_back_37 ?_
            refine lv_bipush (v := 59) (pc := 40) hx hb dX5_back_40 (by decide) ?_
            refine lv_iload_n (pc := 42) hx hb dX5_back_42 rfl (lv_at hl 1 rfl) ?_
            refine lv_imul (pc := 43) hx hb dX5_back_43 ?_
            refine lv_iload_n (pc := 44) hx hb dX5_back_44 rfl (lv_at hl 2 rfl) ?_
            refine lv_iadd (pc := 45) hx hb dX5_back_45 ?_
            obtain ⟨h11, hf⟩ := ck_some hf
            refine va_iald (pc := 46) (f := w_M.2.2 3) hx hb hK.1 hP 3 0 rfl rfl h11 dX5_back_46 ?_
            obtain ⟨h12, hf⟩ := ck_some hf
            obtain ⟨o13, eo13, hf⟩ := lt_some hf
            refine va_iast (pc := 47) (f := w_M.2.2 0) hx hb hK.1 hP hD hS 1 0 rfl rfl h12 dX5_back_47 (fun H locs hP hD hS => ?_)
            replace hP : va_P D vwCl (bX5 cI cZ a q o13) H := by rw [eo13]; exact hP
            replace hD : va_D A (bX5 cI cZ a q o13) := by rw [eo13]; exact hD
            refine lv_iinc (v := (v2 + 1)) (lv' := [(2, .int (v2 + 1)), (0, .ref a), (1, .int i0)]) (pc := 48) hx hb dX5_back_48 hl (k := 2) rfl rfl (by decide) rfl (fun ls hl => ?_)
            refine lv_goto (pc := 51) (tgt := 25) hx hb dX5_back_51 (by decide) ?_
            exact ih _ _ H locs ls hf hP hD hS (lv_sub hl [1, 2, 0] rfl)
      exact KL7 1000 _ _ H locs ls hz5 hP hD hS (lv_sub hl [1, 2, 0] rfl)
    · replace hf := ip c4 hf
      refine lv_bipush (v := -2) (pc := 20) hx hb dX5_back_20 (by decide) ?_
      obtain rfl := Option.some.inj hf
      exact W.iret hx hb hr (fun t ht hW => ⟨rfl, by rw [ht]; exact hP, hD, hS.F ht⟩) hS.2.2 dX5_back_22
  · replace hf := ip c2 hf
    refine lv_iconst (v := -1) (pc := 9) hx hb dX5_back_9 (by decide) ?_
    obtain rfl := Option.some.inj hf
    exact W.iret hx hb hr (fun t ht hW => ⟨rfl, by rw [ht]; exact hP, hD, hS.F ht⟩) hS.2.2 dX5_back_10
def f_X5_count (i0 : Int32) (om : OS) : Option Int32 := if i0 = 0 then some (om.2.2 0 (0 : Int32).toNatClampNeg) else if i0 = 1 then Option.bind (f_X5_wholes om) fun x4 => some x4 else if i0 = 2 then some (om.2.2 0 (41 : Int32).toNatClampNeg) else if i0 = 3 then some (om.1 5) else if i0 = 4 then some (om.1 7) else if i0 = 5 then some (om.1 9) else if i0 = 6 then some (om.1 2) else some (-1)
set_option maxHeartbeats 4000000 in
set_option maxRecDepth 100000 in
theorem c_X5_count (l : Launch) (D : va_G) (cI cZ cS : ClassId) (a : Nat) (q : Nat → Nat) (i0 : Int32) (om : OS) (x : Int32) (hf : f_X5_count i0 om = some x) : Ct l yX5_count cX5_count 2 (some .int) 2 44 D cI cZ cS [.ref a, .int i0] (bX5 cI cZ a q om) (some (.int x)) (bX5 cI cZ a q om) := by
  intro sz
  refine Met.ofW (cc := cX5_count) (maxL := 2) (ret := (some .int)) (by decide +kernel) rfl ?_
  intro p e s m args below meth c s₁ B hml hv
  obtain ⟨rfl, hsz, hP, hK, hD0⟩ := hv
  have hx := B.exec
  have hb := B.bytes
  have hr := B.returns
  have hts0 := atoms_spec (ws := .code yX5_count cX5_count 2 (some .int) :: TB) B.pre
  have hts := fun w (h : w ∈ TB) => hts0 w (List.mem_cons_of_mem _ h)
  have hown : s.vm.findClass RX5 = some m.cls := findClass_of_methodNamed B.named
  have hlocks := B.notSynchronized
  subst hsz
  have hD := hD0.self (sz := s.heap.size)
  generalize hAe : va_A (bX5 cI cZ a q om) s.heap.size = A at hD ⊢
  have hA : ∀ q : Nat, s.heap.size ≤ q → A q := fun q h => by rw [← hAe]; exact Or.inr h
  have hS : va_S A s.heap s.heap [] := va_S.rf
  obtain ⟨H, hH⟩ : ∃ H, H = s.heap := ⟨_, rfl⟩
  rw [← hH] at hP
  have hS : va_S A s.heap H [] := by rw [hH]; exact hS
  have hl := lv_entry ([.ref a, .int i0]) (n := 2) (Nat.le_of_ble_eq_true rfl)
  rw [lg_entry_eq]
  generalize (lg_sl ([.ref a, .int i0]) ++ List.replicate (2 - (lg_sl ([.ref a, .int i0])).length) Slot.unset).toArray = ls at hl ⊢
  have hl : lv_has ls 2 [(0, .ref a), (1, .int i0)] := hl
  refine W_heap hH ?_
  obtain ⟨locs, hlo⟩ : ∃ locs : List Loc, locs = [] := ⟨_, rfl⟩
  rw [← hlo] at hS ⊢
  unfold f_X5_count at hf
  refine lv_iload_n (pc := 0) hx hb dX5_count_0 rfl (lv_at hl 1 rfl) ?_
  by_cases c1 : i0 = 0
  · refine lv_tableIn (pc := 1) (off := 43) (tgt := 44) hx hb dX5_count_1 (by rw [c1]; decide) (by rw [c1]; decide) (by rw [c1]; decide) (by decide) ?_
    replace hf := ip c1 hf
    refine lv_aload_n (pc := 44) hx hb dX5_count_44 rfl (lv_at hl 0 rfl) ?_
    refine va_get (pc := 45) (D := D) (ci := 5) (v := .ref (q 0)) (C := RX5) (T := TX5) (N := 41) hx hb hts iX5 hown hK.1 hP 0 rfl rfl 0 (by decide) (hts _ fl_RX5_7) (fun _ h => h) rfl dX5_count_45 ?_
    refine lv_iconst (v := 0) (pc := 48) hx hb dX5_count_48 (by decide) ?_
    have h2 : vp_in 0 59 := by unfold vp_in; decide
    refine va_iald (pc := 49) (f := om.2.2 0) hx hb hK.1 hP 1 0 rfl rfl h2 dX5_count_49 ?_
    obtain rfl := Option.some.inj hf
    exact W.iret hx hb hr (fun t ht hW => ⟨rfl, by rw [ht]; exact hP, hD, hS.F ht⟩) hS.2.2 dX5_count_50
  replace hf := im c1 hf
  by_cases c3 : i0 = 1
  · refine lv_tableIn (pc := 1) (off := 50) (tgt := 51) hx hb dX5_count_1 (by rw [c3]; decide) (by rw [c3]; decide) (by rw [c3]; decide) (by decide) ?_
    replace hf := ip c3 hf
    refine lv_aload_n (pc := 51) hx hb dX5_count_51 rfl (lv_at hl 0 rfl) ?_
    obtain ⟨x4, ex4, hf⟩ := bd_some hf
    refine ct_V1 (pc := 52) (As := []) (rest := []) (W1 := bX5 cI cZ a q om) ⟨hx, hb, hml, hown, hts⟩ hK (c_X5_wholes l D cI cZ cS a q om x4 ex4) gv_RX5_137 rfl hs_X5_wholes rfl ⟨Nat.le_of_ble_eq_true rfl, Nat.le_of_ble_eq_true rfl⟩ (ci := 5) (q0 := 0) rfl rfl rfl hl.1 rfl (Nat.le_of_ble_eq_true rfl) dX5_count_52 ⟨Nat.zero_le _, Nat.zero_le _⟩ hP hD hS hA (fun H locs hP hD hS => ?_)
    obtain rfl := Option.some.inj hf
    exact W.iret hx hb hr (fun t ht hW => ⟨rfl, by rw [ht]; exact hP, hD, hS.F ht⟩) hS.2.2 dX5_count_55
  replace hf := im c3 hf
  by_cases c5 : i0 = 2
  · refine lv_tableIn (pc := 1) (off := 55) (tgt := 56) hx hb dX5_count_1 (by rw [c5]; decide) (by rw [c5]; decide) (by rw [c5]; decide) (by decide) ?_
    replace hf := ip c5 hf
    refine lv_aload_n (pc := 56) hx hb dX5_count_56 rfl (lv_at hl 0 rfl) ?_
    refine va_get (pc := 57) (D := D) (ci := 5) (v := .ref (q 0)) (C := RX5) (T := TX5) (N := 41) hx hb hts iX5 hown hK.1 hP 0 rfl rfl 0 (by decide) (hts _ fl_RX5_7) (fun _ h => h) rfl dX5_count_57 ?_
    refine lv_bipush (v := 41) (pc := 60) hx hb dX5_count_60 (by decide) ?_
    have h6 : vp_in 41 59 := by unfold vp_in; decide
    refine va_iald (pc := 62) (f := om.2.2 0) hx hb hK.1 hP 1 0 rfl rfl h6 dX5_count_62 ?_
    obtain rfl := Option.some.inj hf
    exact W.iret hx hb hr (fun t ht hW => ⟨rfl, by rw [ht]; exact hP, hD, hS.F ht⟩) hS.2.2 dX5_count_63
  replace hf := im c5 hf
  by_cases c7 : i0 = 3
  · refine lv_tableIn (pc := 1) (off := 63) (tgt := 64) hx hb dX5_count_1 (by rw [c7]; decide) (by rw [c7]; decide) (by rw [c7]; decide) (by decide) ?_
    replace hf := ip c7 hf
    refine lv_aload_n (pc := 64) hx hb dX5_count_64 rfl (lv_at hl 0 rfl) ?_
    refine va_get (pc := 65) (D := D) (ci := 5) (v := .int (om.1 5)) (C := RX5) (T := TX5) (N := 41) hx hb hts iX5 hown hK.1 hP 0 rfl rfl 5 (by decide) (hts _ fl_RX5_23) (fun _ h => h) rfl dX5_count_65 ?_
    obtain rfl := Option.some.inj hf
    exact W.iret hx hb hr (fun t ht hW => ⟨rfl, by rw [ht]; exact hP, hD, hS.F ht⟩) hS.2.2 dX5_count_68
  replace hf := im c7 hf
  by_cases c8 : i0 = 4
  · refine lv_tableIn (pc := 1) (off := 68) (tgt := 69) hx hb dX5_count_1 (by rw [c8]; decide) (by rw [c8]; decide) (by rw [c8]; decide) (by decide) ?_
    replace hf := ip c8 hf
    refine lv_aload_n (pc := 69) hx hb dX5_count_69 rfl (lv_at hl 0 rfl) ?_
    refine va_get (pc := 70) (D := D) (ci := 5) (v := .int (om.1 7)) (C := RX5) (T := TX5) (N := 41) hx hb hts iX5 hown hK.1 hP 0 rfl rfl 7 (by decide) (hts _ fl_RX5_114) (fun _ h => h) rfl dX5_count_70 ?_
    obtain rfl := Option.some.inj hf
    exact W.iret hx hb hr (fun t ht hW => ⟨rfl, by rw [ht]; exact hP, hD, hS.F ht⟩) hS.2.2 dX5_count_73
  replace hf := im c8 hf
  by_cases c9 : i0 = 5
  · refine lv_tableIn (pc := 1) (off := 73) (tgt := 74) hx hb dX5_count_1 (by rw [c9]; decide) (by rw [c9]; decide) (by rw [c9]; decide) (by decide) ?_
    replace hf := ip c9 hf
    refine lv_aload_n (pc := 74) hx hb dX5_count_74 rfl (lv_at hl 0 rfl) ?_
    refine va_get (pc := 75) (D := D) (ci := 5) (v := .int (om.1 9)) (C := RX5) (T := TX5) (N := 41) hx hb hts iX5 hown hK.1 hP 0 rfl rfl 9 (by decide) (hts _ fl_RX5_61) (fun _ h => h) rfl dX5_count_75 ?_
    obtain rfl := Option.some.inj hf
    exact W.iret hx hb hr (fun t ht hW => ⟨rfl, by rw [ht]; exact hP, hD, hS.F ht⟩) hS.2.2 dX5_count_78
  replace hf := im c9 hf
  by_cases c10 : i0 = 6
  · refine lv_tableIn (pc := 1) (off := 78) (tgt := 79) hx hb dX5_count_1 (by rw [c10]; decide) (by rw [c10]; decide) (by rw [c10]; decide) (by decide) ?_
    replace hf := ip c10 hf
    refine lv_aload_n (pc := 79) hx hb dX5_count_79 rfl (lv_at hl 0 rfl) ?_
    refine va_get (pc := 80) (D := D) (ci := 5) (v := .int (om.1 2)) (C := RX5) (T := TX5) (N := 41) hx hb hts iX5 hown hK.1 hP 0 rfl rfl 2 (by decide) (hts _ fl_RX5_111) (fun _ h => h) rfl dX5_count_80 ?_
    obtain rfl := Option.some.inj hf
    exact W.iret hx hb hr (fun t ht hW => ⟨rfl, by rw [ht]; exact hP, hD, hS.F ht⟩) hS.2.2 dX5_count_83
  replace hf := im c10 hf
  refine lv_tableOut (pc := 1) (tgt := 84) hx hb dX5_count_1 (by have := lv_neT c1 (a := 0) rfl; have := lv_neT c3 (a := 1) rfl; have := lv_neT c5 (a := 2) rfl; have := lv_neT c7 (a := 3) rfl; have := lv_neT c8 (a := 4) rfl; have := lv_neT c9 (a := 5) rfl; have := lv_neT c10 (a := 6) rfl; omega) (by decide) ?_
  refine lv_iconst (v := -1) (pc := 84) hx hb dX5_count_84 (by decide) ?_
  obtain rfl := Option.some.inj hf
  exact W.iret hx hb hr (fun t ht hW => ⟨rfl, by rw [ht]; exact hP, hD, hS.F ht⟩) hS.2.2 dX5_count_85
