def f_X5_in (i0 : Int32) (i1 : Int32) (i2 : Int32) : Option Int32 := if i0 < i1 then some 0 else if i2 < i0 then some 0 else some 1
set_option maxHeartbeats 4000000 in
set_option maxRecDepth 100000 in
theorem c_X5_in (l : Launch) (D : va_G) (cI cZ cS : ClassId) (i0 : Int32) (i1 : Int32) (i2 : Int32) (x : Int32) (hf : f_X5_in i0 i1 i2 = some x) : Ct l yX5_in cX5_in 3 (some .boolean) 0 0 D cI cZ cS [.int i0, .int i1, .int i2] ([]) (some (.int x)) ([]) := by
  intro sz
  refine Met.ofW (cc := cX5_in) (maxL := 3) (ret := (some .boolean)) (by decide +kernel) rfl ?_
  intro p e s m args below meth c s₁ B hml hv
  obtain ⟨rfl, hsz, hP, hK, hD0⟩ := hv
  have hx := B.exec
  have hb := B.bytes
  have hr := B.returns
  have hts0 := atoms_spec (ws := .code yX5_in cX5_in 3 (some .boolean) :: TB) B.pre
  have hts := fun w (h : w ∈ TB) => hts0 w (List.mem_cons_of_mem _ h)
  have hown : s.vm.findClass RX5 = some m.cls := findClass_of_methodNamed B.named
  have hlocks := B.notSynchronized
  subst hsz
  have hD := hD0.self (sz := s.heap.size)
  generalize hAe : va_A ([]) s.heap.size = A at hD ⊢
  have hA : ∀ q : Nat, s.heap.size ≤ q → A q := fun q h => by rw [← hAe]; exact Or.inr h
  have hS : va_S A s.heap s.heap [] := va_S.rf
  obtain ⟨H, hH⟩ : ∃ H, H = s.heap := ⟨_, rfl⟩
  rw [← hH] at hP
  have hS : va_S A s.heap H [] := by rw [hH]; exact hS
  have hl := lv_entry ([.int i0, .int i1, .int i2]) (n := 3) (Nat.le_of_ble_eq_true rfl)
  rw [lg_entry_eq]
  generalize (lg_sl ([.int i0, .int i1, .int i2]) ++ List.replicate (3 - (lg_sl ([.int i0, .int i1, .int i2])).length) Slot.unset).toArray = ls at hl ⊢
  have hl : lv_has ls 3 [(0, .int i0), (1, .int i1), (2, .int i2)] := hl
  refine W_heap hH ?_
  obtain ⟨locs, hlo⟩ : ∃ locs : List Loc, locs = [] := ⟨_, rfl⟩
  rw [← hlo] at hS ⊢
  unfold f_X5_in at hf
  refine lv_iload_n (pc := 0) hx hb dX5_in_0 rfl (lv_at hl 0 rfl) ?_
  refine lv_iload_n (pc := 1) hx hb dX5_in_1 rfl (lv_at hl 1 rfl) ?_
  refine lv_icmp_lt (pc := 2) (tgt := 14) hx hb dX5_in_2 (by decide) (fun c1 => ?_) (fun c1 => ?_)
  · replace hf := ip c1 hf
    refine lv_iconst (v := 0) (pc := 14) hx hb dX5_in_14 (by decide) ?_
    obtain rfl := Option.some.inj hf
    exact W.zret hx hb hr rfl (fun t ht hW => ⟨rfl, by rw [ht]; exact hP, hD, hS.F ht⟩) hS.2.2 dX5_in_15
  · replace hf := im c1 hf
    refine lv_iload_n (pc := 5) hx hb dX5_in_5 rfl (lv_at hl 0 rfl) ?_
    refine lv_iload_n (pc := 6) hx hb dX5_in_6 rfl (lv_at hl 2 rfl) ?_
    refine lv_icmp_gt (pc := 7) (tgt := 14) hx hb dX5_in_7 (by decide) (fun c2 => ?_) (fun c2 => ?_)
    · replace hf := ip c2 hf
      refine lv_iconst (v := 0) (pc := 14) hx hb dX5_in_14 (by decide) ?_
      obtain rfl := Option.some.inj hf
      exact W.zret hx hb hr rfl (fun t ht hW => ⟨rfl, by rw [ht]; exact hP, hD, hS.F ht⟩) hS.2.2 dX5_in_15
    · replace hf := im c2 hf
      refine lv_iconst (v := 1) (pc := 10) hx hb dX5_in_10 (by decide) ?_
      refine lv_goto (pc := 11) (tgt := 15) hx hb dX5_in_11 (by decide) ?_
      obtain rfl := Option.some.inj hf
      exact W.zret hx hb hr rfl (fun t ht hW => ⟨rfl, by rw [ht]; exact hP, hD, hS.F ht⟩) hS.2.2 dX5_in_15
def f_X5_ofPile (i0 : Int32) (i1 : Int32) (om : OS) : Option Int32 := ck ((1 + (5 * i0)) + i1) 59 (some (om.2.2 0 (((1 + (5 * i0)) + i1) : Int32).toNatClampNeg))
set_option maxHeartbeats 4000000 in
set_option maxRecDepth 100000 in
theorem c_X5_ofPile (l : Launch) (D : va_G) (cI cZ cS : ClassId) (a : Nat) (q : Nat → Nat) (i0 : Int32) (i1 : Int32) (om : OS) (x : Int32) (hf : f_X5_ofPile i0 i1 om = some x) : Ct l yX5_ofPile cX5_ofPile 3 (some .int) 0 0 D cI cZ cS [.ref a, .int i0, .int i1] (bX5 cI cZ a q om) (some (.int x)) (bX5 cI cZ a q om) := by
  intro sz
  refine Met.ofW (cc := cX5_ofPile) (maxL := 3) (ret := (some .int)) (by decide +kernel) rfl ?_
  intro p e s m args below meth c s₁ B hml hv
  obtain ⟨rfl, hsz, hP, hK, hD0⟩ := hv
  have hx := B.exec
  have hb := B.bytes
  have hr := B.returns
  have hts0 := atoms_spec (ws := .code yX5_ofPile cX5_ofPile 3 (some .int) :: TB) B.pre
  have hts := fun w (h : w ∈ TB) => hts0 w (List.mem_cons_of_mem _ h)
  have hown : s.vm.findClass RX5 = some m.cls := findClass_of_methodNamed B.named
  have hlocks := B.notSynchronized
  subst hsz
  have hD := hD0.self (sz := s.heap.size)
  generalize hAe : va_A (bX5 cI cZ a q om) s.heap.size = A at hD ⊢
  have hA : ∀ q : Nat, s.heap.size ≤ q → A q := fun q h => by rw [← hAe]; exact Or.inr h
  have hS : va_S A s.heap s.heap [] := va_S.rf
  obtain ⟨H, hH⟩ : ∃ H, H = s.heap := ⟨_, rfl⟩
  rw [← hH] at hP
  have hS : va_S A s.heap H [] := by rw [hH]; exact hS
  have hl := lv_entry ([.ref a, .int i0, .int i1]) (n := 3) (Nat.le_of_ble_eq_true rfl)
  rw [lg_entry_eq]
  generalize (lg_sl ([.ref a, .int i0, .int i1]) ++ List.replicate (3 - (lg_sl ([.ref a, .int i0, .int i1])).length) Slot.unset).toArray = ls at hl ⊢
  have hl : lv_has ls 3 [(0, .ref a), (1, .int i0), (2, .int i1)] := hl
  refine W_heap hH ?_
  obtain ⟨locs, hlo⟩ : ∃ locs : List Loc, locs = [] := ⟨_, rfl⟩
  rw [← hlo] at hS ⊢
  unfold f_X5_ofPile at hf
  refine lv_aload_n (pc := 0) hx hb dX5_ofPile_0 rfl (lv_at hl 0 rfl) ?_
  refine va_get (pc := 1) (D := D) (ci := 5) (v := .ref (q 0)) (C := RX5) (T := TX5) (N := 41) hx hb hts iX5 hown hK.1 hP 0 rfl rfl 0 (by decide) (hts _ fl_RX5_7) (fun _ h => h) rfl dX5_ofPile_1 ?_
  refine lv_iconst (v := 1) (pc := 4) hx hb dX5_ofPile_4 (by decide) ?_
  refine lv_iconst (v := 5) (pc := 5) hx hb dX5_ofPile_5 (by decide) ?_
  refine lv_iload_n (pc := 6) hx hb dX5_ofPile_6 rfl (lv_at hl 1 rfl) ?_
  refine lv_imul (pc := 7) hx hb dX5_ofPile_7 ?_
  refine lv_iadd (pc := 8) hx hb dX5_ofPile_8 ?_
  refine lv_iload_n (pc := 9) hx hb dX5_ofPile_9 rfl (lv_at hl 2 rfl) ?_
  refine lv_iadd (pc := 10) hx hb dX5_ofPile_10 ?_
  obtain ⟨h1, hf⟩ := ck_some hf
  refine va_iald (pc := 11) (f := om.2.2 0) hx hb hK.1 hP 1 0 rfl rfl h1 dX5_ofPile_11 ?_
  obtain rfl := Option.some.inj hf
  exact W.iret hx hb hr (fun t ht hW => ⟨rfl, by rw [ht]; exact hP, hD, hS.F ht⟩) hS.2.2 dX5_ofPile_12
def f_X5_ofColumn (i0 : Int32) (i1 : Int32) (om : OS) : Option Int32 := ck ((42 + (3 * i0)) + i1) 59 (some (om.2.2 0 (((42 + (3 * i0)) + i1) : Int32).toNatClampNeg))
set_option maxHeartbeats 4000000 in
set_option maxRecDepth 100000 in
theorem c_X5_ofColumn (l : Launch) (D : va_G) (cI cZ cS : ClassId) (a : Nat) (q : Nat → Nat) (i0 : Int32) (i1 : Int32) (om : OS) (x : Int32) (hf : f_X5_ofColumn i0 i1 om = some x) : Ct l yX5_ofColumn cX5_ofColumn 3 (some .int) 0 0 D cI cZ cS [.ref a, .int i0, .int i1] (bX5 cI cZ a q om) (some (.int x)) (bX5 cI cZ a q om) := by
  intro sz
  refine Met.ofW (cc := cX5_ofColumn) (maxL := 3) (ret := (some .int)) (by decide +kernel) rfl ?_
  intro p e s m args below meth c s₁ B hml hv
  obtain ⟨rfl, hsz, hP, hK, hD0⟩ := hv
  have hx := B.exec
  have hb := B.bytes
  have hr := B.returns
  have hts0 := atoms_spec (ws := .code yX5_ofColumn cX5_ofColumn 3 (some .int) :: TB) B.pre
  have hts := fun w (h : w ∈ TB) => hts0 w (List.mem_cons_of_mem _ h)
  have hown : s.vm.findClass RX5 = some m.cls := findClass_of_methodNamed B.named
  have hlocks := B.notSynchronized
  subst hsz
  have hD := hD0.self (sz := s.heap.size)
  generalize hAe : va_A (bX5 cI cZ a q om) s.heap.size = A at hD ⊢
  have hA : ∀ q : Nat, s.heap.size ≤ q → A q := fun q h => by rw [← hAe]; exact Or.inr h
  have hS : va_S A s.heap s.heap [] := va_S.rf
  obtain ⟨H, hH⟩ : ∃ H, H = s.heap := ⟨_, rfl⟩
  rw [← hH] at hP
  have hS : va_S A s.heap H [] := by rw [hH]; exact hS
  have hl := lv_entry ([.ref a, .int i0, .int i1]) (n := 3) (Nat.le_of_ble_eq_true rfl)
  rw [lg_entry_eq]
  generalize (lg_sl ([.ref a, .int i0, .int i1]) ++ List.replicate (3 - (lg_sl ([.ref a, .int i0, .int i1])).length) Slot.unset).toArray = ls at hl ⊢
  have hl : lv_has ls 3 [(0, .ref a), (1, .int i0), (2, .int i1)] := hl
  refine W_heap hH ?_
  obtain ⟨locs, hlo⟩ : ∃ locs : List Loc, locs = [] := ⟨_, rfl⟩
  rw [← hlo] at hS ⊢
  unfold f_X5_ofColumn at hf
  refine lv_aload_n (pc := 0) hx hb dX5_ofColumn_0 rfl (lv_at hl 0 rfl) ?_
  refine va_get (pc := 1) (D := D) (ci := 5) (v := .ref (q 0)) (C := RX5) (T := TX5) (N := 41) hx hb hts iX5 hown hK.1 hP 0 rfl rfl 0 (by decide) (hts _ fl_RX5_7) (fun _ h => h) rfl dX5_ofColumn_1 ?_
  refine lv_bipush (v := 42) (pc := 4) hx hb dX5_ofColumn_4 (by decide) ?_
  refine lv_iconst (v := 3) (pc := 6) hx hb dX5_ofColumn_6 (by decide) ?_
  refine lv_iload_n (pc := 7) hx hb dX5_ofColumn_7 rfl (lv_at hl 1 rfl) ?_
  refine lv_imul (pc := 8) hx hb dX5_ofColumn_8 ?_
  refine lv_iadd (pc := 9) hx hb dX5_ofColumn_9 ?_
  refine lv_iload_n (pc := 10) hx hb dX5_ofColumn_10 rfl (lv_at hl 2 rfl) ?_
  refine lv_iadd (pc := 11) hx hb dX5_ofColumn_11 ?_
  obtain ⟨h1, hf⟩ := ck_some hf
  refine va_iald (pc := 12) (f := om.2.2 0) hx hb hK.1 hP 1 0 rfl rfl h1 dX5_ofColumn_12 ?_
  obtain rfl := Option.some.inj hf
  exact W.iret hx hb hr (fun t ht hW => ⟨rfl, by rw [ht]; exact hP, hD, hS.F ht⟩) hS.2.2 dX5_ofColumn_13
def f_X5_isPile (i0 : Int32) (om : OS) : Option Int32 := Option.bind (f_X5_in i0 0 ((om.2.2 0 (0 : Int32).toNatClampNeg) - 1)) fun x2 => bz x2 (some x2)
set_option maxHeartbeats 4000000 in
set_option maxRecDepth 100000 in
theorem c_X5_isPile (l : Launch) (D : va_G) (cI cZ cS : ClassId) (a : Nat) (q : Nat → Nat) (i0 : Int32) (om : OS) (x : Int32) (hf : f_X5_isPile i0 om = some x) : Ct l yX5_isPile cX5_isPile 2 (some .boolean) 1 22 D cI cZ cS [.ref a, .int i0] (bX5 cI cZ a q om) (some (.int x)) (bX5 cI cZ a q om) := by
  intro sz
  refine Met.ofW (cc := cX5_isPile) (maxL := 2) (ret := (some .boolean)) (by decide +kernel) rfl ?_
  intro p e s m args below meth c s₁ B hml hv
  obtain ⟨rfl, hsz, hP, hK, hD0⟩ := hv
  have hx := B.exec
  have hb := B.bytes
  have hr := B.returns
  have hts0 := atoms_spec (ws := .code yX5_isPile cX5_isPile 2 (some .boolean) :: TB) B.pre
  have hts := fun w (h : w ∈ TB) => hts0 w (List.mem_cons_of_mem _ h)
  have hown : s.vm.findClass RX5 = some m.cls := findClass_of_methodNamed B.named
  have hlocks := B.notSynchronized
  subst hsz
  have hD := hD0.self (sz := s.heap.size)
  generalize hAe : va_A (bX5 cI cZ a q om) s.heap.size = A at hD ⊢
  have hA : ∀ q : Nat, s.heap.size ≤ q → A q := fun q h => by rw [← hAe]; exact Or.inr h
  have hS : va_S A s.heap s.heap [] := va_S.rf
  obtain ⟨H, hH⟩ : ∃ H, H = s.heap := ⟨_, rfl⟩
  rw [← hH] at hP
  have hS : va_S A s.heap H [] := by rw [hH]; exact hS
  have hl := lv_entry ([.ref a, .int i0]) (n := 2) (Nat.le_of_ble_eq_true rfl)
  rw [lg_entry_eq]
  generalize (lg_sl ([.ref a, .int i0]) ++ List.replicate (2 - (lg_sl ([.ref a, .int i0])).length) Slot.unset).toArray = ls at hl ⊢
  have hl : lv_has ls 2 [(0, .ref a), (1, .int i0)] := hl
  refine W_heap hH ?_
  obtain ⟨locs, hlo⟩ : ∃ locs : List Loc, locs = [] := ⟨_, rfl⟩
  rw [← hlo] at hS ⊢
  unfold f_X5_isPile at hf
  refine lv_iload_n (pc := 0) hx hb dX5_isPile_0 rfl (lv_at hl 1 rfl) ?_
  refine lv_iconst (v := 0) (pc := 1) hx hb dX5_isPile_1 (by decide) ?_
  refine lv_aload_n (pc := 2) hx hb dX5_isPile_2 rfl (lv_at hl 0 rfl) ?_
  refine va_get (pc := 3) (D := D) (ci := 5) (v := .ref (q 0)) (C := RX5) (T := TX5) (N := 41) hx hb hts iX5 hown hK.1 hP 0 rfl rfl 0 (by decide) (hts _ fl_RX5_7) (fun _ h => h) rfl dX5_isPile_3 ?_
  refine lv_iconst (v := 0) (pc := 6) hx hb dX5_isPile_6 (by decide) ?_
  have h1 : vp_in 0 59 := by unfold vp_in; decide
  refine va_iald (pc := 7) (f := om.2.2 0) hx hb hK.1 hP 1 0 rfl rfl h1 dX5_isPile_7 ?_
  refine lv_iconst (v := 1) (pc := 8) hx hb dX5_isPile_8 (by decide) ?_
  refine lv_isub (pc := 9) hx hb dX5_isPile_9 ?_
  obtain ⟨x2, ex2, hf⟩ := bd_some hf
  refine ct_S0 (pc := 10) (As := [.int i0, .int 0, .int ((om.2.2 0 (0 : Int32).toNatClampNeg) - 1)]) (rest := []) ⟨hx, hb, hml, hown, hts⟩ hK (c_X5_in l D cI cZ cS i0 0 ((om.2.2 0 (0 : Int32).toNatClampNeg) - 1) x2 ex2) gs_RX5_57 hs_X5_in rfl ⟨Nat.le_of_ble_eq_true rfl, Nat.le_of_ble_eq_true rfl⟩ hl.1 rfl (Nat.le_of_ble_eq_true rfl) dX5_isPile_10 ⟨Nat.zero_le _, Nat.zero_le _⟩ hP hS hA (fun H locs hP hS => ?_)
  obtain ⟨h3, hf⟩ := bz_some hf
  obtain rfl := Option.some.inj hf
  exact W.zret hx hb hr h3 (fun t ht hW => ⟨rfl, by rw [ht]; exact hP, hD, hS.F ht⟩) hS.2.2 dX5_isPile_13
def f_X5_isColumn (i0 : Int32) (om : OS) : Option Int32 := Option.bind (f_X5_in i0 0 ((om.2.2 0 (41 : Int32).toNatClampNeg) - 1)) fun x2 => bz x2 (some x2)
set_option maxHeartbeats 4000000 in
set_option maxRecDepth 100000 in
theorem c_X5_isColumn (l : Launch) (D : va_G) (cI cZ cS : ClassId) (a : Nat) (q : Nat → Nat) (i0 : Int32) (om : OS) (x : Int32) (hf : f_X5_isColumn i0 om = some x) : Ct l yX5_isColumn cX5_isColumn 2 (some .boolean) 1 22 D cI cZ cS [.ref a, .int i0] (bX5 cI cZ a q om) (some (.int x)) (bX5 cI cZ a q om) := by
  intro sz
  refine Met.ofW (cc := cX5_isColumn) (maxL := 2) (ret := (some .boolean)) (by decide +kernel) rfl ?_
  intro p e s m args below meth c s₁ B hml hv
  obtain ⟨rfl, hsz, hP, hK, hD0⟩ := hv
  have hx := B.exec
  have hb := B.bytes
  have hr := B.returns
  have hts0 := atoms_spec (ws := .code yX5_isColumn cX5_isColumn 2 (some .boolean) :: TB) B.pre
  have hts := fun w (h : w ∈ TB) => hts0 w (List.mem_cons_of_mem _ h)
  have hown : s.vm.findClass RX5 = some m.cls := findClass_of_methodNamed B.named
  have hlocks := B.notSynchronized
  subst hsz
  have hD := hD0.self (sz := s.heap.size)
  generalize hAe : va_A (bX5 cI cZ a q om) s.heap.size = A at hD ⊢
  have hA : ∀ q : Nat, s.heap.size ≤ q → A q := fun q h => by rw [← hAe]; exact Or.inr h
  have hS : va_S A s.heap s.heap [] := va_S.rf
  obtain ⟨H, hH⟩ : ∃ H, H = s.heap := ⟨_, rfl⟩
  rw [← hH] at hP
  have hS : va_S A s.heap H [] := by rw [hH]; exact hS
  have hl := lv_entry ([.ref a, .int i0]) (n := 2) (Nat.le_of_ble_eq_true rfl)
  rw [lg_entry_eq]
  generalize (lg_sl ([.ref a, .int i0]) ++ List.replicate (2 - (lg_sl ([.ref a, .int i0])).length) Slot.unset).toArray = ls at hl ⊢
  have hl : lv_has ls 2 [(0, .ref a), (1, .int i0)] := hl
  refine W_heap hH ?_
  obtain ⟨locs, hlo⟩ : ∃ locs : List Loc, locs = [] := ⟨_, rfl⟩
  rw [← hlo] at hS ⊢
  unfold f_X5_isColumn at hf
  refine lv_iload_n (pc := 0) hx hb dX5_isColumn_0 rfl (lv_at hl 1 rfl) ?_
  refine lv_iconst (v := 0) (pc := 1) hx hb dX5_isColumn_1 (by decide) ?_
  refine lv_aload_n (pc := 2) hx hb dX5_isColumn_2 rfl (lv_at hl 0 rfl) ?_
  refine va_get (pc := 3) (D := D) (ci := 5) (v := .ref (q 0)) (C := RX5) (T := TX5) (N := 41) hx hb hts iX5 hown hK.1 hP 0 rfl rfl 0 (by decide) (hts _ fl_RX5_7) (fun _ h => h) rfl dX5_isColumn_3 ?_
  refine lv_bipush (v := 41) (pc := 6) hx hb dX5_isColumn_6 (by decide) ?_
  have h1 : vp_in 41 59 := by unfold vp_in; decide
  refine va_iald (pc := 8) (f := om.2.2 0) hx hb hK.1 hP 1 0 rfl rfl h1 dX5_isColumn_8 ?_
  refine lv_iconst (v := 1) (pc := 9) hx hb dX5_isColumn_9 (by decide) ?_
  refine lv_isub (pc := 10) hx hb dX5_isColumn_10 ?_
  obtain ⟨x2, ex2, hf⟩ := bd_some hf
  refine ct_S0 (pc := 11) (As := [.int i0, .int 0, .int ((om.2.2 0 (41 : Int32).toNatClampNeg) - 1)]) (rest := []) ⟨hx, hb, hml, hown, hts⟩ hK (c_X5_in l D cI cZ cS i0 0 ((om.2.2 0 (41 : Int32).toNatClampNeg) - 1) x2 ex2) gs_RX5_57 hs_X5_in rfl ⟨Nat.le_of_ble_eq_true rfl, Nat.le_of_ble_eq_true rfl⟩ hl.1 rfl (Nat.le_of_ble_eq_true rfl) dX5_isColumn_11 ⟨Nat.zero_le _, Nat.zero_le _⟩ hP hS hA (fun H locs hP hS => ?_)
  obtain ⟨h3, hf⟩ := bz_some hf
  obtain rfl := Option.some.inj hf
  exact W.zret hx hb hr h3 (fun t ht hW => ⟨rfl, by rw [ht]; exact hP, hD, hS.F ht⟩) hS.2.2 dX5_isColumn_14
def f_X5_isPlace (i0 : Int32) (i1 : Int32) : Option Int32 := Option.bind (f_X5_in i0 (-9) 9) fun x1 => if x1 = 0 then some 0 else Option.bind (f_X5_in i1 (-9) 9) fun x3 => if x3 = 0 then some 0 else some 1
set_option maxHeartbeats 4000000 in
set_option maxRecDepth 100000 in
theorem c_X5_isPlace (l : Launch) (D : va_G) (cI cZ cS : ClassId) (i0 : Int32) (i1 : Int32) (x : Int32) (hf : f_X5_isPlace i0 i1 = some x) : Ct l yX5_isPlace cX5_isPlace 2 (some .boolean) 1 22 D cI cZ cS [.int i0, .int i1] ([]) (some (.int x)) ([]) := by
  intro sz
  refine Met.ofW (cc := cX5_isPlace) (maxL := 2) (ret := (some .boolean)) (by decide +kernel) rfl ?_
  intro p e s m args below meth c s₁ B hml hv
  obtain ⟨rfl, hsz, hP, hK, hD0⟩ := hv
  have hx := B.exec
  have hb := B.bytes
  have hr := B.returns
  have hts0 := atoms_spec (ws := .code yX5_isPlace cX5_isPlace 2 (some .boolean) :: TB) B.pre
  have hts := fun w (h : w ∈ TB) => hts0 w (List.mem_cons_of_mem _ h)
  have hown : s.vm.findClass RX5 = some m.cls := findClass_of_methodNamed B.named
  have hlocks := B.notSynchronized
  subst hsz
  have hD := hD0.self (sz := s.heap.size)
  generalize hAe : va_A ([]) s.heap.size = A at hD ⊢
  have hA : ∀ q : Nat, s.heap.size ≤ q → A q := fun q h => by rw [← hAe]; exact Or.inr h
  have hS : va_S A s.heap s.heap [] := va_S.rf
  obtain ⟨H, hH⟩ : ∃ H, H = s.heap := ⟨_, rfl⟩
  rw [← hH] at hP
  have hS : va_S A s.heap H [] := by rw [hH]; exact hS
  have hl := lv_entry ([.int i0, .int i1]) (n := 2) (Nat.le_of_ble_eq_true rfl)
  rw [lg_entry_eq]
  generalize (lg_sl ([.int i0, .int i1]) ++ List.replicate (2 - (lg_sl ([.int i0, .int i1])).length) Slot.unset).toArray = ls at hl ⊢
  have hl : lv_has ls 2 [(0, .int i0), (1, .int i1)] := hl
  refine W_heap hH ?_
  obtain ⟨locs, hlo⟩ : ∃ locs : List Loc, locs = [] := ⟨_, rfl⟩
  rw [← hlo] at hS ⊢
  unfold f_X5_isPlace at hf
  refine lv_iload_n (pc := 0) hx hb dX5_isPlace_0 rfl (lv_at hl 0 rfl) ?_
  refine lv_bipush (v := -9) (pc := 1) hx hb dX5_isPlace_1 (by decide) ?_
  refine lv_bipush (v := 9) (pc := 3) hx hb dX5_isPlace_3 (by decide) ?_
  obtain ⟨x1, ex1, hf⟩ := bd_some hf
  refine ct_S0 (pc := 5) (As := [.int i0, .int (-9), .int 9]) (rest := []) ⟨hx, hb, hml, hown, hts⟩ hK (c_X5_in l D cI cZ cS i0 (-9) 9 x1 ex1) gs_RX5_57 hs_X5_in rfl ⟨Nat.le_of_ble_eq_true rfl, Nat.le_of_ble_eq_true rfl⟩ hl.1 rfl (Nat.le_of_ble_eq_true rfl) dX5_isPlace_5 ⟨Nat.zero_le _, Nat.zero_le _⟩ hP hS hA (fun H locs hP hS => ?_)
  refine lv_if_eq (pc := 8) (tgt := 26) hx hb dX5_isPlace_8 (by decide) (fun c2 => ?_) (fun c2 => ?_)
  · replace hf := ip c2 hf
    refine lv_iconst (v := 0) (pc := 26) hx hb dX5_isPlace_26 (by decide) ?_
    obtain rfl := Option.some.inj hf
    exact W.zret hx hb hr rfl (fun t ht hW => ⟨rfl, by rw [ht]; exact hP, hD, hS.F ht⟩) hS.2.2 dX5_isPlace_27
  · replace hf := im c2 hf
    refine lv_iload_n (pc := 11) hx hb dX5_isPlace_11 rfl (lv_at hl 1 rfl) ?_
    refine lv_bipush (v := -9) (pc := 12) hx hb dX5_isPlace_12 (by decide) ?_
    refine lv_bipush (v := 9) (pc := 14) hx hb dX5_isPlace_14 (by decide) ?_
    obtain ⟨x3, ex3, hf⟩ := bd_some hf
    refine ct_S0 (pc := 16) (As := [.int i1, .int (-9), .int 9]) (rest := []) ⟨hx, hb, hml, hown, hts⟩ hK (c_X5_in l D cI cZ cS i1 (-9) 9 x3 ex3) gs_RX5_57 hs_X5_in rfl ⟨Nat.le_of_ble_eq_true rfl, Nat.le_of_ble_eq_true rfl⟩ hl.1 rfl (Nat.le_of_ble_eq_true rfl) dX5_isPlace_16 ⟨Nat.zero_le _, Nat.zero_le _⟩ hP hS hA (fun H locs hP hS => ?_)
    refine lv_if_eq (pc := 19) (tgt := 26) hx hb dX5_isPlace_19 (by decide) (fun c4 => ?_) (fun c4 => ?_)
    · replace hf := ip c4 hf
      refine lv_iconst (v := 0) (pc := 26) hx hb dX5_isPlace_26 (by decide) ?_
      obtain rfl := Option.some.inj hf
      exact W.zret hx hb hr rfl (fun t ht hW => ⟨rfl, by rw [ht]; exact hP, hD, hS.F ht⟩) hS.2.2 dX5_isPlace_27
    · replace hf := im c4 hf
      refine lv_iconst (v := 1) (pc := 22) hx hb dX5_isPlace_22 (by decide) ?_
      refine lv_goto (pc := 23) (tgt := 27) hx hb dX5_isPlace_23 (by decide) ?_
      obtain rfl := Option.some.inj hf
      exact W.zret hx hb hr rfl (fun t ht hW => ⟨rfl, by rw [ht]; exact hP, hD, hS.F ht⟩) hS.2.2 dX5_isPlace_27
def f_X5_type (i0 : Int32) (om : OS) : Option (Int32 × OS) := Option.bind (f_X5_in i0 0 255) fun x1 => if x1 = 0 then some ((-1), om) else if (om.1 9) = 160 then some ((-3), om) else ck (om.1 9) 160 (lt (sA om 8 (((om.1 9) : Int32).toNatClampNeg) i0) fun o5 => lt (sI o5 9 ((o5.1 9) + 1)) fun o6 => some ((o6.1 9), o6))
set_option maxHeartbeats 4000000 in
set_option maxRecDepth 100000 in
theorem c_X5_type (l : Launch) (D : va_G) (cI cZ cS : ClassId) (a : Nat) (q : Nat → Nat) (i0 : Int32) (om : OS) (x : (Int32 × OS)) (hf : f_X5_type i0 om = some x) : Ct l yX5_type cX5_type 2 (some .int) 1 22 D cI cZ cS [.ref a, .int i0] (bX5 cI cZ a q om) (some (.int x.1)) (bX5 cI cZ a q x.2) := by
  intro sz
  refine Met.ofW (cc := cX5_type) (maxL := 2) (ret := (some .int)) (by decide +kernel) rfl ?_
  intro p e s m args below meth c s₁ B hml hv
  obtain ⟨rfl, hsz, hP, hK, hD0⟩ := hv
  have hx := B.exec
  have hb := B.bytes
  have hr := B.returns
  have hts0 := atoms_spec (ws := .code yX5_type cX5_type 2 (some .int) :: TB) B.pre
  have hts := fun w (h : w ∈ TB) => hts0 w (List.mem_cons_of_mem _ h)
  have hown : s.vm.findClass RX5 = some m.cls := findClass_of_methodNamed B.named
  have hlocks := B.notSynchronized
  subst hsz
  have hD := hD0.self (sz := s.heap.size)
  generalize hAe : va_A (bX5 cI cZ a q om) s.heap.size = A at hD ⊢
  have hA : ∀ q : Nat, s.heap.size ≤ q → A q := fun q h => by rw [← hAe]; exact Or.inr h
  have hS : va_S A s.heap s.heap [] := va_S.rf
  obtain ⟨H, hH⟩ : ∃ H, H = s.heap := ⟨_, rfl⟩
  rw [← hH] at hP
  have hS : va_S A s.heap H [] := by rw [hH]; exact hS
  have hl := lv_entry ([.ref a, .int i0]) (n := 2) (Nat.le_of_ble_eq_true rfl)
  rw [lg_entry_eq]
  generalize (lg_sl ([.ref a, .int i0]) ++ List.replicate (2 - (lg_sl ([.ref a, .int i0])).length) Slot.unset).toArray = ls at hl ⊢
  have hl : lv_has ls 2 [(0, .ref a), (1, .int i0)] := hl
  refine W_heap hH ?_
  obtain ⟨locs, hlo⟩ : ∃ locs : List Loc, locs = [] := ⟨_, rfl⟩
  rw [← hlo] at hS ⊢
  unfold f_X5_type at hf
  refine lv_iload_n (pc := 0) hx hb dX5_type_0 rfl (lv_at hl 1 rfl) ?_
  refine lv_iconst (v := 0) (pc := 1) hx hb dX5_type_1 (by decide) ?_
  refine lv_sipush (v := 255) (pc := 2) hx hb dX5_type_2 (by decide) ?_
  obtain ⟨x1, ex1, hf⟩ := bd_some hf
  refine ct_S0 (pc := 5) (As := [.int i0, .int 0, .int 255]) (rest := []) ⟨hx, hb, hml, hown, hts⟩ hK (c_X5_in l D cI cZ cS i0 0 255 x1 ex1) gs_RX5_57 hs_X5_in rfl ⟨Nat.le_of_ble_eq_true rfl, Nat.le_of_ble_eq_true rfl⟩ hl.1 rfl (Nat.le_of_ble_eq_true rfl) dX5_type_5 ⟨Nat.zero_le _, Nat.zero_le _⟩ hP hS hA (fun H locs hP hS => ?_)
  refine lv_if_ne (pc := 8) (tgt := 13) hx hb dX5_type_8 (by decide) (fun c2 => ?_) (fun c2 => ?_)
  · replace hf := im c2 hf
    refine lv_aload_n (pc := 13) hx hb dX5_type_13 rfl (lv_at hl 0 rfl) ?_
    refine va_get (pc := 14) (D := D) (ci := 5) (v := .int (om.1 9)) (C := RX5) (T := TX5) (N := 41) hx hb hts iX5 hown hK.1 hP 0 rfl rfl 9 (by decide) (hts _ fl_RX5_61) (fun _ h => h) rfl dX5_type_14 ?_
    refine lv_sipush (v := 160) (pc := 17) hx hb dX5_type_17 (by decide) ?_
    refine lv_icmp_ne (pc := 20) (tgt := 26) hx hb dX5_type_20 (by decide) (fun c3 => ?_) (fun c3 => ?_)
    · replace hf := im c3 hf
      refine lv_aload_n (pc := 26) hx hb dX5_type_26 rfl (lv_at hl 0 rfl) ?_
      refine va_get (pc := 27) (D := D) (ci := 5) (v := .ref (q 8)) (C := RX5) (T := TX5) (N := 41) hx hb hts iX5 hown hK.1 hP 0 rfl rfl 8 (by decide) (hts _ fl_RX5_30) (fun _ h => h) rfl dX5_type_27 ?_
      refine lv_aload_n (pc := 30) hx hb dX5_type_30 rfl (lv_at hl 0 rfl) ?_
      refine va_get (pc := 31) (D := D) (ci := 5) (v := .int (om.1 9)) (C := RX5) (T := TX5) (N := 41) hx hb hts iX5 hown hK.1 hP 0 rfl rfl 9 (by decide) (hts _ fl_RX5_61) (fun _ h => h) rfl dX5_type_31 ?_
      refine lv_iload_n (pc := 34) hx hb dX5_type_34 rfl (lv_at hl 1 rfl) ?_
      obtain ⟨h4, hf⟩ := ck_some hf
      obtain ⟨o5, eo5, hf⟩ := lt_some hf
      refine va_iast (pc := 35) (f := om.2.2 8) hx hb hK.1 hP hD hS 6 0 rfl rfl h4 dX5_type_35 (fun H locs hP hD hS => ?_)
      replace hP : va_P D vwCl (bX5 cI cZ a q o5) H := by rw [eo5]; exact hP
      replace hD : va_D A (bX5 cI cZ a q o5) := by rw [eo5]; exact hD
      refine lv_aload_n (pc := 36) hx hb dX5_type_36 rfl (lv_at hl 0 rfl) ?_
      refine lv_dup (pc := 37) hx hb dX5_type_37 rfl ?_
      refine va_get (pc := 38) (D := D) (ci := 5) (v := .int (o5.1 9)) (C := RX5) (T := TX5) (N := 41) hx hb hts iX5 hown hK.1 hP 0 rfl rfl 9 (by decide) (hts _ fl_RX5_61) (fun _ h => h) rfl dX5_type_38 ?_
      refine lv_iconst (v := 1) (pc := 41) hx hb dX5_type_41 (by decide) ?_
      refine lv_iadd (pc := 42) hx hb dX5_type_42 ?_
      obtain ⟨o6, eo6, hf⟩ := lt_some hf
      refine va_put (pc := 43) (D := D) (ci := 5) (v := .int ((o5.1 9) + 1)) (ty := .int) (C := RX5) (T := TX5) (N := 41) hx hb hts iX5 tyX5 tyX5_ok nmX5 hown hK.1 hP hD hS 0 rfl rfl 9 (by decide) (hts _ fl_RX5_61) (fun _ h => h) rfl (tyX5_ok 9 (by decide)) rfl rfl (Nat.le_of_ble_eq_true rfl) dX5_type_43 (fun H locs hP hD hS => ?_)
      replace hP : va_P D vwCl (bX5 cI cZ a q o6) H := by rw [eo6]; exact hP
      replace hD : va_D A (bX5 cI cZ a q o6) := by rw [eo6]; exact hD
      refine lv_aload_n (pc := 46) hx hb dX5_type_46 rfl (lv_at hl 0 rfl) ?_
      refine va_get (pc := 47) (D := D) (ci := 5) (v := .int (o6.1 9)) (C := RX5) (T := TX5) (N := 41) hx hb hts iX5 hown hK.1 hP 0 rfl rfl 9 (by decide) (hts _ fl_RX5_61) (fun _ h => h) rfl dX5_type_47 ?_
      obtain rfl := Option.some.inj hf
      exact W.iret hx hb hr (fun t ht hW => ⟨rfl, by rw [ht]; exact hP, hD, hS.F ht⟩) hS.2.2 dX5_type_50
    · replace hf := ip c3 hf
      refine lv_bipush (v := -3) (pc := 23) hx hb dX5_type_23 (by decide) ?_
      obtain rfl := Option.some.inj hf
      exact W.iret hx hb hr (fun t ht hW => ⟨rfl, by rw [ht]; exact hP, hD, hS.F ht⟩) hS.2.2 dX5_type_25
  · replace hf := ip c2 hf
    refine lv_iconst (v := -1) (pc := 11) hx hb dX5_type_11 (by decide) ?_
    obtain rfl := Option.some.inj hf
    exact W.iret hx hb hr (fun t ht hW => ⟨rfl, by rw [ht]; exact hP, hD, hS.F ht⟩) hS.2.2 dX5_type_12
def f_X5_clear (om : OS) : Option (Int32 × OS) := lt (sI om 9 0) fun o1 => some ((om.1 9), o1)
set_option maxHeartbeats 4000000 in
set_option maxRecDepth 100000 in
theorem c_X5_clear (l : Launch) (D : va_G) (cI cZ cS : ClassId) (a : Nat) (q : Nat → Nat) (om : OS) (x : (Int32 × OS)) (hf : f_X5_clear om = some x) : Ct l yX5_clear cX5_clear 2 (some .int) 0 0 D cI cZ cS [.ref a] (bX5 cI cZ a q om) (some (.int x.1)) (bX5 cI cZ a q x.2) := by
  intro sz
  refine Met.ofW (cc := cX5_clear) (maxL := 2) (ret := (some .int)) (by decide +kernel) rfl ?_
  intro p e s m args below meth c s₁ B hml hv
  obtain ⟨rfl, hsz, hP, hK, hD0⟩ := hv
  have hx := B.exec
  have hb := B.bytes
  have hr := B.returns
  have hts0 := atoms_spec (ws := .code yX5_clear cX5_clear 2 (some .int) :: TB) B.pre
  have hts := fun w (h : w ∈ TB) => hts0 w (List.mem_cons_of_mem _ h)
  have hown : s.vm.findClass RX5 = some m.cls := findClass_of_methodNamed B.named
  have hlocks := B.notSynchronized
  subst hsz
  have hD := hD0.self (sz := s.heap.size)
  generalize hAe : va_A (bX5 cI cZ a q om) s.heap.size = A at hD ⊢
  have hA : ∀ q : Nat, s.heap.size ≤ q → A q := fun q h => by rw [← hAe]; exact Or.inr h
  have hS : va_S A s.heap s.heap [] := va_S.rf
  obtain ⟨H, hH⟩ : ∃ H, H = s.heap := ⟨_, rfl⟩
  rw [← hH] at hP
  have hS : va_S A s.heap H [] := by rw [hH]; exact hS
  have hl := lv_entry ([.ref a]) (n := 2) (Nat.le_of_ble_eq_true rfl)
  rw [lg_entry_eq]
  generalize (lg_sl ([.ref a]) ++ List.replicate (2 - (lg_sl ([.ref a])).length) Slot.unset).toArray = ls at hl ⊢
  have hl : lv_has ls 2 [(0, .ref a)] := hl
  refine W_heap hH ?_
  obtain ⟨locs, hlo⟩ : ∃ locs : List Loc, locs = [] := ⟨_, rfl⟩
  rw [← hlo] at hS ⊢
  unfold f_X5_clear at hf
  refine lv_aload_n (pc := 0) hx hb dX5_clear_0 rfl (lv_at hl 0 rfl) ?_
  refine va_get (pc := 1) (D := D) (ci := 5) (v := .int (om.1 9)) (C := RX5) (T := TX5) (N := 41) hx hb hts iX5 hown hK.1 hP 0 rfl rfl 9 (by decide) (hts _ fl_RX5_61) (fun _ h => h) rfl dX5_clear_1 ?_
  refine lv_istore_n (lv' := [(1, .int (om.1 9)), (0, .ref a)]) (pc := 4) hx hb dX5_clear_4 rfl hl (by decide) rfl (fun ls hl => ?_)
  refine lv_aload_n (pc := 5) hx hb dX5_clear_5 rfl (lv_at hl 1 rfl) ?_
  refine lv_iconst (v := 0) (pc := 6) hx hb dX5_clear_6 (by decide) ?_
  obtain ⟨o1, eo1, hf⟩ := lt_some hf
  refine va_put (pc := 7) (D := D) (ci := 5) (v := .int 0) (ty := .int) (C := RX5) (T := TX5) (N := 41) hx hb hts iX5 tyX5 tyX5_ok nmX5 hown hK.1 hP hD hS 0 rfl rfl 9 (by decide) (hts _ fl_RX5_61) (fun _ h => h) rfl (tyX5_ok 9 (by decide)) rfl rfl (Nat.le_of_ble_eq_true rfl) dX5_clear_7 (fun H locs hP hD hS => ?_)
  replace hP : va_P D vwCl (bX5 cI cZ a q o1) H := by rw [eo1]; exact hP
  replace hD : va_D A (bX5 cI cZ a q o1) := by rw [eo1]; exact hD
  refine lv_iload_n (pc := 10) hx hb dX5_clear_10 rfl (lv_at hl 0 rfl) ?_
  obtain rfl := Option.some.inj hf
  exact W.iret hx hb hr (fun t ht hW => ⟨rfl, by rw [ht]; exact hP, hD, hS.F ht⟩) hS.2.2 dX5_clear_11
def f_X5_isFigure (om : OS) : Option Int32 := if (om.1 9) ≤ (om.1 10) then some 0 else ck (om.1 10) 160 (Option.bind (f_X5_in (om.2.2 8 ((om.1 10) : Int32).toNatClampNeg) 48 57) fun x3 => if x3 = 0 then some 0 else some 1)
set_option maxHeartbeats 4000000 in
set_option maxRecDepth 100000 in
theorem c_X5_isFigure (l : Launch) (D : va_G) (cI cZ cS : ClassId) (a : Nat) (q : Nat → Nat) (om : OS) (x : Int32) (hf : f_X5_isFigure om = some x) : Ct l yX5_isFigure cX5_isFigure 1 (some .boolean) 1 22 D cI cZ cS [.ref a] (bX5 cI cZ a q om) (some (.int x)) (bX5 cI cZ a q om) := by
  intro sz
  refine Met.ofW (cc := cX5_isFigure) (maxL := 1) (ret := (some .boolean)) (by decide +kernel) rfl ?_
  intro p e s m args below meth c s₁ B hml hv
  obtain ⟨rfl, hsz, hP, hK, hD0⟩ := hv
  have hx := B.exec
  have hb := B.bytes
  have hr := B.returns
  have hts0 := atoms_spec (ws := .code yX5_isFigure cX5_isFigure 1 (some .boolean) :: TB) B.pre
  have hts := fun w (h : w ∈ TB) => hts0 w (List.mem_cons_of_mem _ h)
  have hown : s.vm.findClass RX5 = some m.cls := findClass_of_methodNamed B.named
  have hlocks := B.notSynchronized
  subst hsz
  have hD := hD0.self (sz := s.heap.size)
  generalize hAe : va_A (bX5 cI cZ a q om) s.heap.size = A at hD ⊢
  have hA : ∀ q : Nat, s.heap.size ≤ q → A q := fun q h => by rw [← hAe]; exact Or.inr h
  have hS : va_S A s.heap s.heap [] := va_S.rf
  obtain ⟨H, hH⟩ : ∃ H, H = s.heap := ⟨_, rfl⟩
  rw [← hH] at hP
  have hS : va_S A s.heap H [] := by rw [hH]; exact hS
  have hl := lv_entry ([.ref a]) (n := 1) (Nat.le_of_ble_eq_true rfl)
  rw [lg_entry_eq]
  generalize (lg_sl ([.ref a]) ++ List.replicate (1 - (lg_sl ([.ref a])).length) Slot.unset).toArray = ls at hl ⊢
  have hl : lv_has ls 1 [(0, .ref a)] := hl
  refine W_heap hH ?_
  obtain ⟨locs, hlo⟩ : ∃ locs : List Loc, locs = [] := ⟨_, rfl⟩
  rw [← hlo] at hS ⊢
  unfold f_X5_isFigure at hf
  refine lv_aload_n (pc := 0) hx hb dX5_isFigure_0 rfl (lv_at hl 0 rfl) ?_
  refine va_get (pc := 1) (D := D) (ci := 5) (v := .int (om.1 10)) (C := RX5) (T := TX5) (N := 41) hx hb hts iX5 hown hK.1 hP 0 rfl rfl 10 (by decide) (hts _ fl_RX5_64) (fun _ h => h) rfl dX5_isFigure_1 ?_
  refine lv_aload_n (pc := 4) hx hb dX5_isFigure_4 rfl (lv_at hl 0 rfl) ?_
  refine va_get (pc := 5) (D := D) (ci := 5) (v := .int (om.1 9)) (C := RX5) (T := TX5) (N := 41) hx hb hts iX5 hown hK.1 hP 0 rfl rfl 9 (by decide) (hts _ fl_RX5_61) (fun _ h => h) rfl dX5_isFigure_5 ?_
  refine lv_icmp_ge (pc := 8) (tgt := 34) hx hb dX5_isFigure_8 (by decide) (fun c1 => ?_) (fun c1 => ?_)
  · replace hf := ip c1 hf
    refine lv_iconst (v := 0) (pc := 34) hx hb dX5_isFigure_34 (by decide) ?_
    obtain rfl := Option.some.inj hf
    exact W.zret hx hb hr rfl (fun t ht hW => ⟨rfl, by rw [ht]; exact hP, hD, hS.F ht⟩) hS.2.2 dX5_isFigure_35
  · replace hf := im c1 hf
    refine lv_aload_n (pc := 11) hx hb dX5_isFigure_11 rfl (lv_at hl 0 rfl) ?_
    refine va_get (pc := 12) (D := D) (ci := 5) (v := .ref (q 8)) (C := RX5) (T := TX5) (N := 41) hx hb hts iX5 hown hK.1 hP 0 rfl rfl 8 (by decide) (hts _ fl_RX5_30) (fun _ h => h) rfl dX5_isFigure_12 ?_
    refine lv_aload_n (pc := 15) hx hb dX5_isFigure_15 rfl (lv_at hl 0 rfl) ?_
    refine va_get (pc := 16) (D := D) (ci := 5) (v := .int (om.1 10)) (C := RX5) (T := TX5) (N := 41) hx hb hts iX5 hown hK.1 hP 0 rfl rfl 10 (by decide) (hts _ fl_RX5_64) (fun _ h => h) rfl dX5_isFigure_16 ?_
    obtain ⟨h2, hf⟩ := ck_some hf
    refine va_iald (pc := 19) (f := om.2.2 8) hx hb hK.1 hP 6 0 rfl rfl h2 dX5_isFigure_19 ?_
    refine lv_bipush (v := 48) (pc := 20) hx hb dX5_isFigure_20 (by decide) ?_
    refine lv_bipush (v := 57) (pc := 22) hx hb dX5_isFigure_22 (by decide) ?_
    obtain ⟨x3, ex3, hf⟩ := bd_some hf
    refine ct_S0 (pc := 24) (As := [.int (om.2.2 8 ((om.1 10) : Int32).toNatClampNeg), .int 48, .int 57]) (rest := []) ⟨hx, hb, hml, hown, hts⟩ hK (c_X5_in l D cI cZ cS (om.2.2 8 ((om.1 10) : Int32).toNatClampNeg) 48 57 x3 ex3) gs_RX5_57 hs_X5_in rfl ⟨Nat.le_of_ble_eq_true rfl, Nat.le_of_ble_eq_true rfl⟩ hl.1 rfl (Nat.le_of_ble_eq_true rfl) dX5_isFigure_24 ⟨Nat.zero_le _, Nat.zero_le _⟩ hP hS hA (fun H locs hP hS => ?_)
    refine lv_if_eq (pc := 27) (tgt := 34) hx hb dX5_isFigure_27 (by decide) (fun c4 => ?_) (fun c4 => ?_)
    · replace hf := ip c4 hf
      refine lv_iconst (v := 0) (pc := 34) hx hb dX5_isFigure_34 (by decide) ?_
      obtain rfl := Option.some.inj hf
      exact W.zret hx hb hr rfl (fun t ht hW => ⟨rfl, by rw [ht]; exact hP, hD, hS.F ht⟩) hS.2.2 dX5_isFigure_35
    · replace hf := im c4 hf
      refine lv_iconst (v := 1) (pc := 30) hx hb dX5_isFigure_30 (by decide) ?_
      refine lv_goto (pc := 31) (tgt := 35) hx hb dX5_isFigure_31 (by decide) ?_
      obtain rfl := Option.some.inj hf
      exact W.zret hx hb hr rfl (fun t ht hW => ⟨rfl, by rw [ht]; exact hP, hD, hS.F ht⟩) hS.2.2 dX5_isFigure_35
def lp_X5_next_130 : Nat → OS → Option OS
  | 0, _ => none
  | n + 1, w_M => Option.bind (f_X5_isFigure w_M) fun x19 => if x19 = 0 then some w_M else Option.bind (if (w_M.1 13) ≤ 198 then ck (w_M.1 10) 160 (some (((10 * (w_M.1 13)) + (w_M.2.2 8 ((w_M.1 10) : Int32).toNatClampNeg)) - 48)) else some 199 : Option Int32) fun z21 => lt (sI w_M 13 z21) fun o23 => lt (sI o23 10 ((o23.1 10) + 1)) fun o24 => lp_X5_next_130 n o24
def lp_X5_next_0 : Nat → OS → Option OS
  | 0, _ => none
  | n + 1, w_M => if (w_M.1 9) ≤ (w_M.1 10) then some w_M else ck (w_M.1 10) 160 (if (w_M.2.2 8 ((w_M.1 10) : Int32).toNatClampNeg) = 32 then lt (sI w_M 10 ((w_M.1 10) + 1)) fun o41 => lp_X5_next_0 n o41 else some w_M)
def f_X5_next (om : OS) : Option OS := Option.bind (lp_X5_next_0 1000 om) fun z1 => lt (sI z1 11 (z1.1 10)) fun o4 => if (o4.1 10) = (o4.1 9) then lt (sI o4 12 (-1)) fun o37 => some o37 else Option.bind (f_X5_isFigure o4) fun x6 => if x6 = 0 then ck (o4.1 10) 160 (lt (o4.2.2 8 ((o4.1 10) : Int32).toNatClampNeg) fun y28 => Option.bind (if y28 = 112 then some y28 else if y28 = 99 then some y28 else if y28 = 119 then some y28 else if y28 = 59 then some y28 else some (-2) : Option Int32) fun z29 => lt (sI o4 12 z29) fun o31 => lt (sI o31 10 ((o31.1 10) + 1)) fun o32 => some o32) else lt (sI o4 13 0) fun o8 => Option.bind (lp_X5_next_130 1000 o8) fun z9 => Option.bind (if 198 < (z9.1 13) then some (-2) else ck (z9.1 11) 160 (if (z9.2.2 8 ((z9.1 11) : Int32).toNatClampNeg) = 48 then if (z9.1 10) ≤ ((z9.1 11) + 1) then some 0 else some (-2) else some 0) : Option Int32) fun z12 => lt (sI z9 12 z12) fun o14 => some o14
set_option maxHeartbeats 4000000 in
set_option maxRecDepth 100000 in
theorem c_X5_next (l : Launch) (D : va_G) (cI cZ cS : ClassId) (a : Nat) (q : Nat → Nat) (om : OS) (x : OS) (hf : f_X5_next om = some x) : Ct l yX5_next cX5_next 2 none 2 42 D cI cZ cS [.ref a] (bX5 cI cZ a q om) none (bX5 cI cZ a q x) := by
  intro sz
  refine Met.ofW (cc := cX5_next) (maxL := 2) (ret := none) (by decide +kernel) rfl ?_
  intro p e s m args below meth c s₁ B hml hv
  obtain ⟨rfl, hsz, hP, hK, hD0⟩ := hv
  have hx := B.exec
  have hb := B.bytes
  have hr := B.returns
  have hts0 := atoms_spec (ws := .code yX5_next cX5_next 2 none :: TB) B.pre
  have hts := fun w (h : w ∈ TB) => hts0 w (List.mem_cons_of_mem _ h)
  have hown : s.vm.findClass RX5 = some m.cls := findClass_of_methodNamed B.named
  have hlocks := B.notSynchronized
  subst hsz
  have hD := hD0.self (sz := s.heap.size)
  generalize hAe : va_A (bX5 cI cZ a q om) s.heap.size = A at hD ⊢
  have hA : ∀ q : Nat, s.heap.size ≤ q → A q := fun q h => by rw [← hAe]; exact Or.inr h
  have hS : va_S A s.heap s.heap [] := va_S.rf
  obtain ⟨H, hH⟩ : ∃ H, H = s.heap := ⟨_, rfl⟩
  rw [← hH] at hP
  have hS : va_S A s.heap H [] := by rw [hH]; exact hS
  have hl := lv_entry ([.ref a]) (n := 2) (Nat.le_of_ble_eq_true rfl)
  rw [lg_entry_eq]
  generalize (lg_sl ([.ref a]) ++ List.replicate (2 - (lg_sl ([.ref a])).length) Slot.unset).toArray = ls at hl ⊢
  have hl : lv_has ls 2 [(0, .ref a)] := hl
  refine W_heap hH ?_
  obtain ⟨locs, hlo⟩ : ∃ locs : List Loc, locs = [] := ⟨_, rfl⟩
  rw [← hlo] at hS ⊢
  unfold f_X5_next at hf
  obtain ⟨z1, hz1, hf⟩ := bd_some hf
  have hfz1 := hf
  clear hf
  have K2 : ∀ (H : Heap) (locs : List Loc) (ls : Array Slot), va_P D vwCl (bX5 cI cZ a q z1) H → va_D A (bX5 cI cZ a q z1) → va_S A s.heap H locs → lv_has ls 2 [(0, .ref a)] → GW l yX5_next cX5_next 2 none 2 42 D [.ref a] none (bX5 cI cZ a q x) A p e s m below meth c H locs (F0 m 38 ls []) := by
    intro H locs ls hP hD hS hl
    have hf := hfz1
    refine lv_aload_n (pc := 38) hx hb dX5_next_38 rfl (lv_at hl 0 rfl) ?_
    refine lv_aload_n (pc := 39) hx hb dX5_next_39 rfl (lv_at hl 0 rfl) ?_
    refine va_get (pc := 40) (D := D) (ci := 5) (v := .int (z1.1 10)) (C := RX5) (T := TX5) (N := 41) hx hb hts iX5 hown hK.1 hP 0 rfl rfl 10 (by decide) (hts _ fl_RX5_64) (fun _ h => h) rfl dX5_next_40 ?_
    obtain ⟨o4, eo4, hf⟩ := lt_some hf
    refine va_put (pc := 43) (D := D) (ci := 5) (v := .int (z1.1 10)) (ty := .int) (C := RX5) (T := TX5) (N := 41) hx hb hts iX5 tyX5 tyX5_ok nmX5 hown hK.1 hP hD hS 0 rfl rfl 11 (by decide) (hts _ fl_RX5_67) (fun _ h => h) rfl (tyX5_ok 11 (by decide)) rfl rfl (Nat.le_of_ble_eq_true rfl) dX5_next_43 (fun H locs hP hD hS => ?_)
    replace hP : va_P D vwCl (bX5 cI cZ a q o4) H := by rw [eo4]; exact hP
    replace hD : va_D A (bX5 cI cZ a q o4) := by rw [eo4]; exact hD
    refine lv_aload_n (pc := 46) hx hb dX5_next_46 rfl (lv_at hl 0 rfl) ?_
    refine va_get (pc := 47) (D := D) (ci := 5) (v := .int (o4.1 10)) (C := RX5) (T := TX5) (N := 41) hx hb hts iX5 hown hK.1 hP 0 rfl rfl 10 (by decide) (hts _ fl_RX5_64) (fun _ h => h) rfl dX5_next_47 ?_
    refine lv_aload_n (pc := 50) hx hb dX5_next_50 rfl (lv_at hl 0 rfl) ?_
    refine va_get (pc := 51) (D := D) (ci := 5) (v := .int (o4.1 9)) (C := RX5) (T := TX5) (N := 41) hx hb hts iX5 hown hK.1 hP 0 rfl rfl 9 (by decide) (hts _ fl_RX5_61) (fun _ h => h) rfl dX5_next_51 ?_
    refine lv_icmp_ne (pc := 54) (tgt := 63) hx hb dX5_next_54 (by decide) (fun c5 => ?_) (fun c5 => ?_)
    · replace hf := im c5 hf
      refine lv_aload_n (pc := 63) hx hb dX5_next_63 rfl (lv_at hl 0 rfl) ?_
      obtain ⟨x6, ex6, hf⟩ := bd_some hf
      refine ct_V1 (pc := 64) (As := []) (rest := []) (W1 := bX5 cI cZ a q o4) ⟨hx, hb, hml, hown, hts⟩ hK (c_X5_isFigure l D cI cZ cS a q o4 x6 ex6) gv_RX5_73 rfl hs_X5_isFigure rfl ⟨Nat.le_of_ble_eq_true rfl, Nat.le_of_ble_eq_true rfl⟩ (ci := 5) (q0 := 0) rfl rfl rfl hl.1 rfl (Nat.le_of_ble_eq_true rfl) dX5_next_64 ⟨Nat.zero_le _, Nat.zero_le _⟩ hP hD hS hA (fun H locs hP hD hS => ?_)
      refine lv_if_ne (pc := 67) (tgt := 125) hx hb dX5_next_67 (by decide) (fun c7 => ?_) (fun c7 => ?_)
      · replace hf := im c7 hf
        refine lv_aload_n (pc := 125) hx hb dX5_next_125 rfl (lv_at hl 0 rfl) ?_
        refine lv_iconst (v := 0) (pc := 126) hx hb dX5_next_126 (by decide) ?_
        obtain ⟨o8, eo8, hf⟩ := lt_some hf
        refine va_put (pc := 127) (D := D) (ci := 5) (v := .int 0) (ty := .int) (C := RX5) (T := TX5) (N := 41) hx hb hts iX5 tyX5 tyX5_ok nmX5 hown hK.1 hP hD hS 0 rfl rfl 13 (by decide) (hts _ fl_RX5_77) (fun _ h => h) rfl (tyX5_ok 13 (by decide)) rfl rfl (Nat.le_of_ble_eq_true rfl) dX5_next_127 (fun H locs hP hD hS => ?_)
        replace hP : va_P D vwCl (bX5 cI cZ a q o8) H := by rw [eo8]; exact hP
        replace hD : va_D A (bX5 cI cZ a q o8) := by rw [eo8]; exact hD
        obtain ⟨z9, hz9, hf⟩ := bd_some hf
        have hfz9 := hf
        clear hf
        have K10 : ∀ (H : Heap) (locs : List Loc) (ls : Array Slot), va_P D vwCl (bX5 cI cZ a q z9) H → va_D A (bX5 cI cZ a q z9) → va_S A s.heap H locs → lv_has ls 2 [(0, .ref a)] → GW l yX5_next cX5_next 2 none 2 42 D [.ref a] none (bX5 cI cZ a q x) A p e s m below meth c H locs (F0 m 190 ls []) := by
          intro H locs ls hP hD hS hl
          have hf := hfz9
          refine lv_aload_n (pc := 190) hx hb dX5_next_190 rfl (lv_at hl 0 rfl) ?_
          refine lv_aload_n (pc := 191) hx hb dX5_next_191 rfl (lv_at hl 0 rfl) ?_
          refine va_get (pc := 192) (D := D) (ci := 5) (v := .int (z9.1 13)) (C := RX5) (T := TX5) (N := 41) hx hb hts iX5 hown hK.1 hP 0 rfl rfl 13 (by decide) (hts _ fl_RX5_77) (fun _ h => h) rfl dX5_next_192 ?_
          refine lv_sipush (v := 198) (pc := 195) hx hb dX5_next_195 (by decide) ?_
          obtain ⟨z12, hz12, hf⟩ := bd_some hf
          have K13 : ∀ (H : Heap) (locs : List Loc) (ls : Array Slot), va_P D vwCl (bX5 cI cZ a q z9) H → va_D A (bX5 cI cZ a q z9) → va_S A s.heap H locs → lv_has ls 2 [(0, .ref a)] → GW l yX5_next cX5_next 2 none 2 42 D [.ref a] none (bX5 cI cZ a q x) A p e s m below meth c H locs (F0 m 234 ls [.int z12, .ref a]) := by
            intro H locs ls hP hD hS hl
            obtain ⟨o14, eo14, hf⟩ := lt_some hf
            refine va_put (pc := 234) (D := D) (ci := 5) (v := .int z12) (ty := .int) (C := RX5) (T := TX5) (N := 41) hx hb hts iX5 tyX5 tyX5_ok nmX5 hown hK.1 hP hD hS 0 rfl rfl 12 (by decide) (hts _ fl_RX5_70) (fun _ h => h) rfl (tyX5_ok 12 (by decide)) rfl rfl (Nat.le_of_ble_eq_true rfl) dX5_next_234 (fun H locs hP hD hS => ?_)
            replace hP : va_P D vwCl (bX5 cI cZ a q o14) H := by rw [eo14]; exact hP
            replace hD : va_D A (bX5 cI cZ a q o14) := by rw [eo14]; exact hD
            obtain rfl := Option.some.inj hf
            exact W.vret hx hb hr (fun t ht hW => ⟨rfl, by rw [ht]; exact hP, hD, hS.F ht⟩) hS.2.2 dX5_next_237
          replace hf := hz12
          refine lv_icmp_gt (pc := 198) (tgt := 228) hx hb dX5_next_198 (by decide) (fun c15 => ?_) (fun c15 => ?_)
          · replace hf := ip c15 hf
            refine lv_bipush (v := -2) (pc := 228) hx hb dX5_next_228 (by decide) ?_
            refine lv_goto (pc := 230) (tgt := 234) hx hb dX5_next_230 (by decide) ?_
            obtain rfl := Option.some.inj hf
            exact K13 H locs ls hP hD hS (lv_sub hl [0] rfl)
          · replace hf := im c15 hf
            refine lv_aload_n (pc := 201) hx hb dX5_next_201 rfl (lv_at hl 0 rfl) ?_
            refine va_get (pc := 202) (D := D) (ci := 5) (v := .ref (q 8)) (C := RX5) (T := TX5) (N := 41) hx hb hts iX5 hown hK.1 hP 0 rfl rfl 8 (by decide) (hts _ fl_RX5_30) (fun _ h => h) rfl dX5_next_202 ?_
            refine lv_aload_n (pc := 205) hx hb dX5_next_205 rfl (lv_at hl 0 rfl) ?_
            refine va_get (pc := 206) (D := D) (ci := 5) (v := .int (z9.1 11)) (C := RX5) (T := TX5) (N := 41) hx hb hts iX5 hown hK.1 hP 0 rfl rfl 11 (by decide) (hts _ fl_RX5_67) (fun _ h => h) rfl dX5_next_206 ?_
            obtain ⟨h16, hf⟩ := ck_some hf
            refine va_iald (pc := 209) (f := z9.2.2 8) hx hb hK.1 hP 6 0 rfl rfl h16 dX5_next_209 ?_
            refine lv_bipush (v := 48) (pc := 210) hx hb dX5_next_210 (by decide) ?_
            refine lv_icmp_ne (pc := 212) (tgt := 233) hx hb dX5_next_212 (by decide) (fun c17 => ?_) (fun c17 => ?_)
            · replace hf := im c17 hf
              refine lv_iconst (v := 0) (pc := 233) hx hb dX5_next_233 (by decide) ?_
              obtain rfl := Option.some.inj hf
              exact K13 H locs ls hP hD hS (lv_sub hl [0] rfl)
            · replace hf := ip c17 hf
              refine lv_aload_n (pc := 215) hx hb dX5_next_215 rfl (lv_at hl 0 rfl) ?_
              refine va_get (pc := 216) (D := D) (ci := 5) (v := .int (z9.1 10)) (C := RX5) (T := TX5) (N := 41) hx hb hts iX5 hown hK.1 hP 0 rfl rfl 10 (by decide) (hts _ fl_RX5_64) (fun _ h => h) rfl dX5_next_216 ?_
              refine lv_aload_n (pc := 219) hx hb dX5_next_219 rfl (lv_at hl 0 rfl) ?_
              refine va_get (pc := 220) (D := D) (ci := 5) (v := .int (z9.1 11)) (C := RX5) (T := TX5) (N := 41) hx hb hts iX5 hown hK.1 hP 0 rfl rfl 11 (by decide) (hts _ fl_RX5_67) (fun _ h => h) rfl dX5_next_220 ?_
              refine lv_iconst (v := 1) (pc := 223) hx hb dX5_next_223 (by decide) ?_
              refine lv_iadd (pc := 224) hx hb dX5_next_224 ?_
              refine lv_icmp_le (pc := 225) (tgt := 233) hx hb dX5_next_225 (by decide) (fun c18 => ?_) (fun c18 => ?_)
              · replace hf := ip c18 hf
                refine lv_iconst (v := 0) (pc := 233) hx hb dX5_next_233 (by decide) ?_
                obtain rfl := Option.some.inj hf
                exact K13 H locs ls hP hD hS (lv_sub hl [0] rfl)
              · replace hf := im c18 hf
                refine lv_bipush (v := -2) (pc := 228) hx hb dX5_next_228 (by decide) ?_
                refine lv_goto (pc := 230) (tgt := 234) hx hb dX5_next_230 (by decide) ?_
                obtain rfl := Option.some.inj hf
                exact K13 H locs ls hP hD hS (lv_sub hl [0] rfl)
        have KL11 : ∀ (n : Nat) (w_M : OS) (H : Heap) (locs : List Loc) (ls : Array Slot), lp_X5_next_130 n w_M = some z9 → va_P D vwCl (bX5 cI cZ a q w_M) H → va_D A (bX5 cI cZ a q w_M) → va_S A s.heap H locs → lv_has ls 2 [(0, .ref a)] → GW l yX5_next cX5_next 2 none 2 42 D [.ref a] none (bX5 cI cZ a q x) A p e s m below meth c H locs (F0 m 130 ls []) := by
          intro n
          induction n with
          | zero => intro w_M H locs ls hf; cases hf
          | succ n ih =>
            intro w_M H locs ls hf hP hD hS hl
            rw [lp_X5_next_130] at hf
            refine lv_aload_n (pc := 130) hx hb dX5_next_130 rfl (lv_at hl 0 rfl) ?_
            obtain ⟨x19, ex19, hf⟩ := bd_some hf
            refine ct_V1 (pc := 131) (As := []) (rest := []) (W1 := bX5 cI cZ a q w_M) ⟨hx, hb, hml, hown, hts⟩ hK (c_X5_isFigure l D cI cZ cS a q w_M x19 ex19) gv_RX5_73 rfl hs_X5_isFigure rfl ⟨Nat.le_of_ble_eq_true rfl, Nat.le_of_ble_eq_true rfl⟩ (ci := 5) (q0 := 0) rfl rfl rfl hl.1 rfl (Nat.le_of_ble_eq_true rfl) dX5_next_131 ⟨Nat.zero_le _, Nat.zero_le _⟩ hP hD hS hA (fun H locs hP hD hS => ?_)
            refine lv_if_eq (pc := 134) (tgt := 190) hx hb dX5_next_134 (by decide) (fun c20 => ?_) (fun c20 => ?_)
            · replace hf := ip c20 hf
              obtain rfl := Option.some.inj hf
              exact K10 H locs ls hP hD hS (lv_sub hl [0] rfl)
            · replace hf := im c20 hf
              refine lv_aload_n (pc := 137) hx hb dX5_next_137 rfl (lv_at hl 0 rfl) ?_
              refine lv_aload_n (pc := 138) hx hb dX5_next_138 rfl (lv_at hl 0 rfl) ?_
              refine va_get (pc := 139) (D := D) (ci := 5) (v := .int (w_M.1 13)) (C := RX5) (T := TX5) (N := 41) hx hb hts iX5 hown hK.1 hP 0 rfl rfl 13 (by decide) (hts _ fl_RX5_77) (fun _ h => h) rfl dX5_next_139 ?_
              refine lv_sipush (v := 198) (pc := 142) hx hb dX5_next_142 (by decide) ?_
              obtain ⟨z21, hz21, hf⟩ := bd_some hf
              have K22 : ∀ (H : Heap) (locs : List Loc) (ls : Array Slot), va_P D vwCl (bX5 cI cZ a q w_M) H → va_D A (bX5 cI cZ a q w_M) → va_S A s.heap H locs → lv_has ls 2 [(0, .ref a)] → GW l yX5_next cX5_next 2 none 2 42 D [.ref a] none (bX5 cI cZ a q x) A p e s m below meth c H locs (F0 m 174 ls [.int z21, .ref a]) := by
                intro H locs ls hP hD hS hl
                obtain ⟨o23, eo23, hf⟩ := lt_some hf
                refine va_put (pc := 174) (D := D) (ci := 5) (v := .int z21) (ty := .int) (C := RX5) (T := TX5) (N := 41) hx hb hts iX5 tyX5 tyX5_ok nmX5 hown hK.1 hP hD hS 0 rfl rfl 13 (by decide) (hts _ fl_RX5_77) (fun _ h => h) rfl (tyX5_ok 13 (by decide)) rfl rfl (Nat.le_of_ble_eq_true rfl) dX5_next_174 (fun H locs hP hD hS => ?_)
                replace hP : va_P D vwCl (bX5 cI cZ a q o23) H := by rw [eo23]; exact hP
                replace hD : va_D A (bX5 cI cZ a q o23) := by rw [eo23]; exact hD
                refine lv_aload_n (pc := 177) hx hb dX5_next_177 rfl (lv_at hl 0 rfl) ?_
                refine lv_dup (pc := 178) hx hb dX5_next_178 rfl ?_
                refine va_get (pc := 179) (D := D) (ci := 5) (v := .int (o23.1 10)) (C := RX5) (T := TX5) (N := 41) hx hb hts iX5 hown hK.1 hP 0 rfl rfl 10 (by decide) (hts _ fl_RX5_64) (fun _ h => h) rfl dX5_next_179 ?_
                refine lv_iconst (v := 1) (pc := 182) hx hb dX5_next_182 (by decide) ?_
                refine lv_iadd (pc := 183) hx hb dX5_next_183 ?_
                obtain ⟨o24, eo24, hf⟩ := lt_some hf
                refine va_put (pc := 184) (D := D) (ci := 5) (v := .int ((o23.1 10) + 1)) (ty := .int) (C := RX5) (T := TX5) (N := 41) hx hb hts iX5 tyX5 tyX5_ok nmX5 hown hK.1 hP hD hS 0 rfl rfl 10 (by decide) (hts _ fl_RX5_64) (fun _ h => h) rfl (tyX5_ok 10 (by decide)) rfl rfl (Nat.le_of_ble_eq_true rfl) dX5_next_184 (fun H locs hP hD hS => ?_)
                replace hP : va_P D vwCl (bX5 cI cZ a q o24) H := by rw [eo24]; exact hP
                replace hD : va_D A (bX5 cI cZ a q o24) := by rw [eo24]; exact hD
                refine lv_goto (pc := 187) (tgt := 130) hx hb dX5_next_187 (by decide) ?_
                exact ih _ H locs ls hf hP hD hS (lv_sub hl [0] rfl)
              replace hf := hz21
              refine lv_icmp_le (pc := 145) (tgt := 154) hx hb dX5_next_145 (by decide) (fun c25 => ?_) (fun c25 => ?_)
              · replace hf := ip c25 hf
                refine lv_bipush (v := 10) (pc := 154) hx hb dX5_next_154 (by decide) ?_
                refine lv_aload_n (pc := 156) hx hb dX5_next_156 rfl (lv_at hl 0 rfl) ?_
                refine va_get (pc := 157) (D := D) (ci := 5) (v := .int (w_M.1 13)) (C := RX5) (T := TX5) (N := 41) hx hb hts iX5 hown hK.1 hP 0 rfl rfl 13 (by decide) (hts _ fl_RX5_77) (fun _ h => h) rfl dX5_next_157 ?_
                refine lv_imul (pc := 160) hx hb dX5_next_160 ?_
                refine lv_aload_n (pc := 161) hx hb dX5_next_161 rfl (lv_at hl 0 rfl) ?_
                refine va_get (pc := 162) (D := D) (ci := 5) (v := .ref (q 8)) (C := RX5) (T := TX5) (N := 41) hx hb hts iX5 hown hK.1 hP 0 rfl rfl 8 (by decide) (hts _ fl_RX5_30) (fun _ h => h) rfl dX5_next_162 ?_
                refine lv_aload_n (pc := 165) hx hb dX5_next_165 rfl (lv_at hl 0 rfl) ?_
                refine va_get (pc := 166) (D := D) (ci := 5) (v := .int (w_M.1 10)) (C := RX5) (T := TX5) (N := 41) hx hb hts iX5 hown hK.1 hP 0 rfl rfl 10 (by decide) (hts _ fl_RX5_64) (fun _ h => h) rfl dX5_next_166 ?_
                obtain ⟨h26, hf⟩ := ck_some hf
                refine va_iald (pc := 169) (f := w_M.2.2 8) hx hb hK.1 hP 6 0 rfl rfl h26 dX5_next_169 ?_
                refine lv_iadd (pc := 170) hx hb dX5_next_170 ?_
                refine lv_bipush (v := 48) (pc := 171) hx hb dX5_next_171 (by decide) ?_
                refine lv_isub (pc := 173) hx hb dX5_next_173 ?_
                obtain rfl := Option.some.inj hf
                exact K22 H locs ls hP hD hS (lv_sub hl [0] rfl)
              · replace hf := im c25 hf
                refine lv_sipush (v := 199) (pc := 148) hx hb dX5_next_148 (by decide) ?_
                refine lv_goto (pc := 151) (tgt := 174) hx hb dX5_next_151 (by decide) ?_
                obtain rfl := Option.some.inj hf
                exact K22 H locs ls hP hD hS (lv_sub hl [0] rfl)
        exact KL11 1000 _ H locs ls hz9 hP hD hS (lv_sub hl [0] rfl)
      · replace hf := ip c7 hf
        refine lv_aload_n (pc := 70) hx hb dX5_next_70 rfl (lv_at hl 0 rfl) ?_
        refine va_get (pc := 71) (D := D) (ci := 5) (v := .ref (q 8)) (C := RX5) (T := TX5) (N := 41) hx hb hts iX5 hown hK.1 hP 0 rfl rfl 8 (by decide) (hts _ fl_RX5_30) (fun _ h => h) rfl dX5_next_71 ?_
        refine lv_aload_n (pc := 74) hx hb dX5_next_74 rfl (lv_at hl 0 rfl) ?_
        refine va_get (pc := 75) (D := D) (ci := 5) (v := .int (o4.1 10)) (C := RX5) (T := TX5) (N := 41) hx hb hts iX5 hown hK.1 hP 0 rfl rfl 10 (by decide) (hts _ fl_RX5_64) (fun _ h => h) rfl dX5_next_75 ?_
        obtain ⟨h27, hf⟩ := ck_some hf
        refine va_iald (pc := 78) (f := o4.2.2 8) hx hb hK.1 hP 6 0 rfl rfl h27 dX5_next_78 ?_
        obtain ⟨y28, ey28, hf⟩ := lt_some hf
        refine lv_nmI ey28 ?_
        refine lv_istore_n (lv' := [(1, .int y28), (0, .ref a)]) (pc := 79) hx hb dX5_next_79 rfl hl (by decide) rfl (fun ls hl => ?_)
        refine lv_aload_n (pc := 80) hx hb dX5_next_80 rfl (lv_at hl 1 rfl) ?_
        refine lv_iload_n (pc := 81) hx hb dX5_next_81 rfl (lv_at hl 0 rfl) ?_
        refine lv_bipush (v := 112) (pc := 82) hx hb dX5_next_82 (by decide) ?_
        obtain ⟨z29, hz29, hf⟩ := bd_some hf
        have K30 : ∀ (H : Heap) (locs : List Loc) (ls : Array Slot), va_P D vwCl (bX5 cI cZ a q o4) H → va_D A (bX5 cI cZ a q o4) → va_S A s.heap H locs → lv_has ls 2 [(0, .ref a), (1, .int y28)] → GW l yX5_next cX5_next 2 none 2 42 D [.ref a] none (bX5 cI cZ a q x) A p e s m below meth c H locs (F0 m 111 ls [.int z29, .ref a]) := by
          intro H locs ls hP hD hS hl
          obtain ⟨o31, eo31, hf⟩ := lt_some hf
          refine va_put (pc := 111) (D := D) (ci := 5) (v := .int z29) (ty := .int) (C := RX5) (T := TX5) (N := 41) hx hb hts iX5 tyX5 tyX5_ok nmX5 hown hK.1 hP hD hS 0 rfl rfl 12 (by decide) (hts _ fl_RX5_70) (fun _ h => h) rfl (tyX5_ok 12 (by decide)) rfl rfl (Nat.le_of_ble_eq_true rfl) dX5_next_111 (fun H locs hP hD hS => ?_)
          replace hP : va_P D vwCl (bX5 cI cZ a q o31) H := by rw [eo31]; exact hP
          replace hD : va_D A (bX5 cI cZ a q o31) := by rw [eo31]; exact hD
          refine lv_aload_n (pc := 114) hx hb dX5_next_114 rfl (lv_at hl 0 rfl) ?_
          refine lv_dup (pc := 115) hx hb dX5_next_115 rfl ?_
          refine va_get (pc := 116) (D := D) (ci := 5) (v := .int (o31.1 10)) (C := RX5) (T := TX5) (N := 41) hx hb hts iX5 hown hK.1 hP 0 rfl rfl 10 (by decide) (hts _ fl_RX5_64) (fun _ h => h) rfl dX5_next_116 ?_
          refine lv_iconst (v := 1) (pc := 119) hx hb dX5_next_119 (by decide) ?_
          refine lv_iadd (pc := 120) hx hb dX5_next_120 ?_
          obtain ⟨o32, eo32, hf⟩ := lt_some hf
          refine va_put (pc := 121) (D := D) (ci := 5) (v := .int ((o31.1 10) + 1)) (ty := .int) (C := RX5) (T := TX5) (N := 41) hx hb hts iX5 tyX5 tyX5_ok nmX5 hown hK.1 hP hD hS 0 rfl rfl 10 (by decide) (hts _ fl_RX5_64) (fun _ h => h) rfl (tyX5_ok 10 (by decide)) rfl rfl (Nat.le_of_ble_eq_true rfl) dX5_next_121 (fun H locs hP hD hS => ?_)
          replace hP : va_P D vwCl (bX5 cI cZ a q o32) H := by rw [eo32]; exact hP
          replace hD : va_D A (bX5 cI cZ a q o32) := by rw [eo32]; exact hD
          obtain rfl := Option.some.inj hf
          exact W.vret hx hb hr (fun t ht hW => ⟨rfl, by rw [ht]; exact hP, hD, hS.F ht⟩) hS.2.2 dX5_next_124
        replace hf := hz29
        refine lv_icmp_eq (pc := 84) (tgt := 105) hx hb dX5_next_84 (by decide) (fun c33 => ?_) (fun c33 => ?_)
        · replace hf := ip c33 hf
          refine lv_iload_n (pc := 105) hx hb dX5_next_105 rfl (lv_at hl 0 rfl) ?_
          refine lv_goto (pc := 106) (tgt := 111) hx hb dX5_next_106 (by decide) ?_
          obtain rfl := Option.some.inj hf
          exact K30 H locs ls hP hD hS (lv_sub hl [1, 0] rfl)
        · replace hf := im c33 hf
          refine lv_iload_n (pc := 87) hx hb dX5_next_87 rfl (lv_at hl 0 rfl) ?_
          refine lv_bipush (v := 99) (pc := 88) hx hb dX5_next_88 (by decide) ?_
          refine lv_icmp_eq (pc := 90) (tgt := 105) hx hb dX5_next_90 (by decide) (fun c34 => ?_) (fun c34 => ?_)
          · replace hf := ip c34 hf
            refine lv_iload_n (pc := 105) hx hb dX5_next_105 rfl (lv_at hl 0 rfl) ?_
            refine lv_goto (pc := 106) (tgt := 111) hx hb dX5_next_106 (by decide) ?_
            obtain rfl := Option.some.inj hf
            exact K30 H locs ls hP hD hS (lv_sub hl [1, 0] rfl)
          · replace hf := im c34 hf
            refine lv_iload_n (pc := 93) hx hb dX5_next_93 rfl (lv_at hl 0 rfl) ?_
            refine lv_bipush (v := 119) (pc := 94) hx hb dX5_next_94 (by decide) ?_
            refine lv_icmp_eq (pc := 96) (tgt := 105) hx hb dX5_next_96 (by decide) (fun c35 => ?_) (fun c35 => ?_)
            · replace hf := ip c35 hf
              refine lv_iload_n (pc := 105) hx hb dX5_next_105 rfl (lv_at hl 0 rfl) ?_
              refine lv_goto (pc := 106) (tgt := 111) hx hb dX5_next_106 (by decide) ?_
              obtain rfl := Option.some.inj hf
              exact K30 H locs ls hP hD hS (lv_sub hl [1, 0] rfl)
            · replace hf := im c35 hf
              refine lv_iload_n (pc := 99) hx hb dX5_next_99 rfl (lv_at hl 0 rfl) ?_
              refine lv_bipush (v := 59) (pc := 100) hx hb dX5_next_100 (by decide) ?_
              refine lv_icmp_ne (pc := 102) (tgt := 109) hx hb dX5_next_102 (by decide) (fun c36 => ?_) (fun c36 => ?_)
              · replace hf := im c36 hf
                refine lv_bipush (v := -2) (pc := 109) hx hb dX5_next_109 (by decide) ?_
                obtain rfl := Option.some.inj hf
                exact K30 H locs ls hP hD hS (lv_sub hl [1, 0] rfl)
              · replace hf := ip c36 hf
                refine lv_iload_n (pc := 105) hx hb dX5_next_105 rfl (lv_at hl 0 rfl) ?_
                refine lv_goto (pc := 106) (tgt := 111) hx hb dX5_next_106 (by decide) ?_
                obtain rfl := Option.some.inj hf
                exact K30 H locs ls hP hD hS (lv_sub hl [1, 0] rfl)
    · replace hf := ip c5 hf
      refine lv_aload_n (pc := 57) hx hb dX5_next_57 rfl (lv_at hl 0 rfl) ?_
      refine lv_iconst (v := -1) (pc := 58) hx hb dX5_next_58 (by decide) ?_
      obtain ⟨o37, eo37, hf⟩ := lt_some hf
      refine va_put (pc := 59) (D := D) (ci := 5) (v := .int (-1)) (ty := .int) (C := RX5) (T := TX5) (N := 41) hx hb hts iX5 tyX5 tyX5_ok nmX5 hown hK.1 hP hD hS 0 rfl rfl 12 (by decide) (hts _ fl_RX5_70) (fun _ h => h) rfl (tyX5_ok 12 (by decide)) rfl rfl (Nat.le_of_ble_eq_true rfl) dX5_next_59 (fun H locs hP hD hS => ?_)
      replace hP : va_P D vwCl (bX5 cI cZ a q o37) H := by rw [eo37]; exact hP
      replace hD : va_D A (bX5 cI cZ a q o37) := by rw [eo37]; exact hD
      obtain rfl := Option.some.inj hf
      exact W.vret hx hb hr (fun t ht hW => ⟨rfl, by rw [ht]; exact hP, hD, hS.F ht⟩) hS.2.2 dX5_next_62
  have KL3 : ∀ (n : Nat) (w_M : OS) (H : Heap) (locs : List Loc) (ls : Array Slot), lp_X5_next_0 n w_M = some z1 → va_P D vwCl (bX5 cI cZ a q w_M) H → va_D A (bX5 cI cZ a q w_M) → va_S A s.heap H locs → lv_has ls 2 [(0, .ref a)] → GW l yX5_next cX5_next 2 none 2 42 D [.ref a] none (bX5 cI cZ a q x) A p e s m below meth c H locs (F0 m 0 ls []) := by
    intro n
    induction n with
    | zero => intro w_M H locs ls hf; cases hf
    | succ n ih =>
      intro w_M H locs ls hf hP hD hS hl
      rw [lp_X5_next_0] at hf
      refine lv_aload_n (pc := 0) hx hb dX5_next_0 rfl (lv_at hl 0 rfl) ?_
      refine va_get (pc := 1) (D := D) (ci := 5) (v := .int (w_M.1 10)) (C := RX5) (T := TX5) (N := 41) hx hb hts iX5 hown hK.1 hP 0 rfl rfl 10 (by decide) (hts _ fl_RX5_64) (fun _ h => h) rfl dX5_next_1 ?_
      refine lv_aload_n (pc := 4) hx hb dX5_next_4 rfl (lv_at hl 0 rfl) ?_
      refine va_get (pc := 5) (D := D) (ci := 5) (v := .int (w_M.1 9)) (C := RX5) (T := TX5) (N := 41) hx hb hts iX5 hown hK.1 hP 0 rfl rfl 9 (by decide) (hts _ fl_RX5_61) (fun _ h => h) rfl dX5_next_5 ?_
      refine lv_icmp_ge (pc := 8) (tgt := 38) hx hb dX5_next_8 (by decide) (fun c38 => ?_) (fun c38 => ?_)
      · replace hf := ip c38 hf
        obtain rfl := Option.some.inj hf
        exact K2 H locs ls hP hD hS (lv_sub hl [0] rfl)
      · replace hf := im c38 hf
        refine lv_aload_n (pc := 11) hx hb dX5_next_11 rfl (lv_at hl 0 rfl) ?_
        refine va_get (pc := 12) (D := D) (ci := 5) (v := .ref (q 8)) (C := RX5) (T := TX5) (N := 41) hx hb hts iX5 hown hK.1 hP 0 rfl rfl 8 (by decide) (hts _ fl_RX5_30) (fun _ h => h) rfl dX5_next_12 ?_
        refine lv_aload_n (pc := 15) hx hb dX5_next_15 rfl (lv_at hl 0 rfl) ?_
        refine va_get (pc := 16) (D := D) (ci := 5) (v := .int (w_M.1 10)) (C := RX5) (T := TX5) (N := 41) hx hb hts iX5 hown hK.1 hP 0 rfl rfl 10 (by decide) (hts _ fl_RX5_64) (fun _ h => h) rfl dX5_next_16 ?_
        obtain ⟨h39, hf⟩ := ck_some hf
        refine va_iald (pc := 19) (f := w_M.2.2 8) hx hb hK.1 hP 6 0 rfl rfl h39 dX5_next_19 ?_
        refine lv_bipush (v := 32) (pc := 20) hx hb dX5_next_20 (by decide) ?_
        refine lv_icmp_ne (pc := 22) (tgt := 38) hx hb dX5_next_22 (by decide) (fun c40 => ?_) (fun c40 => ?_)
        · replace hf := im c40 hf
          obtain rfl := Option.some.inj hf
          exact K2 H locs ls hP hD hS (lv_sub hl [0] rfl)
        · replace hf := ip c40 hf
          refine lv_aload_n (pc := 25) hx hb dX5_next_25 rfl (lv_at hl 0 rfl) ?_
          refine lv_dup (pc := 26) hx hb dX5_next_26 rfl ?_
          refine va_get (pc := 27) (D := D) (ci := 5) (v := .int (w_M.1 10)) (C := RX5) (T := TX5) (N := 41) hx hb hts iX5 hown hK.1 hP 0 rfl rfl 10 (by decide) (hts _ fl_RX5_64) (fun _ h => h) rfl dX5_next_27 ?_
          refine lv_iconst (v := 1) (pc := 30) hx hb dX5_next_30 (by decide) ?_
          refine lv_iadd (pc := 31) hx hb dX5_next_31 ?_
          obtain ⟨o41, eo41, hf⟩ := lt_some hf
          refine va_put (pc := 32) (D := D) (ci := 5) (v := .int ((w_M.1 10) + 1)) (ty := .int) (C := RX5) (T := TX5) (N := 41) hx hb hts iX5 tyX5 tyX5_ok nmX5 hown hK.1 hP hD hS 0 rfl rfl 10 (by decide) (hts _ fl_RX5_64) (fun _ h => h) rfl (tyX5_ok 10 (by decide)) rfl rfl (Nat.le_of_ble_eq_true rfl) dX5_next_32 (fun H locs hP hD hS => ?_)
          replace hP : va_P D vwCl (bX5 cI cZ a q o41) H := by rw [eo41]; exact hP
          replace hD : va_D A (bX5 cI cZ a q o41) := by rw [eo41]; exact hD
          refine lv_goto (pc := 35) (tgt := 0) hx hb dX5_next_35 (by decide) ?_
          exact ih _ H locs ls hf hP hD hS (lv_sub hl [0] rfl)
  exact KL3 1000 _ H locs ls hz1 hP hD hS (lv_sub hl [0] rfl)
def f_X5_due (i0 : Int32) (om : OS) : Option OS := if i0 = 0 then if (om.1 14) = (-9) then lt (sI om 14 (om.1 11)) fun o3 => some o3 else some om else some om
set_option maxHeartbeats 4000000 in
set_option maxRecDepth 100000 in
theorem c_X5_due (l : Launch) (D : va_G) (cI cZ cS : ClassId) (a : Nat) (q : Nat → Nat) (i0 : Int32) (om : OS) (x : OS) (hf : f_X5_due i0 om = some x) : Ct l yX5_due cX5_due 2 none 0 0 D cI cZ cS [.ref a, .int i0] (bX5 cI cZ a q om) none (bX5 cI cZ a q x) := by
  intro sz
  refine Met.ofW (cc := cX5_due) (maxL := 2) (ret := none) (by decide +kernel) rfl ?_
  intro p e s m args below meth c s₁ B hml hv
  obtain ⟨rfl, hsz, hP, hK, hD0⟩ := hv
  have hx := B.exec
  have hb := B.bytes
  have hr := B.returns
  have hts0 := atoms_spec (ws := .code yX5_due cX5_due 2 none :: TB) B.pre
  have hts := fun w (h : w ∈ TB) => hts0 w (List.mem_cons_of_mem _ h)
  have hown : s.vm.findClass RX5 = some m.cls := findClass_of_methodNamed B.named
  have hlocks := B.notSynchronized
  subst hsz
  have hD := hD0.self (sz := s.heap.size)
  generalize hAe : va_A (bX5 cI cZ a q om) s.heap.size = A at hD ⊢
  have hA : ∀ q : Nat, s.heap.size ≤ q → A q := fun q h => by rw [← hAe]; exact Or.inr h
  have hS : va_S A s.heap s.heap [] := va_S.rf
  obtain ⟨H, hH⟩ : ∃ H, H = s.heap := ⟨_, rfl⟩
  rw [← hH] at hP
  have hS : va_S A s.heap H [] := by rw [hH]; exact hS
  have hl := lv_entry ([.ref a, .int i0]) (n := 2) (Nat.le_of_ble_eq_true rfl)
  rw [lg_entry_eq]
  generalize (lg_sl ([.ref a, .int i0]) ++ List.replicate (2 - (lg_sl ([.ref a, .int i0])).length) Slot.unset).toArray = ls at hl ⊢
  have hl : lv_has ls 2 [(0, .ref a), (1, .int i0)] := hl
  refine W_heap hH ?_
  obtain ⟨locs, hlo⟩ : ∃ locs : List Loc, locs = [] := ⟨_, rfl⟩
  rw [← hlo] at hS ⊢
  unfold f_X5_due at hf
  refine lv_iload_n (pc := 0) hx hb dX5_due_0 rfl (lv_at hl 1 rfl) ?_
  refine lv_if_ne (pc := 1) (tgt := 21) hx hb dX5_due_1 (by decide) (fun c1 => ?_) (fun c1 => ?_)
  · replace hf := im c1 hf
    obtain rfl := Option.some.inj hf
    exact W.vret hx hb hr (fun t ht hW => ⟨rfl, by rw [ht]; exact hP, hD, hS.F ht⟩) hS.2.2 dX5_due_21
  · replace hf := ip c1 hf
    refine lv_aload_n (pc := 4) hx hb dX5_due_4 rfl (lv_at hl 0 rfl) ?_
    refine va_get (pc := 5) (D := D) (ci := 5) (v := .int (om.1 14)) (C := RX5) (T := TX5) (N := 41) hx hb hts iX5 hown hK.1 hP 0 rfl rfl 14 (by decide) (hts _ fl_RX5_80) (fun _ h => h) rfl dX5_due_5 ?_
    refine lv_bipush (v := -9) (pc := 8) hx hb dX5_due_8 (by decide) ?_
    refine lv_icmp_ne (pc := 10) (tgt := 21) hx hb dX5_due_10 (by decide) (fun c2 => ?_) (fun c2 => ?_)
    · replace hf := im c2 hf
      obtain rfl := Option.some.inj hf
      exact W.vret hx hb hr (fun t ht hW => ⟨rfl, by rw [ht]; exact hP, hD, hS.F ht⟩) hS.2.2 dX5_due_21
    · replace hf := ip c2 hf
      refine lv_aload_n (pc := 13) hx hb dX5_due_13 rfl (lv_at hl 0 rfl) ?_
      refine lv_aload_n (pc := 14) hx hb dX5_due_14 rfl (lv_at hl 0 rfl) ?_
      refine va_get (pc := 15) (D := D) (ci := 5) (v := .int (om.1 11)) (C := RX5) (T := TX5) (N := 41) hx hb hts iX5 hown hK.1 hP 0 rfl rfl 11 (by decide) (hts _ fl_RX5_67) (fun _ h => h) rfl dX5_due_15 ?_
      obtain ⟨o3, eo3, hf⟩ := lt_some hf
      refine va_put (pc := 18) (D := D) (ci := 5) (v := .int (om.1 11)) (ty := .int) (C := RX5) (T := TX5) (N := 41) hx hb hts iX5 tyX5 tyX5_ok nmX5 hown hK.1 hP hD hS 0 rfl rfl 14 (by decide) (hts _ fl_RX5_80) (fun _ h => h) rfl (tyX5_ok 14 (by decide)) rfl rfl (Nat.le_of_ble_eq_true rfl) dX5_due_18 (fun H locs hP hD hS => ?_)
      replace hP : va_P D vwCl (bX5 cI cZ a q o3) H := by rw [eo3]; exact hP
      replace hD : va_D A (bX5 cI cZ a q o3) := by rw [eo3]; exact hD
      obtain rfl := Option.some.inj hf
      exact W.vret hx hb hr (fun t ht hW => ⟨rfl, by rw [ht]; exact hP, hD, hS.F ht⟩) hS.2.2 dX5_due_21
def f_X5_reads (i0 : Int32) (i1 : Int32) (i2 : Int32) (i3 : Int32) (om : OS) : Option OS := Option.bind (if (om.1 12) = 0 then Option.bind (f_X5_in (om.1 13) i1 i2) fun x9 => if x9 = 0 then some 0 else some 1 else some 0 : Option Int32) fun z1 => Option.bind (f_X5_due z1 om) fun x3 => if (x3.1 14) = (-9) then ck i0 59 (lt (sA x3 15 ((i0 : Int32).toNatClampNeg) ((x3.1 13) - i3)) fun o6 => Option.bind (f_X5_next o6) fun x7 => some x7) else some x3
set_option maxHeartbeats 4000000 in
set_option maxRecDepth 100000 in
theorem c_X5_reads (l : Launch) (D : va_G) (cI cZ cS : ClassId) (a : Nat) (q : Nat → Nat) (i0 : Int32) (i1 : Int32) (i2 : Int32) (i3 : Int32) (om : OS) (x : OS) (hf : f_X5_reads i0 i1 i2 i3 om = some x) : Ct l yX5_reads cX5_reads 5 none 3 63 D cI cZ cS [.ref a, .int i0, .int i1, .int i2, .int i3] (bX5 cI cZ a q om) none (bX5 cI cZ a q x) := by
  intro sz
  refine Met.ofW (cc := cX5_reads) (maxL := 5) (ret := none) (by decide +kernel) rfl ?_
  intro p e s m args below meth c s₁ B hml hv
  obtain ⟨rfl, hsz, hP, hK, hD0⟩ := hv
  have hx := B.exec
  have hb := B.bytes
  have hr := B.returns
  have hts0 := atoms_spec (ws := .code yX5_reads cX5_reads 5 none :: TB) B.pre
  have hts := fun w (h : w ∈ TB) => hts0 w (List.mem_cons_of_mem _ h)
  have hown : s.vm.findClass RX5 = some m.cls := findClass_of_methodNamed B.named
  have hlocks := B.notSynchronized
  subst hsz
  have hD := hD0.self (sz := s.heap.size)
  generalize hAe : va_A (bX5 cI cZ a q om) s.heap.size = A at hD ⊢
  have hA : ∀ q : Nat, s.heap.size ≤ q → A q := fun q h => by rw [← hAe]; exact Or.inr h
  have hS : va_S A s.heap s.heap [] := va_S.rf
  obtain ⟨H, hH⟩ : ∃ H, H = s.heap := ⟨_, rfl⟩
  rw [← hH] at hP
  have hS : va_S A s.heap H [] := by rw [hH]; exact hS
  have hl := lv_entry ([.ref a, .int i0, .int i1, .int i2, .int i3]) (n := 5) (Nat.le_of_ble_eq_true rfl)
  rw [lg_entry_eq]
  generalize (lg_sl ([.ref a, .int i0, .int i1, .int i2, .int i3]) ++ List.replicate (5 - (lg_sl ([.ref a, .int i0, .int i1, .int i2, .int i3])).length) Slot.unset).toArray = ls at hl ⊢
  have hl : lv_has ls 5 [(0, .ref a), (1, .int i0), (2, .int i1), (3, .int i2), (4, .int i3)] := hl
  refine W_heap hH ?_
  obtain ⟨locs, hlo⟩ : ∃ locs : List Loc, locs = [] := ⟨_, rfl⟩
  rw [← hlo] at hS ⊢
  unfold f_X5_reads at hf
  refine lv_aload_n (pc := 0) hx hb dX5_reads_0 rfl (lv_at hl 0 rfl) ?_
  refine lv_aload_n (pc := 1) hx hb dX5_reads_1 rfl (lv_at hl 0 rfl) ?_
  refine va_get (pc := 2) (D := D) (ci := 5) (v := .int (om.1 12)) (C := RX5) (T := TX5) (N := 41) hx hb hts iX5 hown hK.1 hP 0 rfl rfl 12 (by decide) (hts _ fl_RX5_70) (fun _ h => h) rfl dX5_reads_2 ?_
  obtain ⟨z1, hz1, hf⟩ := bd_some hf
  have K2 : ∀ (H : Heap) (locs : List Loc) (ls : Array Slot), va_P D vwCl (bX5 cI cZ a q om) H → va_D A (bX5 cI cZ a q om) → va_S A s.heap H locs → lv_has ls 5 [(0, .ref a), (1, .int i0), (2, .int i1), (3, .int i2), (4, .int i3)] → GW l yX5_reads cX5_reads 5 none 3 63 D [.ref a, .int i0, .int i1, .int i2, .int i3] none (bX5 cI cZ a q x) A p e s m below meth c H locs (F0 m 25 ls [.int z1, .ref a]) := by
    intro H locs ls hP hD hS hl
    obtain ⟨x3, ex3, hf⟩ := bd_some hf
    refine ct_V1 (pc := 25) (As := [.int z1]) (rest := []) (W1 := bX5 cI cZ a q x3) ⟨hx, hb, hml, hown, hts⟩ hK (c_X5_due l D cI cZ cS a q z1 om x3 ex3) gv_RX5_83 rfl hs_X5_due rfl ⟨Nat.le_of_ble_eq_true rfl, Nat.le_of_ble_eq_true rfl⟩ (ci := 5) (q0 := 0) rfl rfl rfl hl.1 rfl (Nat.le_of_ble_eq_true rfl) dX5_reads_25 ⟨Nat.zero_le _, Nat.zero_le _⟩ hP hD hS hA (fun H locs hP hD hS => ?_)
    refine lv_aload_n (pc := 28) hx hb dX5_reads_28 rfl (lv_at hl 0 rfl) ?_
    refine va_get (pc := 29) (D := D) (ci := 5) (v := .int (x3.1 14)) (C := RX5) (T := TX5) (N := 41) hx hb hts iX5 hown hK.1 hP 0 rfl rfl 14 (by decide) (hts _ fl_RX5_80) (fun _ h => h) rfl dX5_reads_29 ?_
    refine lv_bipush (v := -9) (pc := 32) hx hb dX5_reads_32 (by decide) ?_
    refine lv_icmp_ne (pc := 34) (tgt := 54) hx hb dX5_reads_34 (by decide) (fun c4 => ?_) (fun c4 => ?_)
    · replace hf := im c4 hf
      obtain rfl := Option.some.inj hf
      exact W.vret hx hb hr (fun t ht hW => ⟨rfl, by rw [ht]; exact hP, hD, hS.F ht⟩) hS.2.2 dX5_reads_54
    · replace hf := ip c4 hf
      refine lv_aload_n (pc := 37) hx hb dX5_reads_37 rfl (lv_at hl 0 rfl) ?_
      refine va_get (pc := 38) (D := D) (ci := 5) (v := .ref (q 15)) (C := RX5) (T := TX5) (N := 41) hx hb hts iX5 hown hK.1 hP 0 rfl rfl 15 (by decide) (hts _ fl_RX5_33) (fun _ h => h) rfl dX5_reads_38 ?_
      refine lv_iload_n (pc := 41) hx hb dX5_reads_41 rfl (lv_at hl 1 rfl) ?_
      refine lv_aload_n (pc := 42) hx hb dX5_reads_42 rfl (lv_at hl 0 rfl) ?_
      refine va_get (pc := 43) (D := D) (ci := 5) (v := .int (x3.1 13)) (C := RX5) (T := TX5) (N := 41) hx hb hts iX5 hown hK.1 hP 0 rfl rfl 13 (by decide) (hts _ fl_RX5_77) (fun _ h => h) rfl dX5_reads_43 ?_
      refine lv_iload (pc := 46) hx hb dX5_reads_46 (lv_at hl 4 rfl) ?_
      refine lv_isub (pc := 48) hx hb dX5_reads_48 ?_
      obtain ⟨h5, hf⟩ := ck_some hf
      obtain ⟨o6, eo6, hf⟩ := lt_some hf
      refine va_iast (pc := 49) (f := x3.2.2 15) hx hb hK.1 hP hD hS 7 0 rfl rfl h5 dX5_reads_49 (fun H locs hP hD hS => ?_)
      replace hP : va_P D vwCl (bX5 cI cZ a q o6) H := by rw [eo6]; exact hP
      replace hD : va_D A (bX5 cI cZ a q o6) := by rw [eo6]; exact hD
      refine lv_aload_n (pc := 50) hx hb dX5_reads_50 rfl (lv_at hl 0 rfl) ?_
      obtain ⟨x7, ex7, hf⟩ := bd_some hf
      refine ct_V1 (pc := 51) (As := []) (rest := []) (W1 := bX5 cI cZ a q x7) ⟨hx, hb, hml, hown, hts⟩ hK (c_X5_next l D cI cZ cS a q o6 x7 ex7) gv_RX5_87 rfl hs_X5_next rfl ⟨Nat.le_of_ble_eq_true rfl, Nat.le_of_ble_eq_true rfl⟩ (ci := 5) (q0 := 0) rfl rfl rfl hl.1 rfl (Nat.le_of_ble_eq_true rfl) dX5_reads_51 ⟨Nat.zero_le _, Nat.zero_le _⟩ hP hD hS hA (fun H locs hP hD hS => ?_)
      obtain rfl := Option.some.inj hf
      exact W.vret hx hb hr (fun t ht hW => ⟨rfl, by rw [ht]; exact hP, hD, hS.F ht⟩) hS.2.2 dX5_reads_54
  replace hf := hz1
  refine lv_if_ne (pc := 5) (tgt := 24) hx hb dX5_reads_5 (by decide) (fun c8 => ?_) (fun c8 => ?_)
  · replace hf := im c8 hf
    refine lv_iconst (v := 0) (pc := 24) hx hb dX5_reads_24 (by decide) ?_
    obtain rfl := Option.some.inj hf
    exact K2 H locs ls hP hD hS (lv_sub hl [0, 1, 2, 3, 4] rfl)
  · replace hf := ip c8 hf
    refine lv_aload_n (pc := 8) hx hb dX5_reads_8 rfl (lv_at hl 0 rfl) ?_
    refine va_get (pc := 9) (D := D) (ci := 5) (v := .int (om.1 13)) (C := RX5) (T := TX5) (N := 41) hx hb hts iX5 hown hK.1 hP 0 rfl rfl 13 (by decide) (hts _ fl_RX5_77) (fun _ h => h) rfl dX5_reads_9 ?_
    refine lv_iload_n (pc := 12) hx hb dX5_reads_12 rfl (lv_at hl 2 rfl) ?_
    refine lv_iload_n (pc := 13) hx hb dX5_reads_13 rfl (lv_at hl 3 rfl) ?_
    obtain ⟨x9, ex9, hf⟩ := bd_some hf
    refine ct_S0 (pc := 14) (As := [.int (om.1 13), .int i1, .int i2]) (rest := [.ref a]) ⟨hx, hb, hml, hown, hts⟩ hK (c_X5_in l D cI cZ cS (om.1 13) i1 i2 x9 ex9) gs_RX5_57 hs_X5_in rfl ⟨Nat.le_of_ble_eq_true rfl, Nat.le_of_ble_eq_true rfl⟩ hl.1 rfl (Nat.le_of_ble_eq_true rfl) dX5_reads_14 ⟨Nat.zero_le _, Nat.zero_le _⟩ hP hS hA (fun H locs hP hS => ?_)
    refine lv_if_eq (pc := 17) (tgt := 24) hx hb dX5_reads_17 (by decide) (fun c10 => ?_) (fun c10 => ?_)
    · replace hf := ip c10 hf
      refine lv_iconst (v := 0) (pc := 24) hx hb dX5_reads_24 (by decide) ?_
      obtain rfl := Option.some.inj hf
      exact K2 H locs ls hP hD hS (lv_sub hl [0, 1, 2, 3, 4] rfl)
    · replace hf := im c10 hf
      refine lv_iconst (v := 1) (pc := 20) hx hb dX5_reads_20 (by decide) ?_
      refine lv_goto (pc := 21) (tgt := 25) hx hb dX5_reads_21 (by decide) ?_
      obtain rfl := Option.some.inj hf
      exact K2 H locs ls hP hD hS (lv_sub hl [0, 1, 2, 3, 4] rfl)
def lp_X5_isTakenByDraft_5 (r1 : Int32) (r2 : Int32) (u_M : OS) : Nat → Int32 → Int32 → Option (Int32 × Int32)
  | 0, _, _ => none
  | n + 1, v3, v4 => if (u_M.2.2 15 (0 : Int32).toNatClampNeg) ≤ v4 then some (v3, v4) else if v3 = 0 then ck ((1 + (5 * v4)) + 0) 59 (if (u_M.2.2 15 (((1 + (5 * v4)) + 0) : Int32).toNatClampNeg) = r1 then ck ((1 + (5 * v4)) + 1) 59 (if (u_M.2.2 15 (((1 + (5 * v4)) + 1) : Int32).toNatClampNeg) = r2 then lp_X5_isTakenByDraft_5 r1 r2 u_M n 1 (v4 + 1) else lp_X5_isTakenByDraft_5 r1 r2 u_M n 0 (v4 + 1)) else lp_X5_isTakenByDraft_5 r1 r2 u_M n 0 (v4 + 1)) else lp_X5_isTakenByDraft_5 r1 r2 u_M n 1 (v4 + 1)
def f_X5_isTakenByDraft (i0 : Int32) (i1 : Int32) (om : OS) : Option Int32 := Option.bind (lp_X5_isTakenByDraft_5 i0 i1 om 1000 0 0) fun z1 => bz z1.1 (some z1.1)
set_option maxHeartbeats 4000000 in
set_option maxRecDepth 100000 in
theorem c_X5_isTakenByDraft (l : Launch) (D : va_G) (cI cZ cS : ClassId) (a : Nat) (q : Nat → Nat) (i0 : Int32) (i1 : Int32) (om : OS) (x : Int32) (hf : f_X5_isTakenByDraft i0 i1 om = some x) : Ct l yX5_isTakenByDraft cX5_isTakenByDraft 5 (some .boolean) 0 0 D cI cZ cS [.ref a, .int i0, .int i1] (bX5 cI cZ a q om) (some (.int x)) (bX5 cI cZ a q om) := by
  intro sz
  refine Met.ofW (cc := cX5_isTakenByDraft) (maxL := 5) (ret := (some .boolean)) (by decide +kernel) rfl ?_
  intro p e s m args below meth c s₁ B hml hv
  obtain ⟨rfl, hsz, hP, hK, hD0⟩ := hv
  have hx := B.exec
  have hb := B.bytes
  have hr := B.returns
  have hts0 := atoms_spec (ws := .code yX5_isTakenByDraft cX5_isTakenByDraft 5 (some .boolean) :: TB) B.pre
  have hts := fun w (h : w ∈ TB) => hts0 w (List.mem_cons_of_mem _ h)
  have hown : s.vm.findClass RX5 = some m.cls := findClass_of_methodNamed B.named
  have hlocks := B.notSynchronized
  subst hsz
  have hD := hD0.self (sz := s.heap.size)
  generalize hAe : va_A (bX5 cI cZ a q om) s.heap.size = A at hD ⊢
  have hA : ∀ q : Nat, s.heap.size ≤ q → A q := fun q h => by rw [← hAe]; exact Or.inr h
  have hS : va_S A s.heap s.heap [] := va_S.rf
  obtain ⟨H, hH⟩ : ∃ H, H = s.heap := ⟨_, rfl⟩
  rw [← hH] at hP
  have hS : va_S A s.heap H [] := by rw [hH]; exact hS
  have hl := lv_entry ([.ref a, .int i0, .int i1]) (n := 5) (Nat.le_of_ble_eq_true rfl)
  rw [lg_entry_eq]
  generalize (lg_sl ([.ref a, .int i0, .int i1]) ++ List.replicate (5 - (lg_sl ([.ref a, .int i0, .int i1])).length) Slot.unset).toArray = ls at hl ⊢
  have hl : lv_has ls 5 [(0, .ref a), (1, .int i0), (2, .int i1)] := hl
  refine W_heap hH ?_
  obtain ⟨locs, hlo⟩ : ∃ locs : List Loc, locs = [] := ⟨_, rfl⟩
  rw [← hlo] at hS ⊢
  unfold f_X5_isTakenByDraft at hf
  refine lv_iconst (v := 0) (pc := 0) hx hb dX5_isTakenByDraft_0 (by decide) ?_
  refine lv_istore_n (lv' := [(3, .int 0), (0, .ref a), (1, .int i0), (2, .int i1)]) (pc := 1) hx hb dX5_isTakenByDraft_1 rfl hl (by decide) rfl (fun ls hl => ?_)
  refine lv_iconst (v := 0) (pc := 2) hx hb dX5_isTakenByDraft_2 (by decide) ?_
  refine lv_istore (lv' := [(4, .int 0), (3, .int 0), (0, .ref a), (1, .int i0), (2, .int i1)]) (pc := 3) hx hb dX5_isTakenByDraft_3 hl (by decide) rfl (fun ls hl => ?_)
  obtain ⟨z1, hz1, hf⟩ := bd_some hf
  have hfz1 := hf
  clear hf
  have K2 : ∀ (H : Heap) (locs : List Loc) (ls : Array Slot), va_P D vwCl (bX5 cI cZ a q om) H → va_D A (bX5 cI cZ a q om) → va_S A s.heap H locs → lv_has ls 5 [(0, .ref a), (1, .int i0), (2, .int i1), (3, .int z1.1), (4, .int z1.2)] → GW l yX5_isTakenByDraft cX5_isTakenByDraft 5 (some .boolean) 0 0 D [.ref a, .int i0, .int i1] (some (.int x)) (bX5 cI cZ a q om) A p e s m below meth c H locs (F0 m 66 ls []) := by
    intro H locs ls hP hD hS hl
    have hf := hfz1
    refine lv_iload_n (pc := 66) hx hb dX5_isTakenByDraft_66 rfl (lv_at hl 3 rfl) ?_
    obtain ⟨h4, hf⟩ := bz_some hf
    obtain rfl := Option.some.inj hf
    exact W.zret hx hb hr h4 (fun t ht hW => ⟨rfl, by rw [ht]; exact hP, hD, hS.F ht⟩) hS.2.2 dX5_isTakenByDraft_67
  have KL3 : ∀ (n : Nat) (v3 : Int32) (v4 : Int32) (H : Heap) (locs : List Loc) (ls : Array Slot), lp_X5_isTakenByDraft_5 i0 i1 om n v3 v4 = some z1 → va_P D vwCl (bX5 cI cZ a q om) H → va_D A (bX5 cI cZ a q om) → va_S A s.heap H locs → lv_has ls 5 [(0, .ref a), (1, .int i0), (2, .int i1), (3, .int v3), (4, .int v4)] → GW l yX5_isTakenByDraft cX5_isTakenByDraft 5 (some .boolean) 0 0 D [.ref a, .int i0, .int i1] (some (.int x)) (bX5 cI cZ a q om) A p e s m below meth c H locs (F0 m 5 ls []) := by
    intro n
    induction n with
    | zero => intro v3 v4 H locs ls hf; cases hf
    | succ n ih =>
      intro v3 v4 H locs ls hf hP hD hS hl
      rw [lp_X5_isTakenByDraft_5] at hf
      refine lv_iload (pc := 5) hx hb dX5_isTakenByDraft_5 (lv_at hl 4 rfl) ?_
      refine lv_aload_n (pc := 7) hx hb dX5_isTakenByDraft_7 rfl (lv_at hl 0 rfl) ?_
      refine va_get (pc := 8) (D := D) (ci := 5) (v := .ref (q 15)) (C := RX5) (T := TX5) (N := 41) hx hb hts iX5 hown hK.1 hP 0 rfl rfl 15 (by decide) (hts _ fl_RX5_33) (fun _ h => h) rfl dX5_isTakenByDraft_8 ?_
      refine lv_iconst (v := 0) (pc := 11) hx hb dX5_isTakenByDraft_11 (by decide) ?_
      have h5 : vp_in 0 59 := by unfold vp_in; decide
      refine va_iald (pc := 12) (f := om.2.2 15) hx hb hK.1 hP 7 0 rfl rfl h5 dX5_isTakenByDraft_12 ?_
      refine lv_icmp_ge (pc := 13) (tgt := 66) hx hb dX5_isTakenByDraft_13 (by decide) (fun c6 => ?_) (fun c6 => ?_)
      · replace hf := ip c6 hf
        obtain rfl := Option.some.inj hf
        exact K2 H locs ls hP hD hS (lv_sub hl [0, 1, 2, 3, 4] rfl)
      · replace hf := im c6 hf
        refine lv_iload_n (pc := 16) hx hb dX5_isTakenByDraft_16 rfl (lv_at hl 3 rfl) ?_
        refine lv_if_ne (pc := 17) (tgt := 54) hx hb dX5_isTakenByDraft_17 (by decide) (fun c7 => ?_) (fun c7 => ?_)
        · replace hf := im c7 hf
          refine lv_iconst (v := 1) (pc := 54) hx hb dX5_isTakenByDraft_54 (by decide) ?_
          refine lv_goto (pc := 55) (tgt := 59) hx hb dX5_isTakenByDraft_55 (by decide) ?_
          refine lv_istore_n (lv' := [(3, .int 1), (0, .ref a), (1, .int i0), (2, .int i1), (4, .int v4)]) (pc := 59) hx hb dX5_isTakenByDraft_59 rfl hl (by decide) rfl (fun ls hl => ?_)
          refine lv_iinc (v := (v4 + 1)) (lv' := [(4, .int (v4 + 1)), (3, .int 1), (0, .ref a), (1, .int i0), (2, .int i1)]) (pc := 60) hx hb dX5_isTakenByDraft_60 hl (k := 4) rfl rfl (by decide) rfl (fun ls hl => ?_)
          refine lv_goto (pc := 63) (tgt := 5) hx hb dX5_isTakenByDraft_63 (by decide) ?_
          exact ih _ _ H locs ls hf hP hD hS (lv_sub hl [2, 3, 4, 1, 0] rfl)
        · replace hf := ip c7 hf
          refine lv_aload_n (pc := 20) hx hb dX5_isTakenByDraft_20 rfl (lv_at hl 0 rfl) ?_
          refine va_get (pc := 21) (D := D) (ci := 5) (v := .ref (q 15)) (C := RX5) (T := TX5) (N := 41) hx hb hts iX5 hown hK.1 hP 0 rfl rfl 15 (by decide) (hts _ fl_RX5_33) (fun _ h => h) rfl dX5_isTakenByDraft_21 ?_
          refine lv_iconst (v := 1) (pc := 24) hx hb dX5_isTakenByDraft_24 (by decide) ?_
          refine lv_iconst (v := 5) (pc := 25) hx hb dX5_isTakenByDraft_25 (by decide) ?_
          refine lv_iload (pc := 26) hx hb dX5_isTakenByDraft_26 (lv_at hl 4 rfl) ?_
          refine lv_imul (pc := 28) hx hb dX5_isTakenByDraft_28 ?_
          refine lv_iadd (pc := 29) hx hb dX5_isTakenByDraft_29 ?_
          refine lv_iconst (v := 0) (pc := 30) hx hb dX5_isTakenByDraft_30 (by decide) ?_
          refine lv_iadd (pc := 31) hx hb dX5_isTakenByDraft_31 ?_
          obtain ⟨h8, hf⟩ := ck_some hf
          refine va_iald (pc := 32) (f := om.2.2 15) hx hb hK.1 hP 7 0 rfl rfl h8 dX5_isTakenByDraft_32 ?_
          refine lv_iload_n (pc := 33) hx hb dX5_isTakenByDraft_33 rfl (lv_at hl 1 rfl) ?_
          refine lv_icmp_ne (pc := 34) (tgt := 58) hx hb dX5_isTakenByDraft_34 (by decide) (fun c9 => ?_) (fun c9 => ?_)
          · replace hf := im c9 hf
            refine lv_iconst (v := 0) (pc := 58) hx hb dX5_isTakenByDraft_58 (by decide) ?_
            refine lv_istore_n (lv' := [(3, .int 0), (0, .ref a), (1, .int i0), (2, .int i1), (4, .int v4)]) (pc := 59) hx hb dX5_isTakenByDraft_59 rfl hl (by decide) rfl (fun ls hl => ?_)
            refine lv_iinc (v := (v4 + 1)) (lv' := [(4, .int (v4 + 1)), (3, .int 0), (0, .ref a), (1, .int i0), (2, .int i1)]) (pc := 60) hx hb dX5_isTakenByDraft_60 hl (k := 4) rfl rfl (by decide) rfl (fun ls hl => ?_)
            refine lv_goto (pc := 63) (tgt := 5) hx hb dX5_isTakenByDraft_63 (by decide) ?_
            exact ih _ _ H locs ls hf hP hD hS (lv_sub hl [2, 3, 4, 1, 0] rfl)
          · replace hf := ip c9 hf
            refine lv_aload_n (pc := 37) hx hb dX5_isTakenByDraft_37 rfl (lv_at hl 0 rfl) ?_
            refine va_get (pc := 38) (D := D) (ci := 5) (v := .ref (q 15)) (C := RX5) (T := TX5) (N := 41) hx hb hts iX5 hown hK.1 hP 0 rfl rfl 15 (by decide) (hts _ fl_RX5_33) (fun _ h => h) rfl dX5_isTakenByDraft_38 ?_
            refine lv_iconst (v := 1) (pc := 41) hx hb dX5_isTakenByDraft_41 (by decide) ?_
            refine lv_iconst (v := 5) (pc := 42) hx hb dX5_isTakenByDraft_42 (by decide) ?_
            refine lv_iload (pc := 43) hx hb dX5_isTakenByDraft_43 (lv_at hl 4 rfl) ?_
            refine lv_imul (pc := 45) hx hb dX5_isTakenByDraft_45 ?_
            refine lv_iadd (pc := 46) hx hb dX5_isTakenByDraft_46 ?_
            refine lv_iconst (v := 1) (pc := 47) hx hb dX5_isTakenByDraft_47 (by decide) ?_
            refine lv_iadd (pc := 48) hx hb dX5_isTakenByDraft_48 ?_
            obtain ⟨h10, hf⟩ := ck_some hf
            refine va_iald (pc := 49) (f := om.2.2 15) hx hb hK.1 hP 7 0 rfl rfl h10 dX5_isTakenByDraft_49 ?_
            refine lv_iload_n (pc := 50) hx hb dX5_isTakenByDraft_50 rfl (lv_at hl 2 rfl) ?_
            refine lv_icmp_ne (pc := 51) (tgt := 58) hx hb dX5_isTakenByDraft_51 (by decide) (fun c11 => ?_) (fun c11 => ?_)
            · replace hf := im c11 hf
              refine lv_iconst (v := 0) (pc := 58) hx hb dX5_isTakenByDraft_58 (by decide) ?_
              refine lv_istore_n (lv' := [(3, .int 0), (0, .ref a), (1, .int i0), (2, .int i1), (4, .int v4)]) (pc := 59) hx hb dX5_isTakenByDraft_59 rfl hl (by decide) rfl (fun ls hl => ?_)
              refine lv_iinc (v := (v4 + 1)) (lv' := [(4, .int (v4 + 1)), (3, .int 0), (0, .ref a), (1, .int i0), (2, .int i1)]) (pc := 60) hx hb dX5_isTakenByDraft_60 hl (k := 4) rfl rfl (by decide) rfl (fun ls hl => ?_)
              refine lv_goto (pc := 63) (tgt := 5) hx hb dX5_isTakenByDraft_63 (by decide) ?_
              exact ih _ _ H locs ls hf hP hD hS (lv_sub hl [2, 3, 4, 1, 0] rfl)
            · replace hf := ip c11 hf
              refine lv_iconst (v := 1) (pc := 54) hx hb dX5_isTakenByDraft_54 (by decide) ?_
              refine lv_goto (pc := 55) (tgt := 59) hx hb dX5_isTakenByDraft_55 (by decide) ?_
              refine lv_istore_n (lv' := [(3, .int 1), (0, .ref a), (1, .int i0), (2, .int i1), (4, .int v4)]) (pc := 59) hx hb dX5_isTakenByDraft_59 rfl hl (by decide) rfl (fun ls hl => ?_)
              refine lv_iinc (v := (v4 + 1)) (lv' := [(4, .int (v4 + 1)), (3, .int 1), (0, .ref a), (1, .int i0), (2, .int i1)]) (pc := 60) hx hb dX5_isTakenByDraft_60 hl (k := 4) rfl rfl (by decide) rfl (fun ls hl => ?_)
              refine lv_goto (pc := 63) (tgt := 5) hx hb dX5_isTakenByDraft_63 (by decide) ?_
              exact ih _ _ H locs ls hf hP hD hS (lv_sub hl [2, 3, 4, 1, 0] rfl)
  exact KL3 1000 _ _ H locs ls hz1 hP hD hS (lv_sub hl [2, 3, 4, 1, 0] rfl)
def f_X5_readsPile (om : OS) : Option OS := Option.bind (if 8 ≤ (om.2.2 15 (0 : Int32).toNatClampNeg) then some 0 else some 1 : Option Int32) fun z2 => Option.bind (f_X5_due z2 om) fun x4 => if (x4.1 14) = (-9) then Option.bind (f_X5_next x4) fun x6 => lt (1 + (5 * (x6.2.2 15 (0 : Int32).toNatClampNeg))) fun y8 => Option.bind (f_X5_reads (y8 + 0) 0 18 9 x6) fun x9 => Option.bind (if (x9.1 12) = 0 then Option.bind (f_X5_in (x9.1 13) 0 18) fun x22 => if x22 = 0 then some 0 else ck (y8 + 0) 59 (Option.bind (f_X5_isTakenByDraft (x9.2.2 15 ((y8 + 0) : Int32).toNatClampNeg) ((x9.1 13) - 9) x9) fun x25 => if x25 = 0 then some 1 else some 0) else some 0 : Option Int32) fun z10 => Option.bind (f_X5_due z10 x9) fun x12 => Option.bind (f_X5_reads (y8 + 1) 0 18 9 x12) fun x13 => Option.bind (f_X5_reads (y8 + 2) 1 9 0 x13) fun x14 => Option.bind (f_X5_reads (y8 + 3) 1 99 0 x14) fun x15 => ck (y8 + 4) 59 (lt (sA x15 15 (((y8 + 4) : Int32).toNatClampNeg) 0) fun o17 => lt (sA o17 15 ((0 : Int32).toNatClampNeg) ((o17.2.2 15 (0 : Int32).toNatClampNeg) + 1)) fun o20 => some o20) else some x4
set_option maxHeartbeats 4000000 in
set_option maxRecDepth 100000 in
theorem c_X5_readsPile (l : Launch) (D : va_G) (cI cZ cS : ClassId) (a : Nat) (q : Nat → Nat) (om : OS) (x : OS) (hf : f_X5_readsPile om = some x) : Ct l yX5_readsPile cX5_readsPile 2 none 4 87 D cI cZ cS [.ref a] (bX5 cI cZ a q om) none (bX5 cI cZ a q x) := by
  intro sz
  refine Met.ofW (cc := cX5_readsPile) (maxL := 2) (ret := none) (by decide +kernel) rfl ?_
  intro p e s m args below meth c s₁ B hml hv
  obtain ⟨rfl, hsz, hP, hK, hD0⟩ := hv
  have hx := B.exec
  have hb := B.bytes
  have hr := B.returns
  have hts0 := atoms_spec (ws := .code yX5_readsPile cX5_readsPile 2 none :: TB) B.pre
  have hts := fun w (h : w ∈ TB) => hts0 w (List.mem_cons_of_mem _ h)
  have hown : s.vm.findClass RX5 = some m.cls := findClass_of_methodNamed B.named
  have hlocks := B.notSynchronized
  subst hsz
  have hD := hD0.self (sz := s.heap.size)
  generalize hAe : va_A (bX5 cI cZ a q om) s.heap.size = A at hD ⊢
  have hA : ∀ q : Nat, s.heap.size ≤ q → A q := fun q h => by rw [← hAe]; exact Or.inr h
  have hS : va_S A s.heap s.heap [] := va_S.rf
  obtain ⟨H, hH⟩ : ∃ H, H = s.heap := ⟨_, rfl⟩
  rw [← hH] at hP
  have hS : va_S A s.heap H [] := by rw [hH]; exact hS
  have hl := lv_entry ([.ref a]) (n := 2) (Nat.le_of_ble_eq_true rfl)
  rw [lg_entry_eq]
  generalize (lg_sl ([.ref a]) ++ List.replicate (2 - (lg_sl ([.ref a])).length) Slot.unset).toArray = ls at hl ⊢
  have hl : lv_has ls 2 [(0, .ref a)] := hl
  refine W_heap hH ?_
  obtain ⟨locs, hlo⟩ : ∃ locs : List Loc, locs = [] := ⟨_, rfl⟩
  rw [← hlo] at hS ⊢
  unfold f_X5_readsPile at hf
  refine lv_aload_n (pc := 0) hx hb dX5_readsPile_0 rfl (lv_at hl 0 rfl) ?_
  refine lv_aload_n (pc := 1) hx hb dX5_readsPile_1 rfl (lv_at hl 0 rfl) ?_
  refine va_get (pc := 2) (D := D) (ci := 5) (v := .ref (q 15)) (C := RX5) (T := TX5) (N := 41) hx hb hts iX5 hown hK.1 hP 0 rfl rfl 15 (by decide) (hts _ fl_RX5_33) (fun _ h => h) rfl dX5_readsPile_2 ?_
  refine lv_iconst (v := 0) (pc := 5) hx hb dX5_readsPile_5 (by decide) ?_
  have h1 : vp_in 0 59 := by unfold vp_in; decide
  refine va_iald (pc := 6) (f := om.2.2 15) hx hb hK.1 hP 7 0 rfl rfl h1 dX5_readsPile_6 ?_
  refine lv_bipush (v := 8) (pc := 7) hx hb dX5_readsPile_7 (by decide) ?_
  obtain ⟨z2, hz2, hf⟩ := bd_some hf
  have K3 : ∀ (H : Heap) (locs : List Loc) (ls : Array Slot), va_P D vwCl (bX5 cI cZ a q om) H → va_D A (bX5 cI cZ a q om) → va_S A s.heap H locs → lv_has ls 2 [(0, .ref a)] → GW l yX5_readsPile cX5_readsPile 2 none 4 87 D [.ref a] none (bX5 cI cZ a q x) A p e s m below meth c H locs (F0 m 17 ls [.int z2, .ref a]) := by
    intro H locs ls hP hD hS hl
    obtain ⟨x4, ex4, hf⟩ := bd_some hf
    refine ct_V1 (pc := 17) (As := [.int z2]) (rest := []) (W1 := bX5 cI cZ a q x4) ⟨hx, hb, hml, hown, hts⟩ hK (c_X5_due l D cI cZ cS a q z2 om x4 ex4) gv_RX5_83 rfl hs_X5_due rfl ⟨Nat.le_of_ble_eq_true rfl, Nat.le_of_ble_eq_true rfl⟩ (ci := 5) (q0 := 0) rfl rfl rfl hl.1 rfl (Nat.le_of_ble_eq_true rfl) dX5_readsPile_17 ⟨Nat.zero_le _, Nat.zero_le _⟩ hP hD hS hA (fun H locs hP hD hS => ?_)
    refine lv_aload_n (pc := 20) hx hb dX5_readsPile_20 rfl (lv_at hl 0 rfl) ?_
    refine va_get (pc := 21) (D := D) (ci := 5) (v := .int (x4.1 14)) (C := RX5) (T := TX5) (N := 41) hx hb hts iX5 hown hK.1 hP 0 rfl rfl 14 (by decide) (hts _ fl_RX5_80) (fun _ h => h) rfl dX5_readsPile_21 ?_
    refine lv_bipush (v := -9) (pc := 24) hx hb dX5_readsPile_24 (by decide) ?_
    refine lv_icmp_eq (pc := 26) (tgt := 30) hx hb dX5_readsPile_26 (by decide) (fun c5 => ?_) (fun c5 => ?_)
    · replace hf := ip c5 hf
      refine lv_aload_n (pc := 30) hx hb dX5_readsPile_30 rfl (lv_at hl 0 rfl) ?_
      obtain ⟨x6, ex6, hf⟩ := bd_some hf
      refine ct_V1 (pc := 31) (As := []) (rest := []) (W1 := bX5 cI cZ a q x6) ⟨hx, hb, hml, hown, hts⟩ hK (c_X5_next l D cI cZ cS a q x4 x6 ex6) gv_RX5_87 rfl hs_X5_next rfl ⟨Nat.le_of_ble_eq_true rfl, Nat.le_of_ble_eq_true rfl⟩ (ci := 5) (q0 := 0) rfl rfl rfl hl.1 rfl (Nat.le_of_ble_eq_true rfl) dX5_readsPile_31 ⟨Nat.zero_le _, Nat.zero_le _⟩ hP hD hS hA (fun H locs hP hD hS => ?_)
      refine lv_iconst (v := 1) (pc := 34) hx hb dX5_readsPile_34 (by decide) ?_
      refine lv_iconst (v := 5) (pc := 35) hx hb dX5_readsPile_35 (by decide) ?_
      refine lv_aload_n (pc := 36) hx hb dX5_readsPile_36 rfl (lv_at hl 0 rfl) ?_
      refine va_get (pc := 37) (D := D) (ci := 5) (v := .ref (q 15)) (C := RX5) (T := TX5) (N := 41) hx hb hts iX5 hown hK.1 hP 0 rfl rfl 15 (by decide) (hts _ fl_RX5_33) (fun _ h => h) rfl dX5_readsPile_37 ?_
      refine lv_iconst (v := 0) (pc := 40) hx hb dX5_readsPile_40 (by decide) ?_
      have h7 : vp_in 0 59 := by unfold vp_in; decide
      refine va_iald (pc := 41) (f := x6.2.2 15) hx hb hK.1 hP 7 0 rfl rfl h7 dX5_readsPile_41 ?_
      refine lv_imul (pc := 42) hx hb dX5_readsPile_42 ?_
      refine lv_iadd (pc := 43) hx hb dX5_readsPile_43 ?_
      obtain ⟨y8, ey8, hf⟩ := lt_some hf
      refine lv_nmI ey8 ?_
      refine lv_istore_n (lv' := [(1, .int y8), (0, .ref a)]) (pc := 44) hx hb dX5_readsPile_44 rfl hl (by decide) rfl (fun ls hl => ?_)
      refine lv_aload_n (pc := 45) hx hb dX5_readsPile_45 rfl (lv_at hl 1 rfl) ?_
      refine lv_iload_n (pc := 46) hx hb dX5_readsPile_46 rfl (lv_at hl 0 rfl) ?_
      refine lv_iconst (v := 0) (pc := 47) hx hb dX5_readsPile_47 (by decide) ?_
      refine lv_iadd (pc := 48) hx hb dX5_readsPile_48 ?_
      refine lv_iconst (v := 0) (pc := 49) hx hb dX5_readsPile_49 (by decide) ?_
      refine lv_bipush (v := 18) (pc := 50) hx hb dX5_readsPile_50 (by decide) ?_
      refine lv_bipush (v := 9) (pc := 52) hx hb dX5_readsPile_52 (by decide) ?_
      obtain ⟨x9, ex9, hf⟩ := bd_some hf
      refine ct_V1 (pc := 54) (As := [.int (y8 + 0), .int 0, .int 18, .int 9]) (rest := []) (W1 := bX5 cI cZ a q x9) ⟨hx, hb, hml, hown, hts⟩ hK (c_X5_reads l D cI cZ cS a q (y8 + 0) 0 18 9 x6 x9 ex9) gv_RX5_90 rfl hs_X5_reads rfl ⟨Nat.le_of_ble_eq_true rfl, Nat.le_of_ble_eq_true rfl⟩ (ci := 5) (q0 := 0) rfl rfl rfl hl.1 rfl (Nat.le_of_ble_eq_true rfl) dX5_readsPile_54 ⟨Nat.zero_le _, Nat.zero_le _⟩ hP hD hS hA (fun H locs hP hD hS => ?_)
      refine lv_aload_n (pc := 57) hx hb dX5_readsPile_57 rfl (lv_at hl 1 rfl) ?_
      refine lv_aload_n (pc := 58) hx hb dX5_readsPile_58 rfl (lv_at hl 1 rfl) ?_
      refine va_get (pc := 59) (D := D) (ci := 5) (v := .int (x9.1 12)) (C := RX5) (T := TX5) (N := 41) hx hb hts iX5 hown hK.1 hP 0 rfl rfl 12 (by decide) (hts _ fl_RX5_70) (fun _ h => h) rfl dX5_readsPile_59 ?_
      obtain ⟨z10, hz10, hf⟩ := bd_some hf
      have K11 : ∀ (H : Heap) (locs : List Loc) (ls : Array Slot), va_P D vwCl (bX5 cI cZ a q x9) H → va_D A (bX5 cI cZ a q x9) → va_S A s.heap H locs → lv_has ls 2 [(0, .ref a), (1, .int y8)] → GW l yX5_readsPile cX5_readsPile 2 none 4 87 D [.ref a] none (bX5 cI cZ a q x) A p e s m below meth c H locs (F0 m 105 ls [.int z10, .ref a]) := by
        intro H locs ls hP hD hS hl
        obtain ⟨x12, ex12, hf⟩ := bd_some hf
        refine ct_V1 (pc := 105) (As := [.int z10]) (rest := []) (W1 := bX5 cI cZ a q x12) ⟨hx, hb, hml, hown, hts⟩ hK (c_X5_due l D cI cZ cS a q z10 x9 x12 ex12) gv_RX5_83 rfl hs_X5_due rfl ⟨Nat.le_of_ble_eq_true rfl, Nat.le_of_ble_eq_true rfl⟩ (ci := 5) (q0 := 0) rfl rfl rfl hl.1 rfl (Nat.le_of_ble_eq_true rfl) dX5_readsPile_105 ⟨Nat.zero_le _, Nat.zero_le _⟩ hP hD hS hA (fun H locs hP hD hS => ?_)
        refine lv_aload_n (pc := 108) hx hb dX5_readsPile_108 rfl (lv_at hl 0 rfl) ?_
        refine lv_iload_n (pc := 109) hx hb dX5_readsPile_109 rfl (lv_at hl 1 rfl) ?_
        refine lv_iconst (v := 1) (pc := 110) hx hb dX5_readsPile_110 (by decide) ?_
        refine lv_iadd (pc := 111) hx hb dX5_readsPile_111 ?_
        refine lv_iconst (v := 0) (pc := 112) hx hb dX5_readsPile_112 (by decide) ?_
        refine lv_bipush (v := 18) (pc := 113) hx hb dX5_readsPile_113 (by decide) ?_
        refine lv_bipush (v := 9) (pc := 115) hx hb dX5_readsPile_115 (by decide) ?_
        obtain ⟨x13, ex13, hf⟩ := bd_some hf
        refine ct_V1 (pc := 117) (As := [.int (y8 + 1), .int 0, .int 18, .int 9]) (rest := []) (W1 := bX5 cI cZ a q x13) ⟨hx, hb, hml, hown, hts⟩ hK (c_X5_reads l D cI cZ cS a q (y8 + 1) 0 18 9 x12 x13 ex13) gv_RX5_90 rfl hs_X5_reads rfl ⟨Nat.le_of_ble_eq_true rfl, Nat.le_of_ble_eq_true rfl⟩ (ci := 5) (q0 := 0) rfl rfl rfl hl.1 rfl (Nat.le_of_ble_eq_true rfl) dX5_readsPile_117 ⟨Nat.zero_le _, Nat.zero_le _⟩ hP hD hS hA (fun H locs hP hD hS => ?_)
        refine lv_aload_n (pc := 120) hx hb dX5_readsPile_120 rfl (lv_at hl 0 rfl) ?_
        refine lv_iload_n (pc := 121) hx hb dX5_readsPile_121 rfl (lv_at hl 1 rfl) ?_
        refine lv_iconst (v := 2) (pc := 122) hx hb dX5_readsPile_122 (by decide) ?_
        refine lv_iadd (pc := 123) hx hb dX5_readsPile_123 ?_
        refine lv_iconst (v := 1) (pc := 124) hx hb dX5_readsPile_124 (by decide) ?_
        refine lv_bipush (v := 9) (pc := 125) hx hb dX5_readsPile_125 (by decide) ?_
        refine lv_iconst (v := 0) (pc := 127) hx hb dX5_readsPile_127 (by decide) ?_
        obtain ⟨x14, ex14, hf⟩ := bd_some hf
        refine ct_V1 (pc := 128) (As := [.int (y8 + 2), .int 1, .int 9, .int 0]) (rest := []) (W1 := bX5 cI cZ a q x14) ⟨hx, hb, hml, hown, hts⟩ hK (c_X5_reads l D cI cZ cS a q (y8 + 2) 1 9 0 x13 x14 ex14) gv_RX5_90 rfl hs_X5_reads rfl ⟨Nat.le_of_ble_eq_true rfl, Nat.le_of_ble_eq_true rfl⟩ (ci := 5) (q0 := 0) rfl rfl rfl hl.1 rfl (Nat.le_of_ble_eq_true rfl) dX5_readsPile_128 ⟨Nat.zero_le _, Nat.zero_le _⟩ hP hD hS hA (fun H locs hP hD hS => ?_)
        refine lv_aload_n (pc := 131) hx hb dX5_readsPile_131 rfl (lv_at hl 0 rfl) ?_
        refine lv_iload_n (pc := 132) hx hb dX5_readsPile_132 rfl (lv_at hl 1 rfl) ?_
        refine lv_iconst (v := 3) (pc := 133) hx hb dX5_readsPile_133 (by decide) ?_
        refine lv_iadd (pc := 134) hx hb dX5_readsPile_134 ?_
        refine lv_iconst (v := 1) (pc := 135) hx hb dX5_readsPile_135 (by decide) ?_
        refine lv_bipush (v := 99) (pc := 136) hx hb dX5_readsPile_136 (by decide) ?_
        refine lv_iconst (v := 0) (pc := 138) hx hb dX5_readsPile_138 (by decide) ?_
        obtain ⟨x15, ex15, hf⟩ := bd_some hf
        refine ct_V1 (pc := 139) (As := [.int (y8 + 3), .int 1, .int 99, .int 0]) (rest := []) (W1 := bX5 cI cZ a q x15) ⟨hx, hb, hml, hown, hts⟩ hK (c_X5_reads l D cI cZ cS a q (y8 + 3) 1 99 0 x14 x15 ex15) gv_RX5_90 rfl hs_X5_reads rfl ⟨Nat.le_of_ble_eq_true rfl, Nat.le_of_ble_eq_true rfl⟩ (ci := 5) (q0 := 0) rfl rfl rfl hl.1 rfl (Nat.le_of_ble_eq_true rfl) dX5_readsPile_139 ⟨Nat.zero_le _, Nat.zero_le _⟩ hP hD hS hA (fun H locs hP hD hS => ?_)
        refine lv_aload_n (pc := 142) hx hb dX5_readsPile_142 rfl (lv_at hl 0 rfl) ?_
        refine va_get (pc := 143) (D := D) (ci := 5) (v := .ref (q 15)) (C := RX5) (T := TX5) (N := 41) hx hb hts iX5 hown hK.1 hP 0 rfl rfl 15 (by decide) (hts _ fl_RX5_33) (fun _ h => h) rfl dX5_readsPile_143 ?_
        refine lv_iload_n (pc := 146) hx hb dX5_readsPile_146 rfl (lv_at hl 1 rfl) ?_
        refine lv_iconst (v := 4) (pc := 147) hx hb dX5_readsPile_147 (by decide) ?_
        refine lv_iadd (pc := 148) hx hb dX5_readsPile_148 ?_
        refine lv_iconst (v := 0) (pc := 149) hx hb dX5_readsPile_149 (by decide) ?_
        obtain ⟨h16, hf⟩ := ck_some hf
        obtain ⟨o17, eo17, hf⟩ := lt_some hf
        refine va_iast (pc := 150) (f := x15.2.2 15) hx hb hK.1 hP hD hS 7 0 rfl rfl h16 dX5_readsPile_150 (fun H locs hP hD hS => ?_)
        replace hP : va_P D vwCl (bX5 cI cZ a q o17) H := by rw [eo17]; exact hP
        replace hD : va_D A (bX5 cI cZ a q o17) := by rw [eo17]; exact hD
        refine lv_aload_n (pc := 151) hx hb dX5_readsPile_151 rfl (lv_at hl 0 rfl) ?_
        refine va_get (pc := 152) (D := D) (ci := 5) (v := .ref (q 15)) (C := RX5) (T := TX5) (N := 41) hx hb hts iX5 hown hK.1 hP 0 rfl rfl 15 (by decide) (hts _ fl_RX5_33) (fun _ h => h) rfl dX5_readsPile_152 ?_
        refine lv_iconst (v := 0) (pc := 155) hx hb dX5_readsPile_155 (by decide) ?_
        refine lv_dup2_11 (pc := 156) hx hb dX5_readsPile_156 rfl rfl ?_
        have h18 : vp_in 0 59 := by unfold vp_in; decide
        refine va_iald (pc := 157) (f := o17.2.2 15) hx hb hK.1 hP 7 0 rfl rfl h18 dX5_readsPile_157 ?_
        refine lv_iconst (v := 1) (pc := 158) hx hb dX5_readsPile_158 (by decide) ?_
        refine lv_iadd (pc := 159) hx hb dX5_readsPile_159 ?_
        have h19 : vp_in 0 59 := by unfold vp_in; decide
        obtain ⟨o20, eo20, hf⟩ := lt_some hf
        refine va_iast (pc := 160) (f := o17.2.2 15) hx hb hK.1 hP hD hS 7 0 rfl rfl h19 dX5_readsPile_160 (fun H locs hP hD hS => ?_)
        replace hP : va_P D vwCl (bX5 cI cZ a q o20) H := by rw [eo20]; exact hP
        replace hD : va_D A (bX5 cI cZ a q o20) := by rw [eo20]; exact hD
        obtain rfl := Option.some.inj hf
        exact W.vret hx hb hr (fun t ht hW => ⟨rfl, by rw [ht]; exact hP, hD, hS.F ht⟩) hS.2.2 dX5_readsPile_161
      replace hf := hz10
      refine lv_if_ne (pc := 62) (tgt := 104) hx hb dX5_readsPile_62 (by decide) (fun c21 => ?_) (fun c21 => ?_)
      · replace hf := im c21 hf
        refine lv_iconst (v := 0) (pc := 104) hx hb dX5_readsPile_104 (by decide) ?_
        obtain rfl := Option.some.inj hf
        exact K11 H locs ls hP hD hS (lv_sub hl [1, 0] rfl)
      · replace hf := ip c21 hf
        refine lv_aload_n (pc := 65) hx hb dX5_readsPile_65 rfl (lv_at hl 1 rfl) ?_
        refine va_get (pc := 66) (D := D) (ci := 5) (v := .int (x9.1 13)) (C := RX5) (T := TX5) (N := 41) hx hb hts iX5 hown hK.1 hP 0 rfl rfl 13 (by decide) (hts _ fl_RX5_77) (fun _ h => h) rfl dX5_readsPile_66 ?_
        refine lv_iconst (v := 0) (pc := 69) hx hb dX5_readsPile_69 (by decide) ?_
        refine lv_bipush (v := 18) (pc := 70) hx hb dX5_readsPile_70 (by decide) ?_
        obtain ⟨x22, ex22, hf⟩ := bd_some hf
        refine ct_S0 (pc := 72) (As := [.int (x9.1 13), .int 0, .int 18]) (rest := [.ref a]) ⟨hx, hb, hml, hown, hts⟩ hK (c_X5_in l D cI cZ cS (x9.1 13) 0 18 x22 ex22) gs_RX5_57 hs_X5_in rfl ⟨Nat.le_of_ble_eq_true rfl, Nat.le_of_ble_eq_true rfl⟩ hl.1 rfl (Nat.le_of_ble_eq_true rfl) dX5_readsPile_72 ⟨Nat.zero_le _, Nat.zero_le _⟩ hP hS hA (fun H locs hP hS => ?_)
        refine lv_if_eq (pc := 75) (tgt := 104) hx hb dX5_readsPile_75 (by decide) (fun c23 => ?_) (fun c23 => ?_)
        · replace hf := ip c23 hf
          refine lv_iconst (v := 0) (pc := 104) hx hb dX5_readsPile_104 (by decide) ?_
          obtain rfl := Option.some.inj hf
          exact K11 H locs ls hP hD hS (lv_sub hl [1, 0] rfl)
        · replace hf := im c23 hf
          refine lv_aload_n (pc := 78) hx hb dX5_readsPile_78 rfl (lv_at hl 1 rfl) ?_
          refine lv_aload_n (pc := 79) hx hb dX5_readsPile_79 rfl (lv_at hl 1 rfl) ?_
          refine va_get (pc := 80) (D := D) (ci := 5) (v := .ref (q 15)) (C := RX5) (T := TX5) (N := 41) hx hb hts iX5 hown hK.1 hP 0 rfl rfl 15 (by decide) (hts _ fl_RX5_33) (fun _ h => h) rfl dX5_readsPile_80 ?_
          refine lv_iload_n (pc := 83) hx hb dX5_readsPile_83 rfl (lv_at hl 0 rfl) ?_
          refine lv_iconst (v := 0) (pc := 84) hx hb dX5_readsPile_84 (by decide) ?_
          refine lv_iadd (pc := 85) hx hb dX5_readsPile_85 ?_
          obtain ⟨h24, hf⟩ := ck_some hf
          refine va_iald (pc := 86) (f := x9.2.2 15) hx hb hK.1 hP 7 0 rfl rfl h24 dX5_readsPile_86 ?_
          refine lv_aload_n (pc := 87) hx hb dX5_readsPile_87 rfl (lv_at hl 1 rfl) ?_
          refine va_get (pc := 88) (D := D) (ci := 5) (v := .int (x9.1 13)) (C := RX5) (T := TX5) (N := 41) hx hb hts iX5 hown hK.1 hP 0 rfl rfl 13 (by decide) (hts _ fl_RX5_77) (fun _ h => h) rfl dX5_readsPile_88 ?_
          refine lv_bipush (v := 9) (pc := 91) hx hb dX5_readsPile_91 (by decide) ?_
          refine lv_isub (pc := 93) hx hb dX5_readsPile_93 ?_
          obtain ⟨x25, ex25, hf⟩ := bd_some hf
          refine ct_V1 (pc := 94) (As := [.int (x9.2.2 15 ((y8 + 0) : Int32).toNatClampNeg), .int ((x9.1 13) - 9)]) (rest := [.ref a]) (W1 := bX5 cI cZ a q x9) ⟨hx, hb, hml, hown, hts⟩ hK (c_X5_isTakenByDraft l D cI cZ cS a q (x9.2.2 15 ((y8 + 0) : Int32).toNatClampNeg) ((x9.1 13) - 9) x9 x25 ex25) gv_RX5_94 rfl hs_X5_isTakenByDraft rfl ⟨Nat.le_of_ble_eq_true rfl, Nat.le_of_ble_eq_true rfl⟩ (ci := 5) (q0 := 0) rfl rfl rfl hl.1 rfl (Nat.le_of_ble_eq_true rfl) dX5_readsPile_94 ⟨Nat.zero_le _, Nat.zero_le _⟩ hP hD hS hA (fun H locs hP hD hS => ?_)
          refine lv_if_ne (pc := 97) (tgt := 104) hx hb dX5_readsPile_97 (by decide) (fun c26 => ?_) (fun c26 => ?_)
          · replace hf := im c26 hf
            refine lv_iconst (v := 0) (pc := 104) hx hb dX5_readsPile_104 (by decide) ?_
            obtain rfl := Option.some.inj hf
            exact K11 H locs ls hP hD hS (lv_sub hl [1, 0] rfl)
          · replace hf := ip c26 hf
            refine lv_iconst (v := 1) (pc := 100) hx hb dX5_readsPile_100 (by decide) ?_
            refine lv_goto (pc := 101) (tgt := 105) hx hb dX5_readsPile_101 (by decide) ?_
            obtain rfl := Option.some.inj hf
            exact K11 H locs ls hP hD hS (lv_sub hl [1, 0] rfl)
    · replace hf := im c5 hf
      obtain rfl := Option.some.inj hf
      exact W.vret hx hb hr (fun t ht hW => ⟨rfl, by rw [ht]; exact hP, hD, hS.F ht⟩) hS.2.2 dX5_readsPile_29
  replace hf := hz2
  refine lv_icmp_ge (pc := 9) (tgt := 16) hx hb dX5_readsPile_9 (by decide) (fun c27 => ?_) (fun c27 => ?_)
  · replace hf := ip c27 hf
    refine lv_iconst (v := 0) (pc := 16) hx hb dX5_readsPile_16 (by decide) ?_
    obtain rfl := Option.some.inj hf
    exact K3 H locs ls hP hD hS (lv_sub hl [0] rfl)
  · replace hf := im c27 hf
    refine lv_iconst (v := 1) (pc := 12) hx hb dX5_readsPile_12 (by decide) ?_
    refine lv_goto (pc := 13) (tgt := 17) hx hb dX5_readsPile_13 (by decide) ?_
    obtain rfl := Option.some.inj hf
    exact K3 H locs ls hP hD hS (lv_sub hl [0] rfl)
def f_X5_readsColumn (om : OS) : Option OS := Option.bind (if 5 ≤ (om.2.2 15 (41 : Int32).toNatClampNeg) then some 0 else some 1 : Option Int32) fun z2 => Option.bind (f_X5_due z2 om) fun x4 => if (x4.1 14) = (-9) then Option.bind (f_X5_next x4) fun x6 => lt (42 + (3 * (x6.2.2 15 (41 : Int32).toNatClampNeg))) fun y8 => Option.bind (f_X5_reads (y8 + 0) 0 18 9 x6) fun x9 => Option.bind (f_X5_reads (y8 + 1) 0 18 9 x9) fun x10 => Option.bind (f_X5_reads (y8 + 2) 0 99 0 x10) fun x11 => lt (sA x11 15 ((41 : Int32).toNatClampNeg) ((x11.2.2 15 (41 : Int32).toNatClampNeg) + 1)) fun o14 => some o14 else some x4
set_option maxHeartbeats 4000000 in
set_option maxRecDepth 100000 in
theorem c_X5_readsColumn (l : Launch) (D : va_G) (cI cZ cS : ClassId) (a : Nat) (q : Nat → Nat) (om : OS) (x : OS) (hf : f_X5_readsColumn om = some x) : Ct l yX5_readsColumn cX5_readsColumn 2 none 4 87 D cI cZ cS [.ref a] (bX5 cI cZ a q om) none (bX5 cI cZ a q x) := by
  intro sz
  refine Met.ofW (cc := cX5_readsColumn) (maxL := 2) (ret := none) (by decide +kernel) rfl ?_
  intro p e s m args below meth c s₁ B hml hv
  obtain ⟨rfl, hsz, hP, hK, hD0⟩ := hv
  have hx := B.exec
  have hb := B.bytes
  have hr := B.returns
  have hts0 := atoms_spec (ws := .code yX5_readsColumn cX5_readsColumn 2 none :: TB) B.pre
  have hts := fun w (h : w ∈ TB) => hts0 w (List.mem_cons_of_mem _ h)
  have hown : s.vm.findClass RX5 = some m.cls := findClass_of_methodNamed B.named
  have hlocks := B.notSynchronized
  subst hsz
  have hD := hD0.self (sz := s.heap.size)
  generalize hAe : va_A (bX5 cI cZ a q om) s.heap.size = A at hD ⊢
  have hA : ∀ q : Nat, s.heap.size ≤ q → A q := fun q h => by rw [← hAe]; exact Or.inr h
  have hS : va_S A s.heap s.heap [] := va_S.rf
  obtain ⟨H, hH⟩ : ∃ H, H = s.heap := ⟨_, rfl⟩
  rw [← hH] at hP
  have hS : va_S A s.heap H [] := by rw [hH]; exact hS
  have hl := lv_entry ([.ref a]) (n := 2) (Nat.le_of_ble_eq_true rfl)
  rw [lg_entry_eq]
  generalize (lg_sl ([.ref a]) ++ List.replicate (2 - (lg_sl ([.ref a])).length) Slot.unset).toArray = ls at hl ⊢
  have hl : lv_has ls 2 [(0, .ref a)] := hl
  refine W_heap hH ?_
  obtain ⟨locs, hlo⟩ : ∃ locs : List Loc, locs = [] := ⟨_, rfl⟩
  rw [← hlo] at hS ⊢
  unfold f_X5_readsColumn at hf
  refine lv_aload_n (pc := 0) hx hb dX5_readsColumn_0 rfl (lv_at hl 0 rfl) ?_
  refine lv_aload_n (pc := 1) hx hb dX5_readsColumn_1 rfl (lv_at hl 0 rfl) ?_
  refine va_get (pc := 2) (D := D) (ci := 5) (v := .ref (q 15)) (C := RX5) (T := TX5) (N := 41) hx hb hts iX5 hown hK.1 hP 0 rfl rfl 15 (by decide) (hts _ fl_RX5_33) (fun _ h => h) rfl dX5_readsColumn_2 ?_
  refine lv_bipush (v := 41) (pc := 5) hx hb dX5_readsColumn_5 (by decide) ?_
  have h1 : vp_in 41 59 := by unfold vp_in; decide
  refine va_iald (pc := 7) (f := om.2.2 15) hx hb hK.1 hP 7 0 rfl rfl h1 dX5_readsColumn_7 ?_
  refine lv_iconst (v := 5) (pc := 8) hx hb dX5_readsColumn_8 (by decide) ?_
  obtain ⟨z2, hz2, hf⟩ := bd_some hf
  have K3 : ∀ (H : Heap) (locs : List Loc) (ls : Array Slot), va_P D vwCl (bX5 cI cZ a q om) H → va_D A (bX5 cI cZ a q om) → va_S A s.heap H locs → lv_has ls 2 [(0, .ref a)] → GW l yX5_readsColumn cX5_readsColumn 2 none 4 87 D [.ref a] none (bX5 cI cZ a q x) A p e s m below meth c H locs (F0 m 17 ls [.int z2, .ref a]) := by
    intro H locs ls hP hD hS hl
    obtain ⟨x4, ex4, hf⟩ := bd_some hf
    refine ct_V1 (pc := 17) (As := [.int z2]) (rest := []) (W1 := bX5 cI cZ a q x4) ⟨hx, hb, hml, hown, hts⟩ hK (c_X5_due l D cI cZ cS a q z2 om x4 ex4) gv_RX5_83 rfl hs_X5_due rfl ⟨Nat.le_of_ble_eq_true rfl, Nat.le_of_ble_eq_true rfl⟩ (ci := 5) (q0 := 0) rfl rfl rfl hl.1 rfl (Nat.le_of_ble_eq_true rfl) dX5_readsColumn_17 ⟨Nat.zero_le _, Nat.zero_le _⟩ hP hD hS hA (fun H locs hP hD hS => ?_)
    refine lv_aload_n (pc := 20) hx hb dX5_readsColumn_20 rfl (lv_at hl 0 rfl) ?_
    refine va_get (pc := 21) (D := D) (ci := 5) (v := .int (x4.1 14)) (C := RX5) (T := TX5) (N := 41) hx hb hts iX5 hown hK.1 hP 0 rfl rfl 14 (by decide) (hts _ fl_RX5_80) (fun _ h => h) rfl dX5_readsColumn_21 ?_
    refine lv_bipush (v := -9) (pc := 24) hx hb dX5_readsColumn_24 (by decide) ?_
    refine lv_icmp_eq (pc := 26) (tgt := 30) hx hb dX5_readsColumn_26 (by decide) (fun c5 => ?_) (fun c5 => ?_)
    · replace hf := ip c5 hf
      refine lv_aload_n (pc := 30) hx hb dX5_readsColumn_30 rfl (lv_at hl 0 rfl) ?_
      obtain ⟨x6, ex6, hf⟩ := bd_some hf
      refine ct_V1 (pc := 31) (As := []) (rest := []) (W1 := bX5 cI cZ a q x6) ⟨hx, hb, hml, hown, hts⟩ hK (c_X5_next l D cI cZ cS a q x4 x6 ex6) gv_RX5_87 rfl hs_X5_next rfl ⟨Nat.le_of_ble_eq_true rfl, Nat.le_of_ble_eq_true rfl⟩ (ci := 5) (q0 := 0) rfl rfl rfl hl.1 rfl (Nat.le_of_ble_eq_true rfl) dX5_readsColumn_31 ⟨Nat.zero_le _, Nat.zero_le _⟩ hP hD hS hA (fun H locs hP hD hS => ?_)
      refine lv_bipush (v := 42) (pc := 34) hx hb dX5_readsColumn_34 (by decide) ?_
      refine lv_iconst (v := 3) (pc := 36) hx hb dX5_readsColumn_36 (by decide) ?_
      refine lv_aload_n (pc := 37) hx hb dX5_readsColumn_37 rfl (lv_at hl 0 rfl) ?_
      refine va_get (pc := 38) (D := D) (ci := 5) (v := .ref (q 15)) (C := RX5) (T := TX5) (N := 41) hx hb hts iX5 hown hK.1 hP 0 rfl rfl 15 (by decide) (hts _ fl_RX5_33) (fun _ h => h) rfl dX5_readsColumn_38 ?_
      refine lv_bipush (v := 41) (pc := 41) hx hb dX5_readsColumn_41 (by decide) ?_
      have h7 : vp_in 41 59 := by unfold vp_in; decide
      refine va_iald (pc := 43) (f := x6.2.2 15) hx hb hK.1 hP 7 0 rfl rfl h7 dX5_readsColumn_43 ?_
      refine lv_imul (pc := 44) hx hb dX5_readsColumn_44 ?_
      refine lv_iadd (pc := 45) hx hb dX5_readsColumn_45 ?_
      obtain ⟨y8, ey8, hf⟩ := lt_some hf
      refine lv_nmI ey8 ?_
      refine lv_istore_n (lv' := [(1, .int y8), (0, .ref a)]) (pc := 46) hx hb dX5_readsColumn_46 rfl hl (by decide) rfl (fun ls hl => ?_)
      refine lv_aload_n (pc := 47) hx hb dX5_readsColumn_47 rfl (lv_at hl 1 rfl) ?_
      refine lv_iload_n (pc := 48) hx hb dX5_readsColumn_48 rfl (lv_at hl 0 rfl) ?_
      refine lv_iconst (v := 0) (pc := 49) hx hb dX5_readsColumn_49 (by decide) ?_
      refine lv_iadd (pc := 50) hx hb dX5_readsColumn_50 ?_
      refine lv_iconst (v := 0) (pc := 51) hx hb dX5_readsColumn_51 (by decide) ?_
      refine lv_bipush (v := 18) (pc := 52) hx hb dX5_readsColumn_52 (by decide) ?_
      refine lv_bipush (v := 9) (pc := 54) hx hb dX5_readsColumn_54 (by decide) ?_
      obtain ⟨x9, ex9, hf⟩ := bd_some hf
      refine ct_V1 (pc := 56) (As := [.int (y8 + 0), .int 0, .int 18, .int 9]) (rest := []) (W1 := bX5 cI cZ a q x9) ⟨hx, hb, hml, hown, hts⟩ hK (c_X5_reads l D cI cZ cS a q (y8 + 0) 0 18 9 x6 x9 ex9) gv_RX5_90 rfl hs_X5_reads rfl ⟨Nat.le_of_ble_eq_true rfl, Nat.le_of_ble_eq_true rfl⟩ (ci := 5) (q0 := 0) rfl rfl rfl hl.1 rfl (Nat.le_of_ble_eq_true rfl) dX5_readsColumn_56 ⟨Nat.zero_le _, Nat.zero_le _⟩ hP hD hS hA (fun H locs hP hD hS => ?_)
      refine lv_aload_n (pc := 59) hx hb dX5_readsColumn_59 rfl (lv_at hl 1 rfl) ?_
      refine lv_iload_n (pc := 60) hx hb dX5_readsColumn_60 rfl (lv_at hl 0 rfl) ?_
      refine lv_iconst (v := 1) (pc := 61) hx hb dX5_readsColumn_61 (by decide) ?_
      refine lv_iadd (pc := 62) hx hb dX5_readsColumn_62 ?_
      refine lv_iconst (v := 0) (pc := 63) hx hb dX5_readsColumn_63 (by decide) ?_
      refine lv_bipush (v := 18) (pc := 64) hx hb dX5_readsColumn_64 (by decide) ?_
      refine lv_bipush (v := 9) (pc := 66) hx hb dX5_readsColumn_66 (by decide) ?_
      obtain ⟨x10, ex10, hf⟩ := bd_some hf
      refine ct_V1 (pc := 68) (As := [.int (y8 + 1), .int 0, .int 18, .int 9]) (rest := []) (W1 := bX5 cI cZ a q x10) ⟨hx, hb, hml, hown, hts⟩ hK (c_X5_reads l D cI cZ cS a q (y8 + 1) 0 18 9 x9 x10 ex10) gv_RX5_90 rfl hs_X5_reads rfl ⟨Nat.le_of_ble_eq_true rfl, Nat.le_of_ble_eq_true rfl⟩ (ci := 5) (q0 := 0) rfl rfl rfl hl.1 rfl (Nat.le_of_ble_eq_true rfl) dX5_readsColumn_68 ⟨Nat.zero_le _, Nat.zero_le _⟩ hP hD hS hA (fun H locs hP hD hS => ?_)
      refine lv_aload_n (pc := 71) hx hb dX5_readsColumn_71 rfl (lv_at hl 1 rfl) ?_
      refine lv_iload_n (pc := 72) hx hb dX5_readsColumn_72 rfl (lv_at hl 0 rfl) ?_
      refine lv_iconst (v := 2) (pc := 73) hx hb dX5_readsColumn_73 (by decide) ?_
      refine lv_iadd (pc := 74) hx hb dX5_readsColumn_74 ?_
      refine lv_iconst (v := 0) (pc := 75) hx hb dX5_readsColumn_75 (by decide) ?_
      refine lv_bipush (v := 99) (pc := 76) hx hb dX5_readsColumn_76 (by decide) ?_
      refine lv_iconst (v := 0) (pc := 78) hx hb dX5_readsColumn_78 (by decide) ?_
      obtain ⟨x11, ex11, hf⟩ := bd_some hf
      refine ct_V1 (pc := 79) (As := [.int (y8 + 2), .int 0, .int 99, .int 0]) (rest := []) (W1 := bX5 cI cZ a q x11) ⟨hx, hb, hml, hown, hts⟩ hK (c_X5_reads l D cI cZ cS a q (y8 + 2) 0 99 0 x10 x11 ex11) gv_RX5_90 rfl hs_X5_reads rfl ⟨Nat.le_of_ble_eq_true rfl, Nat.le_of_ble_eq_true rfl⟩ (ci := 5) (q0 := 0) rfl rfl rfl hl.1 rfl (Nat.le_of_ble_eq_true rfl) dX5_readsColumn_79 ⟨Nat.zero_le _, Nat.zero_le _⟩ hP hD hS hA (fun H locs hP hD hS => ?_)
      refine lv_aload_n (pc := 82) hx hb dX5_readsColumn_82 rfl (lv_at hl 1 rfl) ?_
      refine va_get (pc := 83) (D := D) (ci := 5) (v := .ref (q 15)) (C := RX5) (T := TX5) (N := 41) hx hb hts iX5 hown hK.1 hP 0 rfl rfl 15 (by decide) (hts _ fl_RX5_33) (fun _ h => h) rfl dX5_readsColumn_83 ?_
      refine lv_bipush (v := 41) (pc := 86) hx hb dX5_readsColumn_86 (by decide) ?_
      refine lv_dup2_11 (pc := 88) hx hb dX5_readsColumn_88 rfl rfl ?_
      have h12 : vp_in 41 59 := by unfold vp_in; decide
      refine va_iald (pc := 89) (f := x11.2.2 15) hx hb hK.1 hP 7 0 rfl rfl h12 dX5_readsColumn_89 ?_
      refine lv_iconst (v := 1) (pc := 90) hx hb dX5_readsColumn_90 (by decide) ?_
      refine lv_iadd (pc := 91) hx hb dX5_readsColumn_91 ?_
      have h13 : vp_in 41 59 := by unfold vp_in; decide
      obtain ⟨o14, eo14, hf⟩ := lt_some hf
      refine va_iast (pc := 92) (f := x11.2.2 15) hx hb hK.1 hP hD hS 7 0 rfl rfl h13 dX5_readsColumn_92 (fun H locs hP hD hS => ?_)
      replace hP : va_P D vwCl (bX5 cI cZ a q o14) H := by rw [eo14]; exact hP
      replace hD : va_D A (bX5 cI cZ a q o14) := by rw [eo14]; exact hD
      obtain rfl := Option.some.inj hf
      exact W.vret hx hb hr (fun t ht hW => ⟨rfl, by rw [ht]; exact hP, hD, hS.F ht⟩) hS.2.2 dX5_readsColumn_93
    · replace hf := im c5 hf
      obtain rfl := Option.some.inj hf
      exact W.vret hx hb hr (fun t ht hW => ⟨rfl, by rw [ht]; exact hP, hD, hS.F ht⟩) hS.2.2 dX5_readsColumn_29
  replace hf := hz2
  refine lv_icmp_ge (pc := 9) (tgt := 16) hx hb dX5_readsColumn_9 (by decide) (fun c15 => ?_) (fun c15 => ?_)
  · replace hf := ip c15 hf
    refine lv_iconst (v := 0) (pc := 16) hx hb dX5_readsColumn_16 (by decide) ?_
    obtain rfl := Option.some.inj hf
    exact K3 H locs ls hP hD hS (lv_sub hl [0] rfl)
  · replace hf := im c15 hf
    refine lv_iconst (v := 1) (pc := 12) hx hb dX5_readsColumn_12 (by decide) ?_
    refine lv_goto (pc := 13) (tgt := 17) hx hb dX5_readsColumn_13 (by decide) ?_
    obtain rfl := Option.some.inj hf
    exact K3 H locs ls hP hD hS (lv_sub hl [0] rfl)
def f_X5_readsWind (om : OS) : Option OS := Option.bind (if (om.1 16) = 0 then some 1 else some 0 : Option Int32) fun z1 => Option.bind (f_X5_due z1 om) fun x3 => if (x3.1 14) = (-9) then Option.bind (f_X5_next x3) fun x5 => lt (sI x5 16 1) fun o6 => Option.bind (f_X5_reads 57 0 198 99 o6) fun x7 => Option.bind (f_X5_reads 58 0 198 99 x7) fun x8 => some x8 else some x3
set_option maxHeartbeats 4000000 in
set_option maxRecDepth 100000 in
theorem c_X5_readsWind (l : Launch) (D : va_G) (cI cZ cS : ClassId) (a : Nat) (q : Nat → Nat) (om : OS) (x : OS) (hf : f_X5_readsWind om = some x) : Ct l yX5_readsWind cX5_readsWind 1 none 4 87 D cI cZ cS [.ref a] (bX5 cI cZ a q om) none (bX5 cI cZ a q x) := by
  intro sz
  refine Met.ofW (cc := cX5_readsWind) (maxL := 1) (ret := none) (by decide +kernel) rfl ?_
  intro p e s m args below meth c s₁ B hml hv
  obtain ⟨rfl, hsz, hP, hK, hD0⟩ := hv
  have hx := B.exec
  have hb := B.bytes
  have hr := B.returns
  have hts0 := atoms_spec (ws := .code yX5_readsWind cX5_readsWind 1 none :: TB) B.pre
  have hts := fun w (h : w ∈ TB) => hts0 w (List.mem_cons_of_mem _ h)
  have hown : s.vm.findClass RX5 = some m.cls := findClass_of_methodNamed B.named
  have hlocks := B.notSynchronized
  subst hsz
  have hD := hD0.self (sz := s.heap.size)
  generalize hAe : va_A (bX5 cI cZ a q om) s.heap.size = A at hD ⊢
  have hA : ∀ q : Nat, s.heap.size ≤ q → A q := fun q h => by rw [← hAe]; exact Or.inr h
  have hS : va_S A s.heap s.heap [] := va_S.rf
  obtain ⟨H, hH⟩ : ∃ H, H = s.heap := ⟨_, rfl⟩
  rw [← hH] at hP
  have hS : va_S A s.heap H [] := by rw [hH]; exact hS
  have hl := lv_entry ([.ref a]) (n := 1) (Nat.le_of_ble_eq_true rfl)
  rw [lg_entry_eq]
  generalize (lg_sl ([.ref a]) ++ List.replicate (1 - (lg_sl ([.ref a])).length) Slot.unset).toArray = ls at hl ⊢
  have hl : lv_has ls 1 [(0, .ref a)] := hl
  refine W_heap hH ?_
  obtain ⟨locs, hlo⟩ : ∃ locs : List Loc, locs = [] := ⟨_, rfl⟩
  rw [← hlo] at hS ⊢
  unfold f_X5_readsWind at hf
  refine lv_aload_n (pc := 0) hx hb dX5_readsWind_0 rfl (lv_at hl 0 rfl) ?_
  refine lv_aload_n (pc := 1) hx hb dX5_readsWind_1 rfl (lv_at hl 0 rfl) ?_
  refine va_get (pc := 2) (D := D) (ci := 5) (v := .int (om.1 16)) (C := RX5) (T := TX5) (N := 41) hx hb hts iX5 hown hK.1 hP 0 rfl rfl 16 (by decide) (hts _ fl_RX5_98) (fun _ h => h) rfl dX5_readsWind_2 ?_
  obtain ⟨z1, hz1, hf⟩ := bd_some hf
  have K2 : ∀ (H : Heap) (locs : List Loc) (ls : Array Slot), va_P D vwCl (bX5 cI cZ a q om) H → va_D A (bX5 cI cZ a q om) → va_S A s.heap H locs → lv_has ls 1 [(0, .ref a)] → GW l yX5_readsWind cX5_readsWind 1 none 4 87 D [.ref a] none (bX5 cI cZ a q x) A p e s m below meth c H locs (F0 m 13 ls [.int z1, .ref a]) := by
    intro H locs ls hP hD hS hl
    obtain ⟨x3, ex3, hf⟩ := bd_some hf
    refine ct_V1 (pc := 13) (As := [.int z1]) (rest := []) (W1 := bX5 cI cZ a q x3) ⟨hx, hb, hml, hown, hts⟩ hK (c_X5_due l D cI cZ cS a q z1 om x3 ex3) gv_RX5_83 rfl hs_X5_due rfl ⟨Nat.le_of_ble_eq_true rfl, Nat.le_of_ble_eq_true rfl⟩ (ci := 5) (q0 := 0) rfl rfl rfl hl.1 rfl (Nat.le_of_ble_eq_true rfl) dX5_readsWind_13 ⟨Nat.zero_le _, Nat.zero_le _⟩ hP hD hS hA (fun H locs hP hD hS => ?_)
    refine lv_aload_n (pc := 16) hx hb dX5_readsWind_16 rfl (lv_at hl 0 rfl) ?_
    refine va_get (pc := 17) (D := D) (ci := 5) (v := .int (x3.1 14)) (C := RX5) (T := TX5) (N := 41) hx hb hts iX5 hown hK.1 hP 0 rfl rfl 14 (by decide) (hts _ fl_RX5_80) (fun _ h => h) rfl dX5_readsWind_17 ?_
    refine lv_bipush (v := -9) (pc := 20) hx hb dX5_readsWind_20 (by decide) ?_
    refine lv_icmp_eq (pc := 22) (tgt := 26) hx hb dX5_readsWind_22 (by decide) (fun c4 => ?_) (fun c4 => ?_)
    · replace hf := ip c4 hf
      refine lv_aload_n (pc := 26) hx hb dX5_readsWind_26 rfl (lv_at hl 0 rfl) ?_
      obtain ⟨x5, ex5, hf⟩ := bd_some hf
      refine ct_V1 (pc := 27) (As := []) (rest := []) (W1 := bX5 cI cZ a q x5) ⟨hx, hb, hml, hown, hts⟩ hK (c_X5_next l D cI cZ cS a q x3 x5 ex5) gv_RX5_87 rfl hs_X5_next rfl ⟨Nat.le_of_ble_eq_true rfl, Nat.le_of_ble_eq_true rfl⟩ (ci := 5) (q0 := 0) rfl rfl rfl hl.1 rfl (Nat.le_of_ble_eq_true rfl) dX5_readsWind_27 ⟨Nat.zero_le _, Nat.zero_le _⟩ hP hD hS hA (fun H locs hP hD hS => ?_)
      refine lv_aload_n (pc := 30) hx hb dX5_readsWind_30 rfl (lv_at hl 0 rfl) ?_
      refine lv_iconst (v := 1) (pc := 31) hx hb dX5_readsWind_31 (by decide) ?_
      obtain ⟨o6, eo6, hf⟩ := lt_some hf
      refine va_put (pc := 32) (D := D) (ci := 5) (v := .int 1) (ty := .boolean) (C := RX5) (T := TX5) (N := 41) hx hb hts iX5 tyX5 tyX5_ok nmX5 hown hK.1 hP hD hS 0 rfl rfl 16 (by decide) (hts _ fl_RX5_98) (fun _ h => h) rfl (tyX5_ok 16 (by decide)) rfl rfl (Nat.le_of_ble_eq_true rfl) dX5_readsWind_32 (fun H locs hP hD hS => ?_)
      replace hP : va_P D vwCl (bX5 cI cZ a q o6) H := by rw [eo6]; exact hP
      replace hD : va_D A (bX5 cI cZ a q o6) := by rw [eo6]; exact hD
      refine lv_aload_n (pc := 35) hx hb dX5_readsWind_35 rfl (lv_at hl 0 rfl) ?_
      refine lv_bipush (v := 57) (pc := 36) hx hb dX5_readsWind_36 (by decide) ?_
      refine lv_iconst (v := 0) (pc := 38) hx hb dX5_readsWind_38 (by decide) ?_
      refine lv_sipush (v := 198) (pc := 39) hx hb dX5_readsWind_39 (by decide) ?_
      refine lv_bipush (v := 99) (pc := 42) hx hb dX5_readsWind_42 (by decide) ?_
      obtain ⟨x7, ex7, hf⟩ := bd_some hf
      refine ct_V1 (pc := 44) (As := [.int 57, .int 0, .int 198, .int 99]) (rest := []) (W1 := bX5 cI cZ a q x7) ⟨hx, hb, hml, hown, hts⟩ hK (c_X5_reads l D cI cZ cS a q 57 0 198 99 o6 x7 ex7) gv_RX5_90 rfl hs_X5_reads rfl ⟨Nat.le_of_ble_eq_true rfl, Nat.le_of_ble_eq_true rfl⟩ (ci := 5) (q0 := 0) rfl rfl rfl hl.1 rfl (Nat.le_of_ble_eq_true rfl) dX5_readsWind_44 ⟨Nat.zero_le _, Nat.zero_le _⟩ hP hD hS hA (fun H locs hP hD hS => ?_)
      refine lv_aload_n (pc := 47) hx hb dX5_readsWind_47 rfl (lv_at hl 0 rfl) ?_
      refine lv_bipush (v := 58) (pc := 48) hx hb dX5_readsWind_48 (by decide) ?_
      refine lv_iconst (v := 0) (pc := 50) hx hb dX5_readsWind_50 (by decide) ?_
      refine lv_sipush (v := 198) (pc := 51) hx hb dX5_readsWind_51 (by decide) ?_
      refine lv_bipush (v := 99) (pc := 54) hx hb dX5_readsWind_54 (by decide) ?_
      obtain ⟨x8, ex8, hf⟩ := bd_some hf
      refine ct_V1 (pc := 56) (As := [.int 58, .int 0, .int 198, .int 99]) (rest := []) (W1 := bX5 cI cZ a q x8) ⟨hx, hb, hml, hown, hts⟩ hK (c_X5_reads l D cI cZ cS a q 58 0 198 99 x7 x8 ex8) gv_RX5_90 rfl hs_X5_reads rfl ⟨Nat.le_of_ble_eq_true rfl, Nat.le_of_ble_eq_true rfl⟩ (ci := 5) (q0 := 0) rfl rfl rfl hl.1 rfl (Nat.le_of_ble_eq_true rfl) dX5_readsWind_56 ⟨Nat.zero_le _, Nat.zero_le _⟩ hP hD hS hA (fun H locs hP hD hS => ?_)
      obtain rfl := Option.some.inj hf
      exact W.vret hx hb hr (fun t ht hW => ⟨rfl, by rw [ht]; exact hP, hD, hS.F ht⟩) hS.2.2 dX5_readsWind_59
    · replace hf := im c4 hf
      obtain rfl := Option.some.inj hf
      exact W.vret hx hb hr (fun t ht hW => ⟨rfl, by rw [ht]; exact hP, hD, hS.F ht⟩) hS.2.2 dX5_readsWind_25
  replace hf := hz1
  refine lv_if_ne (pc := 5) (tgt := 12) hx hb dX5_readsWind_5 (by decide) (fun c9 => ?_) (fun c9 => ?_)
  · replace hf := im c9 hf
    refine lv_iconst (v := 0) (pc := 12) hx hb dX5_readsWind_12 (by decide) ?_
    obtain rfl := Option.some.inj hf
    exact K2 H locs ls hP hD hS (lv_sub hl [0] rfl)
  · replace hf := ip c9 hf
    refine lv_iconst (v := 1) (pc := 8) hx hb dX5_readsWind_8 (by decide) ?_
    refine lv_goto (pc := 9) (tgt := 13) hx hb dX5_readsWind_9 (by decide) ?_
    obtain rfl := Option.some.inj hf
    exact K2 H locs ls hP hD hS (lv_sub hl [0] rfl)
def lp_X5_tells_169 : Nat → Int32 → OS → Option (Int32 × OS)
  | 0, _, _ => none
  | n + 1, v2, w_M => if 59 ≤ v2 then some (v2, w_M) else ck v2 59 (ck v2 59 (lt (sA w_M 0 ((v2 : Int32).toNatClampNeg) (w_M.2.2 15 (v2 : Int32).toNatClampNeg)) fun o26 => lp_X5_tells_169 n (v2 + 1) o26))
def lp_X5_tells_43 : Nat → Int32 → OS → Option (Int32 × OS)
  | 0, _, _ => none
  | n + 1, v1, w_M => if (w_M.1 14) = (-9) then if (w_M.1 12) = (-1) then some (v1, w_M) else Option.bind (if (w_M.1 12) = 112 then Option.bind (f_X5_readsPile w_M) fun x43 => some x43 else if (w_M.1 12) = 99 then Option.bind (f_X5_readsColumn w_M) fun x42 => some x42 else if (w_M.1 12) = 119 then Option.bind (f_X5_readsWind w_M) fun x41 => some x41 else Option.bind (f_X5_due 0 w_M) fun x40 => some x40 : Option OS) fun z29 => Option.bind (if (z29.1 12) = 59 then some 1 else some 0 : Option Int32) fun z31 => Option.bind (f_X5_due z31 z29) fun x33 => if (x33.1 14) = (-9) then Option.bind (f_X5_next x33) fun x35 => lp_X5_tells_43 n (v1 + 1) x35 else lp_X5_tells_43 n (v1 + 1) x33 else some (v1, w_M)
def lp_X5_tells_2 : Nat → Int32 → OS → Option (Int32 × OS)
  | 0, _, _ => none
  | n + 1, v1, w_M => if 59 ≤ v1 then some (v1, w_M) else ck v1 59 (lt (sA w_M 15 ((v1 : Int32).toNatClampNeg) 0) fun o46 => lp_X5_tells_2 n (v1 + 1) o46)
def f_X5_tells (om : OS) : Option (Int32 × OS) := Option.bind (lp_X5_tells_2 1000 0 om) fun z1 => lt (sI z1.2 10 0) fun o4 => lt (sI o4 14 (-9)) fun o5 => lt (sI o5 16 0) fun o6 => Option.bind (f_X5_next o6) fun x7 => Option.bind (lp_X5_tells_43 1000 0 x7) fun z8 => if (z8.2.1 14) = (-9) then Option.bind (lp_X5_tells_169 1000 0 z8.2) fun z12 => lt (sI z12.2 2 0) fun o15 => lt (sI o15 5 10) fun o16 => lt (sI o16 7 0) fun o17 => lt (sA o17 4 ((0 : Int32).toNatClampNeg) (vp_nar .boolean 0)) fun o19 => lt (sA o19 4 ((1 : Int32).toNatClampNeg) (vp_nar .boolean 0)) fun o21 => lt (sI o21 9 0) fun o22 => some (z8.1, o22) else some (((-10) - (z8.2.1 14)), z8.2)
set_option maxHeartbeats 4000000 in
set_option maxRecDepth 100000 in
theorem c_X5_tells (l : Launch) (D : va_G) (cI cZ cS : ClassId) (a : Nat) (q : Nat → Nat) (om : OS) (x : (Int32 × OS)) (hf : f_X5_tells om = some x) : Ct l yX5_tells cX5_tells 3 (some .int) 5 108 D cI cZ cS [.ref a] (bX5 cI cZ a q om) (some (.int x.1)) (bX5 cI cZ a q x.2) := by
  intro sz
  refine Met.ofW (cc := cX5_tells) (maxL := 3) (ret := (some .int)) (by decide +kernel) rfl ?_
  intro p e s m args below meth c s₁ B hml hv
  obtain ⟨rfl, hsz, hP, hK, hD0⟩ := hv
  have hx := B.exec
  have hb := B.bytes
  have hr := B.returns
  have hts0 := atoms_spec (ws := .code yX5_tells cX5_tells 3 (some .int) :: TB) B.pre
  have hts := fun w (h : w ∈ TB) => hts0 w (List.mem_cons_of_mem _ h)
  have hown : s.vm.findClass RX5 = some m.cls := findClass_of_methodNamed B.named
  have hlocks := B.notSynchronized
  subst hsz
  have hD := hD0.self (sz := s.heap.size)
  generalize hAe : va_A (bX5 cI cZ a q om) s.heap.size = A at hD ⊢
  have hA : ∀ q : Nat, s.heap.size ≤ q → A q := fun q h => by rw [← hAe]; exact Or.inr h
  have hS : va_S A s.heap s.heap [] := va_S.rf
  obtain ⟨H, hH⟩ : ∃ H, H = s.heap := ⟨_, rfl⟩
  rw [← hH] at hP
  have hS : va_S A s.heap H [] := by rw [hH]; exact hS
  have hl := lv_entry ([.ref a]) (n := 3) (Nat.le_of_ble_eq_true rfl)
  rw [lg_entry_eq]
  generalize (lg_sl ([.ref a]) ++ List.replicate (3 - (lg_sl ([.ref a])).length) Slot.unset).toArray = ls at hl ⊢
  have hl : lv_has ls 3 [(0, .ref a)] := hl
  refine W_heap hH ?_
  obtain ⟨locs, hlo⟩ : ∃ locs : List Loc, locs = [] := ⟨_, rfl⟩
  rw [← hlo] at hS ⊢
  unfold f_X5_tells at hf
  refine lv_iconst (v := 0) (pc := 0) hx hb dX5_tells_0 (by decide) ?_
  refine lv_istore_n (lv' := [(1, .int 0), (0, .ref a)]) (pc := 1) hx hb dX5_tells_1 rfl hl (by decide) rfl (fun ls hl => ?_)
  obtain ⟨z1, hz1, hf⟩ := bd_some hf
  have hfz1 := hf
  clear hf
  have K2 : ∀ (H : Heap) (locs : List Loc) (ls : Array Slot), va_P D vwCl (bX5 cI cZ a q z1.2) H → va_D A (bX5 cI cZ a q z1.2) → va_S A s.heap H locs → lv_has ls 3 [(0, .ref a), (1, .int z1.1)] → GW l yX5_tells cX5_tells 3 (some .int) 5 108 D [.ref a] (some (.int x.1)) (bX5 cI cZ a q x.2) A p e s m below meth c H locs (F0 m 21 ls []) := by
    intro H locs ls hP hD hS hl
    have hf := hfz1
    refine lv_aload_n (pc := 21) hx hb dX5_tells_21 rfl (lv_at hl 0 rfl) ?_
    refine lv_iconst (v := 0) (pc := 22) hx hb dX5_tells_22 (by decide) ?_
    obtain ⟨o4, eo4, hf⟩ := lt_some hf
    refine va_put (pc := 23) (D := D) (ci := 5) (v := .int 0) (ty := .int) (C := RX5) (T := TX5) (N := 41) hx hb hts iX5 tyX5 tyX5_ok nmX5 hown hK.1 hP hD hS 0 rfl rfl 10 (by decide) (hts _ fl_RX5_64) (fun _ h => h) rfl (tyX5_ok 10 (by decide)) rfl rfl (Nat.le_of_ble_eq_true rfl) dX5_tells_23 (fun H locs hP hD hS => ?_)
    replace hP : va_P D vwCl (bX5 cI cZ a q o4) H := by rw [eo4]; exact hP
    replace hD : va_D A (bX5 cI cZ a q o4) := by rw [eo4]; exact hD
    refine lv_aload_n (pc := 26) hx hb dX5_tells_26 rfl (lv_at hl 0 rfl) ?_
    refine lv_bipush (v := -9) (pc := 27) hx hb dX5_tells_27 (by decide) ?_
    obtain ⟨o5, eo5, hf⟩ := lt_some hf
    refine va_put (pc := 29) (D := D) (ci := 5) (v := .int (-9)) (ty := .int) (C := RX5) (T := TX5) (N := 41) hx hb hts iX5 tyX5 tyX5_ok nmX5 hown hK.1 hP hD hS 0 rfl rfl 14 (by decide) (hts _ fl_RX5_80) (fun _ h => h) rfl (tyX5_ok 14 (by decide)) rfl rfl (Nat.le_of_ble_eq_true rfl) dX5_tells_29 (fun H locs hP hD hS => ?_)
    replace hP : va_P D vwCl (bX5 cI cZ a q o5) H := by rw [eo5]; exact hP
    replace hD : va_D A (bX5 cI cZ a q o5) := by rw [eo5]; exact hD
    refine lv_aload_n (pc := 32) hx hb dX5_tells_32 rfl (lv_at hl 0 rfl) ?_
    refine lv_iconst (v := 0) (pc := 33) hx hb dX5_tells_33 (by decide) ?_
    obtain ⟨o6, eo6, hf⟩ := lt_some hf
    refine va_put (pc := 34) (D := D) (ci := 5) (v := .int 0) (ty := .boolean) (C := RX5) (T := TX5) (N := 41) hx hb hts iX5 tyX5 tyX5_ok nmX5 hown hK.1 hP hD hS 0 rfl rfl 16 (by decide) (hts _ fl_RX5_98) (fun _ h => h) rfl (tyX5_ok 16 (by decide)) rfl rfl (Nat.le_of_ble_eq_true rfl) dX5_tells_34 (fun H locs hP hD hS => ?_)
    replace hP : va_P D vwCl (bX5 cI cZ a q o6) H := by rw [eo6]; exact hP
    replace hD : va_D A (bX5 cI cZ a q o6) := by rw [eo6]; exact hD
    refine lv_iconst (v := 0) (pc := 37) hx hb dX5_tells_37 (by decide) ?_
    refine lv_istore_n (lv' := [(1, .int 0), (0, .ref a)]) (pc := 38) hx hb dX5_tells_38 rfl hl (by decide) rfl (fun ls hl => ?_)
    refine lv_aload_n (pc := 39) hx hb dX5_tells_39 rfl (lv_at hl 1 rfl) ?_
    obtain ⟨x7, ex7, hf⟩ := bd_some hf
    refine ct_V1 (pc := 40) (As := []) (rest := []) (W1 := bX5 cI cZ a q x7) ⟨hx, hb, hml, hown, hts⟩ hK (c_X5_next l D cI cZ cS a q o6 x7 ex7) gv_RX5_87 rfl hs_X5_next rfl ⟨Nat.le_of_ble_eq_true rfl, Nat.le_of_ble_eq_true rfl⟩ (ci := 5) (q0 := 0) rfl rfl rfl hl.1 rfl (Nat.le_of_ble_eq_true rfl) dX5_tells_40 ⟨Nat.zero_le _, Nat.zero_le _⟩ hP hD hS hA (fun H locs hP hD hS => ?_)
    obtain ⟨z8, hz8, hf⟩ := bd_some hf
    have hfz8 := hf
    clear hf
    have K9 : ∀ (H : Heap) (locs : List Loc) (ls : Array Slot), va_P D vwCl (bX5 cI cZ a q z8.2) H → va_D A (bX5 cI cZ a q z8.2) → va_S A s.heap H locs → lv_has ls 3 [(0, .ref a), (1, .int z8.1)] → GW l yX5_tells cX5_tells 3 (some .int) 5 108 D [.ref a] (some (.int x.1)) (bX5 cI cZ a q x.2) A p e s m below meth c H locs (F0 m 150 ls []) := by
      intro H locs ls hP hD hS hl
      have hf := hfz8
      refine lv_aload_n (pc := 150) hx hb dX5_tells_150 rfl (lv_at hl 0 rfl) ?_
      refine va_get (pc := 151) (D := D) (ci := 5) (v := .int (z8.2.1 14)) (C := RX5) (T := TX5) (N := 41) hx hb hts iX5 hown hK.1 hP 0 rfl rfl 14 (by decide) (hts _ fl_RX5_80) (fun _ h => h) rfl dX5_tells_151 ?_
      refine lv_bipush (v := -9) (pc := 154) hx hb dX5_tells_154 (by decide) ?_
      refine lv_icmp_eq (pc := 156) (tgt := 167) hx hb dX5_tells_156 (by decide) (fun c11 => ?_) (fun c11 => ?_)
      · replace hf := ip c11 hf
        refine lv_iconst (v := 0) (pc := 167) hx hb dX5_tells_167 (by decide) ?_
        refine lv_istore_n (lv' := [(2, .int 0), (0, .ref a), (1, .int z8.1)]) (pc := 168) hx hb dX5_tells_168 rfl hl (by decide) rfl (fun ls hl => ?_)
        obtain ⟨z12, hz12, hf⟩ := bd_some hf
        have hfz12 := hf
        clear hf
        have K13 : ∀ (H : Heap) (locs : List Loc) (ls : Array Slot), va_P D vwCl (bX5 cI cZ a q z12.2) H → va_D A (bX5 cI cZ a q z12.2) → va_S A s.heap H locs → lv_has ls 3 [(0, .ref a), (1, .int z8.1), (2, .int z12.1)] → GW l yX5_tells cX5_tells 3 (some .int) 5 108 D [.ref a] (some (.int x.1)) (bX5 cI cZ a q x.2) A p e s m below meth c H locs (F0 m 193 ls []) := by
          intro H locs ls hP hD hS hl
          have hf := hfz12
          refine lv_aload_n (pc := 193) hx hb dX5_tells_193 rfl (lv_at hl 0 rfl) ?_
          refine lv_iconst (v := 0) (pc := 194) hx hb dX5_tells_194 (by decide) ?_
          obtain ⟨o15, eo15, hf⟩ := lt_some hf
          refine va_put (pc := 195) (D := D) (ci := 5) (v := .int 0) (ty := .int) (C := RX5) (T := TX5) (N := 41) hx hb hts iX5 tyX5 tyX5_ok nmX5 hown hK.1 hP hD hS 0 rfl rfl 2 (by decide) (hts _ fl_RX5_111) (fun _ h => h) rfl (tyX5_ok 2 (by decide)) rfl rfl (Nat.le_of_ble_eq_true rfl) dX5_tells_195 (fun H locs hP hD hS => ?_)
          replace hP : va_P D vwCl (bX5 cI cZ a q o15) H := by rw [eo15]; exact hP
          replace hD : va_D A (bX5 cI cZ a q o15) := by rw [eo15]; exact hD
          refine lv_aload_n (pc := 198) hx hb dX5_tells_198 rfl (lv_at hl 0 rfl) ?_
          refine lv_bipush (v := 10) (pc := 199) hx hb dX5_tells_199 (by decide) ?_
          obtain ⟨o16, eo16, hf⟩ := lt_some hf
          refine va_put (pc := 201) (D := D) (ci := 5) (v := .int 10) (ty := .int) (C := RX5) (T := TX5) (N := 41) hx hb hts iX5 tyX5 tyX5_ok nmX5 hown hK.1 hP hD hS 0 rfl rfl 5 (by decide) (hts _ fl_RX5_23) (fun _ h => h) rfl (tyX5_ok 5 (by decide)) rfl rfl (Nat.le_of_ble_eq_true rfl) dX5_tells_201 (fun H locs hP hD hS => ?_)
          replace hP : va_P D vwCl (bX5 cI cZ a q o16) H := by rw [eo16]; exact hP
          replace hD : va_D A (bX5 cI cZ a q o16) := by rw [eo16]; exact hD
          refine lv_aload_n (pc := 204) hx hb dX5_tells_204 rfl (lv_at hl 0 rfl) ?_
          refine lv_iconst (v := 0) (pc := 205) hx hb dX5_tells_205 (by decide) ?_
          obtain ⟨o17, eo17, hf⟩ := lt_some hf
          refine va_put (pc := 206) (D := D) (ci := 5) (v := .int 0) (ty := .int) (C := RX5) (T := TX5) (N := 41) hx hb hts iX5 tyX5 tyX5_ok nmX5 hown hK.1 hP hD hS 0 rfl rfl 7 (by decide) (hts _ fl_RX5_114) (fun _ h => h) rfl (tyX5_ok 7 (by decide)) rfl rfl (Nat.le_of_ble_eq_true rfl) dX5_tells_206 (fun H locs hP hD hS => ?_)
          replace hP : va_P D vwCl (bX5 cI cZ a q o17) H := by rw [eo17]; exact hP
          replace hD : va_D A (bX5 cI cZ a q o17) := by rw [eo17]; exact hD
          refine lv_aload_n (pc := 209) hx hb dX5_tells_209 rfl (lv_at hl 0 rfl) ?_
          refine va_get (pc := 210) (D := D) (ci := 5) (v := .ref (q 4)) (C := RX5) (T := TX5) (N := 41) hx hb hts iX5 hown hK.1 hP 0 rfl rfl 4 (by decide) (hts _ fl_RX5_19) (fun _ h => h) rfl dX5_tells_210 ?_
          refine lv_iconst (v := 0) (pc := 213) hx hb dX5_tells_213 (by decide) ?_
          refine lv_iconst (v := 0) (pc := 214) hx hb dX5_tells_214 (by decide) ?_
          have h18 : vp_in 0 2 := by unfold vp_in; decide
          obtain ⟨o19, eo19, hf⟩ := lt_some hf
          refine va_zast (pc := 215) (f := o17.2.2 4) hx hb hK.1 hP hD hS 4 1 rfl rfl h18 dX5_tells_215 (fun H locs hP hD hS => ?_)
          replace hP : va_P D vwCl (bX5 cI cZ a q o19) H := by rw [eo19]; exact hP
          replace hD : va_D A (bX5 cI cZ a q o19) := by rw [eo19]; exact hD
          refine lv_aload_n (pc := 216) hx hb dX5_tells_216 rfl (lv_at hl 0 rfl) ?_
          refine va_get (pc := 217) (D := D) (ci := 5) (v := .ref (q 4)) (C := RX5) (T := TX5) (N := 41) hx hb hts iX5 hown hK.1 hP 0 rfl rfl 4 (by decide) (hts _ fl_RX5_19) (fun _ h => h) rfl dX5_tells_217 ?_
          refine lv_iconst (v := 1) (pc := 220) hx hb dX5_tells_220 (by decide) ?_
          refine lv_iconst (v := 0) (pc := 221) hx hb dX5_tells_221 (by decide) ?_
          have h20 : vp_in 1 2 := by unfold vp_in; decide
          obtain ⟨o21, eo21, hf⟩ := lt_some hf
          refine va_zast (pc := 222) (f := o19.2.2 4) hx hb hK.1 hP hD hS 4 1 rfl rfl h20 dX5_tells_222 (fun H locs hP hD hS => ?_)
          replace hP : va_P D vwCl (bX5 cI cZ a q o21) H := by rw [eo21]; exact hP
          replace hD : va_D A (bX5 cI cZ a q o21) := by rw [eo21]; exact hD
          refine lv_aload_n (pc := 223) hx hb dX5_tells_223 rfl (lv_at hl 0 rfl) ?_
          refine lv_iconst (v := 0) (pc := 224) hx hb dX5_tells_224 (by decide) ?_
          obtain ⟨o22, eo22, hf⟩ := lt_some hf
          refine va_put (pc := 225) (D := D) (ci := 5) (v := .int 0) (ty := .int) (C := RX5) (T := TX5) (N := 41) hx hb hts iX5 tyX5 tyX5_ok nmX5 hown hK.1 hP hD hS 0 rfl rfl 9 (by decide) (hts _ fl_RX5_61) (fun _ h => h) rfl (tyX5_ok 9 (by decide)) rfl rfl (Nat.le_of_ble_eq_true rfl) dX5_tells_225 (fun H locs hP hD hS => ?_)
          replace hP : va_P D vwCl (bX5 cI cZ a q o22) H := by rw [eo22]; exact hP
          replace hD : va_D A (bX5 cI cZ a q o22) := by rw [eo22]; exact hD
          refine lv_iload_n (pc := 228) hx hb dX5_tells_228 rfl (lv_at hl 1 rfl) ?_
          obtain rfl := Option.some.inj hf
          exact W.iret hx hb hr (fun t ht hW => ⟨rfl, by rw [ht]; exact hP, hD, hS.F ht⟩) hS.2.2 dX5_tells_229
        have KL14 : ∀ (n : Nat) (v2 : Int32) (w_M : OS) (H : Heap) (locs : List Loc) (ls : Array Slot), lp_X5_tells_169 n v2 w_M = some z12 → va_P D vwCl (bX5 cI cZ a q w_M) H → va_D A (bX5 cI cZ a q w_M) → va_S A s.heap H locs → lv_has ls 3 [(0, .ref a), (1, .int z8.1), (2, .int v2)] → GW l yX5_tells cX5_tells 3 (some .int) 5 108 D [.ref a] (some (.int x.1)) (bX5 cI cZ a q x.2) A p e s m below meth c H locs (F0 m 169 ls []) := by
          intro n
          induction n with
          | zero => intro v2 w_M H locs ls hf; cases hf
          | succ n ih =>
            intro v2 w_M H locs ls hf hP hD hS hl
            rw [lp_X5_tells_169] at hf
            refine lv_iload_n (pc := 169) hx hb dX5_tells_169 rfl (lv_at hl 2 rfl) ?_
            refine lv_bipush (v := 59) (pc := 170) hx hb dX5_tells_170 (by decide) ?_
            refine lv_icmp_ge (pc := 172) (tgt := 193) hx hb dX5_tells_172 (by decide) (fun c23 => ?_) (fun c23 => ?_)
            · replace hf := ip c23 hf
              obtain rfl := Option.some.inj hf
              exact K13 H locs ls hP hD hS (lv_sub hl [0, 1, 2] rfl)
            · replace hf := im c23 hf
              refine lv_aload_n (pc := 175) hx hb dX5_tells_175 rfl (lv_at hl 0 rfl) ?_
              refine va_get (pc := 176) (D := D) (ci := 5) (v := .ref (q 0)) (C := RX5) (T := TX5) (N := 41) hx hb hts iX5 hown hK.1 hP 0 rfl rfl 0 (by decide) (hts _ fl_RX5_7) (fun _ h => h) rfl dX5_tells_176 ?_
              refine lv_iload_n (pc := 179) hx hb dX5_tells_179 rfl (lv_at hl 2 rfl) ?_
              refine lv_aload_n (pc := 180) hx hb dX5_tells_180 rfl (lv_at hl 0 rfl) ?_
              refine va_get (pc := 181) (D := D) (ci := 5) (v := .ref (q 15)) (C := RX5) (T := TX5) (N := 41) hx hb hts iX5 hown hK.1 hP 0 rfl rfl 15 (by decide) (hts _ fl_RX5_33) (fun _ h => h) rfl dX5_tells_181 ?_
              refine lv_iload_n (pc := 184) hx hb dX5_tells_184 rfl (lv_at hl 2 rfl) ?_
              obtain ⟨h24, hf⟩ := ck_some hf
              refine va_iald (pc := 185) (f := w_M.2.2 15) hx hb hK.1 hP 7 0 rfl rfl h24 dX5_tells_185 ?_
              obtain ⟨h25, hf⟩ := ck_some hf
              obtain ⟨o26, eo26, hf⟩ := lt_some hf
              refine va_iast (pc := 186) (f := w_M.2.2 0) hx hb hK.1 hP hD hS 1 0 rfl rfl h25 dX5_tells_186 (fun H locs hP hD hS => ?_)
              replace hP : va_P D vwCl (bX5 cI cZ a q o26) H := by rw [eo26]; exact hP
              replace hD : va_D A (bX5 cI cZ a q o26) := by rw [eo26]; exact hD
              refine lv_iinc (v := (v2 + 1)) (lv' := [(2, .int (v2 + 1)), (0, .ref a), (1, .int z8.1)]) (pc := 187) hx hb dX5_tells_187 hl (k := 2) rfl rfl (by decide) rfl (fun ls hl => ?_)
              refine lv_goto (pc := 190) (tgt := 169) hx hb dX5_tells_190 (by decide) ?_
              exact ih _ _ H locs ls hf hP hD hS (lv_sub hl [1, 2, 0] rfl)
        exact KL14 1000 _ _ H locs ls hz12 hP hD hS (lv_sub hl [1, 2, 0] rfl)
      · replace hf := im c11 hf
        refine lv_bipush (v := -10) (pc := 159) hx hb dX5_tells_159 (by decide) ?_
        refine lv_aload_n (pc := 161) hx hb dX5_tells_161 rfl (lv_at hl 0 rfl) ?_
        refine va_get (pc := 162) (D := D) (ci := 5) (v := .int (z8.2.1 14)) (C := RX5) (T := TX5) (N := 41) hx hb hts iX5 hown hK.1 hP 0 rfl rfl 14 (by decide) (hts _ fl_RX5_80) (fun _ h => h) rfl dX5_tells_162 ?_
        refine lv_isub (pc := 165) hx hb dX5_tells_165 ?_
        obtain rfl := Option.some.inj hf
        exact W.iret hx hb hr (fun t ht hW => ⟨rfl, by rw [ht]; exact hP, hD, hS.F ht⟩) hS.2.2 dX5_tells_166
    have KL10 : ∀ (n : Nat) (v1 : Int32) (w_M : OS) (H : Heap) (locs : List Loc) (ls : Array Slot), lp_X5_tells_43 n v1 w_M = some z8 → va_P D vwCl (bX5 cI cZ a q w_M) H → va_D A (bX5 cI cZ a q w_M) → va_S A s.heap H locs → lv_has ls 3 [(0, .ref a), (1, .int v1)] → GW l yX5_tells cX5_tells 3 (some .int) 5 108 D [.ref a] (some (.int x.1)) (bX5 cI cZ a q x.2) A p e s m below meth c H locs (F0 m 43 ls []) := by
      intro n
      induction n with
      | zero => intro v1 w_M H locs ls hf; cases hf
      | succ n ih =>
        intro v1 w_M H locs ls hf hP hD hS hl
        rw [lp_X5_tells_43] at hf
        refine lv_aload_n (pc := 43) hx hb dX5_tells_43 rfl (lv_at hl 0 rfl) ?_
        refine va_get (pc := 44) (D := D) (ci := 5) (v := .int (w_M.1 14)) (C := RX5) (T := TX5) (N := 41) hx hb hts iX5 hown hK.1 hP 0 rfl rfl 14 (by decide) (hts _ fl_RX5_80) (fun _ h => h) rfl dX5_tells_44 ?_
        refine lv_bipush (v := -9) (pc := 47) hx hb dX5_tells_47 (by decide) ?_
        refine lv_icmp_ne (pc := 49) (tgt := 150) hx hb dX5_tells_49 (by decide) (fun c27 => ?_) (fun c27 => ?_)
        · replace hf := im c27 hf
          obtain rfl := Option.some.inj hf
          exact K9 H locs ls hP hD hS (lv_sub hl [0, 1] rfl)
        · replace hf := ip c27 hf
          refine lv_aload_n (pc := 52) hx hb dX5_tells_52 rfl (lv_at hl 0 rfl) ?_
          refine va_get (pc := 53) (D := D) (ci := 5) (v := .int (w_M.1 12)) (C := RX5) (T := TX5) (N := 41) hx hb hts iX5 hown hK.1 hP 0 rfl rfl 12 (by decide) (hts _ fl_RX5_70) (fun _ h => h) rfl dX5_tells_53 ?_
          refine lv_iconst (v := -1) (pc := 56) hx hb dX5_tells_56 (by decide) ?_
          refine lv_icmp_eq (pc := 57) (tgt := 150) hx hb dX5_tells_57 (by decide) (fun c28 => ?_) (fun c28 => ?_)
          · replace hf := ip c28 hf
            obtain rfl := Option.some.inj hf
            exact K9 H locs ls hP hD hS (lv_sub hl [0, 1] rfl)
          · replace hf := im c28 hf
            refine lv_aload_n (pc := 60) hx hb dX5_tells_60 rfl (lv_at hl 0 rfl) ?_
            refine va_get (pc := 61) (D := D) (ci := 5) (v := .int (w_M.1 12)) (C := RX5) (T := TX5) (N := 41) hx hb hts iX5 hown hK.1 hP 0 rfl rfl 12 (by decide) (hts _ fl_RX5_70) (fun _ h => h) rfl dX5_tells_61 ?_
            refine lv_bipush (v := 112) (pc := 64) hx hb dX5_tells_64 (by decide) ?_
            obtain ⟨z29, hz29, hf⟩ := bd_some hf
            have K30 : ∀ (H : Heap) (locs : List Loc) (ls : Array Slot), va_P D vwCl (bX5 cI cZ a q z29) H → va_D A (bX5 cI cZ a q z29) → va_S A s.heap H locs → lv_has ls 3 [(0, .ref a), (1, .int v1)] → GW l yX5_tells cX5_tells 3 (some .int) 5 108 D [.ref a] (some (.int x.1)) (bX5 cI cZ a q x.2) A p e s m below meth c H locs (F0 m 113 ls []) := by
              intro H locs ls hP hD hS hl
              refine lv_aload_n (pc := 113) hx hb dX5_tells_113 rfl (lv_at hl 0 rfl) ?_
              refine lv_aload_n (pc := 114) hx hb dX5_tells_114 rfl (lv_at hl 0 rfl) ?_
              refine va_get (pc := 115) (D := D) (ci := 5) (v := .int (z29.1 12)) (C := RX5) (T := TX5) (N := 41) hx hb hts iX5 hown hK.1 hP 0 rfl rfl 12 (by decide) (hts _ fl_RX5_70) (fun _ h => h) rfl dX5_tells_115 ?_
              refine lv_bipush (v := 59) (pc := 118) hx hb dX5_tells_118 (by decide) ?_
              obtain ⟨z31, hz31, hf⟩ := bd_some hf
              have K32 : ∀ (H : Heap) (locs : List Loc) (ls : Array Slot), va_P D vwCl (bX5 cI cZ a q z29) H → va_D A (bX5 cI cZ a q z29) → va_S A s.heap H locs → lv_has ls 3 [(0, .ref a), (1, .int v1)] → GW l yX5_tells cX5_tells 3 (some .int) 5 108 D [.ref a] (some (.int x.1)) (bX5 cI cZ a q x.2) A p e s m below meth c H locs (F0 m 128 ls [.int z31, .ref a]) := by
                intro H locs ls hP hD hS hl
                obtain ⟨x33, ex33, hf⟩ := bd_some hf
                refine ct_V1 (pc := 128) (As := [.int z31]) (rest := []) (W1 := bX5 cI cZ a q x33) ⟨hx, hb, hml, hown, hts⟩ hK (c_X5_due l D cI cZ cS a q z31 z29 x33 ex33) gv_RX5_83 rfl hs_X5_due rfl ⟨Nat.le_of_ble_eq_true rfl, Nat.le_of_ble_eq_true rfl⟩ (ci := 5) (q0 := 0) rfl rfl rfl hl.1 rfl (Nat.le_of_ble_eq_true rfl) dX5_tells_128 ⟨Nat.zero_le _, Nat.zero_le _⟩ hP hD hS hA (fun H locs hP hD hS => ?_)
                refine lv_aload_n (pc := 131) hx hb dX5_tells_131 rfl (lv_at hl 0 rfl) ?_
                refine va_get (pc := 132) (D := D) (ci := 5) (v := .int (x33.1 14)) (C := RX5) (T := TX5) (N := 41) hx hb hts iX5 hown hK.1 hP 0 rfl rfl 14 (by decide) (hts _ fl_RX5_80) (fun _ h => h) rfl dX5_tells_132 ?_
                refine lv_bipush (v := -9) (pc := 135) hx hb dX5_tells_135 (by decide) ?_
                refine lv_icmp_ne (pc := 137) (tgt := 144) hx hb dX5_tells_137 (by decide) (fun c34 => ?_) (fun c34 => ?_)
                · replace hf := im c34 hf
                  refine lv_iinc (v := (v1 + 1)) (lv' := [(1, .int (v1 + 1)), (0, .ref a)]) (pc := 144) hx hb dX5_tells_144 hl (k := 1) rfl rfl (by decide) rfl (fun ls hl => ?_)
                  refine lv_goto (pc := 147) (tgt := 43) hx hb dX5_tells_147 (by decide) ?_
                  exact ih _ _ H locs ls hf hP hD hS (lv_sub hl [1, 0] rfl)
                · replace hf := ip c34 hf
                  refine lv_aload_n (pc := 140) hx hb dX5_tells_140 rfl (lv_at hl 0 rfl) ?_
                  obtain ⟨x35, ex35, hf⟩ := bd_some hf
                  refine ct_V1 (pc := 141) (As := []) (rest := []) (W1 := bX5 cI cZ a q x35) ⟨hx, hb, hml, hown, hts⟩ hK (c_X5_next l D cI cZ cS a q x33 x35 ex35) gv_RX5_87 rfl hs_X5_next rfl ⟨Nat.le_of_ble_eq_true rfl, Nat.le_of_ble_eq_true rfl⟩ (ci := 5) (q0 := 0) rfl rfl rfl hl.1 rfl (Nat.le_of_ble_eq_true rfl) dX5_tells_141 ⟨Nat.zero_le _, Nat.zero_le _⟩ hP hD hS hA (fun H locs hP hD hS => ?_)
                  refine lv_iinc (v := (v1 + 1)) (lv' := [(1, .int (v1 + 1)), (0, .ref a)]) (pc := 144) hx hb dX5_tells_144 hl (k := 1) rfl rfl (by decide) rfl (fun ls hl => ?_)
                  refine lv_goto (pc := 147) (tgt := 43) hx hb dX5_tells_147 (by decide) ?_
                  exact ih _ _ H locs ls hf hP hD hS (lv_sub hl [1, 0] rfl)
              replace hf := hz31
              refine lv_icmp_ne (pc := 120) (tgt := 127) hx hb dX5_tells_120 (by decide) (fun c36 => ?_) (fun c36 => ?_)
              · replace hf := im c36 hf
                refine lv_iconst (v := 0) (pc := 127) hx hb dX5_tells_127 (by decide) ?_
                obtain rfl := Option.some.inj hf
                exact K32 H locs ls hP hD hS (lv_sub hl [0, 1] rfl)
              · replace hf := ip c36 hf
                refine lv_iconst (v := 1) (pc := 123) hx hb dX5_tells_123 (by decide) ?_
                refine lv_goto (pc := 124) (tgt := 128) hx hb dX5_tells_124 (by decide) ?_
                obtain rfl := Option.some.inj hf
                exact K32 H locs ls hP hD hS (lv_sub hl [0, 1] rfl)
            replace hf := hz29
            refine lv_icmp_ne (pc := 66) (tgt := 76) hx hb dX5_tells_66 (by decide) (fun c37 => ?_) (fun c37 => ?_)
            · replace hf := im c37 hf
              refine lv_aload_n (pc := 76) hx hb dX5_tells_76 rfl (lv_at hl 0 rfl) ?_
              refine va_get (pc := 77) (D := D) (ci := 5) (v := .int (w_M.1 12)) (C := RX5) (T := TX5) (N := 41) hx hb hts iX5 hown hK.1 hP 0 rfl rfl 12 (by decide) (hts _ fl_RX5_70) (fun _ h => h) rfl dX5_tells_77 ?_
              refine lv_bipush (v := 99) (pc := 80) hx hb dX5_tells_80 (by decide) ?_
              refine lv_icmp_ne (pc := 82) (tgt := 92) hx hb dX5_tells_82 (by decide) (fun c38 => ?_) (fun c38 => ?_)
              · replace hf := im c38 hf
                refine lv_aload_n (pc := 92) hx hb dX5_tells_92 rfl (lv_at hl 0 rfl) ?_
                refine va_get (pc := 93) (D := D) (ci := 5) (v := .int (w_M.1 12)) (C := RX5) (T := TX5) (N := 41) hx hb hts iX5 hown hK.1 hP 0 rfl rfl 12 (by decide) (hts _ fl_RX5_70) (fun _ h => h) rfl dX5_tells_93 ?_
                refine lv_bipush (v := 119) (pc := 96) hx hb dX5_tells_96 (by decide) ?_
                refine lv_icmp_ne (pc := 98) (tgt := 108) hx hb dX5_tells_98 (by decide) (fun c39 => ?_) (fun c39 => ?_)
                · replace hf := im c39 hf
                  refine lv_aload_n (pc := 108) hx hb dX5_tells_108 rfl (lv_at hl 0 rfl) ?_
                  refine lv_iconst (v := 0) (pc := 109) hx hb dX5_tells_109 (by decide) ?_
                  obtain ⟨x40, ex40, hf⟩ := bd_some hf
                  refine ct_V1 (pc := 110) (As := [.int 0]) (rest := []) (W1 := bX5 cI cZ a q x40) ⟨hx, hb, hml, hown, hts⟩ hK (c_X5_due l D cI cZ cS a q 0 w_M x40 ex40) gv_RX5_83 rfl hs_X5_due rfl ⟨Nat.le_of_ble_eq_true rfl, Nat.le_of_ble_eq_true rfl⟩ (ci := 5) (q0 := 0) rfl rfl rfl hl.1 rfl (Nat.le_of_ble_eq_true rfl) dX5_tells_110 ⟨Nat.zero_le _, Nat.zero_le _⟩ hP hD hS hA (fun H locs hP hD hS => ?_)
                  obtain rfl := Option.some.inj hf
                  exact K30 H locs ls hP hD hS (lv_sub hl [0, 1] rfl)
                · replace hf := ip c39 hf
                  refine lv_aload_n (pc := 101) hx hb dX5_tells_101 rfl (lv_at hl 0 rfl) ?_
                  obtain ⟨x41, ex41, hf⟩ := bd_some hf
                  refine ct_V1 (pc := 102) (As := []) (rest := []) (W1 := bX5 cI cZ a q x41) ⟨hx, hb, hml, hown, hts⟩ hK (c_X5_readsWind l D cI cZ cS a q w_M x41 ex41) gv_RX5_108 rfl hs_X5_readsWind rfl ⟨Nat.le_of_ble_eq_true rfl, Nat.le_of_ble_eq_true rfl⟩ (ci := 5) (q0 := 0) rfl rfl rfl hl.1 rfl (Nat.le_of_ble_eq_true rfl) dX5_tells_102 ⟨Nat.zero_le _, Nat.zero_le _⟩ hP hD hS hA (fun H locs hP hD hS => ?_)
                  refine lv_goto (pc := 105) (tgt := 113) hx hb dX5_tells_105 (by decide) ?_
                  obtain rfl := Option.some.inj hf
                  exact K30 H locs ls hP hD hS (lv_sub hl [0, 1] rfl)
              · replace hf := ip c38 hf
                refine lv_aload_n (pc := 85) hx hb dX5_tells_85 rfl (lv_at hl 0 rfl) ?_
                obtain ⟨x42, ex42, hf⟩ := bd_some hf
                refine ct_V1 (pc := 86) (As := []) (rest := []) (W1 := bX5 cI cZ a q x42) ⟨hx, hb, hml, hown, hts⟩ hK (c_X5_readsColumn l D cI cZ cS a q w_M x42 ex42) gv_RX5_105 rfl hs_X5_readsColumn rfl ⟨Nat.le_of_ble_eq_true rfl, Nat.le_of_ble_eq_true rfl⟩ (ci := 5) (q0 := 0) rfl rfl rfl hl.1 rfl (Nat.le_of_ble_eq_true rfl) dX5_tells_86 ⟨Nat.zero_le _, Nat.zero_le _⟩ hP hD hS hA (fun H locs hP hD hS => ?_)
                refine lv_goto (pc := 89) (tgt := 113) hx hb dX5_tells_89 (by decide) ?_
                obtain rfl := Option.some.inj hf
                exact K30 H locs ls hP hD hS (lv_sub hl [0, 1] rfl)
            · replace hf := ip c37 hf
              refine lv_aload_n (pc := 69) hx hb dX5_tells_69 rfl (lv_at hl 0 rfl) ?_
              obtain ⟨x43, ex43, hf⟩ := bd_some hf
              refine ct_V1 (pc := 70) (As := []) (rest := []) (W1 := bX5 cI cZ a q x43) ⟨hx, hb, hml, hown, hts⟩ hK (c_X5_readsPile l D cI cZ cS a q w_M x43 ex43) gv_RX5_102 rfl hs_X5_readsPile rfl ⟨Nat.le_of_ble_eq_true rfl, Nat.le_of_ble_eq_true rfl⟩ (ci := 5) (q0 := 0) rfl rfl rfl hl.1 rfl (Nat.le_of_ble_eq_true rfl) dX5_tells_70 ⟨Nat.zero_le _, Nat.zero_le _⟩ hP hD hS hA (fun H locs hP hD hS => ?_)
              refine lv_goto (pc := 73) (tgt := 113) hx hb dX5_tells_73 (by decide) ?_
              obtain rfl := Option.some.inj hf
              exact K30 H locs ls hP hD hS (lv_sub hl [0, 1] rfl)
    exact KL10 1000 _ _ H locs ls hz8 hP hD hS (lv_sub hl [1, 0] rfl)
  have KL3 : ∀ (n : Nat) (v1 : Int32) (w_M : OS) (H : Heap) (locs : List Loc) (ls : Array Slot), lp_X5_tells_2 n v1 w_M = some z1 → va_P D vwCl (bX5 cI cZ a q w_M) H → va_D A (bX5 cI cZ a q w_M) → va_S A s.heap H locs → lv_has ls 3 [(0, .ref a), (1, .int v1)] → GW l yX5_tells cX5_tells 3 (some .int) 5 108 D [.ref a] (some (.int x.1)) (bX5 cI cZ a q x.2) A p e s m below meth c H locs (F0 m 2 ls []) := by
    intro n
    induction n with
    | zero => intro v1 w_M H locs ls hf; cases hf
    | succ n ih =>
      intro v1 w_M H locs ls hf hP hD hS hl
      rw [lp_X5_tells_2] at hf
      refine lv_iload_n (pc := 2) hx hb dX5_tells_2 rfl (lv_at hl 1 rfl) ?_
      refine lv_bipush (v := 59) (pc := 3) hx hb dX5_tells_3 (by decide) ?_
      refine lv_icmp_ge (pc := 5) (tgt := 21) hx hb dX5_tells_5 (by decide) (fun c44 => ?_) (fun c44 => ?_)
      · replace hf := ip c44 hf
        obtain rfl := Option.some.inj hf
        exact K2 H locs ls hP hD hS (lv_sub hl [0, 1] rfl)
      · replace hf := im c44 hf
        refine lv_aload_n (pc := 8) hx hb dX5_tells_8 rfl (lv_at hl 0 rfl) ?_
        refine va_get (pc := 9) (D := D) (ci := 5) (v := .ref (q 15)) (C := RX5) (T := TX5) (N := 41) hx hb hts iX5 hown hK.1 hP 0 rfl rfl 15 (by decide) (hts _ fl_RX5_33) (fun _ h => h) rfl dX5_tells_9 ?_
        refine lv_iload_n (pc := 12) hx hb dX5_tells_12 rfl (lv_at hl 1 rfl) ?_
        refine lv_iconst (v := 0) (pc := 13) hx hb dX5_tells_13 (by decide) ?_
        obtain ⟨h45, hf⟩ := ck_some hf
        obtain ⟨o46, eo46, hf⟩ := lt_some hf
        refine va_iast (pc := 14) (f := w_M.2.2 15) hx hb hK.1 hP hD hS 7 0 rfl rfl h45 dX5_tells_14 (fun H locs hP hD hS => ?_)
        replace hP : va_P D vwCl (bX5 cI cZ a q o46) H := by rw [eo46]; exact hP
        replace hD : va_D A (bX5 cI cZ a q o46) := by rw [eo46]; exact hD
        refine lv_iinc (v := (v1 + 1)) (lv' := [(1, .int (v1 + 1)), (0, .ref a)]) (pc := 15) hx hb dX5_tells_15 hl (k := 1) rfl rfl (by decide) rfl (fun ls hl => ?_)
        refine lv_goto (pc := 18) (tgt := 2) hx hb dX5_tells_18 (by decide) ?_
        exact ih _ _ H locs ls hf hP hD hS (lv_sub hl [1, 0] rfl)
  exact KL3 1000 _ _ H locs ls hz1 hP hD hS (lv_sub hl [1, 0] rfl)
def lp_X5_notes_51 : Nat → Int32 → OS → Option (Int32 × OS)
  | 0, _, _ => none
  | n + 1, v1, w_M => if 59 ≤ v1 then some (v1, w_M) else ck v1 59 (ck ((59 * (w_M.1 2)) + v1) 354 (lt (sA w_M 1 ((((59 * (w_M.1 2)) + v1) : Int32).toNatClampNeg) (w_M.2.2 0 (v1 : Int32).toNatClampNeg)) fun o10 => lp_X5_notes_51 n (v1 + 1) o10))
def lp_X5_notes_11 : Nat → Int32 → OS → Option (Int32 × OS)
  | 0, _, _ => none
  | n + 1, v1, w_M => if 295 ≤ v1 then some (v1, w_M) else ck (v1 + 59) 354 (ck v1 354 (lt (sA w_M 1 ((v1 : Int32).toNatClampNeg) (w_M.2.2 1 ((v1 + 59) : Int32).toNatClampNeg)) fun o19 => lp_X5_notes_11 n (v1 + 1) o19))
def f_X5_notes (om : OS) : Option OS := Option.bind (if (om.1 2) = 6 then Option.bind (lp_X5_notes_11 1000 0 om) fun z12 => lt (sI z12.2 2 ((z12.2.1 2) - 1)) fun o15 => some o15 else some om : Option OS) fun z1 => Option.bind (lp_X5_notes_51 1000 0 z1) fun z3 => lt (sI z3.2 2 ((z3.2.1 2) + 1)) fun o6 => some o6
set_option maxHeartbeats 4000000 in
set_option maxRecDepth 100000 in
theorem c_X5_notes (l : Launch) (D : va_G) (cI cZ cS : ClassId) (a : Nat) (q : Nat → Nat) (om : OS) (x : OS) (hf : f_X5_notes om = some x) : Ct l yX5_notes cX5_notes 2 none 0 0 D cI cZ cS [.ref a] (bX5 cI cZ a q om) none (bX5 cI cZ a q x) := by
  intro sz
  refine Met.ofW (cc := cX5_notes) (maxL := 2) (ret := none) (by decide +kernel) rfl ?_
  intro p e s m args below meth c s₁ B hml hv
  obtain ⟨rfl, hsz, hP, hK, hD0⟩ := hv
  have hx := B.exec
  have hb := B.bytes
  have hr := B.returns
  have hts0 := atoms_spec (ws := .code yX5_notes cX5_notes 2 none :: TB) B.pre
  have hts := fun w (h : w ∈ TB) => hts0 w (List.mem_cons_of_mem _ h)
  have hown : s.vm.findClass RX5 = some m.cls := findClass_of_methodNamed B.named
  have hlocks := B.notSynchronized
  subst hsz
  have hD := hD0.self (sz := s.heap.size)
  generalize hAe : va_A (bX5 cI cZ a q om) s.heap.size = A at hD ⊢
  have hA : ∀ q : Nat, s.heap.size ≤ q → A q := fun q h => by rw [← hAe]; exact Or.inr h
  have hS : va_S A s.heap s.heap [] := va_S.rf
  obtain ⟨H, hH⟩ : ∃ H, H = s.heap := ⟨_, rfl⟩
  rw [← hH] at hP
  have hS : va_S A s.heap H [] := by rw [hH]; exact hS
  have hl := lv_entry ([.ref a]) (n := 2) (Nat.le_of_ble_eq_true rfl)
  rw [lg_entry_eq]
  generalize (lg_sl ([.ref a]) ++ List.replicate (2 - (lg_sl ([.ref a])).length) Slot.unset).toArray = ls at hl ⊢
  have hl : lv_has ls 2 [(0, .ref a)] := hl
  refine W_heap hH ?_
  obtain ⟨locs, hlo⟩ : ∃ locs : List Loc, locs = [] := ⟨_, rfl⟩
  rw [← hlo] at hS ⊢
  unfold f_X5_notes at hf
  refine lv_aload_n (pc := 0) hx hb dX5_notes_0 rfl (lv_at hl 0 rfl) ?_
  refine va_get (pc := 1) (D := D) (ci := 5) (v := .int (om.1 2)) (C := RX5) (T := TX5) (N := 41) hx hb hts iX5 hown hK.1 hP 0 rfl rfl 2 (by decide) (hts _ fl_RX5_111) (fun _ h => h) rfl dX5_notes_1 ?_
  refine lv_bipush (v := 6) (pc := 4) hx hb dX5_notes_4 (by decide) ?_
  obtain ⟨z1, hz1, hf⟩ := bd_some hf
  have K2 : ∀ (H : Heap) (locs : List Loc) (ls : Array Slot), va_P D vwCl (bX5 cI cZ a q z1) H → va_D A (bX5 cI cZ a q z1) → va_S A s.heap H locs → lv_has ls 2 [(0, .ref a)] → GW l yX5_notes cX5_notes 2 none 0 0 D [.ref a] none (bX5 cI cZ a q x) A p e s m below meth c H locs (F0 m 49 ls []) := by
    intro H locs ls hP hD hS hl
    refine lv_iconst (v := 0) (pc := 49) hx hb dX5_notes_49 (by decide) ?_
    refine lv_istore_n (lv' := [(1, .int 0), (0, .ref a)]) (pc := 50) hx hb dX5_notes_50 rfl hl (by decide) rfl (fun ls hl => ?_)
    obtain ⟨z3, hz3, hf⟩ := bd_some hf
    have hfz3 := hf
    clear hf
    have K4 : ∀ (H : Heap) (locs : List Loc) (ls : Array Slot), va_P D vwCl (bX5 cI cZ a q z3.2) H → va_D A (bX5 cI cZ a q z3.2) → va_S A s.heap H locs → lv_has ls 2 [(0, .ref a), (1, .int z3.1)] → GW l yX5_notes cX5_notes 2 none 0 0 D [.ref a] none (bX5 cI cZ a q x) A p e s m below meth c H locs (F0 m 83 ls []) := by
      intro H locs ls hP hD hS hl
      have hf := hfz3
      refine lv_aload_n (pc := 83) hx hb dX5_notes_83 rfl (lv_at hl 0 rfl) ?_
      refine lv_dup (pc := 84) hx hb dX5_notes_84 rfl ?_
      refine va_get (pc := 85) (D := D) (ci := 5) (v := .int (z3.2.1 2)) (C := RX5) (T := TX5) (N := 41) hx hb hts iX5 hown hK.1 hP 0 rfl rfl 2 (by decide) (hts _ fl_RX5_111) (fun _ h => h) rfl dX5_notes_85 ?_
      refine lv_iconst (v := 1) (pc := 88) hx hb dX5_notes_88 (by decide) ?_
      refine lv_iadd (pc := 89) hx hb dX5_notes_89 ?_
      obtain ⟨o6, eo6, hf⟩ := lt_some hf
      refine va_put (pc := 90) (D := D) (ci := 5) (v := .int ((z3.2.1 2) + 1)) (ty := .int) (C := RX5) (T := TX5) (N := 41) hx hb hts iX5 tyX5 tyX5_ok nmX5 hown hK.1 hP hD hS 0 rfl rfl 2 (by decide) (hts _ fl_RX5_111) (fun _ h => h) rfl (tyX5_ok 2 (by decide)) rfl rfl (Nat.le_of_ble_eq_true rfl) dX5_notes_90 (fun H locs hP hD hS => ?_)
      replace hP : va_P D vwCl (bX5 cI cZ a q o6) H := by rw [eo6]; exact hP
      replace hD : va_D A (bX5 cI cZ a q o6) := by rw [eo6]; exact hD
      obtain rfl := Option.some.inj hf
      exact W.vret hx hb hr (fun t ht hW => ⟨rfl, by rw [ht]; exact hP, hD, hS.F ht⟩) hS.2.2 dX5_notes_93
    have KL5 : ∀ (n : Nat) (v1 : Int32) (w_M : OS) (H : Heap) (locs : List Loc) (ls : Array Slot), lp_X5_notes_51 n v1 w_M = some z3 → va_P D vwCl (bX5 cI cZ a q w_M) H → va_D A (bX5 cI cZ a q w_M) → va_S A s.heap H locs → lv_has ls 2 [(0, .ref a), (1, .int v1)] → GW l yX5_notes cX5_notes 2 none 0 0 D [.ref a] none (bX5 cI cZ a q x) A p e s m below meth c H locs (F0 m 51 ls []) := by
      intro n
      induction n with
      | zero => intro v1 w_M H locs ls hf; cases hf
      | succ n ih =>
        intro v1 w_M H locs ls hf hP hD hS hl
        rw [lp_X5_notes_51] at hf
        refine lv_iload_n (pc := 51) hx hb dX5_notes_51 rfl (lv_at hl 1 rfl) ?_
        refine lv_bipush (v := 59) (pc := 52) hx hb dX5_notes_52 (by decide) ?_
        refine lv_icmp_ge (pc := 54) (tgt := 83) hx hb dX5_notes_54 (by decide) (fun c7 => ?_) (fun c7 => ?_)
        · replace hf := ip c7 hf
          obtain rfl := Option.some.inj hf
          exact K4 H locs ls hP hD hS (lv_sub hl [0, 1] rfl)
        · replace hf := im c7 hf
          refine lv_aload_n (pc := 57) hx hb dX5_notes_57 rfl (lv_at hl 0 rfl) ?_
          refine va_get (pc := 58) (D := D) (ci := 5) (v := .ref (q 1)) (C := RX5) (T := TX5) (N := 41) hx hb hts iX5 hown hK.1 hP 0 rfl rfl 1 (by decide) (hts _ fl_RX5_13) (fun _ h => h) rfl dX5_notes_58 ?_
          refine lv_bipush (v := 59) (pc := 61) hx hb dX5_notes_61 (by decide) ?_
          refine lv_aload_n (pc := 63) hx hb dX5_notes_63 rfl (lv_at hl 0 rfl) ?_
          refine va_get (pc := 64) (D := D) (ci := 5) (v := .int (w_M.1 2)) (C := RX5) (T := TX5) (N := 41) hx hb hts iX5 hown hK.1 hP 0 rfl rfl 2 (by decide) (hts _ fl_RX5_111) (fun _ h => h) rfl dX5_notes_64 ?_
          refine lv_imul (pc := 67) hx hb dX5_notes_67 ?_
          refine lv_iload_n (pc := 68) hx hb dX5_notes_68 rfl (lv_at hl 1 rfl) ?_
          refine lv_iadd (pc := 69) hx hb dX5_notes_69 ?_
          refine lv_aload_n (pc := 70) hx hb dX5_notes_70 rfl (lv_at hl 0 rfl) ?_
          refine va_get (pc := 71) (D := D) (ci := 5) (v := .ref (q 0)) (C := RX5) (T := TX5) (N := 41) hx hb hts iX5 hown hK.1 hP 0 rfl rfl 0 (by decide) (hts _ fl_RX5_7) (fun _ h => h) rfl dX5_notes_71 ?_
          refine lv_iload_n (pc := 74) hx hb dX5_notes_74 rfl (lv_at hl 1 rfl) ?_
          obtain ⟨h8, hf⟩ := ck_some hf
          refine va_iald (pc := 75) (f := w_M.2.2 0) hx hb hK.1 hP 1 0 rfl rfl h8 dX5_notes_75 ?_
          obtain ⟨h9, hf⟩ := ck_some hf
          obtain ⟨o10, eo10, hf⟩ := lt_some hf
          refine va_iast (pc := 76) (f := w_M.2.2 1) hx hb hK.1 hP hD hS 2 0 rfl rfl h9 dX5_notes_76 (fun H locs hP hD hS => ?_)
          replace hP : va_P D vwCl (bX5 cI cZ a q o10) H := by rw [eo10]; exact hP
          replace hD : va_D A (bX5 cI cZ a q o10) := by rw [eo10]; exact hD
          refine lv_iinc (v := (v1 + 1)) (lv' := [(1, .int (v1 + 1)), (0, .ref a)]) (pc := 77) hx hb dX5_notes_77 hl (k := 1) rfl rfl (by decide) rfl (fun ls hl => ?_)
          refine lv_goto (pc := 80) (tgt := 51) hx hb dX5_notes_80 (by decide) ?_
          exact ih _ _ H locs ls hf hP hD hS (lv_sub hl [1, 0] rfl)
    exact KL5 1000 _ _ H locs ls hz3 hP hD hS (lv_sub hl [1, 0] rfl)
  replace hf := hz1
  refine lv_icmp_ne (pc := 6) (tgt := 49) hx hb dX5_notes_6 (by decide) (fun c11 => ?_) (fun c11 => ?_)
  · replace hf := im c11 hf
    obtain rfl := Option.some.inj hf
    exact K2 H locs ls hP hD hS (lv_sub hl [0] rfl)
  · replace hf := ip c11 hf
    refine lv_iconst (v := 0) (pc := 9) hx hb dX5_notes_9 (by decide) ?_
    refine lv_istore_n (lv' := [(1, .int 0), (0, .ref a)]) (pc := 10) hx hb dX5_notes_10 rfl hl (by decide) rfl (fun ls hl => ?_)
    obtain ⟨z12, hz12, hf⟩ := bd_some hf
    have hfz12 := hf
    clear hf
    have K13 : ∀ (H : Heap) (locs : List Loc) (ls : Array Slot), va_P D vwCl (bX5 cI cZ a q z12.2) H → va_D A (bX5 cI cZ a q z12.2) → va_S A s.heap H locs → lv_has ls 2 [(0, .ref a), (1, .int z12.1)] → GW l yX5_notes cX5_notes 2 none 0 0 D [.ref a] none (bX5 cI cZ a q x) A p e s m below meth c H locs (F0 m 39 ls []) := by
      intro H locs ls hP hD hS hl
      have hf := hfz12
      refine lv_aload_n (pc := 39) hx hb dX5_notes_39 rfl (lv_at hl 0 rfl) ?_
      refine lv_dup (pc := 40) hx hb dX5_notes_40 rfl ?_
      refine va_get (pc := 41) (D := D) (ci := 5) (v := .int (z12.2.1 2)) (C := RX5) (T := TX5) (N := 41) hx hb hts iX5 hown hK.1 hP 0 rfl rfl 2 (by decide) (hts _ fl_RX5_111) (fun _ h => h) rfl dX5_notes_41 ?_
      refine lv_iconst (v := 1) (pc := 44) hx hb dX5_notes_44 (by decide) ?_
      refine lv_isub (pc := 45) hx hb dX5_notes_45 ?_
      obtain ⟨o15, eo15, hf⟩ := lt_some hf
      refine va_put (pc := 46) (D := D) (ci := 5) (v := .int ((z12.2.1 2) - 1)) (ty := .int) (C := RX5) (T := TX5) (N := 41) hx hb hts iX5 tyX5 tyX5_ok nmX5 hown hK.1 hP hD hS 0 rfl rfl 2 (by decide) (hts _ fl_RX5_111) (fun _ h => h) rfl (tyX5_ok 2 (by decide)) rfl rfl (Nat.le_of_ble_eq_true rfl) dX5_notes_46 (fun H locs hP hD hS => ?_)
      replace hP : va_P D vwCl (bX5 cI cZ a q o15) H := by rw [eo15]; exact hP
      replace hD : va_D A (bX5 cI cZ a q o15) := by rw [eo15]; exact hD
      obtain rfl := Option.some.inj hf
      exact K2 H locs ls hP hD hS (lv_sub hl [0] rfl)
    have KL14 : ∀ (n : Nat) (v1 : Int32) (w_M : OS) (H : Heap) (locs : List Loc) (ls : Array Slot), lp_X5_notes_11 n v1 w_M = some z12 → va_P D vwCl (bX5 cI cZ a q w_M) H → va_D A (bX5 cI cZ a q w_M) → va_S A s.heap H locs → lv_has ls 2 [(0, .ref a), (1, .int v1)] → GW l yX5_notes cX5_notes 2 none 0 0 D [.ref a] none (bX5 cI cZ a q x) A p e s m below meth c H locs (F0 m 11 ls []) := by
      intro n
      induction n with
      | zero => intro v1 w_M H locs ls hf; cases hf
      | succ n ih =>
        intro v1 w_M H locs ls hf hP hD hS hl
        rw [lp_X5_notes_11] at hf
        refine lv_iload_n (pc := 11) hx hb dX5_notes_11 rfl (lv_at hl 1 rfl) ?_
        refine lv_sipush (v := 295) (pc := 12) hx hb dX5_notes_12 (by decide) ?_
        refine lv_icmp_ge (pc := 15) (tgt := 39) hx hb dX5_notes_15 (by decide) (fun c16 => ?_) (fun c16 => ?_)
        · replace hf := ip c16 hf
          obtain rfl := Option.some.inj hf
          exact K13 H locs ls hP hD hS (lv_sub hl [0, 1] rfl)
        · replace hf := im c16 hf
          refine lv_aload_n (pc := 18) hx hb dX5_notes_18 rfl (lv_at hl 0 rfl) ?_
          refine va_get (pc := 19) (D := D) (ci := 5) (v := .ref (q 1)) (C := RX5) (T := TX5) (N := 41) hx hb hts iX5 hown hK.1 hP 0 rfl rfl 1 (by decide) (hts _ fl_RX5_13) (fun _ h => h) rfl dX5_notes_19 ?_
          refine lv_iload_n (pc := 22) hx hb dX5_notes_22 rfl (lv_at hl 1 rfl) ?_
          refine lv_aload_n (pc := 23) hx hb dX5_notes_23 rfl (lv_at hl 0 rfl) ?_
          refine va_get (pc := 24) (D := D) (ci := 5) (v := .ref (q 1)) (C := RX5) (T := TX5) (N := 41) hx hb hts iX5 hown hK.1 hP 0 rfl rfl 1 (by decide) (hts _ fl_RX5_13) (fun _ h => h) rfl dX5_notes_24 ?_
          refine lv_iload_n (pc := 27) hx hb dX5_notes_27 rfl (lv_at hl 1 rfl) ?_
          refine lv_bipush (v := 59) (pc := 28) hx hb dX5_notes_28 (by decide) ?_
          refine lv_iadd (pc := 30) hx hb dX5_notes_30 ?_
          obtain ⟨h17, hf⟩ := ck_some hf
          refine va_iald (pc := 31) (f := w_M.2.2 1) hx hb hK.1 hP 2 0 rfl rfl h17 dX5_notes_31 ?_
          obtain ⟨h18, hf⟩ := ck_some hf
          obtain ⟨o19, eo19, hf⟩ := lt_some hf
          refine va_iast (pc := 32) (f := w_M.2.2 1) hx hb hK.1 hP hD hS 2 0 rfl rfl h18 dX5_notes_32 (fun H locs hP hD hS => ?_)
          replace hP : va_P D vwCl (bX5 cI cZ a q o19) H := by rw [eo19]; exact hP
          replace hD : va_D A (bX5 cI cZ a q o19) := by rw [eo19]; exact hD
          refine lv_iinc (v := (v1 + 1)) (lv' := [(1, .int (v1 + 1)), (0, .ref a)]) (pc := 33) hx hb dX5_notes_33 hl (k := 1) rfl rfl (by decide) rfl (fun ls hl => ?_)
          refine lv_goto (pc := 36) (tgt := 11) hx hb dX5_notes_36 (by decide) ?_
          exact ih _ _ H locs ls hf hP hD hS (lv_sub hl [1, 0] rfl)
    exact KL14 1000 _ _ H locs ls hz12 hP hD hS (lv_sub hl [1, 0] rfl)
def lp_X5_isTaken_5 (r1 : Int32) (r2 : Int32) (u_M : OS) : Nat → Int32 → Int32 → Option (Int32 × Int32)
  | 0, _, _ => none
  | n + 1, v3, v4 => if (u_M.2.2 0 (0 : Int32).toNatClampNeg) ≤ v4 then some (v3, v4) else if v3 = 0 then Option.bind (f_X5_ofPile v4 0 u_M) fun x8 => if x8 = r1 then Option.bind (f_X5_ofPile v4 1 u_M) fun x10 => if x10 = r2 then lp_X5_isTaken_5 r1 r2 u_M n 1 (v4 + 1) else lp_X5_isTaken_5 r1 r2 u_M n 0 (v4 + 1) else lp_X5_isTaken_5 r1 r2 u_M n 0 (v4 + 1) else lp_X5_isTaken_5 r1 r2 u_M n 1 (v4 + 1)
def f_X5_isTaken (i0 : Int32) (i1 : Int32) (om : OS) : Option Int32 := Option.bind (lp_X5_isTaken_5 i0 i1 om 1000 0 0) fun z1 => bz z1.1 (some z1.1)
set_option maxHeartbeats 4000000 in
set_option maxRecDepth 100000 in
theorem c_X5_isTaken (l : Launch) (D : va_G) (cI cZ cS : ClassId) (a : Nat) (q : Nat → Nat) (i0 : Int32) (i1 : Int32) (om : OS) (x : Int32) (hf : f_X5_isTaken i0 i1 om = some x) : Ct l yX5_isTaken cX5_isTaken 5 (some .boolean) 1 22 D cI cZ cS [.ref a, .int i0, .int i1] (bX5 cI cZ a q om) (some (.int x)) (bX5 cI cZ a q om) := by
  intro sz
  refine Met.ofW (cc := cX5_isTaken) (maxL := 5) (ret := (some .boolean)) (by decide +kernel) rfl ?_
  intro p e s m args below meth c s₁ B hml hv
  obtain ⟨rfl, hsz, hP, hK, hD0⟩ := hv
  have hx := B.exec
  have hb := B.bytes
  have hr := B.returns
  have hts0 := atoms_spec (ws := .code yX5_isTaken cX5_isTaken 5 (some .boolean) :: TB) B.pre
  have hts := fun w (h : w ∈ TB) => hts0 w (List.mem_cons_of_mem _ h)
  have hown : s.vm.findClass RX5 = some m.cls := findClass_of_methodNamed B.named
  have hlocks := B.notSynchronized
  subst hsz
  have hD := hD0.self (sz := s.heap.size)
  generalize hAe : va_A (bX5 cI cZ a q om) s.heap.size = A at hD ⊢
  have hA : ∀ q : Nat, s.heap.size ≤ q → A q := fun q h => by rw [← hAe]; exact Or.inr h
  have hS : va_S A s.heap s.heap [] := va_S.rf
  obtain ⟨H, hH⟩ : ∃ H, H = s.heap := ⟨_, rfl⟩
  rw [← hH] at hP
  have hS : va_S A s.heap H [] := by rw [hH]; exact hS
  have hl := lv_entry ([.ref a, .int i0, .int i1]) (n := 5) (Nat.le_of_ble_eq_true rfl)
  rw [lg_entry_eq]
  generalize (lg_sl ([.ref a, .int i0, .int i1]) ++ List.replicate (5 - (lg_sl ([.ref a, .int i0, .int i1])).length) Slot.unset).toArray = ls at hl ⊢
  have hl : lv_has ls 5 [(0, .ref a), (1, .int i0), (2, .int i1)] := hl
  refine W_heap hH ?_
  obtain ⟨locs, hlo⟩ : ∃ locs : List Loc, locs = [] := ⟨_, rfl⟩
  rw [← hlo] at hS ⊢
  unfold f_X5_isTaken at hf
  refine lv_iconst (v := 0) (pc := 0) hx hb dX5_isTaken_0 (by decide) ?_
  refine lv_istore_n (lv' := [(3, .int 0), (0, .ref a), (1, .int i0), (2, .int i1)]) (pc := 1) hx hb dX5_isTaken_1 rfl hl (by decide) rfl (fun ls hl => ?_)
  refine lv_iconst (v := 0) (pc := 2) hx hb dX5_isTaken_2 (by decide) ?_
  refine lv_istore (lv' := [(4, .int 0), (3, .int 0), (0, .ref a), (1, .int i0), (2, .int i1)]) (pc := 3) hx hb dX5_isTaken_3 hl (by decide) rfl (fun ls hl => ?_)
  obtain ⟨z1, hz1, hf⟩ := bd_some hf
  have hfz1 := hf
  clear hf
  have K2 : ∀ (H : Heap) (locs : List Loc) (ls : Array Slot), va_P D vwCl (bX5 cI cZ a q om) H → va_D A (bX5 cI cZ a q om) → va_S A s.heap H locs → lv_has ls 5 [(0, .ref a), (1, .int i0), (2, .int i1), (3, .int z1.1), (4, .int z1.2)] → GW l yX5_isTaken cX5_isTaken 5 (some .boolean) 1 22 D [.ref a, .int i0, .int i1] (some (.int x)) (bX5 cI cZ a q om) A p e s m below meth c H locs (F0 m 54 ls []) := by
    intro H locs ls hP hD hS hl
    have hf := hfz1
    refine lv_iload_n (pc := 54) hx hb dX5_isTaken_54 rfl (lv_at hl 3 rfl) ?_
    obtain ⟨h4, hf⟩ := bz_some hf
    obtain rfl := Option.some.inj hf
    exact W.zret hx hb hr h4 (fun t ht hW => ⟨rfl, by rw [ht]; exact hP, hD, hS.F ht⟩) hS.2.2 dX5_isTaken_55
  have KL3 : ∀ (n : Nat) (v3 : Int32) (v4 : Int32) (H : Heap) (locs : List Loc) (ls : Array Slot), lp_X5_isTaken_5 i0 i1 om n v3 v4 = some z1 → va_P D vwCl (bX5 cI cZ a q om) H → va_D A (bX5 cI cZ a q om) → va_S A s.heap H locs → lv_has ls 5 [(0, .ref a), (1, .int i0), (2, .int i1), (3, .int v3), (4, .int v4)] → GW l yX5_isTaken cX5_isTaken 5 (some .boolean) 1 22 D [.ref a, .int i0, .int i1] (some (.int x)) (bX5 cI cZ a q om) A p e s m below meth c H locs (F0 m 5 ls []) := by
    intro n
    induction n with
    | zero => intro v3 v4 H locs ls hf; cases hf
    | succ n ih =>
      intro v3 v4 H locs ls hf hP hD hS hl
      rw [lp_X5_isTaken_5] at hf
      refine lv_iload (pc := 5) hx hb dX5_isTaken_5 (lv_at hl 4 rfl) ?_
      refine lv_aload_n (pc := 7) hx hb dX5_isTaken_7 rfl (lv_at hl 0 rfl) ?_
      refine va_get (pc := 8) (D := D) (ci := 5) (v := .ref (q 0)) (C := RX5) (T := TX5) (N := 41) hx hb hts iX5 hown hK.1 hP 0 rfl rfl 0 (by decide) (hts _ fl_RX5_7) (fun _ h => h) rfl dX5_isTaken_8 ?_
      refine lv_iconst (v := 0) (pc := 11) hx hb dX5_isTaken_11 (by decide) ?_
      have h5 : vp_in 0 59 := by unfold vp_in; decide
      refine va_iald (pc := 12) (f := om.2.2 0) hx hb hK.1 hP 1 0 rfl rfl h5 dX5_isTaken_12 ?_
      refine lv_icmp_ge (pc := 13) (tgt := 54) hx hb dX5_isTaken_13 (by decide) (fun c6 => ?_) (fun c6 => ?_)
      · replace hf := ip c6 hf
        obtain rfl := Option.some.inj hf
        exact K2 H locs ls hP hD hS (lv_sub hl [0, 1, 2, 3, 4] rfl)
      · replace hf := im c6 hf
        refine lv_iload_n (pc := 16) hx hb dX5_isTaken_16 rfl (lv_at hl 3 rfl) ?_
        refine lv_if_ne (pc := 17) (tgt := 42) hx hb dX5_isTaken_17 (by decide) (fun c7 => ?_) (fun c7 => ?_)
        · replace hf := im c7 hf
          refine lv_iconst (v := 1) (pc := 42) hx hb dX5_isTaken_42 (by decide) ?_
          refine lv_goto (pc := 43) (tgt := 47) hx hb dX5_isTaken_43 (by decide) ?_
          refine lv_istore_n (lv' := [(3, .int 1), (0, .ref a), (1, .int i0), (2, .int i1), (4, .int v4)]) (pc := 47) hx hb dX5_isTaken_47 rfl hl (by decide) rfl (fun ls hl => ?_)
          refine lv_iinc (v := (v4 + 1)) (lv' := [(4, .int (v4 + 1)), (3, .int 1), (0, .ref a), (1, .int i0), (2, .int i1)]) (pc := 48) hx hb dX5_isTaken_48 hl (k := 4) rfl rfl (by decide) rfl (fun ls hl => ?_)
          refine lv_goto (pc := 51) (tgt := 5) hx hb dX5_isTaken_51 (by decide) ?_
          exact ih _ _ H locs ls hf hP hD hS (lv_sub hl [2, 3, 4, 1, 0] rfl)
        · replace hf := ip c7 hf
          refine lv_aload_n (pc := 20) hx hb dX5_isTaken_20 rfl (lv_at hl 0 rfl) ?_
          refine lv_iload (pc := 21) hx hb dX5_isTaken_21 (lv_at hl 4 rfl) ?_
          refine lv_iconst (v := 0) (pc := 23) hx hb dX5_isTaken_23 (by decide) ?_
          obtain ⟨x8, ex8, hf⟩ := bd_some hf
          refine ct_V1 (pc := 24) (As := [.int v4, .int 0]) (rest := []) (W1 := bX5 cI cZ a q om) ⟨hx, hb, hml, hown, hts⟩ hK (c_X5_ofPile l D cI cZ cS a q v4 0 om x8 ex8) gv_RX5_117 rfl hs_X5_ofPile rfl ⟨Nat.le_of_ble_eq_true rfl, Nat.le_of_ble_eq_true rfl⟩ (ci := 5) (q0 := 0) rfl rfl rfl hl.1 rfl (Nat.le_of_ble_eq_true rfl) dX5_isTaken_24 ⟨Nat.zero_le _, Nat.zero_le _⟩ hP hD hS hA (fun H locs hP hD hS => ?_)
          refine lv_iload_n (pc := 27) hx hb dX5_isTaken_27 rfl (lv_at hl 1 rfl) ?_
          refine lv_icmp_ne (pc := 28) (tgt := 46) hx hb dX5_isTaken_28 (by decide) (fun c9 => ?_) (fun c9 => ?_)
          · replace hf := im c9 hf
            refine lv_iconst (v := 0) (pc := 46) hx hb dX5_isTaken_46 (by decide) ?_
            refine lv_istore_n (lv' := [(3, .int 0), (0, .ref a), (1, .int i0), (2, .int i1), (4, .int v4)]) (pc := 47) hx hb dX5_isTaken_47 rfl hl (by decide) rfl (fun ls hl => ?_)
            refine lv_iinc (v := (v4 + 1)) (lv' := [(4, .int (v4 + 1)), (3, .int 0), (0, .ref a), (1, .int i0), (2, .int i1)]) (pc := 48) hx hb dX5_isTaken_48 hl (k := 4) rfl rfl (by decide) rfl (fun ls hl => ?_)
            refine lv_goto (pc := 51) (tgt := 5) hx hb dX5_isTaken_51 (by decide) ?_
            exact ih _ _ H locs ls hf hP hD hS (lv_sub hl [2, 3, 4, 1, 0] rfl)
          · replace hf := ip c9 hf
            refine lv_aload_n (pc := 31) hx hb dX5_isTaken_31 rfl (lv_at hl 0 rfl) ?_
            refine lv_iload (pc := 32) hx hb dX5_isTaken_32 (lv_at hl 4 rfl) ?_
            refine lv_iconst (v := 1) (pc := 34) hx hb dX5_isTaken_34 (by decide) ?_
            obtain ⟨x10, ex10, hf⟩ := bd_some hf
            refine ct_V1 (pc := 35) (As := [.int v4, .int 1]) (rest := []) (W1 := bX5 cI cZ a q om) ⟨hx, hb, hml, hown, hts⟩ hK (c_X5_ofPile l D cI cZ cS a q v4 1 om x10 ex10) gv_RX5_117 rfl hs_X5_ofPile rfl ⟨Nat.le_of_ble_eq_true rfl, Nat.le_of_ble_eq_true rfl⟩ (ci := 5) (q0 := 0) rfl rfl rfl hl.1 rfl (Nat.le_of_ble_eq_true rfl) dX5_isTaken_35 ⟨Nat.zero_le _, Nat.zero_le _⟩ hP hD hS hA (fun H locs hP hD hS => ?_)
            refine lv_iload_n (pc := 38) hx hb dX5_isTaken_38 rfl (lv_at hl 2 rfl) ?_
            refine lv_icmp_ne (pc := 39) (tgt := 46) hx hb dX5_isTaken_39 (by decide) (fun c11 => ?_) (fun c11 => ?_)
            · replace hf := im c11 hf
              refine lv_iconst (v := 0) (pc := 46) hx hb dX5_isTaken_46 (by decide) ?_
              refine lv_istore_n (lv' := [(3, .int 0), (0, .ref a), (1, .int i0), (2, .int i1), (4, .int v4)]) (pc := 47) hx hb dX5_isTaken_47 rfl hl (by decide) rfl (fun ls hl => ?_)
              refine lv_iinc (v := (v4 + 1)) (lv' := [(4, .int (v4 + 1)), (3, .int 0), (0, .ref a), (1, .int i0), (2, .int i1)]) (pc := 48) hx hb dX5_isTaken_48 hl (k := 4) rfl rfl (by decide) rfl (fun ls hl => ?_)
              refine lv_goto (pc := 51) (tgt := 5) hx hb dX5_isTaken_51 (by decide) ?_
              exact ih _ _ H locs ls hf hP hD hS (lv_sub hl [2, 3, 4, 1, 0] rfl)
            · replace hf := ip c11 hf
              refine lv_iconst (v := 1) (pc := 42) hx hb dX5_isTaken_42 (by decide) ?_
              refine lv_goto (pc := 43) (tgt := 47) hx hb dX5_isTaken_43 (by decide) ?_
              refine lv_istore_n (lv' := [(3, .int 1), (0, .ref a), (1, .int i0), (2, .int i1), (4, .int v4)]) (pc := 47) hx hb dX5_isTaken_47 rfl hl (by decide) rfl (fun ls hl => ?_)
              refine lv_iinc (v := (v4 + 1)) (lv' := [(4, .int (v4 + 1)), (3, .int 1), (0, .ref a), (1, .int i0), (2, .int i1)]) (pc := 48) hx hb dX5_isTaken_48 hl (k := 4) rfl rfl (by decide) rfl (fun ls hl => ?_)
              refine lv_goto (pc := 51) (tgt := 5) hx hb dX5_isTaken_51 (by decide) ?_
              exact ih _ _ H locs ls hf hP hD hS (lv_sub hl [2, 3, 4, 1, 0] rfl)
  exact KL3 1000 _ _ H locs ls hz1 hP hD hS (lv_sub hl [2, 3, 4, 1, 0] rfl)
def f_X5_isKind (i0 : Int32) (i1 : Int32) : Option Int32 := Option.bind (f_X5_in i0 1 9) fun x1 => if x1 = 0 then some 0 else Option.bind (f_X5_in i1 1 99) fun x3 => if x3 = 0 then some 0 else some 1
set_option maxHeartbeats 4000000 in
set_option maxRecDepth 100000 in
theorem c_X5_isKind (l : Launch) (D : va_G) (cI cZ cS : ClassId) (i0 : Int32) (i1 : Int32) (x : Int32) (hf : f_X5_isKind i0 i1 = some x) : Ct l yX5_isKind cX5_isKind 2 (some .boolean) 1 22 D cI cZ cS [.int i0, .int i1] ([]) (some (.int x)) ([]) := by
  intro sz
  refine Met.ofW (cc := cX5_isKind) (maxL := 2) (ret := (some .boolean)) (by decide +kernel) rfl ?_
  intro p e s m args below meth c s₁ B hml hv
  obtain ⟨rfl, hsz, hP, hK, hD0⟩ := hv
  have hx := B.exec
  have hb := B.bytes
  have hr := B.returns
  have hts0 := atoms_spec (ws := .code yX5_isKind cX5_isKind 2 (some .boolean) :: TB) B.pre
  have hts := fun w (h : w ∈ TB) => hts0 w (List.mem_cons_of_mem _ h)
  have hown : s.vm.findClass RX5 = some m.cls := findClass_of_methodNamed B.named
  have hlocks := B.notSynchronized
  subst hsz
  have hD := hD0.self (sz := s.heap.size)
  generalize hAe : va_A ([]) s.heap.size = A at hD ⊢
  have hA : ∀ q : Nat, s.heap.size ≤ q → A q := fun q h => by rw [← hAe]; exact Or.inr h
  have hS : va_S A s.heap s.heap [] := va_S.rf
  obtain ⟨H, hH⟩ : ∃ H, H = s.heap := ⟨_, rfl⟩
  rw [← hH] at hP
  have hS : va_S A s.heap H [] := by rw [hH]; exact hS
  have hl := lv_entry ([.int i0, .int i1]) (n := 2) (Nat.le_of_ble_eq_true rfl)
  rw [lg_entry_eq]
  generalize (lg_sl ([.int i0, .int i1]) ++ List.replicate (2 - (lg_sl ([.int i0, .int i1])).length) Slot.unset).toArray = ls at hl ⊢
  have hl : lv_has ls 2 [(0, .int i0), (1, .int i1)] := hl
  refine W_heap hH ?_
  obtain ⟨locs, hlo⟩ : ∃ locs : List Loc, locs = [] := ⟨_, rfl⟩
  rw [← hlo] at hS ⊢
  unfold f_X5_isKind at hf
  refine lv_iload_n (pc := 0) hx hb dX5_isKind_0 rfl (lv_at hl 0 rfl) ?_
  refine lv_iconst (v := 1) (pc := 1) hx hb dX5_isKind_1 (by decide) ?_
  refine lv_bipush (v := 9) (pc := 2) hx hb dX5_isKind_2 (by decide) ?_
  obtain ⟨x1, ex1, hf⟩ := bd_some hf
  refine ct_S0 (pc := 4) (As := [.int i0, .int 1, .int 9]) (rest := []) ⟨hx, hb, hml, hown, hts⟩ hK (c_X5_in l D cI cZ cS i0 1 9 x1 ex1) gs_RX5_57 hs_X5_in rfl ⟨Nat.le_of_ble_eq_true rfl, Nat.le_of_ble_eq_true rfl⟩ hl.1 rfl (Nat.le_of_ble_eq_true rfl) dX5_isKind_4 ⟨Nat.zero_le _, Nat.zero_le _⟩ hP hS hA (fun H locs hP hS => ?_)
  refine lv_if_eq (pc := 7) (tgt := 24) hx hb dX5_isKind_7 (by decide) (fun c2 => ?_) (fun c2 => ?_)
  · replace hf := ip c2 hf
    refine lv_iconst (v := 0) (pc := 24) hx hb dX5_isKind_24 (by decide) ?_
    obtain rfl := Option.some.inj hf
    exact W.zret hx hb hr rfl (fun t ht hW => ⟨rfl, by rw [ht]; exact hP, hD, hS.F ht⟩) hS.2.2 dX5_isKind_25
  · replace hf := im c2 hf
    refine lv_iload_n (pc := 10) hx hb dX5_isKind_10 rfl (lv_at hl 1 rfl) ?_
    refine lv_iconst (v := 1) (pc := 11) hx hb dX5_isKind_11 (by decide) ?_
    refine lv_bipush (v := 99) (pc := 12) hx hb dX5_isKind_12 (by decide) ?_
    obtain ⟨x3, ex3, hf⟩ := bd_some hf
    refine ct_S0 (pc := 14) (As := [.int i1, .int 1, .int 99]) (rest := []) ⟨hx, hb, hml, hown, hts⟩ hK (c_X5_in l D cI cZ cS i1 1 99 x3 ex3) gs_RX5_57 hs_X5_in rfl ⟨Nat.le_of_ble_eq_true rfl, Nat.le_of_ble_eq_true rfl⟩ hl.1 rfl (Nat.le_of_ble_eq_true rfl) dX5_isKind_14 ⟨Nat.zero_le _, Nat.zero_le _⟩ hP hS hA (fun H locs hP hS => ?_)
    refine lv_if_eq (pc := 17) (tgt := 24) hx hb dX5_isKind_17 (by decide) (fun c4 => ?_) (fun c4 => ?_)
    · replace hf := ip c4 hf
      refine lv_iconst (v := 0) (pc := 24) hx hb dX5_isKind_24 (by decide) ?_
      obtain rfl := Option.some.inj hf
      exact W.zret hx hb hr rfl (fun t ht hW => ⟨rfl, by rw [ht]; exact hP, hD, hS.F ht⟩) hS.2.2 dX5_isKind_25
    · replace hf := im c4 hf
      refine lv_iconst (v := 1) (pc := 20) hx hb dX5_isKind_20 (by decide) ?_
      refine lv_goto (pc := 21) (tgt := 25) hx hb dX5_isKind_21 (by decide) ?_
      obtain rfl := Option.some.inj hf
      exact W.zret hx hb hr rfl (fun t ht hW => ⟨rfl, by rw [ht]; exact hP, hD, hS.F ht⟩) hS.2.2 dX5_isKind_25
def f_X5_drives (i0 : Int32) (i1 : Int32) (i2 : Int32) (i3 : Int32) (om : OS) : Option (Int32 × OS) := Option.bind (f_X5_isPlace i0 i1) fun x1 => if x1 = 0 then some ((-1), om) else Option.bind (f_X5_isKind i2 i3) fun x3 => if x3 = 0 then some ((-1), om) else Option.bind (f_X5_isTaken i0 i1 om) fun x5 => if x5 = 0 then if (om.2.2 0 (0 : Int32).toNatClampNeg) = 8 then some ((-3), om) else Option.bind (f_X5_notes om) fun x9 => lt (1 + (5 * (x9.2.2 0 (0 : Int32).toNatClampNeg))) fun y11 => ck (y11 + 0) 59 (lt (sA x9 0 (((y11 + 0) : Int32).toNatClampNeg) i0) fun o13 => ck (y11 + 1) 59 (lt (sA o13 0 (((y11 + 1) : Int32).toNatClampNeg) i1) fun o15 => ck (y11 + 2) 59 (lt (sA o15 0 (((y11 + 2) : Int32).toNatClampNeg) i2) fun o17 => ck (y11 + 3) 59 (lt (sA o17 0 (((y11 + 3) : Int32).toNatClampNeg) i3) fun o19 => ck (y11 + 4) 59 (lt (sA o19 0 (((y11 + 4) : Int32).toNatClampNeg) 0) fun o21 => lt (sA o21 0 ((0 : Int32).toNatClampNeg) ((o21.2.2 0 (0 : Int32).toNatClampNeg) + 1)) fun o24 => some (((o24.2.2 0 (0 : Int32).toNatClampNeg) - 1), o24)))))) else some ((-2), om)
set_option maxHeartbeats 4000000 in
set_option maxRecDepth 100000 in
theorem c_X5_drives (l : Launch) (D : va_G) (cI cZ cS : ClassId) (a : Nat) (q : Nat → Nat) (i0 : Int32) (i1 : Int32) (i2 : Int32) (i3 : Int32) (om : OS) (x : (Int32 × OS)) (hf : f_X5_drives i0 i1 i2 i3 om = some x) : Ct l yX5_drives cX5_drives 6 (some .int) 2 46 D cI cZ cS [.ref a, .int i0, .int i1, .int i2, .int i3] (bX5 cI cZ a q om) (some (.int x.1)) (bX5 cI cZ a q x.2) := by
  intro sz
  refine Met.ofW (cc := cX5_drives) (maxL := 6) (ret := (some .int)) (by decide +kernel) rfl ?_
  intro p e s m args below meth c s₁ B hml hv
  obtain ⟨rfl, hsz, hP, hK, hD0⟩ := hv
  have hx := B.exec
  have hb := B.bytes
  have hr := B.returns
  have hts0 := atoms_spec (ws := .code yX5_drives cX5_drives 6 (some .int) :: TB) B.pre
  have hts := fun w (h : w ∈ TB) => hts0 w (List.mem_cons_of_mem _ h)
  have hown : s.vm.findClass RX5 = some m.cls := findClass_of_methodNamed B.named
  have hlocks := B.notSynchronized
  subst hsz
  have hD := hD0.self (sz := s.heap.size)
  generalize hAe : va_A (bX5 cI cZ a q om) s.heap.size = A at hD ⊢
  have hA : ∀ q : Nat, s.heap.size ≤ q → A q := fun q h => by rw [← hAe]; exact Or.inr h
  have hS : va_S A s.heap s.heap [] := va_S.rf
  obtain ⟨H, hH⟩ : ∃ H, H = s.heap := ⟨_, rfl⟩
  rw [← hH] at hP
  have hS : va_S A s.heap H [] := by rw [hH]; exact hS
  have hl := lv_entry ([.ref a, .int i0, .int i1, .int i2, .int i3]) (n := 6) (Nat.le_of_ble_eq_true rfl)
  rw [lg_entry_eq]
  generalize (lg_sl ([.ref a, .int i0, .int i1, .int i2, .int i3]) ++ List.replicate (6 - (lg_sl ([.ref a, .int i0, .int i1, .int i2, .int i3])).length) Slot.unset).toArray = ls at hl ⊢
  have hl : lv_has ls 6 [(0, .ref a), (1, .int i0), (2, .int i1), (3, .int i2), (4, .int i3)] := hl
  refine W_heap hH ?_
  obtain ⟨locs, hlo⟩ : ∃ locs : List Loc, locs = [] := ⟨_, rfl⟩
  rw [← hlo] at hS ⊢
  unfold f_X5_drives at hf
  refine lv_iload_n (pc := 0) hx hb dX5_drives_0 rfl (lv_at hl 1 rfl) ?_
  refine lv_iload_n (pc := 1) hx hb dX5_drives_1 rfl (lv_at hl 2 rfl) ?_
  obtain ⟨x1, ex1, hf⟩ := bd_some hf
  refine ct_S0 (pc := 2) (As := [.int i0, .int i1]) (rest := []) ⟨hx, hb, hml, hown, hts⟩ hK (c_X5_isPlace l D cI cZ cS i0 i1 x1 ex1) gs_RX5_121 hs_X5_isPlace rfl ⟨Nat.le_of_ble_eq_true rfl, Nat.le_of_ble_eq_true rfl⟩ hl.1 rfl (Nat.le_of_ble_eq_true rfl) dX5_drives_2 ⟨Nat.zero_le _, Nat.zero_le _⟩ hP hS hA (fun H locs hP hS => ?_)
  refine lv_if_eq (pc := 5) (tgt := 17) hx hb dX5_drives_5 (by decide) (fun c2 => ?_) (fun c2 => ?_)
  · replace hf := ip c2 hf
    refine lv_iconst (v := -1) (pc := 17) hx hb dX5_drives_17 (by decide) ?_
    obtain rfl := Option.some.inj hf
    exact W.iret hx hb hr (fun t ht hW => ⟨rfl, by rw [ht]; exact hP, hD, hS.F ht⟩) hS.2.2 dX5_drives_18
  · replace hf := im c2 hf
    refine lv_iload_n (pc := 8) hx hb dX5_drives_8 rfl (lv_at hl 3 rfl) ?_
    refine lv_iload (pc := 9) hx hb dX5_drives_9 (lv_at hl 4 rfl) ?_
    obtain ⟨x3, ex3, hf⟩ := bd_some hf
    refine ct_S0 (pc := 11) (As := [.int i2, .int i3]) (rest := []) ⟨hx, hb, hml, hown, hts⟩ hK (c_X5_isKind l D cI cZ cS i2 i3 x3 ex3) gs_RX5_124 hs_X5_isKind rfl ⟨Nat.le_of_ble_eq_true rfl, Nat.le_of_ble_eq_true rfl⟩ hl.1 rfl (Nat.le_of_ble_eq_true rfl) dX5_drives_11 ⟨Nat.zero_le _, Nat.zero_le _⟩ hP hS hA (fun H locs hP hS => ?_)
    refine lv_if_ne (pc := 14) (tgt := 19) hx hb dX5_drives_14 (by decide) (fun c4 => ?_) (fun c4 => ?_)
    · replace hf := im c4 hf
      refine lv_aload_n (pc := 19) hx hb dX5_drives_19 rfl (lv_at hl 0 rfl) ?_
      refine lv_iload_n (pc := 20) hx hb dX5_drives_20 rfl (lv_at hl 1 rfl) ?_
      refine lv_iload_n (pc := 21) hx hb dX5_drives_21 rfl (lv_at hl 2 rfl) ?_
      obtain ⟨x5, ex5, hf⟩ := bd_some hf
      refine ct_V1 (pc := 22) (As := [.int i0, .int i1]) (rest := []) (W1 := bX5 cI cZ a q om) ⟨hx, hb, hml, hown, hts⟩ hK (c_X5_isTaken l D cI cZ cS a q i0 i1 om x5 ex5) gv_RX5_127 rfl hs_X5_isTaken rfl ⟨Nat.le_of_ble_eq_true rfl, Nat.le_of_ble_eq_true rfl⟩ (ci := 5) (q0 := 0) rfl rfl rfl hl.1 rfl (Nat.le_of_ble_eq_true rfl) dX5_drives_22 ⟨Nat.zero_le _, Nat.zero_le _⟩ hP hD hS hA (fun H locs hP hD hS => ?_)
      refine lv_if_eq (pc := 25) (tgt := 31) hx hb dX5_drives_25 (by decide) (fun c6 => ?_) (fun c6 => ?_)
      · replace hf := ip c6 hf
        refine lv_aload_n (pc := 31) hx hb dX5_drives_31 rfl (lv_at hl 0 rfl) ?_
        refine va_get (pc := 32) (D := D) (ci := 5) (v := .ref (q 0)) (C := RX5) (T := TX5) (N := 41) hx hb hts iX5 hown hK.1 hP 0 rfl rfl 0 (by decide) (hts _ fl_RX5_7) (fun _ h => h) rfl dX5_drives_32 ?_
        refine lv_iconst (v := 0) (pc := 35) hx hb dX5_drives_35 (by decide) ?_
        have h7 : vp_in 0 59 := by unfold vp_in; decide
        refine va_iald (pc := 36) (f := om.2.2 0) hx hb hK.1 hP 1 0 rfl rfl h7 dX5_drives_36 ?_
        refine lv_bipush (v := 8) (pc := 37) hx hb dX5_drives_37 (by decide) ?_
        refine lv_icmp_ne (pc := 39) (tgt := 45) hx hb dX5_drives_39 (by decide) (fun c8 => ?_) (fun c8 => ?_)
        · replace hf := im c8 hf
          refine lv_aload_n (pc := 45) hx hb dX5_drives_45 rfl (lv_at hl 0 rfl) ?_
          obtain ⟨x9, ex9, hf⟩ := bd_some hf
          refine ct_V1 (pc := 46) (As := []) (rest := []) (W1 := bX5 cI cZ a q x9) ⟨hx, hb, hml, hown, hts⟩ hK (c_X5_notes l D cI cZ cS a q om x9 ex9) gv_RX5_130 rfl hs_X5_notes rfl ⟨Nat.le_of_ble_eq_true rfl, Nat.le_of_ble_eq_true rfl⟩ (ci := 5) (q0 := 0) rfl rfl rfl hl.1 rfl (Nat.le_of_ble_eq_true rfl) dX5_drives_46 ⟨Nat.zero_le _, Nat.zero_le _⟩ hP hD hS hA (fun H locs hP hD hS => ?_)
          refine lv_iconst (v := 1) (pc := 49) hx hb dX5_drives_49 (by decide) ?_
          refine lv_iconst (v := 5) (pc := 50) hx hb dX5_drives_50 (by decide) ?_
          refine lv_aload_n (pc := 51) hx hb dX5_drives_51 rfl (lv_at hl 0 rfl) ?_
          refine va_get (pc := 52) (D := D) (ci := 5) (v := .ref (q 0)) (C := RX5) (T := TX5) (N := 41) hx hb hts iX5 hown hK.1 hP 0 rfl rfl 0 (by decide) (hts _ fl_RX5_7) (fun _ h => h) rfl dX5_drives_52 ?_
          refine lv_iconst (v := 0) (pc := 55) hx hb dX5_drives_55 (by decide) ?_
          have h10 : vp_in 0 59 := by unfold vp_in; decide
          refine va_iald (pc := 56) (f := x9.2.2 0) hx hb hK.1 hP 1 0 rfl rfl h10 dX5_drives_56 ?_
          refine lv_imul (pc := 57) hx hb dX5_drives_57 ?_
          refine lv_iadd (pc := 58) hx hb dX5_drives_58 ?_
          obtain ⟨y11, ey11, hf⟩ := lt_some hf
          refine lv_nmI ey11 ?_
          refine lv_istore (lv' := [(5, .int y11), (0, .ref a), (1, .int i0), (2, .int i1), (3, .int i2), (4, .int i3)]) (pc := 59) hx hb dX5_drives_59 hl (by decide) rfl (fun ls hl => ?_)
          refine lv_aload_n (pc := 61) hx hb dX5_drives_61 rfl (lv_at hl 1 rfl) ?_
          refine va_get (pc := 62) (D := D) (ci := 5) (v := .ref (q 0)) (C := RX5) (T := TX5) (N := 41) hx hb hts iX5 hown hK.1 hP 0 rfl rfl 0 (by decide) (hts _ fl_RX5_7) (fun _ h => h) rfl dX5_drives_62 ?_
          refine lv_iload (pc := 65) hx hb dX5_drives_65 (lv_at hl 0 rfl) ?_
          refine lv_iconst (v := 0) (pc := 67) hx hb dX5_drives_67 (by decide) ?_
          refine lv_iadd (pc := 68) hx hb dX5_drives_68 ?_
          refine lv_iload_n (pc := 69) hx hb dX5_drives_69 rfl (lv_at hl 2 rfl) ?_
          obtain ⟨h12, hf⟩ := ck_some hf
          obtain ⟨o13, eo13, hf⟩ := lt_some hf
          refine va_iast (pc := 70) (f := x9.2.2 0) hx hb hK.1 hP hD hS 1 0 rfl rfl h12 dX5_drives_70 (fun H locs hP hD hS => ?_)
          replace hP : va_P D vwCl (bX5 cI cZ a q o13) H := by rw [eo13]; exact hP
          replace hD : va_D A (bX5 cI cZ a q o13) := by rw [eo13]; exact hD
          refine lv_aload_n (pc := 71) hx hb dX5_drives_71 rfl (lv_at hl 1 rfl) ?_
          refine va_get (pc := 72) (D := D) (ci := 5) (v := .ref (q 0)) (C := RX5) (T := TX5) (N := 41) hx hb hts iX5 hown hK.1 hP 0 rfl rfl 0 (by decide) (hts _ fl_RX5_7) (fun _ h => h) rfl dX5_drives_72 ?_
          refine lv_iload (pc := 75) hx hb dX5_drives_75 (lv_at hl 0 rfl) ?_
          refine lv_iconst (v := 1) (pc := 77) hx hb dX5_drives_77 (by decide) ?_
          refine lv_iadd (pc := 78) hx hb dX5_drives_78 ?_
          refine lv_iload_n (pc := 79) hx hb dX5_drives_79 rfl (lv_at hl 3 rfl) ?_
          obtain ⟨h14, hf⟩ := ck_some hf
          obtain ⟨o15, eo15, hf⟩ := lt_some hf
          refine va_iast (pc := 80) (f := o13.2.2 0) hx hb hK.1 hP hD hS 1 0 rfl rfl h14 dX5_drives_80 (fun H locs hP hD hS => ?_)
          replace hP : va_P D vwCl (bX5 cI cZ a q o15) H := by rw [eo15]; exact hP
          replace hD : va_D A (bX5 cI cZ a q o15) := by rw [eo15]; exact hD
          refine lv_aload_n (pc := 81) hx hb dX5_drives_81 rfl (lv_at hl 1 rfl) ?_
          refine va_get (pc := 82) (D := D) (ci := 5) (v := .ref (q 0)) (C := RX5) (T := TX5) (N := 41) hx hb hts iX5 hown hK.1 hP 0 rfl rfl 0 (by decide) (hts _ fl_RX5_7) (fun _ h => h) rfl dX5_drives_82 ?_
          refine lv_iload (pc := 85) hx hb dX5_drives_85 (lv_at hl 0 rfl) ?_
          refine lv_iconst (v := 2) (pc := 87) hx hb dX5_drives_87 (by decide) ?_
          refine lv_iadd (pc := 88) hx hb dX5_drives_88 ?_
          refine lv_iload_n (pc := 89) hx hb dX5_drives_89 rfl (lv_at hl 4 rfl) ?_
          obtain ⟨h16, hf⟩ := ck_some hf
          obtain ⟨o17, eo17, hf⟩ := lt_some hf
          refine va_iast (pc := 90) (f := o15.2.2 0) hx hb hK.1 hP hD hS 1 0 rfl rfl h16 dX5_drives_90 (fun H locs hP hD hS => ?_)
          replace hP : va_P D vwCl (bX5 cI cZ a q o17) H := by rw [eo17]; exact hP
          replace hD : va_D A (bX5 cI cZ a q o17) := by rw [eo17]; exact hD
          refine lv_aload_n (pc := 91) hx hb dX5_drives_91 rfl (lv_at hl 1 rfl) ?_
          refine va_get (pc := 92) (D := D) (ci := 5) (v := .ref (q 0)) (C := RX5) (T := TX5) (N := 41) hx hb hts iX5 hown hK.1 hP 0 rfl rfl 0 (by decide) (hts _ fl_RX5_7) (fun _ h => h) rfl dX5_drives_92 ?_
          refine lv_iload (pc := 95) hx hb dX5_drives_95 (lv_at hl 0 rfl) ?_
          refine lv_iconst (v := 3) (pc := 97) hx hb dX5_drives_97 (by decide) ?_
          refine lv_iadd (pc := 98) hx hb dX5_drives_98 ?_
          refine lv_iload (pc := 99) hx hb dX5_drives_99 (lv_at hl 5 rfl) ?_
          obtain ⟨h18, hf⟩ := ck_some hf
          obtain ⟨o19, eo19, hf⟩ := lt_some hf
          refine va_iast (pc := 101) (f := o17.2.2 0) hx hb hK.1 hP hD hS 1 0 rfl rfl h18 dX5_drives_101 (fun H locs hP hD hS => ?_)
          replace hP : va_P D vwCl (bX5 cI cZ a q o19) H := by rw [eo19]; exact hP
          replace hD : va_D A (bX5 cI cZ a q o19) := by rw [eo19]; exact hD
          refine lv_aload_n (pc := 102) hx hb dX5_drives_102 rfl (lv_at hl 1 rfl) ?_
          refine va_get (pc := 103) (D := D) (ci := 5) (v := .ref (q 0)) (C := RX5) (T := TX5) (N := 41) hx hb hts iX5 hown hK.1 hP 0 rfl rfl 0 (by decide) (hts _ fl_RX5_7) (fun _ h => h) rfl dX5_drives_103 ?_
          refine lv_iload (pc := 106) hx hb dX5_drives_106 (lv_at hl 0 rfl) ?_
          refine lv_iconst (v := 4) (pc := 108) hx hb dX5_drives_108 (by decide) ?_
          refine lv_iadd (pc := 109) hx hb dX5_drives_109 ?_
          refine lv_iconst (v := 0) (pc := 110) hx hb dX5_drives_110 (by decide) ?_
          obtain ⟨h20, hf⟩ := ck_some hf
          obtain ⟨o21, eo21, hf⟩ := lt_some hf
          refine va_iast (pc := 111) (f := o19.2.2 0) hx hb hK.1 hP hD hS 1 0 rfl rfl h20 dX5_drives_111 (fun H locs hP hD hS => ?_)
          replace hP : va_P D vwCl (bX5 cI cZ a q o21) H := by rw [eo21]; exact hP
          replace hD : va_D A (bX5 cI cZ a q o21) := by rw [eo21]; exact hD
          refine lv_aload_n (pc := 112) hx hb dX5_drives_112 rfl (lv_at hl 1 rfl) ?_
          refine va_get (pc := 113) (D := D) (ci := 5) (v := .ref (q 0)) (C := RX5) (T := TX5) (N := 41) hx hb hts iX5 hown hK.1 hP 0 rfl rfl 0 (by decide) (hts _ fl_RX5_7) (fun _ h => h) rfl dX5_drives_113 ?_
          refine lv_iconst (v := 0) (pc := 116) hx hb dX5_drives_116 (by decide) ?_
          refine lv_dup2_11 (pc := 117) hx hb dX5_drives_117 rfl rfl ?_
          have h22 : vp_in 0 59 := by unfold vp_in; decide
          refine va_iald (pc := 118) (f := o21.2.2 0) hx hb hK.1 hP 1 0 rfl rfl h22 dX5_drives_118 ?_
          refine lv_iconst (v := 1) (pc := 119) hx hb dX5_drives_119 (by decide) ?_
          refine lv_iadd (pc := 120) hx hb dX5_drives_120 ?_
          have h23 : vp_in 0 59 := by unfold vp_in; decide
          obtain ⟨o24, eo24, hf⟩ := lt_some hf
          refine va_iast (pc := 121) (f := o21.2.2 0) hx hb hK.1 hP hD hS 1 0 rfl rfl h23 dX5_drives_121 (fun H locs hP hD hS => ?_)
          replace hP : va_P D vwCl (bX5 cI cZ a q o24) H := by rw [eo24]; exact hP
          replace hD : va_D A (bX5 cI cZ a q o24) := by rw [eo24]; exact hD
          refine lv_aload_n (pc := 122) hx hb dX5_drives_122 rfl (lv_at hl 1 rfl) ?_
          refine va_get (pc := 123) (D := D) (ci := 5) (v := .ref (q 0)) (C := RX5) (T := TX5) (N := 41) hx hb hts iX5 hown hK.1 hP 0 rfl rfl 0 (by decide) (hts _ fl_RX5_7) (fun _ h => h) rfl dX5_drives_123 ?_
          refine lv_iconst (v := 0) (pc := 126) hx hb dX5_drives_126 (by decide) ?_
          have h25 : vp_in 0 59 := by unfold vp_in; decide
          refine va_iald (pc := 127) (f := o24.2.2 0) hx hb hK.1 hP 1 0 rfl rfl h25 dX5_drives_127 ?_
          refine lv_iconst (v := 1) (pc := 128) hx hb dX5_drives_128 (by decide) ?_
          refine lv_isub (pc := 129) hx hb dX5_drives_129 ?_
          obtain rfl := Option.some.inj hf
          exact W.iret hx hb hr (fun t ht hW => ⟨rfl, by rw [ht]; exact hP, hD, hS.F ht⟩) hS.2.2 dX5_drives_130
        · replace hf := ip c8 hf
          refine lv_bipush (v := -3) (pc := 42) hx hb dX5_drives_42 (by decide) ?_
          obtain rfl := Option.some.inj hf
          exact W.iret hx hb hr (fun t ht hW => ⟨rfl, by rw [ht]; exact hP, hD, hS.F ht⟩) hS.2.2 dX5_drives_44
      · replace hf := im c6 hf
        refine lv_bipush (v := -2) (pc := 28) hx hb dX5_drives_28 (by decide) ?_
        obtain rfl := Option.some.inj hf
        exact W.iret hx hb hr (fun t ht hW => ⟨rfl, by rw [ht]; exact hP, hD, hS.F ht⟩) hS.2.2 dX5_drives_30
    · replace hf := ip c4 hf
      refine lv_iconst (v := -1) (pc := 17) hx hb dX5_drives_17 (by decide) ?_
      obtain rfl := Option.some.inj hf
      exact W.iret hx hb hr (fun t ht hW => ⟨rfl, by rw [ht]; exact hP, hD, hS.F ht⟩) hS.2.2 dX5_drives_18
def lp_X5_wholes_4 (u_M : OS) : Nat → Int32 → Int32 → Option (Int32 × Int32)
  | 0, _, _ => none
  | n + 1, v1, v2 => if (u_M.2.2 0 (0 : Int32).toNatClampNeg) ≤ v2 then some (v1, v2) else Option.bind (f_X5_ofPile v2 4 u_M) fun x6 => if x6 = 0 then lp_X5_wholes_4 u_M n (v1 + 1) (v2 + 1) else lp_X5_wholes_4 u_M n (v1 + 0) (v2 + 1)
def f_X5_wholes (om : OS) : Option Int32 := Option.bind (lp_X5_wholes_4 om 1000 0 0) fun z1 => some z1.1
set_option maxHeartbeats 4000000 in
set_option maxRecDepth 100000 in
theorem c_X5_wholes (l : Launch) (D : va_G) (cI cZ cS : ClassId) (a : Nat) (q : Nat → Nat) (om : OS) (x : Int32) (hf : f_X5_wholes om = some x) : Ct l yX5_wholes cX5_wholes 3 (some .int) 1 22 D cI cZ cS [.ref a] (bX5 cI cZ a q om) (some (.int x)) (bX5 cI cZ a q om) := by
  intro sz
  refine Met.ofW (cc := cX5_wholes) (maxL := 3) (ret := (some .int)) (by decide +kernel) rfl ?_
  intro p e s m args below meth c s₁ B hml hv
  obtain ⟨rfl, hsz, hP, hK, hD0⟩ := hv
  have hx := B.exec
  have hb := B.bytes
  have hr := B.returns
  have hts0 := atoms_spec (ws := .code yX5_wholes cX5_wholes 3 (some .int) :: TB) B.pre
  have hts := fun w (h : w ∈ TB) => hts0 w (List.mem_cons_of_mem _ h)
  have hown : s.vm.findClass RX5 = some m.cls := findClass_of_methodNamed B.named
  have hlocks := B.notSynchronized
  subst hsz
  have hD := hD0.self (sz := s.heap.size)
  generalize hAe : va_A (bX5 cI cZ a q om) s.heap.size = A at hD ⊢
  have hA : ∀ q : Nat, s.heap.size ≤ q → A q := fun q h => by rw [← hAe]; exact Or.inr h
  have hS : va_S A s.heap s.heap [] := va_S.rf
  obtain ⟨H, hH⟩ : ∃ H, H = s.heap := ⟨_, rfl⟩
  rw [← hH] at hP
  have hS : va_S A s.heap H [] := by rw [hH]; exact hS
  have hl := lv_entry ([.ref a]) (n := 3) (Nat.le_of_ble_eq_true rfl)
  rw [lg_entry_eq]
  generalize (lg_sl ([.ref a]) ++ List.replicate (3 - (lg_sl ([.ref a])).length) Slot.unset).toArray = ls at hl ⊢
  have hl : lv_has ls 3 [(0, .ref a)] := hl
  refine W_heap hH ?_
  obtain ⟨locs, hlo⟩ : ∃ locs : List Loc, locs = [] := ⟨_, rfl⟩
  rw [← hlo] at hS ⊢
  unfold f_X5_wholes at hf
  refine lv_iconst (v := 0) (pc := 0) hx hb dX5_wholes_0 (by decide) ?_
  refine lv_istore_n (lv' := [(1, .int 0), (0, .ref a)]) (pc := 1) hx hb dX5_wholes_1 rfl hl (by decide) rfl (fun ls hl => ?_)
  refine lv_iconst (v := 0) (pc := 2) hx hb dX5_wholes_2 (by decide) ?_
  refine lv_istore_n (lv' := [(2, .int 0), (1, .int 0), (0, .ref a)]) (pc := 3) hx hb dX5_wholes_3 rfl hl (by decide) rfl (fun ls hl => ?_)
  obtain ⟨z1, hz1, hf⟩ := bd_some hf
  have hfz1 := hf
  clear hf
  have K2 : ∀ (H : Heap) (locs : List Loc) (ls : Array Slot), va_P D vwCl (bX5 cI cZ a q om) H → va_D A (bX5 cI cZ a q om) → va_S A s.heap H locs → lv_has ls 3 [(0, .ref a), (1, .int z1.1), (2, .int z1.2)] → GW l yX5_wholes cX5_wholes 3 (some .int) 1 22 D [.ref a] (some (.int x)) (bX5 cI cZ a q om) A p e s m below meth c H locs (F0 m 37 ls []) := by
    intro H locs ls hP hD hS hl
    have hf := hfz1
    refine lv_iload_n (pc := 37) hx hb dX5_wholes_37 rfl (lv_at hl 1 rfl) ?_
    obtain rfl := Option.some.inj hf
    exact W.iret hx hb hr (fun t ht hW => ⟨rfl, by rw [ht]; exact hP, hD, hS.F ht⟩) hS.2.2 dX5_wholes_38
  have KL3 : ∀ (n : Nat) (v1 : Int32) (v2 : Int32) (H : Heap) (locs : List Loc) (ls : Array Slot), lp_X5_wholes_4 om n v1 v2 = some z1 → va_P D vwCl (bX5 cI cZ a q om) H → va_D A (bX5 cI cZ a q om) → va_S A s.heap H locs → lv_has ls 3 [(0, .ref a), (1, .int v1), (2, .int v2)] → GW l yX5_wholes cX5_wholes 3 (some .int) 1 22 D [.ref a] (some (.int x)) (bX5 cI cZ a q om) A p e s m below meth c H locs (F0 m 4 ls []) := by
    intro n
    induction n with
    | zero => intro v1 v2 H locs ls hf; cases hf
    | succ n ih =>
      intro v1 v2 H locs ls hf hP hD hS hl
      rw [lp_X5_wholes_4] at hf
      refine lv_iload_n (pc := 4) hx hb dX5_wholes_4 rfl (lv_at hl 2 rfl) ?_
      refine lv_aload_n (pc := 5) hx hb dX5_wholes_5 rfl (lv_at hl 0 rfl) ?_
      refine va_get (pc := 6) (D := D) (ci := 5) (v := .ref (q 0)) (C := RX5) (T := TX5) (N := 41) hx hb hts iX5 hown hK.1 hP 0 rfl rfl 0 (by decide) (hts _ fl_RX5_7) (fun _ h => h) rfl dX5_wholes_6 ?_
      refine lv_iconst (v := 0) (pc := 9) hx hb dX5_wholes_9 (by decide) ?_
      have h4 : vp_in 0 59 := by unfold vp_in; decide
      refine va_iald (pc := 10) (f := om.2.2 0) hx hb hK.1 hP 1 0 rfl rfl h4 dX5_wholes_10 ?_
      refine lv_icmp_ge (pc := 11) (tgt := 37) hx hb dX5_wholes_11 (by decide) (fun c5 => ?_) (fun c5 => ?_)
      · replace hf := ip c5 hf
        obtain rfl := Option.some.inj hf
        exact K2 H locs ls hP hD hS (lv_sub hl [0, 1, 2] rfl)
      · replace hf := im c5 hf
        refine lv_iload_n (pc := 14) hx hb dX5_wholes_14 rfl (lv_at hl 1 rfl) ?_
        refine lv_aload_n (pc := 15) hx hb dX5_wholes_15 rfl (lv_at hl 0 rfl) ?_
        refine lv_iload_n (pc := 16) hx hb dX5_wholes_16 rfl (lv_at hl 2 rfl) ?_
        refine lv_iconst (v := 4) (pc := 17) hx hb dX5_wholes_17 (by decide) ?_
        obtain ⟨x6, ex6, hf⟩ := bd_some hf
        refine ct_V1 (pc := 18) (As := [.int v2, .int 4]) (rest := [.int v1]) (W1 := bX5 cI cZ a q om) ⟨hx, hb, hml, hown, hts⟩ hK (c_X5_ofPile l D cI cZ cS a q v2 4 om x6 ex6) gv_RX5_117 rfl hs_X5_ofPile rfl ⟨Nat.le_of_ble_eq_true rfl, Nat.le_of_ble_eq_true rfl⟩ (ci := 5) (q0 := 0) rfl rfl rfl hl.1 rfl (Nat.le_of_ble_eq_true rfl) dX5_wholes_18 ⟨Nat.zero_le _, Nat.zero_le _⟩ hP hD hS hA (fun H locs hP hD hS => ?_)
        refine lv_if_ne (pc := 21) (tgt := 28) hx hb dX5_wholes_21 (by decide) (fun c7 => ?_) (fun c7 => ?_)
        · replace hf := im c7 hf
          refine lv_iconst (v := 0) (pc := 28) hx hb dX5_wholes_28 (by decide) ?_
          refine lv_iadd (pc := 29) hx hb dX5_wholes_29 ?_
          refine lv_istore_n (lv' := [(1, .int (v1 + 0)), (0, .ref a), (2, .int v2)]) (pc := 30) hx hb dX5_wholes_30 rfl hl (by decide) rfl (fun ls hl => ?_)
          refine lv_iinc (v := (v2 + 1)) (lv' := [(2, .int (v2 + 1)), (1, .int (v1 + 0)), (0, .ref a)]) (pc := 31) hx hb dX5_wholes_31 hl (k := 2) rfl rfl (by decide) rfl (fun ls hl => ?_)
          refine lv_goto (pc := 34) (tgt := 4) hx hb dX5_wholes_34 (by decide) ?_
          exact ih _ _ H locs ls hf hP hD hS (lv_sub hl [2, 1, 0] rfl)
        · replace hf := ip c7 hf
          refine lv_iconst (v := 1) (pc := 24) hx hb dX5_wholes_24 (by decide) ?_
          refine lv_goto (pc := 25) (tgt := 29) hx hb dX5_wholes_25 (by decide) ?_
          refine lv_iadd (pc := 29) hx hb dX5_wholes_29 ?_
          refine lv_istore_n (lv' := [(1, .int (v1 + 1)), (0, .ref a), (2, .int v2)]) (pc := 30) hx hb dX5_wholes_30 rfl hl (by decide) rfl (fun ls hl => ?_)
          refine lv_iinc (v := (v2 + 1)) (lv' := [(2, .int (v2 + 1)), (1, .int (v1 + 1)), (0, .ref a)]) (pc := 31) hx hb dX5_wholes_31 hl (k := 2) rfl rfl (by decide) rfl (fun ls hl => ?_)
          refine lv_goto (pc := 34) (tgt := 4) hx hb dX5_wholes_34 (by decide) ?_
          exact ih _ _ H locs ls hf hP hD hS (lv_sub hl [2, 1, 0] rfl)
  exact KL3 1000 _ _ H locs ls hz1 hP hD hS (lv_sub hl [2, 1, 0] rfl)
def f_X5_becomes (i0 : Int32) (i1 : Int32) (om : OS) : Option (Int32 × OS) := Option.bind (f_X5_isPile i0 om) fun x1 => if x1 = 0 then some ((-1), om) else Option.bind (f_X5_ofPile i0 4 om) fun x3 => if x3 = i1 then some ((-2), om) else Option.bind (f_X5_notes om) fun x5 => ck ((1 + (5 * i0)) + 4) 59 (lt (sA x5 0 ((((1 + (5 * i0)) + 4) : Int32).toNatClampNeg) i1) fun o7 => Option.bind (f_X5_wholes o7) fun x8 => some (x8, o7))
set_option maxHeartbeats 4000000 in
set_option maxRecDepth 100000 in
theorem c_X5_becomes (l : Launch) (D : va_G) (cI cZ cS : ClassId) (a : Nat) (q : Nat → Nat) (i0 : Int32) (i1 : Int32) (om : OS) (x : (Int32 × OS)) (hf : f_X5_becomes i0 i1 om = some x) : Ct l yX5_becomes cX5_becomes 3 (some .int) 2 44 D cI cZ cS [.ref a, .int i0, .int i1] (bX5 cI cZ a q om) (some (.int x.1)) (bX5 cI cZ a q x.2) := by
  intro sz
  refine Met.ofW (cc := cX5_becomes) (maxL := 3) (ret := (some .int)) (by decide +kernel) rfl ?_
  intro p e s m args below meth c s₁ B hml hv
  obtain ⟨rfl, hsz, hP, hK, hD0⟩ := hv
  have hx := B.exec
  have hb := B.bytes
  have hr := B.returns
  have hts0 := atoms_spec (ws := .code yX5_becomes cX5_becomes 3 (some .int) :: TB) B.pre
  have hts := fun w (h : w ∈ TB) => hts0 w (List.mem_cons_of_mem _ h)
  have hown : s.vm.findClass RX5 = some m.cls := findClass_of_methodNamed B.named
  have hlocks := B.notSynchronized
  subst hsz
  have hD := hD0.self (sz := s.heap.size)
  generalize hAe : va_A (bX5 cI cZ a q om) s.heap.size = A at hD ⊢
  have hA : ∀ q : Nat, s.heap.size ≤ q → A q := fun q h => by rw [← hAe]; exact Or.inr h
  have hS : va_S A s.heap s.heap [] := va_S.rf
  obtain ⟨H, hH⟩ : ∃ H, H = s.heap := ⟨_, rfl⟩
  rw [← hH] at hP
  have hS : va_S A s.heap H [] := by rw [hH]; exact hS
  have hl := lv_entry ([.ref a, .int i0, .int i1]) (n := 3) (Nat.le_of_ble_eq_true rfl)
  rw [lg_entry_eq]
  generalize (lg_sl ([.ref a, .int i0, .int i1]) ++ List.replicate (3 - (lg_sl ([.ref a, .int i0, .int i1])).length) Slot.unset).toArray = ls at hl ⊢
  have hl : lv_has ls 3 [(0, .ref a), (1, .int i0), (2, .int i1)] := hl
  refine W_heap hH ?_
  obtain ⟨locs, hlo⟩ : ∃ locs : List Loc, locs = [] := ⟨_, rfl⟩
  rw [← hlo] at hS ⊢
  unfold f_X5_becomes at hf
  refine lv_aload_n (pc := 0) hx hb dX5_becomes_0 rfl (lv_at hl 0 rfl) ?_
  refine lv_iload_n (pc := 1) hx hb dX5_becomes_1 rfl (lv_at hl 1 rfl) ?_
  obtain ⟨x1, ex1, hf⟩ := bd_some hf
  refine ct_V1 (pc := 2) (As := [.int i0]) (rest := []) (W1 := bX5 cI cZ a q om) ⟨hx, hb, hml, hown, hts⟩ hK (c_X5_isPile l D cI cZ cS a q i0 om x1 ex1) gv_RX5_133 rfl hs_X5_isPile rfl ⟨Nat.le_of_ble_eq_true rfl, Nat.le_of_ble_eq_true rfl⟩ (ci := 5) (q0 := 0) rfl rfl rfl hl.1 rfl (Nat.le_of_ble_eq_true rfl) dX5_becomes_2 ⟨Nat.zero_le _, Nat.zero_le _⟩ hP hD hS hA (fun H locs hP hD hS => ?_)
  refine lv_if_ne (pc := 5) (tgt := 10) hx hb dX5_becomes_5 (by decide) (fun c2 => ?_) (fun c2 => ?_)
  · replace hf := im c2 hf
    refine lv_aload_n (pc := 10) hx hb dX5_becomes_10 rfl (lv_at hl 0 rfl) ?_
    refine lv_iload_n (pc := 11) hx hb dX5_becomes_11 rfl (lv_at hl 1 rfl) ?_
    refine lv_iconst (v := 4) (pc := 12) hx hb dX5_becomes_12 (by decide) ?_
    obtain ⟨x3, ex3, hf⟩ := bd_some hf
    refine ct_V1 (pc := 13) (As := [.int i0, .int 4]) (rest := []) (W1 := bX5 cI cZ a q om) ⟨hx, hb, hml, hown, hts⟩ hK (c_X5_ofPile l D cI cZ cS a q i0 4 om x3 ex3) gv_RX5_117 rfl hs_X5_ofPile rfl ⟨Nat.le_of_ble_eq_true rfl, Nat.le_of_ble_eq_true rfl⟩ (ci := 5) (q0 := 0) rfl rfl rfl hl.1 rfl (Nat.le_of_ble_eq_true rfl) dX5_becomes_13 ⟨Nat.zero_le _, Nat.zero_le _⟩ hP hD hS hA (fun H locs hP hD hS => ?_)
    refine lv_iload_n (pc := 16) hx hb dX5_becomes_16 rfl (lv_at hl 2 rfl) ?_
    refine lv_icmp_ne (pc := 17) (tgt := 23) hx hb dX5_becomes_17 (by decide) (fun c4 => ?_) (fun c4 => ?_)
    · replace hf := im c4 hf
      refine lv_aload_n (pc := 23) hx hb dX5_becomes_23 rfl (lv_at hl 0 rfl) ?_
      obtain ⟨x5, ex5, hf⟩ := bd_some hf
      refine ct_V1 (pc := 24) (As := []) (rest := []) (W1 := bX5 cI cZ a q x5) ⟨hx, hb, hml, hown, hts⟩ hK (c_X5_notes l D cI cZ cS a q om x5 ex5) gv_RX5_130 rfl hs_X5_notes rfl ⟨Nat.le_of_ble_eq_true rfl, Nat.le_of_ble_eq_true rfl⟩ (ci := 5) (q0 := 0) rfl rfl rfl hl.1 rfl (Nat.le_of_ble_eq_true rfl) dX5_becomes_24 ⟨Nat.zero_le _, Nat.zero_le _⟩ hP hD hS hA (fun H locs hP hD hS => ?_)
      refine lv_aload_n (pc := 27) hx hb dX5_becomes_27 rfl (lv_at hl 0 rfl) ?_
      refine va_get (pc := 28) (D := D) (ci := 5) (v := .ref (q 0)) (C := RX5) (T := TX5) (N := 41) hx hb hts iX5 hown hK.1 hP 0 rfl rfl 0 (by decide) (hts _ fl_RX5_7) (fun _ h => h) rfl dX5_becomes_28 ?_
      refine lv_iconst (v := 1) (pc := 31) hx hb dX5_becomes_31 (by decide) ?_
      refine lv_iconst (v := 5) (pc := 32) hx hb dX5_becomes_32 (by decide) ?_
      refine lv_iload_n (pc := 33) hx hb dX5_becomes_33 rfl (lv_at hl 1 rfl) ?_
      refine lv_imul (pc := 34) hx hb dX5_becomes_34 ?_
      refine lv_iadd (pc := 35) hx hb dX5_becomes_35 ?_
      refine lv_iconst (v := 4) (pc := 36) hx hb dX5_becomes_36 (by decide) ?_
      refine lv_iadd (pc := 37) hx hb dX5_becomes_37 ?_
      refine lv_iload_n (pc := 38) hx hb dX5_becomes_38 rfl (lv_at hl 2 rfl) ?_
      obtain ⟨h6, hf⟩ := ck_some hf
      obtain ⟨o7, eo7, hf⟩ := lt_some hf
      refine va_iast (pc := 39) (f := x5.2.2 0) hx hb hK.1 hP hD hS 1 0 rfl rfl h6 dX5_becomes_39 (fun H locs hP hD hS => ?_)
      replace hP : va_P D vwCl (bX5 cI cZ a q o7) H := by rw [eo7]; exact hP
      replace hD : va_D A (bX5 cI cZ a q o7) := by rw [eo7]; exact hD
      refine lv_aload_n (pc := 40) hx hb dX5_becomes_40 rfl (lv_at hl 0 rfl) ?_
      obtain ⟨x8, ex8, hf⟩ := bd_some hf
      refine ct_V1 (pc := 41) (As := []) (rest := []) (W1 := bX5 cI cZ a q o7) ⟨hx, hb, hml, hown, hts⟩ hK (c_X5_wholes l D cI cZ cS a q o7 x8 ex8) gv_RX5_137 rfl hs_X5_wholes rfl ⟨Nat.le_of_ble_eq_true rfl, Nat.le_of_ble_eq_true rfl⟩ (ci := 5) (q0 := 0) rfl rfl rfl hl.1 rfl (Nat.le_of_ble_eq_true rfl) dX5_becomes_41 ⟨Nat.zero_le _, Nat.zero_le _⟩ hP hD hS hA (fun H locs hP hD hS => ?_)
      obtain rfl := Option.some.inj hf
      exact W.iret hx hb hr (fun t ht hW => ⟨rfl, by rw [ht]; exact hP, hD, hS.F ht⟩) hS.2.2 dX5_becomes_44
    · replace hf := ip c4 hf
      refine lv_bipush (v := -2) (pc := 20) hx hb dX5_becomes_20 (by decide) ?_
      obtain rfl := Option.some.inj hf
      exact W.iret hx hb hr (fun t ht hW => ⟨rfl, by rw [ht]; exact hP, hD, hS.F ht⟩) hS.2.2 dX5_becomes_22
  · replace hf := ip c2 hf
    refine lv_iconst (v := -1) (pc := 8) hx hb dX5_becomes_8 (by decide) ?_
    obtain rfl := Option.some.inj hf
    exact W.iret hx hb hr (fun t ht hW => ⟨rfl, by rw [ht]; exact hP, hD, hS.F ht⟩) hS.2.2 dX5_becomes_9
def f_X5_loses (i0 : Int32) (om : OS) : Option (Int32 × OS) := Option.bind (f_X5_becomes i0 1 om) fun x1 => some (x1.1, x1.2)
set_option maxHeartbeats 4000000 in
set_option maxRecDepth 100000 in
theorem c_X5_loses (l : Launch) (D : va_G) (cI cZ cS : ClassId) (a : Nat) (q : Nat → Nat) (i0 : Int32) (om : OS) (x : (Int32 × OS)) (hf : f_X5_loses i0 om = some x) : Ct l yX5_loses cX5_loses 2 (some .int) 3 66 D cI cZ cS [.ref a, .int i0] (bX5 cI cZ a q om) (some (.int x.1)) (bX5 cI cZ a q x.2) := by
  intro sz
  refine Met.ofW (cc := cX5_loses) (maxL := 2) (ret := (some .int)) (by decide +kernel) rfl ?_
  intro p e s m args below meth c s₁ B hml hv
  obtain ⟨rfl, hsz, hP, hK, hD0⟩ := hv
  have hx := B.exec
  have hb := B.bytes
  have hr := B.returns
  have hts0 := atoms_spec (ws := .code yX5_loses cX5_loses 2 (some .int) :: TB) B.pre
  have hts := fun w (h : w ∈ TB) => hts0 w (List.mem_cons_of_mem _ h)
  have hown : s.vm.findClass RX5 = some m.cls := findClass_of_methodNamed B.named
  have hlocks := B.notSynchronized
  subst hsz
  have hD := hD0.self (sz := s.heap.size)
  generalize hAe : va_A (bX5 cI cZ a q om) s.heap.size = A at hD ⊢
  have hA : ∀ q : Nat, s.heap.size ≤ q → A q := fun q h => by rw [← hAe]; exact Or.inr h
  have hS : va_S A s.heap s.heap [] := va_S.rf
  obtain ⟨H, hH⟩ : ∃ H, H = s.heap := ⟨_, rfl⟩
  rw [← hH] at hP
  have hS : va_S A s.heap H [] := by rw [hH]; exact hS
  have hl := lv_entry ([.ref a, .int i0]) (n := 2) (Nat.le_of_ble_eq_true rfl)
  rw [lg_entry_eq]
  generalize (lg_sl ([.ref a, .int i0]) ++ List.replicate (2 - (lg_sl ([.ref a, .int i0])).length) Slot.unset).toArray = ls at hl ⊢
  have hl : lv_has ls 2 [(0, .ref a), (1, .int i0)] := hl
  refine W_heap hH ?_
  obtain ⟨locs, hlo⟩ : ∃ locs : List Loc, locs = [] := ⟨_, rfl⟩
  rw [← hlo] at hS ⊢
  unfold f_X5_loses at hf
  refine lv_aload_n (pc := 0) hx hb dX5_loses_0 rfl (lv_at hl 0 rfl) ?_
  refine lv_iload_n (pc := 1) hx hb dX5_loses_1 rfl (lv_at hl 1 rfl) ?_
  refine lv_iconst (v := 1) (pc := 2) hx hb dX5_loses_2 (by decide) ?_
  obtain ⟨x1, ex1, hf⟩ := bd_some hf
  refine ct_V1 (pc := 3) (As := [.int i0, .int 1]) (rest := []) (W1 := bX5 cI cZ a q x1.2) ⟨hx, hb, hml, hown, hts⟩ hK (c_X5_becomes l D cI cZ cS a q i0 1 om x1 ex1) gv_RX5_141 rfl hs_X5_becomes rfl ⟨Nat.le_of_ble_eq_true rfl, Nat.le_of_ble_eq_true rfl⟩ (ci := 5) (q0 := 0) rfl rfl rfl hl.1 rfl (Nat.le_of_ble_eq_true rfl) dX5_loses_3 ⟨Nat.zero_le _, Nat.zero_le _⟩ hP hD hS hA (fun H locs hP hD hS => ?_)
  obtain rfl := Option.some.inj hf
  exact W.iret hx hb hr (fun t ht hW => ⟨rfl, by rw [ht]; exact hP, hD, hS.F ht⟩) hS.2.2 dX5_loses_6
def f_X5_mends (i0 : Int32) (om : OS) : Option (Int32 × OS) := Option.bind (f_X5_becomes i0 0 om) fun x1 => some (x1.1, x1.2)
set_option maxHeartbeats 4000000 in
set_option maxRecDepth 100000 in
theorem c_X5_mends (l : Launch) (D : va_G) (cI cZ cS : ClassId) (a : Nat) (q : Nat → Nat) (i0 : Int32) (om : OS) (x : (Int32 × OS)) (hf : f_X5_mends i0 om = some x) : Ct l yX5_mends cX5_mends 2 (some .int) 3 66 D cI cZ cS [.ref a, .int i0] (bX5 cI cZ a q om) (some (.int x.1)) (bX5 cI cZ a q x.2) := by
  intro sz
  refine Met.ofW (cc := cX5_mends) (maxL := 2) (ret := (some .int)) (by decide +kernel) rfl ?_
  intro p e s m args below meth c s₁ B hml hv
  obtain ⟨rfl, hsz, hP, hK, hD0⟩ := hv
  have hx := B.exec
  have hb := B.bytes
  have hr := B.returns
  have hts0 := atoms_spec (ws := .code yX5_mends cX5_mends 2 (some .int) :: TB) B.pre
  have hts := fun w (h : w ∈ TB) => hts0 w (List.mem_cons_of_mem _ h)
  have hown : s.vm.findClass RX5 = some m.cls := findClass_of_methodNamed B.named
  have hlocks := B.notSynchronized
  subst hsz
  have hD := hD0.self (sz := s.heap.size)
  generalize hAe : va_A (bX5 cI cZ a q om) s.heap.size = A at hD ⊢
  have hA : ∀ q : Nat, s.heap.size ≤ q → A q := fun q h => by rw [← hAe]; exact Or.inr h
  have hS : va_S A s.heap s.heap [] := va_S.rf
  obtain ⟨H, hH⟩ : ∃ H, H = s.heap := ⟨_, rfl⟩
  rw [← hH] at hP
  have hS : va_S A s.heap H [] := by rw [hH]; exact hS
  have hl := lv_entry ([.ref a, .int i0]) (n := 2) (Nat.le_of_ble_eq_true rfl)
  rw [lg_entry_eq]
  generalize (lg_sl ([.ref a, .int i0]) ++ List.replicate (2 - (lg_sl ([.ref a, .int i0])).length) Slot.unset).toArray = ls at hl ⊢
  have hl : lv_has ls 2 [(0, .ref a), (1, .int i0)] := hl
  refine W_heap hH ?_
  obtain ⟨locs, hlo⟩ : ∃ locs : List Loc, locs = [] := ⟨_, rfl⟩
  rw [← hlo] at hS ⊢
  unfold f_X5_mends at hf
  refine lv_aload_n (pc := 0) hx hb dX5_mends_0 rfl (lv_at hl 0 rfl) ?_
  refine lv_iload_n (pc := 1) hx hb dX5_mends_1 rfl (lv_at hl 1 rfl) ?_
  refine lv_iconst (v := 0) (pc := 2) hx hb dX5_mends_2 (by decide) ?_
  obtain ⟨x1, ex1, hf⟩ := bd_some hf
  refine ct_V1 (pc := 3) (As := [.int i0, .int 0]) (rest := []) (W1 := bX5 cI cZ a q x1.2) ⟨hx, hb, hml, hown, hts⟩ hK (c_X5_becomes l D cI cZ cS a q i0 0 om x1 ex1) gv_RX5_141 rfl hs_X5_becomes rfl ⟨Nat.le_of_ble_eq_true rfl, Nat.le_of_ble_eq_true rfl⟩ (ci := 5) (q0 := 0) rfl rfl rfl hl.1 rfl (Nat.le_of_ble_eq_true rfl) dX5_mends_3 ⟨Nat.zero_le _, Nat.zero_le _⟩ hP hD hS hA (fun H locs hP hD hS => ?_)
  obtain rfl := Option.some.inj hf
  exact W.iret hx hb hr (fun t ht hW => ⟨rfl, by rw [ht]; exact hP, hD, hS.F ht⟩) hS.2.2 dX5_mends_6
def f_X5_loads (i0 : Int32) (i1 : Int32) (om : OS) : Option (Int32 × OS) := Option.bind (f_X5_isColumn i0 om) fun x1 => if x1 = 0 then some ((-1), om) else Option.bind (f_X5_in i1 0 99) fun x3 => if x3 = 0 then some ((-1), om) else Option.bind (f_X5_ofColumn i0 2 om) fun x5 => if x5 = i1 then some ((-2), om) else Option.bind (f_X5_notes om) fun x7 => ck ((42 + (3 * i0)) + 2) 59 (lt (sA x7 0 ((((42 + (3 * i0)) + 2) : Int32).toNatClampNeg) i1) fun o9 => some (x5, o9))
set_option maxHeartbeats 4000000 in
set_option maxRecDepth 100000 in
theorem c_X5_loads (l : Launch) (D : va_G) (cI cZ cS : ClassId) (a : Nat) (q : Nat → Nat) (i0 : Int32) (i1 : Int32) (om : OS) (x : (Int32 × OS)) (hf : f_X5_loads i0 i1 om = some x) : Ct l yX5_loads cX5_loads 4 (some .int) 2 43 D cI cZ cS [.ref a, .int i0, .int i1] (bX5 cI cZ a q om) (some (.int x.1)) (bX5 cI cZ a q x.2) := by
  intro sz
  refine Met.ofW (cc := cX5_loads) (maxL := 4) (ret := (some .int)) (by decide +kernel) rfl ?_
  intro p e s m args below meth c s₁ B hml hv
  obtain ⟨rfl, hsz, hP, hK, hD0⟩ := hv
  have hx := B.exec
  have hb := B.bytes
  have hr := B.returns
  have hts0 := atoms_spec (ws := .code yX5_loads cX5_loads 4 (some .int) :: TB) B.pre
  have hts := fun w (h : w ∈ TB) => hts0 w (List.mem_cons_of_mem _ h)
  have hown : s.vm.findClass RX5 = some m.cls := findClass_of_methodNamed B.named
  have hlocks := B.notSynchronized
  subst hsz
  have hD := hD0.self (sz := s.heap.size)
  generalize hAe : va_A (bX5 cI cZ a q om) s.heap.size = A at hD ⊢
  have hA : ∀ q : Nat, s.heap.size ≤ q → A q := fun q h => by rw [← hAe]; exact Or.inr h
  have hS : va_S A s.heap s.heap [] := va_S.rf
  obtain ⟨H, hH⟩ : ∃ H, H = s.heap := ⟨_, rfl⟩
  rw [← hH] at hP
  have hS : va_S A s.heap H [] := by rw [hH]; exact hS
  have hl := lv_entry ([.ref a, .int i0, .int i1]) (n := 4) (Nat.le_of_ble_eq_true rfl)
  rw [lg_entry_eq]
  generalize (lg_sl ([.ref a, .int i0, .int i1]) ++ List.replicate (4 - (lg_sl ([.ref a, .int i0, .int i1])).length) Slot.unset).toArray = ls at hl ⊢
  have hl : lv_has ls 4 [(0, .ref a), (1, .int i0), (2, .int i1)] := hl
  refine W_heap hH ?_
  obtain ⟨locs, hlo⟩ : ∃ locs : List Loc, locs = [] := ⟨_, rfl⟩
  rw [← hlo] at hS ⊢
  unfold f_X5_loads at hf
  refine lv_aload_n (pc := 0) hx hb dX5_loads_0 rfl (lv_at hl 0 rfl) ?_
  refine lv_iload_n (pc := 1) hx hb dX5_loads_1 rfl (lv_at hl 1 rfl) ?_
  obtain ⟨x1, ex1, hf⟩ := bd_some hf
  refine ct_V1 (pc := 2) (As := [.int i0]) (rest := []) (W1 := bX5 cI cZ a q om) ⟨hx, hb, hml, hown, hts⟩ hK (c_X5_isColumn l D cI cZ cS a q i0 om x1 ex1) gv_RX5_144 rfl hs_X5_isColumn rfl ⟨Nat.le_of_ble_eq_true rfl, Nat.le_of_ble_eq_true rfl⟩ (ci := 5) (q0 := 0) rfl rfl rfl hl.1 rfl (Nat.le_of_ble_eq_true rfl) dX5_loads_2 ⟨Nat.zero_le _, Nat.zero_le _⟩ hP hD hS hA (fun H locs hP hD hS => ?_)
  refine lv_if_eq (pc := 5) (tgt := 18) hx hb dX5_loads_5 (by decide) (fun c2 => ?_) (fun c2 => ?_)
  · replace hf := ip c2 hf
    refine lv_iconst (v := -1) (pc := 18) hx hb dX5_loads_18 (by decide) ?_
    obtain rfl := Option.some.inj hf
    exact W.iret hx hb hr (fun t ht hW => ⟨rfl, by rw [ht]; exact hP, hD, hS.F ht⟩) hS.2.2 dX5_loads_19
  · replace hf := im c2 hf
    refine lv_iload_n (pc := 8) hx hb dX5_loads_8 rfl (lv_at hl 2 rfl) ?_
    refine lv_iconst (v := 0) (pc := 9) hx hb dX5_loads_9 (by decide) ?_
    refine lv_bipush (v := 99) (pc := 10) hx hb dX5_loads_10 (by decide) ?_
    obtain ⟨x3, ex3, hf⟩ := bd_some hf
    refine ct_S0 (pc := 12) (As := [.int i1, .int 0, .int 99]) (rest := []) ⟨hx, hb, hml, hown, hts⟩ hK (c_X5_in l D cI cZ cS i1 0 99 x3 ex3) gs_RX5_57 hs_X5_in rfl ⟨Nat.le_of_ble_eq_true rfl, Nat.le_of_ble_eq_true rfl⟩ hl.1 rfl (Nat.le_of_ble_eq_true rfl) dX5_loads_12 ⟨Nat.zero_le _, Nat.zero_le _⟩ hP hS hA (fun H locs hP hS => ?_)
    refine lv_if_ne (pc := 15) (tgt := 20) hx hb dX5_loads_15 (by decide) (fun c4 => ?_) (fun c4 => ?_)
    · replace hf := im c4 hf
      refine lv_aload_n (pc := 20) hx hb dX5_loads_20 rfl (lv_at hl 0 rfl) ?_
      refine lv_iload_n (pc := 21) hx hb dX5_loads_21 rfl (lv_at hl 1 rfl) ?_
      refine lv_iconst (v := 2) (pc := 22) hx hb dX5_loads_22 (by decide) ?_
      obtain ⟨x5, ex5, hf⟩ := bd_some hf
      refine ct_V1 (pc := 23) (As := [.int i0, .int 2]) (rest := []) (W1 := bX5 cI cZ a q om) ⟨hx, hb, hml, hown, hts⟩ hK (c_X5_ofColumn l D cI cZ cS a q i0 2 om x5 ex5) gv_RX5_147 rfl hs_X5_ofColumn rfl ⟨Nat.le_of_ble_eq_true rfl, Nat.le_of_ble_eq_true rfl⟩ (ci := 5) (q0 := 0) rfl rfl rfl hl.1 rfl (Nat.le_of_ble_eq_true rfl) dX5_loads_23 ⟨Nat.zero_le _, Nat.zero_le _⟩ hP hD hS hA (fun H locs hP hD hS => ?_)
      refine lv_istore_n (lv' := [(3, .int x5), (0, .ref a), (1, .int i0), (2, .int i1)]) (pc := 26) hx hb dX5_loads_26 rfl hl (by decide) rfl (fun ls hl => ?_)
      refine lv_iload_n (pc := 27) hx hb dX5_loads_27 rfl (lv_at hl 0 rfl) ?_
      refine lv_iload_n (pc := 28) hx hb dX5_loads_28 rfl (lv_at hl 3 rfl) ?_
      refine lv_icmp_ne (pc := 29) (tgt := 35) hx hb dX5_loads_29 (by decide) (fun c6 => ?_) (fun c6 => ?_)
      · replace hf := im c6 hf
        refine lv_aload_n (pc := 35) hx hb dX5_loads_35 rfl (lv_at hl 1 rfl) ?_
        obtain ⟨x7, ex7, hf⟩ := bd_some hf
        refine ct_V1 (pc := 36) (As := []) (rest := []) (W1 := bX5 cI cZ a q x7) ⟨hx, hb, hml, hown, hts⟩ hK (c_X5_notes l D cI cZ cS a q om x7 ex7) gv_RX5_130 rfl hs_X5_notes rfl ⟨Nat.le_of_ble_eq_true rfl, Nat.le_of_ble_eq_true rfl⟩ (ci := 5) (q0 := 0) rfl rfl rfl hl.1 rfl (Nat.le_of_ble_eq_true rfl) dX5_loads_36 ⟨Nat.zero_le _, Nat.zero_le _⟩ hP hD hS hA (fun H locs hP hD hS => ?_)
        refine lv_aload_n (pc := 39) hx hb dX5_loads_39 rfl (lv_at hl 1 rfl) ?_
        refine va_get (pc := 40) (D := D) (ci := 5) (v := .ref (q 0)) (C := RX5) (T := TX5) (N := 41) hx hb hts iX5 hown hK.1 hP 0 rfl rfl 0 (by decide) (hts _ fl_RX5_7) (fun _ h => h) rfl dX5_loads_40 ?_
        refine lv_bipush (v := 42) (pc := 43) hx hb dX5_loads_43 (by decide) ?_
        refine lv_iconst (v := 3) (pc := 45) hx hb dX5_loads_45 (by decide) ?_
        refine lv_iload_n (pc := 46) hx hb dX5_loads_46 rfl (lv_at hl 2 rfl) ?_
        refine lv_imul (pc := 47) hx hb dX5_loads_47 ?_
        refine lv_iadd (pc := 48) hx hb dX5_loads_48 ?_
        refine lv_iconst (v := 2) (pc := 49) hx hb dX5_loads_49 (by decide) ?_
        refine lv_iadd (pc := 50) hx hb dX5_loads_50 ?_
        refine lv_iload_n (pc := 51) hx hb dX5_loads_51 rfl (lv_at hl 3 rfl) ?_
        obtain ⟨h8, hf⟩ := ck_some hf
        obtain ⟨o9, eo9, hf⟩ := lt_some hf
        refine va_iast (pc := 52) (f := x7.2.2 0) hx hb hK.1 hP hD hS 1 0 rfl rfl h8 dX5_loads_52 (fun H locs hP hD hS => ?_)
        replace hP : va_P D vwCl (bX5 cI cZ a q o9) H := by rw [eo9]; exact hP
        replace hD : va_D A (bX5 cI cZ a q o9) := by rw [eo9]; exact hD
        refine lv_iload_n (pc := 53) hx hb dX5_loads_53 rfl (lv_at hl 0 rfl) ?_
        obtain rfl := Option.some.inj hf
        exact W.iret hx hb hr (fun t ht hW => ⟨rfl, by rw [ht]; exact hP, hD, hS.F ht⟩) hS.2.2 dX5_loads_54
      · replace hf := ip c6 hf
        refine lv_bipush (v := -2) (pc := 32) hx hb dX5_loads_32 (by decide) ?_
        obtain rfl := Option.some.inj hf
        exact W.iret hx hb hr (fun t ht hW => ⟨rfl, by rw [ht]; exact hP, hD, hS.F ht⟩) hS.2.2 dX5_loads_34
    · replace hf := ip c4 hf
      refine lv_iconst (v := -1) (pc := 18) hx hb dX5_loads_18 (by decide) ?_
      obtain rfl := Option.some.inj hf
      exact W.iret hx hb hr (fun t ht hW => ⟨rfl, by rw [ht]; exact hP, hD, hS.F ht⟩) hS.2.2 dX5_loads_19
def f_X5_moves (i0 : Int32) (i1 : Int32) (i2 : Int32) (om : OS) : Option (Int32 × OS) := Option.bind (f_X5_isColumn i0 om) fun x1 => if x1 = 0 then some ((-1), om) else Option.bind (f_X5_isPlace i1 i2) fun x3 => if x3 = 0 then some ((-1), om) else Option.bind (f_X5_ofColumn i0 0 om) fun x5 => if x5 = i1 then Option.bind (f_X5_ofColumn i0 1 om) fun x12 => if x12 = i2 then some ((-2), om) else Option.bind (f_X5_notes om) fun x14 => ck ((42 + (3 * i0)) + 0) 59 (lt (sA x14 0 ((((42 + (3 * i0)) + 0) : Int32).toNatClampNeg) i1) fun o16 => ck ((42 + (3 * i0)) + 1) 59 (lt (sA o16 0 ((((42 + (3 * i0)) + 1) : Int32).toNatClampNeg) i2) fun o18 => some (1, o18))) else Option.bind (f_X5_notes om) fun x7 => ck ((42 + (3 * i0)) + 0) 59 (lt (sA x7 0 ((((42 + (3 * i0)) + 0) : Int32).toNatClampNeg) i1) fun o9 => ck ((42 + (3 * i0)) + 1) 59 (lt (sA o9 0 ((((42 + (3 * i0)) + 1) : Int32).toNatClampNeg) i2) fun o11 => some (1, o11)))
set_option maxHeartbeats 4000000 in
set_option maxRecDepth 100000 in
theorem c_X5_moves (l : Launch) (D : va_G) (cI cZ cS : ClassId) (a : Nat) (q : Nat → Nat) (i0 : Int32) (i1 : Int32) (i2 : Int32) (om : OS) (x : (Int32 × OS)) (hf : f_X5_moves i0 i1 i2 om = some x) : Ct l yX5_moves cX5_moves 4 (some .int) 2 43 D cI cZ cS [.ref a, .int i0, .int i1, .int i2] (bX5 cI cZ a q om) (some (.int x.1)) (bX5 cI cZ a q x.2) := by
  intro sz
  refine Met.ofW (cc := cX5_moves) (maxL := 4) (ret := (some .int)) (by decide +kernel) rfl ?_
  intro p e s m args below meth c s₁ B hml hv
  obtain ⟨rfl, hsz, hP, hK, hD0⟩ := hv
  have hx := B.exec
  have hb := B.bytes
  have hr := B.returns
  have hts0 := atoms_spec (ws := .code yX5_moves cX5_moves 4 (some .int) :: TB) B.pre
  have hts := fun w (h : w ∈ TB) => hts0 w (List.mem_cons_of_mem _ h)
  have hown : s.vm.findClass RX5 = some m.cls := findClass_of_methodNamed B.named
  have hlocks := B.notSynchronized
  subst hsz
  have hD := hD0.self (sz := s.heap.size)
  generalize hAe : va_A (bX5 cI cZ a q om) s.heap.size = A at hD ⊢
  have hA : ∀ q : Nat, s.heap.size ≤ q → A q := fun q h => by rw [← hAe]; exact Or.inr h
  have hS : va_S A s.heap s.heap [] := va_S.rf
  obtain ⟨H, hH⟩ : ∃ H, H = s.heap := ⟨_, rfl⟩
  rw [← hH] at hP
  have hS : va_S A s.heap H [] := by rw [hH]; exact hS
  have hl := lv_entry ([.ref a, .int i0, .int i1, .int i2]) (n := 4) (Nat.le_of_ble_eq_true rfl)
  rw [lg_entry_eq]
  generalize (lg_sl ([.ref a, .int i0, .int i1, .int i2]) ++ List.replicate (4 - (lg_sl ([.ref a, .int i0, .int i1, .int i2])).length) Slot.unset).toArray = ls at hl ⊢
  have hl : lv_has ls 4 [(0, .ref a), (1, .int i0), (2, .int i1), (3, .int i2)] := hl
  refine W_heap hH ?_
  obtain ⟨locs, hlo⟩ : ∃ locs : List Loc, locs = [] := ⟨_, rfl⟩
  rw [← hlo] at hS ⊢
  unfold f_X5_moves at hf
  refine lv_aload_n (pc := 0) hx hb dX5_moves_0 rfl (lv_at hl 0 rfl) ?_
  refine lv_iload_n (pc := 1) hx hb dX5_moves_1 rfl (lv_at hl 1 rfl) ?_
  obtain ⟨x1, ex1, hf⟩ := bd_some hf
  refine ct_V1 (pc := 2) (As := [.int i0]) (rest := []) (W1 := bX5 cI cZ a q om) ⟨hx, hb, hml, hown, hts⟩ hK (c_X5_isColumn l D cI cZ cS a q i0 om x1 ex1) gv_RX5_144 rfl hs_X5_isColumn rfl ⟨Nat.le_of_ble_eq_true rfl, Nat.le_of_ble_eq_true rfl⟩ (ci := 5) (q0 := 0) rfl rfl rfl hl.1 rfl (Nat.le_of_ble_eq_true rfl) dX5_moves_2 ⟨Nat.zero_le _, Nat.zero_le _⟩ hP hD hS hA (fun H locs hP hD hS => ?_)
  refine lv_if_eq (pc := 5) (tgt := 16) hx hb dX5_moves_5 (by decide) (fun c2 => ?_) (fun c2 => ?_)
  · replace hf := ip c2 hf
    refine lv_iconst (v := -1) (pc := 16) hx hb dX5_moves_16 (by decide) ?_
    obtain rfl := Option.some.inj hf
    exact W.iret hx hb hr (fun t ht hW => ⟨rfl, by rw [ht]; exact hP, hD, hS.F ht⟩) hS.2.2 dX5_moves_17
  · replace hf := im c2 hf
    refine lv_iload_n (pc := 8) hx hb dX5_moves_8 rfl (lv_at hl 2 rfl) ?_
    refine lv_iload_n (pc := 9) hx hb dX5_moves_9 rfl (lv_at hl 3 rfl) ?_
    obtain ⟨x3, ex3, hf⟩ := bd_some hf
    refine ct_S0 (pc := 10) (As := [.int i1, .int i2]) (rest := []) ⟨hx, hb, hml, hown, hts⟩ hK (c_X5_isPlace l D cI cZ cS i1 i2 x3 ex3) gs_RX5_121 hs_X5_isPlace rfl ⟨Nat.le_of_ble_eq_true rfl, Nat.le_of_ble_eq_true rfl⟩ hl.1 rfl (Nat.le_of_ble_eq_true rfl) dX5_moves_10 ⟨Nat.zero_le _, Nat.zero_le _⟩ hP hS hA (fun H locs hP hS => ?_)
    refine lv_if_ne (pc := 13) (tgt := 18) hx hb dX5_moves_13 (by decide) (fun c4 => ?_) (fun c4 => ?_)
    · replace hf := im c4 hf
      refine lv_aload_n (pc := 18) hx hb dX5_moves_18 rfl (lv_at hl 0 rfl) ?_
      refine lv_iload_n (pc := 19) hx hb dX5_moves_19 rfl (lv_at hl 1 rfl) ?_
      refine lv_iconst (v := 0) (pc := 20) hx hb dX5_moves_20 (by decide) ?_
      obtain ⟨x5, ex5, hf⟩ := bd_some hf
      refine ct_V1 (pc := 21) (As := [.int i0, .int 0]) (rest := []) (W1 := bX5 cI cZ a q om) ⟨hx, hb, hml, hown, hts⟩ hK (c_X5_ofColumn l D cI cZ cS a q i0 0 om x5 ex5) gv_RX5_147 rfl hs_X5_ofColumn rfl ⟨Nat.le_of_ble_eq_true rfl, Nat.le_of_ble_eq_true rfl⟩ (ci := 5) (q0 := 0) rfl rfl rfl hl.1 rfl (Nat.le_of_ble_eq_true rfl) dX5_moves_21 ⟨Nat.zero_le _, Nat.zero_le _⟩ hP hD hS hA (fun H locs hP hD hS => ?_)
      refine lv_iload_n (pc := 24) hx hb dX5_moves_24 rfl (lv_at hl 2 rfl) ?_
      refine lv_icmp_ne (pc := 25) (tgt := 41) hx hb dX5_moves_25 (by decide) (fun c6 => ?_) (fun c6 => ?_)
      · replace hf := im c6 hf
        refine lv_aload_n (pc := 41) hx hb dX5_moves_41 rfl (lv_at hl 0 rfl) ?_
        obtain ⟨x7, ex7, hf⟩ := bd_some hf
        refine ct_V1 (pc := 42) (As := []) (rest := []) (W1 := bX5 cI cZ a q x7) ⟨hx, hb, hml, hown, hts⟩ hK (c_X5_notes l D cI cZ cS a q om x7 ex7) gv_RX5_130 rfl hs_X5_notes rfl ⟨Nat.le_of_ble_eq_true rfl, Nat.le_of_ble_eq_true rfl⟩ (ci := 5) (q0 := 0) rfl rfl rfl hl.1 rfl (Nat.le_of_ble_eq_true rfl) dX5_moves_42 ⟨Nat.zero_le _, Nat.zero_le _⟩ hP hD hS hA (fun H locs hP hD hS => ?_)
        refine lv_aload_n (pc := 45) hx hb dX5_moves_45 rfl (lv_at hl 0 rfl) ?_
        refine va_get (pc := 46) (D := D) (ci := 5) (v := .ref (q 0)) (C := RX5) (T := TX5) (N := 41) hx hb hts iX5 hown hK.1 hP 0 rfl rfl 0 (by decide) (hts _ fl_RX5_7) (fun _ h => h) rfl dX5_moves_46 ?_
        refine lv_bipush (v := 42) (pc := 49) hx hb dX5_moves_49 (by decide) ?_
        refine lv_iconst (v := 3) (pc := 51) hx hb dX5_moves_51 (by decide) ?_
        refine lv_iload_n (pc := 52) hx hb dX5_moves_52 rfl (lv_at hl 1 rfl) ?_
        refine lv_imul (pc := 53) hx hb dX5_moves_53 ?_
        refine lv_iadd (pc := 54) hx hb dX5_moves_54 ?_
        refine lv_iconst (v := 0) (pc := 55) hx hb dX5_moves_55 (by decide) ?_
        refine lv_iadd (pc := 56) hx hb dX5_moves_56 ?_
        refine lv_iload_n (pc := 57) hx hb dX5_moves_57 rfl (lv_at hl 2 rfl) ?_
        obtain ⟨h8, hf⟩ := ck_some hf
        obtain ⟨o9, eo9, hf⟩ := lt_some hf
        refine va_iast (pc := 58) (f := x7.2.2 0) hx hb hK.1 hP hD hS 1 0 rfl rfl h8 dX5_moves_58 (fun H locs hP hD hS => ?_)
        replace hP : va_P D vwCl (bX5 cI cZ a q o9) H := by rw [eo9]; exact hP
        replace hD : va_D A (bX5 cI cZ a q o9) := by rw [eo9]; exact hD
        refine lv_aload_n (pc := 59) hx hb dX5_moves_59 rfl (lv_at hl 0 rfl) ?_
        refine va_get (pc := 60) (D := D) (ci := 5) (v := .ref (q 0)) (C := RX5) (T := TX5) (N := 41) hx hb hts iX5 hown hK.1 hP 0 rfl rfl 0 (by decide) (hts _ fl_RX5_7) (fun _ h => h) rfl dX5_moves_60 ?_
        refine lv_bipush (v := 42) (pc := 63) hx hb dX5_moves_63 (by decide) ?_
        refine lv_iconst (v := 3) (pc := 65) hx hb dX5_moves_65 (by decide) ?_
        refine lv_iload_n (pc := 66) hx hb dX5_moves_66 rfl (lv_at hl 1 rfl) ?_
        refine lv_imul (pc := 67) hx hb dX5_moves_67 ?_
        refine lv_iadd (pc := 68) hx hb dX5_moves_68 ?_
        refine lv_iconst (v := 1) (pc := 69) hx hb dX5_moves_69 (by decide) ?_
        refine lv_iadd (pc := 70) hx hb dX5_moves_70 ?_
        refine lv_iload_n (pc := 71) hx hb dX5_moves_71 rfl (lv_at hl 3 rfl) ?_
        obtain ⟨h10, hf⟩ := ck_some hf
        obtain ⟨o11, eo11, hf⟩ := lt_some hf
        refine va_iast (pc := 72) (f := o9.2.2 0) hx hb hK.1 hP hD hS 1 0 rfl rfl h10 dX5_moves_72 (fun H locs hP hD hS => ?_)
        replace hP : va_P D vwCl (bX5 cI cZ a q o11) H := by rw [eo11]; exact hP
        replace hD : va_D A (bX5 cI cZ a q o11) := by rw [eo11]; exact hD
        refine lv_iconst (v := 1) (pc := 73) hx hb dX5_moves_73 (by decide) ?_
        obtain rfl := Option.some.inj hf
        exact W.iret hx hb hr (fun t ht hW => ⟨rfl, by rw [ht]; exact hP, hD, hS.F ht⟩) hS.2.2 dX5_moves_74
      · replace hf := ip c6 hf
        refine lv_aload_n (pc := 28) hx hb dX5_moves_28 rfl (lv_at hl 0 rfl) ?_
        refine lv_iload_n (pc := 29) hx hb dX5_moves_29 rfl (lv_at hl 1 rfl) ?_
        refine lv_iconst (v := 1) (pc := 30) hx hb dX5_moves_30 (by decide) ?_
        obtain ⟨x12, ex12, hf⟩ := bd_some hf
        refine ct_V1 (pc := 31) (As := [.int i0, .int 1]) (rest := []) (W1 := bX5 cI cZ a q om) ⟨hx, hb, hml, hown, hts⟩ hK (c_X5_ofColumn l D cI cZ cS a q i0 1 om x12 ex12) gv_RX5_147 rfl hs_X5_ofColumn rfl ⟨Nat.le_of_ble_eq_true rfl, Nat.le_of_ble_eq_true rfl⟩ (ci := 5) (q0 := 0) rfl rfl rfl hl.1 rfl (Nat.le_of_ble_eq_true rfl) dX5_moves_31 ⟨Nat.zero_le _, Nat.zero_le _⟩ hP hD hS hA (fun H locs hP hD hS => ?_)
        refine lv_iload_n (pc := 34) hx hb dX5_moves_34 rfl (lv_at hl 3 rfl) ?_
        refine lv_icmp_ne (pc := 35) (tgt := 41) hx hb dX5_moves_35 (by decide) (fun c13 => ?_) (fun c13 => ?_)
        · replace hf := im c13 hf
          refine lv_aload_n (pc := 41) hx hb dX5_moves_41 rfl (lv_at hl 0 rfl) ?_
          obtain ⟨x14, ex14, hf⟩ := bd_some hf
          refine ct_V1 (pc := 42) (As := []) (rest := []) (W1 := bX5 cI cZ a q x14) ⟨hx, hb, hml, hown, hts⟩ hK (c_X5_notes l D cI cZ cS a q om x14 ex14) gv_RX5_130 rfl hs_X5_notes rfl ⟨Nat.le_of_ble_eq_true rfl, Nat.le_of_ble_eq_true rfl⟩ (ci := 5) (q0 := 0) rfl rfl rfl hl.1 rfl (Nat.le_of_ble_eq_true rfl) dX5_moves_42 ⟨Nat.zero_le _, Nat.zero_le _⟩ hP hD hS hA (fun H locs hP hD hS => ?_)
          refine lv_aload_n (pc := 45) hx hb dX5_moves_45 rfl (lv_at hl 0 rfl) ?_
          refine va_get (pc := 46) (D := D) (ci := 5) (v := .ref (q 0)) (C := RX5) (T := TX5) (N := 41) hx hb hts iX5 hown hK.1 hP 0 rfl rfl 0 (by decide) (hts _ fl_RX5_7) (fun _ h => h) rfl dX5_moves_46 ?_
          refine lv_bipush (v := 42) (pc := 49) hx hb dX5_moves_49 (by decide) ?_
          refine lv_iconst (v := 3) (pc := 51) hx hb dX5_moves_51 (by decide) ?_
          refine lv_iload_n (pc := 52) hx hb dX5_moves_52 rfl (lv_at hl 1 rfl) ?_
          refine lv_imul (pc := 53) hx hb dX5_moves_53 ?_
          refine lv_iadd (pc := 54) hx hb dX5_moves_54 ?_
          refine lv_iconst (v := 0) (pc := 55) hx hb dX5_moves_55 (by decide) ?_
          refine lv_iadd (pc := 56) hx hb dX5_moves_56 ?_
          refine lv_iload_n (pc := 57) hx hb dX5_moves_57 rfl (lv_at hl 2 rfl) ?_
          obtain ⟨h15, hf⟩ := ck_some hf
          obtain ⟨o16, eo16, hf⟩ := lt_some hf
          refine va_iast (pc := 58) (f := x14.2.2 0) hx hb hK.1 hP hD hS 1 0 rfl rfl h15 dX5_moves_58 (fun H locs hP hD hS => ?_)
          replace hP : va_P D vwCl (bX5 cI cZ a q o16) H := by rw [eo16]; exact hP
          replace hD : va_D A (bX5 cI cZ a q o16) := by rw [eo16]; exact hD
          refine lv_aload_n (pc := 59) hx hb dX5_moves_59 rfl (lv_at hl 0 rfl) ?_
          refine va_get (pc := 60) (D := D) (ci := 5) (v := .ref (q 0)) (C := RX5) (T := TX5) (N := 41) hx hb hts iX5 hown hK.1 hP 0 rfl rfl 0 (by decide) (hts _ fl_RX5_7) (fun _ h => h) rfl dX5_moves_60 ?_
          refine lv_bipush (v := 42) (pc := 63) hx hb dX5_moves_63 (by decide) ?_
          refine lv_iconst (v := 3) (pc := 65) hx hb dX5_moves_65 (by decide) ?_
          refine lv_iload_n (pc := 66) hx hb dX5_moves_66 rfl (lv_at hl 1 rfl) ?_
          refine lv_imul (pc := 67) hx hb dX5_moves_67 ?_
          refine lv_iadd (pc := 68) hx hb dX5_moves_68 ?_
          refine lv_iconst (v := 1) (pc := 69) hx hb dX5_moves_69 (by decide) ?_
          refine lv_iadd (pc := 70) hx hb dX5_moves_70 ?_
          refine lv_iload_n (pc := 71) hx hb dX5_moves_71 rfl (lv_at hl 3 rfl) ?_
          obtain ⟨h17, hf⟩ := ck_some hf
          obtain ⟨o18, eo18, hf⟩ := lt_some hf
          refine va_iast (pc := 72) (f := o16.2.2 0) hx hb hK.1 hP hD hS 1 0 rfl rfl h17 dX5_moves_72 (fun H locs hP hD hS => ?_)
          replace hP : va_P D vwCl (bX5 cI cZ a q o18) H := by rw [eo18]; exact hP
          replace hD : va_D A (bX5 cI cZ a q o18) := by rw [eo18]; exact hD
          refine lv_iconst (v := 1) (pc := 73) hx hb dX5_moves_73 (by decide) ?_
          obtain rfl := Option.some.inj hf
          exact W.iret hx hb hr (fun t ht hW => ⟨rfl, by rw [ht]; exact hP, hD, hS.F ht⟩) hS.2.2 dX5_moves_74
        · replace hf := ip c13 hf
          refine lv_bipush (v := -2) (pc := 38) hx hb dX5_moves_38 (by decide) ?_
          obtain rfl := Option.some.inj hf
          exact W.iret hx hb hr (fun t ht hW => ⟨rfl, by rw [ht]; exact hP, hD, hS.F ht⟩) hS.2.2 dX5_moves_40
    · replace hf := ip c4 hf
      refine lv_iconst (v := -1) (pc := 16) hx hb dX5_moves_16 (by decide) ?_
      obtain rfl := Option.some.inj hf
      exact W.iret hx hb hr (fun t ht hW => ⟨rfl, by rw [ht]; exact hP, hD, hS.F ht⟩) hS.2.2 dX5_moves_17
