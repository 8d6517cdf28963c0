def f_X4_type (i0 : Int32) (oo : OS) (oc : OS) : Option (Int32 × OS) := if i0 < 0 then some ((-1), oc) else if i0 ≤ 255 then Option.bind (f_X2_append i0 oc) fun x3 => if x3.1 = 0 then some ((-3), x3.2) else some ((x3.2.1 1), x3.2) else some ((-1), oc)
set_option maxHeartbeats 4000000 in
set_option maxRecDepth 100000 in
theorem c_X4_type (l : Launch) (D : va_G) (cI cZ cS : ClassId) (a : Nat) (q : Nat → Nat) (qC : Nat → Nat) (i0 : Int32) (oo : OS) (oc : OS) (x : (Int32 × OS)) (hf : f_X4_type i0 oo oc = some x) : Ct l yX4_type cX4_type 2 (some .int) 1 21 D cI cZ cS [.ref a, .int i0] (bX4 cI cZ a q oo ++ bX2 cI (q 2) qC oc) (some (.int x.1)) (bX4 cI cZ a q oo ++ bX2 cI (q 2) qC x.2) := by
  intro sz
  refine Met.ofW (cc := cX4_type) (maxL := 2) (ret := (some .int)) (by decide +kernel) rfl ?_
  intro p e s m args below meth c s₁ B hml hv
  obtain ⟨rfl, hsz, hP, hK, hD0⟩ := hv
  have hx := B.exec
  have hb := B.bytes
  have hr := B.returns
  have hts0 := atoms_spec (ws := .code yX4_type cX4_type 2 (some .int) :: TB) B.pre
  have hts := fun w (h : w ∈ TB) => hts0 w (List.mem_cons_of_mem _ h)
  have hown : s.vm.findClass RX4 = some m.cls := findClass_of_methodNamed B.named
  have hlocks := B.notSynchronized
  subst hsz
  have hD := hD0.self (sz := s.heap.size)
  generalize hAe : va_A (bX4 cI cZ a q oo ++ bX2 cI (q 2) qC oc) s.heap.size = A at hD ⊢
  have hA : ∀ q : Nat, s.heap.size ≤ q → A q := fun q h => by rw [← hAe]; exact Or.inr h
  have hS : va_S A s.heap s.heap [] := va_S.rf
  obtain ⟨H, hH⟩ : ∃ H, H = s.heap := ⟨_, rfl⟩
  rw [← hH] at hP
  have hS : va_S A s.heap H [] := by rw [hH]; exact hS
  have hl := lv_entry ([.ref a, .int i0]) (n := 2) (Nat.le_of_ble_eq_true rfl)
  rw [lg_entry_eq]
  generalize (lg_sl ([.ref a, .int i0]) ++ List.replicate (2 - (lg_sl ([.ref a, .int i0])).length) Slot.unset).toArray = ls at hl ⊢
  have hl : lv_has ls 2 [(0, .ref a), (1, .int i0)] := hl
  refine W_heap hH ?_
  obtain ⟨locs, hlo⟩ : ∃ locs : List Loc, locs = [] := ⟨_, rfl⟩
  rw [← hlo] at hS ⊢
  unfold f_X4_type at hf
  refine lv_iload_n (pc := 0) hx hb dX4_type_0 rfl (lv_at hl 1 rfl) ?_
  refine lv_if_lt (pc := 1) (tgt := 11) hx hb dX4_type_1 (by decide) (fun c1 => ?_) (fun c1 => ?_)
  · replace hf := ip c1 hf
    refine lv_iconst (v := -1) (pc := 11) hx hb dX4_type_11 (by decide) ?_
    obtain rfl := Option.some.inj hf
    exact W.iret hx hb hr (fun t ht hW => ⟨rfl, by rw [ht]; exact hP, hD, hS.F ht⟩) hS.2.2 dX4_type_12
  · replace hf := im c1 hf
    refine lv_iload_n (pc := 4) hx hb dX4_type_4 rfl (lv_at hl 1 rfl) ?_
    refine lv_sipush (v := 255) (pc := 5) hx hb dX4_type_5 (by decide) ?_
    refine lv_icmp_le (pc := 8) (tgt := 13) hx hb dX4_type_8 (by decide) (fun c2 => ?_) (fun c2 => ?_)
    · replace hf := ip c2 hf
      refine lv_aload_n (pc := 13) hx hb dX4_type_13 rfl (lv_at hl 0 rfl) ?_
      refine va_get (pc := 14) (D := D) (ci := 4) (v := .ref (q 2)) (C := RX4) (T := TX4) (N := 13) hx hb hts iX4 hown hK.1 hP 0 rfl rfl 2 (by decide) (hts _ fl_RX4_22) (fun _ h => h) rfl dX4_type_14 ?_
      refine lv_iload_n (pc := 17) hx hb dX4_type_17 rfl (lv_at hl 1 rfl) ?_
      obtain ⟨x3, ex3, hf⟩ := bd_some hf
      refine ct_V (pc := 18) (As := [.int i0]) (rest := []) (wr := bX4 cI cZ a q oo) (W1 := bX4 cI cZ a q oo ++ bX2 cI (q 2) qC x3.2) ⟨hx, hb, hml, hown, hts⟩ hK (c_X2_append l D cI cZ cS (q 2) qC i0 oc x3 ex3) gv_RX4_58 rfl hs_X2_append rfl ⟨Nat.le_of_ble_eq_true rfl, Nat.le_of_ble_eq_true rfl⟩ (ci := 2) (q0 := 5) rfl rfl rfl hl.1 rfl (Nat.le_of_ble_eq_true rfl) dX4_type_18 ⟨Nat.zero_le _, Nat.zero_le _⟩ hP hD hS hA [5, 6] [0, 1, 2, 3, 4] [0, 1, 2, 3, 4, 5, 6] rfl rfl (by decide +kernel) (by decide +kernel) (by decide +kernel) (by decide +kernel) rfl (fun H locs hP hD hS => ?_)
      refine lv_if_eq (pc := 21) (tgt := 34) hx hb dX4_type_21 (by decide) (fun c4 => ?_) (fun c4 => ?_)
      · replace hf := ip c4 hf
        refine lv_bipush (v := -3) (pc := 34) hx hb dX4_type_34 (by decide) ?_
        obtain rfl := Option.some.inj hf
        exact W.iret hx hb hr (fun t ht hW => ⟨rfl, by rw [ht]; exact hP, hD, hS.F ht⟩) hS.2.2 dX4_type_36
      · replace hf := im c4 hf
        refine lv_aload_n (pc := 24) hx hb dX4_type_24 rfl (lv_at hl 0 rfl) ?_
        refine va_get (pc := 25) (D := D) (ci := 4) (v := .ref (q 2)) (C := RX4) (T := TX4) (N := 13) hx hb hts iX4 hown hK.1 hP 0 rfl rfl 2 (by decide) (hts _ fl_RX4_22) (fun _ h => h) rfl dX4_type_25 ?_
        refine va_getN (pc := 28) (D := D) (ci := 2) (v := .int (x3.2.1 1)) (C := RX2) (T := TX2) (N := 7) hx hb hts iX2 hown hK.1 hP 5 rfl rfl 1 (by decide) (va_Nw.use rfl (hK.2 _ nf_RX4_62)) (fun _ h => h) rfl dX4_type_28 ?_
        refine lv_goto (pc := 31) (tgt := 36) hx hb dX4_type_31 (by decide) ?_
        obtain rfl := Option.some.inj hf
        exact W.iret hx hb hr (fun t ht hW => ⟨rfl, by rw [ht]; exact hP, hD, hS.F ht⟩) hS.2.2 dX4_type_36
    · replace hf := im c2 hf
      refine lv_iconst (v := -1) (pc := 11) hx hb dX4_type_11 (by decide) ?_
      obtain rfl := Option.some.inj hf
      exact W.iret hx hb hr (fun t ht hW => ⟨rfl, by rw [ht]; exact hP, hD, hS.F ht⟩) hS.2.2 dX4_type_12
def f_X4_clear (oo : OS) (oc : OS) : Option (Int32 × OS) := lt (sI oc 1 0) fun o1 => some ((oc.1 1), o1)
set_option maxHeartbeats 4000000 in
set_option maxRecDepth 100000 in
theorem c_X4_clear (l : Launch) (D : va_G) (cI cZ cS : ClassId) (a : Nat) (q : Nat → Nat) (qC : Nat → Nat) (oo : OS) (oc : OS) (x : (Int32 × OS)) (hf : f_X4_clear oo oc = some x) : Ct l yX4_clear cX4_clear 2 (some .int) 0 0 D cI cZ cS [.ref a] (bX4 cI cZ a q oo ++ bX2 cI (q 2) qC oc) (some (.int x.1)) (bX4 cI cZ a q oo ++ bX2 cI (q 2) qC x.2) := by
  intro sz
  refine Met.ofW (cc := cX4_clear) (maxL := 2) (ret := (some .int)) (by decide +kernel) rfl ?_
  intro p e s m args below meth c s₁ B hml hv
  obtain ⟨rfl, hsz, hP, hK, hD0⟩ := hv
  have hx := B.exec
  have hb := B.bytes
  have hr := B.returns
  have hts0 := atoms_spec (ws := .code yX4_clear cX4_clear 2 (some .int) :: TB) B.pre
  have hts := fun w (h : w ∈ TB) => hts0 w (List.mem_cons_of_mem _ h)
  have hown : s.vm.findClass RX4 = some m.cls := findClass_of_methodNamed B.named
  have hlocks := B.notSynchronized
  subst hsz
  have hD := hD0.self (sz := s.heap.size)
  generalize hAe : va_A (bX4 cI cZ a q oo ++ bX2 cI (q 2) qC oc) s.heap.size = A at hD ⊢
  have hA : ∀ q : Nat, s.heap.size ≤ q → A q := fun q h => by rw [← hAe]; exact Or.inr h
  have hS : va_S A s.heap s.heap [] := va_S.rf
  obtain ⟨H, hH⟩ : ∃ H, H = s.heap := ⟨_, rfl⟩
  rw [← hH] at hP
  have hS : va_S A s.heap H [] := by rw [hH]; exact hS
  have hl := lv_entry ([.ref a]) (n := 2) (Nat.le_of_ble_eq_true rfl)
  rw [lg_entry_eq]
  generalize (lg_sl ([.ref a]) ++ List.replicate (2 - (lg_sl ([.ref a])).length) Slot.unset).toArray = ls at hl ⊢
  have hl : lv_has ls 2 [(0, .ref a)] := hl
  refine W_heap hH ?_
  obtain ⟨locs, hlo⟩ : ∃ locs : List Loc, locs = [] := ⟨_, rfl⟩
  rw [← hlo] at hS ⊢
  unfold f_X4_clear at hf
  refine lv_aload_n (pc := 0) hx hb dX4_clear_0 rfl (lv_at hl 0 rfl) ?_
  refine va_get (pc := 1) (D := D) (ci := 4) (v := .ref (q 2)) (C := RX4) (T := TX4) (N := 13) hx hb hts iX4 hown hK.1 hP 0 rfl rfl 2 (by decide) (hts _ fl_RX4_22) (fun _ h => h) rfl dX4_clear_1 ?_
  refine va_getN (pc := 4) (D := D) (ci := 2) (v := .int (oc.1 1)) (C := RX2) (T := TX2) (N := 7) hx hb hts iX2 hown hK.1 hP 5 rfl rfl 1 (by decide) (va_Nw.use rfl (hK.2 _ nf_RX4_62)) (fun _ h => h) rfl dX4_clear_4 ?_
  refine lv_istore_n (lv' := [(1, .int (oc.1 1)), (0, .ref a)]) (pc := 7) hx hb dX4_clear_7 rfl hl (by decide) rfl (fun ls hl => ?_)
  refine lv_aload_n (pc := 8) hx hb dX4_clear_8 rfl (lv_at hl 1 rfl) ?_
  refine va_get (pc := 9) (D := D) (ci := 4) (v := .ref (q 2)) (C := RX4) (T := TX4) (N := 13) hx hb hts iX4 hown hK.1 hP 0 rfl rfl 2 (by decide) (hts _ fl_RX4_22) (fun _ h => h) rfl dX4_clear_9 ?_
  refine lv_iconst (v := 0) (pc := 12) hx hb dX4_clear_12 (by decide) ?_
  obtain ⟨o1, eo1, hf⟩ := lt_some hf
  refine va_putN (pc := 13) (D := D) (ci := 2) (v := .int 0) (ty := .int) (C := RX2) (T := TX2) (N := 7) hx hb hts iX2 tyX2 tyX2_ok nmX2 hown hK.1 hP hD hS 5 rfl rfl 1 (by decide) (va_Nw.use rfl (hK.2 _ nf_RX4_62)) (fun _ h => h) rfl (tyX2_ok 1 (by decide)) rfl rfl (Nat.le_of_ble_eq_true rfl) dX4_clear_13 (fun H locs hP hD hS => ?_)
  replace hP : va_P D vwCl (bX4 cI cZ a q oo ++ bX2 cI (q 2) qC o1) H := by rw [eo1]; exact hP
  replace hD : va_D A (bX4 cI cZ a q oo ++ bX2 cI (q 2) qC o1) := by rw [eo1]; exact hD
  refine lv_iload_n (pc := 16) hx hb dX4_clear_16 rfl (lv_at hl 0 rfl) ?_
  obtain rfl := Option.some.inj hf
  exact W.iret hx hb hr (fun t ht hW => ⟨rfl, by rw [ht]; exact hP, hD, hS.F ht⟩) hS.2.2 dX4_clear_17
def lp_X4_tells_55 : Nat → Int32 → OS → Option (Int32 × OS)
  | 0, _, _ => none
  | n + 1, v2, w_O => if 2 ≤ v2 then some (v2, w_O) else ck v2 2 (lt (sA w_O 6 ((v2 : Int32).toNatClampNeg) (vp_nar .boolean 0)) fun o13 => lp_X4_tells_55 n (v2 + 1) o13)
def f_X4_tells (oo : OS) (on : OS) (ot : OS) (oc : OS) : Option (Int32 × OS × OS × OS × OS) := Option.bind (f_X2_readInto oc ot) fun x1 => if 0 ≤ x1.1 then Option.bind (f_X3_copy x1.2.2 on) fun x3 => lt (sI x1.2.1 1 0) fun o4 => lt (sI oo 4 0) fun o5 => lt (sI o5 7 10) fun o6 => lt (sI o6 10 0) fun o7 => Option.bind (lp_X4_tells_55 1000 0 o7) fun z8 => some (x1.1, z8.2, x3, x1.2.2, o4) else some (x1.1, oo, on, x1.2.2, x1.2.1)
set_option maxHeartbeats 4000000 in
set_option maxRecDepth 100000 in
theorem c_X4_tells (l : Launch) (D : va_G) (cI cZ cS : ClassId) (a : Nat) (q : Nat → Nat) (qN : Nat → Nat) (qT : Nat → Nat) (qC : Nat → Nat) (oo : OS) (on : OS) (ot : OS) (oc : OS) (x : (Int32 × OS × OS × OS × OS)) (hf : f_X4_tells oo on ot oc = some x) : Ct l yX4_tells cX4_tells 3 (some .int) 6 138 D cI cZ cS [.ref a] (bX4 cI cZ a q oo ++ (bX3 cI (q 0) qN on ++ (bX3 cI (q 1) qT ot ++ bX2 cI (q 2) qC oc))) (some (.int x.1)) (bX4 cI cZ a q x.2.1 ++ (bX3 cI (q 0) qN x.2.2.1 ++ (bX3 cI (q 1) qT x.2.2.2.1 ++ bX2 cI (q 2) qC x.2.2.2.2))) := by
  intro sz
  refine Met.ofW (cc := cX4_tells) (maxL := 3) (ret := (some .int)) (by decide +kernel) rfl ?_
  intro p e s m args below meth c s₁ B hml hv
  obtain ⟨rfl, hsz, hP, hK, hD0⟩ := hv
  have hx := B.exec
  have hb := B.bytes
  have hr := B.returns
  have hts0 := atoms_spec (ws := .code yX4_tells cX4_tells 3 (some .int) :: TB) B.pre
  have hts := fun w (h : w ∈ TB) => hts0 w (List.mem_cons_of_mem _ h)
  have hown : s.vm.findClass RX4 = some m.cls := findClass_of_methodNamed B.named
  have hlocks := B.notSynchronized
  subst hsz
  have hD := hD0.self (sz := s.heap.size)
  generalize hAe : va_A (bX4 cI cZ a q oo ++ (bX3 cI (q 0) qN on ++ (bX3 cI (q 1) qT ot ++ bX2 cI (q 2) qC oc))) s.heap.size = A at hD ⊢
  have hA : ∀ q : Nat, s.heap.size ≤ q → A q := fun q h => by rw [← hAe]; exact Or.inr h
  have hS : va_S A s.heap s.heap [] := va_S.rf
  obtain ⟨H, hH⟩ : ∃ H, H = s.heap := ⟨_, rfl⟩
  rw [← hH] at hP
  have hS : va_S A s.heap H [] := by rw [hH]; exact hS
  have hl := lv_entry ([.ref a]) (n := 3) (Nat.le_of_ble_eq_true rfl)
  rw [lg_entry_eq]
  generalize (lg_sl ([.ref a]) ++ List.replicate (3 - (lg_sl ([.ref a])).length) Slot.unset).toArray = ls at hl ⊢
  have hl : lv_has ls 3 [(0, .ref a)] := hl
  refine W_heap hH ?_
  obtain ⟨locs, hlo⟩ : ∃ locs : List Loc, locs = [] := ⟨_, rfl⟩
  rw [← hlo] at hS ⊢
  unfold f_X4_tells at hf
  refine lv_aload_n (pc := 0) hx hb dX4_tells_0 rfl (lv_at hl 0 rfl) ?_
  refine va_get (pc := 1) (D := D) (ci := 4) (v := .ref (q 2)) (C := RX4) (T := TX4) (N := 13) hx hb hts iX4 hown hK.1 hP 0 rfl rfl 2 (by decide) (hts _ fl_RX4_22) (fun _ h => h) rfl dX4_tells_1 ?_
  refine lv_aload_n (pc := 4) hx hb dX4_tells_4 rfl (lv_at hl 0 rfl) ?_
  refine va_get (pc := 5) (D := D) (ci := 4) (v := .ref (q 1)) (C := RX4) (T := TX4) (N := 13) hx hb hts iX4 hown hK.1 hP 0 rfl rfl 1 (by decide) (hts _ fl_RX4_16) (fun _ h => h) rfl dX4_tells_5 ?_
  obtain ⟨x1, ex1, hf⟩ := bd_some hf
  refine ct_V (pc := 8) (As := [.ref (q 1)]) (rest := []) (wr := bX4 cI cZ a q oo ++ bX3 cI (q 0) qN on) (W1 := bX4 cI cZ a q oo ++ (bX3 cI (q 0) qN on ++ (bX3 cI (q 1) qT x1.2.2 ++ bX2 cI (q 2) qC x1.2.1))) ⟨hx, hb, hml, hown, hts⟩ hK (c_X2_readInto l D cI cZ cS (q 2) qC (q 1) qT oc ot x1 ex1) gv_RX4_65 rfl hs_X2_readInto rfl ⟨Nat.le_of_ble_eq_true rfl, Nat.le_of_ble_eq_true rfl⟩ (ci := 2) (q0 := 21) rfl rfl rfl hl.1 rfl (Nat.le_of_ble_eq_true rfl) dX4_tells_8 ⟨Nat.zero_le _, Nat.zero_le _⟩ hP hD hS hA [21, 22, 13, 14, 15, 16, 17, 18, 19, 20] [0, 1, 2, 3, 4, 5, 6, 7, 8, 9, 10, 11, 12] [0, 1, 2, 3, 4, 5, 6, 7, 8, 9, 10, 11, 12, 15, 16, 17, 18, 19, 20, 21, 22, 13, 14] rfl rfl (by decide +kernel) (by decide +kernel) (by decide +kernel) (by decide +kernel) rfl (fun H locs hP hD hS => ?_)
  refine lv_istore_n (lv' := [(1, .int x1.1), (0, .ref a)]) (pc := 11) hx hb dX4_tells_11 rfl hl (by decide) rfl (fun ls hl => ?_)
  refine lv_iload_n (pc := 12) hx hb dX4_tells_12 rfl (lv_at hl 0 rfl) ?_
  refine lv_if_ge (pc := 13) (tgt := 18) hx hb dX4_tells_13 (by decide) (fun c2 => ?_) (fun c2 => ?_)
  · replace hf := ip c2 hf
    refine lv_aload_n (pc := 18) hx hb dX4_tells_18 rfl (lv_at hl 1 rfl) ?_
    refine va_get (pc := 19) (D := D) (ci := 4) (v := .ref (q 1)) (C := RX4) (T := TX4) (N := 13) hx hb hts iX4 hown hK.1 hP 0 rfl rfl 1 (by decide) (hts _ fl_RX4_16) (fun _ h => h) rfl dX4_tells_19 ?_
    refine lv_aload_n (pc := 22) hx hb dX4_tells_22 rfl (lv_at hl 1 rfl) ?_
    refine va_get (pc := 23) (D := D) (ci := 4) (v := .ref (q 0)) (C := RX4) (T := TX4) (N := 13) hx hb hts iX4 hown hK.1 hP 0 rfl rfl 0 (by decide) (hts _ fl_RX4_12) (fun _ h => h) rfl dX4_tells_23 ?_
    obtain ⟨x3, ex3, hf⟩ := bd_some hf
    refine ct_S (pc := 26) (As := [.ref (q 1), .ref (q 0)]) (rest := []) (wr := bX4 cI cZ a q oo ++ bX2 cI (q 2) qC x1.2.1) (W1 := bX4 cI cZ a q oo ++ (bX3 cI (q 0) qN x3 ++ (bX3 cI (q 1) qT x1.2.2 ++ bX2 cI (q 2) qC x1.2.1))) ⟨hx, hb, hml, hown, hts⟩ hK (c_X3_copy l D cI cZ cS (q 1) (q 0) qT qN x1.2.2 on x3 ex3) gs_RX4_69 hs_X3_copy rfl ⟨Nat.le_of_ble_eq_true rfl, Nat.le_of_ble_eq_true rfl⟩ hl.1 rfl (Nat.le_of_ble_eq_true rfl) dX4_tells_26 ⟨Nat.zero_le _, Nat.zero_le _⟩ hP hD hS hA [13, 14, 15, 16, 17, 18, 19, 20, 5, 6, 7, 8, 9, 10, 11, 12] [0, 1, 2, 3, 4, 21, 22] [0, 1, 2, 3, 4, 15, 16, 17, 18, 19, 20, 21, 22, 7, 8, 9, 10, 11, 12, 13, 14, 5, 6] rfl rfl (by decide +kernel) (by decide +kernel) (by decide +kernel) (by decide +kernel) rfl (fun H locs hP hD hS => ?_)
    refine lv_aload_n (pc := 29) hx hb dX4_tells_29 rfl (lv_at hl 1 rfl) ?_
    refine va_get (pc := 30) (D := D) (ci := 4) (v := .ref (q 2)) (C := RX4) (T := TX4) (N := 13) hx hb hts iX4 hown hK.1 hP 0 rfl rfl 2 (by decide) (hts _ fl_RX4_22) (fun _ h => h) rfl dX4_tells_30 ?_
    refine lv_iconst (v := 0) (pc := 33) hx hb dX4_tells_33 (by decide) ?_
    obtain ⟨o4, eo4, hf⟩ := lt_some hf
    refine va_putN (pc := 34) (D := D) (ci := 2) (v := .int 0) (ty := .int) (C := RX2) (T := TX2) (N := 7) hx hb hts iX2 tyX2 tyX2_ok nmX2 hown hK.1 hP hD hS 21 rfl rfl 1 (by decide) (va_Nw.use rfl (hK.2 _ nf_RX4_62)) (fun _ h => h) rfl (tyX2_ok 1 (by decide)) rfl rfl (Nat.le_of_ble_eq_true rfl) dX4_tells_34 (fun H locs hP hD hS => ?_)
    replace hP : va_P D vwCl (bX4 cI cZ a q oo ++ (bX3 cI (q 0) qN x3 ++ (bX3 cI (q 1) qT x1.2.2 ++ bX2 cI (q 2) qC o4))) H := by rw [eo4]; exact hP
    replace hD : va_D A (bX4 cI cZ a q oo ++ (bX3 cI (q 0) qN x3 ++ (bX3 cI (q 1) qT x1.2.2 ++ bX2 cI (q 2) qC o4))) := by rw [eo4]; exact hD
    refine lv_aload_n (pc := 37) hx hb dX4_tells_37 rfl (lv_at hl 1 rfl) ?_
    refine lv_iconst (v := 0) (pc := 38) hx hb dX4_tells_38 (by decide) ?_
    obtain ⟨o5, eo5, hf⟩ := lt_some hf
    refine va_put (pc := 39) (D := D) (ci := 4) (v := .int 0) (ty := .int) (C := RX4) (T := TX4) (N := 13) hx hb hts iX4 tyX4 tyX4_ok nmX4 hown hK.1 hP hD hS 0 rfl rfl 4 (by decide) (hts _ fl_RX4_73) (fun _ h => h) rfl (tyX4_ok 4 (by decide)) rfl rfl (Nat.le_of_ble_eq_true rfl) dX4_tells_39 (fun H locs hP hD hS => ?_)
    replace hP : va_P D vwCl (bX4 cI cZ a q o5 ++ (bX3 cI (q 0) qN x3 ++ (bX3 cI (q 1) qT x1.2.2 ++ bX2 cI (q 2) qC o4))) H := by rw [eo5]; exact hP
    replace hD : va_D A (bX4 cI cZ a q o5 ++ (bX3 cI (q 0) qN x3 ++ (bX3 cI (q 1) qT x1.2.2 ++ bX2 cI (q 2) qC o4))) := by rw [eo5]; exact hD
    refine lv_aload_n (pc := 42) hx hb dX4_tells_42 rfl (lv_at hl 1 rfl) ?_
    refine lv_bipush (v := 10) (pc := 43) hx hb dX4_tells_43 (by decide) ?_
    obtain ⟨o6, eo6, hf⟩ := lt_some hf
    refine va_put (pc := 45) (D := D) (ci := 4) (v := .int 10) (ty := .int) (C := RX4) (T := TX4) (N := 13) hx hb hts iX4 tyX4 tyX4_ok nmX4 hown hK.1 hP hD hS 0 rfl rfl 7 (by decide) (hts _ fl_RX4_37) (fun _ h => h) rfl (tyX4_ok 7 (by decide)) rfl rfl (Nat.le_of_ble_eq_true rfl) dX4_tells_45 (fun H locs hP hD hS => ?_)
    replace hP : va_P D vwCl (bX4 cI cZ a q o6 ++ (bX3 cI (q 0) qN x3 ++ (bX3 cI (q 1) qT x1.2.2 ++ bX2 cI (q 2) qC o4))) H := by rw [eo6]; exact hP
    replace hD : va_D A (bX4 cI cZ a q o6 ++ (bX3 cI (q 0) qN x3 ++ (bX3 cI (q 1) qT x1.2.2 ++ bX2 cI (q 2) qC o4))) := by rw [eo6]; exact hD
    refine lv_aload_n (pc := 48) hx hb dX4_tells_48 rfl (lv_at hl 1 rfl) ?_
    refine lv_iconst (v := 0) (pc := 49) hx hb dX4_tells_49 (by decide) ?_
    obtain ⟨o7, eo7, hf⟩ := lt_some hf
    refine va_put (pc := 50) (D := D) (ci := 4) (v := .int 0) (ty := .int) (C := RX4) (T := TX4) (N := 13) hx hb hts iX4 tyX4 tyX4_ok nmX4 hown hK.1 hP hD hS 0 rfl rfl 10 (by decide) (hts _ fl_RX4_76) (fun _ h => h) rfl (tyX4_ok 10 (by decide)) rfl rfl (Nat.le_of_ble_eq_true rfl) dX4_tells_50 (fun H locs hP hD hS => ?_)
    replace hP : va_P D vwCl (bX4 cI cZ a q o7 ++ (bX3 cI (q 0) qN x3 ++ (bX3 cI (q 1) qT x1.2.2 ++ bX2 cI (q 2) qC o4))) H := by rw [eo7]; exact hP
    replace hD : va_D A (bX4 cI cZ a q o7 ++ (bX3 cI (q 0) qN x3 ++ (bX3 cI (q 1) qT x1.2.2 ++ bX2 cI (q 2) qC o4))) := by rw [eo7]; exact hD
    refine lv_iconst (v := 0) (pc := 53) hx hb dX4_tells_53 (by decide) ?_
    refine lv_istore_n (lv' := [(2, .int 0), (1, .int x1.1), (0, .ref a)]) (pc := 54) hx hb dX4_tells_54 rfl hl (by decide) rfl (fun ls hl => ?_)
    obtain ⟨z8, hz8, hf⟩ := bd_some hf
    have hfz8 := hf
    clear hf
    have K9 : ∀ (H : Heap) (locs : List Loc) (ls : Array Slot), va_P D vwCl (bX4 cI cZ a q z8.2 ++ (bX3 cI (q 0) qN x3 ++ (bX3 cI (q 1) qT x1.2.2 ++ bX2 cI (q 2) qC o4))) H → va_D A (bX4 cI cZ a q z8.2 ++ (bX3 cI (q 0) qN x3 ++ (bX3 cI (q 1) qT x1.2.2 ++ bX2 cI (q 2) qC o4))) → va_S A s.heap H locs → lv_has ls 3 [(0, .ref a), (1, .int x1.1), (2, .int z8.1)] → GW l yX4_tells cX4_tells 3 (some .int) 6 138 D [.ref a] (some (.int x.1)) (bX4 cI cZ a q x.2.1 ++ (bX3 cI (q 0) qN x.2.2.1 ++ (bX3 cI (q 1) qT x.2.2.2.1 ++ bX2 cI (q 2) qC x.2.2.2.2))) A p e s m below meth c H locs (F0 m 73 ls []) := by
      intro H locs ls hP hD hS hl
      have hf := hfz8
      refine lv_iload_n (pc := 73) hx hb dX4_tells_73 rfl (lv_at hl 1 rfl) ?_
      obtain rfl := Option.some.inj hf
      exact W.iret hx hb hr (fun t ht hW => ⟨rfl, by rw [ht]; exact hP, hD, hS.F ht⟩) hS.2.2 dX4_tells_74
    have KL10 : ∀ (n : Nat) (v2 : Int32) (w_O : OS) (H : Heap) (locs : List Loc) (ls : Array Slot), lp_X4_tells_55 n v2 w_O = some z8 → va_P D vwCl (bX4 cI cZ a q w_O ++ (bX3 cI (q 0) qN x3 ++ (bX3 cI (q 1) qT x1.2.2 ++ bX2 cI (q 2) qC o4))) H → va_D A (bX4 cI cZ a q w_O ++ (bX3 cI (q 0) qN x3 ++ (bX3 cI (q 1) qT x1.2.2 ++ bX2 cI (q 2) qC o4))) → va_S A s.heap H locs → lv_has ls 3 [(0, .ref a), (1, .int x1.1), (2, .int v2)] → GW l yX4_tells cX4_tells 3 (some .int) 6 138 D [.ref a] (some (.int x.1)) (bX4 cI cZ a q x.2.1 ++ (bX3 cI (q 0) qN x.2.2.1 ++ (bX3 cI (q 1) qT x.2.2.2.1 ++ bX2 cI (q 2) qC x.2.2.2.2))) A p e s m below meth c H locs (F0 m 55 ls []) := by
      intro n
      induction n with
      | zero => intro v2 w_O H locs ls hf; cases hf
      | succ n ih =>
        intro v2 w_O H locs ls hf hP hD hS hl
        rw [lp_X4_tells_55] at hf
        refine lv_iload_n (pc := 55) hx hb dX4_tells_55 rfl (lv_at hl 2 rfl) ?_
        refine lv_iconst (v := 2) (pc := 56) hx hb dX4_tells_56 (by decide) ?_
        refine lv_icmp_ge (pc := 57) (tgt := 73) hx hb dX4_tells_57 (by decide) (fun c11 => ?_) (fun c11 => ?_)
        · replace hf := ip c11 hf
          obtain rfl := Option.some.inj hf
          exact K9 H locs ls hP hD hS (lv_sub hl [0, 1, 2] rfl)
        · replace hf := im c11 hf
          refine lv_aload_n (pc := 60) hx hb dX4_tells_60 rfl (lv_at hl 0 rfl) ?_
          refine va_get (pc := 61) (D := D) (ci := 4) (v := .ref (q 6)) (C := RX4) (T := TX4) (N := 13) hx hb hts iX4 hown hK.1 hP 0 rfl rfl 6 (by decide) (hts _ fl_RX4_33) (fun _ h => h) rfl dX4_tells_61 ?_
          refine lv_iload_n (pc := 64) hx hb dX4_tells_64 rfl (lv_at hl 2 rfl) ?_
          refine lv_iconst (v := 0) (pc := 65) hx hb dX4_tells_65 (by decide) ?_
          obtain ⟨h12, hf⟩ := ck_some hf
          obtain ⟨o13, eo13, hf⟩ := lt_some hf
          refine va_zast (pc := 66) (f := w_O.2.2 6) hx hb hK.1 hP hD hS 1 1 rfl rfl h12 dX4_tells_66 (fun H locs hP hD hS => ?_)
          replace hP : va_P D vwCl (bX4 cI cZ a q o13 ++ (bX3 cI (q 0) qN x3 ++ (bX3 cI (q 1) qT x1.2.2 ++ bX2 cI (q 2) qC o4))) H := by rw [eo13]; exact hP
          replace hD : va_D A (bX4 cI cZ a q o13 ++ (bX3 cI (q 0) qN x3 ++ (bX3 cI (q 1) qT x1.2.2 ++ bX2 cI (q 2) qC o4))) := by rw [eo13]; exact hD
          refine lv_iinc (v := (v2 + 1)) (lv' := [(2, .int (v2 + 1)), (0, .ref a), (1, .int x1.1)]) (pc := 67) hx hb dX4_tells_67 hl (k := 2) rfl rfl (by decide) rfl (fun ls hl => ?_)
          refine lv_goto (pc := 70) (tgt := 55) hx hb dX4_tells_70 (by decide) ?_
          exact ih _ _ H locs ls hf hP hD hS (lv_sub hl [1, 2, 0] rfl)
    exact KL10 1000 _ _ H locs ls hz8 hP hD hS (lv_sub hl [2, 1, 0] rfl)
  · replace hf := im c2 hf
    refine lv_iload_n (pc := 16) hx hb dX4_tells_16 rfl (lv_at hl 0 rfl) ?_
    obtain rfl := Option.some.inj hf
    exact W.iret hx hb hr (fun t ht hW => ⟨rfl, by rw [ht]; exact hP, hD, hS.F ht⟩) hS.2.2 dX4_tells_17
def f_X4_isPlace (i0 : Int32) (i1 : Int32) : Option Int32 := if i0 < (-9) then some 0 else if 9 < i0 then some 0 else if i1 < (-9) then some 0 else if 9 < i1 then some 0 else some 1
set_option maxHeartbeats 4000000 in
set_option maxRecDepth 100000 in
theorem c_X4_isPlace (l : Launch) (D : va_G) (cI cZ cS : ClassId) (i0 : Int32) (i1 : Int32) (x : Int32) (hf : f_X4_isPlace i0 i1 = some x) : Ct l yX4_isPlace cX4_isPlace 2 (some .boolean) 0 0 D cI cZ cS [.int i0, .int i1] ([]) (some (.int x)) ([]) := by
  intro sz
  refine Met.ofW (cc := cX4_isPlace) (maxL := 2) (ret := (some .boolean)) (by decide +kernel) rfl ?_
  intro p e s m args below meth c s₁ B hml hv
  obtain ⟨rfl, hsz, hP, hK, hD0⟩ := hv
  have hx := B.exec
  have hb := B.bytes
  have hr := B.returns
  have hts0 := atoms_spec (ws := .code yX4_isPlace cX4_isPlace 2 (some .boolean) :: TB) B.pre
  have hts := fun w (h : w ∈ TB) => hts0 w (List.mem_cons_of_mem _ h)
  have hown : s.vm.findClass RX4 = some m.cls := findClass_of_methodNamed B.named
  have hlocks := B.notSynchronized
  subst hsz
  have hD := hD0.self (sz := s.heap.size)
  generalize hAe : va_A ([]) s.heap.size = A at hD ⊢
  have hA : ∀ q : Nat, s.heap.size ≤ q → A q := fun q h => by rw [← hAe]; exact Or.inr h
  have hS : va_S A s.heap s.heap [] := va_S.rf
  obtain ⟨H, hH⟩ : ∃ H, H = s.heap := ⟨_, rfl⟩
  rw [← hH] at hP
  have hS : va_S A s.heap H [] := by rw [hH]; exact hS
  have hl := lv_entry ([.int i0, .int i1]) (n := 2) (Nat.le_of_ble_eq_true rfl)
  rw [lg_entry_eq]
  generalize (lg_sl ([.int i0, .int i1]) ++ List.replicate (2 - (lg_sl ([.int i0, .int i1])).length) Slot.unset).toArray = ls at hl ⊢
  have hl : lv_has ls 2 [(0, .int i0), (1, .int i1)] := hl
  refine W_heap hH ?_
  obtain ⟨locs, hlo⟩ : ∃ locs : List Loc, locs = [] := ⟨_, rfl⟩
  rw [← hlo] at hS ⊢
  unfold f_X4_isPlace at hf
  refine lv_iload_n (pc := 0) hx hb dX4_isPlace_0 rfl (lv_at hl 0 rfl) ?_
  refine lv_bipush (v := -9) (pc := 1) hx hb dX4_isPlace_1 (by decide) ?_
  refine lv_icmp_lt (pc := 3) (tgt := 28) hx hb dX4_isPlace_3 (by decide) (fun c1 => ?_) (fun c1 => ?_)
  · replace hf := ip c1 hf
    refine lv_iconst (v := 0) (pc := 28) hx hb dX4_isPlace_28 (by decide) ?_
    obtain rfl := Option.some.inj hf
    exact W.zret hx hb hr rfl (fun t ht hW => ⟨rfl, by rw [ht]; exact hP, hD, hS.F ht⟩) hS.2.2 dX4_isPlace_29
  · replace hf := im c1 hf
    refine lv_iload_n (pc := 6) hx hb dX4_isPlace_6 rfl (lv_at hl 0 rfl) ?_
    refine lv_bipush (v := 9) (pc := 7) hx hb dX4_isPlace_7 (by decide) ?_
    refine lv_icmp_gt (pc := 9) (tgt := 28) hx hb dX4_isPlace_9 (by decide) (fun c2 => ?_) (fun c2 => ?_)
    · replace hf := ip c2 hf
      refine lv_iconst (v := 0) (pc := 28) hx hb dX4_isPlace_28 (by decide) ?_
      obtain rfl := Option.some.inj hf
      exact W.zret hx hb hr rfl (fun t ht hW => ⟨rfl, by rw [ht]; exact hP, hD, hS.F ht⟩) hS.2.2 dX4_isPlace_29
    · replace hf := im c2 hf
      refine lv_iload_n (pc := 12) hx hb dX4_isPlace_12 rfl (lv_at hl 1 rfl) ?_
      refine lv_bipush (v := -9) (pc := 13) hx hb dX4_isPlace_13 (by decide) ?_
      refine lv_icmp_lt (pc := 15) (tgt := 28) hx hb dX4_isPlace_15 (by decide) (fun c3 => ?_) (fun c3 => ?_)
      · replace hf := ip c3 hf
        refine lv_iconst (v := 0) (pc := 28) hx hb dX4_isPlace_28 (by decide) ?_
        obtain rfl := Option.some.inj hf
        exact W.zret hx hb hr rfl (fun t ht hW => ⟨rfl, by rw [ht]; exact hP, hD, hS.F ht⟩) hS.2.2 dX4_isPlace_29
      · replace hf := im c3 hf
        refine lv_iload_n (pc := 18) hx hb dX4_isPlace_18 rfl (lv_at hl 1 rfl) ?_
        refine lv_bipush (v := 9) (pc := 19) hx hb dX4_isPlace_19 (by decide) ?_
        refine lv_icmp_gt (pc := 21) (tgt := 28) hx hb dX4_isPlace_21 (by decide) (fun c4 => ?_) (fun c4 => ?_)
        · replace hf := ip c4 hf
          refine lv_iconst (v := 0) (pc := 28) hx hb dX4_isPlace_28 (by decide) ?_
          obtain rfl := Option.some.inj hf
          exact W.zret hx hb hr rfl (fun t ht hW => ⟨rfl, by rw [ht]; exact hP, hD, hS.F ht⟩) hS.2.2 dX4_isPlace_29
        · replace hf := im c4 hf
          refine lv_iconst (v := 1) (pc := 24) hx hb dX4_isPlace_24 (by decide) ?_
          refine lv_goto (pc := 25) (tgt := 29) hx hb dX4_isPlace_25 (by decide) ?_
          obtain rfl := Option.some.inj hf
          exact W.zret hx hb hr rfl (fun t ht hW => ⟨rfl, by rw [ht]; exact hP, hD, hS.F ht⟩) hS.2.2 dX4_isPlace_29
def f_X4_isPileKind (i0 : Int32) (i1 : Int32) : Option Int32 := if i0 < 1 then some 0 else if 9 < i0 then some 0 else if i1 < 1 then some 0 else if 99 < i1 then some 0 else some 1
set_option maxHeartbeats 4000000 in
set_option maxRecDepth 100000 in
theorem c_X4_isPileKind (l : Launch) (D : va_G) (cI cZ cS : ClassId) (i0 : Int32) (i1 : Int32) (x : Int32) (hf : f_X4_isPileKind i0 i1 = some x) : Ct l yX4_isPileKind cX4_isPileKind 2 (some .boolean) 0 0 D cI cZ cS [.int i0, .int i1] ([]) (some (.int x)) ([]) := by
  intro sz
  refine Met.ofW (cc := cX4_isPileKind) (maxL := 2) (ret := (some .boolean)) (by decide +kernel) rfl ?_
  intro p e s m args below meth c s₁ B hml hv
  obtain ⟨rfl, hsz, hP, hK, hD0⟩ := hv
  have hx := B.exec
  have hb := B.bytes
  have hr := B.returns
  have hts0 := atoms_spec (ws := .code yX4_isPileKind cX4_isPileKind 2 (some .boolean) :: TB) B.pre
  have hts := fun w (h : w ∈ TB) => hts0 w (List.mem_cons_of_mem _ h)
  have hown : s.vm.findClass RX4 = some m.cls := findClass_of_methodNamed B.named
  have hlocks := B.notSynchronized
  subst hsz
  have hD := hD0.self (sz := s.heap.size)
  generalize hAe : va_A ([]) s.heap.size = A at hD ⊢
  have hA : ∀ q : Nat, s.heap.size ≤ q → A q := fun q h => by rw [← hAe]; exact Or.inr h
  have hS : va_S A s.heap s.heap [] := va_S.rf
  obtain ⟨H, hH⟩ : ∃ H, H = s.heap := ⟨_, rfl⟩
  rw [← hH] at hP
  have hS : va_S A s.heap H [] := by rw [hH]; exact hS
  have hl := lv_entry ([.int i0, .int i1]) (n := 2) (Nat.le_of_ble_eq_true rfl)
  rw [lg_entry_eq]
  generalize (lg_sl ([.int i0, .int i1]) ++ List.replicate (2 - (lg_sl ([.int i0, .int i1])).length) Slot.unset).toArray = ls at hl ⊢
  have hl : lv_has ls 2 [(0, .int i0), (1, .int i1)] := hl
  refine W_heap hH ?_
  obtain ⟨locs, hlo⟩ : ∃ locs : List Loc, locs = [] := ⟨_, rfl⟩
  rw [← hlo] at hS ⊢
  unfold f_X4_isPileKind at hf
  refine lv_iload_n (pc := 0) hx hb dX4_isPileKind_0 rfl (lv_at hl 0 rfl) ?_
  refine lv_iconst (v := 1) (pc := 1) hx hb dX4_isPileKind_1 (by decide) ?_
  refine lv_icmp_lt (pc := 2) (tgt := 26) hx hb dX4_isPileKind_2 (by decide) (fun c1 => ?_) (fun c1 => ?_)
  · replace hf := ip c1 hf
    refine lv_iconst (v := 0) (pc := 26) hx hb dX4_isPileKind_26 (by decide) ?_
    obtain rfl := Option.some.inj hf
    exact W.zret hx hb hr rfl (fun t ht hW => ⟨rfl, by rw [ht]; exact hP, hD, hS.F ht⟩) hS.2.2 dX4_isPileKind_27
  · replace hf := im c1 hf
    refine lv_iload_n (pc := 5) hx hb dX4_isPileKind_5 rfl (lv_at hl 0 rfl) ?_
    refine lv_bipush (v := 9) (pc := 6) hx hb dX4_isPileKind_6 (by decide) ?_
    refine lv_icmp_gt (pc := 8) (tgt := 26) hx hb dX4_isPileKind_8 (by decide) (fun c2 => ?_) (fun c2 => ?_)
    · replace hf := ip c2 hf
      refine lv_iconst (v := 0) (pc := 26) hx hb dX4_isPileKind_26 (by decide) ?_
      obtain rfl := Option.some.inj hf
      exact W.zret hx hb hr rfl (fun t ht hW => ⟨rfl, by rw [ht]; exact hP, hD, hS.F ht⟩) hS.2.2 dX4_isPileKind_27
    · replace hf := im c2 hf
      refine lv_iload_n (pc := 11) hx hb dX4_isPileKind_11 rfl (lv_at hl 1 rfl) ?_
      refine lv_iconst (v := 1) (pc := 12) hx hb dX4_isPileKind_12 (by decide) ?_
      refine lv_icmp_lt (pc := 13) (tgt := 26) hx hb dX4_isPileKind_13 (by decide) (fun c3 => ?_) (fun c3 => ?_)
      · replace hf := ip c3 hf
        refine lv_iconst (v := 0) (pc := 26) hx hb dX4_isPileKind_26 (by decide) ?_
        obtain rfl := Option.some.inj hf
        exact W.zret hx hb hr rfl (fun t ht hW => ⟨rfl, by rw [ht]; exact hP, hD, hS.F ht⟩) hS.2.2 dX4_isPileKind_27
      · replace hf := im c3 hf
        refine lv_iload_n (pc := 16) hx hb dX4_isPileKind_16 rfl (lv_at hl 1 rfl) ?_
        refine lv_bipush (v := 99) (pc := 17) hx hb dX4_isPileKind_17 (by decide) ?_
        refine lv_icmp_gt (pc := 19) (tgt := 26) hx hb dX4_isPileKind_19 (by decide) (fun c4 => ?_) (fun c4 => ?_)
        · replace hf := ip c4 hf
          refine lv_iconst (v := 0) (pc := 26) hx hb dX4_isPileKind_26 (by decide) ?_
          obtain rfl := Option.some.inj hf
          exact W.zret hx hb hr rfl (fun t ht hW => ⟨rfl, by rw [ht]; exact hP, hD, hS.F ht⟩) hS.2.2 dX4_isPileKind_27
        · replace hf := im c4 hf
          refine lv_iconst (v := 1) (pc := 22) hx hb dX4_isPileKind_22 (by decide) ?_
          refine lv_goto (pc := 23) (tgt := 27) hx hb dX4_isPileKind_23 (by decide) ?_
          obtain rfl := Option.some.inj hf
          exact W.zret hx hb hr rfl (fun t ht hW => ⟨rfl, by rw [ht]; exact hP, hD, hS.F ht⟩) hS.2.2 dX4_isPileKind_27
def f_X4_drives (i0 : Int32) (i1 : Int32) (i2 : Int32) (i3 : Int32) (oo : OS) (on : OS) (pa : PSt) : Option (Int32 × OS × OS × PSt) := Option.bind (f_X4_isPlace i0 i1) fun x1 => if x1 = 0 then some ((-1), oo, on, pa) else Option.bind (f_X4_isPileKind i2 i3) fun x3 => if x3 = 0 then some ((-1), oo, on, pa) else Option.bind (f_X3_hasPileAt i0 i1 on) fun x5 => if x5 = 0 then if (on.1 4) < 8 then Option.bind (f_X4_recordAction oo on pa) fun x8 => Option.bind (f_X3_addPile i0 i1 i2 i3 on) fun x9 => some (((x9.1 4) - 1), x8.1, x9, x8.2) else some ((-3), oo, on, pa) else some ((-2), oo, on, pa)
set_option maxHeartbeats 4000000 in
set_option maxRecDepth 100000 in
theorem c_X4_drives (l : Launch) (D : va_G) (cI cZ cS : ClassId) (a : Nat) (q : Nat → Nat) (qN : Nat → Nat) (i0 : Int32) (i1 : Int32) (i2 : Int32) (i3 : Int32) (oo : OS) (on : OS) (pa : PSt) (x : (Int32 × OS × OS × PSt)) (hf : f_X4_drives i0 i1 i2 i3 oo on pa = some x) : Ct l yX4_drives cX4_drives 5 (some .int) 3 88 D cI cZ cS [.ref a, .int i0, .int i1, .int i2, .int i3] (bX4 cI cZ a q oo ++ (bX3 cI (q 0) qN on ++ bPA cI cS (q 3) pa)) (some (.int x.1)) (bX4 cI cZ a q x.2.1 ++ (bX3 cI (q 0) qN x.2.2.1 ++ bPA cI cS (q 3) x.2.2.2)) := by
  intro sz
  refine Met.ofW (cc := cX4_drives) (maxL := 5) (ret := (some .int)) (by decide +kernel) rfl ?_
  intro p e s m args below meth c s₁ B hml hv
  obtain ⟨rfl, hsz, hP, hK, hD0⟩ := hv
  have hx := B.exec
  have hb := B.bytes
  have hr := B.returns
  have hts0 := atoms_spec (ws := .code yX4_drives cX4_drives 5 (some .int) :: TB) B.pre
  have hts := fun w (h : w ∈ TB) => hts0 w (List.mem_cons_of_mem _ h)
  have hown : s.vm.findClass RX4 = some m.cls := findClass_of_methodNamed B.named
  have hlocks := B.notSynchronized
  subst hsz
  have hD := hD0.self (sz := s.heap.size)
  generalize hAe : va_A (bX4 cI cZ a q oo ++ (bX3 cI (q 0) qN on ++ bPA cI cS (q 3) pa)) s.heap.size = A at hD ⊢
  have hA : ∀ q : Nat, s.heap.size ≤ q → A q := fun q h => by rw [← hAe]; exact Or.inr h
  have hS : va_S A s.heap s.heap [] := va_S.rf
  obtain ⟨H, hH⟩ : ∃ H, H = s.heap := ⟨_, rfl⟩
  rw [← hH] at hP
  have hS : va_S A s.heap H [] := by rw [hH]; exact hS
  have hl := lv_entry ([.ref a, .int i0, .int i1, .int i2, .int i3]) (n := 5) (Nat.le_of_ble_eq_true rfl)
  rw [lg_entry_eq]
  generalize (lg_sl ([.ref a, .int i0, .int i1, .int i2, .int i3]) ++ List.replicate (5 - (lg_sl ([.ref a, .int i0, .int i1, .int i2, .int i3])).length) Slot.unset).toArray = ls at hl ⊢
  have hl : lv_has ls 5 [(0, .ref a), (1, .int i0), (2, .int i1), (3, .int i2), (4, .int i3)] := hl
  refine W_heap hH ?_
  obtain ⟨locs, hlo⟩ : ∃ locs : List Loc, locs = [] := ⟨_, rfl⟩
  rw [← hlo] at hS ⊢
  unfold f_X4_drives at hf
  refine lv_iload_n (pc := 0) hx hb dX4_drives_0 rfl (lv_at hl 1 rfl) ?_
  refine lv_iload_n (pc := 1) hx hb dX4_drives_1 rfl (lv_at hl 2 rfl) ?_
  obtain ⟨x1, ex1, hf⟩ := bd_some hf
  refine ct_S0 (pc := 2) (As := [.int i0, .int i1]) (rest := []) ⟨hx, hb, hml, hown, hts⟩ hK (c_X4_isPlace l D cI cZ cS i0 i1 x1 ex1) gs_RX4_79 hs_X4_isPlace rfl ⟨Nat.le_of_ble_eq_true rfl, Nat.le_of_ble_eq_true rfl⟩ hl.1 rfl (Nat.le_of_ble_eq_true rfl) dX4_drives_2 ⟨Nat.zero_le _, Nat.zero_le _⟩ hP hS hA (fun H locs hP hS => ?_)
  refine lv_if_eq (pc := 5) (tgt := 17) hx hb dX4_drives_5 (by decide) (fun c2 => ?_) (fun c2 => ?_)
  · replace hf := ip c2 hf
    refine lv_iconst (v := -1) (pc := 17) hx hb dX4_drives_17 (by decide) ?_
    obtain rfl := Option.some.inj hf
    exact W.iret hx hb hr (fun t ht hW => ⟨rfl, by rw [ht]; exact hP, hD, hS.F ht⟩) hS.2.2 dX4_drives_18
  · replace hf := im c2 hf
    refine lv_iload_n (pc := 8) hx hb dX4_drives_8 rfl (lv_at hl 3 rfl) ?_
    refine lv_iload (pc := 9) hx hb dX4_drives_9 (lv_at hl 4 rfl) ?_
    obtain ⟨x3, ex3, hf⟩ := bd_some hf
    refine ct_S0 (pc := 11) (As := [.int i2, .int i3]) (rest := []) ⟨hx, hb, hml, hown, hts⟩ hK (c_X4_isPileKind l D cI cZ cS i2 i3 x3 ex3) gs_RX4_83 hs_X4_isPileKind rfl ⟨Nat.le_of_ble_eq_true rfl, Nat.le_of_ble_eq_true rfl⟩ hl.1 rfl (Nat.le_of_ble_eq_true rfl) dX4_drives_11 ⟨Nat.zero_le _, Nat.zero_le _⟩ hP hS hA (fun H locs hP hS => ?_)
    refine lv_if_ne (pc := 14) (tgt := 19) hx hb dX4_drives_14 (by decide) (fun c4 => ?_) (fun c4 => ?_)
    · replace hf := im c4 hf
      refine lv_aload_n (pc := 19) hx hb dX4_drives_19 rfl (lv_at hl 0 rfl) ?_
      refine va_get (pc := 20) (D := D) (ci := 4) (v := .ref (q 0)) (C := RX4) (T := TX4) (N := 13) hx hb hts iX4 hown hK.1 hP 0 rfl rfl 0 (by decide) (hts _ fl_RX4_12) (fun _ h => h) rfl dX4_drives_20 ?_
      refine lv_iload_n (pc := 23) hx hb dX4_drives_23 rfl (lv_at hl 1 rfl) ?_
      refine lv_iload_n (pc := 24) hx hb dX4_drives_24 rfl (lv_at hl 2 rfl) ?_
      obtain ⟨x5, ex5, hf⟩ := bd_some hf
      refine ct_V (pc := 25) (As := [.int i0, .int i1]) (rest := []) (wr := bX4 cI cZ a q oo ++ bPA cI cS (q 3) pa) (W1 := bX4 cI cZ a q oo ++ (bX3 cI (q 0) qN on ++ bPA cI cS (q 3) pa)) ⟨hx, hb, hml, hown, hts⟩ hK (c_X3_hasPileAt l D cI cZ cS (q 0) qN i0 i1 on x5 ex5) gv_RX4_86 rfl hs_X3_hasPileAt rfl ⟨Nat.le_of_ble_eq_true rfl, Nat.le_of_ble_eq_true rfl⟩ (ci := 3) (q0 := 5) rfl rfl rfl hl.1 rfl (Nat.le_of_ble_eq_true rfl) dX4_drives_25 ⟨Nat.zero_le _, Nat.zero_le _⟩ hP hD hS hA [5, 6, 7, 8, 9, 10, 11, 12] [0, 1, 2, 3, 4, 13, 14, 15, 16, 17, 18, 19, 20, 21, 22, 23, 24, 25, 26, 27, 28, 29, 30, 31, 32, 33, 34, 35, 36, 37, 38, 39, 40, 41, 42, 43, 44, 45, 46, 47, 48, 49, 50, 51, 52, 53, 54, 55, 56, 57, 58, 59, 60, 61] [0, 1, 2, 3, 4, 54, 55, 56, 57, 58, 59, 60, 61, 5, 6, 7, 8, 9, 10, 11, 12, 13, 14, 15, 16, 17, 18, 19, 20, 21, 22, 23, 24, 25, 26, 27, 28, 29, 30, 31, 32, 33, 34, 35, 36, 37, 38, 39, 40, 41, 42, 43, 44, 45, 46, 47, 48, 49, 50, 51, 52, 53] rfl rfl (by decide +kernel) (by decide +kernel) (by decide +kernel) (by decide +kernel) rfl (fun H locs hP hD hS => ?_)
      refine lv_if_eq (pc := 28) (tgt := 34) hx hb dX4_drives_28 (by decide) (fun c6 => ?_) (fun c6 => ?_)
      · replace hf := ip c6 hf
        refine lv_aload_n (pc := 34) hx hb dX4_drives_34 rfl (lv_at hl 0 rfl) ?_
        refine va_get (pc := 35) (D := D) (ci := 4) (v := .ref (q 0)) (C := RX4) (T := TX4) (N := 13) hx hb hts iX4 hown hK.1 hP 0 rfl rfl 0 (by decide) (hts _ fl_RX4_12) (fun _ h => h) rfl dX4_drives_35 ?_
        refine va_getN (pc := 38) (D := D) (ci := 3) (v := .int (on.1 4)) (C := RX3) (T := TX3) (N := 12) hx hb hts iX3 hown hK.1 hP 5 rfl rfl 4 (by decide) (va_Nw.use rfl (hK.2 _ nf_RX4_89)) (fun _ h => h) rfl dX4_drives_38 ?_
        refine lv_bipush (v := 8) (pc := 41) hx hb dX4_drives_41 (by decide) ?_
        refine lv_icmp_lt (pc := 43) (tgt := 49) hx hb dX4_drives_43 (by decide) (fun c7 => ?_) (fun c7 => ?_)
        · replace hf := ip c7 hf
          refine lv_aload_n (pc := 49) hx hb dX4_drives_49 rfl (lv_at hl 0 rfl) ?_
          obtain ⟨x8, ex8, hf⟩ := bd_some hf
          refine ct_V1 (pc := 50) (As := []) (rest := []) (W1 := bX4 cI cZ a q x8.1 ++ (bX3 cI (q 0) qN on ++ bPA cI cS (q 3) x8.2)) ⟨hx, hb, hml, hown, hts⟩ hK (c_X4_recordAction l D cI cZ cS a q qN oo on pa x8 ex8) gv_RX4_92 rfl hs_X4_recordAction rfl ⟨Nat.le_of_ble_eq_true rfl, Nat.le_of_ble_eq_true rfl⟩ (ci := 4) (q0 := 0) rfl rfl rfl hl.1 rfl (Nat.le_of_ble_eq_true rfl) dX4_drives_50 ⟨Nat.zero_le _, Nat.zero_le _⟩ hP hD hS hA (fun H locs hP hD hS => ?_)
          refine lv_aload_n (pc := 53) hx hb dX4_drives_53 rfl (lv_at hl 0 rfl) ?_
          refine va_get (pc := 54) (D := D) (ci := 4) (v := .ref (q 0)) (C := RX4) (T := TX4) (N := 13) hx hb hts iX4 hown hK.1 hP 0 rfl rfl 0 (by decide) (hts _ fl_RX4_12) (fun _ h => h) rfl dX4_drives_54 ?_
          refine lv_iload_n (pc := 57) hx hb dX4_drives_57 rfl (lv_at hl 1 rfl) ?_
          refine lv_iload_n (pc := 58) hx hb dX4_drives_58 rfl (lv_at hl 2 rfl) ?_
          refine lv_iload_n (pc := 59) hx hb dX4_drives_59 rfl (lv_at hl 3 rfl) ?_
          refine lv_iload (pc := 60) hx hb dX4_drives_60 (lv_at hl 4 rfl) ?_
          obtain ⟨x9, ex9, hf⟩ := bd_some hf
          refine ct_V (pc := 62) (As := [.int i0, .int i1, .int i2, .int i3]) (rest := []) (wr := bX4 cI cZ a q x8.1 ++ bPA cI cS (q 3) x8.2) (W1 := bX4 cI cZ a q x8.1 ++ (bX3 cI (q 0) qN x9 ++ bPA cI cS (q 3) x8.2)) ⟨hx, hb, hml, hown, hts⟩ hK (c_X3_addPile l D cI cZ cS (q 0) qN i0 i1 i2 i3 on x9 ex9) gv_RX4_95 rfl hs_X3_addPile rfl ⟨Nat.le_of_ble_eq_true rfl, Nat.le_of_ble_eq_true rfl⟩ (ci := 3) (q0 := 5) rfl rfl rfl hl.1 rfl (Nat.le_of_ble_eq_true rfl) dX4_drives_62 ⟨Nat.zero_le _, Nat.zero_le _⟩ hP hD hS hA [5, 6, 7, 8, 9, 10, 11, 12] [0, 1, 2, 3, 4, 13, 14, 15, 16, 17, 18, 19, 20, 21, 22, 23, 24, 25, 26, 27, 28, 29, 30, 31, 32, 33, 34, 35, 36, 37, 38, 39, 40, 41, 42, 43, 44, 45, 46, 47, 48, 49, 50, 51, 52, 53, 54, 55, 56, 57, 58, 59, 60, 61] [0, 1, 2, 3, 4, 54, 55, 56, 57, 58, 59, 60, 61, 5, 6, 7, 8, 9, 10, 11, 12, 13, 14, 15, 16, 17, 18, 19, 20, 21, 22, 23, 24, 25, 26, 27, 28, 29, 30, 31, 32, 33, 34, 35, 36, 37, 38, 39, 40, 41, 42, 43, 44, 45, 46, 47, 48, 49, 50, 51, 52, 53] rfl rfl (by decide +kernel) (by decide +kernel) (by decide +kernel) (by decide +kernel) rfl (fun H locs hP hD hS => ?_)
          refine lv_aload_n (pc := 65) hx hb dX4_drives_65 rfl (lv_at hl 0 rfl) ?_
          refine va_get (pc := 66) (D := D) (ci := 4) (v := .ref (q 0)) (C := RX4) (T := TX4) (N := 13) hx hb hts iX4 hown hK.1 hP 0 rfl rfl 0 (by decide) (hts _ fl_RX4_12) (fun _ h => h) rfl dX4_drives_66 ?_
          refine va_getN (pc := 69) (D := D) (ci := 3) (v := .int (x9.1 4)) (C := RX3) (T := TX3) (N := 12) hx hb hts iX3 hown hK.1 hP 5 rfl rfl 4 (by decide) (va_Nw.use rfl (hK.2 _ nf_RX4_89)) (fun _ h => h) rfl dX4_drives_69 ?_
          refine lv_iconst (v := 1) (pc := 72) hx hb dX4_drives_72 (by decide) ?_
          refine lv_isub (pc := 73) hx hb dX4_drives_73 ?_
          obtain rfl := Option.some.inj hf
          exact W.iret hx hb hr (fun t ht hW => ⟨rfl, by rw [ht]; exact hP, hD, hS.F ht⟩) hS.2.2 dX4_drives_74
        · replace hf := im c7 hf
          refine lv_bipush (v := -3) (pc := 46) hx hb dX4_drives_46 (by decide) ?_
          obtain rfl := Option.some.inj hf
          exact W.iret hx hb hr (fun t ht hW => ⟨rfl, by rw [ht]; exact hP, hD, hS.F ht⟩) hS.2.2 dX4_drives_48
      · replace hf := im c6 hf
        refine lv_bipush (v := -2) (pc := 31) hx hb dX4_drives_31 (by decide) ?_
        obtain rfl := Option.some.inj hf
        exact W.iret hx hb hr (fun t ht hW => ⟨rfl, by rw [ht]; exact hP, hD, hS.F ht⟩) hS.2.2 dX4_drives_33
    · replace hf := ip c4 hf
      refine lv_iconst (v := -1) (pc := 17) hx hb dX4_drives_17 (by decide) ?_
      obtain rfl := Option.some.inj hf
      exact W.iret hx hb hr (fun t ht hW => ⟨rfl, by rw [ht]; exact hP, hD, hS.F ht⟩) hS.2.2 dX4_drives_18
def f_X4_isPile (i0 : Int32) (oo : OS) (on : OS) : Option Int32 := if i0 < 0 then some 0 else if (on.1 4) ≤ i0 then some 0 else some 1
set_option maxHeartbeats 4000000 in
set_option maxRecDepth 100000 in
theorem c_X4_isPile (l : Launch) (D : va_G) (cI cZ cS : ClassId) (a : Nat) (q : Nat → Nat) (qN : Nat → Nat) (i0 : Int32) (oo : OS) (on : OS) (x : Int32) (hf : f_X4_isPile i0 oo on = some x) : Ct l yX4_isPile cX4_isPile 2 (some .boolean) 0 0 D cI cZ cS [.ref a, .int i0] (bX4 cI cZ a q oo ++ bX3 cI (q 0) qN on) (some (.int x)) (bX4 cI cZ a q oo ++ bX3 cI (q 0) qN on) := by
  intro sz
  refine Met.ofW (cc := cX4_isPile) (maxL := 2) (ret := (some .boolean)) (by decide +kernel) rfl ?_
  intro p e s m args below meth c s₁ B hml hv
  obtain ⟨rfl, hsz, hP, hK, hD0⟩ := hv
  have hx := B.exec
  have hb := B.bytes
  have hr := B.returns
  have hts0 := atoms_spec (ws := .code yX4_isPile cX4_isPile 2 (some .boolean) :: TB) B.pre
  have hts := fun w (h : w ∈ TB) => hts0 w (List.mem_cons_of_mem _ h)
  have hown : s.vm.findClass RX4 = some m.cls := findClass_of_methodNamed B.named
  have hlocks := B.notSynchronized
  subst hsz
  have hD := hD0.self (sz := s.heap.size)
  generalize hAe : va_A (bX4 cI cZ a q oo ++ bX3 cI (q 0) qN on) s.heap.size = A at hD ⊢
  have hA : ∀ q : Nat, s.heap.size ≤ q → A q := fun q h => by rw [← hAe]; exact Or.inr h
  have hS : va_S A s.heap s.heap [] := va_S.rf
  obtain ⟨H, hH⟩ : ∃ H, H = s.heap := ⟨_, rfl⟩
  rw [← hH] at hP
  have hS : va_S A s.heap H [] := by rw [hH]; exact hS
  have hl := lv_entry ([.ref a, .int i0]) (n := 2) (Nat.le_of_ble_eq_true rfl)
  rw [lg_entry_eq]
  generalize (lg_sl ([.ref a, .int i0]) ++ List.replicate (2 - (lg_sl ([.ref a, .int i0])).length) Slot.unset).toArray = ls at hl ⊢
  have hl : lv_has ls 2 [(0, .ref a), (1, .int i0)] := hl
  refine W_heap hH ?_
  obtain ⟨locs, hlo⟩ : ∃ locs : List Loc, locs = [] := ⟨_, rfl⟩
  rw [← hlo] at hS ⊢
  unfold f_X4_isPile at hf
  refine lv_iload_n (pc := 0) hx hb dX4_isPile_0 rfl (lv_at hl 1 rfl) ?_
  refine lv_if_lt (pc := 1) (tgt := 19) hx hb dX4_isPile_1 (by decide) (fun c1 => ?_) (fun c1 => ?_)
  · replace hf := ip c1 hf
    refine lv_iconst (v := 0) (pc := 19) hx hb dX4_isPile_19 (by decide) ?_
    obtain rfl := Option.some.inj hf
    exact W.zret hx hb hr rfl (fun t ht hW => ⟨rfl, by rw [ht]; exact hP, hD, hS.F ht⟩) hS.2.2 dX4_isPile_20
  · replace hf := im c1 hf
    refine lv_iload_n (pc := 4) hx hb dX4_isPile_4 rfl (lv_at hl 1 rfl) ?_
    refine lv_aload_n (pc := 5) hx hb dX4_isPile_5 rfl (lv_at hl 0 rfl) ?_
    refine va_get (pc := 6) (D := D) (ci := 4) (v := .ref (q 0)) (C := RX4) (T := TX4) (N := 13) hx hb hts iX4 hown hK.1 hP 0 rfl rfl 0 (by decide) (hts _ fl_RX4_12) (fun _ h => h) rfl dX4_isPile_6 ?_
    refine va_getN (pc := 9) (D := D) (ci := 3) (v := .int (on.1 4)) (C := RX3) (T := TX3) (N := 12) hx hb hts iX3 hown hK.1 hP 5 rfl rfl 4 (by decide) (va_Nw.use rfl (hK.2 _ nf_RX4_89)) (fun _ h => h) rfl dX4_isPile_9 ?_
    refine lv_icmp_ge (pc := 12) (tgt := 19) hx hb dX4_isPile_12 (by decide) (fun c2 => ?_) (fun c2 => ?_)
    · replace hf := ip c2 hf
      refine lv_iconst (v := 0) (pc := 19) hx hb dX4_isPile_19 (by decide) ?_
      obtain rfl := Option.some.inj hf
      exact W.zret hx hb hr rfl (fun t ht hW => ⟨rfl, by rw [ht]; exact hP, hD, hS.F ht⟩) hS.2.2 dX4_isPile_20
    · replace hf := im c2 hf
      refine lv_iconst (v := 1) (pc := 15) hx hb dX4_isPile_15 (by decide) ?_
      refine lv_goto (pc := 16) (tgt := 20) hx hb dX4_isPile_16 (by decide) ?_
      obtain rfl := Option.some.inj hf
      exact W.zret hx hb hr rfl (fun t ht hW => ⟨rfl, by rw [ht]; exact hP, hD, hS.F ht⟩) hS.2.2 dX4_isPile_20
def f_J6_bitCount_0f7a4 (i0 : Int32) : Option Int32 := lt (i0 - (((i0 : Int32).toUInt32 >>> ((1 : Int32).toUInt32 &&& Int32.toUInt32 31)).toInt32 &&& 1431655765)) fun y1 => lt ((y1 &&& 858993459) + (((y1 : Int32).toUInt32 >>> ((2 : Int32).toUInt32 &&& Int32.toUInt32 31)).toInt32 &&& 858993459)) fun y2 => lt ((y2 + ((y2 : Int32).toUInt32 >>> ((4 : Int32).toUInt32 &&& Int32.toUInt32 31)).toInt32) &&& 252645135) fun y3 => lt (y3 + ((y3 : Int32).toUInt32 >>> ((8 : Int32).toUInt32 &&& Int32.toUInt32 31)).toInt32) fun y4 => lt (y4 + ((y4 : Int32).toUInt32 >>> ((16 : Int32).toUInt32 &&& Int32.toUInt32 31)).toInt32) fun y5 => some (y5 &&& 63)
set_option maxHeartbeats 4000000 in
set_option maxRecDepth 100000 in
theorem c_J6_bitCount_0f7a4 (l : Launch) (D : va_G) (cI cZ cS : ClassId) (i0 : Int32) (x : Int32) (hf : f_J6_bitCount_0f7a4 i0 = some x) : Ct l yJ6_bitCount_0f7a4 cJ6_bitCount_0f7a4 1 (some .int) 0 0 D cI cZ cS [.int i0] ([]) (some (.int x)) ([]) := by
  intro sz
  refine va_MetF (cc := cJ6_bitCount_0f7a4) (maxL := 1) (ret := (some .int)) (by decide +kernel) rfl ?_
  intro p e s m args below meth c s₁ B hml hv
  obtain ⟨rfl, hsz, hP, hK, hD0⟩ := hv
  have hx := B.exec
  have hb := B.bytes
  have hr := B.returns
  have hts0 := atoms_spec (ws := .code yJ6_bitCount_0f7a4 cJ6_bitCount_0f7a4 1 (some .int) :: TB) B.pre
  have hts := fun w (h : w ∈ TB) => hts0 w (List.mem_cons_of_mem _ h)
  have hown : s.vm.findClass RJ6 = some m.cls := findClass_of_methodNamed B.named
  have hlocks := B.notSynchronized
  subst hsz
  have hD := hD0.self (sz := s.heap.size)
  generalize hAe : va_A ([]) s.heap.size = A at hD ⊢
  have hA : ∀ q : Nat, s.heap.size ≤ q → A q := fun q h => by rw [← hAe]; exact Or.inr h
  have hS : va_S A s.heap s.heap [] := va_S.rf
  obtain ⟨H, hH⟩ : ∃ H, H = s.heap := ⟨_, rfl⟩
  rw [← hH] at hP
  have hS : va_S A s.heap H [] := by rw [hH]; exact hS
  have hl := lv_entry ([.int i0]) (n := 1) (Nat.le_of_ble_eq_true rfl)
  rw [lg_entry_eq]
  generalize (lg_sl ([.int i0]) ++ List.replicate (1 - (lg_sl ([.int i0])).length) Slot.unset).toArray = ls at hl ⊢
  have hl : lv_has ls 1 [(0, .int i0)] := hl
  refine W_heap hH ?_
  obtain ⟨locs, hlo⟩ : ∃ locs : List Loc, locs = [] := ⟨_, rfl⟩
  rw [← hlo] at hS ⊢
  unfold f_J6_bitCount_0f7a4 at hf
  refine lv_iload_n (pc := 0) hx hb dJ6_bitCount_0f7a4_0 rfl (lv_at hl 0 rfl) ?_
  refine lv_iload_n (pc := 1) hx hb dJ6_bitCount_0f7a4_1 rfl (lv_at hl 0 rfl) ?_
  refine lv_iconst (v := 1) (pc := 2) hx hb dJ6_bitCount_0f7a4_2 (by decide) ?_
  refine lv_iushr (pc := 3) hx hb dJ6_bitCount_0f7a4_3 rfl ?_
  refine lv_ldcw (pc := 4) (v := 1431655765) hx hb hown (hts _ cn_RJ6_265) dJ6_bitCount_0f7a4_4 ?_
  refine lv_iand (pc := 7) hx hb dJ6_bitCount_0f7a4_7 ?_
  refine lv_isub (pc := 8) hx hb dJ6_bitCount_0f7a4_8 ?_
  obtain ⟨y1, ey1, hf⟩ := lt_some hf
  refine lv_nmI ey1 ?_
  refine lv_istore_n (lv' := [(0, .int y1)]) (pc := 9) hx hb dJ6_bitCount_0f7a4_9 rfl hl (by decide) rfl (fun ls hl => ?_)
  refine lv_iload_n (pc := 10) hx hb dJ6_bitCount_0f7a4_10 rfl (lv_at hl 0 rfl) ?_
  refine lv_ldcw (pc := 11) (v := 858993459) hx hb hown (hts _ cn_RJ6_266) dJ6_bitCount_0f7a4_11 ?_
  refine lv_iand (pc := 14) hx hb dJ6_bitCount_0f7a4_14 ?_
  refine lv_iload_n (pc := 15) hx hb dJ6_bitCount_0f7a4_15 rfl (lv_at hl 0 rfl) ?_
  refine lv_iconst (v := 2) (pc := 16) hx hb dJ6_bitCount_0f7a4_16 (by decide) ?_
  refine lv_iushr (pc := 17) hx hb dJ6_bitCount_0f7a4_17 rfl ?_
  refine lv_ldcw (pc := 18) (v := 858993459) hx hb hown (hts _ cn_RJ6_266) dJ6_bitCount_0f7a4_18 ?_
  refine lv_iand (pc := 21) hx hb dJ6_bitCount_0f7a4_21 ?_
  refine lv_iadd (pc := 22) hx hb dJ6_bitCount_0f7a4_22 ?_
  obtain ⟨y2, ey2, hf⟩ := lt_some hf
  refine lv_nmI ey2 ?_
  refine lv_istore_n (lv' := [(0, .int y2)]) (pc := 23) hx hb dJ6_bitCount_0f7a4_23 rfl hl (by decide) rfl (fun ls hl => ?_)
  refine lv_iload_n (pc := 24) hx hb dJ6_bitCount_0f7a4_24 rfl (lv_at hl 0 rfl) ?_
  refine lv_iload_n (pc := 25) hx hb dJ6_bitCount_0f7a4_25 rfl (lv_at hl 0 rfl) ?_
  refine lv_iconst (v := 4) (pc := 26) hx hb dJ6_bitCount_0f7a4_26 (by decide) ?_
  refine lv_iushr (pc := 27) hx hb dJ6_bitCount_0f7a4_27 rfl ?_
  refine lv_iadd (pc := 28) hx hb dJ6_bitCount_0f7a4_28 ?_
  refine lv_ldcw (pc := 29) (v := 252645135) hx hb hown (hts _ cn_RJ6_267) dJ6_bitCount_0f7a4_29 ?_
  refine lv_iand (pc := 32) hx hb dJ6_bitCount_0f7a4_32 ?_
  obtain ⟨y3, ey3, hf⟩ := lt_some hf
  refine lv_nmI ey3 ?_
  refine lv_istore_n (lv' := [(0, .int y3)]) (pc := 33) hx hb dJ6_bitCount_0f7a4_33 rfl hl (by decide) rfl (fun ls hl => ?_)
  refine lv_iload_n (pc := 34) hx hb dJ6_bitCount_0f7a4_34 rfl (lv_at hl 0 rfl) ?_
  refine lv_iload_n (pc := 35) hx hb dJ6_bitCount_0f7a4_35 rfl (lv_at hl 0 rfl) ?_
  refine lv_bipush (v := 8) (pc := 36) hx hb dJ6_bitCount_0f7a4_36 (by decide) ?_
  refine lv_iushr (pc := 38) hx hb dJ6_bitCount_0f7a4_38 rfl ?_
  refine lv_iadd (pc := 39) hx hb dJ6_bitCount_0f7a4_39 ?_
  obtain ⟨y4, ey4, hf⟩ := lt_some hf
  refine lv_nmI ey4 ?_
  refine lv_istore_n (lv' := [(0, .int y4)]) (pc := 40) hx hb dJ6_bitCount_0f7a4_40 rfl hl (by decide) rfl (fun ls hl => ?_)
  refine lv_iload_n (pc := 41) hx hb dJ6_bitCount_0f7a4_41 rfl (lv_at hl 0 rfl) ?_
  refine lv_iload_n (pc := 42) hx hb dJ6_bitCount_0f7a4_42 rfl (lv_at hl 0 rfl) ?_
  refine lv_bipush (v := 16) (pc := 43) hx hb dJ6_bitCount_0f7a4_43 (by decide) ?_
  refine lv_iushr (pc := 45) hx hb dJ6_bitCount_0f7a4_45 rfl ?_
  refine lv_iadd (pc := 46) hx hb dJ6_bitCount_0f7a4_46 ?_
  obtain ⟨y5, ey5, hf⟩ := lt_some hf
  refine lv_nmI ey5 ?_
  refine lv_istore_n (lv' := [(0, .int y5)]) (pc := 47) hx hb dJ6_bitCount_0f7a4_47 rfl hl (by decide) rfl (fun ls hl => ?_)
  refine lv_iload_n (pc := 48) hx hb dJ6_bitCount_0f7a4_48 rfl (lv_at hl 0 rfl) ?_
  refine lv_bipush (v := 63) (pc := 49) hx hb dJ6_bitCount_0f7a4_49 (by decide) ?_
  refine lv_iand (pc := 51) hx hb dJ6_bitCount_0f7a4_51 ?_
  obtain rfl := Option.some.inj hf
  exact W.iret hx hb hr (fun t ht hW => ⟨rfl, by rw [ht]; exact hP, hD, hS.F ht⟩) hS.2.2 dJ6_bitCount_0f7a4_52
def f_X4_loses (i0 : Int32) (oo : OS) (on : OS) (pa : PSt) : Option (Int32 × OS × OS × PSt) := Option.bind (f_X4_isPile i0 oo on) fun x1 => if x1 = 0 then some ((-1), oo, on, pa) else Option.bind (f_X3_isIntact i0 on) fun x3 => if x3 = 0 then some ((-2), oo, on, pa) else Option.bind (f_X4_recordAction oo on pa) fun x5 => lt (sI on 5 ((on.1 5) &&& ((1 <<< (i0 &&& 31)) ^^^ (-1)))) fun o6 => Option.bind (f_J6_bitCount_0f7a4 (o6.1 5)) fun x7 => some (x7, x5.1, o6, x5.2)
set_option maxHeartbeats 4000000 in
set_option maxRecDepth 100000 in
theorem c_X4_loses (l : Launch) (D : va_G) (cI cZ cS : ClassId) (a : Nat) (q : Nat → Nat) (qN : Nat → Nat) (i0 : Int32) (oo : OS) (on : OS) (pa : PSt) (x : (Int32 × OS × OS × PSt)) (hf : f_X4_loses i0 oo on pa = some x) : Ct l yX4_loses cX4_loses 2 (some .int) 3 88 D cI cZ cS [.ref a, .int i0] (bX4 cI cZ a q oo ++ (bX3 cI (q 0) qN on ++ bPA cI cS (q 3) pa)) (some (.int x.1)) (bX4 cI cZ a q x.2.1 ++ (bX3 cI (q 0) qN x.2.2.1 ++ bPA cI cS (q 3) x.2.2.2)) := by
  intro sz
  refine Met.ofW (cc := cX4_loses) (maxL := 2) (ret := (some .int)) (by decide +kernel) rfl ?_
  intro p e s m args below meth c s₁ B hml hv
  obtain ⟨rfl, hsz, hP, hK, hD0⟩ := hv
  have hx := B.exec
  have hb := B.bytes
  have hr := B.returns
  have hts0 := atoms_spec (ws := .code yX4_loses cX4_loses 2 (some .int) :: TB) B.pre
  have hts := fun w (h : w ∈ TB) => hts0 w (List.mem_cons_of_mem _ h)
  have hown : s.vm.findClass RX4 = some m.cls := findClass_of_methodNamed B.named
  have hlocks := B.notSynchronized
  subst hsz
  have hD := hD0.self (sz := s.heap.size)
  generalize hAe : va_A (bX4 cI cZ a q oo ++ (bX3 cI (q 0) qN on ++ bPA cI cS (q 3) pa)) s.heap.size = A at hD ⊢
  have hA : ∀ q : Nat, s.heap.size ≤ q → A q := fun q h => by rw [← hAe]; exact Or.inr h
  have hS : va_S A s.heap s.heap [] := va_S.rf
  obtain ⟨H, hH⟩ : ∃ H, H = s.heap := ⟨_, rfl⟩
  rw [← hH] at hP
  have hS : va_S A s.heap H [] := by rw [hH]; exact hS
  have hl := lv_entry ([.ref a, .int i0]) (n := 2) (Nat.le_of_ble_eq_true rfl)
  rw [lg_entry_eq]
  generalize (lg_sl ([.ref a, .int i0]) ++ List.replicate (2 - (lg_sl ([.ref a, .int i0])).length) Slot.unset).toArray = ls at hl ⊢
  have hl : lv_has ls 2 [(0, .ref a), (1, .int i0)] := hl
  refine W_heap hH ?_
  obtain ⟨locs, hlo⟩ : ∃ locs : List Loc, locs = [] := ⟨_, rfl⟩
  rw [← hlo] at hS ⊢
  unfold f_X4_loses at hf
  refine lv_aload_n (pc := 0) hx hb dX4_loses_0 rfl (lv_at hl 0 rfl) ?_
  refine lv_iload_n (pc := 1) hx hb dX4_loses_1 rfl (lv_at hl 1 rfl) ?_
  obtain ⟨x1, ex1, hf⟩ := bd_some hf
  refine ct_V (pc := 2) (As := [.int i0]) (rest := []) (wr := bPA cI cS (q 3) pa) (W1 := bX4 cI cZ a q oo ++ (bX3 cI (q 0) qN on ++ bPA cI cS (q 3) pa)) ⟨hx, hb, hml, hown, hts⟩ hK (c_X4_isPile l D cI cZ cS a q qN i0 oo on x1 ex1) gv_RX4_99 rfl hs_X4_isPile rfl ⟨Nat.le_of_ble_eq_true rfl, Nat.le_of_ble_eq_true rfl⟩ (ci := 4) (q0 := 0) rfl rfl rfl hl.1 rfl (Nat.le_of_ble_eq_true rfl) dX4_loses_2 ⟨Nat.zero_le _, Nat.zero_le _⟩ hP hD hS hA [0, 1, 2, 3, 4, 5, 6, 7, 8, 9, 10, 11, 12] [13, 14, 15, 16, 17, 18, 19, 20, 21, 22, 23, 24, 25, 26, 27, 28, 29, 30, 31, 32, 33, 34, 35, 36, 37, 38, 39, 40, 41, 42, 43, 44, 45, 46, 47, 48, 49, 50, 51, 52, 53, 54, 55, 56, 57, 58, 59, 60, 61] [49, 50, 51, 52, 53, 54, 55, 56, 57, 58, 59, 60, 61, 0, 1, 2, 3, 4, 5, 6, 7, 8, 9, 10, 11, 12, 13, 14, 15, 16, 17, 18, 19, 20, 21, 22, 23, 24, 25, 26, 27, 28, 29, 30, 31, 32, 33, 34, 35, 36, 37, 38, 39, 40, 41, 42, 43, 44, 45, 46, 47, 48] rfl rfl (by decide +kernel) (by decide +kernel) (by decide +kernel) (by decide +kernel) rfl (fun H locs hP hD hS => ?_)
  refine lv_if_ne (pc := 5) (tgt := 10) hx hb dX4_loses_5 (by decide) (fun c2 => ?_) (fun c2 => ?_)
  · replace hf := im c2 hf
    refine lv_aload_n (pc := 10) hx hb dX4_loses_10 rfl (lv_at hl 0 rfl) ?_
    refine va_get (pc := 11) (D := D) (ci := 4) (v := .ref (q 0)) (C := RX4) (T := TX4) (N := 13) hx hb hts iX4 hown hK.1 hP 0 rfl rfl 0 (by decide) (hts _ fl_RX4_12) (fun _ h => h) rfl dX4_loses_11 ?_
    refine lv_iload_n (pc := 14) hx hb dX4_loses_14 rfl (lv_at hl 1 rfl) ?_
    obtain ⟨x3, ex3, hf⟩ := bd_some hf
    refine ct_V (pc := 15) (As := [.int i0]) (rest := []) (wr := bX4 cI cZ a q oo ++ bPA cI cS (q 3) pa) (W1 := bX4 cI cZ a q oo ++ (bX3 cI (q 0) qN on ++ bPA cI cS (q 3) pa)) ⟨hx, hb, hml, hown, hts⟩ hK (c_X3_isIntact l D cI cZ cS (q 0) qN i0 on x3 ex3) gv_RX4_102 rfl hs_X3_isIntact rfl ⟨Nat.le_of_ble_eq_true rfl, Nat.le_of_ble_eq_true rfl⟩ (ci := 3) (q0 := 5) rfl rfl rfl hl.1 rfl (Nat.le_of_ble_eq_true rfl) dX4_loses_15 ⟨Nat.zero_le _, Nat.zero_le _⟩ hP hD hS hA [5, 6, 7, 8, 9, 10, 11, 12] [0, 1, 2, 3, 4, 13, 14, 15, 16, 17, 18, 19, 20, 21, 22, 23, 24, 25, 26, 27, 28, 29, 30, 31, 32, 33, 34, 35, 36, 37, 38, 39, 40, 41, 42, 43, 44, 45, 46, 47, 48, 49, 50, 51, 52, 53, 54, 55, 56, 57, 58, 59, 60, 61] [0, 1, 2, 3, 4, 54, 55, 56, 57, 58, 59, 60, 61, 5, 6, 7, 8, 9, 10, 11, 12, 13, 14, 15, 16, 17, 18, 19, 20, 21, 22, 23, 24, 25, 26, 27, 28, 29, 30, 31, 32, 33, 34, 35, 36, 37, 38, 39, 40, 41, 42, 43, 44, 45, 46, 47, 48, 49, 50, 51, 52, 53] rfl rfl (by decide +kernel) (by decide +kernel) (by decide +kernel) (by decide +kernel) rfl (fun H locs hP hD hS => ?_)
    refine lv_if_ne (pc := 18) (tgt := 24) hx hb dX4_loses_18 (by decide) (fun c4 => ?_) (fun c4 => ?_)
    · replace hf := im c4 hf
      refine lv_aload_n (pc := 24) hx hb dX4_loses_24 rfl (lv_at hl 0 rfl) ?_
      obtain ⟨x5, ex5, hf⟩ := bd_some hf
      refine ct_V1 (pc := 25) (As := []) (rest := []) (W1 := bX4 cI cZ a q x5.1 ++ (bX3 cI (q 0) qN on ++ bPA cI cS (q 3) x5.2)) ⟨hx, hb, hml, hown, hts⟩ hK (c_X4_recordAction l D cI cZ cS a q qN oo on pa x5 ex5) gv_RX4_92 rfl hs_X4_recordAction rfl ⟨Nat.le_of_ble_eq_true rfl, Nat.le_of_ble_eq_true rfl⟩ (ci := 4) (q0 := 0) rfl rfl rfl hl.1 rfl (Nat.le_of_ble_eq_true rfl) dX4_loses_25 ⟨Nat.zero_le _, Nat.zero_le _⟩ hP hD hS hA (fun H locs hP hD hS => ?_)
      refine lv_aload_n (pc := 28) hx hb dX4_loses_28 rfl (lv_at hl 0 rfl) ?_
      refine va_get (pc := 29) (D := D) (ci := 4) (v := .ref (q 0)) (C := RX4) (T := TX4) (N := 13) hx hb hts iX4 hown hK.1 hP 0 rfl rfl 0 (by decide) (hts _ fl_RX4_12) (fun _ h => h) rfl dX4_loses_29 ?_
      refine lv_dup (pc := 32) hx hb dX4_loses_32 rfl ?_
      refine va_getN (pc := 33) (D := D) (ci := 3) (v := .int (on.1 5)) (C := RX3) (T := TX3) (N := 12) hx hb hts iX3 hown hK.1 hP 5 rfl rfl 5 (by decide) (va_Nw.use rfl (hK.2 _ nf_RX4_105)) (fun _ h => h) rfl dX4_loses_33 ?_
      refine lv_iconst (v := 1) (pc := 36) hx hb dX4_loses_36 (by decide) ?_
      refine lv_iload_n (pc := 37) hx hb dX4_loses_37 rfl (lv_at hl 1 rfl) ?_
      refine lv_ishl (pc := 38) hx hb dX4_loses_38 ?_
      refine lv_iconst (v := -1) (pc := 39) hx hb dX4_loses_39 (by decide) ?_
      refine lv_ixor (pc := 40) hx hb dX4_loses_40 ?_
      refine lv_iand (pc := 41) hx hb dX4_loses_41 ?_
      obtain ⟨o6, eo6, hf⟩ := lt_some hf
      refine va_putN (pc := 42) (D := D) (ci := 3) (v := .int ((on.1 5) &&& ((1 <<< (i0 &&& 31)) ^^^ (-1)))) (ty := .int) (C := RX3) (T := TX3) (N := 12) hx hb hts iX3 tyX3 tyX3_ok nmX3 hown hK.1 hP hD hS 5 rfl rfl 5 (by decide) (va_Nw.use rfl (hK.2 _ nf_RX4_105)) (fun _ h => h) rfl (tyX3_ok 5 (by decide)) rfl rfl (Nat.le_of_ble_eq_true rfl) dX4_loses_42 (fun H locs hP hD hS => ?_)
      replace hP : va_P D vwCl (bX4 cI cZ a q x5.1 ++ (bX3 cI (q 0) qN o6 ++ bPA cI cS (q 3) x5.2)) H := by rw [eo6]; exact hP
      replace hD : va_D A (bX4 cI cZ a q x5.1 ++ (bX3 cI (q 0) qN o6 ++ bPA cI cS (q 3) x5.2)) := by rw [eo6]; exact hD
      refine lv_aload_n (pc := 45) hx hb dX4_loses_45 rfl (lv_at hl 0 rfl) ?_
      refine va_get (pc := 46) (D := D) (ci := 4) (v := .ref (q 0)) (C := RX4) (T := TX4) (N := 13) hx hb hts iX4 hown hK.1 hP 0 rfl rfl 0 (by decide) (hts _ fl_RX4_12) (fun _ h => h) rfl dX4_loses_46 ?_
      refine va_getN (pc := 49) (D := D) (ci := 3) (v := .int (o6.1 5)) (C := RX3) (T := TX3) (N := 12) hx hb hts iX3 hown hK.1 hP 5 rfl rfl 5 (by decide) (va_Nw.use rfl (hK.2 _ nf_RX4_105)) (fun _ h => h) rfl dX4_loses_49 ?_
      obtain ⟨x7, ex7, hf⟩ := bd_some hf
      refine ct_S0 (pc := 52) (As := [.int (o6.1 5)]) (rest := []) ⟨hx, hb, hml, hown, hts⟩ hK (c_J6_bitCount_0f7a4 l D cI cZ cS (o6.1 5) x7 ex7) gs_RX4_108 hs_J6_bitCount_0f7a4 rfl ⟨Nat.le_of_ble_eq_true rfl, Nat.le_of_ble_eq_true rfl⟩ hl.1 rfl (Nat.le_of_ble_eq_true rfl) dX4_loses_52 ⟨Nat.zero_le _, Nat.zero_le _⟩ hP hS hA (fun H locs hP hS => ?_)
      obtain rfl := Option.some.inj hf
      exact W.iret hx hb hr (fun t ht hW => ⟨rfl, by rw [ht]; exact hP, hD, hS.F ht⟩) hS.2.2 dX4_loses_55
    · replace hf := ip c4 hf
      refine lv_bipush (v := -2) (pc := 21) hx hb dX4_loses_21 (by decide) ?_
      obtain rfl := Option.some.inj hf
      exact W.iret hx hb hr (fun t ht hW => ⟨rfl, by rw [ht]; exact hP, hD, hS.F ht⟩) hS.2.2 dX4_loses_23
  · replace hf := ip c2 hf
    refine lv_iconst (v := -1) (pc := 8) hx hb dX4_loses_8 (by decide) ?_
    obtain rfl := Option.some.inj hf
    exact W.iret hx hb hr (fun t ht hW => ⟨rfl, by rw [ht]; exact hP, hD, hS.F ht⟩) hS.2.2 dX4_loses_9
def f_X4_mends (i0 : Int32) (oo : OS) (on : OS) (pa : PSt) : Option (Int32 × OS × OS × PSt) := Option.bind (f_X4_isPile i0 oo on) fun x1 => if x1 = 0 then some ((-1), oo, on, pa) else Option.bind (f_X3_isIntact i0 on) fun x3 => if x3 = 0 then Option.bind (f_X4_recordAction oo on pa) fun x5 => lt (sI on 5 ((on.1 5) ||| (1 <<< (i0 &&& 31)))) fun o6 => Option.bind (f_J6_bitCount_0f7a4 (o6.1 5)) fun x7 => some (x7, x5.1, o6, x5.2) else some ((-2), oo, on, pa)
set_option maxHeartbeats 4000000 in
set_option maxRecDepth 100000 in
theorem c_X4_mends (l : Launch) (D : va_G) (cI cZ cS : ClassId) (a : Nat) (q : Nat → Nat) (qN : Nat → Nat) (i0 : Int32) (oo : OS) (on : OS) (pa : PSt) (x : (Int32 × OS × OS × PSt)) (hf : f_X4_mends i0 oo on pa = some x) : Ct l yX4_mends cX4_mends 2 (some .int) 3 88 D cI cZ cS [.ref a, .int i0] (bX4 cI cZ a q oo ++ (bX3 cI (q 0) qN on ++ bPA cI cS (q 3) pa)) (some (.int x.1)) (bX4 cI cZ a q x.2.1 ++ (bX3 cI (q 0) qN x.2.2.1 ++ bPA cI cS (q 3) x.2.2.2)) := by
  intro sz
  refine Met.ofW (cc := cX4_mends) (maxL := 2) (ret := (some .int)) (by decide +kernel) rfl ?_
  intro p e s m args below meth c s₁ B hml hv
  obtain ⟨rfl, hsz, hP, hK, hD0⟩ := hv
  have hx := B.exec
  have hb := B.bytes
  have hr := B.returns
  have hts0 := atoms_spec (ws := .code yX4_mends cX4_mends 2 (some .int) :: TB) B.pre
  have hts := fun w (h : w ∈ TB) => hts0 w (List.mem_cons_of_mem _ h)
  have hown : s.vm.findClass RX4 = some m.cls := findClass_of_methodNamed B.named
  have hlocks := B.notSynchronized
  subst hsz
  have hD := hD0.self (sz := s.heap.size)
  generalize hAe : va_A (bX4 cI cZ a q oo ++ (bX3 cI (q 0) qN on ++ bPA cI cS (q 3) pa)) s.heap.size = A at hD ⊢
  have hA : ∀ q : Nat, s.heap.size ≤ q → A q := fun q h => by rw [← hAe]; exact Or.inr h
  have hS : va_S A s.heap s.heap [] := va_S.rf
  obtain ⟨H, hH⟩ : ∃ H, H = s.heap := ⟨_, rfl⟩
  rw [← hH] at hP
  have hS : va_S A s.heap H [] := by rw [hH]; exact hS
  have hl := lv_entry ([.ref a, .int i0]) (n := 2) (Nat.le_of_ble_eq_true rfl)
  rw [lg_entry_eq]
  generalize (lg_sl ([.ref a, .int i0]) ++ List.replicate (2 - (lg_sl ([.ref a, .int i0])).length) Slot.unset).toArray = ls at hl ⊢
  have hl : lv_has ls 2 [(0, .ref a), (1, .int i0)] := hl
  refine W_heap hH ?_
  obtain ⟨locs, hlo⟩ : ∃ locs : List Loc, locs = [] := ⟨_, rfl⟩
  rw [← hlo] at hS ⊢
  unfold f_X4_mends at hf
  refine lv_aload_n (pc := 0) hx hb dX4_mends_0 rfl (lv_at hl 0 rfl) ?_
  refine lv_iload_n (pc := 1) hx hb dX4_mends_1 rfl (lv_at hl 1 rfl) ?_
  obtain ⟨x1, ex1, hf⟩ := bd_some hf
  refine ct_V (pc := 2) (As := [.int i0]) (rest := []) (wr := bPA cI cS (q 3) pa) (W1 := bX4 cI cZ a q oo ++ (bX3 cI (q 0) qN on ++ bPA cI cS (q 3) pa)) ⟨hx, hb, hml, hown, hts⟩ hK (c_X4_isPile l D cI cZ cS a q qN i0 oo on x1 ex1) gv_RX4_99 rfl hs_X4_isPile rfl ⟨Nat.le_of_ble_eq_true rfl, Nat.le_of_ble_eq_true rfl⟩ (ci := 4) (q0 := 0) rfl rfl rfl hl.1 rfl (Nat.le_of_ble_eq_true rfl) dX4_mends_2 ⟨Nat.zero_le _, Nat.zero_le _⟩ hP hD hS hA [0, 1, 2, 3, 4, 5, 6, 7, 8, 9, 10, 11, 12] [13, 14, 15, 16, 17, 18, 19, 20, 21, 22, 23, 24, 25, 26, 27, 28, 29, 30, 31, 32, 33, 34, 35, 36, 37, 38, 39, 40, 41, 42, 43, 44, 45, 46, 47, 48, 49, 50, 51, 52, 53, 54, 55, 56, 57, 58, 59, 60, 61] [49, 50, 51, 52, 53, 54, 55, 56, 57, 58, 59, 60, 61, 0, 1, 2, 3, 4, 5, 6, 7, 8, 9, 10, 11, 12, 13, 14, 15, 16, 17, 18, 19, 20, 21, 22, 23, 24, 25, 26, 27, 28, 29, 30, 31, 32, 33, 34, 35, 36, 37, 38, 39, 40, 41, 42, 43, 44, 45, 46, 47, 48] rfl rfl (by decide +kernel) (by decide +kernel) (by decide +kernel) (by decide +kernel) rfl (fun H locs hP hD hS => ?_)
  refine lv_if_ne (pc := 5) (tgt := 10) hx hb dX4_mends_5 (by decide) (fun c2 => ?_) (fun c2 => ?_)
  · replace hf := im c2 hf
    refine lv_aload_n (pc := 10) hx hb dX4_mends_10 rfl (lv_at hl 0 rfl) ?_
    refine va_get (pc := 11) (D := D) (ci := 4) (v := .ref (q 0)) (C := RX4) (T := TX4) (N := 13) hx hb hts iX4 hown hK.1 hP 0 rfl rfl 0 (by decide) (hts _ fl_RX4_12) (fun _ h => h) rfl dX4_mends_11 ?_
    refine lv_iload_n (pc := 14) hx hb dX4_mends_14 rfl (lv_at hl 1 rfl) ?_
    obtain ⟨x3, ex3, hf⟩ := bd_some hf
    refine ct_V (pc := 15) (As := [.int i0]) (rest := []) (wr := bX4 cI cZ a q oo ++ bPA cI cS (q 3) pa) (W1 := bX4 cI cZ a q oo ++ (bX3 cI (q 0) qN on ++ bPA cI cS (q 3) pa)) ⟨hx, hb, hml, hown, hts⟩ hK (c_X3_isIntact l D cI cZ cS (q 0) qN i0 on x3 ex3) gv_RX4_102 rfl hs_X3_isIntact rfl ⟨Nat.le_of_ble_eq_true rfl, Nat.le_of_ble_eq_true rfl⟩ (ci := 3) (q0 := 5) rfl rfl rfl hl.1 rfl (Nat.le_of_ble_eq_true rfl) dX4_mends_15 ⟨Nat.zero_le _, Nat.zero_le _⟩ hP hD hS hA [5, 6, 7, 8, 9, 10, 11, 12] [0, 1, 2, 3, 4, 13, 14, 15, 16, 17, 18, 19, 20, 21, 22, 23, 24, 25, 26, 27, 28, 29, 30, 31, 32, 33, 34, 35, 36, 37, 38, 39, 40, 41, 42, 43, 44, 45, 46, 47, 48, 49, 50, 51, 52, 53, 54, 55, 56, 57, 58, 59, 60, 61] [0, 1, 2, 3, 4, 54, 55, 56, 57, 58, 59, 60, 61, 5, 6, 7, 8, 9, 10, 11, 12, 13, 14, 15, 16, 17, 18, 19, 20, 21, 22, 23, 24, 25, 26, 27, 28, 29, 30, 31, 32, 33, 34, 35, 36, 37, 38, 39, 40, 41, 42, 43, 44, 45, 46, 47, 48, 49, 50, 51, 52, 53] rfl rfl (by decide +kernel) (by decide +kernel) (by decide +kernel) (by decide +kernel) rfl (fun H locs hP hD hS => ?_)
    refine lv_if_eq (pc := 18) (tgt := 24) hx hb dX4_mends_18 (by decide) (fun c4 => ?_) (fun c4 => ?_)
    · replace hf := ip c4 hf
      refine lv_aload_n (pc := 24) hx hb dX4_mends_24 rfl (lv_at hl 0 rfl) ?_
      obtain ⟨x5, ex5, hf⟩ := bd_some hf
      refine ct_V1 (pc := 25) (As := []) (rest := []) (W1 := bX4 cI cZ a q x5.1 ++ (bX3 cI (q 0) qN on ++ bPA cI cS (q 3) x5.2)) ⟨hx, hb, hml, hown, hts⟩ hK (c_X4_recordAction l D cI cZ cS a q qN oo on pa x5 ex5) gv_RX4_92 rfl hs_X4_recordAction rfl ⟨Nat.le_of_ble_eq_true rfl, Nat.le_of_ble_eq_true rfl⟩ (ci := 4) (q0 := 0) rfl rfl rfl hl.1 rfl (Nat.le_of_ble_eq_true rfl) dX4_mends_25 ⟨Nat.zero_le _, Nat.zero_le _⟩ hP hD hS hA (fun H locs hP hD hS => ?_)
      refine lv_aload_n (pc := 28) hx hb dX4_mends_28 rfl (lv_at hl 0 rfl) ?_
      refine va_get (pc := 29) (D := D) (ci := 4) (v := .ref (q 0)) (C := RX4) (T := TX4) (N := 13) hx hb hts iX4 hown hK.1 hP 0 rfl rfl 0 (by decide) (hts _ fl_RX4_12) (fun _ h => h) rfl dX4_mends_29 ?_
      refine lv_dup (pc := 32) hx hb dX4_mends_32 rfl ?_
      refine va_getN (pc := 33) (D := D) (ci := 3) (v := .int (on.1 5)) (C := RX3) (T := TX3) (N := 12) hx hb hts iX3 hown hK.1 hP 5 rfl rfl 5 (by decide) (va_Nw.use rfl (hK.2 _ nf_RX4_105)) (fun _ h => h) rfl dX4_mends_33 ?_
      refine lv_iconst (v := 1) (pc := 36) hx hb dX4_mends_36 (by decide) ?_
      refine lv_iload_n (pc := 37) hx hb dX4_mends_37 rfl (lv_at hl 1 rfl) ?_
      refine lv_ishl (pc := 38) hx hb dX4_mends_38 ?_
      refine lv_ior (pc := 39) hx hb dX4_mends_39 ?_
      obtain ⟨o6, eo6, hf⟩ := lt_some hf
      refine va_putN (pc := 40) (D := D) (ci := 3) (v := .int ((on.1 5) ||| (1 <<< (i0 &&& 31)))) (ty := .int) (C := RX3) (T := TX3) (N := 12) hx hb hts iX3 tyX3 tyX3_ok nmX3 hown hK.1 hP hD hS 5 rfl rfl 5 (by decide) (va_Nw.use rfl (hK.2 _ nf_RX4_105)) (fun _ h => h) rfl (tyX3_ok 5 (by decide)) rfl rfl (Nat.le_of_ble_eq_true rfl) dX4_mends_40 (fun H locs hP hD hS => ?_)
      replace hP : va_P D vwCl (bX4 cI cZ a q x5.1 ++ (bX3 cI (q 0) qN o6 ++ bPA cI cS (q 3) x5.2)) H := by rw [eo6]; exact hP
      replace hD : va_D A (bX4 cI cZ a q x5.1 ++ (bX3 cI (q 0) qN o6 ++ bPA cI cS (q 3) x5.2)) := by rw [eo6]; exact hD
      refine lv_aload_n (pc := 43) hx hb dX4_mends_43 rfl (lv_at hl 0 rfl) ?_
      refine va_get (pc := 44) (D := D) (ci := 4) (v := .ref (q 0)) (C := RX4) (T := TX4) (N := 13) hx hb hts iX4 hown hK.1 hP 0 rfl rfl 0 (by decide) (hts _ fl_RX4_12) (fun _ h => h) rfl dX4_mends_44 ?_
      refine va_getN (pc := 47) (D := D) (ci := 3) (v := .int (o6.1 5)) (C := RX3) (T := TX3) (N := 12) hx hb hts iX3 hown hK.1 hP 5 rfl rfl 5 (by decide) (va_Nw.use rfl (hK.2 _ nf_RX4_105)) (fun _ h => h) rfl dX4_mends_47 ?_
      obtain ⟨x7, ex7, hf⟩ := bd_some hf
      refine ct_S0 (pc := 50) (As := [.int (o6.1 5)]) (rest := []) ⟨hx, hb, hml, hown, hts⟩ hK (c_J6_bitCount_0f7a4 l D cI cZ cS (o6.1 5) x7 ex7) gs_RX4_108 hs_J6_bitCount_0f7a4 rfl ⟨Nat.le_of_ble_eq_true rfl, Nat.le_of_ble_eq_true rfl⟩ hl.1 rfl (Nat.le_of_ble_eq_true rfl) dX4_mends_50 ⟨Nat.zero_le _, Nat.zero_le _⟩ hP hS hA (fun H locs hP hS => ?_)
      obtain rfl := Option.some.inj hf
      exact W.iret hx hb hr (fun t ht hW => ⟨rfl, by rw [ht]; exact hP, hD, hS.F ht⟩) hS.2.2 dX4_mends_53
    · replace hf := im c4 hf
      refine lv_bipush (v := -2) (pc := 21) hx hb dX4_mends_21 (by decide) ?_
      obtain rfl := Option.some.inj hf
      exact W.iret hx hb hr (fun t ht hW => ⟨rfl, by rw [ht]; exact hP, hD, hS.F ht⟩) hS.2.2 dX4_mends_23
  · replace hf := ip c2 hf
    refine lv_iconst (v := -1) (pc := 8) hx hb dX4_mends_8 (by decide) ?_
    obtain rfl := Option.some.inj hf
    exact W.iret hx hb hr (fun t ht hW => ⟨rfl, by rw [ht]; exact hP, hD, hS.F ht⟩) hS.2.2 dX4_mends_9
def f_X4_isColumn (i0 : Int32) (oo : OS) (on : OS) : Option Int32 := if i0 < 0 then some 0 else if (on.1 9) ≤ i0 then some 0 else some 1
set_option maxHeartbeats 4000000 in
set_option maxRecDepth 100000 in
theorem c_X4_isColumn (l : Launch) (D : va_G) (cI cZ cS : ClassId) (a : Nat) (q : Nat → Nat) (qN : Nat → Nat) (i0 : Int32) (oo : OS) (on : OS) (x : Int32) (hf : f_X4_isColumn i0 oo on = some x) : Ct l yX4_isColumn cX4_isColumn 2 (some .boolean) 0 0 D cI cZ cS [.ref a, .int i0] (bX4 cI cZ a q oo ++ bX3 cI (q 0) qN on) (some (.int x)) (bX4 cI cZ a q oo ++ bX3 cI (q 0) qN on) := by
  intro sz
  refine Met.ofW (cc := cX4_isColumn) (maxL := 2) (ret := (some .boolean)) (by decide +kernel) rfl ?_
  intro p e s m args below meth c s₁ B hml hv
  obtain ⟨rfl, hsz, hP, hK, hD0⟩ := hv
  have hx := B.exec
  have hb := B.bytes
  have hr := B.returns
  have hts0 := atoms_spec (ws := .code yX4_isColumn cX4_isColumn 2 (some .boolean) :: TB) B.pre
  have hts := fun w (h : w ∈ TB) => hts0 w (List.mem_cons_of_mem _ h)
  have hown : s.vm.findClass RX4 = some m.cls := findClass_of_methodNamed B.named
  have hlocks := B.notSynchronized
  subst hsz
  have hD := hD0.self (sz := s.heap.size)
  generalize hAe : va_A (bX4 cI cZ a q oo ++ bX3 cI (q 0) qN on) s.heap.size = A at hD ⊢
  have hA : ∀ q : Nat, s.heap.size ≤ q → A q := fun q h => by rw [← hAe]; exact Or.inr h
  have hS : va_S A s.heap s.heap [] := va_S.rf
  obtain ⟨H, hH⟩ : ∃ H, H = s.heap := ⟨_, rfl⟩
  rw [← hH] at hP
  have hS : va_S A s.heap H [] := by rw [hH]; exact hS
  have hl := lv_entry ([.ref a, .int i0]) (n := 2) (Nat.le_of_ble_eq_true rfl)
  rw [lg_entry_eq]
  generalize (lg_sl ([.ref a, .int i0]) ++ List.replicate (2 - (lg_sl ([.ref a, .int i0])).length) Slot.unset).toArray = ls at hl ⊢
  have hl : lv_has ls 2 [(0, .ref a), (1, .int i0)] := hl
  refine W_heap hH ?_
  obtain ⟨locs, hlo⟩ : ∃ locs : List Loc, locs = [] := ⟨_, rfl⟩
  rw [← hlo] at hS ⊢
  unfold f_X4_isColumn at hf
  refine lv_iload_n (pc := 0) hx hb dX4_isColumn_0 rfl (lv_at hl 1 rfl) ?_
  refine lv_if_lt (pc := 1) (tgt := 19) hx hb dX4_isColumn_1 (by decide) (fun c1 => ?_) (fun c1 => ?_)
  · replace hf := ip c1 hf
    refine lv_iconst (v := 0) (pc := 19) hx hb dX4_isColumn_19 (by decide) ?_
    obtain rfl := Option.some.inj hf
    exact W.zret hx hb hr rfl (fun t ht hW => ⟨rfl, by rw [ht]; exact hP, hD, hS.F ht⟩) hS.2.2 dX4_isColumn_20
  · replace hf := im c1 hf
    refine lv_iload_n (pc := 4) hx hb dX4_isColumn_4 rfl (lv_at hl 1 rfl) ?_
    refine lv_aload_n (pc := 5) hx hb dX4_isColumn_5 rfl (lv_at hl 0 rfl) ?_
    refine va_get (pc := 6) (D := D) (ci := 4) (v := .ref (q 0)) (C := RX4) (T := TX4) (N := 13) hx hb hts iX4 hown hK.1 hP 0 rfl rfl 0 (by decide) (hts _ fl_RX4_12) (fun _ h => h) rfl dX4_isColumn_6 ?_
    refine va_getN (pc := 9) (D := D) (ci := 3) (v := .int (on.1 9)) (C := RX3) (T := TX3) (N := 12) hx hb hts iX3 hown hK.1 hP 5 rfl rfl 9 (by decide) (va_Nw.use rfl (hK.2 _ nf_RX4_282)) (fun _ h => h) rfl dX4_isColumn_9 ?_
    refine lv_icmp_ge (pc := 12) (tgt := 19) hx hb dX4_isColumn_12 (by decide) (fun c2 => ?_) (fun c2 => ?_)
    · replace hf := ip c2 hf
      refine lv_iconst (v := 0) (pc := 19) hx hb dX4_isColumn_19 (by decide) ?_
      obtain rfl := Option.some.inj hf
      exact W.zret hx hb hr rfl (fun t ht hW => ⟨rfl, by rw [ht]; exact hP, hD, hS.F ht⟩) hS.2.2 dX4_isColumn_20
    · replace hf := im c2 hf
      refine lv_iconst (v := 1) (pc := 15) hx hb dX4_isColumn_15 (by decide) ?_
      refine lv_goto (pc := 16) (tgt := 20) hx hb dX4_isColumn_16 (by decide) ?_
      obtain rfl := Option.some.inj hf
      exact W.zret hx hb hr rfl (fun t ht hW => ⟨rfl, by rw [ht]; exact hP, hD, hS.F ht⟩) hS.2.2 dX4_isColumn_20
def f_X4_loads (i0 : Int32) (i1 : Int32) (oo : OS) (on : OS) (pa : PSt) : Option (Int32 × OS × OS × PSt) := Option.bind (f_X4_isColumn i0 oo on) fun x1 => if x1 = 0 then some ((-1), oo, on, pa) else if i1 < 0 then some ((-1), oo, on, pa) else if i1 ≤ 99 then ck i0 5 (if (on.2.2 8 (i0 : Int32).toNatClampNeg) = i1 then some ((-2), oo, on, pa) else Option.bind (f_X4_recordAction oo on pa) fun x7 => ck i0 5 (lt (sA on 8 ((i0 : Int32).toNatClampNeg) i1) fun o9 => some ((on.2.2 8 (i0 : Int32).toNatClampNeg), x7.1, o9, x7.2))) else some ((-1), oo, on, pa)
set_option maxHeartbeats 4000000 in
set_option maxRecDepth 100000 in
theorem c_X4_loads (l : Launch) (D : va_G) (cI cZ cS : ClassId) (a : Nat) (q : Nat → Nat) (qN : Nat → Nat) (i0 : Int32) (i1 : Int32) (oo : OS) (on : OS) (pa : PSt) (x : (Int32 × OS × OS × PSt)) (hf : f_X4_loads i0 i1 oo on pa = some x) : Ct l yX4_loads cX4_loads 4 (some .int) 3 88 D cI cZ cS [.ref a, .int i0, .int i1] (bX4 cI cZ a q oo ++ (bX3 cI (q 0) qN on ++ bPA cI cS (q 3) pa)) (some (.int x.1)) (bX4 cI cZ a q x.2.1 ++ (bX3 cI (q 0) qN x.2.2.1 ++ bPA cI cS (q 3) x.2.2.2)) := by
  intro sz
  refine Met.ofW (cc := cX4_loads) (maxL := 4) (ret := (some .int)) (by decide +kernel) rfl ?_
  intro p e s m args below meth c s₁ B hml hv
  obtain ⟨rfl, hsz, hP, hK, hD0⟩ := hv
  have hx := B.exec
  have hb := B.bytes
  have hr := B.returns
  have hts0 := atoms_spec (ws := .code yX4_loads cX4_loads 4 (some .int) :: TB) B.pre
  have hts := fun w (h : w ∈ TB) => hts0 w (List.mem_cons_of_mem _ h)
  have hown : s.vm.findClass RX4 = some m.cls := findClass_of_methodNamed B.named
  have hlocks := B.notSynchronized
  subst hsz
  have hD := hD0.self (sz := s.heap.size)
  generalize hAe : va_A (bX4 cI cZ a q oo ++ (bX3 cI (q 0) qN on ++ bPA cI cS (q 3) pa)) s.heap.size = A at hD ⊢
  have hA : ∀ q : Nat, s.heap.size ≤ q → A q := fun q h => by rw [← hAe]; exact Or.inr h
  have hS : va_S A s.heap s.heap [] := va_S.rf
  obtain ⟨H, hH⟩ : ∃ H, H = s.heap := ⟨_, rfl⟩
  rw [← hH] at hP
  have hS : va_S A s.heap H [] := by rw [hH]; exact hS
  have hl := lv_entry ([.ref a, .int i0, .int i1]) (n := 4) (Nat.le_of_ble_eq_true rfl)
  rw [lg_entry_eq]
  generalize (lg_sl ([.ref a, .int i0, .int i1]) ++ List.replicate (4 - (lg_sl ([.ref a, .int i0, .int i1])).length) Slot.unset).toArray = ls at hl ⊢
  have hl : lv_has ls 4 [(0, .ref a), (1, .int i0), (2, .int i1)] := hl
  refine W_heap hH ?_
  obtain ⟨locs, hlo⟩ : ∃ locs : List Loc, locs = [] := ⟨_, rfl⟩
  rw [← hlo] at hS ⊢
  unfold f_X4_loads at hf
  refine lv_aload_n (pc := 0) hx hb dX4_loads_0 rfl (lv_at hl 0 rfl) ?_
  refine lv_iload_n (pc := 1) hx hb dX4_loads_1 rfl (lv_at hl 1 rfl) ?_
  obtain ⟨x1, ex1, hf⟩ := bd_some hf
  refine ct_V (pc := 2) (As := [.int i0]) (rest := []) (wr := bPA cI cS (q 3) pa) (W1 := bX4 cI cZ a q oo ++ (bX3 cI (q 0) qN on ++ bPA cI cS (q 3) pa)) ⟨hx, hb, hml, hown, hts⟩ hK (c_X4_isColumn l D cI cZ cS a q qN i0 oo on x1 ex1) gv_RX4_114 rfl hs_X4_isColumn rfl ⟨Nat.le_of_ble_eq_true rfl, Nat.le_of_ble_eq_true rfl⟩ (ci := 4) (q0 := 0) rfl rfl rfl hl.1 rfl (Nat.le_of_ble_eq_true rfl) dX4_loads_2 ⟨Nat.zero_le _, Nat.zero_le _⟩ hP hD hS hA [0, 1, 2, 3, 4, 5, 6, 7, 8, 9, 10, 11, 12] [13, 14, 15, 16, 17, 18, 19, 20, 21, 22, 23, 24, 25, 26, 27, 28, 29, 30, 31, 32, 33, 34, 35, 36, 37, 38, 39, 40, 41, 42, 43, 44, 45, 46, 47, 48, 49, 50, 51, 52, 53, 54, 55, 56, 57, 58, 59, 60, 61] [49, 50, 51, 52, 53, 54, 55, 56, 57, 58, 59, 60, 61, 0, 1, 2, 3, 4, 5, 6, 7, 8, 9, 10, 11, 12, 13, 14, 15, 16, 17, 18, 19, 20, 21, 22, 23, 24, 25, 26, 27, 28, 29, 30, 31, 32, 33, 34, 35, 36, 37, 38, 39, 40, 41, 42, 43, 44, 45, 46, 47, 48] rfl rfl (by decide +kernel) (by decide +kernel) (by decide +kernel) (by decide +kernel) rfl (fun H locs hP hD hS => ?_)
  refine lv_if_eq (pc := 5) (tgt := 18) hx hb dX4_loads_5 (by decide) (fun c2 => ?_) (fun c2 => ?_)
  · replace hf := ip c2 hf
    refine lv_iconst (v := -1) (pc := 18) hx hb dX4_loads_18 (by decide) ?_
    obtain rfl := Option.some.inj hf
    exact W.iret hx hb hr (fun t ht hW => ⟨rfl, by rw [ht]; exact hP, hD, hS.F ht⟩) hS.2.2 dX4_loads_19
  · replace hf := im c2 hf
    refine lv_iload_n (pc := 8) hx hb dX4_loads_8 rfl (lv_at hl 2 rfl) ?_
    refine lv_if_lt (pc := 9) (tgt := 18) hx hb dX4_loads_9 (by decide) (fun c3 => ?_) (fun c3 => ?_)
    · replace hf := ip c3 hf
      refine lv_iconst (v := -1) (pc := 18) hx hb dX4_loads_18 (by decide) ?_
      obtain rfl := Option.some.inj hf
      exact W.iret hx hb hr (fun t ht hW => ⟨rfl, by rw [ht]; exact hP, hD, hS.F ht⟩) hS.2.2 dX4_loads_19
    · replace hf := im c3 hf
      refine lv_iload_n (pc := 12) hx hb dX4_loads_12 rfl (lv_at hl 2 rfl) ?_
      refine lv_bipush (v := 99) (pc := 13) hx hb dX4_loads_13 (by decide) ?_
      refine lv_icmp_le (pc := 15) (tgt := 20) hx hb dX4_loads_15 (by decide) (fun c4 => ?_) (fun c4 => ?_)
      · replace hf := ip c4 hf
        refine lv_aload_n (pc := 20) hx hb dX4_loads_20 rfl (lv_at hl 0 rfl) ?_
        refine va_get (pc := 21) (D := D) (ci := 4) (v := .ref (q 0)) (C := RX4) (T := TX4) (N := 13) hx hb hts iX4 hown hK.1 hP 0 rfl rfl 0 (by decide) (hts _ fl_RX4_12) (fun _ h => h) rfl dX4_loads_21 ?_
        refine va_getN (pc := 24) (D := D) (ci := 3) (v := .ref (qN 8)) (C := RX3) (T := TX3) (N := 12) hx hb hts iX3 hown hK.1 hP 5 rfl rfl 8 (by decide) (va_Nw.use rfl (hK.2 _ nf_RX4_117)) (fun _ h => h) rfl dX4_loads_24 ?_
        refine lv_iload_n (pc := 27) hx hb dX4_loads_27 rfl (lv_at hl 1 rfl) ?_
        obtain ⟨h5, hf⟩ := ck_some hf
        refine va_iald (pc := 28) (f := on.2.2 8) hx hb hK.1 hP 12 0 rfl rfl h5 dX4_loads_28 ?_
        refine lv_istore_n (lv' := [(3, .int (on.2.2 8 (i0 : Int32).toNatClampNeg)), (0, .ref a), (1, .int i0), (2, .int i1)]) (pc := 29) hx hb dX4_loads_29 rfl hl (by decide) rfl (fun ls hl => ?_)
        refine lv_iload_n (pc := 30) hx hb dX4_loads_30 rfl (lv_at hl 0 rfl) ?_
        refine lv_iload_n (pc := 31) hx hb dX4_loads_31 rfl (lv_at hl 3 rfl) ?_
        refine lv_icmp_ne (pc := 32) (tgt := 38) hx hb dX4_loads_32 (by decide) (fun c6 => ?_) (fun c6 => ?_)
        · replace hf := im c6 hf
          refine lv_aload_n (pc := 38) hx hb dX4_loads_38 rfl (lv_at hl 1 rfl) ?_
          obtain ⟨x7, ex7, hf⟩ := bd_some hf
          refine ct_V1 (pc := 39) (As := []) (rest := []) (W1 := bX4 cI cZ a q x7.1 ++ (bX3 cI (q 0) qN on ++ bPA cI cS (q 3) x7.2)) ⟨hx, hb, hml, hown, hts⟩ hK (c_X4_recordAction l D cI cZ cS a q qN oo on pa x7 ex7) gv_RX4_92 rfl hs_X4_recordAction rfl ⟨Nat.le_of_ble_eq_true rfl, Nat.le_of_ble_eq_true rfl⟩ (ci := 4) (q0 := 0) rfl rfl rfl hl.1 rfl (Nat.le_of_ble_eq_true rfl) dX4_loads_39 ⟨Nat.zero_le _, Nat.zero_le _⟩ hP hD hS hA (fun H locs hP hD hS => ?_)
          refine lv_aload_n (pc := 42) hx hb dX4_loads_42 rfl (lv_at hl 1 rfl) ?_
          refine va_get (pc := 43) (D := D) (ci := 4) (v := .ref (q 0)) (C := RX4) (T := TX4) (N := 13) hx hb hts iX4 hown hK.1 hP 0 rfl rfl 0 (by decide) (hts _ fl_RX4_12) (fun _ h => h) rfl dX4_loads_43 ?_
          refine va_getN (pc := 46) (D := D) (ci := 3) (v := .ref (qN 8)) (C := RX3) (T := TX3) (N := 12) hx hb hts iX3 hown hK.1 hP 5 rfl rfl 8 (by decide) (va_Nw.use rfl (hK.2 _ nf_RX4_117)) (fun _ h => h) rfl dX4_loads_46 ?_
          refine lv_iload_n (pc := 49) hx hb dX4_loads_49 rfl (lv_at hl 2 rfl) ?_
          refine lv_iload_n (pc := 50) hx hb dX4_loads_50 rfl (lv_at hl 3 rfl) ?_
          obtain ⟨h8, hf⟩ := ck_some hf
          obtain ⟨o9, eo9, hf⟩ := lt_some hf
          refine va_iast (pc := 51) (f := on.2.2 8) hx hb hK.1 hP hD hS 12 0 rfl rfl h8 dX4_loads_51 (fun H locs hP hD hS => ?_)
          replace hP : va_P D vwCl (bX4 cI cZ a q x7.1 ++ (bX3 cI (q 0) qN o9 ++ bPA cI cS (q 3) x7.2)) H := by rw [eo9]; exact hP
          replace hD : va_D A (bX4 cI cZ a q x7.1 ++ (bX3 cI (q 0) qN o9 ++ bPA cI cS (q 3) x7.2)) := by rw [eo9]; exact hD
          refine lv_iload_n (pc := 52) hx hb dX4_loads_52 rfl (lv_at hl 0 rfl) ?_
          obtain rfl := Option.some.inj hf
          exact W.iret hx hb hr (fun t ht hW => ⟨rfl, by rw [ht]; exact hP, hD, hS.F ht⟩) hS.2.2 dX4_loads_53
        · replace hf := ip c6 hf
          refine lv_bipush (v := -2) (pc := 35) hx hb dX4_loads_35 (by decide) ?_
          obtain rfl := Option.some.inj hf
          exact W.iret hx hb hr (fun t ht hW => ⟨rfl, by rw [ht]; exact hP, hD, hS.F ht⟩) hS.2.2 dX4_loads_37
      · replace hf := im c4 hf
        refine lv_iconst (v := -1) (pc := 18) hx hb dX4_loads_18 (by decide) ?_
        obtain rfl := Option.some.inj hf
        exact W.iret hx hb hr (fun t ht hW => ⟨rfl, by rw [ht]; exact hP, hD, hS.F ht⟩) hS.2.2 dX4_loads_19
def f_X4_moves (i0 : Int32) (i1 : Int32) (i2 : Int32) (oo : OS) (on : OS) (pa : PSt) : Option (Int32 × OS × OS × PSt) := Option.bind (f_X4_isColumn i0 oo on) fun x1 => if x1 = 0 then some ((-1), oo, on, pa) else Option.bind (f_X4_isPlace i1 i2) fun x3 => if x3 = 0 then some ((-1), oo, on, pa) else ck i0 5 (if (on.2.2 6 (i0 : Int32).toNatClampNeg) = i1 then ck i0 5 (if (on.2.2 7 (i0 : Int32).toNatClampNeg) = i2 then some ((-2), oo, on, pa) else Option.bind (f_X4_recordAction oo on pa) fun x14 => ck i0 5 (lt (sA on 6 ((i0 : Int32).toNatClampNeg) i1) fun o16 => ck i0 5 (lt (sA o16 7 ((i0 : Int32).toNatClampNeg) i2) fun o18 => some (1, x14.1, o18, x14.2)))) else Option.bind (f_X4_recordAction oo on pa) fun x7 => ck i0 5 (lt (sA on 6 ((i0 : Int32).toNatClampNeg) i1) fun o9 => ck i0 5 (lt (sA o9 7 ((i0 : Int32).toNatClampNeg) i2) fun o11 => some (1, x7.1, o11, x7.2))))
set_option maxHeartbeats 4000000 in
set_option maxRecDepth 100000 in
theorem c_X4_moves (l : Launch) (D : va_G) (cI cZ cS : ClassId) (a : Nat) (q : Nat → Nat) (qN : Nat → Nat) (i0 : Int32) (i1 : Int32) (i2 : Int32) (oo : OS) (on : OS) (pa : PSt) (x : (Int32 × OS × OS × PSt)) (hf : f_X4_moves i0 i1 i2 oo on pa = some x) : Ct l yX4_moves cX4_moves 4 (some .int) 3 88 D cI cZ cS [.ref a, .int i0, .int i1, .int i2] (bX4 cI cZ a q oo ++ (bX3 cI (q 0) qN on ++ bPA cI cS (q 3) pa)) (some (.int x.1)) (bX4 cI cZ a q x.2.1 ++ (bX3 cI (q 0) qN x.2.2.1 ++ bPA cI cS (q 3) x.2.2.2)) := by
  intro sz
  refine Met.ofW (cc := cX4_moves) (maxL := 4) (ret := (some .int)) (by decide +kernel) rfl ?_
  intro p e s m args below meth c s₁ B hml hv
  obtain ⟨rfl, hsz, hP, hK, hD0⟩ := hv
  have hx := B.exec
  have hb := B.bytes
  have hr := B.returns
  have hts0 := atoms_spec (ws := .code yX4_moves cX4_moves 4 (some .int) :: TB) B.pre
  have hts := fun w (h : w ∈ TB) => hts0 w (List.mem_cons_of_mem _ h)
  have hown : s.vm.findClass RX4 = some m.cls := findClass_of_methodNamed B.named
  have hlocks := B.notSynchronized
  subst hsz
  have hD := hD0.self (sz := s.heap.size)
  generalize hAe : va_A (bX4 cI cZ a q oo ++ (bX3 cI (q 0) qN on ++ bPA cI cS (q 3) pa)) s.heap.size = A at hD ⊢
  have hA : ∀ q : Nat, s.heap.size ≤ q → A q := fun q h => by rw [← hAe]; exact Or.inr h
  have hS : va_S A s.heap s.heap [] := va_S.rf
  obtain ⟨H, hH⟩ : ∃ H, H = s.heap := ⟨_, rfl⟩
  rw [← hH] at hP
  have hS : va_S A s.heap H [] := by rw [hH]; exact hS
  have hl := lv_entry ([.ref a, .int i0, .int i1, .int i2]) (n := 4) (Nat.le_of_ble_eq_true rfl)
  rw [lg_entry_eq]
  generalize (lg_sl ([.ref a, .int i0, .int i1, .int i2]) ++ List.replicate (4 - (lg_sl ([.ref a, .int i0, .int i1, .int i2])).length) Slot.unset).toArray = ls at hl ⊢
  have hl : lv_has ls 4 [(0, .ref a), (1, .int i0), (2, .int i1), (3, .int i2)] := hl
  refine W_heap hH ?_
  obtain ⟨locs, hlo⟩ : ∃ locs : List Loc, locs = [] := ⟨_, rfl⟩
  rw [← hlo] at hS ⊢
  unfold f_X4_moves at hf
  refine lv_aload_n (pc := 0) hx hb dX4_moves_0 rfl (lv_at hl 0 rfl) ?_
  refine lv_iload_n (pc := 1) hx hb dX4_moves_1 rfl (lv_at hl 1 rfl) ?_
  obtain ⟨x1, ex1, hf⟩ := bd_some hf
  refine ct_V (pc := 2) (As := [.int i0]) (rest := []) (wr := bPA cI cS (q 3) pa) (W1 := bX4 cI cZ a q oo ++ (bX3 cI (q 0) qN on ++ bPA cI cS (q 3) pa)) ⟨hx, hb, hml, hown, hts⟩ hK (c_X4_isColumn l D cI cZ cS a q qN i0 oo on x1 ex1) gv_RX4_114 rfl hs_X4_isColumn rfl ⟨Nat.le_of_ble_eq_true rfl, Nat.le_of_ble_eq_true rfl⟩ (ci := 4) (q0 := 0) rfl rfl rfl hl.1 rfl (Nat.le_of_ble_eq_true rfl) dX4_moves_2 ⟨Nat.zero_le _, Nat.zero_le _⟩ hP hD hS hA [0, 1, 2, 3, 4, 5, 6, 7, 8, 9, 10, 11, 12] [13, 14, 15, 16, 17, 18, 19, 20, 21, 22, 23, 24, 25, 26, 27, 28, 29, 30, 31, 32, 33, 34, 35, 36, 37, 38, 39, 40, 41, 42, 43, 44, 45, 46, 47, 48, 49, 50, 51, 52, 53, 54, 55, 56, 57, 58, 59, 60, 61] [49, 50, 51, 52, 53, 54, 55, 56, 57, 58, 59, 60, 61, 0, 1, 2, 3, 4, 5, 6, 7, 8, 9, 10, 11, 12, 13, 14, 15, 16, 17, 18, 19, 20, 21, 22, 23, 24, 25, 26, 27, 28, 29, 30, 31, 32, 33, 34, 35, 36, 37, 38, 39, 40, 41, 42, 43, 44, 45, 46, 47, 48] rfl rfl (by decide +kernel) (by decide +kernel) (by decide +kernel) (by decide +kernel) rfl (fun H locs hP hD hS => ?_)
  refine lv_if_eq (pc := 5) (tgt := 16) hx hb dX4_moves_5 (by decide) (fun c2 => ?_) (fun c2 => ?_)
  · replace hf := ip c2 hf
    refine lv_iconst (v := -1) (pc := 16) hx hb dX4_moves_16 (by decide) ?_
    obtain rfl := Option.some.inj hf
    exact W.iret hx hb hr (fun t ht hW => ⟨rfl, by rw [ht]; exact hP, hD, hS.F ht⟩) hS.2.2 dX4_moves_17
  · replace hf := im c2 hf
    refine lv_iload_n (pc := 8) hx hb dX4_moves_8 rfl (lv_at hl 2 rfl) ?_
    refine lv_iload_n (pc := 9) hx hb dX4_moves_9 rfl (lv_at hl 3 rfl) ?_
    obtain ⟨x3, ex3, hf⟩ := bd_some hf
    refine ct_S0 (pc := 10) (As := [.int i1, .int i2]) (rest := []) ⟨hx, hb, hml, hown, hts⟩ hK (c_X4_isPlace l D cI cZ cS i1 i2 x3 ex3) gs_RX4_79 hs_X4_isPlace rfl ⟨Nat.le_of_ble_eq_true rfl, Nat.le_of_ble_eq_true rfl⟩ hl.1 rfl (Nat.le_of_ble_eq_true rfl) dX4_moves_10 ⟨Nat.zero_le _, Nat.zero_le _⟩ hP hS hA (fun H locs hP hS => ?_)
    refine lv_if_ne (pc := 13) (tgt := 18) hx hb dX4_moves_13 (by decide) (fun c4 => ?_) (fun c4 => ?_)
    · replace hf := im c4 hf
      refine lv_aload_n (pc := 18) hx hb dX4_moves_18 rfl (lv_at hl 0 rfl) ?_
      refine va_get (pc := 19) (D := D) (ci := 4) (v := .ref (q 0)) (C := RX4) (T := TX4) (N := 13) hx hb hts iX4 hown hK.1 hP 0 rfl rfl 0 (by decide) (hts _ fl_RX4_12) (fun _ h => h) rfl dX4_moves_19 ?_
      refine va_getN (pc := 22) (D := D) (ci := 3) (v := .ref (qN 6)) (C := RX3) (T := TX3) (N := 12) hx hb hts iX3 hown hK.1 hP 5 rfl rfl 6 (by decide) (va_Nw.use rfl (hK.2 _ nf_RX4_120)) (fun _ h => h) rfl dX4_moves_22 ?_
      refine lv_iload_n (pc := 25) hx hb dX4_moves_25 rfl (lv_at hl 1 rfl) ?_
      obtain ⟨h5, hf⟩ := ck_some hf
      refine va_iald (pc := 26) (f := on.2.2 6) hx hb hK.1 hP 10 0 rfl rfl h5 dX4_moves_26 ?_
      refine lv_iload_n (pc := 27) hx hb dX4_moves_27 rfl (lv_at hl 2 rfl) ?_
      refine lv_icmp_ne (pc := 28) (tgt := 47) hx hb dX4_moves_28 (by decide) (fun c6 => ?_) (fun c6 => ?_)
      · replace hf := im c6 hf
        refine lv_aload_n (pc := 47) hx hb dX4_moves_47 rfl (lv_at hl 0 rfl) ?_
        obtain ⟨x7, ex7, hf⟩ := bd_some hf
        refine ct_V1 (pc := 48) (As := []) (rest := []) (W1 := bX4 cI cZ a q x7.1 ++ (bX3 cI (q 0) qN on ++ bPA cI cS (q 3) x7.2)) ⟨hx, hb, hml, hown, hts⟩ hK (c_X4_recordAction l D cI cZ cS a q qN oo on pa x7 ex7) gv_RX4_92 rfl hs_X4_recordAction rfl ⟨Nat.le_of_ble_eq_true rfl, Nat.le_of_ble_eq_true rfl⟩ (ci := 4) (q0 := 0) rfl rfl rfl hl.1 rfl (Nat.le_of_ble_eq_true rfl) dX4_moves_48 ⟨Nat.zero_le _, Nat.zero_le _⟩ hP hD hS hA (fun H locs hP hD hS => ?_)
        refine lv_aload_n (pc := 51) hx hb dX4_moves_51 rfl (lv_at hl 0 rfl) ?_
        refine va_get (pc := 52) (D := D) (ci := 4) (v := .ref (q 0)) (C := RX4) (T := TX4) (N := 13) hx hb hts iX4 hown hK.1 hP 0 rfl rfl 0 (by decide) (hts _ fl_RX4_12) (fun _ h => h) rfl dX4_moves_52 ?_
        refine va_getN (pc := 55) (D := D) (ci := 3) (v := .ref (qN 6)) (C := RX3) (T := TX3) (N := 12) hx hb hts iX3 hown hK.1 hP 5 rfl rfl 6 (by decide) (va_Nw.use rfl (hK.2 _ nf_RX4_120)) (fun _ h => h) rfl dX4_moves_55 ?_
        refine lv_iload_n (pc := 58) hx hb dX4_moves_58 rfl (lv_at hl 1 rfl) ?_
        refine lv_iload_n (pc := 59) hx hb dX4_moves_59 rfl (lv_at hl 2 rfl) ?_
        obtain ⟨h8, hf⟩ := ck_some hf
        obtain ⟨o9, eo9, hf⟩ := lt_some hf
        refine va_iast (pc := 60) (f := on.2.2 6) hx hb hK.1 hP hD hS 10 0 rfl rfl h8 dX4_moves_60 (fun H locs hP hD hS => ?_)
        replace hP : va_P D vwCl (bX4 cI cZ a q x7.1 ++ (bX3 cI (q 0) qN o9 ++ bPA cI cS (q 3) x7.2)) H := by rw [eo9]; exact hP
        replace hD : va_D A (bX4 cI cZ a q x7.1 ++ (bX3 cI (q 0) qN o9 ++ bPA cI cS (q 3) x7.2)) := by rw [eo9]; exact hD
        refine lv_aload_n (pc := 61) hx hb dX4_moves_61 rfl (lv_at hl 0 rfl) ?_
        refine va_get (pc := 62) (D := D) (ci := 4) (v := .ref (q 0)) (C := RX4) (T := TX4) (N := 13) hx hb hts iX4 hown hK.1 hP 0 rfl rfl 0 (by decide) (hts _ fl_RX4_12) (fun _ h => h) rfl dX4_moves_62 ?_
        refine va_getN (pc := 65) (D := D) (ci := 3) (v := .ref (qN 7)) (C := RX3) (T := TX3) (N := 12) hx hb hts iX3 hown hK.1 hP 5 rfl rfl 7 (by decide) (va_Nw.use rfl (hK.2 _ nf_RX4_123)) (fun _ h => h) rfl dX4_moves_65 ?_
        refine lv_iload_n (pc := 68) hx hb dX4_moves_68 rfl (lv_at hl 1 rfl) ?_
        refine lv_iload_n (pc := 69) hx hb dX4_moves_69 rfl (lv_at hl 3 rfl) ?_
        obtain ⟨h10, hf⟩ := ck_some hf
        obtain ⟨o11, eo11, hf⟩ := lt_some hf
        refine va_iast (pc := 70) (f := o9.2.2 7) hx hb hK.1 hP hD hS 11 0 rfl rfl h10 dX4_moves_70 (fun H locs hP hD hS => ?_)
        replace hP : va_P D vwCl (bX4 cI cZ a q x7.1 ++ (bX3 cI (q 0) qN o11 ++ bPA cI cS (q 3) x7.2)) H := by rw [eo11]; exact hP
        replace hD : va_D A (bX4 cI cZ a q x7.1 ++ (bX3 cI (q 0) qN o11 ++ bPA cI cS (q 3) x7.2)) := by rw [eo11]; exact hD
        refine lv_iconst (v := 1) (pc := 71) hx hb dX4_moves_71 (by decide) ?_
        obtain rfl := Option.some.inj hf
        exact W.iret hx hb hr (fun t ht hW => ⟨rfl, by rw [ht]; exact hP, hD, hS.F ht⟩) hS.2.2 dX4_moves_72
      · replace hf := ip c6 hf
        refine lv_aload_n (pc := 31) hx hb dX4_moves_31 rfl (lv_at hl 0 rfl) ?_
        refine va_get (pc := 32) (D := D) (ci := 4) (v := .ref (q 0)) (C := RX4) (T := TX4) (N := 13) hx hb hts iX4 hown hK.1 hP 0 rfl rfl 0 (by decide) (hts _ fl_RX4_12) (fun _ h => h) rfl dX4_moves_32 ?_
        refine va_getN (pc := 35) (D := D) (ci := 3) (v := .ref (qN 7)) (C := RX3) (T := TX3) (N := 12) hx hb hts iX3 hown hK.1 hP 5 rfl rfl 7 (by decide) (va_Nw.use rfl (hK.2 _ nf_RX4_123)) (fun _ h => h) rfl dX4_moves_35 ?_
        refine lv_iload_n (pc := 38) hx hb dX4_moves_38 rfl (lv_at hl 1 rfl) ?_
        obtain ⟨h12, hf⟩ := ck_some hf
        refine va_iald (pc := 39) (f := on.2.2 7) hx hb hK.1 hP 11 0 rfl rfl h12 dX4_moves_39 ?_
        refine lv_iload_n (pc := 40) hx hb dX4_moves_40 rfl (lv_at hl 3 rfl) ?_
        refine lv_icmp_ne (pc := 41) (tgt := 47) hx hb dX4_moves_41 (by decide) (fun c13 => ?_) (fun c13 => ?_)
        · replace hf := im c13 hf
          refine lv_aload_n (pc := 47) hx hb dX4_moves_47 rfl (lv_at hl 0 rfl) ?_
          obtain ⟨x14, ex14, hf⟩ := bd_some hf
          refine ct_V1 (pc := 48) (As := []) (rest := []) (W1 := bX4 cI cZ a q x14.1 ++ (bX3 cI (q 0) qN on ++ bPA cI cS (q 3) x14.2)) ⟨hx, hb, hml, hown, hts⟩ hK (c_X4_recordAction l D cI cZ cS a q qN oo on pa x14 ex14) gv_RX4_92 rfl hs_X4_recordAction rfl ⟨Nat.le_of_ble_eq_true rfl, Nat.le_of_ble_eq_true rfl⟩ (ci := 4) (q0 := 0) rfl rfl rfl hl.1 rfl (Nat.le_of_ble_eq_true rfl) dX4_moves_48 ⟨Nat.zero_le _, Nat.zero_le _⟩ hP hD hS hA (fun H locs hP hD hS => ?_)
          refine lv_aload_n (pc := 51) hx hb dX4_moves_51 rfl (lv_at hl 0 rfl) ?_
          refine va_get (pc := 52) (D := D) (ci := 4) (v := .ref (q 0)) (C := RX4) (T := TX4) (N := 13) hx hb hts iX4 hown hK.1 hP 0 rfl rfl 0 (by decide) (hts _ fl_RX4_12) (fun _ h => h) rfl dX4_moves_52 ?_
          refine va_getN (pc := 55) (D := D) (ci := 3) (v := .ref (qN 6)) (C := RX3) (T := TX3) (N := 12) hx hb hts iX3 hown hK.1 hP 5 rfl rfl 6 (by decide) (va_Nw.use rfl (hK.2 _ nf_RX4_120)) (fun _ h => h) rfl dX4_moves_55 ?_
          refine lv_iload_n (pc := 58) hx hb dX4_moves_58 rfl (lv_at hl 1 rfl) ?_
          refine lv_iload_n (pc := 59) hx hb dX4_moves_59 rfl (lv_at hl 2 rfl) ?_
          obtain ⟨h15, hf⟩ := ck_some hf
          obtain ⟨o16, eo16, hf⟩ := lt_some hf
          refine va_iast (pc := 60) (f := on.2.2 6) hx hb hK.1 hP hD hS 10 0 rfl rfl h15 dX4_moves_60 (fun H locs hP hD hS => ?_)
          replace hP : va_P D vwCl (bX4 cI cZ a q x14.1 ++ (bX3 cI (q 0) qN o16 ++ bPA cI cS (q 3) x14.2)) H := by rw [eo16]; exact hP
          replace hD : va_D A (bX4 cI cZ a q x14.1 ++ (bX3 cI (q 0) qN o16 ++ bPA cI cS (q 3) x14.2)) := by rw [eo16]; exact hD
          refine lv_aload_n (pc := 61) hx hb dX4_moves_61 rfl (lv_at hl 0 rfl) ?_
          refine va_get (pc := 62) (D := D) (ci := 4) (v := .ref (q 0)) (C := RX4) (T := TX4) (N := 13) hx hb hts iX4 hown hK.1 hP 0 rfl rfl 0 (by decide) (hts _ fl_RX4_12) (fun _ h => h) rfl dX4_moves_62 ?_
          refine va_getN (pc := 65) (D := D) (ci := 3) (v := .ref (qN 7)) (C := RX3) (T := TX3) (N := 12) hx hb hts iX3 hown hK.1 hP 5 rfl rfl 7 (by decide) (va_Nw.use rfl (hK.2 _ nf_RX4_123)) (fun _ h => h) rfl dX4_moves_65 ?_
          refine lv_iload_n (pc := 68) hx hb dX4_moves_68 rfl (lv_at hl 1 rfl) ?_
          refine lv_iload_n (pc := 69) hx hb dX4_moves_69 rfl (lv_at hl 3 rfl) ?_
          obtain ⟨h17, hf⟩ := ck_some hf
          obtain ⟨o18, eo18, hf⟩ := lt_some hf
          refine va_iast (pc := 70) (f := o16.2.2 7) hx hb hK.1 hP hD hS 11 0 rfl rfl h17 dX4_moves_70 (fun H locs hP hD hS => ?_)
          replace hP : va_P D vwCl (bX4 cI cZ a q x14.1 ++ (bX3 cI (q 0) qN o18 ++ bPA cI cS (q 3) x14.2)) H := by rw [eo18]; exact hP
          replace hD : va_D A (bX4 cI cZ a q x14.1 ++ (bX3 cI (q 0) qN o18 ++ bPA cI cS (q 3) x14.2)) := by rw [eo18]; exact hD
          refine lv_iconst (v := 1) (pc := 71) hx hb dX4_moves_71 (by decide) ?_
          obtain rfl := Option.some.inj hf
          exact W.iret hx hb hr (fun t ht hW => ⟨rfl, by rw [ht]; exact hP, hD, hS.F ht⟩) hS.2.2 dX4_moves_72
        · replace hf := ip c13 hf
          refine lv_bipush (v := -2) (pc := 44) hx hb dX4_moves_44 (by decide) ?_
          obtain rfl := Option.some.inj hf
          exact W.iret hx hb hr (fun t ht hW => ⟨rfl, by rw [ht]; exact hP, hD, hS.F ht⟩) hS.2.2 dX4_moves_46
    · replace hf := ip c4 hf
      refine lv_iconst (v := -1) (pc := 16) hx hb dX4_moves_16 (by decide) ?_
      obtain rfl := Option.some.inj hf
      exact W.iret hx hb hr (fun t ht hW => ⟨rfl, by rw [ht]; exact hP, hD, hS.F ht⟩) hS.2.2 dX4_moves_17
def f_X4_winds (i0 : Int32) (i1 : Int32) (oo : OS) (on : OS) (pa : PSt) : Option (Int32 × OS × OS × PSt) := if i0 < (-99) then some ((-1), oo, on, pa) else if 99 < i0 then some ((-1), oo, on, pa) else if i1 < (-99) then some ((-1), oo, on, pa) else if i1 ≤ 99 then if (on.1 10) = i0 then if (on.1 11) = i1 then some ((-2), oo, on, pa) else Option.bind (f_X4_recordAction oo on pa) fun x10 => lt (sI on 10 i0) fun o11 => lt (sI o11 11 i1) fun o12 => some (1, x10.1, o12, x10.2) else Option.bind (f_X4_recordAction oo on pa) fun x6 => lt (sI on 10 i0) fun o7 => lt (sI o7 11 i1) fun o8 => some (1, x6.1, o8, x6.2) else some ((-1), oo, on, pa)
set_option maxHeartbeats 4000000 in
set_option maxRecDepth 100000 in
theorem c_X4_winds (l : Launch) (D : va_G) (cI cZ cS : ClassId) (a : Nat) (q : Nat → Nat) (qN : Nat → Nat) (i0 : Int32) (i1 : Int32) (oo : OS) (on : OS) (pa : PSt) (x : (Int32 × OS × OS × PSt)) (hf : f_X4_winds i0 i1 oo on pa = some x) : Ct l yX4_winds cX4_winds 3 (some .int) 3 88 D cI cZ cS [.ref a, .int i0, .int i1] (bX4 cI cZ a q oo ++ (bX3 cI (q 0) qN on ++ bPA cI cS (q 3) pa)) (some (.int x.1)) (bX4 cI cZ a q x.2.1 ++ (bX3 cI (q 0) qN x.2.2.1 ++ bPA cI cS (q 3) x.2.2.2)) := by
  intro sz
  refine Met.ofW (cc := cX4_winds) (maxL := 3) (ret := (some .int)) (by decide +kernel) rfl ?_
  intro p e s m args below meth c s₁ B hml hv
  obtain ⟨rfl, hsz, hP, hK, hD0⟩ := hv
  have hx := B.exec
  have hb := B.bytes
  have hr := B.returns
  have hts0 := atoms_spec (ws := .code yX4_winds cX4_winds 3 (some .int) :: TB) B.pre
  have hts := fun w (h : w ∈ TB) => hts0 w (List.mem_cons_of_mem _ h)
  have hown : s.vm.findClass RX4 = some m.cls := findClass_of_methodNamed B.named
  have hlocks := B.notSynchronized
  subst hsz
  have hD := hD0.self (sz := s.heap.size)
  generalize hAe : va_A (bX4 cI cZ a q oo ++ (bX3 cI (q 0) qN on ++ bPA cI cS (q 3) pa)) s.heap.size = A at hD ⊢
  have hA : ∀ q : Nat, s.heap.size ≤ q → A q := fun q h => by rw [← hAe]; exact Or.inr h
  have hS : va_S A s.heap s.heap [] := va_S.rf
  obtain ⟨H, hH⟩ : ∃ H, H = s.heap := ⟨_, rfl⟩
  rw [← hH] at hP
  have hS : va_S A s.heap H [] := by rw [hH]; exact hS
  have hl := lv_entry ([.ref a, .int i0, .int i1]) (n := 3) (Nat.le_of_ble_eq_true rfl)
  rw [lg_entry_eq]
  generalize (lg_sl ([.ref a, .int i0, .int i1]) ++ List.replicate (3 - (lg_sl ([.ref a, .int i0, .int i1])).length) Slot.unset).toArray = ls at hl ⊢
  have hl : lv_has ls 3 [(0, .ref a), (1, .int i0), (2, .int i1)] := hl
  refine W_heap hH ?_
  obtain ⟨locs, hlo⟩ : ∃ locs : List Loc, locs = [] := ⟨_, rfl⟩
  rw [← hlo] at hS ⊢
  unfold f_X4_winds at hf
  refine lv_iload_n (pc := 0) hx hb dX4_winds_0 rfl (lv_at hl 1 rfl) ?_
  refine lv_bipush (v := -99) (pc := 1) hx hb dX4_winds_1 (by decide) ?_
  refine lv_icmp_lt (pc := 3) (tgt := 24) hx hb dX4_winds_3 (by decide) (fun c1 => ?_) (fun c1 => ?_)
  · replace hf := ip c1 hf
    refine lv_iconst (v := -1) (pc := 24) hx hb dX4_winds_24 (by decide) ?_
    obtain rfl := Option.some.inj hf
    exact W.iret hx hb hr (fun t ht hW => ⟨rfl, by rw [ht]; exact hP, hD, hS.F ht⟩) hS.2.2 dX4_winds_25
  · replace hf := im c1 hf
    refine lv_iload_n (pc := 6) hx hb dX4_winds_6 rfl (lv_at hl 1 rfl) ?_
    refine lv_bipush (v := 99) (pc := 7) hx hb dX4_winds_7 (by decide) ?_
    refine lv_icmp_gt (pc := 9) (tgt := 24) hx hb dX4_winds_9 (by decide) (fun c2 => ?_) (fun c2 => ?_)
    · replace hf := ip c2 hf
      refine lv_iconst (v := -1) (pc := 24) hx hb dX4_winds_24 (by decide) ?_
      obtain rfl := Option.some.inj hf
      exact W.iret hx hb hr (fun t ht hW => ⟨rfl, by rw [ht]; exact hP, hD, hS.F ht⟩) hS.2.2 dX4_winds_25
    · replace hf := im c2 hf
      refine lv_iload_n (pc := 12) hx hb dX4_winds_12 rfl (lv_at hl 2 rfl) ?_
      refine lv_bipush (v := -99) (pc := 13) hx hb dX4_winds_13 (by decide) ?_
      refine lv_icmp_lt (pc := 15) (tgt := 24) hx hb dX4_winds_15 (by decide) (fun c3 => ?_) (fun c3 => ?_)
      · replace hf := ip c3 hf
        refine lv_iconst (v := -1) (pc := 24) hx hb dX4_winds_24 (by decide) ?_
        obtain rfl := Option.some.inj hf
        exact W.iret hx hb hr (fun t ht hW => ⟨rfl, by rw [ht]; exact hP, hD, hS.F ht⟩) hS.2.2 dX4_winds_25
      · replace hf := im c3 hf
        refine lv_iload_n (pc := 18) hx hb dX4_winds_18 rfl (lv_at hl 2 rfl) ?_
        refine lv_bipush (v := 99) (pc := 19) hx hb dX4_winds_19 (by decide) ?_
        refine lv_icmp_le (pc := 21) (tgt := 26) hx hb dX4_winds_21 (by decide) (fun c4 => ?_) (fun c4 => ?_)
        · replace hf := ip c4 hf
          refine lv_aload_n (pc := 26) hx hb dX4_winds_26 rfl (lv_at hl 0 rfl) ?_
          refine va_get (pc := 27) (D := D) (ci := 4) (v := .ref (q 0)) (C := RX4) (T := TX4) (N := 13) hx hb hts iX4 hown hK.1 hP 0 rfl rfl 0 (by decide) (hts _ fl_RX4_12) (fun _ h => h) rfl dX4_winds_27 ?_
          refine va_getN (pc := 30) (D := D) (ci := 3) (v := .int (on.1 10)) (C := RX3) (T := TX3) (N := 12) hx hb hts iX3 hown hK.1 hP 5 rfl rfl 10 (by decide) (va_Nw.use rfl (hK.2 _ nf_RX4_126)) (fun _ h => h) rfl dX4_winds_30 ?_
          refine lv_iload_n (pc := 33) hx hb dX4_winds_33 rfl (lv_at hl 1 rfl) ?_
          refine lv_icmp_ne (pc := 34) (tgt := 51) hx hb dX4_winds_34 (by decide) (fun c5 => ?_) (fun c5 => ?_)
          · replace hf := im c5 hf
            refine lv_aload_n (pc := 51) hx hb dX4_winds_51 rfl (lv_at hl 0 rfl) ?_
            obtain ⟨x6, ex6, hf⟩ := bd_some hf
            refine ct_V1 (pc := 52) (As := []) (rest := []) (W1 := bX4 cI cZ a q x6.1 ++ (bX3 cI (q 0) qN on ++ bPA cI cS (q 3) x6.2)) ⟨hx, hb, hml, hown, hts⟩ hK (c_X4_recordAction l D cI cZ cS a q qN oo on pa x6 ex6) gv_RX4_92 rfl hs_X4_recordAction rfl ⟨Nat.le_of_ble_eq_true rfl, Nat.le_of_ble_eq_true rfl⟩ (ci := 4) (q0 := 0) rfl rfl rfl hl.1 rfl (Nat.le_of_ble_eq_true rfl) dX4_winds_52 ⟨Nat.zero_le _, Nat.zero_le _⟩ hP hD hS hA (fun H locs hP hD hS => ?_)
            refine lv_aload_n (pc := 55) hx hb dX4_winds_55 rfl (lv_at hl 0 rfl) ?_
            refine va_get (pc := 56) (D := D) (ci := 4) (v := .ref (q 0)) (C := RX4) (T := TX4) (N := 13) hx hb hts iX4 hown hK.1 hP 0 rfl rfl 0 (by decide) (hts _ fl_RX4_12) (fun _ h => h) rfl dX4_winds_56 ?_
            refine lv_iload_n (pc := 59) hx hb dX4_winds_59 rfl (lv_at hl 1 rfl) ?_
            obtain ⟨o7, eo7, hf⟩ := lt_some hf
            refine va_putN (pc := 60) (D := D) (ci := 3) (v := .int i0) (ty := .int) (C := RX3) (T := TX3) (N := 12) hx hb hts iX3 tyX3 tyX3_ok nmX3 hown hK.1 hP hD hS 5 rfl rfl 10 (by decide) (va_Nw.use rfl (hK.2 _ nf_RX4_126)) (fun _ h => h) rfl (tyX3_ok 10 (by decide)) rfl rfl (Nat.le_of_ble_eq_true rfl) dX4_winds_60 (fun H locs hP hD hS => ?_)
            replace hP : va_P D vwCl (bX4 cI cZ a q x6.1 ++ (bX3 cI (q 0) qN o7 ++ bPA cI cS (q 3) x6.2)) H := by rw [eo7]; exact hP
            replace hD : va_D A (bX4 cI cZ a q x6.1 ++ (bX3 cI (q 0) qN o7 ++ bPA cI cS (q 3) x6.2)) := by rw [eo7]; exact hD
            refine lv_aload_n (pc := 63) hx hb dX4_winds_63 rfl (lv_at hl 0 rfl) ?_
            refine va_get (pc := 64) (D := D) (ci := 4) (v := .ref (q 0)) (C := RX4) (T := TX4) (N := 13) hx hb hts iX4 hown hK.1 hP 0 rfl rfl 0 (by decide) (hts _ fl_RX4_12) (fun _ h => h) rfl dX4_winds_64 ?_
            refine lv_iload_n (pc := 67) hx hb dX4_winds_67 rfl (lv_at hl 2 rfl) ?_
            obtain ⟨o8, eo8, hf⟩ := lt_some hf
            refine va_putN (pc := 68) (D := D) (ci := 3) (v := .int i1) (ty := .int) (C := RX3) (T := TX3) (N := 12) hx hb hts iX3 tyX3 tyX3_ok nmX3 hown hK.1 hP hD hS 5 rfl rfl 11 (by decide) (va_Nw.use rfl (hK.2 _ nf_RX4_129)) (fun _ h => h) rfl (tyX3_ok 11 (by decide)) rfl rfl (Nat.le_of_ble_eq_true rfl) dX4_winds_68 (fun H locs hP hD hS => ?_)
            replace hP : va_P D vwCl (bX4 cI cZ a q x6.1 ++ (bX3 cI (q 0) qN o8 ++ bPA cI cS (q 3) x6.2)) H := by rw [eo8]; exact hP
            replace hD : va_D A (bX4 cI cZ a q x6.1 ++ (bX3 cI (q 0) qN o8 ++ bPA cI cS (q 3) x6.2)) := by rw [eo8]; exact hD
            refine lv_iconst (v := 1) (pc := 71) hx hb dX4_winds_71 (by decide) ?_
            obtain rfl := Option.some.inj hf
            exact W.iret hx hb hr (fun t ht hW => ⟨rfl, by rw [ht]; exact hP, hD, hS.F ht⟩) hS.2.2 dX4_winds_72
          · replace hf := ip c5 hf
            refine lv_aload_n (pc := 37) hx hb dX4_winds_37 rfl (lv_at hl 0 rfl) ?_
            refine va_get (pc := 38) (D := D) (ci := 4) (v := .ref (q 0)) (C := RX4) (T := TX4) (N := 13) hx hb hts iX4 hown hK.1 hP 0 rfl rfl 0 (by decide) (hts _ fl_RX4_12) (fun _ h => h) rfl dX4_winds_38 ?_
            refine va_getN (pc := 41) (D := D) (ci := 3) (v := .int (on.1 11)) (C := RX3) (T := TX3) (N := 12) hx hb hts iX3 hown hK.1 hP 5 rfl rfl 11 (by decide) (va_Nw.use rfl (hK.2 _ nf_RX4_129)) (fun _ h => h) rfl dX4_winds_41 ?_
            refine lv_iload_n (pc := 44) hx hb dX4_winds_44 rfl (lv_at hl 2 rfl) ?_
            refine lv_icmp_ne (pc := 45) (tgt := 51) hx hb dX4_winds_45 (by decide) (fun c9 => ?_) (fun c9 => ?_)
            · replace hf := im c9 hf
              refine lv_aload_n (pc := 51) hx hb dX4_winds_51 rfl (lv_at hl 0 rfl) ?_
              obtain ⟨x10, ex10, hf⟩ := bd_some hf
              refine ct_V1 (pc := 52) (As := []) (rest := []) (W1 := bX4 cI cZ a q x10.1 ++ (bX3 cI (q 0) qN on ++ bPA cI cS (q 3) x10.2)) ⟨hx, hb, hml, hown, hts⟩ hK (c_X4_recordAction l D cI cZ cS a q qN oo on pa x10 ex10) gv_RX4_92 rfl hs_X4_recordAction rfl ⟨Nat.le_of_ble_eq_true rfl, Nat.le_of_ble_eq_true rfl⟩ (ci := 4) (q0 := 0) rfl rfl rfl hl.1 rfl (Nat.le_of_ble_eq_true rfl) dX4_winds_52 ⟨Nat.zero_le _, Nat.zero_le _⟩ hP hD hS hA (fun H locs hP hD hS => ?_)
              refine lv_aload_n (pc := 55) hx hb dX4_winds_55 rfl (lv_at hl 0 rfl) ?_
              refine va_get (pc := 56) (D := D) (ci := 4) (v := .ref (q 0)) (C := RX4) (T := TX4) (N := 13) hx hb hts iX4 hown hK.1 hP 0 rfl rfl 0 (by decide) (hts _ fl_RX4_12) (fun _ h => h) rfl dX4_winds_56 ?_
              refine lv_iload_n (pc := 59) hx hb dX4_winds_59 rfl (lv_at hl 1 rfl) ?_
              obtain ⟨o11, eo11, hf⟩ := lt_some hf
              refine va_putN (pc := 60) (D := D) (ci := 3) (v := .int i0) (ty := .int) (C := RX3) (T := TX3) (N := 12) hx hb hts iX3 tyX3 tyX3_ok nmX3 hown hK.1 hP hD hS 5 rfl rfl 10 (by decide) (va_Nw.use rfl (hK.2 _ nf_RX4_126)) (fun _ h => h) rfl (tyX3_ok 10 (by decide)) rfl rfl (Nat.le_of_ble_eq_true rfl) dX4_winds_60 (fun H locs hP hD hS => ?_)
              replace hP : va_P D vwCl (bX4 cI cZ a q x10.1 ++ (bX3 cI (q 0) qN o11 ++ bPA cI cS (q 3) x10.2)) H := by rw [eo11]; exact hP
              replace hD : va_D A (bX4 cI cZ a q x10.1 ++ (bX3 cI (q 0) qN o11 ++ bPA cI cS (q 3) x10.2)) := by rw [eo11]; exact hD
              refine lv_aload_n (pc := 63) hx hb dX4_winds_63 rfl (lv_at hl 0 rfl) ?_
              refine va_get (pc := 64) (D := D) (ci := 4) (v := .ref (q 0)) (C := RX4) (T := TX4) (N := 13) hx hb hts iX4 hown hK.1 hP 0 rfl rfl 0 (by decide) (hts _ fl_RX4_12) (fun _ h => h) rfl dX4_winds_64 ?_
              refine lv_iload_n (pc := 67) hx hb dX4_winds_67 rfl (lv_at hl 2 rfl) ?_
              obtain ⟨o12, eo12, hf⟩ := lt_some hf
              refine va_putN (pc := 68) (D := D) (ci := 3) (v := .int i1) (ty := .int) (C := RX3) (T := TX3) (N := 12) hx hb hts iX3 tyX3 tyX3_ok nmX3 hown hK.1 hP hD hS 5 rfl rfl 11 (by decide) (va_Nw.use rfl (hK.2 _ nf_RX4_129)) (fun _ h => h) rfl (tyX3_ok 11 (by decide)) rfl rfl (Nat.le_of_ble_eq_true rfl) dX4_winds_68 (fun H locs hP hD hS => ?_)
              replace hP : va_P D vwCl (bX4 cI cZ a q x10.1 ++ (bX3 cI (q 0) qN o12 ++ bPA cI cS (q 3) x10.2)) H := by rw [eo12]; exact hP
              replace hD : va_D A (bX4 cI cZ a q x10.1 ++ (bX3 cI (q 0) qN o12 ++ bPA cI cS (q 3) x10.2)) := by rw [eo12]; exact hD
              refine lv_iconst (v := 1) (pc := 71) hx hb dX4_winds_71 (by decide) ?_
              obtain rfl := Option.some.inj hf
              exact W.iret hx hb hr (fun t ht hW => ⟨rfl, by rw [ht]; exact hP, hD, hS.F ht⟩) hS.2.2 dX4_winds_72
            · replace hf := ip c9 hf
              refine lv_bipush (v := -2) (pc := 48) hx hb dX4_winds_48 (by decide) ?_
              obtain rfl := Option.some.inj hf
              exact W.iret hx hb hr (fun t ht hW => ⟨rfl, by rw [ht]; exact hP, hD, hS.F ht⟩) hS.2.2 dX4_winds_50
        · replace hf := im c4 hf
          refine lv_iconst (v := -1) (pc := 24) hx hb dX4_winds_24 (by decide) ?_
          obtain rfl := Option.some.inj hf
          exact W.iret hx hb hr (fun t ht hW => ⟨rfl, by rw [ht]; exact hP, hD, hS.F ht⟩) hS.2.2 dX4_winds_25
