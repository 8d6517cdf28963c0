def f_X5_winds (i0 : Int32) (i1 : Int32) (om : OS) : Option (Int32 × OS) := Option.bind (f_X5_in i0 (-99) 99) fun x1 => if x1 = 0 then some ((-1), om) else Option.bind (f_X5_in i1 (-99) 99) fun x3 => if x3 = 0 then some ((-1), om) else if (om.2.2 0 (57 : Int32).toNatClampNeg) = i0 then if (om.2.2 0 (58 : Int32).toNatClampNeg) = i1 then some ((-2), om) else Option.bind (f_X5_notes om) fun x14 => lt (sA x14 0 ((57 : Int32).toNatClampNeg) i0) fun o16 => lt (sA o16 0 ((58 : Int32).toNatClampNeg) i1) fun o18 => some (1, o18) else Option.bind (f_X5_notes om) fun x7 => lt (sA x7 0 ((57 : Int32).toNatClampNeg) i0) fun o9 => lt (sA o9 0 ((58 : Int32).toNatClampNeg) i1) fun o11 => some (1, o11)
set_option maxHeartbeats 4000000 in
set_option maxRecDepth 100000 in
theorem c_X5_winds (l : Launch) (D : va_G) (cI cZ cS : ClassId) (a : Nat) (q : Nat → Nat) (i0 : Int32) (i1 : Int32) (om : OS) (x : (Int32 × OS)) (hf : f_X5_winds i0 i1 om = some x) : Ct l yX5_winds cX5_winds 3 (some .int) 1 22 D cI cZ cS [.ref a, .int i0, .int i1] (bX5 cI cZ a q om) (some (.int x.1)) (bX5 cI cZ a q x.2) := by
  intro sz
  refine Met.ofW (cc := cX5_winds) (maxL := 3) (ret := (some .int)) (by decide +kernel) rfl ?_
  intro p e s m args below meth c s₁ B hml hv
  obtain ⟨rfl, hsz, hP, hK, hD0⟩ := hv
  have hx := B.exec
  have hb := B.bytes
  have hr := B.returns
  have hts0 := atoms_spec (ws := .code yX5_winds cX5_winds 3 (some .int) :: TB) B.pre
  have hts := fun w (h : w ∈ TB) => hts0 w (List.mem_cons_of_mem _ h)
  have hown : s.vm.findClass RX5 = some m.cls := findClass_of_methodNamed B.named
  have hlocks := B.notSynchronized
  subst hsz
  have hD := hD0.self (sz := s.heap.size)
  generalize hAe : va_A (bX5 cI cZ a q om) s.heap.size = A at hD ⊢
  have hA : ∀ q : Nat, s.heap.size ≤ q → A q := fun q h => by rw [← hAe]; exact Or.inr h
  have hS : va_S A s.heap s.heap [] := va_S.rf
  obtain ⟨H, hH⟩ : ∃ H, H = s.heap := ⟨_, rfl⟩
  rw [← hH] at hP
  have hS : va_S A s.heap H [] := by rw [hH]; exact hS
  have hl := lv_entry ([.ref a, .int i0, .int i1]) (n := 3) (Nat.le_of_ble_eq_true rfl)
  rw [lg_entry_eq]
  generalize (lg_sl ([.ref a, .int i0, .int i1]) ++ List.replicate (3 - (lg_sl ([.ref a, .int i0, .int i1])).length) Slot.unset).toArray = ls at hl ⊢
  have hl : lv_has ls 3 [(0, .ref a), (1, .int i0), (2, .int i1)] := hl
  refine W_heap hH ?_
  obtain ⟨locs, hlo⟩ : ∃ locs : List Loc, locs = [] := ⟨_, rfl⟩
  rw [← hlo] at hS ⊢
  unfold f_X5_winds at hf
  refine lv_iload_n (pc := 0) hx hb dX5_winds_0 rfl (lv_at hl 1 rfl) ?_
  refine lv_bipush (v := -99) (pc := 1) hx hb dX5_winds_1 (by decide) ?_
  refine lv_bipush (v := 99) (pc := 3) hx hb dX5_winds_3 (by decide) ?_
  obtain ⟨x1, ex1, hf⟩ := bd_some hf
  refine ct_S0 (pc := 5) (As := [.int i0, .int (-99), .int 99]) (rest := []) ⟨hx, hb, hml, hown, hts⟩ hK (c_X5_in l D cI cZ cS i0 (-99) 99 x1 ex1) gs_RX5_57 hs_X5_in rfl ⟨Nat.le_of_ble_eq_true rfl, Nat.le_of_ble_eq_true rfl⟩ hl.1 rfl (Nat.le_of_ble_eq_true rfl) dX5_winds_5 ⟨Nat.zero_le _, Nat.zero_le _⟩ hP hS hA (fun H locs hP hS => ?_)
  refine lv_if_eq (pc := 8) (tgt := 22) hx hb dX5_winds_8 (by decide) (fun c2 => ?_) (fun c2 => ?_)
  · replace hf := ip c2 hf
    refine lv_iconst (v := -1) (pc := 22) hx hb dX5_winds_22 (by decide) ?_
    obtain rfl := Option.some.inj hf
    exact W.iret hx hb hr (fun t ht hW => ⟨rfl, by rw [ht]; exact hP, hD, hS.F ht⟩) hS.2.2 dX5_winds_23
  · replace hf := im c2 hf
    refine lv_iload_n (pc := 11) hx hb dX5_winds_11 rfl (lv_at hl 2 rfl) ?_
    refine lv_bipush (v := -99) (pc := 12) hx hb dX5_winds_12 (by decide) ?_
    refine lv_bipush (v := 99) (pc := 14) hx hb dX5_winds_14 (by decide) ?_
    obtain ⟨x3, ex3, hf⟩ := bd_some hf
    refine ct_S0 (pc := 16) (As := [.int i1, .int (-99), .int 99]) (rest := []) ⟨hx, hb, hml, hown, hts⟩ hK (c_X5_in l D cI cZ cS i1 (-99) 99 x3 ex3) gs_RX5_57 hs_X5_in rfl ⟨Nat.le_of_ble_eq_true rfl, Nat.le_of_ble_eq_true rfl⟩ hl.1 rfl (Nat.le_of_ble_eq_true rfl) dX5_winds_16 ⟨Nat.zero_le _, Nat.zero_le _⟩ hP hS hA (fun H locs hP hS => ?_)
    refine lv_if_ne (pc := 19) (tgt := 24) hx hb dX5_winds_19 (by decide) (fun c4 => ?_) (fun c4 => ?_)
    · replace hf := im c4 hf
      refine lv_aload_n (pc := 24) hx hb dX5_winds_24 rfl (lv_at hl 0 rfl) ?_
      refine va_get (pc := 25) (D := D) (ci := 5) (v := .ref (q 0)) (C := RX5) (T := TX5) (N := 41) hx hb hts iX5 hown hK.1 hP 0 rfl rfl 0 (by decide) (hts _ fl_RX5_7) (fun _ h => h) rfl dX5_winds_25 ?_
      refine lv_bipush (v := 57) (pc := 28) hx hb dX5_winds_28 (by decide) ?_
      have h5 : vp_in 57 59 := by unfold vp_in; decide
      refine va_iald (pc := 30) (f := om.2.2 0) hx hb hK.1 hP 1 0 rfl rfl h5 dX5_winds_30 ?_
      refine lv_iload_n (pc := 31) hx hb dX5_winds_31 rfl (lv_at hl 1 rfl) ?_
      refine lv_icmp_ne (pc := 32) (tgt := 49) hx hb dX5_winds_32 (by decide) (fun c6 => ?_) (fun c6 => ?_)
      · replace hf := im c6 hf
        refine lv_aload_n (pc := 49) hx hb dX5_winds_49 rfl (lv_at hl 0 rfl) ?_
        obtain ⟨x7, ex7, hf⟩ := bd_some hf
        refine ct_V1 (pc := 50) (As := []) (rest := []) (W1 := bX5 cI cZ a q x7) ⟨hx, hb, hml, hown, hts⟩ hK (c_X5_notes l D cI cZ cS a q om x7 ex7) gv_RX5_130 rfl hs_X5_notes rfl ⟨Nat.le_of_ble_eq_true rfl, Nat.le_of_ble_eq_true rfl⟩ (ci := 5) (q0 := 0) rfl rfl rfl hl.1 rfl (Nat.le_of_ble_eq_true rfl) dX5_winds_50 ⟨Nat.zero_le _, Nat.zero_le _⟩ hP hD hS hA (fun H locs hP hD hS => ?_)
        refine lv_aload_n (pc := 53) hx hb dX5_winds_53 rfl (lv_at hl 0 rfl) ?_
        refine va_get (pc := 54) (D := D) (ci := 5) (v := .ref (q 0)) (C := RX5) (T := TX5) (N := 41) hx hb hts iX5 hown hK.1 hP 0 rfl rfl 0 (by decide) (hts _ fl_RX5_7) (fun _ h => h) rfl dX5_winds_54 ?_
        refine lv_bipush (v := 57) (pc := 57) hx hb dX5_winds_57 (by decide) ?_
        refine lv_iload_n (pc := 59) hx hb dX5_winds_59 rfl (lv_at hl 1 rfl) ?_
        have h8 : vp_in 57 59 := by unfold vp_in; decide
        obtain ⟨o9, eo9, hf⟩ := lt_some hf
        refine va_iast (pc := 60) (f := x7.2.2 0) hx hb hK.1 hP hD hS 1 0 rfl rfl h8 dX5_winds_60 (fun H locs hP hD hS => ?_)
        replace hP : va_P D vwCl (bX5 cI cZ a q o9) H := by rw [eo9]; exact hP
        replace hD : va_D A (bX5 cI cZ a q o9) := by rw [eo9]; exact hD
        refine lv_aload_n (pc := 61) hx hb dX5_winds_61 rfl (lv_at hl 0 rfl) ?_
        refine va_get (pc := 62) (D := D) (ci := 5) (v := .ref (q 0)) (C := RX5) (T := TX5) (N := 41) hx hb hts iX5 hown hK.1 hP 0 rfl rfl 0 (by decide) (hts _ fl_RX5_7) (fun _ h => h) rfl dX5_winds_62 ?_
        refine lv_bipush (v := 58) (pc := 65) hx hb dX5_winds_65 (by decide) ?_
        refine lv_iload_n (pc := 67) hx hb dX5_winds_67 rfl (lv_at hl 2 rfl) ?_
        have h10 : vp_in 58 59 := by unfold vp_in; decide
        obtain ⟨o11, eo11, hf⟩ := lt_some hf
        refine va_iast (pc := 68) (f := o9.2.2 0) hx hb hK.1 hP hD hS 1 0 rfl rfl h10 dX5_winds_68 (fun H locs hP hD hS => ?_)
        replace hP : va_P D vwCl (bX5 cI cZ a q o11) H := by rw [eo11]; exact hP
        replace hD : va_D A (bX5 cI cZ a q o11) := by rw [eo11]; exact hD
        refine lv_iconst (v := 1) (pc := 69) hx hb dX5_winds_69 (by decide) ?_
        obtain rfl := Option.some.inj hf
        exact W.iret hx hb hr (fun t ht hW => ⟨rfl, by rw [ht]; exact hP, hD, hS.F ht⟩) hS.2.2 dX5_winds_70
      · replace hf := ip c6 hf
        refine lv_aload_n (pc := 35) hx hb dX5_winds_35 rfl (lv_at hl 0 rfl) ?_
        refine va_get (pc := 36) (D := D) (ci := 5) (v := .ref (q 0)) (C := RX5) (T := TX5) (N := 41) hx hb hts iX5 hown hK.1 hP 0 rfl rfl 0 (by decide) (hts _ fl_RX5_7) (fun _ h => h) rfl dX5_winds_36 ?_
        refine lv_bipush (v := 58) (pc := 39) hx hb dX5_winds_39 (by decide) ?_
        have h12 : vp_in 58 59 := by unfold vp_in; decide
        refine va_iald (pc := 41) (f := om.2.2 0) hx hb hK.1 hP 1 0 rfl rfl h12 dX5_winds_41 ?_
        refine lv_iload_n (pc := 42) hx hb dX5_winds_42 rfl (lv_at hl 2 rfl) ?_
        refine lv_icmp_ne (pc := 43) (tgt := 49) hx hb dX5_winds_43 (by decide) (fun c13 => ?_) (fun c13 => ?_)
        · replace hf := im c13 hf
          refine lv_aload_n (pc := 49) hx hb dX5_winds_49 rfl (lv_at hl 0 rfl) ?_
          obtain ⟨x14, ex14, hf⟩ := bd_some hf
          refine ct_V1 (pc := 50) (As := []) (rest := []) (W1 := bX5 cI cZ a q x14) ⟨hx, hb, hml, hown, hts⟩ hK (c_X5_notes l D cI cZ cS a q om x14 ex14) gv_RX5_130 rfl hs_X5_notes rfl ⟨Nat.le_of_ble_eq_true rfl, Nat.le_of_ble_eq_true rfl⟩ (ci := 5) (q0 := 0) rfl rfl rfl hl.1 rfl (Nat.le_of_ble_eq_true rfl) dX5_winds_50 ⟨Nat.zero_le _, Nat.zero_le _⟩ hP hD hS hA (fun H locs hP hD hS => ?_)
          refine lv_aload_n (pc := 53) hx hb dX5_winds_53 rfl (lv_at hl 0 rfl) ?_
          refine va_get (pc := 54) (D := D) (ci := 5) (v := .ref (q 0)) (C := RX5) (T := TX5) (N := 41) hx hb hts iX5 hown hK.1 hP 0 rfl rfl 0 (by decide) (hts _ fl_RX5_7) (fun _ h => h) rfl dX5_winds_54 ?_
          refine lv_bipush (v := 57) (pc := 57) hx hb dX5_winds_57 (by decide) ?_
          refine lv_iload_n (pc := 59) hx hb dX5_winds_59 rfl (lv_at hl 1 rfl) ?_
          have h15 : vp_in 57 59 := by unfold vp_in; decide
          obtain ⟨o16, eo16, hf⟩ := lt_some hf
          refine va_iast (pc := 60) (f := x14.2.2 0) hx hb hK.1 hP hD hS 1 0 rfl rfl h15 dX5_winds_60 (fun H locs hP hD hS => ?_)
          replace hP : va_P D vwCl (bX5 cI cZ a q o16) H := by rw [eo16]; exact hP
          replace hD : va_D A (bX5 cI cZ a q o16) := by rw [eo16]; exact hD
          refine lv_aload_n (pc := 61) hx hb dX5_winds_61 rfl (lv_at hl 0 rfl) ?_
          refine va_get (pc := 62) (D := D) (ci := 5) (v := .ref (q 0)) (C := RX5) (T := TX5) (N := 41) hx hb hts iX5 hown hK.1 hP 0 rfl rfl 0 (by decide) (hts _ fl_RX5_7) (fun _ h => h) rfl dX5_winds_62 ?_
          refine lv_bipush (v := 58) (pc := 65) hx hb dX5_winds_65 (by decide) ?_
          refine lv_iload_n (pc := 67) hx hb dX5_winds_67 rfl (lv_at hl 2 rfl) ?_
          have h17 : vp_in 58 59 := by unfold vp_in; decide
          obtain ⟨o18, eo18, hf⟩ := lt_some hf
          refine va_iast (pc := 68) (f := o16.2.2 0) hx hb hK.1 hP hD hS 1 0 rfl rfl h17 dX5_winds_68 (fun H locs hP hD hS => ?_)
          replace hP : va_P D vwCl (bX5 cI cZ a q o18) H := by rw [eo18]; exact hP
          replace hD : va_D A (bX5 cI cZ a q o18) := by rw [eo18]; exact hD
          refine lv_iconst (v := 1) (pc := 69) hx hb dX5_winds_69 (by decide) ?_
          obtain rfl := Option.some.inj hf
          exact W.iret hx hb hr (fun t ht hW => ⟨rfl, by rw [ht]; exact hP, hD, hS.F ht⟩) hS.2.2 dX5_winds_70
        · replace hf := ip c13 hf
          refine lv_bipush (v := -2) (pc := 46) hx hb dX5_winds_46 (by decide) ?_
          obtain rfl := Option.some.inj hf
          exact W.iret hx hb hr (fun t ht hW => ⟨rfl, by rw [ht]; exact hP, hD, hS.F ht⟩) hS.2.2 dX5_winds_48
    · replace hf := ip c4 hf
      refine lv_iconst (v := -1) (pc := 22) hx hb dX5_winds_22 (by decide) ?_
      obtain rfl := Option.some.inj hf
      exact W.iret hx hb hr (fun t ht hW => ⟨rfl, by rw [ht]; exact hP, hD, hS.F ht⟩) hS.2.2 dX5_winds_23
def lp_X5_undo_22 : Nat → Int32 → OS → Option (Int32 × OS)
  | 0, _, _ => none
  | n + 1, v1, w_M => if 59 ≤ v1 then some (v1, w_M) else ck ((59 * (w_M.1 2)) + v1) 354 (ck v1 59 (lt (sA w_M 0 ((v1 : Int32).toNatClampNeg) (w_M.2.2 1 (((59 * (w_M.1 2)) + v1) : Int32).toNatClampNeg)) fun o9 => lp_X5_undo_22 n (v1 + 1) o9))
def f_X5_undo (om : OS) : Option (Int32 × OS) := if (om.1 2) = 0 then some ((-2), om) else lt (sI om 2 ((om.1 2) - 1)) fun o2 => Option.bind (lp_X5_undo_22 1000 0 o2) fun z3 => some ((z3.2.1 2), z3.2)
set_option maxHeartbeats 4000000 in
set_option maxRecDepth 100000 in
theorem c_X5_undo (l : Launch) (D : va_G) (cI cZ cS : ClassId) (a : Nat) (q : Nat → Nat) (om : OS) (x : (Int32 × OS)) (hf : f_X5_undo om = some x) : Ct l yX5_undo cX5_undo 2 (some .int) 0 0 D cI cZ cS [.ref a] (bX5 cI cZ a q om) (some (.int x.1)) (bX5 cI cZ a q x.2) := by
  intro sz
  refine Met.ofW (cc := cX5_undo) (maxL := 2) (ret := (some .int)) (by decide +kernel) rfl ?_
  intro p e s m args below meth c s₁ B hml hv
  obtain ⟨rfl, hsz, hP, hK, hD0⟩ := hv
  have hx := B.exec
  have hb := B.bytes
  have hr := B.returns
  have hts0 := atoms_spec (ws := .code yX5_undo cX5_undo 2 (some .int) :: TB) B.pre
  have hts := fun w (h : w ∈ TB) => hts0 w (List.mem_cons_of_mem _ h)
  have hown : s.vm.findClass RX5 = some m.cls := findClass_of_methodNamed B.named
  have hlocks := B.notSynchronized
  subst hsz
  have hD := hD0.self (sz := s.heap.size)
  generalize hAe : va_A (bX5 cI cZ a q om) s.heap.size = A at hD ⊢
  have hA : ∀ q : Nat, s.heap.size ≤ q → A q := fun q h => by rw [← hAe]; exact Or.inr h
  have hS : va_S A s.heap s.heap [] := va_S.rf
  obtain ⟨H, hH⟩ : ∃ H, H = s.heap := ⟨_, rfl⟩
  rw [← hH] at hP
  have hS : va_S A s.heap H [] := by rw [hH]; exact hS
  have hl := lv_entry ([.ref a]) (n := 2) (Nat.le_of_ble_eq_true rfl)
  rw [lg_entry_eq]
  generalize (lg_sl ([.ref a]) ++ List.replicate (2 - (lg_sl ([.ref a])).length) Slot.unset).toArray = ls at hl ⊢
  have hl : lv_has ls 2 [(0, .ref a)] := hl
  refine W_heap hH ?_
  obtain ⟨locs, hlo⟩ : ∃ locs : List Loc, locs = [] := ⟨_, rfl⟩
  rw [← hlo] at hS ⊢
  unfold f_X5_undo at hf
  refine lv_aload_n (pc := 0) hx hb dX5_undo_0 rfl (lv_at hl 0 rfl) ?_
  refine va_get (pc := 1) (D := D) (ci := 5) (v := .int (om.1 2)) (C := RX5) (T := TX5) (N := 41) hx hb hts iX5 hown hK.1 hP 0 rfl rfl 2 (by decide) (hts _ fl_RX5_111) (fun _ h => h) rfl dX5_undo_1 ?_
  refine lv_if_ne (pc := 4) (tgt := 10) hx hb dX5_undo_4 (by decide) (fun c1 => ?_) (fun c1 => ?_)
  · replace hf := im c1 hf
    refine lv_aload_n (pc := 10) hx hb dX5_undo_10 rfl (lv_at hl 0 rfl) ?_
    refine lv_dup (pc := 11) hx hb dX5_undo_11 rfl ?_
    refine va_get (pc := 12) (D := D) (ci := 5) (v := .int (om.1 2)) (C := RX5) (T := TX5) (N := 41) hx hb hts iX5 hown hK.1 hP 0 rfl rfl 2 (by decide) (hts _ fl_RX5_111) (fun _ h => h) rfl dX5_undo_12 ?_
    refine lv_iconst (v := 1) (pc := 15) hx hb dX5_undo_15 (by decide) ?_
    refine lv_isub (pc := 16) hx hb dX5_undo_16 ?_
    obtain ⟨o2, eo2, hf⟩ := lt_some hf
    refine va_put (pc := 17) (D := D) (ci := 5) (v := .int ((om.1 2) - 1)) (ty := .int) (C := RX5) (T := TX5) (N := 41) hx hb hts iX5 tyX5 tyX5_ok nmX5 hown hK.1 hP hD hS 0 rfl rfl 2 (by decide) (hts _ fl_RX5_111) (fun _ h => h) rfl (tyX5_ok 2 (by decide)) rfl rfl (Nat.le_of_ble_eq_true rfl) dX5_undo_17 (fun H locs hP hD hS => ?_)
    replace hP : va_P D vwCl (bX5 cI cZ a q o2) H := by rw [eo2]; exact hP
    replace hD : va_D A (bX5 cI cZ a q o2) := by rw [eo2]; exact hD
    refine lv_iconst (v := 0) (pc := 20) hx hb dX5_undo_20 (by decide) ?_
    refine lv_istore_n (lv' := [(1, .int 0), (0, .ref a)]) (pc := 21) hx hb dX5_undo_21 rfl hl (by decide) rfl (fun ls hl => ?_)
    obtain ⟨z3, hz3, hf⟩ := bd_some hf
    have hfz3 := hf
    clear hf
    have K4 : ∀ (H : Heap) (locs : List Loc) (ls : Array Slot), va_P D vwCl (bX5 cI cZ a q z3.2) H → va_D A (bX5 cI cZ a q z3.2) → va_S A s.heap H locs → lv_has ls 2 [(0, .ref a), (1, .int z3.1)] → GW l yX5_undo cX5_undo 2 (some .int) 0 0 D [.ref a] (some (.int x.1)) (bX5 cI cZ a q x.2) A p e s m below meth c H locs (F0 m 54 ls []) := by
      intro H locs ls hP hD hS hl
      have hf := hfz3
      refine lv_aload_n (pc := 54) hx hb dX5_undo_54 rfl (lv_at hl 0 rfl) ?_
      refine va_get (pc := 55) (D := D) (ci := 5) (v := .int (z3.2.1 2)) (C := RX5) (T := TX5) (N := 41) hx hb hts iX5 hown hK.1 hP 0 rfl rfl 2 (by decide) (hts _ fl_RX5_111) (fun _ h => h) rfl dX5_undo_55 ?_
      obtain rfl := Option.some.inj hf
      exact W.iret hx hb hr (fun t ht hW => ⟨rfl, by rw [ht]; exact hP, hD, hS.F ht⟩) hS.2.2 dX5_undo_58
    have KL5 : ∀ (n : Nat) (v1 : Int32) (w_M : OS) (H : Heap) (locs : List Loc) (ls : Array Slot), lp_X5_undo_22 n v1 w_M = some z3 → va_P D vwCl (bX5 cI cZ a q w_M) H → va_D A (bX5 cI cZ a q w_M) → va_S A s.heap H locs → lv_has ls 2 [(0, .ref a), (1, .int v1)] → GW l yX5_undo cX5_undo 2 (some .int) 0 0 D [.ref a] (some (.int x.1)) (bX5 cI cZ a q x.2) A p e s m below meth c H locs (F0 m 22 ls []) := by
      intro n
      induction n with
      | zero => intro v1 w_M H locs ls hf; cases hf
      | succ n ih =>
        intro v1 w_M H locs ls hf hP hD hS hl
        rw [lp_X5_undo_22] at hf
        refine lv_iload_n (pc := 22) hx hb dX5_undo_22 rfl (lv_at hl 1 rfl) ?_
        refine lv_bipush (v := 59) (pc := 23) hx hb dX5_undo_23 (by decide) ?_
        refine lv_icmp_ge (pc := 25) (tgt := 54) hx hb dX5_undo_25 (by decide) (fun c6 => ?_) (fun c6 => ?_)
        · replace hf := ip c6 hf
          obtain rfl := Option.some.inj hf
          exact K4 H locs ls hP hD hS (lv_sub hl [0, 1] rfl)
        · replace hf := im c6 hf
          refine lv_aload_n (pc := 28) hx hb dX5_undo_28 rfl (lv_at hl 0 rfl) ?_
          refine va_get (pc := 29) (D := D) (ci := 5) (v := .ref (q 0)) (C := RX5) (T := TX5) (N := 41) hx hb hts iX5 hown hK.1 hP 0 rfl rfl 0 (by decide) (hts _ fl_RX5_7) (fun _ h => h) rfl dX5_undo_29 ?_
          refine lv_iload_n (pc := 32) hx hb dX5_undo_32 rfl (lv_at hl 1 rfl) ?_
          refine lv_aload_n (pc := 33) hx hb dX5_undo_33 rfl (lv_at hl 0 rfl) ?_
          refine va_get (pc := 34) (D := D) (ci := 5) (v := .ref (q 1)) (C := RX5) (T := TX5) (N := 41) hx hb hts iX5 hown hK.1 hP 0 rfl rfl 1 (by decide) (hts _ fl_RX5_13) (fun _ h => h) rfl dX5_undo_34 ?_
          refine lv_bipush (v := 59) (pc := 37) hx hb dX5_undo_37 (by decide) ?_
          refine lv_aload_n (pc := 39) hx hb dX5_undo_39 rfl (lv_at hl 0 rfl) ?_
          refine va_get (pc := 40) (D := D) (ci := 5) (v := .int (w_M.1 2)) (C := RX5) (T := TX5) (N := 41) hx hb hts iX5 hown hK.1 hP 0 rfl rfl 2 (by decide) (hts _ fl_RX5_111) (fun _ h => h) rfl dX5_undo_40 ?_
          refine lv_imul (pc := 43) hx hb dX5_undo_43 ?_
          refine lv_iload_n (pc := 44) hx hb dX5_undo_44 rfl (lv_at hl 1 rfl) ?_
          refine lv_iadd (pc := 45) hx hb dX5_undo_45 ?_
          obtain ⟨h7, hf⟩ := ck_some hf
          refine va_iald (pc := 46) (f := w_M.2.2 1) hx hb hK.1 hP 2 0 rfl rfl h7 dX5_undo_46 ?_
          obtain ⟨h8, hf⟩ := ck_some hf
          obtain ⟨o9, eo9, hf⟩ := lt_some hf
          refine va_iast (pc := 47) (f := w_M.2.2 0) hx hb hK.1 hP hD hS 1 0 rfl rfl h8 dX5_undo_47 (fun H locs hP hD hS => ?_)
          replace hP : va_P D vwCl (bX5 cI cZ a q o9) H := by rw [eo9]; exact hP
          replace hD : va_D A (bX5 cI cZ a q o9) := by rw [eo9]; exact hD
          refine lv_iinc (v := (v1 + 1)) (lv' := [(1, .int (v1 + 1)), (0, .ref a)]) (pc := 48) hx hb dX5_undo_48 hl (k := 1) rfl rfl (by decide) rfl (fun ls hl => ?_)
          refine lv_goto (pc := 51) (tgt := 22) hx hb dX5_undo_51 (by decide) ?_
          exact ih _ _ H locs ls hf hP hD hS (lv_sub hl [1, 0] rfl)
    exact KL5 1000 _ _ H locs ls hz3 hP hD hS (lv_sub hl [1, 0] rfl)
  · replace hf := ip c1 hf
    refine lv_bipush (v := -2) (pc := 7) hx hb dX5_undo_7 (by decide) ?_
    obtain rfl := Option.some.inj hf
    exact W.iret hx hb hr (fun t ht hW => ⟨rfl, by rw [ht]; exact hP, hD, hS.F ht⟩) hS.2.2 dX5_undo_9
def lp_X5_laysPiles_17 : Nat → Int32 → OS → Option (Int32 × OS)
  | 0, _, _ => none
  | n + 1, v1, w_M => if (w_M.1 21) ≤ v1 then some (v1, w_M) else Option.bind (f_X5_ofPile v1 0 w_M) fun x8 => ck v1 9 (lt (sA w_M 17 ((v1 : Int32).toNatClampNeg) x8) fun o10 => Option.bind (f_X5_ofPile v1 1 o10) fun x11 => ck v1 9 (lt (sA o10 18 ((v1 : Int32).toNatClampNeg) x11) fun o13 => Option.bind (f_X5_ofPile v1 2 o13) fun x14 => ck v1 9 (lt (sA o13 19 ((v1 : Int32).toNatClampNeg) x14) fun o16 => Option.bind (f_X5_ofPile v1 3 o16) fun x17 => ck v1 9 (lt (sA o16 20 ((v1 : Int32).toNatClampNeg) x17) fun o19 => Option.bind (f_X5_ofPile v1 4 o19) fun x20 => Option.bind (if x20 = 0 then some (1 <<< (v1 &&& 31)) else some 0 : Option Int32) fun z21 => lt (sI o19 22 ((o19.1 22) ||| z21)) fun o23 => lp_X5_laysPiles_17 n (v1 + 1) o23))))
def f_X5_laysPiles (om : OS) : Option OS := lt (sI om 21 (om.2.2 0 (0 : Int32).toNatClampNeg)) fun o2 => lt (sI o2 22 0) fun o3 => Option.bind (lp_X5_laysPiles_17 1000 0 o3) fun z4 => some z4.2
set_option maxHeartbeats 4000000 in
set_option maxRecDepth 100000 in
theorem c_X5_laysPiles (l : Launch) (D : va_G) (cI cZ cS : ClassId) (a : Nat) (q : Nat → Nat) (om : OS) (x : OS) (hf : f_X5_laysPiles om = some x) : Ct l yX5_laysPiles cX5_laysPiles 2 none 1 22 D cI cZ cS [.ref a] (bX5 cI cZ a q om) none (bX5 cI cZ a q x) := by
  intro sz
  refine Met.ofW (cc := cX5_laysPiles) (maxL := 2) (ret := none) (by decide +kernel) rfl ?_
  intro p e s m args below meth c s₁ B hml hv
  obtain ⟨rfl, hsz, hP, hK, hD0⟩ := hv
  have hx := B.exec
  have hb := B.bytes
  have hr := B.returns
  have hts0 := atoms_spec (ws := .code yX5_laysPiles cX5_laysPiles 2 none :: TB) B.pre
  have hts := fun w (h : w ∈ TB) => hts0 w (List.mem_cons_of_mem _ h)
  have hown : s.vm.findClass RX5 = some m.cls := findClass_of_methodNamed B.named
  have hlocks := B.notSynchronized
  subst hsz
  have hD := hD0.self (sz := s.heap.size)
  generalize hAe : va_A (bX5 cI cZ a q om) s.heap.size = A at hD ⊢
  have hA : ∀ q : Nat, s.heap.size ≤ q → A q := fun q h => by rw [← hAe]; exact Or.inr h
  have hS : va_S A s.heap s.heap [] := va_S.rf
  obtain ⟨H, hH⟩ : ∃ H, H = s.heap := ⟨_, rfl⟩
  rw [← hH] at hP
  have hS : va_S A s.heap H [] := by rw [hH]; exact hS
  have hl := lv_entry ([.ref a]) (n := 2) (Nat.le_of_ble_eq_true rfl)
  rw [lg_entry_eq]
  generalize (lg_sl ([.ref a]) ++ List.replicate (2 - (lg_sl ([.ref a])).length) Slot.unset).toArray = ls at hl ⊢
  have hl : lv_has ls 2 [(0, .ref a)] := hl
  refine W_heap hH ?_
  obtain ⟨locs, hlo⟩ : ∃ locs : List Loc, locs = [] := ⟨_, rfl⟩
  rw [← hlo] at hS ⊢
  unfold f_X5_laysPiles at hf
  refine lv_aload_n (pc := 0) hx hb dX5_laysPiles_0 rfl (lv_at hl 0 rfl) ?_
  refine lv_aload_n (pc := 1) hx hb dX5_laysPiles_1 rfl (lv_at hl 0 rfl) ?_
  refine va_get (pc := 2) (D := D) (ci := 5) (v := .ref (q 0)) (C := RX5) (T := TX5) (N := 41) hx hb hts iX5 hown hK.1 hP 0 rfl rfl 0 (by decide) (hts _ fl_RX5_7) (fun _ h => h) rfl dX5_laysPiles_2 ?_
  refine lv_iconst (v := 0) (pc := 5) hx hb dX5_laysPiles_5 (by decide) ?_
  have h1 : vp_in 0 59 := by unfold vp_in; decide
  refine va_iald (pc := 6) (f := om.2.2 0) hx hb hK.1 hP 1 0 rfl rfl h1 dX5_laysPiles_6 ?_
  obtain ⟨o2, eo2, hf⟩ := lt_some hf
  refine va_put (pc := 7) (D := D) (ci := 5) (v := .int (om.2.2 0 (0 : Int32).toNatClampNeg)) (ty := .int) (C := RX5) (T := TX5) (N := 41) hx hb hts iX5 tyX5 tyX5_ok nmX5 hown hK.1 hP hD hS 0 rfl rfl 21 (by decide) (hts _ fl_RX5_150) (fun _ h => h) rfl (tyX5_ok 21 (by decide)) rfl rfl (Nat.le_of_ble_eq_true rfl) dX5_laysPiles_7 (fun H locs hP hD hS => ?_)
  replace hP : va_P D vwCl (bX5 cI cZ a q o2) H := by rw [eo2]; exact hP
  replace hD : va_D A (bX5 cI cZ a q o2) := by rw [eo2]; exact hD
  refine lv_aload_n (pc := 10) hx hb dX5_laysPiles_10 rfl (lv_at hl 0 rfl) ?_
  refine lv_iconst (v := 0) (pc := 11) hx hb dX5_laysPiles_11 (by decide) ?_
  obtain ⟨o3, eo3, hf⟩ := lt_some hf
  refine va_put (pc := 12) (D := D) (ci := 5) (v := .int 0) (ty := .int) (C := RX5) (T := TX5) (N := 41) hx hb hts iX5 tyX5 tyX5_ok nmX5 hown hK.1 hP hD hS 0 rfl rfl 22 (by decide) (hts _ fl_RX5_153) (fun _ h => h) rfl (tyX5_ok 22 (by decide)) rfl rfl (Nat.le_of_ble_eq_true rfl) dX5_laysPiles_12 (fun H locs hP hD hS => ?_)
  replace hP : va_P D vwCl (bX5 cI cZ a q o3) H := by rw [eo3]; exact hP
  replace hD : va_D A (bX5 cI cZ a q o3) := by rw [eo3]; exact hD
  refine lv_iconst (v := 0) (pc := 15) hx hb dX5_laysPiles_15 (by decide) ?_
  refine lv_istore_n (lv' := [(1, .int 0), (0, .ref a)]) (pc := 16) hx hb dX5_laysPiles_16 rfl hl (by decide) rfl (fun ls hl => ?_)
  obtain ⟨z4, hz4, hf⟩ := bd_some hf
  have hfz4 := hf
  clear hf
  have K5 : ∀ (H : Heap) (locs : List Loc) (ls : Array Slot), va_P D vwCl (bX5 cI cZ a q z4.2) H → va_D A (bX5 cI cZ a q z4.2) → va_S A s.heap H locs → lv_has ls 2 [(0, .ref a), (1, .int z4.1)] → GW l yX5_laysPiles cX5_laysPiles 2 none 1 22 D [.ref a] none (bX5 cI cZ a q x) A p e s m below meth c H locs (F0 m 104 ls []) := by
    intro H locs ls hP hD hS hl
    have hf := hfz4
    obtain rfl := Option.some.inj hf
    exact W.vret hx hb hr (fun t ht hW => ⟨rfl, by rw [ht]; exact hP, hD, hS.F ht⟩) hS.2.2 dX5_laysPiles_104
  have KL6 : ∀ (n : Nat) (v1 : Int32) (w_M : OS) (H : Heap) (locs : List Loc) (ls : Array Slot), lp_X5_laysPiles_17 n v1 w_M = some z4 → va_P D vwCl (bX5 cI cZ a q w_M) H → va_D A (bX5 cI cZ a q w_M) → va_S A s.heap H locs → lv_has ls 2 [(0, .ref a), (1, .int v1)] → GW l yX5_laysPiles cX5_laysPiles 2 none 1 22 D [.ref a] none (bX5 cI cZ a q x) A p e s m below meth c H locs (F0 m 17 ls []) := by
    intro n
    induction n with
    | zero => intro v1 w_M H locs ls hf; cases hf
    | succ n ih =>
      intro v1 w_M H locs ls hf hP hD hS hl
      rw [lp_X5_laysPiles_17] at hf
      refine lv_iload_n (pc := 17) hx hb dX5_laysPiles_17 rfl (lv_at hl 1 rfl) ?_
      refine lv_aload_n (pc := 18) hx hb dX5_laysPiles_18 rfl (lv_at hl 0 rfl) ?_
      refine va_get (pc := 19) (D := D) (ci := 5) (v := .int (w_M.1 21)) (C := RX5) (T := TX5) (N := 41) hx hb hts iX5 hown hK.1 hP 0 rfl rfl 21 (by decide) (hts _ fl_RX5_150) (fun _ h => h) rfl dX5_laysPiles_19 ?_
      refine lv_icmp_ge (pc := 22) (tgt := 104) hx hb dX5_laysPiles_22 (by decide) (fun c7 => ?_) (fun c7 => ?_)
      · replace hf := ip c7 hf
        obtain rfl := Option.some.inj hf
        exact K5 H locs ls hP hD hS (lv_sub hl [0, 1] rfl)
      · replace hf := im c7 hf
        refine lv_aload_n (pc := 25) hx hb dX5_laysPiles_25 rfl (lv_at hl 0 rfl) ?_
        refine va_get (pc := 26) (D := D) (ci := 5) (v := .ref (q 17)) (C := RX5) (T := TX5) (N := 41) hx hb hts iX5 hown hK.1 hP 0 rfl rfl 17 (by decide) (hts _ fl_RX5_36) (fun _ h => h) rfl dX5_laysPiles_26 ?_
        refine lv_iload_n (pc := 29) hx hb dX5_laysPiles_29 rfl (lv_at hl 1 rfl) ?_
        refine lv_aload_n (pc := 30) hx hb dX5_laysPiles_30 rfl (lv_at hl 0 rfl) ?_
        refine lv_iload_n (pc := 31) hx hb dX5_laysPiles_31 rfl (lv_at hl 1 rfl) ?_
        refine lv_iconst (v := 0) (pc := 32) hx hb dX5_laysPiles_32 (by decide) ?_
        obtain ⟨x8, ex8, hf⟩ := bd_some hf
        refine ct_V1 (pc := 33) (As := [.int v1, .int 0]) (rest := [.int v1, .ref (q 17)]) (W1 := bX5 cI cZ a q w_M) ⟨hx, hb, hml, hown, hts⟩ hK (c_X5_ofPile l D cI cZ cS a q v1 0 w_M x8 ex8) gv_RX5_117 rfl hs_X5_ofPile rfl ⟨Nat.le_of_ble_eq_true rfl, Nat.le_of_ble_eq_true rfl⟩ (ci := 5) (q0 := 0) rfl rfl rfl hl.1 rfl (Nat.le_of_ble_eq_true rfl) dX5_laysPiles_33 ⟨Nat.zero_le _, Nat.zero_le _⟩ hP hD hS hA (fun H locs hP hD hS => ?_)
        obtain ⟨h9, hf⟩ := ck_some hf
        obtain ⟨o10, eo10, hf⟩ := lt_some hf
        refine va_iast (pc := 36) (f := w_M.2.2 17) hx hb hK.1 hP hD hS 8 0 rfl rfl h9 dX5_laysPiles_36 (fun H locs hP hD hS => ?_)
        replace hP : va_P D vwCl (bX5 cI cZ a q o10) H := by rw [eo10]; exact hP
        replace hD : va_D A (bX5 cI cZ a q o10) := by rw [eo10]; exact hD
        refine lv_aload_n (pc := 37) hx hb dX5_laysPiles_37 rfl (lv_at hl 0 rfl) ?_
        refine va_get (pc := 38) (D := D) (ci := 5) (v := .ref (q 18)) (C := RX5) (T := TX5) (N := 41) hx hb hts iX5 hown hK.1 hP 0 rfl rfl 18 (by decide) (hts _ fl_RX5_39) (fun _ h => h) rfl dX5_laysPiles_38 ?_
        refine lv_iload_n (pc := 41) hx hb dX5_laysPiles_41 rfl (lv_at hl 1 rfl) ?_
        refine lv_aload_n (pc := 42) hx hb dX5_laysPiles_42 rfl (lv_at hl 0 rfl) ?_
        refine lv_iload_n (pc := 43) hx hb dX5_laysPiles_43 rfl (lv_at hl 1 rfl) ?_
        refine lv_iconst (v := 1) (pc := 44) hx hb dX5_laysPiles_44 (by decide) ?_
        obtain ⟨x11, ex11, hf⟩ := bd_some hf
        refine ct_V1 (pc := 45) (As := [.int v1, .int 1]) (rest := [.int v1, .ref (q 18)]) (W1 := bX5 cI cZ a q o10) ⟨hx, hb, hml, hown, hts⟩ hK (c_X5_ofPile l D cI cZ cS a q v1 1 o10 x11 ex11) gv_RX5_117 rfl hs_X5_ofPile rfl ⟨Nat.le_of_ble_eq_true rfl, Nat.le_of_ble_eq_true rfl⟩ (ci := 5) (q0 := 0) rfl rfl rfl hl.1 rfl (Nat.le_of_ble_eq_true rfl) dX5_laysPiles_45 ⟨Nat.zero_le _, Nat.zero_le _⟩ hP hD hS hA (fun H locs hP hD hS => ?_)
        obtain ⟨h12, hf⟩ := ck_some hf
        obtain ⟨o13, eo13, hf⟩ := lt_some hf
        refine va_iast (pc := 48) (f := o10.2.2 18) hx hb hK.1 hP hD hS 9 0 rfl rfl h12 dX5_laysPiles_48 (fun H locs hP hD hS => ?_)
        replace hP : va_P D vwCl (bX5 cI cZ a q o13) H := by rw [eo13]; exact hP
        replace hD : va_D A (bX5 cI cZ a q o13) := by rw [eo13]; exact hD
        refine lv_aload_n (pc := 49) hx hb dX5_laysPiles_49 rfl (lv_at hl 0 rfl) ?_
        refine va_get (pc := 50) (D := D) (ci := 5) (v := .ref (q 19)) (C := RX5) (T := TX5) (N := 41) hx hb hts iX5 hown hK.1 hP 0 rfl rfl 19 (by decide) (hts _ fl_RX5_42) (fun _ h => h) rfl dX5_laysPiles_50 ?_
        refine lv_iload_n (pc := 53) hx hb dX5_laysPiles_53 rfl (lv_at hl 1 rfl) ?_
        refine lv_aload_n (pc := 54) hx hb dX5_laysPiles_54 rfl (lv_at hl 0 rfl) ?_
        refine lv_iload_n (pc := 55) hx hb dX5_laysPiles_55 rfl (lv_at hl 1 rfl) ?_
        refine lv_iconst (v := 2) (pc := 56) hx hb dX5_laysPiles_56 (by decide) ?_
        obtain ⟨x14, ex14, hf⟩ := bd_some hf
        refine ct_V1 (pc := 57) (As := [.int v1, .int 2]) (rest := [.int v1, .ref (q 19)]) (W1 := bX5 cI cZ a q o13) ⟨hx, hb, hml, hown, hts⟩ hK (c_X5_ofPile l D cI cZ cS a q v1 2 o13 x14 ex14) gv_RX5_117 rfl hs_X5_ofPile rfl ⟨Nat.le_of_ble_eq_true rfl, Nat.le_of_ble_eq_true rfl⟩ (ci := 5) (q0 := 0) rfl rfl rfl hl.1 rfl (Nat.le_of_ble_eq_true rfl) dX5_laysPiles_57 ⟨Nat.zero_le _, Nat.zero_le _⟩ hP hD hS hA (fun H locs hP hD hS => ?_)
        obtain ⟨h15, hf⟩ := ck_some hf
        obtain ⟨o16, eo16, hf⟩ := lt_some hf
        refine va_iast (pc := 60) (f := o13.2.2 19) hx hb hK.1 hP hD hS 10 0 rfl rfl h15 dX5_laysPiles_60 (fun H locs hP hD hS => ?_)
        replace hP : va_P D vwCl (bX5 cI cZ a q o16) H := by rw [eo16]; exact hP
        replace hD : va_D A (bX5 cI cZ a q o16) := by rw [eo16]; exact hD
        refine lv_aload_n (pc := 61) hx hb dX5_laysPiles_61 rfl (lv_at hl 0 rfl) ?_
        refine va_get (pc := 62) (D := D) (ci := 5) (v := .ref (q 20)) (C := RX5) (T := TX5) (N := 41) hx hb hts iX5 hown hK.1 hP 0 rfl rfl 20 (by decide) (hts _ fl_RX5_45) (fun _ h => h) rfl dX5_laysPiles_62 ?_
        refine lv_iload_n (pc := 65) hx hb dX5_laysPiles_65 rfl (lv_at hl 1 rfl) ?_
        refine lv_aload_n (pc := 66) hx hb dX5_laysPiles_66 rfl (lv_at hl 0 rfl) ?_
        refine lv_iload_n (pc := 67) hx hb dX5_laysPiles_67 rfl (lv_at hl 1 rfl) ?_
        refine lv_iconst (v := 3) (pc := 68) hx hb dX5_laysPiles_68 (by decide) ?_
        obtain ⟨x17, ex17, hf⟩ := bd_some hf
        refine ct_V1 (pc := 69) (As := [.int v1, .int 3]) (rest := [.int v1, .ref (q 20)]) (W1 := bX5 cI cZ a q o16) ⟨hx, hb, hml, hown, hts⟩ hK (c_X5_ofPile l D cI cZ cS a q v1 3 o16 x17 ex17) gv_RX5_117 rfl hs_X5_ofPile rfl ⟨Nat.le_of_ble_eq_true rfl, Nat.le_of_ble_eq_true rfl⟩ (ci := 5) (q0 := 0) rfl rfl rfl hl.1 rfl (Nat.le_of_ble_eq_true rfl) dX5_laysPiles_69 ⟨Nat.zero_le _, Nat.zero_le _⟩ hP hD hS hA (fun H locs hP hD hS => ?_)
        obtain ⟨h18, hf⟩ := ck_some hf
        obtain ⟨o19, eo19, hf⟩ := lt_some hf
        refine va_iast (pc := 72) (f := o16.2.2 20) hx hb hK.1 hP hD hS 11 0 rfl rfl h18 dX5_laysPiles_72 (fun H locs hP hD hS => ?_)
        replace hP : va_P D vwCl (bX5 cI cZ a q o19) H := by rw [eo19]; exact hP
        replace hD : va_D A (bX5 cI cZ a q o19) := by rw [eo19]; exact hD
        refine lv_aload_n (pc := 73) hx hb dX5_laysPiles_73 rfl (lv_at hl 0 rfl) ?_
        refine lv_dup (pc := 74) hx hb dX5_laysPiles_74 rfl ?_
        refine va_get (pc := 75) (D := D) (ci := 5) (v := .int (o19.1 22)) (C := RX5) (T := TX5) (N := 41) hx hb hts iX5 hown hK.1 hP 0 rfl rfl 22 (by decide) (hts _ fl_RX5_153) (fun _ h => h) rfl dX5_laysPiles_75 ?_
        refine lv_aload_n (pc := 78) hx hb dX5_laysPiles_78 rfl (lv_at hl 0 rfl) ?_
        refine lv_iload_n (pc := 79) hx hb dX5_laysPiles_79 rfl (lv_at hl 1 rfl) ?_
        refine lv_iconst (v := 4) (pc := 80) hx hb dX5_laysPiles_80 (by decide) ?_
        obtain ⟨x20, ex20, hf⟩ := bd_some hf
        refine ct_V1 (pc := 81) (As := [.int v1, .int 4]) (rest := [.int (o19.1 22), .ref a]) (W1 := bX5 cI cZ a q o19) ⟨hx, hb, hml, hown, hts⟩ hK (c_X5_ofPile l D cI cZ cS a q v1 4 o19 x20 ex20) gv_RX5_117 rfl hs_X5_ofPile rfl ⟨Nat.le_of_ble_eq_true rfl, Nat.le_of_ble_eq_true rfl⟩ (ci := 5) (q0 := 0) rfl rfl rfl hl.1 rfl (Nat.le_of_ble_eq_true rfl) dX5_laysPiles_81 ⟨Nat.zero_le _, Nat.zero_le _⟩ hP hD hS hA (fun H locs hP hD hS => ?_)
        obtain ⟨z21, hz21, hf⟩ := bd_some hf
        have K22 : ∀ (H : Heap) (locs : List Loc) (ls : Array Slot), va_P D vwCl (bX5 cI cZ a q o19) H → va_D A (bX5 cI cZ a q o19) → va_S A s.heap H locs → lv_has ls 2 [(0, .ref a), (1, .int v1)] → GW l yX5_laysPiles cX5_laysPiles 2 none 1 22 D [.ref a] none (bX5 cI cZ a q x) A p e s m below meth c H locs (F0 m 94 ls [.int z21, .int (o19.1 22), .ref a]) := by
          intro H locs ls hP hD hS hl
          refine lv_ior (pc := 94) hx hb dX5_laysPiles_94 ?_
          obtain ⟨o23, eo23, hf⟩ := lt_some hf
          refine va_put (pc := 95) (D := D) (ci := 5) (v := .int ((o19.1 22) ||| z21)) (ty := .int) (C := RX5) (T := TX5) (N := 41) hx hb hts iX5 tyX5 tyX5_ok nmX5 hown hK.1 hP hD hS 0 rfl rfl 22 (by decide) (hts _ fl_RX5_153) (fun _ h => h) rfl (tyX5_ok 22 (by decide)) rfl rfl (Nat.le_of_ble_eq_true rfl) dX5_laysPiles_95 (fun H locs hP hD hS => ?_)
          replace hP : va_P D vwCl (bX5 cI cZ a q o23) H := by rw [eo23]; exact hP
          replace hD : va_D A (bX5 cI cZ a q o23) := by rw [eo23]; exact hD
          refine lv_iinc (v := (v1 + 1)) (lv' := [(1, .int (v1 + 1)), (0, .ref a)]) (pc := 98) hx hb dX5_laysPiles_98 hl (k := 1) rfl rfl (by decide) rfl (fun ls hl => ?_)
          refine lv_goto (pc := 101) (tgt := 17) hx hb dX5_laysPiles_101 (by decide) ?_
          exact ih _ _ H locs ls hf hP hD hS (lv_sub hl [1, 0] rfl)
        replace hf := hz21
        refine lv_if_ne (pc := 84) (tgt := 93) hx hb dX5_laysPiles_84 (by decide) (fun c24 => ?_) (fun c24 => ?_)
        · replace hf := im c24 hf
          refine lv_iconst (v := 0) (pc := 93) hx hb dX5_laysPiles_93 (by decide) ?_
          obtain rfl := Option.some.inj hf
          exact K22 H locs ls hP hD hS (lv_sub hl [0, 1] rfl)
        · replace hf := ip c24 hf
          refine lv_iconst (v := 1) (pc := 87) hx hb dX5_laysPiles_87 (by decide) ?_
          refine lv_iload_n (pc := 88) hx hb dX5_laysPiles_88 rfl (lv_at hl 1 rfl) ?_
          refine lv_ishl (pc := 89) hx hb dX5_laysPiles_89 ?_
          refine lv_goto (pc := 90) (tgt := 94) hx hb dX5_laysPiles_90 (by decide) ?_
          obtain rfl := Option.some.inj hf
          exact K22 H locs ls hP hD hS (lv_sub hl [0, 1] rfl)
  exact KL6 1000 _ _ H locs ls hz4 hP hD hS (lv_sub hl [1, 0] rfl)
def lp_X5_sumOf_42 (r1 : Int32) (u_M : OS) : Nat → Int64 → Int32 → Option (Int64 × Int32)
  | 0, _, _ => none
  | n + 1, v2, v4 => if (u_M.2.2 0 (41 : Int32).toNatClampNeg) ≤ v4 then some (v2, v4) else Option.bind (f_X5_ofColumn v4 2 u_M) fun x9 => if r1 = 0 then lp_X5_sumOf_42 r1 u_M n (v2 + (((x9 * 1) : Int32).toInt64)) (v4 + 1) else Option.bind (f_X5_ofColumn v4 (r1 - 1) u_M) fun x11 => lp_X5_sumOf_42 r1 u_M n (v2 + (((x9 * x11) : Int32).toInt64)) (v4 + 1)
def f_X5_sumOf (i0 : Int32) (om : OS) : Option Int64 := if i0 ≤ 2 then Option.bind (if i0 = 0 then some 0 else ck ((57 + i0) - 1) 59 (some (((om.2.2 0 (((57 + i0) - 1) : Int32).toNatClampNeg) : Int32).toInt64)) : Option Int64) fun z2 => Option.bind (lp_X5_sumOf_42 i0 om 1000 z2 0) fun z4 => some z4.1 else ck ((57 + i0) - 3) 59 (some (((om.2.2 0 (((57 + i0) - 3) : Int32).toNatClampNeg) : Int32).toInt64))
set_option maxHeartbeats 4000000 in
set_option maxRecDepth 100000 in
theorem c_X5_sumOf (l : Launch) (D : va_G) (cI cZ cS : ClassId) (a : Nat) (q : Nat → Nat) (i0 : Int32) (om : OS) (x : Int64) (hf : f_X5_sumOf i0 om = some x) : Ct l yX5_sumOf cX5_sumOf 5 (some .long) 1 22 D cI cZ cS [.ref a, .int i0] (bX5 cI cZ a q om) (some (.long x)) (bX5 cI cZ a q om) := by
  intro sz
  refine Met.ofW (cc := cX5_sumOf) (maxL := 5) (ret := (some .long)) (by decide +kernel) rfl ?_
  intro p e s m args below meth c s₁ B hml hv
  obtain ⟨rfl, hsz, hP, hK, hD0⟩ := hv
  have hx := B.exec
  have hb := B.bytes
  have hr := B.returns
  have hts0 := atoms_spec (ws := .code yX5_sumOf cX5_sumOf 5 (some .long) :: TB) B.pre
  have hts := fun w (h : w ∈ TB) => hts0 w (List.mem_cons_of_mem _ h)
  have hown : s.vm.findClass RX5 = some m.cls := findClass_of_methodNamed B.named
  have hlocks := B.notSynchronized
  subst hsz
  have hD := hD0.self (sz := s.heap.size)
  generalize hAe : va_A (bX5 cI cZ a q om) s.heap.size = A at hD ⊢
  have hA : ∀ q : Nat, s.heap.size ≤ q → A q := fun q h => by rw [← hAe]; exact Or.inr h
  have hS : va_S A s.heap s.heap [] := va_S.rf
  obtain ⟨H, hH⟩ : ∃ H, H = s.heap := ⟨_, rfl⟩
  rw [← hH] at hP
  have hS : va_S A s.heap H [] := by rw [hH]; exact hS
  have hl := lv_entry ([.ref a, .int i0]) (n := 5) (Nat.le_of_ble_eq_true rfl)
  rw [lg_entry_eq]
  generalize (lg_sl ([.ref a, .int i0]) ++ List.replicate (5 - (lg_sl ([.ref a, .int i0])).length) Slot.unset).toArray = ls at hl ⊢
  have hl : lv_has ls 5 [(0, .ref a), (1, .int i0)] := hl
  refine W_heap hH ?_
  obtain ⟨locs, hlo⟩ : ∃ locs : List Loc, locs = [] := ⟨_, rfl⟩
  rw [← hlo] at hS ⊢
  unfold f_X5_sumOf at hf
  refine lv_iload_n (pc := 0) hx hb dX5_sumOf_0 rfl (lv_at hl 1 rfl) ?_
  refine lv_iconst (v := 2) (pc := 1) hx hb dX5_sumOf_1 (by decide) ?_
  refine lv_icmp_le (pc := 2) (tgt := 18) hx hb dX5_sumOf_2 (by decide) (fun c1 => ?_) (fun c1 => ?_)
  · replace hf := ip c1 hf
    refine lv_iload_n (pc := 18) hx hb dX5_sumOf_18 rfl (lv_at hl 1 rfl) ?_
    obtain ⟨z2, hz2, hf⟩ := bd_some hf
    have K3 : ∀ (H : Heap) (locs : List Loc) (ls : Array Slot), va_P D vwCl (bX5 cI cZ a q om) H → va_D A (bX5 cI cZ a q om) → va_S A s.heap H locs → lv_has ls 5 [(0, .ref a), (1, .int i0)] → GW l yX5_sumOf cX5_sumOf 5 (some .long) 1 22 D [.ref a, .int i0] (some (.long x)) (bX5 cI cZ a q om) A p e s m below meth c H locs (F0 m 38 ls [.long z2]) := by
      intro H locs ls hP hD hS hl
      refine lv_lstore_n (lv' := [(2, .long z2), (0, .ref a), (1, .int i0)]) (pc := 38) hx hb dX5_sumOf_38 rfl hl (by decide) rfl (fun ls hl => ?_)
      refine lv_iconst (v := 0) (pc := 39) hx hb dX5_sumOf_39 (by decide) ?_
      refine lv_istore (lv' := [(4, .int 0), (2, .long z2), (0, .ref a), (1, .int i0)]) (pc := 40) hx hb dX5_sumOf_40 hl (by decide) rfl (fun ls hl => ?_)
      obtain ⟨z4, hz4, hf⟩ := bd_some hf
      have hfz4 := hf
      clear hf
      have K5 : ∀ (H : Heap) (locs : List Loc) (ls : Array Slot), va_P D vwCl (bX5 cI cZ a q om) H → va_D A (bX5 cI cZ a q om) → va_S A s.heap H locs → lv_has ls 5 [(0, .ref a), (1, .int i0), (2, .long z4.1), (4, .int z4.2)] → GW l yX5_sumOf cX5_sumOf 5 (some .long) 1 22 D [.ref a, .int i0] (some (.long x)) (bX5 cI cZ a q om) A p e s m below meth c H locs (F0 m 89 ls []) := by
        intro H locs ls hP hD hS hl
        have hf := hfz4
        refine lv_lload_n (pc := 89) hx hb dX5_sumOf_89 rfl (lv_at hl 2 rfl) ?_
        obtain rfl := Option.some.inj hf
        exact W.lret hx hb hr (fun t ht hW => ⟨rfl, by rw [ht]; exact hP, hD, hS.F ht⟩) hS.2.2 dX5_sumOf_90
      have KL6 : ∀ (n : Nat) (v2 : Int64) (v4 : Int32) (H : Heap) (locs : List Loc) (ls : Array Slot), lp_X5_sumOf_42 i0 om n v2 v4 = some z4 → va_P D vwCl (bX5 cI cZ a q om) H → va_D A (bX5 cI cZ a q om) → va_S A s.heap H locs → lv_has ls 5 [(0, .ref a), (1, .int i0), (2, .long v2), (4, .int v4)] → GW l yX5_sumOf cX5_sumOf 5 (some .long) 1 22 D [.ref a, .int i0] (some (.long x)) (bX5 cI cZ a q om) A p e s m below meth c H locs (F0 m 42 ls []) := by
        intro n
        induction n with
        | zero => intro v2 v4 H locs ls hf; cases hf
        | succ n ih =>
          intro v2 v4 H locs ls hf hP hD hS hl
          rw [lp_X5_sumOf_42] at hf
          refine lv_iload (pc := 42) hx hb dX5_sumOf_42 (lv_at hl 3 rfl) ?_
          refine lv_aload_n (pc := 44) hx hb dX5_sumOf_44 rfl (lv_at hl 0 rfl) ?_
          refine va_get (pc := 45) (D := D) (ci := 5) (v := .ref (q 0)) (C := RX5) (T := TX5) (N := 41) hx hb hts iX5 hown hK.1 hP 0 rfl rfl 0 (by decide) (hts _ fl_RX5_7) (fun _ h => h) rfl dX5_sumOf_45 ?_
          refine lv_bipush (v := 41) (pc := 48) hx hb dX5_sumOf_48 (by decide) ?_
          have h7 : vp_in 41 59 := by unfold vp_in; decide
          refine va_iald (pc := 50) (f := om.2.2 0) hx hb hK.1 hP 1 0 rfl rfl h7 dX5_sumOf_50 ?_
          refine lv_icmp_ge (pc := 51) (tgt := 89) hx hb dX5_sumOf_51 (by decide) (fun c8 => ?_) (fun c8 => ?_)
          · replace hf := ip c8 hf
            obtain rfl := Option.some.inj hf
            exact K5 H locs ls hP hD hS (lv_sub hl [0, 1, 2, 3] rfl)
          · replace hf := im c8 hf
            refine lv_lload_n (pc := 54) hx hb dX5_sumOf_54 rfl (lv_at hl 2 rfl) ?_
            refine lv_aload_n (pc := 55) hx hb dX5_sumOf_55 rfl (lv_at hl 0 rfl) ?_
            refine lv_iload (pc := 56) hx hb dX5_sumOf_56 (lv_at hl 3 rfl) ?_
            refine lv_iconst (v := 2) (pc := 58) hx hb dX5_sumOf_58 (by decide) ?_
            obtain ⟨x9, ex9, hf⟩ := bd_some hf
            refine ct_V1 (pc := 59) (As := [.int v4, .int 2]) (rest := [.long v2]) (W1 := bX5 cI cZ a q om) ⟨hx, hb, hml, hown, hts⟩ hK (c_X5_ofColumn l D cI cZ cS a q v4 2 om x9 ex9) gv_RX5_147 rfl hs_X5_ofColumn rfl ⟨Nat.le_of_ble_eq_true rfl, Nat.le_of_ble_eq_true rfl⟩ (ci := 5) (q0 := 0) rfl rfl rfl hl.1 rfl (Nat.le_of_ble_eq_true rfl) dX5_sumOf_59 ⟨Nat.zero_le _, Nat.zero_le _⟩ hP hD hS hA (fun H locs hP hD hS => ?_)
            refine lv_iload_n (pc := 62) hx hb dX5_sumOf_62 rfl (lv_at hl 1 rfl) ?_
            refine lv_if_ne (pc := 63) (tgt := 70) hx hb dX5_sumOf_63 (by decide) (fun c10 => ?_) (fun c10 => ?_)
            · replace hf := im c10 hf
              refine lv_aload_n (pc := 70) hx hb dX5_sumOf_70 rfl (lv_at hl 0 rfl) ?_
              refine lv_iload (pc := 71) hx hb dX5_sumOf_71 (lv_at hl 3 rfl) ?_
              refine lv_iload_n (pc := 73) hx hb dX5_sumOf_73 rfl (lv_at hl 1 rfl) ?_
              refine lv_iconst (v := 1) (pc := 74) hx hb dX5_sumOf_74 (by decide) ?_
              refine lv_isub (pc := 75) hx hb dX5_sumOf_75 ?_
              obtain ⟨x11, ex11, hf⟩ := bd_some hf
              refine ct_V1 (pc := 76) (As := [.int v4, .int (i0 - 1)]) (rest := [.int x9, .long v2]) (W1 := bX5 cI cZ a q om) ⟨hx, hb, hml, hown, hts⟩ hK (c_X5_ofColumn l D cI cZ cS a q v4 (i0 - 1) om x11 ex11) gv_RX5_147 rfl hs_X5_ofColumn rfl ⟨Nat.le_of_ble_eq_true rfl, Nat.le_of_ble_eq_true rfl⟩ (ci := 5) (q0 := 0) rfl rfl rfl hl.1 rfl (Nat.le_of_ble_eq_true rfl) dX5_sumOf_76 ⟨Nat.zero_le _, Nat.zero_le _⟩ hP hD hS hA (fun H locs hP hD hS => ?_)
              refine lv_imul (pc := 79) hx hb dX5_sumOf_79 ?_
              refine lv_i2l (pc := 80) hx hb dX5_sumOf_80 rfl ?_
              refine lv_ladd (pc := 81) hx hb dX5_sumOf_81 ?_
              refine lv_lstore_n (lv' := [(2, .long (v2 + (((x9 * x11) : Int32).toInt64))), (0, .ref a), (1, .int i0), (4, .int v4)]) (pc := 82) hx hb dX5_sumOf_82 rfl hl (by decide) rfl (fun ls hl => ?_)
              refine lv_iinc (v := (v4 + 1)) (lv' := [(4, .int (v4 + 1)), (2, .long (v2 + (((x9 * x11) : Int32).toInt64))), (0, .ref a), (1, .int i0)]) (pc := 83) hx hb dX5_sumOf_83 hl (k := 3) rfl rfl (by decide) rfl (fun ls hl => ?_)
              refine lv_goto (pc := 86) (tgt := 42) hx hb dX5_sumOf_86 (by decide) ?_
              exact ih _ _ H locs ls hf hP hD hS (lv_sub hl [2, 3, 1, 0] rfl)
            · replace hf := ip c10 hf
              refine lv_iconst (v := 1) (pc := 66) hx hb dX5_sumOf_66 (by decide) ?_
              refine lv_goto (pc := 67) (tgt := 79) hx hb dX5_sumOf_67 (by decide) ?_
              refine lv_imul (pc := 79) hx hb dX5_sumOf_79 ?_
              refine lv_i2l (pc := 80) hx hb dX5_sumOf_80 rfl ?_
              refine lv_ladd (pc := 81) hx hb dX5_sumOf_81 ?_
              refine lv_lstore_n (lv' := [(2, .long (v2 + (((x9 * 1) : Int32).toInt64))), (0, .ref a), (1, .int i0), (4, .int v4)]) (pc := 82) hx hb dX5_sumOf_82 rfl hl (by decide) rfl (fun ls hl => ?_)
              refine lv_iinc (v := (v4 + 1)) (lv' := [(4, .int (v4 + 1)), (2, .long (v2 + (((x9 * 1) : Int32).toInt64))), (0, .ref a), (1, .int i0)]) (pc := 83) hx hb dX5_sumOf_83 hl (k := 3) rfl rfl (by decide) rfl (fun ls hl => ?_)
              refine lv_goto (pc := 86) (tgt := 42) hx hb dX5_sumOf_86 (by decide) ?_
              exact ih _ _ H locs ls hf hP hD hS (lv_sub hl [2, 3, 1, 0] rfl)
      exact KL6 1000 _ _ H locs ls hz4 hP hD hS (lv_sub hl [2, 3, 1, 0] rfl)
    replace hf := hz2
    refine lv_if_ne (pc := 19) (tgt := 26) hx hb dX5_sumOf_19 (by decide) (fun c12 => ?_) (fun c12 => ?_)
    · replace hf := im c12 hf
      refine lv_aload_n (pc := 26) hx hb dX5_sumOf_26 rfl (lv_at hl 0 rfl) ?_
      refine va_get (pc := 27) (D := D) (ci := 5) (v := .ref (q 0)) (C := RX5) (T := TX5) (N := 41) hx hb hts iX5 hown hK.1 hP 0 rfl rfl 0 (by decide) (hts _ fl_RX5_7) (fun _ h => h) rfl dX5_sumOf_27 ?_
      refine lv_bipush (v := 57) (pc := 30) hx hb dX5_sumOf_30 (by decide) ?_
      refine lv_iload_n (pc := 32) hx hb dX5_sumOf_32 rfl (lv_at hl 1 rfl) ?_
      refine lv_iadd (pc := 33) hx hb dX5_sumOf_33 ?_
      refine lv_iconst (v := 1) (pc := 34) hx hb dX5_sumOf_34 (by decide) ?_
      refine lv_isub (pc := 35) hx hb dX5_sumOf_35 ?_
      obtain ⟨h13, hf⟩ := ck_some hf
      refine va_iald (pc := 36) (f := om.2.2 0) hx hb hK.1 hP 1 0 rfl rfl h13 dX5_sumOf_36 ?_
      refine lv_i2l (pc := 37) hx hb dX5_sumOf_37 rfl ?_
      obtain rfl := Option.some.inj hf
      exact K3 H locs ls hP hD hS (lv_sub hl [0, 1] rfl)
    · replace hf := ip c12 hf
      refine lv_lconst (v := 0) (pc := 22) hx hb dX5_sumOf_22 (by decide) ?_
      refine lv_goto (pc := 23) (tgt := 38) hx hb dX5_sumOf_23 (by decide) ?_
      obtain rfl := Option.some.inj hf
      exact K3 H locs ls hP hD hS (lv_sub hl [0, 1] rfl)
  · replace hf := im c1 hf
    refine lv_aload_n (pc := 5) hx hb dX5_sumOf_5 rfl (lv_at hl 0 rfl) ?_
    refine va_get (pc := 6) (D := D) (ci := 5) (v := .ref (q 0)) (C := RX5) (T := TX5) (N := 41) hx hb hts iX5 hown hK.1 hP 0 rfl rfl 0 (by decide) (hts _ fl_RX5_7) (fun _ h => h) rfl dX5_sumOf_6 ?_
    refine lv_bipush (v := 57) (pc := 9) hx hb dX5_sumOf_9 (by decide) ?_
    refine lv_iload_n (pc := 11) hx hb dX5_sumOf_11 rfl (lv_at hl 1 rfl) ?_
    refine lv_iadd (pc := 12) hx hb dX5_sumOf_12 ?_
    refine lv_iconst (v := 3) (pc := 13) hx hb dX5_sumOf_13 (by decide) ?_
    refine lv_isub (pc := 14) hx hb dX5_sumOf_14 ?_
    obtain ⟨h14, hf⟩ := ck_some hf
    refine va_iald (pc := 15) (f := om.2.2 0) hx hb hK.1 hP 1 0 rfl rfl h14 dX5_sumOf_15 ?_
    refine lv_i2l (pc := 16) hx hb dX5_sumOf_16 rfl ?_
    obtain rfl := Option.some.inj hf
    exact W.lret hx hb hr (fun t ht hW => ⟨rfl, by rw [ht]; exact hP, hD, hS.F ht⟩) hS.2.2 dX5_sumOf_17
def f_X5_laysSums (om : OS) : Option OS := Option.bind (f_X5_sumOf 0 om) fun x1 => lt (sL om 23 x1) fun o2 => Option.bind (f_X5_sumOf 1 o2) fun x3 => lt (sL o2 24 x3) fun o4 => Option.bind (f_X5_sumOf 2 o4) fun x5 => lt (sL o4 25 x5) fun o6 => some o6
set_option maxHeartbeats 4000000 in
set_option maxRecDepth 100000 in
theorem c_X5_laysSums (l : Launch) (D : va_G) (cI cZ cS : ClassId) (a : Nat) (q : Nat → Nat) (om : OS) (x : OS) (hf : f_X5_laysSums om = some x) : Ct l yX5_laysSums cX5_laysSums 1 none 2 46 D cI cZ cS [.ref a] (bX5 cI cZ a q om) none (bX5 cI cZ a q x) := by
  intro sz
  refine Met.ofW (cc := cX5_laysSums) (maxL := 1) (ret := none) (by decide +kernel) rfl ?_
  intro p e s m args below meth c s₁ B hml hv
  obtain ⟨rfl, hsz, hP, hK, hD0⟩ := hv
  have hx := B.exec
  have hb := B.bytes
  have hr := B.returns
  have hts0 := atoms_spec (ws := .code yX5_laysSums cX5_laysSums 1 none :: TB) B.pre
  have hts := fun w (h : w ∈ TB) => hts0 w (List.mem_cons_of_mem _ h)
  have hown : s.vm.findClass RX5 = some m.cls := findClass_of_methodNamed B.named
  have hlocks := B.notSynchronized
  subst hsz
  have hD := hD0.self (sz := s.heap.size)
  generalize hAe : va_A (bX5 cI cZ a q om) s.heap.size = A at hD ⊢
  have hA : ∀ q : Nat, s.heap.size ≤ q → A q := fun q h => by rw [← hAe]; exact Or.inr h
  have hS : va_S A s.heap s.heap [] := va_S.rf
  obtain ⟨H, hH⟩ : ∃ H, H = s.heap := ⟨_, rfl⟩
  rw [← hH] at hP
  have hS : va_S A s.heap H [] := by rw [hH]; exact hS
  have hl := lv_entry ([.ref a]) (n := 1) (Nat.le_of_ble_eq_true rfl)
  rw [lg_entry_eq]
  generalize (lg_sl ([.ref a]) ++ List.replicate (1 - (lg_sl ([.ref a])).length) Slot.unset).toArray = ls at hl ⊢
  have hl : lv_has ls 1 [(0, .ref a)] := hl
  refine W_heap hH ?_
  obtain ⟨locs, hlo⟩ : ∃ locs : List Loc, locs = [] := ⟨_, rfl⟩
  rw [← hlo] at hS ⊢
  unfold f_X5_laysSums at hf
  refine lv_aload_n (pc := 0) hx hb dX5_laysSums_0 rfl (lv_at hl 0 rfl) ?_
  refine lv_aload_n (pc := 1) hx hb dX5_laysSums_1 rfl (lv_at hl 0 rfl) ?_
  refine lv_iconst (v := 0) (pc := 2) hx hb dX5_laysSums_2 (by decide) ?_
  obtain ⟨x1, ex1, hf⟩ := bd_some hf
  refine ct_V1 (pc := 3) (As := [.int 0]) (rest := [.ref a]) (W1 := bX5 cI cZ a q om) ⟨hx, hb, hml, hown, hts⟩ hK (c_X5_sumOf l D cI cZ cS a q 0 om x1 ex1) gv_RX5_156 rfl hs_X5_sumOf rfl ⟨Nat.le_of_ble_eq_true rfl, Nat.le_of_ble_eq_true rfl⟩ (ci := 5) (q0 := 0) rfl rfl rfl hl.1 rfl (Nat.le_of_ble_eq_true rfl) dX5_laysSums_3 ⟨Nat.zero_le _, Nat.zero_le _⟩ hP hD hS hA (fun H locs hP hD hS => ?_)
  obtain ⟨o2, eo2, hf⟩ := lt_some hf
  refine va_put (pc := 6) (D := D) (ci := 5) (v := .long x1) (ty := .long) (C := RX5) (T := TX5) (N := 41) hx hb hts iX5 tyX5 tyX5_ok nmX5 hown hK.1 hP hD hS 0 rfl rfl 23 (by decide) (hts _ fl_RX5_160) (fun _ h => h) rfl (tyX5_ok 23 (by decide)) rfl rfl (Nat.le_of_ble_eq_true rfl) dX5_laysSums_6 (fun H locs hP hD hS => ?_)
  replace hP : va_P D vwCl (bX5 cI cZ a q o2) H := by rw [eo2]; exact hP
  replace hD : va_D A (bX5 cI cZ a q o2) := by rw [eo2]; exact hD
  refine lv_aload_n (pc := 9) hx hb dX5_laysSums_9 rfl (lv_at hl 0 rfl) ?_
  refine lv_aload_n (pc := 10) hx hb dX5_laysSums_10 rfl (lv_at hl 0 rfl) ?_
  refine lv_iconst (v := 1) (pc := 11) hx hb dX5_laysSums_11 (by decide) ?_
  obtain ⟨x3, ex3, hf⟩ := bd_some hf
  refine ct_V1 (pc := 12) (As := [.int 1]) (rest := [.ref a]) (W1 := bX5 cI cZ a q o2) ⟨hx, hb, hml, hown, hts⟩ hK (c_X5_sumOf l D cI cZ cS a q 1 o2 x3 ex3) gv_RX5_156 rfl hs_X5_sumOf rfl ⟨Nat.le_of_ble_eq_true rfl, Nat.le_of_ble_eq_true rfl⟩ (ci := 5) (q0 := 0) rfl rfl rfl hl.1 rfl (Nat.le_of_ble_eq_true rfl) dX5_laysSums_12 ⟨Nat.zero_le _, Nat.zero_le _⟩ hP hD hS hA (fun H locs hP hD hS => ?_)
  obtain ⟨o4, eo4, hf⟩ := lt_some hf
  refine va_put (pc := 15) (D := D) (ci := 5) (v := .long x3) (ty := .long) (C := RX5) (T := TX5) (N := 41) hx hb hts iX5 tyX5 tyX5_ok nmX5 hown hK.1 hP hD hS 0 rfl rfl 24 (by decide) (hts _ fl_RX5_164) (fun _ h => h) rfl (tyX5_ok 24 (by decide)) rfl rfl (Nat.le_of_ble_eq_true rfl) dX5_laysSums_15 (fun H locs hP hD hS => ?_)
  replace hP : va_P D vwCl (bX5 cI cZ a q o4) H := by rw [eo4]; exact hP
  replace hD : va_D A (bX5 cI cZ a q o4) := by rw [eo4]; exact hD
  refine lv_aload_n (pc := 18) hx hb dX5_laysSums_18 rfl (lv_at hl 0 rfl) ?_
  refine lv_aload_n (pc := 19) hx hb dX5_laysSums_19 rfl (lv_at hl 0 rfl) ?_
  refine lv_iconst (v := 2) (pc := 20) hx hb dX5_laysSums_20 (by decide) ?_
  obtain ⟨x5, ex5, hf⟩ := bd_some hf
  refine ct_V1 (pc := 21) (As := [.int 2]) (rest := [.ref a]) (W1 := bX5 cI cZ a q o4) ⟨hx, hb, hml, hown, hts⟩ hK (c_X5_sumOf l D cI cZ cS a q 2 o4 x5 ex5) gv_RX5_156 rfl hs_X5_sumOf rfl ⟨Nat.le_of_ble_eq_true rfl, Nat.le_of_ble_eq_true rfl⟩ (ci := 5) (q0 := 0) rfl rfl rfl hl.1 rfl (Nat.le_of_ble_eq_true rfl) dX5_laysSums_21 ⟨Nat.zero_le _, Nat.zero_le _⟩ hP hD hS hA (fun H locs hP hD hS => ?_)
  obtain ⟨o6, eo6, hf⟩ := lt_some hf
  refine va_put (pc := 24) (D := D) (ci := 5) (v := .long x5) (ty := .long) (C := RX5) (T := TX5) (N := 41) hx hb hts iX5 tyX5 tyX5_ok nmX5 hown hK.1 hP hD hS 0 rfl rfl 25 (by decide) (hts _ fl_RX5_167) (fun _ h => h) rfl (tyX5_ok 25 (by decide)) rfl rfl (Nat.le_of_ble_eq_true rfl) dX5_laysSums_24 (fun H locs hP hD hS => ?_)
  replace hP : va_P D vwCl (bX5 cI cZ a q o6) H := by rw [eo6]; exact hP
  replace hD : va_D A (bX5 cI cZ a q o6) := by rw [eo6]; exact hD
  obtain rfl := Option.some.inj hf
  exact W.vret hx hb hr (fun t ht hW => ⟨rfl, by rw [ht]; exact hP, hD, hS.F ht⟩) hS.2.2 dX5_laysSums_27
def f_X5_laysLoad (i0 : Int32) (i1 : Int32) (i2 : Int32) (om : OS) : Option OS := lt (sL om 23 i0.toInt64) fun o1 => lt (sL o1 24 (((i0 * i1) : Int32).toInt64)) fun o2 => lt (sL o2 25 (((i0 * i2) : Int32).toInt64)) fun o3 => some o3
set_option maxHeartbeats 4000000 in
set_option maxRecDepth 100000 in
theorem c_X5_laysLoad (l : Launch) (D : va_G) (cI cZ cS : ClassId) (a : Nat) (q : Nat → Nat) (i0 : Int32) (i1 : Int32) (i2 : Int32) (om : OS) (x : OS) (hf : f_X5_laysLoad i0 i1 i2 om = some x) : Ct l yX5_laysLoad cX5_laysLoad 4 none 0 0 D cI cZ cS [.ref a, .int i0, .int i1, .int i2] (bX5 cI cZ a q om) none (bX5 cI cZ a q x) := by
  intro sz
  refine Met.ofW (cc := cX5_laysLoad) (maxL := 4) (ret := none) (by decide +kernel) rfl ?_
  intro p e s m args below meth c s₁ B hml hv
  obtain ⟨rfl, hsz, hP, hK, hD0⟩ := hv
  have hx := B.exec
  have hb := B.bytes
  have hr := B.returns
  have hts0 := atoms_spec (ws := .code yX5_laysLoad cX5_laysLoad 4 none :: TB) B.pre
  have hts := fun w (h : w ∈ TB) => hts0 w (List.mem_cons_of_mem _ h)
  have hown : s.vm.findClass RX5 = some m.cls := findClass_of_methodNamed B.named
  have hlocks := B.notSynchronized
  subst hsz
  have hD := hD0.self (sz := s.heap.size)
  generalize hAe : va_A (bX5 cI cZ a q om) s.heap.size = A at hD ⊢
  have hA : ∀ q : Nat, s.heap.size ≤ q → A q := fun q h => by rw [← hAe]; exact Or.inr h
  have hS : va_S A s.heap s.heap [] := va_S.rf
  obtain ⟨H, hH⟩ : ∃ H, H = s.heap := ⟨_, rfl⟩
  rw [← hH] at hP
  have hS : va_S A s.heap H [] := by rw [hH]; exact hS
  have hl := lv_entry ([.ref a, .int i0, .int i1, .int i2]) (n := 4) (Nat.le_of_ble_eq_true rfl)
  rw [lg_entry_eq]
  generalize (lg_sl ([.ref a, .int i0, .int i1, .int i2]) ++ List.replicate (4 - (lg_sl ([.ref a, .int i0, .int i1, .int i2])).length) Slot.unset).toArray = ls at hl ⊢
  have hl : lv_has ls 4 [(0, .ref a), (1, .int i0), (2, .int i1), (3, .int i2)] := hl
  refine W_heap hH ?_
  obtain ⟨locs, hlo⟩ : ∃ locs : List Loc, locs = [] := ⟨_, rfl⟩
  rw [← hlo] at hS ⊢
  unfold f_X5_laysLoad at hf
  refine lv_aload_n (pc := 0) hx hb dX5_laysLoad_0 rfl (lv_at hl 0 rfl) ?_
  refine lv_iload_n (pc := 1) hx hb dX5_laysLoad_1 rfl (lv_at hl 1 rfl) ?_
  refine lv_i2l (pc := 2) hx hb dX5_laysLoad_2 rfl ?_
  obtain ⟨o1, eo1, hf⟩ := lt_some hf
  refine va_put (pc := 3) (D := D) (ci := 5) (v := .long i0.toInt64) (ty := .long) (C := RX5) (T := TX5) (N := 41) hx hb hts iX5 tyX5 tyX5_ok nmX5 hown hK.1 hP hD hS 0 rfl rfl 23 (by decide) (hts _ fl_RX5_160) (fun _ h => h) rfl (tyX5_ok 23 (by decide)) rfl rfl (Nat.le_of_ble_eq_true rfl) dX5_laysLoad_3 (fun H locs hP hD hS => ?_)
  replace hP : va_P D vwCl (bX5 cI cZ a q o1) H := by rw [eo1]; exact hP
  replace hD : va_D A (bX5 cI cZ a q o1) := by rw [eo1]; exact hD
  refine lv_aload_n (pc := 6) hx hb dX5_laysLoad_6 rfl (lv_at hl 0 rfl) ?_
  refine lv_iload_n (pc := 7) hx hb dX5_laysLoad_7 rfl (lv_at hl 1 rfl) ?_
  refine lv_iload_n (pc := 8) hx hb dX5_laysLoad_8 rfl (lv_at hl 2 rfl) ?_
  refine lv_imul (pc := 9) hx hb dX5_laysLoad_9 ?_
  refine lv_i2l (pc := 10) hx hb dX5_laysLoad_10 rfl ?_
  obtain ⟨o2, eo2, hf⟩ := lt_some hf
  refine va_put (pc := 11) (D := D) (ci := 5) (v := .long (((i0 * i1) : Int32).toInt64)) (ty := .long) (C := RX5) (T := TX5) (N := 41) hx hb hts iX5 tyX5 tyX5_ok nmX5 hown hK.1 hP hD hS 0 rfl rfl 24 (by decide) (hts _ fl_RX5_164) (fun _ h => h) rfl (tyX5_ok 24 (by decide)) rfl rfl (Nat.le_of_ble_eq_true rfl) dX5_laysLoad_11 (fun H locs hP hD hS => ?_)
  replace hP : va_P D vwCl (bX5 cI cZ a q o2) H := by rw [eo2]; exact hP
  replace hD : va_D A (bX5 cI cZ a q o2) := by rw [eo2]; exact hD
  refine lv_aload_n (pc := 14) hx hb dX5_laysLoad_14 rfl (lv_at hl 0 rfl) ?_
  refine lv_iload_n (pc := 15) hx hb dX5_laysLoad_15 rfl (lv_at hl 1 rfl) ?_
  refine lv_iload_n (pc := 16) hx hb dX5_laysLoad_16 rfl (lv_at hl 3 rfl) ?_
  refine lv_imul (pc := 17) hx hb dX5_laysLoad_17 ?_
  refine lv_i2l (pc := 18) hx hb dX5_laysLoad_18 rfl ?_
  obtain ⟨o3, eo3, hf⟩ := lt_some hf
  refine va_put (pc := 19) (D := D) (ci := 5) (v := .long (((i0 * i2) : Int32).toInt64)) (ty := .long) (C := RX5) (T := TX5) (N := 41) hx hb hts iX5 tyX5 tyX5_ok nmX5 hown hK.1 hP hD hS 0 rfl rfl 25 (by decide) (hts _ fl_RX5_167) (fun _ h => h) rfl (tyX5_ok 25 (by decide)) rfl rfl (Nat.le_of_ble_eq_true rfl) dX5_laysLoad_19 (fun H locs hP hD hS => ?_)
  replace hP : va_P D vwCl (bX5 cI cZ a q o3) H := by rw [eo3]; exact hP
  replace hD : va_D A (bX5 cI cZ a q o3) := by rw [eo3]; exact hD
  obtain rfl := Option.some.inj hf
  exact W.vret hx hb hr (fun t ht hW => ⟨rfl, by rw [ht]; exact hP, hD, hS.F ht⟩) hS.2.2 dX5_laysLoad_22
def f_X5_det (i0 : Int64) (i1 : Int64) (i2 : Int64) (i3 : Int64) (i4 : Int64) (i5 : Int64) (i6 : Int64) (i7 : Int64) (i8 : Int64) : Option Int64 := some (((i0 * ((i4 * i8) - (i5 * i7))) - (i1 * ((i3 * i8) - (i5 * i6)))) + (i2 * ((i3 * i7) - (i4 * i6))))
set_option maxHeartbeats 4000000 in
set_option maxRecDepth 100000 in
theorem c_X5_det (l : Launch) (D : va_G) (cI cZ cS : ClassId) (i0 : Int64) (i1 : Int64) (i2 : Int64) (i3 : Int64) (i4 : Int64) (i5 : Int64) (i6 : Int64) (i7 : Int64) (i8 : Int64) (x : Int64) (hf : f_X5_det i0 i1 i2 i3 i4 i5 i6 i7 i8 = some x) : Ct l yX5_det cX5_det 18 (some .long) 0 0 D cI cZ cS [.long i0, .long i1, .long i2, .long i3, .long i4, .long i5, .long i6, .long i7, .long i8] ([]) (some (.long x)) ([]) := by
  intro sz
  refine Met.ofW (cc := cX5_det) (maxL := 18) (ret := (some .long)) (by decide +kernel) rfl ?_
  intro p e s m args below meth c s₁ B hml hv
  obtain ⟨rfl, hsz, hP, hK, hD0⟩ := hv
  have hx := B.exec
  have hb := B.bytes
  have hr := B.returns
  have hts0 := atoms_spec (ws := .code yX5_det cX5_det 18 (some .long) :: TB) B.pre
  have hts := fun w (h : w ∈ TB) => hts0 w (List.mem_cons_of_mem _ h)
  have hown : s.vm.findClass RX5 = some m.cls := findClass_of_methodNamed B.named
  have hlocks := B.notSynchronized
  subst hsz
  have hD := hD0.self (sz := s.heap.size)
  generalize hAe : va_A ([]) s.heap.size = A at hD ⊢
  have hA : ∀ q : Nat, s.heap.size ≤ q → A q := fun q h => by rw [← hAe]; exact Or.inr h
  have hS : va_S A s.heap s.heap [] := va_S.rf
  obtain ⟨H, hH⟩ : ∃ H, H = s.heap := ⟨_, rfl⟩
  rw [← hH] at hP
  have hS : va_S A s.heap H [] := by rw [hH]; exact hS
  have hl := lv_entry ([.long i0, .long i1, .long i2, .long i3, .long i4, .long i5, .long i6, .long i7, .long i8]) (n := 18) (Nat.le_of_ble_eq_true rfl)
  rw [lg_entry_eq]
  generalize (lg_sl ([.long i0, .long i1, .long i2, .long i3, .long i4, .long i5, .long i6, .long i7, .long i8]) ++ List.replicate (18 - (lg_sl ([.long i0, .long i1, .long i2, .long i3, .long i4, .long i5, .long i6, .long i7, .long i8])).length) Slot.unset).toArray = ls at hl ⊢
  have hl : lv_has ls 18 [(0, .long i0), (2, .long i1), (4, .long i2), (6, .long i3), (8, .long i4), (10, .long i5), (12, .long i6), (14, .long i7), (16, .long i8)] := hl
  refine W_heap hH ?_
  obtain ⟨locs, hlo⟩ : ∃ locs : List Loc, locs = [] := ⟨_, rfl⟩
  rw [← hlo] at hS ⊢
  unfold f_X5_det at hf
  refine lv_lload_n (pc := 0) hx hb dX5_det_0 rfl (lv_at hl 0 rfl) ?_
  refine lv_lload (pc := 1) hx hb dX5_det_1 (lv_at hl 4 rfl) ?_
  refine lv_lload (pc := 3) hx hb dX5_det_3 (lv_at hl 8 rfl) ?_
  refine lv_lmul (pc := 5) hx hb dX5_det_5 ?_
  refine lv_lload (pc := 6) hx hb dX5_det_6 (lv_at hl 5 rfl) ?_
  refine lv_lload (pc := 8) hx hb dX5_det_8 (lv_at hl 7 rfl) ?_
  refine lv_lmul (pc := 10) hx hb dX5_det_10 ?_
  refine lv_lsub (pc := 11) hx hb dX5_det_11 ?_
  refine lv_lmul (pc := 12) hx hb dX5_det_12 ?_
  refine lv_lload_n (pc := 13) hx hb dX5_det_13 rfl (lv_at hl 1 rfl) ?_
  refine lv_lload (pc := 14) hx hb dX5_det_14 (lv_at hl 3 rfl) ?_
  refine lv_lload (pc := 16) hx hb dX5_det_16 (lv_at hl 8 rfl) ?_
  refine lv_lmul (pc := 18) hx hb dX5_det_18 ?_
  refine lv_lload (pc := 19) hx hb dX5_det_19 (lv_at hl 5 rfl) ?_
  refine lv_lload (pc := 21) hx hb dX5_det_21 (lv_at hl 6 rfl) ?_
  refine lv_lmul (pc := 23) hx hb dX5_det_23 ?_
  refine lv_lsub (pc := 24) hx hb dX5_det_24 ?_
  refine lv_lmul (pc := 25) hx hb dX5_det_25 ?_
  refine lv_lsub (pc := 26) hx hb dX5_det_26 ?_
  refine lv_lload (pc := 27) hx hb dX5_det_27 (lv_at hl 2 rfl) ?_
  refine lv_lload (pc := 29) hx hb dX5_det_29 (lv_at hl 3 rfl) ?_
  refine lv_lload (pc := 31) hx hb dX5_det_31 (lv_at hl 7 rfl) ?_
  refine lv_lmul (pc := 33) hx hb dX5_det_33 ?_
  refine lv_lload (pc := 34) hx hb dX5_det_34 (lv_at hl 4 rfl) ?_
  refine lv_lload (pc := 36) hx hb dX5_det_36 (lv_at hl 6 rfl) ?_
  refine lv_lmul (pc := 38) hx hb dX5_det_38 ?_
  refine lv_lsub (pc := 39) hx hb dX5_det_39 ?_
  refine lv_lmul (pc := 40) hx hb dX5_det_40 ?_
  refine lv_ladd (pc := 41) hx hb dX5_det_41 ?_
  obtain rfl := Option.some.inj hf
  exact W.lret hx hb hr (fun t ht hW => ⟨rfl, by rw [ht]; exact hP, hD, hS.F ht⟩) hS.2.2 dX5_det_42
def lp_X5_isSteady_20 (r1 : Int32) (u_M : OS) : Nat → Int64 → Int64 → Int64 → Int64 → Int64 → Int64 → Int32 → Option (Int64 × Int64 × Int64 × Int64 × Int64 × Int64 × Int32)
  | 0, _, _, _, _, _, _, _ => none
  | n + 1, v2, v4, v6, v8, v10, v12, v14 => if (u_M.1 21) ≤ v14 then some (v2, v4, v6, v8, v10, v12, v14) else if ((r1 >>> (v14 &&& 31)) &&& 1) = 1 then ck v14 9 (lt (v2 + (((u_M.2.2 19 (v14 : Int32).toNatClampNeg) : Int32).toInt64)) fun y23 => ck v14 9 (ck v14 9 (lt (v4 + ((((u_M.2.2 19 (v14 : Int32).toNatClampNeg) * (u_M.2.2 17 (v14 : Int32).toNatClampNeg)) : Int32).toInt64)) fun y26 => ck v14 9 (ck v14 9 (lt (v6 + ((((u_M.2.2 19 (v14 : Int32).toNatClampNeg) * (u_M.2.2 18 (v14 : Int32).toNatClampNeg)) : Int32).toInt64)) fun y29 => ck v14 9 (ck v14 9 (ck v14 9 (lt (v8 + (((((u_M.2.2 19 (v14 : Int32).toNatClampNeg) * (u_M.2.2 17 (v14 : Int32).toNatClampNeg)) * (u_M.2.2 17 (v14 : Int32).toNatClampNeg)) : Int32).toInt64)) fun y33 => ck v14 9 (ck v14 9 (ck v14 9 (lt (v10 + (((((u_M.2.2 19 (v14 : Int32).toNatClampNeg) * (u_M.2.2 17 (v14 : Int32).toNatClampNeg)) * (u_M.2.2 18 (v14 : Int32).toNatClampNeg)) : Int32).toInt64)) fun y37 => ck v14 9 (ck v14 9 (ck v14 9 (lt (v12 + (((((u_M.2.2 19 (v14 : Int32).toNatClampNeg) * (u_M.2.2 18 (v14 : Int32).toNatClampNeg)) * (u_M.2.2 18 (v14 : Int32).toNatClampNeg)) : Int32).toInt64)) fun y41 => lp_X5_isSteady_20 r1 u_M n y23 y26 y29 y33 y37 y41 (v14 + 1))))))))))))))) else lp_X5_isSteady_20 r1 u_M n v2 v4 v6 v8 v10 v12 (v14 + 1)
def f_X5_isSteady (i0 : Int32) (om : OS) : Option (Int32 × OS) := Option.bind (lp_X5_isSteady_20 i0 om 1000 0 0 0 0 0 0 0) fun z1 => Option.bind (f_X5_det z1.1 z1.2.1 z1.2.2.1 z1.2.1 z1.2.2.2.1 z1.2.2.2.2.1 z1.2.2.1 z1.2.2.2.2.1 z1.2.2.2.2.2.1) fun x4 => lt (sL om 29 x4) fun o5 => Option.bind (f_X5_det (o5.2.1 23) z1.2.1 z1.2.2.1 (o5.2.1 24) z1.2.2.2.1 z1.2.2.2.2.1 (o5.2.1 25) z1.2.2.2.2.1 z1.2.2.2.2.2.1) fun x6 => lt (sL o5 30 x6) fun o7 => Option.bind (f_X5_det z1.1 (o7.2.1 23) z1.2.2.1 z1.2.1 (o7.2.1 24) z1.2.2.2.2.1 z1.2.2.1 (o7.2.1 25) z1.2.2.2.2.2.1) fun x8 => lt (sL o7 31 x8) fun o9 => Option.bind (f_X5_det z1.1 z1.2.1 (o9.2.1 23) z1.2.1 z1.2.2.2.1 (o9.2.1 24) z1.2.2.1 z1.2.2.2.2.1 (o9.2.1 25)) fun x10 => lt (sL o9 32 x10) fun o11 => Option.bind (if 0 ≤ (o11.2.1 29) then some o11 else lt (sL o11 29 (-(o11.2.1 29))) fun o16 => lt (sL o16 30 (-(o16.2.1 30))) fun o17 => lt (sL o17 31 (-(o17.2.1 31))) fun o18 => lt (sL o18 32 (-(o18.2.1 32))) fun o19 => some o19 : Option OS) fun z12 => if (z12.2.1 29) = 0 then some (0, z12) else some (1, z12)
set_option maxHeartbeats 4000000 in
set_option maxRecDepth 100000 in
theorem c_X5_isSteady (l : Launch) (D : va_G) (cI cZ cS : ClassId) (a : Nat) (q : Nat → Nat) (i0 : Int32) (om : OS) (x : (Int32 × OS)) (hf : f_X5_isSteady i0 om = some x) : Ct l yX5_isSteady cX5_isSteady 15 (some .boolean) 1 37 D cI cZ cS [.ref a, .int i0] (bX5 cI cZ a q om) (some (.int x.1)) (bX5 cI cZ a q x.2) := by
  intro sz
  refine Met.ofW (cc := cX5_isSteady) (maxL := 15) (ret := (some .boolean)) (by decide +kernel) rfl ?_
  intro p e s m args below meth c s₁ B hml hv
  obtain ⟨rfl, hsz, hP, hK, hD0⟩ := hv
  have hx := B.exec
  have hb := B.bytes
  have hr := B.returns
  have hts0 := atoms_spec (ws := .code yX5_isSteady cX5_isSteady 15 (some .boolean) :: TB) B.pre
  have hts := fun w (h : w ∈ TB) => hts0 w (List.mem_cons_of_mem _ h)
  have hown : s.vm.findClass RX5 = some m.cls := findClass_of_methodNamed B.named
  have hlocks := B.notSynchronized
  subst hsz
  have hD := hD0.self (sz := s.heap.size)
  generalize hAe : va_A (bX5 cI cZ a q om) s.heap.size = A at hD ⊢
  have hA : ∀ q : Nat, s.heap.size ≤ q → A q := fun q h => by rw [← hAe]; exact Or.inr h
  have hS : va_S A s.heap s.heap [] := va_S.rf
  obtain ⟨H, hH⟩ : ∃ H, H = s.heap := ⟨_, rfl⟩
  rw [← hH] at hP
  have hS : va_S A s.heap H [] := by rw [hH]; exact hS
  have hl := lv_entry ([.ref a, .int i0]) (n := 15) (Nat.le_of_ble_eq_true rfl)
  rw [lg_entry_eq]
  generalize (lg_sl ([.ref a, .int i0]) ++ List.replicate (15 - (lg_sl ([.ref a, .int i0])).length) Slot.unset).toArray = ls at hl ⊢
  have hl : lv_has ls 15 [(0, .ref a), (1, .int i0)] := hl
  refine W_heap hH ?_
  obtain ⟨locs, hlo⟩ : ∃ locs : List Loc, locs = [] := ⟨_, rfl⟩
  rw [← hlo] at hS ⊢
  unfold f_X5_isSteady at hf
  refine lv_lconst (v := 0) (pc := 0) hx hb dX5_isSteady_0 (by decide) ?_
  refine lv_lstore_n (lv' := [(2, .long 0), (0, .ref a), (1, .int i0)]) (pc := 1) hx hb dX5_isSteady_1 rfl hl (by decide) rfl (fun ls hl => ?_)
  refine lv_lconst (v := 0) (pc := 2) hx hb dX5_isSteady_2 (by decide) ?_
  refine lv_lstore (lv' := [(4, .long 0), (2, .long 0), (0, .ref a), (1, .int i0)]) (pc := 3) hx hb dX5_isSteady_3 hl (by decide) rfl (fun ls hl => ?_)
  refine lv_lconst (v := 0) (pc := 5) hx hb dX5_isSteady_5 (by decide) ?_
  refine lv_lstore (lv' := [(6, .long 0), (4, .long 0), (2, .long 0), (0, .ref a), (1, .int i0)]) (pc := 6) hx hb dX5_isSteady_6 hl (by decide) rfl (fun ls hl => ?_)
  refine lv_lconst (v := 0) (pc := 8) hx hb dX5_isSteady_8 (by decide) ?_
  refine lv_lstore (lv' := [(8, .long 0), (6, .long 0), (4, .long 0), (2, .long 0), (0, .ref a), (1, .int i0)]) (pc := 9) hx hb dX5_isSteady_9 hl (by decide) rfl (fun ls hl => ?_)
  refine lv_lconst (v := 0) (pc := 11) hx hb dX5_isSteady_11 (by decide) ?_
  refine lv_lstore (lv' := [(10, .long 0), (8, .long 0), (6, .long 0), (4, .long 0), (2, .long 0), (0, .ref a), (1, .int i0)]) (pc := 12) hx hb dX5_isSteady_12 hl (by decide) rfl (fun ls hl => ?_)
  refine lv_lconst (v := 0) (pc := 14) hx hb dX5_isSteady_14 (by decide) ?_
  refine lv_lstore (lv' := [(12, .long 0), (10, .long 0), (8, .long 0), (6, .long 0), (4, .long 0), (2, .long 0), (0, .ref a), (1, .int i0)]) (pc := 15) hx hb dX5_isSteady_15 hl (by decide) rfl (fun ls hl => ?_)
  refine lv_iconst (v := 0) (pc := 17) hx hb dX5_isSteady_17 (by decide) ?_
  refine lv_istore (lv' := [(14, .int 0), (12, .long 0), (10, .long 0), (8, .long 0), (6, .long 0), (4, .long 0), (2, .long 0), (0, .ref a), (1, .int i0)]) (pc := 18) hx hb dX5_isSteady_18 hl (by decide) rfl (fun ls hl => ?_)
  obtain ⟨z1, hz1, hf⟩ := bd_some hf
  have hfz1 := hf
  clear hf
  have K2 : ∀ (H : Heap) (locs : List Loc) (ls : Array Slot), va_P D vwCl (bX5 cI cZ a q om) H → va_D A (bX5 cI cZ a q om) → va_S A s.heap H locs → lv_has ls 15 [(0, .ref a), (1, .int i0), (2, .long z1.1), (4, .long z1.2.1), (6, .long z1.2.2.1), (8, .long z1.2.2.2.1), (10, .long z1.2.2.2.2.1), (12, .long z1.2.2.2.2.2.1), (14, .int z1.2.2.2.2.2.2)] → GW l yX5_isSteady cX5_isSteady 15 (some .boolean) 1 37 D [.ref a, .int i0] (some (.int x.1)) (bX5 cI cZ a q x.2) A p e s m below meth c H locs (F0 m 185 ls []) := by
    intro H locs ls hP hD hS hl
    have hf := hfz1
    refine lv_aload_n (pc := 185) hx hb dX5_isSteady_185 rfl (lv_at hl 0 rfl) ?_
    refine lv_lload_n (pc := 186) hx hb dX5_isSteady_186 rfl (lv_at hl 2 rfl) ?_
    refine lv_lload (pc := 187) hx hb dX5_isSteady_187 (lv_at hl 3 rfl) ?_
    refine lv_lload (pc := 189) hx hb dX5_isSteady_189 (lv_at hl 4 rfl) ?_
    refine lv_lload (pc := 191) hx hb dX5_isSteady_191 (lv_at hl 3 rfl) ?_
    refine lv_lload (pc := 193) hx hb dX5_isSteady_193 (lv_at hl 5 rfl) ?_
    refine lv_lload (pc := 195) hx hb dX5_isSteady_195 (lv_at hl 6 rfl) ?_
    refine lv_lload (pc := 197) hx hb dX5_isSteady_197 (lv_at hl 4 rfl) ?_
    refine lv_lload (pc := 199) hx hb dX5_isSteady_199 (lv_at hl 6 rfl) ?_
    refine lv_lload (pc := 201) hx hb dX5_isSteady_201 (lv_at hl 7 rfl) ?_
    obtain ⟨x4, ex4, hf⟩ := bd_some hf
    refine ct_S0 (pc := 203) (As := [.long z1.1, .long z1.2.1, .long z1.2.2.1, .long z1.2.1, .long z1.2.2.2.1, .long z1.2.2.2.2.1, .long z1.2.2.1, .long z1.2.2.2.2.1, .long z1.2.2.2.2.2.1]) (rest := [.ref a]) ⟨hx, hb, hml, hown, hts⟩ hK (c_X5_det l D cI cZ cS z1.1 z1.2.1 z1.2.2.1 z1.2.1 z1.2.2.2.1 z1.2.2.2.2.1 z1.2.2.1 z1.2.2.2.2.1 z1.2.2.2.2.2.1 x4 ex4) gs_RX5_170 hs_X5_det rfl ⟨Nat.le_of_ble_eq_true rfl, Nat.le_of_ble_eq_true rfl⟩ hl.1 rfl (Nat.le_of_ble_eq_true rfl) dX5_isSteady_203 ⟨Nat.zero_le _, Nat.zero_le _⟩ hP hS hA (fun H locs hP hS => ?_)
    obtain ⟨o5, eo5, hf⟩ := lt_some hf
    refine va_put (pc := 206) (D := D) (ci := 5) (v := .long x4) (ty := .long) (C := RX5) (T := TX5) (N := 41) hx hb hts iX5 tyX5 tyX5_ok nmX5 hown hK.1 hP hD hS 0 rfl rfl 29 (by decide) (hts _ fl_RX5_174) (fun _ h => h) rfl (tyX5_ok 29 (by decide)) rfl rfl (Nat.le_of_ble_eq_true rfl) dX5_isSteady_206 (fun H locs hP hD hS => ?_)
    replace hP : va_P D vwCl (bX5 cI cZ a q o5) H := by rw [eo5]; exact hP
    replace hD : va_D A (bX5 cI cZ a q o5) := by rw [eo5]; exact hD
    refine lv_aload_n (pc := 209) hx hb dX5_isSteady_209 rfl (lv_at hl 0 rfl) ?_
    refine lv_aload_n (pc := 210) hx hb dX5_isSteady_210 rfl (lv_at hl 0 rfl) ?_
    refine va_get (pc := 211) (D := D) (ci := 5) (v := .long (o5.2.1 23)) (C := RX5) (T := TX5) (N := 41) hx hb hts iX5 hown hK.1 hP 0 rfl rfl 23 (by decide) (hts _ fl_RX5_160) (fun _ h => h) rfl dX5_isSteady_211 ?_
    refine lv_lload (pc := 214) hx hb dX5_isSteady_214 (lv_at hl 3 rfl) ?_
    refine lv_lload (pc := 216) hx hb dX5_isSteady_216 (lv_at hl 4 rfl) ?_
    refine lv_aload_n (pc := 218) hx hb dX5_isSteady_218 rfl (lv_at hl 0 rfl) ?_
    refine va_get (pc := 219) (D := D) (ci := 5) (v := .long (o5.2.1 24)) (C := RX5) (T := TX5) (N := 41) hx hb hts iX5 hown hK.1 hP 0 rfl rfl 24 (by decide) (hts _ fl_RX5_164) (fun _ h => h) rfl dX5_isSteady_219 ?_
    refine lv_lload (pc := 222) hx hb dX5_isSteady_222 (lv_at hl 5 rfl) ?_
    refine lv_lload (pc := 224) hx hb dX5_isSteady_224 (lv_at hl 6 rfl) ?_
    refine lv_aload_n (pc := 226) hx hb dX5_isSteady_226 rfl (lv_at hl 0 rfl) ?_
    refine va_get (pc := 227) (D := D) (ci := 5) (v := .long (o5.2.1 25)) (C := RX5) (T := TX5) (N := 41) hx hb hts iX5 hown hK.1 hP 0 rfl rfl 25 (by decide) (hts _ fl_RX5_167) (fun _ h => h) rfl dX5_isSteady_227 ?_
    refine lv_lload (pc := 230) hx hb dX5_isSteady_230 (lv_at hl 6 rfl) ?_
    refine lv_lload (pc := 232) hx hb dX5_isSteady_232 (lv_at hl 7 rfl) ?_
    obtain ⟨x6, ex6, hf⟩ := bd_some hf
    refine ct_S0 (pc := 234) (As := [.long (o5.2.1 23), .long z1.2.1, .long z1.2.2.1, .long (o5.2.1 24), .long z1.2.2.2.1, .long z1.2.2.2.2.1, .long (o5.2.1 25), .long z1.2.2.2.2.1, .long z1.2.2.2.2.2.1]) (rest := [.ref a]) ⟨hx, hb, hml, hown, hts⟩ hK (c_X5_det l D cI cZ cS (o5.2.1 23) z1.2.1 z1.2.2.1 (o5.2.1 24) z1.2.2.2.1 z1.2.2.2.2.1 (o5.2.1 25) z1.2.2.2.2.1 z1.2.2.2.2.2.1 x6 ex6) gs_RX5_170 hs_X5_det rfl ⟨Nat.le_of_ble_eq_true rfl, Nat.le_of_ble_eq_true rfl⟩ hl.1 rfl (Nat.le_of_ble_eq_true rfl) dX5_isSteady_234 ⟨Nat.zero_le _, Nat.zero_le _⟩ hP hS hA (fun H locs hP hS => ?_)
    obtain ⟨o7, eo7, hf⟩ := lt_some hf
    refine va_put (pc := 237) (D := D) (ci := 5) (v := .long x6) (ty := .long) (C := RX5) (T := TX5) (N := 41) hx hb hts iX5 tyX5 tyX5_ok nmX5 hown hK.1 hP hD hS 0 rfl rfl 30 (by decide) (hts _ fl_RX5_177) (fun _ h => h) rfl (tyX5_ok 30 (by decide)) rfl rfl (Nat.le_of_ble_eq_true rfl) dX5_isSteady_237 (fun H locs hP hD hS => ?_)
    replace hP : va_P D vwCl (bX5 cI cZ a q o7) H := by rw [eo7]; exact hP
    replace hD : va_D A (bX5 cI cZ a q o7) := by rw [eo7]; exact hD
    refine lv_aload_n (pc := 240) hx hb dX5_isSteady_240 rfl (lv_at hl 0 rfl) ?_
    refine lv_lload_n (pc := 241) hx hb dX5_isSteady_241 rfl (lv_at hl 2 rfl) ?_
    refine lv_aload_n (pc := 242) hx hb dX5_isSteady_242 rfl (lv_at hl 0 rfl) ?_
    refine va_get (pc := 243) (D := D) (ci := 5) (v := .long (o7.2.1 23)) (C := RX5) (T := TX5) (N := 41) hx hb hts iX5 hown hK.1 hP 0 rfl rfl 23 (by decide) (hts _ fl_RX5_160) (fun _ h => h) rfl dX5_isSteady_243 ?_
    refine lv_lload (pc := 246) hx hb dX5_isSteady_246 (lv_at hl 4 rfl) ?_
    refine lv_lload (pc := 248) hx hb dX5_isSteady_248 (lv_at hl 3 rfl) ?_
    refine lv_aload_n (pc := 250) hx hb dX5_isSteady_250 rfl (lv_at hl 0 rfl) ?_
    refine va_get (pc := 251) (D := D) (ci := 5) (v := .long (o7.2.1 24)) (C := RX5) (T := TX5) (N := 41) hx hb hts iX5 hown hK.1 hP 0 rfl rfl 24 (by decide) (hts _ fl_RX5_164) (fun _ h => h) rfl dX5_isSteady_251 ?_
    refine lv_lload (pc := 254) hx hb dX5_isSteady_254 (lv_at hl 6 rfl) ?_
    refine lv_lload (pc := 256) hx hb dX5_isSteady_256 (lv_at hl 4 rfl) ?_
    refine lv_aload_n (pc := 258) hx hb dX5_isSteady_258 rfl (lv_at hl 0 rfl) ?_
    refine va_get (pc := 259) (D := D) (ci := 5) (v := .long (o7.2.1 25)) (C := RX5) (T := TX5) (N := 41) hx hb hts iX5 hown hK.1 hP 0 rfl rfl 25 (by decide) (hts _ fl_RX5_167) (fun _ h => h) rfl dX5_isSteady_259 ?_
    refine lv_lload (pc := 262) hx hb dX5_isSteady_262 (lv_at hl 7 rfl) ?_
    obtain ⟨x8, ex8, hf⟩ := bd_some hf
    refine ct_S0 (pc := 264) (As := [.long z1.1, .long (o7.2.1 23), .long z1.2.2.1, .long z1.2.1, .long (o7.2.1 24), .long z1.2.2.2.2.1, .long z1.2.2.1, .long (o7.2.1 25), .long z1.2.2.2.2.2.1]) (rest := [.ref a]) ⟨hx, hb, hml, hown, hts⟩ hK (c_X5_det l D cI cZ cS z1.1 (o7.2.1 23) z1.2.2.1 z1.2.1 (o7.2.1 24) z1.2.2.2.2.1 z1.2.2.1 (o7.2.1 25) z1.2.2.2.2.2.1 x8 ex8) gs_RX5_170 hs_X5_det rfl ⟨Nat.le_of_ble_eq_true rfl, Nat.le_of_ble_eq_true rfl⟩ hl.1 rfl (Nat.le_of_ble_eq_true rfl) dX5_isSteady_264 ⟨Nat.zero_le _, Nat.zero_le _⟩ hP hS hA (fun H locs hP hS => ?_)
    obtain ⟨o9, eo9, hf⟩ := lt_some hf
    refine va_put (pc := 267) (D := D) (ci := 5) (v := .long x8) (ty := .long) (C := RX5) (T := TX5) (N := 41) hx hb hts iX5 tyX5 tyX5_ok nmX5 hown hK.1 hP hD hS 0 rfl rfl 31 (by decide) (hts _ fl_RX5_180) (fun _ h => h) rfl (tyX5_ok 31 (by decide)) rfl rfl (Nat.le_of_ble_eq_true rfl) dX5_isSteady_267 (fun H locs hP hD hS => ?_)
    replace hP : va_P D vwCl (bX5 cI cZ a q o9) H := by rw [eo9]; exact hP
    replace hD : va_D A (bX5 cI cZ a q o9) := by rw [eo9]; exact hD
    refine lv_aload_n (pc := 270) hx hb dX5_isSteady_270 rfl (lv_at hl 0 rfl) ?_
    refine lv_lload_n (pc := 271) hx hb dX5_isSteady_271 rfl (lv_at hl 2 rfl) ?_
    refine lv_lload (pc := 272) hx hb dX5_isSteady_272 (lv_at hl 3 rfl) ?_
    refine lv_aload_n (pc := 274) hx hb dX5_isSteady_274 rfl (lv_at hl 0 rfl) ?_
    refine va_get (pc := 275) (D := D) (ci := 5) (v := .long (o9.2.1 23)) (C := RX5) (T := TX5) (N := 41) hx hb hts iX5 hown hK.1 hP 0 rfl rfl 23 (by decide) (hts _ fl_RX5_160) (fun _ h => h) rfl dX5_isSteady_275 ?_
    refine lv_lload (pc := 278) hx hb dX5_isSteady_278 (lv_at hl 3 rfl) ?_
    refine lv_lload (pc := 280) hx hb dX5_isSteady_280 (lv_at hl 5 rfl) ?_
    refine lv_aload_n (pc := 282) hx hb dX5_isSteady_282 rfl (lv_at hl 0 rfl) ?_
    refine va_get (pc := 283) (D := D) (ci := 5) (v := .long (o9.2.1 24)) (C := RX5) (T := TX5) (N := 41) hx hb hts iX5 hown hK.1 hP 0 rfl rfl 24 (by decide) (hts _ fl_RX5_164) (fun _ h => h) rfl dX5_isSteady_283 ?_
    refine lv_lload (pc := 286) hx hb dX5_isSteady_286 (lv_at hl 4 rfl) ?_
    refine lv_lload (pc := 288) hx hb dX5_isSteady_288 (lv_at hl 6 rfl) ?_
    refine lv_aload_n (pc := 290) hx hb dX5_isSteady_290 rfl (lv_at hl 0 rfl) ?_
    refine va_get (pc := 291) (D := D) (ci := 5) (v := .long (o9.2.1 25)) (C := RX5) (T := TX5) (N := 41) hx hb hts iX5 hown hK.1 hP 0 rfl rfl 25 (by decide) (hts _ fl_RX5_167) (fun _ h => h) rfl dX5_isSteady_291 ?_
    obtain ⟨x10, ex10, hf⟩ := bd_some hf
    refine ct_S0 (pc := 294) (As := [.long z1.1, .long z1.2.1, .long (o9.2.1 23), .long z1.2.1, .long z1.2.2.2.1, .long (o9.2.1 24), .long z1.2.2.1, .long z1.2.2.2.2.1, .long (o9.2.1 25)]) (rest := [.ref a]) ⟨hx, hb, hml, hown, hts⟩ hK (c_X5_det l D cI cZ cS z1.1 z1.2.1 (o9.2.1 23) z1.2.1 z1.2.2.2.1 (o9.2.1 24) z1.2.2.1 z1.2.2.2.2.1 (o9.2.1 25) x10 ex10) gs_RX5_170 hs_X5_det rfl ⟨Nat.le_of_ble_eq_true rfl, Nat.le_of_ble_eq_true rfl⟩ hl.1 rfl (Nat.le_of_ble_eq_true rfl) dX5_isSteady_294 ⟨Nat.zero_le _, Nat.zero_le _⟩ hP hS hA (fun H locs hP hS => ?_)
    obtain ⟨o11, eo11, hf⟩ := lt_some hf
    refine va_put (pc := 297) (D := D) (ci := 5) (v := .long x10) (ty := .long) (C := RX5) (T := TX5) (N := 41) hx hb hts iX5 tyX5 tyX5_ok nmX5 hown hK.1 hP hD hS 0 rfl rfl 32 (by decide) (hts _ fl_RX5_183) (fun _ h => h) rfl (tyX5_ok 32 (by decide)) rfl rfl (Nat.le_of_ble_eq_true rfl) dX5_isSteady_297 (fun H locs hP hD hS => ?_)
    replace hP : va_P D vwCl (bX5 cI cZ a q o11) H := by rw [eo11]; exact hP
    replace hD : va_D A (bX5 cI cZ a q o11) := by rw [eo11]; exact hD
    refine lv_aload_n (pc := 300) hx hb dX5_isSteady_300 rfl (lv_at hl 0 rfl) ?_
    refine va_get (pc := 301) (D := D) (ci := 5) (v := .long (o11.2.1 29)) (C := RX5) (T := TX5) (N := 41) hx hb hts iX5 hown hK.1 hP 0 rfl rfl 29 (by decide) (hts _ fl_RX5_174) (fun _ h => h) rfl dX5_isSteady_301 ?_
    refine lv_lconst (v := 0) (pc := 304) hx hb dX5_isSteady_304 (by decide) ?_
    refine W.lcmp (pc := 305) hx hb dX5_isSteady_305 ?_
    obtain ⟨z12, hz12, hf⟩ := bd_some hf
    have K13 : ∀ (H : Heap) (locs : List Loc) (ls : Array Slot), va_P D vwCl (bX5 cI cZ a q z12) H → va_D A (bX5 cI cZ a q z12) → va_S A s.heap H locs → lv_has ls 15 [(0, .ref a), (1, .int i0), (2, .long z1.1), (4, .long z1.2.1), (6, .long z1.2.2.1), (8, .long z1.2.2.2.1), (10, .long z1.2.2.2.2.1), (12, .long z1.2.2.2.2.2.1), (14, .int z1.2.2.2.2.2.2)] → GW l yX5_isSteady cX5_isSteady 15 (some .boolean) 1 37 D [.ref a, .int i0] (some (.int x.1)) (bX5 cI cZ a q x.2) A p e s m below meth c H locs (F0 m 345 ls []) := by
      intro H locs ls hP hD hS hl
      refine lv_aload_n (pc := 345) hx hb dX5_isSteady_345 rfl (lv_at hl 0 rfl) ?_
      refine va_get (pc := 346) (D := D) (ci := 5) (v := .long (z12.2.1 29)) (C := RX5) (T := TX5) (N := 41) hx hb hts iX5 hown hK.1 hP 0 rfl rfl 29 (by decide) (hts _ fl_RX5_174) (fun _ h => h) rfl dX5_isSteady_346 ?_
      refine lv_lconst (v := 0) (pc := 349) hx hb dX5_isSteady_349 (by decide) ?_
      refine W.lcmp (pc := 350) hx hb dX5_isSteady_350 ?_
      refine lv_if_eq (pc := 351) (tgt := 358) hx hb dX5_isSteady_351 (by decide) (fun c14 => ?_) (fun c14 => ?_)
      · replace c14 := (lg_cmp_eq _ _).mp c14
        replace hf := ip c14 hf
        refine lv_iconst (v := 0) (pc := 358) hx hb dX5_isSteady_358 (by decide) ?_
        obtain rfl := Option.some.inj hf
        exact W.zret hx hb hr rfl (fun t ht hW => ⟨rfl, by rw [ht]; exact hP, hD, hS.F ht⟩) hS.2.2 dX5_isSteady_359
      · replace c14 := fun q => c14 ((lg_cmp_eq _ _).mpr q)
        replace hf := im c14 hf
        refine lv_iconst (v := 1) (pc := 354) hx hb dX5_isSteady_354 (by decide) ?_
        refine lv_goto (pc := 355) (tgt := 359) hx hb dX5_isSteady_355 (by decide) ?_
        obtain rfl := Option.some.inj hf
        exact W.zret hx hb hr rfl (fun t ht hW => ⟨rfl, by rw [ht]; exact hP, hD, hS.F ht⟩) hS.2.2 dX5_isSteady_359
    replace hf := hz12
    refine lv_if_ge (pc := 306) (tgt := 345) hx hb dX5_isSteady_306 (by decide) (fun c15 => ?_) (fun c15 => ?_)
    · replace c15 := (lg_cmp_ge _ _).mp c15
      replace hf := ip c15 hf
      obtain rfl := Option.some.inj hf
      exact K13 H locs ls hP hD hS (lv_sub hl [0, 1, 2, 3, 4, 5, 6, 7, 8] rfl)
    · replace c15 := fun q => c15 ((lg_cmp_ge _ _).mpr q)
      replace hf := im c15 hf
      refine lv_aload_n (pc := 309) hx hb dX5_isSteady_309 rfl (lv_at hl 0 rfl) ?_
      refine lv_aload_n (pc := 310) hx hb dX5_isSteady_310 rfl (lv_at hl 0 rfl) ?_
      refine va_get (pc := 311) (D := D) (ci := 5) (v := .long (o11.2.1 29)) (C := RX5) (T := TX5) (N := 41) hx hb hts iX5 hown hK.1 hP 0 rfl rfl 29 (by decide) (hts _ fl_RX5_174) (fun _ h => h) rfl dX5_isSteady_311 ?_
      refine lv_lneg (pc := 314) hx hb dX5_isSteady_314 ?_
      obtain ⟨o16, eo16, hf⟩ := lt_some hf
      refine va_put (pc := 315) (D := D) (ci := 5) (v := .long (-(o11.2.1 29))) (ty := .long) (C := RX5) (T := TX5) (N := 41) hx hb hts iX5 tyX5 tyX5_ok nmX5 hown hK.1 hP hD hS 0 rfl rfl 29 (by decide) (hts _ fl_RX5_174) (fun _ h => h) rfl (tyX5_ok 29 (by decide)) rfl rfl (Nat.le_of_ble_eq_true rfl) dX5_isSteady_315 (fun H locs hP hD hS => ?_)
      replace hP : va_P D vwCl (bX5 cI cZ a q o16) H := by rw [eo16]; exact hP
      replace hD : va_D A (bX5 cI cZ a q o16) := by rw [eo16]; exact hD
      refine lv_aload_n (pc := 318) hx hb dX5_isSteady_318 rfl (lv_at hl 0 rfl) ?_
      refine lv_aload_n (pc := 319) hx hb dX5_isSteady_319 rfl (lv_at hl 0 rfl) ?_
      refine va_get (pc := 320) (D := D) (ci := 5) (v := .long (o16.2.1 30)) (C := RX5) (T := TX5) (N := 41) hx hb hts iX5 hown hK.1 hP 0 rfl rfl 30 (by decide) (hts _ fl_RX5_177) (fun _ h => h) rfl dX5_isSteady_320 ?_
      refine lv_lneg (pc := 323) hx hb dX5_isSteady_323 ?_
      obtain ⟨o17, eo17, hf⟩ := lt_some hf
      refine va_put (pc := 324) (D := D) (ci := 5) (v := .long (-(o16.2.1 30))) (ty := .long) (C := RX5) (T := TX5) (N := 41) hx hb hts iX5 tyX5 tyX5_ok nmX5 hown hK.1 hP hD hS 0 rfl rfl 30 (by decide) (hts _ fl_RX5_177) (fun _ h => h) rfl (tyX5_ok 30 (by decide)) rfl rfl (Nat.le_of_ble_eq_true rfl) dX5_isSteady_324 (fun H locs hP hD hS => ?_)
      replace hP : va_P D vwCl (bX5 cI cZ a q o17) H := by rw [eo17]; exact hP
      replace hD : va_D A (bX5 cI cZ a q o17) := by rw [eo17]; exact hD
      refine lv_aload_n (pc := 327) hx hb dX5_isSteady_327 rfl (lv_at hl 0 rfl) ?_
      refine lv_aload_n (pc := 328) hx hb dX5_isSteady_328 rfl (lv_at hl 0 rfl) ?_
      refine va_get (pc := 329) (D := D) (ci := 5) (v := .long (o17.2.1 31)) (C := RX5) (T := TX5) (N := 41) hx hb hts iX5 hown hK.1 hP 0 rfl rfl 31 (by decide) (hts _ fl_RX5_180) (fun _ h => h) rfl dX5_isSteady_329 ?_
      refine lv_lneg (pc := 332) hx hb dX5_isSteady_332 ?_
      obtain ⟨o18, eo18, hf⟩ := lt_some hf
      refine va_put (pc := 333) (D := D) (ci := 5) (v := .long (-(o17.2.1 31))) (ty := .long) (C := RX5) (T := TX5) (N := 41) hx hb hts iX5 tyX5 tyX5_ok nmX5 hown hK.1 hP hD hS 0 rfl rfl 31 (by decide) (hts _ fl_RX5_180) (fun _ h => h) rfl (tyX5_ok 31 (by decide)) rfl rfl (Nat.le_of_ble_eq_true rfl) dX5_isSteady_333 (fun H locs hP hD hS => ?_)
      replace hP : va_P D vwCl (bX5 cI cZ a q o18) H := by rw [eo18]; exact hP
      replace hD : va_D A (bX5 cI cZ a q o18) := by rw [eo18]; exact hD
      refine lv_aload_n (pc := 336) hx hb dX5_isSteady_336 rfl (lv_at hl 0 rfl) ?_
      refine lv_aload_n (pc := 337) hx hb dX5_isSteady_337 rfl (lv_at hl 0 rfl) ?_
      refine va_get (pc := 338) (D := D) (ci := 5) (v := .long (o18.2.1 32)) (C := RX5) (T := TX5) (N := 41) hx hb hts iX5 hown hK.1 hP 0 rfl rfl 32 (by decide) (hts _ fl_RX5_183) (fun _ h => h) rfl dX5_isSteady_338 ?_
      refine lv_lneg (pc := 341) hx hb dX5_isSteady_341 ?_
      obtain ⟨o19, eo19, hf⟩ := lt_some hf
      refine va_put (pc := 342) (D := D) (ci := 5) (v := .long (-(o18.2.1 32))) (ty := .long) (C := RX5) (T := TX5) (N := 41) hx hb hts iX5 tyX5 tyX5_ok nmX5 hown hK.1 hP hD hS 0 rfl rfl 32 (by decide) (hts _ fl_RX5_183) (fun _ h => h) rfl (tyX5_ok 32 (by decide)) rfl rfl (Nat.le_of_ble_eq_true rfl) dX5_isSteady_342 (fun H locs hP hD hS => ?_)
      replace hP : va_P D vwCl (bX5 cI cZ a q o19) H := by rw [eo19]; exact hP
      replace hD : va_D A (bX5 cI cZ a q o19) := by rw [eo19]; exact hD
      obtain rfl := Option.some.inj hf
      exact K13 H locs ls hP hD hS (lv_sub hl [0, 1, 2, 3, 4, 5, 6, 7, 8] rfl)
  have KL3 : ∀ (n : Nat) (v2 : Int64) (v4 : Int64) (v6 : Int64) (v8 : Int64) (v10 : Int64) (v12 : Int64) (v14 : Int32) (H : Heap) (locs : List Loc) (ls : Array Slot), lp_X5_isSteady_20 i0 om n v2 v4 v6 v8 v10 v12 v14 = some z1 → va_P D vwCl (bX5 cI cZ a q om) H → va_D A (bX5 cI cZ a q om) → va_S A s.heap H locs → lv_has ls 15 [(0, .ref a), (1, .int i0), (2, .long v2), (4, .long v4), (6, .long v6), (8, .long v8), (10, .long v10), (12, .long v12), (14, .int v14)] → GW l yX5_isSteady cX5_isSteady 15 (some .boolean) 1 37 D [.ref a, .int i0] (some (.int x.1)) (bX5 cI cZ a q x.2) A p e s m below meth c H locs (F0 m 20 ls []) := by
    intro n
    induction n with
    | zero => intro v2 v4 v6 v8 v10 v12 v14 H locs ls hf; cases hf
    | succ n ih =>
      intro v2 v4 v6 v8 v10 v12 v14 H locs ls hf hP hD hS hl
      rw [lp_X5_isSteady_20] at hf
      refine lv_iload (pc := 20) hx hb dX5_isSteady_20 (lv_at hl 8 rfl) ?_
      refine lv_aload_n (pc := 22) hx hb dX5_isSteady_22 rfl (lv_at hl 0 rfl) ?_
      refine va_get (pc := 23) (D := D) (ci := 5) (v := .int (om.1 21)) (C := RX5) (T := TX5) (N := 41) hx hb hts iX5 hown hK.1 hP 0 rfl rfl 21 (by decide) (hts _ fl_RX5_150) (fun _ h => h) rfl dX5_isSteady_23 ?_
      refine lv_icmp_ge (pc := 26) (tgt := 185) hx hb dX5_isSteady_26 (by decide) (fun c20 => ?_) (fun c20 => ?_)
      · replace hf := ip c20 hf
        obtain rfl := Option.some.inj hf
        exact K2 H locs ls hP hD hS (lv_sub hl [0, 1, 2, 3, 4, 5, 6, 7, 8] rfl)
      · replace hf := im c20 hf
        refine lv_iload_n (pc := 29) hx hb dX5_isSteady_29 rfl (lv_at hl 1 rfl) ?_
        refine lv_iload (pc := 30) hx hb dX5_isSteady_30 (lv_at hl 8 rfl) ?_
        refine lv_ishr (pc := 32) hx hb dX5_isSteady_32 ?_
        refine lv_iconst (v := 1) (pc := 33) hx hb dX5_isSteady_33 (by decide) ?_
        refine lv_iand (pc := 34) hx hb dX5_isSteady_34 ?_
        refine lv_iconst (v := 1) (pc := 35) hx hb dX5_isSteady_35 (by decide) ?_
        refine lv_icmp_ne (pc := 36) (tgt := 179) hx hb dX5_isSteady_36 (by decide) (fun c21 => ?_) (fun c21 => ?_)
        · replace hf := im c21 hf
          refine lv_iinc (v := (v14 + 1)) (lv' := [(14, .int (v14 + 1)), (0, .ref a), (1, .int i0), (2, .long v2), (4, .long v4), (6, .long v6), (8, .long v8), (10, .long v10), (12, .long v12)]) (pc := 179) hx hb dX5_isSteady_179 hl (k := 8) rfl rfl (by decide) rfl (fun ls hl => ?_)
          refine lv_goto (pc := 182) (tgt := 20) hx hb dX5_isSteady_182 (by decide) ?_
          exact ih _ _ _ _ _ _ _ H locs ls hf hP hD hS (lv_sub hl [1, 2, 3, 4, 5, 6, 7, 8, 0] rfl)
        · replace hf := ip c21 hf
          refine lv_lload_n (pc := 39) hx hb dX5_isSteady_39 rfl (lv_at hl 2 rfl) ?_
          refine lv_aload_n (pc := 40) hx hb dX5_isSteady_40 rfl (lv_at hl 0 rfl) ?_
          refine va_get (pc := 41) (D := D) (ci := 5) (v := .ref (q 19)) (C := RX5) (T := TX5) (N := 41) hx hb hts iX5 hown hK.1 hP 0 rfl rfl 19 (by decide) (hts _ fl_RX5_42) (fun _ h => h) rfl dX5_isSteady_41 ?_
          refine lv_iload (pc := 44) hx hb dX5_isSteady_44 (lv_at hl 8 rfl) ?_
          obtain ⟨h22, hf⟩ := ck_some hf
          refine va_iald (pc := 46) (f := om.2.2 19) hx hb hK.1 hP 10 0 rfl rfl h22 dX5_isSteady_46 ?_
          refine lv_i2l (pc := 47) hx hb dX5_isSteady_47 rfl ?_
          refine lv_ladd (pc := 48) hx hb dX5_isSteady_48 ?_
          obtain ⟨y23, ey23, hf⟩ := lt_some hf
          refine lv_nmL ey23 ?_
          refine lv_lstore_n (lv' := [(2, .long y23), (0, .ref a), (1, .int i0), (4, .long v4), (6, .long v6), (8, .long v8), (10, .long v10), (12, .long v12), (14, .int v14)]) (pc := 49) hx hb dX5_isSteady_49 rfl hl (by decide) rfl (fun ls hl => ?_)
          refine lv_lload (pc := 50) hx hb dX5_isSteady_50 (lv_at hl 3 rfl) ?_
          refine lv_aload_n (pc := 52) hx hb dX5_isSteady_52 rfl (lv_at hl 1 rfl) ?_
          refine va_get (pc := 53) (D := D) (ci := 5) (v := .ref (q 19)) (C := RX5) (T := TX5) (N := 41) hx hb hts iX5 hown hK.1 hP 0 rfl rfl 19 (by decide) (hts _ fl_RX5_42) (fun _ h => h) rfl dX5_isSteady_53 ?_
          refine lv_iload (pc := 56) hx hb dX5_isSteady_56 (lv_at hl 8 rfl) ?_
          obtain ⟨h24, hf⟩ := ck_some hf
          refine va_iald (pc := 58) (f := om.2.2 19) hx hb hK.1 hP 10 0 rfl rfl h24 dX5_isSteady_58 ?_
          refine lv_aload_n (pc := 59) hx hb dX5_isSteady_59 rfl (lv_at hl 1 rfl) ?_
          refine va_get (pc := 60) (D := D) (ci := 5) (v := .ref (q 17)) (C := RX5) (T := TX5) (N := 41) hx hb hts iX5 hown hK.1 hP 0 rfl rfl 17 (by decide) (hts _ fl_RX5_36) (fun _ h => h) rfl dX5_isSteady_60 ?_
          refine lv_iload (pc := 63) hx hb dX5_isSteady_63 (lv_at hl 8 rfl) ?_
          obtain ⟨h25, hf⟩ := ck_some hf
          refine va_iald (pc := 65) (f := om.2.2 17) hx hb hK.1 hP 8 0 rfl rfl h25 dX5_isSteady_65 ?_
          refine lv_imul (pc := 66) hx hb dX5_isSteady_66 ?_
          refine lv_i2l (pc := 67) hx hb dX5_isSteady_67 rfl ?_
          refine lv_ladd (pc := 68) hx hb dX5_isSteady_68 ?_
          obtain ⟨y26, ey26, hf⟩ := lt_some hf
          refine lv_nmL ey26 ?_
          refine lv_lstore (lv' := [(4, .long y26), (2, .long y23), (0, .ref a), (1, .int i0), (6, .long v6), (8, .long v8), (10, .long v10), (12, .long v12), (14, .int v14)]) (pc := 69) hx hb dX5_isSteady_69 hl (by decide) rfl (fun ls hl => ?_)
          refine lv_lload (pc := 71) hx hb dX5_isSteady_71 (lv_at hl 4 rfl) ?_
          refine lv_aload_n (pc := 73) hx hb dX5_isSteady_73 rfl (lv_at hl 2 rfl) ?_
          refine va_get (pc := 74) (D := D) (ci := 5) (v := .ref (q 19)) (C := RX5) (T := TX5) (N := 41) hx hb hts iX5 hown hK.1 hP 0 rfl rfl 19 (by decide) (hts _ fl_RX5_42) (fun _ h => h) rfl dX5_isSteady_74 ?_
          refine lv_iload (pc := 77) hx hb dX5_isSteady_77 (lv_at hl 8 rfl) ?_
          obtain ⟨h27, hf⟩ := ck_some hf
          refine va_iald (pc := 79) (f := om.2.2 19) hx hb hK.1 hP 10 0 rfl rfl h27 dX5_isSteady_79 ?_
          refine lv_aload_n (pc := 80) hx hb dX5_isSteady_80 rfl (lv_at hl 2 rfl) ?_
          refine va_get (pc := 81) (D := D) (ci := 5) (v := .ref (q 18)) (C := RX5) (T := TX5) (N := 41) hx hb hts iX5 hown hK.1 hP 0 rfl rfl 18 (by decide) (hts _ fl_RX5_39) (fun _ h => h) rfl dX5_isSteady_81 ?_
          refine lv_iload (pc := 84) hx hb dX5_isSteady_84 (lv_at hl 8 rfl) ?_
          obtain ⟨h28, hf⟩ := ck_some hf
          refine va_iald (pc := 86) (f := om.2.2 18) hx hb hK.1 hP 9 0 rfl rfl h28 dX5_isSteady_86 ?_
          refine lv_imul (pc := 87) hx hb dX5_isSteady_87 ?_
          refine lv_i2l (pc := 88) hx hb dX5_isSteady_88 rfl ?_
          refine lv_ladd (pc := 89) hx hb dX5_isSteady_89 ?_
          obtain ⟨y29, ey29, hf⟩ := lt_some hf
          refine lv_nmL ey29 ?_
          refine lv_lstore (lv' := [(6, .long y29), (4, .long y26), (2, .long y23), (0, .ref a), (1, .int i0), (8, .long v8), (10, .long v10), (12, .long v12), (14, .int v14)]) (pc := 90) hx hb dX5_isSteady_90 hl (by decide) rfl (fun ls hl => ?_)
          refine lv_lload (pc := 92) hx hb dX5_isSteady_92 (lv_at hl 5 rfl) ?_
          refine lv_aload_n (pc := 94) hx hb dX5_isSteady_94 rfl (lv_at hl 3 rfl) ?_
          refine va_get (pc := 95) (D := D) (ci := 5) (v := .ref (q 19)) (C := RX5) (T := TX5) (N := 41) hx hb hts iX5 hown hK.1 hP 0 rfl rfl 19 (by decide) (hts _ fl_RX5_42) (fun _ h => h) rfl dX5_isSteady_95 ?_
          refine lv_iload (pc := 98) hx hb dX5_isSteady_98 (lv_at hl 8 rfl) ?_
          obtain ⟨h30, hf⟩ := ck_some hf
          refine va_iald (pc := 100) (f := om.2.2 19) hx hb hK.1 hP 10 0 rfl rfl h30 dX5_isSteady_100 ?_
          refine lv_aload_n (pc := 101) hx hb dX5_isSteady_101 rfl (lv_at hl 3 rfl) ?_
          refine va_get (pc := 102) (D := D) (ci := 5) (v := .ref (q 17)) (C := RX5) (T := TX5) (N := 41) hx hb hts iX5 hown hK.1 hP 0 rfl rfl 17 (by decide) (hts _ fl_RX5_36) (fun _ h => h) rfl dX5_isSteady_102 ?_
          refine lv_iload (pc := 105) hx hb dX5_isSteady_105 (lv_at hl 8 rfl) ?_
          obtain ⟨h31, hf⟩ := ck_some hf
          refine va_iald (pc := 107) (f := om.2.2 17) hx hb hK.1 hP 8 0 rfl rfl h31 dX5_isSteady_107 ?_
          refine lv_imul (pc := 108) hx hb dX5_isSteady_108 ?_
          refine lv_aload_n (pc := 109) hx hb dX5_isSteady_109 rfl (lv_at hl 3 rfl) ?_
          refine va_get (pc := 110) (D := D) (ci := 5) (v := .ref (q 17)) (C := RX5) (T := TX5) (N := 41) hx hb hts iX5 hown hK.1 hP 0 rfl rfl 17 (by decide) (hts _ fl_RX5_36) (fun _ h => h) rfl dX5_isSteady_110 ?_
          refine lv_iload (pc := 113) hx hb dX5_isSteady_113 (lv_at hl 8 rfl) ?_
          obtain ⟨h32, hf⟩ := ck_some hf
          refine va_iald (pc := 115) (f := om.2.2 17) hx hb hK.1 hP 8 0 rfl rfl h32 dX5_isSteady_115 ?_
          refine lv_imul (pc := 116) hx hb dX5_isSteady_116 ?_
          refine lv_i2l (pc := 117) hx hb dX5_isSteady_117 rfl ?_
          refine lv_ladd (pc := 118) hx hb dX5_isSteady_118 ?_
          obtain ⟨y33, ey33, hf⟩ := lt_some hf
          refine lv_nmL ey33 ?_
          refine lv_lstore (lv' := [(8, .long y33), (6, .long y29), (4, .long y26), (2, .long y23), (0, .ref a), (1, .int i0), (10, .long v10), (12, .long v12), (14, .int v14)]) (pc := 119) hx hb dX5_isSteady_119 hl (by decide) rfl (fun ls hl => ?_)
          refine lv_lload (pc := 121) hx hb dX5_isSteady_121 (lv_at hl 6 rfl) ?_
          refine lv_aload_n (pc := 123) hx hb dX5_isSteady_123 rfl (lv_at hl 4 rfl) ?_
          refine va_get (pc := 124) (D := D) (ci := 5) (v := .ref (q 19)) (C := RX5) (T := TX5) (N := 41) hx hb hts iX5 hown hK.1 hP 0 rfl rfl 19 (by decide) (hts _ fl_RX5_42) (fun _ h => h) rfl dX5_isSteady_124 ?_
          refine lv_iload (pc := 127) hx hb dX5_isSteady_127 (lv_at hl 8 rfl) ?_
          obtain ⟨h34, hf⟩ := ck_some hf
          refine va_iald (pc := 129) (f := om.2.2 19) hx hb hK.1 hP 10 0 rfl rfl h34 dX5_isSteady_129 ?_
          refine lv_aload_n (pc := 130) hx hb dX5_isSteady_130 rfl (lv_at hl 4 rfl) ?_
          refine va_get (pc := 131) (D := D) (ci := 5) (v := .ref (q 17)) (C := RX5) (T := TX5) (N := 41) hx hb hts iX5 hown hK.1 hP 0 rfl rfl 17 (by decide) (hts _ fl_RX5_36) (fun _ h => h) rfl dX5_isSteady_131 ?_
          refine lv_iload (pc := 134) hx hb dX5_isSteady_134 (lv_at hl 8 rfl) ?_
          obtain ⟨h35, hf⟩ := ck_some hf
          refine va_iald (pc := 136) (f := om.2.2 17) hx hb hK.1 hP 8 0 rfl rfl h35 dX5_isSteady_136 ?_
          refine lv_imul (pc := 137) hx hb dX5_isSteady_137 ?_
          refine lv_aload_n (pc := 138) hx hb dX5_isSteady_138 rfl (lv_at hl 4 rfl) ?_
          refine va_get (pc := 139) (D := D) (ci := 5) (v := .ref (q 18)) (C := RX5) (T := TX5) (N := 41) hx hb hts iX5 hown hK.1 hP 0 rfl rfl 18 (by decide) (hts _ fl_RX5_39) (fun _ h => h) rfl dX5_isSteady_139 ?_
          refine lv_iload (pc := 142) hx hb dX5_isSteady_142 (lv_at hl 8 rfl) ?_
          obtain ⟨h36, hf⟩ := ck_some hf
          refine va_iald (pc := 144) (f := om.2.2 18) hx hb hK.1 hP 9 0 rfl rfl h36 dX5_isSteady_144 ?_
          refine lv_imul (pc := 145) hx hb dX5_isSteady_145 ?_
          refine lv_i2l (pc := 146) hx hb dX5_isSteady_146 rfl ?_
          refine lv_ladd (pc := 147) hx hb dX5_isSteady_147 ?_
          obtain ⟨y37, ey37, hf⟩ := lt_some hf
          refine lv_nmL ey37 ?_
          refine lv_lstore (lv' := [(10, .long y37), (8, .long y33), (6, .long y29), (4, .long y26), (2, .long y23), (0, .ref a), (1, .int i0), (12, .long v12), (14, .int v14)]) (pc := 148) hx hb dX5_isSteady_148 hl (by decide) rfl (fun ls hl => ?_)
          refine lv_lload (pc := 150) hx hb dX5_isSteady_150 (lv_at hl 7 rfl) ?_
          refine lv_aload_n (pc := 152) hx hb dX5_isSteady_152 rfl (lv_at hl 5 rfl) ?_
          refine va_get (pc := 153) (D := D) (ci := 5) (v := .ref (q 19)) (C := RX5) (T := TX5) (N := 41) hx hb hts iX5 hown hK.1 hP 0 rfl rfl 19 (by decide) (hts _ fl_RX5_42) (fun _ h => h) rfl dX5_isSteady_153 ?_
          refine lv_iload (pc := 156) hx hb dX5_isSteady_156 (lv_at hl 8 rfl) ?_
          obtain ⟨h38, hf⟩ := ck_some hf
          refine va_iald (pc := 158) (f := om.2.2 19) hx hb hK.1 hP 10 0 rfl rfl h38 dX5_isSteady_158 ?_
          refine lv_aload_n (pc := 159) hx hb dX5_isSteady_159 rfl (lv_at hl 5 rfl) ?_
          refine va_get (pc := 160) (D := D) (ci := 5) (v := .ref (q 18)) (C := RX5) (T := TX5) (N := 41) hx hb hts iX5 hown hK.1 hP 0 rfl rfl 18 (by decide) (hts _ fl_RX5_39) (fun _ h => h) rfl dX5_isSteady_160 ?_
          refine lv_iload (pc := 163) hx hb dX5_isSteady_163 (lv_at hl 8 rfl) ?_
          obtain ⟨h39, hf⟩ := ck_some hf
          refine va_iald (pc := 165) (f := om.2.2 18) hx hb hK.1 hP 9 0 rfl rfl h39 dX5_isSteady_165 ?_
          refine lv_imul (pc := 166) hx hb dX5_isSteady_166 ?_
          refine lv_aload_n (pc := 167) hx hb dX5_isSteady_167 rfl (lv_at hl 5 rfl) ?_
          refine va_get (pc := 168) (D := D) (ci := 5) (v := .ref (q 18)) (C := RX5) (T := TX5) (N := 41) hx hb hts iX5 hown hK.1 hP 0 rfl rfl 18 (by decide) (hts _ fl_RX5_39) (fun _ h => h) rfl dX5_isSteady_168 ?_
          refine lv_iload (pc := 171) hx hb dX5_isSteady_171 (lv_at hl 8 rfl) ?_
          obtain ⟨h40, hf⟩ := ck_some hf
          refine va_iald (pc := 173) (f := om.2.2 18) hx hb hK.1 hP 9 0 rfl rfl h40 dX5_isSteady_173 ?_
          refine lv_imul (pc := 174) hx hb dX5_isSteady_174 ?_
          refine lv_i2l (pc := 175) hx hb dX5_isSteady_175 rfl ?_
          refine lv_ladd (pc := 176) hx hb dX5_isSteady_176 ?_
          obtain ⟨y41, ey41, hf⟩ := lt_some hf
          refine lv_nmL ey41 ?_
          refine lv_lstore (lv' := [(12, .long y41), (10, .long y37), (8, .long y33), (6, .long y29), (4, .long y26), (2, .long y23), (0, .ref a), (1, .int i0), (14, .int v14)]) (pc := 177) hx hb dX5_isSteady_177 hl (by decide) rfl (fun ls hl => ?_)
          refine lv_iinc (v := (v14 + 1)) (lv' := [(14, .int (v14 + 1)), (12, .long y41), (10, .long y37), (8, .long y33), (6, .long y29), (4, .long y26), (2, .long y23), (0, .ref a), (1, .int i0)]) (pc := 179) hx hb dX5_isSteady_179 hl (k := 8) rfl rfl (by decide) rfl (fun ls hl => ?_)
          refine lv_goto (pc := 182) (tgt := 20) hx hb dX5_isSteady_182 (by decide) ?_
          exact ih _ _ _ _ _ _ _ H locs ls hf hP hD hS (lv_sub hl [7, 8, 6, 5, 4, 3, 2, 1, 0] rfl)
  exact KL3 1000 _ _ _ _ _ _ _ H locs ls hz1 hP hD hS (lv_sub hl [7, 8, 6, 5, 4, 3, 2, 1, 0] rfl)
def f_X5_pressAt (i0 : Int32) (i1 : Int32) (om : OS) : Option Int64 := some (((om.2.1 30) + ((om.2.1 31) * i0.toInt64)) + ((om.2.1 32) * i1.toInt64))
set_option maxHeartbeats 4000000 in
set_option maxRecDepth 100000 in
theorem c_X5_pressAt (l : Launch) (D : va_G) (cI cZ cS : ClassId) (a : Nat) (q : Nat → Nat) (i0 : Int32) (i1 : Int32) (om : OS) (x : Int64) (hf : f_X5_pressAt i0 i1 om = some x) : Ct l yX5_pressAt cX5_pressAt 3 (some .long) 0 0 D cI cZ cS [.ref a, .int i0, .int i1] (bX5 cI cZ a q om) (some (.long x)) (bX5 cI cZ a q om) := by
  intro sz
  refine Met.ofW (cc := cX5_pressAt) (maxL := 3) (ret := (some .long)) (by decide +kernel) rfl ?_
  intro p e s m args below meth c s₁ B hml hv
  obtain ⟨rfl, hsz, hP, hK, hD0⟩ := hv
  have hx := B.exec
  have hb := B.bytes
  have hr := B.returns
  have hts0 := atoms_spec (ws := .code yX5_pressAt cX5_pressAt 3 (some .long) :: TB) B.pre
  have hts := fun w (h : w ∈ TB) => hts0 w (List.mem_cons_of_mem _ h)
  have hown : s.vm.findClass RX5 = some m.cls := findClass_of_methodNamed B.named
  have hlocks := B.notSynchronized
  subst hsz
  have hD := hD0.self (sz := s.heap.size)
  generalize hAe : va_A (bX5 cI cZ a q om) s.heap.size = A at hD ⊢
  have hA : ∀ q : Nat, s.heap.size ≤ q → A q := fun q h => by rw [← hAe]; exact Or.inr h
  have hS : va_S A s.heap s.heap [] := va_S.rf
  obtain ⟨H, hH⟩ : ∃ H, H = s.heap := ⟨_, rfl⟩
  rw [← hH] at hP
  have hS : va_S A s.heap H [] := by rw [hH]; exact hS
  have hl := lv_entry ([.ref a, .int i0, .int i1]) (n := 3) (Nat.le_of_ble_eq_true rfl)
  rw [lg_entry_eq]
  generalize (lg_sl ([.ref a, .int i0, .int i1]) ++ List.replicate (3 - (lg_sl ([.ref a, .int i0, .int i1])).length) Slot.unset).toArray = ls at hl ⊢
  have hl : lv_has ls 3 [(0, .ref a), (1, .int i0), (2, .int i1)] := hl
  refine W_heap hH ?_
  obtain ⟨locs, hlo⟩ : ∃ locs : List Loc, locs = [] := ⟨_, rfl⟩
  rw [← hlo] at hS ⊢
  unfold f_X5_pressAt at hf
  refine lv_aload_n (pc := 0) hx hb dX5_pressAt_0 rfl (lv_at hl 0 rfl) ?_
  refine va_get (pc := 1) (D := D) (ci := 5) (v := .long (om.2.1 30)) (C := RX5) (T := TX5) (N := 41) hx hb hts iX5 hown hK.1 hP 0 rfl rfl 30 (by decide) (hts _ fl_RX5_177) (fun _ h => h) rfl dX5_pressAt_1 ?_
  refine lv_aload_n (pc := 4) hx hb dX5_pressAt_4 rfl (lv_at hl 0 rfl) ?_
  refine va_get (pc := 5) (D := D) (ci := 5) (v := .long (om.2.1 31)) (C := RX5) (T := TX5) (N := 41) hx hb hts iX5 hown hK.1 hP 0 rfl rfl 31 (by decide) (hts _ fl_RX5_180) (fun _ h => h) rfl dX5_pressAt_5 ?_
  refine lv_iload_n (pc := 8) hx hb dX5_pressAt_8 rfl (lv_at hl 1 rfl) ?_
  refine lv_i2l (pc := 9) hx hb dX5_pressAt_9 rfl ?_
  refine lv_lmul (pc := 10) hx hb dX5_pressAt_10 ?_
  refine lv_ladd (pc := 11) hx hb dX5_pressAt_11 ?_
  refine lv_aload_n (pc := 12) hx hb dX5_pressAt_12 rfl (lv_at hl 0 rfl) ?_
  refine va_get (pc := 13) (D := D) (ci := 5) (v := .long (om.2.1 32)) (C := RX5) (T := TX5) (N := 41) hx hb hts iX5 hown hK.1 hP 0 rfl rfl 32 (by decide) (hts _ fl_RX5_183) (fun _ h => h) rfl dX5_pressAt_13 ?_
  refine lv_iload_n (pc := 16) hx hb dX5_pressAt_16 rfl (lv_at hl 2 rfl) ?_
  refine lv_i2l (pc := 17) hx hb dX5_pressAt_17 rfl ?_
  refine lv_lmul (pc := 18) hx hb dX5_pressAt_18 ?_
  refine lv_ladd (pc := 19) hx hb dX5_pressAt_19 ?_
  obtain rfl := Option.some.inj hf
  exact W.lret hx hb hr (fun t ht hW => ⟨rfl, by rw [ht]; exact hP, hD, hS.F ht⟩) hS.2.2 dX5_pressAt_20
def f_X5_bears (i0 : Int32) (om : OS) : Option Int64 := if (((om.1 26) >>> (i0 &&& 31)) &&& 1) = 1 then ck i0 9 (ck i0 9 (ck i0 9 (Option.bind (f_X5_pressAt (om.2.2 17 (i0 : Int32).toNatClampNeg) (om.2.2 18 (i0 : Int32).toNatClampNeg) om) fun x5 => some ((((om.2.2 19 (i0 : Int32).toNatClampNeg) : Int32).toInt64) * x5)))) else some 0
set_option maxHeartbeats 4000000 in
set_option maxRecDepth 100000 in
theorem c_X5_bears (l : Launch) (D : va_G) (cI cZ cS : ClassId) (a : Nat) (q : Nat → Nat) (i0 : Int32) (om : OS) (x : Int64) (hf : f_X5_bears i0 om = some x) : Ct l yX5_bears cX5_bears 2 (some .long) 1 22 D cI cZ cS [.ref a, .int i0] (bX5 cI cZ a q om) (some (.long x)) (bX5 cI cZ a q om) := by
  intro sz
  refine Met.ofW (cc := cX5_bears) (maxL := 2) (ret := (some .long)) (by decide +kernel) rfl ?_
  intro p e s m args below meth c s₁ B hml hv
  obtain ⟨rfl, hsz, hP, hK, hD0⟩ := hv
  have hx := B.exec
  have hb := B.bytes
  have hr := B.returns
  have hts0 := atoms_spec (ws := .code yX5_bears cX5_bears 2 (some .long) :: TB) B.pre
  have hts := fun w (h : w ∈ TB) => hts0 w (List.mem_cons_of_mem _ h)
  have hown : s.vm.findClass RX5 = some m.cls := findClass_of_methodNamed B.named
  have hlocks := B.notSynchronized
  subst hsz
  have hD := hD0.self (sz := s.heap.size)
  generalize hAe : va_A (bX5 cI cZ a q om) s.heap.size = A at hD ⊢
  have hA : ∀ q : Nat, s.heap.size ≤ q → A q := fun q h => by rw [← hAe]; exact Or.inr h
  have hS : va_S A s.heap s.heap [] := va_S.rf
  obtain ⟨H, hH⟩ : ∃ H, H = s.heap := ⟨_, rfl⟩
  rw [← hH] at hP
  have hS : va_S A s.heap H [] := by rw [hH]; exact hS
  have hl := lv_entry ([.ref a, .int i0]) (n := 2) (Nat.le_of_ble_eq_true rfl)
  rw [lg_entry_eq]
  generalize (lg_sl ([.ref a, .int i0]) ++ List.replicate (2 - (lg_sl ([.ref a, .int i0])).length) Slot.unset).toArray = ls at hl ⊢
  have hl : lv_has ls 2 [(0, .ref a), (1, .int i0)] := hl
  refine W_heap hH ?_
  obtain ⟨locs, hlo⟩ : ∃ locs : List Loc, locs = [] := ⟨_, rfl⟩
  rw [← hlo] at hS ⊢
  unfold f_X5_bears at hf
  refine lv_aload_n (pc := 0) hx hb dX5_bears_0 rfl (lv_at hl 0 rfl) ?_
  refine va_get (pc := 1) (D := D) (ci := 5) (v := .int (om.1 26)) (C := RX5) (T := TX5) (N := 41) hx hb hts iX5 hown hK.1 hP 0 rfl rfl 26 (by decide) (hts _ fl_RX5_186) (fun _ h => h) rfl dX5_bears_1 ?_
  refine lv_iload_n (pc := 4) hx hb dX5_bears_4 rfl (lv_at hl 1 rfl) ?_
  refine lv_ishr (pc := 5) hx hb dX5_bears_5 ?_
  refine lv_iconst (v := 1) (pc := 6) hx hb dX5_bears_6 (by decide) ?_
  refine lv_iand (pc := 7) hx hb dX5_bears_7 ?_
  refine lv_iconst (v := 1) (pc := 8) hx hb dX5_bears_8 (by decide) ?_
  refine lv_icmp_ne (pc := 9) (tgt := 39) hx hb dX5_bears_9 (by decide) (fun c1 => ?_) (fun c1 => ?_)
  · replace hf := im c1 hf
    refine lv_lconst (v := 0) (pc := 39) hx hb dX5_bears_39 (by decide) ?_
    obtain rfl := Option.some.inj hf
    exact W.lret hx hb hr (fun t ht hW => ⟨rfl, by rw [ht]; exact hP, hD, hS.F ht⟩) hS.2.2 dX5_bears_40
  · replace hf := ip c1 hf
    refine lv_aload_n (pc := 12) hx hb dX5_bears_12 rfl (lv_at hl 0 rfl) ?_
    refine va_get (pc := 13) (D := D) (ci := 5) (v := .ref (q 19)) (C := RX5) (T := TX5) (N := 41) hx hb hts iX5 hown hK.1 hP 0 rfl rfl 19 (by decide) (hts _ fl_RX5_42) (fun _ h => h) rfl dX5_bears_13 ?_
    refine lv_iload_n (pc := 16) hx hb dX5_bears_16 rfl (lv_at hl 1 rfl) ?_
    obtain ⟨h2, hf⟩ := ck_some hf
    refine va_iald (pc := 17) (f := om.2.2 19) hx hb hK.1 hP 10 0 rfl rfl h2 dX5_bears_17 ?_
    refine lv_i2l (pc := 18) hx hb dX5_bears_18 rfl ?_
    refine lv_aload_n (pc := 19) hx hb dX5_bears_19 rfl (lv_at hl 0 rfl) ?_
    refine lv_aload_n (pc := 20) hx hb dX5_bears_20 rfl (lv_at hl 0 rfl) ?_
    refine va_get (pc := 21) (D := D) (ci := 5) (v := .ref (q 17)) (C := RX5) (T := TX5) (N := 41) hx hb hts iX5 hown hK.1 hP 0 rfl rfl 17 (by decide) (hts _ fl_RX5_36) (fun _ h => h) rfl dX5_bears_21 ?_
    refine lv_iload_n (pc := 24) hx hb dX5_bears_24 rfl (lv_at hl 1 rfl) ?_
    obtain ⟨h3, hf⟩ := ck_some hf
    refine va_iald (pc := 25) (f := om.2.2 17) hx hb hK.1 hP 8 0 rfl rfl h3 dX5_bears_25 ?_
    refine lv_aload_n (pc := 26) hx hb dX5_bears_26 rfl (lv_at hl 0 rfl) ?_
    refine va_get (pc := 27) (D := D) (ci := 5) (v := .ref (q 18)) (C := RX5) (T := TX5) (N := 41) hx hb hts iX5 hown hK.1 hP 0 rfl rfl 18 (by decide) (hts _ fl_RX5_39) (fun _ h => h) rfl dX5_bears_27 ?_
    refine lv_iload_n (pc := 30) hx hb dX5_bears_30 rfl (lv_at hl 1 rfl) ?_
    obtain ⟨h4, hf⟩ := ck_some hf
    refine va_iald (pc := 31) (f := om.2.2 18) hx hb hK.1 hP 9 0 rfl rfl h4 dX5_bears_31 ?_
    obtain ⟨x5, ex5, hf⟩ := bd_some hf
    refine ct_V1 (pc := 32) (As := [.int (om.2.2 17 (i0 : Int32).toNatClampNeg), .int (om.2.2 18 (i0 : Int32).toNatClampNeg)]) (rest := [.long (((om.2.2 19 (i0 : Int32).toNatClampNeg) : Int32).toInt64)]) (W1 := bX5 cI cZ a q om) ⟨hx, hb, hml, hown, hts⟩ hK (c_X5_pressAt l D cI cZ cS a q (om.2.2 17 (i0 : Int32).toNatClampNeg) (om.2.2 18 (i0 : Int32).toNatClampNeg) om x5 ex5) gv_RX5_189 rfl hs_X5_pressAt rfl ⟨Nat.le_of_ble_eq_true rfl, Nat.le_of_ble_eq_true rfl⟩ (ci := 5) (q0 := 0) rfl rfl rfl hl.1 rfl (Nat.le_of_ble_eq_true rfl) dX5_bears_32 ⟨Nat.zero_le _, Nat.zero_le _⟩ hP hD hS hA (fun H locs hP hD hS => ?_)
    refine lv_lmul (pc := 35) hx hb dX5_bears_35 ?_
    refine lv_goto (pc := 36) (tgt := 40) hx hb dX5_bears_36 (by decide) ?_
    obtain rfl := Option.some.inj hf
    exact W.lret hx hb hr (fun t ht hW => ⟨rfl, by rw [ht]; exact hP, hD, hS.F ht⟩) hS.2.2 dX5_bears_40
def lp_X5_goesOut_5 (u_M : OS) : Nat → Int32 → Int32 → Option (Int32 × Int32)
  | 0, _, _ => none
  | n + 1, v1, v2 => if (u_M.1 21) ≤ v2 then some (v1, v2) else if (((u_M.1 26) >>> (v2 &&& 31)) &&& 1) = 1 then Option.bind (f_X5_bears v2 u_M) fun x6 => if 0 ≤ x6 then lp_X5_goesOut_5 u_M n v1 (v2 + 1) else if v1 = (-9) then lp_X5_goesOut_5 u_M n v2 (v2 + 1) else Option.bind (f_X5_bears v2 u_M) fun x9 => Option.bind (f_X5_bears v1 u_M) fun x10 => if x10 ≤ x9 then lp_X5_goesOut_5 u_M n v1 (v2 + 1) else lp_X5_goesOut_5 u_M n v2 (v2 + 1) else lp_X5_goesOut_5 u_M n v1 (v2 + 1)
def f_X5_goesOut (om : OS) : Option Int32 := Option.bind (lp_X5_goesOut_5 om 1000 (-9) 0) fun z1 => some z1.1
set_option maxHeartbeats 4000000 in
set_option maxRecDepth 100000 in
theorem c_X5_goesOut (l : Launch) (D : va_G) (cI cZ cS : ClassId) (a : Nat) (q : Nat → Nat) (om : OS) (x : Int32) (hf : f_X5_goesOut om = some x) : Ct l yX5_goesOut cX5_goesOut 3 (some .int) 2 43 D cI cZ cS [.ref a] (bX5 cI cZ a q om) (some (.int x)) (bX5 cI cZ a q om) := by
  intro sz
  refine Met.ofW (cc := cX5_goesOut) (maxL := 3) (ret := (some .int)) (by decide +kernel) rfl ?_
  intro p e s m args below meth c s₁ B hml hv
  obtain ⟨rfl, hsz, hP, hK, hD0⟩ := hv
  have hx := B.exec
  have hb := B.bytes
  have hr := B.returns
  have hts0 := atoms_spec (ws := .code yX5_goesOut cX5_goesOut 3 (some .int) :: TB) B.pre
  have hts := fun w (h : w ∈ TB) => hts0 w (List.mem_cons_of_mem _ h)
  have hown : s.vm.findClass RX5 = some m.cls := findClass_of_methodNamed B.named
  have hlocks := B.notSynchronized
  subst hsz
  have hD := hD0.self (sz := s.heap.size)
  generalize hAe : va_A (bX5 cI cZ a q om) s.heap.size = A at hD ⊢
  have hA : ∀ q : Nat, s.heap.size ≤ q → A q := fun q h => by rw [← hAe]; exact Or.inr h
  have hS : va_S A s.heap s.heap [] := va_S.rf
  obtain ⟨H, hH⟩ : ∃ H, H = s.heap := ⟨_, rfl⟩
  rw [← hH] at hP
  have hS : va_S A s.heap H [] := by rw [hH]; exact hS
  have hl := lv_entry ([.ref a]) (n := 3) (Nat.le_of_ble_eq_true rfl)
  rw [lg_entry_eq]
  generalize (lg_sl ([.ref a]) ++ List.replicate (3 - (lg_sl ([.ref a])).length) Slot.unset).toArray = ls at hl ⊢
  have hl : lv_has ls 3 [(0, .ref a)] := hl
  refine W_heap hH ?_
  obtain ⟨locs, hlo⟩ : ∃ locs : List Loc, locs = [] := ⟨_, rfl⟩
  rw [← hlo] at hS ⊢
  unfold f_X5_goesOut at hf
  refine lv_bipush (v := -9) (pc := 0) hx hb dX5_goesOut_0 (by decide) ?_
  refine lv_istore_n (lv' := [(1, .int (-9)), (0, .ref a)]) (pc := 2) hx hb dX5_goesOut_2 rfl hl (by decide) rfl (fun ls hl => ?_)
  refine lv_iconst (v := 0) (pc := 3) hx hb dX5_goesOut_3 (by decide) ?_
  refine lv_istore_n (lv' := [(2, .int 0), (1, .int (-9)), (0, .ref a)]) (pc := 4) hx hb dX5_goesOut_4 rfl hl (by decide) rfl (fun ls hl => ?_)
  obtain ⟨z1, hz1, hf⟩ := bd_some hf
  have hfz1 := hf
  clear hf
  have K2 : ∀ (H : Heap) (locs : List Loc) (ls : Array Slot), va_P D vwCl (bX5 cI cZ a q om) H → va_D A (bX5 cI cZ a q om) → va_S A s.heap H locs → lv_has ls 3 [(0, .ref a), (1, .int z1.1), (2, .int z1.2)] → GW l yX5_goesOut cX5_goesOut 3 (some .int) 2 43 D [.ref a] (some (.int x)) (bX5 cI cZ a q om) A p e s m below meth c H locs (F0 m 63 ls []) := by
    intro H locs ls hP hD hS hl
    have hf := hfz1
    refine lv_iload_n (pc := 63) hx hb dX5_goesOut_63 rfl (lv_at hl 1 rfl) ?_
    obtain rfl := Option.some.inj hf
    exact W.iret hx hb hr (fun t ht hW => ⟨rfl, by rw [ht]; exact hP, hD, hS.F ht⟩) hS.2.2 dX5_goesOut_64
  have KL3 : ∀ (n : Nat) (v1 : Int32) (v2 : Int32) (H : Heap) (locs : List Loc) (ls : Array Slot), lp_X5_goesOut_5 om n v1 v2 = some z1 → va_P D vwCl (bX5 cI cZ a q om) H → va_D A (bX5 cI cZ a q om) → va_S A s.heap H locs → lv_has ls 3 [(0, .ref a), (1, .int v1), (2, .int v2)] → GW l yX5_goesOut cX5_goesOut 3 (some .int) 2 43 D [.ref a] (some (.int x)) (bX5 cI cZ a q om) A p e s m below meth c H locs (F0 m 5 ls []) := by
    intro n
    induction n with
    | zero => intro v1 v2 H locs ls hf; cases hf
    | succ n ih =>
      intro v1 v2 H locs ls hf hP hD hS hl
      rw [lp_X5_goesOut_5] at hf
      refine lv_iload_n (pc := 5) hx hb dX5_goesOut_5 rfl (lv_at hl 2 rfl) ?_
      refine lv_aload_n (pc := 6) hx hb dX5_goesOut_6 rfl (lv_at hl 0 rfl) ?_
      refine va_get (pc := 7) (D := D) (ci := 5) (v := .int (om.1 21)) (C := RX5) (T := TX5) (N := 41) hx hb hts iX5 hown hK.1 hP 0 rfl rfl 21 (by decide) (hts _ fl_RX5_150) (fun _ h => h) rfl dX5_goesOut_7 ?_
      refine lv_icmp_ge (pc := 10) (tgt := 63) hx hb dX5_goesOut_10 (by decide) (fun c4 => ?_) (fun c4 => ?_)
      · replace hf := ip c4 hf
        obtain rfl := Option.some.inj hf
        exact K2 H locs ls hP hD hS (lv_sub hl [0, 1, 2] rfl)
      · replace hf := im c4 hf
        refine lv_aload_n (pc := 13) hx hb dX5_goesOut_13 rfl (lv_at hl 0 rfl) ?_
        refine va_get (pc := 14) (D := D) (ci := 5) (v := .int (om.1 26)) (C := RX5) (T := TX5) (N := 41) hx hb hts iX5 hown hK.1 hP 0 rfl rfl 26 (by decide) (hts _ fl_RX5_186) (fun _ h => h) rfl dX5_goesOut_14 ?_
        refine lv_iload_n (pc := 17) hx hb dX5_goesOut_17 rfl (lv_at hl 2 rfl) ?_
        refine lv_ishr (pc := 18) hx hb dX5_goesOut_18 ?_
        refine lv_iconst (v := 1) (pc := 19) hx hb dX5_goesOut_19 (by decide) ?_
        refine lv_iand (pc := 20) hx hb dX5_goesOut_20 ?_
        refine lv_iconst (v := 1) (pc := 21) hx hb dX5_goesOut_21 (by decide) ?_
        refine lv_icmp_ne (pc := 22) (tgt := 57) hx hb dX5_goesOut_22 (by decide) (fun c5 => ?_) (fun c5 => ?_)
        · replace hf := im c5 hf
          refine lv_iinc (v := (v2 + 1)) (lv' := [(2, .int (v2 + 1)), (0, .ref a), (1, .int v1)]) (pc := 57) hx hb dX5_goesOut_57 hl (k := 2) rfl rfl (by decide) rfl (fun ls hl => ?_)
          refine lv_goto (pc := 60) (tgt := 5) hx hb dX5_goesOut_60 (by decide) ?_
          exact ih _ _ H locs ls hf hP hD hS (lv_sub hl [1, 2, 0] rfl)
        · replace hf := ip c5 hf
          refine lv_aload_n (pc := 25) hx hb dX5_goesOut_25 rfl (lv_at hl 0 rfl) ?_
          refine lv_iload_n (pc := 26) hx hb dX5_goesOut_26 rfl (lv_at hl 2 rfl) ?_
          obtain ⟨x6, ex6, hf⟩ := bd_some hf
          refine ct_V1 (pc := 27) (As := [.int v2]) (rest := []) (W1 := bX5 cI cZ a q om) ⟨hx, hb, hml, hown, hts⟩ hK (c_X5_bears l D cI cZ cS a q v2 om x6 ex6) gv_RX5_193 rfl hs_X5_bears rfl ⟨Nat.le_of_ble_eq_true rfl, Nat.le_of_ble_eq_true rfl⟩ (ci := 5) (q0 := 0) rfl rfl rfl hl.1 rfl (Nat.le_of_ble_eq_true rfl) dX5_goesOut_27 ⟨Nat.zero_le _, Nat.zero_le _⟩ hP hD hS hA (fun H locs hP hD hS => ?_)
          refine lv_lconst (v := 0) (pc := 30) hx hb dX5_goesOut_30 (by decide) ?_
          refine W.lcmp (pc := 31) hx hb dX5_goesOut_31 ?_
          refine lv_if_ge (pc := 32) (tgt := 57) hx hb dX5_goesOut_32 (by decide) (fun c7 => ?_) (fun c7 => ?_)
          · replace c7 := (lg_cmp_ge _ _).mp c7
            replace hf := ip c7 hf
            refine lv_iinc (v := (v2 + 1)) (lv' := [(2, .int (v2 + 1)), (0, .ref a), (1, .int v1)]) (pc := 57) hx hb dX5_goesOut_57 hl (k := 2) rfl rfl (by decide) rfl (fun ls hl => ?_)
            refine lv_goto (pc := 60) (tgt := 5) hx hb dX5_goesOut_60 (by decide) ?_
            exact ih _ _ H locs ls hf hP hD hS (lv_sub hl [1, 2, 0] rfl)
          · replace c7 := fun q => c7 ((lg_cmp_ge _ _).mpr q)
            replace hf := im c7 hf
            refine lv_iload_n (pc := 35) hx hb dX5_goesOut_35 rfl (lv_at hl 1 rfl) ?_
            refine lv_bipush (v := -9) (pc := 36) hx hb dX5_goesOut_36 (by decide) ?_
            refine lv_icmp_eq (pc := 38) (tgt := 55) hx hb dX5_goesOut_38 (by decide) (fun c8 => ?_) (fun c8 => ?_)
            · replace hf := ip c8 hf
              refine lv_iload_n (pc := 55) hx hb dX5_goesOut_55 rfl (lv_at hl 2 rfl) ?_
              refine lv_istore_n (lv' := [(1, .int v2), (0, .ref a), (2, .int v2)]) (pc := 56) hx hb dX5_goesOut_56 rfl hl (by decide) rfl (fun ls hl => ?_)
              refine lv_iinc (v := (v2 + 1)) (lv' := [(2, .int (v2 + 1)), (1, .int v2), (0, .ref a)]) (pc := 57) hx hb dX5_goesOut_57 hl (k := 2) rfl rfl (by decide) rfl (fun ls hl => ?_)
              refine lv_goto (pc := 60) (tgt := 5) hx hb dX5_goesOut_60 (by decide) ?_
              exact ih _ _ H locs ls hf hP hD hS (lv_sub hl [2, 1, 0] rfl)
            · replace hf := im c8 hf
              refine lv_aload_n (pc := 41) hx hb dX5_goesOut_41 rfl (lv_at hl 0 rfl) ?_
              refine lv_iload_n (pc := 42) hx hb dX5_goesOut_42 rfl (lv_at hl 2 rfl) ?_
              obtain ⟨x9, ex9, hf⟩ := bd_some hf
              refine ct_V1 (pc := 43) (As := [.int v2]) (rest := []) (W1 := bX5 cI cZ a q om) ⟨hx, hb, hml, hown, hts⟩ hK (c_X5_bears l D cI cZ cS a q v2 om x9 ex9) gv_RX5_193 rfl hs_X5_bears rfl ⟨Nat.le_of_ble_eq_true rfl, Nat.le_of_ble_eq_true rfl⟩ (ci := 5) (q0 := 0) rfl rfl rfl hl.1 rfl (Nat.le_of_ble_eq_true rfl) dX5_goesOut_43 ⟨Nat.zero_le _, Nat.zero_le _⟩ hP hD hS hA (fun H locs hP hD hS => ?_)
              refine lv_aload_n (pc := 46) hx hb dX5_goesOut_46 rfl (lv_at hl 0 rfl) ?_
              refine lv_iload_n (pc := 47) hx hb dX5_goesOut_47 rfl (lv_at hl 1 rfl) ?_
              obtain ⟨x10, ex10, hf⟩ := bd_some hf
              refine ct_V1 (pc := 48) (As := [.int v1]) (rest := [.long x9]) (W1 := bX5 cI cZ a q om) ⟨hx, hb, hml, hown, hts⟩ hK (c_X5_bears l D cI cZ cS a q v1 om x10 ex10) gv_RX5_193 rfl hs_X5_bears rfl ⟨Nat.le_of_ble_eq_true rfl, Nat.le_of_ble_eq_true rfl⟩ (ci := 5) (q0 := 0) rfl rfl rfl hl.1 rfl (Nat.le_of_ble_eq_true rfl) dX5_goesOut_48 ⟨Nat.zero_le _, Nat.zero_le _⟩ hP hD hS hA (fun H locs hP hD hS => ?_)
              refine W.lcmp (pc := 51) hx hb dX5_goesOut_51 ?_
              refine lv_if_ge (pc := 52) (tgt := 57) hx hb dX5_goesOut_52 (by decide) (fun c11 => ?_) (fun c11 => ?_)
              · replace c11 := (lg_cmp_ge _ _).mp c11
                replace hf := ip c11 hf
                refine lv_iinc (v := (v2 + 1)) (lv' := [(2, .int (v2 + 1)), (0, .ref a), (1, .int v1)]) (pc := 57) hx hb dX5_goesOut_57 hl (k := 2) rfl rfl (by decide) rfl (fun ls hl => ?_)
                refine lv_goto (pc := 60) (tgt := 5) hx hb dX5_goesOut_60 (by decide) ?_
                exact ih _ _ H locs ls hf hP hD hS (lv_sub hl [1, 2, 0] rfl)
              · replace c11 := fun q => c11 ((lg_cmp_ge _ _).mpr q)
                replace hf := im c11 hf
                refine lv_iload_n (pc := 55) hx hb dX5_goesOut_55 rfl (lv_at hl 2 rfl) ?_
                refine lv_istore_n (lv' := [(1, .int v2), (0, .ref a), (2, .int v2)]) (pc := 56) hx hb dX5_goesOut_56 rfl hl (by decide) rfl (fun ls hl => ?_)
                refine lv_iinc (v := (v2 + 1)) (lv' := [(2, .int (v2 + 1)), (1, .int v2), (0, .ref a)]) (pc := 57) hx hb dX5_goesOut_57 hl (k := 2) rfl rfl (by decide) rfl (fun ls hl => ?_)
                refine lv_goto (pc := 60) (tgt := 5) hx hb dX5_goesOut_60 (by decide) ?_
                exact ih _ _ H locs ls hf hP hD hS (lv_sub hl [2, 1, 0] rfl)
  exact KL3 1000 _ _ H locs ls hz1 hP hD hS (lv_sub hl [2, 1, 0] rfl)
def lp_X5_comesIn_5 (u_M : OS) : Nat → Int32 → Int32 → Option (Int32 × Int32)
  | 0, _, _ => none
  | n + 1, v1, v2 => if (u_M.1 21) ≤ v2 then some (v1, v2) else ck v2 9 (ck v2 9 (Option.bind (f_X5_pressAt (u_M.2.2 17 (v2 : Int32).toNatClampNeg) (u_M.2.2 18 (v2 : Int32).toNatClampNeg) u_M) fun x7 => if (((u_M.1 22) >>> (v2 &&& 31)) &&& 1) = 1 then if (((u_M.1 26) >>> (v2 &&& 31)) &&& 1) = 0 then if x7 ≤ 0 then lp_X5_comesIn_5 u_M n v1 (v2 + 1) else if v1 = (-9) then lp_X5_comesIn_5 u_M n v2 (v2 + 1) else ck v1 9 (ck v1 9 (Option.bind (f_X5_pressAt (u_M.2.2 17 (v1 : Int32).toNatClampNeg) (u_M.2.2 18 (v1 : Int32).toNatClampNeg) u_M) fun x14 => if x7 ≤ x14 then lp_X5_comesIn_5 u_M n v1 (v2 + 1) else lp_X5_comesIn_5 u_M n v2 (v2 + 1))) else lp_X5_comesIn_5 u_M n v1 (v2 + 1) else lp_X5_comesIn_5 u_M n v1 (v2 + 1)))
def f_X5_comesIn (om : OS) : Option Int32 := Option.bind (lp_X5_comesIn_5 om 1000 (-9) 0) fun z1 => some z1.1
set_option maxHeartbeats 4000000 in
set_option maxRecDepth 100000 in
theorem c_X5_comesIn (l : Launch) (D : va_G) (cI cZ cS : ClassId) (a : Nat) (q : Nat → Nat) (om : OS) (x : Int32) (hf : f_X5_comesIn om = some x) : Ct l yX5_comesIn cX5_comesIn 5 (some .int) 1 22 D cI cZ cS [.ref a] (bX5 cI cZ a q om) (some (.int x)) (bX5 cI cZ a q om) := by
  intro sz
  refine Met.ofW (cc := cX5_comesIn) (maxL := 5) (ret := (some .int)) (by decide +kernel) rfl ?_
  intro p e s m args below meth c s₁ B hml hv
  obtain ⟨rfl, hsz, hP, hK, hD0⟩ := hv
  have hx := B.exec
  have hb := B.bytes
  have hr := B.returns
  have hts0 := atoms_spec (ws := .code yX5_comesIn cX5_comesIn 5 (some .int) :: TB) B.pre
  have hts := fun w (h : w ∈ TB) => hts0 w (List.mem_cons_of_mem _ h)
  have hown : s.vm.findClass RX5 = some m.cls := findClass_of_methodNamed B.named
  have hlocks := B.notSynchronized
  subst hsz
  have hD := hD0.self (sz := s.heap.size)
  generalize hAe : va_A (bX5 cI cZ a q om) s.heap.size = A at hD ⊢
  have hA : ∀ q : Nat, s.heap.size ≤ q → A q := fun q h => by rw [← hAe]; exact Or.inr h
  have hS : va_S A s.heap s.heap [] := va_S.rf
  obtain ⟨H, hH⟩ : ∃ H, H = s.heap := ⟨_, rfl⟩
  rw [← hH] at hP
  have hS : va_S A s.heap H [] := by rw [hH]; exact hS
  have hl := lv_entry ([.ref a]) (n := 5) (Nat.le_of_ble_eq_true rfl)
  rw [lg_entry_eq]
  generalize (lg_sl ([.ref a]) ++ List.replicate (5 - (lg_sl ([.ref a])).length) Slot.unset).toArray = ls at hl ⊢
  have hl : lv_has ls 5 [(0, .ref a)] := hl
  refine W_heap hH ?_
  obtain ⟨locs, hlo⟩ : ∃ locs : List Loc, locs = [] := ⟨_, rfl⟩
  rw [← hlo] at hS ⊢
  unfold f_X5_comesIn at hf
  refine lv_bipush (v := -9) (pc := 0) hx hb dX5_comesIn_0 (by decide) ?_
  refine lv_istore_n (lv' := [(1, .int (-9)), (0, .ref a)]) (pc := 2) hx hb dX5_comesIn_2 rfl hl (by decide) rfl (fun ls hl => ?_)
  refine lv_iconst (v := 0) (pc := 3) hx hb dX5_comesIn_3 (by decide) ?_
  refine lv_istore_n (lv' := [(2, .int 0), (1, .int (-9)), (0, .ref a)]) (pc := 4) hx hb dX5_comesIn_4 rfl hl (by decide) rfl (fun ls hl => ?_)
  obtain ⟨z1, hz1, hf⟩ := bd_some hf
  have hfz1 := hf
  clear hf
  have K2 : ∀ (H : Heap) (locs : List Loc) (ls : Array Slot), va_P D vwCl (bX5 cI cZ a q om) H → va_D A (bX5 cI cZ a q om) → va_S A s.heap H locs → lv_has ls 5 [(0, .ref a), (1, .int z1.1), (2, .int z1.2)] → GW l yX5_comesIn cX5_comesIn 5 (some .int) 1 22 D [.ref a] (some (.int x)) (bX5 cI cZ a q om) A p e s m below meth c H locs (F0 m 94 ls []) := by
    intro H locs ls hP hD hS hl
    have hf := hfz1
    refine lv_iload_n (pc := 94) hx hb dX5_comesIn_94 rfl (lv_at hl 1 rfl) ?_
    obtain rfl := Option.some.inj hf
    exact W.iret hx hb hr (fun t ht hW => ⟨rfl, by rw [ht]; exact hP, hD, hS.F ht⟩) hS.2.2 dX5_comesIn_95
  have KL3 : ∀ (n : Nat) (v1 : Int32) (v2 : Int32) (H : Heap) (locs : List Loc) (ls : Array Slot), lp_X5_comesIn_5 om n v1 v2 = some z1 → va_P D vwCl (bX5 cI cZ a q om) H → va_D A (bX5 cI cZ a q om) → va_S A s.heap H locs → lv_has ls 5 [(0, .ref a), (1, .int v1), (2, .int v2)] → GW l yX5_comesIn cX5_comesIn 5 (some .int) 1 22 D [.ref a] (some (.int x)) (bX5 cI cZ a q om) A p e s m below meth c H locs (F0 m 5 ls []) := by
    intro n
    induction n with
    | zero => intro v1 v2 H locs ls hf; cases hf
    | succ n ih =>
      intro v1 v2 H locs ls hf hP hD hS hl
      rw [lp_X5_comesIn_5] at hf
      refine lv_iload_n (pc := 5) hx hb dX5_comesIn_5 rfl (lv_at hl 2 rfl) ?_
      refine lv_aload_n (pc := 6) hx hb dX5_comesIn_6 rfl (lv_at hl 0 rfl) ?_
      refine va_get (pc := 7) (D := D) (ci := 5) (v := .int (om.1 21)) (C := RX5) (T := TX5) (N := 41) hx hb hts iX5 hown hK.1 hP 0 rfl rfl 21 (by decide) (hts _ fl_RX5_150) (fun _ h => h) rfl dX5_comesIn_7 ?_
      refine lv_icmp_ge (pc := 10) (tgt := 94) hx hb dX5_comesIn_10 (by decide) (fun c4 => ?_) (fun c4 => ?_)
      · replace hf := ip c4 hf
        obtain rfl := Option.some.inj hf
        exact K2 H locs ls hP hD hS (lv_sub hl [0, 1, 2] rfl)
      · replace hf := im c4 hf
        refine lv_aload_n (pc := 13) hx hb dX5_comesIn_13 rfl (lv_at hl 0 rfl) ?_
        refine lv_aload_n (pc := 14) hx hb dX5_comesIn_14 rfl (lv_at hl 0 rfl) ?_
        refine va_get (pc := 15) (D := D) (ci := 5) (v := .ref (q 17)) (C := RX5) (T := TX5) (N := 41) hx hb hts iX5 hown hK.1 hP 0 rfl rfl 17 (by decide) (hts _ fl_RX5_36) (fun _ h => h) rfl dX5_comesIn_15 ?_
        refine lv_iload_n (pc := 18) hx hb dX5_comesIn_18 rfl (lv_at hl 2 rfl) ?_
        obtain ⟨h5, hf⟩ := ck_some hf
        refine va_iald (pc := 19) (f := om.2.2 17) hx hb hK.1 hP 8 0 rfl rfl h5 dX5_comesIn_19 ?_
        refine lv_aload_n (pc := 20) hx hb dX5_comesIn_20 rfl (lv_at hl 0 rfl) ?_
        refine va_get (pc := 21) (D := D) (ci := 5) (v := .ref (q 18)) (C := RX5) (T := TX5) (N := 41) hx hb hts iX5 hown hK.1 hP 0 rfl rfl 18 (by decide) (hts _ fl_RX5_39) (fun _ h => h) rfl dX5_comesIn_21 ?_
        refine lv_iload_n (pc := 24) hx hb dX5_comesIn_24 rfl (lv_at hl 2 rfl) ?_
        obtain ⟨h6, hf⟩ := ck_some hf
        refine va_iald (pc := 25) (f := om.2.2 18) hx hb hK.1 hP 9 0 rfl rfl h6 dX5_comesIn_25 ?_
        obtain ⟨x7, ex7, hf⟩ := bd_some hf
        refine ct_V1 (pc := 26) (As := [.int (om.2.2 17 (v2 : Int32).toNatClampNeg), .int (om.2.2 18 (v2 : Int32).toNatClampNeg)]) (rest := []) (W1 := bX5 cI cZ a q om) ⟨hx, hb, hml, hown, hts⟩ hK (c_X5_pressAt l D cI cZ cS a q (om.2.2 17 (v2 : Int32).toNatClampNeg) (om.2.2 18 (v2 : Int32).toNatClampNeg) om x7 ex7) gv_RX5_189 rfl hs_X5_pressAt rfl ⟨Nat.le_of_ble_eq_true rfl, Nat.le_of_ble_eq_true rfl⟩ (ci := 5) (q0 := 0) rfl rfl rfl hl.1 rfl (Nat.le_of_ble_eq_true rfl) dX5_comesIn_26 ⟨Nat.zero_le _, Nat.zero_le _⟩ hP hD hS hA (fun H locs hP hD hS => ?_)
        refine lv_lstore_n (lv' := [(3, .long x7), (0, .ref a), (1, .int v1), (2, .int v2)]) (pc := 29) hx hb dX5_comesIn_29 rfl hl (by decide) rfl (fun ls hl => ?_)
        refine lv_aload_n (pc := 30) hx hb dX5_comesIn_30 rfl (lv_at hl 1 rfl) ?_
        refine va_get (pc := 31) (D := D) (ci := 5) (v := .int (om.1 22)) (C := RX5) (T := TX5) (N := 41) hx hb hts iX5 hown hK.1 hP 0 rfl rfl 22 (by decide) (hts _ fl_RX5_153) (fun _ h => h) rfl dX5_comesIn_31 ?_
        refine lv_iload_n (pc := 34) hx hb dX5_comesIn_34 rfl (lv_at hl 3 rfl) ?_
        refine lv_ishr (pc := 35) hx hb dX5_comesIn_35 ?_
        refine lv_iconst (v := 1) (pc := 36) hx hb dX5_comesIn_36 (by decide) ?_
        refine lv_iand (pc := 37) hx hb dX5_comesIn_37 ?_
        refine lv_iconst (v := 1) (pc := 38) hx hb dX5_comesIn_38 (by decide) ?_
        refine lv_icmp_ne (pc := 39) (tgt := 88) hx hb dX5_comesIn_39 (by decide) (fun c8 => ?_) (fun c8 => ?_)
        · replace hf := im c8 hf
          refine lv_iinc (v := (v2 + 1)) (lv' := [(2, .int (v2 + 1)), (3, .long x7), (0, .ref a), (1, .int v1)]) (pc := 88) hx hb dX5_comesIn_88 hl (k := 3) rfl rfl (by decide) rfl (fun ls hl => ?_)
          refine lv_goto (pc := 91) (tgt := 5) hx hb dX5_comesIn_91 (by decide) ?_
          exact ih _ _ H locs ls hf hP hD hS (lv_sub hl [2, 3, 0] rfl)
        · replace hf := ip c8 hf
          refine lv_aload_n (pc := 42) hx hb dX5_comesIn_42 rfl (lv_at hl 1 rfl) ?_
          refine va_get (pc := 43) (D := D) (ci := 5) (v := .int (om.1 26)) (C := RX5) (T := TX5) (N := 41) hx hb hts iX5 hown hK.1 hP 0 rfl rfl 26 (by decide) (hts _ fl_RX5_186) (fun _ h => h) rfl dX5_comesIn_43 ?_
          refine lv_iload_n (pc := 46) hx hb dX5_comesIn_46 rfl (lv_at hl 3 rfl) ?_
          refine lv_ishr (pc := 47) hx hb dX5_comesIn_47 ?_
          refine lv_iconst (v := 1) (pc := 48) hx hb dX5_comesIn_48 (by decide) ?_
          refine lv_iand (pc := 49) hx hb dX5_comesIn_49 ?_
          refine lv_if_ne (pc := 50) (tgt := 88) hx hb dX5_comesIn_50 (by decide) (fun c9 => ?_) (fun c9 => ?_)
          · replace hf := im c9 hf
            refine lv_iinc (v := (v2 + 1)) (lv' := [(2, .int (v2 + 1)), (3, .long x7), (0, .ref a), (1, .int v1)]) (pc := 88) hx hb dX5_comesIn_88 hl (k := 3) rfl rfl (by decide) rfl (fun ls hl => ?_)
            refine lv_goto (pc := 91) (tgt := 5) hx hb dX5_comesIn_91 (by decide) ?_
            exact ih _ _ H locs ls hf hP hD hS (lv_sub hl [2, 3, 0] rfl)
          · replace hf := ip c9 hf
            refine lv_lload_n (pc := 53) hx hb dX5_comesIn_53 rfl (lv_at hl 0 rfl) ?_
            refine lv_lconst (v := 0) (pc := 54) hx hb dX5_comesIn_54 (by decide) ?_
            refine W.lcmp (pc := 55) hx hb dX5_comesIn_55 ?_
            refine lv_if_le (pc := 56) (tgt := 88) hx hb dX5_comesIn_56 (by decide) (fun c10 => ?_) (fun c10 => ?_)
            · replace c10 := (lg_cmp_le _ _).mp c10
              replace hf := ip c10 hf
              refine lv_iinc (v := (v2 + 1)) (lv' := [(2, .int (v2 + 1)), (3, .long x7), (0, .ref a), (1, .int v1)]) (pc := 88) hx hb dX5_comesIn_88 hl (k := 3) rfl rfl (by decide) rfl (fun ls hl => ?_)
              refine lv_goto (pc := 91) (tgt := 5) hx hb dX5_comesIn_91 (by decide) ?_
              exact ih _ _ H locs ls hf hP hD hS (lv_sub hl [2, 3, 0] rfl)
            · replace c10 := fun q => c10 ((lg_cmp_le _ _).mpr q)
              replace hf := im c10 hf
              refine lv_iload_n (pc := 59) hx hb dX5_comesIn_59 rfl (lv_at hl 2 rfl) ?_
              refine lv_bipush (v := -9) (pc := 60) hx hb dX5_comesIn_60 (by decide) ?_
              refine lv_icmp_eq (pc := 62) (tgt := 86) hx hb dX5_comesIn_62 (by decide) (fun c11 => ?_) (fun c11 => ?_)
              · replace hf := ip c11 hf
                refine lv_iload_n (pc := 86) hx hb dX5_comesIn_86 rfl (lv_at hl 3 rfl) ?_
                refine lv_istore_n (lv' := [(1, .int v2), (3, .long x7), (0, .ref a), (2, .int v2)]) (pc := 87) hx hb dX5_comesIn_87 rfl hl (by decide) rfl (fun ls hl => ?_)
                refine lv_iinc (v := (v2 + 1)) (lv' := [(2, .int (v2 + 1)), (1, .int v2), (3, .long x7), (0, .ref a)]) (pc := 88) hx hb dX5_comesIn_88 hl (k := 3) rfl rfl (by decide) rfl (fun ls hl => ?_)
                refine lv_goto (pc := 91) (tgt := 5) hx hb dX5_comesIn_91 (by decide) ?_
                exact ih _ _ H locs ls hf hP hD hS (lv_sub hl [3, 1, 0] rfl)
              · replace hf := im c11 hf
                refine lv_lload_n (pc := 65) hx hb dX5_comesIn_65 rfl (lv_at hl 0 rfl) ?_
                refine lv_aload_n (pc := 66) hx hb dX5_comesIn_66 rfl (lv_at hl 1 rfl) ?_
                refine lv_aload_n (pc := 67) hx hb dX5_comesIn_67 rfl (lv_at hl 1 rfl) ?_
                refine va_get (pc := 68) (D := D) (ci := 5) (v := .ref (q 17)) (C := RX5) (T := TX5) (N := 41) hx hb hts iX5 hown hK.1 hP 0 rfl rfl 17 (by decide) (hts _ fl_RX5_36) (fun _ h => h) rfl dX5_comesIn_68 ?_
                refine lv_iload_n (pc := 71) hx hb dX5_comesIn_71 rfl (lv_at hl 2 rfl) ?_
                obtain ⟨h12, hf⟩ := ck_some hf
                refine va_iald (pc := 72) (f := om.2.2 17) hx hb hK.1 hP 8 0 rfl rfl h12 dX5_comesIn_72 ?_
                refine lv_aload_n (pc := 73) hx hb dX5_comesIn_73 rfl (lv_at hl 1 rfl) ?_
                refine va_get (pc := 74) (D := D) (ci := 5) (v := .ref (q 18)) (C := RX5) (T := TX5) (N := 41) hx hb hts iX5 hown hK.1 hP 0 rfl rfl 18 (by decide) (hts _ fl_RX5_39) (fun _ h => h) rfl dX5_comesIn_74 ?_
                refine lv_iload_n (pc := 77) hx hb dX5_comesIn_77 rfl (lv_at hl 2 rfl) ?_
                obtain ⟨h13, hf⟩ := ck_some hf
                refine va_iald (pc := 78) (f := om.2.2 18) hx hb hK.1 hP 9 0 rfl rfl h13 dX5_comesIn_78 ?_
                obtain ⟨x14, ex14, hf⟩ := bd_some hf
                refine ct_V1 (pc := 79) (As := [.int (om.2.2 17 (v1 : Int32).toNatClampNeg), .int (om.2.2 18 (v1 : Int32).toNatClampNeg)]) (rest := [.long x7]) (W1 := bX5 cI cZ a q om) ⟨hx, hb, hml, hown, hts⟩ hK (c_X5_pressAt l D cI cZ cS a q (om.2.2 17 (v1 : Int32).toNatClampNeg) (om.2.2 18 (v1 : Int32).toNatClampNeg) om x14 ex14) gv_RX5_189 rfl hs_X5_pressAt rfl ⟨Nat.le_of_ble_eq_true rfl, Nat.le_of_ble_eq_true rfl⟩ (ci := 5) (q0 := 0) rfl rfl rfl hl.1 rfl (Nat.le_of_ble_eq_true rfl) dX5_comesIn_79 ⟨Nat.zero_le _, Nat.zero_le _⟩ hP hD hS hA (fun H locs hP hD hS => ?_)
                refine W.lcmp (pc := 82) hx hb dX5_comesIn_82 ?_
                refine lv_if_le (pc := 83) (tgt := 88) hx hb dX5_comesIn_83 (by decide) (fun c15 => ?_) (fun c15 => ?_)
                · replace c15 := (lg_cmp_le _ _).mp c15
                  replace hf := ip c15 hf
                  refine lv_iinc (v := (v2 + 1)) (lv' := [(2, .int (v2 + 1)), (3, .long x7), (0, .ref a), (1, .int v1)]) (pc := 88) hx hb dX5_comesIn_88 hl (k := 3) rfl rfl (by decide) rfl (fun ls hl => ?_)
                  refine lv_goto (pc := 91) (tgt := 5) hx hb dX5_comesIn_91 (by decide) ?_
                  exact ih _ _ H locs ls hf hP hD hS (lv_sub hl [2, 3, 0] rfl)
                · replace c15 := fun q => c15 ((lg_cmp_le _ _).mpr q)
                  replace hf := im c15 hf
                  refine lv_iload_n (pc := 86) hx hb dX5_comesIn_86 rfl (lv_at hl 3 rfl) ?_
                  refine lv_istore_n (lv' := [(1, .int v2), (3, .long x7), (0, .ref a), (2, .int v2)]) (pc := 87) hx hb dX5_comesIn_87 rfl hl (by decide) rfl (fun ls hl => ?_)
                  refine lv_iinc (v := (v2 + 1)) (lv' := [(2, .int (v2 + 1)), (1, .int v2), (3, .long x7), (0, .ref a)]) (pc := 88) hx hb dX5_comesIn_88 hl (k := 3) rfl rfl (by decide) rfl (fun ls hl => ?_)
                  refine lv_goto (pc := 91) (tgt := 5) hx hb dX5_comesIn_91 (by decide) ?_
                  exact ih _ _ H locs ls hf hP hD hS (lv_sub hl [3, 1, 0] rfl)
  exact KL3 1000 _ _ H locs ls hz1 hP hD hS (lv_sub hl [2, 1, 0] rfl)
def lp_X5_shares_18 : Nat → OS → Option (OS ⊕ OS)
  | 0, _ => none
  | n + 1, w_M => if 40 ≤ (w_M.1 27) then some (.inr w_M) else if (w_M.1 28) = 0 then lt (sI w_M 27 ((w_M.1 27) + 1)) fun o10 => Option.bind (f_X5_isSteady (o10.1 26) o10) fun x11 => if x11.1 = 0 then some (.inl x11.2) else Option.bind (f_X5_goesOut x11.2) fun x13 => Option.bind (if x13 = (-9) then Option.bind (f_X5_comesIn x11.2) fun x22 => some x22 else some (-9) : Option Int32) fun z14 => if x13 = (-9) then if z14 = (-9) then lt (sI x11.2 28 1) fun o18 => lp_X5_shares_18 n o18 else lt (sI x11.2 26 ((x11.2.1 26) ||| (1 <<< (z14 &&& 31)))) fun o19 => lp_X5_shares_18 n o19 else lt (sI x11.2 26 ((x11.2.1 26) &&& ((1 <<< (x13 &&& 31)) ^^^ (-1)))) fun o20 => lp_X5_shares_18 n o20 else some (.inr w_M)
def f_X5_shares (om : OS) : Option OS := lt (sI om 26 (om.1 22)) fun o1 => lt (sI o1 27 0) fun o2 => lt (sI o2 28 0) fun o3 => Option.bind (lp_X5_shares_18 1000 o3) (Sum.elim (fun r => some r) (fun z7 => some z7))
set_option maxHeartbeats 4000000 in
set_option maxRecDepth 100000 in
theorem c_X5_shares (l : Launch) (D : va_G) (cI cZ cS : ClassId) (a : Nat) (q : Nat → Nat) (om : OS) (x : OS) (hf : f_X5_shares om = some x) : Ct l yX5_shares cX5_shares 3 none 3 71 D cI cZ cS [.ref a] (bX5 cI cZ a q om) none (bX5 cI cZ a q x) := by
  intro sz
  refine Met.ofW (cc := cX5_shares) (maxL := 3) (ret := none) (by decide +kernel) rfl ?_
  intro p e s m args below meth c s₁ B hml hv
  obtain ⟨rfl, hsz, hP, hK, hD0⟩ := hv
  have hx := B.exec
  have hb := B.bytes
  have hr := B.returns
  have hts0 := atoms_spec (ws := .code yX5_shares cX5_shares 3 none :: TB) B.pre
  have hts := fun w (h : w ∈ TB) => hts0 w (List.mem_cons_of_mem _ h)
  have hown : s.vm.findClass RX5 = some m.cls := findClass_of_methodNamed B.named
  have hlocks := B.notSynchronized
  subst hsz
  have hD := hD0.self (sz := s.heap.size)
  generalize hAe : va_A (bX5 cI cZ a q om) s.heap.size = A at hD ⊢
  have hA : ∀ q : Nat, s.heap.size ≤ q → A q := fun q h => by rw [← hAe]; exact Or.inr h
  have hS : va_S A s.heap s.heap [] := va_S.rf
  obtain ⟨H, hH⟩ : ∃ H, H = s.heap := ⟨_, rfl⟩
  rw [← hH] at hP
  have hS : va_S A s.heap H [] := by rw [hH]; exact hS
  have hl := lv_entry ([.ref a]) (n := 3) (Nat.le_of_ble_eq_true rfl)
  rw [lg_entry_eq]
  generalize (lg_sl ([.ref a]) ++ List.replicate (3 - (lg_sl ([.ref a])).length) Slot.unset).toArray = ls at hl ⊢
  have hl : lv_has ls 3 [(0, .ref a)] := hl
  refine W_heap hH ?_
  obtain ⟨locs, hlo⟩ : ∃ locs : List Loc, locs = [] := ⟨_, rfl⟩
  rw [← hlo] at hS ⊢
  unfold f_X5_shares at hf
  refine lv_aload_n (pc := 0) hx hb dX5_shares_0 rfl (lv_at hl 0 rfl) ?_
  refine lv_aload_n (pc := 1) hx hb dX5_shares_1 rfl (lv_at hl 0 rfl) ?_
  refine va_get (pc := 2) (D := D) (ci := 5) (v := .int (om.1 22)) (C := RX5) (T := TX5) (N := 41) hx hb hts iX5 hown hK.1 hP 0 rfl rfl 22 (by decide) (hts _ fl_RX5_153) (fun _ h => h) rfl dX5_shares_2 ?_
  obtain ⟨o1, eo1, hf⟩ := lt_some hf
  refine va_put (pc := 5) (D := D) (ci := 5) (v := .int (om.1 22)) (ty := .int) (C := RX5) (T := TX5) (N := 41) hx hb hts iX5 tyX5 tyX5_ok nmX5 hown hK.1 hP hD hS 0 rfl rfl 26 (by decide) (hts _ fl_RX5_186) (fun _ h => h) rfl (tyX5_ok 26 (by decide)) rfl rfl (Nat.le_of_ble_eq_true rfl) dX5_shares_5 (fun H locs hP hD hS => ?_)
  replace hP : va_P D vwCl (bX5 cI cZ a q o1) H := by rw [eo1]; exact hP
  replace hD : va_D A (bX5 cI cZ a q o1) := by rw [eo1]; exact hD
  refine lv_aload_n (pc := 8) hx hb dX5_shares_8 rfl (lv_at hl 0 rfl) ?_
  refine lv_iconst (v := 0) (pc := 9) hx hb dX5_shares_9 (by decide) ?_
  obtain ⟨o2, eo2, hf⟩ := lt_some hf
  refine va_put (pc := 10) (D := D) (ci := 5) (v := .int 0) (ty := .int) (C := RX5) (T := TX5) (N := 41) hx hb hts iX5 tyX5 tyX5_ok nmX5 hown hK.1 hP hD hS 0 rfl rfl 27 (by decide) (hts _ fl_RX5_196) (fun _ h => h) rfl (tyX5_ok 27 (by decide)) rfl rfl (Nat.le_of_ble_eq_true rfl) dX5_shares_10 (fun H locs hP hD hS => ?_)
  replace hP : va_P D vwCl (bX5 cI cZ a q o2) H := by rw [eo2]; exact hP
  replace hD : va_D A (bX5 cI cZ a q o2) := by rw [eo2]; exact hD
  refine lv_aload_n (pc := 13) hx hb dX5_shares_13 rfl (lv_at hl 0 rfl) ?_
  refine lv_iconst (v := 0) (pc := 14) hx hb dX5_shares_14 (by decide) ?_
  obtain ⟨o3, eo3, hf⟩ := lt_some hf
  refine va_put (pc := 15) (D := D) (ci := 5) (v := .int 0) (ty := .boolean) (C := RX5) (T := TX5) (N := 41) hx hb hts iX5 tyX5 tyX5_ok nmX5 hown hK.1 hP hD hS 0 rfl rfl 28 (by decide) (hts _ fl_RX5_199) (fun _ h => h) rfl (tyX5_ok 28 (by decide)) rfl rfl (Nat.le_of_ble_eq_true rfl) dX5_shares_15 (fun H locs hP hD hS => ?_)
  replace hP : va_P D vwCl (bX5 cI cZ a q o3) H := by rw [eo3]; exact hP
  replace hD : va_D A (bX5 cI cZ a q o3) := by rw [eo3]; exact hD
  obtain ⟨z4, hz4, hf⟩ := bd_some hf
  have hfz4 := hf
  clear hf
  have K5 : ∀ z7, z4 = .inr z7 → ∀ (H : Heap) (locs : List Loc) (ls : Array Slot), va_P D vwCl (bX5 cI cZ a q z7) H → va_D A (bX5 cI cZ a q z7) → va_S A s.heap H locs → lv_has ls 3 [(0, .ref a)] → GW l yX5_shares cX5_shares 3 none 3 71 D [.ref a] none (bX5 cI cZ a q x) A p e s m below meth c H locs (F0 m 129 ls []) := by
    intro z7 hy H locs ls hP hD hS hl
    subst hy
    replace hf := sum_r hfz4
    obtain rfl := Option.some.inj hf
    exact W.vret hx hb hr (fun t ht hW => ⟨rfl, by rw [ht]; exact hP, hD, hS.F ht⟩) hS.2.2 dX5_shares_129
  have KL6 : ∀ (n : Nat) (w_M : OS) (H : Heap) (locs : List Loc) (ls : Array Slot), lp_X5_shares_18 n w_M = some z4 → va_P D vwCl (bX5 cI cZ a q w_M) H → va_D A (bX5 cI cZ a q w_M) → va_S A s.heap H locs → lv_has ls 3 [(0, .ref a)] → GW l yX5_shares cX5_shares 3 none 3 71 D [.ref a] none (bX5 cI cZ a q x) A p e s m below meth c H locs (F0 m 18 ls []) := by
    intro n
    induction n with
    | zero => intro w_M H locs ls hf; cases hf
    | succ n ih =>
      intro w_M H locs ls hf hP hD hS hl
      rw [lp_X5_shares_18] at hf
      refine lv_aload_n (pc := 18) hx hb dX5_shares_18 rfl (lv_at hl 0 rfl) ?_
      refine va_get (pc := 19) (D := D) (ci := 5) (v := .int (w_M.1 27)) (C := RX5) (T := TX5) (N := 41) hx hb hts iX5 hown hK.1 hP 0 rfl rfl 27 (by decide) (hts _ fl_RX5_196) (fun _ h => h) rfl dX5_shares_19 ?_
      refine lv_bipush (v := 40) (pc := 22) hx hb dX5_shares_22 (by decide) ?_
      refine lv_icmp_ge (pc := 24) (tgt := 129) hx hb dX5_shares_24 (by decide) (fun c8 => ?_) (fun c8 => ?_)
      · replace hf := ip c8 hf
        obtain rfl := Option.some.inj hf
        exact K5 _ rfl H locs ls hP hD hS (lv_sub hl [0] rfl)
      · replace hf := im c8 hf
        refine lv_aload_n (pc := 27) hx hb dX5_shares_27 rfl (lv_at hl 0 rfl) ?_
        refine va_get (pc := 28) (D := D) (ci := 5) (v := .int (w_M.1 28)) (C := RX5) (T := TX5) (N := 41) hx hb hts iX5 hown hK.1 hP 0 rfl rfl 28 (by decide) (hts _ fl_RX5_199) (fun _ h => h) rfl dX5_shares_28 ?_
        refine lv_if_ne (pc := 31) (tgt := 129) hx hb dX5_shares_31 (by decide) (fun c9 => ?_) (fun c9 => ?_)
        · replace hf := im c9 hf
          obtain rfl := Option.some.inj hf
          exact K5 _ rfl H locs ls hP hD hS (lv_sub hl [0] rfl)
        · replace hf := ip c9 hf
          refine lv_aload_n (pc := 34) hx hb dX5_shares_34 rfl (lv_at hl 0 rfl) ?_
          refine lv_dup (pc := 35) hx hb dX5_shares_35 rfl ?_
          refine va_get (pc := 36) (D := D) (ci := 5) (v := .int (w_M.1 27)) (C := RX5) (T := TX5) (N := 41) hx hb hts iX5 hown hK.1 hP 0 rfl rfl 27 (by decide) (hts _ fl_RX5_196) (fun _ h => h) rfl dX5_shares_36 ?_
          refine lv_iconst (v := 1) (pc := 39) hx hb dX5_shares_39 (by decide) ?_
          refine lv_iadd (pc := 40) hx hb dX5_shares_40 ?_
          obtain ⟨o10, eo10, hf⟩ := lt_some hf
          refine va_put (pc := 41) (D := D) (ci := 5) (v := .int ((w_M.1 27) + 1)) (ty := .int) (C := RX5) (T := TX5) (N := 41) hx hb hts iX5 tyX5 tyX5_ok nmX5 hown hK.1 hP hD hS 0 rfl rfl 27 (by decide) (hts _ fl_RX5_196) (fun _ h => h) rfl (tyX5_ok 27 (by decide)) rfl rfl (Nat.le_of_ble_eq_true rfl) dX5_shares_41 (fun H locs hP hD hS => ?_)
          replace hP : va_P D vwCl (bX5 cI cZ a q o10) H := by rw [eo10]; exact hP
          replace hD : va_D A (bX5 cI cZ a q o10) := by rw [eo10]; exact hD
          refine lv_aload_n (pc := 44) hx hb dX5_shares_44 rfl (lv_at hl 0 rfl) ?_
          refine lv_aload_n (pc := 45) hx hb dX5_shares_45 rfl (lv_at hl 0 rfl) ?_
          refine va_get (pc := 46) (D := D) (ci := 5) (v := .int (o10.1 26)) (C := RX5) (T := TX5) (N := 41) hx hb hts iX5 hown hK.1 hP 0 rfl rfl 26 (by decide) (hts _ fl_RX5_186) (fun _ h => h) rfl dX5_shares_46 ?_
          obtain ⟨x11, ex11, hf⟩ := bd_some hf
          refine ct_V1 (pc := 49) (As := [.int (o10.1 26)]) (rest := []) (W1 := bX5 cI cZ a q x11.2) ⟨hx, hb, hml, hown, hts⟩ hK (c_X5_isSteady l D cI cZ cS a q (o10.1 26) o10 x11 ex11) gv_RX5_202 rfl hs_X5_isSteady rfl ⟨Nat.le_of_ble_eq_true rfl, Nat.le_of_ble_eq_true rfl⟩ (ci := 5) (q0 := 0) rfl rfl rfl hl.1 rfl (Nat.le_of_ble_eq_true rfl) dX5_shares_49 ⟨Nat.zero_le _, Nat.zero_le _⟩ hP hD hS hA (fun H locs hP hD hS => ?_)
          refine lv_if_ne (pc := 52) (tgt := 56) hx hb dX5_shares_52 (by decide) (fun c12 => ?_) (fun c12 => ?_)
          · replace hf := im c12 hf
            refine lv_aload_n (pc := 56) hx hb dX5_shares_56 rfl (lv_at hl 0 rfl) ?_
            obtain ⟨x13, ex13, hf⟩ := bd_some hf
            refine ct_V1 (pc := 57) (As := []) (rest := []) (W1 := bX5 cI cZ a q x11.2) ⟨hx, hb, hml, hown, hts⟩ hK (c_X5_goesOut l D cI cZ cS a q x11.2 x13 ex13) gv_RX5_205 rfl hs_X5_goesOut rfl ⟨Nat.le_of_ble_eq_true rfl, Nat.le_of_ble_eq_true rfl⟩ (ci := 5) (q0 := 0) rfl rfl rfl hl.1 rfl (Nat.le_of_ble_eq_true rfl) dX5_shares_57 ⟨Nat.zero_le _, Nat.zero_le _⟩ hP hD hS hA (fun H locs hP hD hS => ?_)
            refine lv_istore_n (lv' := [(1, .int x13), (0, .ref a)]) (pc := 60) hx hb dX5_shares_60 rfl hl (by decide) rfl (fun ls hl => ?_)
            refine lv_iload_n (pc := 61) hx hb dX5_shares_61 rfl (lv_at hl 0 rfl) ?_
            refine lv_bipush (v := -9) (pc := 62) hx hb dX5_shares_62 (by decide) ?_
            obtain ⟨z14, hz14, hf⟩ := bd_some hf
            have K15 : ∀ (H : Heap) (locs : List Loc) (ls : Array Slot), va_P D vwCl (bX5 cI cZ a q x11.2) H → va_D A (bX5 cI cZ a q x11.2) → va_S A s.heap H locs → lv_has ls 3 [(0, .ref a), (1, .int x13)] → GW l yX5_shares cX5_shares 3 none 3 71 D [.ref a] none (bX5 cI cZ a q x) A p e s m below meth c H locs (F0 m 76 ls [.int z14]) := by
              intro H locs ls hP hD hS hl
              refine lv_istore_n (lv' := [(2, .int z14), (0, .ref a), (1, .int x13)]) (pc := 76) hx hb dX5_shares_76 rfl hl (by decide) rfl (fun ls hl => ?_)
              refine lv_iload_n (pc := 77) hx hb dX5_shares_77 rfl (lv_at hl 2 rfl) ?_
              refine lv_bipush (v := -9) (pc := 78) hx hb dX5_shares_78 (by decide) ?_
              refine lv_icmp_eq (pc := 80) (tgt := 100) hx hb dX5_shares_80 (by decide) (fun c16 => ?_) (fun c16 => ?_)
              · replace hf := ip c16 hf
                refine lv_iload_n (pc := 100) hx hb dX5_shares_100 rfl (lv_at hl 0 rfl) ?_
                refine lv_bipush (v := -9) (pc := 101) hx hb dX5_shares_101 (by decide) ?_
                refine lv_icmp_eq (pc := 103) (tgt := 121) hx hb dX5_shares_103 (by decide) (fun c17 => ?_) (fun c17 => ?_)
                · replace hf := ip c17 hf
                  refine lv_aload_n (pc := 121) hx hb dX5_shares_121 rfl (lv_at hl 1 rfl) ?_
                  refine lv_iconst (v := 1) (pc := 122) hx hb dX5_shares_122 (by decide) ?_
                  obtain ⟨o18, eo18, hf⟩ := lt_some hf
                  refine va_put (pc := 123) (D := D) (ci := 5) (v := .int 1) (ty := .boolean) (C := RX5) (T := TX5) (N := 41) hx hb hts iX5 tyX5 tyX5_ok nmX5 hown hK.1 hP hD hS 0 rfl rfl 28 (by decide) (hts _ fl_RX5_199) (fun _ h => h) rfl (tyX5_ok 28 (by decide)) rfl rfl (Nat.le_of_ble_eq_true rfl) dX5_shares_123 (fun H locs hP hD hS => ?_)
                  replace hP : va_P D vwCl (bX5 cI cZ a q o18) H := by rw [eo18]; exact hP
                  replace hD : va_D A (bX5 cI cZ a q o18) := by rw [eo18]; exact hD
                  refine lv_goto (pc := 126) (tgt := 18) hx hb dX5_shares_126 (by decide) ?_
                  exact ih _ H locs ls hf hP hD hS (lv_sub hl [1] rfl)
                · replace hf := im c17 hf
                  refine lv_aload_n (pc := 106) hx hb dX5_shares_106 rfl (lv_at hl 1 rfl) ?_
                  refine lv_dup (pc := 107) hx hb dX5_shares_107 rfl ?_
                  refine va_get (pc := 108) (D := D) (ci := 5) (v := .int (x11.2.1 26)) (C := RX5) (T := TX5) (N := 41) hx hb hts iX5 hown hK.1 hP 0 rfl rfl 26 (by decide) (hts _ fl_RX5_186) (fun _ h => h) rfl dX5_shares_108 ?_
                  refine lv_iconst (v := 1) (pc := 111) hx hb dX5_shares_111 (by decide) ?_
                  refine lv_iload_n (pc := 112) hx hb dX5_shares_112 rfl (lv_at hl 0 rfl) ?_
                  refine lv_ishl (pc := 113) hx hb dX5_shares_113 ?_
                  refine lv_ior (pc := 114) hx hb dX5_shares_114 ?_
                  obtain ⟨o19, eo19, hf⟩ := lt_some hf
                  refine va_put (pc := 115) (D := D) (ci := 5) (v := .int ((x11.2.1 26) ||| (1 <<< (z14 &&& 31)))) (ty := .int) (C := RX5) (T := TX5) (N := 41) hx hb hts iX5 tyX5 tyX5_ok nmX5 hown hK.1 hP hD hS 0 rfl rfl 26 (by decide) (hts _ fl_RX5_186) (fun _ h => h) rfl (tyX5_ok 26 (by decide)) rfl rfl (Nat.le_of_ble_eq_true rfl) dX5_shares_115 (fun H locs hP hD hS => ?_)
                  replace hP : va_P D vwCl (bX5 cI cZ a q o19) H := by rw [eo19]; exact hP
                  replace hD : va_D A (bX5 cI cZ a q o19) := by rw [eo19]; exact hD
                  refine lv_goto (pc := 118) (tgt := 126) hx hb dX5_shares_118 (by decide) ?_
                  refine lv_goto (pc := 126) (tgt := 18) hx hb dX5_shares_126 (by decide) ?_
                  exact ih _ H locs ls hf hP hD hS (lv_sub hl [1] rfl)
              · replace hf := im c16 hf
                refine lv_aload_n (pc := 83) hx hb dX5_shares_83 rfl (lv_at hl 1 rfl) ?_
                refine lv_dup (pc := 84) hx hb dX5_shares_84 rfl ?_
                refine va_get (pc := 85) (D := D) (ci := 5) (v := .int (x11.2.1 26)) (C := RX5) (T := TX5) (N := 41) hx hb hts iX5 hown hK.1 hP 0 rfl rfl 26 (by decide) (hts _ fl_RX5_186) (fun _ h => h) rfl dX5_shares_85 ?_
                refine lv_iconst (v := 1) (pc := 88) hx hb dX5_shares_88 (by decide) ?_
                refine lv_iload_n (pc := 89) hx hb dX5_shares_89 rfl (lv_at hl 2 rfl) ?_
                refine lv_ishl (pc := 90) hx hb dX5_shares_90 ?_
                refine lv_iconst (v := -1) (pc := 91) hx hb dX5_shares_91 (by decide) ?_
                refine lv_ixor (pc := 92) hx hb dX5_shares_92 ?_
                refine lv_iand (pc := 93) hx hb dX5_shares_93 ?_
                obtain ⟨o20, eo20, hf⟩ := lt_some hf
                refine va_put (pc := 94) (D := D) (ci := 5) (v := .int ((x11.2.1 26) &&& ((1 <<< (x13 &&& 31)) ^^^ (-1)))) (ty := .int) (C := RX5) (T := TX5) (N := 41) hx hb hts iX5 tyX5 tyX5_ok nmX5 hown hK.1 hP hD hS 0 rfl rfl 26 (by decide) (hts _ fl_RX5_186) (fun _ h => h) rfl (tyX5_ok 26 (by decide)) rfl rfl (Nat.le_of_ble_eq_true rfl) dX5_shares_94 (fun H locs hP hD hS => ?_)
                replace hP : va_P D vwCl (bX5 cI cZ a q o20) H := by rw [eo20]; exact hP
                replace hD : va_D A (bX5 cI cZ a q o20) := by rw [eo20]; exact hD
                refine lv_goto (pc := 97) (tgt := 126) hx hb dX5_shares_97 (by decide) ?_
                refine lv_goto (pc := 126) (tgt := 18) hx hb dX5_shares_126 (by decide) ?_
                exact ih _ H locs ls hf hP hD hS (lv_sub hl [1] rfl)
            replace hf := hz14
            refine lv_icmp_ne (pc := 64) (tgt := 74) hx hb dX5_shares_64 (by decide) (fun c21 => ?_) (fun c21 => ?_)
            · replace hf := im c21 hf
              refine lv_bipush (v := -9) (pc := 74) hx hb dX5_shares_74 (by decide) ?_
              obtain rfl := Option.some.inj hf
              exact K15 H locs ls hP hD hS (lv_sub hl [1, 0] rfl)
            · replace hf := ip c21 hf
              refine lv_aload_n (pc := 67) hx hb dX5_shares_67 rfl (lv_at hl 1 rfl) ?_
              obtain ⟨x22, ex22, hf⟩ := bd_some hf
              refine ct_V1 (pc := 68) (As := []) (rest := []) (W1 := bX5 cI cZ a q x11.2) ⟨hx, hb, hml, hown, hts⟩ hK (c_X5_comesIn l D cI cZ cS a q x11.2 x22 ex22) gv_RX5_208 rfl hs_X5_comesIn rfl ⟨Nat.le_of_ble_eq_true rfl, Nat.le_of_ble_eq_true rfl⟩ (ci := 5) (q0 := 0) rfl rfl rfl hl.1 rfl (Nat.le_of_ble_eq_true rfl) dX5_shares_68 ⟨Nat.zero_le _, Nat.zero_le _⟩ hP hD hS hA (fun H locs hP hD hS => ?_)
              refine lv_goto (pc := 71) (tgt := 76) hx hb dX5_shares_71 (by decide) ?_
              obtain rfl := Option.some.inj hf
              exact K15 H locs ls hP hD hS (lv_sub hl [1, 0] rfl)
          · replace hf := ip c12 hf
            obtain rfl := Option.some.inj hf
            replace hfz4 := sum_l hfz4
            obtain rfl := Option.some.inj hfz4
            exact W.vret hx hb hr (fun t ht hW => ⟨rfl, by rw [ht]; exact hP, hD, hS.F ht⟩) hS.2.2 dX5_shares_55
  exact KL6 1000 _ H locs ls hz4 hP hD hS (lv_sub hl [0] rfl)
def f_X5_sharesNow (om : OS) : Option OS := Option.bind (f_X5_laysPiles om) fun x1 => Option.bind (f_X5_laysSums x1) fun x2 => Option.bind (f_X5_shares x2) fun x3 => some x3
set_option maxHeartbeats 4000000 in
set_option maxRecDepth 100000 in
theorem c_X5_sharesNow (l : Launch) (D : va_G) (cI cZ cS : ClassId) (a : Nat) (q : Nat → Nat) (om : OS) (x : OS) (hf : f_X5_sharesNow om = some x) : Ct l yX5_sharesNow cX5_sharesNow 1 none 4 93 D cI cZ cS [.ref a] (bX5 cI cZ a q om) none (bX5 cI cZ a q x) := by
  intro sz
  refine Met.ofW (cc := cX5_sharesNow) (maxL := 1) (ret := none) (by decide +kernel) rfl ?_
  intro p e s m args below meth c s₁ B hml hv
  obtain ⟨rfl, hsz, hP, hK, hD0⟩ := hv
  have hx := B.exec
  have hb := B.bytes
  have hr := B.returns
  have hts0 := atoms_spec (ws := .code yX5_sharesNow cX5_sharesNow 1 none :: TB) B.pre
  have hts := fun w (h : w ∈ TB) => hts0 w (List.mem_cons_of_mem _ h)
  have hown : s.vm.findClass RX5 = some m.cls := findClass_of_methodNamed B.named
  have hlocks := B.notSynchronized
  subst hsz
  have hD := hD0.self (sz := s.heap.size)
  generalize hAe : va_A (bX5 cI cZ a q om) s.heap.size = A at hD ⊢
  have hA : ∀ q : Nat, s.heap.size ≤ q → A q := fun q h => by rw [← hAe]; exact Or.inr h
  have hS : va_S A s.heap s.heap [] := va_S.rf
  obtain ⟨H, hH⟩ : ∃ H, H = s.heap := ⟨_, rfl⟩
  rw [← hH] at hP
  have hS : va_S A s.heap H [] := by rw [hH]; exact hS
  have hl := lv_entry ([.ref a]) (n := 1) (Nat.le_of_ble_eq_true rfl)
  rw [lg_entry_eq]
  generalize (lg_sl ([.ref a]) ++ List.replicate (1 - (lg_sl ([.ref a])).length) Slot.unset).toArray = ls at hl ⊢
  have hl : lv_has ls 1 [(0, .ref a)] := hl
  refine W_heap hH ?_
  obtain ⟨locs, hlo⟩ : ∃ locs : List Loc, locs = [] := ⟨_, rfl⟩
  rw [← hlo] at hS ⊢
  unfold f_X5_sharesNow at hf
  refine lv_aload_n (pc := 0) hx hb dX5_sharesNow_0 rfl (lv_at hl 0 rfl) ?_
  obtain ⟨x1, ex1, hf⟩ := bd_some hf
  refine ct_V1 (pc := 1) (As := []) (rest := []) (W1 := bX5 cI cZ a q x1) ⟨hx, hb, hml, hown, hts⟩ hK (c_X5_laysPiles l D cI cZ cS a q om x1 ex1) gv_RX5_211 rfl hs_X5_laysPiles rfl ⟨Nat.le_of_ble_eq_true rfl, Nat.le_of_ble_eq_true rfl⟩ (ci := 5) (q0 := 0) rfl rfl rfl hl.1 rfl (Nat.le_of_ble_eq_true rfl) dX5_sharesNow_1 ⟨Nat.zero_le _, Nat.zero_le _⟩ hP hD hS hA (fun H locs hP hD hS => ?_)
  refine lv_aload_n (pc := 4) hx hb dX5_sharesNow_4 rfl (lv_at hl 0 rfl) ?_
  obtain ⟨x2, ex2, hf⟩ := bd_some hf
  refine ct_V1 (pc := 5) (As := []) (rest := []) (W1 := bX5 cI cZ a q x2) ⟨hx, hb, hml, hown, hts⟩ hK (c_X5_laysSums l D cI cZ cS a q x1 x2 ex2) gv_RX5_214 rfl hs_X5_laysSums rfl ⟨Nat.le_of_ble_eq_true rfl, Nat.le_of_ble_eq_true rfl⟩ (ci := 5) (q0 := 0) rfl rfl rfl hl.1 rfl (Nat.le_of_ble_eq_true rfl) dX5_sharesNow_5 ⟨Nat.zero_le _, Nat.zero_le _⟩ hP hD hS hA (fun H locs hP hD hS => ?_)
  refine lv_aload_n (pc := 8) hx hb dX5_sharesNow_8 rfl (lv_at hl 0 rfl) ?_
  obtain ⟨x3, ex3, hf⟩ := bd_some hf
  refine ct_V1 (pc := 9) (As := []) (rest := []) (W1 := bX5 cI cZ a q x3) ⟨hx, hb, hml, hown, hts⟩ hK (c_X5_shares l D cI cZ cS a q x2 x3 ex3) gv_RX5_217 rfl hs_X5_shares rfl ⟨Nat.le_of_ble_eq_true rfl, Nat.le_of_ble_eq_true rfl⟩ (ci := 5) (q0 := 0) rfl rfl rfl hl.1 rfl (Nat.le_of_ble_eq_true rfl) dX5_sharesNow_9 ⟨Nat.zero_le _, Nat.zero_le _⟩ hP hD hS hA (fun H locs hP hD hS => ?_)
  obtain rfl := Option.some.inj hf
  exact W.vret hx hb hr (fun t ht hW => ⟨rfl, by rw [ht]; exact hP, hD, hS.F ht⟩) hS.2.2 dX5_sharesNow_12
def lp_X5_common_17 : Nat → Int64 → Int64 → Option (Int64 × Int64)
  | 0, _, _ => none
  | n + 1, v4, v6 => if v6 = 0 then some (v4, v6) else dzL v6 (lp_X5_common_17 n v6 (v4 - v4 / v6 * v6))
def f_X5_common (i0 : Int64) (i1 : Int64) : Option Int64 := Option.bind (if 0 ≤ i0 then some i0 else some (-i0) : Option Int64) fun z1 => Option.bind (lp_X5_common_17 1000 z1 i1) fun z3 => some z3.1
set_option maxHeartbeats 4000000 in
set_option maxRecDepth 100000 in
theorem c_X5_common (l : Launch) (D : va_G) (cI cZ cS : ClassId) (i0 : Int64) (i1 : Int64) (x : Int64) (hf : f_X5_common i0 i1 = some x) : Ct l yX5_common cX5_common 10 (some .long) 0 0 D cI cZ cS [.long i0, .long i1] ([]) (some (.long x)) ([]) := by
  intro sz
  refine Met.ofW (cc := cX5_common) (maxL := 10) (ret := (some .long)) (by decide +kernel) rfl ?_
  intro p e s m args below meth c s₁ B hml hv
  obtain ⟨rfl, hsz, hP, hK, hD0⟩ := hv
  have hx := B.exec
  have hb := B.bytes
  have hr := B.returns
  have hts0 := atoms_spec (ws := .code yX5_common cX5_common 10 (some .long) :: TB) B.pre
  have hts := fun w (h : w ∈ TB) => hts0 w (List.mem_cons_of_mem _ h)
  have hown : s.vm.findClass RX5 = some m.cls := findClass_of_methodNamed B.named
  have hlocks := B.notSynchronized
  subst hsz
  have hD := hD0.self (sz := s.heap.size)
  generalize hAe : va_A ([]) s.heap.size = A at hD ⊢
  have hA : ∀ q : Nat, s.heap.size ≤ q → A q := fun q h => by rw [← hAe]; exact Or.inr h
  have hS : va_S A s.heap s.heap [] := va_S.rf
  obtain ⟨H, hH⟩ : ∃ H, H = s.heap := ⟨_, rfl⟩
  rw [← hH] at hP
  have hS : va_S A s.heap H [] := by rw [hH]; exact hS
  have hl := lv_entry ([.long i0, .long i1]) (n := 10) (Nat.le_of_ble_eq_true rfl)
  rw [lg_entry_eq]
  generalize (lg_sl ([.long i0, .long i1]) ++ List.replicate (10 - (lg_sl ([.long i0, .long i1])).length) Slot.unset).toArray = ls at hl ⊢
  have hl : lv_has ls 10 [(0, .long i0), (2, .long i1)] := hl
  refine W_heap hH ?_
  obtain ⟨locs, hlo⟩ : ∃ locs : List Loc, locs = [] := ⟨_, rfl⟩
  rw [← hlo] at hS ⊢
  unfold f_X5_common at hf
  refine lv_lload_n (pc := 0) hx hb dX5_common_0 rfl (lv_at hl 0 rfl) ?_
  refine lv_lconst (v := 0) (pc := 1) hx hb dX5_common_1 (by decide) ?_
  refine W.lcmp (pc := 2) hx hb dX5_common_2 ?_
  obtain ⟨z1, hz1, hf⟩ := bd_some hf
  have K2 : ∀ (H : Heap) (locs : List Loc) (ls : Array Slot), va_P D vwCl ([]) H → va_D A ([]) → va_S A s.heap H locs → lv_has ls 10 [(0, .long i0), (2, .long i1)] → GW l yX5_common cX5_common 10 (some .long) 0 0 D [.long i0, .long i1] (some (.long x)) ([]) A p e s m below meth c H locs (F0 m 12 ls [.long z1]) := by
    intro H locs ls hP hD hS hl
    refine lv_lstore (lv' := [(4, .long z1), (0, .long i0), (2, .long i1)]) (pc := 12) hx hb dX5_common_12 hl (by decide) rfl (fun ls hl => ?_)
    refine lv_lload_n (pc := 14) hx hb dX5_common_14 rfl (lv_at hl 2 rfl) ?_
    refine lv_lstore (lv' := [(6, .long i1), (4, .long z1), (0, .long i0), (2, .long i1)]) (pc := 15) hx hb dX5_common_15 hl (by decide) rfl (fun ls hl => ?_)
    obtain ⟨z3, hz3, hf⟩ := bd_some hf
    have hfz3 := hf
    clear hf
    have K4 : ∀ (H : Heap) (locs : List Loc) (ls : Array Slot), va_P D vwCl ([]) H → va_D A ([]) → va_S A s.heap H locs → lv_has ls 10 [(0, .long i0), (2, .long i1), (4, .long z3.1), (6, .long z3.2)] → GW l yX5_common cX5_common 10 (some .long) 0 0 D [.long i0, .long i1] (some (.long x)) ([]) A p e s m below meth c H locs (F0 m 42 ls []) := by
      intro H locs ls hP hD hS hl
      have hf := hfz3
      refine lv_lload (pc := 42) hx hb dX5_common_42 (lv_at hl 2 rfl) ?_
      obtain rfl := Option.some.inj hf
      exact W.lret hx hb hr (fun t ht hW => ⟨rfl, by rw [ht]; exact hP, hD, hS.F ht⟩) hS.2.2 dX5_common_44
    have KL5 : ∀ (n : Nat) (v4 : Int64) (v6 : Int64) (H : Heap) (locs : List Loc) (ls : Array Slot), lp_X5_common_17 n v4 v6 = some z3 → va_P D vwCl ([]) H → va_D A ([]) → va_S A s.heap H locs → lv_has ls 10 [(0, .long i0), (2, .long i1), (4, .long v4), (6, .long v6)] → GW l yX5_common cX5_common 10 (some .long) 0 0 D [.long i0, .long i1] (some (.long x)) ([]) A p e s m below meth c H locs (F0 m 17 ls []) := by
      intro n
      induction n with
      | zero => intro v4 v6 H locs ls hf; cases hf
      | succ n ih =>
        intro v4 v6 H locs ls hf hP hD hS hl
        rw [lp_X5_common_17] at hf
        refine lv_lload (pc := 17) hx hb dX5_common_17 (lv_at hl 3 rfl) ?_
        refine lv_lconst (v := 0) (pc := 19) hx hb dX5_common_19 (by decide) ?_
        refine W.lcmp (pc := 20) hx hb dX5_common_20 ?_
        refine lv_if_eq (pc := 21) (tgt := 42) hx hb dX5_common_21 (by decide) (fun c6 => ?_) (fun c6 => ?_)
        · replace c6 := (lg_cmp_eq _ _).mp c6
          replace hf := ip c6 hf
          obtain rfl := Option.some.inj hf
          exact K4 H locs ls hP hD hS (lv_sub hl [0, 1, 2, 3] rfl)
        · replace c6 := fun q => c6 ((lg_cmp_eq _ _).mpr q)
          replace hf := im c6 hf
          refine lv_lload (pc := 24) hx hb dX5_common_24 (lv_at hl 2 rfl) ?_
          refine lv_lload (pc := 26) hx hb dX5_common_26 (lv_at hl 3 rfl) ?_
          obtain ⟨h7, hf⟩ := dzL_some hf
          refine lv_lrem (pc := 28) hx hb dX5_common_28 h7 ?_
          refine lv_lstore (lv' := [(8, .long (v4 - v4 / v6 * v6)), (0, .long i0), (2, .long i1), (4, .long v4), (6, .long v6)]) (pc := 29) hx hb dX5_common_29 hl (by decide) rfl (fun ls hl => ?_)
          refine lv_lload (pc := 31) hx hb dX5_common_31 (lv_at hl 4 rfl) ?_
          refine lv_lstore (lv' := [(4, .long v6), (8, .long (v4 - v4 / v6 * v6)), (0, .long i0), (2, .long i1), (6, .long v6)]) (pc := 33) hx hb dX5_common_33 hl (by decide) rfl (fun ls hl => ?_)
          refine lv_lload (pc := 35) hx hb dX5_common_35 (lv_at hl 1 rfl) ?_
          refine lv_lstore (lv' := [(6, .long (v4 - v4 / v6 * v6)), (4, .long v6), (8, .long (v4 - v4 / v6 * v6)), (0, .long i0), (2, .long i1)]) (pc := 37) hx hb dX5_common_37 hl (by decide) rfl (fun ls hl => ?_)
          refine lv_goto (pc := 39) (tgt := 17) hx hb dX5_common_39 (by decide) ?_
          exact ih _ _ H locs ls hf hP hD hS (lv_sub hl [3, 4, 1, 0] rfl)
    exact KL5 1000 _ _ H locs ls hz3 hP hD hS (lv_sub hl [2, 3, 1, 0] rfl)
  replace hf := hz1
  refine lv_if_ge (pc := 3) (tgt := 11) hx hb dX5_common_3 (by decide) (fun c8 => ?_) (fun c8 => ?_)
  · replace c8 := (lg_cmp_ge _ _).mp c8
    replace hf := ip c8 hf
    refine lv_lload_n (pc := 11) hx hb dX5_common_11 rfl (lv_at hl 0 rfl) ?_
    obtain rfl := Option.some.inj hf
    exact K2 H locs ls hP hD hS (lv_sub hl [0, 1] rfl)
  · replace c8 := fun q => c8 ((lg_cmp_ge _ _).mpr q)
    replace hf := im c8 hf
    refine lv_lload_n (pc := 6) hx hb dX5_common_6 rfl (lv_at hl 0 rfl) ?_
    refine lv_lneg (pc := 7) hx hb dX5_common_7 ?_
    refine lv_goto (pc := 8) (tgt := 12) hx hb dX5_common_8 (by decide) ?_
    obtain rfl := Option.some.inj hf
    exact K2 H locs ls hP hD hS (lv_sub hl [0, 1] rfl)
def f_X5_part (i0 : Int64) (i1 : Int64) (i2 : Int32) : Option Int64 := Option.bind (f_X5_common i0 i1) fun x1 => if i2 = 0 then dzL x1 (some (i0 / x1)) else dzL x1 (some (i1 / x1))
set_option maxHeartbeats 4000000 in
set_option maxRecDepth 100000 in
theorem c_X5_part (l : Launch) (D : va_G) (cI cZ cS : ClassId) (i0 : Int64) (i1 : Int64) (i2 : Int32) (x : Int64) (hf : f_X5_part i0 i1 i2 = some x) : Ct l yX5_part cX5_part 7 (some .long) 1 29 D cI cZ cS [.long i0, .long i1, .int i2] ([]) (some (.long x)) ([]) := by
  intro sz
  refine Met.ofW (cc := cX5_part) (maxL := 7) (ret := (some .long)) (by decide +kernel) rfl ?_
  intro p e s m args below meth c s₁ B hml hv
  obtain ⟨rfl, hsz, hP, hK, hD0⟩ := hv
  have hx := B.exec
  have hb := B.bytes
  have hr := B.returns
  have hts0 := atoms_spec (ws := .code yX5_part cX5_part 7 (some .long) :: TB) B.pre
  have hts := fun w (h : w ∈ TB) => hts0 w (List.mem_cons_of_mem _ h)
  have hown : s.vm.findClass RX5 = some m.cls := findClass_of_methodNamed B.named
  have hlocks := B.notSynchronized
  subst hsz
  have hD := hD0.self (sz := s.heap.size)
  generalize hAe : va_A ([]) s.heap.size = A at hD ⊢
  have hA : ∀ q : Nat, s.heap.size ≤ q → A q := fun q h => by rw [← hAe]; exact Or.inr h
  have hS : va_S A s.heap s.heap [] := va_S.rf
  obtain ⟨H, hH⟩ : ∃ H, H = s.heap := ⟨_, rfl⟩
  rw [← hH] at hP
  have hS : va_S A s.heap H [] := by rw [hH]; exact hS
  have hl := lv_entry ([.long i0, .long i1, .int i2]) (n := 7) (Nat.le_of_ble_eq_true rfl)
  rw [lg_entry_eq]
  generalize (lg_sl ([.long i0, .long i1, .int i2]) ++ List.replicate (7 - (lg_sl ([.long i0, .long i1, .int i2])).length) Slot.unset).toArray = ls at hl ⊢
  have hl : lv_has ls 7 [(0, .long i0), (2, .long i1), (4, .int i2)] := hl
  refine W_heap hH ?_
  obtain ⟨locs, hlo⟩ : ∃ locs : List Loc, locs = [] := ⟨_, rfl⟩
  rw [← hlo] at hS ⊢
  unfold f_X5_part at hf
  refine lv_lload_n (pc := 0) hx hb dX5_part_0 rfl (lv_at hl 0 rfl) ?_
  refine lv_lload_n (pc := 1) hx hb dX5_part_1 rfl (lv_at hl 1 rfl) ?_
  obtain ⟨x1, ex1, hf⟩ := bd_some hf
  refine ct_S0 (pc := 2) (As := [.long i0, .long i1]) (rest := []) ⟨hx, hb, hml, hown, hts⟩ hK (c_X5_common l D cI cZ cS i0 i1 x1 ex1) gs_RX5_220 hs_X5_common rfl ⟨Nat.le_of_ble_eq_true rfl, Nat.le_of_ble_eq_true rfl⟩ hl.1 rfl (Nat.le_of_ble_eq_true rfl) dX5_part_2 ⟨Nat.zero_le _, Nat.zero_le _⟩ hP hS hA (fun H locs hP hS => ?_)
  refine lv_lstore (lv' := [(5, .long x1), (0, .long i0), (2, .long i1), (4, .int i2)]) (pc := 5) hx hb dX5_part_5 hl (by decide) rfl (fun ls hl => ?_)
  refine lv_iload (pc := 7) hx hb dX5_part_7 (lv_at hl 3 rfl) ?_
  refine lv_if_ne (pc := 9) (tgt := 16) hx hb dX5_part_9 (by decide) (fun c2 => ?_) (fun c2 => ?_)
  · replace hf := im c2 hf
    refine lv_lload_n (pc := 16) hx hb dX5_part_16 rfl (lv_at hl 2 rfl) ?_
    refine lv_lload (pc := 17) hx hb dX5_part_17 (lv_at hl 0 rfl) ?_
    obtain ⟨h3, hf⟩ := dzL_some hf
    refine lv_ldiv (pc := 19) hx hb dX5_part_19 h3 ?_
    obtain rfl := Option.some.inj hf
    exact W.lret hx hb hr (fun t ht hW => ⟨rfl, by rw [ht]; exact hP, hD, hS.F ht⟩) hS.2.2 dX5_part_20
  · replace hf := ip c2 hf
    refine lv_lload_n (pc := 12) hx hb dX5_part_12 rfl (lv_at hl 1 rfl) ?_
    refine lv_goto (pc := 13) (tgt := 17) hx hb dX5_part_13 (by decide) ?_
    refine lv_lload (pc := 17) hx hb dX5_part_17 (lv_at hl 0 rfl) ?_
    obtain ⟨h4, hf⟩ := dzL_some hf
    refine lv_ldiv (pc := 19) hx hb dX5_part_19 h4 ?_
    obtain rfl := Option.some.inj hf
    exact W.lret hx hb hr (fun t ht hW => ⟨rfl, by rw [ht]; exact hP, hD, hS.F ht⟩) hS.2.2 dX5_part_20
def lp_X5_against_17 : Nat → Int64 → Int64 → Int64 → Int64 → Int32 → Option (Int32 ⊕ (Int64 × Int64 × Int64 × Int64 × Int32))
  | 0, _, _, _, _, _ => none
  | n + 1, v8, v10, v12, v14, v16 => dzL v10 (dzL v14 (if (v8 / v10) = (v12 / v14) then dzL v10 (dzL v14 (if (v8 - v8 / v10 * v10) = 0 then some (.inr ((v8 - v8 / v10 * v10), v10, (v12 - v12 / v14 * v14), v14, v16)) else if (v12 - v12 / v14 * v14) = 0 then some (.inr ((v8 - v8 / v10 * v10), v10, (v12 - v12 / v14 * v14), v14, v16)) else lp_X5_against_17 n v10 (v8 - v8 / v10 * v10) v14 (v12 - v12 / v14 * v14) (-v16))) else if (v12 / v14) ≤ (v8 / v10) then some (.inl v16) else some (.inl (-v16))))
def f_X5_against (i0 : Int64) (i1 : Int64) (i2 : Int64) (i3 : Int64) : Option Int32 := Option.bind (lp_X5_against_17 1000 i0 i1 i2 i3 1) (Sum.elim (fun r => some r) (fun z4 => if z4.1 = z4.2.2.1 then some 0 else if z4.1 = 0 then some (-z4.2.2.2.2) else some z4.2.2.2.2))
set_option maxHeartbeats 4000000 in
set_option maxRecDepth 100000 in
theorem c_X5_against (l : Launch) (D : va_G) (cI cZ cS : ClassId) (i0 : Int64) (i1 : Int64) (i2 : Int64) (i3 : Int64) (x : Int32) (hf : f_X5_against i0 i1 i2 i3 = some x) : Ct l yX5_against cX5_against 23 (some .int) 0 0 D cI cZ cS [.long i0, .long i1, .long i2, .long i3] ([]) (some (.int x)) ([]) := by
  intro sz
  refine Met.ofW (cc := cX5_against) (maxL := 23) (ret := (some .int)) (by decide +kernel) rfl ?_
  intro p e s m args below meth c s₁ B hml hv
  obtain ⟨rfl, hsz, hP, hK, hD0⟩ := hv
  have hx := B.exec
  have hb := B.bytes
  have hr := B.returns
  have hts0 := atoms_spec (ws := .code yX5_against cX5_against 23 (some .int) :: TB) B.pre
  have hts := fun w (h : w ∈ TB) => hts0 w (List.mem_cons_of_mem _ h)
  have hown : s.vm.findClass RX5 = some m.cls := findClass_of_methodNamed B.named
  have hlocks := B.notSynchronized
  subst hsz
  have hD := hD0.self (sz := s.heap.size)
  generalize hAe : va_A ([]) s.heap.size = A at hD ⊢
  have hA : ∀ q : Nat, s.heap.size ≤ q → A q := fun q h => by rw [← hAe]; exact Or.inr h
  have hS : va_S A s.heap s.heap [] := va_S.rf
  obtain ⟨H, hH⟩ : ∃ H, H = s.heap := ⟨_, rfl⟩
  rw [← hH] at hP
  have hS : va_S A s.heap H [] := by rw [hH]; exact hS
  have hl := lv_entry ([.long i0, .long i1, .long i2, .long i3]) (n := 23) (Nat.le_of_ble_eq_true rfl)
  rw [lg_entry_eq]
  generalize (lg_sl ([.long i0, .long i1, .long i2, .long i3]) ++ List.replicate (23 - (lg_sl ([.long i0, .long i1, .long i2, .long i3])).length) Slot.unset).toArray = ls at hl ⊢
  have hl : lv_has ls 23 [(0, .long i0), (2, .long i1), (4, .long i2), (6, .long i3)] := hl
  refine W_heap hH ?_
  obtain ⟨locs, hlo⟩ : ∃ locs : List Loc, locs = [] := ⟨_, rfl⟩
  rw [← hlo] at hS ⊢
  unfold f_X5_against at hf
  refine lv_lload_n (pc := 0) hx hb dX5_against_0 rfl (lv_at hl 0 rfl) ?_
  refine lv_lstore (lv' := [(8, .long i0), (0, .long i0), (2, .long i1), (4, .long i2), (6, .long i3)]) (pc := 1) hx hb dX5_against_1 hl (by decide) rfl (fun ls hl => ?_)
  refine lv_lload_n (pc := 3) hx hb dX5_against_3 rfl (lv_at hl 2 rfl) ?_
  refine lv_lstore (lv' := [(10, .long i1), (8, .long i0), (0, .long i0), (2, .long i1), (4, .long i2), (6, .long i3)]) (pc := 4) hx hb dX5_against_4 hl (by decide) rfl (fun ls hl => ?_)
  refine lv_lload (pc := 6) hx hb dX5_against_6 (lv_at hl 4 rfl) ?_
  refine lv_lstore (lv' := [(12, .long i2), (10, .long i1), (8, .long i0), (0, .long i0), (2, .long i1), (4, .long i2), (6, .long i3)]) (pc := 8) hx hb dX5_against_8 hl (by decide) rfl (fun ls hl => ?_)
  refine lv_lload (pc := 10) hx hb dX5_against_10 (lv_at hl 6 rfl) ?_
  refine lv_lstore (lv' := [(14, .long i3), (12, .long i2), (10, .long i1), (8, .long i0), (0, .long i0), (2, .long i1), (4, .long i2), (6, .long i3)]) (pc := 12) hx hb dX5_against_12 hl (by decide) rfl (fun ls hl => ?_)
  refine lv_iconst (v := 1) (pc := 14) hx hb dX5_against_14 (by decide) ?_
  refine lv_istore (lv' := [(16, .int 1), (14, .long i3), (12, .long i2), (10, .long i1), (8, .long i0), (0, .long i0), (2, .long i1), (4, .long i2), (6, .long i3)]) (pc := 15) hx hb dX5_against_15 hl (by decide) rfl (fun ls hl => ?_)
  obtain ⟨z1, hz1, hf⟩ := bd_some hf
  have hfz1 := hf
  clear hf
  have K2 : ∀ z4, z1 = .inr z4 → ∀ (H : Heap) (locs : List Loc) (ls : Array Slot), va_P D vwCl ([]) H → va_D A ([]) → va_S A s.heap H locs → lv_has ls 23 [(0, .long i0), (2, .long i1), (4, .long i2), (6, .long i3), (8, .long z4.1), (10, .long z4.2.1), (12, .long z4.2.2.1), (14, .long z4.2.2.2.1), (16, .int z4.2.2.2.2)] → GW l yX5_against cX5_against 23 (some .int) 0 0 D [.long i0, .long i1, .long i2, .long i3] (some (.int x)) ([]) A p e s m below meth c H locs (F0 m 84 ls []) := by
    intro z4 hy H locs ls hP hD hS hl
    subst hy
    replace hf := sum_r hfz1
    refine lv_lload (pc := 84) hx hb dX5_against_84 (lv_at hl 4 rfl) ?_
    refine lv_lload (pc := 86) hx hb dX5_against_86 (lv_at hl 6 rfl) ?_
    refine W.lcmp (pc := 88) hx hb dX5_against_88 ?_
    refine lv_if_ne (pc := 89) (tgt := 96) hx hb dX5_against_89 (by decide) (fun c5 => ?_) (fun c5 => ?_)
    · replace c5 := fun q => c5 ((lg_cmp_eq _ _).mpr q)
      replace hf := im c5 hf
      refine lv_lload (pc := 96) hx hb dX5_against_96 (lv_at hl 4 rfl) ?_
      refine lv_lconst (v := 0) (pc := 98) hx hb dX5_against_98 (by decide) ?_
      refine W.lcmp (pc := 99) hx hb dX5_against_99 ?_
      refine lv_if_ne (pc := 100) (tgt := 109) hx hb dX5_against_100 (by decide) (fun c6 => ?_) (fun c6 => ?_)
      · replace c6 := fun q => c6 ((lg_cmp_eq _ _).mpr q)
        replace hf := im c6 hf
        refine lv_iload (pc := 109) hx hb dX5_against_109 (lv_at hl 8 rfl) ?_
        obtain rfl := Option.some.inj hf
        exact W.iret hx hb hr (fun t ht hW => ⟨rfl, by rw [ht]; exact hP, hD, hS.F ht⟩) hS.2.2 dX5_against_111
      · replace c6 := (lg_cmp_eq _ _).mp c6
        replace hf := ip c6 hf
        refine lv_iload (pc := 103) hx hb dX5_against_103 (lv_at hl 8 rfl) ?_
        refine lv_ineg (pc := 105) hx hb dX5_against_105 ?_
        refine lv_goto (pc := 106) (tgt := 111) hx hb dX5_against_106 (by decide) ?_
        obtain rfl := Option.some.inj hf
        exact W.iret hx hb hr (fun t ht hW => ⟨rfl, by rw [ht]; exact hP, hD, hS.F ht⟩) hS.2.2 dX5_against_111
    · replace c5 := (lg_cmp_eq _ _).mp c5
      replace hf := ip c5 hf
      refine lv_iconst (v := 0) (pc := 92) hx hb dX5_against_92 (by decide) ?_
      refine lv_goto (pc := 93) (tgt := 111) hx hb dX5_against_93 (by decide) ?_
      obtain rfl := Option.some.inj hf
      exact W.iret hx hb hr (fun t ht hW => ⟨rfl, by rw [ht]; exact hP, hD, hS.F ht⟩) hS.2.2 dX5_against_111
  have KL3 : ∀ (n : Nat) (v8 : Int64) (v10 : Int64) (v12 : Int64) (v14 : Int64) (v16 : Int32) (H : Heap) (locs : List Loc) (ls : Array Slot), lp_X5_against_17 n v8 v10 v12 v14 v16 = some z1 → va_P D vwCl ([]) H → va_D A ([]) → va_S A s.heap H locs → lv_has ls 23 [(0, .long i0), (2, .long i1), (4, .long i2), (6, .long i3), (8, .long v8), (10, .long v10), (12, .long v12), (14, .long v14), (16, .int v16)] → GW l yX5_against cX5_against 23 (some .int) 0 0 D [.long i0, .long i1, .long i2, .long i3] (some (.int x)) ([]) A p e s m below meth c H locs (F0 m 17 ls []) := by
    intro n
    induction n with
    | zero => intro v8 v10 v12 v14 v16 H locs ls hf; cases hf
    | succ n ih =>
      intro v8 v10 v12 v14 v16 H locs ls hf hP hD hS hl
      rw [lp_X5_against_17] at hf
      refine lv_lload (pc := 17) hx hb dX5_against_17 (lv_at hl 4 rfl) ?_
      refine lv_lload (pc := 19) hx hb dX5_against_19 (lv_at hl 5 rfl) ?_
      obtain ⟨h7, hf⟩ := dzL_some hf
      refine lv_ldiv (pc := 21) hx hb dX5_against_21 h7 ?_
      refine lv_lstore (lv' := [(17, .long (v8 / v10)), (0, .long i0), (2, .long i1), (4, .long i2), (6, .long i3), (8, .long v8), (10, .long v10), (12, .long v12), (14, .long v14), (16, .int v16)]) (pc := 22) hx hb dX5_against_22 hl (by decide) rfl (fun ls hl => ?_)
      refine lv_lload (pc := 24) hx hb dX5_against_24 (lv_at hl 7 rfl) ?_
      refine lv_lload (pc := 26) hx hb dX5_against_26 (lv_at hl 8 rfl) ?_
      obtain ⟨h8, hf⟩ := dzL_some hf
      refine lv_ldiv (pc := 28) hx hb dX5_against_28 h8 ?_
      refine lv_lstore (lv' := [(19, .long (v12 / v14)), (17, .long (v8 / v10)), (0, .long i0), (2, .long i1), (4, .long i2), (6, .long i3), (8, .long v8), (10, .long v10), (12, .long v12), (14, .long v14), (16, .int v16)]) (pc := 29) hx hb dX5_against_29 hl (by decide) rfl (fun ls hl => ?_)
      refine lv_lload (pc := 31) hx hb dX5_against_31 (lv_at hl 1 rfl) ?_
      refine lv_lload (pc := 33) hx hb dX5_against_33 (lv_at hl 0 rfl) ?_
      refine W.lcmp (pc := 35) hx hb dX5_against_35 ?_
      refine lv_if_eq (pc := 36) (tgt := 56) hx hb dX5_against_36 (by decide) (fun c9 => ?_) (fun c9 => ?_)
      · replace c9 := (lg_cmp_eq _ _).mp c9
        replace hf := ip c9 hf
        refine lv_lload (pc := 56) hx hb dX5_against_56 (lv_at hl 6 rfl) ?_
        refine lv_lload (pc := 58) hx hb dX5_against_58 (lv_at hl 7 rfl) ?_
        obtain ⟨h10, hf⟩ := dzL_some hf
        refine lv_lrem (pc := 60) hx hb dX5_against_60 h10 ?_
        refine lv_lstore (lv' := [(8, .long (v8 - v8 / v10 * v10)), (19, .long (v12 / v14)), (17, .long (v8 / v10)), (0, .long i0), (2, .long i1), (4, .long i2), (6, .long i3), (10, .long v10), (12, .long v12), (14, .long v14), (16, .int v16)]) (pc := 61) hx hb dX5_against_61 hl (by decide) rfl (fun ls hl => ?_)
        refine lv_lload (pc := 63) hx hb dX5_against_63 (lv_at hl 8 rfl) ?_
        refine lv_lload (pc := 65) hx hb dX5_against_65 (lv_at hl 9 rfl) ?_
        obtain ⟨h11, hf⟩ := dzL_some hf
        refine lv_lrem (pc := 67) hx hb dX5_against_67 h11 ?_
        refine lv_lstore (lv' := [(12, .long (v12 - v12 / v14 * v14)), (8, .long (v8 - v8 / v10 * v10)), (19, .long (v12 / v14)), (17, .long (v8 / v10)), (0, .long i0), (2, .long i1), (4, .long i2), (6, .long i3), (10, .long v10), (14, .long v14), (16, .int v16)]) (pc := 68) hx hb dX5_against_68 hl (by decide) rfl (fun ls hl => ?_)
        refine lv_lload (pc := 70) hx hb dX5_against_70 (lv_at hl 1 rfl) ?_
        refine lv_lconst (v := 0) (pc := 72) hx hb dX5_against_72 (by decide) ?_
        refine W.lcmp (pc := 73) hx hb dX5_against_73 ?_
        refine lv_if_eq (pc := 74) (tgt := 84) hx hb dX5_against_74 (by decide) (fun c12 => ?_) (fun c12 => ?_)
        · replace c12 := (lg_cmp_eq _ _).mp c12
          replace hf := ip c12 hf
          obtain rfl := Option.some.inj hf
          exact K2 _ rfl H locs ls hP hD hS (lv_sub hl [4, 5, 6, 7, 1, 8, 0, 9, 10] rfl)
        · replace c12 := fun q => c12 ((lg_cmp_eq _ _).mpr q)
          replace hf := im c12 hf
          refine lv_lload (pc := 77) hx hb dX5_against_77 (lv_at hl 0 rfl) ?_
          refine lv_lconst (v := 0) (pc := 79) hx hb dX5_against_79 (by decide) ?_
          refine W.lcmp (pc := 80) hx hb dX5_against_80 ?_
          refine lv_if_ne (pc := 81) (tgt := 112) hx hb dX5_against_81 (by decide) (fun c13 => ?_) (fun c13 => ?_)
          · replace c13 := fun q => c13 ((lg_cmp_eq _ _).mpr q)
            replace hf := im c13 hf
            refine lv_lload (pc := 112) hx hb dX5_against_112 (lv_at hl 1 rfl) ?_
            refine lv_lstore (lv' := [(21, .long (v8 - v8 / v10 * v10)), (12, .long (v12 - v12 / v14 * v14)), (8, .long (v8 - v8 / v10 * v10)), (19, .long (v12 / v14)), (17, .long (v8 / v10)), (0, .long i0), (2, .long i1), (4, .long i2), (6, .long i3), (10, .long v10), (14, .long v14), (16, .int v16)]) (pc := 114) hx hb dX5_against_114 hl (by decide) rfl (fun ls hl => ?_)
            refine lv_lload (pc := 116) hx hb dX5_against_116 (lv_at hl 9 rfl) ?_
            refine lv_lstore (lv' := [(8, .long v10), (21, .long (v8 - v8 / v10 * v10)), (12, .long (v12 - v12 / v14 * v14)), (19, .long (v12 / v14)), (17, .long (v8 / v10)), (0, .long i0), (2, .long i1), (4, .long i2), (6, .long i3), (10, .long v10), (14, .long v14), (16, .int v16)]) (pc := 118) hx hb dX5_against_118 hl (by decide) rfl (fun ls hl => ?_)
            refine lv_lload (pc := 120) hx hb dX5_against_120 (lv_at hl 1 rfl) ?_
            refine lv_lstore (lv' := [(10, .long (v8 - v8 / v10 * v10)), (8, .long v10), (21, .long (v8 - v8 / v10 * v10)), (12, .long (v12 - v12 / v14 * v14)), (19, .long (v12 / v14)), (17, .long (v8 / v10)), (0, .long i0), (2, .long i1), (4, .long i2), (6, .long i3), (14, .long v14), (16, .int v16)]) (pc := 122) hx hb dX5_against_122 hl (by decide) rfl (fun ls hl => ?_)
            refine lv_lload (pc := 124) hx hb dX5_against_124 (lv_at hl 3 rfl) ?_
            refine lv_lstore (lv' := [(21, .long (v12 - v12 / v14 * v14)), (10, .long (v8 - v8 / v10 * v10)), (8, .long v10), (12, .long (v12 - v12 / v14 * v14)), (19, .long (v12 / v14)), (17, .long (v8 / v10)), (0, .long i0), (2, .long i1), (4, .long i2), (6, .long i3), (14, .long v14), (16, .int v16)]) (pc := 126) hx hb dX5_against_126 hl (by decide) rfl (fun ls hl => ?_)
            refine lv_lload (pc := 128) hx hb dX5_against_128 (lv_at hl 10 rfl) ?_
            refine lv_lstore (lv' := [(12, .long v14), (21, .long (v12 - v12 / v14 * v14)), (10, .long (v8 - v8 / v10 * v10)), (8, .long v10), (19, .long (v12 / v14)), (17, .long (v8 / v10)), (0, .long i0), (2, .long i1), (4, .long i2), (6, .long i3), (14, .long v14), (16, .int v16)]) (pc := 130) hx hb dX5_against_130 hl (by decide) rfl (fun ls hl => ?_)
            refine lv_lload (pc := 132) hx hb dX5_against_132 (lv_at hl 1 rfl) ?_
            refine lv_lstore (lv' := [(14, .long (v12 - v12 / v14 * v14)), (12, .long v14), (21, .long (v12 - v12 / v14 * v14)), (10, .long (v8 - v8 / v10 * v10)), (8, .long v10), (19, .long (v12 / v14)), (17, .long (v8 / v10)), (0, .long i0), (2, .long i1), (4, .long i2), (6, .long i3), (16, .int v16)]) (pc := 134) hx hb dX5_against_134 hl (by decide) rfl (fun ls hl => ?_)
            refine lv_iload (pc := 136) hx hb dX5_against_136 (lv_at hl 11 rfl) ?_
            refine lv_ineg (pc := 138) hx hb dX5_against_138 ?_
            refine lv_istore (lv' := [(16, .int (-v16)), (14, .long (v12 - v12 / v14 * v14)), (12, .long v14), (21, .long (v12 - v12 / v14 * v14)), (10, .long (v8 - v8 / v10 * v10)), (8, .long v10), (19, .long (v12 / v14)), (17, .long (v8 / v10)), (0, .long i0), (2, .long i1), (4, .long i2), (6, .long i3)]) (pc := 139) hx hb dX5_against_139 hl (by decide) rfl (fun ls hl => ?_)
            refine lv_goto (pc := 141) (tgt := 17) hx hb dX5_against_141 (by decide) ?_
            exact ih _ _ _ _ _ H locs ls hf hP hD hS (lv_sub hl [8, 9, 10, 11, 5, 4, 2, 1, 0] rfl)
          · replace c13 := (lg_cmp_eq _ _).mp c13
            replace hf := ip c13 hf
            obtain rfl := Option.some.inj hf
            exact K2 _ rfl H locs ls hP hD hS (lv_sub hl [4, 5, 6, 7, 1, 8, 0, 9, 10] rfl)
      · replace c9 := fun q => c9 ((lg_cmp_eq _ _).mpr q)
        replace hf := im c9 hf
        refine lv_lload (pc := 39) hx hb dX5_against_39 (lv_at hl 1 rfl) ?_
        refine lv_lload (pc := 41) hx hb dX5_against_41 (lv_at hl 0 rfl) ?_
        refine W.lcmp (pc := 43) hx hb dX5_against_43 ?_
        refine lv_if_ge (pc := 44) (tgt := 53) hx hb dX5_against_44 (by decide) (fun c14 => ?_) (fun c14 => ?_)
        · replace c14 := (lg_cmp_ge _ _).mp c14
          replace hf := ip c14 hf
          refine lv_iload (pc := 53) hx hb dX5_against_53 (lv_at hl 10 rfl) ?_
          obtain rfl := Option.some.inj hf
          replace hfz1 := sum_l hfz1
          obtain rfl := Option.some.inj hfz1
          exact W.iret hx hb hr (fun t ht hW => ⟨rfl, by rw [ht]; exact hP, hD, hS.F ht⟩) hS.2.2 dX5_against_55
        · replace c14 := fun q => c14 ((lg_cmp_ge _ _).mpr q)
          replace hf := im c14 hf
          refine lv_iload (pc := 47) hx hb dX5_against_47 (lv_at hl 10 rfl) ?_
          refine lv_ineg (pc := 49) hx hb dX5_against_49 ?_
          refine lv_goto (pc := 50) (tgt := 55) hx hb dX5_against_50 (by decide) ?_
          obtain rfl := Option.some.inj hf
          replace hfz1 := sum_l hfz1
          obtain rfl := Option.some.inj hfz1
          exact W.iret hx hb hr (fun t ht hW => ⟨rfl, by rw [ht]; exact hP, hD, hS.F ht⟩) hS.2.2 dX5_against_55
  exact KL3 1000 _ _ _ _ _ H locs ls hz1 hP hD hS (lv_sub hl [5, 6, 7, 8, 4, 3, 2, 1, 0] rfl)
def lp_X5_laysMost_17 : Nat → Int32 → OS → Option (Int32 × OS)
  | 0, _, _ => none
  | n + 1, v1, w_M => if (w_M.1 21) ≤ v1 then some (v1, w_M) else if (((w_M.1 22) >>> (v1 &&& 31)) &&& 1) = 1 then if (w_M.1 35) = (-9) then lt (sI w_M 35 v1) fun o14 => lp_X5_laysMost_17 n (v1 + 1) o14 else Option.bind (f_X5_bears v1 w_M) fun x15 => ck (w_M.1 35) 9 (Option.bind (f_X5_bears (w_M.1 35) w_M) fun x17 => ck v1 9 (if (x15 * (((w_M.2.2 20 ((w_M.1 35) : Int32).toNatClampNeg) : Int32).toInt64)) ≤ (x17 * (((w_M.2.2 20 (v1 : Int32).toNatClampNeg) : Int32).toInt64)) then lp_X5_laysMost_17 n (v1 + 1) w_M else lt (sI w_M 35 v1) fun o20 => lp_X5_laysMost_17 n (v1 + 1) o20)) else lp_X5_laysMost_17 n (v1 + 1) w_M
def f_X5_laysMost (om : OS) : Option (Int32 × OS) := lt (sI om 35 (-9)) fun o1 => if (o1.1 28) = 0 then some (0, o1) else Option.bind (lp_X5_laysMost_17 1000 0 o1) fun z3 => if (z3.2.1 35) = (-9) then some (0, z3.2) else Option.bind (f_X5_bears (z3.2.1 35) z3.2) fun x7 => lt (sL z3.2 33 x7) fun o8 => ck (o8.1 35) 9 (lt (sL o8 34 ((o8.2.1 29) * (((o8.2.2 20 ((o8.1 35) : Int32).toNatClampNeg) : Int32).toInt64))) fun o10 => some (1, o10))
set_option maxHeartbeats 4000000 in
set_option maxRecDepth 100000 in
theorem c_X5_laysMost (l : Launch) (D : va_G) (cI cZ cS : ClassId) (a : Nat) (q : Nat → Nat) (om : OS) (x : (Int32 × OS)) (hf : f_X5_laysMost om = some x) : Ct l yX5_laysMost cX5_laysMost 2 (some .boolean) 2 43 D cI cZ cS [.ref a] (bX5 cI cZ a q om) (some (.int x.1)) (bX5 cI cZ a q x.2) := by
  intro sz
  refine Met.ofW (cc := cX5_laysMost) (maxL := 2) (ret := (some .boolean)) (by decide +kernel) rfl ?_
  intro p e s m args below meth c s₁ B hml hv
  obtain ⟨rfl, hsz, hP, hK, hD0⟩ := hv
  have hx := B.exec
  have hb := B.bytes
  have hr := B.returns
  have hts0 := atoms_spec (ws := .code yX5_laysMost cX5_laysMost 2 (some .boolean) :: TB) B.pre
  have hts := fun w (h : w ∈ TB) => hts0 w (List.mem_cons_of_mem _ h)
  have hown : s.vm.findClass RX5 = some m.cls := findClass_of_methodNamed B.named
  have hlocks := B.notSynchronized
  subst hsz
  have hD := hD0.self (sz := s.heap.size)
  generalize hAe : va_A (bX5 cI cZ a q om) s.heap.size = A at hD ⊢
  have hA : ∀ q : Nat, s.heap.size ≤ q → A q := fun q h => by rw [← hAe]; exact Or.inr h
  have hS : va_S A s.heap s.heap [] := va_S.rf
  obtain ⟨H, hH⟩ : ∃ H, H = s.heap := ⟨_, rfl⟩
  rw [← hH] at hP
  have hS : va_S A s.heap H [] := by rw [hH]; exact hS
  have hl := lv_entry ([.ref a]) (n := 2) (Nat.le_of_ble_eq_true rfl)
  rw [lg_entry_eq]
  generalize (lg_sl ([.ref a]) ++ List.replicate (2 - (lg_sl ([.ref a])).length) Slot.unset).toArray = ls at hl ⊢
  have hl : lv_has ls 2 [(0, .ref a)] := hl
  refine W_heap hH ?_
  obtain ⟨locs, hlo⟩ : ∃ locs : List Loc, locs = [] := ⟨_, rfl⟩
  rw [← hlo] at hS ⊢
  unfold f_X5_laysMost at hf
  refine lv_aload_n (pc := 0) hx hb dX5_laysMost_0 rfl (lv_at hl 0 rfl) ?_
  refine lv_bipush (v := -9) (pc := 1) hx hb dX5_laysMost_1 (by decide) ?_
  obtain ⟨o1, eo1, hf⟩ := lt_some hf
  refine va_put (pc := 3) (D := D) (ci := 5) (v := .int (-9)) (ty := .int) (C := RX5) (T := TX5) (N := 41) hx hb hts iX5 tyX5 tyX5_ok nmX5 hown hK.1 hP hD hS 0 rfl rfl 35 (by decide) (hts _ fl_RX5_224) (fun _ h => h) rfl (tyX5_ok 35 (by decide)) rfl rfl (Nat.le_of_ble_eq_true rfl) dX5_laysMost_3 (fun H locs hP hD hS => ?_)
  replace hP : va_P D vwCl (bX5 cI cZ a q o1) H := by rw [eo1]; exact hP
  replace hD : va_D A (bX5 cI cZ a q o1) := by rw [eo1]; exact hD
  refine lv_aload_n (pc := 6) hx hb dX5_laysMost_6 rfl (lv_at hl 0 rfl) ?_
  refine va_get (pc := 7) (D := D) (ci := 5) (v := .int (o1.1 28)) (C := RX5) (T := TX5) (N := 41) hx hb hts iX5 hown hK.1 hP 0 rfl rfl 28 (by decide) (hts _ fl_RX5_199) (fun _ h => h) rfl dX5_laysMost_7 ?_
  refine lv_if_ne (pc := 10) (tgt := 15) hx hb dX5_laysMost_10 (by decide) (fun c2 => ?_) (fun c2 => ?_)
  · replace hf := im c2 hf
    refine lv_iconst (v := 0) (pc := 15) hx hb dX5_laysMost_15 (by decide) ?_
    refine lv_istore_n (lv' := [(1, .int 0), (0, .ref a)]) (pc := 16) hx hb dX5_laysMost_16 rfl hl (by decide) rfl (fun ls hl => ?_)
    obtain ⟨z3, hz3, hf⟩ := bd_some hf
    have hfz3 := hf
    clear hf
    have K4 : ∀ (H : Heap) (locs : List Loc) (ls : Array Slot), va_P D vwCl (bX5 cI cZ a q z3.2) H → va_D A (bX5 cI cZ a q z3.2) → va_S A s.heap H locs → lv_has ls 2 [(0, .ref a), (1, .int z3.1)] → GW l yX5_laysMost cX5_laysMost 2 (some .boolean) 2 43 D [.ref a] (some (.int x.1)) (bX5 cI cZ a q x.2) A p e s m below meth c H locs (F0 m 93 ls []) := by
      intro H locs ls hP hD hS hl
      have hf := hfz3
      refine lv_aload_n (pc := 93) hx hb dX5_laysMost_93 rfl (lv_at hl 0 rfl) ?_
      refine va_get (pc := 94) (D := D) (ci := 5) (v := .int (z3.2.1 35)) (C := RX5) (T := TX5) (N := 41) hx hb hts iX5 hown hK.1 hP 0 rfl rfl 35 (by decide) (hts _ fl_RX5_224) (fun _ h => h) rfl dX5_laysMost_94 ?_
      refine lv_bipush (v := -9) (pc := 97) hx hb dX5_laysMost_97 (by decide) ?_
      refine lv_icmp_ne (pc := 99) (tgt := 104) hx hb dX5_laysMost_99 (by decide) (fun c6 => ?_) (fun c6 => ?_)
      · replace hf := im c6 hf
        refine lv_aload_n (pc := 104) hx hb dX5_laysMost_104 rfl (lv_at hl 0 rfl) ?_
        refine lv_aload_n (pc := 105) hx hb dX5_laysMost_105 rfl (lv_at hl 0 rfl) ?_
        refine lv_aload_n (pc := 106) hx hb dX5_laysMost_106 rfl (lv_at hl 0 rfl) ?_
        refine va_get (pc := 107) (D := D) (ci := 5) (v := .int (z3.2.1 35)) (C := RX5) (T := TX5) (N := 41) hx hb hts iX5 hown hK.1 hP 0 rfl rfl 35 (by decide) (hts _ fl_RX5_224) (fun _ h => h) rfl dX5_laysMost_107 ?_
        obtain ⟨x7, ex7, hf⟩ := bd_some hf
        refine ct_V1 (pc := 110) (As := [.int (z3.2.1 35)]) (rest := [.ref a]) (W1 := bX5 cI cZ a q z3.2) ⟨hx, hb, hml, hown, hts⟩ hK (c_X5_bears l D cI cZ cS a q (z3.2.1 35) z3.2 x7 ex7) gv_RX5_193 rfl hs_X5_bears rfl ⟨Nat.le_of_ble_eq_true rfl, Nat.le_of_ble_eq_true rfl⟩ (ci := 5) (q0 := 0) rfl rfl rfl hl.1 rfl (Nat.le_of_ble_eq_true rfl) dX5_laysMost_110 ⟨Nat.zero_le _, Nat.zero_le _⟩ hP hD hS hA (fun H locs hP hD hS => ?_)
        obtain ⟨o8, eo8, hf⟩ := lt_some hf
        refine va_put (pc := 113) (D := D) (ci := 5) (v := .long x7) (ty := .long) (C := RX5) (T := TX5) (N := 41) hx hb hts iX5 tyX5 tyX5_ok nmX5 hown hK.1 hP hD hS 0 rfl rfl 33 (by decide) (hts _ fl_RX5_227) (fun _ h => h) rfl (tyX5_ok 33 (by decide)) rfl rfl (Nat.le_of_ble_eq_true rfl) dX5_laysMost_113 (fun H locs hP hD hS => ?_)
        replace hP : va_P D vwCl (bX5 cI cZ a q o8) H := by rw [eo8]; exact hP
        replace hD : va_D A (bX5 cI cZ a q o8) := by rw [eo8]; exact hD
        refine lv_aload_n (pc := 116) hx hb dX5_laysMost_116 rfl (lv_at hl 0 rfl) ?_
        refine lv_aload_n (pc := 117) hx hb dX5_laysMost_117 rfl (lv_at hl 0 rfl) ?_
        refine va_get (pc := 118) (D := D) (ci := 5) (v := .long (o8.2.1 29)) (C := RX5) (T := TX5) (N := 41) hx hb hts iX5 hown hK.1 hP 0 rfl rfl 29 (by decide) (hts _ fl_RX5_174) (fun _ h => h) rfl dX5_laysMost_118 ?_
        refine lv_aload_n (pc := 121) hx hb dX5_laysMost_121 rfl (lv_at hl 0 rfl) ?_
        refine va_get (pc := 122) (D := D) (ci := 5) (v := .ref (q 20)) (C := RX5) (T := TX5) (N := 41) hx hb hts iX5 hown hK.1 hP 0 rfl rfl 20 (by decide) (hts _ fl_RX5_45) (fun _ h => h) rfl dX5_laysMost_122 ?_
        refine lv_aload_n (pc := 125) hx hb dX5_laysMost_125 rfl (lv_at hl 0 rfl) ?_
        refine va_get (pc := 126) (D := D) (ci := 5) (v := .int (o8.1 35)) (C := RX5) (T := TX5) (N := 41) hx hb hts iX5 hown hK.1 hP 0 rfl rfl 35 (by decide) (hts _ fl_RX5_224) (fun _ h => h) rfl dX5_laysMost_126 ?_
        obtain ⟨h9, hf⟩ := ck_some hf
        refine va_iald (pc := 129) (f := o8.2.2 20) hx hb hK.1 hP 11 0 rfl rfl h9 dX5_laysMost_129 ?_
        refine lv_i2l (pc := 130) hx hb dX5_laysMost_130 rfl ?_
        refine lv_lmul (pc := 131) hx hb dX5_laysMost_131 ?_
        obtain ⟨o10, eo10, hf⟩ := lt_some hf
        refine va_put (pc := 132) (D := D) (ci := 5) (v := .long ((o8.2.1 29) * (((o8.2.2 20 ((o8.1 35) : Int32).toNatClampNeg) : Int32).toInt64))) (ty := .long) (C := RX5) (T := TX5) (N := 41) hx hb hts iX5 tyX5 tyX5_ok nmX5 hown hK.1 hP hD hS 0 rfl rfl 34 (by decide) (hts _ fl_RX5_230) (fun _ h => h) rfl (tyX5_ok 34 (by decide)) rfl rfl (Nat.le_of_ble_eq_true rfl) dX5_laysMost_132 (fun H locs hP hD hS => ?_)
        replace hP : va_P D vwCl (bX5 cI cZ a q o10) H := by rw [eo10]; exact hP
        replace hD : va_D A (bX5 cI cZ a q o10) := by rw [eo10]; exact hD
        refine lv_iconst (v := 1) (pc := 135) hx hb dX5_laysMost_135 (by decide) ?_
        obtain rfl := Option.some.inj hf
        exact W.zret hx hb hr rfl (fun t ht hW => ⟨rfl, by rw [ht]; exact hP, hD, hS.F ht⟩) hS.2.2 dX5_laysMost_136
      · replace hf := ip c6 hf
        refine lv_iconst (v := 0) (pc := 102) hx hb dX5_laysMost_102 (by decide) ?_
        obtain rfl := Option.some.inj hf
        exact W.zret hx hb hr rfl (fun t ht hW => ⟨rfl, by rw [ht]; exact hP, hD, hS.F ht⟩) hS.2.2 dX5_laysMost_103
    have KL5 : ∀ (n : Nat) (v1 : Int32) (w_M : OS) (H : Heap) (locs : List Loc) (ls : Array Slot), lp_X5_laysMost_17 n v1 w_M = some z3 → va_P D vwCl (bX5 cI cZ a q w_M) H → va_D A (bX5 cI cZ a q w_M) → va_S A s.heap H locs → lv_has ls 2 [(0, .ref a), (1, .int v1)] → GW l yX5_laysMost cX5_laysMost 2 (some .boolean) 2 43 D [.ref a] (some (.int x.1)) (bX5 cI cZ a q x.2) A p e s m below meth c H locs (F0 m 17 ls []) := by
      intro n
      induction n with
      | zero => intro v1 w_M H locs ls hf; cases hf
      | succ n ih =>
        intro v1 w_M H locs ls hf hP hD hS hl
        rw [lp_X5_laysMost_17] at hf
        refine lv_iload_n (pc := 17) hx hb dX5_laysMost_17 rfl (lv_at hl 1 rfl) ?_
        refine lv_aload_n (pc := 18) hx hb dX5_laysMost_18 rfl (lv_at hl 0 rfl) ?_
        refine va_get (pc := 19) (D := D) (ci := 5) (v := .int (w_M.1 21)) (C := RX5) (T := TX5) (N := 41) hx hb hts iX5 hown hK.1 hP 0 rfl rfl 21 (by decide) (hts _ fl_RX5_150) (fun _ h => h) rfl dX5_laysMost_19 ?_
        refine lv_icmp_ge (pc := 22) (tgt := 93) hx hb dX5_laysMost_22 (by decide) (fun c11 => ?_) (fun c11 => ?_)
        · replace hf := ip c11 hf
          obtain rfl := Option.some.inj hf
          exact K4 H locs ls hP hD hS (lv_sub hl [0, 1] rfl)
        · replace hf := im c11 hf
          refine lv_aload_n (pc := 25) hx hb dX5_laysMost_25 rfl (lv_at hl 0 rfl) ?_
          refine va_get (pc := 26) (D := D) (ci := 5) (v := .int (w_M.1 22)) (C := RX5) (T := TX5) (N := 41) hx hb hts iX5 hown hK.1 hP 0 rfl rfl 22 (by decide) (hts _ fl_RX5_153) (fun _ h => h) rfl dX5_laysMost_26 ?_
          refine lv_iload_n (pc := 29) hx hb dX5_laysMost_29 rfl (lv_at hl 1 rfl) ?_
          refine lv_ishr (pc := 30) hx hb dX5_laysMost_30 ?_
          refine lv_iconst (v := 1) (pc := 31) hx hb dX5_laysMost_31 (by decide) ?_
          refine lv_iand (pc := 32) hx hb dX5_laysMost_32 ?_
          refine lv_iconst (v := 1) (pc := 33) hx hb dX5_laysMost_33 (by decide) ?_
          refine lv_icmp_ne (pc := 34) (tgt := 87) hx hb dX5_laysMost_34 (by decide) (fun c12 => ?_) (fun c12 => ?_)
          · replace hf := im c12 hf
            refine lv_iinc (v := (v1 + 1)) (lv' := [(1, .int (v1 + 1)), (0, .ref a)]) (pc := 87) hx hb dX5_laysMost_87 hl (k := 1) rfl rfl (by decide) rfl (fun ls hl => ?_)
            refine lv_goto (pc := 90) (tgt := 17) hx hb dX5_laysMost_90 (by decide) ?_
            exact ih _ _ H locs ls hf hP hD hS (lv_sub hl [1, 0] rfl)
          · replace hf := ip c12 hf
            refine lv_aload_n (pc := 37) hx hb dX5_laysMost_37 rfl (lv_at hl 0 rfl) ?_
            refine va_get (pc := 38) (D := D) (ci := 5) (v := .int (w_M.1 35)) (C := RX5) (T := TX5) (N := 41) hx hb hts iX5 hown hK.1 hP 0 rfl rfl 35 (by decide) (hts _ fl_RX5_224) (fun _ h => h) rfl dX5_laysMost_38 ?_
            refine lv_bipush (v := -9) (pc := 41) hx hb dX5_laysMost_41 (by decide) ?_
            refine lv_icmp_eq (pc := 43) (tgt := 82) hx hb dX5_laysMost_43 (by decide) (fun c13 => ?_) (fun c13 => ?_)
            · replace hf := ip c13 hf
              refine lv_aload_n (pc := 82) hx hb dX5_laysMost_82 rfl (lv_at hl 0 rfl) ?_
              refine lv_iload_n (pc := 83) hx hb dX5_laysMost_83 rfl (lv_at hl 1 rfl) ?_
              obtain ⟨o14, eo14, hf⟩ := lt_some hf
              refine va_put (pc := 84) (D := D) (ci := 5) (v := .int v1) (ty := .int) (C := RX5) (T := TX5) (N := 41) hx hb hts iX5 tyX5 tyX5_ok nmX5 hown hK.1 hP hD hS 0 rfl rfl 35 (by decide) (hts _ fl_RX5_224) (fun _ h => h) rfl (tyX5_ok 35 (by decide)) rfl rfl (Nat.le_of_ble_eq_true rfl) dX5_laysMost_84 (fun H locs hP hD hS => ?_)
              replace hP : va_P D vwCl (bX5 cI cZ a q o14) H := by rw [eo14]; exact hP
              replace hD : va_D A (bX5 cI cZ a q o14) := by rw [eo14]; exact hD
              refine lv_iinc (v := (v1 + 1)) (lv' := [(1, .int (v1 + 1)), (0, .ref a)]) (pc := 87) hx hb dX5_laysMost_87 hl (k := 1) rfl rfl (by decide) rfl (fun ls hl => ?_)
              refine lv_goto (pc := 90) (tgt := 17) hx hb dX5_laysMost_90 (by decide) ?_
              exact ih _ _ H locs ls hf hP hD hS (lv_sub hl [1, 0] rfl)
            · replace hf := im c13 hf
              refine lv_aload_n (pc := 46) hx hb dX5_laysMost_46 rfl (lv_at hl 0 rfl) ?_
              refine lv_iload_n (pc := 47) hx hb dX5_laysMost_47 rfl (lv_at hl 1 rfl) ?_
              obtain ⟨x15, ex15, hf⟩ := bd_some hf
              refine ct_V1 (pc := 48) (As := [.int v1]) (rest := []) (W1 := bX5 cI cZ a q w_M) ⟨hx, hb, hml, hown, hts⟩ hK (c_X5_bears l D cI cZ cS a q v1 w_M x15 ex15) gv_RX5_193 rfl hs_X5_bears rfl ⟨Nat.le_of_ble_eq_true rfl, Nat.le_of_ble_eq_true rfl⟩ (ci := 5) (q0 := 0) rfl rfl rfl hl.1 rfl (Nat.le_of_ble_eq_true rfl) dX5_laysMost_48 ⟨Nat.zero_le _, Nat.zero_le _⟩ hP hD hS hA (fun H locs hP hD hS => ?_)
              refine lv_aload_n (pc := 51) hx hb dX5_laysMost_51 rfl (lv_at hl 0 rfl) ?_
              refine va_get (pc := 52) (D := D) (ci := 5) (v := .ref (q 20)) (C := RX5) (T := TX5) (N := 41) hx hb hts iX5 hown hK.1 hP 0 rfl rfl 20 (by decide) (hts _ fl_RX5_45) (fun _ h => h) rfl dX5_laysMost_52 ?_
              refine lv_aload_n (pc := 55) hx hb dX5_laysMost_55 rfl (lv_at hl 0 rfl) ?_
              refine va_get (pc := 56) (D := D) (ci := 5) (v := .int (w_M.1 35)) (C := RX5) (T := TX5) (N := 41) hx hb hts iX5 hown hK.1 hP 0 rfl rfl 35 (by decide) (hts _ fl_RX5_224) (fun _ h => h) rfl dX5_laysMost_56 ?_
              obtain ⟨h16, hf⟩ := ck_some hf
              refine va_iald (pc := 59) (f := w_M.2.2 20) hx hb hK.1 hP 11 0 rfl rfl h16 dX5_laysMost_59 ?_
              refine lv_i2l (pc := 60) hx hb dX5_laysMost_60 rfl ?_
              refine lv_lmul (pc := 61) hx hb dX5_laysMost_61 ?_
              refine lv_aload_n (pc := 62) hx hb dX5_laysMost_62 rfl (lv_at hl 0 rfl) ?_
              refine lv_aload_n (pc := 63) hx hb dX5_laysMost_63 rfl (lv_at hl 0 rfl) ?_
              refine va_get (pc := 64) (D := D) (ci := 5) (v := .int (w_M.1 35)) (C := RX5) (T := TX5) (N := 41) hx hb hts iX5 hown hK.1 hP 0 rfl rfl 35 (by decide) (hts _ fl_RX5_224) (fun _ h => h) rfl dX5_laysMost_64 ?_
              obtain ⟨x17, ex17, hf⟩ := bd_some hf
              refine ct_V1 (pc := 67) (As := [.int (w_M.1 35)]) (rest := [.long (x15 * (((w_M.2.2 20 ((w_M.1 35) : Int32).toNatClampNeg) : Int32).toInt64))]) (W1 := bX5 cI cZ a q w_M) ⟨hx, hb, hml, hown, hts⟩ hK (c_X5_bears l D cI cZ cS a q (w_M.1 35) w_M x17 ex17) gv_RX5_193 rfl hs_X5_bears rfl ⟨Nat.le_of_ble_eq_true rfl, Nat.le_of_ble_eq_true rfl⟩ (ci := 5) (q0 := 0) rfl rfl rfl hl.1 rfl (Nat.le_of_ble_eq_true rfl) dX5_laysMost_67 ⟨Nat.zero_le _, Nat.zero_le _⟩ hP hD hS hA (fun H locs hP hD hS => ?_)
              refine lv_aload_n (pc := 70) hx hb dX5_laysMost_70 rfl (lv_at hl 0 rfl) ?_
              refine va_get (pc := 71) (D := D) (ci := 5) (v := .ref (q 20)) (C := RX5) (T := TX5) (N := 41) hx hb hts iX5 hown hK.1 hP 0 rfl rfl 20 (by decide) (hts _ fl_RX5_45) (fun _ h => h) rfl dX5_laysMost_71 ?_
              refine lv_iload_n (pc := 74) hx hb dX5_laysMost_74 rfl (lv_at hl 1 rfl) ?_
              obtain ⟨h18, hf⟩ := ck_some hf
              refine va_iald (pc := 75) (f := w_M.2.2 20) hx hb hK.1 hP 11 0 rfl rfl h18 dX5_laysMost_75 ?_
              refine lv_i2l (pc := 76) hx hb dX5_laysMost_76 rfl ?_
              refine lv_lmul (pc := 77) hx hb dX5_laysMost_77 ?_
              refine W.lcmp (pc := 78) hx hb dX5_laysMost_78 ?_
              refine lv_if_le (pc := 79) (tgt := 87) hx hb dX5_laysMost_79 (by decide) (fun c19 => ?_) (fun c19 => ?_)
              · replace c19 := (lg_cmp_le _ _).mp c19
                replace hf := ip c19 hf
                refine lv_iinc (v := (v1 + 1)) (lv' := [(1, .int (v1 + 1)), (0, .ref a)]) (pc := 87) hx hb dX5_laysMost_87 hl (k := 1) rfl rfl (by decide) rfl (fun ls hl => ?_)
                refine lv_goto (pc := 90) (tgt := 17) hx hb dX5_laysMost_90 (by decide) ?_
                exact ih _ _ H locs ls hf hP hD hS (lv_sub hl [1, 0] rfl)
              · replace c19 := fun q => c19 ((lg_cmp_le _ _).mpr q)
                replace hf := im c19 hf
                refine lv_aload_n (pc := 82) hx hb dX5_laysMost_82 rfl (lv_at hl 0 rfl) ?_
                refine lv_iload_n (pc := 83) hx hb dX5_laysMost_83 rfl (lv_at hl 1 rfl) ?_
                obtain ⟨o20, eo20, hf⟩ := lt_some hf
                refine va_put (pc := 84) (D := D) (ci := 5) (v := .int v1) (ty := .int) (C := RX5) (T := TX5) (N := 41) hx hb hts iX5 tyX5 tyX5_ok nmX5 hown hK.1 hP hD hS 0 rfl rfl 35 (by decide) (hts _ fl_RX5_224) (fun _ h => h) rfl (tyX5_ok 35 (by decide)) rfl rfl (Nat.le_of_ble_eq_true rfl) dX5_laysMost_84 (fun H locs hP hD hS => ?_)
                replace hP : va_P D vwCl (bX5 cI cZ a q o20) H := by rw [eo20]; exact hP
                replace hD : va_D A (bX5 cI cZ a q o20) := by rw [eo20]; exact hD
                refine lv_iinc (v := (v1 + 1)) (lv' := [(1, .int (v1 + 1)), (0, .ref a)]) (pc := 87) hx hb dX5_laysMost_87 hl (k := 1) rfl rfl (by decide) rfl (fun ls hl => ?_)
                refine lv_goto (pc := 90) (tgt := 17) hx hb dX5_laysMost_90 (by decide) ?_
                exact ih _ _ H locs ls hf hP hD hS (lv_sub hl [1, 0] rfl)
    exact KL5 1000 _ _ H locs ls hz3 hP hD hS (lv_sub hl [1, 0] rfl)
  · replace hf := ip c2 hf
    refine lv_iconst (v := 0) (pc := 13) hx hb dX5_laysMost_13 (by decide) ?_
    obtain rfl := Option.some.inj hf
    exact W.zret hx hb hr rfl (fun t ht hW => ⟨rfl, by rw [ht]; exact hP, hD, hS.F ht⟩) hS.2.2 dX5_laysMost_14
def f_X5_tellsMost (i0 : Int32) (om : OS) : Option Int64 := if i0 = 2 then some (((om.1 35) : Int32).toInt64) else Option.bind (f_X5_part (om.2.1 33) (om.2.1 34) i0) fun x2 => some x2
set_option maxHeartbeats 4000000 in
set_option maxRecDepth 100000 in
theorem c_X5_tellsMost (l : Launch) (D : va_G) (cI cZ cS : ClassId) (a : Nat) (q : Nat → Nat) (i0 : Int32) (om : OS) (x : Int64) (hf : f_X5_tellsMost i0 om = some x) : Ct l yX5_tellsMost cX5_tellsMost 2 (some .long) 2 55 D cI cZ cS [.ref a, .int i0] (bX5 cI cZ a q om) (some (.long x)) (bX5 cI cZ a q om) := by
  intro sz
  refine Met.ofW (cc := cX5_tellsMost) (maxL := 2) (ret := (some .long)) (by decide +kernel) rfl ?_
  intro p e s m args below meth c s₁ B hml hv
  obtain ⟨rfl, hsz, hP, hK, hD0⟩ := hv
  have hx := B.exec
  have hb := B.bytes
  have hr := B.returns
  have hts0 := atoms_spec (ws := .code yX5_tellsMost cX5_tellsMost 2 (some .long) :: TB) B.pre
  have hts := fun w (h : w ∈ TB) => hts0 w (List.mem_cons_of_mem _ h)
  have hown : s.vm.findClass RX5 = some m.cls := findClass_of_methodNamed B.named
  have hlocks := B.notSynchronized
  subst hsz
  have hD := hD0.self (sz := s.heap.size)
  generalize hAe : va_A (bX5 cI cZ a q om) s.heap.size = A at hD ⊢
  have hA : ∀ q : Nat, s.heap.size ≤ q → A q := fun q h => by rw [← hAe]; exact Or.inr h
  have hS : va_S A s.heap s.heap [] := va_S.rf
  obtain ⟨H, hH⟩ : ∃ H, H = s.heap := ⟨_, rfl⟩
  rw [← hH] at hP
  have hS : va_S A s.heap H [] := by rw [hH]; exact hS
  have hl := lv_entry ([.ref a, .int i0]) (n := 2) (Nat.le_of_ble_eq_true rfl)
  rw [lg_entry_eq]
  generalize (lg_sl ([.ref a, .int i0]) ++ List.replicate (2 - (lg_sl ([.ref a, .int i0])).length) Slot.unset).toArray = ls at hl ⊢
  have hl : lv_has ls 2 [(0, .ref a), (1, .int i0)] := hl
  refine W_heap hH ?_
  obtain ⟨locs, hlo⟩ : ∃ locs : List Loc, locs = [] := ⟨_, rfl⟩
  rw [← hlo] at hS ⊢
  unfold f_X5_tellsMost at hf
  refine lv_iload_n (pc := 0) hx hb dX5_tellsMost_0 rfl (lv_at hl 1 rfl) ?_
  refine lv_iconst (v := 2) (pc := 1) hx hb dX5_tellsMost_1 (by decide) ?_
  refine lv_icmp_ne (pc := 2) (tgt := 13) hx hb dX5_tellsMost_2 (by decide) (fun c1 => ?_) (fun c1 => ?_)
  · replace hf := im c1 hf
    refine lv_aload_n (pc := 13) hx hb dX5_tellsMost_13 rfl (lv_at hl 0 rfl) ?_
    refine va_get (pc := 14) (D := D) (ci := 5) (v := .long (om.2.1 33)) (C := RX5) (T := TX5) (N := 41) hx hb hts iX5 hown hK.1 hP 0 rfl rfl 33 (by decide) (hts _ fl_RX5_227) (fun _ h => h) rfl dX5_tellsMost_14 ?_
    refine lv_aload_n (pc := 17) hx hb dX5_tellsMost_17 rfl (lv_at hl 0 rfl) ?_
    refine va_get (pc := 18) (D := D) (ci := 5) (v := .long (om.2.1 34)) (C := RX5) (T := TX5) (N := 41) hx hb hts iX5 hown hK.1 hP 0 rfl rfl 34 (by decide) (hts _ fl_RX5_230) (fun _ h => h) rfl dX5_tellsMost_18 ?_
    refine lv_iload_n (pc := 21) hx hb dX5_tellsMost_21 rfl (lv_at hl 1 rfl) ?_
    obtain ⟨x2, ex2, hf⟩ := bd_some hf
    refine ct_S0 (pc := 22) (As := [.long (om.2.1 33), .long (om.2.1 34), .int i0]) (rest := []) ⟨hx, hb, hml, hown, hts⟩ hK (c_X5_part l D cI cZ cS (om.2.1 33) (om.2.1 34) i0 x2 ex2) gs_RX5_233 hs_X5_part rfl ⟨Nat.le_of_ble_eq_true rfl, Nat.le_of_ble_eq_true rfl⟩ hl.1 rfl (Nat.le_of_ble_eq_true rfl) dX5_tellsMost_22 ⟨Nat.zero_le _, Nat.zero_le _⟩ hP hS hA (fun H locs hP hS => ?_)
    obtain rfl := Option.some.inj hf
    exact W.lret hx hb hr (fun t ht hW => ⟨rfl, by rw [ht]; exact hP, hD, hS.F ht⟩) hS.2.2 dX5_tellsMost_25
  · replace hf := ip c1 hf
    refine lv_aload_n (pc := 5) hx hb dX5_tellsMost_5 rfl (lv_at hl 0 rfl) ?_
    refine va_get (pc := 6) (D := D) (ci := 5) (v := .int (om.1 35)) (C := RX5) (T := TX5) (N := 41) hx hb hts iX5 hown hK.1 hP 0 rfl rfl 35 (by decide) (hts _ fl_RX5_224) (fun _ h => h) rfl dX5_tellsMost_6 ?_
    refine lv_i2l (pc := 9) hx hb dX5_tellsMost_9 rfl ?_
    refine lv_goto (pc := 10) (tgt := 25) hx hb dX5_tellsMost_10 (by decide) ?_
    obtain rfl := Option.some.inj hf
    exact W.lret hx hb hr (fun t ht hW => ⟨rfl, by rw [ht]; exact hP, hD, hS.F ht⟩) hS.2.2 dX5_tellsMost_25
def f_X5_pile (i0 : Int32) (i1 : Int32) (om : OS) : Option (Int64 × OS) := Option.bind (f_X5_isPile i0 om) fun x1 => if x1 = 0 then some ((-1000000000000000000), om) else Option.bind (f_X5_in i1 0 5) fun x3 => if x3 = 0 then some ((-1000000000000000000), om) else if 4 ≤ i1 then if i1 = 4 then Option.bind (f_X5_ofPile i0 4 om) fun x9 => some ((((1 - x9) : Int32).toInt64), om) else Option.bind (f_X5_sharesNow om) fun x7 => if (x7.1 28) = 0 then some ((-9), x7) else some ((((((x7.1 26) >>> (i0 &&& 31)) &&& 1) : Int32).toInt64), x7) else Option.bind (f_X5_ofPile i0 i1 om) fun x10 => some (x10.toInt64, om)
set_option maxHeartbeats 4000000 in
set_option maxRecDepth 100000 in
theorem c_X5_pile (l : Launch) (D : va_G) (cI cZ cS : ClassId) (a : Nat) (q : Nat → Nat) (i0 : Int32) (i1 : Int32) (om : OS) (x : (Int64 × OS)) (hf : f_X5_pile i0 i1 om = some x) : Ct l yX5_pile cX5_pile 3 (some .long) 5 113 D cI cZ cS [.ref a, .int i0, .int i1] (bX5 cI cZ a q om) (some (.long x.1)) (bX5 cI cZ a q x.2) := by
  intro sz
  refine Met.ofW (cc := cX5_pile) (maxL := 3) (ret := (some .long)) (by decide +kernel) rfl ?_
  intro p e s m args below meth c s₁ B hml hv
  obtain ⟨rfl, hsz, hP, hK, hD0⟩ := hv
  have hx := B.exec
  have hb := B.bytes
  have hr := B.returns
  have hts0 := atoms_spec (ws := .code yX5_pile cX5_pile 3 (some .long) :: TB) B.pre
  have hts := fun w (h : w ∈ TB) => hts0 w (List.mem_cons_of_mem _ h)
  have hown : s.vm.findClass RX5 = some m.cls := findClass_of_methodNamed B.named
  have hlocks := B.notSynchronized
  subst hsz
  have hD := hD0.self (sz := s.heap.size)
  generalize hAe : va_A (bX5 cI cZ a q om) s.heap.size = A at hD ⊢
  have hA : ∀ q : Nat, s.heap.size ≤ q → A q := fun q h => by rw [← hAe]; exact Or.inr h
  have hS : va_S A s.heap s.heap [] := va_S.rf
  obtain ⟨H, hH⟩ : ∃ H, H = s.heap := ⟨_, rfl⟩
  rw [← hH] at hP
  have hS : va_S A s.heap H [] := by rw [hH]; exact hS
  have hl := lv_entry ([.ref a, .int i0, .int i1]) (n := 3) (Nat.le_of_ble_eq_true rfl)
  rw [lg_entry_eq]
  generalize (lg_sl ([.ref a, .int i0, .int i1]) ++ List.replicate (3 - (lg_sl ([.ref a, .int i0, .int i1])).length) Slot.unset).toArray = ls at hl ⊢
  have hl : lv_has ls 3 [(0, .ref a), (1, .int i0), (2, .int i1)] := hl
  refine W_heap hH ?_
  obtain ⟨locs, hlo⟩ : ∃ locs : List Loc, locs = [] := ⟨_, rfl⟩
  rw [← hlo] at hS ⊢
  unfold f_X5_pile at hf
  refine lv_aload_n (pc := 0) hx hb dX5_pile_0 rfl (lv_at hl 0 rfl) ?_
  refine lv_iload_n (pc := 1) hx hb dX5_pile_1 rfl (lv_at hl 1 rfl) ?_
  obtain ⟨x1, ex1, hf⟩ := bd_some hf
  refine ct_V1 (pc := 2) (As := [.int i0]) (rest := []) (W1 := bX5 cI cZ a q om) ⟨hx, hb, hml, hown, hts⟩ hK (c_X5_isPile l D cI cZ cS a q i0 om x1 ex1) gv_RX5_133 rfl hs_X5_isPile rfl ⟨Nat.le_of_ble_eq_true rfl, Nat.le_of_ble_eq_true rfl⟩ (ci := 5) (q0 := 0) rfl rfl rfl hl.1 rfl (Nat.le_of_ble_eq_true rfl) dX5_pile_2 ⟨Nat.zero_le _, Nat.zero_le _⟩ hP hD hS hA (fun H locs hP hD hS => ?_)
  refine lv_if_eq (pc := 5) (tgt := 17) hx hb dX5_pile_5 (by decide) (fun c2 => ?_) (fun c2 => ?_)
  · replace hf := ip c2 hf
    refine lv_ldc2 (pc := 17) (v := -1000000000000000000) hx hb hown (hts _ cn_RX5_237) dX5_pile_17 ?_
    obtain rfl := Option.some.inj hf
    exact W.lret hx hb hr (fun t ht hW => ⟨rfl, by rw [ht]; exact hP, hD, hS.F ht⟩) hS.2.2 dX5_pile_20
  · replace hf := im c2 hf
    refine lv_iload_n (pc := 8) hx hb dX5_pile_8 rfl (lv_at hl 2 rfl) ?_
    refine lv_iconst (v := 0) (pc := 9) hx hb dX5_pile_9 (by decide) ?_
    refine lv_iconst (v := 5) (pc := 10) hx hb dX5_pile_10 (by decide) ?_
    obtain ⟨x3, ex3, hf⟩ := bd_some hf
    refine ct_S0 (pc := 11) (As := [.int i1, .int 0, .int 5]) (rest := []) ⟨hx, hb, hml, hown, hts⟩ hK (c_X5_in l D cI cZ cS i1 0 5 x3 ex3) gs_RX5_57 hs_X5_in rfl ⟨Nat.le_of_ble_eq_true rfl, Nat.le_of_ble_eq_true rfl⟩ hl.1 rfl (Nat.le_of_ble_eq_true rfl) dX5_pile_11 ⟨Nat.zero_le _, Nat.zero_le _⟩ hP hS hA (fun H locs hP hS => ?_)
    refine lv_if_ne (pc := 14) (tgt := 21) hx hb dX5_pile_14 (by decide) (fun c4 => ?_) (fun c4 => ?_)
    · replace hf := im c4 hf
      refine lv_iload_n (pc := 21) hx hb dX5_pile_21 rfl (lv_at hl 2 rfl) ?_
      refine lv_iconst (v := 4) (pc := 22) hx hb dX5_pile_22 (by decide) ?_
      refine lv_icmp_ge (pc := 23) (tgt := 34) hx hb dX5_pile_23 (by decide) (fun c5 => ?_) (fun c5 => ?_)
      · replace hf := ip c5 hf
        refine lv_iload_n (pc := 34) hx hb dX5_pile_34 rfl (lv_at hl 2 rfl) ?_
        refine lv_iconst (v := 4) (pc := 35) hx hb dX5_pile_35 (by decide) ?_
        refine lv_icmp_ne (pc := 36) (tgt := 49) hx hb dX5_pile_36 (by decide) (fun c6 => ?_) (fun c6 => ?_)
        · replace hf := im c6 hf
          refine lv_aload_n (pc := 49) hx hb dX5_pile_49 rfl (lv_at hl 0 rfl) ?_
          obtain ⟨x7, ex7, hf⟩ := bd_some hf
          refine ct_V1 (pc := 50) (As := []) (rest := []) (W1 := bX5 cI cZ a q x7) ⟨hx, hb, hml, hown, hts⟩ hK (c_X5_sharesNow l D cI cZ cS a q om x7 ex7) gv_RX5_239 rfl hs_X5_sharesNow rfl ⟨Nat.le_of_ble_eq_true rfl, Nat.le_of_ble_eq_true rfl⟩ (ci := 5) (q0 := 0) rfl rfl rfl hl.1 rfl (Nat.le_of_ble_eq_true rfl) dX5_pile_50 ⟨Nat.zero_le _, Nat.zero_le _⟩ hP hD hS hA (fun H locs hP hD hS => ?_)
          refine lv_aload_n (pc := 53) hx hb dX5_pile_53 rfl (lv_at hl 0 rfl) ?_
          refine va_get (pc := 54) (D := D) (ci := 5) (v := .int (x7.1 28)) (C := RX5) (T := TX5) (N := 41) hx hb hts iX5 hown hK.1 hP 0 rfl rfl 28 (by decide) (hts _ fl_RX5_199) (fun _ h => h) rfl dX5_pile_54 ?_
          refine lv_if_ne (pc := 57) (tgt := 66) hx hb dX5_pile_57 (by decide) (fun c8 => ?_) (fun c8 => ?_)
          · replace hf := im c8 hf
            refine lv_aload_n (pc := 66) hx hb dX5_pile_66 rfl (lv_at hl 0 rfl) ?_
            refine va_get (pc := 67) (D := D) (ci := 5) (v := .int (x7.1 26)) (C := RX5) (T := TX5) (N := 41) hx hb hts iX5 hown hK.1 hP 0 rfl rfl 26 (by decide) (hts _ fl_RX5_186) (fun _ h => h) rfl dX5_pile_67 ?_
            refine lv_iload_n (pc := 70) hx hb dX5_pile_70 rfl (lv_at hl 1 rfl) ?_
            refine lv_ishr (pc := 71) hx hb dX5_pile_71 ?_
            refine lv_iconst (v := 1) (pc := 72) hx hb dX5_pile_72 (by decide) ?_
            refine lv_iand (pc := 73) hx hb dX5_pile_73 ?_
            refine lv_i2l (pc := 74) hx hb dX5_pile_74 rfl ?_
            obtain rfl := Option.some.inj hf
            exact W.lret hx hb hr (fun t ht hW => ⟨rfl, by rw [ht]; exact hP, hD, hS.F ht⟩) hS.2.2 dX5_pile_75
          · replace hf := ip c8 hf
            refine lv_ldc2 (pc := 60) (v := -9) hx hb hown (hts _ cn_RX5_242) dX5_pile_60 ?_
            refine lv_goto (pc := 63) (tgt := 75) hx hb dX5_pile_63 (by decide) ?_
            obtain rfl := Option.some.inj hf
            exact W.lret hx hb hr (fun t ht hW => ⟨rfl, by rw [ht]; exact hP, hD, hS.F ht⟩) hS.2.2 dX5_pile_75
        · replace hf := ip c6 hf
          refine lv_iconst (v := 1) (pc := 39) hx hb dX5_pile_39 (by decide) ?_
          refine lv_aload_n (pc := 40) hx hb dX5_pile_40 rfl (lv_at hl 0 rfl) ?_
          refine lv_iload_n (pc := 41) hx hb dX5_pile_41 rfl (lv_at hl 1 rfl) ?_
          refine lv_iconst (v := 4) (pc := 42) hx hb dX5_pile_42 (by decide) ?_
          obtain ⟨x9, ex9, hf⟩ := bd_some hf
          refine ct_V1 (pc := 43) (As := [.int i0, .int 4]) (rest := [.int 1]) (W1 := bX5 cI cZ a q om) ⟨hx, hb, hml, hown, hts⟩ hK (c_X5_ofPile l D cI cZ cS a q i0 4 om x9 ex9) gv_RX5_117 rfl hs_X5_ofPile rfl ⟨Nat.le_of_ble_eq_true rfl, Nat.le_of_ble_eq_true rfl⟩ (ci := 5) (q0 := 0) rfl rfl rfl hl.1 rfl (Nat.le_of_ble_eq_true rfl) dX5_pile_43 ⟨Nat.zero_le _, Nat.zero_le _⟩ hP hD hS hA (fun H locs hP hD hS => ?_)
          refine lv_isub (pc := 46) hx hb dX5_pile_46 ?_
          refine lv_i2l (pc := 47) hx hb dX5_pile_47 rfl ?_
          obtain rfl := Option.some.inj hf
          exact W.lret hx hb hr (fun t ht hW => ⟨rfl, by rw [ht]; exact hP, hD, hS.F ht⟩) hS.2.2 dX5_pile_48
      · replace hf := im c5 hf
        refine lv_aload_n (pc := 26) hx hb dX5_pile_26 rfl (lv_at hl 0 rfl) ?_
        refine lv_iload_n (pc := 27) hx hb dX5_pile_27 rfl (lv_at hl 1 rfl) ?_
        refine lv_iload_n (pc := 28) hx hb dX5_pile_28 rfl (lv_at hl 2 rfl) ?_
        obtain ⟨x10, ex10, hf⟩ := bd_some hf
        refine ct_V1 (pc := 29) (As := [.int i0, .int i1]) (rest := []) (W1 := bX5 cI cZ a q om) ⟨hx, hb, hml, hown, hts⟩ hK (c_X5_ofPile l D cI cZ cS a q i0 i1 om x10 ex10) gv_RX5_117 rfl hs_X5_ofPile rfl ⟨Nat.le_of_ble_eq_true rfl, Nat.le_of_ble_eq_true rfl⟩ (ci := 5) (q0 := 0) rfl rfl rfl hl.1 rfl (Nat.le_of_ble_eq_true rfl) dX5_pile_29 ⟨Nat.zero_le _, Nat.zero_le _⟩ hP hD hS hA (fun H locs hP hD hS => ?_)
        refine lv_i2l (pc := 32) hx hb dX5_pile_32 rfl ?_
        obtain rfl := Option.some.inj hf
        exact W.lret hx hb hr (fun t ht hW => ⟨rfl, by rw [ht]; exact hP, hD, hS.F ht⟩) hS.2.2 dX5_pile_33
    · replace hf := ip c4 hf
      refine lv_ldc2 (pc := 17) (v := -1000000000000000000) hx hb hown (hts _ cn_RX5_237) dX5_pile_17 ?_
      obtain rfl := Option.some.inj hf
      exact W.lret hx hb hr (fun t ht hW => ⟨rfl, by rw [ht]; exact hP, hD, hS.F ht⟩) hS.2.2 dX5_pile_20
def f_X5_column (i0 : Int32) (i1 : Int32) (om : OS) : Option Int64 := Option.bind (f_X5_isColumn i0 om) fun x1 => if x1 = 0 then some (-1000000000000000000) else Option.bind (f_X5_in i1 0 2) fun x3 => if x3 = 0 then some (-1000000000000000000) else Option.bind (f_X5_ofColumn i0 i1 om) fun x5 => some x5.toInt64
set_option maxHeartbeats 4000000 in
set_option maxRecDepth 100000 in
theorem c_X5_column (l : Launch) (D : va_G) (cI cZ cS : ClassId) (a : Nat) (q : Nat → Nat) (i0 : Int32) (i1 : Int32) (om : OS) (x : Int64) (hf : f_X5_column i0 i1 om = some x) : Ct l yX5_column cX5_column 3 (some .long) 2 43 D cI cZ cS [.ref a, .int i0, .int i1] (bX5 cI cZ a q om) (some (.long x)) (bX5 cI cZ a q om) := by
  intro sz
  refine Met.ofW (cc := cX5_column) (maxL := 3) (ret := (some .long)) (by decide +kernel) rfl ?_
  intro p e s m args below meth c s₁ B hml hv
  obtain ⟨rfl, hsz, hP, hK, hD0⟩ := hv
  have hx := B.exec
  have hb := B.bytes
  have hr := B.returns
  have hts0 := atoms_spec (ws := .code yX5_column cX5_column 3 (some .long) :: TB) B.pre
  have hts := fun w (h : w ∈ TB) => hts0 w (List.mem_cons_of_mem _ h)
  have hown : s.vm.findClass RX5 = some m.cls := findClass_of_methodNamed B.named
  have hlocks := B.notSynchronized
  subst hsz
  have hD := hD0.self (sz := s.heap.size)
  generalize hAe : va_A (bX5 cI cZ a q om) s.heap.size = A at hD ⊢
  have hA : ∀ q : Nat, s.heap.size ≤ q → A q := fun q h => by rw [← hAe]; exact Or.inr h
  have hS : va_S A s.heap s.heap [] := va_S.rf
  obtain ⟨H, hH⟩ : ∃ H, H = s.heap := ⟨_, rfl⟩
  rw [← hH] at hP
  have hS : va_S A s.heap H [] := by rw [hH]; exact hS
  have hl := lv_entry ([.ref a, .int i0, .int i1]) (n := 3) (Nat.le_of_ble_eq_true rfl)
  rw [lg_entry_eq]
  generalize (lg_sl ([.ref a, .int i0, .int i1]) ++ List.replicate (3 - (lg_sl ([.ref a, .int i0, .int i1])).length) Slot.unset).toArray = ls at hl ⊢
  have hl : lv_has ls 3 [(0, .ref a), (1, .int i0), (2, .int i1)] := hl
  refine W_heap hH ?_
  obtain ⟨locs, hlo⟩ : ∃ locs : List Loc, locs = [] := ⟨_, rfl⟩
  rw [← hlo] at hS ⊢
  unfold f_X5_column at hf
  refine lv_aload_n (pc := 0) hx hb dX5_column_0 rfl (lv_at hl 0 rfl) ?_
  refine lv_iload_n (pc := 1) hx hb dX5_column_1 rfl (lv_at hl 1 rfl) ?_
  obtain ⟨x1, ex1, hf⟩ := bd_some hf
  refine ct_V1 (pc := 2) (As := [.int i0]) (rest := []) (W1 := bX5 cI cZ a q om) ⟨hx, hb, hml, hown, hts⟩ hK (c_X5_isColumn l D cI cZ cS a q i0 om x1 ex1) gv_RX5_144 rfl hs_X5_isColumn rfl ⟨Nat.le_of_ble_eq_true rfl, Nat.le_of_ble_eq_true rfl⟩ (ci := 5) (q0 := 0) rfl rfl rfl hl.1 rfl (Nat.le_of_ble_eq_true rfl) dX5_column_2 ⟨Nat.zero_le _, Nat.zero_le _⟩ hP hD hS hA (fun H locs hP hD hS => ?_)
  refine lv_if_eq (pc := 5) (tgt := 27) hx hb dX5_column_5 (by decide) (fun c2 => ?_) (fun c2 => ?_)
  · replace hf := ip c2 hf
    refine lv_ldc2 (pc := 27) (v := -1000000000000000000) hx hb hown (hts _ cn_RX5_237) dX5_column_27 ?_
    obtain rfl := Option.some.inj hf
    exact W.lret hx hb hr (fun t ht hW => ⟨rfl, by rw [ht]; exact hP, hD, hS.F ht⟩) hS.2.2 dX5_column_30
  · replace hf := im c2 hf
    refine lv_iload_n (pc := 8) hx hb dX5_column_8 rfl (lv_at hl 2 rfl) ?_
    refine lv_iconst (v := 0) (pc := 9) hx hb dX5_column_9 (by decide) ?_
    refine lv_iconst (v := 2) (pc := 10) hx hb dX5_column_10 (by decide) ?_
    obtain ⟨x3, ex3, hf⟩ := bd_some hf
    refine ct_S0 (pc := 11) (As := [.int i1, .int 0, .int 2]) (rest := []) ⟨hx, hb, hml, hown, hts⟩ hK (c_X5_in l D cI cZ cS i1 0 2 x3 ex3) gs_RX5_57 hs_X5_in rfl ⟨Nat.le_of_ble_eq_true rfl, Nat.le_of_ble_eq_true rfl⟩ hl.1 rfl (Nat.le_of_ble_eq_true rfl) dX5_column_11 ⟨Nat.zero_le _, Nat.zero_le _⟩ hP hS hA (fun H locs hP hS => ?_)
    refine lv_if_eq (pc := 14) (tgt := 27) hx hb dX5_column_14 (by decide) (fun c4 => ?_) (fun c4 => ?_)
    · replace hf := ip c4 hf
      refine lv_ldc2 (pc := 27) (v := -1000000000000000000) hx hb hown (hts _ cn_RX5_237) dX5_column_27 ?_
      obtain rfl := Option.some.inj hf
      exact W.lret hx hb hr (fun t ht hW => ⟨rfl, by rw [ht]; exact hP, hD, hS.F ht⟩) hS.2.2 dX5_column_30
    · replace hf := im c4 hf
      refine lv_aload_n (pc := 17) hx hb dX5_column_17 rfl (lv_at hl 0 rfl) ?_
      refine lv_iload_n (pc := 18) hx hb dX5_column_18 rfl (lv_at hl 1 rfl) ?_
      refine lv_iload_n (pc := 19) hx hb dX5_column_19 rfl (lv_at hl 2 rfl) ?_
      obtain ⟨x5, ex5, hf⟩ := bd_some hf
      refine ct_V1 (pc := 20) (As := [.int i0, .int i1]) (rest := []) (W1 := bX5 cI cZ a q om) ⟨hx, hb, hml, hown, hts⟩ hK (c_X5_ofColumn l D cI cZ cS a q i0 i1 om x5 ex5) gv_RX5_147 rfl hs_X5_ofColumn rfl ⟨Nat.le_of_ble_eq_true rfl, Nat.le_of_ble_eq_true rfl⟩ (ci := 5) (q0 := 0) rfl rfl rfl hl.1 rfl (Nat.le_of_ble_eq_true rfl) dX5_column_20 ⟨Nat.zero_le _, Nat.zero_le _⟩ hP hD hS hA (fun H locs hP hD hS => ?_)
      refine lv_i2l (pc := 23) hx hb dX5_column_23 rfl ?_
      refine lv_goto (pc := 24) (tgt := 30) hx hb dX5_column_24 (by decide) ?_
      obtain rfl := Option.some.inj hf
      exact W.lret hx hb hr (fun t ht hW => ⟨rfl, by rw [ht]; exact hP, hD, hS.F ht⟩) hS.2.2 dX5_column_30
def f_X5_sum (i0 : Int32) (om : OS) : Option Int64 := Option.bind (f_X5_in i0 0 4) fun x1 => if x1 = 0 then some (-1000000000000000000) else Option.bind (f_X5_sumOf i0 om) fun x3 => some x3
set_option maxHeartbeats 4000000 in
set_option maxRecDepth 100000 in
theorem c_X5_sum (l : Launch) (D : va_G) (cI cZ cS : ClassId) (a : Nat) (q : Nat → Nat) (i0 : Int32) (om : OS) (x : Int64) (hf : f_X5_sum i0 om = some x) : Ct l yX5_sum cX5_sum 2 (some .long) 2 46 D cI cZ cS [.ref a, .int i0] (bX5 cI cZ a q om) (some (.long x)) (bX5 cI cZ a q om) := by
  intro sz
  refine Met.ofW (cc := cX5_sum) (maxL := 2) (ret := (some .long)) (by decide +kernel) rfl ?_
  intro p e s m args below meth c s₁ B hml hv
  obtain ⟨rfl, hsz, hP, hK, hD0⟩ := hv
  have hx := B.exec
  have hb := B.bytes
  have hr := B.returns
  have hts0 := atoms_spec (ws := .code yX5_sum cX5_sum 2 (some .long) :: TB) B.pre
  have hts := fun w (h : w ∈ TB) => hts0 w (List.mem_cons_of_mem _ h)
  have hown : s.vm.findClass RX5 = some m.cls := findClass_of_methodNamed B.named
  have hlocks := B.notSynchronized
  subst hsz
  have hD := hD0.self (sz := s.heap.size)
  generalize hAe : va_A (bX5 cI cZ a q om) s.heap.size = A at hD ⊢
  have hA : ∀ q : Nat, s.heap.size ≤ q → A q := fun q h => by rw [← hAe]; exact Or.inr h
  have hS : va_S A s.heap s.heap [] := va_S.rf
  obtain ⟨H, hH⟩ : ∃ H, H = s.heap := ⟨_, rfl⟩
  rw [← hH] at hP
  have hS : va_S A s.heap H [] := by rw [hH]; exact hS
  have hl := lv_entry ([.ref a, .int i0]) (n := 2) (Nat.le_of_ble_eq_true rfl)
  rw [lg_entry_eq]
  generalize (lg_sl ([.ref a, .int i0]) ++ List.replicate (2 - (lg_sl ([.ref a, .int i0])).length) Slot.unset).toArray = ls at hl ⊢
  have hl : lv_has ls 2 [(0, .ref a), (1, .int i0)] := hl
  refine W_heap hH ?_
  obtain ⟨locs, hlo⟩ : ∃ locs : List Loc, locs = [] := ⟨_, rfl⟩
  rw [← hlo] at hS ⊢
  unfold f_X5_sum at hf
  refine lv_iload_n (pc := 0) hx hb dX5_sum_0 rfl (lv_at hl 1 rfl) ?_
  refine lv_iconst (v := 0) (pc := 1) hx hb dX5_sum_1 (by decide) ?_
  refine lv_iconst (v := 4) (pc := 2) hx hb dX5_sum_2 (by decide) ?_
  obtain ⟨x1, ex1, hf⟩ := bd_some hf
  refine ct_S0 (pc := 3) (As := [.int i0, .int 0, .int 4]) (rest := []) ⟨hx, hb, hml, hown, hts⟩ hK (c_X5_in l D cI cZ cS i0 0 4 x1 ex1) gs_RX5_57 hs_X5_in rfl ⟨Nat.le_of_ble_eq_true rfl, Nat.le_of_ble_eq_true rfl⟩ hl.1 rfl (Nat.le_of_ble_eq_true rfl) dX5_sum_3 ⟨Nat.zero_le _, Nat.zero_le _⟩ hP hS hA (fun H locs hP hS => ?_)
  refine lv_if_eq (pc := 6) (tgt := 17) hx hb dX5_sum_6 (by decide) (fun c2 => ?_) (fun c2 => ?_)
  · replace hf := ip c2 hf
    refine lv_ldc2 (pc := 17) (v := -1000000000000000000) hx hb hown (hts _ cn_RX5_237) dX5_sum_17 ?_
    obtain rfl := Option.some.inj hf
    exact W.lret hx hb hr (fun t ht hW => ⟨rfl, by rw [ht]; exact hP, hD, hS.F ht⟩) hS.2.2 dX5_sum_20
  · replace hf := im c2 hf
    refine lv_aload_n (pc := 9) hx hb dX5_sum_9 rfl (lv_at hl 0 rfl) ?_
    refine lv_iload_n (pc := 10) hx hb dX5_sum_10 rfl (lv_at hl 1 rfl) ?_
    obtain ⟨x3, ex3, hf⟩ := bd_some hf
    refine ct_V1 (pc := 11) (As := [.int i0]) (rest := []) (W1 := bX5 cI cZ a q om) ⟨hx, hb, hml, hown, hts⟩ hK (c_X5_sumOf l D cI cZ cS a q i0 om x3 ex3) gv_RX5_156 rfl hs_X5_sumOf rfl ⟨Nat.le_of_ble_eq_true rfl, Nat.le_of_ble_eq_true rfl⟩ (ci := 5) (q0 := 0) rfl rfl rfl hl.1 rfl (Nat.le_of_ble_eq_true rfl) dX5_sum_11 ⟨Nat.zero_le _, Nat.zero_le _⟩ hP hD hS hA (fun H locs hP hD hS => ?_)
    refine lv_goto (pc := 14) (tgt := 20) hx hb dX5_sum_14 (by decide) ?_
    obtain rfl := Option.some.inj hf
    exact W.lret hx hb hr (fun t ht hW => ⟨rfl, by rw [ht]; exact hP, hD, hS.F ht⟩) hS.2.2 dX5_sum_20
def f_X5_sharing (i0 : Int32) (om : OS) : Option (Int32 × OS) := Option.bind (f_X5_in i0 0 2) fun x1 => if x1 = 0 then some ((-1), om) else Option.bind (f_X5_sharesNow om) fun x3 => if i0 = 0 then some ((x3.1 27), x3) else if i0 = 1 then if (x3.1 28) = 0 then some (0, x3) else some (1, x3) else if (x3.1 28) = 0 then some ((-9), x3) else some (((x3.1 22) &&& ((x3.1 26) ^^^ (-1))), x3)
set_option maxHeartbeats 4000000 in
set_option maxRecDepth 100000 in
theorem c_X5_sharing (l : Launch) (D : va_G) (cI cZ cS : ClassId) (a : Nat) (q : Nat → Nat) (i0 : Int32) (om : OS) (x : (Int32 × OS)) (hf : f_X5_sharing i0 om = some x) : Ct l yX5_sharing cX5_sharing 2 (some .int) 5 113 D cI cZ cS [.ref a, .int i0] (bX5 cI cZ a q om) (some (.int x.1)) (bX5 cI cZ a q x.2) := by
  intro sz
  refine Met.ofW (cc := cX5_sharing) (maxL := 2) (ret := (some .int)) (by decide +kernel) rfl ?_
  intro p e s m args below meth c s₁ B hml hv
  obtain ⟨rfl, hsz, hP, hK, hD0⟩ := hv
  have hx := B.exec
  have hb := B.bytes
  have hr := B.returns
  have hts0 := atoms_spec (ws := .code yX5_sharing cX5_sharing 2 (some .int) :: TB) B.pre
  have hts := fun w (h : w ∈ TB) => hts0 w (List.mem_cons_of_mem _ h)
  have hown : s.vm.findClass RX5 = some m.cls := findClass_of_methodNamed B.named
  have hlocks := B.notSynchronized
  subst hsz
  have hD := hD0.self (sz := s.heap.size)
  generalize hAe : va_A (bX5 cI cZ a q om) s.heap.size = A at hD ⊢
  have hA : ∀ q : Nat, s.heap.size ≤ q → A q := fun q h => by rw [← hAe]; exact Or.inr h
  have hS : va_S A s.heap s.heap [] := va_S.rf
  obtain ⟨H, hH⟩ : ∃ H, H = s.heap := ⟨_, rfl⟩
  rw [← hH] at hP
  have hS : va_S A s.heap H [] := by rw [hH]; exact hS
  have hl := lv_entry ([.ref a, .int i0]) (n := 2) (Nat.le_of_ble_eq_true rfl)
  rw [lg_entry_eq]
  generalize (lg_sl ([.ref a, .int i0]) ++ List.replicate (2 - (lg_sl ([.ref a, .int i0])).length) Slot.unset).toArray = ls at hl ⊢
  have hl : lv_has ls 2 [(0, .ref a), (1, .int i0)] := hl
  refine W_heap hH ?_
  obtain ⟨locs, hlo⟩ : ∃ locs : List Loc, locs = [] := ⟨_, rfl⟩
  rw [← hlo] at hS ⊢
  unfold f_X5_sharing at hf
  refine lv_iload_n (pc := 0) hx hb dX5_sharing_0 rfl (lv_at hl 1 rfl) ?_
  refine lv_iconst (v := 0) (pc := 1) hx hb dX5_sharing_1 (by decide) ?_
  refine lv_iconst (v := 2) (pc := 2) hx hb dX5_sharing_2 (by decide) ?_
  obtain ⟨x1, ex1, hf⟩ := bd_some hf
  refine ct_S0 (pc := 3) (As := [.int i0, .int 0, .int 2]) (rest := []) ⟨hx, hb, hml, hown, hts⟩ hK (c_X5_in l D cI cZ cS i0 0 2 x1 ex1) gs_RX5_57 hs_X5_in rfl ⟨Nat.le_of_ble_eq_true rfl, Nat.le_of_ble_eq_true rfl⟩ hl.1 rfl (Nat.le_of_ble_eq_true rfl) dX5_sharing_3 ⟨Nat.zero_le _, Nat.zero_le _⟩ hP hS hA (fun H locs hP hS => ?_)
  refine lv_if_ne (pc := 6) (tgt := 11) hx hb dX5_sharing_6 (by decide) (fun c2 => ?_) (fun c2 => ?_)
  · replace hf := im c2 hf
    refine lv_aload_n (pc := 11) hx hb dX5_sharing_11 rfl (lv_at hl 0 rfl) ?_
    obtain ⟨x3, ex3, hf⟩ := bd_some hf
    refine ct_V1 (pc := 12) (As := []) (rest := []) (W1 := bX5 cI cZ a q x3) ⟨hx, hb, hml, hown, hts⟩ hK (c_X5_sharesNow l D cI cZ cS a q om x3 ex3) gv_RX5_239 rfl hs_X5_sharesNow rfl ⟨Nat.le_of_ble_eq_true rfl, Nat.le_of_ble_eq_true rfl⟩ (ci := 5) (q0 := 0) rfl rfl rfl hl.1 rfl (Nat.le_of_ble_eq_true rfl) dX5_sharing_12 ⟨Nat.zero_le _, Nat.zero_le _⟩ hP hD hS hA (fun H locs hP hD hS => ?_)
    refine lv_iload_n (pc := 15) hx hb dX5_sharing_15 rfl (lv_at hl 1 rfl) ?_
    refine lv_if_ne (pc := 16) (tgt := 26) hx hb dX5_sharing_16 (by decide) (fun c4 => ?_) (fun c4 => ?_)
    · replace hf := im c4 hf
      refine lv_iload_n (pc := 26) hx hb dX5_sharing_26 rfl (lv_at hl 1 rfl) ?_
      refine lv_iconst (v := 1) (pc := 27) hx hb dX5_sharing_27 (by decide) ?_
      refine lv_icmp_ne (pc := 28) (tgt := 46) hx hb dX5_sharing_28 (by decide) (fun c5 => ?_) (fun c5 => ?_)
      · replace hf := im c5 hf
        refine lv_aload_n (pc := 46) hx hb dX5_sharing_46 rfl (lv_at hl 0 rfl) ?_
        refine va_get (pc := 47) (D := D) (ci := 5) (v := .int (x3.1 28)) (C := RX5) (T := TX5) (N := 41) hx hb hts iX5 hown hK.1 hP 0 rfl rfl 28 (by decide) (hts _ fl_RX5_199) (fun _ h => h) rfl dX5_sharing_47 ?_
        refine lv_if_eq (pc := 50) (tgt := 67) hx hb dX5_sharing_50 (by decide) (fun c6 => ?_) (fun c6 => ?_)
        · replace hf := ip c6 hf
          refine lv_bipush (v := -9) (pc := 67) hx hb dX5_sharing_67 (by decide) ?_
          obtain rfl := Option.some.inj hf
          exact W.iret hx hb hr (fun t ht hW => ⟨rfl, by rw [ht]; exact hP, hD, hS.F ht⟩) hS.2.2 dX5_sharing_69
        · replace hf := im c6 hf
          refine lv_aload_n (pc := 53) hx hb dX5_sharing_53 rfl (lv_at hl 0 rfl) ?_
          refine va_get (pc := 54) (D := D) (ci := 5) (v := .int (x3.1 22)) (C := RX5) (T := TX5) (N := 41) hx hb hts iX5 hown hK.1 hP 0 rfl rfl 22 (by decide) (hts _ fl_RX5_153) (fun _ h => h) rfl dX5_sharing_54 ?_
          refine lv_aload_n (pc := 57) hx hb dX5_sharing_57 rfl (lv_at hl 0 rfl) ?_
          refine va_get (pc := 58) (D := D) (ci := 5) (v := .int (x3.1 26)) (C := RX5) (T := TX5) (N := 41) hx hb hts iX5 hown hK.1 hP 0 rfl rfl 26 (by decide) (hts _ fl_RX5_186) (fun _ h => h) rfl dX5_sharing_58 ?_
          refine lv_iconst (v := -1) (pc := 61) hx hb dX5_sharing_61 (by decide) ?_
          refine lv_ixor (pc := 62) hx hb dX5_sharing_62 ?_
          refine lv_iand (pc := 63) hx hb dX5_sharing_63 ?_
          refine lv_goto (pc := 64) (tgt := 69) hx hb dX5_sharing_64 (by decide) ?_
          obtain rfl := Option.some.inj hf
          exact W.iret hx hb hr (fun t ht hW => ⟨rfl, by rw [ht]; exact hP, hD, hS.F ht⟩) hS.2.2 dX5_sharing_69
      · replace hf := ip c5 hf
        refine lv_aload_n (pc := 31) hx hb dX5_sharing_31 rfl (lv_at hl 0 rfl) ?_
        refine va_get (pc := 32) (D := D) (ci := 5) (v := .int (x3.1 28)) (C := RX5) (T := TX5) (N := 41) hx hb hts iX5 hown hK.1 hP 0 rfl rfl 28 (by decide) (hts _ fl_RX5_199) (fun _ h => h) rfl dX5_sharing_32 ?_
        refine lv_if_eq (pc := 35) (tgt := 42) hx hb dX5_sharing_35 (by decide) (fun c7 => ?_) (fun c7 => ?_)
        · replace hf := ip c7 hf
          refine lv_iconst (v := 0) (pc := 42) hx hb dX5_sharing_42 (by decide) ?_
          refine lv_goto (pc := 43) (tgt := 69) hx hb dX5_sharing_43 (by decide) ?_
          obtain rfl := Option.some.inj hf
          exact W.iret hx hb hr (fun t ht hW => ⟨rfl, by rw [ht]; exact hP, hD, hS.F ht⟩) hS.2.2 dX5_sharing_69
        · replace hf := im c7 hf
          refine lv_iconst (v := 1) (pc := 38) hx hb dX5_sharing_38 (by decide) ?_
          refine lv_goto (pc := 39) (tgt := 69) hx hb dX5_sharing_39 (by decide) ?_
          obtain rfl := Option.some.inj hf
          exact W.iret hx hb hr (fun t ht hW => ⟨rfl, by rw [ht]; exact hP, hD, hS.F ht⟩) hS.2.2 dX5_sharing_69
    · replace hf := ip c4 hf
      refine lv_aload_n (pc := 19) hx hb dX5_sharing_19 rfl (lv_at hl 0 rfl) ?_
      refine va_get (pc := 20) (D := D) (ci := 5) (v := .int (x3.1 27)) (C := RX5) (T := TX5) (N := 41) hx hb hts iX5 hown hK.1 hP 0 rfl rfl 27 (by decide) (hts _ fl_RX5_196) (fun _ h => h) rfl dX5_sharing_20 ?_
      refine lv_goto (pc := 23) (tgt := 69) hx hb dX5_sharing_23 (by decide) ?_
      obtain rfl := Option.some.inj hf
      exact W.iret hx hb hr (fun t ht hW => ⟨rfl, by rw [ht]; exact hP, hD, hS.F ht⟩) hS.2.2 dX5_sharing_69
  · replace hf := ip c2 hf
    refine lv_iconst (v := -1) (pc := 9) hx hb dX5_sharing_9 (by decide) ?_
    obtain rfl := Option.some.inj hf
    exact W.iret hx hb hr (fun t ht hW => ⟨rfl, by rw [ht]; exact hP, hD, hS.F ht⟩) hS.2.2 dX5_sharing_10
def f_X5_share (i0 : Int32) (i1 : Int32) (om : OS) : Option (Int64 × OS) := Option.bind (f_X5_isPile i0 om) fun x1 => if x1 = 0 then some ((-1000000000000000000), om) else Option.bind (f_X5_in i1 0 2) fun x3 => if x3 = 0 then some ((-1000000000000000000), om) else Option.bind (f_X5_sharesNow om) fun x5 => if (x5.1 28) = 0 then some ((-2000000000000000000), x5) else if i1 = 2 then Option.bind (f_X5_bears i0 x5) fun x10 => dzL (x5.2.1 29) (some ((x10 / (x5.2.1 29)), x5)) else Option.bind (f_X5_bears i0 x5) fun x8 => Option.bind (f_X5_part x8 (x5.2.1 29) i1) fun x9 => some (x9, x5)
set_option maxHeartbeats 4000000 in
set_option maxRecDepth 100000 in
theorem c_X5_share (l : Launch) (D : va_G) (cI cZ cS : ClassId) (a : Nat) (q : Nat → Nat) (i0 : Int32) (i1 : Int32) (om : OS) (x : (Int64 × OS)) (hf : f_X5_share i0 i1 om = some x) : Ct l yX5_share cX5_share 3 (some .long) 5 113 D cI cZ cS [.ref a, .int i0, .int i1] (bX5 cI cZ a q om) (some (.long x.1)) (bX5 cI cZ a q x.2) := by
  intro sz
  refine Met.ofW (cc := cX5_share) (maxL := 3) (ret := (some .long)) (by decide +kernel) rfl ?_
  intro p e s m args below meth c s₁ B hml hv
  obtain ⟨rfl, hsz, hP, hK, hD0⟩ := hv
  have hx := B.exec
  have hb := B.bytes
  have hr := B.returns
  have hts0 := atoms_spec (ws := .code yX5_share cX5_share 3 (some .long) :: TB) B.pre
  have hts := fun w (h : w ∈ TB) => hts0 w (List.mem_cons_of_mem _ h)
  have hown : s.vm.findClass RX5 = some m.cls := findClass_of_methodNamed B.named
  have hlocks := B.notSynchronized
  subst hsz
  have hD := hD0.self (sz := s.heap.size)
  generalize hAe : va_A (bX5 cI cZ a q om) s.heap.size = A at hD ⊢
  have hA : ∀ q : Nat, s.heap.size ≤ q → A q := fun q h => by rw [← hAe]; exact Or.inr h
  have hS : va_S A s.heap s.heap [] := va_S.rf
  obtain ⟨H, hH⟩ : ∃ H, H = s.heap := ⟨_, rfl⟩
  rw [← hH] at hP
  have hS : va_S A s.heap H [] := by rw [hH]; exact hS
  have hl := lv_entry ([.ref a, .int i0, .int i1]) (n := 3) (Nat.le_of_ble_eq_true rfl)
  rw [lg_entry_eq]
  generalize (lg_sl ([.ref a, .int i0, .int i1]) ++ List.replicate (3 - (lg_sl ([.ref a, .int i0, .int i1])).length) Slot.unset).toArray = ls at hl ⊢
  have hl : lv_has ls 3 [(0, .ref a), (1, .int i0), (2, .int i1)] := hl
  refine W_heap hH ?_
  obtain ⟨locs, hlo⟩ : ∃ locs : List Loc, locs = [] := ⟨_, rfl⟩
  rw [← hlo] at hS ⊢
  unfold f_X5_share at hf
  refine lv_aload_n (pc := 0) hx hb dX5_share_0 rfl (lv_at hl 0 rfl) ?_
  refine lv_iload_n (pc := 1) hx hb dX5_share_1 rfl (lv_at hl 1 rfl) ?_
  obtain ⟨x1, ex1, hf⟩ := bd_some hf
  refine ct_V1 (pc := 2) (As := [.int i0]) (rest := []) (W1 := bX5 cI cZ a q om) ⟨hx, hb, hml, hown, hts⟩ hK (c_X5_isPile l D cI cZ cS a q i0 om x1 ex1) gv_RX5_133 rfl hs_X5_isPile rfl ⟨Nat.le_of_ble_eq_true rfl, Nat.le_of_ble_eq_true rfl⟩ (ci := 5) (q0 := 0) rfl rfl rfl hl.1 rfl (Nat.le_of_ble_eq_true rfl) dX5_share_2 ⟨Nat.zero_le _, Nat.zero_le _⟩ hP hD hS hA (fun H locs hP hD hS => ?_)
  refine lv_if_eq (pc := 5) (tgt := 17) hx hb dX5_share_5 (by decide) (fun c2 => ?_) (fun c2 => ?_)
  · replace hf := ip c2 hf
    refine lv_ldc2 (pc := 17) (v := -1000000000000000000) hx hb hown (hts _ cn_RX5_237) dX5_share_17 ?_
    obtain rfl := Option.some.inj hf
    exact W.lret hx hb hr (fun t ht hW => ⟨rfl, by rw [ht]; exact hP, hD, hS.F ht⟩) hS.2.2 dX5_share_20
  · replace hf := im c2 hf
    refine lv_iload_n (pc := 8) hx hb dX5_share_8 rfl (lv_at hl 2 rfl) ?_
    refine lv_iconst (v := 0) (pc := 9) hx hb dX5_share_9 (by decide) ?_
    refine lv_iconst (v := 2) (pc := 10) hx hb dX5_share_10 (by decide) ?_
    obtain ⟨x3, ex3, hf⟩ := bd_some hf
    refine ct_S0 (pc := 11) (As := [.int i1, .int 0, .int 2]) (rest := []) ⟨hx, hb, hml, hown, hts⟩ hK (c_X5_in l D cI cZ cS i1 0 2 x3 ex3) gs_RX5_57 hs_X5_in rfl ⟨Nat.le_of_ble_eq_true rfl, Nat.le_of_ble_eq_true rfl⟩ hl.1 rfl (Nat.le_of_ble_eq_true rfl) dX5_share_11 ⟨Nat.zero_le _, Nat.zero_le _⟩ hP hS hA (fun H locs hP hS => ?_)
    refine lv_if_ne (pc := 14) (tgt := 21) hx hb dX5_share_14 (by decide) (fun c4 => ?_) (fun c4 => ?_)
    · replace hf := im c4 hf
      refine lv_aload_n (pc := 21) hx hb dX5_share_21 rfl (lv_at hl 0 rfl) ?_
      obtain ⟨x5, ex5, hf⟩ := bd_some hf
      refine ct_V1 (pc := 22) (As := []) (rest := []) (W1 := bX5 cI cZ a q x5) ⟨hx, hb, hml, hown, hts⟩ hK (c_X5_sharesNow l D cI cZ cS a q om x5 ex5) gv_RX5_239 rfl hs_X5_sharesNow rfl ⟨Nat.le_of_ble_eq_true rfl, Nat.le_of_ble_eq_true rfl⟩ (ci := 5) (q0 := 0) rfl rfl rfl hl.1 rfl (Nat.le_of_ble_eq_true rfl) dX5_share_22 ⟨Nat.zero_le _, Nat.zero_le _⟩ hP hD hS hA (fun H locs hP hD hS => ?_)
      refine lv_aload_n (pc := 25) hx hb dX5_share_25 rfl (lv_at hl 0 rfl) ?_
      refine va_get (pc := 26) (D := D) (ci := 5) (v := .int (x5.1 28)) (C := RX5) (T := TX5) (N := 41) hx hb hts iX5 hown hK.1 hP 0 rfl rfl 28 (by decide) (hts _ fl_RX5_199) (fun _ h => h) rfl dX5_share_26 ?_
      refine lv_if_ne (pc := 29) (tgt := 38) hx hb dX5_share_29 (by decide) (fun c6 => ?_) (fun c6 => ?_)
      · replace hf := im c6 hf
        refine lv_iload_n (pc := 38) hx hb dX5_share_38 rfl (lv_at hl 2 rfl) ?_
        refine lv_iconst (v := 2) (pc := 39) hx hb dX5_share_39 (by decide) ?_
        refine lv_icmp_ne (pc := 40) (tgt := 56) hx hb dX5_share_40 (by decide) (fun c7 => ?_) (fun c7 => ?_)
        · replace hf := im c7 hf
          refine lv_aload_n (pc := 56) hx hb dX5_share_56 rfl (lv_at hl 0 rfl) ?_
          refine lv_iload_n (pc := 57) hx hb dX5_share_57 rfl (lv_at hl 1 rfl) ?_
          obtain ⟨x8, ex8, hf⟩ := bd_some hf
          refine ct_V1 (pc := 58) (As := [.int i0]) (rest := []) (W1 := bX5 cI cZ a q x5) ⟨hx, hb, hml, hown, hts⟩ hK (c_X5_bears l D cI cZ cS a q i0 x5 x8 ex8) gv_RX5_193 rfl hs_X5_bears rfl ⟨Nat.le_of_ble_eq_true rfl, Nat.le_of_ble_eq_true rfl⟩ (ci := 5) (q0 := 0) rfl rfl rfl hl.1 rfl (Nat.le_of_ble_eq_true rfl) dX5_share_58 ⟨Nat.zero_le _, Nat.zero_le _⟩ hP hD hS hA (fun H locs hP hD hS => ?_)
          refine lv_aload_n (pc := 61) hx hb dX5_share_61 rfl (lv_at hl 0 rfl) ?_
          refine va_get (pc := 62) (D := D) (ci := 5) (v := .long (x5.2.1 29)) (C := RX5) (T := TX5) (N := 41) hx hb hts iX5 hown hK.1 hP 0 rfl rfl 29 (by decide) (hts _ fl_RX5_174) (fun _ h => h) rfl dX5_share_62 ?_
          refine lv_iload_n (pc := 65) hx hb dX5_share_65 rfl (lv_at hl 2 rfl) ?_
          obtain ⟨x9, ex9, hf⟩ := bd_some hf
          refine ct_S0 (pc := 66) (As := [.long x8, .long (x5.2.1 29), .int i1]) (rest := []) ⟨hx, hb, hml, hown, hts⟩ hK (c_X5_part l D cI cZ cS x8 (x5.2.1 29) i1 x9 ex9) gs_RX5_233 hs_X5_part rfl ⟨Nat.le_of_ble_eq_true rfl, Nat.le_of_ble_eq_true rfl⟩ hl.1 rfl (Nat.le_of_ble_eq_true rfl) dX5_share_66 ⟨Nat.zero_le _, Nat.zero_le _⟩ hP hS hA (fun H locs hP hS => ?_)
          obtain rfl := Option.some.inj hf
          exact W.lret hx hb hr (fun t ht hW => ⟨rfl, by rw [ht]; exact hP, hD, hS.F ht⟩) hS.2.2 dX5_share_69
        · replace hf := ip c7 hf
          refine lv_aload_n (pc := 43) hx hb dX5_share_43 rfl (lv_at hl 0 rfl) ?_
          refine lv_iload_n (pc := 44) hx hb dX5_share_44 rfl (lv_at hl 1 rfl) ?_
          obtain ⟨x10, ex10, hf⟩ := bd_some hf
          refine ct_V1 (pc := 45) (As := [.int i0]) (rest := []) (W1 := bX5 cI cZ a q x5) ⟨hx, hb, hml, hown, hts⟩ hK (c_X5_bears l D cI cZ cS a q i0 x5 x10 ex10) gv_RX5_193 rfl hs_X5_bears rfl ⟨Nat.le_of_ble_eq_true rfl, Nat.le_of_ble_eq_true rfl⟩ (ci := 5) (q0 := 0) rfl rfl rfl hl.1 rfl (Nat.le_of_ble_eq_true rfl) dX5_share_45 ⟨Nat.zero_le _, Nat.zero_le _⟩ hP hD hS hA (fun H locs hP hD hS => ?_)
          refine lv_aload_n (pc := 48) hx hb dX5_share_48 rfl (lv_at hl 0 rfl) ?_
          refine va_get (pc := 49) (D := D) (ci := 5) (v := .long (x5.2.1 29)) (C := RX5) (T := TX5) (N := 41) hx hb hts iX5 hown hK.1 hP 0 rfl rfl 29 (by decide) (hts _ fl_RX5_174) (fun _ h => h) rfl dX5_share_49 ?_
          obtain ⟨h11, hf⟩ := dzL_some hf
          refine lv_ldiv (pc := 52) hx hb dX5_share_52 h11 ?_
          refine lv_goto (pc := 53) (tgt := 69) hx hb dX5_share_53 (by decide) ?_
          obtain rfl := Option.some.inj hf
          exact W.lret hx hb hr (fun t ht hW => ⟨rfl, by rw [ht]; exact hP, hD, hS.F ht⟩) hS.2.2 dX5_share_69
      · replace hf := ip c6 hf
        refine lv_ldc2 (pc := 32) (v := -2000000000000000000) hx hb hown (hts _ cn_RX5_244) dX5_share_32 ?_
        refine lv_goto (pc := 35) (tgt := 69) hx hb dX5_share_35 (by decide) ?_
        obtain rfl := Option.some.inj hf
        exact W.lret hx hb hr (fun t ht hW => ⟨rfl, by rw [ht]; exact hP, hD, hS.F ht⟩) hS.2.2 dX5_share_69
    · replace hf := ip c4 hf
      refine lv_ldc2 (pc := 17) (v := -1000000000000000000) hx hb hown (hts _ cn_RX5_237) dX5_share_17 ?_
      obtain rfl := Option.some.inj hf
      exact W.lret hx hb hr (fun t ht hW => ⟨rfl, by rw [ht]; exact hP, hD, hS.F ht⟩) hS.2.2 dX5_share_20
def f_X5_press (i0 : Int32) (i1 : Int32) (i2 : Int32) (om : OS) : Option (Int64 × OS) := Option.bind (f_X5_isPlace i0 i1) fun x1 => if x1 = 0 then some ((-1000000000000000000), om) else Option.bind (f_X5_in i2 0 1) fun x3 => if x3 = 0 then some ((-1000000000000000000), om) else Option.bind (f_X5_sharesNow om) fun x5 => if (x5.1 28) = 0 then some ((-2000000000000000000), x5) else Option.bind (f_X5_pressAt i0 i1 x5) fun x7 => Option.bind (f_X5_part x7 (x5.2.1 29) i2) fun x8 => some (x8, x5)
set_option maxHeartbeats 4000000 in
set_option maxRecDepth 100000 in
theorem c_X5_press (l : Launch) (D : va_G) (cI cZ cS : ClassId) (a : Nat) (q : Nat → Nat) (i0 : Int32) (i1 : Int32) (i2 : Int32) (om : OS) (x : (Int64 × OS)) (hf : f_X5_press i0 i1 i2 om = some x) : Ct l yX5_press cX5_press 4 (some .long) 5 113 D cI cZ cS [.ref a, .int i0, .int i1, .int i2] (bX5 cI cZ a q om) (some (.long x.1)) (bX5 cI cZ a q x.2) := by
  intro sz
  refine Met.ofW (cc := cX5_press) (maxL := 4) (ret := (some .long)) (by decide +kernel) rfl ?_
  intro p e s m args below meth c s₁ B hml hv
  obtain ⟨rfl, hsz, hP, hK, hD0⟩ := hv
  have hx := B.exec
  have hb := B.bytes
  have hr := B.returns
  have hts0 := atoms_spec (ws := .code yX5_press cX5_press 4 (some .long) :: TB) B.pre
  have hts := fun w (h : w ∈ TB) => hts0 w (List.mem_cons_of_mem _ h)
  have hown : s.vm.findClass RX5 = some m.cls := findClass_of_methodNamed B.named
  have hlocks := B.notSynchronized
  subst hsz
  have hD := hD0.self (sz := s.heap.size)
  generalize hAe : va_A (bX5 cI cZ a q om) s.heap.size = A at hD ⊢
  have hA : ∀ q : Nat, s.heap.size ≤ q → A q := fun q h => by rw [← hAe]; exact Or.inr h
  have hS : va_S A s.heap s.heap [] := va_S.rf
  obtain ⟨H, hH⟩ : ∃ H, H = s.heap := ⟨_, rfl⟩
  rw [← hH] at hP
  have hS : va_S A s.heap H [] := by rw [hH]; exact hS
  have hl := lv_entry ([.ref a, .int i0, .int i1, .int i2]) (n := 4) (Nat.le_of_ble_eq_true rfl)
  rw [lg_entry_eq]
  generalize (lg_sl ([.ref a, .int i0, .int i1, .int i2]) ++ List.replicate (4 - (lg_sl ([.ref a, .int i0, .int i1, .int i2])).length) Slot.unset).toArray = ls at hl ⊢
  have hl : lv_has ls 4 [(0, .ref a), (1, .int i0), (2, .int i1), (3, .int i2)] := hl
  refine W_heap hH ?_
  obtain ⟨locs, hlo⟩ : ∃ locs : List Loc, locs = [] := ⟨_, rfl⟩
  rw [← hlo] at hS ⊢
  unfold f_X5_press at hf
  refine lv_iload_n (pc := 0) hx hb dX5_press_0 rfl (lv_at hl 1 rfl) ?_
  refine lv_iload_n (pc := 1) hx hb dX5_press_1 rfl (lv_at hl 2 rfl) ?_
  obtain ⟨x1, ex1, hf⟩ := bd_some hf
  refine ct_S0 (pc := 2) (As := [.int i0, .int i1]) (rest := []) ⟨hx, hb, hml, hown, hts⟩ hK (c_X5_isPlace l D cI cZ cS i0 i1 x1 ex1) gs_RX5_121 hs_X5_isPlace rfl ⟨Nat.le_of_ble_eq_true rfl, Nat.le_of_ble_eq_true rfl⟩ hl.1 rfl (Nat.le_of_ble_eq_true rfl) dX5_press_2 ⟨Nat.zero_le _, Nat.zero_le _⟩ hP hS hA (fun H locs hP hS => ?_)
  refine lv_if_eq (pc := 5) (tgt := 17) hx hb dX5_press_5 (by decide) (fun c2 => ?_) (fun c2 => ?_)
  · replace hf := ip c2 hf
    refine lv_ldc2 (pc := 17) (v := -1000000000000000000) hx hb hown (hts _ cn_RX5_237) dX5_press_17 ?_
    obtain rfl := Option.some.inj hf
    exact W.lret hx hb hr (fun t ht hW => ⟨rfl, by rw [ht]; exact hP, hD, hS.F ht⟩) hS.2.2 dX5_press_20
  · replace hf := im c2 hf
    refine lv_iload_n (pc := 8) hx hb dX5_press_8 rfl (lv_at hl 3 rfl) ?_
    refine lv_iconst (v := 0) (pc := 9) hx hb dX5_press_9 (by decide) ?_
    refine lv_iconst (v := 1) (pc := 10) hx hb dX5_press_10 (by decide) ?_
    obtain ⟨x3, ex3, hf⟩ := bd_some hf
    refine ct_S0 (pc := 11) (As := [.int i2, .int 0, .int 1]) (rest := []) ⟨hx, hb, hml, hown, hts⟩ hK (c_X5_in l D cI cZ cS i2 0 1 x3 ex3) gs_RX5_57 hs_X5_in rfl ⟨Nat.le_of_ble_eq_true rfl, Nat.le_of_ble_eq_true rfl⟩ hl.1 rfl (Nat.le_of_ble_eq_true rfl) dX5_press_11 ⟨Nat.zero_le _, Nat.zero_le _⟩ hP hS hA (fun H locs hP hS => ?_)
    refine lv_if_ne (pc := 14) (tgt := 21) hx hb dX5_press_14 (by decide) (fun c4 => ?_) (fun c4 => ?_)
    · replace hf := im c4 hf
      refine lv_aload_n (pc := 21) hx hb dX5_press_21 rfl (lv_at hl 0 rfl) ?_
      obtain ⟨x5, ex5, hf⟩ := bd_some hf
      refine ct_V1 (pc := 22) (As := []) (rest := []) (W1 := bX5 cI cZ a q x5) ⟨hx, hb, hml, hown, hts⟩ hK (c_X5_sharesNow l D cI cZ cS a q om x5 ex5) gv_RX5_239 rfl hs_X5_sharesNow rfl ⟨Nat.le_of_ble_eq_true rfl, Nat.le_of_ble_eq_true rfl⟩ (ci := 5) (q0 := 0) rfl rfl rfl hl.1 rfl (Nat.le_of_ble_eq_true rfl) dX5_press_22 ⟨Nat.zero_le _, Nat.zero_le _⟩ hP hD hS hA (fun H locs hP hD hS => ?_)
      refine lv_aload_n (pc := 25) hx hb dX5_press_25 rfl (lv_at hl 0 rfl) ?_
      refine va_get (pc := 26) (D := D) (ci := 5) (v := .int (x5.1 28)) (C := RX5) (T := TX5) (N := 41) hx hb hts iX5 hown hK.1 hP 0 rfl rfl 28 (by decide) (hts _ fl_RX5_199) (fun _ h => h) rfl dX5_press_26 ?_
      refine lv_if_eq (pc := 29) (tgt := 49) hx hb dX5_press_29 (by decide) (fun c6 => ?_) (fun c6 => ?_)
      · replace hf := ip c6 hf
        refine lv_ldc2 (pc := 49) (v := -2000000000000000000) hx hb hown (hts _ cn_RX5_244) dX5_press_49 ?_
        obtain rfl := Option.some.inj hf
        exact W.lret hx hb hr (fun t ht hW => ⟨rfl, by rw [ht]; exact hP, hD, hS.F ht⟩) hS.2.2 dX5_press_52
      · replace hf := im c6 hf
        refine lv_aload_n (pc := 32) hx hb dX5_press_32 rfl (lv_at hl 0 rfl) ?_
        refine lv_iload_n (pc := 33) hx hb dX5_press_33 rfl (lv_at hl 1 rfl) ?_
        refine lv_iload_n (pc := 34) hx hb dX5_press_34 rfl (lv_at hl 2 rfl) ?_
        obtain ⟨x7, ex7, hf⟩ := bd_some hf
        refine ct_V1 (pc := 35) (As := [.int i0, .int i1]) (rest := []) (W1 := bX5 cI cZ a q x5) ⟨hx, hb, hml, hown, hts⟩ hK (c_X5_pressAt l D cI cZ cS a q i0 i1 x5 x7 ex7) gv_RX5_189 rfl hs_X5_pressAt rfl ⟨Nat.le_of_ble_eq_true rfl, Nat.le_of_ble_eq_true rfl⟩ (ci := 5) (q0 := 0) rfl rfl rfl hl.1 rfl (Nat.le_of_ble_eq_true rfl) dX5_press_35 ⟨Nat.zero_le _, Nat.zero_le _⟩ hP hD hS hA (fun H locs hP hD hS => ?_)
        refine lv_aload_n (pc := 38) hx hb dX5_press_38 rfl (lv_at hl 0 rfl) ?_
        refine va_get (pc := 39) (D := D) (ci := 5) (v := .long (x5.2.1 29)) (C := RX5) (T := TX5) (N := 41) hx hb hts iX5 hown hK.1 hP 0 rfl rfl 29 (by decide) (hts _ fl_RX5_174) (fun _ h => h) rfl dX5_press_39 ?_
        refine lv_iload_n (pc := 42) hx hb dX5_press_42 rfl (lv_at hl 3 rfl) ?_
        obtain ⟨x8, ex8, hf⟩ := bd_some hf
        refine ct_S0 (pc := 43) (As := [.long x7, .long (x5.2.1 29), .int i2]) (rest := []) ⟨hx, hb, hml, hown, hts⟩ hK (c_X5_part l D cI cZ cS x7 (x5.2.1 29) i2 x8 ex8) gs_RX5_233 hs_X5_part rfl ⟨Nat.le_of_ble_eq_true rfl, Nat.le_of_ble_eq_true rfl⟩ hl.1 rfl (Nat.le_of_ble_eq_true rfl) dX5_press_43 ⟨Nat.zero_le _, Nat.zero_le _⟩ hP hS hA (fun H locs hP hS => ?_)
        refine lv_goto (pc := 46) (tgt := 52) hx hb dX5_press_46 (by decide) ?_
        obtain rfl := Option.some.inj hf
        exact W.lret hx hb hr (fun t ht hW => ⟨rfl, by rw [ht]; exact hP, hD, hS.F ht⟩) hS.2.2 dX5_press_52
    · replace hf := ip c4 hf
      refine lv_ldc2 (pc := 17) (v := -1000000000000000000) hx hb hown (hts _ cn_RX5_237) dX5_press_17 ?_
      obtain rfl := Option.some.inj hf
      exact W.lret hx hb hr (fun t ht hW => ⟨rfl, by rw [ht]; exact hP, hD, hS.F ht⟩) hS.2.2 dX5_press_20
