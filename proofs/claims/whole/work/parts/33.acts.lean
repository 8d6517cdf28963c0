theorem sI_sI (o : OS) (k : Nat) (v w : Int32) : sI (sI o k v) k w = sI o k w := by
  unfold sI
  simp only [va_up_up]
theorem sI_sR_sI_sR (o : OS) (k j : Nat) (v w : Int32) (f g : Nat → Int32) : sI (sR (sI (sR o j f) k v) j g) k w = sI (sR o j g) k w := by
  unfold sI sR
  simp only [va_up_up]
theorem rot6_lt {α : Type} (f : Nat → α) {i : Nat} (h : i < 5) : rot6 f i = f (i + 1) := by
  obtain rfl | rfl | rfl | rfl | rfl : i = 0 ∨ i = 1 ∨ i = 2 ∨ i = 3 ∨ i = 4 := by omega
  all_goals rfl
/-- an action is recorded on both sides -/
theorem p_record {oo on : OS} {pa : PSt} {om : OS} (hS : SR on (om.2.2 0)) (hU : RUndo oo pa om) : ∃ (r : Nat) (g : Nat → Int32) (pa2 : PSt), f_X4_recordAction oo on pa = some (sI oo 4 (nI r), pa2) ∧ f_X5_notes om = some (sI (sR om 1 g) 2 (nI r)) ∧ RUndo (sI oo 4 (nI r)) pa2 (sI (sR om 1 g) 2 (nI r)) := by
  obtain ⟨r, hr, e1, e2, hx⟩ := hU
  by_cases c : r = 6
  · subst c
    obtain ⟨x, hcx, hsx⟩ := copy_ok on ((rotPS pa).2 5)
    refine ⟨6, va_cpy (om.2.2 0) (va_cpy (fun j => om.2.2 1 (j + 59)) (om.2.2 1) 0 0 295) 0 (59 * 5) 59, ((rotPS pa).1, va_up (rotPS pa).2 5 x), ?_, ?_, 6, by omega, rfl, rfl, fun i hi => ?_⟩
    · have c6 : ¬ nI 6 < 6 := by decide
      have t5 : (5 : Int32).toNatClampNeg = 5 := rfl
      simp only [f_X4_recordAction, e1, if_neg c6, lt, Option.bind_some, sI_same, ck_ok (show vp_in 5 6 by unfold vp_in; decide), t5, hcx, sI_sI]
      rfl
    · have l1 := w_notes_11 (om := om) 295 0 1000 (by omega) (by omega)
      rw [cpy_0, sR_id] at l1
      have l2 := w_notes_51 (om := sI (sR om 1 (va_cpy (fun j => om.2.2 1 (j + 59)) (om.2.2 1) 0 0 295)) 2 (nI 5)) (r := 5) rfl (by omega) 59 0 1000 (by omega) (by omega)
      rw [cpy_0, sR_id] at l2
      have i0 : (0 : Int32) = nI 0 := rfl
      have s6 : nI 6 - 1 = nI 5 := by decide
      simp only [f_X5_notes, e2, show (nI 6 = 6) = True from eq_true rfl, if_true, i0, l1, Option.bind_some, lt, sR_i, s6, l2]
      rw [show (sI (sR om 1 (va_cpy (fun j => om.2.2 1 (j + 59)) (om.2.2 1) 0 0 295)) 2 (nI 5)).1 2 + 1 = nI 6 from rfl, sI_sR_sI_sR]
      rfl
    · show SR (va_up (rot6 pa.2) 5 x i) (fun j => va_cpy (om.2.2 0) (va_cpy (fun j => om.2.2 1 (j + 59)) (om.2.2 1) 0 0 295) 0 (59 * 5) 59 (59 * i + j))
      by_cases e : i = 5
      · subst e
        obtain ⟨n, k, b, hS⟩ := hS
        refine SR.cg (S := om.2.2 0) ⟨n, k, b, hsx _ _ _ _ hS⟩ (fun j hj => ?_)
        have := cpy_in (f := om.2.2 0) (g := va_cpy (fun j => om.2.2 1 (j + 59)) (om.2.2 1) 0 0 295) (sp := 0) (dp := 59 * 5) (n := 59) (k := j) hj
        simpa using this
      · rw [va_up_ne _ _ e, rot6_lt _ (by omega)]
        refine SR.cg (hx (i + 1) (by omega)) (fun j hj => ?_)
        show va_cpy (om.2.2 0) (va_cpy (fun j => om.2.2 1 (j + 59)) (om.2.2 1) 0 0 295) 0 (59 * 5) 59 (59 * i + j) = om.2.2 1 (59 * (i + 1) + j)
        rw [cpy_out (by omega)]
        have := cpy_in (f := fun j => om.2.2 1 (j + 59)) (g := om.2.2 1) (sp := 0) (dp := 0) (n := 295) (k := 59 * i + j) (by omega)
        simp only [Nat.zero_add] at this
        rw [this, show 59 * i + j + 59 = 59 * (i + 1) + j by omega]
  · obtain ⟨x, hcx, hsx⟩ := copy_ok on (pa.2 r)
    have hr5 : r < 6 := by omega
    have i0 : (0 : Int32) = nI 0 := rfl
    refine ⟨r + 1, va_cpy (om.2.2 0) (om.2.2 1) 0 (59 * r) 59, (pa.1, va_up pa.2 r x), ?_, ?_, r + 1, by omega, rfl, rfl, fun i hi => ?_⟩
    · have c6 : nI r < 6 := nI_lt (b := 6) hr5 (by decide)
      have tr : (nI r).toNatClampNeg = r := nI_clamp (by omega)
      simp only [f_X4_recordAction, e1, if_pos c6, lt, Option.bind_some, ck_nI hr5 (by decide), tr, hcx]
      rw [nI_1]
    · have l2 := w_notes_51 (om := om) (r := r) e2 (by omega) 59 0 1000 (by omega) (by omega)
      rw [cpy_0, sR_id] at l2
      have ne : ¬ nI r = 6 := fun q => c (nI_inj (b := 6) (by omega) (by decide) q)
      simp only [f_X5_notes, e2, if_neg ne, i0, l2, Option.bind_some, lt, sR_i, nI_1]
    · show SR (va_up pa.2 r x i) (fun j => va_cpy (om.2.2 0) (om.2.2 1) 0 (59 * r) 59 (59 * i + j))
      by_cases e : i = r
      · subst e
        rw [va_up_self]
        obtain ⟨n, k, b, hS⟩ := hS
        refine SR.cg (S := om.2.2 0) ⟨n, k, b, hsx _ _ _ _ hS⟩ (fun j hj => ?_)
        have := cpy_in (f := om.2.2 0) (g := om.2.2 1) (sp := 0) (dp := 59 * i) (n := 59) (k := j) hj
        simpa using this
      · rw [va_up_ne _ _ e]
        refine SR.cg (hx i (by omega)) (fun j hj => ?_)
        exact cpy_out (by omega)
theorem Rel.act {oo on oc : OS} {pa ig pa2 : PSt} {om : OS} (h : Rel oo on oc pa ig om) {r : Nat} {g : Nat → Int32} {on2 : OS} {S2 : Nat → Int32} (hU : RUndo (sI oo 4 (nI r)) pa2 (sI (sR om 1 g) 2 (nI r))) (hS : SR on2 S2) : Rel (sI oo 4 (nI r)) on2 oc pa2 ig (sR (sI (sR om 1 g) 2 (nI r)) 0 S2) := by
  obtain ⟨-, -, hKp, hh, hs, hT⟩ := h
  exact ⟨hS, hU, hKp, hh, hs, hT⟩
theorem sA_row (o : OS) (k i : Nat) (v : Int32) : sA o k i v = sR o k (upd (o.2.2 k) i v) := rfl
theorem sR_sR (o : OS) (k : Nat) (f g : Nat → Int32) : sR (sR o k f) k g = sR o k g := by
  unfold sR
  simp only [va_up_up]
theorem p_winds {oo on oc : OS} {pa ig : PSt} {om : OS} (h : Rel oo on oc pa ig om) (i0 i1 : Int32) : ∃ (r : Int32) (oo2 on2 : OS) (pa2 : PSt) (om2 : OS), f_X4_winds i0 i1 oo on pa = some (r, oo2, on2, pa2) ∧ f_X5_winds i0 i1 om = some (r, om2) ∧ Rel oo2 on2 oc pa2 ig om2 := by
  by_cases c1 : i0 < (-99)
  · exact ⟨-1, oo, on, pa, om, by simp only [f_X4_winds, if_pos c1], by simp [f_X5_winds, in_lo c1], h⟩
  by_cases c2 : 99 < i0
  · exact ⟨-1, oo, on, pa, om, by simp only [f_X4_winds, if_neg c1, if_pos c2], by simp [f_X5_winds, in_hi c2], h⟩
  have hin1 : f_X5_in i0 (-99) 99 = some 1 := in_yes (Int32.not_lt.mp c1) (Int32.not_lt.mp c2)
  by_cases c3 : i1 < (-99)
  · exact ⟨-1, oo, on, pa, om, by simp only [f_X4_winds, if_neg c1, if_neg c2, if_pos c3], by simp [f_X5_winds, hin1, in_lo c3], h⟩
  by_cases c4 : i1 ≤ 99
  · have hin2 : f_X5_in i1 (-99) 99 = some 1 := in_yes (Int32.not_lt.mp c3) c4
    obtain ⟨⟨n, k, b, hS⟩, hU, -⟩ := id h
    obtain ⟨r, g, pa2, f1, f2, hU2⟩ := p_record ⟨n, k, b, hS⟩ hU
    obtain ⟨h1, h2, h3, h4, h5, h6, h7, h8, h9, h10, h11, h12, h13, h14⟩ := id hS
    have one : ¬ (1 : Int32) = 0 := by decide
    have t57 : (57 : Int32).toNatClampNeg = 57 := rfl
    have t58 : (58 : Int32).toNatClampNeg = 58 := rfl
    have hS2 : SR (sI (sI on 10 i0) 11 i1) (upd (upd (om.2.2 0) 57 i0) 58 i1) := by
      refine ⟨n, k, b, h1, h2, h3, h4, ?_, h6, h7, ?_, rfl, rfl, ⟨Int32.le_iff_toInt_le.mp (Int32.not_lt.mp c1), Int32.le_iff_toInt_le.mp (Int32.not_lt.mp c2)⟩, ⟨Int32.le_iff_toInt_le.mp (Int32.not_lt.mp c3), Int32.le_iff_toInt_le.mp c4⟩, fun p hp => ?_, fun c hc => ?_⟩
      · exact h5
      · exact h8
      · rw [upd_ne _ _ _ _ (show 1 + 5 * p ≠ 58 by omega), upd_ne _ _ _ _ (show 1 + 5 * p ≠ 57 by omega), upd_ne _ _ _ _ (show 2 + 5 * p ≠ 58 by omega), upd_ne _ _ _ _ (show 2 + 5 * p ≠ 57 by omega), upd_ne _ _ _ _ (show 3 + 5 * p ≠ 58 by omega), upd_ne _ _ _ _ (show 3 + 5 * p ≠ 57 by omega), upd_ne _ _ _ _ (show 4 + 5 * p ≠ 58 by omega), upd_ne _ _ _ _ (show 4 + 5 * p ≠ 57 by omega), upd_ne _ _ _ _ (show 5 + 5 * p ≠ 58 by omega), upd_ne _ _ _ _ (show 5 + 5 * p ≠ 57 by omega)]
        exact h13 p hp
      · rw [upd_ne _ _ _ _ (show 42 + 3 * c ≠ 58 by omega), upd_ne _ _ _ _ (show 42 + 3 * c ≠ 57 by omega), upd_ne _ _ _ _ (show 43 + 3 * c ≠ 58 by omega), upd_ne _ _ _ _ (show 43 + 3 * c ≠ 57 by omega), upd_ne _ _ _ _ (show 44 + 3 * c ≠ 58 by omega), upd_ne _ _ _ _ (show 44 + 3 * c ≠ 57 by omega)]
        exact h14 c hc
    have hR := h.act hU2 hS2
    by_cases c5 : om.2.2 0 57 = i0 ∧ om.2.2 0 58 = i1
    · refine ⟨-2, oo, on, pa, om, ?_, ?_, h⟩
      · simp only [f_X4_winds, if_neg c1, if_neg c2, if_neg c3, if_pos c4, h9, h10, if_pos c5.1, if_pos c5.2]
      · simp only [f_X5_winds, hin1, hin2, Option.bind_some, if_neg one, t57, t58, if_pos c5.1, if_pos c5.2]
    · refine ⟨1, sI oo 4 (nI r), sI (sI on 10 i0) 11 i1, pa2, _, ?_, ?_, hR⟩
      · simp only [f_X4_winds, if_neg c1, if_neg c2, if_neg c3, if_pos c4, h9, h10, f1, Option.bind_some, lt]
        by_cases c6 : om.2.2 0 57 = i0
        · rw [if_pos c6, if_neg (fun q => c5 ⟨c6, q⟩)]
        · rw [if_neg c6]
      · simp only [f_X5_winds, hin1, hin2, Option.bind_some, if_neg one, t57, t58, f2, lt, sA_row, sR_sR]
        by_cases c6 : om.2.2 0 57 = i0
        · rw [if_pos c6, if_neg (fun q => c5 ⟨c6, q⟩)]
          rfl
        · rw [if_neg c6]
          rfl
  · exact ⟨-1, oo, on, pa, om, by simp only [f_X4_winds, if_neg c1, if_neg c2, if_neg c3, if_neg c4], by simp [f_X5_winds, hin1, in_hi (Int32.not_le.mp c4)], h⟩
