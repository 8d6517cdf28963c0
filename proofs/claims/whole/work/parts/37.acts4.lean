/-- a pile is added -/
theorem SRn.add {o : OS} {S : Nat → Int32} {n k b : Nat} (h : SRn o S n k b) (hn : n < 8) {x y s c : Int32} (hx : IR (-9) 9 x) (hy : IR (-9) 9 y) (hs : IR 1 9 s) (hc : IR 1 99 c) {o2 : OS} {S2 : Nat → Int32} (e4 : o2.1 4 = nI (n + 1)) (e5 : o2.1 5 = nI (b ^^^ 2 ^ n)) (ei : ∀ j, j ≠ 4 → j ≠ 5 → o2.1 j = o.1 j) (a0 : o2.2.2 0 = upd (o.2.2 0) n x) (a1 : o2.2.2 1 = upd (o.2.2 1) n y) (a2 : o2.2.2 2 = upd (o.2.2 2) n s) (a3 : o2.2.2 3 = upd (o.2.2 3) n c) (ar : ∀ r, 4 ≤ r → o2.2.2 r = o.2.2 r) (s0 : S2 0 = nI (n + 1)) (s1 : S2 (1 + 5 * n) = x) (s2 : S2 (2 + 5 * n) = y) (s3 : S2 (3 + 5 * n) = s) (s4 : S2 (4 + 5 * n) = c) (s5 : S2 (5 + 5 * n) = 0) (sr : ∀ j, j ≠ 0 → j < 1 + 5 * n ∨ 5 + 5 * n < j → S2 j = S j) : SRn o2 S2 (n + 1) k (b ^^^ 2 ^ n) := by
  obtain ⟨h1, h2, h3, h4, h5, h6, h7, h8, h9, h10, h11, h12, h13, h14⟩ := h
  have hb0 : b.testBit n = false := bit_out h3 (Nat.le_refl _)
  refine ⟨by omega, h2, tog_lt (Nat.lt_of_lt_of_le h3 (Nat.pow_le_pow_right (by omega) (by omega))) (by omega), e4, s0, e5, by rw [ei 9 (by omega) (by omega)]; exact h7, by rw [sr 41 (by omega) (by omega)]; exact h8, by rw [ei 10 (by omega) (by omega), sr 57 (by omega) (by omega)]; exact h9, by rw [ei 11 (by omega) (by omega), sr 58 (by omega) (by omega)]; exact h10, by rw [sr 57 (by omega) (by omega)]; exact h11, by rw [sr 58 (by omega) (by omega)]; exact h12, fun p hp => ?_, fun d hd => ?_⟩
  · rw [a0, a1, a2, a3]
    by_cases e : p = n
    · subst e
      rw [upd_same, upd_same, upd_same, upd_same, s1, s2, s3, s4, s5, tog_same, hb0]
      exact ⟨rfl, rfl, rfl, rfl, hx, hy, hs, hc, rfl⟩
    · rw [upd_ne _ _ _ _ e, upd_ne _ _ _ _ e, upd_ne _ _ _ _ e, upd_ne _ _ _ _ e, sr (1 + 5 * p) (by omega) (by omega), sr (2 + 5 * p) (by omega) (by omega), sr (3 + 5 * p) (by omega) (by omega), sr (4 + 5 * p) (by omega) (by omega), sr (5 + 5 * p) (by omega) (by omega), tog_ne _ _ _ e]
      exact h13 p (by omega)
  · rw [ar 6 (by omega), ar 7 (by omega), ar 8 (by omega), sr (42 + 3 * d) (by omega) (by omega), sr (43 + 3 * d) (by omega) (by omega), sr (44 + 3 * d) (by omega) (by omega)]
    exact h14 d hd
theorem p_drives {oo on oc : OS} {pa ig : PSt} {om : OS} (h : Rel oo on oc pa ig om) (i0 i1 i2 i3 : Int32) : ∃ (r : Int32) (oo2 on2 : OS) (pa2 : PSt) (om2 : OS), f_X4_drives i0 i1 i2 i3 oo on pa = some (r, oo2, on2, pa2) ∧ f_X5_drives i0 i1 i2 i3 om = some (r, om2) ∧ Rel oo2 on2 oc pa2 ig om2 := by
  obtain ⟨⟨n, k, b, hS⟩, hU, -⟩ := id h
  have one : ¬ (1 : Int32) = 0 := by decide
  have t0 : (0 : Int32).toNatClampNeg = 0 := rfl
  rcases isPlace_eq i0 i1 with ⟨hx, hy, k1, k2⟩ | ⟨k1, k2⟩
  · rcases isKind_eq i2 i3 with ⟨hs, hc, k3, k4⟩ | ⟨k3, k4⟩
    · obtain ⟨k5, k6⟩ := taken_eq hS i0 i1
      by_cases c : tkn (om.2.2 0) i0 i1 0 n = true
      · rw [if_pos c] at k5 k6
        exact ⟨-2, oo, on, pa, om, by simp only [f_X4_drives, k1, k3, k5, Option.bind_some, if_neg one], by simp only [f_X5_drives, k2, k4, k6, Option.bind_some, if_neg one], h⟩
      · rw [if_neg c] at k5 k6
        by_cases c8 : n = 8
        · subst c8
          refine ⟨-3, oo, on, pa, om, ?_, ?_, h⟩
          · simp only [f_X4_drives, k1, k3, k5, Option.bind_some, if_neg one, if_true, hS.2.2.2.1, if_neg (show ¬ nI 8 < 8 by decide)]
          · simp only [f_X5_drives, k2, k4, k6, Option.bind_some, if_neg one, if_true, t0, hS.2.2.2.2.1]
            rfl
        · have hn : n < 8 := by have := hS.1; omega
          obtain ⟨r, g, pa2, g1, g2, hU2⟩ := p_record ⟨n, k, b, hS⟩ hU
          have hl8 : nI n < 8 := nI_lt (b := 8) hn (by decide)
          have hl0 : ¬ nI n < 0 := nI_pos (by omega)
          have hne : ¬ nI n = 8 := fun q => c8 (nI_inj (b := 8) (by omega) (by decide) q)
          have tn : (nI n).toNatClampNeg = n := nI_clamp (by omega)
          have e4 := hS.2.2.2.1
          have e5 := hS.2.2.2.2.2.1
          have hb0 : b.testBit n = false := bit_out hS.2.2.1 (Nat.le_refl _)
          have sub1 : nI n + 1 - 1 = nI n := Int32.add_sub_cancel _ _
          obtain ⟨o2, ho2⟩ : ∃ o2 : OS, o2 = sI (sI (sA (sA (sA (sA on 0 n i0) 1 n i1) 2 n i2) 3 n i3) 5 (nI (b ^^^ 2 ^ n))) 4 (nI (n + 1)) := ⟨_, rfl⟩
          obtain ⟨S2, hs2⟩ : ∃ S2 : Nat → Int32, S2 = upd (upd (upd (upd (upd (upd (om.2.2 0) (1 + 5 * n) i0) (2 + 5 * n) i1) (3 + 5 * n) i2) (4 + 5 * n) i3) (5 + 5 * n) 0) 0 (nI (n + 1)) := ⟨_, rfl⟩
          have hS2 : SRn o2 S2 (n + 1) k (b ^^^ 2 ^ n) := by
            refine hS.add hn hx hy hs hc (by rw [ho2]; rfl) (by rw [ho2]; rfl) (fun j a1 a2 => ?_) (by rw [ho2]; rfl) (by rw [ho2]; rfl) (by rw [ho2]; rfl) (by rw [ho2]; rfl) (fun r hr => ?_) ?_ ?_ ?_ ?_ ?_ ?_ (fun j a1 a2 => ?_)
            · rw [ho2, sI_ne _ _ _ _ a1, sI_ne _ _ _ _ a2]; rfl
            · rw [ho2]
              show (sA (sA (sA (sA on 0 n i0) 1 n i1) 2 n i2) 3 n i3).2.2 r = _
              rw [sA_ne _ _ _ _ _ (by omega), sA_ne _ _ _ _ _ (by omega), sA_ne _ _ _ _ _ (by omega), sA_ne _ _ _ _ _ (by omega)]
            · rw [hs2, upd_same]
            · rw [hs2, upd_ne _ _ _ _ (by omega), upd_ne _ _ _ _ (by omega), upd_ne _ _ _ _ (by omega), upd_ne _ _ _ _ (by omega), upd_ne _ _ _ _ (by omega), upd_same]
            · rw [hs2, upd_ne _ _ _ _ (by omega), upd_ne _ _ _ _ (by omega), upd_ne _ _ _ _ (by omega), upd_ne _ _ _ _ (by omega), upd_same]
            · rw [hs2, upd_ne _ _ _ _ (by omega), upd_ne _ _ _ _ (by omega), upd_ne _ _ _ _ (by omega), upd_same]
            · rw [hs2, upd_ne _ _ _ _ (by omega), upd_ne _ _ _ _ (by omega), upd_same]
            · rw [hs2, upd_ne _ _ _ _ (by omega), upd_same]
            · rw [hs2, upd_ne _ _ _ _ a1, upd_ne _ _ _ _ (by omega), upd_ne _ _ _ _ (by omega), upd_ne _ _ _ _ (by omega), upd_ne _ _ _ _ (by omega), upd_ne _ _ _ _ (by omega)]
          refine ⟨nI n, sI oo 4 (nI r), o2, pa2, _, ?_, ?_, h.act hU2 ⟨_, _, _, hS2⟩⟩
          · have ha : f_X3_addPile i0 i1 i2 i3 on = some o2 := by
              simp only [f_X3_addPile, sA_i, e4, e5, if_neg hl0, if_pos hl8, ck_nI (show n < 8 by omega) (by decide), tn, lt, bit_set hS.lt512 (show n < 9 by omega) hb0]
              rw [sI_ne _ _ _ _ (by decide), sA_i, sA_i, sA_i, sA_i, e4, nI_1, ho2]
            simp only [f_X4_drives, k1, k3, k5, Option.bind_some, if_neg one, if_true, e4, if_pos hl8, g1, ha]
            rw [ho2, sI_same, nI_succ, sub1]
          · have y0 : (1 : Int32) + 5 * nI n + 0 = nI (1 + 5 * n) := by
              rw [show (1 : Int32) = nI 1 from rfl, show (5 : Int32) = nI 5 from rfl, nI_mul, nI_add, Int32.add_zero]
            have y1 : (1 : Int32) + 5 * nI n + 1 = nI (2 + 5 * n) := by
              rw [show (1 : Int32) = nI 1 from rfl, show (5 : Int32) = nI 5 from rfl, nI_mul, nI_add, nI_add, show 1 + 5 * n + 1 = 2 + 5 * n by omega]
            have y2 : (1 : Int32) + 5 * nI n + 2 = nI (3 + 5 * n) := by
              rw [show (1 : Int32) = nI 1 from rfl, show (5 : Int32) = nI 5 from rfl, show (2 : Int32) = nI 2 from rfl, nI_mul, nI_add, nI_add, show 1 + 5 * n + 2 = 3 + 5 * n by omega]
            have y3 : (1 : Int32) + 5 * nI n + 3 = nI (4 + 5 * n) := by
              rw [show (1 : Int32) = nI 1 from rfl, show (5 : Int32) = nI 5 from rfl, show (3 : Int32) = nI 3 from rfl, nI_mul, nI_add, nI_add, show 1 + 5 * n + 3 = 4 + 5 * n by omega]
            have y4 := becomes_idx (p := n) (by omega)
            have er : (sI (sR om 1 g) 2 (nI r)).2.2 0 = om.2.2 0 := rfl
            simp only [f_X5_drives, k2, k4, k6, Option.bind_some, if_neg one, if_true, t0, hS.2.2.2.2.1, if_neg hne, g2, lt, er, y0, y1, y2, y3, y4, ck_nI (show 1 + 5 * n < 59 by omega) (by decide), ck_nI (show 2 + 5 * n < 59 by omega) (by decide), ck_nI (show 3 + 5 * n < 59 by omega) (by decide), ck_nI (show 4 + 5 * n < 59 by omega) (by decide), ck_nI (show 5 + 5 * n < 59 by omega) (by decide), nI_clamp (show 1 + 5 * n < 2 ^ 31 by omega), nI_clamp (show 2 + 5 * n < 2 ^ 31 by omega), nI_clamp (show 3 + 5 * n < 2 ^ 31 by omega), nI_clamp (show 4 + 5 * n < 2 ^ 31 by omega), nI_clamp (show 5 + 5 * n < 2 ^ 31 by omega), sA_row, sR_sR, sR_same]
            have e0 : upd (upd (upd (upd (upd (om.2.2 0) (1 + 5 * n) i0) (2 + 5 * n) i1) (3 + 5 * n) i2) (4 + 5 * n) i3) (5 + 5 * n) 0 0 = nI n := by
              rw [upd_ne _ _ _ _ (by omega), upd_ne _ _ _ _ (by omega), upd_ne _ _ _ _ (by omega), upd_ne _ _ _ _ (by omega), upd_ne _ _ _ _ (by omega)]
              exact hS.2.2.2.2.1
            rw [e0, upd_same, sub1, nI_1, hs2]
    · exact ⟨-1, oo, on, pa, om, by simp only [f_X4_drives, k1, k3, Option.bind_some, if_neg one, if_true], by simp only [f_X5_drives, k2, k4, Option.bind_some, if_neg one, if_true], h⟩
  · exact ⟨-1, oo, on, pa, om, by simp only [f_X4_drives, k1, Option.bind_some, if_true], by simp only [f_X5_drives, k2, Option.bind_some, if_true], h⟩
theorem p_undo {oo on oc : OS} {pa ig : PSt} {om : OS} (h : Rel oo on oc pa ig om) : ∃ (r : Int32) (oo2 on2 : OS) (om2 : OS), f_X4_undo oo on pa = some (r, oo2, on2) ∧ f_X5_undo om = some (r, om2) ∧ Rel oo2 on2 oc pa ig om2 := by
  obtain ⟨hS, ⟨r, hr, e1, e2, hx⟩, hKp, hh, hs, hT⟩ := id h
  rcases Nat.eq_zero_or_pos r with c | c
  · subst c
    exact ⟨-2, oo, on, om, by simp only [f_X4_undo, e1, if_pos (show nI 0 < 1 by decide)], by simp only [f_X5_undo, e2, if_pos (show nI 0 = 0 from rfl)], h⟩
  · obtain ⟨j, rfl⟩ : ∃ j, r = j + 1 := ⟨r - 1, by omega⟩
    have sub1 : nI (j + 1) - 1 = nI j := by rw [nI_succ, Int32.add_sub_cancel]
    have c1 : ¬ nI (j + 1) < 1 := nI_nlt (b := 1) (by omega) (by omega)
    have c2 : nI (j + 1) ≤ 6 := nI_le (b := 6) (by omega) (by decide)
    have c3 : ¬ nI (j + 1) = 0 := nI_ne0 (by omega) (by omega)
    have tj : (nI j).toNatClampNeg = j := nI_clamp (by omega)
    obtain ⟨x, hcx, hsx⟩ := copy_ok (pa.2 j) on
    have l2 := w_undo_22 (om := sI om 2 (nI j)) (r := j) rfl (by omega) 59 0 1000 (by omega) (by omega)
    rw [cpy_0, sR_id] at l2
    refine ⟨nI j, sI oo 4 (nI j), x, sR (sI om 2 (nI j)) 0 (va_cpy (om.2.2 1) (om.2.2 0) (59 * j) 0 59), ?_, ?_, ?_, ⟨j, by omega, rfl, rfl, fun i hi => hx i (by omega)⟩, hKp, hh, hs, hT⟩
    · simp only [f_X4_undo, e1, if_neg c1, if_pos c2, sub1, lt, sI_same, ck_nI (show j < 6 by omega) (by decide), tj, hcx, Option.bind_some]
    · simp only [f_X5_undo, e2, if_neg c3, sub1, lt]
      rw [show (0 : Int32) = nI 0 from rfl, l2]
      rfl
    · obtain ⟨n, k, b, hS1⟩ := hx j (by omega)
      refine SR.cg (S := fun i => om.2.2 1 (59 * j + i)) ⟨n, k, b, hsx _ _ _ _ hS1⟩ (fun i hi => ?_)
      have := cpy_in (f := om.2.2 1) (g := om.2.2 0) (sp := 59 * j) (dp := 0) (n := 59) (k := i) hi
      simp only [Nat.zero_add] at this
      exact this
theorem p_keep {oo on oc : OS} {pa ig : PSt} {om : OS} (h : Rel oo on oc pa ig om) (i0 : Int32) : ∃ (r : Int32) (oo2 : OS) (ig2 : PSt) (om2 : OS), f_X4_keep i0 oo on ig = some (r, oo2, ig2) ∧ f_X5_keep i0 om = some (r, om2) ∧ Rel oo2 on oc pa ig2 om2 := by
  have one : ¬ (1 : Int32) = 0 := by decide
  by_cases c1 : i0 < 0
  · exact ⟨-1, oo, ig, om, by simp only [f_X4_keep, if_pos c1], by simp only [f_X5_keep, in_lo c1, Option.bind_some, if_true], h⟩
  by_cases c2 : i0 < 2
  · obtain ⟨⟨n, k, b, hS⟩, hU, hKp, hh, hs, hT⟩ := id h
    have a0 := Int32.le_iff_toInt_le.mp (Int32.not_lt.mp c1)
    have a1 := Int32.lt_iff_toInt_lt.mp c2
    have a2 : (2 : Int32).toInt = 2 := rfl
    obtain ⟨j, hj, rfl⟩ := IR.nat (n := 1) (x := i0) ⟨a0, by omega⟩ (by decide)
    have hj2 : j < 2 := by omega
    have tj : (nI j).toNatClampNeg = j := nI_clamp (by omega)
    obtain ⟨x, hcx, hsx⟩ := copy_ok on (ig.2 j)
    have l2 := w_keep_13 (om := om) (r := j) (by omega) 59 0 1000 (by omega) (by omega)
    rw [cpy_0, sR_id] at l2
    have nb : vp_nar .boolean 1 = 1 := rfl
    have hin : f_X5_in (nI j) 0 1 = some 1 := in_yes (nI_pos' (by omega)) (nI_le (b := 1) hj (by decide))
    refine ⟨nI n, sA oo 6 j 1, (ig.1, va_up ig.2 j x), sA (sR om 3 (va_cpy (om.2.2 0) (om.2.2 3) 0 (59 * j) 59)) 4 j 1, ?_, ?_, ⟨n, k, b, hS⟩, hU, fun i hi => ?_, hh, hs, hT⟩
    · simp only [f_X4_keep, if_neg c1, if_pos c2, ck_nI hj2 (by decide), tj, lt, hcx, Option.bind_some, nb, hS.2.2.2.1]
    · simp only [f_X5_keep, hin, Option.bind_some, if_neg one, ck_nI hj2 (by decide), tj, lt, nb]
      rw [show (0 : Int32) = nI 0 from rfl, l2]
      simp only [Option.bind_some]
      rw [show (sA (sR om 3 (va_cpy (om.2.2 0) (om.2.2 3) 0 (59 * j) 59)) 4 j 1).2.2 0 (nI 0).toNatClampNeg = nI n from hS.2.2.2.2.1]
    · show upd (oo.2.2 6) j 1 i = upd (om.2.2 4) j 1 i ∧ (upd (om.2.2 4) j 1 i = 0 ∨ upd (om.2.2 4) j 1 i = 1) ∧ (upd (om.2.2 4) j 1 i = 1 → SR (va_up ig.2 j x i) (fun q => va_cpy (om.2.2 0) (om.2.2 3) 0 (59 * j) 59 (59 * i + q)))
      by_cases e : i = j
      · subst e
        rw [upd_same, upd_same, va_up_self]
        refine ⟨rfl, Or.inr rfl, fun _ => SR.cg (S := om.2.2 0) ⟨n, k, b, hsx _ _ _ _ hS⟩ (fun q hq => ?_)⟩
        have := cpy_in (f := om.2.2 0) (g := om.2.2 3) (sp := 0) (dp := 59 * i) (n := 59) (k := q) hq
        simpa using this
      · rw [upd_ne _ _ _ _ e, upd_ne _ _ _ _ e, va_up_ne _ _ e]
        obtain ⟨b1, b2, b3⟩ := hKp i hi
        exact ⟨b1, b2, fun q => (b3 q).cg (fun z hz => cpy_out (by omega))⟩
  · have hh : 1 < i0 := by
      rw [Int32.lt_iff_toInt_lt]
      have := Int32.le_iff_toInt_le.mp (Int32.not_lt.mp c2)
      have a2 : (2 : Int32).toInt = 2 := rfl
      have a1 : (1 : Int32).toInt = 1 := rfl
      omega
    exact ⟨-1, oo, ig, om, by simp only [f_X4_keep, if_neg c1, if_neg c2], by simp only [f_X5_keep, in_hi hh, Option.bind_some, if_true], h⟩
theorem p_back {oo on oc : OS} {pa ig : PSt} {om : OS} (h : Rel oo on oc pa ig om) (i0 : Int32) : ∃ (r : Int32) (oo2 on2 : OS) (om2 : OS), f_X4_back i0 oo on ig = some (r, oo2, on2) ∧ f_X5_back i0 om = some (r, om2) ∧ Rel oo2 on2 oc pa ig om2 := by
  have one : ¬ (1 : Int32) = 0 := by decide
  by_cases c1 : i0 < 0
  · exact ⟨-1, oo, on, om, by simp only [f_X4_back, if_pos c1], by simp only [f_X5_back, in_lo c1, Option.bind_some, if_true], h⟩
  by_cases c2 : i0 < 2
  · obtain ⟨hS0, hU, hKp, hh, hs, hT⟩ := id h
    have a0 := Int32.le_iff_toInt_le.mp (Int32.not_lt.mp c1)
    have a1 := Int32.lt_iff_toInt_lt.mp c2
    have a2 : (2 : Int32).toInt = 2 := rfl
    obtain ⟨j, hj, rfl⟩ := IR.nat (n := 1) (x := i0) ⟨a0, by omega⟩ (by decide)
    have hj2 : j < 2 := by omega
    have tj : (nI j).toNatClampNeg = j := nI_clamp (by omega)
    have hin : f_X5_in (nI j) 0 1 = some 1 := in_yes (nI_pos' (by omega)) (nI_le (b := 1) hj (by decide))
    obtain ⟨b1, b2, b3⟩ := hKp j hj2
    rcases b2 with b2 | b2
    · refine ⟨-2, oo, on, om, ?_, ?_, h⟩
      · simp only [f_X4_back, if_neg c1, if_pos c2, ck_nI hj2 (by decide), tj, b1, b2, if_true]
      · simp only [f_X5_back, hin, Option.bind_some, if_neg one, ck_nI hj2 (by decide), tj, b2, if_true]
    · obtain ⟨x, hcx, hsx⟩ := copy_ok (ig.2 j) on
      obtain ⟨n, k, b, hS⟩ := b3 b2
      have hSx := hsx _ _ _ _ hS
      have l2 := w_back_25 (om := om) (r := j) (by omega) 59 0 1000 (by omega) (by omega)
      rw [cpy_0, sR_id] at l2
      have hc0 : ∀ i, i < 59 → va_cpy (om.2.2 3) (om.2.2 0) (59 * j) 0 59 i = om.2.2 3 (59 * j + i) := fun i hi => by
        have := cpy_in (f := om.2.2 3) (g := om.2.2 0) (sp := 59 * j) (dp := 0) (n := 59) (k := i) hi
        simp only [Nat.zero_add] at this
        exact this
      have hSr : SRn x (va_cpy (om.2.2 3) (om.2.2 0) (59 * j) 0 59) n k b := hSx.cg hc0
      refine ⟨nI n, sI oo 4 0, x, sI (sR om 0 (va_cpy (om.2.2 3) (om.2.2 0) (59 * j) 0 59)) 2 0, ?_, ?_, ⟨n, k, b, hSr⟩, ⟨0, by omega, rfl, rfl, fun i h => absurd h (Nat.not_lt_zero i)⟩, hKp, hh, hs, hT⟩
      · simp only [f_X4_back, if_neg c1, if_pos c2, ck_nI hj2 (by decide), tj, b1, b2, if_neg one, lt, hcx, Option.bind_some, hSx.2.2.2.1]
      · simp only [f_X5_back, hin, Option.bind_some, if_neg one, ck_nI hj2 (by decide), tj, b2, lt]
        rw [show (0 : Int32) = nI 0 from rfl, l2]
        simp only [Option.bind_some]
        rw [show (sI (sR om 0 (va_cpy (om.2.2 3) (om.2.2 0) (59 * j) 0 59)) 2 (nI 0)).2.2 0 (nI 0).toNatClampNeg = nI n from hSr.2.2.2.2.1]
  · have hh : 1 < i0 := by
      rw [Int32.lt_iff_toInt_lt]
      have := Int32.le_iff_toInt_le.mp (Int32.not_lt.mp c2)
      have a2 : (2 : Int32).toInt = 2 := rfl
      have a1 : (1 : Int32).toInt = 1 := rfl
      omega
    exact ⟨-1, oo, on, om, by simp only [f_X4_back, if_neg c1, if_neg c2], by simp only [f_X5_back, in_hi hh, Option.bind_some, if_true], h⟩
theorem p_count {oo on oc : OS} {pa ig : PSt} {om : OS} (h : Rel oo on oc pa ig om) (i0 : Int32) : ∃ r : Int32, f_X4_count i0 oo on oc = some r ∧ f_X5_count i0 om = some r := by
  obtain ⟨⟨n, k, b, hS⟩, ⟨r, hr, u1, u2, -⟩, -, ⟨hh, -⟩, ⟨t, ht, s1, s2, -⟩, ⟨w, hw, x1, x2, -⟩⟩ := h
  have t0 : (0 : Int32).toNatClampNeg = 0 := rfl
  have t41 : (41 : Int32).toNatClampNeg = 41 := rfl
  have hwh := wholes_eq (om := om) (b := b) hS.1 hS.2.2.2.2.1 (fun q hq => (hS.2.2.2.2.2.2.2.2.2.2.2.2.1 q hq).2.2.2.2.2.2.2.2)
  have hbc := bitCount_eq (show n ≤ 9 by have := hS.1; omega) hS.2.2.1
  simp only [f_X4_count, f_X5_count, t0, t41, hS.2.2.2.1, hS.2.2.2.2.1, hS.2.2.2.2.2.1, hS.2.2.2.2.2.2.1, hS.2.2.2.2.2.2.2.1, hwh, hbc, u1, u2, hh, s1, s2, x1, x2, Option.bind_some]
  have H : ∀ E : Option Int32, E.isSome = true → ∃ r, E = some r ∧ E = some r := fun E h => by
    obtain ⟨r, hr⟩ := Option.isSome_iff_exists.mp h
    exact ⟨r, hr, hr⟩
  refine H _ ?_
  repeat' split
  all_goals rfl
theorem p_column {oo on oc : OS} {pa ig : PSt} {om : OS} (h : Rel oo on oc pa ig om) (i0 i1 : Int32) : ∃ r : Int64, f_X4_column i0 i1 oo on = some r ∧ f_X5_column i0 i1 om = some r := by
  obtain ⟨⟨n, k, b, hS⟩, -⟩ := h
  have one : ¬ (1 : Int32) = 0 := by decide
  rcases isColumn_eq (oo := oo) hS i0 with ⟨c, hc, rfl, f1, f2⟩ | ⟨f1, f2⟩
  · by_cases c1 : i1 < 0
    · exact ⟨-1000000000000000000, by simp only [f_X4_column, f1, Option.bind_some, if_neg one, if_pos c1], by simp only [f_X5_column, f2, Option.bind_some, if_neg one, in_lo c1, if_true]⟩
    by_cases c2 : i1 ≤ 2
    · have a0 := Int32.le_iff_toInt_le.mp (Int32.not_lt.mp c1)
      have a1 := Int32.le_iff_toInt_le.mp c2
      have a2 : (2 : Int32).toInt = 2 := rfl
      obtain ⟨j, hj, rfl⟩ := IR.nat (n := 2) (x := i1) ⟨a0, by omega⟩ (by decide)
      have hk := hS.2.1
      have hin : f_X5_in (nI j) 0 2 = some 1 := in_yes (nI_pos' (by omega)) (nI_le (b := 2) hj (by decide))
      obtain ⟨q6, q7, q8, -⟩ := hS.2.2.2.2.2.2.2.2.2.2.2.2.2 c hc
      have tc : (nI c).toNatClampNeg = c := nI_clamp (by omega)
      refine ⟨(om.2.2 0 (42 + 3 * c + j)).toInt64, ?_, by simp only [f_X5_column, f2, Option.bind_some, if_neg one, hin, ofColumn_eq (show c ≤ 4 by omega) hj]⟩
      simp only [f_X4_column, f1, Option.bind_some, if_neg one, if_neg c1, if_pos c2, ck_nI (show c < 5 by omega) (by decide), tc, q6, q7, q8]
      obtain rfl | rfl | rfl : j = 0 ∨ j = 1 ∨ j = 2 := by omega
      · rw [if_pos (show nI 0 = 0 from rfl), Nat.add_zero]
      · rw [if_neg (show ¬ nI 1 = 0 by decide), if_pos (show nI 1 = 1 from rfl), show 42 + 3 * c + 1 = 43 + 3 * c by omega]
      · rw [if_neg (show ¬ nI 2 = 0 by decide), if_neg (show ¬ nI 2 = 1 by decide), show 42 + 3 * c + 2 = 44 + 3 * c by omega]
    · exact ⟨-1000000000000000000, by simp only [f_X4_column, f1, Option.bind_some, if_neg one, if_neg c1, if_neg c2], by simp only [f_X5_column, f2, Option.bind_some, if_neg one, in_hi (Int32.not_le.mp c2), if_true]⟩
  · exact ⟨-1000000000000000000, by simp only [f_X4_column, f1, Option.bind_some, if_true], by simp only [f_X5_column, f2, Option.bind_some, if_true]⟩
