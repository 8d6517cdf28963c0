theorem isColumn_eq {oo on : OS} {om : OS} {n k b : Nat} (h : SRn on (om.2.2 0) n k b) (i0 : Int32) : (∃ p, p < k ∧ i0 = nI p ∧ f_X4_isColumn i0 oo on = some 1 ∧ f_X5_isColumn i0 om = some 1) ∨ (f_X4_isColumn i0 oo on = some 0 ∧ f_X5_isColumn i0 om = some 0) := by
  obtain ⟨-, hn, -, -, -, -, e1, e2, -⟩ := h
  have h0 : (41 : Int32).toNatClampNeg = 41 := rfl
  by_cases c1 : i0 < 0
  · right
    refine ⟨by simp only [f_X4_isColumn, if_pos c1], ?_⟩
    simp only [f_X5_isColumn, in_lo c1, Option.bind_some]
    rfl
  by_cases c2 : nI k ≤ i0
  · right
    refine ⟨by simp only [f_X4_isColumn, if_neg c1, e1, if_pos c2], ?_⟩
    have hhi : nI k - 1 < i0 := by
      rw [Int32.lt_iff_toInt_lt]
      have a1 := Int32.le_iff_toInt_le.mp c2
      rw [nI_toInt (by omega)] at a1
      have a2 : (nI k - 1).toInt = (k : Int) - 1 := by
        rcases Nat.lt_or_ge 0 k with g | g
        · obtain ⟨j, rfl⟩ : ∃ j, k = j + 1 := ⟨k - 1, by omega⟩
          rw [nI_succ, Int32.add_sub_cancel, nI_toInt (by omega)]
          omega
        · have : k = 0 := by omega
          subst this
          rfl
      omega
    simp only [f_X5_isColumn, h0, e2, in_hi hhi, Option.bind_some]
    rfl
  · left
    have a0 := Int32.le_iff_toInt_le.mp (Int32.not_lt.mp c1)
    have a1 := Int32.lt_iff_toInt_lt.mp (Int32.not_le.mp c2)
    rw [nI_toInt (by omega)] at a1
    obtain ⟨p, hp, rfl⟩ := IR.nat (n := 7) (x := i0) ⟨a0, by omega⟩ (by decide)
    rw [nI_toInt (by omega)] at a1
    have hpn : p < k := by omega
    refine ⟨p, hpn, rfl, by simp only [f_X4_isColumn, if_neg c1, e1, if_neg c2], ?_⟩
    have hle : nI p ≤ nI k - 1 := by
      obtain ⟨j, rfl⟩ : ∃ j, k = j + 1 := ⟨k - 1, by omega⟩
      rw [nI_succ, Int32.add_sub_cancel]
      exact nI_le (by omega) (by omega)
    simp only [f_X5_isColumn, h0, e2, in_yes (nI_pos' (show p < 2 ^ 31 by omega)) hle, Option.bind_some]
    rfl
/-- a column's numbers are set -/
theorem SRn.col {o : OS} {S : Nat → Int32} {n k b c : Nat} (h : SRn o S n k b) (hc : c < k) {x y w : Int32} (hx : IR (-9) 9 x) (hy : IR (-9) 9 y) (hw : IR 0 99 w) {o2 : OS} {S2 : Nat → Int32} (ei : o2.1 = o.1) (ea : ∀ r, r < 4 → o2.2.2 r = o.2.2 r) (e6 : o2.2.2 6 = upd (o.2.2 6) c x) (e7 : o2.2.2 7 = upd (o.2.2 7) c y) (e8 : o2.2.2 8 = upd (o.2.2 8) c w) (eS : ∀ j, j ≠ 42 + 3 * c → j ≠ 43 + 3 * c → j ≠ 44 + 3 * c → S2 j = S j) (s6 : S2 (42 + 3 * c) = x) (s7 : S2 (43 + 3 * c) = y) (s8 : S2 (44 + 3 * c) = w) : SRn o2 S2 n k b := by
  obtain ⟨h1, h2, h3, h4, h5, h6, h7, h8, h9, h10, h11, h12, h13, h14⟩ := h
  refine ⟨h1, h2, h3, by rw [ei]; exact h4, by rw [eS 0 (by omega) (by omega) (by omega)]; exact h5, by rw [ei]; exact h6, by rw [ei]; exact h7, by rw [eS 41 (by omega) (by omega) (by omega)]; exact h8, by rw [ei, eS 57 (by omega) (by omega) (by omega)]; exact h9, by rw [ei, eS 58 (by omega) (by omega) (by omega)]; exact h10, by rw [eS 57 (by omega) (by omega) (by omega)]; exact h11, by rw [eS 58 (by omega) (by omega) (by omega)]; exact h12, fun p hp => ?_, fun d hd => ?_⟩
  · rw [ea 0 (by omega), ea 1 (by omega), ea 2 (by omega), ea 3 (by omega), eS (1 + 5 * p) (by omega) (by omega) (by omega), eS (2 + 5 * p) (by omega) (by omega) (by omega), eS (3 + 5 * p) (by omega) (by omega) (by omega), eS (4 + 5 * p) (by omega) (by omega) (by omega), eS (5 + 5 * p) (by omega) (by omega) (by omega)]
    exact h13 p hp
  · rw [e6, e7, e8]
    by_cases e : d = c
    · subst e
      rw [upd_same, upd_same, upd_same, s6, s7, s8]
      exact ⟨rfl, rfl, rfl, hx, hy, hw⟩
    · rw [upd_ne _ _ _ _ e, upd_ne _ _ _ _ e, upd_ne _ _ _ _ e, eS (42 + 3 * d) (by omega) (by omega) (by omega), eS (43 + 3 * d) (by omega) (by omega) (by omega), eS (44 + 3 * d) (by omega) (by omega) (by omega)]
      exact h14 d hd
theorem upd_id (f : Nat → Int32) (i : Nat) : upd f i (f i) = f := by
  funext j
  unfold upd
  by_cases h : j = i
  · rw [if_pos h, h]
  · rw [if_neg h]
theorem p_loads {oo on oc : OS} {pa ig : PSt} {om : OS} (h : Rel oo on oc pa ig om) (i0 i1 : Int32) : ∃ (r : Int32) (oo2 on2 : OS) (pa2 : PSt) (om2 : OS), f_X4_loads i0 i1 oo on pa = some (r, oo2, on2, pa2) ∧ f_X5_loads i0 i1 om = some (r, om2) ∧ Rel oo2 on2 oc pa2 ig om2 := by
  obtain ⟨⟨n, k, b, hS⟩, hU, -⟩ := id h
  have one : ¬ (1 : Int32) = 0 := by decide
  rcases isColumn_eq (oo := oo) hS i0 with ⟨c, hc, rfl, f1, f2⟩ | ⟨f1, f2⟩
  · by_cases c1 : i1 < 0
    · exact ⟨-1, oo, on, pa, om, by simp only [f_X4_loads, f1, Option.bind_some, if_neg one, if_pos c1], by simp only [f_X5_loads, f2, Option.bind_some, if_neg one, in_lo c1, if_true], h⟩
    by_cases c2 : i1 ≤ 99
    · obtain ⟨r, g, pa2, g1, g2, hU2⟩ := p_record ⟨n, k, b, hS⟩ hU
      have hin : f_X5_in i1 0 99 = some 1 := in_yes (Int32.not_lt.mp c1) c2
      have hk := hS.2.1
      obtain ⟨q6, q7, q8, q9, q10, q11⟩ := hS.2.2.2.2.2.2.2.2.2.2.2.2.2 c hc
      have tc : (nI c).toNatClampNeg = c := nI_clamp (by omega)
      have of2 : f_X5_ofColumn (nI c) 2 om = some (om.2.2 0 (44 + 3 * c)) := by
        rw [show (2 : Int32) = nI 2 from rfl, ofColumn_eq (by omega) (by omega), show 42 + 3 * c + 2 = 44 + 3 * c by omega]
      have ei : (42 : Int32) + 3 * nI c + 2 = nI (44 + 3 * c) := by
        rw [show (42 : Int32) = nI 42 from rfl, show (3 : Int32) = nI 3 from rfl, show (2 : Int32) = nI 2 from rfl, nI_mul, nI_add, nI_add, show 42 + 3 * c + 2 = 44 + 3 * c by omega]
      by_cases c3 : om.2.2 0 (44 + 3 * c) = i1
      · refine ⟨-2, oo, on, pa, om, ?_, ?_, h⟩
        · simp only [f_X4_loads, f1, Option.bind_some, if_neg one, if_neg c1, if_pos c2, ck_nI (show c < 5 by omega) (by decide), tc, q8, if_pos c3]
        · simp only [f_X5_loads, f2, Option.bind_some, if_neg one, hin, of2, if_pos c3]
      · have hS2 : SR (sA on 8 c i1) (upd (om.2.2 0) (44 + 3 * c) i1) := by
          refine ⟨n, k, b, hS.col hc q9 q10 (w := i1) ⟨Int32.le_iff_toInt_le.mp (Int32.not_lt.mp c1), Int32.le_iff_toInt_le.mp c2⟩ rfl (fun r hr => ?_) ?_ ?_ ?_ (fun j a1 a2 a3 => upd_ne _ _ _ _ a3) ?_ ?_ (upd_same _ _ _)⟩
          · exact sA_ne _ _ _ _ _ (by omega)
          · show on.2.2 6 = _
            rw [← q6, upd_id]
          · show on.2.2 7 = _
            rw [← q7, upd_id]
          · rfl
          · exact upd_ne _ _ _ _ (by omega)
          · exact upd_ne _ _ _ _ (by omega)
        refine ⟨om.2.2 0 (44 + 3 * c), sI oo 4 (nI r), sA on 8 c i1, pa2, _, ?_, ?_, h.act hU2 hS2⟩
        · simp only [f_X4_loads, f1, Option.bind_some, if_neg one, if_neg c1, if_pos c2, ck_nI (show c < 5 by omega) (by decide), tc, q8, if_neg c3, g1, lt]
        · simp only [f_X5_loads, f2, Option.bind_some, if_neg one, hin, of2, if_neg c3, g2, ei, ck_nI (show 44 + 3 * c < 59 by omega) (by decide), nI_clamp (show 44 + 3 * c < 2 ^ 31 by omega), lt, sA_row]
          rfl
    · exact ⟨-1, oo, on, pa, om, by simp only [f_X4_loads, f1, Option.bind_some, if_neg one, if_neg c1, if_neg c2], by simp only [f_X5_loads, f2, Option.bind_some, if_neg one, in_hi (Int32.not_le.mp c2), if_true], h⟩
  · exact ⟨-1, oo, on, pa, om, by simp only [f_X4_loads, f1, Option.bind_some, if_true], by simp only [f_X5_loads, f2, Option.bind_some, if_true], h⟩
/-- whether there is such a place: both say the same -/
theorem isPlace_eq (x y : Int32) : (IR (-9) 9 x ∧ IR (-9) 9 y ∧ f_X4_isPlace x y = some 1 ∧ f_X5_isPlace x y = some 1) ∨ (f_X4_isPlace x y = some 0 ∧ f_X5_isPlace x y = some 0) := by
  have one : ¬ (1 : Int32) = 0 := by decide
  by_cases c1 : x < (-9)
  · exact Or.inr ⟨by simp only [f_X4_isPlace, if_pos c1], by simp only [f_X5_isPlace, in_lo c1, Option.bind_some, if_true]⟩
  by_cases c2 : 9 < x
  · exact Or.inr ⟨by simp only [f_X4_isPlace, if_neg c1, if_pos c2], by simp only [f_X5_isPlace, in_hi c2, Option.bind_some, if_true]⟩
  have h1 : f_X5_in x (-9) 9 = some 1 := in_yes (Int32.not_lt.mp c1) (Int32.not_lt.mp c2)
  by_cases c3 : y < (-9)
  · exact Or.inr ⟨by simp only [f_X4_isPlace, if_neg c1, if_neg c2, if_pos c3], by simp only [f_X5_isPlace, h1, in_lo c3, Option.bind_some, if_true, if_neg one]⟩
  by_cases c4 : 9 < y
  · exact Or.inr ⟨by simp only [f_X4_isPlace, if_neg c1, if_neg c2, if_neg c3, if_pos c4], by simp only [f_X5_isPlace, h1, in_hi c4, Option.bind_some, if_true, if_neg one]⟩
  have h2 : f_X5_in y (-9) 9 = some 1 := in_yes (Int32.not_lt.mp c3) (Int32.not_lt.mp c4)
  exact Or.inl ⟨⟨Int32.le_iff_toInt_le.mp (Int32.not_lt.mp c1), Int32.le_iff_toInt_le.mp (Int32.not_lt.mp c2)⟩, ⟨Int32.le_iff_toInt_le.mp (Int32.not_lt.mp c3), Int32.le_iff_toInt_le.mp (Int32.not_lt.mp c4)⟩, by simp only [f_X4_isPlace, if_neg c1, if_neg c2, if_neg c3, if_neg c4], by simp only [f_X5_isPlace, h1, h2, Option.bind_some, if_neg one]⟩
theorem isKind_eq (x y : Int32) : (IR 1 9 x ∧ IR 1 99 y ∧ f_X4_isPileKind x y = some 1 ∧ f_X5_isKind x y = some 1) ∨ (f_X4_isPileKind x y = some 0 ∧ f_X5_isKind x y = some 0) := by
  have one : ¬ (1 : Int32) = 0 := by decide
  by_cases c1 : x < 1
  · exact Or.inr ⟨by simp only [f_X4_isPileKind, if_pos c1], by simp only [f_X5_isKind, in_lo c1, Option.bind_some, if_true]⟩
  by_cases c2 : 9 < x
  · exact Or.inr ⟨by simp only [f_X4_isPileKind, if_neg c1, if_pos c2], by simp only [f_X5_isKind, in_hi c2, Option.bind_some, if_true]⟩
  have h1 : f_X5_in x 1 9 = some 1 := in_yes (Int32.not_lt.mp c1) (Int32.not_lt.mp c2)
  by_cases c3 : y < 1
  · exact Or.inr ⟨by simp only [f_X4_isPileKind, if_neg c1, if_neg c2, if_pos c3], by simp only [f_X5_isKind, h1, in_lo c3, Option.bind_some, if_true, if_neg one]⟩
  by_cases c4 : 99 < y
  · exact Or.inr ⟨by simp only [f_X4_isPileKind, if_neg c1, if_neg c2, if_neg c3, if_pos c4], by simp only [f_X5_isKind, h1, in_hi c4, Option.bind_some, if_true, if_neg one]⟩
  have h2 : f_X5_in y 1 99 = some 1 := in_yes (Int32.not_lt.mp c3) (Int32.not_lt.mp c4)
  exact Or.inl ⟨⟨Int32.le_iff_toInt_le.mp (Int32.not_lt.mp c1), Int32.le_iff_toInt_le.mp (Int32.not_lt.mp c2)⟩, ⟨Int32.le_iff_toInt_le.mp (Int32.not_lt.mp c3), Int32.le_iff_toInt_le.mp (Int32.not_lt.mp c4)⟩, by simp only [f_X4_isPileKind, if_neg c1, if_neg c2, if_neg c3, if_neg c4], by simp only [f_X5_isKind, h1, h2, Option.bind_some, if_neg one]⟩
theorem p_moves {oo on oc : OS} {pa ig : PSt} {om : OS} (h : Rel oo on oc pa ig om) (i0 i1 i2 : Int32) : ∃ (r : Int32) (oo2 on2 : OS) (pa2 : PSt) (om2 : OS), f_X4_moves i0 i1 i2 oo on pa = some (r, oo2, on2, pa2) ∧ f_X5_moves i0 i1 i2 om = some (r, om2) ∧ Rel oo2 on2 oc pa2 ig om2 := by
  obtain ⟨⟨n, k, b, hS⟩, hU, -⟩ := id h
  have one : ¬ (1 : Int32) = 0 := by decide
  rcases isColumn_eq (oo := oo) hS i0 with ⟨c, hc, rfl, f1, f2⟩ | ⟨f1, f2⟩
  · rcases isPlace_eq i1 i2 with ⟨hx, hy, k1, k2⟩ | ⟨k1, k2⟩
    · obtain ⟨r, g, pa2, g1, g2, hU2⟩ := p_record ⟨n, k, b, hS⟩ hU
      have hk := hS.2.1
      obtain ⟨q6, q7, q8, q9, q10, q11⟩ := hS.2.2.2.2.2.2.2.2.2.2.2.2.2 c hc
      have tc : (nI c).toNatClampNeg = c := nI_clamp (by omega)
      have of0 : f_X5_ofColumn (nI c) 0 om = some (om.2.2 0 (42 + 3 * c)) := by
        rw [show (0 : Int32) = nI 0 from rfl, ofColumn_eq (by omega) (by omega)]; rfl
      have of1 : f_X5_ofColumn (nI c) 1 om = some (om.2.2 0 (43 + 3 * c)) := by
        rw [show (1 : Int32) = nI 1 from rfl, ofColumn_eq (by omega) (by omega), show 42 + 3 * c + 1 = 43 + 3 * c by omega]
      have e0 : (42 : Int32) + 3 * nI c + 0 = nI (42 + 3 * c) := by
        rw [show (42 : Int32) = nI 42 from rfl, show (3 : Int32) = nI 3 from rfl, nI_mul, nI_add, Int32.add_zero]
      have e1 : (42 : Int32) + 3 * nI c + 1 = nI (43 + 3 * c) := by
        rw [show (42 : Int32) = nI 42 from rfl, show (3 : Int32) = nI 3 from rfl, show (1 : Int32) = nI 1 from rfl, nI_mul, nI_add, nI_add, show 42 + 3 * c + 1 = 43 + 3 * c by omega]
      have hS2 : SR (sA (sA on 6 c i1) 7 c i2) (upd (upd (om.2.2 0) (42 + 3 * c) i1) (43 + 3 * c) i2) := by
        refine ⟨n, k, b, hS.col hc hx hy q11 rfl (fun r hr => ?_) ?_ ?_ ?_ (fun j a1 a2 a3 => ?_) ?_ ?_ ?_⟩
        · rw [sA_ne _ _ _ _ _ (by omega), sA_ne _ _ _ _ _ (by omega)]
        · rfl
        · rfl
        · show on.2.2 8 = _
          rw [← q8, upd_id]
        · rw [upd_ne _ _ _ _ a2, upd_ne _ _ _ _ a1]
        · rw [upd_ne _ _ _ _ (by omega), upd_same]
        · exact upd_same _ _ _
        · rw [upd_ne _ _ _ _ (by omega), upd_ne _ _ _ _ (by omega)]
      have hR := h.act hU2 hS2
      by_cases c3 : om.2.2 0 (42 + 3 * c) = i1 ∧ om.2.2 0 (43 + 3 * c) = i2
      · refine ⟨-2, oo, on, pa, om, ?_, ?_, h⟩
        · simp only [f_X4_moves, f1, Option.bind_some, if_neg one, k1, ck_nI (show c < 5 by omega) (by decide), tc, q6, q7, if_pos c3.1, if_pos c3.2]
        · simp only [f_X5_moves, f2, Option.bind_some, if_neg one, k2, of0, of1, if_pos c3.1, if_pos c3.2]
      · refine ⟨1, sI oo 4 (nI r), sA (sA on 6 c i1) 7 c i2, pa2, _, ?_, ?_, hR⟩
        · simp only [f_X4_moves, f1, Option.bind_some, if_neg one, k1, ck_nI (show c < 5 by omega) (by decide), tc, q6, q7, g1, lt]
          by_cases c6 : om.2.2 0 (42 + 3 * c) = i1
          · rw [if_pos c6, if_neg (fun q => c3 ⟨c6, q⟩)]
          · rw [if_neg c6]
        · simp only [f_X5_moves, f2, Option.bind_some, if_neg one, k2, of0, of1, g2, e0, e1, ck_nI (show 42 + 3 * c < 59 by omega) (by decide), ck_nI (show 43 + 3 * c < 59 by omega) (by decide), nI_clamp (show 42 + 3 * c < 2 ^ 31 by omega), nI_clamp (show 43 + 3 * c < 2 ^ 31 by omega), lt, sA_row, sR_sR]
          by_cases c6 : om.2.2 0 (42 + 3 * c) = i1
          · rw [if_pos c6, if_neg (fun q => c3 ⟨c6, q⟩)]
            rfl
          · rw [if_neg c6]
            rfl
    · exact ⟨-1, oo, on, pa, om, by simp only [f_X4_moves, f1, Option.bind_some, if_neg one, k1, if_true], by simp only [f_X5_moves, f2, Option.bind_some, if_neg one, k2, if_true], h⟩
  · exact ⟨-1, oo, on, pa, om, by simp only [f_X4_moves, f1, Option.bind_some, if_true], by simp only [f_X5_moves, f2, Option.bind_some, if_true], h⟩
