theorem in_yes {v lo hi : Int32} (h1 : lo ≤ v) (h2 : v ≤ hi) : f_X5_in v lo hi = some 1 := by
  unfold f_X5_in
  rw [if_neg (Int32.not_lt.mpr h1), if_neg (Int32.not_lt.mpr h2)]
theorem in_lo {v lo hi : Int32} (h1 : v < lo) : f_X5_in v lo hi = some 0 := by
  unfold f_X5_in
  rw [if_pos h1]
theorem in_hi {v lo hi : Int32} (h1 : hi < v) : f_X5_in v lo hi = some 0 := by
  unfold f_X5_in
  by_cases h : v < lo
  · rw [if_pos h]
  · rw [if_neg h, if_pos h1]
theorem p_clear {oo on oc : OS} {pa ig : PSt} {om : OS} (h : Rel oo on oc pa ig om) : ∃ (r : Int32) (oc2 om2 : OS), f_X4_clear oo oc = some (r, oc2) ∧ f_X5_clear om = some (r, om2) ∧ Rel oo on oc2 pa ig om2 := by
  obtain ⟨hS, hU, hKp, hh, hs, t, ht, e1, e2, hx⟩ := h
  refine ⟨nI t, sI oc 1 0, sI om 9 0, by simp only [f_X4_clear, lt, e1], by simp only [f_X5_clear, lt, e2], hS, hU, hKp, hh, hs, 0, by omega, rfl, rfl, fun i h => absurd h (Nat.not_lt_zero i)⟩
theorem p_type {oo on oc : OS} {pa ig : PSt} {om : OS} (h : Rel oo on oc pa ig om) (i0 : Int32) : ∃ (r : Int32) (oc2 om2 : OS), f_X4_type i0 oo oc = some (r, oc2) ∧ f_X5_type i0 om = some (r, om2) ∧ Rel oo on oc2 pa ig om2 := by
  by_cases c1 : i0 < 0
  · exact ⟨-1, oc, om, by simp only [f_X4_type, if_pos c1], by simp [f_X5_type, in_lo c1], h⟩
  by_cases c2 : i0 ≤ 255
  · obtain ⟨hS, hU, hKp, hh, hs, t, ht, e1, e2, hx⟩ := id h
    have hin : f_X5_in i0 0 255 = some 1 := in_yes (Int32.not_lt.mp c1) c2
    have n0 : ¬ nI t < 0 := nI_pos (by omega)
    by_cases c3 : t = 160
    · subst c3
      refine ⟨-3, oc, om, ?_, ?_, h⟩
      · simp only [f_X4_type, if_neg c1, if_pos c2, f_X2_append, e1, if_neg n0]
        rfl
      · simp only [f_X5_type, hin, e2]
        rfl
    · have hl : nI t < 160 := nI_lt (b := 160) (by omega) (by decide)
      have hne : ¬ nI t = 160 := fun q => c3 (nI_inj (b := 160) (by omega) (by decide) q)
      have hcl : (nI t).toNatClampNeg = t := nI_clamp (by omega)
      refine ⟨nI (t + 1), sI (sA oc 0 t i0) 1 (nI (t + 1)), sI (sA om 8 t i0) 9 (nI (t + 1)), ?_, ?_, hS, hU, hKp, hh, hs, t + 1, by omega, rfl, rfl, fun i hi => ?_⟩
      · simp only [f_X4_type, if_neg c1, if_pos c2, f_X2_append, e1, if_neg n0, if_pos hl, ck_nI (show t < 160 by omega) (by decide), lt, hcl, sA_i]
        rw [show nI t + 1 = nI (t + 1) from (nI_succ t).symm]
        rfl
      · simp only [f_X5_type, hin, e2, Option.bind_some, if_neg hne, ck_nI (show t < 160 by omega) (by decide), lt, hcl, sA_i]
        rw [show nI t + 1 = nI (t + 1) from (nI_succ t).symm]
        rfl
      · show upd (oc.2.2 0) t i0 i = upd (om.2.2 8) t i0 i ∧ IR 0 255 (upd (om.2.2 8) t i0 i)
        by_cases e : i = t
        · subst e
          rw [upd_same, upd_same]
          refine ⟨rfl, ?_, ?_⟩
          · exact Int32.le_iff_toInt_le.mp (Int32.not_lt.mp c1)
          · exact Int32.le_iff_toInt_le.mp c2
        · rw [upd_ne _ _ _ _ e, upd_ne _ _ _ _ e]
          exact hx i (by omega)
  · exact ⟨-1, oc, om, by simp only [f_X4_type, if_neg c1, if_neg c2], by simp [f_X5_type, in_hi (Int32.not_le.mp c2)], h⟩
theorem p_hunts {oo on oc : OS} {pa ig : PSt} {om : OS} (h : Rel oo on oc pa ig om) (i0 : Int32) : ∃ (r : Int32) (oo2 om2 : OS), f_X4_hunts i0 oo = some (r, oo2) ∧ f_X5_hunts i0 om = some (r, om2) ∧ Rel oo2 on oc pa ig om2 := by
  by_cases c1 : i0 < 1
  · exact ⟨-1, oo, om, by simp only [f_X4_hunts, if_pos c1], by simp [f_X5_hunts, in_lo c1], h⟩
  by_cases c2 : i0 ≤ 99
  · obtain ⟨hS, hU, hKp, hh, ⟨t, ht, e1, e2, hx⟩, hT⟩ := h
    refine ⟨nI t, sI (sI oo 7 i0) 10 0, sI (sI om 5 i0) 7 0, ?_, ?_, hS, hU, hKp, ⟨rfl, ?_, ?_⟩, ⟨0, by omega, rfl, rfl, fun i h => absurd h (Nat.not_lt_zero i)⟩, hT⟩
    · simp only [f_X4_hunts, if_neg c1, if_pos c2, lt, f_X4_dropSights]
      rw [sI_ne _ _ _ _ (by decide), e1]
      rfl
    · simp only [f_X5_hunts, in_yes (Int32.not_lt.mp c1) c2, lt, e2]
      rfl
    · exact Int32.le_iff_toInt_le.mp (Int32.not_lt.mp c1)
    · exact Int32.le_iff_toInt_le.mp c2
  · exact ⟨-1, oo, om, by simp only [f_X4_hunts, if_neg c1, if_neg c2], by simp [f_X5_hunts, in_hi (Int32.not_le.mp c2)], h⟩
theorem p_forget {oo on oc : OS} {pa ig : PSt} {om : OS} (h : Rel oo on oc pa ig om) : ∃ (r : Int32) (oo2 om2 : OS), f_X4_forget oo = some (r, oo2) ∧ f_X5_forget om = some (r, om2) ∧ Rel oo2 on oc pa ig om2 := by
  obtain ⟨hS, hU, hKp, hh, ⟨t, ht, e1, e2, hx⟩, hT⟩ := h
  refine ⟨nI t, sI oo 10 0, sI om 7 0, by simp only [f_X4_forget, f_X4_dropSights, lt, e1]; rfl, by simp only [f_X5_forget, lt, e2], hS, hU, hKp, hh, ⟨0, by omega, rfl, rfl, fun i h => absurd h (Nat.not_lt_zero i)⟩, hT⟩
/-- whether there is such a pile: both say the same -/
theorem isPile_eq {oo on : OS} {om : OS} {n k b : Nat} (h : SRn on (om.2.2 0) n k b) (i0 : Int32) : (∃ p, p < n ∧ i0 = nI p ∧ f_X4_isPile i0 oo on = some 1 ∧ f_X5_isPile i0 om = some 1) ∨ (f_X4_isPile i0 oo on = some 0 ∧ f_X5_isPile i0 om = some 0) := by
  obtain ⟨hn, -, -, e1, e2, -⟩ := h
  have h0 : (0 : Int32).toNatClampNeg = 0 := rfl
  by_cases c1 : i0 < 0
  · right
    refine ⟨by simp only [f_X4_isPile, if_pos c1], ?_⟩
    simp only [f_X5_isPile, in_lo c1, Option.bind_some]
    rfl
  by_cases c2 : nI n ≤ i0
  · right
    refine ⟨by simp only [f_X4_isPile, if_neg c1, e1, if_pos c2], ?_⟩
    have hhi : nI n - 1 < i0 := by
      rw [Int32.lt_iff_toInt_lt]
      have a1 := Int32.le_iff_toInt_le.mp c2
      rw [nI_toInt (by omega)] at a1
      have a2 : (nI n - 1).toInt = (n : Int) - 1 := by
        rcases Nat.lt_or_ge 0 n with g | g
        · obtain ⟨k, rfl⟩ : ∃ k, n = k + 1 := ⟨n - 1, by omega⟩
          rw [nI_succ, Int32.add_sub_cancel, nI_toInt (by omega)]
          omega
        · have : n = 0 := by omega
          subst this
          rfl
      omega
    simp only [f_X5_isPile, h0, e2, in_hi hhi, Option.bind_some]
    rfl
  · left
    have a0 := Int32.le_iff_toInt_le.mp (Int32.not_lt.mp c1)
    have a1 := Int32.lt_iff_toInt_lt.mp (Int32.not_le.mp c2)
    rw [nI_toInt (by omega)] at a1
    obtain ⟨p, hp, rfl⟩ := IR.nat (n := 7) (x := i0) ⟨a0, by omega⟩ (by decide)
    rw [nI_toInt (by omega)] at a1
    have hpn : p < n := by omega
    refine ⟨p, hpn, rfl, by simp only [f_X4_isPile, if_neg c1, e1, if_neg c2], ?_⟩
    have hle : nI p ≤ nI n - 1 := by
      obtain ⟨j, rfl⟩ : ∃ j, n = j + 1 := ⟨n - 1, by omega⟩
      rw [nI_succ, Int32.add_sub_cancel]
      exact nI_le (by omega) (by omega)
    simp only [f_X5_isPile, h0, e2, in_yes (nI_pos' (show p < 2 ^ 31 by omega)) hle, Option.bind_some]
    rfl
theorem p_sees {oo on oc : OS} {pa ig : PSt} {om : OS} (h : Rel oo on oc pa ig om) (i0 i1 : Int32) : ∃ (r : Int32) (oo2 om2 : OS), f_X4_sees i0 i1 oo on = some (r, oo2) ∧ f_X5_sees i0 i1 om = some (r, om2) ∧ Rel oo2 on oc pa ig om2 := by
  obtain ⟨⟨n, k, b, hS⟩, hU, hKp, hh, ⟨t, ht, e1, e2, hx⟩, hT⟩ := id h
  rcases isPile_eq (oo := oo) hS i0 with ⟨p, hp, rfl, f1, f2⟩ | ⟨f1, f2⟩
  · by_cases c1 : i1 < 0
    · refine ⟨-1, oo, om, ?_, ?_, h⟩
      · simp only [f_X4_sees, f1, Option.bind_some, if_pos c1]
        rfl
      · simp only [f_X5_sees, f2, Option.bind_some, in_lo c1]
        rfl
    by_cases c2 : i1 ≤ 999
    · have n0 : ¬ nI t < 0 := nI_pos (by omega)
      by_cases c3 : t = 6
      · subst c3
        refine ⟨-3, oo, om, ?_, ?_, h⟩
        · simp only [f_X4_sees, f1, Option.bind_some, if_neg c1, if_pos c2, e1]
          rfl
        · simp only [f_X5_sees, f2, Option.bind_some, in_yes (Int32.not_lt.mp c1) c2, e2]
          rfl
      · have hl : nI t < 6 := nI_lt (b := 6) (by omega) (by decide)
        have hne : ¬ nI t = 6 := fun q => c3 (nI_inj (b := 6) (by omega) (by decide) q)
        have hcl : (nI t).toNatClampNeg = t := nI_clamp (by omega)
        have m2 : (2 : Int32) * nI t = nI (2 * t) := nI_mul 2 t
        have m3 : nI (2 * t) + 1 = nI (2 * t + 1) := (nI_succ _).symm
        have hc2 : (nI (2 * t)).toNatClampNeg = 2 * t := nI_clamp (by omega)
        have hc3 : (nI (2 * t + 1)).toNatClampNeg = 2 * t + 1 := nI_clamp (by omega)
        have one : ¬ (1 : Int32) = 0 := by decide
        refine ⟨nI (t + 1), sI (sA (sA oo 8 t (nI p)) 9 t i1) 10 (nI (t + 1)), sI (sA (sA om 6 (2 * t) (nI p)) 6 (2 * t + 1) i1) 7 (nI (t + 1)), ?_, ?_, ⟨n, k, b, hS⟩, hU, hKp, hh, ⟨t + 1, by omega, rfl, rfl, fun i hi => ?_⟩, hT⟩
        · simp only [f_X4_sees, f1, Option.bind_some, if_neg c1, if_pos c2, e1, if_neg n0, if_pos hl, ck_nI (show t < 6 by omega) (by decide), lt, hcl, sA_i, if_neg one]
          rw [show nI t + 1 = nI (t + 1) from (nI_succ t).symm]
          rfl
        · simp only [f_X5_sees, f2, Option.bind_some, in_yes (Int32.not_lt.mp c1) c2, e2, if_neg hne, m2, m3, ck_nI (show 2 * t < 12 by omega) (by decide), ck_nI (show 2 * t + 1 < 12 by omega) (by decide), lt, hc2, hc3, sA_i, if_neg one]
          rw [show nI t + 1 = nI (t + 1) from (nI_succ t).symm]
          rfl
        · show upd (oo.2.2 8) t (nI p) i = upd (upd (om.2.2 6) (2 * t) (nI p)) (2 * t + 1) i1 (2 * i) ∧ upd (oo.2.2 9) t i1 i = upd (upd (om.2.2 6) (2 * t) (nI p)) (2 * t + 1) i1 (2 * i + 1) ∧ IR 0 7 (upd (upd (om.2.2 6) (2 * t) (nI p)) (2 * t + 1) i1 (2 * i)) ∧ IR 0 999 (upd (upd (om.2.2 6) (2 * t) (nI p)) (2 * t + 1) i1 (2 * i + 1))
          by_cases e : i = t
          · subst e
            rw [upd_same, upd_same, upd_ne _ _ _ _ (show 2 * i ≠ 2 * i + 1 by omega), upd_same, upd_same]
            refine ⟨rfl, rfl, ⟨?_, ?_⟩, ⟨Int32.le_iff_toInt_le.mp (Int32.not_lt.mp c1), Int32.le_iff_toInt_le.mp c2⟩⟩
            · rw [nI_toInt (by have := hS.1; omega)]; omega
            · rw [nI_toInt (by have := hS.1; omega)]; have := hS.1; omega
          · rw [upd_ne _ _ _ _ e, upd_ne _ _ _ _ e, upd_ne _ _ _ _ (show 2 * i ≠ 2 * t + 1 by omega), upd_ne _ _ _ _ (show 2 * i ≠ 2 * t by omega), upd_ne _ _ _ _ (show 2 * i + 1 ≠ 2 * t + 1 by omega), upd_ne _ _ _ _ (show 2 * i + 1 ≠ 2 * t by omega)]
            exact hx i (by omega)
    · refine ⟨-1, oo, om, ?_, ?_, h⟩
      · simp only [f_X4_sees, f1, Option.bind_some, if_neg c1, if_neg c2]
        rfl
      · simp only [f_X5_sees, f2, Option.bind_some, in_hi (Int32.not_le.mp c2)]
        rfl
  · refine ⟨-1, oo, om, ?_, ?_, h⟩
    · simp only [f_X4_sees, f1, Option.bind_some]
      rfl
    · simp only [f_X5_sees, f2, Option.bind_some]
      rfl
