theorem in_eq (v lo hi : Int32) : (f_X5_in v lo hi = some 1 ∧ lo.toInt ≤ v.toInt ∧ v.toInt ≤ hi.toInt) ∨ (f_X5_in v lo hi = some 0 ∧ (v < lo ∨ hi < v)) := by
  by_cases c1 : v < lo
  · exact Or.inr ⟨in_lo c1, Or.inl c1⟩
  by_cases c2 : hi < v
  · exact Or.inr ⟨in_hi c2, Or.inr c2⟩
  exact Or.inl ⟨in_yes (Int32.not_lt.mp c1) (Int32.not_lt.mp c2), Int32.le_iff_toInt_le.mp (Int32.not_lt.mp c1), Int32.le_iff_toInt_le.mp (Int32.not_lt.mp c2)⟩
/-! ===== the sums of the loads ===== -/
theorem add_i2l {a b : Int32} (h : a.toInt.natAbs + b.toInt.natAbs < 2 ^ 31) : (a + b).toInt64 = a.toInt64 + b.toInt64 ∧ (a + b).toInt.natAbs ≤ a.toInt.natAbs + b.toInt.natAbs := by
  have e : (a + b).toInt = a.toInt + b.toInt := by
    rw [Int32.toInt_add]
    exact bm32 (by omega)
  refine ⟨?_, by rw [e]; omega⟩
  apply Int64.toInt_inj.mp
  rw [Int32.toInt_toInt64, Int64.toInt_add, Int32.toInt_toInt64, Int32.toInt_toInt64, e]
  exact (bm64 (by omega)).symm
theorem c41 : (41 : Int32).toNatClampNeg = 41 := rfl
theorem weight_loop {on : OS} {S : Nat → Int32} {n k b : Nat} (h : SRn on S n k b) {om : OS} (hm : om.2.2 0 = S) : ∀ (m c j : Nat) (v : Int32), c + m = k → m < j → v.toInt.natAbs ≤ 99 + 891 * c → ∃ w : Int32, lp_X3_weight_4 on j v (nI c) = some (w, nI k) ∧ lp_X5_sumOf_42 0 om j v.toInt64 (nI c) = some (w.toInt64, nI k) ∧ w.toInt.natAbs ≤ v.toInt.natAbs + 99 * m := by
  obtain ⟨hn, hk, hb, e4, s0, e5, e9, s41, e10, e11, i57, i58, hp, hc⟩ := h
  intro m
  induction m with
  | zero =>
    intro c j v hcm hj hv
    obtain ⟨j, rfl⟩ : ∃ i, j = i + 1 := ⟨j - 1, by omega⟩
    have : c = k := by omega
    subst this
    refine ⟨v, ?_, ?_, by omega⟩
    · rw [lp_X3_weight_4, e9, if_pos (nI_le (Nat.le_refl _) (by omega))]
    · rw [lp_X5_sumOf_42, c41, hm, s41, if_pos (nI_le (Nat.le_refl _) (by omega))]
  | succ m ih =>
    intro c j v hcm hj hv
    obtain ⟨j, rfl⟩ : ∃ i, j = i + 1 := ⟨j - 1, by omega⟩
    have tc : (nI c).toNatClampNeg = c := nI_clamp (by omega)
    obtain ⟨x6, x7, x8, r6, r7, r8⟩ := hc c (by omega)
    have a6 : (S (42 + 3 * c)).toInt.natAbs ≤ 9 := r6.abs (by omega) (by omega)
    have a7 : (S (43 + 3 * c)).toInt.natAbs ≤ 9 := r7.abs (by omega) (by omega)
    have a8 : (S (44 + 3 * c)).toInt.natAbs ≤ 99 := r8.abs (by omega) (by omega)
    have o2 : f_X5_ofColumn (nI c) 2 om = some (S (44 + 3 * c)) := by
      rw [show (2 : Int32) = nI 2 from rfl, ofColumn_eq (by omega) (by omega), hm, show 42 + 3 * c + 2 = 44 + 3 * c by omega]
    obtain ⟨q1, q2⟩ := add_i2l (a := v) (b := S (44 + 3 * c)) (by omega)
    obtain ⟨w, w1, w2, w3⟩ := ih (c + 1) j (v + S (44 + 3 * c)) (by omega) (by omega) (by omega)
    refine ⟨w, ?_, ?_, by omega⟩
    · rw [lp_X3_weight_4, e9, if_neg (nI_ge (show c < k by omega) (by omega)), ck_nI (show c < 5 by omega) (by decide), tc, x8, nI_1]
      exact w1
    · rw [lp_X5_sumOf_42, c41, hm, s41, if_neg (nI_ge (show c < k by omega) (by omega)), o2, Option.bind_some, if_pos rfl, Int32.mul_one, nI_1, ← q1]
      exact w2
theorem momentX_loop {on : OS} {S : Nat → Int32} {n k b : Nat} (h : SRn on S n k b) {om : OS} (hm : om.2.2 0 = S) : ∀ (m c j : Nat) (v : Int32), c + m = k → m < j → v.toInt.natAbs ≤ 99 + 891 * c → ∃ w : Int32, lp_X3_momentX_7 on j v (nI c) = some (w, nI k) ∧ lp_X5_sumOf_42 1 om j v.toInt64 (nI c) = some (w.toInt64, nI k) ∧ w.toInt.natAbs ≤ v.toInt.natAbs + 891 * m := by
  obtain ⟨hn, hk, hb, e4, s0, e5, e9, s41, e10, e11, i57, i58, hp, hc⟩ := h
  intro m
  induction m with
  | zero =>
    intro c j v hcm hj hv
    obtain ⟨j, rfl⟩ : ∃ i, j = i + 1 := ⟨j - 1, by omega⟩
    have : c = k := by omega
    subst this
    refine ⟨v, ?_, ?_, by omega⟩
    · rw [lp_X3_momentX_7, e9, if_pos (nI_le (Nat.le_refl _) (by omega))]
    · rw [lp_X5_sumOf_42, c41, hm, s41, if_pos (nI_le (Nat.le_refl _) (by omega))]
  | succ m ih =>
    intro c j v hcm hj hv
    obtain ⟨j, rfl⟩ : ∃ i, j = i + 1 := ⟨j - 1, by omega⟩
    have tc : (nI c).toNatClampNeg = c := nI_clamp (by omega)
    obtain ⟨x6, x7, x8, r6, r7, r8⟩ := hc c (by omega)
    have a6 : (S (42 + 3 * c)).toInt.natAbs ≤ 9 := r6.abs (by omega) (by omega)
    have a7 : (S (43 + 3 * c)).toInt.natAbs ≤ 9 := r7.abs (by omega) (by omega)
    have a8 : (S (44 + 3 * c)).toInt.natAbs ≤ 99 := r8.abs (by omega) (by omega)
    have o2 : f_X5_ofColumn (nI c) 2 om = some (S (44 + 3 * c)) := by
      rw [show (2 : Int32) = nI 2 from rfl, ofColumn_eq (by omega) (by omega), hm, show 42 + 3 * c + 2 = 44 + 3 * c by omega]
    have o1 : f_X5_ofColumn (nI c) ((1 : Int32) - 1) om = some (S (42 + 3 * c)) := by
      rw [show ((1 : Int32) - 1) = nI 0 from rfl, ofColumn_eq (by omega) (by omega), hm, show 42 + 3 * c + 0 = 42 + 3 * c by omega]
    have mb := (mul32 99 9 a8 a6 (by decide)).2
    obtain ⟨q1, q2⟩ := add_i2l (a := v) (b := S (44 + 3 * c) * S (42 + 3 * c)) (by omega)
    obtain ⟨w, w1, w2, w3⟩ := ih (c + 1) j (v + S (44 + 3 * c) * S (42 + 3 * c)) (by omega) (by omega) (by omega)
    refine ⟨w, ?_, ?_, by omega⟩
    · rw [lp_X3_momentX_7, e9, if_neg (nI_ge (show c < k by omega) (by omega)), ck_nI (show c < 5 by omega) (by decide), ck_nI (show c < 5 by omega) (by decide), tc, x8, x6, nI_1]
      exact w1
    · rw [lp_X5_sumOf_42, c41, hm, s41, if_neg (nI_ge (show c < k by omega) (by omega)), o2, Option.bind_some, if_neg (by decide), o1, Option.bind_some, nI_1, ← q1]
      exact w2
theorem momentY_loop {on : OS} {S : Nat → Int32} {n k b : Nat} (h : SRn on S n k b) {om : OS} (hm : om.2.2 0 = S) : ∀ (m c j : Nat) (v : Int32), c + m = k → m < j → v.toInt.natAbs ≤ 99 + 891 * c → ∃ w : Int32, lp_X3_momentY_7 on j v (nI c) = some (w, nI k) ∧ lp_X5_sumOf_42 2 om j v.toInt64 (nI c) = some (w.toInt64, nI k) ∧ w.toInt.natAbs ≤ v.toInt.natAbs + 891 * m := by
  obtain ⟨hn, hk, hb, e4, s0, e5, e9, s41, e10, e11, i57, i58, hp, hc⟩ := h
  intro m
  induction m with
  | zero =>
    intro c j v hcm hj hv
    obtain ⟨j, rfl⟩ : ∃ i, j = i + 1 := ⟨j - 1, by omega⟩
    have : c = k := by omega
    subst this
    refine ⟨v, ?_, ?_, by omega⟩
    · rw [lp_X3_momentY_7, e9, if_pos (nI_le (Nat.le_refl _) (by omega))]
    · rw [lp_X5_sumOf_42, c41, hm, s41, if_pos (nI_le (Nat.le_refl _) (by omega))]
  | succ m ih =>
    intro c j v hcm hj hv
    obtain ⟨j, rfl⟩ : ∃ i, j = i + 1 := ⟨j - 1, by omega⟩
    have tc : (nI c).toNatClampNeg = c := nI_clamp (by omega)
    obtain ⟨x6, x7, x8, r6, r7, r8⟩ := hc c (by omega)
    have a6 : (S (42 + 3 * c)).toInt.natAbs ≤ 9 := r6.abs (by omega) (by omega)
    have a7 : (S (43 + 3 * c)).toInt.natAbs ≤ 9 := r7.abs (by omega) (by omega)
    have a8 : (S (44 + 3 * c)).toInt.natAbs ≤ 99 := r8.abs (by omega) (by omega)
    have o2 : f_X5_ofColumn (nI c) 2 om = some (S (44 + 3 * c)) := by
      rw [show (2 : Int32) = nI 2 from rfl, ofColumn_eq (by omega) (by omega), hm, show 42 + 3 * c + 2 = 44 + 3 * c by omega]
    have o1 : f_X5_ofColumn (nI c) ((2 : Int32) - 1) om = some (S (43 + 3 * c)) := by
      rw [show ((2 : Int32) - 1) = nI 1 from rfl, ofColumn_eq (by omega) (by omega), hm, show 42 + 3 * c + 1 = 43 + 3 * c by omega]
    have mb := (mul32 99 9 a8 a7 (by decide)).2
    obtain ⟨q1, q2⟩ := add_i2l (a := v) (b := S (44 + 3 * c) * S (43 + 3 * c)) (by omega)
    obtain ⟨w, w1, w2, w3⟩ := ih (c + 1) j (v + S (44 + 3 * c) * S (43 + 3 * c)) (by omega) (by omega) (by omega)
    refine ⟨w, ?_, ?_, by omega⟩
    · rw [lp_X3_momentY_7, e9, if_neg (nI_ge (show c < k by omega) (by omega)), ck_nI (show c < 5 by omega) (by decide), ck_nI (show c < 5 by omega) (by decide), tc, x8, x7, nI_1]
      exact w1
    · rw [lp_X5_sumOf_42, c41, hm, s41, if_neg (nI_ge (show c < k by omega) (by omega)), o2, Option.bind_some, if_neg (by decide), o1, Option.bind_some, nI_1, ← q1]
      exact w2
theorem sums_eq {on : OS} {S : Nat → Int32} {n k b : Nat} (h : SRn on S n k b) : ∃ w u v : Int32, f_X3_weight on = some w ∧ f_X3_momentX on = some u ∧ f_X3_momentY on = some v ∧ (∀ om : OS, om.2.2 0 = S → f_X5_sumOf 0 om = some w.toInt64 ∧ f_X5_sumOf 1 om = some u.toInt64 ∧ f_X5_sumOf 2 om = some v.toInt64) ∧ w.toInt.natAbs ≤ 495 ∧ u.toInt.natAbs ≤ 4554 ∧ v.toInt.natAbs ≤ 4554 := by
  obtain ⟨hn, hk, hb, e4, s0, e5, e9, s41, e10, e11, i57, i58, hp, hc⟩ := id h
  have a57 : (S 57).toInt.natAbs ≤ 99 := i57.abs (by omega) (by omega)
  have a58 : (S 58).toInt.natAbs ≤ 99 := i58.abs (by omega) (by omega)
  have z0 : (0 : Int32).toInt.natAbs = 0 := rfl
  have om0 : ∃ om : OS, om.2.2 0 = S := ⟨(fun _ => 0, fun _ => 0, fun _ => S), rfl⟩
  obtain ⟨om0, ho⟩ := om0
  obtain ⟨w, w1, -, w3⟩ := weight_loop h ho k 0 1000 0 (by omega) (by omega) (by omega)
  obtain ⟨u, u1, -, u3⟩ := momentX_loop h ho k 0 1000 (S 57) (by omega) (by omega) (by omega)
  obtain ⟨v, v1, -, v3⟩ := momentY_loop h ho k 0 1000 (S 58) (by omega) (by omega) (by omega)
  refine ⟨w, u, v, ?_, ?_, ?_, fun om hm => ⟨?_, ?_, ?_⟩, by omega, by omega, by omega⟩
  · rw [f_X3_weight, show lp_X3_weight_4 on 1000 0 0 = _ from w1]; rfl
  · rw [f_X3_momentX, e10, show lp_X3_momentX_7 on 1000 (S 57) 0 = _ from u1]; rfl
  · rw [f_X3_momentY, e11, show lp_X3_momentY_7 on 1000 (S 58) 0 = _ from v1]; rfl
  · obtain ⟨w', q1, q2, -⟩ := weight_loop h hm k 0 1000 0 (by omega) (by omega) (by omega)
    have e : w' = w := by rw [w1] at q1; exact ((Prod.mk.injEq ..).mp (Option.some.inj q1)).1.symm
    subst e
    rw [f_X5_sumOf, if_pos (by decide), if_pos rfl, Option.bind_some, show lp_X5_sumOf_42 0 om 1000 0 0 = _ from q2]; rfl
  · obtain ⟨w', q1, q2, -⟩ := momentX_loop h hm k 0 1000 (S 57) (by omega) (by omega) (by omega)
    have e : w' = u := by rw [u1] at q1; exact ((Prod.mk.injEq ..).mp (Option.some.inj q1)).1.symm
    subst e
    rw [f_X5_sumOf, if_pos (by decide), if_neg (by decide), show ((57 : Int32) + 1 - 1) = nI 57 from rfl, ck_nI (by decide) (by decide), show (nI 57).toNatClampNeg = 57 from rfl, hm, Option.bind_some, show lp_X5_sumOf_42 1 om 1000 (S 57).toInt64 0 = _ from q2]; rfl
  · obtain ⟨w', q1, q2, -⟩ := momentY_loop h hm k 0 1000 (S 58) (by omega) (by omega) (by omega)
    have e : w' = v := by rw [v1] at q1; exact ((Prod.mk.injEq ..).mp (Option.some.inj q1)).1.symm
    subst e
    rw [f_X5_sumOf, if_pos (by decide), if_neg (by decide), show ((57 : Int32) + 2 - 1) = nI 58 from rfl, ck_nI (by decide) (by decide), show (nI 58).toNatClampNeg = 58 from rfl, hm, Option.bind_some, show lp_X5_sumOf_42 2 om 1000 (S 58).toInt64 0 = _ from q2]; rfl
theorem p_sum {oo on oc : OS} {pa ig : PSt} {om : OS} (h : Rel oo on oc pa ig om) (i0 : Int32) : ∃ r : Int64, f_X4_sum i0 oo on = some r ∧ f_X5_sum i0 om = some r := by
  obtain ⟨⟨n, k, b, hs⟩, -⟩ := h
  obtain ⟨w, u, v, c1, c2, c3, hr, -⟩ := sums_eq hs
  obtain ⟨r1, r2, r3⟩ := hr om rfl
  have e10 := hs.2.2.2.2.2.2.2.2.1
  have e11 := hs.2.2.2.2.2.2.2.2.2.1
  unfold f_X4_sum f_X5_sum
  by_cases c : i0 = 0
  · subst c
    exact ⟨w.toInt64, by rw [if_pos rfl, c1]; rfl, by rw [show f_X5_in 0 0 4 = some 1 from by decide, Option.bind_some, if_neg (by decide), r1]; rfl⟩
  by_cases d : i0 = 1
  · subst d
    exact ⟨u.toInt64, by rw [if_neg (by decide), if_pos rfl, c2]; rfl, by rw [show f_X5_in 1 0 4 = some 1 from by decide, Option.bind_some, if_neg (by decide), r2]; rfl⟩
  by_cases e : i0 = 2
  · subst e
    exact ⟨v.toInt64, by rw [if_neg (by decide), if_neg (by decide), if_pos rfl, c3]; rfl, by rw [show f_X5_in 2 0 4 = some 1 from by decide, Option.bind_some, if_neg (by decide), r3]; rfl⟩
  by_cases g : i0 = 3
  · subst g
    refine ⟨(om.2.2 0 57).toInt64, by rw [if_neg (by decide), if_neg (by decide), if_neg (by decide), if_pos rfl, e10], ?_⟩
    rw [show f_X5_in 3 0 4 = some 1 from by decide, Option.bind_some, if_neg (by decide), f_X5_sumOf, if_neg (by decide), show ((57 : Int32) + 3 - 3) = nI 57 from rfl, ck_nI (by decide) (by decide), show (nI 57).toNatClampNeg = 57 from rfl]; rfl
  by_cases i : i0 = 4
  · subst i
    refine ⟨(om.2.2 0 58).toInt64, by rw [if_neg (by decide), if_neg (by decide), if_neg (by decide), if_neg (by decide), if_pos rfl, e11], ?_⟩
    rw [show f_X5_in 4 0 4 = some 1 from by decide, Option.bind_some, if_neg (by decide), f_X5_sumOf, if_neg (by decide), show ((57 : Int32) + 4 - 3) = nI 58 from rfl, ck_nI (by decide) (by decide), show (nI 58).toNatClampNeg = 58 from rfl]; rfl
  refine ⟨-1000000000000000000, by rw [if_neg c, if_neg d, if_neg e, if_neg g, if_neg i], ?_⟩
  rcases in_eq i0 0 4 with ⟨a1, a2, a3⟩ | ⟨a1, a2⟩
  · exfalso
    have z0 : (0 : Int32).toInt = 0 := rfl
    have z4 : (4 : Int32).toInt = 4 := rfl
    have e0 : ¬ i0.toInt = 0 := fun q => c (Int32.toInt_inj.mp q)
    have e1 : ¬ i0.toInt = 1 := fun q => d (Int32.toInt_inj.mp q)
    have e2 : ¬ i0.toInt = 2 := fun q => e (Int32.toInt_inj.mp q)
    have e3 : ¬ i0.toInt = 3 := fun q => g (Int32.toInt_inj.mp q)
    have e4 : ¬ i0.toInt = 4 := fun q => i (Int32.toInt_inj.mp q)
    omega
  · rw [a1, Option.bind_some, if_pos rfl]
