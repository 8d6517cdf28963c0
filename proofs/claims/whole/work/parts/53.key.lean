/-! ===== key ===== -/
theorem use_both {f : PF} {n s : Nat} {od op om : OS} (hB : PB f n) (hL : LB f) (hs : s < 2 ^ n) (h : Done f n s od op) (hr : RDone f n s om) : ∃ om2, Fr om om2 ∧ ((od.1 11 = 0 ∧ f_X5_laysMost om = some (0, om2)) ∨ (od.1 11 = 1 ∧ ∃ T B : Int64, f_X0_useTop od op = some T ∧ f_X0_useBottom od op = some B ∧ f_X5_laysMost om = some (1, om2) ∧ om2.2.1 33 = T ∧ om2.2.1 34 = B ∧ 0 ≤ T.toInt ∧ T.toInt < 2 ^ 42 ∧ 0 < B.toInt ∧ B.toInt < 2 ^ 42)) := by
  have hn := h.1.1
  by_cases c : rs f n s = true
  · obtain ⟨j, ej, hj, e12, u1, u2⟩ := use_c h c
    have hm := laysMost_yes hr hs h.2.2.2.2.2.1 c ej
    obtain ⟨-, hD, hpul, -⟩ := h.2.2.2.2.2.2.2 c
    obtain ⟨b1, b2, b3, b4⟩ := use_b (j := j) hB hn hL hD hpul hj
    exact ⟨_, most_fr om _ _ _, Or.inr ⟨by rw [h.2.2.2.1, if_pos c], uT f n s j, uB f n s j, u1, u2, hm, rfl, rfl, b1, b2, b3, b4⟩⟩
  · exact ⟨_, most_fr0 om _, Or.inl ⟨by rw [h.2.2.2.1, if_neg c], laysMost_no hr c⟩⟩
/-- the best one so far, on both sides -/
def BS (v1 : Int32) (v2 v4 w2 w4 : Int64) : Prop := v1 = -9 ∨ (¬ v1 = -9 ∧ v2 = w2 ∧ v4 = w4 ∧ 0 ≤ v2.toInt ∧ 0 < v4.toInt)
theorem nI_n9 {j : Nat} (hj : j < 2 ^ 31) : ¬ nI j = -9 := fun q => by
  have h2 := nI_toInt hj
  rw [q] at h2
  have h3 : (-9 : Int32).toInt = -9 := rfl
  omega
abbrev kE (x : Option ((Int32 × OS × OS × OS) ⊕ (Int32 × Int64 × Int64 × Int32 × OS × OS × OS))) : Option (Int32 × OS × OS × OS) := Option.bind x (Sum.elim (fun r => some r) (fun z5 => some (z5.1, z5.2.2.2.2.1, z5.2.2.2.2.2.1, z5.2.2.2.2.2.2)))
abbrev kR (x : Option ((Int32 × OS) ⊕ (Int32 × Int64 × Int64 × Int32 × OS))) : Option (Int32 × OS) := Option.bind x (Sum.elim (fun r => some r) (fun z4 => some (z4.1, z4.2.2.2.2)))
theorem key_loop {on : OS} {S : Nat → Int32} {n k b : Nat} {f : PF} (h : SRn on S n k b) (hB : PB f n) (hL : LB f) (hf : f = pf S (fW f) (fU f) (fV f)) (hr : ∀ om : OS, om.2.2 0 = S → ∃ om2, f_X5_laysSums om = some om2 ∧ om2.1 = om.1 ∧ om2.2.2 = om.2.2 ∧ RW f om2) (oo : OS) : ∀ (m p j : Nat) (v1 : Int32) (v2 v4 w2 w4 : Int64) (od odw odp om : OS), p + m = n → m < j → CP f n od → CW f od → om.2.2 0 = S → BS v1 v2 v4 w2 w4 → ∃ (r : Int32) (od2 odw2 odp2 om2 : OS), kE (lp_X4_key_15 oo on j v1 v2 v4 (nI p) od odw odp) = some (r, od2, odw2, odp2) ∧ kR (lp_X5_key_11 j v1 w2 w4 (nI p) om) = some (r, om2) ∧ Fr om om2 := by
  have hn := h.1
  have e4 := h.2.2.2.1
  have s0 := h.2.2.2.2.1
  intro m
  induction m with
  | zero =>
    intro p j v1 v2 v4 w2 w4 od odw odp om hp hj hc hw hm hbs
    obtain ⟨j, rfl⟩ : ∃ i, j = i + 1 := ⟨j - 1, by omega⟩
    have : p = n := by omega
    subst this
    refine ⟨v1, od, odw, odp, om, ?_, ?_, Fr.rfl⟩
    · rw [lp_X4_key_15, e4, if_pos (nI_le (Nat.le_refl _) (by omega))]; rfl
    · rw [lp_X5_key_11, show (0 : Int32).toNatClampNeg = 0 from rfl, hm, s0, if_pos (nI_le (Nat.le_refl _) (by omega))]; rfl
  | succ m ih =>
    intro p j v1 v2 v4 w2 w4 od odw odp om hp hj hc hw hm hbs
    obtain ⟨j, rfl⟩ : ∃ i, j = i + 1 := ⟨j - 1, by omega⟩
    have a9 := (h.2.2.2.2.2.2.2.2.2.2.2.2.1 p (by omega)).2.2.2.2.2.2.2.2
    have o4 : f_X5_ofPile (nI p) 4 om = some (if b.testBit p then 0 else 1) := by
      rw [show (4 : Int32) = nI 4 from rfl, ofPile_eq (by omega) (by omega), hm, show 1 + 5 * p + 4 = 5 + 5 * p by omega, a9]
    rw [lp_X4_key_15, e4, if_neg (nI_ge (show p < n by omega) (by omega)), isIntact_eq h.lt512 (by omega) h.2.2.2.2.2.1, Option.bind_some, nI_1, lp_X5_key_11, show (0 : Int32).toNatClampNeg = 0 from rfl, hm, s0, if_neg (nI_ge (show p < n by omega) (by omega)), o4, Option.bind_some, nI_1]
    cases hb : b.testBit p
    · simp only [Bool.false_eq_true, if_false, if_true, if_neg not_one]
      exact ih (p + 1) j v1 v2 v4 w2 w4 od odw odp om (by omega) (by omega) hc hw hm hbs
    · simp only [if_true, if_neg not_one]
      obtain ⟨od2, odw2, odp2, d1, d2, d3⟩ := settleOn_eq hB (tog_lt h.2.2.1 (show p < n by omega)) hc hw odw odp
      obtain ⟨om2, w1, w2', w3⟩ := wo_ref h (show p < n by omega) hb hB hf hr om hm
      obtain ⟨om3, u1, u2⟩ := use_both hB hL (tog_lt h.2.2.1 (show p < n by omega)) d2 w2'
      have hm3 : om3.2.2 0 = S := ((u1.1 0 (by omega)).trans (w3.1 0 (by omega))).trans hm
      have f3 : Fr om om3 := w3.trans u1
      rw [h.2.2.2.2.2.1, bit_clr h.lt512 (by omega) hb, d1, Option.bind_some, w1]
      simp only
      rcases u2 with ⟨z1, z2⟩ | ⟨z1, T, B, t1, t2, t3, t4, t5, b1, b2, b3, b4⟩
      · rw [z1, if_pos rfl, z2]
        exact ⟨nI p, od2, odw2, odp2, om3, rfl, rfl, f3⟩
      · rw [z1, if_neg not_one, t1, t2, t3]
        simp only [Option.bind_some]
        rw [bz, if_pos (Or.inr rfl), Option.bind_some]
        simp only
        rw [if_neg not_one, t4, t5]
        have hnew : BS (nI p) T B T B := Or.inr ⟨nI_n9 (by omega), rfl, rfl, b1, b3⟩
        by_cases c : v1 = -9
        · rw [if_pos c, if_pos c]
          obtain ⟨r, o1, o2, o3, o4, q1, q2, q3⟩ := ih (p + 1) j (nI p) T B T B od2 odw2 odp2 om3 (by omega) (by omega) d2.1 d3 hm3 hnew
          exact ⟨r, o1, o2, o3, o4, q1, q2, f3.trans q3⟩
        · rw [if_neg c, if_neg c]
          rcases hbs with hbs | ⟨-, rfl, rfl, g1, g2⟩
          · exact absurd hbs c
          · obtain ⟨r, r1, r2⟩ := cmp_eq b1 b2 b3 b4 g1 g2
            rw [r1, r2, Option.bind_some, Option.bind_some]
            by_cases c2 : r ≤ 0
            · rw [if_pos c2, if_pos c2]
              obtain ⟨r, o1, o2, o3, o4, q1, q2, q3⟩ := ih (p + 1) j v1 v2 v4 v2 v4 od2 odw2 odp2 om3 (by omega) (by omega) d2.1 d3 hm3 (Or.inr ⟨c, rfl, rfl, g1, g2⟩)
              exact ⟨r, o1, o2, o3, o4, q1, q2, f3.trans q3⟩
            · rw [if_neg c2, if_neg c2]
              obtain ⟨r, o1, o2, o3, o4, q1, q2, q3⟩ := ih (p + 1) j (nI p) T B T B od2 odw2 odp2 om3 (by omega) (by omega) d2.1 d3 hm3 hnew
              exact ⟨r, o1, o2, o3, o4, q1, q2, f3.trans q3⟩
theorem p_key {oo on oc : OS} {pa ig : PSt} {om : OS} (h : Rel oo on oc pa ig om) (od odw odp : OS) : Pr om (f_X4_key oo on od odw odp) (f_X5_key om) := by
  obtain ⟨⟨n, k, b, hS⟩, -⟩ := h
  have hn := hS.1
  obtain ⟨f, hB, hL, hf, hc, hr⟩ := take_eq hS
  obtain ⟨od1, t1, t2, t3⟩ := hc oo od
  obtain ⟨r, od2, odw2, odp2, om2, q1, q2, q3⟩ := key_loop hS hB hL hf hr oo n 0 1000 (-9) 0 1 0 0 od1 odw odp om (by omega) (by omega) t2 t3 rfl (Or.inl rfl)
  refine ⟨r, od2, odw2, odp2, om2, ?_, q2, q3.pe⟩
  rw [f_X4_key, t1, Option.bind_some]
  exact q1
