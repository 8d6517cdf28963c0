/-! ===== what is asked: pairs of the class's and the reference's methods ===== -/
theorem wh (i : Int32) (m : Nat) (hm : m < 2 ^ 31) : (i < 0 ∧ f_X5_in i 0 (nI m) = some 0) ∨ (¬ i < 0 ∧ ¬ i ≤ nI m ∧ f_X5_in i 0 (nI m) = some 0) ∨ (∃ j, j ≤ m ∧ i = nI j ∧ ¬ i < 0 ∧ i ≤ nI m ∧ f_X5_in i 0 (nI m) = some 1) := by
  by_cases c1 : i < 0
  · exact Or.inl ⟨c1, in_lo c1⟩
  by_cases c2 : i ≤ nI m
  · have a0 := Int32.le_iff_toInt_le.mp (Int32.not_lt.mp c1)
    have a1 := Int32.le_iff_toInt_le.mp c2
    rw [nI_toInt hm] at a1
    obtain ⟨j, hj, rfl⟩ := IR.nat (n := m) (x := i) ⟨a0, a1⟩ hm
    exact Or.inr (Or.inr ⟨j, hj, rfl, c1, c2, in_yes (Int32.not_lt.mp c1) c2⟩)
  · exact Or.inr (Or.inl ⟨c1, c2, in_hi (Int32.not_le.mp c2)⟩)
/-- both answer, and alike; what lasts of the reference is the same -/
def Pr {α : Type} (om : OS) (A : Option (α × OS × OS × OS)) (B : Option (α × OS)) : Prop := ∃ (r : α) (od2 odw2 odp2 om2 : OS), A = some (r, od2, odw2, odp2) ∧ B = some (r, om2) ∧ PE om om2
theorem Pr.one {α : Type} {om od odw odp : OS} {A : Option (α × OS × OS × OS)} {B : Option (α × OS)} (r : α) (h1 : A = some (r, od, odw, odp)) (h2 : B = some (r, om)) : Pr om A B := ⟨r, od, odw, odp, om, h1, h2, PE.rfl⟩
theorem not_one : ¬ (1 : Int32) = 0 := by decide
theorem p_sharing {oo on oc : OS} {pa ig : PSt} {om : OS} (h : Rel oo on oc pa ig om) (i0 : Int32) (od odw odp : OS) : Pr om (f_X4_sharing i0 oo on od odw odp) (f_X5_sharing i0 om) := by
  obtain ⟨⟨n, k, b, hS⟩, -⟩ := h
  rcases wh i0 2 (by decide) with ⟨c1, c2⟩ | ⟨c1, c2, c3⟩ | ⟨j, hj, e, c1, c2, c3⟩
  · exact Pr.one (-1) (by rw [f_X4_sharing, if_pos c1]) (by rw [f_X5_sharing, show f_X5_in i0 0 2 = _ from c2, Option.bind_some, if_pos rfl])
  · exact Pr.one (-1) (by rw [f_X4_sharing, if_neg c1, if_neg (show ¬ i0 ≤ 2 from c2)]) (by rw [f_X5_sharing, show f_X5_in i0 0 2 = _ from c3, Option.bind_some, if_pos rfl])
  · obtain ⟨f, od2, odw2, odp2, om2, hB, hL, r1, r2, hd, hr, hf⟩ := now_eq hS oo od odw odp
    have e1 : f_X4_sharing i0 oo on od odw odp = if i0 = 0 then some ((od2.1 10), od2, odw2, odp2) else if i0 = 1 then if (od2.1 11) = 0 then some (0, od2, odw2, odp2) else some (1, od2, odw2, odp2) else if (od2.1 11) = 0 then some ((-9), od2, odw2, odp2) else some (((od2.1 8) &&& ((od2.1 9) ^^^ (-1))), od2, odw2, odp2) := by
      rw [f_X4_sharing, if_neg c1, if_pos (show i0 ≤ 2 from c2), r1, Option.bind_some]
    have e2 : f_X5_sharing i0 om = if i0 = 0 then some ((om2.1 27), om2) else if i0 = 1 then if (om2.1 28) = 0 then some (0, om2) else some (1, om2) else if (om2.1 28) = 0 then some ((-9), om2) else some (((om2.1 22) &&& ((om2.1 26) ^^^ (-1))), om2) := by
      rw [f_X5_sharing, show f_X5_in i0 0 2 = _ from c3, Option.bind_some, if_neg not_one, r2, Option.bind_some]
    obtain ⟨hc, d8, d10, d11, d9, -⟩ := hd
    obtain ⟨-, -, q22, q27, q28, q26, -⟩ := hr
    rw [e1, e2, d8, d10, d11, d9, q22, q27, q28, q26]
    by_cases k1 : i0 = 0
    · rw [if_pos k1, if_pos k1]; exact ⟨_, od2, odw2, odp2, om2, rfl, rfl, hf.pe⟩
    rw [if_neg k1, if_neg k1]
    by_cases k2 : i0 = 1
    · rw [if_pos k2, if_pos k2]
      cases (run f n b 40 0 b).2.1
      · exact ⟨0, od2, odw2, odp2, om2, rfl, rfl, hf.pe⟩
      · exact ⟨1, od2, odw2, odp2, om2, rfl, rfl, hf.pe⟩
    rw [if_neg k2, if_neg k2]
    cases (run f n b 40 0 b).2.1
    · exact ⟨-9, od2, odw2, odp2, om2, rfl, rfl, hf.pe⟩
    · exact ⟨_, od2, odw2, odp2, om2, rfl, rfl, hf.pe⟩
theorem p_pile {oo on oc : OS} {pa ig : PSt} {om : OS} (h : Rel oo on oc pa ig om) (i0 i1 : Int32) (od odw odp : OS) : Pr om (f_X4_pile i0 i1 oo on od odw odp) (f_X5_pile i0 i1 om) := by
  obtain ⟨⟨n, k, b, hS⟩, -⟩ := h
  have hn := hS.1
  rcases isPile_eq (oo := oo) hS i0 with ⟨p, hp, rfl, f1, f2⟩ | ⟨f1, f2⟩
  · rcases wh i1 5 (by decide) with ⟨c1, c2⟩ | ⟨c1, c2, c3⟩ | ⟨j, hj, rfl, c1, c2, c3⟩
    · exact Pr.one (-1000000000000000000) (by rw [f_X4_pile, f1, Option.bind_some, if_neg not_one, if_pos c1]) (by rw [f_X5_pile, f2, Option.bind_some, if_neg not_one, show f_X5_in i1 0 5 = _ from c2, Option.bind_some, if_pos rfl])
    · exact Pr.one (-1000000000000000000) (by rw [f_X4_pile, f1, Option.bind_some, if_neg not_one, if_neg c1, if_neg (show ¬ i1 ≤ 5 from c2)]) (by rw [f_X5_pile, f2, Option.bind_some, if_neg not_one, show f_X5_in i1 0 5 = _ from c3, Option.bind_some, if_pos rfl])
    · have tp : (nI p).toNatClampNeg = p := nI_clamp (by omega)
      obtain ⟨a1, a2, a3, a4, -, -, -, -, a9⟩ := hS.2.2.2.2.2.2.2.2.2.2.2.2.1 p hp
      have hb5 := hS.lt512
      rw [f_X4_pile, f1, Option.bind_some, if_neg not_one, if_neg c1, if_pos (show nI j ≤ 5 from c2), ck_nI (show p < 8 by omega) (by decide), ck_nI (show p < 8 by omega) (by decide), ck_nI (show p < 8 by omega) (by decide), ck_nI (show p < 8 by omega) (by decide), tp, f_X5_pile, f2, Option.bind_some, if_neg not_one, show f_X5_in (nI j) 0 5 = _ from c3, Option.bind_some, if_neg not_one]
      obtain rfl | rfl | rfl | rfl | rfl | rfl : j = 0 ∨ j = 1 ∨ j = 2 ∨ j = 3 ∨ j = 4 ∨ j = 5 := by omega
      · exact Pr.one (om.2.2 0 (1 + 5 * p)).toInt64 (by rw [if_pos (show nI 0 = 0 from rfl), a1]) (by rw [if_neg (show ¬ (4 : Int32) ≤ nI 0 by decide), ofPile_eq (by omega) (by omega), Option.bind_some]; rfl)
      · exact Pr.one (om.2.2 0 (2 + 5 * p)).toInt64 (by rw [if_neg (show ¬ nI 1 = 0 by decide), if_pos (show nI 1 = 1 from rfl), a2]) (by rw [if_neg (show ¬ (4 : Int32) ≤ nI 1 by decide), ofPile_eq (by omega) (by omega), Option.bind_some, show 1 + 5 * p + 1 = 2 + 5 * p by omega])
      · exact Pr.one (om.2.2 0 (3 + 5 * p)).toInt64 (by rw [if_neg (show ¬ nI 2 = 0 by decide), if_neg (show ¬ nI 2 = 1 by decide), if_pos (show nI 2 = 2 from rfl), a3]) (by rw [if_neg (show ¬ (4 : Int32) ≤ nI 2 by decide), ofPile_eq (by omega) (by omega), Option.bind_some, show 1 + 5 * p + 2 = 3 + 5 * p by omega])
      · exact Pr.one (om.2.2 0 (4 + 5 * p)).toInt64 (by rw [if_neg (show ¬ nI 3 = 0 by decide), if_neg (show ¬ nI 3 = 1 by decide), if_neg (show ¬ nI 3 = 2 by decide), if_pos (show nI 3 = 3 from rfl), a4]) (by rw [if_neg (show ¬ (4 : Int32) ≤ nI 3 by decide), ofPile_eq (by omega) (by omega), Option.bind_some, show 1 + 5 * p + 3 = 4 + 5 * p by omega])
      · rw [if_neg (show ¬ nI 4 = 0 by decide), if_neg (show ¬ nI 4 = 1 by decide), if_neg (show ¬ nI 4 = 2 by decide), if_neg (show ¬ nI 4 = 3 by decide), if_pos (show nI 4 = 4 from rfl), isIntact_eq hb5 (by omega) hS.2.2.2.2.2.1, Option.bind_some, if_pos (show (4 : Int32) ≤ nI 4 by decide), if_pos (show nI 4 = 4 from rfl), show (4 : Int32) = nI 4 from rfl, ofPile_eq (by omega) (by omega), Option.bind_some, show 1 + 5 * p + 4 = 5 + 5 * p by omega, a9]
        cases b.testBit p
        · exact Pr.one 0 rfl rfl
        · exact Pr.one 1 rfl rfl
      · obtain ⟨f, od2, odw2, odp2, om2, hB, hL, r1, r2, hd, hr, hf⟩ := now_eq hS oo od odw odp
        rw [if_neg (show ¬ nI 5 = 0 by decide), if_neg (show ¬ nI 5 = 1 by decide), if_neg (show ¬ nI 5 = 2 by decide), if_neg (show ¬ nI 5 = 3 by decide), if_neg (show ¬ nI 5 = 4 by decide), if_pos (show (4 : Int32) ≤ nI 5 by decide), if_neg (show ¬ nI 5 = 4 by decide), r1, r2, Option.bind_some, Option.bind_some]
        obtain ⟨hc, d8, d10, d11, d9, hal, -⟩ := hd
        obtain ⟨-, -, q22, q27, q28, q26, -⟩ := hr
        have ha5 : (run f n b 40 0 b).2.2 < 512 := Nat.lt_of_lt_of_le hal (pow_le_512 (by omega))
        simp only
        rw [d11, q28]
        cases (run f n b 40 0 b).2.1
        · exact ⟨-9, od2, odw2, odp2, om2, rfl, rfl, hf.pe⟩
        · simp only [if_true, if_neg not_one]
          rw [f_X0_isActive, d9, q26]
          cases cb : (run f n b 40 0 b).2.2.testBit p
          · have z := (bit_zero ha5 (show p < 9 by omega)).mpr cb
            exact ⟨0, od2, odw2, odp2, om2, by rw [z, if_neg (by decide)]; rfl, by rw [z]; rfl, hf.pe⟩
          · have z := (bit_get ha5 (show p < 9 by omega)).mpr cb
            exact ⟨1, od2, odw2, odp2, om2, by rw [z, if_pos rfl]; rfl, by rw [z]; rfl, hf.pe⟩
  · exact Pr.one (-1000000000000000000) (by rw [f_X4_pile, f1, Option.bind_some, if_pos rfl]) (by rw [f_X5_pile, f2, Option.bind_some, if_pos rfl])
theorem p_share {oo on oc : OS} {pa ig : PSt} {om : OS} (h : Rel oo on oc pa ig om) (i0 i1 : Int32) (od odw odp : OS) : Pr om (f_X4_share i0 i1 oo on od odw odp) (f_X5_share i0 i1 om) := by
  obtain ⟨⟨n, k, b, hS⟩, -⟩ := h
  have hn := hS.1
  rcases isPile_eq (oo := oo) hS i0 with ⟨p, hp, rfl, f1, f2⟩ | ⟨f1, f2⟩
  · rcases wh i1 2 (by decide) with ⟨c1, c2⟩ | ⟨c1, c2, c3⟩ | ⟨j, hj, -, c1, c2, c3⟩
    · exact Pr.one (-1000000000000000000) (by rw [f_X4_share, f1, Option.bind_some, if_neg not_one, if_pos c1]) (by rw [f_X5_share, f2, Option.bind_some, if_neg not_one, show f_X5_in i1 0 2 = _ from c2, Option.bind_some, if_pos rfl])
    · exact Pr.one (-1000000000000000000) (by rw [f_X4_share, f1, Option.bind_some, if_neg not_one, if_neg c1, if_neg (show ¬ i1 ≤ 2 from c2)]) (by rw [f_X5_share, f2, Option.bind_some, if_neg not_one, show f_X5_in i1 0 2 = _ from c3, Option.bind_some, if_pos rfl])
    · obtain ⟨f, od2, odw2, odp2, om2, hB, hL, r1, r2, hd, hr, hf⟩ := now_eq hS oo od odw odp
      rw [f_X4_share, f1, Option.bind_some, if_neg not_one, if_neg c1, if_pos (show i1 ≤ 2 from c2), r1, Option.bind_some, f_X5_share, f2, Option.bind_some, if_neg not_one, show f_X5_in i1 0 2 = _ from c3, Option.bind_some, if_neg not_one, r2, Option.bind_some]
      obtain ⟨hc, d8, d10, d11, d9, hal, hsub, hall⟩ := hd
      obtain ⟨hrp, -, q22, q27, q28, q26, ht⟩ := hr
      have ha5 : (run f n b 40 0 b).2.2 < 512 := Nat.lt_of_lt_of_le hal (pow_le_512 (by omega))
      simp only
      rw [d11, q28]
      cases cs : (run f n b 40 0 b).2.1
      · exact ⟨-2000000000000000000, od2, odw2, odp2, om2, rfl, rfl, hf.pe⟩
      · simp only [if_true, if_neg not_one]
        obtain ⟨hpt, hD, hpul, -⟩ := hall cs
        have ht := ht cs
        obtain ⟨g1, g2, -, g4⟩ := settled_int hB (by omega) hL hD hpul
        obtain ⟨g5, g6, -⟩ := g4 p hp
        have st := shareTop_eq hc ha5 d9 hpt hp
        have be := bears_eq hrp ha5 q26 ht hp
        by_cases c4 : i1 = 2
        · rw [if_pos c4, if_pos c4, f_X0_shareDown, hpt.1, if_neg hD, st, be, Option.bind_some, Option.bind_some, (down_eq g5 g1).1, ht.1, dzL, if_neg hD]
          exact ⟨_, od2, odw2, odp2, om2, rfl, rfl, hf.pe⟩
        · obtain ⟨r, k1, k2⟩ := part_eq (a := TS f n (run f n b 40 0 b).2.2 p) (b := DD f n (run f n b 40 0 b).2.2) (by omega) g1 (by omega) i1
          rw [if_neg c4, if_neg c4, st, be, Option.bind_some, Option.bind_some, f_X0_bottom, Option.bind_some, hpt.1, ht.1, k1, k2]
          exact ⟨_, od2, odw2, odp2, om2, rfl, rfl, hf.pe⟩
  · exact Pr.one (-1000000000000000000) (by rw [f_X4_share, f1, Option.bind_some, if_pos rfl]) (by rw [f_X5_share, f2, Option.bind_some, if_pos rfl])
theorem p_press {oo on oc : OS} {pa ig : PSt} {om : OS} (h : Rel oo on oc pa ig om) (i0 i1 i2 : Int32) (od odw odp : OS) : Pr om (f_X4_press i0 i1 i2 oo on od odw odp) (f_X5_press i0 i1 i2 om) := by
  obtain ⟨⟨n, k, b, hS⟩, -⟩ := h
  have hn := hS.1
  rcases isPlace_eq i0 i1 with ⟨x1, x2, f1, f2⟩ | ⟨f1, f2⟩
  · rcases wh i2 1 (by decide) with ⟨c1, c2⟩ | ⟨c1, c2, c3⟩ | ⟨j, hj, -, c1, c2, c3⟩
    · exact Pr.one (-1000000000000000000) (by rw [f_X4_press, f1, Option.bind_some, if_neg not_one, if_pos c1]) (by rw [f_X5_press, f2, Option.bind_some, if_neg not_one, show f_X5_in i2 0 1 = _ from c2, Option.bind_some, if_pos rfl])
    · exact Pr.one (-1000000000000000000) (by rw [f_X4_press, f1, Option.bind_some, if_neg not_one, if_neg c1, if_neg (show ¬ i2 ≤ 1 from c2)]) (by rw [f_X5_press, f2, Option.bind_some, if_neg not_one, show f_X5_in i2 0 1 = _ from c3, Option.bind_some, if_pos rfl])
    · obtain ⟨f, od2, odw2, odp2, om2, hB, hL, r1, r2, hd, hr, hf⟩ := now_eq hS oo od odw odp
      rw [f_X4_press, f1, Option.bind_some, if_neg not_one, if_neg c1, if_pos (show i2 ≤ 1 from c2), r1, Option.bind_some, f_X5_press, f2, Option.bind_some, if_neg not_one, show f_X5_in i2 0 1 = _ from c3, Option.bind_some, if_neg not_one, r2, Option.bind_some]
      obtain ⟨hc, d8, d10, d11, d9, hal, hsub, hall⟩ := hd
      obtain ⟨hrp, -, q22, q27, q28, q26, ht⟩ := hr
      simp only
      rw [d11, q28]
      cases cs : (run f n b 40 0 b).2.1
      · exact ⟨-2000000000000000000, od2, odw2, odp2, om2, rfl, rfl, hf.pe⟩
      · simp only [if_true, if_neg not_one]
        obtain ⟨hpt, hD, hpul, -⟩ := hall cs
        have ht := ht cs
        obtain ⟨g1, g2, -, -⟩ := settled_int hB (by omega) hL hD hpul
        have pb := (PR_int (b := (run f n b 40 0 b).2.2) hB (by omega) hL (x := i0) (y := i1) (x1.abs (by omega) (by omega)) (x2.abs (by omega) (by omega))).2
        obtain ⟨r, k1, k2⟩ := part_eq (a := PR f n (run f n b 40 0 b).2.2 i0 i1) (b := DD f n (run f n b 40 0 b).2.2) (by omega) g1 (by omega) i2
        rw [topAt_eq hpt, pressAt_eq ht, Option.bind_some, Option.bind_some, f_X0_bottom, Option.bind_some, hpt.1, ht.1, k1, k2]
        exact ⟨_, od2, odw2, odp2, om2, rfl, rfl, hf.pe⟩
  · exact Pr.one (-1000000000000000000) (by rw [f_X4_press, f1, Option.bind_some, if_pos rfl]) (by rw [f_X5_press, f2, Option.bind_some, if_pos rfl])
theorem p_most {oo on oc : OS} {pa ig : PSt} {om : OS} (h : Rel oo on oc pa ig om) (i0 : Int32) (od odw odp : OS) : Pr om (f_X4_most i0 oo on od odw odp) (f_X5_most i0 om) := by
  obtain ⟨⟨n, k, b, hS⟩, -⟩ := h
  rcases wh i0 2 (by decide) with ⟨c1, c2⟩ | ⟨c1, c2, c3⟩ | ⟨j, hj, -, c1, c2, c3⟩
  · exact Pr.one (-1) (by rw [f_X4_most, if_pos c1]) (by rw [f_X5_most, show f_X5_in i0 0 2 = _ from c2, Option.bind_some, if_pos rfl])
  · exact Pr.one (-1) (by rw [f_X4_most, if_neg c1, if_neg (show ¬ i0 ≤ 2 from c2)]) (by rw [f_X5_most, show f_X5_in i0 0 2 = _ from c3, Option.bind_some, if_pos rfl])
  · obtain ⟨f, od2, odw2, odp2, om2, hB, hL, r1, r2, hd, hr, hf⟩ := now_eq hS oo od odw odp
    obtain ⟨r, om3, g1, g2, g3⟩ := great_eq hB hL hS.2.2.1 hd hr i0 oo
    rw [f_X4_most, if_neg c1, if_pos (show i0 ≤ 2 from c2), r1, Option.bind_some, f_X5_most, show f_X5_in i0 0 2 = _ from c3, Option.bind_some, if_neg not_one, r2, Option.bind_some]
    simp only
    rw [g1, Option.bind_some]
    rcases g3 with ⟨g3, rfl⟩ | ⟨g3, g4⟩
    · exact ⟨_, od2, odw2, odp2, om3, rfl, by rw [g3, Option.bind_some, if_pos rfl], (hf.trans g2).pe⟩
    · exact ⟨_, od2, odw2, odp2, om3, rfl, by rw [g3, Option.bind_some, if_neg not_one, g4]; rfl, (hf.trans g2).pe⟩
theorem p_factor {oo on oc : OS} {pa ig : PSt} {om : OS} (h : Rel oo on oc pa ig om) (i0 : Int32) (od odw odp : OS) : Pr om (f_X4_factor i0 oo on od odw odp) (f_X5_factor i0 om) := by
  obtain ⟨⟨n, k, b, hS⟩, -⟩ := h
  have hn := hS.1
  rcases wh i0 1 (by decide) with ⟨c1, c2⟩ | ⟨c1, c2, c3⟩ | ⟨j0, hj0, ej0, c1, c2, c3⟩
  · exact Pr.one (-1) (by rw [f_X4_factor, if_pos c1]) (by rw [f_X5_factor, show f_X5_in i0 0 1 = _ from c2, Option.bind_some, if_pos rfl])
  · exact Pr.one (-1) (by rw [f_X4_factor, if_neg c1, if_neg (show ¬ i0 ≤ 1 from c2)]) (by rw [f_X5_factor, show f_X5_in i0 0 1 = _ from c3, Option.bind_some, if_pos rfl])
  · obtain ⟨f, od2, odw2, odp2, om2, hB, hL, r1, r2, hd, hr, hf⟩ := now_eq hS oo od odw odp
    rw [f_X4_factor, if_neg c1, if_pos (show i0 ≤ 1 from c2), r1, Option.bind_some, f_X5_factor, show f_X5_in i0 0 1 = _ from c3, Option.bind_some, if_neg not_one, r2, Option.bind_some]
    simp only
    by_cases cs : rs f n b = true
    · obtain ⟨j, ej, hj, e12, u1, u2⟩ := use_c hd cs
      have hm := laysMost_yes hr hS.2.2.1 hd.2.2.2.2.2.1 cs ej
      obtain ⟨-, hD, hpul, -⟩ := hd.2.2.2.2.2.2.2 cs
      obtain ⟨b1, b2, b3, b4⟩ := use_b (j := j) hB (by omega) hL hD hpul hj
      have e11 : od2.1 11 = 1 := by rw [hd.2.2.2.1, if_pos cs]
      rw [e11, if_neg not_one, u1, u2, hm]
      simp only [Option.bind_some]
      rw [if_neg not_one, show (sL (sL (sI om2 35 (nI j)) 33 (uT f n b j)) 34 (uB f n b j)).2.1 33 = uT f n b j from rfl, show (sL (sL (sI om2 35 (nI j)) 33 (uT f n b j)) 34 (uB f n b j)).2.1 34 = uB f n b j from rfl]
      by_cases z : uT f n b j = 0
      · rw [if_pos z, if_pos z]
        exact ⟨-9, od2, odw2, odp2, _, rfl, rfl, (hf.trans (most_fr om2 _ _ _)).pe⟩
      · have b0 : ¬ (uT f n b j).toInt = 0 := fun q => z (Int64.toInt_inj.mp q)
        have hw : i0 = 0 ∨ i0 = 1 := by
          rw [ej0]
          obtain rfl | rfl : j0 = 0 ∨ j0 = 1 := by omega
          · exact Or.inl rfl
          · exact Or.inr rfl
        obtain ⟨r, k1, k2⟩ := part_swap (a := uT f n b j) (b := uB f n b j) (by omega) b2 b3 b4 hw
        rw [if_neg z, if_neg z, k1, k2]
        exact ⟨r, od2, odw2, odp2, _, rfl, rfl, (hf.trans (most_fr om2 _ _ _)).pe⟩
    · have e11 : od2.1 11 = 0 := by rw [hd.2.2.2.1, if_neg cs]
      rw [e11, if_pos rfl, laysMost_no hr cs, Option.bind_some, if_pos rfl]
      exact ⟨-9, od2, odw2, odp2, _, rfl, rfl, (hf.trans (most_fr0 om2 _)).pe⟩
/-! without a pile -/
theorem wo_ref {on : OS} {S : Nat → Int32} {n k b p : Nat} {f : PF} (h : SRn on S n k b) (hp : p < n) (hb : b.testBit p = true) (hB : PB f n) (hf : f = pf S (fW f) (fU f) (fV f)) (hr : ∀ om : OS, om.2.2 0 = S → ∃ om2, f_X5_laysSums om = some om2 ∧ om2.1 = om.1 ∧ om2.2.2 = om.2.2 ∧ RW f om2) (om : OS) (hm : om.2.2 0 = S) : ∃ om2, f_X5_laysWithout (nI p) om = Option.bind (f_X5_laysMost om2) (fun x5 => bz x5.1 (some (x5.1, x5.2))) ∧ RDone f n (b ^^^ 2 ^ p) om2 ∧ Fr om om2 := by
  have hn := h.1
  obtain ⟨om1, l1, l2, l3, l4⟩ := lays_eq (om := om) (hm ▸ h) (fW f) (fU f) (fV f)
  rw [hm, ← hf] at l3
  obtain ⟨om2, s1, s2, s3, s4⟩ := hr om1 ((l2.1 0 (by decide) (by decide) (by decide) (by decide)).trans hm)
  have e22 : om2.1 22 = nI b := by rw [s2]; exact l4
  have g : (om2.1 22) &&& ((1 <<< (nI p &&& 31)) ^^^ (-1)) = nI (b ^^^ 2 ^ p) := by rw [e22]; exact bit_clr h.lt512 (by omega) hb
  obtain ⟨om3, t1, t2, t3⟩ := shares_eq (f := f) (n := n) (s := b ^^^ 2 ^ p) (om := sI om2 22 (nI (b ^^^ 2 ^ p))) (DD_ok hB (by omega)) (tog_lt h.2.2.1 hp) ⟨l3.1, by show om2.1 21 = _; rw [s2]; exact l3.2.1, fun q hq => by have t := l3.2.2 q hq; rw [← s3] at t; exact t⟩ s4 rfl
  refine ⟨om3, ?_, t2, ?_⟩
  · rw [f_X5_laysWithout, l1, Option.bind_some, s1, Option.bind_some, g]
    simp only [lt]
    rw [t1, Option.bind_some]
  · have f2 : Fr om1 (sI om2 22 (nI (b ^^^ 2 ^ p))) := ⟨fun r _ => by show om2.2.2 r = _; rw [s3], fun i hi => by rw [sI_ne _ _ _ _ (by omega), s2]⟩
    exact l2.fr.trans (f2.trans t3.fr)
theorem p_without {oo on oc : OS} {pa ig : PSt} {om : OS} (h : Rel oo on oc pa ig om) (i0 i1 : Int32) (od odw odp : OS) : Pr om (f_X4_without i0 i1 oo on od odw odp) (f_X5_without i0 i1 om) := by
  obtain ⟨⟨n, k, b, hS⟩, -⟩ := h
  have hn := hS.1
  rcases isPile_eq (oo := oo) hS i0 with ⟨p, hp, rfl, f1, f2⟩ | ⟨f1, f2⟩
  · rcases wh i1 2 (by decide) with ⟨c1, c2⟩ | ⟨c1, c2, c3⟩ | ⟨j, hj, -, c1, c2, c3⟩
    · exact Pr.one (-1) (by rw [f_X4_without, f1, Option.bind_some, if_neg not_one, if_pos c1]) (by rw [f_X5_without, f2, Option.bind_some, if_neg not_one, show f_X5_in i1 0 2 = _ from c2, Option.bind_some, if_pos rfl])
    · exact Pr.one (-1) (by rw [f_X4_without, f1, Option.bind_some, if_neg not_one, if_neg c1, if_neg (show ¬ i1 ≤ 2 from c2)]) (by rw [f_X5_without, f2, Option.bind_some, if_neg not_one, show f_X5_in i1 0 2 = _ from c3, Option.bind_some, if_pos rfl])
    · have a9 := (hS.2.2.2.2.2.2.2.2.2.2.2.2.1 p hp).2.2.2.2.2.2.2.2
      have o4 : f_X5_ofPile (nI p) 4 om = some (if b.testBit p then 0 else 1) := by
        rw [show (4 : Int32) = nI 4 from rfl, ofPile_eq (by omega) (by omega), show 1 + 5 * p + 4 = 5 + 5 * p by omega, a9]
      rw [f_X4_without, f1, Option.bind_some, if_neg not_one, if_neg c1, if_pos (show i1 ≤ 2 from c2), isIntact_eq hS.lt512 (by omega) hS.2.2.2.2.2.1, Option.bind_some, f_X5_without, f2, Option.bind_some, if_neg not_one, show f_X5_in i1 0 2 = _ from c3, Option.bind_some, if_neg not_one, o4, Option.bind_some]
      cases hb : b.testBit p
      · exact Pr.one (-2) rfl rfl
      · simp only [if_true, if_neg not_one, if_neg (show ¬ (0 : Int32) = 1 by decide)]
        obtain ⟨f, hB, hL, hf, hc, hr⟩ := take_eq hS
        obtain ⟨od1, t1, t2, t3⟩ := hc oo od
        obtain ⟨od2, odw2, odp2, d1, d2, -⟩ := settleOn_eq hB (tog_lt hS.2.2.1 hp) t2 t3 odw odp
        obtain ⟨om2, w1, w2, w3⟩ := wo_ref hS hp hb hB hf hr om rfl
        obtain ⟨r, om3, g1, g2, g3⟩ := great_eq hB hL (tog_lt hS.2.2.1 hp) d2 w2 i1 oo
        rw [t1, Option.bind_some, hS.2.2.2.2.2.1, bit_clr hS.lt512 (by omega) hb, d1, Option.bind_some, w1]
        simp only
        rw [g1, Option.bind_some]
        rcases g3 with ⟨g3, rfl⟩ | ⟨g3, g4⟩
        · exact ⟨_, od2, odw2, odp2, om3, rfl, by rw [g3]; rfl, (w3.trans g2).pe⟩
        · exact ⟨r, od2, odw2, odp2, om3, rfl, by rw [g3, Option.bind_some, bz, if_pos (Or.inr rfl), Option.bind_some, if_neg not_one, g4]; rfl, (w3.trans g2).pe⟩
  · exact Pr.one (-1) (by rw [f_X4_without, f1, Option.bind_some, if_pos rfl]) (by rw [f_X5_without, f2, Option.bind_some, if_pos rfl])
