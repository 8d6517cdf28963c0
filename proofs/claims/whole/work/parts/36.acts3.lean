theorem SRn.lt512 {o : OS} {S : Nat → Int32} {n k b : Nat} (h : SRn o S n k b) : b < 512 := Nat.lt_of_lt_of_le h.2.2.1 (pow_le_512 (by have := h.1; omega))
/-- a pile is lost or mended -/
theorem SRn.tog {o : OS} {S : Nat → Int32} {n k b p : Nat} (h : SRn o S n k b) (hp : p < n) : SRn (sI o 5 (nI (b ^^^ 2 ^ p))) (upd S (5 + 5 * p) (if b.testBit p then 1 else 0)) n k (b ^^^ 2 ^ p) := by
  obtain ⟨h1, h2, h3, h4, h5, h6, h7, h8, h9, h10, h11, h12, h13, h14⟩ := h
  have u : ∀ j, j ≠ 5 + 5 * p → upd S (5 + 5 * p) (if b.testBit p then 1 else 0) j = S j := fun j hj => upd_ne _ _ _ _ hj
  refine ⟨h1, h2, tog_lt h3 hp, h4, by rw [u 0 (by omega)]; exact h5, rfl, h7, by rw [u 41 (by omega)]; exact h8, by rw [u 57 (by omega)]; exact h9, by rw [u 58 (by omega)]; exact h10, by rw [u 57 (by omega)]; exact h11, by rw [u 58 (by omega)]; exact h12, fun q hq => ?_, fun c hc => ?_⟩
  · rw [u (1 + 5 * q) (by omega), u (2 + 5 * q) (by omega), u (3 + 5 * q) (by omega), u (4 + 5 * q) (by omega)]
    obtain ⟨a1, a2, a3, a4, a5, a6, a7, a8, a9⟩ := h13 q hq
    refine ⟨a1, a2, a3, a4, a5, a6, a7, a8, ?_⟩
    by_cases e : q = p
    · subst e
      rw [upd_same, tog_same]
      cases b.testBit q <;> rfl
    · rw [u (5 + 5 * q) (by omega), tog_ne _ _ _ e]
      exact a9
  · rw [u (42 + 3 * c) (by omega), u (43 + 3 * c) (by omega), u (44 + 3 * c) (by omega)]
    exact h14 c hc
theorem becomes_idx {p : Nat} (hp : p ≤ 8) : (1 : Int32) + 5 * nI p + 4 = nI (5 + 5 * p) := by
  rw [show (1 : Int32) = nI 1 from rfl, show (5 : Int32) = nI 5 from rfl, show (4 : Int32) = nI 4 from rfl, nI_mul, nI_add, nI_add, show 1 + 5 * p + 4 = 5 + 5 * p by omega]
theorem p_loses {oo on oc : OS} {pa ig : PSt} {om : OS} (h : Rel oo on oc pa ig om) (i0 : Int32) : ∃ (r : Int32) (oo2 on2 : OS) (pa2 : PSt) (om2 : OS), f_X4_loses i0 oo on pa = some (r, oo2, on2, pa2) ∧ f_X5_loses i0 om = some (r, om2) ∧ Rel oo2 on2 oc pa2 ig om2 := by
  obtain ⟨⟨n, k, b, hS⟩, hU, -⟩ := id h
  have one : ¬ (1 : Int32) = 0 := by decide
  rcases isPile_eq (oo := oo) hS i0 with ⟨p, hp, rfl, f1, f2⟩ | ⟨f1, f2⟩
  · have hn := hS.1
    have ii := isIntact_eq (p := p) hS.lt512 (by omega) hS.2.2.2.2.2.1
    have q9 := (hS.2.2.2.2.2.2.2.2.2.2.2.2.1 p hp).2.2.2.2.2.2.2.2
    have of4 : f_X5_ofPile (nI p) 4 om = some (om.2.2 0 (5 + 5 * p)) := by
      rw [show (4 : Int32) = nI 4 from rfl, ofPile_eq (by omega) (by omega), show 1 + 5 * p + 4 = 5 + 5 * p by omega]
    by_cases c : b.testBit p = true
    · obtain ⟨r, g, pa2, g1, g2, hU2⟩ := p_record ⟨n, k, b, hS⟩ hU
      have hS2 := hS.tog hp
      rw [if_pos c] at hS2 q9 ii
      refine ⟨nI (cnt (b ^^^ 2 ^ p) n), sI oo 4 (nI r), sI on 5 (nI (b ^^^ 2 ^ p)), pa2, _, ?_, ?_, h.act hU2 ⟨n, k, _, hS2⟩⟩
      · simp only [f_X4_loses, f1, ii, Option.bind_some, if_neg one, g1, hS.2.2.2.2.2.1, bit_clr hS.lt512 (show p < 9 by omega) c, lt, sI_same, bitCount_eq (show n ≤ 9 by omega) hS2.2.2.1]
      · have hw := wholes_eq (om := sR (sI (sR om 1 g) 2 (nI r)) 0 (upd (om.2.2 0) (5 + 5 * p) 1)) (b := b ^^^ 2 ^ p) hS.1 hS2.2.2.2.2.1 (fun q hq => (hS2.2.2.2.2.2.2.2.2.2.2.2.2.1 q hq).2.2.2.2.2.2.2.2)
        simp only [f_X5_loses, f_X5_becomes, f2, of4, Option.bind_some, if_neg one, q9, if_neg (show ¬ (0 : Int32) = 1 by decide), g2, becomes_idx (show p ≤ 8 by omega), ck_nI (show 5 + 5 * p < 59 by omega) (by decide), nI_clamp (show 5 + 5 * p < 2 ^ 31 by omega), lt, sA_row]
        rw [show (sI (sR om 1 g) 2 (nI r)).2.2 0 = om.2.2 0 from rfl, hw]
        rfl
    · rw [if_neg c] at q9 ii
      refine ⟨-2, oo, on, pa, om, ?_, ?_, h⟩
      · simp only [f_X4_loses, f1, ii, Option.bind_some, if_neg one, if_true]
      · simp only [f_X5_loses, f_X5_becomes, f2, of4, Option.bind_some, if_neg one, q9, if_true]
  · exact ⟨-1, oo, on, pa, om, by simp only [f_X4_loses, f1, Option.bind_some, if_true], by simp only [f_X5_loses, f_X5_becomes, f2, Option.bind_some, if_true], h⟩
theorem p_mends {oo on oc : OS} {pa ig : PSt} {om : OS} (h : Rel oo on oc pa ig om) (i0 : Int32) : ∃ (r : Int32) (oo2 on2 : OS) (pa2 : PSt) (om2 : OS), f_X4_mends i0 oo on pa = some (r, oo2, on2, pa2) ∧ f_X5_mends i0 om = some (r, om2) ∧ Rel oo2 on2 oc pa2 ig om2 := by
  obtain ⟨⟨n, k, b, hS⟩, hU, -⟩ := id h
  have one : ¬ (1 : Int32) = 0 := by decide
  rcases isPile_eq (oo := oo) hS i0 with ⟨p, hp, rfl, f1, f2⟩ | ⟨f1, f2⟩
  · have hn := hS.1
    have ii := isIntact_eq (p := p) hS.lt512 (by omega) hS.2.2.2.2.2.1
    have q9 := (hS.2.2.2.2.2.2.2.2.2.2.2.2.1 p hp).2.2.2.2.2.2.2.2
    have of4 : f_X5_ofPile (nI p) 4 om = some (om.2.2 0 (5 + 5 * p)) := by
      rw [show (4 : Int32) = nI 4 from rfl, ofPile_eq (by omega) (by omega), show 1 + 5 * p + 4 = 5 + 5 * p by omega]
    by_cases c : b.testBit p = true
    · rw [if_pos c] at q9 ii
      refine ⟨-2, oo, on, pa, om, ?_, ?_, h⟩
      · simp only [f_X4_mends, f1, ii, Option.bind_some, if_neg one]
      · simp only [f_X5_mends, f_X5_becomes, f2, of4, Option.bind_some, if_neg one, q9, if_true]
    · obtain ⟨r, g, pa2, g1, g2, hU2⟩ := p_record ⟨n, k, b, hS⟩ hU
      have hS2 := hS.tog hp
      rw [if_neg c] at hS2 q9 ii
      refine ⟨nI (cnt (b ^^^ 2 ^ p) n), sI oo 4 (nI r), sI on 5 (nI (b ^^^ 2 ^ p)), pa2, _, ?_, ?_, h.act hU2 ⟨n, k, _, hS2⟩⟩
      · simp only [f_X4_mends, f1, ii, Option.bind_some, if_neg one, if_true, g1, hS.2.2.2.2.2.1, bit_set hS.lt512 (show p < 9 by omega) (Bool.eq_false_iff.mpr c), lt, sI_same, bitCount_eq (show n ≤ 9 by omega) hS2.2.2.1]
      · have hw := wholes_eq (om := sR (sI (sR om 1 g) 2 (nI r)) 0 (upd (om.2.2 0) (5 + 5 * p) 0)) (b := b ^^^ 2 ^ p) hS.1 hS2.2.2.2.2.1 (fun q hq => (hS2.2.2.2.2.2.2.2.2.2.2.2.2.1 q hq).2.2.2.2.2.2.2.2)
        simp only [f_X5_mends, f_X5_becomes, f2, of4, Option.bind_some, if_neg one, q9, if_neg (show ¬ (1 : Int32) = 0 by decide), g2, becomes_idx (show p ≤ 8 by omega), ck_nI (show 5 + 5 * p < 59 by omega) (by decide), nI_clamp (show 5 + 5 * p < 2 ^ 31 by omega), lt, sA_row]
        rw [show (sI (sR om 1 g) 2 (nI r)).2.2 0 = om.2.2 0 from rfl, hw]
        rfl
  · exact ⟨-1, oo, on, pa, om, by simp only [f_X4_mends, f1, Option.bind_some, if_true], by simp only [f_X5_mends, f_X5_becomes, f2, Option.bind_some, if_true], h⟩
/-- whether a place is taken by one of the piles from p on -/
def tkn (S : Nat → Int32) (x y : Int32) : Nat → Nat → Bool
  | _, 0 => false
  | p, m + 1 => (decide (S (1 + 5 * p) = x) && decide (S (2 + 5 * p) = y)) || tkn S x y (p + 1) m
theorem hasPile_loop {o : OS} {S : Nat → Int32} {n : Nat} (hn : n ≤ 8) (e0 : o.1 4 = nI n) (ex : ∀ p, p < n → o.2.2 0 p = S (1 + 5 * p) ∧ o.2.2 1 p = S (2 + 5 * p)) (x y : Int32) : ∀ (m p k : Nat), p + m = n → m < k → lp_X3_hasPileAt_2 x y o k (nI p) = some (if tkn S x y p m = true then .inl 1 else .inr (nI n)) := by
  intro m
  induction m with
  | zero =>
    intro p k hp hk
    obtain ⟨k, rfl⟩ : ∃ j, k = j + 1 := ⟨k - 1, by omega⟩
    have : p = n := by omega
    subst this
    rw [lp_X3_hasPileAt_2, e0, if_pos (nI_le (Nat.le_refl _) (by omega))]
    rfl
  | succ m ih =>
    intro p k hp hk
    obtain ⟨k, rfl⟩ : ∃ j, k = j + 1 := ⟨k - 1, by omega⟩
    have tp : (nI p).toNatClampNeg = p := nI_clamp (by omega)
    obtain ⟨e1, e2⟩ := ex p (by omega)
    rw [lp_X3_hasPileAt_2, e0, if_neg (nI_ge (show p < n by omega) (by omega))]
    simp only [ck_nI (show p < 8 by omega) (by decide), tp, e1, e2, nI_1, ih (p + 1) k (by omega) (by omega), tkn]
    by_cases c1 : S (1 + 5 * p) = x
    · by_cases c2 : S (2 + 5 * p) = y
      · simp [c1, c2]
      · simp [c1, c2]
    · simp [c1]
theorem isTaken_loop {om : OS} {n : Nat} (hn : n ≤ 8) (e0 : om.2.2 0 0 = nI n) (x y : Int32) : ∀ (m p k : Nat) (v : Int32), v = 0 ∨ v = 1 → p + m = n → m < k → lp_X5_isTaken_5 x y om k v (nI p) = some (if v = 1 ∨ tkn (om.2.2 0) x y p m = true then 1 else 0, nI n) := by
  intro m
  have t0 : (0 : Int32).toNatClampNeg = 0 := rfl
  induction m with
  | zero =>
    intro p k v hv hp hk
    obtain ⟨k, rfl⟩ : ∃ j, k = j + 1 := ⟨k - 1, by omega⟩
    have : p = n := by omega
    subst this
    rw [lp_X5_isTaken_5, t0, e0, if_pos (nI_le (Nat.le_refl _) (by omega))]
    rcases hv with rfl | rfl <;> rfl
  | succ m ih =>
    intro p k v hv hp hk
    obtain ⟨k, rfl⟩ : ∃ j, k = j + 1 := ⟨k - 1, by omega⟩
    have o0 : f_X5_ofPile (nI p) 0 om = some (om.2.2 0 (1 + 5 * p)) := by
      rw [show (0 : Int32) = nI 0 from rfl, ofPile_eq (by omega) (by omega)]; rfl
    have o1 : f_X5_ofPile (nI p) 1 om = some (om.2.2 0 (2 + 5 * p)) := by
      rw [show (1 : Int32) = nI 1 from rfl, ofPile_eq (by omega) (by omega), show 1 + 5 * p + 1 = 2 + 5 * p by omega]
    have i1 := ih (p + 1) k 1 (Or.inr rfl) (by omega) (by omega)
    have i0 := ih (p + 1) k 0 (Or.inl rfl) (by omega) (by omega)
    rw [lp_X5_isTaken_5, t0, e0, if_neg (nI_ge (show p < n by omega) (by omega))]
    simp only [o0, o1, Option.bind_some, nI_1, i1, i0, tkn]
    rcases hv with rfl | rfl
    · by_cases c1 : om.2.2 0 (1 + 5 * p) = x
      · by_cases c2 : om.2.2 0 (2 + 5 * p) = y
        · simp [c1, c2]
        · simp [c1, c2]
      · simp [c1]
    · simp
theorem taken_eq {on : OS} {om : OS} {n k b : Nat} (h : SRn on (om.2.2 0) n k b) (x y : Int32) : f_X3_hasPileAt x y on = some (if tkn (om.2.2 0) x y 0 n = true then 1 else 0) ∧ f_X5_isTaken x y om = some (if tkn (om.2.2 0) x y 0 n = true then 1 else 0) := by
  have h1 := hasPile_loop h.1 h.2.2.2.1 (fun p hp => ⟨(h.2.2.2.2.2.2.2.2.2.2.2.2.1 p hp).1, (h.2.2.2.2.2.2.2.2.2.2.2.2.1 p hp).2.1⟩) x y n 0 1000 (by omega) (by have := h.1; omega)
  have h2 := isTaken_loop (om := om) h.1 h.2.2.2.2.1 x y n 0 1000 0 (Or.inl rfl) (by omega) (by have := h.1; omega)
  unfold f_X3_hasPileAt f_X5_isTaken
  rw [show nI 0 = 0 from rfl] at h1 h2
  rw [h1, h2]
  by_cases c : tkn (om.2.2 0) x y 0 n = true
  · simp [c, bz]
  · simp [c, bz]
