/-! ===== the law: class and reference answer alike on every script ===== -/
theorem law_head {L i : Nat} (hL : L ≤ 2560) (hi : i ≤ 3000) : (Int32.ofNat L - 5 < nI i) ↔ L < i + 5 := by
  have e : (Int32.ofNat L - 5).toInt = (L : Int) - 5 := by
    rcases Nat.lt_or_ge L 5 with g | g
    · obtain rfl | rfl | rfl | rfl | rfl : L = 0 ∨ L = 1 ∨ L = 2 ∨ L = 3 ∨ L = 4 := by omega
      all_goals rfl
    · have : Int32.ofNat L - 5 = nI (L - 5) := nI_sub (a := L) (b := 5) g
      rw [this, nI_toInt (by omega)]
      omega
  rw [Int32.lt_iff_toInt_lt, e, nI_toInt (by omega)]
  omega
set_option maxHeartbeats 4000000 in
set_option maxRecDepth 100000 in
theorem law_go (xs : Nat → Int32) (L : Nat) (hL : L ≤ 2560) : ∀ (n i : Nat) (O N T C D DW DP : OS) (PA IM : PSt) (M : OS), i ≤ L → L < i + 5 * n → Rel O N C PA IM M → lp_law xs L n (nI i) O N T C D DW DP PA IM M = some 1 := by
  intro n
  induction n with
  | zero => intro i O N T C D DW DP PA IM M hi hn; omega
  | succ n ih =>
    intro i O N T C D DW DP PA IM M hi hn h
    rw [lp_law]
    by_cases c : L < i + 5
    · rw [if_pos ((law_head hL (by omega)).mpr c)]
    rw [if_neg (fun q => c ((law_head hL (by omega)).mp q))]
    have k0 : ∀ k : Option Int32, ck (nI i) L k = k := fun k => ck_nI (by omega) (by omega)
    have k1 : ∀ k : Option Int32, ck (nI i + 1) L k = k := fun k => by rw [show nI i + 1 = nI (i + 1) from nI_add i 1, ck_nI (by omega) (by omega)]
    have k2 : ∀ k : Option Int32, ck (nI i + 2) L k = k := fun k => by rw [show nI i + 2 = nI (i + 2) from nI_add i 2, ck_nI (by omega) (by omega)]
    have k3 : ∀ k : Option Int32, ck (nI i + 3) L k = k := fun k => by rw [show nI i + 3 = nI (i + 3) from nI_add i 3, ck_nI (by omega) (by omega)]
    have k4 : ∀ k : Option Int32, ck (nI i + 4) L k = k := fun k => by rw [show nI i + 4 = nI (i + 4) from nI_add i 4, ck_nI (by omega) (by omega)]
    have go : ∀ (O N T C D DW DP : OS) (PA IM : PSt) (M : OS), Rel O N C PA IM M → lp_law xs L n (nI i + 5) O N T C D DW DP PA IM M = some 1 := fun O N T C D DW DP PA IM M h => by
      rw [show nI i + 5 = nI (i + 5) from nI_add i 5]
      exact ih (i + 5) O N T C D DW DP PA IM M (by omega) (by omega) h
    rw [k0]
    obtain ⟨y, hy⟩ : ∃ y, y = (xs (nI i).toNatClampNeg &&& 31) := ⟨_, rfl⟩
    rw [← hy]
    by_cases c10 : y = 0
    · rw [if_pos c10]
      obtain ⟨r, a1, m2, e1, e2, h2⟩ := p_type h (xs (nI i + 1).toNatClampNeg)
      rw [k1, e1, Option.bind_some, k1, e2, Option.bind_some]
      exact (if_pos rfl).trans (go _ _ _ _ _ _ _ _ _ _ h2)
    rw [if_neg c10]
    by_cases c11 : y = 1
    · rw [if_pos c11]
      obtain ⟨r, a1, m2, e1, e2, h2⟩ := p_clear h 
      rw [e1, Option.bind_some, e2, Option.bind_some]
      exact (if_pos rfl).trans (go _ _ _ _ _ _ _ _ _ _ h2)
    rw [if_neg c11]
    by_cases c12 : y = 2
    · rw [if_pos c12]
      obtain ⟨r, a1, a2, a3, a4, m2, e1, e2, h2⟩ := p_tells h  T
      rw [e1, Option.bind_some, e2, Option.bind_some]
      exact (if_pos rfl).trans (go _ _ _ _ _ _ _ _ _ _ h2)
    rw [if_neg c12]
    by_cases c13 : y = 3
    · rw [if_pos c13]
      obtain ⟨r, a1, a2, a3, m2, e1, e2, h2⟩ := p_drives h (xs (nI i + 1).toNatClampNeg) (xs (nI i + 2).toNatClampNeg) (xs (nI i + 3).toNatClampNeg) (xs (nI i + 4).toNatClampNeg)
      rw [k1, k2, k3, k4, e1, Option.bind_some, k1, k2, k3, k4, e2, Option.bind_some]
      exact (if_pos rfl).trans (go _ _ _ _ _ _ _ _ _ _ h2)
    rw [if_neg c13]
    by_cases c14 : y = 4
    · rw [if_pos c14]
      obtain ⟨r, a1, a2, a3, m2, e1, e2, h2⟩ := p_loses h (xs (nI i + 1).toNatClampNeg)
      rw [k1, e1, Option.bind_some, k1, e2, Option.bind_some]
      exact (if_pos rfl).trans (go _ _ _ _ _ _ _ _ _ _ h2)
    rw [if_neg c14]
    by_cases c15 : y = 5
    · rw [if_pos c15]
      obtain ⟨r, a1, a2, a3, m2, e1, e2, h2⟩ := p_mends h (xs (nI i + 1).toNatClampNeg)
      rw [k1, e1, Option.bind_some, k1, e2, Option.bind_some]
      exact (if_pos rfl).trans (go _ _ _ _ _ _ _ _ _ _ h2)
    rw [if_neg c15]
    by_cases c16 : y = 6
    · rw [if_pos c16]
      obtain ⟨r, a1, a2, a3, m2, e1, e2, h2⟩ := p_loads h (xs (nI i + 1).toNatClampNeg) (xs (nI i + 2).toNatClampNeg)
      rw [k1, k2, e1, Option.bind_some, k1, k2, e2, Option.bind_some]
      exact (if_pos rfl).trans (go _ _ _ _ _ _ _ _ _ _ h2)
    rw [if_neg c16]
    by_cases c17 : y = 7
    · rw [if_pos c17]
      obtain ⟨r, a1, a2, a3, m2, e1, e2, h2⟩ := p_moves h (xs (nI i + 1).toNatClampNeg) (xs (nI i + 2).toNatClampNeg) (xs (nI i + 3).toNatClampNeg)
      rw [k1, k2, k3, e1, Option.bind_some, k1, k2, k3, e2, Option.bind_some]
      exact (if_pos rfl).trans (go _ _ _ _ _ _ _ _ _ _ h2)
    rw [if_neg c17]
    by_cases c18 : y = 8
    · rw [if_pos c18]
      obtain ⟨r, a1, a2, a3, m2, e1, e2, h2⟩ := p_winds h (xs (nI i + 1).toNatClampNeg) (xs (nI i + 2).toNatClampNeg)
      rw [k1, k2, e1, Option.bind_some, k1, k2, e2, Option.bind_some]
      exact (if_pos rfl).trans (go _ _ _ _ _ _ _ _ _ _ h2)
    rw [if_neg c18]
    by_cases c19 : y = 9
    · rw [if_pos c19]
      obtain ⟨r, a1, a2, m2, e1, e2, h2⟩ := p_undo h 
      rw [e1, Option.bind_some, e2, Option.bind_some]
      exact (if_pos rfl).trans (go _ _ _ _ _ _ _ _ _ _ h2)
    rw [if_neg c19]
    by_cases c20 : y = 10
    · rw [if_pos c20]
      obtain ⟨r, a1, a2, a3, m2, e1, e2, h2⟩ := p_pile h (xs (nI i + 1).toNatClampNeg) (xs (nI i + 2).toNatClampNeg) D DW DP
      rw [k1, k2, e1, Option.bind_some, k1, k2, e2, Option.bind_some]
      exact (if_pos rfl).trans (go _ _ _ _ _ _ _ _ _ _ (h.pe h2))
    rw [if_neg c20]
    by_cases c21 : y = 11
    · rw [if_pos c21]
      obtain ⟨r, e1, e2⟩ := p_column h (xs (nI i + 1).toNatClampNeg) (xs (nI i + 2).toNatClampNeg)
      rw [k1, k2, e1, Option.bind_some, k1, k2, e2, Option.bind_some]
      exact (if_pos rfl).trans (go _ _ _ _ _ _ _ _ _ _ h)
    rw [if_neg c21]
    by_cases c22 : y = 12
    · rw [if_pos c22]
      obtain ⟨r, e1, e2⟩ := p_sum h (xs (nI i + 1).toNatClampNeg)
      rw [k1, e1, Option.bind_some, k1, e2, Option.bind_some]
      exact (if_pos rfl).trans (go _ _ _ _ _ _ _ _ _ _ h)
    rw [if_neg c22]
    by_cases c23 : y = 13
    · rw [if_pos c23]
      obtain ⟨r, a1, a2, a3, m2, e1, e2, h2⟩ := p_sharing h (xs (nI i + 1).toNatClampNeg) D DW DP
      rw [k1, e1, Option.bind_some, k1, e2, Option.bind_some]
      exact (if_pos rfl).trans (go _ _ _ _ _ _ _ _ _ _ (h.pe h2))
    rw [if_neg c23]
    by_cases c24 : y = 14
    · rw [if_pos c24]
      obtain ⟨r, a1, a2, a3, m2, e1, e2, h2⟩ := p_share h (xs (nI i + 1).toNatClampNeg) (xs (nI i + 2).toNatClampNeg) D DW DP
      rw [k1, k2, e1, Option.bind_some, k1, k2, e2, Option.bind_some]
      exact (if_pos rfl).trans (go _ _ _ _ _ _ _ _ _ _ (h.pe h2))
    rw [if_neg c24]
    by_cases c25 : y = 15
    · rw [if_pos c25]
      obtain ⟨r, a1, a2, a3, m2, e1, e2, h2⟩ := p_press h (xs (nI i + 1).toNatClampNeg) (xs (nI i + 2).toNatClampNeg) (xs (nI i + 3).toNatClampNeg) D DW DP
      rw [k1, k2, k3, e1, Option.bind_some, k1, k2, k3, e2, Option.bind_some]
      exact (if_pos rfl).trans (go _ _ _ _ _ _ _ _ _ _ (h.pe h2))
    rw [if_neg c25]
    by_cases c26 : y = 16
    · rw [if_pos c26]
      obtain ⟨r, a1, a2, a3, m2, e1, e2, h2⟩ := p_most h (xs (nI i + 1).toNatClampNeg) D DW DP
      rw [k1, e1, Option.bind_some, k1, e2, Option.bind_some]
      exact (if_pos rfl).trans (go _ _ _ _ _ _ _ _ _ _ (h.pe h2))
    rw [if_neg c26]
    by_cases c27 : y = 17
    · rw [if_pos c27]
      obtain ⟨r, a1, a2, a3, m2, e1, e2, h2⟩ := p_factor h (xs (nI i + 1).toNatClampNeg) D DW DP
      rw [k1, e1, Option.bind_some, k1, e2, Option.bind_some]
      exact (if_pos rfl).trans (go _ _ _ _ _ _ _ _ _ _ (h.pe h2))
    rw [if_neg c27]
    by_cases c28 : y = 18
    · rw [if_pos c28]
      obtain ⟨r, a1, a2, a3, m2, e1, e2, h2⟩ := p_kern h (xs (nI i + 1).toNatClampNeg) (xs (nI i + 2).toNatClampNeg) D DW DP
      rw [k1, k2, e1, Option.bind_some, k1, k2, e2, Option.bind_some]
      exact (if_pos rfl).trans (go _ _ _ _ _ _ _ _ _ _ (h.pe h2))
    rw [if_neg c28]
    by_cases c29 : y = 19
    · rw [if_pos c29]
      obtain ⟨r, a1, a2, a3, m2, e1, e2, h2⟩ := p_kerns h (xs (nI i + 1).toNatClampNeg) D DW DP
      rw [k1, e1, Option.bind_some, k1, e2, Option.bind_some]
      exact (if_pos rfl).trans (go _ _ _ _ _ _ _ _ _ _ (h.pe h2))
    rw [if_neg c29]
    by_cases c30 : y = 20
    · rw [if_pos c30]
      obtain ⟨r, a1, a2, a3, m2, e1, e2, h2⟩ := p_without h (xs (nI i + 1).toNatClampNeg) (xs (nI i + 2).toNatClampNeg) D DW DP
      rw [k1, k2, e1, Option.bind_some, k1, k2, e2, Option.bind_some]
      exact (if_pos rfl).trans (go _ _ _ _ _ _ _ _ _ _ (h.pe h2))
    rw [if_neg c30]
    by_cases c31 : y = 21
    · rw [if_pos c31]
      obtain ⟨r, a1, a2, a3, m2, e1, e2, h2⟩ := p_key h  D DW DP
      rw [e1, Option.bind_some, e2, Option.bind_some]
      exact (if_pos rfl).trans (go _ _ _ _ _ _ _ _ _ _ (h.pe h2))
    rw [if_neg c31]
    by_cases c32 : y = 22
    · rw [if_pos c32]
      obtain ⟨r, a1, a2, a3, m2, e1, e2, h2⟩ := p_extra h (xs (nI i + 1).toNatClampNeg) (xs (nI i + 2).toNatClampNeg) D DW DP
      rw [k1, k2, e1, Option.bind_some, k1, k2, e2, Option.bind_some]
      exact (if_pos rfl).trans (go _ _ _ _ _ _ _ _ _ _ (h.pe h2))
    rw [if_neg c32]
    by_cases c33 : y = 23
    · rw [if_pos c33]
      obtain ⟨r, a1, a2, a3, m2, e1, e2, h2⟩ := p_odds h (xs (nI i + 1).toNatClampNeg) (xs (nI i + 2).toNatClampNeg) D DW DP
      rw [k1, k2, e1, Option.bind_some, k1, k2, e2, Option.bind_some]
      exact (if_pos rfl).trans (go _ _ _ _ _ _ _ _ _ _ (h.pe h2))
    rw [if_neg c33]
    by_cases c34 : y = 24
    · rw [if_pos c34]
      obtain ⟨r, a1, m2, e1, e2, h2⟩ := p_hunts h (xs (nI i + 1).toNatClampNeg)
      rw [k1, e1, Option.bind_some, k1, e2, Option.bind_some]
      exact (if_pos rfl).trans (go _ _ _ _ _ _ _ _ _ _ h2)
    rw [if_neg c34]
    by_cases c35 : y = 25
    · rw [if_pos c35]
      obtain ⟨r, a1, m2, e1, e2, h2⟩ := p_sees h (xs (nI i + 1).toNatClampNeg) (xs (nI i + 2).toNatClampNeg)
      rw [k1, k2, e1, Option.bind_some, k1, k2, e2, Option.bind_some]
      exact (if_pos rfl).trans (go _ _ _ _ _ _ _ _ _ _ h2)
    rw [if_neg c35]
    by_cases c36 : y = 26
    · rw [if_pos c36]
      obtain ⟨r, a1, m2, e1, e2, h2⟩ := p_forget h 
      rw [e1, Option.bind_some, e2, Option.bind_some]
      exact (if_pos rfl).trans (go _ _ _ _ _ _ _ _ _ _ h2)
    rw [if_neg c36]
    by_cases c37 : y = 27
    · rw [if_pos c37]
      obtain ⟨r, a1, a2, a3, m2, e1, e2, h2⟩ := p_spots h (xs (nI i + 1).toNatClampNeg) D DW DP
      rw [k1, e1, Option.bind_some, k1, e2, Option.bind_some]
      exact (if_pos rfl).trans (go _ _ _ _ _ _ _ _ _ _ (h.pe h2))
    rw [if_neg c37]
    by_cases c38 : y = 28
    · rw [if_pos c38]
      obtain ⟨r, a1, a2, a3, a4, m2, e1, e2, h2⟩ := p_ask h  D DW DP
      rw [e1, Option.bind_some, e2, Option.bind_some]
      exact (if_pos rfl).trans (go _ _ _ _ _ _ _ _ _ _ h2)
    rw [if_neg c38]
    by_cases c39 : y = 29
    · rw [if_pos c39]
      obtain ⟨r, a1, a2, m2, e1, e2, h2⟩ := p_keep h (xs (nI i + 1).toNatClampNeg)
      rw [k1, e1, Option.bind_some, k1, e2, Option.bind_some]
      exact (if_pos rfl).trans (go _ _ _ _ _ _ _ _ _ _ h2)
    rw [if_neg c39]
    by_cases c40 : y = 30
    · rw [if_pos c40]
      obtain ⟨r, a1, a2, m2, e1, e2, h2⟩ := p_back h (xs (nI i + 1).toNatClampNeg)
      rw [k1, e1, Option.bind_some, k1, e2, Option.bind_some]
      exact (if_pos rfl).trans (go _ _ _ _ _ _ _ _ _ _ h2)
    rw [if_neg c40]
    by_cases c41 : y = 31
    · rw [if_pos c41]
      obtain ⟨r, e1, e2⟩ := p_count h (xs (nI i + 1).toNatClampNeg)
      rw [k1, e1, Option.bind_some, k1, e2, Option.bind_some]
      exact (if_pos rfl).trans (go _ _ _ _ _ _ _ _ _ _ h)
    rw [if_neg c41]
    exact go _ _ _ _ _ _ _ _ _ _ h
