/-- the piles of a row of the reference, with loads -/
def pf (S : Nat → Int32) (W U V : Int64) : PF := (fun p => S (1 + 5 * p), fun p => S (2 + 5 * p), fun p => S (3 + 5 * p), fun p => S (4 + 5 * p), W, U, V)
theorem SRn.pb {o : OS} {S : Nat → Int32} {n k b : Nat} (h : SRn o S n k b) (W U V : Int64) : PB (pf S W U V) n := fun p hp => by
  obtain ⟨-, -, -, -, a5, a6, a7, a8, -⟩ := h.2.2.2.2.2.2.2.2.2.2.2.2.1 p hp
  exact ⟨a5, a6, a7, a8⟩
theorem takePiles_eq {on : OS} {S : Nat → Int32} {n k b : Nat} (h : SRn on S n k b) (od : OS) (W U V : Int64) : ∃ od2, f_X0_takePiles od on = some od2 ∧ CP (pf S W U V) n od2 ∧ od2.2.1 = od.2.1 ∧ ∀ i, i ≠ 4 → od2.1 i = od.1 i := by
  refine ⟨_, rfl, ⟨by have := h.1; omega, h.2.2.2.1, fun p hp => ?_⟩, rfl, fun i hi => sI_ne _ _ _ _ hi⟩
  have q : ∀ (f g : Nat → Int32), va_cpy f g 0 0 8 p = f p := fun f g => by
    have := cpy_in (f := f) (g := g) (sp := 0) (dp := 0) (n := 8) (k := p) (by have := h.1; omega)
    simpa using this
  obtain ⟨a1, a2, a3, a4, -⟩ := h.2.2.2.2.2.2.2.2.2.2.2.2.1 p hp
  exact ⟨(q _ _).trans a1, (q _ _).trans a2, (q _ _).trans a3, (q _ _).trans a4⟩
theorem CP.loads {f : PF} {n : Nat} {od : OS} (h : CP f n od) (W U V : Int64) : CP (fX f, fY f, fK f, fC f, W, U, V) n od := h
/-- the sums over the first p piles of the set -/
theorem begin_loop {f : PF} {n s : Nat} {od : OS} (hc : CP f n od) (hs : s < 512) (es : od.1 8 = nI s) : ∀ (m p k : Nat) (op : OS), p + m = n → m < k → (op.2.1 0 = sm f s 0 p ∧ op.2.1 1 = sm f s 1 p ∧ op.2.1 2 = sm f s 2 p ∧ op.2.1 3 = sm f s 3 p ∧ op.2.1 4 = sm f s 4 p ∧ op.2.1 5 = sm f s 5 p) → ∃ op2, lp_X0_beginWith_14 od k (nI p) op = some (nI n, op2) ∧ PLs f n s op2 := by
  obtain ⟨hn, e4, hx⟩ := hc
  intro m
  induction m with
  | zero =>
    intro p k op hp2 hk h
    obtain ⟨k, rfl⟩ : ∃ j, k = j + 1 := ⟨k - 1, by omega⟩
    have : p = n := by omega
    subst this
    exact ⟨op, by rw [lp_X0_beginWith_14, e4, if_pos (nI_le (Nat.le_refl _) (by omega))], h⟩
  | succ m ih =>
    intro p k op hp2 hk h
    obtain ⟨k, rfl⟩ : ∃ j, k = j + 1 := ⟨k - 1, by omega⟩
    have tp : (nI p).toNatClampNeg = p := nI_clamp (by omega)
    obtain ⟨x1, x2, x3, -⟩ := hx p (by omega)
    have ess : ∀ i, sm f s i (p + 1) = if s.testBit p then sm f s i p + tm f i p else sm f s i p := fun i => rfl
    rw [lp_X0_beginWith_14, e4, if_neg (nI_ge (show p < n by omega) (by omega)), es]
    simp only [ck_nI (show p < 9 by omega) (by decide), tp, x1, x2, x3, nI_1]
    obtain ⟨h0, h1, h2, h3, h4, h5⟩ := h
    by_cases c : s.testBit p = true
    · rw [if_pos ((bit_get hs (by omega)).mpr c)]
      obtain ⟨op1, r1, q1⟩ : ∃ op1, f_X1_put (fX f p) (fY f p) (fK f p) op = some op1 ∧ (op1.2.1 0 = sm f s 0 (p + 1) ∧ op1.2.1 1 = sm f s 1 (p + 1) ∧ op1.2.1 2 = sm f s 2 (p + 1) ∧ op1.2.1 3 = sm f s 3 (p + 1) ∧ op1.2.1 4 = sm f s 4 (p + 1) ∧ op1.2.1 5 = sm f s 5 (p + 1)) := by
        refine ⟨_, rfl, ?_⟩
        simp only [ess, if_pos c]
        refine ⟨?_, ?_, ?_, ?_, ?_, ?_⟩
        · rw [← h0]; rfl
        · rw [← h1]; rfl
        · rw [← h2]; rfl
        · rw [← h3]; rfl
        · rw [← h4]; rfl
        · rw [← h5]; rfl
      rw [r1, Option.bind_some]
      exact ih (p + 1) k op1 (by omega) (by omega) q1
    · rw [if_neg (fun q => c ((bit_get hs (by omega)).mp q))]
      refine ih (p + 1) k op (by omega) (by omega) ?_
      simp only [ess, if_neg c]
      exact ⟨h0, h1, h2, h3, h4, h5⟩
theorem begin_eq {f : PF} {n s : Nat} {od : OS} (hc : CP f n od) (hs : s < 2 ^ n) (odw : OS) : ∃ odw2, f_X0_beginWith (nI s) od odw = some (sI od 8 (nI s), odw2) ∧ PLs f n s odw2 := by
  have hn := hc.1
  have hs5 : s < 512 := Nat.lt_of_lt_of_le hs (pow_le_512 hn)
  obtain ⟨op0, r0, q0⟩ : ∃ op0, f_X1_empty odw = some op0 ∧ (op0.2.1 0 = sm f s 0 0 ∧ op0.2.1 1 = sm f s 1 0 ∧ op0.2.1 2 = sm f s 2 0 ∧ op0.2.1 3 = sm f s 3 0 ∧ op0.2.1 4 = sm f s 4 0 ∧ op0.2.1 5 = sm f s 5 0) := ⟨_, rfl, rfl, rfl, rfl, rfl, rfl, rfl⟩
  obtain ⟨op2, r2, q2⟩ := begin_loop (od := sI od 8 (nI s)) hc hs5 rfl n 0 1000 op0 (by omega) (by omega) q0
  refine ⟨op2, ?_, q2⟩
  simp only [f_X0_beginWith, lt, r0, Option.bind_some]
  rw [show (0 : Int32) = nI 0 from rfl, r2]
  rfl
/-! the reference lays its piles -/
def mk (b : Nat) : Nat → Nat
  | 0 => 0
  | p + 1 => if b.testBit p then mk b p ^^^ 2 ^ p else mk b p
theorem mk_bit (b : Nat) : ∀ p q, (mk b p).testBit q = (decide (q < p) && b.testBit q)
  | 0, q => by simp [mk]
  | p + 1, q => by
    have ih := mk_bit b p
    unfold mk
    by_cases c : b.testBit p = true
    · rw [if_pos c]
      by_cases e : q = p
      · subst e
        rw [tog_same, ih]
        simp [c]
      · rw [tog_ne _ _ _ e, ih]
        congr 1
        by_cases h : q < p
        · simp [h, show q < p + 1 by omega]
        · simp [h, show ¬ q < p + 1 by omega]
    · rw [if_neg c, ih]
      by_cases e : q = p
      · subst e
        simp [c]
      · congr 1
        by_cases h : q < p
        · simp [h, show q < p + 1 by omega]
        · simp [h, show ¬ q < p + 1 by omega]
theorem mk_full {b n : Nat} (hb : b < 2 ^ n) : mk b n = b := by
  apply Nat.eq_of_testBit_eq
  intro q
  rw [mk_bit]
  by_cases h : q < n
  · simp [h]
  · rw [bit_out hb (by omega)]
    simp
theorem mk_lt (b : Nat) : ∀ p, mk b p < 2 ^ p
  | 0 => Nat.one_pos
  | p + 1 => by
    have ih := mk_lt b p
    have h2 : mk b p < 2 ^ (p + 1) := Nat.lt_of_lt_of_le ih (Nat.pow_le_pow_right (by omega) (by omega))
    unfold mk
    split
    · exact tog_lt h2 (by omega)
    · exact h2
/-- what laying the piles leaves as it was -/
def LPf (om om2 : OS) : Prop := (∀ r, r ≠ 17 → r ≠ 18 → r ≠ 19 → r ≠ 20 → om2.2.2 r = om.2.2 r) ∧ om2.2.1 = om.2.1 ∧ (∀ i, i ≠ 21 → i ≠ 22 → om2.1 i = om.1 i)
theorem lays_loop {S : Nat → Int32} {n b : Nat} {om : OS} (hn : n ≤ 8) (hb : b < 2 ^ n) (hl : ∀ p, p < n → S (5 + 5 * p) = (if b.testBit p then 0 else 1)) (W U V : Int64) : ∀ (m p k : Nat) (w : OS), p + m = n → m < k → LPf om w → w.2.2 0 = S → w.1 21 = nI n → w.1 22 = nI (mk b p) → (∀ q, q < p → w.2.2 17 q = S (1 + 5 * q) ∧ w.2.2 18 q = S (2 + 5 * q) ∧ w.2.2 19 q = S (3 + 5 * q) ∧ w.2.2 20 q = S (4 + 5 * q)) → ∃ w2, lp_X5_laysPiles_17 k (nI p) w = some (nI n, w2) ∧ LPf om w2 ∧ RP (pf S W U V) n w2 ∧ w2.1 22 = nI b := by
  intro m
  induction m with
  | zero =>
    intro p k w hp2 hk h1 h2 h3 h4 h5
    obtain ⟨k, rfl⟩ : ∃ j, k = j + 1 := ⟨k - 1, by omega⟩
    have : p = n := by omega
    subst this
    exact ⟨w, by rw [lp_X5_laysPiles_17, h3, if_pos (nI_le (Nat.le_refl _) (by omega))], h1, ⟨by omega, h3, h5⟩, by rw [h4, mk_full hb]⟩
  | succ m ih =>
    intro p k w hp2 hk h1 h2 h3 h4 h5
    obtain ⟨k, rfl⟩ : ∃ j, k = j + 1 := ⟨k - 1, by omega⟩
    have tp : (nI p).toNatClampNeg = p := nI_clamp (by omega)
    have of : ∀ (o : OS) (j : Nat), j ≤ 4 → o.2.2 0 = S → f_X5_ofPile (nI p) (nI j) o = some (S (1 + 5 * p + j)) := fun o j hj e => by rw [ofPile_eq (by omega) hj, e]
    have mb : (mk b p).testBit p = false := bit_out (mk_lt b p) (Nat.le_refl _)
    have mlt : mk b p < 512 := Nat.lt_of_lt_of_le (mk_lt b p) (pow_le_512 (by omega))
    obtain ⟨w1, hw1⟩ : ∃ w1 : OS, w1 = sA (sA (sA (sA w 17 p (S (1 + 5 * p))) 18 p (S (2 + 5 * p))) 19 p (S (3 + 5 * p))) 20 p (S (4 + 5 * p)) := ⟨_, rfl⟩
    have v22 : ((w1.1 22) ||| (if S (5 + 5 * p) = 0 then (1 <<< (nI p &&& 31)) else 0)) = nI (mk b (p + 1)) := by
      have : w1.1 22 = nI (mk b p) := by rw [hw1]; exact h4
      rw [this, hl p (by omega)]
      have e0 : mk b (p + 1) = if b.testBit p then mk b p ^^^ 2 ^ p else mk b p := rfl
      by_cases c : b.testBit p = true
      · rw [if_pos c] at e0
        rw [if_pos c, if_pos rfl, bit_set mlt (by omega) mb, e0]
      · rw [if_neg c] at e0
        rw [if_neg c, if_neg (by decide), e0]
        exact Int32.or_zero
    have step : lp_X5_laysPiles_17 (k + 1) (nI p) w = lp_X5_laysPiles_17 k (nI (p + 1)) (sI w1 22 (nI (mk b (p + 1)))) := by
      rw [lp_X5_laysPiles_17, h3, if_neg (nI_ge (show p < n by omega) (by omega)), show (0 : Int32) = nI 0 from rfl, of w 0 (by omega) h2, Option.bind_some, show 1 + 5 * p + 0 = 1 + 5 * p from rfl]
      simp only [ck_nI (show p < 9 by omega) (by decide), lt, tp]
      rw [show (1 : Int32) = nI 1 from rfl, of (sA w 17 p (S (1 + 5 * p))) 1 (by omega) h2, Option.bind_some, show 1 + 5 * p + 1 = 2 + 5 * p by omega, show (2 : Int32) = nI 2 from rfl, of (sA (sA w 17 p (S (1 + 5 * p))) 18 p (S (2 + 5 * p))) 2 (by omega) h2, Option.bind_some, show 1 + 5 * p + 2 = 3 + 5 * p by omega, show (3 : Int32) = nI 3 from rfl, of (sA (sA (sA w 17 p (S (1 + 5 * p))) 18 p (S (2 + 5 * p))) 19 p (S (3 + 5 * p))) 3 (by omega) h2, Option.bind_some, show 1 + 5 * p + 3 = 4 + 5 * p by omega, show (4 : Int32) = nI 4 from rfl, of (sA (sA (sA (sA w 17 p (S (1 + 5 * p))) 18 p (S (2 + 5 * p))) 19 p (S (3 + 5 * p))) 20 p (S (4 + 5 * p))) 4 (by omega) h2, Option.bind_some, show 1 + 5 * p + 4 = 5 + 5 * p by omega]
      rw [← hw1]
      have e9 : (if S (5 + 5 * p) = nI 0 then some (nI 1 <<< (nI p &&& 31)) else some (nI 0) : Option Int32) = some (if S (5 + 5 * p) = 0 then (1 <<< (nI p &&& 31)) else 0) := by
        rw [show nI 0 = 0 from rfl, show nI 1 = 1 from rfl]
        split <;> rfl
      rw [e9, Option.bind_some, v22, show nI p + nI 1 = nI (p + 1) from nI_add p 1]
    rw [step]
    refine ih (p + 1) k _ (by omega) (by omega) ?_ ?_ ?_ rfl (fun q hq => ?_)
    · rw [hw1]
      refine ⟨fun r a1 a2 a3 a4 => ?_, h1.2.1, fun i a1 a2 => ?_⟩
      · show (sA (sA (sA (sA w 17 p (S (1 + 5 * p))) 18 p (S (2 + 5 * p))) 19 p (S (3 + 5 * p))) 20 p (S (4 + 5 * p))).2.2 r = _
        rw [sA_ne _ _ _ _ _ a4, sA_ne _ _ _ _ _ a3, sA_ne _ _ _ _ _ a2, sA_ne _ _ _ _ _ a1]
        exact h1.1 r a1 a2 a3 a4
      · rw [sI_ne _ _ _ _ a2]
        exact h1.2.2 i a1 a2
    · rw [hw1]; exact h2
    · rw [hw1]; exact h3
    · rw [hw1]
      show upd (w.2.2 17) p (S (1 + 5 * p)) q = S (1 + 5 * q) ∧ upd (w.2.2 18) p (S (2 + 5 * p)) q = S (2 + 5 * q) ∧ upd (w.2.2 19) p (S (3 + 5 * p)) q = S (3 + 5 * q) ∧ upd (w.2.2 20) p (S (4 + 5 * p)) q = S (4 + 5 * q)
      by_cases e : q = p
      · subst e
        rw [upd_same, upd_same, upd_same, upd_same]
        exact ⟨rfl, rfl, rfl, rfl⟩
      · rw [upd_ne _ _ _ _ e, upd_ne _ _ _ _ e, upd_ne _ _ _ _ e, upd_ne _ _ _ _ e]
        exact h5 q (by omega)
theorem lays_eq {on : OS} {om : OS} {n k b : Nat} (h : SRn on (om.2.2 0) n k b) (W U V : Int64) : ∃ om2, f_X5_laysPiles om = some om2 ∧ LPf om om2 ∧ RP (pf (om.2.2 0) W U V) n om2 ∧ om2.1 22 = nI b := by
  have hn := h.1
  have t0 : (0 : Int32).toNatClampNeg = 0 := rfl
  obtain ⟨w2, r1, r2, r3, r4⟩ := lays_loop (om := om) hn h.2.2.1 (fun q hq => (h.2.2.2.2.2.2.2.2.2.2.2.2.1 q hq).2.2.2.2.2.2.2.2) W U V n 0 1000 (sI (sI om 21 (nI n)) 22 0) (by omega) (by omega) ⟨fun _ _ _ _ _ => rfl, rfl, fun i a1 a2 => by rw [sI_ne _ _ _ _ a2, sI_ne _ _ _ _ a1]⟩ rfl rfl rfl (fun q hq => absurd hq (Nat.not_lt_zero q))
  refine ⟨w2, ?_, r2, r3, r4⟩
  simp only [f_X5_laysPiles, t0, h.2.2.2.2.1, lt]
  rw [show lp_X5_laysPiles_17 1000 0 (sI (sI om 21 (nI n)) 22 0) = some (nI n, w2) from r1]
  rfl
