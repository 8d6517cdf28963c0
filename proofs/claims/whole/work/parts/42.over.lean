/-! no overflow: bounds by absolute value -/
theorem bm32 {x : Int} (h : x.natAbs < 2 ^ 31) : x.bmod (2 ^ 32) = x := Int.bmod_eq_of_le (by omega) (by omega)
theorem bm64 {x : Int} (h : x.natAbs < 2 ^ 63) : x.bmod (2 ^ 64) = x := Int.bmod_eq_of_le (by omega) (by omega)
theorem mul32 {a b : Int32} (A B : Nat) (ha : a.toInt.natAbs ≤ A) (hb : b.toInt.natAbs ≤ B) (h : A * B < 2 ^ 31) : (a * b).toInt = a.toInt * b.toInt ∧ (a * b).toInt.natAbs ≤ A * B := by
  have h1 : (a.toInt * b.toInt).natAbs ≤ A * B := by
    rw [Int.natAbs_mul]
    exact Nat.mul_le_mul ha hb
  have h2 : (a * b).toInt = a.toInt * b.toInt := by
    rw [Int32.toInt_mul]
    exact bm32 (by omega)
  exact ⟨h2, by rw [h2]; exact h1⟩
theorem mul64 {a b : Int64} (A B : Nat) (ha : a.toInt.natAbs ≤ A) (hb : b.toInt.natAbs ≤ B) (h : A * B < 2 ^ 63) : (a * b).toInt = a.toInt * b.toInt ∧ (a * b).toInt.natAbs ≤ A * B := by
  have h1 : (a.toInt * b.toInt).natAbs ≤ A * B := by
    rw [Int.natAbs_mul]
    exact Nat.mul_le_mul ha hb
  have h2 : (a * b).toInt = a.toInt * b.toInt := by
    rw [Int64.toInt_mul]
    exact bm64 (by omega)
  exact ⟨h2, by rw [h2]; exact h1⟩
theorem add64 {a b : Int64} (A B : Nat) (ha : a.toInt.natAbs ≤ A) (hb : b.toInt.natAbs ≤ B) (h : A + B < 2 ^ 63) : (a + b).toInt = a.toInt + b.toInt ∧ (a + b).toInt.natAbs ≤ A + B := by
  have h2 : (a + b).toInt = a.toInt + b.toInt := by
    rw [Int64.toInt_add]
    exact bm64 (by omega)
  exact ⟨h2, by rw [h2]; omega⟩
theorem sub64 {a b : Int64} (A B : Nat) (ha : a.toInt.natAbs ≤ A) (hb : b.toInt.natAbs ≤ B) (h : A + B < 2 ^ 63) : (a - b).toInt = a.toInt - b.toInt ∧ (a - b).toInt.natAbs ≤ A + B := by
  have h2 : (a - b).toInt = a.toInt - b.toInt := by
    rw [Int64.toInt_sub]
    exact bm64 (by omega)
  exact ⟨h2, by rw [h2]; omega⟩
theorem neg_i2l {z : Int32} (h : z.toInt.natAbs < 2 ^ 31) : (-z).toInt64 = -(z.toInt64) := by
  apply Int64.toInt_inj.mp
  rw [Int32.toInt_toInt64, Int32.toInt_neg, Int64.toInt_neg, Int32.toInt_toInt64, bm32 (by omega), bm64 (by omega)]
/-- the piles are as the document has them -/
def PB (f : PF) (n : Nat) : Prop := ∀ p, p < n → IR (-9) 9 (fX f p) ∧ IR (-9) 9 (fY f p) ∧ IR 1 9 (fK f p) ∧ IR 1 99 (fC f p)
theorem IR.abs {a b : Int} {x : Int32} (h : IR a b x) {A : Nat} (ha : -(A : Int) ≤ a) (hb : b ≤ A) : x.toInt.natAbs ≤ A := by
  have h1 := h.1
  have h2 := h.2
  omega
theorem kx_abs {f : PF} {n p : Nat} (h : PB f n) (hp : p < n) : (fK f p).toInt.natAbs ≤ 9 ∧ (fX f p).toInt.natAbs ≤ 9 ∧ (fY f p).toInt.natAbs ≤ 9 ∧ (fK f p * fX f p).toInt.natAbs ≤ 81 ∧ (fK f p * fY f p).toInt.natAbs ≤ 81 ∧ (fK f p * fX f p * fX f p).toInt.natAbs ≤ 729 ∧ (fK f p * fX f p * fY f p).toInt.natAbs ≤ 729 ∧ (fK f p * fY f p * fY f p).toInt.natAbs ≤ 729 := by
  obtain ⟨h1, h2, h3, -⟩ := h p hp
  have a1 : (fX f p).toInt.natAbs ≤ 9 := h1.abs (by omega) (by omega)
  have a2 : (fY f p).toInt.natAbs ≤ 9 := h2.abs (by omega) (by omega)
  have a3 : (fK f p).toInt.natAbs ≤ 9 := h3.abs (by omega) (by omega)
  have m1 := (mul32 9 9 a3 a1 (by decide)).2
  have m2 := (mul32 9 9 a3 a2 (by decide)).2
  exact ⟨a3, a1, a2, m1, m2, (mul32 81 9 m1 a1 (by decide)).2, (mul32 81 9 m1 a2 (by decide)).2, (mul32 81 9 m2 a2 (by decide)).2⟩
theorem put_plus {f : PF} {n b p : Nat} {op : OS} (h : PLs f n b op) (hp : p < n) (hb : b.testBit p = false) : ∃ op1, f_X1_put (fX f p) (fY f p) (fK f p) op = some op1 ∧ PLs f n (b ^^^ 2 ^ p) op1 ∧ ∀ i, 6 ≤ i → op1.2.1 i = op.2.1 i := by
  obtain ⟨h0, h1, h2, h3, h4, h5⟩ := h
  refine ⟨_, rfl, ⟨?_, ?_, ?_, ?_, ?_, ?_⟩, fun i hi => ?_⟩
  · rw [sm_out hp, hb, ← h0]; rfl
  · rw [sm_out hp, hb, ← h1]; rfl
  · rw [sm_out hp, hb, ← h2]; rfl
  · rw [sm_out hp, hb, ← h3]; rfl
  · rw [sm_out hp, hb, ← h4]; rfl
  · rw [sm_out hp, hb, ← h5]; rfl
  · rw [sL_ne _ _ _ _ (by omega), sL_ne _ _ _ _ (by omega), sL_ne _ _ _ _ (by omega), sL_ne _ _ _ _ (by omega), sL_ne _ _ _ _ (by omega), sL_ne _ _ _ _ (by omega)]
theorem put_minus {f : PF} {n b p : Nat} {op : OS} (h : PLs f n b op) (hB : PB f n) (hp : p < n) (hb : b.testBit p = true) : ∃ op1, f_X1_put (fX f p) (fY f p) (-(fK f p)) op = some op1 ∧ PLs f n (b ^^^ 2 ^ p) op1 ∧ ∀ i, 6 ≤ i → op1.2.1 i = op.2.1 i := by
  obtain ⟨h0, h1, h2, h3, h4, h5⟩ := h
  obtain ⟨b0, b1, b2, b3, b4, b5, b6, b7⟩ := kx_abs hB hp
  have n1 : ∀ a b : Int32, -a * b = -(a * b) := fun a b => Int32.neg_mul a b
  have e0 : (-(fK f p)).toInt64 = -(tm f 0 p) := neg_i2l (by omega)
  have e1 : (-(fK f p) * fX f p).toInt64 = -(tm f 1 p) := by rw [n1]; exact neg_i2l (by omega)
  have e2 : (-(fK f p) * fY f p).toInt64 = -(tm f 2 p) := by rw [n1]; exact neg_i2l (by omega)
  have e3 : (-(fK f p) * fX f p * fX f p).toInt64 = -(tm f 3 p) := by rw [n1, n1]; exact neg_i2l (by omega)
  have e4 : (-(fK f p) * fX f p * fY f p).toInt64 = -(tm f 4 p) := by rw [n1, n1]; exact neg_i2l (by omega)
  have e5 : (-(fK f p) * fY f p * fY f p).toInt64 = -(tm f 5 p) := by rw [n1, n1]; exact neg_i2l (by omega)
  have ns : ∀ a b : Int64, a + -b = a - b := fun a b => by grind
  refine ⟨_, rfl, ⟨?_, ?_, ?_, ?_, ?_, ?_⟩, fun i hi => ?_⟩
  · rw [sm_out hp, hb, ← h0]
    show op.2.1 0 + (-(fK f p)).toInt64 = op.2.1 0 - tm f 0 p
    rw [e0, ns]
  · rw [sm_out hp, hb, ← h1]
    show op.2.1 1 + (-(fK f p) * fX f p).toInt64 = op.2.1 1 - tm f 1 p
    rw [e1, ns]
  · rw [sm_out hp, hb, ← h2]
    show op.2.1 2 + (-(fK f p) * fY f p).toInt64 = op.2.1 2 - tm f 2 p
    rw [e2, ns]
  · rw [sm_out hp, hb, ← h3]
    show op.2.1 3 + (-(fK f p) * fX f p * fX f p).toInt64 = op.2.1 3 - tm f 3 p
    rw [e3, ns]
  · rw [sm_out hp, hb, ← h4]
    show op.2.1 4 + (-(fK f p) * fX f p * fY f p).toInt64 = op.2.1 4 - tm f 4 p
    rw [e4, ns]
  · rw [sm_out hp, hb, ← h5]
    show op.2.1 5 + (-(fK f p) * fY f p * fY f p).toInt64 = op.2.1 5 - tm f 5 p
    rw [e5, ns]
  · rw [sL_ne _ _ _ _ (by omega), sL_ne _ _ _ _ (by omega), sL_ne _ _ _ _ (by omega), sL_ne _ _ _ _ (by omega), sL_ne _ _ _ _ (by omega), sL_ne _ _ _ _ (by omega)]
/-- one round of the class -/
theorem round_c {f : PF} {n s a : Nat} {od op : OS} (hB : PB f n) (hD : 0 ≤ DD f n a) (hc : CP f n od) (hw : CW f od) (hs : s < 2 ^ n) (ha : a < 2 ^ n) (hsub : ∀ i, a.testBit i = true → s.testBit i = true) (es : od.1 8 = nI s) (ea : od.1 9 = nI a) (hp : PLs f n a op) :
    (DD f n a = 0 ∧ ∃ op1, f_X0_anotherRoundFollows od op = some (0, od, op1)) ∨
    (¬ DD f n a = 0 ∧ ((∃ p op1, pul (TT f n a) a n = some p ∧ f_X0_anotherRoundFollows od op = some (1, sI od 9 (nI (a ^^^ 2 ^ p)), op1) ∧ PLs f n (a ^^^ 2 ^ p) op1) ∨
      (pul (TT f n a) a n = none ∧ ((∃ p op1, prs (PP f n a) (s ^^^ a) n = some p ∧ f_X0_anotherRoundFollows od op = some (1, sI od 9 (nI (a ^^^ 2 ^ p)), op1) ∧ PLs f n (a ^^^ 2 ^ p) op1) ∨
        (prs (PP f n a) (s ^^^ a) n = none ∧ ∃ op1, f_X0_anotherRoundFollows od op = some (0, sI od 11 1, op1) ∧ PLt f n a op1))))) := by
  have hn := hc.1
  have hs5 : s < 512 := Nat.lt_of_lt_of_le hs (pow_le_512 hn)
  have ha5 : a < 512 := Nat.lt_of_lt_of_le ha (pow_le_512 hn)
  have one : ¬ (1 : Int32) = 0 := by decide
  obtain ⟨op1, r1, p1, d1, ht⟩ := brace_eq hp
  by_cases c : DD f n a = 0
  · left
    refine ⟨c, op1, ?_⟩
    rw [if_pos (by rw [c]; decide)] at r1
    simp only [f_X0_anotherRoundFollows, r1, Option.bind_some, if_true]
  · right
    refine ⟨c, ?_⟩
    have c2 : ¬ DD f n a ≤ 0 := fun q => c (Int64.le_antisymm q hD)
    rw [if_neg c2] at r1
    obtain ⟨op2, r2, p2, t1, t2, t3, t4⟩ := ht (fW f) (fU f) (fV f)
    have pt : PLt f n a op2 := ⟨t1, t2, t3, t4⟩
    have m1 := mostPulled_eq hc ha5 ea pt
    have m2 := mostPressed_eq hc hs5 ha5 hsub es ea pt
    obtain ⟨w1, w2, w3⟩ := hw
    cases e1 : pul (TT f n a) a n with
    | some p =>
      left
      obtain ⟨q1, q2, -⟩ := pul_bit e1
      obtain ⟨x1, x2, x3, -⟩ := hc.2.2 p q2
      obtain ⟨op3, r3, p3, -⟩ := put_minus p2 hB q2 q1
      rw [e1] at m1
      refine ⟨p, op3, rfl, ?_, p3⟩
      have tp : (nI p).toNatClampNeg = p := nI_clamp (by omega)
      have np : ¬ nI p < 0 := nI_pos (by omega)
      simp only [f_X0_anotherRoundFollows, r1, Option.bind_some, if_neg one, w1, w2, w3, r2, m1, oi, if_neg np, ea, bit_clr ha5 (show p < 9 by omega) q1, lt, ck_nI (show p < 9 by omega) (by decide), tp]
      rw [show (sI od 9 (nI (a ^^^ 2 ^ p))).2.2 0 p = fX f p from x1, show (sI od 9 (nI (a ^^^ 2 ^ p))).2.2 1 p = fY f p from x2, show (sI od 9 (nI (a ^^^ 2 ^ p))).2.2 2 p = fK f p from x3, r3]
      rfl
    | none =>
      right
      refine ⟨rfl, ?_⟩
      rw [e1] at m1
      have nn : (-1 : Int32) < 0 := by decide
      cases e2 : prs (PP f n a) (s ^^^ a) n with
      | some p =>
        left
        obtain ⟨q1, q2, -⟩ := prs_bit e2
        have q0 : a.testBit p = false := by
          rw [Nat.testBit_xor] at q1
          cases c3 : a.testBit p
          · rfl
          · rw [c3, hsub p c3] at q1; cases q1
        obtain ⟨x1, x2, x3, -⟩ := hc.2.2 p q2
        obtain ⟨op3, r3, p3, -⟩ := put_plus p2 q2 q0
        rw [e2] at m2
        refine ⟨p, op3, rfl, ?_, p3⟩
        have tp : (nI p).toNatClampNeg = p := nI_clamp (by omega)
        have np : ¬ nI p < 0 := nI_pos (by omega)
        simp only [f_X0_anotherRoundFollows, r1, Option.bind_some, if_neg one, w1, w2, w3, r2, m1, m2, oi, if_pos nn, if_neg np, ea, bit_set ha5 (show p < 9 by omega) q0, lt, ck_nI (show p < 9 by omega) (by decide), tp]
        rw [show (sI od 9 (nI (a ^^^ 2 ^ p))).2.2 0 p = fX f p from x1, show (sI od 9 (nI (a ^^^ 2 ^ p))).2.2 1 p = fY f p from x2, show (sI od 9 (nI (a ^^^ 2 ^ p))).2.2 2 p = fK f p from x3, r3]
        rfl
      | none =>
        right
        rw [e2] at m2
        refine ⟨rfl, op2, ?_, pt⟩
        simp only [f_X0_anotherRoundFollows, r1, Option.bind_some, if_neg one, w1, w2, w3, r2, m1, m2, oi, if_pos nn, lt]
