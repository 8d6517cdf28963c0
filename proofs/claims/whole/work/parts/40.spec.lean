/-! ===== the distribution, as both sides compute it: piles (x, y, stiffness, capacity), loads W, U, V ===== -/
abbrev PF : Type := (Nat → Int32) × (Nat → Int32) × (Nat → Int32) × (Nat → Int32) × Int64 × Int64 × Int64
abbrev fX (f : PF) : Nat → Int32 := f.1
abbrev fY (f : PF) : Nat → Int32 := f.2.1
abbrev fK (f : PF) : Nat → Int32 := f.2.2.1
abbrev fC (f : PF) : Nat → Int32 := f.2.2.2.1
abbrev fW (f : PF) : Int64 := f.2.2.2.2.1
abbrev fU (f : PF) : Int64 := f.2.2.2.2.2.1
abbrev fV (f : PF) : Int64 := f.2.2.2.2.2.2
/-- what a pile adds to the i-th sum -/
def tm (f : PF) (i p : Nat) : Int64 := match i with
  | 0 => (fK f p).toInt64
  | 1 => (fK f p * fX f p).toInt64
  | 2 => (fK f p * fY f p).toInt64
  | 3 => (fK f p * fX f p * fX f p).toInt64
  | 4 => (fK f p * fX f p * fY f p).toInt64
  | _ => (fK f p * fY f p * fY f p).toInt64
/-- the i-th sum over the first n piles that are in the set b -/
def sm (f : PF) (b i : Nat) : Nat → Int64
  | 0 => 0
  | n + 1 => if b.testBit n then sm f b i n + tm f i n else sm f b i n
def dD (k : Nat → Int64) : Int64 := k 0 * (k 3 * k 5 - k 4 * k 4) - k 1 * (k 1 * k 5 - k 4 * k 2) + k 2 * (k 1 * k 4 - k 3 * k 2)
def dA (k : Nat → Int64) (W U V : Int64) : Int64 := W * (k 3 * k 5 - k 4 * k 4) - k 1 * (U * k 5 - k 4 * V) + k 2 * (U * k 4 - k 3 * V)
def dB (k : Nat → Int64) (W U V : Int64) : Int64 := k 0 * (U * k 5 - k 4 * V) - W * (k 1 * k 5 - k 4 * k 2) + k 2 * (k 1 * V - U * k 2)
def dC (k : Nat → Int64) (W U V : Int64) : Int64 := k 0 * (k 3 * V - U * k 4) - k 1 * (k 1 * V - U * k 2) + W * (k 1 * k 4 - k 3 * k 2)
abbrev sK (f : PF) (n b : Nat) : Nat → Int64 := fun i => sm f b i n
def DD (f : PF) (n b : Nat) : Int64 := dD (sK f n b)
/-- the pressure at a place, times the determinant -/
def PR (f : PF) (n b : Nat) (x y : Int32) : Int64 := dA (sK f n b) (fW f) (fU f) (fV f) + dB (sK f n b) (fW f) (fU f) (fV f) * x.toInt64 + dC (sK f n b) (fW f) (fU f) (fV f) * y.toInt64
def PP (f : PF) (n b p : Nat) : Int64 := PR f n b (fX f p) (fY f p)
def TT (f : PF) (n b p : Nat) : Int64 := (fK f p).toInt64 * PP f n b p
def ov (T : Nat → Int64) (r : Option Nat) : Int64 := match r with
  | none => 0
  | some j => T j
def oi (d : Int32) (r : Option Nat) : Int32 := match r with
  | none => d
  | some j => nI j
/-- the pile that is pulled most -/
def pul (T : Nat → Int64) (b : Nat) : Nat → Option Nat
  | 0 => none
  | m + 1 => if b.testBit m = true ∧ T m < ov T (pul T b m) then some m else pul T b m
/-- the released pile that is pressed most -/
def prs (P : Nat → Int64) (rel : Nat) : Nat → Option Nat
  | 0 => none
  | m + 1 => if rel.testBit m = true ∧ ov P (prs P rel m) < P m then some m else prs P rel m
theorem pul_bit {T : Nat → Int64} {b : Nat} : ∀ {m j : Nat}, pul T b m = some j → b.testBit j = true ∧ j < m ∧ T j < 0
  | 0, j, h => by cases h
  | m + 1, j, h => by
    unfold pul at h
    by_cases c : b.testBit m = true ∧ T m < ov T (pul T b m)
    · rw [if_pos c] at h
      cases h
      refine ⟨c.1, by omega, ?_⟩
      cases e : pul T b m with
      | none => rw [e] at c; exact c.2
      | some i =>
        rw [e] at c
        have h2 : T i < 0 := (pul_bit e).2.2
        exact Int64.lt_trans c.2 h2
    · rw [if_neg c] at h
      obtain ⟨a1, a2, a3⟩ := pul_bit h
      exact ⟨a1, by omega, a3⟩
theorem prs_bit {P : Nat → Int64} {b : Nat} : ∀ {m j : Nat}, prs P b m = some j → b.testBit j = true ∧ j < m ∧ 0 < P j
  | 0, j, h => by cases h
  | m + 1, j, h => by
    unfold prs at h
    by_cases c : b.testBit m = true ∧ ov P (prs P b m) < P m
    · rw [if_pos c] at h
      cases h
      refine ⟨c.1, by omega, ?_⟩
      cases e : prs P b m with
      | none => rw [e] at c; exact c.2
      | some i =>
        rw [e] at c
        have h2 : 0 < P i := (prs_bit e).2.2
        exact Int64.lt_trans h2 c.2
    · rw [if_neg c] at h
      obtain ⟨a1, a2, a3⟩ := prs_bit h
      exact ⟨a1, by omega, a3⟩
/-- the rounds: (how many, whether settled, the active piles) -/
def run (f : PF) (n set : Nat) : Nat → Nat → Nat → Nat × Bool × Nat
  | 0, r, act => (r, false, act)
  | m + 1, r, act =>
    if DD f n act = 0 then (r + 1, false, act)
    else match pul (TT f n act) act n with
      | some p => run f n set m (r + 1) (act ^^^ 2 ^ p)
      | none => match prs (PP f n act) (set ^^^ act) n with
        | some p => run f n set m (r + 1) (act ^^^ 2 ^ p)
        | none => (r + 1, true, act)
/-- a pile is put in or taken out: the sums -/
theorem sm_tog (f : PF) (b i p : Nat) : ∀ n, sm f (b ^^^ 2 ^ p) i n = if p < n then (if b.testBit p then sm f b i n - tm f i p else sm f b i n + tm f i p) else sm f b i n
  | 0 => by simp [sm]
  | n + 1 => by
    have ih := sm_tog f b i p n
    have alg1 : ∀ A B C : Int64, A - B + C = A + C - B := by intro A B C; grind
    have alg2 : ∀ A B C : Int64, A + B + C = A + C + B := by intro A B C; grind
    have alg3 : ∀ A B : Int64, A = A + B - B := by intro A B; grind
    show (if (b ^^^ 2 ^ p).testBit n then sm f (b ^^^ 2 ^ p) i n + tm f i n else sm f (b ^^^ 2 ^ p) i n) = if p < n + 1 then (if b.testBit p then (if b.testBit n then sm f b i n + tm f i n else sm f b i n) - tm f i p else (if b.testBit n then sm f b i n + tm f i n else sm f b i n) + tm f i p) else (if b.testBit n then sm f b i n + tm f i n else sm f b i n)
    rw [ih]
    by_cases e : p = n
    · subst e
      rw [tog_same, if_neg (Nat.lt_irrefl p), if_pos (Nat.lt_succ_self p)]
      cases c : b.testBit p
      · simp
      · simp only [Bool.not_true, if_true]
        exact alg3 _ _
    · rw [tog_ne _ _ _ (Ne.symm e)]
      by_cases c : p < n
      · rw [if_pos c, if_pos (show p < n + 1 by omega)]
        cases c2 : b.testBit p <;> cases c3 : b.testBit n
        · simp
        · simp only [if_true]; simp; exact alg2 _ _ _
        · simp
        · simp only [if_true]; exact alg1 _ _ _
      · rw [if_neg c, if_neg (show ¬ p < n + 1 by omega)]
theorem sm_out {f : PF} {b i n : Nat} {p : Nat} (hp : p < n) : sm f (b ^^^ 2 ^ p) i n = if b.testBit p then sm f b i n - tm f i p else sm f b i n + tm f i p := by
  rw [sm_tog, if_pos hp]
/-- the released piles, as the class writes them -/
theorem rel_bits {s a : Nat} (h : ∀ i, a.testBit i = true → s.testBit i = true) : nI s &&& (nI a ^^^ (-1)) = nI (s ^^^ a) := by
  apply Int32.toBitVec_inj.mp
  have e1 : (nI s &&& (nI a ^^^ (-1))).toBitVec = BitVec.ofNat 32 s &&& (BitVec.ofNat 32 a ^^^ BitVec.allOnes 32) := rfl
  have e2 : (nI (s ^^^ a)).toBitVec = BitVec.ofNat 32 (s ^^^ a) := rfl
  rw [e1, e2]
  apply BitVec.eq_of_getLsbD_eq
  intro i hi
  have hh := h i
  simp only [BitVec.getLsbD_and, BitVec.getLsbD_xor, BitVec.getLsbD_ofNat, BitVec.getLsbD_allOnes, Nat.testBit_xor, hi, decide_true, Bool.true_and]
  cases c1 : a.testBit i <;> cases c2 : s.testBit i <;> simp_all
