/-! sets of piles as numbers: nine places -/
def cnt (b : Nat) : Nat → Nat
  | 0 => 0
  | n + 1 => cnt b n + (if b.testBit n then 1 else 0)
set_option maxRecDepth 100000 in
theorem bit_get0 : ∀ b, b < 512 → ∀ p, p < 9 → ((((nI b >>> (nI p &&& 31)) &&& 1) = 1) ↔ b.testBit p = true) := by decide +kernel
set_option maxRecDepth 100000 in
theorem bit_zero0 : ∀ b, b < 512 → ∀ p, p < 9 → ((((nI b >>> (nI p &&& 31)) &&& 1) = 0) ↔ b.testBit p = false) := by decide +kernel
set_option maxRecDepth 100000 in
theorem bit_clr0 : ∀ b, b < 512 → ∀ p, p < 9 → b.testBit p = true → nI b &&& ((1 <<< (nI p &&& 31)) ^^^ (-1)) = nI (b ^^^ 2 ^ p) := by decide +kernel
set_option maxRecDepth 100000 in
theorem bit_set0 : ∀ b, b < 512 → ∀ p, p < 9 → b.testBit p = false → nI b ||| (1 <<< (nI p &&& 31)) = nI (b ^^^ 2 ^ p) := by decide +kernel
set_option maxRecDepth 100000 in
theorem bit_cnt0 : ∀ b, b < 512 → f_J6_bitCount_0f7a4 (nI b) = some (nI (cnt b 9)) := by decide +kernel
theorem bit_get {b p : Nat} (hb : b < 512) (hp : p < 9) : (((nI b >>> (nI p &&& 31)) &&& 1) = 1) ↔ b.testBit p = true := bit_get0 b hb p hp
theorem bit_zero {b p : Nat} (hb : b < 512) (hp : p < 9) : (((nI b >>> (nI p &&& 31)) &&& 1) = 0) ↔ b.testBit p = false := bit_zero0 b hb p hp
theorem bit_clr {b p : Nat} (hb : b < 512) (hp : p < 9) (h : b.testBit p = true) : nI b &&& ((1 <<< (nI p &&& 31)) ^^^ (-1)) = nI (b ^^^ 2 ^ p) := bit_clr0 b hb p hp h
theorem bit_set {b p : Nat} (hb : b < 512) (hp : p < 9) (h : b.testBit p = false) : nI b ||| (1 <<< (nI p &&& 31)) = nI (b ^^^ 2 ^ p) := bit_set0 b hb p hp h
theorem tog_bit (b p q : Nat) : (b ^^^ 2 ^ p).testBit q = (b.testBit q ^^ decide (p = q)) := by
  rw [Nat.testBit_xor, Nat.testBit_two_pow]
theorem tog_same (b p : Nat) : (b ^^^ 2 ^ p).testBit p = !b.testBit p := by
  rw [tog_bit]; simp
theorem tog_ne (b p q : Nat) (h : q ≠ p) : (b ^^^ 2 ^ p).testBit q = b.testBit q := by
  rw [tog_bit]; simp [Ne.symm h]
theorem tog_lt {b p n : Nat} (hb : b < 2 ^ n) (hp : p < n) : b ^^^ 2 ^ p < 2 ^ n := Nat.xor_lt_two_pow hb (Nat.pow_lt_pow_right (by omega) hp)
theorem pow_le_512 {n : Nat} (h : n ≤ 9) : 2 ^ n ≤ 512 := Nat.pow_le_pow_right (n := 2) (by omega) h
theorem bit_out {b n p : Nat} (hb : b < 2 ^ n) (hp : n ≤ p) : b.testBit p = false := Nat.testBit_lt_two_pow (Nat.lt_of_lt_of_le hb (Nat.pow_le_pow_right (by omega) hp))
theorem cnt_out {b n : Nat} (hb : b < 2 ^ n) : ∀ k, cnt b (n + k) = cnt b n
  | 0 => rfl
  | k + 1 => by
    show cnt b (n + k) + (if b.testBit (n + k) then 1 else 0) = cnt b n
    rw [bit_out hb (by omega), cnt_out hb k]
    rfl
theorem cnt_9 {b n : Nat} (hn : n ≤ 9) (hb : b < 2 ^ n) : cnt b 9 = cnt b n := by
  have h := cnt_out hb (9 - n)
  rw [show n + (9 - n) = 9 by omega] at h
  exact h
theorem cnt_le (b : Nat) : ∀ n, cnt b n ≤ n
  | 0 => Nat.le_refl _
  | n + 1 => by
    have := cnt_le b n
    unfold cnt
    split <;> omega
theorem cnt_t {b p : Nat} (c : b.testBit p = true) : cnt b (p + 1) = cnt b p + 1 := by
  show cnt b p + (if b.testBit p then 1 else 0) = _
  rw [if_pos c]
theorem cnt_f {b p : Nat} (c : ¬ b.testBit p = true) : cnt b (p + 1) = cnt b p := by
  show cnt b p + (if b.testBit p then 1 else 0) = _
  rw [if_neg c]
  rfl
/-- how many piles are intact, by the class -/
theorem bitCount_eq {b n : Nat} (hn : n ≤ 9) (hb : b < 2 ^ n) : f_J6_bitCount_0f7a4 (nI b) = some (nI (cnt b n)) := by
  rw [bit_cnt0 b (Nat.lt_of_lt_of_le hb (pow_le_512 hn)), cnt_9 hn hb]
theorem ofPile_eq {om : OS} {p w : Nat} (hp : p ≤ 8) (hw : w ≤ 4) : f_X5_ofPile (nI p) (nI w) om = some (om.2.2 0 (1 + 5 * p + w)) := by
  have e : (1 : Int32) + 5 * nI p + nI w = nI (1 + 5 * p + w) := by
    rw [show (1 : Int32) = nI 1 from rfl, show (5 : Int32) = nI 5 from rfl, nI_mul, nI_add, nI_add]
  simp only [f_X5_ofPile, e, ck_nI (show 1 + 5 * p + w < 59 by omega) (by decide), nI_clamp (show 1 + 5 * p + w < 2 ^ 31 by omega)]
theorem ofColumn_eq {om : OS} {p w : Nat} (hp : p ≤ 4) (hw : w ≤ 2) : f_X5_ofColumn (nI p) (nI w) om = some (om.2.2 0 (42 + 3 * p + w)) := by
  have e : (42 : Int32) + 3 * nI p + nI w = nI (42 + 3 * p + w) := by
    rw [show (42 : Int32) = nI 42 from rfl, show (3 : Int32) = nI 3 from rfl, nI_mul, nI_add, nI_add]
  simp only [f_X5_ofColumn, e, ck_nI (show 42 + 3 * p + w < 59 by omega) (by decide), nI_clamp (show 42 + 3 * p + w < 2 ^ 31 by omega)]
/-- how many piles are intact, by the reference -/
theorem wholes_loop {om : OS} {n b : Nat} (hn : n ≤ 8) (e0 : om.2.2 0 0 = nI n) (hl : ∀ p, p < n → om.2.2 0 (5 + 5 * p) = (if b.testBit p then 0 else 1)) : ∀ (m p k : Nat), p + m = n → m < k → lp_X5_wholes_4 om k (nI (cnt b p)) (nI p) = some (nI (cnt b n), nI n) := by
  intro m
  have t0 : (0 : Int32).toNatClampNeg = 0 := rfl
  induction m with
  | zero =>
    intro p k hp hk
    obtain ⟨k, rfl⟩ : ∃ j, k = j + 1 := ⟨k - 1, by omega⟩
    have : p = n := by omega
    subst this
    rw [lp_X5_wholes_4, t0, e0, if_pos (nI_le (Nat.le_refl _) (by omega))]
  | succ m ih =>
    intro p k hp hk
    obtain ⟨k, rfl⟩ : ∃ j, k = j + 1 := ⟨k - 1, by omega⟩
    rw [lp_X5_wholes_4, t0, e0, if_neg (nI_ge (show p < n by omega) (by omega)), show (4 : Int32) = nI 4 from rfl, ofPile_eq (by omega) (by omega), Option.bind_some, show 1 + 5 * p + 4 = 5 + 5 * p by omega, hl p (by omega)]
    by_cases c : b.testBit p = true
    · rw [if_pos c, if_pos rfl, nI_1, nI_1]
      have := ih (p + 1) k (by omega) (by omega)
      rw [cnt_t c] at this
      exact this
    · rw [if_neg c, if_neg (by decide), show nI (cnt b p) + 0 = nI (cnt b p) from Int32.add_zero _, nI_1]
      have := ih (p + 1) k (by omega) (by omega)
      rw [cnt_f c] at this
      exact this
theorem wholes_eq {om : OS} {n b : Nat} (hn : n ≤ 8) (e0 : om.2.2 0 0 = nI n) (hl : ∀ p, p < n → om.2.2 0 (5 + 5 * p) = (if b.testBit p then 0 else 1)) : f_X5_wholes om = some (nI (cnt b n)) := by
  have h := wholes_loop hn e0 hl n 0 1000 (by omega) (by omega)
  unfold f_X5_wholes
  rw [show (0 : Int32) = nI 0 from rfl]
  rw [show cnt b 0 = 0 from rfl] at h
  rw [h]
  rfl
theorem isIntact_eq {o : OS} {b p : Nat} (hb : b < 512) (hp : p < 9) (e : o.1 5 = nI b) : f_X3_isIntact (nI p) o = some (if b.testBit p then 1 else 0) := by
  unfold f_X3_isIntact
  rw [e]
  by_cases c : b.testBit p = true
  · rw [if_pos ((bit_get hb hp).mpr c), if_pos c]
  · rw [if_neg (fun q => c ((bit_get hb hp).mp q)), if_neg c]
