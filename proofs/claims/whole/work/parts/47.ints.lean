/-! ===== the sums as integers: no determinant is below 0, no share is out of its bounds ===== -/
theorem i2l_of (x : Int32) : x.toInt64 = Int64.ofInt x.toInt := rfl
theorem l_of (x : Int64) : x = Int64.ofInt x.toInt := (Int64.ofInt_toInt x).symm
theorem of_toInt {z : Int} (h : z.natAbs < 2 ^ 63) : (Int64.ofInt z).toInt = z := by
  rw [Int64.toInt_ofInt]
  exact bm64 h
theorem nm {a b : Int} {A B : Nat} (ha : a.natAbs ≤ A) (hb : b.natAbs ≤ B) : (a * b).natAbs ≤ A * B := by
  rw [Int.natAbs_mul]
  exact Nat.mul_le_mul ha hb
theorem na {a b : Int} {A B : Nat} (ha : a.natAbs ≤ A) (hb : b.natAbs ≤ B) : (a + b).natAbs ≤ A + B := by omega
theorem nsb {a b : Int} {A B : Nat} (ha : a.natAbs ≤ A) (hb : b.natAbs ≤ B) : (a - b).natAbs ≤ A + B := by omega
def qF (a b c d e g u v w : Int) : Int := a*u*u + 2*b*u*v + 2*c*u*w + d*v*v + 2*e*v*w + g*w*w
def qA (a b c d e g u v w : Int) : Int := (d*g-e*e)*u*u + 2*(e*c-b*g)*u*v + 2*(b*e-d*c)*u*w + (a*g-c*c)*v*v + 2*(b*c-a*e)*v*w + (a*d-b*b)*w*w
def qD (a b c d e g : Int) : Int := a*(d*g-e*e) - b*(b*g-e*c) + c*(b*e-d*c)
theorem qF_add (a b c d e g u v w k x y : Int) : qF (a+k) (b+k*x) (c+k*y) (d+k*x*x) (e+k*x*y) (g+k*y*y) u v w = qF a b c d e g u v w + k * ((u+x*v+y*w)*(u+x*v+y*w)) := by
  unfold qF; grind
theorem qA_add (a b c d e g u v w k x y : Int) : qA (a+k) (b+k*x) (c+k*y) (d+k*x*x) (e+k*x*y) (g+k*y*y) u v w = qA a b c d e g u v w + k * qF a b c d e g (x*w-y*v) (y*u-w) (v-x*u) := by
  unfold qA qF; grind
theorem qD_add (a b c d e g k x y : Int) : qD (a+k) (b+k*x) (c+k*y) (d+k*x*x) (e+k*x*y) (g+k*y*y) = qD a b c d e g + k * qA a b c d e g 1 x y := by
  unfold qA qD; grind
def zt (f : PF) (i p : Nat) : Int := match i with
  | 0 => (fK f p).toInt
  | 1 => (fK f p).toInt * (fX f p).toInt
  | 2 => (fK f p).toInt * (fY f p).toInt
  | 3 => (fK f p).toInt * (fX f p).toInt * (fX f p).toInt
  | 4 => (fK f p).toInt * (fX f p).toInt * (fY f p).toInt
  | _ => (fK f p).toInt * (fY f p).toInt * (fY f p).toInt
def zs (f : PF) (b i : Nat) : Nat → Int
  | 0 => 0
  | n + 1 => if b.testBit n then zs f b i n + zt f i n else zs f b i n
theorem PB.less {f : PF} {n m : Nat} (h : PB f n) (hm : m ≤ n) : PB f m := fun p hp => h p (by omega)
theorem tm_z {f : PF} {n p : Nat} (h : PB f n) (hp : p < n) (i : Nat) : tm f i p = Int64.ofInt (zt f i p) := by
  obtain ⟨h1, h2, h3, -⟩ := h p hp
  have a1 : (fX f p).toInt.natAbs ≤ 9 := h1.abs (by omega) (by omega)
  have a2 : (fY f p).toInt.natAbs ≤ 9 := h2.abs (by omega) (by omega)
  have a3 : (fK f p).toInt.natAbs ≤ 9 := h3.abs (by omega) (by omega)
  obtain ⟨m1, b1⟩ := mul32 9 9 a3 a1 (by decide)
  obtain ⟨m2, b2⟩ := mul32 9 9 a3 a2 (by decide)
  have m3 := (mul32 81 9 b1 a1 (by decide)).1
  have m4 := (mul32 81 9 b1 a2 (by decide)).1
  have m5 := (mul32 81 9 b2 a2 (by decide)).1
  match i with
  | 0 => rfl
  | 1 => show Int64.ofInt (fK f p * fX f p).toInt = _; rw [m1]; rfl
  | 2 => show Int64.ofInt (fK f p * fY f p).toInt = _; rw [m2]; rfl
  | 3 => show Int64.ofInt (fK f p * fX f p * fX f p).toInt = _; rw [m3, m1]; rfl
  | 4 => show Int64.ofInt (fK f p * fX f p * fY f p).toInt = _; rw [m4, m1]; rfl
  | _ + 5 => show Int64.ofInt (fK f p * fY f p * fY f p).toInt = _; rw [m5, m2]; rfl
theorem sm_z {f : PF} {b i : Nat} : ∀ {n : Nat}, PB f n → sm f b i n = Int64.ofInt (zs f b i n)
  | 0, _ => rfl
  | n + 1, h => by
    show (if b.testBit n then sm f b i n + tm f i n else sm f b i n) = Int64.ofInt (if b.testBit n then zs f b i n + zt f i n else zs f b i n)
    rw [sm_z (h.less (by omega)), tm_z h (by omega)]
    split
    · rw [Int64.ofInt_add]
    · rfl
def zB (i : Nat) : Nat := match i with
  | 0 => 9
  | 1 => 81
  | 2 => 81
  | _ => 729
theorem zt_b {f : PF} {n p : Nat} (h : PB f n) (hp : p < n) (i : Nat) : (zt f i p).natAbs ≤ zB i := by
  obtain ⟨h1, h2, h3, -⟩ := h p hp
  have a1 : (fX f p).toInt.natAbs ≤ 9 := h1.abs (by omega) (by omega)
  have a2 : (fY f p).toInt.natAbs ≤ 9 := h2.abs (by omega) (by omega)
  have a3 : (fK f p).toInt.natAbs ≤ 9 := h3.abs (by omega) (by omega)
  match i with
  | 0 => exact a3
  | 1 => exact nm a3 a1
  | 2 => exact nm a3 a2
  | 3 => exact nm (nm a3 a1) a1
  | 4 => exact nm (nm a3 a1) a2
  | _ + 5 => exact nm (nm a3 a2) a2
theorem zs_b {f : PF} {b i : Nat} : ∀ {n : Nat}, PB f n → (zs f b i n).natAbs ≤ n * zB i
  | 0, _ => by show (0 : Int).natAbs ≤ _; simp
  | n + 1, h => by
    have ih := zs_b (b := b) (i := i) (h.less (show n ≤ n + 1 by omega))
    have ht := zt_b h (show n < n + 1 by omega) i
    have e : (n + 1) * zB i = n * zB i + zB i := Nat.succ_mul n (zB i)
    show (if b.testBit n then zs f b i n + zt f i n else zs f b i n).natAbs ≤ _
    split
    · rw [e]; exact na ih ht
    · omega
theorem zs_b9 {f : PF} {b i n : Nat} (h : PB f n) (hn : n ≤ 9) : (zs f b i n).natAbs ≤ 9 * zB i := Nat.le_trans (zs_b h) (Nat.mul_le_mul_right _ hn)
theorem sq_pos (a : Int) : 0 ≤ a * a := by
  by_cases h : 0 ≤ a
  · exact Int.mul_nonneg h h
  · have h1 : 0 ≤ -a := by omega
    have := Int.mul_nonneg h1 h1
    rw [Int.neg_mul_neg] at this
    exact this
theorem z_pos {f : PF} {b : Nat} : ∀ {n : Nat}, PB f n → (∀ u v w, 0 ≤ qF (zs f b 0 n) (zs f b 1 n) (zs f b 2 n) (zs f b 3 n) (zs f b 4 n) (zs f b 5 n) u v w) ∧ (∀ u v w, 0 ≤ qA (zs f b 0 n) (zs f b 1 n) (zs f b 2 n) (zs f b 3 n) (zs f b 4 n) (zs f b 5 n) u v w) ∧ 0 ≤ qD (zs f b 0 n) (zs f b 1 n) (zs f b 2 n) (zs f b 3 n) (zs f b 4 n) (zs f b 5 n)
  | 0, _ => ⟨fun u v w => by simp [zs, qF], fun u v w => by simp [zs, qA], by simp [zs, qD]⟩
  | n + 1, h => by
    obtain ⟨i1, i2, i3⟩ := z_pos (b := b) (h.less (show n ≤ n + 1 by omega))
    have e : ∀ i, zs f b i (n + 1) = if b.testBit n then zs f b i n + zt f i n else zs f b i n := fun i => rfl
    by_cases c : b.testBit n = true
    · simp only [e, if_pos c]
      have hk : 0 ≤ (fK f n).toInt := by have := (h n (by omega)).2.2.1.1; omega
      refine ⟨fun u v w => ?_, fun u v w => ?_, ?_⟩
      · refine Int.le_trans ?_ (Int.le_of_eq (qF_add _ _ _ _ _ _ u v w (fK f n).toInt (fX f n).toInt (fY f n).toInt).symm)
        exact Int.add_nonneg (i1 u v w) (Int.mul_nonneg hk (sq_pos _))
      · refine Int.le_trans ?_ (Int.le_of_eq (qA_add _ _ _ _ _ _ u v w (fK f n).toInt (fX f n).toInt (fY f n).toInt).symm)
        exact Int.add_nonneg (i2 u v w) (Int.mul_nonneg hk (i1 _ _ _))
      · refine Int.le_trans ?_ (Int.le_of_eq (qD_add _ _ _ _ _ _ (fK f n).toInt (fX f n).toInt (fY f n).toInt).symm)
        exact Int.add_nonneg i3 (Int.mul_nonneg hk (i2 _ _ _))
    · simp only [e, if_neg c]
      exact ⟨i1, i2, i3⟩
def zD (f : PF) (n b : Nat) : Int := qD (zs f b 0 n) (zs f b 1 n) (zs f b 2 n) (zs f b 3 n) (zs f b 4 n) (zs f b 5 n)
theorem DD_z {f : PF} {n b : Nat} (h : PB f n) : DD f n b = Int64.ofInt (zD f n b) := by
  unfold DD dD sK zD qD
  simp only [sm_z h, ← Int64.ofInt_mul, ← Int64.ofInt_sub, ← Int64.ofInt_add]
theorem zD_b {f : PF} {n b : Nat} (h : PB f n) (hn : n ≤ 9) : (zD f n b).natAbs ≤ 20920706406 := by
  have h0 : (zs f b 0 n).natAbs ≤ 81 := zs_b9 h hn
  have h1 : (zs f b 1 n).natAbs ≤ 729 := zs_b9 h hn
  have h2 : (zs f b 2 n).natAbs ≤ 729 := zs_b9 h hn
  have h3 : (zs f b 3 n).natAbs ≤ 6561 := zs_b9 h hn
  have h4 : (zs f b 4 n).natAbs ≤ 6561 := zs_b9 h hn
  have h5 : (zs f b 5 n).natAbs ≤ 6561 := zs_b9 h hn
  unfold zD qD
  exact Nat.le_trans (na (nsb (nm h0 (nsb (nm h3 h5) (nm h4 h4))) (nm h1 (nsb (nm h1 h5) (nm h4 h2)))) (nm h2 (nsb (nm h1 h4) (nm h3 h2)))) (by decide)
theorem DD_int {f : PF} {n b : Nat} (h : PB f n) (hn : n ≤ 9) : (DD f n b).toInt = zD f n b := by
  rw [DD_z h]
  exact of_toInt (by have := zD_b (b := b) h hn; omega)
theorem DD_ok {f : PF} {n : Nat} (h : PB f n) (hn : n ≤ 9) : DOK f n := fun a _ => by
  rw [Int64.le_iff_toInt_le, DD_int h hn]
  exact (z_pos h).2.2
/-- the loads are as the document has them -/
def LB (f : PF) : Prop := (fW f).toInt.natAbs ≤ 495 ∧ (fU f).toInt.natAbs ≤ 4554 ∧ (fV f).toInt.natAbs ≤ 4554
def zA (f : PF) (n b : Nat) : Int := (fW f).toInt * (zs f b 3 n * zs f b 5 n - zs f b 4 n * zs f b 4 n) - zs f b 1 n * ((fU f).toInt * zs f b 5 n - zs f b 4 n * (fV f).toInt) + zs f b 2 n * ((fU f).toInt * zs f b 4 n - zs f b 3 n * (fV f).toInt)
def zBb (f : PF) (n b : Nat) : Int := zs f b 0 n * ((fU f).toInt * zs f b 5 n - zs f b 4 n * (fV f).toInt) - (fW f).toInt * (zs f b 1 n * zs f b 5 n - zs f b 4 n * zs f b 2 n) + zs f b 2 n * (zs f b 1 n * (fV f).toInt - (fU f).toInt * zs f b 2 n)
def zC (f : PF) (n b : Nat) : Int := zs f b 0 n * (zs f b 3 n * (fV f).toInt - (fU f).toInt * zs f b 4 n) - zs f b 1 n * (zs f b 1 n * (fV f).toInt - (fU f).toInt * zs f b 2 n) + (fW f).toInt * (zs f b 1 n * zs f b 4 n - zs f b 3 n * zs f b 2 n)
theorem dA_z {f : PF} {n b : Nat} (h : PB f n) : dA (sK f n b) (fW f) (fU f) (fV f) = Int64.ofInt (zA f n b) := by
  unfold dA sK zA
  simp only [sm_z h, Int64.ofInt_mul, Int64.ofInt_sub, Int64.ofInt_add, Int64.ofInt_toInt]
theorem dB_z {f : PF} {n b : Nat} (h : PB f n) : dB (sK f n b) (fW f) (fU f) (fV f) = Int64.ofInt (zBb f n b) := by
  unfold dB sK zBb
  simp only [sm_z h, Int64.ofInt_mul, Int64.ofInt_sub, Int64.ofInt_add, Int64.ofInt_toInt]
theorem dC_z {f : PF} {n b : Nat} (h : PB f n) : dC (sK f n b) (fW f) (fU f) (fV f) = Int64.ofInt (zC f n b) := by
  unfold dC sK zC
  simp only [sm_z h, Int64.ofInt_mul, Int64.ofInt_sub, Int64.ofInt_add, Int64.ofInt_toInt]
def zP (f : PF) (n b : Nat) (x y : Int) : Int := zA f n b + zBb f n b * x + zC f n b * y
theorem PR_z {f : PF} {n b : Nat} (h : PB f n) (x y : Int32) : PR f n b x y = Int64.ofInt (zP f n b x.toInt y.toInt) := by
  unfold PR zP
  rw [dA_z h, dB_z h, dC_z h, Int64.ofInt_add, Int64.ofInt_add, Int64.ofInt_mul, Int64.ofInt_mul]
  rfl
theorem zP_b {f : PF} {n b : Nat} (h : PB f n) (hn : n ≤ 9) (hl : LB f) {x y : Int} (hx : x.natAbs ≤ 9) (hy : y.natAbs ≤ 9) : (zP f n b x y).natAbs ≤ 400000000000 := by
  have h0 : (zs f b 0 n).natAbs ≤ 81 := zs_b9 h hn
  have h1 : (zs f b 1 n).natAbs ≤ 729 := zs_b9 h hn
  have h2 : (zs f b 2 n).natAbs ≤ 729 := zs_b9 h hn
  have h3 : (zs f b 3 n).natAbs ≤ 6561 := zs_b9 h hn
  have h4 : (zs f b 4 n).natAbs ≤ 6561 := zs_b9 h hn
  have h5 : (zs f b 5 n).natAbs ≤ 6561 := zs_b9 h hn
  obtain ⟨l0, l1, l2⟩ := hl
  have ha : (zA f n b).natAbs ≤ _ := na (nsb (nm l0 (nsb (nm h3 h5) (nm h4 h4))) (nm h1 (nsb (nm l1 h5) (nm h4 l2)))) (nm h2 (nsb (nm l1 h4) (nm h3 l2)))
  have hb : (zBb f n b).natAbs ≤ _ := na (nsb (nm h0 (nsb (nm l1 h5) (nm h4 l2))) (nm l0 (nsb (nm h1 h5) (nm h4 h2)))) (nm h2 (nsb (nm h1 l2) (nm l1 h2)))
  have hc : (zC f n b).natAbs ≤ _ := na (nsb (nm h0 (nsb (nm h3 l2) (nm l1 h4))) (nm h1 (nsb (nm h1 l2) (nm l1 h2)))) (nm l0 (nsb (nm h1 h4) (nm h3 h2)))
  exact Nat.le_trans (na (na ha (nm hb hx)) (nm hc hy)) (by decide)
theorem PR_int {f : PF} {n b : Nat} (h : PB f n) (hn : n ≤ 9) (hl : LB f) {x y : Int32} (hx : x.toInt.natAbs ≤ 9) (hy : y.toInt.natAbs ≤ 9) : (PR f n b x y).toInt = zP f n b x.toInt y.toInt ∧ (PR f n b x y).toInt.natAbs ≤ 400000000000 := by
  have e : (PR f n b x y).toInt = zP f n b x.toInt y.toInt := by
    rw [PR_z h]
    exact of_toInt (by have := zP_b (b := b) h hn hl hx hy; omega)
  exact ⟨e, by rw [e]; exact zP_b h hn hl hx hy⟩
theorem TT_int {f : PF} {n b p : Nat} (h : PB f n) (hn : n ≤ 9) (hl : LB f) (hp : p < n) : (TT f n b p).toInt = (fK f p).toInt * zP f n b (fX f p).toInt (fY f p).toInt ∧ (TT f n b p).toInt.natAbs ≤ 3600000000000 := by
  obtain ⟨h1, h2, h3, -⟩ := h p hp
  have a1 : (fX f p).toInt.natAbs ≤ 9 := h1.abs (by omega) (by omega)
  have a2 : (fY f p).toInt.natAbs ≤ 9 := h2.abs (by omega) (by omega)
  have a3 : (fK f p).toInt.natAbs ≤ 9 := h3.abs (by omega) (by omega)
  obtain ⟨e, b1⟩ := PR_int (b := b) h hn hl a1 a2
  have a4 : ((fK f p).toInt64).toInt.natAbs ≤ 9 := by rw [Int32.toInt_toInt64]; exact a3
  obtain ⟨m1, m2⟩ := mul64 9 400000000000 a4 b1 (by decide)
  refine ⟨?_, m2⟩
  show ((fK f p).toInt64 * PR f n b (fX f p) (fY f p)).toInt = _
  rw [m1, e, Int32.toInt_toInt64]
theorem pul_no {T : Nat → Int64} {b : Nat} : ∀ {m : Nat}, pul T b m = none → ∀ p, p < m → b.testBit p = true → 0 ≤ T p
  | 0, _, p, hp, _ => absurd hp (Nat.not_lt_zero p)
  | m + 1, h, p, hp, hb => by
    have e0 : pul T b (m + 1) = if b.testBit m = true ∧ T m < ov T (pul T b m) then some m else pul T b m := rfl
    rw [e0] at h
    by_cases c : b.testBit m = true ∧ T m < ov T (pul T b m)
    · rw [if_pos c] at h; cases h
    · rw [if_neg c] at h
      by_cases e : p = m
      · subst e
        rw [h] at c
        exact Int64.not_lt.mp (fun q => c ⟨hb, q⟩)
      · exact pul_no h p (by omega) hb
/-- the shares of the first m piles together -/
def zq (f : PF) (n b : Nat) : Nat → Int
  | 0 => 0
  | m + 1 => if b.testBit m then zq f n b m + (fK f m).toInt * zP f n b (fX f m).toInt (fY f m).toInt else zq f n b m
theorem zq_eq (f : PF) (n b : Nat) : ∀ m, zq f n b m = zs f b 0 m * zA f n b + zs f b 1 m * zBb f n b + zs f b 2 m * zC f n b
  | 0 => by simp [zq, zs]
  | m + 1 => by
    have ih := zq_eq f n b m
    show (if b.testBit m then zq f n b m + (fK f m).toInt * zP f n b (fX f m).toInt (fY f m).toInt else zq f n b m) = (if b.testBit m then zs f b 0 m + zt f 0 m else zs f b 0 m) * zA f n b + (if b.testBit m then zs f b 1 m + zt f 1 m else zs f b 1 m) * zBb f n b + (if b.testBit m then zs f b 2 m + zt f 2 m else zs f b 2 m) * zC f n b
    by_cases c : b.testBit m = true
    · simp only [if_pos c]
      rw [ih]
      show _ + (fK f m).toInt * (zA f n b + zBb f n b * (fX f m).toInt + zC f n b * (fY f m).toInt) = (zs f b 0 m + (fK f m).toInt) * zA f n b + (zs f b 1 m + (fK f m).toInt * (fX f m).toInt) * zBb f n b + (zs f b 2 m + (fK f m).toInt * (fY f m).toInt) * zC f n b
      generalize zA f n b = A
      generalize zBb f n b = B
      generalize zC f n b = C
      grind
    · simp only [if_neg c]
      exact ih
theorem zq_all (f : PF) (n b : Nat) : zq f n b n = zD f n b * (fW f).toInt := by
  rw [zq_eq]
  unfold zA zBb zC zD qD
  generalize zs f b 0 n = a0
  generalize zs f b 1 n = a1
  generalize zs f b 2 n = a2
  generalize zs f b 3 n = a3
  generalize zs f b 4 n = a4
  generalize zs f b 5 n = a5
  grind
theorem zq_le {f : PF} {n b : Nat} : ∀ {m : Nat}, (∀ p, p < m → b.testBit p = true → 0 ≤ (fK f p).toInt * zP f n b (fX f p).toInt (fY f p).toInt) → 0 ≤ zq f n b m ∧ ∀ p, p < m → b.testBit p = true → (fK f p).toInt * zP f n b (fX f p).toInt (fY f p).toInt ≤ zq f n b m
  | 0, _ => ⟨Int.le_refl _, fun p hp => absurd hp (Nat.not_lt_zero p)⟩
  | m + 1, h => by
    obtain ⟨i1, i2⟩ := zq_le (m := m) (fun p hp hb => h p (by omega) hb)
    have e : zq f n b (m + 1) = if b.testBit m then zq f n b m + (fK f m).toInt * zP f n b (fX f m).toInt (fY f m).toInt else zq f n b m := rfl
    by_cases c : b.testBit m = true
    · rw [e, if_pos c]
      have hm := h m (by omega) c
      refine ⟨by omega, fun p hp hb => ?_⟩
      by_cases e2 : p = m
      · subst e2; omega
      · have := i2 p (by omega) hb; omega
    · rw [e, if_neg c]
      refine ⟨i1, fun p hp hb => ?_⟩
      by_cases e2 : p = m
      · subst e2; exact absurd hb c
      · exact i2 p (by omega) hb
/-- a settled distribution: the shares are between 0 and the load -/
theorem settled_int {f : PF} {n a : Nat} (h : PB f n) (hn : n ≤ 9) (hl : LB f) (hD : ¬ DD f n a = 0) (hp : pul (TT f n a) a n = none) : 0 < (DD f n a).toInt ∧ (DD f n a).toInt ≤ 20920706406 ∧ 0 ≤ (DD f n a).toInt * (fW f).toInt ∧ ∀ p, p < n → 0 ≤ (TS f n a p).toInt ∧ (TS f n a p).toInt ≤ 3600000000000 ∧ (TS f n a p).toInt ≤ (DD f n a).toInt * (fW f).toInt := by
  have hz := DD_int (b := a) h hn
  have hb := zD_b (b := a) h hn
  have h0 : 0 ≤ zD f n a := (z_pos h).2.2
  have h1 : ¬ (DD f n a).toInt = 0 := fun q => hD (Int64.toInt_inj.mp q)
  have hT : ∀ p, p < n → a.testBit p = true → 0 ≤ (fK f p).toInt * zP f n a (fX f p).toInt (fY f p).toInt := fun p hp2 c => by
    have := pul_no hp p hp2 c
    rw [Int64.le_iff_toInt_le, (TT_int h hn hl hp2).1] at this
    exact this
  obtain ⟨q1, q2⟩ := zq_le (n := n) hT
  rw [zq_all, ← hz] at q1 q2
  refine ⟨by omega, by omega, q1, fun p hp2 => ?_⟩
  unfold TS
  by_cases c : a.testBit p = true
  · rw [if_pos c]
    obtain ⟨t1, t2⟩ := TT_int (b := a) h hn hl hp2
    have := hT p hp2 c
    have := q2 p hp2 c
    exact ⟨by omega, by omega, by omega⟩
  · rw [if_neg c]
    have : (0 : Int64).toInt = 0 := rfl
    exact ⟨by omega, by omega, by omega⟩
