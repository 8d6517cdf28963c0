/-! ===== fractions: both sides go Euclid's way; some 90 steps are enough ===== -/
theorem div_int {x y : Int64} {X Y : Nat} (hx : x.toInt = X) (hy : y.toInt = Y) (h0 : 0 < Y) : (x / y).toInt = ((X / Y : Nat) : Int) ∧ (x - x / y * y).toInt = ((X % Y : Nat) : Int) := by
  have hX : X < 2 ^ 63 := by have := Int64.toInt_lt x; rw [hx] at this; omega
  have h1 : X / Y ≤ X := Nat.div_le_self X Y
  have e1 : (x / y).toInt = ((X / Y : Nat) : Int) := by
    rw [Int64.toInt_div, hx, hy]
    rw [show ((X : Int).tdiv (Y : Int)) = ((X / Y : Nat) : Int) from Int.ofNat_tdiv X Y ▸ rfl]
    exact bm64 (by rw [Int.natAbs_natCast]; omega)
  refine ⟨e1, ?_⟩
  have h2 : X / Y * Y ≤ X := Nat.div_mul_le_self X Y
  have e2 : (x / y * y).toInt = ((X / Y * Y : Nat) : Int) := by
    rw [Int64.toInt_mul, e1, hy, ← Int.natCast_mul]
    exact bm64 (by omega)
  have h3 : X % Y = X - X / Y * Y := by
    have := Nat.mod_eq_sub_div_mul (x := X) (k := Y)
    exact this
  rw [Int64.toInt_sub, e2, hx, h3]
  have : (X : Int) - ((X / Y * Y : Nat) : Int) = ((X - X / Y * Y : Nat) : Int) := by omega
  rw [this]
  exact bm64 (by omega)
theorem half_mod {X Y : Nat} (h0 : 0 < Y) (h : Y ≤ X) : 2 * (X % Y) < X + 1 ∧ X % Y < Y := by
  have h1 := Nat.mod_lt X h0
  have h2 := Nat.div_add_mod X Y
  have h3 : 1 ≤ X / Y := Nat.div_pos h h0
  have h4 : Y * 1 ≤ Y * (X / Y) := Nat.mul_le_mul_left Y h3
  refine ⟨?_, h1⟩
  omega
/-- how many steps are left -/
def St (s X Y a b : Nat) : Prop := X < 2 ^ a ∧ Y < 2 ^ b ∧ ((Y ≤ X ∧ a + b ≤ s) ∨ a + b + 1 ≤ s)
theorem St.pos {s X Y a b : Nat} (h : St s X Y a b) (h0 : 0 < Y) : 1 ≤ s := by
  obtain ⟨h1, h2, h3 | h3⟩ := h
  · by_cases e : a = 0
    · subst e
      have : (2 : Nat) ^ 0 = 1 := rfl
      omega
    · omega
  · omega
theorem St.step {s X Y a b : Nat} (h : St (s + 1) X Y a b) (h0 : 0 < Y) : ∃ a2 b2, St s Y (X % Y) a2 b2 := by
  obtain ⟨h1, h2, h3⟩ := h
  by_cases c : Y ≤ X
  · obtain ⟨m1, m2⟩ := half_mod h0 c
    have ha : ¬ a = 0 := fun e => by
      subst e
      have : (2 : Nat) ^ 0 = 1 := rfl
      omega
    obtain ⟨a1, rfl⟩ : ∃ j, a = j + 1 := ⟨a - 1, by omega⟩
    have hp : (2 : Nat) ^ (a1 + 1) = 2 * 2 ^ a1 := by rw [Nat.pow_succ]; omega
    refine ⟨b, a1, h2, by omega, Or.inl ⟨by omega, ?_⟩⟩
    rcases h3 with h3 | h3
    · omega
    · omega
  · have e : X % Y = X := Nat.mod_eq_of_lt (by omega)
    rw [e]
    refine ⟨b, a, h2, h1, Or.inl ⟨by omega, ?_⟩⟩
    rcases h3 with h3 | h3
    · omega
    · omega
theorem l_zero {y : Int64} {Y : Nat} (hy : y.toInt = Y) : y = 0 ↔ Y = 0 := by
  constructor
  · intro h
    subst h
    have : (0 : Int64).toInt = 0 := rfl
    omega
  · intro h
    apply Int64.toInt_inj.mp
    rw [hy, h]
    rfl
theorem gcd_loop : ∀ (s : Nat) (x y : Int64) (X Y a b k j : Nat), x.toInt = X → y.toInt = Y → St s X Y a b → s < k → j + s ≤ 100 → ∃ (g : Int64) (j2 : Int32), g.toInt = ((Nat.gcd X Y : Nat) : Int) ∧ lp_X5_common_17 k x y = some (g, 0) ∧ lp_X4_commonDivisor_3 k x y (nI j) = some (g, 0, j2) := by
  intro s
  induction s with
  | zero =>
    intro x y X Y a b k j hx hy hs hk hj
    obtain ⟨k, rfl⟩ : ∃ i, k = i + 1 := ⟨k - 1, by omega⟩
    have hY : Y = 0 := by
      by_cases c : Y = 0
      · exact c
      · have := hs.pos (by omega); omega
    have y0 : y = 0 := (l_zero hy).mpr hY
    subst y0
    refine ⟨x, nI j, by rw [hY, Nat.gcd_zero_right]; exact hx, by rw [lp_X5_common_17, if_pos rfl], ?_⟩
    rw [lp_X4_commonDivisor_3, if_pos rfl]
    split <;> rfl
  | succ s ih =>
    intro x y X Y a b k j hx hy hs hk hj
    obtain ⟨k, rfl⟩ : ∃ i, k = i + 1 := ⟨k - 1, by omega⟩
    by_cases c : Y = 0
    · have y0 : y = 0 := (l_zero hy).mpr c
      subst y0
      refine ⟨x, nI j, by rw [c, Nat.gcd_zero_right]; exact hx, by rw [lp_X5_common_17, if_pos rfl], ?_⟩
      rw [lp_X4_commonDivisor_3, if_pos rfl]
      split <;> rfl
    · have y0 : ¬ y = 0 := fun q => c ((l_zero hy).mp q)
      obtain ⟨d1, d2⟩ := div_int hx hy (by omega)
      obtain ⟨a2, b2, hs2⟩ := hs.step (by omega)
      obtain ⟨g, j2, g1, g2, g3⟩ := ih y (x - x / y * y) Y (X % Y) a2 b2 k (j + 1) hy d2 hs2 (by omega) (by omega)
      have hjj : ¬ (100 : Int32) ≤ nI j := nI_ge (b := 100) (by omega) (by decide)
      refine ⟨g, j2, ?_, ?_, ?_⟩
      · rw [g1, Nat.gcd_comm Y (X % Y), ← Nat.gcd_rec, Nat.gcd_comm]
      · rw [lp_X5_common_17, if_neg y0, dzL, if_neg y0]; exact g2
      · rw [lp_X4_commonDivisor_3, if_neg hjj, if_neg y0, dzL, if_neg y0, nI_1]; exact g3
theorem st_42 {X Y : Nat} (hX : X < 2 ^ 42) (hY : Y < 2 ^ 42) : St 85 X Y 42 42 := ⟨hX, hY, Or.inr (by omega)⟩
theorem abs_l {a : Int64} (ha : a.toInt.natAbs < 2 ^ 42) : (if 0 < a then a else -a) = (if 0 ≤ a then a else -a) ∧ (if 0 ≤ a then a else -a).toInt = ((a.toInt.natAbs : Nat) : Int) := by
  have z : (0 : Int64).toInt = 0 := rfl
  have hn : (-a).toInt = -a.toInt := by
    rw [Int64.toInt_neg]
    exact bm64 (by omega)
  by_cases c : 0 < a
  · have c2 : 0 ≤ a := Int64.le_of_lt c
    rw [if_pos c, if_pos c2]
    have := Int64.lt_iff_toInt_lt.mp c
    exact ⟨rfl, by omega⟩
  · rw [if_neg c]
    have h1 := Int64.le_iff_toInt_le.mp (Int64.not_lt.mp c)
    by_cases c2 : 0 ≤ a
    · rw [if_pos c2]
      have h2 := Int64.le_iff_toInt_le.mp c2
      have e : a = 0 := Int64.toInt_inj.mp (by omega)
      subst e
      exact ⟨rfl, rfl⟩
    · rw [if_neg c2]
      exact ⟨rfl, by omega⟩
theorem common_eq {a b : Int64} (ha : a.toInt.natAbs < 2 ^ 42) (hb : 0 ≤ b.toInt) (hb2 : b.toInt < 2 ^ 42) : ∃ g : Int64, g.toInt = ((Nat.gcd a.toInt.natAbs b.toInt.natAbs : Nat) : Int) ∧ f_X5_common a b = some g ∧ f_X4_commonDivisor (if 0 < a then a else -a) (if 0 < b then b else -b) = some g := by
  obtain ⟨a1, a2⟩ := abs_l ha
  obtain ⟨b1, b2⟩ := abs_l (a := b) (by omega)
  have eb : (if 0 ≤ b then b else -b) = b := if_pos (by rw [Int64.le_iff_toInt_le]; exact hb)
  rw [eb] at b1 b2
  obtain ⟨g, j2, g1, g2, g3⟩ := gcd_loop 85 (if 0 ≤ a then a else -a) b a.toInt.natAbs b.toInt.natAbs 42 42 1000 0 a2 b2 (st_42 ha (by omega)) (by omega) (by omega)
  refine ⟨g, g1, ?_, ?_⟩
  · have e : (if 0 ≤ a then some a else some (-a) : Option Int64) = some (if 0 ≤ a then a else -a) := by split <;> rfl
    rw [f_X5_common, e, Option.bind_some, g2]
    rfl
  · rw [a1, b1, f_X4_commonDivisor, show (0 : Int32) = nI 0 from rfl, g3]
    rfl
theorem part_eq {a b : Int64} (ha : a.toInt.natAbs < 2 ^ 42) (hb : 0 < b.toInt) (hb2 : b.toInt < 2 ^ 42) (w : Int32) : ∃ r, f_X4_inLowestTerms a b w = some r ∧ f_X5_part a b w = some r := by
  obtain ⟨g, g1, g2, g3⟩ := common_eq ha (by omega) hb2
  have hg : ¬ g = 0 := fun q => by
    rw [q] at g1
    have : (0 : Int64).toInt = 0 := rfl
    have := Nat.gcd_pos_of_pos_right a.toInt.natAbs (show 0 < b.toInt.natAbs by omega)
    omega
  rw [f_X4_inLowestTerms, f_X5_part, g2, g3, Option.bind_some, Option.bind_some, if_neg hg, dzL, if_neg hg, dzL, if_neg hg]
  by_cases c : w = 0
  · rw [if_pos c]; exact ⟨_, rfl, rfl⟩
  · rw [if_neg c]; exact ⟨_, rfl, rfl⟩
theorem part_swap {a b : Int64} (ha : 0 < a.toInt) (ha2 : a.toInt < 2 ^ 42) (hb : 0 < b.toInt) (hb2 : b.toInt < 2 ^ 42) {w : Int32} (hw : w = 0 ∨ w = 1) : ∃ r, f_X4_inLowestTerms b a w = some r ∧ f_X5_part a b (1 - w) = some r := by
  obtain ⟨g, g1, g2, -⟩ := common_eq (a := a) (b := b) (by omega) (by omega) hb2
  obtain ⟨h, h1, -, h3⟩ := common_eq (a := b) (b := a) (by omega) (by omega) ha2
  have e : h = g := Int64.toInt_inj.mp (by rw [g1, h1, Nat.gcd_comm])
  subst e
  have hg : ¬ h = 0 := fun q => by
    rw [q] at g1
    have : (0 : Int64).toInt = 0 := rfl
    have := Nat.gcd_pos_of_pos_right a.toInt.natAbs (show 0 < b.toInt.natAbs by omega)
    omega
  rw [f_X4_inLowestTerms, f_X5_part, g2, h3, Option.bind_some, Option.bind_some, if_neg hg, dzL, if_neg hg, dzL, if_neg hg]
  rcases hw with rfl | rfl
  · exact ⟨_, if_pos rfl, if_neg (by decide)⟩
  · exact ⟨_, if_neg (by decide), if_pos (by decide)⟩
theorem cmp_loop : ∀ (s : Nat) (x y u v : Int64) (X Y U V a b k j : Nat) (sg : Int32), x.toInt = X → y.toInt = Y → u.toInt = U → v.toInt = V → 0 < Y → 0 < V → St s X Y a b → s < k → j + s ≤ 99 → ∃ r : Int32, Option.bind (lp_X5_against_17 k x y u v sg) (Sum.elim (fun r => some r) (fun z4 => if z4.1 = z4.2.2.1 then some 0 else if z4.1 = 0 then some (-z4.2.2.2.2) else some z4.2.2.2.2)) = some r ∧ lp_X4_compareFractions_6 k x y u v sg (nI j) = some (.inl r) := by
  intro s
  induction s with
  | zero =>
    intro x y u v X Y U V a b k j sg hx hy hu hv h0 h1 hs hk hj
    have := hs.pos h0
    omega
  | succ s ih =>
    intro x y u v X Y U V a b k j sg hx hy hu hv h0 h1 hs hk hj
    obtain ⟨k, rfl⟩ : ∃ i, k = i + 1 := ⟨k - 1, by omega⟩
    have y0 : ¬ y = 0 := fun q => by have := (l_zero hy).mp q; omega
    have v0 : ¬ v = 0 := fun q => by have := (l_zero hv).mp q; omega
    obtain ⟨d1, d2⟩ := div_int hx hy h0
    obtain ⟨d3, d4⟩ := div_int hu hv h1
    have hjj : ¬ (100 : Int32) ≤ nI j := nI_ge (b := 100) (by omega) (by decide)
    rw [lp_X5_against_17, lp_X4_compareFractions_6, if_neg hjj, if_neg y0, if_neg v0]
    simp only [dzL, if_neg y0, if_neg v0]
    by_cases cq : x / y = u / v
    · rw [if_pos cq, if_pos cq]
      by_cases c1 : x - x / y * y = 0
      · rw [if_pos c1, if_pos c1]
        by_cases c2 : x - x / y * y = u - u / v * v
        · refine ⟨0, ?_, ?_⟩
          · show (if x - x / y * y = u - u / v * v then some 0 else _) = _
            rw [if_pos c2]
          · rw [f_J13_compare_74951, c2, if_pos (Int64.le_refl _), if_pos rfl, Option.bind_some, Int32.mul_zero]
        · refine ⟨-sg, ?_, ?_⟩
          · show (if x - x / y * y = u - u / v * v then some 0 else if x - x / y * y = 0 then some (-sg) else some sg) = _
            rw [if_neg c2, if_pos c1]
          · have hn : ¬ u - u / v * v ≤ x - x / y * y := fun q => by
              rw [Int64.le_iff_toInt_le, d2, d4] at q
              have z1 := (l_zero d2).mp c1
              exact c2 (Int64.toInt_inj.mp (by rw [d2, d4]; omega))
            rw [f_J13_compare_74951, if_neg hn, Option.bind_some, show sg * -1 = -sg by rw [Int32.mul_neg, Int32.mul_one]]
      · rw [if_neg c1, if_neg c1]
        by_cases c2 : u - u / v * v = 0
        · rw [if_pos c2, if_pos c2]
          have c3 : ¬ x - x / y * y = u - u / v * v := fun q => c1 (q.trans c2)
          refine ⟨sg, ?_, ?_⟩
          · show (if x - x / y * y = u - u / v * v then some 0 else if x - x / y * y = 0 then some (-sg) else some sg) = _
            rw [if_neg c3, if_neg c1]
          · have hn : u - u / v * v ≤ x - x / y * y := by
              rw [Int64.le_iff_toInt_le, d2, d4]
              have z1 := (l_zero d4).mp c2
              omega
            rw [f_J13_compare_74951, if_pos hn, if_neg c3, Option.bind_some, Int32.mul_one]
        · rw [if_neg c2, if_neg c2]
          obtain ⟨a2, b2, hs2⟩ := hs.step h0
          have p1 : 0 < X % Y := by
            have : ¬ X % Y = 0 := fun q => c1 ((l_zero d2).mpr q)
            omega
          have p2 : 0 < U % V := by
            have : ¬ U % V = 0 := fun q => c2 ((l_zero d4).mpr q)
            omega
          rw [nI_1]
          exact ih y (x - x / y * y) v (u - u / v * v) Y (X % Y) V (U % V) a2 b2 k (j + 1) (-sg) hy d2 hv d4 p1 p2 hs2 (by omega) (by omega)
    · rw [if_neg cq, if_neg cq]
      by_cases c : x / y ≤ u / v
      · have c2 : ¬ u / v ≤ x / y := fun q => cq (Int64.le_antisymm c q)
        rw [if_pos c, if_neg c2]
        exact ⟨-sg, rfl, rfl⟩
      · have c2 : u / v ≤ x / y := by
          rw [Int64.le_iff_toInt_le] at c ⊢
          omega
        rw [if_neg c, if_pos c2]
        exact ⟨sg, rfl, rfl⟩
theorem cmp_eq {x y u v : Int64} (hx : 0 ≤ x.toInt) (hx2 : x.toInt < 2 ^ 42) (hy : 0 < y.toInt) (hy2 : y.toInt < 2 ^ 42) (hu : 0 ≤ u.toInt) (hv : 0 < v.toInt) : ∃ r : Int32, f_X5_against x y u v = some r ∧ f_X4_compareFractions x y u v = some r := by
  obtain ⟨r, r1, r2⟩ := cmp_loop 85 x y u v x.toInt.toNat y.toInt.toNat u.toInt.toNat v.toInt.toNat 42 42 1000 0 1 (by omega) (by omega) (by omega) (by omega) (by omega) (by omega) (st_42 (by omega) (by omega)) (by omega) (by omega)
  refine ⟨r, r1, ?_⟩
  rw [f_X4_compareFractions, show (0 : Int32) = nI 0 from rfl, r2]
  rfl
/-- rounded down: both sides divide -/
theorem down_eq {x y : Int64} (hx : 0 ≤ x.toInt) (hy : 0 < y.toInt) : f_J9_floorDiv_f86c9 x y = some (x / y) ∧ (x / y).toInt = x.toInt / y.toInt := by
  have y0 : ¬ y = 0 := fun q => by rw [q] at hy; exact absurd hy (by decide)
  have hd := (div_int (x := x) (y := y) (X := x.toInt.toNat) (Y := y.toInt.toNat) (by omega) (by omega) (by omega)).1
  have e : (0 : Int64) ≤ x ^^^ y := by
    rw [Int64.le_iff_toInt_le]
    have z : (0 : Int64).toInt = 0 := rfl
    have : 0 ≤ (x.toBitVec ^^^ y.toBitVec).toInt := by
      have m1 : x.toBitVec.msb = false := by
        cases c : x.toBitVec.msb
        · rfl
        · have := BitVec.toInt_neg_iff.mpr (BitVec.msb_eq_true_iff_two_mul_ge.mp c)
          have h2 : x.toBitVec.toInt = x.toInt := rfl
          omega
      have m2 : y.toBitVec.msb = false := by
        cases c : y.toBitVec.msb
        · rfl
        · have := BitVec.toInt_neg_iff.mpr (BitVec.msb_eq_true_iff_two_mul_ge.mp c)
          have h2 : y.toBitVec.toInt = y.toInt := rfl
          omega
      have m3 : (x.toBitVec ^^^ y.toBitVec).msb = false := by
        rw [BitVec.msb_xor, m1, m2]; rfl
      have := BitVec.msb_eq_false_iff_two_mul_lt.mp m3
      rw [BitVec.toInt_eq_toNat_of_msb m3]
      omega
    exact this
  refine ⟨?_, ?_⟩
  · rw [f_J9_floorDiv_f86c9, dzL, if_neg y0, if_pos e]
  · rw [hd]
    have h1 : (x.toInt.toNat : Int) = x.toInt := by omega
    have h2 : (y.toInt.toNat : Int) = y.toInt := by omega
    rw [Int.natCast_ediv, h1, h2]
