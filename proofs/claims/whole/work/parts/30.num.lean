/-! ===== PURE PART: no machine from here on; the functions f_.. of the class and of the reference answer alike ===== -/
theorem nI_mul (a b : Nat) : nI a * nI b = nI (a * b) := (Int32.ofNat_mul a b).symm
theorem nI_inj {a b : Nat} (ha : a < 2 ^ 31) (hb : b < 2 ^ 31) (h : nI a = nI b) : a = b := by
  have h1 := nI_toInt ha
  rw [h, nI_toInt hb] at h1
  omega
theorem nI_lt_iff {a b : Nat} (ha : a < 2 ^ 31) (hb : b < 2 ^ 31) : nI a < nI b ↔ a < b := by
  rw [Int32.lt_iff_toInt_lt, nI_toInt ha, nI_toInt hb]; omega
theorem nI_le_iff {a b : Nat} (ha : a < 2 ^ 31) (hb : b < 2 ^ 31) : nI a ≤ nI b ↔ a ≤ b := by
  rw [Int32.le_iff_toInt_le, nI_toInt ha, nI_toInt hb]; omega
theorem ck_nI {α : Type} {p n : Nat} {k : Option α} (h : p < n) (hn : n < 2 ^ 31) : ck (nI p) n k = k := ck_ok (vp_in_nI h hn)
/-- an int between two bounds -/
def IR (a b : Int) (x : Int32) : Prop := a ≤ x.toInt ∧ x.toInt ≤ b
theorem IR.nat {n : Nat} {x : Int32} (h : IR 0 n x) (hn : n < 2 ^ 31) : ∃ k : Nat, k ≤ n ∧ x = nI k := by
  refine ⟨x.toInt.toNat, by have := h.1; have := h.2; omega, ?_⟩
  apply Int32.toInt_inj.mp
  rw [nI_toInt (by have := h.1; have := h.2; omega)]
  have := h.1
  omega
theorem sI_same (o : OS) (k : Nat) (v : Int32) : (sI o k v).1 k = v := by simp [sI, va_up]
theorem sI_ne (o : OS) (k j : Nat) (v : Int32) (h : j ≠ k) : (sI o k v).1 j = o.1 j := by simp [sI, va_up, h]
theorem sL_same (o : OS) (k : Nat) (v : Int64) : (sL o k v).2.1 k = v := by simp [sL, va_up]
theorem sL_ne (o : OS) (k j : Nat) (v : Int64) (h : j ≠ k) : (sL o k v).2.1 j = o.2.1 j := by simp [sL, va_up, h]
theorem sI_l (o : OS) (k : Nat) (v : Int32) : (sI o k v).2 = o.2 := rfl
theorem sL_i (o : OS) (k : Nat) (v : Int64) : (sL o k v).1 = o.1 := rfl
theorem sL_a (o : OS) (k : Nat) (v : Int64) : (sL o k v).2.2 = o.2.2 := rfl
theorem sA_i (o : OS) (k i : Nat) (v : Int32) : (sA o k i v).1 = o.1 := rfl
theorem sA_l (o : OS) (k i : Nat) (v : Int32) : (sA o k i v).2.1 = o.2.1 := rfl
theorem sA_ne (o : OS) (k j i : Nat) (v : Int32) (h : j ≠ k) : (sA o k i v).2.2 j = o.2.2 j := by simp [sA, va_up, h]
theorem sA_same (o : OS) (k i : Nat) (v : Int32) : (sA o k i v).2.2 k = upd (o.2.2 k) i v := by simp [sA, va_up]
theorem upd_same (f : Nat → Int32) (i : Nat) (v : Int32) : upd f i v i = v := by simp [upd]
theorem upd_ne (f : Nat → Int32) (i j : Nat) (v : Int32) (h : j ≠ i) : upd f i v j = f j := by simp [upd, h]
/-! the state that lasts -/
/-- a structure of the class, and a row of 59 ints of the reference, that say the same; n piles, k columns, the set b of intact piles -/
def SRn (o : OS) (S : Nat → Int32) (n k b : Nat) : Prop :=
  n ≤ 8 ∧ k ≤ 5 ∧ b < 2 ^ n ∧ o.1 4 = nI n ∧ S 0 = nI n ∧ o.1 5 = nI b ∧ o.1 9 = nI k ∧ S 41 = nI k ∧ o.1 10 = S 57 ∧ o.1 11 = S 58 ∧ IR (-99) 99 (S 57) ∧ IR (-99) 99 (S 58) ∧
  (∀ p, p < n → o.2.2 0 p = S (1 + 5 * p) ∧ o.2.2 1 p = S (2 + 5 * p) ∧ o.2.2 2 p = S (3 + 5 * p) ∧ o.2.2 3 p = S (4 + 5 * p) ∧ IR (-9) 9 (S (1 + 5 * p)) ∧ IR (-9) 9 (S (2 + 5 * p)) ∧ IR 1 9 (S (3 + 5 * p)) ∧ IR 1 99 (S (4 + 5 * p)) ∧ S (5 + 5 * p) = (if b.testBit p then 0 else 1)) ∧
  (∀ c, c < k → o.2.2 6 c = S (42 + 3 * c) ∧ o.2.2 7 c = S (43 + 3 * c) ∧ o.2.2 8 c = S (44 + 3 * c) ∧ IR (-9) 9 (S (42 + 3 * c)) ∧ IR (-9) 9 (S (43 + 3 * c)) ∧ IR 0 99 (S (44 + 3 * c)))
def SR (o : OS) (S : Nat → Int32) : Prop := ∃ n k b : Nat, SRn o S n k b
def RUndo (oo : OS) (pa : PSt) (om : OS) : Prop := ∃ r : Nat, r ≤ 6 ∧ oo.1 4 = nI r ∧ om.1 2 = nI r ∧ ∀ i, i < r → SR (pa.2 i) (fun j => om.2.2 1 (59 * i + j))
def RKept (oo : OS) (ig : PSt) (om : OS) : Prop := ∀ i, i < 2 → oo.2.2 6 i = om.2.2 4 i ∧ (om.2.2 4 i = 0 ∨ om.2.2 4 i = 1) ∧ (om.2.2 4 i = 1 → SR (ig.2 i) (fun j => om.2.2 3 (59 * i + j)))
def RSight (oo om : OS) : Prop := ∃ t : Nat, t ≤ 6 ∧ oo.1 10 = nI t ∧ om.1 7 = nI t ∧ ∀ i, i < t → oo.2.2 8 i = om.2.2 6 (2 * i) ∧ oo.2.2 9 i = om.2.2 6 (2 * i + 1) ∧ IR 0 7 (om.2.2 6 (2 * i)) ∧ IR 0 999 (om.2.2 6 (2 * i + 1))
def RText (oc om : OS) : Prop := ∃ t : Nat, t ≤ 160 ∧ oc.1 1 = nI t ∧ om.1 9 = nI t ∧ ∀ i, i < t → oc.2.2 0 i = om.2.2 8 i ∧ IR 0 255 (om.2.2 8 i)
def Rel (oo on oc : OS) (pa ig : PSt) (om : OS) : Prop := SR on (om.2.2 0) ∧ RUndo oo pa om ∧ RKept oo ig om ∧ (oo.1 7 = om.1 5 ∧ IR 1 99 (om.1 5)) ∧ RSight oo om ∧ RText oc om
/-- what lasts of the reference is the same -/
def PE (om om2 : OS) : Prop := om2.2.2 0 = om.2.2 0 ∧ om2.2.2 1 = om.2.2 1 ∧ om2.2.2 3 = om.2.2 3 ∧ om2.2.2 4 = om.2.2 4 ∧ om2.2.2 6 = om.2.2 6 ∧ om2.2.2 8 = om.2.2 8 ∧ om2.1 2 = om.1 2 ∧ om2.1 5 = om.1 5 ∧ om2.1 7 = om.1 7 ∧ om2.1 9 = om.1 9
theorem PE.rfl {om : OS} : PE om om := ⟨Eq.refl _, Eq.refl _, Eq.refl _, Eq.refl _, Eq.refl _, Eq.refl _, Eq.refl _, Eq.refl _, Eq.refl _, Eq.refl _⟩
theorem PE.trans {a b c : OS} (h : PE a b) (g : PE b c) : PE a c := by
  obtain ⟨h1, h2, h3, h4, h5, h6, h7, h8, h9, h10⟩ := h
  obtain ⟨g1, g2, g3, g4, g5, g6, g7, g8, g9, g10⟩ := g
  exact ⟨g1.trans h1, g2.trans h2, g3.trans h3, g4.trans h4, g5.trans h5, g6.trans h6, g7.trans h7, g8.trans h8, g9.trans h9, g10.trans h10⟩
theorem Rel.pe {oo on oc : OS} {pa ig : PSt} {om om2 : OS} (h : Rel oo on oc pa ig om) (e : PE om om2) : Rel oo on oc pa ig om2 := by
  obtain ⟨e1, e2, e3, e4, e5, e6, e7, e8, e9, e10⟩ := e
  unfold Rel RUndo RKept RSight RText at *
  rw [e1, e2, e3, e4, e5, e6, e7, e8, e9, e10]
  exact h
/-! at the start -/
theorem SR_z0 : SR z0 (z0.2.2 0) := ⟨0, 0, 0, by omega, by omega, by decide, rfl, rfl, rfl, rfl, rfl, rfl, rfl, by unfold IR; decide, by unfold IR; decide, fun p h => absurd h (Nat.not_lt_zero p), fun p h => absurd h (Nat.not_lt_zero p)⟩
theorem Rel_start (pd gd : Nat → Nat × (Nat → Nat)) : Rel (sI z0 7 10) z0 z0 (pd, fun _ => z0) (gd, fun _ => z0) (sI z0 5 10) := by
  refine ⟨SR_z0, ⟨0, by omega, rfl, rfl, fun i h => absurd h (Nat.not_lt_zero i)⟩, fun i h => ⟨rfl, Or.inl rfl, fun q => absurd (show (0 : Int32) = 1 from q) (by decide)⟩, ⟨rfl, by unfold IR; decide⟩, ⟨0, by omega, rfl, rfl, fun i h => absurd h (Nat.not_lt_zero i)⟩, ⟨0, by omega, rfl, rfl, fun i h => absurd h (Nat.not_lt_zero i)⟩⟩
