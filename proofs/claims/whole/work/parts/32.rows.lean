theorem sR_same (o : OS) (k : Nat) (f : Nat → Int32) : (sR o k f).2.2 k = f := by simp [sR, va_up]
theorem sR_ne (o : OS) (k j : Nat) (f : Nat → Int32) (h : j ≠ k) : (sR o k f).2.2 j = o.2.2 j := by simp [sR, va_up, h]
theorem sR_i (o : OS) (k : Nat) (f : Nat → Int32) : (sR o k f).1 = o.1 := rfl
theorem va_up_up {α : Type} (f : Nat → α) (k : Nat) (v w : α) : va_up (va_up f k v) k w = va_up f k w := by
  funext j
  unfold va_up
  by_cases h : j = k
  · rw [if_pos h, if_pos h]
  · rw [if_neg h, if_neg h, if_neg h]
theorem va_up_id {α : Type} (f : Nat → α) (k : Nat) : va_up f k (f k) = f := by
  funext j
  unfold va_up
  by_cases h : j = k
  · rw [if_pos h, h]
  · rw [if_neg h]
theorem sA_sR (o : OS) (k i : Nat) (f : Nat → Int32) (v : Int32) : sA (sR o k f) k i v = sR o k (upd f i v) := by
  unfold sA sR
  simp only [va_up_up]
  rw [va_up_self]
theorem sR_id (o : OS) (k : Nat) : sR o k (o.2.2 k) = o := by
  unfold sR
  rw [va_up_id]
theorem cpy_0 (f g : Nat → Int32) (sp dp : Nat) : va_cpy f g sp dp 0 = g := by
  funext k
  unfold va_cpy
  rw [if_neg (by omega)]
theorem cpy_step (f g : Nat → Int32) (sp dp v : Nat) : upd (va_cpy f g sp dp v) (dp + v) (f (sp + v)) = va_cpy f g sp dp (v + 1) := by
  funext k
  unfold upd va_cpy
  by_cases h : k = dp + v
  · subst h
    rw [if_pos rfl, if_pos (by omega)]
    congr 1
    omega
  · rw [if_neg h]
    by_cases h2 : dp ≤ k ∧ k < dp + v
    · rw [if_pos h2, if_pos (by omega)]
    · rw [if_neg h2, if_neg (by omega)]
theorem cpy_in {f g : Nat → Int32} {sp dp n k : Nat} (h : k < n) : va_cpy f g sp dp n (dp + k) = f (sp + k) := by
  unfold va_cpy
  rw [if_pos (by omega)]
  congr 1
  omega
theorem cpy_out {f g : Nat → Int32} {sp dp n k : Nat} (h : k < dp ∨ dp + n ≤ k) : va_cpy f g sp dp n k = g k := by
  unfold va_cpy
  rw [if_neg (by omega)]
theorem w_notes_51 {om : OS} {r : Nat} (hr : om.1 2 = nI r) (hr6 : 59 * r + 59 ≤ 354) : ∀ (m v n : Nat), v + m = 59 → m < n → lp_X5_notes_51 n (nI v) (sR om 1 (va_cpy (om.2.2 0) (om.2.2 1) (0) (59 * r) v)) = some (nI 59, (sR om 1 (va_cpy (om.2.2 0) (om.2.2 1) (0) (59 * r) 59))) := by
  intro m
  induction m with
  | zero =>
    intro v n hv hn
    obtain ⟨n, rfl⟩ : ∃ j, n = j + 1 := ⟨n - 1, by omega⟩
    have : v = 59 := by omega
    subst this
    rw [lp_X5_notes_51, if_pos (show (59 : Int32) ≤ nI 59 from nI_le (a := 59) (Nat.le_refl _) (by decide))]
  | succ m ih =>
    intro v n hv hn
    obtain ⟨n, rfl⟩ : ∃ j, n = j + 1 := ⟨n - 1, by omega⟩
    have c1 : ¬ (59 : Int32) ≤ nI v := nI_ge (b := 59) (by omega) (by decide)
    have eb : (59 : Int32) * nI r + nI v = nI (59 * r + v) := by rw [show (59 : Int32) = nI 59 from rfl, nI_mul, nI_add]
    have k1 : ∀ k : Option (Int32 × OS), ck (nI (59 * r + v)) 354 k = k := fun k => ck_nI (by omega) (by omega)
    have k2 : ∀ k : Option (Int32 × OS), ck (nI v) 59 k = k := fun k => ck_nI (by omega) (by omega)
    have t1 : (nI (59 * r + v)).toNatClampNeg = 59 * r + v := nI_clamp (by omega)
    have t2 : (nI v).toNatClampNeg = v := nI_clamp (by omega)
    rw [lp_X5_notes_51, if_neg c1]
    simp only [sR_i, hr, eb, k1, k2, lt, t1, t2, sR_ne _ 1 0 _ (by decide)]
    have st := cpy_step (om.2.2 0) (om.2.2 1) (0) (59 * r) v
    simp only [Nat.zero_add] at st
    rw [sA_sR, st, show nI v + 1 = nI (v + 1) from (nI_succ v).symm]
    have h9 := ih (v + 1) n (by omega) (by omega)
    exact h9
theorem w_undo_22 {om : OS} {r : Nat} (hr : om.1 2 = nI r) (hr6 : 59 * r + 59 ≤ 354) : ∀ (m v n : Nat), v + m = 59 → m < n → lp_X5_undo_22 n (nI v) (sR om 0 (va_cpy (om.2.2 1) (om.2.2 0) (59 * r) (0) v)) = some (nI 59, (sR om 0 (va_cpy (om.2.2 1) (om.2.2 0) (59 * r) (0) 59))) := by
  intro m
  induction m with
  | zero =>
    intro v n hv hn
    obtain ⟨n, rfl⟩ : ∃ j, n = j + 1 := ⟨n - 1, by omega⟩
    have : v = 59 := by omega
    subst this
    rw [lp_X5_undo_22, if_pos (show (59 : Int32) ≤ nI 59 from nI_le (a := 59) (Nat.le_refl _) (by decide))]
  | succ m ih =>
    intro v n hv hn
    obtain ⟨n, rfl⟩ : ∃ j, n = j + 1 := ⟨n - 1, by omega⟩
    have c1 : ¬ (59 : Int32) ≤ nI v := nI_ge (b := 59) (by omega) (by decide)
    have eb : (59 : Int32) * nI r + nI v = nI (59 * r + v) := by rw [show (59 : Int32) = nI 59 from rfl, nI_mul, nI_add]
    have k1 : ∀ k : Option (Int32 × OS), ck (nI (59 * r + v)) 354 k = k := fun k => ck_nI (by omega) (by omega)
    have k2 : ∀ k : Option (Int32 × OS), ck (nI v) 59 k = k := fun k => ck_nI (by omega) (by omega)
    have t1 : (nI (59 * r + v)).toNatClampNeg = 59 * r + v := nI_clamp (by omega)
    have t2 : (nI v).toNatClampNeg = v := nI_clamp (by omega)
    rw [lp_X5_undo_22, if_neg c1]
    simp only [sR_i, hr, eb, k1, k2, lt, t1, t2, sR_ne _ 0 1 _ (by decide)]
    have st := cpy_step (om.2.2 1) (om.2.2 0) (59 * r) (0) v
    simp only [Nat.zero_add] at st
    rw [sA_sR, st, show nI v + 1 = nI (v + 1) from (nI_succ v).symm]
    have h9 := ih (v + 1) n (by omega) (by omega)
    exact h9
theorem w_keep_13 {om : OS} {r : Nat} (hr6 : 59 * r + 59 ≤ 118) : ∀ (m v n : Nat), v + m = 59 → m < n → lp_X5_keep_13 (nI r) n (nI v) (sR om 3 (va_cpy (om.2.2 0) (om.2.2 3) (0) (59 * r) v)) = some (nI 59, (sR om 3 (va_cpy (om.2.2 0) (om.2.2 3) (0) (59 * r) 59))) := by
  intro m
  induction m with
  | zero =>
    intro v n hv hn
    obtain ⟨n, rfl⟩ : ∃ j, n = j + 1 := ⟨n - 1, by omega⟩
    have : v = 59 := by omega
    subst this
    rw [lp_X5_keep_13, if_pos (show (59 : Int32) ≤ nI 59 from nI_le (a := 59) (Nat.le_refl _) (by decide))]
  | succ m ih =>
    intro v n hv hn
    obtain ⟨n, rfl⟩ : ∃ j, n = j + 1 := ⟨n - 1, by omega⟩
    have c1 : ¬ (59 : Int32) ≤ nI v := nI_ge (b := 59) (by omega) (by decide)
    have eb : (59 : Int32) * nI r + nI v = nI (59 * r + v) := by rw [show (59 : Int32) = nI 59 from rfl, nI_mul, nI_add]
    have k1 : ∀ k : Option (Int32 × OS), ck (nI (59 * r + v)) 118 k = k := fun k => ck_nI (by omega) (by omega)
    have k2 : ∀ k : Option (Int32 × OS), ck (nI v) 59 k = k := fun k => ck_nI (by omega) (by omega)
    have t1 : (nI (59 * r + v)).toNatClampNeg = 59 * r + v := nI_clamp (by omega)
    have t2 : (nI v).toNatClampNeg = v := nI_clamp (by omega)
    rw [lp_X5_keep_13, if_neg c1]
    simp only [eb, k1, k2, lt, t1, t2, sR_ne _ 3 0 _ (by decide)]
    have st := cpy_step (om.2.2 0) (om.2.2 3) (0) (59 * r) v
    simp only [Nat.zero_add] at st
    rw [sA_sR, st, show nI v + 1 = nI (v + 1) from (nI_succ v).symm]
    have h9 := ih (v + 1) n (by omega) (by omega)
    exact h9
theorem w_back_25 {om : OS} {r : Nat} (hr6 : 59 * r + 59 ≤ 118) : ∀ (m v n : Nat), v + m = 59 → m < n → lp_X5_back_25 (nI r) n (nI v) (sR om 0 (va_cpy (om.2.2 3) (om.2.2 0) (59 * r) (0) v)) = some (nI 59, (sR om 0 (va_cpy (om.2.2 3) (om.2.2 0) (59 * r) (0) 59))) := by
  intro m
  induction m with
  | zero =>
    intro v n hv hn
    obtain ⟨n, rfl⟩ : ∃ j, n = j + 1 := ⟨n - 1, by omega⟩
    have : v = 59 := by omega
    subst this
    rw [lp_X5_back_25, if_pos (show (59 : Int32) ≤ nI 59 from nI_le (a := 59) (Nat.le_refl _) (by decide))]
  | succ m ih =>
    intro v n hv hn
    obtain ⟨n, rfl⟩ : ∃ j, n = j + 1 := ⟨n - 1, by omega⟩
    have c1 : ¬ (59 : Int32) ≤ nI v := nI_ge (b := 59) (by omega) (by decide)
    have eb : (59 : Int32) * nI r + nI v = nI (59 * r + v) := by rw [show (59 : Int32) = nI 59 from rfl, nI_mul, nI_add]
    have k1 : ∀ k : Option (Int32 × OS), ck (nI (59 * r + v)) 118 k = k := fun k => ck_nI (by omega) (by omega)
    have k2 : ∀ k : Option (Int32 × OS), ck (nI v) 59 k = k := fun k => ck_nI (by omega) (by omega)
    have t1 : (nI (59 * r + v)).toNatClampNeg = 59 * r + v := nI_clamp (by omega)
    have t2 : (nI v).toNatClampNeg = v := nI_clamp (by omega)
    rw [lp_X5_back_25, if_neg c1]
    simp only [eb, k1, k2, lt, t1, t2, sR_ne _ 0 3 _ (by decide)]
    have st := cpy_step (om.2.2 3) (om.2.2 0) (59 * r) (0) v
    simp only [Nat.zero_add] at st
    rw [sA_sR, st, show nI v + 1 = nI (v + 1) from (nI_succ v).symm]
    have h9 := ih (v + 1) n (by omega) (by omega)
    exact h9
/-- the shift of the recorded rows -/
theorem w_notes_11 {om : OS} : ∀ (m v n : Nat), v + m = 295 → m < n → lp_X5_notes_11 n (nI v) (sR om 1 (va_cpy (fun j => om.2.2 1 (j + 59)) (om.2.2 1) 0 0 v)) = some (nI 295, sR om 1 (va_cpy (fun j => om.2.2 1 (j + 59)) (om.2.2 1) 0 0 295)) := by
  intro m
  induction m with
  | zero =>
    intro v n hv hn
    obtain ⟨n, rfl⟩ : ∃ j, n = j + 1 := ⟨n - 1, by omega⟩
    have : v = 295 := by omega
    subst this
    rw [lp_X5_notes_11, if_pos (show (295 : Int32) ≤ nI 295 from nI_le (a := 295) (Nat.le_refl _) (by decide))]
  | succ m ih =>
    intro v n hv hn
    obtain ⟨n, rfl⟩ : ∃ j, n = j + 1 := ⟨n - 1, by omega⟩
    have c1 : ¬ (295 : Int32) ≤ nI v := nI_ge (b := 295) (by omega) (by decide)
    have eb : nI v + (59 : Int32) = nI (v + 59) := nI_add v 59
    have k1 : ∀ k : Option (Int32 × OS), ck (nI (v + 59)) 354 k = k := fun k => ck_nI (by omega) (by omega)
    have k2 : ∀ k : Option (Int32 × OS), ck (nI v) 354 k = k := fun k => ck_nI (by omega) (by omega)
    have t1 : (nI (v + 59)).toNatClampNeg = v + 59 := nI_clamp (by omega)
    have t2 : (nI v).toNatClampNeg = v := nI_clamp (by omega)
    rw [lp_X5_notes_11, if_neg c1]
    simp only [eb, k1, k2, lt, t1, t2, sR_same]
    have st := cpy_step (fun j => om.2.2 1 (j + 59)) (om.2.2 1) 0 0 v
    simp only [Nat.zero_add] at st
    rw [sA_sR, cpy_out (show v + 59 < 0 ∨ 0 + v ≤ v + 59 by omega), st, show nI v + 1 = nI (v + 1) from (nI_succ v).symm]
    exact ih (v + 1) n (by omega) (by omega)
theorem SRn.cg {o : OS} {S T : Nat → Int32} {n k b : Nat} (h : SRn o S n k b) (e : ∀ j, j < 59 → T j = S j) : SRn o T n k b := by
  obtain ⟨h1, h2, h3, h4, h5, h6, h7, h8, h9, h10, h11, h12, h13, h14⟩ := h
  refine ⟨h1, h2, h3, h4, by rw [e 0 (by omega)]; exact h5, h6, h7, by rw [e 41 (by omega)]; exact h8, by rw [e 57 (by omega)]; exact h9, by rw [e 58 (by omega)]; exact h10, by rw [e 57 (by omega)]; exact h11, by rw [e 58 (by omega)]; exact h12, fun p hp => ?_, fun c hc => ?_⟩
  · rw [e (1 + 5 * p) (by omega), e (2 + 5 * p) (by omega), e (3 + 5 * p) (by omega), e (4 + 5 * p) (by omega), e (5 + 5 * p) (by omega)]
    exact h13 p hp
  · rw [e (42 + 3 * c) (by omega), e (43 + 3 * c) (by omega), e (44 + 3 * c) (by omega)]
    exact h14 c hc
theorem SR.cg {o : OS} {S T : Nat → Int32} (h : SR o S) (e : ∀ j, j < 59 → T j = S j) : SR o T := by
  obtain ⟨n, k, b, h⟩ := h
  exact ⟨n, k, b, h.cg e⟩
/-- a copied structure says the same -/
theorem copy_ok (o o2 : OS) : ∃ x, f_X3_copy o o2 = some x ∧ ∀ S n k b, SRn o S n k b → SRn x S n k b := by
  refine ⟨_, rfl, fun S n k b h => ?_⟩
  obtain ⟨h1, h2, h3, h4, h5, h6, h7, h8, h9, h10, h11, h12, h13, h14⟩ := h
  refine ⟨h1, h2, h3, h4, h5, h6, h7, h8, h9, h10, h11, h12, fun p hp => ?_, fun c hc => ?_⟩
  · have h := h13 p hp
    have q : ∀ (f g : Nat → Int32), va_cpy f g 0 0 8 p = f p := fun f g => by
      have := cpy_in (f := f) (g := g) (sp := 0) (dp := 0) (n := 8) (k := p) (by omega)
      simpa using this
    refine ⟨(q _ _).trans h.1, (q _ _).trans h.2.1, (q _ _).trans h.2.2.1, (q _ _).trans h.2.2.2.1, h.2.2.2.2⟩
  · have h := h14 c hc
    have q : ∀ (f g : Nat → Int32), va_cpy f g 0 0 5 c = f c := fun f g => by
      have := cpy_in (f := f) (g := g) (sp := 0) (dp := 0) (n := 5) (k := c) (by omega)
      simpa using this
    refine ⟨(q _ _).trans h.1, (q _ _).trans h.2.1, (q _ _).trans h.2.2.1, h.2.2.2⟩
