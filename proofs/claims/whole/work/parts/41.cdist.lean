/-! the class's Distribution and Plane against the common functions -/
def CP (f : PF) (n : Nat) (od : OS) : Prop := n ≤ 9 ∧ od.1 4 = nI n ∧ ∀ p, p < n → od.2.2 0 p = fX f p ∧ od.2.2 1 p = fY f p ∧ od.2.2 2 p = fK f p ∧ od.2.2 3 p = fC f p
def CW (f : PF) (od : OS) : Prop := od.2.1 5 = fW f ∧ od.2.1 6 = fU f ∧ od.2.1 7 = fV f
def PLs (f : PF) (n b : Nat) (op : OS) : Prop := op.2.1 0 = sm f b 0 n ∧ op.2.1 1 = sm f b 1 n ∧ op.2.1 2 = sm f b 2 n ∧ op.2.1 3 = sm f b 3 n ∧ op.2.1 4 = sm f b 4 n ∧ op.2.1 5 = sm f b 5 n
def PLt (f : PF) (n b : Nat) (op : OS) : Prop := op.2.1 12 = DD f n b ∧ op.2.1 13 = dA (sK f n b) (fW f) (fU f) (fV f) ∧ op.2.1 14 = dB (sK f n b) (fW f) (fU f) (fV f) ∧ op.2.1 15 = dC (sK f n b) (fW f) (fU f) (fV f)
theorem brace_eq {f : PF} {n b : Nat} {op : OS} (h : PLs f n b op) : ∃ op1, f_X1_brace op = some (if DD f n b ≤ 0 then 0 else 1, op1) ∧ PLs f n b op1 ∧ op1.2.1 12 = DD f n b ∧ ∀ W U V, ∃ op2, f_X1_tilt W U V op1 = some op2 ∧ PLs f n b op2 ∧ op2.2.1 12 = DD f n b ∧ op2.2.1 13 = dA (sK f n b) W U V ∧ op2.2.1 14 = dB (sK f n b) W U V ∧ op2.2.1 15 = dC (sK f n b) W U V := by
  obtain ⟨h0, h1, h2, h3, h4, h5⟩ := h
  obtain ⟨op1, hop⟩ : ∃ op1 : OS, op1 = sL (sL (sL (sL (sL (sL (sL op 6 (op.2.1 3 * op.2.1 5 - op.2.1 4 * op.2.1 4)) 7 (op.2.1 4 * op.2.1 2 - op.2.1 1 * op.2.1 5)) 8 (op.2.1 1 * op.2.1 4 - op.2.1 3 * op.2.1 2)) 9 (op.2.1 0 * op.2.1 5 - op.2.1 2 * op.2.1 2)) 10 (op.2.1 1 * op.2.1 2 - op.2.1 0 * op.2.1 4)) 11 (op.2.1 0 * op.2.1 3 - op.2.1 1 * op.2.1 1)) 12 (op.2.1 0 * (op.2.1 3 * op.2.1 5 - op.2.1 4 * op.2.1 4) + op.2.1 1 * (op.2.1 4 * op.2.1 2 - op.2.1 1 * op.2.1 5) + op.2.1 2 * (op.2.1 1 * op.2.1 4 - op.2.1 3 * op.2.1 2)) := ⟨_, rfl⟩
  have e12 : op1.2.1 12 = DD f n b := by
    rw [hop, sL_same]
    unfold DD dD sK
    rw [h0, h1, h2, h3, h4, h5]
    generalize sm f b 0 n = k0
    generalize sm f b 1 n = k1
    generalize sm f b 2 n = k2
    generalize sm f b 3 n = k3
    generalize sm f b 4 n = k4
    generalize sm f b 5 n = k5
    grind
  have hs : PLs f n b op1 := by
    rw [hop]
    exact ⟨h0, h1, h2, h3, h4, h5⟩
  have i6 : op1.2.1 6 = sm f b 3 n * sm f b 5 n - sm f b 4 n * sm f b 4 n := by rw [hop, ← h3, ← h4, ← h5]; rfl
  have i7 : op1.2.1 7 = sm f b 4 n * sm f b 2 n - sm f b 1 n * sm f b 5 n := by rw [hop, ← h4, ← h2, ← h1, ← h5]; rfl
  have i8 : op1.2.1 8 = sm f b 1 n * sm f b 4 n - sm f b 3 n * sm f b 2 n := by rw [hop, ← h1, ← h4, ← h3, ← h2]; rfl
  have i9 : op1.2.1 9 = sm f b 0 n * sm f b 5 n - sm f b 2 n * sm f b 2 n := by rw [hop, ← h0, ← h5, ← h2]; rfl
  have i10 : op1.2.1 10 = sm f b 1 n * sm f b 2 n - sm f b 0 n * sm f b 4 n := by rw [hop, ← h1, ← h2, ← h0, ← h4]; rfl
  have i11 : op1.2.1 11 = sm f b 0 n * sm f b 3 n - sm f b 1 n * sm f b 1 n := by rw [hop, ← h0, ← h3, ← h1]; rfl
  have hr : f_X1_brace op = some (if op1.2.1 12 ≤ 0 then 0 else 1, op1) := by
    have : f_X1_brace op = (if op1.2.1 12 ≤ 0 then some (0, op1) else some (1, op1)) := by rw [hop]; rfl
    rw [this]
    split <;> rfl
  refine ⟨op1, by rw [hr, e12], hs, e12, fun W U V => ⟨sL (sL (sL op1 13 (op1.2.1 6 * W + op1.2.1 7 * U + op1.2.1 8 * V)) 14 (op1.2.1 7 * W + op1.2.1 9 * U + op1.2.1 10 * V)) 15 (op1.2.1 8 * W + op1.2.1 10 * U + op1.2.1 11 * V), rfl, hs, e12, ?_, ?_, ?_⟩⟩
  · show op1.2.1 6 * W + op1.2.1 7 * U + op1.2.1 8 * V = _
    rw [i6, i7, i8]
    unfold dA sK
    generalize sm f b 1 n = k1
    generalize sm f b 2 n = k2
    generalize sm f b 3 n = k3
    generalize sm f b 4 n = k4
    generalize sm f b 5 n = k5
    grind
  · show op1.2.1 7 * W + op1.2.1 9 * U + op1.2.1 10 * V = _
    rw [i7, i9, i10]
    unfold dB sK
    generalize sm f b 0 n = k0
    generalize sm f b 1 n = k1
    generalize sm f b 2 n = k2
    generalize sm f b 4 n = k4
    generalize sm f b 5 n = k5
    grind
  · show op1.2.1 8 * W + op1.2.1 10 * U + op1.2.1 11 * V = _
    rw [i8, i10, i11]
    unfold dC sK
    generalize sm f b 0 n = k0
    generalize sm f b 1 n = k1
    generalize sm f b 2 n = k2
    generalize sm f b 3 n = k3
    generalize sm f b 4 n = k4
    grind
theorem topAt_eq {f : PF} {n b : Nat} {op : OS} (h : PLt f n b op) (x y : Int32) : f_X1_topAt x y op = some (PR f n b x y) := by
  obtain ⟨-, h1, h2, h3⟩ := h
  unfold f_X1_topAt PR
  rw [h1, h2, h3]
theorem mostPulled_loop {f : PF} {n a : Nat} {od op : OS} (hc : CP f n od) (ha : a < 512) (ea : od.1 9 = nI a) (hp : PLt f n a op) : ∀ (m p k : Nat), p + m = n → m < k → lp_X0_mostPulled_7 od op k (oi (-1) (pul (TT f n a) a p)) (ov (TT f n a) (pul (TT f n a) a p)) (nI p) = some (oi (-1) (pul (TT f n a) a n), ov (TT f n a) (pul (TT f n a) a n), nI n) := by
  obtain ⟨hn, e4, hx⟩ := hc
  intro m
  induction m with
  | zero =>
    intro p k hp2 hk
    obtain ⟨k, rfl⟩ : ∃ j, k = j + 1 := ⟨k - 1, by omega⟩
    have : p = n := by omega
    subst this
    rw [lp_X0_mostPulled_7, e4, if_pos (nI_le (Nat.le_refl _) (by omega))]
  | succ m ih =>
    intro p k hp2 hk
    obtain ⟨k, rfl⟩ : ∃ j, k = j + 1 := ⟨k - 1, by omega⟩
    have tp : (nI p).toNatClampNeg = p := nI_clamp (by omega)
    obtain ⟨x1, x2, x3, -⟩ := hx p (by omega)
    have i1 := ih (p + 1) k (by omega) (by omega)
    rw [lp_X0_mostPulled_7, e4, if_neg (nI_ge (show p < n by omega) (by omega)), ea]
    simp only [ck_nI (show p < 9 by omega) (by decide), tp, x1, x2, x3, topAt_eq hp, Option.bind_some, lt, nI_1]
    by_cases c : a.testBit p = true
    · rw [if_pos ((bit_get ha (by omega)).mpr c)]
      show (if ov (TT f n a) (pul (TT f n a) a p) ≤ TT f n a p then lp_X0_mostPulled_7 od op k (oi (-1) (pul (TT f n a) a p)) (ov (TT f n a) (pul (TT f n a) a p)) (nI (p + 1)) else lp_X0_mostPulled_7 od op k (nI p) (TT f n a p) (nI (p + 1))) = _
      by_cases c2 : ov (TT f n a) (pul (TT f n a) a p) ≤ TT f n a p
      · rw [if_pos c2]
        have e : pul (TT f n a) a (p + 1) = pul (TT f n a) a p := by
          show (if a.testBit p = true ∧ TT f n a p < ov (TT f n a) (pul (TT f n a) a p) then some p else pul (TT f n a) a p) = _
          rw [if_neg (fun q => absurd c2 (Int64.not_le.mpr q.2))]
        rw [e] at i1
        exact i1
      · rw [if_neg c2]
        have e : pul (TT f n a) a (p + 1) = some p := by
          show (if a.testBit p = true ∧ TT f n a p < ov (TT f n a) (pul (TT f n a) a p) then some p else pul (TT f n a) a p) = _
          rw [if_pos ⟨c, Int64.not_le.mp c2⟩]
        rw [e] at i1
        exact i1
    · rw [if_neg (fun q => c ((bit_get ha (by omega)).mp q))]
      have e : pul (TT f n a) a (p + 1) = pul (TT f n a) a p := by
        show (if a.testBit p = true ∧ TT f n a p < ov (TT f n a) (pul (TT f n a) a p) then some p else pul (TT f n a) a p) = _
        rw [if_neg (fun q => c q.1)]
      rw [e] at i1
      exact i1
theorem mostPulled_eq {f : PF} {n a : Nat} {od op : OS} (hc : CP f n od) (ha : a < 512) (ea : od.1 9 = nI a) (hp : PLt f n a op) : f_X0_mostPulled od op = some (oi (-1) (pul (TT f n a) a n)) := by
  have h := mostPulled_loop hc ha ea hp n 0 1000 (by omega) (by have := hc.1; omega)
  unfold f_X0_mostPulled
  rw [show oi (-1) (pul (TT f n a) a 0) = -1 from rfl, show ov (TT f n a) (pul (TT f n a) a 0) = 0 from rfl, show nI 0 = 0 from rfl] at h
  rw [h]
  rfl
theorem prs_zero (P : Nat → Int64) : ∀ n, prs P 0 n = none
  | 0 => rfl
  | n + 1 => by
    show (if (0 : Nat).testBit n = true ∧ ov P (prs P 0 n) < P n then some n else prs P 0 n) = none
    rw [if_neg (by simp), prs_zero P n]
theorem mostPressed_loop {f : PF} {n a r : Nat} {od op : OS} (hc : CP f n od) (hr : r < 512) (hr0 : r ≠ 0) (hp : PLt f n a op) : ∀ (m p k : Nat), p + m = n → m < k → lp_X0_mostPressedOfReleased_19 (nI r) od op k (oi (-1) (prs (PP f n a) r p)) (ov (PP f n a) (prs (PP f n a) r p)) (nI p) = some (oi (-1) (prs (PP f n a) r n), ov (PP f n a) (prs (PP f n a) r n), nI n) := by
  obtain ⟨hn, e4, hx⟩ := hc
  intro m
  have r0 : ¬ nI r = 0 := fun q => hr0 (nI_inj (b := 0) (by omega) (by decide) q)
  induction m with
  | zero =>
    intro p k hp2 hk
    obtain ⟨k, rfl⟩ : ∃ j, k = j + 1 := ⟨k - 1, by omega⟩
    have : p = n := by omega
    subst this
    rw [lp_X0_mostPressedOfReleased_19, e4, if_pos (nI_le (Nat.le_refl _) (by omega))]
  | succ m ih =>
    intro p k hp2 hk
    obtain ⟨k, rfl⟩ : ∃ j, k = j + 1 := ⟨k - 1, by omega⟩
    have tp : (nI p).toNatClampNeg = p := nI_clamp (by omega)
    obtain ⟨x1, x2, x3, -⟩ := hx p (by omega)
    have i1 := ih (p + 1) k (by omega) (by omega)
    rw [lp_X0_mostPressedOfReleased_19, e4, if_neg (nI_ge (show p < n by omega) (by omega)), if_neg r0]
    simp only [ck_nI (show p < 9 by omega) (by decide), tp, x1, x2, topAt_eq hp, Option.bind_some, nI_1]
    have e0 : prs (PP f n a) r (p + 1) = (if r.testBit p = true ∧ ov (PP f n a) (prs (PP f n a) r p) < PP f n a p then some p else prs (PP f n a) r p) := rfl
    by_cases c : r.testBit p = true
    · rw [if_pos ((bit_get hr (by omega)).mpr c)]
      show (if PP f n a p ≤ ov (PP f n a) (prs (PP f n a) r p) then lp_X0_mostPressedOfReleased_19 (nI r) od op k (oi (-1) (prs (PP f n a) r p)) (ov (PP f n a) (prs (PP f n a) r p)) (nI (p + 1)) else lp_X0_mostPressedOfReleased_19 (nI r) od op k (nI p) (PP f n a p) (nI (p + 1))) = _
      by_cases c2 : PP f n a p ≤ ov (PP f n a) (prs (PP f n a) r p)
      · rw [if_pos c2]
        rw [if_neg (fun q => absurd c2 (Int64.not_le.mpr q.2))] at e0
        rw [e0] at i1
        exact i1
      · rw [if_neg c2]
        rw [if_pos ⟨c, Int64.not_le.mp c2⟩] at e0
        rw [e0] at i1
        exact i1
    · rw [if_neg (fun q => c ((bit_get hr (by omega)).mp q))]
      rw [if_neg (fun q => c q.1)] at e0
      rw [e0] at i1
      exact i1
theorem mostPressed_eq {f : PF} {n a s : Nat} {od op : OS} (hc : CP f n od) (hs : s < 512) (ha : a < 512) (hsub : ∀ i, a.testBit i = true → s.testBit i = true) (es : od.1 8 = nI s) (ea : od.1 9 = nI a) (hp : PLt f n a op) : f_X0_mostPressedOfReleased od op = some (oi (-1) (prs (PP f n a) (s ^^^ a) n)) := by
  unfold f_X0_mostPressedOfReleased
  rw [es, ea, rel_bits hsub]
  by_cases c : s ^^^ a = 0
  · rw [c, prs_zero]
    have hn := hc.1
    rw [lp_X0_mostPressedOfReleased_19]
    have e0 : (nI 0 = 0) = True := eq_true rfl
    by_cases c2 : od.1 4 ≤ 0
    · rw [if_pos c2]; rfl
    · rw [if_neg c2, if_pos (show nI 0 = 0 from rfl)]; rfl
  · have hl : s ^^^ a < 512 := Nat.xor_lt_two_pow (n := 9) hs ha
    have h := mostPressed_loop hc hl c hp n 0 1000 (by omega) (by have := hc.1; omega)
    rw [show oi (-1) (prs (PP f n a) (s ^^^ a) 0) = -1 from rfl, show ov (PP f n a) (prs (PP f n a) (s ^^^ a) 0) = 0 from rfl, show nI 0 = 0 from rfl] at h
    rw [h]
    rfl
