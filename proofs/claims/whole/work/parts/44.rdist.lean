/-! the reference's distribution against the common functions -/
def RP (f : PF) (n : Nat) (om : OS) : Prop := n ≤ 9 ∧ om.1 21 = nI n ∧ ∀ p, p < n → om.2.2 17 p = fX f p ∧ om.2.2 18 p = fY f p ∧ om.2.2 19 p = fK f p ∧ om.2.2 20 p = fC f p
def RW (f : PF) (om : OS) : Prop := om.2.1 23 = fW f ∧ om.2.1 24 = fU f ∧ om.2.1 25 = fV f
def RT (f : PF) (n b : Nat) (om : OS) : Prop := om.2.1 29 = DD f n b ∧ om.2.1 30 = dA (sK f n b) (fW f) (fU f) (fV f) ∧ om.2.1 31 = dB (sK f n b) (fW f) (fU f) (fV f) ∧ om.2.1 32 = dC (sK f n b) (fW f) (fU f) (fV f)
theorem steady_loop {f : PF} {n b : Nat} {om : OS} (hr : RP f n om) (hb : b < 512) : ∀ (m p k : Nat), p + m = n → m < k → lp_X5_isSteady_20 (nI b) om k (sm f b 0 p) (sm f b 1 p) (sm f b 2 p) (sm f b 3 p) (sm f b 4 p) (sm f b 5 p) (nI p) = some (sm f b 0 n, sm f b 1 n, sm f b 2 n, sm f b 3 n, sm f b 4 n, sm f b 5 n, nI n) := by
  obtain ⟨hn, e4, hx⟩ := hr
  intro m
  induction m with
  | zero =>
    intro p k hp2 hk
    obtain ⟨k, rfl⟩ : ∃ j, k = j + 1 := ⟨k - 1, by omega⟩
    have : p = n := by omega
    subst this
    rw [lp_X5_isSteady_20, e4, if_pos (nI_le (Nat.le_refl _) (by omega))]
  | succ m ih =>
    intro p k hp2 hk
    obtain ⟨k, rfl⟩ : ∃ j, k = j + 1 := ⟨k - 1, by omega⟩
    have tp : (nI p).toNatClampNeg = p := nI_clamp (by omega)
    obtain ⟨x1, x2, x3, -⟩ := hx p (by omega)
    have i1 := ih (p + 1) k (by omega) (by omega)
    have es : ∀ i, sm f b i (p + 1) = if b.testBit p then sm f b i p + tm f i p else sm f b i p := fun i => rfl
    rw [lp_X5_isSteady_20, e4, if_neg (nI_ge (show p < n by omega) (by omega))]
    simp only [ck_nI (show p < 9 by omega) (by decide), tp, x1, x2, x3, lt, nI_1]
    by_cases c : b.testBit p = true
    · rw [if_pos ((bit_get hb (by omega)).mpr c)]
      simp only [es, if_pos c] at i1
      exact i1
    · rw [if_neg (fun q => c ((bit_get hb (by omega)).mp q))]
      simp only [es, if_neg c] at i1
      exact i1
theorem steady_eq {f : PF} {n b : Nat} {om : OS} (hr : RP f n om) (hw : RW f om) (hb : b < 512) (hD : 0 ≤ DD f n b) : ∃ om2, f_X5_isSteady (nI b) om = some (if DD f n b = 0 then 0 else 1, om2) ∧ RT f n b om2 ∧ om2.1 = om.1 ∧ om2.2.2 = om.2.2 ∧ ∀ i, i < 29 → om2.2.1 i = om.2.1 i := by
  have h := steady_loop hr hb n 0 1000 (by omega) (by have := hr.1; omega)
  have h' : lp_X5_isSteady_20 (nI b) om 1000 0 0 0 0 0 0 0 = some (sm f b 0 n, sm f b 1 n, sm f b 2 n, sm f b 3 n, sm f b 4 n, sm f b 5 n, nI n) := h
  obtain ⟨w1, w2, w3⟩ := hw
  have hdd : sm f b 0 n * (sm f b 3 n * sm f b 5 n - sm f b 4 n * sm f b 4 n) - sm f b 1 n * (sm f b 1 n * sm f b 5 n - sm f b 4 n * sm f b 2 n) + sm f b 2 n * (sm f b 1 n * sm f b 4 n - sm f b 3 n * sm f b 2 n) = DD f n b := rfl
  have d23 : ∀ v, (sL om 29 v).2.1 23 = fW f := fun v => w1
  have d24 : ∀ v, (sL om 29 v).2.1 24 = fU f := fun v => w2
  have d25 : ∀ v, (sL om 29 v).2.1 25 = fV f := fun v => w3
  obtain ⟨o, ho⟩ : ∃ o : OS, o = sL (sL (sL (sL om 29 (DD f n b)) 30 (dA (sK f n b) (fW f) (fU f) (fV f))) 31 (dB (sK f n b) (fW f) (fU f) (fV f))) 32 (dC (sK f n b) (fW f) (fU f) (fV f)) := ⟨_, rfl⟩
  have e29 : o.2.1 29 = DD f n b := by rw [ho]; rfl
  refine ⟨o, ?_, ⟨e29, by rw [ho]; rfl, by rw [ho]; rfl, by rw [ho]; rfl⟩, by rw [ho]; rfl, by rw [ho]; rfl, fun i hi => by rw [ho, sL_ne _ _ _ _ (by omega), sL_ne _ _ _ _ (by omega), sL_ne _ _ _ _ (by omega), sL_ne _ _ _ _ (by omega)]⟩
  have key : f_X5_isSteady (nI b) om = (Option.bind (if 0 ≤ o.2.1 29 then some o else lt (sL o 29 (-(o.2.1 29))) fun o16 => lt (sL o16 30 (-(o16.2.1 30))) fun o17 => lt (sL o17 31 (-(o17.2.1 31))) fun o18 => lt (sL o18 32 (-(o18.2.1 32))) fun o19 => some o19 : Option OS) fun z12 => if (z12.2.1 29) = 0 then some (0, z12) else some (1, z12)) := by
    unfold f_X5_isSteady
    rw [h']
    simp only [Option.bind_some, f_X5_det, lt]
    rw [ho, ← w1, ← w2, ← w3]
    rfl
  rw [key, e29, if_pos hD, Option.bind_some, e29]
  by_cases c : DD f n b = 0
  · rw [if_pos c, if_pos c]
  · rw [if_neg c, if_neg c]
theorem bears_eq {f : PF} {n a p : Nat} {om : OS} (hr : RP f n om) (ha : a < 512) (ea : om.1 26 = nI a) (ht : RT f n a om) (hp : p < n) : f_X5_bears (nI p) om = some (TS f n a p) := by
  have hn := hr.1
  have tp : (nI p).toNatClampNeg = p := nI_clamp (by omega)
  obtain ⟨x1, x2, x3, -⟩ := hr.2.2 p hp
  obtain ⟨-, t1, t2, t3⟩ := ht
  unfold TS
  by_cases c : a.testBit p = true
  · simp only [f_X5_bears, ea, if_pos ((bit_get ha (show p < 9 by omega)).mpr c), ck_nI (show p < 9 by omega) (by decide), tp, x1, x2, x3, f_X5_pressAt, Option.bind_some, t1, t2, t3, if_pos c]
    rfl
  · have c2 : ¬ ((nI a >>> (nI p &&& 31)) &&& 1) = 1 := fun q => c ((bit_get ha (show p < 9 by omega)).mp q)
    simp only [f_X5_bears, ea, if_neg c2, if_neg c]
theorem TS_t {f : PF} {n a p : Nat} (c : a.testBit p = true) : TS f n a p = TT f n a p := by
  unfold TS
  rw [if_pos c]
theorem goesOut_loop {f : PF} {n a : Nat} {om : OS} (hr : RP f n om) (ha : a < 512) (ea : om.1 26 = nI a) (ht : RT f n a om) : ∀ (m p k : Nat), p + m = n → m < k → lp_X5_goesOut_5 om k (oi (-9) (pul (TT f n a) a p)) (nI p) = some (oi (-9) (pul (TT f n a) a n), nI n) := by
  intro m
  have hn := hr.1
  induction m with
  | zero =>
    intro p k hp2 hk
    obtain ⟨k, rfl⟩ : ∃ j, k = j + 1 := ⟨k - 1, by omega⟩
    have : p = n := by omega
    subst this
    rw [lp_X5_goesOut_5, hr.2.1, if_pos (nI_le (Nat.le_refl _) (by omega))]
  | succ m ih =>
    intro p k hp2 hk
    obtain ⟨k, rfl⟩ : ∃ j, k = j + 1 := ⟨k - 1, by omega⟩
    have i1 := ih (p + 1) k (by omega) (by omega)
    have e0 : pul (TT f n a) a (p + 1) = (if a.testBit p = true ∧ TT f n a p < ov (TT f n a) (pul (TT f n a) a p) then some p else pul (TT f n a) a p) := rfl
    rw [lp_X5_goesOut_5, hr.2.1, if_neg (nI_ge (show p < n by omega) (by omega)), ea]
    by_cases c : a.testBit p = true
    · rw [if_pos ((bit_get ha (by omega)).mpr c), bears_eq hr ha ea ht (by omega), Option.bind_some, TS_t c]
      simp only [nI_1]
      cases e : pul (TT f n a) a p with
      | none =>
        rw [e] at e0
        rw [show oi (-9) none = -9 from rfl, if_pos rfl]
        by_cases c2 : 0 ≤ TT f n a p
        · rw [if_pos c2]
          rw [if_neg (fun q => absurd c2 (Int64.not_le.mpr q.2))] at e0
          rw [e0] at i1
          exact i1
        · rw [if_neg c2]
          rw [if_pos ⟨c, Int64.not_le.mp c2⟩] at e0
          rw [e0] at i1
          exact i1
      | some j =>
        rw [e] at e0
        obtain ⟨q1, q2, q3⟩ := pul_bit e
        have nj : ¬ nI j = -9 := fun q => by
          have h2 := nI_toInt (show j < 2 ^ 31 by omega)
          rw [q] at h2
          have h3 : (-9 : Int32).toInt = -9 := rfl
          omega
        rw [show oi (-9) (some j) = nI j from rfl, if_neg nj, bears_eq hr ha ea ht (by omega), Option.bind_some, TS_t q1, Option.bind_some]
        by_cases c2 : TT f n a p < TT f n a j
        · rw [if_neg (fun q => absurd (Int64.lt_trans c2 q3) (Int64.not_lt.mpr q)), if_neg (Int64.not_le.mpr c2)]
          rw [if_pos ⟨c, c2⟩] at e0
          rw [e0] at i1
          exact i1
        · rw [if_neg (fun q => c2 q.2)] at e0
          rw [e0] at i1
          rw [if_pos (Int64.not_lt.mp c2)]
          split <;> exact i1
    · rw [if_neg (fun q => c ((bit_get ha (by omega)).mp q))]
      rw [if_neg (fun q => c q.1)] at e0
      rw [e0] at i1
      simp only [nI_1]
      exact i1
theorem goesOut_eq {f : PF} {n a : Nat} {om : OS} (hr : RP f n om) (ha : a < 512) (ea : om.1 26 = nI a) (ht : RT f n a om) : f_X5_goesOut om = some (oi (-9) (pul (TT f n a) a n)) := by
  have h := goesOut_loop hr ha ea ht n 0 1000 (by omega) (by have := hr.1; omega)
  unfold f_X5_goesOut
  rw [show oi (-9) (pul (TT f n a) a 0) = -9 from rfl, show nI 0 = 0 from rfl] at h
  rw [h]
  rfl
theorem pressAt_eq {f : PF} {n a : Nat} {om : OS} (ht : RT f n a om) (x y : Int32) : f_X5_pressAt x y om = some (PR f n a x y) := by
  obtain ⟨-, t1, t2, t3⟩ := ht
  unfold f_X5_pressAt PR
  rw [t1, t2, t3]
theorem comesIn_loop {f : PF} {n a s : Nat} {om : OS} (hr : RP f n om) (hs : s < 512) (ha : a < 512) (hsub : ∀ i, a.testBit i = true → s.testBit i = true) (es : om.1 22 = nI s) (ea : om.1 26 = nI a) (ht : RT f n a om) : ∀ (m p k : Nat), p + m = n → m < k → lp_X5_comesIn_5 om k (oi (-9) (prs (PP f n a) (s ^^^ a) p)) (nI p) = some (oi (-9) (prs (PP f n a) (s ^^^ a) n), nI n) := by
  intro m
  have hn := hr.1
  induction m with
  | zero =>
    intro p k hp2 hk
    obtain ⟨k, rfl⟩ : ∃ j, k = j + 1 := ⟨k - 1, by omega⟩
    have : p = n := by omega
    subst this
    rw [lp_X5_comesIn_5, hr.2.1, if_pos (nI_le (Nat.le_refl _) (by omega))]
  | succ m ih =>
    intro p k hp2 hk
    obtain ⟨k, rfl⟩ : ∃ j, k = j + 1 := ⟨k - 1, by omega⟩
    have tp : (nI p).toNatClampNeg = p := nI_clamp (by omega)
    obtain ⟨x1, x2, x3, -⟩ := hr.2.2 p (by omega)
    have i1 := ih (p + 1) k (by omega) (by omega)
    have e0 : prs (PP f n a) (s ^^^ a) (p + 1) = (if (s ^^^ a).testBit p = true ∧ ov (PP f n a) (prs (PP f n a) (s ^^^ a) p) < PP f n a p then some p else prs (PP f n a) (s ^^^ a) p) := rfl
    have hbit : (s ^^^ a).testBit p = true ↔ s.testBit p = true ∧ a.testBit p = false := by
      rw [Nat.testBit_xor]
      have := hsub p
      cases c1 : s.testBit p <;> cases c2 : a.testBit p <;> simp_all
    rw [lp_X5_comesIn_5, hr.2.1, if_neg (nI_ge (show p < n by omega) (by omega)), es, ea]
    simp only [ck_nI (show p < 9 by omega) (by decide), tp, x1, x2, pressAt_eq ht, Option.bind_some, nI_1]
    rw [show PR f n a (fX f p) (fY f p) = PP f n a p from rfl]
    have hskip : prs (PP f n a) (s ^^^ a) (p + 1) = prs (PP f n a) (s ^^^ a) p → lp_X5_comesIn_5 om k (oi (-9) (prs (PP f n a) (s ^^^ a) p)) (nI (p + 1)) = some (oi (-9) (prs (PP f n a) (s ^^^ a) n), nI n) := fun e => by rw [e] at i1; exact i1
    by_cases c1 : s.testBit p = true
    · rw [if_pos ((bit_get hs (by omega)).mpr c1)]
      by_cases c2 : a.testBit p = false
      · rw [if_pos ((bit_zero ha (by omega)).mpr c2)]
        have cb := hbit.mpr ⟨c1, c2⟩
        cases e : prs (PP f n a) (s ^^^ a) p with
        | none =>
          rw [e] at e0 hskip
          rw [show oi (-9) none = -9 from rfl, if_pos rfl]
          by_cases c3 : PP f n a p ≤ 0
          · rw [if_pos c3]
            rw [if_neg (fun q => absurd c3 (Int64.not_le.mpr q.2))] at e0
            exact hskip e0
          · rw [if_neg c3]
            rw [if_pos ⟨cb, Int64.not_le.mp c3⟩] at e0
            rw [e0] at i1
            exact i1
        | some j =>
          rw [e] at e0 hskip
          obtain ⟨q1, q2, q3⟩ := prs_bit e
          have nj : ¬ nI j = -9 := fun q => by
            have h2 := nI_toInt (show j < 2 ^ 31 by omega)
            rw [q] at h2
            have h3 : (-9 : Int32).toInt = -9 := rfl
            omega
          have tj : (nI j).toNatClampNeg = j := nI_clamp (by omega)
          obtain ⟨y1, y2, y3, -⟩ := hr.2.2 j (by omega)
          rw [show oi (-9) (some j) = nI j from rfl, if_neg nj]
          simp only [ck_nI (show j < 9 by omega) (by decide), tj, y1, y2]
          rw [show PR f n a (fX f j) (fY f j) = PP f n a j from rfl]
          by_cases c3 : PP f n a j < PP f n a p
          · rw [if_neg (Int64.not_le.mpr (Int64.lt_trans q3 c3)), if_neg (Int64.not_le.mpr c3)]
            rw [if_pos ⟨cb, c3⟩] at e0
            rw [e0] at i1
            exact i1
          · rw [if_neg (fun q => c3 q.2)] at e0
            have := hskip e0
            rw [if_pos (Int64.not_lt.mp c3)]
            split <;> exact this
      · rw [if_neg (fun q => c2 ((bit_zero ha (by omega)).mp q))]
        rw [if_neg (fun q => c2 (hbit.mp q.1).2)] at e0
        exact hskip e0
    · rw [if_neg (fun q => c1 ((bit_get hs (by omega)).mp q))]
      rw [if_neg (fun q => c1 (hbit.mp q.1).1)] at e0
      exact hskip e0
theorem comesIn_eq {f : PF} {n a s : Nat} {om : OS} (hr : RP f n om) (hs : s < 512) (ha : a < 512) (hsub : ∀ i, a.testBit i = true → s.testBit i = true) (es : om.1 22 = nI s) (ea : om.1 26 = nI a) (ht : RT f n a om) : f_X5_comesIn om = some (oi (-9) (prs (PP f n a) (s ^^^ a) n)) := by
  have h := comesIn_loop hr hs ha hsub es ea ht n 0 1000 (by omega) (by have := hr.1; omega)
  unfold f_X5_comesIn
  rw [show oi (-9) (prs (PP f n a) (s ^^^ a) 0) = -9 from rfl, show nI 0 = 0 from rfl] at h
  rw [h]
  rfl
