/-- a share, times the determinant -/
def TS (f : PF) (n a p : Nat) : Int64 := if a.testBit p then TT f n a p else 0
/-- the most used pile of the set s -/
def mu (T : Nat → Int64) (C : Nat → Int32) (s : Nat) : Nat → Option Nat
  | 0 => none
  | m + 1 => match mu T C s m with
    | none => if s.testBit m = true then some m else none
    | some j => if s.testBit m = true ∧ T j * (C m).toInt64 < T m * (C j).toInt64 then some m else some j
theorem mu_bit {T : Nat → Int64} {C : Nat → Int32} {s : Nat} : ∀ {m j : Nat}, mu T C s m = some j → s.testBit j = true ∧ j < m
  | 0, j, h => by cases h
  | m + 1, j, h => by
    unfold mu at h
    cases e : mu T C s m with
    | none =>
      rw [e] at h
      by_cases c : s.testBit m = true
      · simp only [if_pos c] at h; cases h; exact ⟨c, by omega⟩
      · simp only [if_neg c] at h; cases h
    | some i =>
      rw [e] at h
      by_cases c : s.testBit m = true ∧ T i * (C m).toInt64 < T m * (C i).toInt64
      · simp only [if_pos c] at h; cases h; exact ⟨c.1, by omega⟩
      · simp only [if_neg c] at h
        cases h
        have := mu_bit e
        exact ⟨this.1, by omega⟩
theorem bits_sub_tog {s a p : Nat} (hsub : ∀ i, a.testBit i = true → s.testBit i = true) (hp : s.testBit p = true) : ∀ i, (a ^^^ 2 ^ p).testBit i = true → s.testBit i = true := by
  intro i hi
  by_cases e : i = p
  · subst e; exact hp
  · rw [tog_ne _ _ _ e] at hi; exact hsub i hi
/-- all determinants are at least 0 -/
def DOK (f : PF) (n : Nat) : Prop := ∀ a, a < 2 ^ n → 0 ≤ DD f n a
theorem settle_loop {f : PF} {n s : Nat} (hB : PB f n) (hD : DOK f n) (hs : s < 2 ^ n) : ∀ (m r act : Nat) (k : Nat) (od op : OS), r + m = 40 → m + 1 < k → CP f n od → CW f od → od.1 8 = nI s → od.1 9 = nI act → od.1 10 = nI r → od.1 11 = 0 → act < 2 ^ n → (∀ i, act.testBit i = true → s.testBit i = true) → PLs f n act op →
    ∃ (v1 v2 : Int32) (od2 op2 : OS), lp_X0_settle_33 k 1 (nI (r + 1)) od op = some (v1, v2, od2, op2) ∧ od2.2 = od.2 ∧ od2.1 4 = od.1 4 ∧ od2.1 8 = nI s ∧ od2.1 10 = nI (run f n s m r act).1 ∧ od2.1 11 = (if (run f n s m r act).2.1 then 1 else 0) ∧ od2.1 9 = nI (run f n s m r act).2.2 ∧ (run f n s m r act).2.2 < 2 ^ n ∧ (∀ i, (run f n s m r act).2.2.testBit i = true → s.testBit i = true) ∧ ((run f n s m r act).2.1 = true → PLt f n (run f n s m r act).2.2 op2 ∧ ¬ DD f n (run f n s m r act).2.2 = 0 ∧ pul (TT f n (run f n s m r act).2.2) (run f n s m r act).2.2 n = none) := by
  intro m
  have one : ¬ (1 : Int32) = 0 := by decide
  induction m with
  | zero =>
    intro r act k od op hr hk hc hw es ea e10 e11 hal hsub hp
    obtain ⟨k, rfl⟩ : ∃ j, k = j + 1 := ⟨k - 1, by omega⟩
    have : r = 40 := by omega
    subst this
    refine ⟨1, nI 41, od, op, ?_, rfl, rfl, es, e10, e11, ea, hal, hsub, fun h => by cases h⟩
    rw [lp_X0_settle_33, if_pos (show (40 : Int32) < nI 41 by decide)]
  | succ m ih =>
    intro r act k od op hr hk hc hw es ea e10 e11 hal hsub hp
    obtain ⟨k, rfl⟩ : ∃ j, k = j + 1 := ⟨k - 1, by omega⟩
    obtain ⟨k, rfl⟩ : ∃ j, k = j + 1 := ⟨k - 1, by omega⟩
    have c40 : ¬ (40 : Int32) < nI (r + 1) := nI_nlt (a := 40) (by omega) (by decide)
    have n2 : nI (r + 1) + 1 = nI (r + 1 + 1) := nI_1 _
    have hex : ∀ (o q : OS), lp_X0_settle_33 (k + 1) 0 (nI (r + 1 + 1)) o q = some (0, nI (r + 1 + 1), o, q) := by
      intro o q
      rw [lp_X0_settle_33]
      by_cases c : (40 : Int32) < nI (r + 1 + 1)
      · rw [if_pos c]
      · rw [if_neg c, if_pos rfl]
    have hrd := round_c (od := sI od 10 (nI (r + 1))) hB (hD act hal) hc hw hs hal hsub es ea hp
    have e0 : run f n s (m + 1) r act = (if DD f n act = 0 then (r + 1, false, act) else match pul (TT f n act) act n with
      | some p => run f n s m (r + 1) (act ^^^ 2 ^ p)
      | none => match prs (PP f n act) (s ^^^ act) n with
        | some p => run f n s m (r + 1) (act ^^^ 2 ^ p)
        | none => (r + 1, true, act)) := rfl
    have hst : ∀ E, f_X0_anotherRoundFollows (sI od 10 (nI (r + 1))) op = some E → lp_X0_settle_33 (k + 1 + 1) 1 (nI (r + 1)) od op = lp_X0_settle_33 (k + 1) E.1 (nI (r + 1 + 1)) E.2.1 E.2.2 := by
      intro E hE
      rw [lp_X0_settle_33, if_neg c40, if_neg one]
      simp only [lt, hE, Option.bind_some, n2]
    rcases hrd with ⟨c, op1, hE⟩ | ⟨c, hrd⟩
    · rw [if_pos c] at e0
      rw [e0]
      refine ⟨0, nI (r + 1 + 1), sI od 10 (nI (r + 1)), op1, ?_, rfl, rfl, es, rfl, e11, ea, hal, hsub, fun h => by cases h⟩
      rw [hst _ hE, hex]
    · rw [if_neg c] at e0
      rcases hrd with ⟨p, op1, e1, hE, hp1⟩ | ⟨e1, hrd⟩
      · rw [e1] at e0
        simp only at e0
        obtain ⟨q1, q2, -⟩ := pul_bit e1
        obtain ⟨v1, v2, od2, op2, g1, g2, g3, g4, g5, g6, g7, g8, g9, g10⟩ := ih (r + 1) (act ^^^ 2 ^ p) (k + 1) (sI (sI od 10 (nI (r + 1))) 9 (nI (act ^^^ 2 ^ p))) op1 (by omega) (by omega) hc hw es rfl rfl e11 (tog_lt hal q2) (bits_sub_tog hsub (hsub p q1)) hp1
        rw [e0]
        exact ⟨v1, v2, od2, op2, by rw [hst _ hE]; exact g1, g2, g3, g4, g5, g6, g7, g8, g9, g10⟩
      · rw [e1] at e0
        simp only at e0
        rcases hrd with ⟨p, op1, e2, hE, hp1⟩ | ⟨e2, op1, hE, hp1⟩
        · rw [e2] at e0
          simp only at e0
          obtain ⟨q1, q2, -⟩ := prs_bit e2
          have q3 : s.testBit p = true := by
            rw [Nat.testBit_xor] at q1
            cases c3 : s.testBit p
            · rw [c3] at q1
              cases c4 : act.testBit p
              · rw [c4] at q1; cases q1
              · rw [hsub p c4] at c3; cases c3
            · rfl
          obtain ⟨v1, v2, od2, op2, g1, g2, g3, g4, g5, g6, g7, g8, g9, g10⟩ := ih (r + 1) (act ^^^ 2 ^ p) (k + 1) (sI (sI od 10 (nI (r + 1))) 9 (nI (act ^^^ 2 ^ p))) op1 (by omega) (by omega) hc hw es rfl rfl e11 (tog_lt hal q2) (bits_sub_tog hsub q3) hp1
          rw [e0]
          exact ⟨v1, v2, od2, op2, by rw [hst _ hE]; exact g1, g2, g3, g4, g5, g6, g7, g8, g9, g10⟩
        · rw [e2] at e0
          simp only at e0
          rw [e0]
          refine ⟨0, nI (r + 1 + 1), sI (sI od 10 (nI (r + 1))) 11 1, op1, ?_, rfl, rfl, es, rfl, rfl, ea, hal, hsub, fun _ => ⟨hp1, c, e1⟩⟩
          rw [hst _ hE, hex]
theorem shareTop_eq {f : PF} {n a p : Nat} {od op : OS} (hc : CP f n od) (ha : a < 512) (ea : od.1 9 = nI a) (hp : PLt f n a op) (hpn : p < n) : f_X0_shareTop (nI p) od op = some (TS f n a p) := by
  have hn := hc.1
  have one : ¬ (1 : Int32) = 0 := by decide
  have i1 : f_X0_isSlot (nI p) = some 1 := by
    unfold f_X0_isSlot
    rw [if_neg (nI_pos (show p < 2 ^ 31 by omega)), if_neg (show ¬ (9 : Int32) ≤ nI p from nI_ge (b := 9) (by omega) (by decide))]
  have tp : (nI p).toNatClampNeg = p := nI_clamp (by omega)
  obtain ⟨x1, x2, x3, -⟩ := hc.2.2 p hpn
  unfold TS
  by_cases c : a.testBit p = true
  · have i2 : f_X0_isActive (nI p) od = some 1 := by
      unfold f_X0_isActive
      rw [ea, if_pos ((bit_get ha (by omega)).mpr c)]
    simp only [f_X0_shareTop, i1, i2, Option.bind_some, if_neg one, ck_nI (show p < 9 by omega) (by decide), tp, x1, x2, x3, topAt_eq hp, if_pos c]
    rfl
  · have i2 : f_X0_isActive (nI p) od = some 0 := by
      unfold f_X0_isActive
      rw [ea, if_neg (fun q => c ((bit_get ha (by omega)).mp q))]
    simp only [f_X0_shareTop, i1, i2, Option.bind_some, if_neg one, if_true, if_neg c]
theorem most_loop {f : PF} {n s a : Nat} {op : OS} (hs : s < 512) (ha : a < 512) (hp : PLt f n a op) : ∀ (m p k : Nat) (od : OS), CP f n od → od.1 8 = nI s → od.1 9 = nI a → p + m = n → m < k → od.1 12 = oi (-1) (mu (TS f n a) (fC f) s p) → lp_X0_findMostUsed_9 op k (ov (TS f n a) (mu (TS f n a) (fC f) s p)) (nI p) od = some (ov (TS f n a) (mu (TS f n a) (fC f) s n), nI n, sI od 12 (oi (-1) (mu (TS f n a) (fC f) s n))) := by
  intro m
  induction m with
  | zero =>
    intro p k od hc es ea hp2 hk e12
    obtain ⟨k, rfl⟩ : ∃ j, k = j + 1 := ⟨k - 1, by omega⟩
    have : p = n := by omega
    subst this
    have hn := hc.1
    rw [lp_X0_findMostUsed_9, hc.2.1, if_pos (nI_le (Nat.le_refl _) (by omega)), ← e12]
    congr 3
    unfold sI
    rw [va_up_id]
  | succ m ih =>
    intro p k od hc es ea hp2 hk e12
    obtain ⟨k, rfl⟩ : ∃ j, k = j + 1 := ⟨k - 1, by omega⟩
    have hn := hc.1
    have tp : (nI p).toNatClampNeg = p := nI_clamp (by omega)
    have st := shareTop_eq (p := p) hc ha ea hp (by omega)
    rw [lp_X0_findMostUsed_9, hc.2.1, if_neg (nI_ge (show p < n by omega) (by omega)), es]
    have x4 := (hc.2.2 p (by omega)).2.2.2
    have hsame : mu (TS f n a) (fC f) s (p + 1) = mu (TS f n a) (fC f) s p → lp_X0_findMostUsed_9 op k (ov (TS f n a) (mu (TS f n a) (fC f) s p)) (nI (p + 1)) od = some (ov (TS f n a) (mu (TS f n a) (fC f) s n), nI n, sI od 12 (oi (-1) (mu (TS f n a) (fC f) s n))) := by
      intro e
      have i1 := ih (p + 1) k od hc es ea (by omega) (by omega) (by rw [e]; exact e12)
      rw [e] at i1
      exact i1
    have hnew : mu (TS f n a) (fC f) s (p + 1) = some p → lp_X0_findMostUsed_9 op k (TS f n a p) (nI (p + 1)) (sI od 12 (nI p)) = some (ov (TS f n a) (mu (TS f n a) (fC f) s n), nI n, sI od 12 (oi (-1) (mu (TS f n a) (fC f) s n))) := by
      intro e
      have i1 := ih (p + 1) k (sI od 12 (nI p)) hc es ea (by omega) (by omega) (by rw [e]; rfl)
      rw [e, sI_sI] at i1
      exact i1
    have e0 : mu (TS f n a) (fC f) s (p + 1) = (match mu (TS f n a) (fC f) s p with
      | none => if s.testBit p = true then some p else none
      | some j => if s.testBit p = true ∧ TS f n a j * (fC f p).toInt64 < TS f n a p * (fC f j).toInt64 then some p else some j) := rfl
    by_cases c : s.testBit p = true
    · rw [if_pos ((bit_get hs (by omega)).mpr c), st, Option.bind_some, e12]
      cases e : mu (TS f n a) (fC f) s p with
      | none =>
        rw [e] at e0
        simp only [if_pos c] at e0
        rw [if_pos (show oi (-1) none < 0 by decide)]
        simp only [lt, nI_1]
        exact hnew e0
      | some j =>
        rw [e] at e0
        simp only at e0
        have hj := (mu_bit e).2
        have tj : (nI j).toNatClampNeg = j := nI_clamp (by omega)
        have x5 := (hc.2.2 j (by omega)).2.2.2
        rw [show oi (-1) (some j) = nI j from rfl, if_neg (nI_pos (by omega))]
        simp only [ck_nI (show j < 9 by omega) (by decide), ck_nI (show p < 9 by omega) (by decide), tj, tp, x4, x5, lt, nI_1, ov]
        by_cases c2 : TS f n a p * (fC f j).toInt64 ≤ TS f n a j * (fC f p).toInt64
        · rw [if_pos c2]
          rw [if_neg (fun q => absurd c2 (Int64.not_le.mpr q.2))] at e0
          have := hsame (by rw [e0, e])
          rw [e] at this
          exact this
        · rw [if_neg c2]
          rw [if_pos ⟨c, Int64.not_le.mp c2⟩] at e0
          exact hnew e0
    · rw [if_neg (fun q => c ((bit_get hs (by omega)).mp q))]
      simp only [nI_1]
      refine hsame ?_
      rw [e0]
      cases e : mu (TS f n a) (fC f) s p with
      | none => simp [c]
      | some j => simp [c]
/-- what a distribution of the class holds when it is done -/
def Done (f : PF) (n s : Nat) (od op : OS) : Prop := CP f n od ∧ od.1 8 = nI s ∧ od.1 10 = nI (run f n s 40 0 s).1 ∧ od.1 11 = (if (run f n s 40 0 s).2.1 then 1 else 0) ∧ od.1 9 = nI (run f n s 40 0 s).2.2 ∧ (run f n s 40 0 s).2.2 < 2 ^ n ∧ (∀ i, (run f n s 40 0 s).2.2.testBit i = true → s.testBit i = true) ∧ ((run f n s 40 0 s).2.1 = true → PLt f n (run f n s 40 0 s).2.2 op ∧ ¬ DD f n (run f n s 40 0 s).2.2 = 0 ∧ pul (TT f n (run f n s 40 0 s).2.2) (run f n s 40 0 s).2.2 n = none ∧ od.1 12 = oi (-1) (mu (TS f n (run f n s 40 0 s).2.2) (fC f) s n))
theorem settle_eq {f : PF} {n s : Nat} {od odw odp : OS} (hB : PB f n) (hD : DOK f n) (hs : s < 2 ^ n) (hc : CP f n od) (hw : CW f od) (es : od.1 8 = nI s) (hp : PLs f n s odw) : ∃ od2 op2, f_X0_settle od odw odp = some (od2, op2) ∧ Done f n s od2 op2 ∧ od2.2 = od.2 ∧ od2.1 4 = od.1 4 := by
  have hn := hc.1
  obtain ⟨h0, h1, h2, h3, h4, h5⟩ := hp
  obtain ⟨x1, hx1, px⟩ : ∃ x1, f_X1_copySums odp odw = some x1 ∧ PLs f n s x1 := ⟨_, rfl, ⟨h0, h1, h2, h3, h4, h5⟩⟩
  obtain ⟨v1, v2, od2, op2, g1, g2, g3, g4, g5, g6, g7, g8, g9, g10⟩ := settle_loop hB hD hs 40 0 s 1000 (sI (sI (sI od 9 (od.1 8)) 11 0) 10 0) x1 (by omega) (by omega) hc hw es es rfl rfl hs (fun i h => h) px
  have hs5 : s < 512 := Nat.lt_of_lt_of_le hs (pow_le_512 hn)
  have ha5 : (run f n s 40 0 s).2.2 < 512 := Nat.lt_of_lt_of_le g8 (pow_le_512 hn)
  have g1' : lp_X0_settle_33 1000 1 1 (sI (sI (sI od 9 (od.1 8)) 11 0) 10 0) x1 = some (v1, v2, od2, op2) := g1
  have hc2 : CP f n od2 := ⟨hn, by rw [g3]; exact hc.2.1, by rw [g2]; exact hc.2.2⟩
  by_cases c : (run f n s 40 0 s).2.1 = true
  · obtain ⟨k1, k2, k3⟩ := g10 c
    rw [if_pos c] at g6
    have hm := most_loop hs5 ha5 k1 n 0 1000 (sI od2 12 (-1)) hc2 g4 g7 (by omega) (by omega) rfl
    rw [sI_sI] at hm
    have hf : f_X0_findMostUsed od2 op2 = some (sI od2 12 (oi (-1) (mu (TS f n (run f n s 40 0 s).2.2) (fC f) s n))) := by
      unfold f_X0_findMostUsed
      simp only [lt]
      rw [show ov (TS f n (run f n s 40 0 s).2.2) (mu (TS f n (run f n s 40 0 s).2.2) (fC f) s 0) = 0 from rfl, show nI 0 = 0 from rfl] at hm
      rw [hm]
      rfl
    refine ⟨sI od2 12 (oi (-1) (mu (TS f n (run f n s 40 0 s).2.2) (fC f) s n)), op2, ?_, ⟨hc2, g4, g5, by rw [if_pos c]; exact g6, g7, g8, g9, fun _ => ⟨k1, k2, k3, rfl⟩⟩, g2, g3⟩
    simp only [f_X0_settle, hx1, Option.bind_some, lt, g1', g6, if_neg (show ¬ (1 : Int32) = 0 by decide), hf]
  · rw [if_neg c] at g6
    refine ⟨od2, op2, ?_, ⟨hc2, g4, g5, by rw [if_neg c]; exact g6, g7, g8, g9, fun h => absurd h c⟩, g2, g3⟩
    simp only [f_X0_settle, hx1, Option.bind_some, lt, g1', g6, if_true]
