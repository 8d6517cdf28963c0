/-- what the reference's distribution leaves as it was -/
def FR (om om2 : OS) : Prop := om2.2.2 = om.2.2 ∧ (∀ i, i < 29 → om2.2.1 i = om.2.1 i) ∧ (∀ i, i ≠ 26 → i ≠ 27 → i ≠ 28 → om2.1 i = om.1 i)
theorem FR.rfl {om : OS} : FR om om := ⟨Eq.refl _, fun _ _ => Eq.refl _, fun _ _ _ _ => Eq.refl _⟩
theorem FR.trans {a b c : OS} (h : FR a b) (g : FR b c) : FR a c := ⟨g.1.trans h.1, fun i hi => (g.2.1 i hi).trans (h.2.1 i hi), fun i h1 h2 h3 => (g.2.2 i h1 h2 h3).trans (h.2.2 i h1 h2 h3)⟩
theorem FR.rp {f : PF} {n : Nat} {om om2 : OS} (h : FR om om2) (hr : RP f n om) : RP f n om2 := ⟨hr.1, by rw [h.2.2 21 (by decide) (by decide) (by decide)]; exact hr.2.1, by rw [h.1]; exact hr.2.2⟩
theorem FR.rw {f : PF} {om om2 : OS} (h : FR om om2) (hr : RW f om) : RW f om2 := ⟨by rw [h.2.1 23 (by decide)]; exact hr.1, by rw [h.2.1 24 (by decide)]; exact hr.2.1, by rw [h.2.1 25 (by decide)]; exact hr.2.2⟩
theorem shares_loop {f : PF} {n s : Nat} (hD : DOK f n) (hs : s < 2 ^ n) : ∀ (m r act k : Nat) (om : OS), r + m = 40 → m + 1 < k → RP f n om → RW f om → om.1 22 = nI s → om.1 26 = nI act → om.1 27 = nI r → om.1 28 = 0 → act < 2 ^ n → (∀ i, act.testBit i = true → s.testBit i = true) →
    ∃ (om2 : OS), (lp_X5_shares_18 k om = some (.inl om2) ∨ lp_X5_shares_18 k om = some (.inr om2)) ∧ FR om om2 ∧ om2.1 27 = nI (run f n s m r act).1 ∧ om2.1 28 = (if (run f n s m r act).2.1 then 1 else 0) ∧ om2.1 26 = nI (run f n s m r act).2.2 ∧ ((run f n s m r act).2.1 = true → RT f n (run f n s m r act).2.2 om2) := by
  intro m
  have one : ¬ (1 : Int32) = 0 := by decide
  induction m with
  | zero =>
    intro r act k om hr hk hc hw es ea e27 e28 hal hsub
    obtain ⟨k, rfl⟩ : ∃ j, k = j + 1 := ⟨k - 1, by omega⟩
    have : r = 40 := by omega
    subst this
    refine ⟨om, Or.inr ?_, FR.rfl, e27, e28, ea, fun h => by cases h⟩
    rw [lp_X5_shares_18, e27, if_pos (show (40 : Int32) ≤ nI 40 by decide)]
  | succ m ih =>
    intro r act k om hr hk hc hw es ea e27 e28 hal hsub
    obtain ⟨k, rfl⟩ : ∃ j, k = j + 1 := ⟨k - 1, by omega⟩
    have hn := hc.1
    have hs5 : s < 512 := Nat.lt_of_lt_of_le hs (pow_le_512 hn)
    have ha5 : act < 512 := Nat.lt_of_lt_of_le hal (pow_le_512 hn)
    have c40 : ¬ (40 : Int32) ≤ nI r := nI_ge (b := 40) (by omega) (by decide)
    have e0 : run f n s (m + 1) r act = (if DD f n act = 0 then (r + 1, false, act) else match pul (TT f n act) act n with
      | some p => run f n s m (r + 1) (act ^^^ 2 ^ p)
      | none => match prs (PP f n act) (s ^^^ act) n with
        | some p => run f n s m (r + 1) (act ^^^ 2 ^ p)
        | none => (r + 1, true, act)) := rfl
    obtain ⟨o1, ho1⟩ : ∃ o1 : OS, o1 = sI om 27 (nI (r + 1)) := ⟨_, rfl⟩
    have f1 : FR om o1 := by
      rw [ho1]
      exact ⟨rfl, fun _ _ => rfl, fun i h1 h2 h3 => sI_ne _ _ _ _ h2⟩
    have a1 : o1.1 26 = nI act := by rw [ho1]; exact ea
    obtain ⟨o2, hst, ht, g1, g2, g3⟩ := steady_eq (b := act) (f1.rp hc) (f1.rw hw) ha5 (hD act hal)
    have f2 : FR o1 o2 := ⟨g2, g3, fun i _ _ _ => by rw [g1]⟩
    have f12 := f1.trans f2
    have a2 : o2.1 26 = nI act := by rw [g1]; exact a1
    have s2 : o2.1 22 = nI s := by rw [f12.2.2 22 (by decide) (by decide) (by decide)]; exact es
    have r2 : o2.1 27 = nI (r + 1) := by rw [g1, ho1]; rfl
    have z2 : o2.1 28 = 0 := by rw [g1, ho1]; exact e28
    have hgo := goesOut_eq (f12.rp hc) ha5 a2 ht
    have hci := comesIn_eq (f12.rp hc) hs5 ha5 hsub s2 a2 ht
    have hbody : lp_X5_shares_18 (k + 1) om = Option.bind (f_X5_isSteady (nI act) o1) fun x11 => if x11.1 = 0 then some (.inl x11.2) else Option.bind (f_X5_goesOut x11.2) fun x13 => Option.bind (if x13 = (-9) then Option.bind (f_X5_comesIn x11.2) fun x22 => some x22 else some (-9) : Option Int32) fun z14 => if x13 = (-9) then if z14 = (-9) then lt (sI x11.2 28 1) fun o18 => lp_X5_shares_18 k o18 else lt (sI x11.2 26 ((x11.2.1 26) ||| (1 <<< (z14 &&& 31)))) fun o19 => lp_X5_shares_18 k o19 else lt (sI x11.2 26 ((x11.2.1 26) &&& ((1 <<< (x13 &&& 31)) ^^^ (-1)))) fun o20 => lp_X5_shares_18 k o20 := by
      rw [lp_X5_shares_18, e27, if_neg c40, e28, if_pos rfl]
      simp only [lt, nI_1]
      rw [← ho1, a1]
    have fT : ∀ v, FR om (sI o2 26 v) := fun v => f12.trans ⟨rfl, fun _ _ => rfl, fun i h1 _ _ => sI_ne _ _ _ _ h1⟩
    have nne : ∀ j, j < 512 → ¬ nI j = -9 := fun j hj q => by
      have h2 := nI_toInt (show j < 2 ^ 31 by omega)
      rw [q] at h2
      have h3 : (-9 : Int32).toInt = -9 := rfl
      omega
    rw [hst, Option.bind_some] at hbody
    by_cases c : DD f n act = 0
    · rw [if_pos c] at e0 hbody
      rw [e0]
      exact ⟨o2, Or.inl (by rw [hbody]; rfl), f12, r2, z2, a2, fun h => by cases h⟩
    · rw [if_neg c] at e0 hbody
      simp only [if_neg one, hgo, Option.bind_some] at hbody
      cases e1 : pul (TT f n act) act n with
      | some p =>
        rw [e1] at e0 hbody
        simp only at e0
        obtain ⟨q1, q2, -⟩ := pul_bit e1
        have np := nne p (by omega)
        rw [show oi (-9) (some p) = nI p from rfl, if_neg np, Option.bind_some, if_neg np] at hbody
        simp only [lt, a2, bit_clr ha5 (show p < 9 by omega) q1] at hbody
        have g := fT (nI (act ^^^ 2 ^ p))
        obtain ⟨om2, k1, k2, k3, k4, k5, k6⟩ := ih (r + 1) (act ^^^ 2 ^ p) k (sI o2 26 (nI (act ^^^ 2 ^ p))) (by omega) (by omega) (g.rp hc) (g.rw hw) s2 rfl r2 z2 (tog_lt hal q2) (bits_sub_tog hsub (hsub p q1))
        rw [e0]
        exact ⟨om2, by rw [hbody]; exact k1, g.trans k2, k3, k4, k5, k6⟩
      | none =>
        rw [e1] at e0 hbody
        simp only at e0
        simp only [oi, if_true, hci, Option.bind_some] at hbody
        cases e2 : prs (PP f n act) (s ^^^ act) n with
        | some p =>
          rw [e2] at e0 hbody
          simp only at e0
          obtain ⟨q1, q2, -⟩ := prs_bit e2
          have q3 : s.testBit p = true ∧ act.testBit p = false := by
            rw [Nat.testBit_xor] at q1
            have := hsub p
            cases c3 : s.testBit p <;> cases c4 : act.testBit p <;> simp_all
          simp only [oi, if_neg (nne p (by omega)), lt, a2, bit_set ha5 (show p < 9 by omega) q3.2] at hbody
          have g := fT (nI (act ^^^ 2 ^ p))
          obtain ⟨om2, k1, k2, k3, k4, k5, k6⟩ := ih (r + 1) (act ^^^ 2 ^ p) k (sI o2 26 (nI (act ^^^ 2 ^ p))) (by omega) (by omega) (g.rp hc) (g.rw hw) s2 rfl r2 z2 (tog_lt hal q2) (bits_sub_tog hsub q3.1)
          rw [e0]
          exact ⟨om2, by rw [hbody]; exact k1, g.trans k2, k3, k4, k5, k6⟩
        | none =>
          rw [e2] at e0 hbody
          simp only at e0
          simp only [oi, if_true, lt] at hbody
          rw [e0]
          obtain ⟨k, rfl⟩ : ∃ j, k = j + 1 := ⟨k - 1, by omega⟩
          refine ⟨sI o2 28 1, Or.inr ?_, f12.trans ⟨rfl, fun _ _ => rfl, fun i _ _ h3 => sI_ne _ _ _ _ h3⟩, r2, rfl, a2, fun _ => ht⟩
          rw [hbody, lp_X5_shares_18]
          split
          · rfl
          · rw [show (sI o2 28 1).1 28 = 1 from rfl, if_neg one]
/-- what a distribution of the reference holds when it is done -/
def RDone (f : PF) (n s : Nat) (om : OS) : Prop := RP f n om ∧ RW f om ∧ om.1 22 = nI s ∧ om.1 27 = nI (run f n s 40 0 s).1 ∧ om.1 28 = (if (run f n s 40 0 s).2.1 then 1 else 0) ∧ om.1 26 = nI (run f n s 40 0 s).2.2 ∧ ((run f n s 40 0 s).2.1 = true → RT f n (run f n s 40 0 s).2.2 om)
theorem shares_eq {f : PF} {n s : Nat} {om : OS} (hD : DOK f n) (hs : s < 2 ^ n) (hr : RP f n om) (hw : RW f om) (es : om.1 22 = nI s) : ∃ om2, f_X5_shares om = some om2 ∧ RDone f n s om2 ∧ FR om om2 := by
  have f1 : FR om (sI (sI (sI om 26 (om.1 22)) 27 0) 28 0) := ⟨rfl, fun _ _ => rfl, fun i h1 h2 h3 => by rw [sI_ne _ _ _ _ h3, sI_ne _ _ _ _ h2, sI_ne _ _ _ _ h1]⟩
  obtain ⟨om2, k1, k2, k3, k4, k5, k6⟩ := shares_loop hD hs 40 0 s 1000 (sI (sI (sI om 26 (om.1 22)) 27 0) 28 0) (by omega) (by omega) (f1.rp hr) (f1.rw hw) es es rfl rfl hs (fun i h => h)
  have g := f1.trans k2
  refine ⟨om2, ?_, ⟨g.rp hr, g.rw hw, by rw [g.2.2 22 (by decide) (by decide) (by decide)]; exact es, k3, k4, k5, k6⟩, g⟩
  simp only [f_X5_shares, lt]
  rcases k1 with k1 | k1 <;> (rw [k1]; rfl)
/-- no pile: no plane -/
theorem sm_none {f : PF} {b i : Nat} : ∀ n, (∀ p, p < n → b.testBit p = false) → sm f b i n = 0
  | 0, _ => rfl
  | n + 1, h => by
    show (if b.testBit n then sm f b i n + tm f i n else sm f b i n) = 0
    rw [h n (by omega), sm_none n (fun p hp => h p (by omega))]
    rfl
theorem mu_none {T : Nat → Int64} {C : Nat → Int32} {s : Nat} : ∀ n, mu T C s n = none → ∀ p, p < n → s.testBit p = false
  | 0, _, p, hp => by omega
  | n + 1, h, p, hp => by
    have e0 : mu T C s (n + 1) = (match mu T C s n with
      | none => if s.testBit n = true then some n else none
      | some j => if s.testBit n = true ∧ T j * (C n).toInt64 < T n * (C j).toInt64 then some n else some j) := rfl
    cases e : mu T C s n with
    | some j =>
      rw [e] at e0
      rw [e0] at h
      simp only at h
      split at h <;> cases h
    | none =>
      rw [e] at e0
      rw [e0] at h
      simp only at h
      by_cases c : s.testBit n = true
      · rw [if_pos c] at h; cases h
      · by_cases e2 : p = n
        · subst e2; exact Bool.eq_false_iff.mpr c
        · exact mu_none n e p (by omega)
theorem settled_some {f : PF} {n s a : Nat} {T : Nat → Int64} {C : Nat → Int32} (hsub : ∀ i, a.testBit i = true → s.testBit i = true) (hD : ¬ DD f n a = 0) : ∃ j, mu T C s n = some j := by
  cases e : mu T C s n with
  | some j => exact ⟨j, rfl⟩
  | none =>
    refine absurd ?_ hD
    have hz : ∀ p, p < n → a.testBit p = false := fun p hp => by
      cases c : a.testBit p
      · rfl
      · have := mu_none n e p hp
        rw [hsub p c] at this
        cases this
    unfold DD dD sK
    rw [sm_none n hz, sm_none n hz, sm_none n hz, sm_none n hz, sm_none n hz, sm_none n hz]
    decide
