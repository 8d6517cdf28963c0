/-! ===== the distribution as it stands, on both sides ===== -/
/-- what lasts of the reference, and the bounds of what does not -/
def Fr (om om2 : OS) : Prop := (∀ r, r < 17 → om2.2.2 r = om.2.2 r) ∧ (∀ i, i < 21 → om2.1 i = om.1 i)
theorem Fr.rfl {om : OS} : Fr om om := ⟨fun _ _ => Eq.refl _, fun _ _ => Eq.refl _⟩
theorem Fr.trans {a b c : OS} (h : Fr a b) (g : Fr b c) : Fr a c := ⟨fun r hr => (g.1 r hr).trans (h.1 r hr), fun i hi => (g.2 i hi).trans (h.2 i hi)⟩
theorem Fr.pe {a b : OS} (h : Fr a b) : PE a b := ⟨h.1 0 (by omega), h.1 1 (by omega), h.1 3 (by omega), h.1 4 (by omega), h.1 6 (by omega), h.1 8 (by omega), h.2 2 (by omega), h.2 5 (by omega), h.2 7 (by omega), h.2 9 (by omega)⟩
theorem LPf.fr {a b : OS} (h : LPf a b) : Fr a b := ⟨fun r hr => h.1 r (by omega) (by omega) (by omega) (by omega), fun i hi => h.2.2 i (by omega) (by omega)⟩
theorem FR.fr {a b : OS} (h : FR a b) : Fr a b := ⟨fun r _ => by rw [h.1], fun i hi => h.2.2 i (by omega) (by omega) (by omega)⟩
theorem laysSums_eq {S : Nat → Int32} {w u v : Int32} (hr : ∀ om : OS, om.2.2 0 = S → f_X5_sumOf 0 om = some w.toInt64 ∧ f_X5_sumOf 1 om = some u.toInt64 ∧ f_X5_sumOf 2 om = some v.toInt64) {om : OS} (hm : om.2.2 0 = S) : f_X5_laysSums om = some (sL (sL (sL om 23 w.toInt64) 24 u.toInt64) 25 v.toInt64) := by
  rw [f_X5_laysSums, (hr om hm).1, Option.bind_some]
  simp only [lt]
  rw [(hr (sL om 23 w.toInt64) hm).2.1, Option.bind_some, (hr (sL (sL om 23 w.toInt64) 24 u.toInt64) hm).2.2]
  rfl
/-- the present piles and loads: f is what both sides take -/
theorem take_eq {on : OS} {S : Nat → Int32} {n k b : Nat} (h : SRn on S n k b) : ∃ f : PF, PB f n ∧ LB f ∧ f = pf S (fW f) (fU f) (fV f) ∧ (∀ (oo od : OS), ∃ od2, f_X4_takePresent oo on od = some od2 ∧ CP f n od2 ∧ CW f od2) ∧ (∀ om : OS, om.2.2 0 = S → ∃ om2, f_X5_laysSums om = some om2 ∧ om2.1 = om.1 ∧ om2.2.2 = om.2.2 ∧ RW f om2) := by
  obtain ⟨w, u, v, c1, c2, c3, hr, b1, b2, b3⟩ := sums_eq h
  refine ⟨pf S w.toInt64 u.toInt64 v.toInt64, h.pb _ _ _, ⟨?_, ?_, ?_⟩, rfl, fun oo od => ?_, fun om hm => ?_⟩
  · show (w.toInt64).toInt.natAbs ≤ _
    rw [Int32.toInt_toInt64]; exact b1
  · show (u.toInt64).toInt.natAbs ≤ _
    rw [Int32.toInt_toInt64]; exact b2
  · show (v.toInt64).toInt.natAbs ≤ _
    rw [Int32.toInt_toInt64]; exact b3
  · obtain ⟨od1, r1, hc, -, -⟩ := takePiles_eq h od w.toInt64 u.toInt64 v.toInt64
    refine ⟨sL (sL (sL od1 5 w.toInt64) 6 u.toInt64) 7 v.toInt64, ?_, hc, ⟨rfl, rfl, rfl⟩⟩
    rw [f_X4_takePresent, r1, Option.bind_some, c1, Option.bind_some, c2, Option.bind_some, c3]
    rfl
  · exact ⟨_, laysSums_eq hr hm, rfl, rfl, ⟨rfl, rfl, rfl⟩⟩
theorem settleOn_eq {f : PF} {n s : Nat} {od : OS} (hB : PB f n) (hs : s < 2 ^ n) (hc : CP f n od) (hw : CW f od) (odw odp : OS) : ∃ od2 odw2 odp2, f_X0_settleOn (nI s) od odw odp = some (od2, odw2, odp2) ∧ Done f n s od2 odp2 ∧ CW f od2 := by
  obtain ⟨odw2, r1, hp⟩ := begin_eq hc hs odw
  obtain ⟨od2, odp2, r2, hd, e2, -⟩ := settle_eq (odp := odp) (od := sI od 8 (nI s)) hB (DD_ok hB hc.1) hs hc hw rfl hp
  refine ⟨od2, odw2, odp2, ?_, hd, ?_⟩
  · rw [f_X0_settleOn, r1, Option.bind_some, r2]; rfl
  · unfold CW
    rw [e2]
    exact hw
/-- spreadPresent and sharesNow -/
theorem now_eq {on om : OS} {n k b : Nat} (h : SRn on (om.2.2 0) n k b) (oo od odw odp : OS) : ∃ (f : PF) (od2 odw2 odp2 om2 : OS), PB f n ∧ LB f ∧ f_X4_spreadPresent oo on od odw odp = some (od2, odw2, odp2) ∧ f_X5_sharesNow om = some om2 ∧ Done f n b od2 odp2 ∧ RDone f n b om2 ∧ Fr om om2 := by
  obtain ⟨f, hB, hL, hf, hc, hr⟩ := take_eq h
  obtain ⟨od1, c1, c2, c3⟩ := hc oo od
  obtain ⟨od2, odw2, odp2, d1, d2, -⟩ := settleOn_eq hB h.2.2.1 c2 c3 odw odp
  obtain ⟨om1, l1, l2, l3, l4⟩ := lays_eq h (fW f) (fU f) (fV f)
  rw [← hf] at l3
  obtain ⟨om2, s1, s2, s3, s4⟩ := hr om1 (l2.1 0 (by decide) (by decide) (by decide) (by decide))
  obtain ⟨om3, t1, t2, t3⟩ := shares_eq (om := om2) (DD_ok hB (by have := h.1; omega)) h.2.2.1 ⟨l3.1, by rw [s2]; exact l3.2.1, by rw [s3]; exact l3.2.2⟩ s4 (by rw [s2]; exact l4)
  refine ⟨f, od2, odw2, odp2, om3, hB, hL, ?_, ?_, d2, t2, ?_⟩
  · rw [f_X4_spreadPresent, c1, Option.bind_some, h.2.2.2.2.2.1, d1]; rfl
  · rw [f_X5_sharesNow, l1, Option.bind_some, s1, Option.bind_some, t1]; rfl
  · exact l2.fr.trans (Fr.trans ⟨fun r _ => by rw [s3], fun i _ => by rw [s2]⟩ t3.fr)
theorem sI_id (o : OS) (k : Nat) : sI o k (o.1 k) = o := by
  have : va_up o.1 k (o.1 k) = o.1 := by
    funext i
    unfold va_up
    split
    · rename_i h; rw [h]
    · rfl
  unfold sI
  rw [this]
/-! the greatest use -/
abbrev ra (f : PF) (n s : Nat) : Nat := (run f n s 40 0 s).2.2
abbrev rs (f : PF) (n s : Nat) : Bool := (run f n s 40 0 s).2.1
def uT (f : PF) (n s j : Nat) : Int64 := TS f n (ra f n s) j
def uB (f : PF) (n s j : Nat) : Int64 := DD f n (ra f n s) * (fC f j).toInt64
theorem use_c {f : PF} {n s : Nat} {od op : OS} (h : Done f n s od op) (hset : rs f n s = true) : ∃ j, mu (TS f n (ra f n s)) (fC f) s n = some j ∧ j < n ∧ od.1 12 = nI j ∧ f_X0_useTop od op = some (uT f n s j) ∧ f_X0_useBottom od op = some (uB f n s j) := by
  obtain ⟨hc, e8, e10, e11, e9, hal, hsub, hall⟩ := h
  obtain ⟨hp, hD, hpul, e12⟩ := hall hset
  have hn := hc.1
  obtain ⟨j, ej⟩ := settled_some (T := TS f n (ra f n s)) (C := fC f) hsub hD
  have hj := (mu_bit ej).2
  rw [ej] at e12
  have e12' : od.1 12 = nI j := e12
  have tj : (nI j).toNatClampNeg = j := nI_clamp (by omega)
  refine ⟨j, ej, hj, e12', ?_, ?_⟩
  · rw [f_X0_useTop, e12', shareTop_eq hc (Nat.lt_of_lt_of_le hal (pow_le_512 hn)) e9 hp hj]; rfl
  · have sl : f_X0_isSlot (nI j) = some 1 := by
      rw [f_X0_isSlot, if_neg (nI_pos (by omega)), if_neg (show ¬ (9 : Int32) ≤ nI j from nI_ge (b := 9) (by omega) (by decide))]
    rw [f_X0_useBottom, e12', sl, Option.bind_some, if_neg (by decide), ck_nI (by omega) (by decide), tj, (hc.2.2 j hj).2.2.2, hp.1]
    rfl
theorem use_b {f : PF} {n s j : Nat} (hB : PB f n) (hn : n ≤ 9) (hL : LB f) (hD : ¬ DD f n (ra f n s) = 0) (hp : pul (TT f n (ra f n s)) (ra f n s) n = none) (hj : j < n) : 0 ≤ (uT f n s j).toInt ∧ (uT f n s j).toInt < 2 ^ 42 ∧ 0 < (uB f n s j).toInt ∧ (uB f n s j).toInt < 2 ^ 42 := by
  obtain ⟨h1, h2, h3, h4⟩ := settled_int hB hn hL hD hp
  obtain ⟨t1, t2, -⟩ := h4 j hj
  have hc := (hB j hj).2.2.2
  have a1 : (DD f n (ra f n s)).toInt.natAbs ≤ 20920706406 := by omega
  have a2 : ((fC f j).toInt64).toInt.natAbs ≤ 99 := by rw [Int32.toInt_toInt64]; exact hc.abs (by omega) (by omega)
  obtain ⟨m1, m2⟩ := mul64 20920706406 99 a1 a2 (by decide)
  refine ⟨t1, by show (TS f n (ra f n s) j).toInt < _; omega, ?_, by show (DD f n (ra f n s) * (fC f j).toInt64).toInt < _; omega⟩
  show 0 < (DD f n (ra f n s) * (fC f j).toInt64).toInt
  rw [m1, Int32.toInt_toInt64]
  exact Int.mul_pos h1 (by have := hc.1; omega)
theorem laysMost_loop {f : PF} {n s a : Nat} (hs : s < 512) (ha : a < 512) : ∀ (m p k : Nat) (om : OS), RP f n om → om.1 22 = nI s → om.1 26 = nI a → RT f n a om → p + m = n → m < k → om.1 35 = oi (-9) (mu (TS f n a) (fC f) s p) → lp_X5_laysMost_17 k (nI p) om = some (nI n, sI om 35 (oi (-9) (mu (TS f n a) (fC f) s n))) := by
  intro m
  have nne : ∀ j, j < 512 → ¬ nI j = -9 := fun j hj q => by
    have h2 := nI_toInt (show j < 2 ^ 31 by omega)
    rw [q] at h2
    have h3 : (-9 : Int32).toInt = -9 := rfl
    omega
  induction m with
  | zero =>
    intro p k om hr es ea ht hp2 hk e35
    obtain ⟨k, rfl⟩ : ∃ j, k = j + 1 := ⟨k - 1, by omega⟩
    have : p = n := by omega
    subst this
    rw [lp_X5_laysMost_17, hr.2.1, if_pos (nI_le (Nat.le_refl _) (by have := hr.1; omega)), ← e35]
    rw [show sI om 35 (om.1 35) = om from sI_id om 35]
  | succ m ih =>
    intro p k om hr es ea ht hp2 hk e35
    obtain ⟨k, rfl⟩ : ∃ j, k = j + 1 := ⟨k - 1, by omega⟩
    have hn := hr.1
    have tp : (nI p).toNatClampNeg = p := nI_clamp (by omega)
    rw [lp_X5_laysMost_17, hr.2.1, if_neg (nI_ge (show p < n by omega) (by omega)), es]
    have hsame : mu (TS f n a) (fC f) s (p + 1) = mu (TS f n a) (fC f) s p → lp_X5_laysMost_17 k (nI (p + 1)) om = some (nI n, sI om 35 (oi (-9) (mu (TS f n a) (fC f) s n))) := fun e => ih (p + 1) k om hr es ea ht (by omega) (by omega) (by rw [e]; exact e35)
    have hnew : mu (TS f n a) (fC f) s (p + 1) = some p → lp_X5_laysMost_17 k (nI (p + 1)) (sI om 35 (nI p)) = some (nI n, sI om 35 (oi (-9) (mu (TS f n a) (fC f) s n))) := fun e => by
      have i1 := ih (p + 1) k (sI om 35 (nI p)) hr es ea ht (by omega) (by omega) (by rw [e]; rfl)
      rw [sI_sI] at i1
      exact i1
    have e0 : mu (TS f n a) (fC f) s (p + 1) = (match mu (TS f n a) (fC f) s p with
      | none => if s.testBit p = true then some p else none
      | some j => if s.testBit p = true ∧ TS f n a j * (fC f p).toInt64 < TS f n a p * (fC f j).toInt64 then some p else some j) := rfl
    by_cases c : s.testBit p = true
    · rw [if_pos ((bit_get hs (by omega)).mpr c), e35]
      cases e : mu (TS f n a) (fC f) s p with
      | none =>
        rw [e] at e0
        simp only [if_pos c] at e0
        rw [if_pos (show oi (-9) none = -9 from rfl)]
        simp only [lt, nI_1]
        exact hnew e0
      | some j =>
        rw [e] at e0
        simp only at e0
        have hj := (mu_bit e).2
        have tj : (nI j).toNatClampNeg = j := nI_clamp (by omega)
        rw [show oi (-9) (some j) = nI j from rfl, if_neg (nne j (by omega)), bears_eq hr ha ea ht (by omega), Option.bind_some, ck_nI (show j < 9 by omega) (by decide), bears_eq hr ha ea ht (by omega), Option.bind_some, ck_nI (show p < 9 by omega) (by decide), tj, tp, (hr.2.2 j (by omega)).2.2.2, (hr.2.2 p (by omega)).2.2.2]
        simp only [lt, nI_1]
        by_cases c2 : TS f n a p * (fC f j).toInt64 ≤ TS f n a j * (fC f p).toInt64
        · rw [if_pos c2]
          rw [if_neg (fun q => absurd c2 (Int64.not_le.mpr q.2))] at e0
          exact hsame (by rw [e0, e])
        · rw [if_neg c2]
          rw [if_pos ⟨c, Int64.not_le.mp c2⟩] at e0
          exact hnew e0
    · rw [if_neg (fun q => c ((bit_get hs (by omega)).mp q))]
      simp only [nI_1]
      refine hsame ?_
      rw [e0]
      cases e : mu (TS f n a) (fC f) s p with
      | none => simp [c]
      | some j => simp [c]
/-- the reference's greatest use, not settled -/
theorem laysMost_no {f : PF} {n s : Nat} {om : OS} (h : RDone f n s om) (hset : ¬ rs f n s = true) : f_X5_laysMost om = some (0, sI om 35 (-9)) := by
  obtain ⟨hr, hw, e22, e27, e28, e26, ht⟩ := h
  rw [if_neg hset] at e28
  rw [f_X5_laysMost]
  simp only [lt]
  rw [show (sI om 35 (-9)).1 28 = 0 from e28, if_pos rfl]
theorem laysMost_yes {f : PF} {n s j : Nat} {om : OS} (h : RDone f n s om) (hs : s < 2 ^ n) (ha : ra f n s < 2 ^ n) (hset : rs f n s = true) (hj : mu (TS f n (ra f n s)) (fC f) s n = some j) : f_X5_laysMost om = some (1, sL (sL (sI om 35 (nI j)) 33 (uT f n s j)) 34 (uB f n s j)) := by
  obtain ⟨hr, hw, e22, e27, e28, e26, ht⟩ := h
  have hn := hr.1
  have hjn := (mu_bit hj).2
  rw [if_pos hset] at e28
  have ht := ht hset
  have hs5 : s < 512 := Nat.lt_of_lt_of_le hs (pow_le_512 hn)
  have ha5 : ra f n s < 512 := Nat.lt_of_lt_of_le ha (pow_le_512 hn)
  have tj : (nI j).toNatClampNeg = j := nI_clamp (by omega)
  have nne : ¬ nI j = -9 := fun q => by
    have h2 := nI_toInt (show j < 2 ^ 31 by omega)
    rw [q] at h2
    have h3 : (-9 : Int32).toInt = -9 := rfl
    omega
  have hl := laysMost_loop (f := f) hs5 ha5 n 0 1000 (sI om 35 (-9)) hr e22 e26 ht (by omega) (by omega) rfl
  rw [sI_sI, hj] at hl
  rw [f_X5_laysMost]
  simp only [lt]
  rw [show (sI om 35 (-9)).1 28 = 1 from e28, if_neg (by decide), show lp_X5_laysMost_17 1000 0 (sI om 35 (-9)) = some (nI n, sI om 35 (oi (-9) (some j))) from hl, Option.bind_some]
  simp only
  rw [show (sI om 35 (oi (-9) (some j))) = sI om 35 (nI j) from rfl, show (sI om 35 (nI j)).1 35 = nI j from rfl, if_neg nne, show f_X5_bears (nI j) (sI om 35 (nI j)) = some (uT f n s j) from bears_eq (om := sI om 35 (nI j)) hr ha5 e26 ht hjn, Option.bind_some]
  show ck (nI j) 9 (some (1, sL (sL (sI om 35 (nI j)) 33 (uT f n s j)) 34 (om.2.1 29 * (om.2.2 20 (nI j).toNatClampNeg).toInt64))) = _
  rw [ck_nI (by omega) (by decide), tj, (hr.2.2 j hjn).2.2.2, ht.1]
  rfl
theorem most_fr (om : OS) (a : Int32) (b c : Int64) : Fr om (sL (sL (sI om 35 a) 33 b) 34 c) := ⟨fun _ _ => rfl, fun i hi => sI_ne _ _ _ _ (by omega)⟩
theorem most_fr0 (om : OS) (a : Int32) : Fr om (sI om 35 a) := ⟨fun _ _ => rfl, fun i hi => sI_ne _ _ _ _ (by omega)⟩
/-- greatestUse, laysMost and tellsMost -/
theorem great_eq {f : PF} {n s : Nat} {od op om : OS} (hB : PB f n) (hL : LB f) (hs : s < 2 ^ n) (h : Done f n s od op) (hr : RDone f n s om) (w : Int32) (oo : OS) : ∃ (r : Int64) (om2 : OS), f_X4_greatestUse w oo od op = some r ∧ Fr om om2 ∧ ((f_X5_laysMost om = some (0, om2) ∧ r = -9) ∨ (f_X5_laysMost om = some (1, om2) ∧ f_X5_tellsMost w om2 = some r)) := by
  have hn := h.1.1
  by_cases c : rs f n s = true
  · obtain ⟨j, ej, hj, e12, u1, u2⟩ := use_c h c
    have hm := laysMost_yes hr hs h.2.2.2.2.2.1 c ej
    obtain ⟨-, hD, hpul, -⟩ := h.2.2.2.2.2.2.2 c
    obtain ⟨b1, b2, b3, b4⟩ := use_b (j := j) hB hn hL hD hpul hj
    have e11 : od.1 11 = 1 := by rw [h.2.2.2.1, if_pos c]
    by_cases c2 : w = 2
    · refine ⟨(nI j).toInt64, _, ?_, most_fr om _ _ _, Or.inr ⟨hm, ?_⟩⟩
      · rw [f_X4_greatestUse, e11, if_neg (by decide), if_pos c2, e12]
      · rw [f_X5_tellsMost, if_pos c2]; rfl
    · obtain ⟨r, r1, r2⟩ := part_eq (a := uT f n s j) (b := uB f n s j) (by omega) b3 b4 w
      refine ⟨r, _, ?_, most_fr om _ _ _, Or.inr ⟨hm, ?_⟩⟩
      · rw [f_X4_greatestUse, e11, if_neg (by decide), if_neg c2, u1, Option.bind_some, u2, Option.bind_some, r1]; rfl
      · rw [f_X5_tellsMost, if_neg c2, show f_X5_part ((sL (sL (sI om 35 (nI j)) 33 (uT f n s j)) 34 (uB f n s j)).2.1 33) ((sL (sL (sI om 35 (nI j)) 33 (uT f n s j)) 34 (uB f n s j)).2.1 34) w = some r from r2]; rfl
  · have e11 : od.1 11 = 0 := by rw [h.2.2.2.1, if_neg c]
    exact ⟨-9, _, by rw [f_X4_greatestUse, e11, if_pos rfl], most_fr0 om _, Or.inl ⟨laysMost_no hr c, rfl⟩⟩
