/-! ===== spots: one place, on both sides ===== -/
theorem shareTop_any {f : PF} {n a p : Nat} {od op : OS} (hc : CP f n od) (ha : a < 2 ^ n) (ea : od.1 9 = nI a) (hp : PLt f n a op) (hp9 : p < 9) : f_X0_shareTop (nI p) od op = some (TS f n a p) := by
  have hn := hc.1
  have ha5 : a < 512 := Nat.lt_of_lt_of_le ha (pow_le_512 hn)
  by_cases c : p < n
  · exact shareTop_eq hc ha5 ea hp c
  · have cb : a.testBit p = false := bit_out ha (by omega)
    have sl : f_X0_isSlot (nI p) = some 1 := by
      rw [f_X0_isSlot, if_neg (nI_pos (by omega)), if_neg (show ¬ (9 : Int32) ≤ nI p from nI_ge (b := 9) (by omega) (by decide))]
    have ac : f_X0_isActive (nI p) od = some 0 := by
      rw [f_X0_isActive, ea, if_neg (fun q => by rw [(bit_get ha5 hp9).mp q] at cb; cases cb)]
    rw [f_X0_shareTop, sl, Option.bind_some, if_neg not_one, ac, Option.bind_some, if_pos rfl]
    unfold TS
    rw [cb]
    rfl
theorem bears_any {f : PF} {n a p : Nat} {om : OS} (hr : RP f n om) (ha : a < 2 ^ n) (ea : om.1 26 = nI a) (ht : RT f n a om) (hp9 : p < 9) : f_X5_bears (nI p) om = some (TS f n a p) := by
  have hn := hr.1
  have ha5 : a < 512 := Nat.lt_of_lt_of_le ha (pow_le_512 hn)
  by_cases c : p < n
  · exact bears_eq hr ha5 ea ht c
  · have cb : a.testBit p = false := bit_out ha (by omega)
    rw [f_X5_bears, ea, if_neg (fun q => by rw [(bit_get ha5 hp9).mp q] at cb; cases cb)]
    unfold TS
    rw [cb]
    rfl
def okS (E : Nat → Bool) : Nat → Nat → Bool
  | _, 0 => true
  | i, m + 1 => E i && okS E (i + 1) m
theorem isSpot_loop {oo od op : OS} {t : Nat} {E : Nat → Bool} (ht : t ≤ 6) (e10 : oo.1 10 = nI t) (hE : ∀ i, i < t → ∃ v : Int64, f_X0_shareDown (oo.2.2 8 i) od op = some v ∧ E i = decide (v = (oo.2.2 9 i).toInt64)) : ∀ (m i k : Nat), i + m = t → m < k → lp_X4_isSpot_53 oo od op k (nI i) = some (if okS E i m then .inr (nI t) else .inl (0, od, op)) := by
  intro m
  induction m with
  | zero =>
    intro i k hi hk
    obtain ⟨k, rfl⟩ : ∃ j, k = j + 1 := ⟨k - 1, by omega⟩
    have : i = t := by omega
    subst this
    rw [lp_X4_isSpot_53, e10, if_pos (nI_le (Nat.le_refl _) (by omega))]
    rfl
  | succ m ih =>
    intro i k hi hk
    obtain ⟨k, rfl⟩ : ∃ j, k = j + 1 := ⟨k - 1, by omega⟩
    have ti : (nI i).toNatClampNeg = i := nI_clamp (by omega)
    obtain ⟨v, h1, h2⟩ := hE i (by omega)
    have e0 : okS E i (m + 1) = (E i && okS E (i + 1) m) := rfl
    rw [lp_X4_isSpot_53, e10, if_neg (nI_ge (show i < t by omega) (by omega)), ck_nI (show i < 6 by omega) (by decide), ti, h1, Option.bind_some, ck_nI (show i < 6 by omega) (by decide), nI_1, e0, h2]
    by_cases c : v = (oo.2.2 9 i).toInt64
    · rw [if_pos c, decide_eq_true c, Bool.true_and]
      exact ih (i + 1) k (by omega) (by omega)
    · rw [if_neg c, decide_eq_false c]
      rfl
theorem isSo_loop {om : OS} {t : Nat} {E : Nat → Bool} (ht : t ≤ 6) (e7 : om.1 7 = nI t) (hz : ¬ om.2.1 29 = 0) (hE : ∀ i, i < t → ∃ w v : Int64, f_X5_bears (om.2.2 6 (2 * i)) om = some w ∧ w / om.2.1 29 = v ∧ E i = decide (v = (om.2.2 6 (2 * i + 1)).toInt64)) : ∀ (m i k : Nat), i + m = t → m + 1 < k → ∃ v : Int32, lp_X5_isSo_7 om k 1 (nI i) = some (if okS E i m then 1 else 0, v) := by
  intro m
  induction m with
  | zero =>
    intro i k hi hk
    obtain ⟨k, rfl⟩ : ∃ j, k = j + 1 := ⟨k - 1, by omega⟩
    have : i = t := by omega
    subst this
    exact ⟨nI i, by rw [lp_X5_isSo_7, e7, if_pos (nI_le (Nat.le_refl _) (by omega))]; rfl⟩
  | succ m ih =>
    intro i k hi hk
    obtain ⟨k, rfl⟩ : ∃ j, k = j + 1 := ⟨k - 1, by omega⟩
    have t1 : (nI (2 * i)).toNatClampNeg = 2 * i := nI_clamp (by omega)
    have t2 : (nI (2 * i + 1)).toNatClampNeg = 2 * i + 1 := nI_clamp (by omega)
    obtain ⟨w, v, h1, h2, h3⟩ := hE i (by omega)
    have e0 : okS E i (m + 1) = (E i && okS E (i + 1) m) := rfl
    rw [lp_X5_isSo_7, e7, if_neg (nI_ge (show i < t by omega) (by omega)), if_neg not_one, show (2 : Int32) * nI i = nI (2 * i) from nI_mul 2 i, nI_1, nI_1, ck_nI (show 2 * i < 12 by omega) (by decide), t1, t2]
    simp only [lt]
    rw [h1, Option.bind_some, dzL, if_neg hz, ck_nI (show 2 * i + 1 < 12 by omega) (by decide), h2, e0, h3]
    by_cases c : v = (om.2.2 6 (2 * i + 1)).toInt64
    · rw [if_pos c, decide_eq_true c, Bool.true_and]
      exact ih (i + 1) k (by omega) (by omega)
    · rw [if_neg c, decide_eq_false c]
      obtain ⟨k, rfl⟩ : ∃ j, k = j + 1 := ⟨k - 1, by omega⟩
      refine ⟨nI (i + 1), ?_⟩
      rw [lp_X5_isSo_7, if_pos rfl, ite_self]
      rfl
def FS (om om1 : OS) : Prop := om1.2.2 = om.2.2 ∧ ∀ i, i ≠ 26 → i ≠ 27 → i ≠ 28 → om1.1 i = om.1 i
theorem spot_eq {S : Nat → Int32} {n b : Nat} (hB : PB (pf S 0 0 0) n) (hn : n ≤ 8) (hb : b < 2 ^ n) {oo om od odw : OS} (hsee : RSight oo om) (hh : oo.1 7 = om.1 5) (hh2 : IR 1 99 (om.1 5)) (hc : CP (pf S 0 0 0) n od) (e8 : od.1 8 = nI b) (hp : PLs (pf S 0 0 0) n b odw) (hr : RP (pf S 0 0 0) n om) (e22 : om.1 22 = nI b) {i : Nat} (hi : i < 361) (odp : OS) :
    ∃ (q : Option (Nat → Nat)) (od2 odp2 om0 om1 : OS), f_X4_isSpot (nI i) oo od odw odp = some (if q.isSome then 1 else 0, od2, odp2) ∧ f_X5_laysLoad (om.1 5) ((nI i / 19) - 9) ((nI i - nI i / 19 * 19) - 9) om = some om0 ∧ f_X5_shares om0 = some om1 ∧ f_X5_isSo om1 = some (if q.isSome then 1 else 0) ∧ CP (pf S 0 0 0) n od2 ∧ od2.1 8 = nI b ∧ RP (pf S 0 0 0) n om1 ∧ om1.1 22 = nI b ∧ FS om om1 ∧ (∀ sh, q = some sh → ∃ (f : PF) (a : Nat), RP f n om1 ∧ RT f n a om1 ∧ om1.1 26 = nI a ∧ a < 2 ^ n ∧ ¬ DD f n a = 0 ∧ ∀ p, p < n → sh p ≤ 99 ∧ f_X0_shareDown (nI p) od2 odp2 = some (oL (sh p)) ∧ TS f n a p / DD f n a = oL (sh p)) := by
  obtain ⟨hx, hy⟩ := xy_ir i hi
  generalize hX : nI i / 19 - 9 = x at hx
  generalize hY : nI i - nI i / 19 * 19 - 9 = y at hy
  generalize hH : om.1 5 = h at hh2
  have ah : h.toInt.natAbs ≤ 99 := hh2.abs (by omega) (by omega)
  have ax : x.toInt.natAbs ≤ 9 := by omega
  have ay : y.toInt.natAbs ≤ 9 := by omega
  have mu1 := (mul32 99 9 ah ax (by decide)).2
  have mu2 := (mul32 99 9 ah ay (by decide)).2
  obtain ⟨f, hf⟩ : ∃ f : PF, f = pf S h.toInt64 (h * x).toInt64 (h * y).toInt64 := ⟨_, rfl⟩
  have hBf : PB f n := by rw [hf]; exact hB
  have hL : LB f := by
    rw [hf]
    refine ⟨?_, ?_, ?_⟩
    · show (h.toInt64).toInt.natAbs ≤ _
      rw [Int32.toInt_toInt64]; omega
    · show ((h * x).toInt64).toInt.natAbs ≤ _
      rw [Int32.toInt_toInt64]; omega
    · show ((h * y).toInt64).toInt.natAbs ≤ _
      rw [Int32.toInt_toInt64]; omega
  have hpf : PLs f n b odw := by
    rw [hf]
    obtain ⟨h0, h1, h2, h3, h4, h5⟩ := hp
    have e : ∀ j, sm (pf S h.toInt64 (h * x).toInt64 (h * y).toInt64) b j n = sm (pf S 0 0 0) b j n := fun j => sm_ext (fun p _ => ⟨rfl, rfl, rfl, rfl⟩)
    unfold PLs
    simp only [e]
    exact ⟨h0, h1, h2, h3, h4, h5⟩
  obtain ⟨od2, odp2, r2, hd, e2, -⟩ := settle_eq (f := f) (odp := odp) (od := sL (sL (sL od 5 h.toInt64) 6 (h * x).toInt64) 7 (h * y).toInt64) (s := b) hBf (DD_ok hBf (by omega)) hb (by rw [hf]; exact hc) (by rw [hf]; exact ⟨rfl, rfl, rfl⟩) e8 hpf
  obtain ⟨om1, t1, t2, t3⟩ := shares_eq (f := f) (n := n) (s := b) (om := sL (sL (sL om 23 h.toInt64) 24 (h * x).toInt64) 25 (h * y).toInt64) (DD_ok hBf (by omega)) hb (by rw [hf]; exact hr) (by rw [hf]; exact ⟨rfl, rfl, rfl⟩) e22
  have fs : FS om om1 := ⟨t3.1, fun j h1 h2 h3 => t3.2.2 j h1 h2 h3⟩
  have cp2 : CP (pf S 0 0 0) n od2 := by have := hd.1; rw [hf] at this; exact this
  have rp2 : RP (pf S 0 0 0) n om1 := by have := t2.1; rw [hf] at this; exact this
  have eS : f_X4_isSpot (nI i) oo od odw odp = if (od2.1 11) = 0 then some (0, od2, odp2) else Option.bind (lp_X4_isSpot_53 oo od2 odp2 1000 0) (Sum.elim (fun r => some r) (fun z9 => some (1, od2, odp2))) := by
    rw [f_X4_isSpot, f_X4_xOf, f_X4_yOf, Option.bind_some, Option.bind_some, hX, hY, hh, hH, f_X0_bear]
    simp only [lt, Option.bind_some]
    rw [r2, Option.bind_some]
  have eL : f_X5_laysLoad h x y om = some (sL (sL (sL om 23 h.toInt64) 24 (h * x).toInt64) 25 (h * y).toInt64) := rfl
  obtain ⟨-, d8, d10, d11, d9, hal, hsub, hall⟩ := hd
  obtain ⟨hrp, -, q22, q27, q28, q26, ht⟩ := t2
  by_cases cs : (run f n b 40 0 b).2.1 = true
  · obtain ⟨hpt, hD, hpul, -⟩ := hall cs
    have ht := ht cs
    obtain ⟨g1, g2, g3, g4⟩ := settled_int hBf (by omega) hL hD hpul
    generalize ha : (run f n b 40 0 b).2.2 = a at *
    have cpf : CP f n od2 := by rw [hf]; exact cp2
    have tpos : ∀ p, 0 ≤ (TS f n a p).toInt := fun p => by
      by_cases c : p < n
      · exact (g4 p c).1
      · unfold TS
        rw [bit_out hal (by omega)]
        exact Int.le_refl _
    have sd : ∀ p, p < 9 → f_X0_shareDown (nI p) od2 odp2 = some (TS f n a p / DD f n a) := fun p hp => by
      rw [f_X0_shareDown, hpt.1, if_neg hD, shareTop_any cpf hal d9 hpt hp, Option.bind_some, (down_eq (tpos p) g1).1]
      rfl
    have bd : ∀ p, p < 9 → f_X5_bears (nI p) om1 = some (TS f n a p) := fun p hp => bears_any hrp hal q26 ht hp
    obtain ⟨t, ht6, s10, s7, hs⟩ := hsee
    have om7 : om1.1 7 = nI t := (fs.2 7 (by decide) (by decide) (by decide)).trans s7
    have om6 : om1.2.2 6 = om.2.2 6 := by rw [fs.1]
    obtain ⟨E, hE⟩ : ∃ E : Nat → Bool, ∀ j, E j = decide (TS f n a (om.2.2 6 (2 * j)).toInt.toNat / DD f n a = (om.2.2 6 (2 * j + 1)).toInt64) := ⟨_, fun _ => rfl⟩
    have hP : ∀ j, j < t → om.2.2 6 (2 * j) = nI (om.2.2 6 (2 * j)).toInt.toNat ∧ (om.2.2 6 (2 * j)).toInt.toNat < 9 := fun j hj => by
      obtain ⟨-, -, i1, -⟩ := hs j hj
      obtain ⟨p, p1, p2⟩ := IR.nat (n := 7) i1 (by decide)
      rw [p2, nI_toInt (by omega)]
      exact ⟨by rw [Int.toNat_natCast], by omega⟩
    have l1 := isSpot_loop (oo := oo) (od := od2) (op := odp2) (E := E) ht6 s10 (fun j hj => by
      obtain ⟨a1, a2, -, -⟩ := hs j hj
      obtain ⟨b1, b2⟩ := hP j hj
      refine ⟨TS f n a (om.2.2 6 (2 * j)).toInt.toNat / DD f n a, ?_, ?_⟩
      · rw [a1]
        have := sd _ b2
        rw [← b1] at this
        exact this
      · rw [a2]; exact hE j) t 0 1000 (by omega) (by omega)
    obtain ⟨vv, l2⟩ := isSo_loop (om := om1) (E := E) ht6 om7 (by rw [ht.1]; exact hD) (fun j hj => by
      obtain ⟨b1, b2⟩ := hP j hj
      refine ⟨TS f n a (om.2.2 6 (2 * j)).toInt.toNat, _, ?_, rfl, ?_⟩
      · rw [om6]
        have := bd _ b2
        rw [← b1] at this
        exact this
      · rw [om6, ht.1]; exact hE j) t 0 1000 (by omega) (by omega)
    have eI : f_X5_isSo om1 = some (if okS E 0 t then 1 else 0) := by
      rw [f_X5_isSo, q28, if_pos cs, show lp_X5_isSo_7 om1 1000 1 0 = _ from l2, Option.bind_some]
      cases okS E 0 t <;> rfl
    rw [eS, d11, if_pos cs, if_neg not_one, show lp_X4_isSpot_53 oo od2 odp2 1000 0 = _ from l1, eL]
    have hW : (fW f).toInt ≤ 99 ∧ 0 ≤ (fW f).toInt := by
      rw [hf]
      show (h.toInt64).toInt ≤ 99 ∧ 0 ≤ (h.toInt64).toInt
      rw [Int32.toInt_toInt64]
      have := hh2.1
      have := hh2.2
      omega
    have hsh : ∀ p, p < n → ((TS f n a p).toInt / (DD f n a).toInt).toNat ≤ 99 ∧ TS f n a p / DD f n a = oL ((TS f n a p).toInt / (DD f n a).toInt).toNat := fun p hp => by
      obtain ⟨k1, k2, k3⟩ := g4 p hp
      have q1 : 0 ≤ (TS f n a p).toInt / (DD f n a).toInt := Int.ediv_nonneg k1 (by omega)
      have q2 : (TS f n a p).toInt / (DD f n a).toInt ≤ (fW f).toInt := by
        refine Int.ediv_le_of_le_mul g1 ?_
        rw [Int.mul_comm]
        exact k3
      refine ⟨by omega, ?_⟩
      apply Int64.toInt_inj.mp
      rw [(down_eq k1 g1).2, oL_int (by omega)]
      omega
    cases ok : okS E 0 t
    · exact ⟨none, od2, odp2, _, om1, rfl, rfl, t1, by rw [eI, ok]; rfl, cp2, d8, rp2, q22, fs, fun sh h => by cases h⟩
    · refine ⟨some (fun p => ((TS f n a p).toInt / (DD f n a).toInt).toNat), od2, odp2, _, om1, rfl, rfl, t1, by rw [eI, ok]; rfl, cp2, d8, rp2, q22, fs, fun sh h => ?_⟩
      cases h
      refine ⟨f, a, hrp, ht, q26, hal, hD, fun p hp => ⟨(hsh p hp).1, ?_, (hsh p hp).2⟩⟩
      rw [sd p (by omega), (hsh p hp).2]
  · refine ⟨none, od2, odp2, _, om1, by rw [eS, d11, if_neg cs]; rfl, eL, t1, ?_, cp2, d8, rp2, q22, fs, fun sh h => by cases h⟩
    rw [f_X5_isSo, q28, if_neg cs, show (1000 : Nat) = 999 + 1 from rfl, lp_X5_isSo_7, if_pos rfl, ite_self]
    rfl
