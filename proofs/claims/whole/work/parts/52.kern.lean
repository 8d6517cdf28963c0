/-! ===== kern and kerns ===== -/
theorem sm_ext {f g : PF} {s t i : Nat} : ∀ {n : Nat}, (∀ p, p < n → fX f p = fX g p ∧ fY f p = fY g p ∧ fK f p = fK g p ∧ s.testBit p = t.testBit p) → sm f s i n = sm g t i n
  | 0, _ => rfl
  | n + 1, h => by
    show (if s.testBit n then sm f s i n + tm f i n else sm f s i n) = (if t.testBit n then sm g t i n + tm g i n else sm g t i n)
    obtain ⟨h1, h2, h3, h4⟩ := h n (by omega)
    have ht : tm f i n = tm g i n := by
      unfold tm
      split <;> simp only [h1, h2, h3]
    rw [h4, ht, sm_ext (fun p hp => h p (by omega))]
theorem sK_loads (S : Nat → Int32) (W U V W2 U2 V2 : Int64) (n b : Nat) : sK (pf S W U V) n b = sK (pf S W2 U2 V2) n b := by
  funext i
  exact sm_ext (fun p _ => ⟨rfl, rfl, rfl, rfl⟩)
/-- a braced plane: it can be tilted by any load -/
def PI (S : Nat → Int32) (n b : Nat) (op : OS) : Prop := op.2.1 12 = dD (sK (pf S 0 0 0) n b) ∧ ∀ W U V : Int64, op.2.1 6 * W + op.2.1 7 * U + op.2.1 8 * V = dA (sK (pf S 0 0 0) n b) W U V ∧ op.2.1 7 * W + op.2.1 9 * U + op.2.1 10 * V = dB (sK (pf S 0 0 0) n b) W U V ∧ op.2.1 8 * W + op.2.1 10 * U + op.2.1 11 * V = dC (sK (pf S 0 0 0) n b) W U V
theorem PI_tilt {S : Nat → Int32} {n b : Nat} {op : OS} (h : PI S n b op) (W U V : Int64) : ∃ op2, f_X1_tilt W U V op = some op2 ∧ PI S n b op2 ∧ PLt (pf S W U V) n b op2 := by
  refine ⟨_, rfl, h, ?_⟩
  unfold PLt DD
  rw [sK_loads S W U V 0 0 0]
  exact ⟨h.1, (h.2 W U V).1, (h.2 W U V).2.1, (h.2 W U V).2.2⟩
theorem PI_brace {S : Nat → Int32} {n b : Nat} {op : OS} (h : PLs (pf S 0 0 0) n b op) : ∃ op1, f_X1_brace op = some (if DD (pf S 0 0 0) n b ≤ 0 then 0 else 1, op1) ∧ PI S n b op1 := by
  obtain ⟨op1, r1, -, r3, r4⟩ := brace_eq h
  refine ⟨op1, r1, r3, fun W U V => ?_⟩
  obtain ⟨op2, t1, -, -, t3, t4, t5⟩ := r4 W U V
  have e := Option.some.inj t1
  rw [← e] at t3 t4 t5
  exact ⟨t3, t4, t5⟩
/-- one place, on both sides -/
theorem kern_one {S : Nat → Int32} {n b : Nat} (hB : PB (pf S 0 0 0) n) (hn : n ≤ 8) (hb : b < 2 ^ n) {od op om : OS} (hc : CP (pf S 0 0 0) n od) (ea : od.1 9 = nI b) (hp : PI S n b op) (hr : RP (pf S 0 0 0) n om) (e22 : om.1 22 = nI b) (x y : Int32) : ∃ op2 om2, PI S n b op2 ∧ RP (pf S 0 0 0) n om2 ∧ om2.1 22 = nI b ∧ Fr om om2 ∧ ((DD (pf S 0 0 0) n b = 0 ∧ f_X5_isKern x y om = some (-9, om2)) ∨ (¬ DD (pf S 0 0 0) n b = 0 ∧ ∃ r : Int32, (r = 0 ∨ r = 1) ∧ f_X0_pullsNoPile x y od op = some (r, op2) ∧ f_X5_isKern x y om = some (r, om2))) := by
  have hb5 : b < 512 := Nat.lt_of_lt_of_le hb (pow_le_512 (by omega))
  obtain ⟨op2, t1, t2, t3⟩ := PI_tilt hp 1 x.toInt64 y.toInt64
  have hB2 : PB (pf S 1 x.toInt64 y.toInt64) n := hB
  have mp := mostPulled_eq (f := pf S 1 x.toInt64 y.toInt64) (od := od) hc hb5 ea t3
  have eD : DD (pf S 1 x.toInt64 y.toInt64) n b = DD (pf S 0 0 0) n b := by unfold DD; rw [sK_loads S 1 x.toInt64 y.toInt64 0 0 0]
  obtain ⟨om2, s1, s2, s3, s4, s5⟩ := steady_eq (f := pf S 1 x.toInt64 y.toInt64) (b := b) (om := sI (sL (sL (sL om 23 1) 24 x.toInt64) 25 y.toInt64) 26 (nI b)) hr ⟨rfl, rfl, rfl⟩ hb5 (DD_ok hB2 (by omega) b hb)
  have r2 : RP (pf S 0 0 0) n om2 := ⟨hr.1, by rw [s3]; exact hr.2.1, fun q hq => by have t := hr.2.2 q hq; rw [s4]; exact t⟩
  have go := goesOut_eq (f := pf S 1 x.toInt64 y.toInt64) (om := om2) r2 hb5 (by rw [s3]; rfl) s2
  have hk : f_X5_isKern x y om = Option.bind (f_X5_isSteady (nI b) (sI (sL (sL (sL om 23 1) 24 x.toInt64) 25 y.toInt64) 26 (nI b))) fun x3 => if x3.1 = 0 then some ((-9), x3.2) else Option.bind (f_X5_goesOut x3.2) fun x5 => if x5 = (-9) then some (1, x3.2) else some (0, x3.2) := by
    rw [f_X5_isKern, f_X5_laysLoad]
    simp only [lt, Option.bind_some, Int32.one_mul]
    rw [show (1 : Int32).toInt64 = 1 from rfl, show (sL (sL (sL om 23 1) 24 x.toInt64) 25 y.toInt64).1 22 = nI b from e22, show (sI (sL (sL (sL om 23 1) 24 x.toInt64) 25 y.toInt64) 26 (nI b)).1 22 = nI b from e22]
  refine ⟨op2, om2, t2, r2, by rw [s3]; exact e22, ⟨fun r _ => by rw [s4]; rfl, fun i hi => by rw [s3]; exact sI_ne _ _ _ _ (by omega)⟩, ?_⟩
  rw [hk, s1, eD, Option.bind_some]
  by_cases c : DD (pf S 0 0 0) n b = 0
  · exact Or.inl ⟨c, by rw [if_pos c]; rfl⟩
  · refine Or.inr ⟨c, ?_⟩
    rw [if_neg c]
    simp only [if_neg not_one]
    rw [go, Option.bind_some, f_X0_pullsNoPile, t1, Option.bind_some, mp, Option.bind_some]
    cases e : pul (TT (pf S 1 x.toInt64 y.toInt64) n b) b n with
    | none => exact ⟨1, Or.inr rfl, rfl, rfl⟩
    | some p =>
      have hpn := (pul_bit e).2.1
      refine ⟨0, Or.inl rfl, ?_, ?_⟩
      · rw [show oi (-1) (some p) = nI p from rfl, if_pos (nI_pos' (by omega))]
      · have nne : ¬ nI p = -9 := fun q => by
          have h2 := nI_toInt (show p < 2 ^ 31 by omega)
          rw [q] at h2
          have h3 : (-9 : Int32).toInt = -9 := rfl
          omega
        rw [show oi (-9) (some p) = nI p from rfl, if_neg nne]
theorem brace_now {on : OS} {S : Nat → Int32} {n k b : Nat} (h : SRn on S n k b) (oo od odw odp : OS) : ∃ od2 odw2 odp2, f_X4_bracePresent oo on od odw odp = some (if DD (pf S 0 0 0) n b ≤ 0 then 0 else 1, od2, odw2, odp2) ∧ CP (pf S 0 0 0) n od2 ∧ od2.1 9 = nI b ∧ PI S n b odp2 := by
  obtain ⟨od1, r1, hc, -, -⟩ := takePiles_eq h od 0 0 0
  obtain ⟨odw2, r2, hp⟩ := begin_eq hc h.2.2.1 odw
  obtain ⟨h0, h1, h2, h3, h4, h5⟩ := hp
  obtain ⟨x1, hx1, px⟩ : ∃ x1, f_X1_copySums odp odw2 = some x1 ∧ PLs (pf S 0 0 0) n b x1 := ⟨_, rfl, ⟨h0, h1, h2, h3, h4, h5⟩⟩
  obtain ⟨op1, q1, q2⟩ := PI_brace px
  refine ⟨sI (sI od1 8 (nI b)) 9 (nI b), odw2, op1, ?_, hc, rfl, q2⟩
  have zb : ∀ {α : Type} (c : Prop) [Decidable c] (k : Option α), bz (if c then 0 else 1) k = k := fun c _ k => by
    unfold bz
    split <;> simp
  rw [f_X4_bracePresent, r1, Option.bind_some, f_X0_braceAll, h.2.2.2.2.2.1, r2, Option.bind_some, hx1, Option.bind_some]
  simp only [lt]
  rw [q1, Option.bind_some, zb, Option.bind_some, zb]
  rfl
theorem DD_le {f : PF} {n b : Nat} (hB : PB f n) (hn : n ≤ 9) (hb : b < 2 ^ n) : DD f n b ≤ 0 ↔ DD f n b = 0 := ⟨fun q => Int64.le_antisymm q (DD_ok hB hn b hb), fun q => by rw [q]; decide⟩
theorem p_kern {oo on oc : OS} {pa ig : PSt} {om : OS} (h : Rel oo on oc pa ig om) (i0 i1 : Int32) (od odw odp : OS) : Pr om (f_X4_kern i0 i1 oo on od odw odp) (f_X5_kern i0 i1 om) := by
  obtain ⟨⟨n, k, b, hS⟩, -⟩ := h
  have hn := hS.1
  rcases isPlace_eq i0 i1 with ⟨-, -, f1, f2⟩ | ⟨f1, f2⟩
  · obtain ⟨od2, odw2, odp2, b1, b2, b3, b4⟩ := brace_now hS oo od odw odp
    obtain ⟨om1, l1, l2, l3, l4⟩ := lays_eq hS 0 0 0
    obtain ⟨op2, om2, k1, k2, k3, k4, k5⟩ := kern_one (hS.pb 0 0 0) hn hS.2.2.1 b2 b3 b4 l3 l4 i0 i1
    have hdd := DD_le (hS.pb 0 0 0) (show n ≤ 9 by omega) hS.2.2.1
    rw [f_X4_kern, f1, Option.bind_some, if_neg not_one, b1, Option.bind_some, f_X5_kern, f2, Option.bind_some, if_neg not_one, l1, Option.bind_some]
    simp only
    rcases k5 with ⟨c, g⟩ | ⟨c, r, hr, g1, g2⟩
    · rw [if_pos (hdd.mpr c), if_pos rfl, g]
      exact ⟨-9, _, _, _, _, rfl, rfl, (l2.fr.trans k4).pe⟩
    · rw [if_neg (fun q => c (hdd.mp q)), if_neg not_one, g1, g2, Option.bind_some]
      rcases hr with rfl | rfl
      · exact ⟨0, _, _, _, _, rfl, rfl, (l2.fr.trans k4).pe⟩
      · exact ⟨1, _, _, _, _, rfl, rfl, (l2.fr.trans k4).pe⟩
  · exact Pr.one (-1) (by rw [f_X4_kern, f1, Option.bind_some, if_pos rfl]) (by rw [f_X5_kern, f2, Option.bind_some, if_pos rfl])
theorem kerns_loop {S : Nat → Int32} {n b : Nat} (hB : PB (pf S 0 0 0) n) (hn : n ≤ 8) (hb : b < 2 ^ n) {oo od : OS} (hc : CP (pf S 0 0 0) n od) (ea : od.1 9 = nI b) (hD : ¬ DD (pf S 0 0 0) n b = 0) : ∀ (m i k : Nat) (v2 v3 : Int32) (op om : OS), i + m = 361 → m < k → PI S n b op → RP (pf S 0 0 0) n om → om.1 22 = nI b → ∃ (v2' v3' : Int32) (op2 om2 : OS), lp_X4_kerns_29 oo od k v2 v3 (nI i) op = some (v2', v3', nI 361, op2) ∧ lp_X5_kerns_23 k v2 v3 (nI i) om = some (.inr (v2', v3', nI 361, om2)) ∧ Fr om om2 := by
  intro m
  induction m with
  | zero =>
    intro i k v2 v3 op om hi hk hp hr e22
    obtain ⟨k, rfl⟩ : ∃ j, k = j + 1 := ⟨k - 1, by omega⟩
    have : i = 361 := by omega
    subst this
    exact ⟨v2, v3, op, om, by rw [lp_X4_kerns_29, if_pos (show (361 : Int32) ≤ nI 361 by decide)], by rw [lp_X5_kerns_23, if_pos (show (361 : Int32) ≤ nI 361 by decide)], Fr.rfl⟩
  | succ m ih =>
    intro i k v2 v3 op om hi hk hp hr e22
    obtain ⟨k, rfl⟩ : ∃ j, k = j + 1 := ⟨k - 1, by omega⟩
    have c361 : ¬ (361 : Int32) ≤ nI i := nI_ge (b := 361) (by omega) (by decide)
    obtain ⟨op2, om2, k1, k2, k3, k4, k5⟩ := kern_one hB hn hb hc ea hp hr e22 ((nI i / 19) - 9) ((nI i - nI i / 19 * 19) - 9)
    rcases k5 with ⟨c, -⟩ | ⟨-, r, hr2, g1, g2⟩
    · exact absurd c hD
    · rw [lp_X4_kerns_29, if_neg c361, f_X4_xOf, f_X4_yOf, Option.bind_some, Option.bind_some, g1, Option.bind_some, lp_X5_kerns_23, if_neg c361, g2, Option.bind_some]
      simp only [nI_1]
      rcases hr2 with rfl | rfl
      · rw [if_pos (show (0 : Int32) = 0 from rfl), if_neg (show ¬ (0 : Int32) = -9 by decide), if_neg (show ¬ (0 : Int32) = 1 by decide), Int32.add_zero]
        obtain ⟨a, b', c, d, q1, q2, q3⟩ := ih (i + 1) k v2 v3 op2 om2 (by omega) (by omega) k1 k2 k3
        exact ⟨a, b', c, d, q1, q2, k4.trans q3⟩
      · rw [if_neg not_one, if_neg (show ¬ (1 : Int32) = -9 by decide), if_pos (show (1 : Int32) = 1 from rfl)]
        by_cases c3 : v3 = -9
        · rw [if_pos c3, if_pos c3]
          obtain ⟨a, b', c, d, q1, q2, q3⟩ := ih (i + 1) k (v2 + 1) (nI i) op2 om2 (by omega) (by omega) k1 k2 k3
          exact ⟨a, b', c, d, q1, q2, k4.trans q3⟩
        · rw [if_neg c3, if_neg c3]
          obtain ⟨a, b', c, d, q1, q2, q3⟩ := ih (i + 1) k (v2 + 1) v3 op2 om2 (by omega) (by omega) k1 k2 k3
          exact ⟨a, b', c, d, q1, q2, k4.trans q3⟩
theorem p_kerns {oo on oc : OS} {pa ig : PSt} {om : OS} (h : Rel oo on oc pa ig om) (i0 : Int32) (od odw odp : OS) : Pr om (f_X4_kerns i0 oo on od odw odp) (f_X5_kerns i0 om) := by
  obtain ⟨⟨n, k, b, hS⟩, -⟩ := h
  have hn := hS.1
  rcases wh i0 1 (by decide) with ⟨c1, c2⟩ | ⟨c1, c2, c3⟩ | ⟨j0, hj0, ej0, c1, c2, c3⟩
  · exact Pr.one (-1) (by rw [f_X4_kerns, if_pos c1]) (by rw [f_X5_kerns, show f_X5_in i0 0 1 = _ from c2, Option.bind_some, if_pos rfl])
  · exact Pr.one (-1) (by rw [f_X4_kerns, if_neg c1, if_neg (show ¬ i0 ≤ 1 from c2)]) (by rw [f_X5_kerns, show f_X5_in i0 0 1 = _ from c3, Option.bind_some, if_pos rfl])
  · obtain ⟨od2, odw2, odp2, b1, b2, b3, b4⟩ := brace_now hS oo od odw odp
    obtain ⟨om1, l1, l2, l3, l4⟩ := lays_eq hS 0 0 0
    have hdd := DD_le (hS.pb 0 0 0) (show n ≤ 9 by omega) hS.2.2.1
    rw [f_X4_kerns, if_neg c1, if_pos (show i0 ≤ 1 from c2), b1, Option.bind_some, f_X5_kerns, show f_X5_in i0 0 1 = _ from c3, Option.bind_some, if_neg not_one, l1, Option.bind_some]
    simp only
    by_cases c : DD (pf (om.2.2 0) 0 0 0) n b = 0
    · rw [if_pos (hdd.mpr c), if_pos rfl]
      obtain ⟨op2, om2, k1, k2, k3, k4, k5⟩ := kern_one (hS.pb 0 0 0) hn hS.2.2.1 b2 b3 b4 l3 l4 ((0 / 19) - 9) ((0 - 0 / 19 * 19) - 9)
      rcases k5 with ⟨-, g⟩ | ⟨c', -⟩
      · refine ⟨-9, _, _, _, om2, rfl, ?_, (l2.fr.trans k4).pe⟩
        rw [show (1000 : Nat) = 999 + 1 from rfl, lp_X5_kerns_23, if_neg (by decide), g]
        rfl
      · exact absurd c c'
    · rw [if_neg (fun q => c (hdd.mp q)), if_neg not_one]
      obtain ⟨v2, v3, op2, om2, q1, q2, q3⟩ := kerns_loop (oo := oo) (hS.pb 0 0 0) hn hS.2.2.1 b2 b3 c 361 0 1000 0 (-9) odp2 om1 (by omega) (by omega) b4 l3 l4
      rw [show lp_X4_kerns_29 oo od2 1000 0 (-9) 0 odp2 = _ from q1, show lp_X5_kerns_23 1000 0 (-9) 0 om1 = _ from q2]
      simp only [Option.bind_some, Sum.elim_inr]
      by_cases k0 : i0 = 0
      · rw [if_pos k0, if_pos k0]
        exact ⟨v2, _, _, _, om2, rfl, rfl, (l2.fr.trans q3).pe⟩
      · rw [if_neg k0, if_neg k0]
        exact ⟨v3, _, _, _, om2, rfl, rfl, (l2.fr.trans q3).pe⟩
