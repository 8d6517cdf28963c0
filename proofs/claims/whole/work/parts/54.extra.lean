/-! ===== extra: one more pile ===== -/
def f1 (f : PF) (n : Nat) (x y s c : Int32) : PF := (upd (fX f) n x, upd (fY f) n y, upd (fK f) n s, upd (fC f) n c, fW f, fU f, fV f)
theorem f1_lt {f : PF} {n p : Nat} {x y s c : Int32} (hp : p < n) : fX (f1 f n x y s c) p = fX f p ∧ fY (f1 f n x y s c) p = fY f p ∧ fK (f1 f n x y s c) p = fK f p ∧ fC (f1 f n x y s c) p = fC f p :=
  ⟨upd_ne _ _ _ _ (by omega), upd_ne _ _ _ _ (by omega), upd_ne _ _ _ _ (by omega), upd_ne _ _ _ _ (by omega)⟩
theorem f1_eq {f : PF} {n : Nat} {x y s c : Int32} : fX (f1 f n x y s c) n = x ∧ fY (f1 f n x y s c) n = y ∧ fK (f1 f n x y s c) n = s ∧ fC (f1 f n x y s c) n = c :=
  ⟨upd_same _ _ _, upd_same _ _ _, upd_same _ _ _, upd_same _ _ _⟩
theorem f1_pb {f : PF} {n : Nat} {x y s c : Int32} (h : PB f n) (hx : IR (-9) 9 x) (hy : IR (-9) 9 y) (hs : IR 1 9 s) (hc : IR 1 99 c) : PB (f1 f n x y s c) (n + 1) := fun p hp => by
  by_cases e : p = n
  · subst e
    obtain ⟨a1, a2, a3, a4⟩ := f1_eq (f := f) (n := p) (x := x) (y := y) (s := s) (c := c)
    rw [a1, a2, a3, a4]
    exact ⟨hx, hy, hs, hc⟩
  · obtain ⟨a1, a2, a3, a4⟩ := f1_lt (f := f) (n := n) (p := p) (x := x) (y := y) (s := s) (c := c) (by omega)
    rw [a1, a2, a3, a4]
    exact h p (by omega)
theorem f1_sm {f : PF} {n b : Nat} {x y s c : Int32} (hb : b < 2 ^ n) (i : Nat) : sm (f1 f n x y s c) b i (n + 1) = sm f b i n := by
  show (if b.testBit n then sm (f1 f n x y s c) b i n + tm (f1 f n x y s c) i n else sm (f1 f n x y s c) b i n) = _
  rw [bit_out hb (Nat.le_refl _)]
  simp only [Bool.false_eq_true, if_false]
  exact sm_ext (fun p hp => ⟨(f1_lt hp).1, (f1_lt hp).2.1, (f1_lt hp).2.2.1, rfl⟩)
theorem f1_pls {f : PF} {n b : Nat} {x y s c : Int32} (hb : b < 2 ^ n) {op : OS} : PLs (f1 f n x y s c) (n + 1) b op ↔ PLs f n b op := by
  unfold PLs
  rw [f1_sm hb, f1_sm hb, f1_sm hb, f1_sm hb, f1_sm hb, f1_sm hb]
theorem xor_two (b n : Nat) : (b ^^^ 2 ^ n) ^^^ 2 ^ n = b := by rw [Nat.xor_assoc, Nat.xor_self, Nat.xor_zero]
theorem nI_sub1 (n : Nat) : nI (n + 1) - 1 = nI n := by
  rw [← nI_1]
  exact Int32.add_sub_cancel (nI n) 1
theorem set_lt {b n : Nat} (hb : b < 2 ^ n) : b ^^^ 2 ^ n < 2 ^ (n + 1) := tog_lt (Nat.lt_of_lt_of_le hb (Nat.pow_le_pow_right (by omega) (by omega))) (by omega)
theorem further_c {f : PF} {n b : Nat} {x y s c : Int32} {od odw : OS} (hB : PB f n) (hn : n ≤ 8) (hb : b < 2 ^ n) (hx : IR (-9) 9 x) (hy : IR (-9) 9 y) (hs : IR 1 9 s) (hc : IR 1 99 c) (hcp : CP f n od) (hw : CW f od) (e8 : od.1 8 = nI b) (hp : PLs f n b odw) (odp : OS) : ∃ od1 odw1 od2 odp2 odw3, f_X0_putFurther x y s c od odw = some (od1, odw1) ∧ f_X0_settle od1 odw1 odp = some (od2, odp2) ∧ Done (f1 f n x y s c) (n + 1) (b ^^^ 2 ^ n) od2 odp2 ∧ f_X0_takeFurtherAway od2 odw1 = some (sI (sI od2 4 (nI n)) 8 (nI b), odw3) ∧ CP f n (sI (sI od2 4 (nI n)) 8 (nI b)) ∧ CW f (sI (sI od2 4 (nI n)) 8 (nI b)) ∧ PLs f n b odw3 := by
  obtain ⟨-, e4, hrow⟩ := id hcp
  have hb5 : b < 512 := Nat.lt_of_lt_of_le hb (pow_le_512 (by omega))
  have bn : b.testBit n = false := bit_out hb (Nat.le_refl _)
  have tn : (nI n).toNatClampNeg = n := nI_clamp (by omega)
  have hB1 := f1_pb hB hx hy hs hc
  have hp1 : PLs (f1 f n x y s c) (n + 1) b odw := (f1_pls hb).mpr hp
  obtain ⟨odw1, p1, p2, -⟩ := put_plus hp1 (show n < n + 1 by omega) bn
  obtain ⟨q1, q2, q3, q4⟩ := f1_eq (f := f) (n := n) (x := x) (y := y) (s := s) (c := c)
  rw [q1, q2, q3] at p1
  obtain ⟨od1, hod1⟩ : ∃ od1 : OS, od1 = sI (sI (sA (sA (sA (sA od 0 n x) 1 n y) 2 n s) 3 n c) 8 (nI (b ^^^ 2 ^ n))) 4 (nI (n + 1)) := ⟨_, rfl⟩
  have put : f_X0_putFurther x y s c od odw = some (od1, odw1) := by
    rw [f_X0_putFurther, e4, if_neg (nI_pos (by omega)), if_pos (show nI n < 9 from (nI_lt_iff (b := 9) (by omega) (by decide)).mpr (by omega)), ck_nI (by omega) (by decide)]
    simp only [lt, sA_i, e4, ck_nI (show n < 9 by omega) (show 9 < 2 ^ 31 by decide), tn]
    rw [p1, Option.bind_some, e8, bit_set hb5 (by omega) bn, show (sI (sA (sA (sA (sA od 0 n x) 1 n y) 2 n s) 3 n c) 8 (nI (b ^^^ 2 ^ n))).1 4 = nI n from e4, nI_1, ← hod1]
  have hcp1 : CP (f1 f n x y s c) (n + 1) od1 := by
    refine ⟨by omega, by rw [hod1]; rfl, fun p hp => ?_⟩
    rw [hod1]
    show upd (od.2.2 0) n x p = upd (fX f) n x p ∧ upd (od.2.2 1) n y p = upd (fY f) n y p ∧ upd (od.2.2 2) n s p = upd (fK f) n s p ∧ upd (od.2.2 3) n c p = upd (fC f) n c p
    by_cases e : p = n
    · subst e
      simp only [upd_same, and_self]
    · rw [upd_ne _ _ _ _ e, upd_ne _ _ _ _ e, upd_ne _ _ _ _ e, upd_ne _ _ _ _ e, upd_ne _ _ _ _ e, upd_ne _ _ _ _ e, upd_ne _ _ _ _ e, upd_ne _ _ _ _ e]
      exact hrow p (by omega)
  have hw1 : CW (f1 f n x y s c) od1 := by rw [hod1]; exact hw
  obtain ⟨od2, odp2, r2, hd, e2, e24⟩ := settle_eq (odp := odp) hB1 (DD_ok hB1 (by omega)) (set_lt hb) hcp1 hw1 (by rw [hod1]; rfl) p2
  have bn1 : (b ^^^ 2 ^ n).testBit n = true := by rw [tog_same, bn]; rfl
  obtain ⟨odw3, m1, m2, -⟩ := put_minus p2 hB1 (show n < n + 1 by omega) bn1
  rw [q1, q2, q3] at m1
  rw [xor_two] at m2
  have hs5 : b ^^^ 2 ^ n < 512 := Nat.lt_of_lt_of_le (set_lt hb) (pow_le_512 (by omega))
  obtain ⟨-, d4, drow⟩ := hd.1
  obtain ⟨g1, g2, g3, g4⟩ := drow n (by omega)
  rw [q1] at g1
  rw [q2] at g2
  rw [q3] at g3
  have e2' : od2.2.2 = od1.2.2 := by rw [e2]
  refine ⟨od1, odw1, od2, odp2, odw3, put, r2, hd, ?_, ⟨by omega, rfl, fun p hp => ?_⟩, ?_, (f1_pls hb).mp m2⟩
  · rw [f_X0_takeFurtherAway, d4, if_neg (show ¬ nI (n + 1) < 1 from fun q => by have := (nI_lt_iff (b := 1) (by omega) (by decide)).mp q; omega), if_pos (show nI (n + 1) ≤ 9 from (nI_le_iff (b := 9) (by omega) (by decide)).mpr (by omega)), nI_sub1]
    simp only [lt, sI_same, ck_nI (show n < 9 by omega) (show 9 < 2 ^ 31 by decide), tn]
    rw [show (sI od2 4 (nI n)).2.2 0 n = x from g1, show (sI od2 4 (nI n)).2.2 1 n = y from g2, show (sI od2 4 (nI n)).2.2 2 n = s from g3, m1, Option.bind_some, show (sI od2 4 (nI n)).1 8 = nI (b ^^^ 2 ^ n) from hd.2.1, bit_clr hs5 (by omega) bn1, xor_two]
  · obtain ⟨k1, k2, k3, k4⟩ := drow p (by omega)
    obtain ⟨l1, l2, l3, l4⟩ := f1_lt (f := f) (n := n) (p := p) (x := x) (y := y) (s := s) (c := c) hp
    exact ⟨k1.trans l1, k2.trans l2, k3.trans l3, k4.trans l4⟩
  · have : CW (f1 f n x y s c) od2 := by
      unfold CW
      rw [e2]
      exact hw1
    exact this
theorem further_r {on : OS} {S : Nat → Int32} {n k b : Nat} {f : PF} (h : SRn on S n k b) {x y s c : Int32} (hx : IR (-9) 9 x) (hy : IR (-9) 9 y) (hs : IR 1 9 s) (hc : IR 1 99 c) (hB : PB f n) (hf : f = pf S (fW f) (fU f) (fV f)) (hr : ∀ om : OS, om.2.2 0 = S → ∃ om2, f_X5_laysSums om = some om2 ∧ om2.1 = om.1 ∧ om2.2.2 = om.2.2 ∧ RW f om2) (om : OS) (hm : om.2.2 0 = S) : ∃ om1 om2 om3, f_X5_laysPiles om = some om1 ∧ f_X5_laysSums om1 = some om2 ∧ om2.1 21 = nI n ∧ om2.1 22 = nI b ∧ f_X5_shares (sI (sI (sA (sA (sA (sA om2 17 n x) 18 n y) 19 n s) 20 n c) 22 (nI (b ^^^ 2 ^ n))) 21 (nI (n + 1))) = some om3 ∧ RDone (f1 f n x y s c) (n + 1) (b ^^^ 2 ^ n) om3 ∧ Fr om om3 := by
  have hn := h.1
  have hB1 := f1_pb hB hx hy hs hc
  obtain ⟨om1, l1, l2, l3, l4⟩ := lays_eq (om := om) (hm ▸ h) (fW f) (fU f) (fV f)
  rw [hm, ← hf] at l3
  obtain ⟨om2, s1, s2, s3, s4⟩ := hr om1 ((l2.1 0 (by decide) (by decide) (by decide) (by decide)).trans hm)
  obtain ⟨o3, ho3⟩ : ∃ o3 : OS, o3 = sI (sI (sA (sA (sA (sA om2 17 n x) 18 n y) 19 n s) 20 n c) 22 (nI (b ^^^ 2 ^ n))) 21 (nI (n + 1)) := ⟨_, rfl⟩
  have hrp : RP (f1 f n x y s c) (n + 1) o3 := by
    refine ⟨by omega, by rw [ho3]; rfl, fun p hp => ?_⟩
    rw [ho3]
    show upd (om2.2.2 17) n x p = upd (fX f) n x p ∧ upd (om2.2.2 18) n y p = upd (fY f) n y p ∧ upd (om2.2.2 19) n s p = upd (fK f) n s p ∧ upd (om2.2.2 20) n c p = upd (fC f) n c p
    by_cases e : p = n
    · subst e
      simp only [upd_same, and_self]
    · rw [upd_ne _ _ _ _ e, upd_ne _ _ _ _ e, upd_ne _ _ _ _ e, upd_ne _ _ _ _ e, upd_ne _ _ _ _ e, upd_ne _ _ _ _ e, upd_ne _ _ _ _ e, upd_ne _ _ _ _ e, s3]
      exact l3.2.2 p (by omega)
  obtain ⟨om3, t1, t2, t3⟩ := shares_eq (om := o3) (DD_ok hB1 (by omega)) (set_lt h.2.2.1) hrp (by rw [ho3]; exact s4) (by rw [ho3]; rfl)
  refine ⟨om1, om2, om3, l1, s1, by rw [s2]; exact l3.2.1, by rw [s2]; exact l4, by rw [← ho3]; exact t1, t2, ?_⟩
  have f2 : Fr om1 o3 := by
    rw [ho3]
    refine ⟨fun r hr => ?_, fun i hi => ?_⟩
    · show (sA (sA (sA (sA om2 17 n x) 18 n y) 19 n s) 20 n c).2.2 r = _
      rw [sA_ne _ _ _ _ _ (by omega), sA_ne _ _ _ _ _ (by omega), sA_ne _ _ _ _ _ (by omega), sA_ne _ _ _ _ _ (by omega), s3]
    · rw [sI_ne _ _ _ _ (by omega), sI_ne _ _ _ _ (by omega)]
      show om2.1 i = _
      rw [s2]
  exact l2.fr.trans (f2.trans t3.fr)
theorem xy_ir : ∀ i, i < 361 → ((-9 ≤ (nI i / 19 - 9).toInt ∧ (nI i / 19 - 9).toInt ≤ 9) ∧ (-9 ≤ (nI i - nI i / 19 * 19 - 9).toInt ∧ (nI i - nI i / 19 * 19 - 9).toInt ≤ 9)) := by decide +kernel
theorem extra_loop {on : OS} {S : Nat → Int32} {n k b : Nat} {f : PF} {st cn : Int32} (h : SRn on S n k b) (hs : IR 1 9 st) (hcn : IR 1 99 cn) (hB : PB f n) (hL : LB f) (hf : f = pf S (fW f) (fU f) (fV f)) (hr : ∀ om : OS, om.2.2 0 = S → ∃ om2, f_X5_laysSums om = some om2 ∧ om2.1 = om.1 ∧ om2.2.2 = om.2.2 ∧ RW f om2) (oo : OS) : ∀ (m i j : Nat) (v3 : Int32) (v4 v6 w4 w6 : Int64) (od odw odp om : OS), i + m = 361 → m < j → CP f n od → CW f od → od.1 8 = nI b → PLs f n b odw → om.2.2 0 = S → BS v3 v4 v6 w4 w6 → ∃ (r : Int32) (a1 a2 a3 a4 : Int64) (od2 odw2 odp2 om2 : OS), lp_X4_extra_40 st cn oo on j v3 v4 v6 (nI i) od odw odp = some (r, a1, a2, nI 361, od2, odw2, odp2) ∧ lp_X5_extra_22 st cn j v3 w4 w6 (nI i) om = some (r, a3, a4, nI 361, om2) ∧ Fr om om2 := by
  have hn := h.1
  intro m
  induction m with
  | zero =>
    intro i j v3 v4 v6 w4 w6 od odw odp om hi hj hc hw e8 hp hm hbs
    obtain ⟨j, rfl⟩ : ∃ i, j = i + 1 := ⟨j - 1, by omega⟩
    have : i = 361 := by omega
    subst this
    exact ⟨v3, v4, v6, w4, w6, od, odw, odp, om, by rw [lp_X4_extra_40, if_pos (show (361 : Int32) ≤ nI 361 by decide)], by rw [lp_X5_extra_22, if_pos (show (361 : Int32) ≤ nI 361 by decide)], Fr.rfl⟩
  | succ m ih =>
    intro i j v3 v4 v6 w4 w6 od odw odp om hi hj hc hw e8 hp hm hbs
    obtain ⟨j, rfl⟩ : ∃ i, j = i + 1 := ⟨j - 1, by omega⟩
    have c361 : ¬ (361 : Int32) ≤ nI i := nI_ge (b := 361) (by omega) (by decide)
    obtain ⟨hx, hy⟩ := xy_ir i (by omega)
    have hx : IR (-9) 9 (nI i / 19 - 9) := hx
    have hy : IR (-9) 9 (nI i - nI i / 19 * 19 - 9) := hy
    obtain ⟨k1, k2⟩ := taken_eq (om := om) (hm ▸ h) (nI i / 19 - 9) (nI i - nI i / 19 * 19 - 9)
    rw [lp_X4_extra_40, if_neg c361, f_X4_xOf, f_X4_yOf, Option.bind_some, Option.bind_some, k1, Option.bind_some, lp_X5_extra_22, if_neg c361, k2, Option.bind_some, nI_1]
    by_cases ct : tkn (om.2.2 0) (nI i / 19 - 9) (nI i - nI i / 19 * 19 - 9) 0 n = true
    · rw [if_pos ct, if_neg not_one, if_neg not_one]
      exact ih (i + 1) j v3 v4 v6 w4 w6 od odw odp om (by omega) (by omega) hc hw e8 hp hm hbs
    · rw [if_neg ct, if_pos rfl, if_pos rfl]
      obtain ⟨od1, odw1, od2, odp2, odw3, g1, g2, g3, g4, g5, g6, g7⟩ := further_c hB hn h.2.2.1 hx hy hs hcn hc hw e8 hp odp
      obtain ⟨om1, om2, om3, l1, l2, l3, l4, l5, l6, l7⟩ := further_r h hx hy hs hcn hB hf hr om hm
      have tn : (nI n).toNatClampNeg = n := nI_clamp (by omega)
      have hB1 := f1_pb hB hx hy hs hcn
      obtain ⟨om4, u1, u2⟩ := use_both hB1 hL (set_lt h.2.2.1) g3 l6
      have f4 : Fr om om4 := l7.trans u1
      have hm4 : om4.2.2 0 = S := (f4.1 0 (by omega)).trans hm
      have hstep : ∀ (α : Type) (K : Int32 × OS → Option α), (ck (om2.1 21) 9 (lt (sA om2 17 (((om2.1 21) : Int32).toNatClampNeg) ((nI i / 19) - 9)) fun o12 => ck (o12.1 21) 9 (lt (sA o12 18 (((o12.1 21) : Int32).toNatClampNeg) ((nI i - nI i / 19 * 19) - 9)) fun o14 => ck (o14.1 21) 9 (lt (sA o14 19 (((o14.1 21) : Int32).toNatClampNeg) st) fun o16 => ck (o16.1 21) 9 (lt (sA o16 20 (((o16.1 21) : Int32).toNatClampNeg) cn) fun o18 => lt (sI o18 22 ((o18.1 22) ||| (1 <<< ((o18.1 21) &&& 31)))) fun o19 => lt (sI o19 21 ((o19.1 21) + 1)) fun o20 => Option.bind (f_X5_shares o20) fun x21 => Option.bind (f_X5_laysMost x21) K))))) = Option.bind (f_X5_laysMost om3) K := fun α K => by
        simp only [lt, sA_i, l3, ck_nI (show n < 9 by omega) (show 9 < 2 ^ 31 by decide), tn]
        rw [l4, bit_set h.lt512 (by omega) (bit_out h.2.2.1 (Nat.le_refl _)), show (sI (sA (sA (sA (sA om2 17 n (nI i / 19 - 9)) 18 n (nI i - nI i / 19 * 19 - 9)) 19 n st) 20 n cn) 22 (nI (b ^^^ 2 ^ n))).1 21 = nI n from l3, nI_1, l5, Option.bind_some]
      rw [g1, Option.bind_some]
      simp only
      rw [g2, Option.bind_some]
      simp only
      rw [g4, Option.bind_some, l1, Option.bind_some, l2, Option.bind_some, hstep]
      simp only
      rw [show (sI (sI od2 4 (nI n)) 8 (nI b)).1 11 = od2.1 11 from rfl, show f_X0_useTop (sI (sI od2 4 (nI n)) 8 (nI b)) odp2 = f_X0_useTop od2 odp2 from rfl, show f_X0_useBottom (sI (sI od2 4 (nI n)) 8 (nI b)) odp2 = f_X0_useBottom od2 odp2 from rfl]
      have go : ∀ (v3 : Int32) (v4 v6 w4 w6 : Int64), BS v3 v4 v6 w4 w6 → ∃ (r : Int32) (a1 a2 a3 a4 : Int64) (od2' odw2 odp2' om2 : OS), lp_X4_extra_40 st cn oo on j v3 v4 v6 (nI (i + 1)) (sI (sI od2 4 (nI n)) 8 (nI b)) odw3 odp2 = some (r, a1, a2, nI 361, od2', odw2, odp2') ∧ lp_X5_extra_22 st cn j v3 w4 w6 (nI (i + 1)) om4 = some (r, a3, a4, nI 361, om2) ∧ Fr om om2 := fun v3 v4 v6 w4 w6 hb => by
        obtain ⟨r, a1, a2, a3, a4, o1, o2, o3, o4, q1, q2, q3⟩ := ih (i + 1) j v3 v4 v6 w4 w6 (sI (sI od2 4 (nI n)) 8 (nI b)) odw3 odp2 om4 (by omega) (by omega) g5 g6 rfl g7 hm4 hb
        exact ⟨r, a1, a2, a3, a4, o1, o2, o3, o4, q1, q2, f4.trans q3⟩
      rcases u2 with ⟨z1, z2⟩ | ⟨z1, T, B, t1, t2, t3, t4, t5, b1, b2, b3, b4⟩
      · rw [z1, if_pos rfl, z2, Option.bind_some, if_pos rfl]
        exact go v3 v4 v6 w4 w6 hbs
      · have hnew : BS (nI i) T B T B := Or.inr ⟨nI_n9 (by omega), rfl, rfl, b1, b3⟩
        rw [z1, if_neg not_one, t1, t2, t3]
        simp only [Option.bind_some]
        rw [if_neg not_one, t4, t5]
        by_cases c : v3 = -9
        · rw [if_pos c, if_pos c]
          exact go (nI i) T B T B hnew
        · rw [if_neg c, if_neg c]
          rcases hbs with hbs | ⟨-, rfl, rfl, g1, g2⟩
          · exact absurd hbs c
          · obtain ⟨r, r1, r2⟩ := cmp_eq b1 b2 b3 b4 g1 g2
            rw [r1, r2, Option.bind_some, Option.bind_some]
            by_cases c2 : 0 ≤ r
            · rw [if_pos c2, if_pos c2]
              exact go v3 v4 v6 v4 v6 (Or.inr ⟨c, rfl, rfl, g1, g2⟩)
            · rw [if_neg c2, if_neg c2]
              exact go (nI i) T B T B hnew
theorem p_extra {oo on oc : OS} {pa ig : PSt} {om : OS} (h : Rel oo on oc pa ig om) (i0 i1 : Int32) (od odw odp : OS) : Pr om (f_X4_extra i0 i1 oo on od odw odp) (f_X5_extra i0 i1 om) := by
  obtain ⟨⟨n, k, b, hS⟩, -⟩ := h
  have hn := hS.1
  rcases isKind_eq i0 i1 with ⟨x1, x2, f1, f2⟩ | ⟨f1, f2⟩
  · obtain ⟨f, hB, hL, hf, hc, hr⟩ := take_eq hS
    obtain ⟨od1, t1, t2, t3⟩ := hc oo od
    obtain ⟨odw2, r2, hp⟩ := begin_eq t2 hS.2.2.1 odw
    obtain ⟨r, a1, a2, a3, a4, od2, odw3, odp2, om2, q1, q2, q3⟩ := extra_loop hS x1 x2 hB hL hf hr oo 361 0 1000 (-9) 0 1 0 0 (sI od1 8 (nI b)) odw2 odp om (by omega) (by omega) t2 t3 rfl hp rfl (Or.inl rfl)
    refine ⟨r, od2, odw3, odp2, om2, ?_, ?_, q3.pe⟩
    · rw [f_X4_extra, f1, Option.bind_some, if_neg not_one, t1, Option.bind_some, hS.2.2.2.2.2.1, r2, Option.bind_some, show lp_X4_extra_40 i0 i1 oo on 1000 (-9) 0 1 0 (sI od1 8 (nI b), odw2).1 (sI od1 8 (nI b), odw2).2 odp = _ from q1]; rfl
    · rw [f_X5_extra, f2, Option.bind_some, if_neg not_one, show lp_X5_extra_22 i0 i1 1000 (-9) 0 0 0 om = _ from q2]; rfl
  · exact Pr.one (-1) (by rw [f_X4_extra, f1, Option.bind_some, if_pos rfl]) (by rw [f_X5_extra, f2, Option.bind_some, if_pos rfl])
