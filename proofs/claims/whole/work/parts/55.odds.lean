/-! ===== odds ===== -/
def oL (n : Nat) : Int64 := Int64.ofInt (n : Int)
theorem oL_nI {n : Nat} (h : n < 2 ^ 31) : (nI n).toInt64 = oL n := by
  rw [i2l_of, nI_toInt h]
  rfl
theorem oL_mul (a b : Nat) : oL a * oL b = oL (a * b) := by
  unfold oL
  rw [← Int64.ofInt_mul, ← Int.natCast_mul]
theorem oL_add (a b : Nat) : oL a + oL b = oL (a + b) := by
  unfold oL
  rw [← Int64.ofInt_add, ← Int.natCast_add]
theorem oL_int {n : Nat} (h : n < 2 ^ 63) : (oL n).toInt = n := of_toInt (by omega)
theorem nI_sub {a b : Nat} (h : b ≤ a) : nI a - nI b = nI (a - b) := by
  have e : nI a = nI (a - b) + nI b := by
    rw [show nI (a - b) + nI b = nI (a - b + b) from nI_add (a - b) b, Nat.sub_add_cancel h]
  rw [e]
  exact Int32.add_sub_cancel _ _
/-- what a part of the piles weighs -/
def wt (x b i : Nat) : Nat → Nat
  | 0 => 1
  | p + 1 => wt x b i p * (if b.testBit p then (if i.testBit p then 10 - x else x) else 1)
theorem wt_ext {x b i j : Nat} : ∀ {n : Nat}, (∀ p, p < n → i.testBit p = j.testBit p) → wt x b i n = wt x b j n
  | 0, _ => rfl
  | n + 1, h => by
    show wt x b i n * (if b.testBit n then (if i.testBit n then 10 - x else x) else 1) = wt x b j n * (if b.testBit n then (if j.testBit n then 10 - x else x) else 1)
    rw [wt_ext (fun p hp => h p (by omega)), h n (by omega)]
theorem wt_pow {x b i : Nat} (hs : ∀ p, i.testBit p = true → b.testBit p = true) : ∀ n, cnt i n ≤ cnt b n ∧ wt x b i n = (10 - x) ^ (cnt i n) * x ^ (cnt b n - cnt i n)
  | 0 => ⟨Nat.le_refl _, by simp [wt, cnt]⟩
  | n + 1 => by
    obtain ⟨h1, h2⟩ := wt_pow hs n
    have e0 : wt x b i (n + 1) = wt x b i n * (if b.testBit n then (if i.testBit n then 10 - x else x) else 1) := rfl
    by_cases ci : i.testBit n = true
    · have cb := hs n ci
      rw [cnt_t ci, cnt_t cb, e0, if_pos cb, if_pos ci, h2]
      refine ⟨by omega, ?_⟩
      rw [show cnt b n + 1 - (cnt i n + 1) = cnt b n - cnt i n by omega, Nat.pow_succ]
      rw [Nat.mul_assoc, Nat.mul_comm (x ^ _) (10 - x), ← Nat.mul_assoc]
    · by_cases cb : b.testBit n = true
      · rw [cnt_f ci, cnt_t cb, e0, if_pos cb, if_neg ci, h2]
        refine ⟨by omega, ?_⟩
        rw [show cnt b n + 1 - cnt i n = (cnt b n - cnt i n) + 1 by omega, Nat.pow_succ, Nat.mul_assoc]
      · rw [cnt_f ci, cnt_f cb, e0, if_neg cb, h2, Nat.mul_one]
        exact ⟨h1, rfl⟩
theorem wt_le {x b i : Nat} (hx : x ≤ 10) : ∀ n, wt x b i n ≤ 10 ^ n
  | 0 => Nat.le_refl _
  | n + 1 => by
    have ih := wt_le (b := b) (i := i) hx n
    have : (if b.testBit n then (if i.testBit n then 10 - x else x) else 1) ≤ 10 := by
      split
      · split <;> omega
      · omega
    show wt x b i n * _ ≤ _
    rw [Nat.pow_succ]
    exact Nat.mul_le_mul ih this
/-! sums -/
def tot (g : Nat → Nat) : Nat → Nat
  | 0 => 0
  | m + 1 => tot g m + g m
theorem tot_add (g : Nat → Nat) (a : Nat) : ∀ m, tot g (a + m) = tot g a + tot (fun i => g (a + i)) m
  | 0 => rfl
  | m + 1 => by
    show tot g (a + m) + g (a + m) = tot g a + (tot (fun i => g (a + i)) m + g (a + m))
    rw [tot_add g a m]
    omega
theorem tot_le {g h : Nat → Nat} : ∀ {m : Nat}, (∀ i, i < m → g i ≤ h i) → tot g m ≤ tot h m
  | 0, _ => Nat.le_refl _
  | m + 1, hh => Nat.add_le_add (tot_le (fun i hi => hh i (by omega))) (hh m (by omega))
theorem tot_mul (g : Nat → Nat) (c : Nat) : ∀ m, tot (fun i => g i * c) m = tot g m * c
  | 0 => by simp [tot]
  | m + 1 => by
    show tot (fun i => g i * c) m + g m * c = (tot g m + g m) * c
    rw [tot_mul g c m, Nat.add_mul]
theorem tot_mono (g : Nat → Nat) {a b : Nat} (h : a ≤ b) : tot g a ≤ tot g b := by
  obtain ⟨m, rfl⟩ : ∃ m, b = a + m := ⟨b - a, by omega⟩
  rw [tot_add]
  omega
def gw (x b n i : Nat) : Nat := if i &&& b = i then wt x b i n else 0
theorem and_sub {i b : Nat} : i &&& b = i ↔ ∀ p, i.testBit p = true → b.testBit p = true := by
  constructor
  · intro h p hp
    have : (i &&& b).testBit p = true := by rw [h]; exact hp
    rw [Nat.testBit_and, hp] at this
    simpa using this
  · intro h
    apply Nat.eq_of_testBit_eq
    intro p
    rw [Nat.testBit_and]
    have := h p
    cases c : i.testBit p
    · simp
    · rw [this c]; rfl
theorem tot_ten {x b : Nat} (hx : x ≤ 10) : ∀ n, tot (gw x b n) (2 ^ n) ≤ 10 ^ n
  | 0 => by
    show 0 + gw x b 0 0 ≤ 1
    unfold gw
    split
    · exact Nat.le_refl _
    · omega
  | n + 1 => by
    have ih := tot_ten (b := b) hx n
    rw [show 2 ^ (n + 1) = 2 ^ n + 2 ^ n by rw [Nat.pow_succ]; omega, tot_add]
    have h1 : tot (gw x b (n + 1)) (2 ^ n) ≤ tot (fun i => gw x b n i * (if b.testBit n then x else 1)) (2 ^ n) := tot_le (fun i hi => by
      have ci : i.testBit n = false := bit_out hi (Nat.le_refl _)
      show gw x b (n + 1) i ≤ gw x b n i * (if b.testBit n then x else 1)
      unfold gw
      split
      · show wt x b i n * (if b.testBit n then (if i.testBit n then 10 - x else x) else 1) ≤ _
        rw [ci]
        exact Nat.le_refl _
      · omega)
    have h2 : tot (fun i => gw x b (n + 1) (2 ^ n + i)) (2 ^ n) ≤ tot (fun i => gw x b n i * (if b.testBit n then 10 - x else 0)) (2 ^ n) := tot_le (fun i hi => by
      have ci : i.testBit n = false := bit_out hi (Nat.le_refl _)
      have cj : (2 ^ n + i).testBit n = true := by rw [Nat.testBit_two_pow_add_eq, ci]; rfl
      have ck : ∀ p, p < n → (2 ^ n + i).testBit p = i.testBit p := fun p hp => Nat.testBit_two_pow_add_gt hp i
      show gw x b (n + 1) (2 ^ n + i) ≤ gw x b n i * (if b.testBit n then 10 - x else 0)
      unfold gw
      by_cases c : (2 ^ n + i) &&& b = 2 ^ n + i
      · have hs := and_sub.mp c
        have cb := hs n cj
        have hi2 : i &&& b = i := and_sub.mpr (fun p hp => by
          by_cases hpn : p < n
          · exact hs p (by rw [ck p hpn]; exact hp)
          · rw [bit_out hi (by omega)] at hp; cases hp)
        rw [if_pos c, if_pos hi2, if_pos cb]
        show wt x b (2 ^ n + i) n * (if b.testBit n then (if (2 ^ n + i).testBit n then 10 - x else x) else 1) ≤ _
        rw [if_pos cb, if_pos cj, wt_ext ck]
        exact Nat.le_refl _
      · rw [if_neg c]; omega)
    rw [tot_mul] at h1 h2
    have h3 : tot (gw x b n) (2 ^ n) * (if b.testBit n then x else 1) + tot (gw x b n) (2 ^ n) * (if b.testBit n then 10 - x else 0) ≤ 10 ^ n * 10 := by
      rw [← Nat.mul_add]
      refine Nat.mul_le_mul ih ?_
      split <;> omega
    rw [Nat.pow_succ]
    omega
theorem sub_bits {i b : Nat} (hi : i < 512) (hb : b < 512) : (nI i &&& (nI b ^^^ (-1)) = 0) ↔ i &&& b = i := by
  rw [and_sub]
  have e1 : (nI i &&& (nI b ^^^ (-1))).toBitVec = BitVec.ofNat 32 i &&& (BitVec.ofNat 32 b ^^^ BitVec.allOnes 32) := rfl
  constructor
  · intro h p hp
    have hp32 : p < 32 := by
      by_cases c : p < 32
      · exact c
      · rw [bit_out (n := 9) hi (by omega)] at hp; cases hp
    have h2 : (nI i &&& (nI b ^^^ (-1))).toBitVec = 0#32 := by rw [h]; rfl
    rw [e1] at h2
    have h3 := congrArg (fun v => v.getLsbD p) h2
    simp only [BitVec.getLsbD_and, BitVec.getLsbD_xor, BitVec.getLsbD_ofNat, BitVec.getLsbD_allOnes, hp32, decide_true, Bool.true_and, hp] at h3
    cases cb : b.testBit p
    · rw [cb] at h3; simp at h3
    · rfl
  · intro h
    apply Int32.toBitVec_inj.mp
    rw [e1]
    show _ = 0#32
    apply BitVec.eq_of_getLsbD_eq
    intro p hp
    simp only [BitVec.getLsbD_and, BitVec.getLsbD_xor, BitVec.getLsbD_ofNat, BitVec.getLsbD_allOnes, hp, decide_true, Bool.true_and]
    have := h p
    cases c : i.testBit p
    · simp
    · rw [this c]; simp
theorem shl_n : ∀ n, n < 9 → (1 : Int32) <<< (nI n &&& 31) = nI (2 ^ n) := by decide
theorem power_loop {a e : Nat} (he : e ≤ 8) : ∀ (m c k : Nat), c + m = e → m < k → lp_X4_power_4 (nI a) (nI e) k (nI (a ^ c)) (nI c) = some (nI (a ^ e), nI e) := by
  intro m
  induction m with
  | zero =>
    intro c k hc hk
    obtain ⟨k, rfl⟩ : ∃ j, k = j + 1 := ⟨k - 1, by omega⟩
    have : c = e := by omega
    subst this
    rw [lp_X4_power_4, if_pos (nI_le (Nat.le_refl _) (by omega))]
  | succ m ih =>
    intro c k hc hk
    obtain ⟨k, rfl⟩ : ∃ j, k = j + 1 := ⟨k - 1, by omega⟩
    rw [lp_X4_power_4, if_neg (nI_ge (show c < e by omega) (by omega)), nI_mul, ← Nat.pow_succ, nI_1]
    exact ih (c + 1) k (by omega) (by omega)
theorem power_eq {a e : Nat} (he : e ≤ 8) : f_X4_power (nI a) (nI e) = some (nI (a ^ e)) := by
  rw [f_X4_power, show lp_X4_power_4 (nI a) (nI e) 1000 1 0 = _ from power_loop he e 0 1000 (by omega) (by omega)]
  rfl
theorem chance_loop {x b i n : Nat} {om : OS} (hx : x ≤ 10) (hn : n ≤ 8) (hb : b < 512) (hi : i < 512) (e21 : om.1 21 = nI n) : ∀ (m p k : Nat), p + m = n → m < k → lp_X5_odds_109 (nI x) (nI b) (nI i) om k (oL (wt x b i p)) (nI p) = some (oL (wt x b i n), nI n) := by
  intro m
  induction m with
  | zero =>
    intro p k hp hk
    obtain ⟨k, rfl⟩ : ∃ j, k = j + 1 := ⟨k - 1, by omega⟩
    have : p = n := by omega
    subst this
    rw [lp_X5_odds_109, e21, if_pos (nI_le (Nat.le_refl _) (by omega))]
  | succ m ih =>
    intro p k hp hk
    obtain ⟨k, rfl⟩ : ∃ j, k = j + 1 := ⟨k - 1, by omega⟩
    have i1 := ih (p + 1) k (by omega) (by omega)
    have e0 : wt x b i (p + 1) = wt x b i p * (if b.testBit p then (if i.testBit p then 10 - x else x) else 1) := rfl
    rw [lp_X5_odds_109, e21, if_neg (nI_ge (show p < n by omega) (by omega)), nI_1]
    rw [e0] at i1
    by_cases cb : b.testBit p = true
    · rw [if_neg (fun q => by rw [(bit_zero hb (by omega)).mp q] at cb; cases cb)]
      rw [if_pos cb] at i1
      by_cases ci : i.testBit p = true
      · rw [if_pos ((bit_get hi (by omega)).mpr ci), show (10 : Int32) - nI x = nI (10 - x) from nI_sub (a := 10) hx, oL_nI (by omega), oL_mul]
        rw [if_pos ci] at i1
        exact i1
      · rw [if_neg (fun q => ci ((bit_get hi (by omega)).mp q)), oL_nI (by omega), oL_mul]
        rw [if_neg ci] at i1
        exact i1
    · rw [if_pos ((bit_zero hb (by omega)).mpr (Bool.eq_false_iff.mpr cb)), show (1 : Int64) = oL 1 from rfl, oL_mul]
      rw [if_neg cb] at i1
      exact i1
theorem down_loop {b n : Nat} {om : OS} (hn : n ≤ 8) (hb : b < 512) (e21 : om.1 21 = nI n) : ∀ (m p k : Nat), p + m = n → m < k → lp_X5_odds_43 (nI b) om k (oL (10 ^ cnt b p)) (nI p) = some (oL (10 ^ cnt b n), nI n) := by
  intro m
  induction m with
  | zero =>
    intro p k hp hk
    obtain ⟨k, rfl⟩ : ∃ j, k = j + 1 := ⟨k - 1, by omega⟩
    have : p = n := by omega
    subst this
    rw [lp_X5_odds_43, e21, if_pos (nI_le (Nat.le_refl _) (by omega))]
  | succ m ih =>
    intro p k hp hk
    obtain ⟨k, rfl⟩ : ∃ j, k = j + 1 := ⟨k - 1, by omega⟩
    have i1 := ih (p + 1) k (by omega) (by omega)
    rw [lp_X5_odds_43, e21, if_neg (nI_ge (show p < n by omega) (by omega)), nI_1]
    by_cases cb : b.testBit p = true
    · rw [if_pos ((bit_get hb (by omega)).mpr cb), show (10 : Int64) = oL 10 from rfl, oL_mul]
      rw [cnt_t cb, Nat.pow_succ] at i1
      exact i1
    · rw [if_neg (fun q => cb ((bit_get hb (by omega)).mp q)), show (1 : Int64) = oL 1 from rfl, oL_mul, Nat.mul_one]
      rw [cnt_f cb] at i1
      exact i1
theorem use_two {f : PF} {n s : Nat} {od op om : OS} (hB : PB f n) (hL : LB f) (hs : s < 2 ^ n) (h : Done f n s od op) (hr : RDone f n s om) : ∃ om2, Fr om om2 ∧ RP f n om2 ∧ RW f om2 ∧ ((od.1 11 = 0 ∧ f_X5_laysMost om = some (0, om2)) ∨ (od.1 11 = 1 ∧ ∃ T B : Int64, f_X0_useTop od op = some T ∧ f_X0_useBottom od op = some B ∧ f_X5_laysMost om = some (1, om2) ∧ om2.2.1 33 = T ∧ om2.2.1 34 = B)) := by
  by_cases c : rs f n s = true
  · obtain ⟨j, ej, hj, e12, u1, u2⟩ := use_c h c
    have hm := laysMost_yes hr hs h.2.2.2.2.2.1 c ej
    exact ⟨_, most_fr om _ _ _, hr.1, hr.2.1, Or.inr ⟨by rw [h.2.2.2.1, if_pos c], uT f n s j, uB f n s j, u1, u2, hm, rfl, rfl⟩⟩
  · exact ⟨_, most_fr0 om _, hr.1, hr.2.1, Or.inl ⟨by rw [h.2.2.2.1, if_neg c], laysMost_no hr c⟩⟩
/-- one part of the piles, on both sides: whether it stands -/
theorem stands_eq {f : PF} {n i : Nat} {od om : OS} (hB : PB f n) (hL : LB f) (hi : i < 2 ^ n) (hc : CP f n od) (hw : CW f od) (hr : RP f n om) (hrw : RW f om) (oo odw odp : OS) : ∃ (q : Bool) (od2 odw2 odp2 om1 om2 : OS), f_X4_standsOn (nI i) oo od odw odp = some (if q then 1 else 0, od2, odw2, odp2) ∧ CP f n od2 ∧ CW f od2 ∧ f_X5_shares (sI om 22 (nI i)) = some om1 ∧ RP f n om2 ∧ RW f om2 ∧ Fr om om2 ∧ ((q = false ∧ f_X5_laysMost om1 = some (0, om2)) ∨ (f_X5_laysMost om1 = some (1, om2) ∧ (q = true ↔ ¬ om2.2.1 34 < om2.2.1 33))) := by
  obtain ⟨odw2, r1, hp⟩ := begin_eq hc hi odw
  obtain ⟨od2, odp2, r2, hd, e2, -⟩ := settle_eq (odp := odp) (od := sI od 8 (nI i)) hB (DD_ok hB hc.1) hi hc hw rfl hp
  have hw2 : CW f od2 := by
    unfold CW
    rw [e2]
    exact hw
  obtain ⟨om1, t1, t2, t3⟩ := shares_eq (f := f) (n := n) (s := i) (om := sI om 22 (nI i)) (DD_ok hB hc.1) hi hr hrw rfl
  obtain ⟨om2, u1, u2, u3, u4⟩ := use_two hB hL hi hd t2
  have f0 : Fr om (sI om 22 (nI i)) := ⟨fun _ _ => rfl, fun j hj => sI_ne _ _ _ _ (by omega)⟩
  have ff : Fr om om2 := (f0.trans t3.fr).trans u1
  have e1 : f_X4_standsOn (nI i) oo od odw odp = (if (od2.1 11) = 0 then some (0, od2, odw2, odp2) else Option.bind (f_X0_useTop od2 odp2) fun x4 => Option.bind (f_X0_useBottom od2 odp2) fun x5 => if x5 < x4 then some (0, od2, odw2, odp2) else some (1, od2, odw2, odp2)) := by
    rw [f_X4_standsOn, r1, Option.bind_some, r2, Option.bind_some]
  rcases u4 with ⟨z1, z2⟩ | ⟨z1, T, B, t4, t5, t6, t7, t8⟩
  · exact ⟨false, od2, odw2, odp2, om1, om2, by rw [e1, z1]; rfl, hd.1, hw2, t1, u2, u3, ff, Or.inl ⟨rfl, z2⟩⟩
  · by_cases c : B < T
    · exact ⟨false, od2, odw2, odp2, om1, om2, by rw [e1, z1, if_neg not_one, t4, t5, Option.bind_some, Option.bind_some, if_pos c]; rfl, hd.1, hw2, t1, u2, u3, ff, Or.inr ⟨t6, by rw [t7, t8]; exact ⟨(fun q => by cases q), fun q => absurd c q⟩⟩⟩
    · exact ⟨true, od2, odw2, odp2, om1, om2, by rw [e1, z1, if_neg not_one, t4, t5, Option.bind_some, Option.bind_some, if_neg c]; rfl, hd.1, hw2, t1, u2, u3, ff, Or.inr ⟨t6, by rw [t7, t8]; exact ⟨fun _ => c, fun _ => rfl⟩⟩⟩
theorem odds_loop {on : OS} {S : Nat → Int32} {n k b x : Nat} {f : PF} (h : SRn on S n k b) (hx : x ≤ 10) (hB : PB f n) (hL : LB f) (oo : OS) : ∀ (m i j s : Nat) (od odw odp om : OS), i + m = 2 ^ n → m + 512 < j → CP f n od → CW f od → RP f n om → RW f om → s ≤ tot (gw x b n) i → ∃ (j2 s2 : Nat) (od2 odw2 odp2 om2 : OS), 512 < j2 ∧ lp_X4_odds_42 (nI x) (nI (cnt b n)) oo on j (nI s) (nI i) od odw odp = lp_X4_odds_42 (nI x) (nI (cnt b n)) oo on j2 (nI s2) (nI (2 ^ n)) od2 odw2 odp2 ∧ lp_X5_odds_83 (nI x) (nI b) j (oL s) (nI i) om = some (oL s2, nI (2 ^ n), om2) ∧ s2 ≤ tot (gw x b n) (2 ^ n) ∧ Fr om om2 := by
  have hn := h.1
  have hb5 := h.lt512
  have h256 : 2 ^ n ≤ 256 := Nat.pow_le_pow_right (n := 2) (by omega) hn
  intro m
  induction m with
  | zero =>
    intro i j s od odw odp om hi hj hc hw hr hrw hs
    obtain ⟨j, rfl⟩ : ∃ i, j = i + 1 := ⟨j - 1, by omega⟩
    have : i = 2 ^ n := by omega
    subst this
    refine ⟨j + 1, s, od, odw, odp, om, by omega, rfl, ?_, hs, Fr.rfl⟩
    rw [lp_X5_odds_83, hr.2.1, shl_n n (by omega), if_pos (nI_le (Nat.le_refl _) (by omega))]
  | succ m ih =>
    intro i j s od odw odp om hi hj hc hw hr hrw hs
    obtain ⟨j, rfl⟩ : ∃ i, j = i + 1 := ⟨j - 1, by omega⟩
    have hi5 : i < 512 := by omega
    have hin : i < 2 ^ n := by omega
    have et : tot (gw x b n) (i + 1) = tot (gw x b n) i + gw x b n i := rfl
    rw [lp_X4_odds_42, if_neg (show ¬ (256 : Int32) ≤ nI i from nI_ge (b := 256) (by omega) (by decide)), h.2.2.2.2.2.1, lp_X5_odds_83, hr.2.1, shl_n n (by omega), if_neg (nI_ge (show i < 2 ^ n by omega) (by omega)), nI_1]
    by_cases cs : i &&& b = i
    · have hsub := and_sub.mp cs
      obtain ⟨w1, w2⟩ := wt_pow (x := x) hsub n
      have wl : wt x b i n ≤ 10 ^ n := wt_le hx n
      have w8 : (10 : Nat) ^ n ≤ 10 ^ 8 := Nat.pow_le_pow_right (by omega) hn
      have h8 : (10 : Nat) ^ 8 = 100000000 := by decide
      have eg : gw x b n i = wt x b i n := if_pos cs
      have cn := cnt_le b n
      have cn2 := cnt_le i n
      rw [if_pos ((sub_bits hi5 hb5).mpr cs), if_pos ((sub_bits hi5 hb5).mpr cs), bitCount_eq (n := n) (by omega) hin, Option.bind_some, show (10 : Int32) - nI x = nI (10 - x) from nI_sub (a := 10) hx, power_eq (by omega), Option.bind_some, nI_sub w1, power_eq (by omega), Option.bind_some, nI_mul, ← w2, show (1 : Int64) = oL 1 from rfl, show lp_X5_odds_109 (nI x) (nI b) (nI i) om 1000 (oL 1) 0 = _ from chance_loop hx hn hb5 hi5 hr.2.1 n 0 1000 (by omega) (by omega), Option.bind_some]
      obtain ⟨q, od2, odw2, odp2, om1, om2, s1, s2, s3, s4, s5, s6, s7, s8⟩ := stands_eq hB hL hin hc hw hr hrw oo odw odp
      simp only [lt]
      rw [s4, Option.bind_some]
      have z0 : ∀ a : Nat, oL a + 0 = oL a := fun a => oL_add a 0
      by_cases cw : wt x b i n = 0
      · rw [cw, if_pos (show nI 0 ≤ 0 by decide)]
        have i1 := ih (i + 1) j s od odw odp om2 (by omega) (by omega) hc hw s5 s6 (by omega)
        obtain ⟨j2, s2', a1, a2, a3, a4, q1, q2, q3, q4, q5⟩ := i1
        refine ⟨j2, s2', a1, a2, a3, a4, q1, q2, ?_, q4, s7.trans q5⟩
        rcases s8 with ⟨-, g⟩ | ⟨g, -⟩
        · rw [g, Option.bind_some, if_pos rfl, z0]; exact q3
        · rw [g, Option.bind_some, if_neg not_one, show oL s + oL 0 = oL s from z0 s, z0, ite_self]; exact q3
      · rw [if_neg (show ¬ nI (wt x b i n) ≤ 0 from fun q => by have := (nI_le_iff (b := 0) (by omega) (by decide)).mp q; omega), s1, Option.bind_some]
        simp only
        rcases s8 with ⟨rfl, g⟩ | ⟨g, gq⟩
        · rw [g, Option.bind_some, if_pos rfl, z0]
          obtain ⟨j2, s2', a1, a2, a3, a4, q1, q2, q3, q4, q5⟩ := ih (i + 1) j s od2 odw2 odp2 om2 (by omega) (by omega) s2 s3 s5 s6 (by omega)
          exact ⟨j2, s2', a1, a2, a3, a4, q1, q2, q3, q4, s7.trans q5⟩
        · rw [g, Option.bind_some, if_neg not_one]
          cases q
          · have : om2.2.1 34 < om2.2.1 33 := by
              by_cases c : om2.2.1 34 < om2.2.1 33
              · exact c
              · have := gq.mpr c; cases this
            simp only
            rw [if_pos this, z0]
            obtain ⟨j2, s2', a1, a2, a3, a4, q1, q2, q3, q4, q5⟩ := ih (i + 1) j s od2 odw2 odp2 om2 (by omega) (by omega) s2 s3 s5 s6 (by omega)
            exact ⟨j2, s2', a1, a2, a3, a4, q1, q2, q3, q4, s7.trans q5⟩
          · simp only [if_true]
            rw [if_neg (gq.mp rfl), if_neg not_one, oL_add, show nI s + nI (wt x b i n) = nI (s + wt x b i n) from nI_add s _]
            obtain ⟨j2, s2', a1, a2, a3, a4, q1, q2, q3, q4, q5⟩ := ih (i + 1) j (s + wt x b i n) od2 odw2 odp2 om2 (by omega) (by omega) s2 s3 s5 s6 (by omega)
            exact ⟨j2, s2', a1, a2, a3, a4, q1, q2, q3, q4, s7.trans q5⟩
    · rw [if_neg (fun q => cs ((sub_bits hi5 hb5).mp q)), if_neg (fun q => cs ((sub_bits hi5 hb5).mp q))]
      exact ih (i + 1) j s od odw odp om (by omega) (by omega) hc hw hr hrw (by omega)
theorem odds_tail {on : OS} {n b : Nat} {r1 r3 v : Int32} (hb : b < 2 ^ n) (hn : n ≤ 8) (e5 : on.1 5 = nI b) (oo od odw odp : OS) : ∀ (m i j : Nat), i + m = 256 → 2 ^ n ≤ i → m < j → lp_X4_odds_42 r1 r3 oo on j v (nI i) od odw odp = some (v, nI 256, od, odw, odp) := by
  intro m
  induction m with
  | zero =>
    intro i j hi hni hj
    obtain ⟨j, rfl⟩ : ∃ i, j = i + 1 := ⟨j - 1, by omega⟩
    have : i = 256 := by omega
    subst this
    rw [lp_X4_odds_42, if_pos (show (256 : Int32) ≤ nI 256 by decide)]
  | succ m ih =>
    intro i j hi hni hj
    obtain ⟨j, rfl⟩ : ∃ i, j = i + 1 := ⟨j - 1, by omega⟩
    have hb5 : b < 512 := Nat.lt_of_lt_of_le hb (pow_le_512 (by omega))
    have ns : ¬ i &&& b = i := fun q => by
      have := Nat.and_le_right (n := i) (m := b)
      omega
    rw [lp_X4_odds_42, if_neg (show ¬ (256 : Int32) ≤ nI i from nI_ge (b := 256) (by omega) (by decide)), e5, if_neg (fun q => ns ((sub_bits (by omega) hb5).mp q)), nI_1]
    exact ih (i + 1) j (by omega) (by omega) (by omega)
theorem p_odds {oo on oc : OS} {pa ig : PSt} {om : OS} (h : Rel oo on oc pa ig om) (i0 i1 : Int32) (od odw odp : OS) : Pr om (f_X4_odds i0 i1 oo on od odw odp) (f_X5_odds i0 i1 om) := by
  obtain ⟨⟨n, k, b, hS⟩, -⟩ := h
  have hn := hS.1
  have hb5 := hS.lt512
  rcases wh i0 10 (by decide) with ⟨c1, c2⟩ | ⟨c1, c2, c3⟩ | ⟨x, hx, rfl, c1, c2, c3⟩
  · exact Pr.one (-1) (by rw [f_X4_odds, if_pos c1]) (by rw [f_X5_odds, show f_X5_in i0 0 10 = _ from c2, Option.bind_some, if_pos rfl])
  · exact Pr.one (-1) (by rw [f_X4_odds, if_neg c1, if_pos (show (10 : Int32) < i0 from Int32.not_le.mp c2)]) (by rw [f_X5_odds, show f_X5_in i0 0 10 = _ from c3, Option.bind_some, if_pos rfl])
  rcases wh i1 1 (by decide) with ⟨d1, d2⟩ | ⟨d1, d2, d3⟩ | ⟨w, hw, -, d1, d2, d3⟩
  · exact Pr.one (-1) (by rw [f_X4_odds, if_neg c1, if_neg (show ¬ (10 : Int32) < nI x from Int32.not_lt.mpr c2), if_pos d1]) (by rw [f_X5_odds, show f_X5_in (nI x) 0 10 = _ from c3, Option.bind_some, if_neg not_one, show f_X5_in i1 0 1 = _ from d2, Option.bind_some, if_pos rfl])
  · exact Pr.one (-1) (by rw [f_X4_odds, if_neg c1, if_neg (show ¬ (10 : Int32) < nI x from Int32.not_lt.mpr c2), if_neg d1, if_neg (show ¬ i1 ≤ 1 from d2)]) (by rw [f_X5_odds, show f_X5_in (nI x) 0 10 = _ from c3, Option.bind_some, if_neg not_one, show f_X5_in i1 0 1 = _ from d3, Option.bind_some, if_pos rfl])
  obtain ⟨f, hB, hL, hf, hc, hr⟩ := take_eq hS
  obtain ⟨od1, t1, t2, t3⟩ := hc oo od
  obtain ⟨om1, l1, l2, l3, l4⟩ := lays_eq hS (fW f) (fU f) (fV f)
  rw [← hf] at l3
  obtain ⟨om2, s1, s2, s3, s4⟩ := hr om1 (l2.1 0 (by decide) (by decide) (by decide) (by decide))
  have r2 : RP f n om2 := ⟨l3.1, by rw [s2]; exact l3.2.1, by rw [s3]; exact l3.2.2⟩
  have e22 : om2.1 22 = nI b := by rw [s2]; exact l4
  have h256 : 2 ^ n ≤ 256 := Nat.pow_le_pow_right (n := 2) (by omega) hn
  obtain ⟨j2, s, od2, odw2, odp2, om3, q0, q1, q2, q3, q4⟩ := odds_loop hS hx hB hL oo (2 ^ n) 0 1000 0 od1 odw odp om2 (by omega) (by omega) t2 t3 r2 s4 (Nat.zero_le _)
  obtain ⟨d, hd⟩ : ∃ d, 2 ^ n + d = 256 := ⟨_, Nat.add_sub_cancel' h256⟩
  have q5 := odds_tail (r1 := nI x) (r3 := nI (cnt b n)) (v := nI s) hS.2.2.1 hn hS.2.2.2.2.2.1 oo od2 odw2 odp2 d (2 ^ n) j2 hd (Nat.le_refl _) (Nat.lt_of_le_of_lt (show d ≤ 512 from Nat.le_trans (Nat.le_add_left d (2 ^ n)) (hd ▸ (by decide : (256 : Nat) ≤ 512))) q0)
  have cn := cnt_le b n
  have sl : s ≤ 10 ^ n := Nat.le_trans q3 (tot_ten hx n)
  have w8 : (10 : Nat) ^ n ≤ 10 ^ 8 := Nat.pow_le_pow_right (by omega) hn
  have w9 : (10 : Nat) ^ cnt b n ≤ 10 ^ 8 := Nat.pow_le_pow_right (by omega) (by omega)
  have h8 : (10 : Nat) ^ 8 = 100000000 := by decide
  have wp : 0 < (10 : Nat) ^ cnt b n := Nat.pow_pos (by omega)
  obtain ⟨r, k1, k2⟩ := part_eq (a := oL s) (b := oL (10 ^ cnt b n)) (by rw [oL_int (by omega)]; omega) (by rw [oL_int (by omega)]; omega) (by rw [oL_int (by omega)]; omega) i1
  refine ⟨r.toInt32, od2, odw2, odp2, om3, ?_, ?_, (l2.fr.trans (Fr.trans ⟨fun r _ => by rw [s3], fun i _ => by rw [s2]⟩ q4)).pe⟩
  · rw [f_X4_odds, if_neg c1, if_neg (show ¬ (10 : Int32) < nI x from Int32.not_lt.mpr c2), if_neg d1, if_pos (show i1 ≤ 1 from d2), t1, Option.bind_some, hS.2.2.2.2.2.1, bitCount_eq (n := n) (by omega) hS.2.2.1, Option.bind_some, show lp_X4_odds_42 (nI x) (nI (cnt b n)) oo on 1000 0 0 od1 odw odp = _ from q1.trans q5, Option.bind_some, show (10 : Int32) = nI 10 from rfl, power_eq (by omega), Option.bind_some, oL_nI (by omega), oL_nI (by omega), k1]
    rfl
  · rw [f_X5_odds, show f_X5_in (nI x) 0 10 = _ from c3, Option.bind_some, if_neg not_one, show f_X5_in i1 0 1 = _ from d3, Option.bind_some, if_neg not_one, l1, Option.bind_some, s1, Option.bind_some, e22, show (1 : Int64) = oL 1 from rfl, show lp_X5_odds_43 (nI b) om2 1000 (oL 1) 0 = _ from down_loop hn hb5 r2.2.1 n 0 1000 (by omega) (by omega), Option.bind_some, show lp_X5_odds_83 (nI x) (nI b) 1000 0 0 om2 = _ from q2, Option.bind_some, k2]
    rfl
