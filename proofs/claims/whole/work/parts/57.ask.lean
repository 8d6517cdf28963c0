/-! ===== spots and ask ===== -/
theorem oL_32 : ∀ m, m < 100 → (oL m).toInt32 = nI m := by decide
theorem RSight.fr {oo om om2 : OS} (h : RSight oo om) (f : Fr om om2) : RSight oo om2 := by
  unfold RSight at *
  rw [f.1 6 (by omega), f.2 7 (by omega)]
  exact h
/-- the reference notes the shares of a spot -/
theorem borne_loop {f : PF} {n a i : Nat} {sh : Nat → Nat} (hn : n ≤ 8) (hi : i < 361) (ha : a < 2 ^ n) (hD : ¬ DD f n a = 0) (hsh : ∀ p, p < n → sh p ≤ 99 ∧ TS f n a p / DD f n a = oL (sh p)) : ∀ (m p k : Nat) (w : OS), p + m = n → m < k → RP f n w → RT f n a w → w.1 26 = nI a → ∃ w2, lp_X5_laysSpots_102 (nI i) k (nI p) w = some (nI n, w2) ∧ w2.1 = w.1 ∧ (∀ r, r ≠ 37 → w2.2.2 r = w.2.2 r) ∧ (∀ q, p ≤ q → q < n → w2.2.2 37 (8 * i + q) = nI (sh q)) ∧ (∀ j, j < 8 * i + p ∨ 8 * i + n ≤ j → w2.2.2 37 j = w.2.2 37 j) := by
  intro m
  induction m with
  | zero =>
    intro p k w hp hk hr ht ea
    obtain ⟨k, rfl⟩ : ∃ j, k = j + 1 := ⟨k - 1, by omega⟩
    have : p = n := by omega
    subst this
    exact ⟨w, by rw [lp_X5_laysSpots_102, hr.2.1, if_pos (nI_le (Nat.le_refl _) (by omega))], rfl, fun _ _ => rfl, fun q h1 h2 => by omega, fun _ _ => rfl⟩
  | succ m ih =>
    intro p k w hp hk hr ht ea
    obtain ⟨k, rfl⟩ : ∃ j, k = j + 1 := ⟨k - 1, by omega⟩
    obtain ⟨h1, h2⟩ := hsh p (by omega)
    have ti : (nI (8 * i + p)).toNatClampNeg = 8 * i + p := nI_clamp (by omega)
    obtain ⟨w2, q1, q2, q3, q4, q5⟩ := ih (p + 1) k (sA w 37 (8 * i + p) (nI (sh p))) (by omega) (by omega) hr ht ea
    refine ⟨w2, ?_, q2, fun r hr37 => by rw [q3 r hr37, sA_ne _ _ _ _ _ hr37], fun q a1 a2 => ?_, fun j hj => ?_⟩
    · rw [lp_X5_laysSpots_102, hr.2.1, if_neg (nI_ge (show p < n by omega) (by omega)), bears_any hr ha ea ht (by omega), Option.bind_some, ht.1, dzL, if_neg hD, show (8 : Int32) * nI i = nI (8 * i) from nI_mul 8 i, show nI (8 * i) + nI p = nI (8 * i + p) from nI_add _ _, ck_nI (show 8 * i + p < 2888 by omega) (by decide), ti, h2, oL_32 (sh p) (by omega), nI_1]
      exact q1
    · by_cases e : q = p
      · subst e
        rw [q5 (8 * i + q) (Or.inl (by omega)), sA_same, upd_same]
      · exact q4 q (by omega) a2
    · rw [q5 j (by omega), sA_same, upd_ne _ _ _ _ (by omega)]
theorem spot_ref {S : Nat → Int32} {n b i k : Nat} {q : Option (Nat → Nat)} {om om0 om1 : OS} (hn : n ≤ 8) (hi : i < 361) (hl : f_X5_laysLoad (om.1 5) ((nI i / 19) - 9) ((nI i - nI i / 19 * 19) - 9) om = some om0) (ht : f_X5_shares om0 = some om1) (so : f_X5_isSo om1 = some (if q.isSome then 1 else 0)) (rp : RP (pf S 0 0 0) n om1) (e22 : om1.1 22 = nI b) (fs : FS om om1) (hsh : ∀ sh, q = some sh → ∃ (f : PF) (a : Nat), RP f n om1 ∧ RT f n a om1 ∧ om1.1 26 = nI a ∧ a < 2 ^ n ∧ ¬ DD f n a = 0 ∧ ∀ p, p < n → sh p ≤ 99 ∧ TS f n a p / DD f n a = oL (sh p)) :
    ∃ om', lp_X5_laysSpots_17 (k + 1) (nI i) om = lp_X5_laysSpots_17 k (nI (i + 1)) om' ∧ RP (pf S 0 0 0) n om' ∧ om'.1 22 = nI b ∧ Fr om om' ∧ om'.1 38 = (if q.isSome then om.1 38 + 1 else om.1 38) ∧ om'.1 39 = (if q.isSome then (if om.1 39 = -9 then nI i else om.1 39) else om.1 39) ∧ (∀ j, j ≠ i → om'.2.2 36 j = om.2.2 36 j) ∧ om'.2.2 36 i = (if q.isSome then 1 else 0) ∧ (∀ j, j < 8 * i → om'.2.2 37 j = om.2.2 37 j) ∧ (∀ sh, q = some sh → ∀ p, p < n → om'.2.2 37 (8 * i + p) = nI (sh p)) := by
  have c361 : ¬ (361 : Int32) ≤ nI i := nI_ge (b := 361) (by omega) (by decide)
  have ti : (nI i).toNatClampNeg = i := nI_clamp (by omega)
  have e38 : om1.1 38 = om.1 38 := fs.2 38 (by decide) (by decide) (by decide)
  have e39 : om1.1 39 = om.1 39 := fs.2 39 (by decide) (by decide) (by decide)
  have fr1 : Fr om om1 := ⟨fun r _ => by rw [fs.1], fun j hj => fs.2 j (by omega) (by omega) (by omega)⟩
  have step : ∀ v : Int32, v = vp_nar .boolean (if q.isSome then 1 else 0) → lp_X5_laysSpots_17 (k + 1) (nI i) om = (if v = 0 then lp_X5_laysSpots_17 k (nI (i + 1)) (sA om1 36 i v) else Option.bind (lp_X5_laysSpots_102 (nI i) 1000 0 (sI (sI (sA om1 36 i v) 38 (om.1 38 + 1)) 39 (if om.1 39 = -9 then nI i else om.1 39))) fun z19 => lp_X5_laysSpots_17 k (nI (i + 1)) z19.2) := fun v hv => by
    rw [lp_X5_laysSpots_17, if_neg c361, hl, Option.bind_some, ht, Option.bind_some, so, Option.bind_some, ck_nI hi (by decide), ti, ← hv]
    simp only [lt]
    rw [ck_nI hi (by decide), sA_same, upd_same, nI_1]
    by_cases c : v = 0
    · rw [if_pos c, if_pos c]
    · rw [if_neg c, if_neg c]
      rw [show (sA om1 36 i v).1 38 = om.1 38 from e38, show (sI (sA om1 36 i v) 38 (om.1 38 + 1)).1 39 = om.1 39 from e39]
      have e9 : (if om.1 39 = -9 then some (nI i) else some (om.1 39) : Option Int32) = some (if om.1 39 = -9 then nI i else om.1 39) := by split <;> rfl
      rw [e9, Option.bind_some]
  cases q with
  | none =>
    have hs := step 0 rfl
    rw [if_pos rfl] at hs
    refine ⟨sA om1 36 i 0, hs, rp, e22, ?_, e38, e39, fun j hj => ?_, ?_, fun j hj => ?_, fun sh h => by cases h⟩
    · exact ⟨fun r hr => by rw [sA_ne _ _ _ _ _ (by omega)]; exact fr1.1 r hr, fr1.2⟩
    · rw [sA_same, upd_ne _ _ _ _ hj, fs.1]
    · rw [sA_same, upd_same]; rfl
    · rw [sA_ne _ _ _ _ _ (by omega), fs.1]
  | some sh =>
    have hs := step 1 (show (1 : Int32) = vp_nar .boolean 1 by decide)
    rw [if_neg not_one] at hs
    obtain ⟨f, a, g1, g2, g3, g4, g5, g6⟩ := hsh sh rfl
    obtain ⟨w2, b1, b2, b3, b4, b5⟩ := borne_loop (sh := sh) (i := i) hn hi g4 g5 g6 n 0 1000 (sI (sI (sA om1 36 i 1) 38 (om.1 38 + 1)) 39 (if om.1 39 = -9 then nI i else om.1 39)) (by omega) (by omega) g1 g2 g3
    rw [show lp_X5_laysSpots_102 (nI i) 1000 0 (sI (sI (sA om1 36 i 1) 38 (om.1 38 + 1)) 39 (if om.1 39 = -9 then nI i else om.1 39)) = _ from b1, Option.bind_some] at hs
    refine ⟨w2, hs, ⟨rp.1, by rw [b2]; exact rp.2.1, fun p hp => ?_⟩, by rw [b2]; exact e22, ⟨fun r hr => ?_, fun j hj => ?_⟩, by rw [b2]; rfl, by rw [b2]; rfl, fun j hj => ?_, ?_, fun j hj => ?_, fun sh' h p hp => ?_⟩
    · rw [b3 17 (by decide), b3 18 (by decide), b3 19 (by decide), b3 20 (by decide)]
      exact rp.2.2 p hp
    · rw [b3 r (by omega)]
      show (sA om1 36 i 1).2.2 r = _
      rw [sA_ne _ _ _ _ _ (by omega)]
      exact fr1.1 r hr
    · rw [b2, sI_ne _ _ _ _ (by omega), sI_ne _ _ _ _ (by omega)]
      exact fr1.2 j hj
    · rw [b3 36 (by decide)]
      show (sA om1 36 i 1).2.2 36 j = _
      rw [sA_same, upd_ne _ _ _ _ hj, fs.1]
    · rw [b3 36 (by decide)]
      show (sA om1 36 i 1).2.2 36 i = _
      rw [sA_same, upd_same]; rfl
    · rw [b5 j (Or.inl (by omega))]
      show om1.2.2 37 j = _
      rw [fs.1]
    · cases h
      exact b4 p (by omega) hp
theorem spots_loop {S : Nat → Int32} {n b : Nat} (hB : PB (pf S 0 0 0) n) (hn : n ≤ 8) (hb : b < 2 ^ n) {oo odw : OS} (hp : PLs (pf S 0 0 0) n b odw) : ∀ (m i k : Nat) (od odp om : OS), i + m = 361 → m < k → RSight oo om → oo.1 7 = om.1 5 → IR 1 99 (om.1 5) → CP (pf S 0 0 0) n od → od.1 8 = nI b → RP (pf S 0 0 0) n om → om.1 22 = nI b → ∃ (od2 odp2 om2 : OS), lp_X4_spots_44 oo odw k (om.1 38) (om.1 39) (nI i) od odp = some (om2.1 38, om2.1 39, nI 361, od2, odp2) ∧ lp_X5_laysSpots_17 k (nI i) om = some (nI 361, om2) ∧ Fr om om2 := by
  intro m
  induction m with
  | zero =>
    intro i k od odp om hi hk hsee hh hh2 hc e8 hr e22
    obtain ⟨k, rfl⟩ : ∃ j, k = j + 1 := ⟨k - 1, by omega⟩
    have : i = 361 := by omega
    subst this
    exact ⟨od, odp, om, by rw [lp_X4_spots_44, if_pos (show (361 : Int32) ≤ nI 361 by decide)], by rw [lp_X5_laysSpots_17, if_pos (show (361 : Int32) ≤ nI 361 by decide)], Fr.rfl⟩
  | succ m ih =>
    intro i k od odp om hi hk hsee hh hh2 hc e8 hr e22
    obtain ⟨k, rfl⟩ : ∃ j, k = j + 1 := ⟨k - 1, by omega⟩
    have c361 : ¬ (361 : Int32) ≤ nI i := nI_ge (b := 361) (by omega) (by decide)
    obtain ⟨q, od2, odp2, om0, om1, s1, s2, s3, s4, s5, s6, s7, s8, s9, s10⟩ := spot_eq hB hn hb hsee hh hh2 hc e8 hp hr e22 (show i < 361 by omega) odp
    obtain ⟨om', r1, r2, r3, r4, r5, r6, -⟩ := spot_ref (k := k) hn (show i < 361 by omega) s2 s3 s4 s7 s8 s9 (fun sh h => by
      obtain ⟨f, a, g1, g2, g3, g4, g5, g6⟩ := s10 sh h
      exact ⟨f, a, g1, g2, g3, g4, g5, fun p hp => ⟨(g6 p hp).1, (g6 p hp).2.2⟩⟩)
    have e5 : om'.1 5 = om.1 5 := r4.2 5 (by omega)
    obtain ⟨o1, o2, o3, k1, k2, k3⟩ := ih (i + 1) k od2 odp2 om' (by omega) (by omega) (hsee.fr r4) (by rw [e5]; exact hh) (by rw [e5]; exact hh2) s5 s6 r2 r3
    refine ⟨o1, o2, o3, ?_, by rw [r1]; exact k2, r4.trans k3⟩
    rw [lp_X4_spots_44, if_neg c361, s1, Option.bind_some, nI_1]
    simp only
    cases q with
    | none =>
      rw [show om'.1 38 = om.1 38 from r5, show om'.1 39 = om.1 39 from r6] at k1
      exact k1
    | some sh =>
      rw [show om'.1 38 = om.1 38 + 1 from r5, show om'.1 39 = (if om.1 39 = -9 then nI i else om.1 39) from r6] at k1
      simp only [Option.isSome_some, if_true, if_neg not_one]
      by_cases c : om.1 39 = -9
      · rw [if_pos c] at k1
        rw [if_pos c]; exact k1
      · rw [if_neg c] at k1
        rw [if_neg c]; exact k1
theorem spots_start {on om : OS} {n k b : Nat} (h : SRn on (om.2.2 0) n k b) (od odw : OS) : ∃ od1 odw1 om1, f_X0_takePiles od on = some od1 ∧ f_X0_beginWith (on.1 5) od1 odw = some (sI od1 8 (nI b), odw1) ∧ f_X5_laysPiles om = some om1 ∧ CP (pf (om.2.2 0) 0 0 0) n (sI od1 8 (nI b)) ∧ PLs (pf (om.2.2 0) 0 0 0) n b odw1 ∧ RP (pf (om.2.2 0) 0 0 0) n om1 ∧ om1.1 22 = nI b ∧ Fr om om1 := by
  obtain ⟨od1, r1, hc, -, -⟩ := takePiles_eq h od 0 0 0
  obtain ⟨odw2, r2, hp⟩ := begin_eq hc h.2.2.1 odw
  obtain ⟨om1, l1, l2, l3, l4⟩ := lays_eq h 0 0 0
  exact ⟨od1, odw2, om1, r1, by rw [h.2.2.2.2.2.1]; exact r2, l1, hc, hp, l3, l4, l2.fr⟩
theorem p_spots {oo on oc : OS} {pa ig : PSt} {om : OS} (h : Rel oo on oc pa ig om) (i0 : Int32) (od odw odp : OS) : Pr om (f_X4_spots i0 oo on od odw odp) (f_X5_spots i0 om) := by
  obtain ⟨⟨n, k, b, hS⟩, -, -, ⟨hh, hh2⟩, hsee, -⟩ := h
  have hn := hS.1
  rcases wh i0 1 (by decide) with ⟨c1, c2⟩ | ⟨c1, c2, c3⟩ | ⟨j0, hj0, ej0, c1, c2, c3⟩
  · exact Pr.one (-1) (by rw [f_X4_spots, if_pos c1]) (by rw [f_X5_spots, show f_X5_in i0 0 1 = _ from c2, Option.bind_some, if_pos rfl])
  · exact Pr.one (-1) (by rw [f_X4_spots, if_neg c1, if_neg (show ¬ i0 ≤ 1 from c2)]) (by rw [f_X5_spots, show f_X5_in i0 0 1 = _ from c3, Option.bind_some, if_pos rfl])
  · obtain ⟨od1, odw1, om1, s1, s2, s3, s4, s5, s6, s7, s8⟩ := spots_start hS od odw
    have f2 : Fr om (sI (sI om1 38 0) 39 (-9)) := s8.trans ⟨fun _ _ => rfl, fun j hj => by rw [sI_ne _ _ _ _ (by omega), sI_ne _ _ _ _ (by omega)]⟩
    have e5 : (sI (sI om1 38 0) 39 (-9)).1 5 = om.1 5 := f2.2 5 (by omega)
    obtain ⟨o1, o2, o3, k1, k2, k3⟩ := spots_loop (hS.pb 0 0 0) hn hS.2.2.1 s5 361 0 1000 (sI od1 8 (nI b)) odp (sI (sI om1 38 0) 39 (-9)) (by omega) (by omega) (hsee.fr f2) (by rw [e5]; exact hh) (by rw [e5]; exact hh2) s4 rfl s6 s7
    have eR : f_X5_laysSpots om = some o3 := by
      rw [f_X5_laysSpots, s3, Option.bind_some]
      simp only [lt]
      rw [show lp_X5_laysSpots_17 1000 0 (sI (sI om1 38 0) 39 (-9)) = _ from k2]
      rfl
    rw [f_X4_spots, if_neg c1, if_pos (show i0 ≤ 1 from c2), s1, Option.bind_some, s2, Option.bind_some, show lp_X4_spots_44 oo (sI od1 8 (nI b), odw1).2 1000 0 (-9) 0 (sI od1 8 (nI b), odw1).1 odp = _ from k1, Option.bind_some, f_X5_spots, show f_X5_in i0 0 1 = _ from c3, Option.bind_some, if_neg not_one, eR, Option.bind_some]
    simp only
    by_cases k0 : i0 = 0
    · rw [if_pos k0, if_pos k0]
      exact ⟨_, _, _, _, o3, rfl, rfl, (f2.trans k3).pe⟩
    · rw [if_neg k0, if_neg k0]
      exact ⟨_, _, _, _, o3, rfl, rfl, (f2.trans k3).pe⟩
/-! groups of spots that are alike -/
def gc (A B : Nat → Int32) (p v : Nat) : Nat → Nat
  | 0 => 0
  | k + 1 => if ¬ A k = 0 ∧ B (8 * k + p) = nI v then gc A B p v k + 1 else gc A B p v k
theorem gc_ext {A B A2 B2 : Nat → Int32} {p v : Nat} : ∀ {i : Nat}, (∀ k, k < i → A k = A2 k ∧ B (8 * k + p) = B2 (8 * k + p)) → gc A B p v i = gc A2 B2 p v i
  | 0, _ => rfl
  | i + 1, h => by
    unfold gc
    rw [(h i (by omega)).1, (h i (by omega)).2, gc_ext (fun k hk => h k (by omega))]
theorem gc_le (A B : Nat → Int32) (p v : Nat) : ∀ i, gc A B p v i ≤ i
  | 0 => Nat.le_refl _
  | i + 1 => by
    have := gc_le A B p v i
    unfold gc
    split <;> omega
def mx (c : Nat → Nat) : Nat → Nat
  | 0 => 0
  | v + 1 => if mx c v < c v then c v else mx c v
theorem mx_ge (c : Nat → Nat) : ∀ {m v : Nat}, v < m → c v ≤ mx c m
  | 0, v, h => absurd h (Nat.not_lt_zero v)
  | m + 1, v, h => by
    unfold mx
    by_cases e : v = m
    · subst e
      split <;> omega
    · have := mx_ge c (show v < m by omega)
      split <;> omega
theorem mx_le {c : Nat → Nat} {b : Nat} : ∀ {m : Nat}, (∀ v, v < m → c v ≤ b) → mx c m ≤ b
  | 0, _ => Nat.zero_le _
  | m + 1, h => by
    unfold mx
    have := mx_le (m := m) (fun v hv => h v (by omega))
    have := h m (by omega)
    split <;> omega
theorem mx_step {c d : Nat → Nat} {m v0 : Nat} (hv : v0 < m) (h0 : d v0 = c v0 + 1) (h1 : ∀ v, v < m → v ≠ v0 → d v = c v) : mx d m = if c v0 + 1 ≤ mx c m then mx c m else c v0 + 1 := by
  have a1 : mx d m ≤ if c v0 + 1 ≤ mx c m then mx c m else c v0 + 1 := mx_le (fun v hv2 => by
    by_cases e : v = v0
    · subst e
      rw [h0]
      split <;> omega
    · rw [h1 v hv2 e]
      have := mx_ge c hv2
      split <;> omega)
  have a2 : mx c m ≤ mx d m := mx_le (fun v hv2 => by
    have := mx_ge d hv2
    by_cases e : v = v0
    · subst e; omega
    · rw [h1 v hv2 e] at this; exact this)
  have a3 := mx_ge d hv
  rw [h0] at a3
  split at a1 <;> split <;> omega
theorem mx_ext {c d : Nat → Nat} : ∀ {m : Nat}, (∀ v, v < m → c v = d v) → mx c m = mx d m
  | 0, _ => rfl
  | m + 1, h => by
    unfold mx
    rw [mx_ext (m := m) (fun v hv => h v (by omega)), h m (by omega)]
/-- the class counts a spot -/
theorem group_loop {on od odp : OS} {n : Nat} {sh : Nat → Nat} (hn : n ≤ 8) (e4 : on.1 4 = nI n) (hsh : ∀ p, p < n → sh p ≤ 99 ∧ f_X0_shareDown (nI p) od odp = some (oL (sh p))) : ∀ (m p k : Nat) (w : OS), p + m = n → m < k → ∃ w2, lp_X4_groupShares_2 on od odp k (nI p) w = some (nI n, w2) ∧ w2.1 = w.1 ∧ (∀ r, r ≠ 11 → w2.2.2 r = w.2.2 r) ∧ (∀ q v, q < n → v < 100 → w2.2.2 11 (q * 100 + v) = (if p ≤ q ∧ sh q = v then w.2.2 11 (q * 100 + v) + 1 else w.2.2 11 (q * 100 + v))) := by
  intro m
  induction m with
  | zero =>
    intro p k w hp hk
    obtain ⟨k, rfl⟩ : ∃ j, k = j + 1 := ⟨k - 1, by omega⟩
    have : p = n := by omega
    subst this
    exact ⟨w, by rw [lp_X4_groupShares_2, e4, if_pos (nI_le (Nat.le_refl _) (by omega))], rfl, fun _ _ => rfl, fun q v hq hv => by rw [if_neg (fun z => by omega)]⟩
  | succ m ih =>
    intro p k w hp hk
    obtain ⟨k, rfl⟩ : ∃ j, k = j + 1 := ⟨k - 1, by omega⟩
    obtain ⟨h1, h2⟩ := hsh p (by omega)
    have ti : (nI (p * 100 + sh p)).toNatClampNeg = p * 100 + sh p := nI_clamp (by omega)
    have z0 : (0 : Int64).toInt = 0 := rfl
    have z1 : (100 : Int64).toInt = 100 := rfl
    have n0 : ¬ oL (sh p) < 0 := fun q => by
      rw [Int64.lt_iff_toInt_lt, oL_int (by omega), z0] at q
      omega
    have n1 : ¬ (100 : Int64) ≤ oL (sh p) := fun q => by
      rw [Int64.le_iff_toInt_le, oL_int (by omega), z1] at q
      omega
    obtain ⟨w2, q1, q2, q3, q4⟩ := ih (p + 1) k (sA w 11 (p * 100 + sh p) (w.2.2 11 (p * 100 + sh p) + 1)) (by omega) (by omega)
    refine ⟨w2, ?_, q2, fun r hr => by rw [q3 r hr, sA_ne _ _ _ _ _ hr], fun q v hq hv => ?_⟩
    · rw [lp_X4_groupShares_2, e4, if_neg (nI_ge (show p < n by omega) (by omega)), h2, Option.bind_some, if_neg n0, if_neg n1, oL_32 (sh p) (by omega), show nI p * (100 : Int32) = nI (p * 100) from nI_mul p 100, show nI (p * 100) + nI (sh p) = nI (p * 100 + sh p) from nI_add _ _, ck_nI (show p * 100 + sh p < 800 by omega) (by decide), ck_nI (show p * 100 + sh p < 800 by omega) (by decide), ti, nI_1]
      exact q1
    · rw [q4 q v hq hv, sA_same]
      by_cases e : q = p
      · subst e
        rw [if_neg (fun z => by omega)]
        by_cases e2 : sh q = v
        · subst e2
          rw [if_pos ⟨Nat.le_refl _, rfl⟩, upd_same]
        · rw [if_neg (fun z => e2 z.2), upd_ne _ _ _ _ (by omega)]
      · have hs := (hsh q hq).1
        rw [upd_ne _ _ _ _ (by omega)]
        by_cases e2 : p + 1 ≤ q ∧ sh q = v
        · rw [if_pos e2, if_pos ⟨by omega, e2.2⟩]
        · rw [if_neg e2, if_neg (fun z => e2 ⟨by omega, z.2⟩)]
theorem ask_loop {on : OS} {S : Nat → Int32} {n b : Nat} (hB : PB (pf S 0 0 0) n) (hn : n ≤ 8) (hb : b < 2 ^ n) (e4 : on.1 4 = nI n) {odw : OS} (hp : PLs (pf S 0 0 0) n b odw) : ∀ (m i k : Nat) (oo od odp om : OS), i + m = 361 → m < k → RSight oo om → oo.1 7 = om.1 5 → IR 1 99 (om.1 5) → CP (pf S 0 0 0) n od → od.1 8 = nI b → RP (pf S 0 0 0) n om → om.1 22 = nI b → (∀ k, k < i → ¬ om.2.2 36 k = 0 → ∀ p, p < n → ∃ v, v ≤ 99 ∧ om.2.2 37 (8 * k + p) = nI v) → (∀ p v, p < n → v < 100 → oo.2.2 11 (p * 100 + v) = nI (gc (om.2.2 36) (om.2.2 37) p v i)) → ∃ (oo2 od2 odp2 om2 : OS), lp_X4_ask_37 on odw k (om.1 38) (nI i) oo od odp = some (om2.1 38, nI 361, oo2, od2, odp2) ∧ lp_X5_laysSpots_17 k (nI i) om = some (nI 361, om2) ∧ Fr om om2 ∧ RP (pf S 0 0 0) n om2 ∧ om2.1 22 = nI b ∧ oo2.1 = oo.1 ∧ (∀ r, r ≠ 11 → oo2.2.2 r = oo.2.2 r) ∧ (∀ k, k < 361 → ¬ om2.2.2 36 k = 0 → ∀ p, p < n → ∃ v, v ≤ 99 ∧ om2.2.2 37 (8 * k + p) = nI v) ∧ (∀ p v, p < n → v < 100 → oo2.2.2 11 (p * 100 + v) = nI (gc (om2.2.2 36) (om2.2.2 37) p v 361)) := by
  intro m
  induction m with
  | zero =>
    intro i k oo od odp om hi hk hsee hh hh2 hc e8 hr e22 h1 h2
    obtain ⟨k, rfl⟩ : ∃ j, k = j + 1 := ⟨k - 1, by omega⟩
    have : i = 361 := by omega
    subst this
    exact ⟨oo, od, odp, om, by rw [lp_X4_ask_37, if_pos (show (361 : Int32) ≤ nI 361 by decide)], by rw [lp_X5_laysSpots_17, if_pos (show (361 : Int32) ≤ nI 361 by decide)], Fr.rfl, hr, e22, rfl, fun _ _ => rfl, h1, h2⟩
  | succ m ih =>
    intro i k oo od odp om hi hk hsee hh hh2 hc e8 hr e22 h1 h2
    obtain ⟨k, rfl⟩ : ∃ j, k = j + 1 := ⟨k - 1, by omega⟩
    have c361 : ¬ (361 : Int32) ≤ nI i := nI_ge (b := 361) (by omega) (by decide)
    obtain ⟨q, od2, odp2, om0, om1, s1, s2, s3, s4, s5, s6, s7, s8, s9, s10⟩ := spot_eq hB hn hb hsee hh hh2 hc e8 hp hr e22 (show i < 361 by omega) odp
    obtain ⟨om', r1, r2, r3, r4, r5, r6, r7, r8, r9, r10⟩ := spot_ref (k := k) hn (show i < 361 by omega) s2 s3 s4 s7 s8 s9 (fun sh h => by
      obtain ⟨f, a, g1, g2, g3, g4, g5, g6⟩ := s10 sh h
      exact ⟨f, a, g1, g2, g3, g4, g5, fun p hp => ⟨(g6 p hp).1, (g6 p hp).2.2⟩⟩)
    have e5 : om'.1 5 = om.1 5 := r4.2 5 (by omega)
    have gx : ∀ p v, p < n → gc (om'.2.2 36) (om'.2.2 37) p v i = gc (om.2.2 36) (om.2.2 37) p v i := fun p v hp => gc_ext (fun k hk => ⟨r7 k (by omega), r9 _ (by omega)⟩)
    have gs : ∀ p v, gc (om'.2.2 36) (om'.2.2 37) p v (i + 1) = if ¬ om'.2.2 36 i = 0 ∧ om'.2.2 37 (8 * i + p) = nI v then gc (om'.2.2 36) (om'.2.2 37) p v i + 1 else gc (om'.2.2 36) (om'.2.2 37) p v i := fun p v => rfl
    rw [lp_X4_ask_37, if_neg c361, s1, Option.bind_some, nI_1]
    simp only
    cases q with
    | none =>
      have r8 : om'.2.2 36 i = 0 := r8
      obtain ⟨oo2, o1, o2, o3, k1, k2, k3, k4, k5, k6, k7, k8, k9⟩ := ih (i + 1) k oo od2 odp2 om' (by omega) (by omega) (hsee.fr r4) (by rw [e5]; exact hh) (by rw [e5]; exact hh2) s5 s6 r2 r3 (fun j hj hz p hp => by
        by_cases e : j = i
        · subst e; exact absurd r8 hz
        · rw [r9 _ (by omega)]
          exact h1 j (by omega) (by rw [← r7 j e]; exact hz) p hp) (fun p v hp hv => by
        rw [gs, if_neg (fun z => z.1 r8), gx p v hp]
        exact h2 p v hp hv)
      rw [show om'.1 38 = om.1 38 from r5] at k1
      exact ⟨oo2, o1, o2, o3, k1, by rw [r1]; exact k2, r4.trans k3, k4, k5, k6, k7, k8, k9⟩
    | some sh =>
      have r8 : om'.2.2 36 i = 1 := r8
      have nz : ¬ om'.2.2 36 i = 0 := by rw [r8]; decide
      obtain ⟨f, a, g1, g2, g3, g4, g5, g6⟩ := s10 sh rfl
      have r10 := r10 sh rfl
      obtain ⟨w2, b1, b2, b3, b4⟩ := group_loop (on := on) (od := od2) (odp := odp2) (sh := sh) hn e4 (fun p hp => ⟨(g6 p hp).1, (g6 p hp).2.1⟩) n 0 1000 oo (by omega) (by omega)
      simp only [Option.isSome_some, if_true, if_neg not_one]
      rw [f_X4_groupShares, show lp_X4_groupShares_2 on od2 odp2 1000 0 oo = _ from b1, Option.bind_some, Option.bind_some]
      simp only
      have see2 : RSight w2 om' := by
        have := hsee.fr r4
        unfold RSight at *
        rw [b2, b3 8 (by decide), b3 9 (by decide)]
        exact this
      obtain ⟨oo2, o1, o2, o3, k1, k2, k3, k4, k5, k6, k7, k8, k9⟩ := ih (i + 1) k w2 od2 odp2 om' (by omega) (by omega) see2 (by rw [b2, e5]; exact hh) (by rw [e5]; exact hh2) s5 s6 r2 r3 (fun j hj hz p hp => by
        by_cases e : j = i
        · subst e
          exact ⟨sh p, (g6 p hp).1, r10 p hp⟩
        · rw [r9 _ (by omega)]
          exact h1 j (by omega) (by rw [← r7 j e]; exact hz) p hp) (fun p v hp hv => by
        rw [gs, b4 p v hp hv, r10 p hp, gx p v hp, h2 p v hp hv]
        have hs := (g6 p hp).1
        by_cases e : sh p = v
        · rw [if_pos ⟨Nat.zero_le _, e⟩, if_pos ⟨nz, by rw [e]⟩, nI_1]
        · rw [if_neg (fun z => e z.2), if_neg (fun z => e (nI_inj (by omega) (by omega) z.2))])
      rw [show om'.1 38 = om.1 38 + 1 from r5] at k1
      exact ⟨oo2, o1, o2, o3, k1, by rw [r1]; exact k2, r4.trans k3, k4, k5, k6.trans b2, fun r hr => (k7 r hr).trans (b3 r hr), k8, k9⟩
/-- the reference counts spots that are alike -/
theorem alike_zero : ∀ (m v k : Nat) (w : OS), v + m = 100 → m < k → (∀ u, u < v → w.2.2 40 u = 0) → ∃ w2, lp_X5_mostAlike_2 k (nI v) w = some (nI 100, w2) ∧ w2.1 = w.1 ∧ (∀ r, r ≠ 40 → w2.2.2 r = w.2.2 r) ∧ (∀ u, u < 100 → w2.2.2 40 u = 0) := by
  intro m
  induction m with
  | zero =>
    intro v k w hv hk h0
    obtain ⟨k, rfl⟩ : ∃ j, k = j + 1 := ⟨k - 1, by omega⟩
    have : v = 100 := by omega
    subst this
    exact ⟨w, by rw [lp_X5_mostAlike_2, if_pos (show (100 : Int32) ≤ nI 100 by decide)], rfl, fun _ _ => rfl, h0⟩
  | succ m ih =>
    intro v k w hv hk h0
    obtain ⟨k, rfl⟩ : ∃ j, k = j + 1 := ⟨k - 1, by omega⟩
    have tv : (nI v).toNatClampNeg = v := nI_clamp (by omega)
    obtain ⟨w2, q1, q2, q3, q4⟩ := ih (v + 1) k (sA w 40 v 0) (by omega) (by omega) (fun u hu => by
      rw [sA_same]
      by_cases e : u = v
      · subst e; rw [upd_same]
      · rw [upd_ne _ _ _ _ e]; exact h0 u (by omega))
    refine ⟨w2, ?_, q2, fun r hr => by rw [q3 r hr, sA_ne _ _ _ _ _ hr], q4⟩
    rw [lp_X5_mostAlike_2, if_neg (show ¬ (100 : Int32) ≤ nI v from nI_ge (b := 100) (by omega) (by decide)), ck_nI (show v < 100 by omega) (by decide), tv, nI_1]
    exact q1
theorem alike_loop {n p : Nat} (hp : p < n) (hn : n ≤ 8) {A B : Nat → Int32} (hAB : ∀ k, k < 361 → ¬ A k = 0 → ∃ v, v ≤ 99 ∧ B (8 * k + p) = nI v) : ∀ (m i k : Nat) (w : OS), i + m = 361 → m < k → w.2.2 36 = A → w.2.2 37 = B → (∀ v, v < 100 → w.2.2 40 v = nI (gc A B p v i)) → ∃ w2, lp_X5_mostAlike_25 (nI p) k (nI (mx (fun v => gc A B p v i) 100)) (nI i) w = some (nI (mx (fun v => gc A B p v 361) 100), nI 361, w2) ∧ w2.1 = w.1 ∧ (∀ r, r ≠ 40 → w2.2.2 r = w.2.2 r) := by
  intro m
  induction m with
  | zero =>
    intro i k w hi hk hA hB h0
    obtain ⟨k, rfl⟩ : ∃ j, k = j + 1 := ⟨k - 1, by omega⟩
    have : i = 361 := by omega
    subst this
    exact ⟨w, by rw [lp_X5_mostAlike_25, if_pos (show (361 : Int32) ≤ nI 361 by decide)], rfl, fun _ _ => rfl⟩
  | succ m ih =>
    intro i k w hi hk hA hB h0
    obtain ⟨k, rfl⟩ : ∃ j, k = j + 1 := ⟨k - 1, by omega⟩
    have c361 : ¬ (361 : Int32) ≤ nI i := nI_ge (b := 361) (by omega) (by decide)
    have ti : (nI i).toNatClampNeg = i := nI_clamp (by omega)
    have tb : (nI (8 * i + p)).toNatClampNeg = 8 * i + p := nI_clamp (by omega)
    have gs : ∀ v, gc A B p v (i + 1) = if ¬ A i = 0 ∧ B (8 * i + p) = nI v then gc A B p v i + 1 else gc A B p v i := fun v => rfl
    rw [lp_X5_mostAlike_25, if_neg c361, ck_nI (show i < 361 by omega) (by decide), ti, hA]
    by_cases c : A i = 0
    · have e : (fun v => gc A B p v (i + 1)) = fun v => gc A B p v i := by
        funext v
        rw [gs, if_neg (fun z => z.1 c)]
      rw [if_pos c, nI_1]
      obtain ⟨w2, q1, q2, q3⟩ := ih (i + 1) k w (by omega) (by omega) hA hB (fun v hv => by rw [gs, if_neg (fun z => z.1 c)]; exact h0 v hv)
      rw [e] at q1
      exact ⟨w2, q1, q2, q3⟩
    · obtain ⟨v0, hv0, hB0⟩ := hAB i (by omega) c
      have tv : (nI v0).toNatClampNeg = v0 := nI_clamp (by omega)
      have gl := gc_le A B p v0 i
      have ml : mx (fun v => gc A B p v i) 100 ≤ i := mx_le (fun v _ => gc_le A B p v i)
      have st := mx_step (c := fun v => gc A B p v i) (d := fun v => gc A B p v (i + 1)) (m := 100) (v0 := v0) (by omega) (by show gc A B p v0 (i + 1) = _; rw [gs, if_pos ⟨c, hB0⟩]) (fun v hv hne => by show gc A B p v (i + 1) = _; rw [gs, if_neg (fun z => hne (nI_inj (by omega) (by omega) (hB0.symm.trans z.2)).symm)])
      obtain ⟨w2, q1, q2, q3⟩ := ih (i + 1) k (sA w 40 v0 (nI (gc A B p v0 i + 1))) (by omega) (by omega) hA hB (fun v hv => by
        rw [sA_same]
        by_cases e : v = v0
        · subst e; rw [upd_same, gs, if_pos ⟨c, hB0⟩]
        · rw [upd_ne _ _ _ _ e, gs, if_neg (fun z => e (nI_inj (by omega) (by omega) (hB0.symm.trans z.2)).symm)]
          exact h0 v hv)
      rw [st] at q1
      refine ⟨w2, ?_, q2, fun r hr => by rw [q3 r hr, sA_ne _ _ _ _ _ hr]⟩
      rw [if_neg c, show (8 : Int32) * nI i = nI (8 * i) from nI_mul 8 i, show nI (8 * i) + nI p = nI (8 * i + p) from nI_add _ _, ck_nI (show 8 * i + p < 2888 by omega) (by decide), tb, hB, hB0]
      simp only [lt]
      rw [ck_nI (show v0 < 100 by omega) (by decide), ck_nI (show v0 < 100 by omega) (by decide), tv, h0 v0 (by omega), nI_1, ck_nI (show v0 < 100 by omega) (by decide), ck_nI (show v0 < 100 by omega) (by decide), sA_same, upd_same, nI_1]
      by_cases c2 : gc A B p v0 i + 1 ≤ mx (fun v => gc A B p v i) 100
      · rw [if_pos ((nI_le_iff (by omega) (by omega)).mpr c2)]
        rw [if_pos c2] at q1
        exact q1
      · rw [if_neg (fun z => c2 ((nI_le_iff (by omega) (by omega)).mp z))]
        rw [if_neg c2] at q1
        exact q1
theorem alike_eq {n p : Nat} (hp : p < n) (hn : n ≤ 8) {om : OS} (hAB : ∀ k, k < 361 → ¬ om.2.2 36 k = 0 → ∀ p, p < n → ∃ v, v ≤ 99 ∧ om.2.2 37 (8 * k + p) = nI v) : ∃ om2, f_X5_mostAlike (nI p) om = some (nI (mx (fun v => gc (om.2.2 36) (om.2.2 37) p v 361) 100), om2) ∧ om2.1 = om.1 ∧ (∀ r, r ≠ 40 → om2.2.2 r = om.2.2 r) := by
  obtain ⟨w, z1, z2, z3, z4⟩ := alike_zero 100 0 1000 om (by omega) (by omega) (fun u hu => absurd hu (Nat.not_lt_zero u))
  obtain ⟨w2, a1, a2, a3⟩ := alike_loop (A := om.2.2 36) (B := om.2.2 37) hp hn (fun k hk hz => hAB k hk hz p hp) 361 0 1000 w (by omega) (by omega) (z3 36 (by decide)) (z3 37 (by decide)) (fun v hv => z4 v hv)
  have m0 : mx (fun v => gc (om.2.2 36) (om.2.2 37) p v 0) 100 = 0 := Nat.le_zero.mp (mx_le (fun v _ => Nat.le_refl _))
  rw [m0] at a1
  refine ⟨w2, ?_, a2.trans z2, fun r hr => (a3 r hr).trans (z3 r hr)⟩
  rw [f_X5_mostAlike, show lp_X5_mostAlike_2 1000 0 om = _ from z1, Option.bind_some, show lp_X5_mostAlike_25 (nI p) 1000 0 0 w = _ from a1]
  rfl
theorem size_loop {oo : OS} {p : Nat} {c : Nat → Nat} (hp : p < 8) (hc : ∀ v, v < 100 → c v ≤ 361) (hg : ∀ v, v < 100 → oo.2.2 11 (p * 100 + v) = nI (c v)) : ∀ (m v k : Nat), v + m = 100 → m < k → lp_X4_pileWithSmallestLargestGroup_38 (nI p) oo k (nI (mx c v)) (nI v) = some (nI (mx c 100), nI 100) := by
  intro m
  induction m with
  | zero =>
    intro v k hv hk
    obtain ⟨k, rfl⟩ : ∃ j, k = j + 1 := ⟨k - 1, by omega⟩
    have : v = 100 := by omega
    subst this
    rw [lp_X4_pileWithSmallestLargestGroup_38, if_pos (show (100 : Int32) ≤ nI 100 by decide)]
  | succ m ih =>
    intro v k hv hk
    obtain ⟨k, rfl⟩ : ∃ j, k = j + 1 := ⟨k - 1, by omega⟩
    have tb : (nI (p * 100 + v)).toNatClampNeg = p * 100 + v := nI_clamp (by omega)
    have ml : mx c v ≤ 361 := mx_le (fun u hu => hc u (by omega))
    have cl := hc v (by omega)
    have i1 := ih (v + 1) k (by omega) (by omega)
    have e0 : mx c (v + 1) = if mx c v < c v then c v else mx c v := rfl
    rw [lp_X4_pileWithSmallestLargestGroup_38, if_neg (show ¬ (100 : Int32) ≤ nI v from nI_ge (b := 100) (by omega) (by decide)), show nI p * (100 : Int32) = nI (p * 100) from nI_mul p 100, show nI (p * 100) + nI v = nI (p * 100 + v) from nI_add _ _, ck_nI (show p * 100 + v < 800 by omega) (by decide), tb, hg v (by omega), nI_1]
    simp only [lt]
    rw [e0] at i1
    by_cases c2 : mx c v < c v
    · rw [if_pos ((nI_lt_iff (by omega) (by omega)).mpr c2)]
      rw [if_pos c2] at i1
      exact i1
    · rw [if_neg (fun z => c2 ((nI_lt_iff (by omega) (by omega)).mp z))]
      rw [if_neg c2] at i1
      exact i1
theorem best_loop {on oo : OS} {n b : Nat} (hn : n ≤ 8) (hb : b < 512) (e4 : on.1 4 = nI n) (e5 : on.1 5 = nI b) {A B : Nat → Int32} (hAB : ∀ k, k < 361 → ¬ A k = 0 → ∀ p, p < n → ∃ v, v ≤ 99 ∧ B (8 * k + p) = nI v) (hg : ∀ p v, p < n → v < 100 → oo.2.2 11 (p * 100 + v) = nI (gc A B p v 361)) : ∀ (m p k : Nat) (v1 v2 : Int32) (om : OS), p + m = n → m < k → om.1 21 = nI n → om.1 22 = nI b → om.2.2 36 = A → om.2.2 37 = B → (v1 = -9 ∨ ∃ q, q < p ∧ v1 = nI q) → ∃ (r w : Int32) (om2 : OS), lp_X4_pileWithSmallestLargestGroup_7 oo on k v1 v2 (nI p) = some (r, w, nI n) ∧ lp_X5_ask_22 k v1 v2 (nI p) om = some (r, w, nI n, om2) ∧ Fr om om2 := by
  intro m
  induction m with
  | zero =>
    intro p k v1 v2 om hp hk h21 h22 hA hB hv
    obtain ⟨k, rfl⟩ : ∃ j, k = j + 1 := ⟨k - 1, by omega⟩
    have : p = n := by omega
    subst this
    exact ⟨v1, v2, om, by rw [lp_X4_pileWithSmallestLargestGroup_7, e4, if_pos (nI_le (Nat.le_refl _) (by omega))], by rw [lp_X5_ask_22, h21, if_pos (nI_le (Nat.le_refl _) (by omega))], Fr.rfl⟩
  | succ m ih =>
    intro p k v1 v2 om hp hk h21 h22 hA hB hv
    obtain ⟨k, rfl⟩ : ∃ j, k = j + 1 := ⟨k - 1, by omega⟩
    have hv' : v1 = -9 ∨ ∃ q, q < p + 1 ∧ v1 = nI q := hv.imp id (fun ⟨q, h1, h2⟩ => ⟨q, by omega, h2⟩)
    rw [lp_X4_pileWithSmallestLargestGroup_7, e4, if_neg (nI_ge (show p < n by omega) (by omega)), isIntact_eq hb (by omega) e5, Option.bind_some, lp_X5_ask_22, h21, if_neg (nI_ge (show p < n by omega) (by omega)), h22, nI_1]
    cases cb : b.testBit p
    · simp only [Bool.false_eq_true, if_false, if_true]
      rw [if_neg (fun q => by rw [(bit_get hb (by omega)).mp q] at cb; cases cb)]
      exact ih (p + 1) k v1 v2 om (by omega) (by omega) h21 h22 hA hB hv'
    · simp only [if_true, if_neg not_one]
      obtain ⟨om2, a1, a2, a3⟩ := alike_eq (om := om) (show p < n by omega) hn (by rw [hA, hB]; exact hAB)
      rw [hA, hB] at a1
      have sz := size_loop (c := fun v => gc A B p v 361) (show p < 8 by omega) (fun v _ => gc_le A B p v 361) (fun v hv => hg p v (by omega) hv) 100 0 1000 (by omega) (by omega)
      rw [if_pos ((bit_get hb (by omega)).mpr cb), show lp_X4_pileWithSmallestLargestGroup_38 (nI p) oo 1000 0 0 = _ from sz, a1, Option.bind_some, Option.bind_some]
      simp only
      have f2 : Fr om om2 := ⟨fun r hr => a3 r (by omega), fun i _ => by rw [a2]⟩
      have go : ∀ (v1 v2 : Int32), (v1 = -9 ∨ ∃ q, q < p + 1 ∧ v1 = nI q) → ∃ (r w : Int32) (om3 : OS), lp_X4_pileWithSmallestLargestGroup_7 oo on k v1 v2 (nI (p + 1)) = some (r, w, nI n) ∧ lp_X5_ask_22 k v1 v2 (nI (p + 1)) om2 = some (r, w, nI n, om3) ∧ Fr om om3 := fun v1 v2 h => by
        obtain ⟨r, w, om3, q1, q2, q3⟩ := ih (p + 1) k v1 v2 om2 (by omega) (by omega) (by rw [a2]; exact h21) (by rw [a2]; exact h22) ((a3 36 (by decide)).trans hA) ((a3 37 (by decide)).trans hB) h
        exact ⟨r, w, om3, q1, q2, f2.trans q3⟩
      by_cases c : v1 = -9
      · rw [if_pos c, if_pos c, Option.bind_some, if_pos rfl]
        exact go _ _ (Or.inr ⟨p, by omega, rfl⟩)
      · rw [if_neg c, if_neg c]
        rcases hv with hv | ⟨q, hq, e⟩
        · exact absurd hv c
        · by_cases c2 : v2 ≤ nI (mx (fun v => gc A B p v 361) 100)
          · rw [if_pos c2, if_pos c2, Option.bind_some, if_neg (fun z => by have := nI_inj (by omega) (by omega) (e.symm.trans z); omega)]
            exact go _ _ hv'
          · rw [if_neg c2, if_neg c2, Option.bind_some, if_pos rfl]
            exact go _ _ (Or.inr ⟨p, by omega, rfl⟩)
theorem p_ask {oo on oc : OS} {pa ig : PSt} {om : OS} (h : Rel oo on oc pa ig om) (od odw odp : OS) : ∃ (r : Int32) (oo2 od2 odw2 odp2 om2 : OS), f_X4_ask oo on od odw odp = some (r, oo2, od2, odw2, odp2) ∧ f_X5_ask om = some (r, om2) ∧ Rel oo2 on oc pa ig om2 := by
  obtain ⟨⟨n, k, b, hS⟩, -, -, ⟨hh, hh2⟩, hsee, -⟩ := id h
  have hn := hS.1
  obtain ⟨od1, odw1, om1, s1, s2, s3, s4, s5, s6, s7, s8⟩ := spots_start hS od odw
  have f2 : Fr om (sI (sI om1 38 0) 39 (-9)) := s8.trans ⟨fun _ _ => rfl, fun j hj => by rw [sI_ne _ _ _ _ (by omega), sI_ne _ _ _ _ (by omega)]⟩
  have e5 : (sI (sI om1 38 0) 39 (-9)).1 5 = om.1 5 := f2.2 5 (by omega)
  obtain ⟨oo2, o1, o2, o3, k1, k2, k3, k4, k5, k6, k7, k8, k9⟩ := ask_loop (hS.pb 0 0 0) hn hS.2.2.1 hS.2.2.2.1 s5 361 0 1000 (sR oo 11 (fun _ => 0)) (sI od1 8 (nI b)) odp (sI (sI om1 38 0) 39 (-9)) (by omega) (by omega) (hsee.fr f2) (by rw [e5]; exact hh) (by rw [e5]; exact hh2) s4 rfl s6 s7 (fun k hk => absurd hk (Nat.not_lt_zero k)) (fun p v _ _ => rfl)
  have fr3 : Fr om o3 := f2.trans k3
  have rel : ∀ om3, Fr om om3 → Rel oo2 on oc pa ig om3 := fun om3 f3 => by
    have h3 := h.pe f3.pe
    have r1 : oo2.1 = oo.1 := k6
    have r6 : oo2.2.2 6 = oo.2.2 6 := k7 6 (by decide)
    have r8 : oo2.2.2 8 = oo.2.2 8 := k7 8 (by decide)
    have r9 : oo2.2.2 9 = oo.2.2 9 := k7 9 (by decide)
    unfold Rel RUndo RKept RSight at *
    rw [r1, r6, r8, r9]
    exact h3
  have eR : f_X5_laysSpots om = some o3 := by
    rw [f_X5_laysSpots, s3, Option.bind_some]
    simp only [lt]
    rw [show lp_X5_laysSpots_17 1000 0 (sI (sI om1 38 0) 39 (-9)) = _ from k2]
    rfl
  have eC : f_X4_ask oo on od odw odp = if (o3.1 38) ≤ 1 then some ((-9), oo2, o1, odw1, o2) else Option.bind (f_X4_pileWithSmallestLargestGroup oo2 on) fun x8 => some (x8, oo2, o1, odw1, o2) := by
    rw [f_X4_ask, s1, Option.bind_some, s2, Option.bind_some]
    simp only [lt]
    rw [show lp_X4_ask_37 on odw1 1000 0 0 (sR oo 11 (fun _ => 0)) (sI od1 8 (nI b)) odp = _ from k1, Option.bind_some]
  rw [eC, f_X5_ask, eR, Option.bind_some]
  by_cases c : o3.1 38 ≤ 1
  · have c2 : ¬ (2 : Int32) ≤ o3.1 38 := fun q => by
      rw [Int32.le_iff_toInt_le] at q c
      have z1 : (1 : Int32).toInt = 1 := rfl
      have z2 : (2 : Int32).toInt = 2 := rfl
      omega
    rw [if_pos c, if_neg c2]
    exact ⟨-9, oo2, o1, odw1, o2, o3, rfl, rfl, rel o3 fr3⟩
  · have c2 : (2 : Int32) ≤ o3.1 38 := by
      rw [Int32.le_iff_toInt_le] at c ⊢
      have z1 : (1 : Int32).toInt = 1 := rfl
      have z2 : (2 : Int32).toInt = 2 := rfl
      omega
    rw [if_neg c, if_pos c2]
    obtain ⟨r, w, om2, q1, q2, q3⟩ := best_loop hn hS.lt512 hS.2.2.2.1 hS.2.2.2.2.2.1 k8 k9 n 0 1000 (-9) 0 o3 (by omega) (by omega) k4.2.1 k5 rfl rfl (Or.inl rfl)
    refine ⟨r, oo2, o1, odw1, o2, om2, ?_, ?_, rel om2 (fr3.trans q3)⟩
    · rw [f_X4_pileWithSmallestLargestGroup, show lp_X4_pileWithSmallestLargestGroup_7 oo2 on 1000 (-9) 0 0 = _ from q1]; rfl
    · rw [show lp_X5_ask_22 1000 (-9) 0 0 o3 = _ from q2]; rfl
