/-! ===== tells ===== -/
theorem bind_id {α : Type} (x : Option α) : (Option.bind x fun y => some y) = x := by cases x <;> rfl
/-- an item, in the reference -/
def bdy (m : OS) : Option OS := if (m.1 12) = 112 then Option.bind (f_X5_readsPile m) fun x43 => some x43 else if (m.1 12) = 99 then Option.bind (f_X5_readsColumn m) fun x42 => some x42 else if (m.1 12) = 119 then Option.bind (f_X5_readsWind m) fun x41 => some x41 else Option.bind (f_X5_due 0 m) fun x40 => some x40
theorem Out.map {om0 : OS} {f : Nat → Int32} {t : Nat} {oc0 : OS} {s0 : Nat} {A : Option (Int32 × OS × OS)} {B : Option OS} (h : Out om0 f t oc0 s0 A B) : Out om0 f t oc0 s0 (Option.bind A fun x => if x.1 = 0 then some (0, x.2.1, x.2.2) else some (1, x.2.1, x.2.2)) B := by
  rcases h with ⟨oc2, ot2, x, s, D, w, n, k, b, a1, a2⟩ | ⟨oc2, ot2, x, s, a0, a1, a2⟩
  · exact Or.inl ⟨oc2, ot2, x, s, D, w, n, k, b, by rw [a1, Option.bind_some, if_neg not_one], a2⟩
  · exact Or.inr ⟨oc2, ot2, x, s, a0, by rw [a1, Option.bind_some, if_pos rfl], a2⟩
theorem item_pair {om0 om oc0 oc ot : OS} {f : Nat → Int32} {t s : Nat} {D : Nat → Int32} {w : Int32} {n k b : Nat} (ht : t ≤ 160) (hX : RX om0 f t) (hT : CT oc0 f t) (hR : RK om0 om f t s D w) (hs : s < t) (hc : CK oc0 oc s) (hw : oc.1 6 = w) (hw2 : w = 0 ∨ w = 1) (hS : SRn ot D n k b) : Out om0 f t oc0 s (f_X2_readItem oc ot) (Option.bind (bdy om) fin) := by
  obtain ⟨hP, h14, h16, hD, hTk⟩ := id hR
  obtain ⟨p1, -⟩ := hTk.2.2.2.2.2 112 (Or.inl rfl)
  obtain ⟨k1, -⟩ := hTk.2.2.2.2.2 99 (Or.inr (Or.inl rfl))
  obtain ⟨w1, -⟩ := hTk.2.2.2.2.2 119 (Or.inr (Or.inr (Or.inl rfl)))
  have lh := letterHere_eq ht (Nat.le_of_lt hs) (hc.ct hT) hc.2.2
  rw [if_pos hs] at lh
  have du : f_X5_due 0 om = some (sI om 14 (nI s)) := by rw [due_0 h14, hTk.1]
  have ff : fin (sI om 14 (nI s)) = some (sI om 14 (nI s)) := fin_fl (hR.fail.n9 (by omega))
  have n9 : ¬ (sI om 14 (nI s)).1 14 = -9 := hR.fail.n9 (by omega)
  have t0 : (0 : Int32).toNatClampNeg = 0 := rfl
  have t41 : (41 : Int32).toNatClampNeg = 41 := rfl
  by_cases c1 : f s = 99
  · have b1 : bdy om = f_X5_readsColumn om := by
      rw [bdy, k1.mpr ⟨hs, c1⟩, if_neg (by decide), if_pos rfl, bind_id]
    rw [b1]
    by_cases q : k < 5
    · have eA : f_X2_readItem oc ot = Option.bind (f_X2_readColumn oc ot) fun x => if x.1 = 0 then some (0, x.2.1, x.2.2) else some (1, x.2.1, x.2.2) := by
        rw [f_X2_readItem, lh, Option.bind_some, if_pos c1, hS.2.2.2.2.2.2.1, if_neg (show ¬ (5 : Int32) ≤ nI k from nI_ge (b := 5) q (by decide))]
      rw [eA]
      exact (column_pair ht hX hT hR hs c1 hc hw hw2 hS q).map
    · have hk : k = 5 := by have := hS.2.1; omega
      refine Or.inr ⟨oc, ot, sI om 14 (nI s), s, Nat.le_of_lt hs, ?_, ?_, hc, hR.fail⟩
      · rw [f_X2_readItem, lh, Option.bind_some, if_pos c1, hS.2.2.2.2.2.2.1, hk, if_pos (by decide)]
      · rw [f_X5_readsColumn, t41, hD, hS.2.2.2.2.2.2.2.1, hk, if_pos (by decide), Option.bind_some, du, Option.bind_some, if_neg n9, Option.bind_some, ff]
  by_cases c2 : f s = 112
  · have b1 : bdy om = f_X5_readsPile om := by
      rw [bdy, p1.mpr ⟨hs, c2⟩, if_pos rfl, bind_id]
    rw [b1]
    by_cases q : n < 8
    · have eA : f_X2_readItem oc ot = Option.bind (f_X2_readPile oc ot) fun x => if x.1 = 0 then some (0, x.2.1, x.2.2) else some (1, x.2.1, x.2.2) := by
        rw [f_X2_readItem, lh, Option.bind_some, if_neg c1, if_pos c2, hS.2.2.2.1, if_neg (show ¬ (8 : Int32) ≤ nI n from nI_ge (b := 8) q (by decide))]
      rw [eA]
      exact (pile_pair ht hX hT hR hs c2 hc hw hw2 hS q).map
    · have hn : n = 8 := by have := hS.1; omega
      refine Or.inr ⟨oc, ot, sI om 14 (nI s), s, Nat.le_of_lt hs, ?_, ?_, hc, hR.fail⟩
      · rw [f_X2_readItem, lh, Option.bind_some, if_neg c1, if_pos c2, hS.2.2.2.1, hn, if_pos (by decide)]
      · rw [f_X5_readsPile, t0, hD, hS.2.2.2.2.1, hn, if_pos (by decide), Option.bind_some, du, Option.bind_some, if_neg n9, Option.bind_some, ff]
  by_cases c3 : f s = 119
  · have b1 : bdy om = f_X5_readsWind om := by
      rw [bdy, w1.mpr ⟨hs, c3⟩, if_neg (by decide), if_neg (by decide), if_pos rfl, bind_id]
    rw [b1]
    rcases hw2 with rfl | rfl
    · have eA : f_X2_readItem oc ot = Option.bind (f_X2_readWind oc ot) fun x => if x.1 = 0 then some (0, x.2.1, x.2.2) else some (1, x.2.1, x.2.2) := by
        rw [f_X2_readItem, lh, Option.bind_some, if_neg c1, if_neg c2, if_pos c3, if_pos hw]
      rw [eA]
      exact (wind_pair ht hX hT hR hs c3 hc hS).map
    · refine Or.inr ⟨oc, ot, sI om 14 (nI s), s, Nat.le_of_lt hs, ?_, ?_, hc, hR.fail⟩
      · rw [f_X2_readItem, lh, Option.bind_some, if_neg c1, if_neg c2, if_pos c3, hw, if_neg (by decide)]
      · rw [f_X5_readsWind, h16, if_neg (by decide), Option.bind_some, du, Option.bind_some, if_neg n9, Option.bind_some, ff]
  · refine Or.inr ⟨oc, ot, sI om 14 (nI s), s, Nat.le_of_lt hs, ?_, ?_, hc, hR.fail⟩
    · rw [f_X2_readItem, lh, Option.bind_some, if_neg c1, if_neg c2, if_neg c3]
    · rw [bdy, if_neg (fun q => c2 (p1.mp q).2), if_neg (fun q => c1 (k1.mp q).2), if_neg (fun q => c3 (w1.mp q).2), du, Option.bind_some, Option.bind_some, ff]
theorem fin_bind {α : Type} {B : Option OS} {x : OS} (K : OS → Option α) (h : Option.bind B fin = some x) : (Option.bind B fun z29 => Option.bind (if (z29.1 12) = 59 then some 1 else some 0 : Option Int32) fun z31 => Option.bind (f_X5_due z31 z29) K) = K x := by
  cases B with
  | none => cases h
  | some z =>
    rw [Option.bind_some] at h ⊢
    unfold fin at h
    by_cases c : z.1 12 = 59
    · rw [if_pos c, Option.bind_some] at h ⊢
      rw [h, Option.bind_some]
    · rw [if_neg c, Option.bind_some] at h ⊢
      rw [h, Option.bind_some]
/-- both go through the text -/
theorem tell_loop {om0 oc0 : OS} {f : Nat → Int32} {t : Nat} (ht : t ≤ 160) (hX : RX om0 f t) (hT : CT oc0 f t) : ∀ (m i j n1 n2 : Nat) (oc ot om : OS) (D : Nat → Int32) (w : Int32) (n k b : Nat), i ≤ t → t - i < m → m < n1 → m < n2 → 2 * j ≤ i → CK oc0 oc i → oc.1 6 = w → (w = 0 ∨ w = 1) → RK om0 om f t (skb f t 1000 i) D w → SRn ot D n k b →
    (∃ (q : Nat) (oc2 ot2 om2 : OS) (n k b : Nat), q ≤ 160 ∧ lp_X2_readInto_16 n1 (nI j) oc ot = some (.inl (nI q, oc2, ot2)) ∧ lp_X5_tells_43 n2 (nI j) om = some (nI q, om2) ∧ PE om0 om2 ∧ om2.1 14 = -9 ∧ SRn ot2 (om2.2.2 15) n k b) ∨
    (∃ (s : Nat) (q : Int32) (oc2 ot2 om2 : OS), s ≤ t ∧ lp_X2_readInto_16 n1 (nI j) oc ot = some (.inl (-10 - nI s, oc2, ot2)) ∧ lp_X5_tells_43 n2 (nI j) om = some (q, om2) ∧ CK oc0 oc2 s ∧ RF om0 om2 s) := by
  intro m
  induction m with
  | zero => intro i j n1 n2 oc ot om D w n k b h1 h2; omega
  | succ m ih =>
    intro i j n1 n2 oc ot om D w n k b h1 h2 hn1 hn2 hj hc hw hw2 hR hS
    obtain ⟨n1, rfl⟩ : ∃ q, n1 = q + 1 := ⟨n1 - 1, by omega⟩
    obtain ⟨n2, rfl⟩ : ∃ q, n2 = q + 1 := ⟨n2 - 1, by omega⟩
    have hsl := skb_le f t 1000 i h1
    have hsg := skb_ge f t 1000 i
    have hsk := skipBlanks_eq ht h1 (hc.ct hT) hc.2.2
    obtain ⟨s, es⟩ : ∃ s, s = skb f t 1000 i := ⟨_, rfl⟩
    rw [← es] at hsl hsg hsk hR
    obtain ⟨hP, h14, h16, hD, hTk⟩ := id hR
    obtain ⟨o9, h9⟩ : ∃ o9, o9 = sI oc 2 (nI s) := ⟨_, rfl⟩
    rw [← h9] at hsk
    have c9 : CK oc0 o9 s := by rw [h9]; exact ⟨hc.1, hc.2.1, rfl⟩
    have w9 : o9.1 6 = w := by rw [h9, sI_ne _ _ _ _ (by decide)]; exact hw
    rw [lp_X2_readInto_16, lp_X5_tells_43, if_neg (show ¬ (160 : Int32) ≤ nI j from nI_ge (a := j) (b := 160) (by omega) (by decide)), hsk, Option.bind_some, c9.2.2, (c9.ct hT).1, if_pos h14]
    by_cases c : s < t
    · have n1m : ¬ om.1 12 = -1 := fun q => by have := hTk.2.2.2.2.1.mp q; omega
      rw [if_pos (nI_lt c (by omega)), if_neg n1m]
      rcases item_pair ht hX hT hR c c9 w9 hw2 hS with ⟨oc2, ot2, x, s2, D2, w2, n', k', b', a1, a2, a3, a4, a5, a6, a7, a8, a9, a10⟩ | ⟨oc2, ot2, x, s2, a0, a1, a2, a3, a4⟩
      · obtain ⟨x35, y1, y2, y3⟩ := next_eq ht (show s2 + 1 ≤ t by omega) (hX.pe a8.1) a9
        have fb := fin_bind (fun x33 => if (x33.1 14) = (-9) then Option.bind (f_X5_next x33) fun x35 => lp_X5_tells_43 n2 (nI j + 1) x35 else lp_X5_tells_43 n2 (nI j + 1) x33) a2
        unfold bdy at fb
        rw [a1, Option.bind_some, if_neg not_one, fb, if_pos a8.2.1, y1, Option.bind_some, nI_1]
        exact ih (s2 + 1) (j + 1) n1 n2 oc2 ot2 x35 D2 w2 n' k' b' (by omega) (by omega) (by omega) (by omega) (by omega) a5 a6 a7 (a8.next y2 y3) a10
      · obtain ⟨n2, rfl⟩ : ∃ q, n2 = q + 1 := ⟨n2 - 1, by omega⟩
        have fb := fin_bind (fun x33 => if (x33.1 14) = (-9) then Option.bind (f_X5_next x33) fun x35 => lp_X5_tells_43 (n2 + 1) (nI j + 1) x35 else lp_X5_tells_43 (n2 + 1) (nI j + 1) x33) a2
        unfold bdy at fb
        have n9 := a4.n9 (show s2 ≤ 160 by omega)
        refine Or.inr ⟨s2, nI j + 1, oc2, ot2, x, a0, ?_, ?_, a3, a4⟩
        · rw [a1, Option.bind_some, if_pos rfl, a3.2.2]
        · rw [fb, if_neg n9, lp_X5_tells_43, if_neg n9]
    · have e : s = t := by omega
      rw [if_neg (nI_nlt (by omega) (by omega)), if_pos (hTk.2.2.2.2.1.mpr e)]
      refine Or.inl ⟨j, o9, ot, om, n, k, b, by omega, rfl, rfl, hP, h14, ?_⟩
      rw [hD]
      exact hS
theorem w_tells_2 {om : OS} : ∀ (m v n : Nat), v + m = 59 → m < n → lp_X5_tells_2 n (nI v) (sR om 15 (va_cpy (fun _ => 0) (om.2.2 15) 0 0 v)) = some (nI 59, sR om 15 (va_cpy (fun _ => 0) (om.2.2 15) 0 0 59)) := by
  intro m
  induction m with
  | zero =>
    intro v n hv hn
    obtain ⟨n, rfl⟩ : ∃ j, n = j + 1 := ⟨n - 1, by omega⟩
    have : v = 59 := by omega
    subst this
    rw [lp_X5_tells_2, if_pos (show (59 : Int32) ≤ nI 59 from nI_le (a := 59) (Nat.le_refl _) (by decide))]
  | succ m ih =>
    intro v n hv hn
    obtain ⟨n, rfl⟩ : ∃ j, n = j + 1 := ⟨n - 1, by omega⟩
    have c1 : ¬ (59 : Int32) ≤ nI v := nI_ge (b := 59) (by omega) (by decide)
    rw [lp_X5_tells_2, if_neg c1, ck_nI (by omega) (by decide), nI_clamp (by omega)]
    simp only [lt]
    have st := cpy_step (fun _ => (0 : Int32)) (om.2.2 15) 0 0 v
    simp only [Nat.zero_add] at st
    rw [sA_sR, st, nI_1]
    exact ih (v + 1) n (by omega) (by omega)
theorem w_tells_169 {om : OS} : ∀ (m v n : Nat), v + m = 59 → m < n → lp_X5_tells_169 n (nI v) (sR om 0 (va_cpy (om.2.2 15) (om.2.2 0) 0 0 v)) = some (nI 59, sR om 0 (va_cpy (om.2.2 15) (om.2.2 0) 0 0 59)) := by
  intro m
  induction m with
  | zero =>
    intro v n hv hn
    obtain ⟨n, rfl⟩ : ∃ j, n = j + 1 := ⟨n - 1, by omega⟩
    have : v = 59 := by omega
    subst this
    rw [lp_X5_tells_169, if_pos (show (59 : Int32) ≤ nI 59 from nI_le (a := 59) (Nat.le_refl _) (by decide))]
  | succ m ih =>
    intro v n hv hn
    obtain ⟨n, rfl⟩ : ∃ j, n = j + 1 := ⟨n - 1, by omega⟩
    have c1 : ¬ (59 : Int32) ≤ nI v := nI_ge (b := 59) (by omega) (by decide)
    rw [lp_X5_tells_169, if_neg c1, ck_nI (by omega) (by decide), ck_nI (by omega) (by decide), nI_clamp (by omega)]
    simp only [lt]
    have st := cpy_step (om.2.2 15) (om.2.2 0) 0 0 v
    simp only [Nat.zero_add] at st
    rw [sA_sR, sR_ne _ _ _ _ (by decide), st, nI_1]
    exact ih (v + 1) n (by omega) (by omega)
theorem kept_loop {n : Nat} (h : 3 ≤ n) (o : OS) : lp_X4_tells_55 n 0 o = some (2, sA (sA o 6 0 0) 6 1 0) := by
  obtain ⟨n, rfl⟩ : ∃ j, n = j + 3 := ⟨n - 3, by omega⟩
  have nb : vp_nar .boolean 0 = 0 := rfl
  have t0 : (0 : Int32).toNatClampNeg = 0 := rfl
  have t1 : (1 : Int32).toNatClampNeg = 1 := rfl
  have k0 : ∀ k : Option (Int32 × OS), ck 0 2 k = k := fun k => ck_ok (by unfold vp_in; decide)
  have k1 : ∀ k : Option (Int32 × OS), ck 1 2 k = k := fun k => ck_ok (by unfold vp_in; decide)
  have a0 : (0 : Int32) + 1 = 1 := rfl
  have a1 : (1 : Int32) + 1 = 2 := rfl
  rw [lp_X4_tells_55, if_neg (by decide), k0]
  simp only [lt]
  rw [a0, t0, nb, lp_X4_tells_55, if_neg (by decide), k1]
  simp only [lt]
  rw [a1, t1, nb, lp_X4_tells_55, if_pos (by decide)]
/-- the reference's start -/
theorem tells_r (om : OS) : ∃ D : Nat → Int32, (∀ j, j < 59 → D j = 0) ∧ f_X5_tells om = Option.bind (f_X5_next (sI (sI (sI (sR om 15 D) 10 0) 14 (-9)) 16 0)) fun x7 => Option.bind (lp_X5_tells_43 1000 0 x7) fun z8 => if (z8.2.1 14) = (-9) then Option.bind (lp_X5_tells_169 1000 0 z8.2) fun z12 => some (z8.1, sI (sA (sA (sI (sI (sI z12.2 2 0) 5 10) 7 0) 4 0 0) 4 1 0) 9 0) else some (((-10) - (z8.2.1 14)), z8.2) := by
  have l2 := w_tells_2 (om := om) 59 0 1000 (by omega) (by omega)
  rw [cpy_0, sR_id, nI_0] at l2
  refine ⟨va_cpy (fun _ => 0) (om.2.2 15) 0 0 59, fun j hj => ?_, ?_⟩
  · have := cpy_in (f := fun _ => (0 : Int32)) (g := om.2.2 15) (sp := 0) (dp := 0) (n := 59) (k := j) hj
    simp only [Nat.zero_add] at this
    exact this
  · have nb : vp_nar .boolean 0 = 0 := rfl
    have t0 : (0 : Int32).toNatClampNeg = 0 := rfl
    have t1 : (1 : Int32).toNatClampNeg = 1 := rfl
    unfold f_X5_tells
    rw [l2, Option.bind_some]
    simp only [lt, nb, t0, t1]
/-- and the class's -/
theorem tells_c (oc ot : OS) : f_X2_readInto oc ot = Option.bind (lp_X2_readInto_16 1000 0 (sI (sI oc 2 0) 6 0) (sI (sI (sI (sI (sI ot 4 0) 5 0) 9 0) 10 0) 11 0)) (Sum.elim (fun r => some r) (fun z7 => some (((-10) - (z7.2.1.1 2)), z7.2.1, z7.2.2))) := by
  unfold f_X2_readInto f_X3_empty
  simp only [lt, Option.bind_some]
theorem tells_c1 {oo on oc ot oc2 ot2 x : OS} {q : Nat} (hq : q ≤ 160) (h : f_X2_readInto oc ot = some (nI q, oc2, ot2)) (hx : f_X3_copy ot2 on = some x) : f_X4_tells oo on ot oc = some (nI q, sA (sA (sI (sI (sI oo 4 0) 7 10) 10 0) 6 0 0) 6 1 0, x, ot2, sI oc2 1 0) := by
  unfold f_X4_tells
  rw [h, Option.bind_some, if_pos (nI_pos' (by omega)), hx, Option.bind_some]
  simp only [lt]
  rw [kept_loop (by omega), Option.bind_some]
theorem tells_c2 {oo on oc ot oc2 ot2 : OS} {r : Int32} (hr : ¬ 0 ≤ r) (h : f_X2_readInto oc ot = some (r, oc2, ot2)) : f_X4_tells oo on ot oc = some (r, oo, on, ot2, oc2) := by
  unfold f_X4_tells
  rw [h, Option.bind_some, if_neg hr]
theorem tells_E {D : Nat → Int32} (D0 : ∀ j, j < 59 → D j = 0) (ot : OS) : SRn (sI (sI (sI (sI (sI ot 4 0) 5 0) 9 0) 10 0) 11 0) D 0 0 0 := by
  refine ⟨by omega, by omega, by decide, rfl, D0 0 (by omega), rfl, rfl, D0 41 (by omega), ?_, ?_, ?_, ?_, fun p hp => absurd hp (Nat.not_lt_zero p), fun p hp => absurd hp (Nat.not_lt_zero p)⟩
  · rw [D0 57 (by omega)]; rfl
  · rw [D0 58 (by omega)]; rfl
  · rw [D0 57 (by omega)]; unfold IR; decide
  · rw [D0 58 (by omega)]; unfold IR; decide
theorem neg_pos : ∀ s, s < 161 → ¬ (0 : Int32) ≤ -10 - nI s := by decide +kernel
theorem tells_new {oo oc2 : OS} {pa ig : PSt} {x om2 : OS} (T : Nat → Int32) (h : SR x T) : Rel (sA (sA (sI (sI (sI oo 4 0) 7 10) 10 0) 6 0 0) 6 1 0) x (sI oc2 1 0) pa ig (sI (sA (sA (sI (sI (sI (sR om2 0 T) 2 0) 5 10) 7 0) 4 0 0) 4 1 0) 9 0) := by
  refine ⟨h, ⟨0, by omega, rfl, rfl, fun i h => absurd h (Nat.not_lt_zero i)⟩, fun i hi => ?_, ⟨rfl, show IR 1 99 10 by unfold IR; decide⟩, ⟨0, by omega, rfl, rfl, fun i h => absurd h (Nat.not_lt_zero i)⟩, ⟨0, by omega, rfl, rfl, fun i h => absurd h (Nat.not_lt_zero i)⟩⟩
  obtain rfl | rfl : i = 0 ∨ i = 1 := by omega
  · exact ⟨rfl, Or.inl rfl, fun q => absurd (show (0 : Int32) = 1 from q) (by decide)⟩
  · exact ⟨rfl, Or.inl rfl, fun q => absurd (show (0 : Int32) = 1 from q) (by decide)⟩
theorem p_tells {oo on oc : OS} {pa ig : PSt} {om : OS} (h : Rel oo on oc pa ig om) (ot : OS) : ∃ (r : Int32) (oo2 on2 ot2 oc2 om2 : OS), f_X4_tells oo on ot oc = some (r, oo2, on2, ot2, oc2) ∧ f_X5_tells om = some (r, om2) ∧ Rel oo2 on2 oc2 pa ig om2 := by
  obtain ⟨-, -, -, -, -, t, ht, e1, e2, hx⟩ := id h
  have hX : RX om (om.2.2 8) t := ⟨e2, fun _ _ => rfl⟩
  have hT : CT oc (om.2.2 8) t := ⟨e1, fun j hj => (hx j hj).1⟩
  obtain ⟨f, hf⟩ : ∃ f, f = om.2.2 8 := ⟨_, rfl⟩
  rw [← hf] at hX hT
  obtain ⟨D, D0, eR⟩ := tells_r om
  have P6 : PE om (sI (sI (sI (sR om 15 D) 10 0) 14 (-9)) 16 0) := ⟨rfl, rfl, rfl, rfl, rfl, rfl, rfl, rfl, rfl, rfl⟩
  obtain ⟨x7, n1, n2, n3⟩ := next_eq (i := 0) (om := sI (sI (sI (sR om 15 D) 10 0) 14 (-9)) 16 0) ht (Nat.zero_le _) (hX.pe P6) rfl
  have R7 : RK om x7 f t (skb f t 1000 0) D 0 := by
    refine ⟨P6.trans n2.pe, ?_, ?_, ?_, n3⟩
    · rw [n2.2 14 (by omega) (by omega) (by omega) (by omega)]; rfl
    · rw [n2.2 16 (by omega) (by omega) (by omega) (by omega)]; rfl
    · rw [n2.1]; exact sR_same om 15 D
  rw [n1, Option.bind_some] at eR
  have eC := tells_c oc ot
  have SE := tells_E D0 ot
  have c3 : CK oc (sI (sI oc 2 0) 6 0) 0 := ⟨rfl, rfl, rfl⟩
  have LP := tell_loop ht hX hT 161 0 0 1000 1000 (sI (sI oc 2 0) 6 0) _ x7 D 0 0 0 0 (Nat.zero_le _) (by omega) (by omega) (by omega) (by omega) c3 rfl (Or.inl rfl) R7 SE
  rw [nI_0] at LP
  rcases LP with ⟨q, oc2, ot2, om2, n, k, b, hq, a1, a2, a3, a4, a5⟩ | ⟨s, q, oc2, ot2, om2, hs, a1, a2, a3, a4⟩
  · obtain ⟨x, hcx, hsx⟩ := copy_ok ot2 on
    have l3 := w_tells_169 (om := om2) 59 0 1000 (by omega) (by omega)
    rw [cpy_0, sR_id, nI_0] at l3
    have hSx := (hsx _ _ _ _ a5).cg (T := va_cpy (om2.2.2 15) (om2.2.2 0) 0 0 59) (fun j hj => by
      have := cpy_in (f := om2.2.2 15) (g := om2.2.2 0) (sp := 0) (dp := 0) (n := 59) (k := j) hj
      simp only [Nat.zero_add] at this
      exact this)
    rw [a1, Option.bind_some, Sum.elim_inl] at eC
    rw [a2, Option.bind_some, if_pos a4, l3, Option.bind_some] at eR
    exact ⟨nI q, _, x, ot2, _, _, tells_c1 hq eC hcx, eR, tells_new _ ⟨n, k, b, hSx⟩⟩
  · rw [a1, Option.bind_some, Sum.elim_inl] at eC
    rw [a2, Option.bind_some, if_neg (a4.n9 (by omega)), a4.2] at eR
    refine ⟨-10 - nI s, oo, on, ot2, oc2, om2, tells_c2 (neg_pos s (by omega)) eC, eR, ?_⟩
    have h2 := h.pe a4.1
    unfold Rel RText at *
    rw [a3.1, a3.2.1]
    exact h2
