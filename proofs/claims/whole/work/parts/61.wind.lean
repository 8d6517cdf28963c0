/-! ===== the wind and a column, read by both ===== -/
theorem SRn.wind {o : OS} {S : Nat → Int32} {n k b : Nat} (h : SRn o S n k b) {x y : Int32} (hx : IR (-99) 99 x) (hy : IR (-99) 99 y) : SRn (sI (sI o 10 x) 11 y) (upd (upd S 57 x) 58 y) n k b := by
  obtain ⟨h1, h2, h3, h4, h5, h6, h7, h8, h9, h10, h11, h12, h13, h14⟩ := h
  have u : ∀ j, j ≠ 57 → j ≠ 58 → upd (upd S 57 x) 58 y j = S j := fun j a b => by rw [upd_ne _ _ _ _ b, upd_ne _ _ _ _ a]
  have u57 : upd (upd S 57 x) 58 y 57 = x := by rw [upd_ne _ _ _ _ (by decide), upd_same]
  have u58 : upd (upd S 57 x) 58 y 58 = y := upd_same _ _ _
  refine ⟨h1, h2, h3, h4, by rw [u 0 (by omega) (by omega)]; exact h5, h6, h7, by rw [u 41 (by omega) (by omega)]; exact h8, by rw [u57]; rfl, by rw [u58]; rfl, by rw [u57]; exact hx, by rw [u58]; exact hy, fun p hp => ?_, fun c hc => ?_⟩
  · rw [u (1 + 5 * p) (by omega) (by omega), u (2 + 5 * p) (by omega) (by omega), u (3 + 5 * p) (by omega) (by omega), u (4 + 5 * p) (by omega) (by omega), u (5 + 5 * p) (by omega) (by omega)]
    exact h13 p hp
  · rw [u (42 + 3 * c) (by omega) (by omega), u (43 + 3 * c) (by omega) (by omega), u (44 + 3 * c) (by omega) (by omega)]
    exact h14 c hc
theorem SRn.addCol {o : OS} {S : Nat → Int32} {n k b : Nat} (h : SRn o S n k b) (hk : k < 5) {x y w : Int32} (hx : IR (-9) 9 x) (hy : IR (-9) 9 y) (hw : IR 0 99 w) {o2 : OS} {S2 : Nat → Int32} (e9 : o2.1 9 = nI (k + 1)) (ei : ∀ j, j ≠ 9 → o2.1 j = o.1 j) (ea : ∀ r, r < 4 → o2.2.2 r = o.2.2 r) (e6 : o2.2.2 6 = upd (o.2.2 6) k x) (e7 : o2.2.2 7 = upd (o.2.2 7) k y) (e8 : o2.2.2 8 = upd (o.2.2 8) k w) (s41 : S2 41 = nI (k + 1)) (eS : ∀ j, j ≠ 41 → j ≠ 42 + 3 * k → j ≠ 43 + 3 * k → j ≠ 44 + 3 * k → S2 j = S j) (s6 : S2 (42 + 3 * k) = x) (s7 : S2 (43 + 3 * k) = y) (s8 : S2 (44 + 3 * k) = w) : SRn o2 S2 n (k + 1) b := by
  obtain ⟨h1, h2, h3, h4, h5, h6, h7, h8, h9, h10, h11, h12, h13, h14⟩ := h
  have g : ∀ j, j < 41 ∨ 56 < j → S2 j = S j := fun j hj => eS j (by omega) (by omega) (by omega) (by omega)
  refine ⟨h1, by omega, h3, by rw [ei 4 (by omega)]; exact h4, by rw [g 0 (by omega)]; exact h5, by rw [ei 5 (by omega)]; exact h6, e9, s41, by rw [ei 10 (by omega), g 57 (by omega)]; exact h9, by rw [ei 11 (by omega), g 58 (by omega)]; exact h10, by rw [g 57 (by omega)]; exact h11, by rw [g 58 (by omega)]; exact h12, fun p hp => ?_, fun d hd => ?_⟩
  · rw [ea 0 (by omega), ea 1 (by omega), ea 2 (by omega), ea 3 (by omega), g (1 + 5 * p) (by omega), g (2 + 5 * p) (by omega), g (3 + 5 * p) (by omega), g (4 + 5 * p) (by omega), g (5 + 5 * p) (by omega)]
    exact h13 p hp
  · rw [e6, e7, e8]
    by_cases e : d = k
    · subst e
      rw [upd_same, upd_same, upd_same, s6, s7, s8]
      exact ⟨rfl, rfl, rfl, hx, hy, hw⟩
    · rw [upd_ne _ _ _ _ e, upd_ne _ _ _ _ e, upd_ne _ _ _ _ e, eS (42 + 3 * d) (by omega) (by omega) (by omega) (by omega), eS (43 + 3 * d) (by omega) (by omega) (by omega) (by omega), eS (44 + 3 * d) (by omega) (by omega) (by omega) (by omega)]
      exact h14 d (by omega)
theorem wind_pair {om0 om oc0 oc ot : OS} {f : Nat → Int32} {t s : Nat} {D : Nat → Int32} {n k b : Nat} (ht : t ≤ 160) (hX : RX om0 f t) (hT : CT oc0 f t) (hR : RK om0 om f t s D 0) (hs : s < t) (hfs : f s = 119) (hc : CK oc0 oc s) (hS : SRn ot D n k b) : Out om0 f t oc0 s (f_X2_readWind oc ot) (Option.bind (f_X5_readsWind om) fin) := by
  obtain ⟨hP, h14, h16, hD, hTk⟩ := id hR
  obtain ⟨j1, j2⟩ := hTk.2.2.2.2.2 119 (Or.inr (Or.inr (Or.inl rfl)))
  have e10 : om.1 10 = nI (s + 1) := j2 (j1.mpr ⟨hs, hfs⟩)
  obtain ⟨x5, n5, nf5, tk5⟩ := next_eq ht (show s + 1 ≤ t by omega) (hX.pe hP) e10
  have R5 := hR.next nf5 tk5
  have R6 : RK om0 (sI x5 16 1) f t (skb f t 1000 (s + 1)) D 1 := ⟨R5.1.trans (PE.i16 _ _), R5.2.1, rfl, R5.2.2.2.1, R5.2.2.2.2.ints rfl rfl rfl rfl⟩
  obtain ⟨o1, h1⟩ : ∃ o1, o1 = sI oc 2 (nI (s + 1)) := ⟨_, rfl⟩
  have c1 : CK oc0 o1 (s + 1) := by rw [h1]; exact ⟨hc.1, hc.2.1, rfl⟩
  have eR : f_X5_readsWind om = Option.bind (f_X5_reads 57 0 198 99 (sI x5 16 1)) fun x7 => Option.bind (f_X5_reads 58 0 198 99 x7) fun x8 => some x8 := by
    rw [f_X5_readsWind, if_pos h16, Option.bind_some, due_1, Option.bind_some, if_pos h14, n5, Option.bind_some]
    rfl
  have eC : f_X2_readWind oc ot = Option.bind (f_X2_readNumber 0 198 o1) fun x2 => if x2.1 = (-1) then some (0, x2.2, ot) else Option.bind (f_X2_readNumber 0 198 x2.2) fun x4 => if x4.1 = (-1) then some (0, x4.2, ot) else Option.bind (f_X2_readSemicolon x4.2) fun x6 => if x6.1 = 0 then some (0, x6.2, ot) else some (1, sI x6.2 6 1, sI (sI ot 10 (x2.1 - 99)) 11 (x4.1 - 99)) := by
    rw [f_X2_readWind]
    simp only [lt]
    rw [hc.2.2, nI_1, ← h1]
  have sk1 := skb_le f t 1000 (s + 1) (by omega)
  obtain ⟨o2, q3, q4, A⟩ := nump ht (show s + 1 ≤ t by omega) hX hT R6 c1 0 198 57 (a := 0) (b := 198) 99 rfl rfl (by omega) (by omega) (by omega)
  rcases A with ⟨v1, e1, x7, l1, u1, g1, ge1, rn1, ck1, rd1, R7, -, -⟩ | ⟨rn1, ck1, rd1, -⟩
  · have sk2 := skb_le f t 1000 e1 ge1
    obtain ⟨o3, q5, q6, A⟩ := nump ht ge1 hX hT R7 ck1 0 198 58 (a := 0) (b := 198) 99 rfl rfl (by omega) (by omega) (by omega)
    rcases A with ⟨v2, e2, x8, l2, u2, g2, ge2, rn2, ck2, rd2, R8, -, -⟩ | ⟨rn2, ck2, rd2, -⟩
    · have sk3 := skb_le f t 1000 e2 ge2
      have skg := skb_ge f t 1000 e2
      have eR2 : f_X5_readsWind om = some x8 := by
        rw [eR, show f_X5_reads 57 0 198 99 (sI x5 16 1) = _ from rd1, Option.bind_some, show f_X5_reads 58 0 198 99 x7 = _ from rd2, Option.bind_some]
      obtain ⟨o4, q7, A⟩ := semi_pair ht ge2 hT R8 ck2
      rcases A with ⟨b1, b2, b3, b4, b5⟩ | ⟨b2, b3, x9, b4, b5⟩
      · refine Or.inl ⟨sI o4 6 1, sI (sI ot 10 (nI v1 - 99)) 11 (nI v2 - 99), x8, skb f t 1000 e2, _, 1, n, k, b, ?_, ?_, by omega, b1, b3, rfl, Or.inr rfl, R8, b5, hS.wind (ir198 v1 (by omega)) (ir198 v2 (by omega))⟩
        · rw [eC, rn1, Option.bind_some, if_neg (nI_m1 (by omega)), rn2, Option.bind_some, if_neg (nI_m1 (by omega)), b2, Option.bind_some, if_neg not_one]
        · rw [eR2, Option.bind_some, b4]
      · refine Or.inr ⟨o4, ot, x9, _, sk3, ?_, ?_, b3, b5⟩
        · rw [eC, rn1, Option.bind_some, if_neg (nI_m1 (by omega)), rn2, Option.bind_some, if_neg (nI_m1 (by omega)), b2, Option.bind_some, if_pos rfl]
        · rw [eR2, Option.bind_some, b4]
    · refine Or.inr ⟨o3, ot, _, _, sk2, ?_, ?_, ck2, R7.fail⟩
      · rw [eC, rn1, Option.bind_some, if_neg (nI_m1 (by omega)), rn2, Option.bind_some, if_pos rfl]
      · rw [eR, show f_X5_reads 57 0 198 99 (sI x5 16 1) = _ from rd1, Option.bind_some, show f_X5_reads 58 0 198 99 x7 = _ from rd2, Option.bind_some, Option.bind_some, fin_fl (R7.fail.n9 (by omega))]
  · refine Or.inr ⟨o2, ot, _, _, sk1, ?_, ?_, ck1, R6.fail⟩
    · rw [eC, rn1, Option.bind_some, if_pos rfl]
    · rw [eR, show f_X5_reads 57 0 198 99 (sI x5 16 1) = _ from rd1, Option.bind_some, reads_fl (R6.fail.n9 (by omega)), Option.bind_some, Option.bind_some, fin_fl (R6.fail.n9 (by omega))]
theorem addColumn_eq {ot : OS} {S : Nat → Int32} {n k b : Nat} (hS : SRn ot S n k b) (hk : k < 5) (x y w : Int32) : f_X3_addColumn x y w ot = some (sI (sA (sA (sA ot 6 k x) 7 k y) 8 k w) 9 (nI (k + 1))) := by
  have e9 := hS.2.2.2.2.2.2.1
  have tk : (nI k).toNatClampNeg = k := nI_clamp (by omega)
  simp only [f_X3_addColumn, sA_i, e9, if_neg (nI_pos (show k < 2 ^ 31 by omega)), if_pos (show nI k < 5 from nI_lt (b := 5) hk (by decide)), ck_nI hk (by decide), tk, lt, nI_1]
theorem column_pair {om0 om oc0 oc ot : OS} {f : Nat → Int32} {t s : Nat} {D : Nat → Int32} {w : Int32} {n k b : Nat} (ht : t ≤ 160) (hX : RX om0 f t) (hT : CT oc0 f t) (hR : RK om0 om f t s D w) (hs : s < t) (hfs : f s = 99) (hc : CK oc0 oc s) (hw : oc.1 6 = w) (hw2 : w = 0 ∨ w = 1) (hS : SRn ot D n k b) (hk : k < 5) : Out om0 f t oc0 s (f_X2_readColumn oc ot) (Option.bind (f_X5_readsColumn om) fin) := by
  obtain ⟨hP, h14, h16, hD, hTk⟩ := id hR
  obtain ⟨j1, j2⟩ := hTk.2.2.2.2.2 99 (Or.inr (Or.inl rfl))
  have e10 : om.1 10 = nI (s + 1) := j2 (j1.mpr ⟨hs, hfs⟩)
  obtain ⟨x6, n6, nf6, tk6⟩ := next_eq ht (show s + 1 ≤ t by omega) (hX.pe hP) e10
  have R6 := hR.next nf6 tk6
  have t41 : (41 : Int32).toNatClampNeg = 41 := rfl
  have hD41 : D 41 = nI k := hS.2.2.2.2.2.2.2.1
  obtain ⟨o1, h1⟩ : ∃ o1, o1 = sI oc 2 (nI (s + 1)) := ⟨_, rfl⟩
  have c1 : CK oc0 o1 (s + 1) := by rw [h1]; exact ⟨hc.1, hc.2.1, rfl⟩
  have w1 : o1.1 6 = w := by rw [h1, sI_ne _ _ _ _ (by decide)]; exact hw
  have y0 : (42 : Int32) + 3 * nI k + 0 = nI (42 + 3 * k) := by
    rw [show (42 : Int32) = nI 42 from rfl, show (3 : Int32) = nI 3 from rfl, nI_mul, nI_add, Int32.add_zero]
  have y1 : (42 : Int32) + 3 * nI k + 1 = nI (43 + 3 * k) := by
    rw [show (42 : Int32) = nI 42 from rfl, show (3 : Int32) = nI 3 from rfl, nI_mul, nI_add, nI_1, show 42 + 3 * k + 1 = 43 + 3 * k by omega]
  have y2 : (42 : Int32) + 3 * nI k + 2 = nI (44 + 3 * k) := by
    rw [show (42 : Int32) = nI 42 from rfl, show (3 : Int32) = nI 3 from rfl, show (2 : Int32) = nI 2 from rfl, nI_mul, nI_add, nI_add, show 42 + 3 * k + 2 = 44 + 3 * k by omega]
  have eR : f_X5_readsColumn om = Option.bind (f_X5_reads (nI (42 + 3 * k)) 0 18 9 x6) fun x9 => Option.bind (f_X5_reads (nI (43 + 3 * k)) 0 18 9 x9) fun x10 => Option.bind (f_X5_reads (nI (44 + 3 * k)) 0 99 0 x10) fun x11 => some (sA x11 15 41 (x11.2.2 15 41 + 1)) := by
    rw [f_X5_readsColumn, t41, hD, hD41, if_neg (show ¬ (5 : Int32) ≤ nI k from nI_ge (b := 5) hk (by decide)), Option.bind_some, due_1, Option.bind_some, if_pos h14, n6, Option.bind_some]
    simp only [lt]
    rw [R6.2.2.2.1, hD41, y0, y1, y2]
  have eC : f_X2_readColumn oc ot = Option.bind (f_X2_readPlace o1) fun x2 => if x2.1 = 0 then some (0, x2.2, ot) else Option.bind (f_X2_readNumber 0 99 x2.2) fun x4 => if x4.1 = (-1) then some (0, x4.2, ot) else Option.bind (f_X2_readSemicolon x4.2) fun x6 => if x6.1 = 0 then some (0, x6.2, ot) else Option.bind (f_X3_addColumn (x6.2.1 4) (x6.2.1 5) x4.1 ot) fun x8 => some (1, x6.2, x8) := by
    rw [f_X2_readColumn]
    simp only [lt]
    rw [hc.2.2, nI_1, ← h1]
  have pE : ∀ {x : OS} {z : Nat}, RF om0 x z → RF om0 (sA x 15 41 (x.2.2 15 41 + 1)) z := fun h => ⟨h.1.trans (PE.a15 _ _ _), h.2⟩
  have sk1 := skb_le f t 1000 (s + 1) (by omega)
  obtain ⟨o2, q3, q4, A⟩ := nump ht (show s + 1 ≤ t by omega) hX hT R6 c1 0 18 (42 + 3 * k) (a := 0) (b := 18) 9 rfl rfl (by omega) (by omega) (by omega)
  rcases A with ⟨v1, e1, x9, l1, u1, g1, ge1, rn1, ck1, rd1, R9, -, -⟩ | ⟨rn1, ck1, rd1, -⟩
  · have sk2 := skb_le f t 1000 e1 ge1
    obtain ⟨o3, q5, q6, A⟩ := nump ht ge1 hX hT R9 ck1 0 18 (43 + 3 * k) (a := 0) (b := 18) 9 rfl rfl (by omega) (by omega) (by omega)
    rcases A with ⟨v2, e2, x10, l2, u2, g2, ge2, rn2, ck2, rd2, R10, -, -⟩ | ⟨rn2, ck2, rd2, -⟩
    · have sk3 := skb_le f t 1000 e2 ge2
      have pl := place_3 u1 u2 rn1 rn2
      obtain ⟨o4, h4⟩ : ∃ o4, o4 = sI (sI o3 4 (nI v1 - 9)) 5 (nI v2 - 9) := ⟨_, rfl⟩
      rw [← h4] at pl
      have ck4 : CK oc0 o4 e2 := by rw [h4]; exact ck2
      obtain ⟨o5, q7, q8, A⟩ := nump ht ge2 hX hT R10 ck4 0 99 (44 + 3 * k) (a := 0) (b := 99) 0 rfl rfl (by omega) (by omega) (by omega)
      rcases A with ⟨v3, e3, x11, l3, u3, g3, ge3, rn3, ck3, rd3, R11, -, -⟩ | ⟨rn3, ck3, rd3, -⟩
      · have sk4 := skb_le f t 1000 e3 ge3
        have skg := skb_ge f t 1000 e3
        have R12 := R11.put 41 (x11.2.2 15 41 + 1)
        have eR2 : f_X5_readsColumn om = some (sA x11 15 41 (x11.2.2 15 41 + 1)) := by
          rw [eR, rd1, Option.bind_some, rd2, Option.bind_some, rd3, Option.bind_some]
        obtain ⟨o6, q9, A⟩ := semi_pair ht ge3 hT R12 ck3
        have p4 : o6.1 4 = nI v1 - 9 := by rw [q9 4 (by omega), q8 4 (by omega), h4]; rfl
        have p5 : o6.1 5 = nI v2 - 9 := by rw [q9 5 (by omega), q8 5 (by omega), h4]; rfl
        have p6 : o6.1 6 = w := by rw [q9 6 (by omega), q8 6 (by omega), h4, sI_ne _ _ _ _ (by decide), sI_ne _ _ _ _ (by decide), q6 6 (by omega), q4 6 (by omega), w1]
        rcases A with ⟨b1, b2, b3, b4, b5⟩ | ⟨b2, b3, x12, b4, b5⟩
        · have z0 : nI v3 - 0 = nI v3 := Int32.sub_zero _
          have m41 : x11.2.2 15 41 = nI k := by
            rw [R11.2.2.2.1, upd_ne _ _ _ _ (by omega), upd_ne _ _ _ _ (by omega), upd_ne _ _ _ _ (by omega), hD41]
          refine Or.inl ⟨o6, _, _, skb f t 1000 e3, _, w, n, k + 1, b, ?_, ?_, by omega, b1, b3, p6, hw2, R12, b5, hS.addCol hk (x := nI v1 - 9) (y := nI v2 - 9) (w := nI v3) (ir18 v1 (by omega)) (ir18 v2 (by omega)) ⟨by rw [nI_toInt (by omega)]; omega, by rw [nI_toInt (by omega)]; omega⟩ (o2 := sI (sA (sA (sA ot 6 k (nI v1 - 9)) 7 k (nI v2 - 9)) 8 k (nI v3)) 9 (nI (k + 1))) rfl (fun j hj => by rw [sI_ne _ _ _ _ hj]; rfl) (fun r hr => ?_) rfl rfl rfl ?_ (fun j a1 a2 a3 a4 => ?_) ?_ ?_ ?_⟩
          · rw [eC, pl, Option.bind_some, if_neg not_one, rn3, Option.bind_some, if_neg (nI_m1 (by omega)), b2, Option.bind_some, if_neg not_one, p4, p5, addColumn_eq hS hk, Option.bind_some]
          · rw [eR2, Option.bind_some, b4]
          · show (sA (sA (sA ot 6 k (nI v1 - 9)) 7 k (nI v2 - 9)) 8 k (nI v3)).2.2 r = _
            rw [sA_ne _ _ _ _ _ (by omega), sA_ne _ _ _ _ _ (by omega), sA_ne _ _ _ _ _ (by omega)]
          · rw [upd_same, m41, nI_1]
          · rw [upd_ne _ _ _ _ a1, upd_ne _ _ _ _ a4, upd_ne _ _ _ _ a3, upd_ne _ _ _ _ a2]
          · rw [upd_ne _ _ _ _ (by omega), upd_ne _ _ _ _ (by omega), upd_ne _ _ _ _ (by omega), upd_same]
          · rw [upd_ne _ _ _ _ (by omega), upd_ne _ _ _ _ (by omega), upd_same]
          · rw [upd_ne _ _ _ _ (by omega), upd_same, z0]
        · refine Or.inr ⟨o6, ot, x12, _, sk4, ?_, ?_, b3, b5⟩
          · rw [eC, pl, Option.bind_some, if_neg not_one, rn3, Option.bind_some, if_neg (nI_m1 (by omega)), b2, Option.bind_some, if_pos rfl]
          · rw [eR2, Option.bind_some, b4]
      · refine Or.inr ⟨o5, ot, _, _, sk3, ?_, ?_, ck3, pE R10.fail⟩
        · rw [eC, pl, Option.bind_some, if_neg not_one, rn3, Option.bind_some, if_pos rfl]
        · rw [eR, rd1, Option.bind_some, rd2, Option.bind_some, rd3, Option.bind_some, Option.bind_some, fin_fl ((pE R10.fail).n9 (by omega))]
    · refine Or.inr ⟨o3, ot, _, _, sk2, ?_, ?_, ck2, pE R9.fail⟩
      · rw [eC, place_2 u1 rn1 rn2, Option.bind_some, if_pos rfl]
      · rw [eR, rd1, Option.bind_some, rd2, Option.bind_some, reads_fl (R9.fail.n9 (by omega)), Option.bind_some, Option.bind_some, fin_fl ((pE R9.fail).n9 (by omega))]
  · refine Or.inr ⟨o2, ot, _, _, sk1, ?_, ?_, ck1, pE R6.fail⟩
    · rw [eC, place_1 rn1, Option.bind_some, if_pos rfl]
    · rw [eR, rd1, Option.bind_some, reads_fl (R6.fail.n9 (by omega)), Option.bind_some, reads_fl (R6.fail.n9 (by omega)), Option.bind_some, Option.bind_some, fin_fl ((pE R6.fail).n9 (by omega))]
