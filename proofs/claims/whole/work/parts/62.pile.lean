/-! ===== a pile, read by both ===== -/
theorem hasPileS {o : OS} {S : Nat → Int32} {n : Nat} (hn : n ≤ 8) (e0 : o.1 4 = nI n) (ex : ∀ p, p < n → o.2.2 0 p = S (1 + 5 * p) ∧ o.2.2 1 p = S (2 + 5 * p)) (x y : Int32) : f_X3_hasPileAt x y o = some (if tkn S x y 0 n = true then 1 else 0) := by
  have h1 := hasPile_loop hn e0 ex x y n 0 1000 (by omega) (by omega)
  unfold f_X3_hasPileAt
  rw [show nI 0 = 0 from rfl] at h1
  rw [h1]
  by_cases c : tkn S x y 0 n = true
  · simp [c]
  · simp [c]
theorem takenD_loop {om : OS} {n : Nat} (hn : n ≤ 8) (e0 : om.2.2 15 0 = nI n) (x y : Int32) : ∀ (m p k : Nat) (v : Int32), v = 0 ∨ v = 1 → p + m = n → m < k → lp_X5_isTakenByDraft_5 x y om k v (nI p) = some (if v = 1 ∨ tkn (om.2.2 15) x y p m = true then 1 else 0, nI n) := by
  intro m
  have t0 : (0 : Int32).toNatClampNeg = 0 := rfl
  induction m with
  | zero =>
    intro p k v hv hp hk
    obtain ⟨k, rfl⟩ : ∃ j, k = j + 1 := ⟨k - 1, by omega⟩
    have : p = n := by omega
    subst this
    rw [lp_X5_isTakenByDraft_5, t0, e0, if_pos (nI_le (Nat.le_refl _) (by omega))]
    rcases hv with rfl | rfl <;> rfl
  | succ m ih =>
    intro p k v hv hp hk
    obtain ⟨k, rfl⟩ : ∃ j, k = j + 1 := ⟨k - 1, by omega⟩
    have y0 : (1 : Int32) + 5 * nI p + 0 = nI (1 + 5 * p) := by
      rw [show (1 : Int32) = nI 1 from rfl, show (5 : Int32) = nI 5 from rfl, nI_mul, nI_add, Int32.add_zero]
    have y1 : (1 : Int32) + 5 * nI p + 1 = nI (2 + 5 * p) := by
      rw [show (1 : Int32) = nI 1 from rfl, show (5 : Int32) = nI 5 from rfl, nI_mul, nI_add, nI_add, show 1 + 5 * p + 1 = 2 + 5 * p by omega]
    have i1 := ih (p + 1) k 1 (Or.inr rfl) (by omega) (by omega)
    have i0 := ih (p + 1) k 0 (Or.inl rfl) (by omega) (by omega)
    rw [lp_X5_isTakenByDraft_5, t0, e0, if_neg (nI_ge (show p < n by omega) (by omega))]
    simp only [y0, y1, ck_nI (show 1 + 5 * p < 59 by omega) (by decide), ck_nI (show 2 + 5 * p < 59 by omega) (by decide), nI_clamp (show 1 + 5 * p < 2 ^ 31 by omega), nI_clamp (show 2 + 5 * p < 2 ^ 31 by omega), nI_1, i1, i0, tkn]
    rcases hv with rfl | rfl
    · by_cases c1 : om.2.2 15 (1 + 5 * p) = x
      · by_cases c2 : om.2.2 15 (2 + 5 * p) = y
        · simp [c1, c2]
        · simp [c1, c2]
      · simp [c1]
    · simp
theorem takenD_eq {om : OS} {n : Nat} (hn : n ≤ 8) (e0 : om.2.2 15 0 = nI n) (x y : Int32) : f_X5_isTakenByDraft x y om = some (if tkn (om.2.2 15) x y 0 n = true then 1 else 0) := by
  have h2 := takenD_loop (om := om) hn e0 x y n 0 1000 0 (Or.inl rfl) (by omega) (by omega)
  unfold f_X5_isTakenByDraft
  rw [show nI 0 = 0 from rfl] at h2
  rw [h2]
  by_cases c : tkn (om.2.2 15) x y 0 n = true
  · simp [c, bz]
  · simp [c, bz]
theorem addPile_eq {ot : OS} {S : Nat → Int32} {n k b : Nat} (hS : SRn ot S n k b) (hn : n < 8) (x y s c : Int32) : f_X3_addPile x y s c ot = some (sI (sI (sA (sA (sA (sA ot 0 n x) 1 n y) 2 n s) 3 n c) 5 (nI (b ^^^ 2 ^ n))) 4 (nI (n + 1))) := by
  have hl8 : nI n < 8 := nI_lt (b := 8) hn (by decide)
  have hl0 : ¬ nI n < 0 := nI_pos (by omega)
  have tn : (nI n).toNatClampNeg = n := nI_clamp (by omega)
  have e4 := hS.2.2.2.1
  have e5 := hS.2.2.2.2.2.1
  have hb0 : b.testBit n = false := bit_out hS.2.2.1 (Nat.le_refl _)
  simp only [f_X3_addPile, sA_i, e4, e5, if_neg hl0, if_pos hl8, ck_nI (show n < 8 by omega) (by decide), tn, lt, bit_set hS.lt512 (show n < 9 by omega) hb0]
  rw [sI_ne _ _ _ _ (by decide), sA_i, sA_i, sA_i, sA_i, e4, nI_1]
/-- whether the second number of a place is good, in the reference -/
def tkz (n : Nat) (x9 : OS) : Option Int32 := if (x9.1 12) = 0 then Option.bind (f_X5_in (x9.1 13) 0 18) fun x22 => if x22 = 0 then some 0 else Option.bind (f_X5_isTakenByDraft (x9.2.2 15 (1 + 5 * n)) ((x9.1 13) - 9) x9) fun x25 => if x25 = 0 then some 1 else some 0 else some 0
theorem tkz_yes {n v : Nat} {x9 : OS} (hn : n ≤ 8) (e0 : x9.2.2 15 0 = nI n) (e12 : x9.1 12 = 0) (e13 : x9.1 13 = nI v) (hv : v ≤ 18) : tkz n x9 = some (if tkn (x9.2.2 15) (x9.2.2 15 (1 + 5 * n)) (nI v - 9) 0 n = true then 0 else 1) := by
  rw [tkz, if_pos e12, e13, in_yes (nI_pos' (by omega)) (show nI v ≤ 18 from nI_le (b := 18) hv (by decide)), Option.bind_some, if_neg (by decide), takenD_eq hn e0, Option.bind_some]
  by_cases c : tkn (x9.2.2 15) (x9.2.2 15 (1 + 5 * n)) (nI v - 9) 0 n = true
  · rw [if_pos c, if_pos c, if_neg (by decide)]
  · rw [if_neg c, if_neg c, if_pos rfl]
theorem tkz_no {n : Nat} {x9 : OS} (h : ¬ (x9.1 12 = 0 ∧ 0 ≤ x9.1 13 ∧ x9.1 13 ≤ 18)) : tkz n x9 = some 0 := by
  unfold tkz
  by_cases q : x9.1 12 = 0
  · rw [if_pos q]
    rcases in_eq (x9.1 13) 0 18 with ⟨e, l, u⟩ | ⟨e, _⟩
    · exact absurd ⟨q, Int32.le_iff_toInt_le.mpr l, Int32.le_iff_toInt_le.mpr u⟩ h
    · rw [e]; rfl
  · exact if_neg q
theorem tkz_some {n : Nat} {x9 : OS} (hn : n ≤ 8) (e0 : x9.2.2 15 0 = nI n) : ∃ z, tkz n x9 = some z := by
  unfold tkz
  by_cases q : x9.1 12 = 0
  · rw [if_pos q]
    rcases in_eq (x9.1 13) 0 18 with ⟨e, l, u⟩ | ⟨e, _⟩
    · rw [e, Option.bind_some, if_neg (by decide), takenD_eq hn e0, Option.bind_some]
      exact ⟨_, (apply_ite some _ _ _).symm⟩
    · rw [e]; exact ⟨0, rfl⟩
  · exact ⟨0, if_neg q⟩
/-- a pile's end, in the reference -/
def pEnd (n : Nat) (x : OS) : OS := sA (sA x 15 (5 + 5 * n) 0) 15 0 (((sA x 15 (5 + 5 * n) 0).2.2 15 0) + 1)
theorem RF.pEnd {om0 x : OS} {z : Nat} (h : RF om0 x z) (n : Nat) : RF om0 (pEnd n x) z := ⟨(h.1.trans (PE.a15 _ _ _)).trans (PE.a15 _ _ _), h.2⟩
theorem pile_pair {om0 om oc0 oc ot : OS} {f : Nat → Int32} {t s : Nat} {D : Nat → Int32} {w : Int32} {n k b : Nat} (ht : t ≤ 160) (hX : RX om0 f t) (hT : CT oc0 f t) (hR : RK om0 om f t s D w) (hs : s < t) (hfs : f s = 112) (hc : CK oc0 oc s) (hw : oc.1 6 = w) (hw2 : w = 0 ∨ w = 1) (hS : SRn ot D n k b) (hn : n < 8) : Out om0 f t oc0 s (f_X2_readPile oc ot) (Option.bind (f_X5_readsPile om) fin) := by
  obtain ⟨hP, h14, h16, hD, hTk⟩ := id hR
  obtain ⟨j1, j2⟩ := hTk.2.2.2.2.2 112 (Or.inl rfl)
  have e10 : om.1 10 = nI (s + 1) := j2 (j1.mpr ⟨hs, hfs⟩)
  obtain ⟨x6, n6, nf6, tk6⟩ := next_eq ht (show s + 1 ≤ t by omega) (hX.pe hP) e10
  have R6 := hR.next nf6 tk6
  have t0 : (0 : Int32).toNatClampNeg = 0 := rfl
  have hD0 : D 0 = nI n := hS.2.2.2.2.1
  obtain ⟨o1, h1⟩ : ∃ o1, o1 = sI oc 2 (nI (s + 1)) := ⟨_, rfl⟩
  have c1 : CK oc0 o1 (s + 1) := by rw [h1]; exact ⟨hc.1, hc.2.1, rfl⟩
  have w1 : o1.1 6 = w := by rw [h1, sI_ne _ _ _ _ (by decide)]; exact hw
  have y0 : (1 : Int32) + 5 * nI n + 0 = nI (1 + 5 * n) := by
    rw [show (1 : Int32) = nI 1 from rfl, show (5 : Int32) = nI 5 from rfl, nI_mul, nI_add, Int32.add_zero]
  have y1 : (1 : Int32) + 5 * nI n + 1 = nI (2 + 5 * n) := by
    rw [show (1 : Int32) = nI 1 from rfl, show (5 : Int32) = nI 5 from rfl, nI_mul, nI_add, nI_add, show 1 + 5 * n + 1 = 2 + 5 * n by omega]
  have y2 : (1 : Int32) + 5 * nI n + 2 = nI (3 + 5 * n) := by
    rw [show (1 : Int32) = nI 1 from rfl, show (5 : Int32) = nI 5 from rfl, show (2 : Int32) = nI 2 from rfl, nI_mul, nI_add, nI_add, show 1 + 5 * n + 2 = 3 + 5 * n by omega]
  have y3 : (1 : Int32) + 5 * nI n + 3 = nI (4 + 5 * n) := by
    rw [show (1 : Int32) = nI 1 from rfl, show (5 : Int32) = nI 5 from rfl, show (3 : Int32) = nI 3 from rfl, nI_mul, nI_add, nI_add, show 1 + 5 * n + 3 = 4 + 5 * n by omega]
  have y4 := becomes_idx (p := n) (by omega)
  have eR : f_X5_readsPile om = Option.bind (f_X5_reads (nI (1 + 5 * n)) 0 18 9 x6) fun x9 => Option.bind (tkz n x9) fun z10 => Option.bind (f_X5_due z10 x9) fun x12 => Option.bind (f_X5_reads (nI (2 + 5 * n)) 0 18 9 x12) fun x13 => Option.bind (f_X5_reads (nI (3 + 5 * n)) 1 9 0 x13) fun x14 => Option.bind (f_X5_reads (nI (4 + 5 * n)) 1 99 0 x14) fun x15 => some (pEnd n x15) := by
    rw [f_X5_readsPile, t0, hD, hD0, if_neg (show ¬ (8 : Int32) ≤ nI n from nI_ge (b := 8) hn (by decide)), Option.bind_some, due_1, Option.bind_some, if_pos h14, n6, Option.bind_some]
    simp only [lt]
    rw [R6.2.2.2.1, hD0, y0, y1, y2, y3, y4]
    simp only [ck_nI (show 1 + 5 * n < 59 by omega) (by decide), ck_nI (show 5 + 5 * n < 59 by omega) (by decide), nI_clamp (show 1 + 5 * n < 2 ^ 31 by omega), nI_clamp (show 5 + 5 * n < 2 ^ 31 by omega), tkz, pEnd]
  have eC : f_X2_readPile oc ot = Option.bind (f_X2_readPlace o1) fun x2 => if x2.1 = 0 then some (0, x2.2, ot) else Option.bind (f_X3_hasPileAt (x2.2.1 4) (x2.2.1 5) ot) fun x4 => if x4 = 0 then Option.bind (f_X2_readNumber 1 9 x2.2) fun x6 => if x6.1 = (-1) then some (0, x6.2, ot) else Option.bind (f_X2_readNumber 1 99 x6.2) fun x8 => if x8.1 = (-1) then some (0, x8.2, ot) else Option.bind (f_X2_readSemicolon x8.2) fun x10 => if x10.1 = 0 then some (0, x10.2, ot) else Option.bind (f_X3_addPile (x10.2.1 4) (x10.2.1 5) x6.1 x8.1 ot) fun x12 => some (1, x10.2, x12) else some (0, sI x2.2 2 (x2.2.1 3), ot) := by
    rw [f_X2_readPile]
    simp only [lt]
    rw [hc.2.2, nI_1, ← h1]
  -- what follows a fault
  have tl : ∀ (x12 : OS), ¬ x12.1 14 = -9 → (Option.bind (f_X5_reads (nI (2 + 5 * n)) 0 18 9 x12) fun x13 => Option.bind (f_X5_reads (nI (3 + 5 * n)) 1 9 0 x13) fun x14 => Option.bind (f_X5_reads (nI (4 + 5 * n)) 1 99 0 x14) fun x15 => some (pEnd n x15)) = some (pEnd n x12) := fun x12 h => by
    rw [reads_fl h, Option.bind_some, reads_fl h, Option.bind_some, reads_fl h, Option.bind_some]
  have sk1 := skb_le f t 1000 (s + 1) (by omega)
  obtain ⟨o2, q3, q4, A⟩ := nump ht (show s + 1 ≤ t by omega) hX hT R6 c1 0 18 (1 + 5 * n) (a := 0) (b := 18) 9 rfl rfl (by omega) (by omega) (by omega)
  rcases A with ⟨v1, e1, x9, l1, u1, g1, ge1, rn1, ck1, rd1, R9, -, -⟩ | ⟨rn1, ck1, rd1, -⟩
  · have sk2 := skb_le f t 1000 e1 ge1
    have d9 : x9.2.2 15 = upd D (1 + 5 * n) (nI v1 - 9) := R9.2.2.2.1
    have d90 : x9.2.2 15 0 = nI n := by rw [d9, upd_ne _ _ _ _ (by omega), hD0]
    have d91 : x9.2.2 15 (1 + 5 * n) = nI v1 - 9 := by rw [d9, upd_same]
    have due9 : f_X5_due 0 x9 = some (sI x9 14 (nI (skb f t 1000 e1))) := by rw [due_0 R9.2.1, R9.2.2.2.2.1]
    have F9 := R9.fail
    obtain ⟨o3, q5, q6, A⟩ := nump ht ge1 hX hT R9 ck1 0 18 (2 + 5 * n) (a := 0) (b := 18) 9 rfl rfl (by omega) (by omega) (by omega)
    rcases A with ⟨v2, e2, x13, l2, u2, g2, ge2, rn2, ck2, rd2, R13, e12, e13⟩ | ⟨rn2, ck2, rd2, hno⟩
    · have sk3 := skb_le f t 1000 e2 ge2
      have pl := place_3 u1 u2 rn1 rn2
      obtain ⟨o4, h4⟩ : ∃ o4, o4 = sI (sI o3 4 (nI v1 - 9)) 5 (nI v2 - 9) := ⟨_, rfl⟩
      rw [← h4] at pl
      have ck4 : CK oc0 o4 e2 := by rw [h4]; exact ck2
      have m3 : o4.1 3 = nI (skb f t 1000 e1) := by rw [h4]; exact q5
      have m4 : o4.1 4 = nI v1 - 9 := by rw [h4]; rfl
      have m5 : o4.1 5 = nI v2 - 9 := by rw [h4]; rfl
      have tz := tkz_yes (n := n) (by omega) d90 e12 e13 u2
      rw [d91] at tz
      have hp := hasPileS (S := x9.2.2 15) (by omega) hS.2.2.2.1 (fun p hp => by
        rw [d9, upd_ne _ _ _ _ (by omega), upd_ne _ _ _ _ (by omega)]
        exact ⟨(hS.2.2.2.2.2.2.2.2.2.2.2.2.1 p hp).1, (hS.2.2.2.2.2.2.2.2.2.2.2.2.1 p hp).2.1⟩) (nI v1 - 9) (nI v2 - 9)
      by_cases tk : tkn (x9.2.2 15) (nI v1 - 9) (nI v2 - 9) 0 n = true
      · rw [if_pos tk] at tz hp
        refine Or.inr ⟨sI o4 2 (nI (skb f t 1000 e1)), ot, _, _, sk2, ?_, ?_, ⟨ck4.1, ck4.2.1, rfl⟩, F9.pEnd n⟩
        · rw [eC, pl, Option.bind_some, if_neg not_one, m4, m5, hp, Option.bind_some, if_neg (by decide), m3]
        · rw [eR, rd1, Option.bind_some, tz, Option.bind_some, due9, Option.bind_some, tl _ (F9.n9 (by omega)), Option.bind_some, fin_fl ((F9.pEnd n).n9 (by omega))]
      · rw [if_neg tk] at tz hp
        obtain ⟨o5, q7, q8, A⟩ := nump ht ge2 hX hT R13 ck4 1 9 (3 + 5 * n) (a := 1) (b := 9) 0 rfl rfl (by omega) (by omega) (by omega)
        have eC2 : f_X2_readPile oc ot = Option.bind (f_X2_readNumber 1 9 o4) fun x6 => if x6.1 = (-1) then some (0, x6.2, ot) else Option.bind (f_X2_readNumber 1 99 x6.2) fun x8 => if x8.1 = (-1) then some (0, x8.2, ot) else Option.bind (f_X2_readSemicolon x8.2) fun x10 => if x10.1 = 0 then some (0, x10.2, ot) else Option.bind (f_X3_addPile (x10.2.1 4) (x10.2.1 5) x6.1 x8.1 ot) fun x12 => some (1, x10.2, x12) := by
          rw [eC, pl, Option.bind_some, if_neg not_one, m4, m5, hp, Option.bind_some, if_pos rfl]
        have eR2 : f_X5_readsPile om = Option.bind (f_X5_reads (nI (3 + 5 * n)) 1 9 0 x13) fun x14 => Option.bind (f_X5_reads (nI (4 + 5 * n)) 1 99 0 x14) fun x15 => some (pEnd n x15) := by
          rw [eR, rd1, Option.bind_some, tz, Option.bind_some, due_1, Option.bind_some, rd2, Option.bind_some]
        rcases A with ⟨v3, e3, x14, l3, u3, g3, ge3, rn3, ck3, rd3, R14, -, -⟩ | ⟨rn3, ck3, rd3, -⟩
        · have sk4 := skb_le f t 1000 e3 ge3
          obtain ⟨o6, q9, q10, A⟩ := nump ht ge3 hX hT R14 ck3 1 99 (4 + 5 * n) (a := 1) (b := 99) 0 rfl rfl (by omega) (by omega) (by omega)
          rcases A with ⟨v4, e4, x15, l4, u4, g4, ge4, rn4, ck5, rd4, R15, -, -⟩ | ⟨rn4, ck5, rd4, -⟩
          · have sk5 := skb_le f t 1000 e4 ge4
            have skg := skb_ge f t 1000 e4
            have R16 := (R15.put (5 + 5 * n) 0).put 0 (((sA x15 15 (5 + 5 * n) 0).2.2 15 0) + 1)
            have eR3 : f_X5_readsPile om = some (pEnd n x15) := by
              rw [eR2, rd3, Option.bind_some, rd4, Option.bind_some]
            obtain ⟨o7, q11, A⟩ := semi_pair ht ge4 hT R16 ck5
            have p4 : o7.1 4 = nI v1 - 9 := by rw [q11 4 (by omega), q10 4 (by omega), q8 4 (by omega), m4]
            have p5 : o7.1 5 = nI v2 - 9 := by rw [q11 5 (by omega), q10 5 (by omega), q8 5 (by omega), m5]
            have p6 : o7.1 6 = w := by rw [q11 6 (by omega), q10 6 (by omega), q8 6 (by omega), h4, sI_ne _ _ _ _ (by decide), sI_ne _ _ _ _ (by decide), q6 6 (by omega), q4 6 (by omega), w1]
            rcases A with ⟨b1, b2, b3, b4, b5⟩ | ⟨b2, b3, x17, b4, b5⟩
            · have z3 : nI v3 - 0 = nI v3 := Int32.sub_zero _
              have z4 : nI v4 - 0 = nI v4 := Int32.sub_zero _
              have m0 : (sA x15 15 (5 + 5 * n) 0).2.2 15 0 = nI n := by
                rw [sA_same, R15.2.2.2.1, upd_ne _ _ _ _ (by omega), upd_ne _ _ _ _ (by omega), upd_ne _ _ _ _ (by omega), upd_ne _ _ _ _ (by omega), upd_ne _ _ _ _ (by omega), hD0]
              rw [z3, z4, m0, nI_1] at R16
              refine Or.inl ⟨o7, _, pEnd n x15, skb f t 1000 e4, _, w, n + 1, k, b ^^^ 2 ^ n, ?_, ?_, by omega, b1, b3, p6, hw2, ?_, b5, hS.add hn (x := nI v1 - 9) (y := nI v2 - 9) (s := nI v3) (c := nI v4) (ir18 v1 (by omega)) (ir18 v2 (by omega)) ⟨by rw [nI_toInt (by omega)]; omega, by rw [nI_toInt (by omega)]; omega⟩ ⟨by rw [nI_toInt (by omega)]; omega, by rw [nI_toInt (by omega)]; omega⟩ (o2 := sI (sI (sA (sA (sA (sA ot 0 n (nI v1 - 9)) 1 n (nI v2 - 9)) 2 n (nI v3)) 3 n (nI v4)) 5 (nI (b ^^^ 2 ^ n))) 4 (nI (n + 1))) (S2 := upd (upd (upd (upd (upd (upd D (1 + 5 * n) (nI v1 - 9)) (2 + 5 * n) (nI v2 - 9)) (3 + 5 * n) (nI v3)) (4 + 5 * n) (nI v4)) (5 + 5 * n) 0) 0 (nI (n + 1))) rfl rfl (fun j a1 a2 => ?_) rfl rfl rfl rfl (fun r hr => ?_) ?_ ?_ ?_ ?_ ?_ ?_ (fun j a1 a2 => ?_)⟩
              · rw [eC2, rn3, Option.bind_some, if_neg (nI_m1 (by omega)), rn4, Option.bind_some, if_neg (nI_m1 (by omega)), b2, Option.bind_some, if_neg not_one, p4, p5, addPile_eq hS hn, Option.bind_some]
              · rw [eR3, Option.bind_some]
                exact b4
              · rw [pEnd, m0, nI_1]
                exact R16
              · rw [sI_ne _ _ _ _ a1, sI_ne _ _ _ _ a2]; rfl
              · show (sA (sA (sA (sA ot 0 n (nI v1 - 9)) 1 n (nI v2 - 9)) 2 n (nI v3)) 3 n (nI v4)).2.2 r = _
                rw [sA_ne _ _ _ _ _ (by omega), sA_ne _ _ _ _ _ (by omega), sA_ne _ _ _ _ _ (by omega), sA_ne _ _ _ _ _ (by omega)]
              · rw [upd_same]
              · rw [upd_ne _ _ _ _ (by omega), upd_ne _ _ _ _ (by omega), upd_ne _ _ _ _ (by omega), upd_ne _ _ _ _ (by omega), upd_ne _ _ _ _ (by omega), upd_same]
              · rw [upd_ne _ _ _ _ (by omega), upd_ne _ _ _ _ (by omega), upd_ne _ _ _ _ (by omega), upd_ne _ _ _ _ (by omega), upd_same]
              · rw [upd_ne _ _ _ _ (by omega), upd_ne _ _ _ _ (by omega), upd_ne _ _ _ _ (by omega), upd_same]
              · rw [upd_ne _ _ _ _ (by omega), upd_ne _ _ _ _ (by omega), upd_same]
              · rw [upd_ne _ _ _ _ (by omega), upd_same]
              · rw [upd_ne _ _ _ _ a1, upd_ne _ _ _ _ (by omega), upd_ne _ _ _ _ (by omega), upd_ne _ _ _ _ (by omega), upd_ne _ _ _ _ (by omega), upd_ne _ _ _ _ (by omega)]
            · refine Or.inr ⟨o7, ot, x17, _, sk5, ?_, ?_, b3, b5⟩
              · rw [eC2, rn3, Option.bind_some, if_neg (nI_m1 (by omega)), rn4, Option.bind_some, if_neg (nI_m1 (by omega)), b2, Option.bind_some, if_pos rfl]
              · rw [eR3, Option.bind_some]
                exact b4
          · refine Or.inr ⟨o6, ot, _, _, sk4, ?_, ?_, ck5, R14.fail.pEnd n⟩
            · rw [eC2, rn3, Option.bind_some, if_neg (nI_m1 (by omega)), rn4, Option.bind_some, if_pos rfl]
            · rw [eR2, rd3, Option.bind_some, rd4, Option.bind_some, Option.bind_some, fin_fl ((R14.fail.pEnd n).n9 (by omega))]
        · refine Or.inr ⟨o5, ot, _, _, sk3, ?_, ?_, ck3, R13.fail.pEnd n⟩
          · rw [eC2, rn3, Option.bind_some, if_pos rfl]
          · rw [eR2, rd3, Option.bind_some, reads_fl (R13.fail.n9 (by omega)), Option.bind_some, Option.bind_some, fin_fl ((R13.fail.pEnd n).n9 (by omega))]
    · refine Or.inr ⟨o3, ot, _, _, sk2, ?_, ?_, ck2, F9.pEnd n⟩
      · rw [eC, place_2 u1 rn1 rn2, Option.bind_some, if_pos rfl]
      · rw [eR, rd1, Option.bind_some, tkz_no hno, Option.bind_some, due9, Option.bind_some, tl _ (F9.n9 (by omega)), Option.bind_some, fin_fl ((F9.pEnd n).n9 (by omega))]
  · have F6 := R6.fail
    obtain ⟨z, tz⟩ := tkz_some (n := n) (x9 := sI x6 14 (nI (skb f t 1000 (s + 1)))) (by omega) (by show x6.2.2 15 0 = nI n; rw [R6.2.2.2.1, hD0])
    refine Or.inr ⟨o2, ot, _, _, sk1, ?_, ?_, ck1, F6.pEnd n⟩
    · rw [eC, place_1 rn1, Option.bind_some, if_pos rfl]
    · rw [eR, rd1, Option.bind_some, tz, Option.bind_some, due_fl (F6.n9 (by omega)), Option.bind_some, tl _ (F6.n9 (by omega)), Option.bind_some, fin_fl ((F6.pEnd n).n9 (by omega))]
