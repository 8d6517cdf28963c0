def f_X4_most (i0 : Int32) (oo : OS) (on : OS) (od : OS) (odw : OS) (odp : OS) : Option (Int64 × OS × OS × OS) := if i0 < 0 then some ((-1), od, odw, odp) else if i0 ≤ 2 then Option.bind (f_X4_spreadPresent oo on od odw odp) fun x3 => Option.bind (f_X4_greatestUse i0 oo x3.1 x3.2.2) fun x4 => some (x4, x3.1, x3.2.1, x3.2.2) else some ((-1), od, odw, odp)
set_option maxHeartbeats 4000000 in
set_option maxRecDepth 100000 in
theorem c_X4_most (l : Launch) (D : va_G) (cI cZ cS : ClassId) (a : Nat) (q : Nat → Nat) (qN : Nat → Nat) (qD : Nat → Nat) (i0 : Int32) (oo : OS) (on : OS) (od : OS) (odw : OS) (odp : OS) (x : (Int64 × OS × OS × OS)) (hf : f_X4_most i0 oo on od odw odp = some x) : Ct l yX4_most cX4_most 2 (some .long) 6 134 D cI cZ cS [.ref a, .int i0] (bX4 cI cZ a q oo ++ (bX3 cI (q 0) qN on ++ (bX0 cI (q 12) qD od ++ (bX1 (qD 13) odw ++ bX1 (qD 14) odp)))) (some (.long x.1)) (bX4 cI cZ a q oo ++ (bX3 cI (q 0) qN on ++ (bX0 cI (q 12) qD x.2.1 ++ (bX1 (qD 13) x.2.2.1 ++ bX1 (qD 14) x.2.2.2)))) := by
  intro sz
  refine Met.ofW (cc := cX4_most) (maxL := 2) (ret := (some .long)) (by decide +kernel) rfl ?_
  intro p e s m args below meth c s₁ B hml hv
  obtain ⟨rfl, hsz, hP, hK, hD0⟩ := hv
  have hx := B.exec
  have hb := B.bytes
  have hr := B.returns
  have hts0 := atoms_spec (ws := .code yX4_most cX4_most 2 (some .long) :: TB) B.pre
  have hts := fun w (h : w ∈ TB) => hts0 w (List.mem_cons_of_mem _ h)
  have hown : s.vm.findClass RX4 = some m.cls := findClass_of_methodNamed B.named
  have hlocks := B.notSynchronized
  subst hsz
  have hD := hD0.self (sz := s.heap.size)
  generalize hAe : va_A (bX4 cI cZ a q oo ++ (bX3 cI (q 0) qN on ++ (bX0 cI (q 12) qD od ++ (bX1 (qD 13) odw ++ bX1 (qD 14) odp)))) s.heap.size = A at hD ⊢
  have hA : ∀ q : Nat, s.heap.size ≤ q → A q := fun q h => by rw [← hAe]; exact Or.inr h
  have hS : va_S A s.heap s.heap [] := va_S.rf
  obtain ⟨H, hH⟩ : ∃ H, H = s.heap := ⟨_, rfl⟩
  rw [← hH] at hP
  have hS : va_S A s.heap H [] := by rw [hH]; exact hS
  have hl := lv_entry ([.ref a, .int i0]) (n := 2) (Nat.le_of_ble_eq_true rfl)
  rw [lg_entry_eq]
  generalize (lg_sl ([.ref a, .int i0]) ++ List.replicate (2 - (lg_sl ([.ref a, .int i0])).length) Slot.unset).toArray = ls at hl ⊢
  have hl : lv_has ls 2 [(0, .ref a), (1, .int i0)] := hl
  refine W_heap hH ?_
  obtain ⟨locs, hlo⟩ : ∃ locs : List Loc, locs = [] := ⟨_, rfl⟩
  rw [← hlo] at hS ⊢
  unfold f_X4_most at hf
  refine lv_iload_n (pc := 0) hx hb dX4_most_0 rfl (lv_at hl 1 rfl) ?_
  refine lv_if_lt (pc := 1) (tgt := 9) hx hb dX4_most_1 (by decide) (fun c1 => ?_) (fun c1 => ?_)
  · replace hf := ip c1 hf
    refine lv_ldc2 (pc := 9) (v := -1) hx hb hown (hts _ cn_RX4_204) dX4_most_9 ?_
    obtain rfl := Option.some.inj hf
    exact W.lret hx hb hr (fun t ht hW => ⟨rfl, by rw [ht]; exact hP, hD, hS.F ht⟩) hS.2.2 dX4_most_12
  · replace hf := im c1 hf
    refine lv_iload_n (pc := 4) hx hb dX4_most_4 rfl (lv_at hl 1 rfl) ?_
    refine lv_iconst (v := 2) (pc := 5) hx hb dX4_most_5 (by decide) ?_
    refine lv_icmp_le (pc := 6) (tgt := 13) hx hb dX4_most_6 (by decide) (fun c2 => ?_) (fun c2 => ?_)
    · replace hf := ip c2 hf
      refine lv_aload_n (pc := 13) hx hb dX4_most_13 rfl (lv_at hl 0 rfl) ?_
      obtain ⟨x3, ex3, hf⟩ := bd_some hf
      refine ct_V1 (pc := 14) (As := []) (rest := []) (W1 := bX4 cI cZ a q oo ++ (bX3 cI (q 0) qN on ++ (bX0 cI (q 12) qD x3.1 ++ (bX1 (qD 13) x3.2.1 ++ bX1 (qD 14) x3.2.2)))) ⟨hx, hb, hml, hown, hts⟩ hK (c_X4_spreadPresent l D cI cZ cS a q qN qD oo on od odw odp x3 ex3) gv_RX4_146 rfl hs_X4_spreadPresent rfl ⟨Nat.le_of_ble_eq_true rfl, Nat.le_of_ble_eq_true rfl⟩ (ci := 4) (q0 := 0) rfl rfl rfl hl.1 rfl (Nat.le_of_ble_eq_true rfl) dX4_most_14 ⟨Nat.zero_le _, Nat.zero_le _⟩ hP hD hS hA (fun H locs hP hD hS => ?_)
      refine lv_aload_n (pc := 17) hx hb dX4_most_17 rfl (lv_at hl 0 rfl) ?_
      refine lv_iload_n (pc := 18) hx hb dX4_most_18 rfl (lv_at hl 1 rfl) ?_
      obtain ⟨x4, ex4, hf⟩ := bd_some hf
      refine ct_V (pc := 19) (As := [.int i0]) (rest := []) (wr := bX3 cI (q 0) qN on ++ bX1 (qD 13) x3.2.1) (W1 := bX4 cI cZ a q oo ++ (bX3 cI (q 0) qN on ++ (bX0 cI (q 12) qD x3.1 ++ (bX1 (qD 13) x3.2.1 ++ bX1 (qD 14) x3.2.2)))) ⟨hx, hb, hml, hown, hts⟩ hK (c_X4_greatestUse l D cI cZ cS a q qD i0 oo x3.1 x3.2.2 x4 ex4) gv_RX4_206 rfl hs_X4_greatestUse rfl ⟨Nat.le_of_ble_eq_true rfl, Nat.le_of_ble_eq_true rfl⟩ (ci := 4) (q0 := 0) rfl rfl rfl hl.1 rfl (Nat.le_of_ble_eq_true rfl) dX4_most_19 ⟨Nat.zero_le _, Nat.zero_le _⟩ hP hD hS hA [0, 1, 2, 3, 4, 13, 14, 15, 16, 17, 19] [5, 6, 7, 8, 9, 10, 11, 12, 18] [9, 10, 11, 12, 13, 0, 1, 2, 3, 4, 5, 6, 7, 14, 15, 16, 17, 18, 8, 19] rfl rfl (by decide +kernel) (by decide +kernel) (by decide +kernel) (by decide +kernel) rfl (fun H locs hP hD hS => ?_)
      obtain rfl := Option.some.inj hf
      exact W.lret hx hb hr (fun t ht hW => ⟨rfl, by rw [ht]; exact hP, hD, hS.F ht⟩) hS.2.2 dX4_most_22
    · replace hf := im c2 hf
      refine lv_ldc2 (pc := 9) (v := -1) hx hb hown (hts _ cn_RX4_204) dX4_most_9 ?_
      obtain rfl := Option.some.inj hf
      exact W.lret hx hb hr (fun t ht hW => ⟨rfl, by rw [ht]; exact hP, hD, hS.F ht⟩) hS.2.2 dX4_most_12
def f_X4_factor (i0 : Int32) (oo : OS) (on : OS) (od : OS) (odw : OS) (odp : OS) : Option (Int64 × OS × OS × OS) := if i0 < 0 then some ((-1), od, odw, odp) else if i0 ≤ 1 then Option.bind (f_X4_spreadPresent oo on od odw odp) fun x3 => if (x3.1.1 11) = 0 then some ((-9), x3.1, x3.2.1, x3.2.2) else Option.bind (f_X0_useTop x3.1 x3.2.2) fun x5 => if x5 = 0 then some ((-9), x3.1, x3.2.1, x3.2.2) else Option.bind (f_X0_useBottom x3.1 x3.2.2) fun x7 => Option.bind (f_X0_useTop x3.1 x3.2.2) fun x8 => Option.bind (f_X4_inLowestTerms x7 x8 i0) fun x9 => some (x9, x3.1, x3.2.1, x3.2.2) else some ((-1), od, odw, odp)
set_option maxHeartbeats 4000000 in
set_option maxRecDepth 100000 in
theorem c_X4_factor (l : Launch) (D : va_G) (cI cZ cS : ClassId) (a : Nat) (q : Nat → Nat) (qN : Nat → Nat) (qD : Nat → Nat) (i0 : Int32) (oo : OS) (on : OS) (od : OS) (odw : OS) (odp : OS) (x : (Int64 × OS × OS × OS)) (hf : f_X4_factor i0 oo on od odw odp = some x) : Ct l yX4_factor cX4_factor 2 (some .long) 6 134 D cI cZ cS [.ref a, .int i0] (bX4 cI cZ a q oo ++ (bX3 cI (q 0) qN on ++ (bX0 cI (q 12) qD od ++ (bX1 (qD 13) odw ++ bX1 (qD 14) odp)))) (some (.long x.1)) (bX4 cI cZ a q oo ++ (bX3 cI (q 0) qN on ++ (bX0 cI (q 12) qD x.2.1 ++ (bX1 (qD 13) x.2.2.1 ++ bX1 (qD 14) x.2.2.2)))) := by
  intro sz
  refine Met.ofW (cc := cX4_factor) (maxL := 2) (ret := (some .long)) (by decide +kernel) rfl ?_
  intro p e s m args below meth c s₁ B hml hv
  obtain ⟨rfl, hsz, hP, hK, hD0⟩ := hv
  have hx := B.exec
  have hb := B.bytes
  have hr := B.returns
  have hts0 := atoms_spec (ws := .code yX4_factor cX4_factor 2 (some .long) :: TB) B.pre
  have hts := fun w (h : w ∈ TB) => hts0 w (List.mem_cons_of_mem _ h)
  have hown : s.vm.findClass RX4 = some m.cls := findClass_of_methodNamed B.named
  have hlocks := B.notSynchronized
  subst hsz
  have hD := hD0.self (sz := s.heap.size)
  generalize hAe : va_A (bX4 cI cZ a q oo ++ (bX3 cI (q 0) qN on ++ (bX0 cI (q 12) qD od ++ (bX1 (qD 13) odw ++ bX1 (qD 14) odp)))) s.heap.size = A at hD ⊢
  have hA : ∀ q : Nat, s.heap.size ≤ q → A q := fun q h => by rw [← hAe]; exact Or.inr h
  have hS : va_S A s.heap s.heap [] := va_S.rf
  obtain ⟨H, hH⟩ : ∃ H, H = s.heap := ⟨_, rfl⟩
  rw [← hH] at hP
  have hS : va_S A s.heap H [] := by rw [hH]; exact hS
  have hl := lv_entry ([.ref a, .int i0]) (n := 2) (Nat.le_of_ble_eq_true rfl)
  rw [lg_entry_eq]
  generalize (lg_sl ([.ref a, .int i0]) ++ List.replicate (2 - (lg_sl ([.ref a, .int i0])).length) Slot.unset).toArray = ls at hl ⊢
  have hl : lv_has ls 2 [(0, .ref a), (1, .int i0)] := hl
  refine W_heap hH ?_
  obtain ⟨locs, hlo⟩ : ∃ locs : List Loc, locs = [] := ⟨_, rfl⟩
  rw [← hlo] at hS ⊢
  unfold f_X4_factor at hf
  refine lv_iload_n (pc := 0) hx hb dX4_factor_0 rfl (lv_at hl 1 rfl) ?_
  refine lv_if_lt (pc := 1) (tgt := 9) hx hb dX4_factor_1 (by decide) (fun c1 => ?_) (fun c1 => ?_)
  · replace hf := ip c1 hf
    refine lv_ldc2 (pc := 9) (v := -1) hx hb hown (hts _ cn_RX4_204) dX4_factor_9 ?_
    obtain rfl := Option.some.inj hf
    exact W.lret hx hb hr (fun t ht hW => ⟨rfl, by rw [ht]; exact hP, hD, hS.F ht⟩) hS.2.2 dX4_factor_12
  · replace hf := im c1 hf
    refine lv_iload_n (pc := 4) hx hb dX4_factor_4 rfl (lv_at hl 1 rfl) ?_
    refine lv_iconst (v := 1) (pc := 5) hx hb dX4_factor_5 (by decide) ?_
    refine lv_icmp_le (pc := 6) (tgt := 13) hx hb dX4_factor_6 (by decide) (fun c2 => ?_) (fun c2 => ?_)
    · replace hf := ip c2 hf
      refine lv_aload_n (pc := 13) hx hb dX4_factor_13 rfl (lv_at hl 0 rfl) ?_
      obtain ⟨x3, ex3, hf⟩ := bd_some hf
      refine ct_V1 (pc := 14) (As := []) (rest := []) (W1 := bX4 cI cZ a q oo ++ (bX3 cI (q 0) qN on ++ (bX0 cI (q 12) qD x3.1 ++ (bX1 (qD 13) x3.2.1 ++ bX1 (qD 14) x3.2.2)))) ⟨hx, hb, hml, hown, hts⟩ hK (c_X4_spreadPresent l D cI cZ cS a q qN qD oo on od odw odp x3 ex3) gv_RX4_146 rfl hs_X4_spreadPresent rfl ⟨Nat.le_of_ble_eq_true rfl, Nat.le_of_ble_eq_true rfl⟩ (ci := 4) (q0 := 0) rfl rfl rfl hl.1 rfl (Nat.le_of_ble_eq_true rfl) dX4_factor_14 ⟨Nat.zero_le _, Nat.zero_le _⟩ hP hD hS hA (fun H locs hP hD hS => ?_)
      refine lv_aload_n (pc := 17) hx hb dX4_factor_17 rfl (lv_at hl 0 rfl) ?_
      refine va_get (pc := 18) (D := D) (ci := 4) (v := .ref (q 12)) (C := RX4) (T := TX4) (N := 13) hx hb hts iX4 hown hK.1 hP 0 rfl rfl 12 (by decide) (hts _ fl_RX4_54) (fun _ h => h) rfl dX4_factor_18 ?_
      refine va_getN (pc := 21) (D := D) (ci := 0) (v := .int (x3.1.1 11)) (C := RX0) (T := TX0) (N := 15) hx hb hts iX0 hown hK.1 hP 13 rfl rfl 11 (by decide) (va_Nw.use rfl (hK.2 _ nf_RX4_149)) (fun _ h => h) rfl dX4_factor_21 ?_
      refine lv_if_eq (pc := 24) (tgt := 39) hx hb dX4_factor_24 (by decide) (fun c4 => ?_) (fun c4 => ?_)
      · replace hf := ip c4 hf
        refine lv_ldc2 (pc := 39) (v := -9) hx hb hown (hts _ cn_RX4_156) dX4_factor_39 ?_
        obtain rfl := Option.some.inj hf
        exact W.lret hx hb hr (fun t ht hW => ⟨rfl, by rw [ht]; exact hP, hD, hS.F ht⟩) hS.2.2 dX4_factor_42
      · replace hf := im c4 hf
        refine lv_aload_n (pc := 27) hx hb dX4_factor_27 rfl (lv_at hl 0 rfl) ?_
        refine va_get (pc := 28) (D := D) (ci := 4) (v := .ref (q 12)) (C := RX4) (T := TX4) (N := 13) hx hb hts iX4 hown hK.1 hP 0 rfl rfl 12 (by decide) (hts _ fl_RX4_54) (fun _ h => h) rfl dX4_factor_28 ?_
        obtain ⟨x5, ex5, hf⟩ := bd_some hf
        refine ct_V (pc := 31) (As := []) (rest := []) (wr := bX4 cI cZ a q oo ++ (bX3 cI (q 0) qN on ++ bX1 (qD 13) x3.2.1)) (W1 := bX4 cI cZ a q oo ++ (bX3 cI (q 0) qN on ++ (bX0 cI (q 12) qD x3.1 ++ (bX1 (qD 13) x3.2.1 ++ bX1 (qD 14) x3.2.2)))) ⟨hx, hb, hml, hown, hts⟩ hK (c_X0_useTop l D cI cZ cS (q 12) qD x3.1 x3.2.2 x5 ex5) gv_RX4_209 rfl hs_X0_useTop rfl ⟨Nat.le_of_ble_eq_true rfl, Nat.le_of_ble_eq_true rfl⟩ (ci := 0) (q0 := 13) rfl rfl rfl hl.1 rfl (Nat.le_of_ble_eq_true rfl) dX4_factor_31 ⟨Nat.zero_le _, Nat.zero_le _⟩ hP hD hS hA [13, 14, 15, 16, 17, 19] [0, 1, 2, 3, 4, 5, 6, 7, 8, 9, 10, 11, 12, 18] [0, 1, 2, 3, 4, 5, 6, 7, 8, 9, 10, 11, 12, 14, 15, 16, 17, 18, 13, 19] rfl rfl (by decide +kernel) (by decide +kernel) (by decide +kernel) (by decide +kernel) rfl (fun H locs hP hD hS => ?_)
        refine lv_lconst (v := 0) (pc := 34) hx hb dX4_factor_34 (by decide) ?_
        refine W.lcmp (pc := 35) hx hb dX4_factor_35 ?_
        refine lv_if_ne (pc := 36) (tgt := 43) hx hb dX4_factor_36 (by decide) (fun c6 => ?_) (fun c6 => ?_)
        · replace c6 := fun q => c6 ((lg_cmp_eq _ _).mpr q)
          replace hf := im c6 hf
          refine lv_aload_n (pc := 43) hx hb dX4_factor_43 rfl (lv_at hl 0 rfl) ?_
          refine va_get (pc := 44) (D := D) (ci := 4) (v := .ref (q 12)) (C := RX4) (T := TX4) (N := 13) hx hb hts iX4 hown hK.1 hP 0 rfl rfl 12 (by decide) (hts _ fl_RX4_54) (fun _ h => h) rfl dX4_factor_44 ?_
          obtain ⟨x7, ex7, hf⟩ := bd_some hf
          refine ct_V (pc := 47) (As := []) (rest := []) (wr := bX4 cI cZ a q oo ++ (bX3 cI (q 0) qN on ++ bX1 (qD 13) x3.2.1)) (W1 := bX4 cI cZ a q oo ++ (bX3 cI (q 0) qN on ++ (bX0 cI (q 12) qD x3.1 ++ (bX1 (qD 13) x3.2.1 ++ bX1 (qD 14) x3.2.2)))) ⟨hx, hb, hml, hown, hts⟩ hK (c_X0_useBottom l D cI cZ cS (q 12) qD x3.1 x3.2.2 x7 ex7) gv_RX4_212 rfl hs_X0_useBottom rfl ⟨Nat.le_of_ble_eq_true rfl, Nat.le_of_ble_eq_true rfl⟩ (ci := 0) (q0 := 13) rfl rfl rfl hl.1 rfl (Nat.le_of_ble_eq_true rfl) dX4_factor_47 ⟨Nat.zero_le _, Nat.zero_le _⟩ hP hD hS hA [13, 14, 15, 16, 17, 19] [0, 1, 2, 3, 4, 5, 6, 7, 8, 9, 10, 11, 12, 18] [0, 1, 2, 3, 4, 5, 6, 7, 8, 9, 10, 11, 12, 14, 15, 16, 17, 18, 13, 19] rfl rfl (by decide +kernel) (by decide +kernel) (by decide +kernel) (by decide +kernel) rfl (fun H locs hP hD hS => ?_)
          refine lv_aload_n (pc := 50) hx hb dX4_factor_50 rfl (lv_at hl 0 rfl) ?_
          refine va_get (pc := 51) (D := D) (ci := 4) (v := .ref (q 12)) (C := RX4) (T := TX4) (N := 13) hx hb hts iX4 hown hK.1 hP 0 rfl rfl 12 (by decide) (hts _ fl_RX4_54) (fun _ h => h) rfl dX4_factor_51 ?_
          obtain ⟨x8, ex8, hf⟩ := bd_some hf
          refine ct_V (pc := 54) (As := []) (rest := [.long x7]) (wr := bX4 cI cZ a q oo ++ (bX3 cI (q 0) qN on ++ bX1 (qD 13) x3.2.1)) (W1 := bX4 cI cZ a q oo ++ (bX3 cI (q 0) qN on ++ (bX0 cI (q 12) qD x3.1 ++ (bX1 (qD 13) x3.2.1 ++ bX1 (qD 14) x3.2.2)))) ⟨hx, hb, hml, hown, hts⟩ hK (c_X0_useTop l D cI cZ cS (q 12) qD x3.1 x3.2.2 x8 ex8) gv_RX4_209 rfl hs_X0_useTop rfl ⟨Nat.le_of_ble_eq_true rfl, Nat.le_of_ble_eq_true rfl⟩ (ci := 0) (q0 := 13) rfl rfl rfl hl.1 rfl (Nat.le_of_ble_eq_true rfl) dX4_factor_54 ⟨Nat.zero_le _, Nat.zero_le _⟩ hP hD hS hA [13, 14, 15, 16, 17, 19] [0, 1, 2, 3, 4, 5, 6, 7, 8, 9, 10, 11, 12, 18] [0, 1, 2, 3, 4, 5, 6, 7, 8, 9, 10, 11, 12, 14, 15, 16, 17, 18, 13, 19] rfl rfl (by decide +kernel) (by decide +kernel) (by decide +kernel) (by decide +kernel) rfl (fun H locs hP hD hS => ?_)
          refine lv_iload_n (pc := 57) hx hb dX4_factor_57 rfl (lv_at hl 1 rfl) ?_
          obtain ⟨x9, ex9, hf⟩ := bd_some hf
          refine ct_S0 (pc := 58) (As := [.long x7, .long x8, .int i0]) (rest := []) ⟨hx, hb, hml, hown, hts⟩ hK (c_X4_inLowestTerms l D cI cZ cS x7 x8 i0 x9 ex9) gs_RX4_190 hs_X4_inLowestTerms rfl ⟨Nat.le_of_ble_eq_true rfl, Nat.le_of_ble_eq_true rfl⟩ hl.1 rfl (Nat.le_of_ble_eq_true rfl) dX4_factor_58 ⟨Nat.zero_le _, Nat.zero_le _⟩ hP hS hA (fun H locs hP hS => ?_)
          obtain rfl := Option.some.inj hf
          exact W.lret hx hb hr (fun t ht hW => ⟨rfl, by rw [ht]; exact hP, hD, hS.F ht⟩) hS.2.2 dX4_factor_61
        · replace c6 := (lg_cmp_eq _ _).mp c6
          replace hf := ip c6 hf
          refine lv_ldc2 (pc := 39) (v := -9) hx hb hown (hts _ cn_RX4_156) dX4_factor_39 ?_
          obtain rfl := Option.some.inj hf
          exact W.lret hx hb hr (fun t ht hW => ⟨rfl, by rw [ht]; exact hP, hD, hS.F ht⟩) hS.2.2 dX4_factor_42
    · replace hf := im c2 hf
      refine lv_ldc2 (pc := 9) (v := -1) hx hb hown (hts _ cn_RX4_204) dX4_factor_9 ?_
      obtain rfl := Option.some.inj hf
      exact W.lret hx hb hr (fun t ht hW => ⟨rfl, by rw [ht]; exact hP, hD, hS.F ht⟩) hS.2.2 dX4_factor_12
def f_X4_bracePresent (oo : OS) (on : OS) (od : OS) (odw : OS) (odp : OS) : Option (Int32 × OS × OS × OS) := Option.bind (f_X0_takePiles od on) fun x1 => Option.bind (f_X0_braceAll (on.1 5) x1 odw odp) fun x2 => bz x2.1 (some (x2.1, x2.2.1, x2.2.2.1, x2.2.2.2))
set_option maxHeartbeats 4000000 in
set_option maxRecDepth 100000 in
theorem c_X4_bracePresent (l : Launch) (D : va_G) (cI cZ cS : ClassId) (a : Nat) (q : Nat → Nat) (qN : Nat → Nat) (qD : Nat → Nat) (oo : OS) (on : OS) (od : OS) (odw : OS) (odp : OS) (x : (Int32 × OS × OS × OS)) (hf : f_X4_bracePresent oo on od odw odp = some x) : Ct l yX4_bracePresent cX4_bracePresent 1 (some .boolean) 3 68 D cI cZ cS [.ref a] (bX4 cI cZ a q oo ++ (bX3 cI (q 0) qN on ++ (bX0 cI (q 12) qD od ++ (bX1 (qD 13) odw ++ bX1 (qD 14) odp)))) (some (.int x.1)) (bX4 cI cZ a q oo ++ (bX3 cI (q 0) qN on ++ (bX0 cI (q 12) qD x.2.1 ++ (bX1 (qD 13) x.2.2.1 ++ bX1 (qD 14) x.2.2.2)))) := by
  intro sz
  refine Met.ofW (cc := cX4_bracePresent) (maxL := 1) (ret := (some .boolean)) (by decide +kernel) rfl ?_
  intro p e s m args below meth c s₁ B hml hv
  obtain ⟨rfl, hsz, hP, hK, hD0⟩ := hv
  have hx := B.exec
  have hb := B.bytes
  have hr := B.returns
  have hts0 := atoms_spec (ws := .code yX4_bracePresent cX4_bracePresent 1 (some .boolean) :: TB) B.pre
  have hts := fun w (h : w ∈ TB) => hts0 w (List.mem_cons_of_mem _ h)
  have hown : s.vm.findClass RX4 = some m.cls := findClass_of_methodNamed B.named
  have hlocks := B.notSynchronized
  subst hsz
  have hD := hD0.self (sz := s.heap.size)
  generalize hAe : va_A (bX4 cI cZ a q oo ++ (bX3 cI (q 0) qN on ++ (bX0 cI (q 12) qD od ++ (bX1 (qD 13) odw ++ bX1 (qD 14) odp)))) s.heap.size = A at hD ⊢
  have hA : ∀ q : Nat, s.heap.size ≤ q → A q := fun q h => by rw [← hAe]; exact Or.inr h
  have hS : va_S A s.heap s.heap [] := va_S.rf
  obtain ⟨H, hH⟩ : ∃ H, H = s.heap := ⟨_, rfl⟩
  rw [← hH] at hP
  have hS : va_S A s.heap H [] := by rw [hH]; exact hS
  have hl := lv_entry ([.ref a]) (n := 1) (Nat.le_of_ble_eq_true rfl)
  rw [lg_entry_eq]
  generalize (lg_sl ([.ref a]) ++ List.replicate (1 - (lg_sl ([.ref a])).length) Slot.unset).toArray = ls at hl ⊢
  have hl : lv_has ls 1 [(0, .ref a)] := hl
  refine W_heap hH ?_
  obtain ⟨locs, hlo⟩ : ∃ locs : List Loc, locs = [] := ⟨_, rfl⟩
  rw [← hlo] at hS ⊢
  unfold f_X4_bracePresent at hf
  refine lv_aload_n (pc := 0) hx hb dX4_bracePresent_0 rfl (lv_at hl 0 rfl) ?_
  refine va_get (pc := 1) (D := D) (ci := 4) (v := .ref (q 12)) (C := RX4) (T := TX4) (N := 13) hx hb hts iX4 hown hK.1 hP 0 rfl rfl 12 (by decide) (hts _ fl_RX4_54) (fun _ h => h) rfl dX4_bracePresent_1 ?_
  refine lv_aload_n (pc := 4) hx hb dX4_bracePresent_4 rfl (lv_at hl 0 rfl) ?_
  refine va_get (pc := 5) (D := D) (ci := 4) (v := .ref (q 0)) (C := RX4) (T := TX4) (N := 13) hx hb hts iX4 hown hK.1 hP 0 rfl rfl 0 (by decide) (hts _ fl_RX4_12) (fun _ h => h) rfl dX4_bracePresent_5 ?_
  obtain ⟨x1, ex1, hf⟩ := bd_some hf
  refine ct_V (pc := 8) (As := [.ref (q 0)]) (rest := []) (wr := bX4 cI cZ a q oo ++ (bX1 (qD 13) odw ++ bX1 (qD 14) odp)) (W1 := bX4 cI cZ a q oo ++ (bX3 cI (q 0) qN on ++ (bX0 cI (q 12) qD x1 ++ (bX1 (qD 13) odw ++ bX1 (qD 14) odp)))) ⟨hx, hb, hml, hown, hts⟩ hK (c_X0_takePiles l D cI cZ cS (q 12) qD (q 0) qN od on x1 ex1) gv_RX4_263 rfl hs_X0_takePiles rfl ⟨Nat.le_of_ble_eq_true rfl, Nat.le_of_ble_eq_true rfl⟩ (ci := 0) (q0 := 13) rfl rfl rfl hl.1 rfl (Nat.le_of_ble_eq_true rfl) dX4_bracePresent_8 ⟨Nat.zero_le _, Nat.zero_le _⟩ hP hD hS hA [13, 14, 15, 16, 17, 5, 6, 7, 8, 9, 10, 11, 12] [0, 1, 2, 3, 4, 18, 19] [0, 1, 2, 3, 4, 12, 13, 14, 15, 16, 17, 18, 19, 7, 8, 9, 10, 11, 5, 6] rfl rfl (by decide +kernel) (by decide +kernel) (by decide +kernel) (by decide +kernel) rfl (fun H locs hP hD hS => ?_)
  refine lv_aload_n (pc := 11) hx hb dX4_bracePresent_11 rfl (lv_at hl 0 rfl) ?_
  refine va_get (pc := 12) (D := D) (ci := 4) (v := .ref (q 12)) (C := RX4) (T := TX4) (N := 13) hx hb hts iX4 hown hK.1 hP 0 rfl rfl 12 (by decide) (hts _ fl_RX4_54) (fun _ h => h) rfl dX4_bracePresent_12 ?_
  refine lv_aload_n (pc := 15) hx hb dX4_bracePresent_15 rfl (lv_at hl 0 rfl) ?_
  refine va_get (pc := 16) (D := D) (ci := 4) (v := .ref (q 0)) (C := RX4) (T := TX4) (N := 13) hx hb hts iX4 hown hK.1 hP 0 rfl rfl 0 (by decide) (hts _ fl_RX4_12) (fun _ h => h) rfl dX4_bracePresent_16 ?_
  refine va_getN (pc := 19) (D := D) (ci := 3) (v := .int (on.1 5)) (C := RX3) (T := TX3) (N := 12) hx hb hts iX3 hown hK.1 hP 5 rfl rfl 5 (by decide) (va_Nw.use rfl (hK.2 _ nf_RX4_105)) (fun _ h => h) rfl dX4_bracePresent_19 ?_
  obtain ⟨x2, ex2, hf⟩ := bd_some hf
  refine ct_V (pc := 22) (As := [.int (on.1 5)]) (rest := []) (wr := bX4 cI cZ a q oo ++ bX3 cI (q 0) qN on) (W1 := bX4 cI cZ a q oo ++ (bX3 cI (q 0) qN on ++ (bX0 cI (q 12) qD x2.2.1 ++ (bX1 (qD 13) x2.2.2.1 ++ bX1 (qD 14) x2.2.2.2)))) ⟨hx, hb, hml, hown, hts⟩ hK (c_X0_braceAll l D cI cZ cS (q 12) qD (on.1 5) x1 odw odp x2 ex2) gv_RX4_289 rfl hs_X0_braceAll rfl ⟨Nat.le_of_ble_eq_true rfl, Nat.le_of_ble_eq_true rfl⟩ (ci := 0) (q0 := 13) rfl rfl rfl hl.1 rfl (Nat.le_of_ble_eq_true rfl) dX4_bracePresent_22 ⟨Nat.zero_le _, Nat.zero_le _⟩ hP hD hS hA [13, 14, 15, 16, 17, 18, 19] [0, 1, 2, 3, 4, 5, 6, 7, 8, 9, 10, 11, 12] [0, 1, 2, 3, 4, 5, 6, 7, 8, 9, 10, 11, 12, 13, 14, 15, 16, 17, 18, 19] rfl rfl (by decide +kernel) (by decide +kernel) (by decide +kernel) (by decide +kernel) rfl (fun H locs hP hD hS => ?_)
  obtain ⟨h3, hf⟩ := bz_some hf
  obtain rfl := Option.some.inj hf
  exact W.zret hx hb hr h3 (fun t ht hW => ⟨rfl, by rw [ht]; exact hP, hD, hS.F ht⟩) hS.2.2 dX4_bracePresent_25
def f_X4_kern (i0 : Int32) (i1 : Int32) (oo : OS) (on : OS) (od : OS) (odw : OS) (odp : OS) : Option (Int32 × OS × OS × OS) := Option.bind (f_X4_isPlace i0 i1) fun x1 => if x1 = 0 then some ((-1), od, odw, odp) else Option.bind (f_X4_bracePresent oo on od odw odp) fun x3 => if x3.1 = 0 then some ((-9), x3.2.1, x3.2.2.1, x3.2.2.2) else Option.bind (f_X0_pullsNoPile i0 i1 x3.2.1 x3.2.2.2) fun x5 => if x5.1 = 0 then some (0, x3.2.1, x3.2.2.1, x5.2) else some (1, x3.2.1, x3.2.2.1, x5.2)
set_option maxHeartbeats 4000000 in
set_option maxRecDepth 100000 in
theorem c_X4_kern (l : Launch) (D : va_G) (cI cZ cS : ClassId) (a : Nat) (q : Nat → Nat) (qN : Nat → Nat) (qD : Nat → Nat) (i0 : Int32) (i1 : Int32) (oo : OS) (on : OS) (od : OS) (odw : OS) (odp : OS) (x : (Int32 × OS × OS × OS)) (hf : f_X4_kern i0 i1 oo on od odw odp = some x) : Ct l yX4_kern cX4_kern 3 (some .int) 4 88 D cI cZ cS [.ref a, .int i0, .int i1] (bX4 cI cZ a q oo ++ (bX3 cI (q 0) qN on ++ (bX0 cI (q 12) qD od ++ (bX1 (qD 13) odw ++ bX1 (qD 14) odp)))) (some (.int x.1)) (bX4 cI cZ a q oo ++ (bX3 cI (q 0) qN on ++ (bX0 cI (q 12) qD x.2.1 ++ (bX1 (qD 13) x.2.2.1 ++ bX1 (qD 14) x.2.2.2)))) := by
  intro sz
  refine Met.ofW (cc := cX4_kern) (maxL := 3) (ret := (some .int)) (by decide +kernel) rfl ?_
  intro p e s m args below meth c s₁ B hml hv
  obtain ⟨rfl, hsz, hP, hK, hD0⟩ := hv
  have hx := B.exec
  have hb := B.bytes
  have hr := B.returns
  have hts0 := atoms_spec (ws := .code yX4_kern cX4_kern 3 (some .int) :: TB) B.pre
  have hts := fun w (h : w ∈ TB) => hts0 w (List.mem_cons_of_mem _ h)
  have hown : s.vm.findClass RX4 = some m.cls := findClass_of_methodNamed B.named
  have hlocks := B.notSynchronized
  subst hsz
  have hD := hD0.self (sz := s.heap.size)
  generalize hAe : va_A (bX4 cI cZ a q oo ++ (bX3 cI (q 0) qN on ++ (bX0 cI (q 12) qD od ++ (bX1 (qD 13) odw ++ bX1 (qD 14) odp)))) s.heap.size = A at hD ⊢
  have hA : ∀ q : Nat, s.heap.size ≤ q → A q := fun q h => by rw [← hAe]; exact Or.inr h
  have hS : va_S A s.heap s.heap [] := va_S.rf
  obtain ⟨H, hH⟩ : ∃ H, H = s.heap := ⟨_, rfl⟩
  rw [← hH] at hP
  have hS : va_S A s.heap H [] := by rw [hH]; exact hS
  have hl := lv_entry ([.ref a, .int i0, .int i1]) (n := 3) (Nat.le_of_ble_eq_true rfl)
  rw [lg_entry_eq]
  generalize (lg_sl ([.ref a, .int i0, .int i1]) ++ List.replicate (3 - (lg_sl ([.ref a, .int i0, .int i1])).length) Slot.unset).toArray = ls at hl ⊢
  have hl : lv_has ls 3 [(0, .ref a), (1, .int i0), (2, .int i1)] := hl
  refine W_heap hH ?_
  obtain ⟨locs, hlo⟩ : ∃ locs : List Loc, locs = [] := ⟨_, rfl⟩
  rw [← hlo] at hS ⊢
  unfold f_X4_kern at hf
  refine lv_iload_n (pc := 0) hx hb dX4_kern_0 rfl (lv_at hl 1 rfl) ?_
  refine lv_iload_n (pc := 1) hx hb dX4_kern_1 rfl (lv_at hl 2 rfl) ?_
  obtain ⟨x1, ex1, hf⟩ := bd_some hf
  refine ct_S0 (pc := 2) (As := [.int i0, .int i1]) (rest := []) ⟨hx, hb, hml, hown, hts⟩ hK (c_X4_isPlace l D cI cZ cS i0 i1 x1 ex1) gs_RX4_79 hs_X4_isPlace rfl ⟨Nat.le_of_ble_eq_true rfl, Nat.le_of_ble_eq_true rfl⟩ hl.1 rfl (Nat.le_of_ble_eq_true rfl) dX4_kern_2 ⟨Nat.zero_le _, Nat.zero_le _⟩ hP hS hA (fun H locs hP hS => ?_)
  refine lv_if_ne (pc := 5) (tgt := 10) hx hb dX4_kern_5 (by decide) (fun c2 => ?_) (fun c2 => ?_)
  · replace hf := im c2 hf
    refine lv_aload_n (pc := 10) hx hb dX4_kern_10 rfl (lv_at hl 0 rfl) ?_
    obtain ⟨x3, ex3, hf⟩ := bd_some hf
    refine ct_V1 (pc := 11) (As := []) (rest := []) (W1 := bX4 cI cZ a q oo ++ (bX3 cI (q 0) qN on ++ (bX0 cI (q 12) qD x3.2.1 ++ (bX1 (qD 13) x3.2.2.1 ++ bX1 (qD 14) x3.2.2.2)))) ⟨hx, hb, hml, hown, hts⟩ hK (c_X4_bracePresent l D cI cZ cS a q qN qD oo on od odw odp x3 ex3) gv_RX4_215 rfl hs_X4_bracePresent rfl ⟨Nat.le_of_ble_eq_true rfl, Nat.le_of_ble_eq_true rfl⟩ (ci := 4) (q0 := 0) rfl rfl rfl hl.1 rfl (Nat.le_of_ble_eq_true rfl) dX4_kern_11 ⟨Nat.zero_le _, Nat.zero_le _⟩ hP hD hS hA (fun H locs hP hD hS => ?_)
    refine lv_if_ne (pc := 14) (tgt := 20) hx hb dX4_kern_14 (by decide) (fun c4 => ?_) (fun c4 => ?_)
    · replace hf := im c4 hf
      refine lv_aload_n (pc := 20) hx hb dX4_kern_20 rfl (lv_at hl 0 rfl) ?_
      refine va_get (pc := 21) (D := D) (ci := 4) (v := .ref (q 12)) (C := RX4) (T := TX4) (N := 13) hx hb hts iX4 hown hK.1 hP 0 rfl rfl 12 (by decide) (hts _ fl_RX4_54) (fun _ h => h) rfl dX4_kern_21 ?_
      refine lv_iload_n (pc := 24) hx hb dX4_kern_24 rfl (lv_at hl 1 rfl) ?_
      refine lv_iload_n (pc := 25) hx hb dX4_kern_25 rfl (lv_at hl 2 rfl) ?_
      obtain ⟨x5, ex5, hf⟩ := bd_some hf
      refine ct_V (pc := 26) (As := [.int i0, .int i1]) (rest := []) (wr := bX4 cI cZ a q oo ++ (bX3 cI (q 0) qN on ++ bX1 (qD 13) x3.2.2.1)) (W1 := bX4 cI cZ a q oo ++ (bX3 cI (q 0) qN on ++ (bX0 cI (q 12) qD x3.2.1 ++ (bX1 (qD 13) x3.2.2.1 ++ bX1 (qD 14) x5.2)))) ⟨hx, hb, hml, hown, hts⟩ hK (c_X0_pullsNoPile l D cI cZ cS (q 12) qD i0 i1 x3.2.1 x3.2.2.2 x5 ex5) gv_RX4_219 rfl hs_X0_pullsNoPile rfl ⟨Nat.le_of_ble_eq_true rfl, Nat.le_of_ble_eq_true rfl⟩ (ci := 0) (q0 := 13) rfl rfl rfl hl.1 rfl (Nat.le_of_ble_eq_true rfl) dX4_kern_26 ⟨Nat.zero_le _, Nat.zero_le _⟩ hP hD hS hA [13, 14, 15, 16, 17, 19] [0, 1, 2, 3, 4, 5, 6, 7, 8, 9, 10, 11, 12, 18] [0, 1, 2, 3, 4, 5, 6, 7, 8, 9, 10, 11, 12, 14, 15, 16, 17, 18, 13, 19] rfl rfl (by decide +kernel) (by decide +kernel) (by decide +kernel) (by decide +kernel) rfl (fun H locs hP hD hS => ?_)
      refine lv_if_eq (pc := 29) (tgt := 36) hx hb dX4_kern_29 (by decide) (fun c6 => ?_) (fun c6 => ?_)
      · replace hf := ip c6 hf
        refine lv_iconst (v := 0) (pc := 36) hx hb dX4_kern_36 (by decide) ?_
        obtain rfl := Option.some.inj hf
        exact W.iret hx hb hr (fun t ht hW => ⟨rfl, by rw [ht]; exact hP, hD, hS.F ht⟩) hS.2.2 dX4_kern_37
      · replace hf := im c6 hf
        refine lv_iconst (v := 1) (pc := 32) hx hb dX4_kern_32 (by decide) ?_
        refine lv_goto (pc := 33) (tgt := 37) hx hb dX4_kern_33 (by decide) ?_
        obtain rfl := Option.some.inj hf
        exact W.iret hx hb hr (fun t ht hW => ⟨rfl, by rw [ht]; exact hP, hD, hS.F ht⟩) hS.2.2 dX4_kern_37
    · replace hf := ip c4 hf
      refine lv_bipush (v := -9) (pc := 17) hx hb dX4_kern_17 (by decide) ?_
      obtain rfl := Option.some.inj hf
      exact W.iret hx hb hr (fun t ht hW => ⟨rfl, by rw [ht]; exact hP, hD, hS.F ht⟩) hS.2.2 dX4_kern_19
  · replace hf := ip c2 hf
    refine lv_iconst (v := -1) (pc := 8) hx hb dX4_kern_8 (by decide) ?_
    obtain rfl := Option.some.inj hf
    exact W.iret hx hb hr (fun t ht hW => ⟨rfl, by rw [ht]; exact hP, hD, hS.F ht⟩) hS.2.2 dX4_kern_9
def f_X4_xOf (i0 : Int32) : Option Int32 := some ((i0 / 19) - 9)
set_option maxHeartbeats 4000000 in
set_option maxRecDepth 100000 in
theorem c_X4_xOf (l : Launch) (D : va_G) (cI cZ cS : ClassId) (i0 : Int32) (x : Int32) (hf : f_X4_xOf i0 = some x) : Ct l yX4_xOf cX4_xOf 1 (some .int) 0 0 D cI cZ cS [.int i0] ([]) (some (.int x)) ([]) := by
  intro sz
  refine Met.ofW (cc := cX4_xOf) (maxL := 1) (ret := (some .int)) (by decide +kernel) rfl ?_
  intro p e s m args below meth c s₁ B hml hv
  obtain ⟨rfl, hsz, hP, hK, hD0⟩ := hv
  have hx := B.exec
  have hb := B.bytes
  have hr := B.returns
  have hts0 := atoms_spec (ws := .code yX4_xOf cX4_xOf 1 (some .int) :: TB) B.pre
  have hts := fun w (h : w ∈ TB) => hts0 w (List.mem_cons_of_mem _ h)
  have hown : s.vm.findClass RX4 = some m.cls := findClass_of_methodNamed B.named
  have hlocks := B.notSynchronized
  subst hsz
  have hD := hD0.self (sz := s.heap.size)
  generalize hAe : va_A ([]) s.heap.size = A at hD ⊢
  have hA : ∀ q : Nat, s.heap.size ≤ q → A q := fun q h => by rw [← hAe]; exact Or.inr h
  have hS : va_S A s.heap s.heap [] := va_S.rf
  obtain ⟨H, hH⟩ : ∃ H, H = s.heap := ⟨_, rfl⟩
  rw [← hH] at hP
  have hS : va_S A s.heap H [] := by rw [hH]; exact hS
  have hl := lv_entry ([.int i0]) (n := 1) (Nat.le_of_ble_eq_true rfl)
  rw [lg_entry_eq]
  generalize (lg_sl ([.int i0]) ++ List.replicate (1 - (lg_sl ([.int i0])).length) Slot.unset).toArray = ls at hl ⊢
  have hl : lv_has ls 1 [(0, .int i0)] := hl
  refine W_heap hH ?_
  obtain ⟨locs, hlo⟩ : ∃ locs : List Loc, locs = [] := ⟨_, rfl⟩
  rw [← hlo] at hS ⊢
  unfold f_X4_xOf at hf
  refine lv_iload_n (pc := 0) hx hb dX4_xOf_0 rfl (lv_at hl 0 rfl) ?_
  refine lv_bipush (v := 19) (pc := 1) hx hb dX4_xOf_1 (by decide) ?_
  refine lv_idiv (pc := 3) hx hb dX4_xOf_3 (by decide) ?_
  refine lv_bipush (v := 9) (pc := 4) hx hb dX4_xOf_4 (by decide) ?_
  refine lv_isub (pc := 6) hx hb dX4_xOf_6 ?_
  obtain rfl := Option.some.inj hf
  exact W.iret hx hb hr (fun t ht hW => ⟨rfl, by rw [ht]; exact hP, hD, hS.F ht⟩) hS.2.2 dX4_xOf_7
def f_X4_yOf (i0 : Int32) : Option Int32 := some ((i0 - i0 / 19 * 19) - 9)
set_option maxHeartbeats 4000000 in
set_option maxRecDepth 100000 in
theorem c_X4_yOf (l : Launch) (D : va_G) (cI cZ cS : ClassId) (i0 : Int32) (x : Int32) (hf : f_X4_yOf i0 = some x) : Ct l yX4_yOf cX4_yOf 1 (some .int) 0 0 D cI cZ cS [.int i0] ([]) (some (.int x)) ([]) := by
  intro sz
  refine Met.ofW (cc := cX4_yOf) (maxL := 1) (ret := (some .int)) (by decide +kernel) rfl ?_
  intro p e s m args below meth c s₁ B hml hv
  obtain ⟨rfl, hsz, hP, hK, hD0⟩ := hv
  have hx := B.exec
  have hb := B.bytes
  have hr := B.returns
  have hts0 := atoms_spec (ws := .code yX4_yOf cX4_yOf 1 (some .int) :: TB) B.pre
  have hts := fun w (h : w ∈ TB) => hts0 w (List.mem_cons_of_mem _ h)
  have hown : s.vm.findClass RX4 = some m.cls := findClass_of_methodNamed B.named
  have hlocks := B.notSynchronized
  subst hsz
  have hD := hD0.self (sz := s.heap.size)
  generalize hAe : va_A ([]) s.heap.size = A at hD ⊢
  have hA : ∀ q : Nat, s.heap.size ≤ q → A q := fun q h => by rw [← hAe]; exact Or.inr h
  have hS : va_S A s.heap s.heap [] := va_S.rf
  obtain ⟨H, hH⟩ : ∃ H, H = s.heap := ⟨_, rfl⟩
  rw [← hH] at hP
  have hS : va_S A s.heap H [] := by rw [hH]; exact hS
  have hl := lv_entry ([.int i0]) (n := 1) (Nat.le_of_ble_eq_true rfl)
  rw [lg_entry_eq]
  generalize (lg_sl ([.int i0]) ++ List.replicate (1 - (lg_sl ([.int i0])).length) Slot.unset).toArray = ls at hl ⊢
  have hl : lv_has ls 1 [(0, .int i0)] := hl
  refine W_heap hH ?_
  obtain ⟨locs, hlo⟩ : ∃ locs : List Loc, locs = [] := ⟨_, rfl⟩
  rw [← hlo] at hS ⊢
  unfold f_X4_yOf at hf
  refine lv_iload_n (pc := 0) hx hb dX4_yOf_0 rfl (lv_at hl 0 rfl) ?_
  refine lv_bipush (v := 19) (pc := 1) hx hb dX4_yOf_1 (by decide) ?_
  refine lv_irem (pc := 3) hx hb dX4_yOf_3 (by decide) ?_
  refine lv_bipush (v := 9) (pc := 4) hx hb dX4_yOf_4 (by decide) ?_
  refine lv_isub (pc := 6) hx hb dX4_yOf_6 ?_
  obtain rfl := Option.some.inj hf
  exact W.iret hx hb hr (fun t ht hW => ⟨rfl, by rw [ht]; exact hP, hD, hS.F ht⟩) hS.2.2 dX4_yOf_7
def lp_X4_kerns_29 (u_O : OS) (u_D : OS) : Nat → Int32 → Int32 → Int32 → OS → Option (Int32 × Int32 × Int32 × OS)
  | 0, _, _, _, _ => none
  | n + 1, v2, v3, v4, w_DP => if 361 ≤ v4 then some (v2, v3, v4, w_DP) else Option.bind (f_X4_xOf v4) fun x10 => Option.bind (f_X4_yOf v4) fun x11 => Option.bind (f_X0_pullsNoPile x10 x11 u_D w_DP) fun x12 => if x12.1 = 0 then lp_X4_kerns_29 u_O u_D n v2 v3 (v4 + 1) x12.2 else if v3 = (-9) then lp_X4_kerns_29 u_O u_D n (v2 + 1) v4 (v4 + 1) x12.2 else lp_X4_kerns_29 u_O u_D n (v2 + 1) v3 (v4 + 1) x12.2
def f_X4_kerns (i0 : Int32) (oo : OS) (on : OS) (od : OS) (odw : OS) (odp : OS) : Option (Int32 × OS × OS × OS) := if i0 < 0 then some ((-1), od, odw, odp) else if i0 ≤ 1 then Option.bind (f_X4_bracePresent oo on od odw odp) fun x3 => if x3.1 = 0 then some ((-9), x3.2.1, x3.2.2.1, x3.2.2.2) else Option.bind (lp_X4_kerns_29 oo x3.2.1 1000 0 (-9) 0 x3.2.2.2) fun z5 => if i0 = 0 then some (z5.1, x3.2.1, x3.2.2.1, z5.2.2.2) else some (z5.2.1, x3.2.1, x3.2.2.1, z5.2.2.2) else some ((-1), od, odw, odp)
set_option maxHeartbeats 4000000 in
set_option maxRecDepth 100000 in
theorem c_X4_kerns (l : Launch) (D : va_G) (cI cZ cS : ClassId) (a : Nat) (q : Nat → Nat) (qN : Nat → Nat) (qD : Nat → Nat) (i0 : Int32) (oo : OS) (on : OS) (od : OS) (odw : OS) (odp : OS) (x : (Int32 × OS × OS × OS)) (hf : f_X4_kerns i0 oo on od odw odp = some x) : Ct l yX4_kerns cX4_kerns 5 (some .int) 4 88 D cI cZ cS [.ref a, .int i0] (bX4 cI cZ a q oo ++ (bX3 cI (q 0) qN on ++ (bX0 cI (q 12) qD od ++ (bX1 (qD 13) odw ++ bX1 (qD 14) odp)))) (some (.int x.1)) (bX4 cI cZ a q oo ++ (bX3 cI (q 0) qN on ++ (bX0 cI (q 12) qD x.2.1 ++ (bX1 (qD 13) x.2.2.1 ++ bX1 (qD 14) x.2.2.2)))) := by
  intro sz
  refine Met.ofW (cc := cX4_kerns) (maxL := 5) (ret := (some .int)) (by decide +kernel) rfl ?_
  intro p e s m args below meth c s₁ B hml hv
  obtain ⟨rfl, hsz, hP, hK, hD0⟩ := hv
  have hx := B.exec
  have hb := B.bytes
  have hr := B.returns
  have hts0 := atoms_spec (ws := .code yX4_kerns cX4_kerns 5 (some .int) :: TB) B.pre
  have hts := fun w (h : w ∈ TB) => hts0 w (List.mem_cons_of_mem _ h)
  have hown : s.vm.findClass RX4 = some m.cls := findClass_of_methodNamed B.named
  have hlocks := B.notSynchronized
  subst hsz
  have hD := hD0.self (sz := s.heap.size)
  generalize hAe : va_A (bX4 cI cZ a q oo ++ (bX3 cI (q 0) qN on ++ (bX0 cI (q 12) qD od ++ (bX1 (qD 13) odw ++ bX1 (qD 14) odp)))) s.heap.size = A at hD ⊢
  have hA : ∀ q : Nat, s.heap.size ≤ q → A q := fun q h => by rw [← hAe]; exact Or.inr h
  have hS : va_S A s.heap s.heap [] := va_S.rf
  obtain ⟨H, hH⟩ : ∃ H, H = s.heap := ⟨_, rfl⟩
  rw [← hH] at hP
  have hS : va_S A s.heap H [] := by rw [hH]; exact hS
  have hl := lv_entry ([.ref a, .int i0]) (n := 5) (Nat.le_of_ble_eq_true rfl)
  rw [lg_entry_eq]
  generalize (lg_sl ([.ref a, .int i0]) ++ List.replicate (5 - (lg_sl ([.ref a, .int i0])).length) Slot.unset).toArray = ls at hl ⊢
  have hl : lv_has ls 5 [(0, .ref a), (1, .int i0)] := hl
  refine W_heap hH ?_
  obtain ⟨locs, hlo⟩ : ∃ locs : List Loc, locs = [] := ⟨_, rfl⟩
  rw [← hlo] at hS ⊢
  unfold f_X4_kerns at hf
  refine lv_iload_n (pc := 0) hx hb dX4_kerns_0 rfl (lv_at hl 1 rfl) ?_
  refine lv_if_lt (pc := 1) (tgt := 9) hx hb dX4_kerns_1 (by decide) (fun c1 => ?_) (fun c1 => ?_)
  · replace hf := ip c1 hf
    refine lv_iconst (v := -1) (pc := 9) hx hb dX4_kerns_9 (by decide) ?_
    obtain rfl := Option.some.inj hf
    exact W.iret hx hb hr (fun t ht hW => ⟨rfl, by rw [ht]; exact hP, hD, hS.F ht⟩) hS.2.2 dX4_kerns_10
  · replace hf := im c1 hf
    refine lv_iload_n (pc := 4) hx hb dX4_kerns_4 rfl (lv_at hl 1 rfl) ?_
    refine lv_iconst (v := 1) (pc := 5) hx hb dX4_kerns_5 (by decide) ?_
    refine lv_icmp_le (pc := 6) (tgt := 11) hx hb dX4_kerns_6 (by decide) (fun c2 => ?_) (fun c2 => ?_)
    · replace hf := ip c2 hf
      refine lv_aload_n (pc := 11) hx hb dX4_kerns_11 rfl (lv_at hl 0 rfl) ?_
      obtain ⟨x3, ex3, hf⟩ := bd_some hf
      refine ct_V1 (pc := 12) (As := []) (rest := []) (W1 := bX4 cI cZ a q oo ++ (bX3 cI (q 0) qN on ++ (bX0 cI (q 12) qD x3.2.1 ++ (bX1 (qD 13) x3.2.2.1 ++ bX1 (qD 14) x3.2.2.2)))) ⟨hx, hb, hml, hown, hts⟩ hK (c_X4_bracePresent l D cI cZ cS a q qN qD oo on od odw odp x3 ex3) gv_RX4_215 rfl hs_X4_bracePresent rfl ⟨Nat.le_of_ble_eq_true rfl, Nat.le_of_ble_eq_true rfl⟩ (ci := 4) (q0 := 0) rfl rfl rfl hl.1 rfl (Nat.le_of_ble_eq_true rfl) dX4_kerns_12 ⟨Nat.zero_le _, Nat.zero_le _⟩ hP hD hS hA (fun H locs hP hD hS => ?_)
      refine lv_if_ne (pc := 15) (tgt := 21) hx hb dX4_kerns_15 (by decide) (fun c4 => ?_) (fun c4 => ?_)
      · replace hf := im c4 hf
        refine lv_iconst (v := 0) (pc := 21) hx hb dX4_kerns_21 (by decide) ?_
        refine lv_istore_n (lv' := [(2, .int 0), (0, .ref a), (1, .int i0)]) (pc := 22) hx hb dX4_kerns_22 rfl hl (by decide) rfl (fun ls hl => ?_)
        refine lv_bipush (v := -9) (pc := 23) hx hb dX4_kerns_23 (by decide) ?_
        refine lv_istore_n (lv' := [(3, .int (-9)), (2, .int 0), (0, .ref a), (1, .int i0)]) (pc := 25) hx hb dX4_kerns_25 rfl hl (by decide) rfl (fun ls hl => ?_)
        refine lv_iconst (v := 0) (pc := 26) hx hb dX4_kerns_26 (by decide) ?_
        refine lv_istore (lv' := [(4, .int 0), (3, .int (-9)), (2, .int 0), (0, .ref a), (1, .int i0)]) (pc := 27) hx hb dX4_kerns_27 hl (by decide) rfl (fun ls hl => ?_)
        obtain ⟨z5, hz5, hf⟩ := bd_some hf
        have hfz5 := hf
        clear hf
        have K6 : ∀ (H : Heap) (locs : List Loc) (ls : Array Slot), va_P D vwCl (bX4 cI cZ a q oo ++ (bX3 cI (q 0) qN on ++ (bX0 cI (q 12) qD x3.2.1 ++ (bX1 (qD 13) x3.2.2.1 ++ bX1 (qD 14) z5.2.2.2)))) H → va_D A (bX4 cI cZ a q oo ++ (bX3 cI (q 0) qN on ++ (bX0 cI (q 12) qD x3.2.1 ++ (bX1 (qD 13) x3.2.2.1 ++ bX1 (qD 14) z5.2.2.2)))) → va_S A s.heap H locs → lv_has ls 5 [(0, .ref a), (1, .int i0), (2, .int z5.1), (3, .int z5.2.1), (4, .int z5.2.2.1)] → GW l yX4_kerns cX4_kerns 5 (some .int) 4 88 D [.ref a, .int i0] (some (.int x.1)) (bX4 cI cZ a q oo ++ (bX3 cI (q 0) qN on ++ (bX0 cI (q 12) qD x.2.1 ++ (bX1 (qD 13) x.2.2.1 ++ bX1 (qD 14) x.2.2.2)))) A p e s m below meth c H locs (F0 m 75 ls []) := by
          intro H locs ls hP hD hS hl
          have hf := hfz5
          refine lv_iload_n (pc := 75) hx hb dX4_kerns_75 rfl (lv_at hl 1 rfl) ?_
          refine lv_if_ne (pc := 76) (tgt := 83) hx hb dX4_kerns_76 (by decide) (fun c8 => ?_) (fun c8 => ?_)
          · replace hf := im c8 hf
            refine lv_iload_n (pc := 83) hx hb dX4_kerns_83 rfl (lv_at hl 3 rfl) ?_
            obtain rfl := Option.some.inj hf
            exact W.iret hx hb hr (fun t ht hW => ⟨rfl, by rw [ht]; exact hP, hD, hS.F ht⟩) hS.2.2 dX4_kerns_84
          · replace hf := ip c8 hf
            refine lv_iload_n (pc := 79) hx hb dX4_kerns_79 rfl (lv_at hl 2 rfl) ?_
            refine lv_goto (pc := 80) (tgt := 84) hx hb dX4_kerns_80 (by decide) ?_
            obtain rfl := Option.some.inj hf
            exact W.iret hx hb hr (fun t ht hW => ⟨rfl, by rw [ht]; exact hP, hD, hS.F ht⟩) hS.2.2 dX4_kerns_84
        have KL7 : ∀ (n : Nat) (v2 : Int32) (v3 : Int32) (v4 : Int32) (w_DP : OS) (H : Heap) (locs : List Loc) (ls : Array Slot), lp_X4_kerns_29 oo x3.2.1 n v2 v3 v4 w_DP = some z5 → va_P D vwCl (bX4 cI cZ a q oo ++ (bX3 cI (q 0) qN on ++ (bX0 cI (q 12) qD x3.2.1 ++ (bX1 (qD 13) x3.2.2.1 ++ bX1 (qD 14) w_DP)))) H → va_D A (bX4 cI cZ a q oo ++ (bX3 cI (q 0) qN on ++ (bX0 cI (q 12) qD x3.2.1 ++ (bX1 (qD 13) x3.2.2.1 ++ bX1 (qD 14) w_DP)))) → va_S A s.heap H locs → lv_has ls 5 [(0, .ref a), (1, .int i0), (2, .int v2), (3, .int v3), (4, .int v4)] → GW l yX4_kerns cX4_kerns 5 (some .int) 4 88 D [.ref a, .int i0] (some (.int x.1)) (bX4 cI cZ a q oo ++ (bX3 cI (q 0) qN on ++ (bX0 cI (q 12) qD x.2.1 ++ (bX1 (qD 13) x.2.2.1 ++ bX1 (qD 14) x.2.2.2)))) A p e s m below meth c H locs (F0 m 29 ls []) := by
          intro n
          induction n with
          | zero => intro v2 v3 v4 w_DP H locs ls hf; cases hf
          | succ n ih =>
            intro v2 v3 v4 w_DP H locs ls hf hP hD hS hl
            rw [lp_X4_kerns_29] at hf
            refine lv_iload (pc := 29) hx hb dX4_kerns_29 (lv_at hl 4 rfl) ?_
            refine lv_sipush (v := 361) (pc := 31) hx hb dX4_kerns_31 (by decide) ?_
            refine lv_icmp_ge (pc := 34) (tgt := 75) hx hb dX4_kerns_34 (by decide) (fun c9 => ?_) (fun c9 => ?_)
            · replace hf := ip c9 hf
              obtain rfl := Option.some.inj hf
              exact K6 H locs ls hP hD hS (lv_sub hl [0, 1, 2, 3, 4] rfl)
            · replace hf := im c9 hf
              refine lv_aload_n (pc := 37) hx hb dX4_kerns_37 rfl (lv_at hl 0 rfl) ?_
              refine va_get (pc := 38) (D := D) (ci := 4) (v := .ref (q 12)) (C := RX4) (T := TX4) (N := 13) hx hb hts iX4 hown hK.1 hP 0 rfl rfl 12 (by decide) (hts _ fl_RX4_54) (fun _ h => h) rfl dX4_kerns_38 ?_
              refine lv_iload (pc := 41) hx hb dX4_kerns_41 (lv_at hl 4 rfl) ?_
              obtain ⟨x10, ex10, hf⟩ := bd_some hf
              refine ct_S0 (pc := 43) (As := [.int v4]) (rest := [.ref (q 12)]) ⟨hx, hb, hml, hown, hts⟩ hK (c_X4_xOf l D cI cZ cS v4 x10 ex10) gs_RX4_222 hs_X4_xOf rfl ⟨Nat.le_of_ble_eq_true rfl, Nat.le_of_ble_eq_true rfl⟩ hl.1 rfl (Nat.le_of_ble_eq_true rfl) dX4_kerns_43 ⟨Nat.zero_le _, Nat.zero_le _⟩ hP hS hA (fun H locs hP hS => ?_)
              refine lv_iload (pc := 46) hx hb dX4_kerns_46 (lv_at hl 4 rfl) ?_
              obtain ⟨x11, ex11, hf⟩ := bd_some hf
              refine ct_S0 (pc := 48) (As := [.int v4]) (rest := [.int x10, .ref (q 12)]) ⟨hx, hb, hml, hown, hts⟩ hK (c_X4_yOf l D cI cZ cS v4 x11 ex11) gs_RX4_225 hs_X4_yOf rfl ⟨Nat.le_of_ble_eq_true rfl, Nat.le_of_ble_eq_true rfl⟩ hl.1 rfl (Nat.le_of_ble_eq_true rfl) dX4_kerns_48 ⟨Nat.zero_le _, Nat.zero_le _⟩ hP hS hA (fun H locs hP hS => ?_)
              obtain ⟨x12, ex12, hf⟩ := bd_some hf
              refine ct_V (pc := 51) (As := [.int x10, .int x11]) (rest := []) (wr := bX4 cI cZ a q oo ++ (bX3 cI (q 0) qN on ++ bX1 (qD 13) x3.2.2.1)) (W1 := bX4 cI cZ a q oo ++ (bX3 cI (q 0) qN on ++ (bX0 cI (q 12) qD x3.2.1 ++ (bX1 (qD 13) x3.2.2.1 ++ bX1 (qD 14) x12.2)))) ⟨hx, hb, hml, hown, hts⟩ hK (c_X0_pullsNoPile l D cI cZ cS (q 12) qD x10 x11 x3.2.1 w_DP x12 ex12) gv_RX4_219 rfl hs_X0_pullsNoPile rfl ⟨Nat.le_of_ble_eq_true rfl, Nat.le_of_ble_eq_true rfl⟩ (ci := 0) (q0 := 13) rfl rfl rfl hl.1 rfl (Nat.le_of_ble_eq_true rfl) dX4_kerns_51 ⟨Nat.zero_le _, Nat.zero_le _⟩ hP hD hS hA [13, 14, 15, 16, 17, 19] [0, 1, 2, 3, 4, 5, 6, 7, 8, 9, 10, 11, 12, 18] [0, 1, 2, 3, 4, 5, 6, 7, 8, 9, 10, 11, 12, 14, 15, 16, 17, 18, 13, 19] rfl rfl (by decide +kernel) (by decide +kernel) (by decide +kernel) (by decide +kernel) rfl (fun H locs hP hD hS => ?_)
              refine lv_if_eq (pc := 54) (tgt := 69) hx hb dX4_kerns_54 (by decide) (fun c13 => ?_) (fun c13 => ?_)
              · replace hf := ip c13 hf
                refine lv_iinc (v := (v4 + 1)) (lv' := [(4, .int (v4 + 1)), (0, .ref a), (1, .int i0), (2, .int v2), (3, .int v3)]) (pc := 69) hx hb dX4_kerns_69 hl (k := 4) rfl rfl (by decide) rfl (fun ls hl => ?_)
                refine lv_goto (pc := 72) (tgt := 29) hx hb dX4_kerns_72 (by decide) ?_
                exact ih _ _ _ _ H locs ls hf hP hD hS (lv_sub hl [1, 2, 3, 4, 0] rfl)
              · replace hf := im c13 hf
                refine lv_iinc (v := (v2 + 1)) (lv' := [(2, .int (v2 + 1)), (0, .ref a), (1, .int i0), (3, .int v3), (4, .int v4)]) (pc := 57) hx hb dX4_kerns_57 hl (k := 2) rfl rfl (by decide) rfl (fun ls hl => ?_)
                refine lv_iload_n (pc := 60) hx hb dX4_kerns_60 rfl (lv_at hl 3 rfl) ?_
                refine lv_bipush (v := -9) (pc := 61) hx hb dX4_kerns_61 (by decide) ?_
                refine lv_icmp_ne (pc := 63) (tgt := 69) hx hb dX4_kerns_63 (by decide) (fun c14 => ?_) (fun c14 => ?_)
                · replace hf := im c14 hf
                  refine lv_iinc (v := (v4 + 1)) (lv' := [(4, .int (v4 + 1)), (2, .int (v2 + 1)), (0, .ref a), (1, .int i0), (3, .int v3)]) (pc := 69) hx hb dX4_kerns_69 hl (k := 4) rfl rfl (by decide) rfl (fun ls hl => ?_)
                  refine lv_goto (pc := 72) (tgt := 29) hx hb dX4_kerns_72 (by decide) ?_
                  exact ih _ _ _ _ H locs ls hf hP hD hS (lv_sub hl [2, 3, 1, 4, 0] rfl)
                · replace hf := ip c14 hf
                  refine lv_iload (pc := 66) hx hb dX4_kerns_66 (lv_at hl 4 rfl) ?_
                  refine lv_istore_n (lv' := [(3, .int v4), (2, .int (v2 + 1)), (0, .ref a), (1, .int i0), (4, .int v4)]) (pc := 68) hx hb dX4_kerns_68 rfl hl (by decide) rfl (fun ls hl => ?_)
                  refine lv_iinc (v := (v4 + 1)) (lv' := [(4, .int (v4 + 1)), (3, .int v4), (2, .int (v2 + 1)), (0, .ref a), (1, .int i0)]) (pc := 69) hx hb dX4_kerns_69 hl (k := 4) rfl rfl (by decide) rfl (fun ls hl => ?_)
                  refine lv_goto (pc := 72) (tgt := 29) hx hb dX4_kerns_72 (by decide) ?_
                  exact ih _ _ _ _ H locs ls hf hP hD hS (lv_sub hl [3, 4, 2, 1, 0] rfl)
        exact KL7 1000 _ _ _ _ H locs ls hz5 hP hD hS (lv_sub hl [3, 4, 2, 1, 0] rfl)
      · replace hf := ip c4 hf
        refine lv_bipush (v := -9) (pc := 18) hx hb dX4_kerns_18 (by decide) ?_
        obtain rfl := Option.some.inj hf
        exact W.iret hx hb hr (fun t ht hW => ⟨rfl, by rw [ht]; exact hP, hD, hS.F ht⟩) hS.2.2 dX4_kerns_20
    · replace hf := im c2 hf
      refine lv_iconst (v := -1) (pc := 9) hx hb dX4_kerns_9 (by decide) ?_
      obtain rfl := Option.some.inj hf
      exact W.iret hx hb hr (fun t ht hW => ⟨rfl, by rw [ht]; exact hP, hD, hS.F ht⟩) hS.2.2 dX4_kerns_10
def f_X4_without (i0 : Int32) (i1 : Int32) (oo : OS) (on : OS) (od : OS) (odw : OS) (odp : OS) : Option (Int64 × OS × OS × OS) := Option.bind (f_X4_isPile i0 oo on) fun x1 => if x1 = 0 then some ((-1), od, odw, odp) else if i1 < 0 then some ((-1), od, odw, odp) else if i1 ≤ 2 then Option.bind (f_X3_isIntact i0 on) fun x5 => if x5 = 0 then some ((-2), od, odw, odp) else Option.bind (f_X4_takePresent oo on od) fun x7 => Option.bind (f_X0_settleOn ((on.1 5) &&& ((1 <<< (i0 &&& 31)) ^^^ (-1))) x7 odw odp) fun x8 => Option.bind (f_X4_greatestUse i1 oo x8.1 x8.2.2) fun x9 => some (x9, x8.1, x8.2.1, x8.2.2) else some ((-1), od, odw, odp)
set_option maxHeartbeats 4000000 in
set_option maxRecDepth 100000 in
theorem c_X4_without (l : Launch) (D : va_G) (cI cZ cS : ClassId) (a : Nat) (q : Nat → Nat) (qN : Nat → Nat) (qD : Nat → Nat) (i0 : Int32) (i1 : Int32) (oo : OS) (on : OS) (od : OS) (odw : OS) (odp : OS) (x : (Int64 × OS × OS × OS)) (hf : f_X4_without i0 i1 oo on od odw odp = some x) : Ct l yX4_without cX4_without 3 (some .long) 5 114 D cI cZ cS [.ref a, .int i0, .int i1] (bX4 cI cZ a q oo ++ (bX3 cI (q 0) qN on ++ (bX0 cI (q 12) qD od ++ (bX1 (qD 13) odw ++ bX1 (qD 14) odp)))) (some (.long x.1)) (bX4 cI cZ a q oo ++ (bX3 cI (q 0) qN on ++ (bX0 cI (q 12) qD x.2.1 ++ (bX1 (qD 13) x.2.2.1 ++ bX1 (qD 14) x.2.2.2)))) := by
  intro sz
  refine Met.ofW (cc := cX4_without) (maxL := 3) (ret := (some .long)) (by decide +kernel) rfl ?_
  intro p e s m args below meth c s₁ B hml hv
  obtain ⟨rfl, hsz, hP, hK, hD0⟩ := hv
  have hx := B.exec
  have hb := B.bytes
  have hr := B.returns
  have hts0 := atoms_spec (ws := .code yX4_without cX4_without 3 (some .long) :: TB) B.pre
  have hts := fun w (h : w ∈ TB) => hts0 w (List.mem_cons_of_mem _ h)
  have hown : s.vm.findClass RX4 = some m.cls := findClass_of_methodNamed B.named
  have hlocks := B.notSynchronized
  subst hsz
  have hD := hD0.self (sz := s.heap.size)
  generalize hAe : va_A (bX4 cI cZ a q oo ++ (bX3 cI (q 0) qN on ++ (bX0 cI (q 12) qD od ++ (bX1 (qD 13) odw ++ bX1 (qD 14) odp)))) s.heap.size = A at hD ⊢
  have hA : ∀ q : Nat, s.heap.size ≤ q → A q := fun q h => by rw [← hAe]; exact Or.inr h
  have hS : va_S A s.heap s.heap [] := va_S.rf
  obtain ⟨H, hH⟩ : ∃ H, H = s.heap := ⟨_, rfl⟩
  rw [← hH] at hP
  have hS : va_S A s.heap H [] := by rw [hH]; exact hS
  have hl := lv_entry ([.ref a, .int i0, .int i1]) (n := 3) (Nat.le_of_ble_eq_true rfl)
  rw [lg_entry_eq]
  generalize (lg_sl ([.ref a, .int i0, .int i1]) ++ List.replicate (3 - (lg_sl ([.ref a, .int i0, .int i1])).length) Slot.unset).toArray = ls at hl ⊢
  have hl : lv_has ls 3 [(0, .ref a), (1, .int i0), (2, .int i1)] := hl
  refine W_heap hH ?_
  obtain ⟨locs, hlo⟩ : ∃ locs : List Loc, locs = [] := ⟨_, rfl⟩
  rw [← hlo] at hS ⊢
  unfold f_X4_without at hf
  refine lv_aload_n (pc := 0) hx hb dX4_without_0 rfl (lv_at hl 0 rfl) ?_
  refine lv_iload_n (pc := 1) hx hb dX4_without_1 rfl (lv_at hl 1 rfl) ?_
  obtain ⟨x1, ex1, hf⟩ := bd_some hf
  refine ct_V (pc := 2) (As := [.int i0]) (rest := []) (wr := bX0 cI (q 12) qD od ++ (bX1 (qD 13) odw ++ bX1 (qD 14) odp)) (W1 := bX4 cI cZ a q oo ++ (bX3 cI (q 0) qN on ++ (bX0 cI (q 12) qD od ++ (bX1 (qD 13) odw ++ bX1 (qD 14) odp)))) ⟨hx, hb, hml, hown, hts⟩ hK (c_X4_isPile l D cI cZ cS a q qN i0 oo on x1 ex1) gv_RX4_99 rfl hs_X4_isPile rfl ⟨Nat.le_of_ble_eq_true rfl, Nat.le_of_ble_eq_true rfl⟩ (ci := 4) (q0 := 0) rfl rfl rfl hl.1 rfl (Nat.le_of_ble_eq_true rfl) dX4_without_2 ⟨Nat.zero_le _, Nat.zero_le _⟩ hP hD hS hA [0, 1, 2, 3, 4, 5, 6, 7, 8, 9, 10, 11, 12] [13, 14, 15, 16, 17, 18, 19] [7, 8, 9, 10, 11, 12, 13, 14, 15, 16, 17, 18, 19, 0, 1, 2, 3, 4, 5, 6] rfl rfl (by decide +kernel) (by decide +kernel) (by decide +kernel) (by decide +kernel) rfl (fun H locs hP hD hS => ?_)
  refine lv_if_eq (pc := 5) (tgt := 17) hx hb dX4_without_5 (by decide) (fun c2 => ?_) (fun c2 => ?_)
  · replace hf := ip c2 hf
    refine lv_ldc2 (pc := 17) (v := -1) hx hb hown (hts _ cn_RX4_204) dX4_without_17 ?_
    obtain rfl := Option.some.inj hf
    exact W.lret hx hb hr (fun t ht hW => ⟨rfl, by rw [ht]; exact hP, hD, hS.F ht⟩) hS.2.2 dX4_without_20
  · replace hf := im c2 hf
    refine lv_iload_n (pc := 8) hx hb dX4_without_8 rfl (lv_at hl 2 rfl) ?_
    refine lv_if_lt (pc := 9) (tgt := 17) hx hb dX4_without_9 (by decide) (fun c3 => ?_) (fun c3 => ?_)
    · replace hf := ip c3 hf
      refine lv_ldc2 (pc := 17) (v := -1) hx hb hown (hts _ cn_RX4_204) dX4_without_17 ?_
      obtain rfl := Option.some.inj hf
      exact W.lret hx hb hr (fun t ht hW => ⟨rfl, by rw [ht]; exact hP, hD, hS.F ht⟩) hS.2.2 dX4_without_20
    · replace hf := im c3 hf
      refine lv_iload_n (pc := 12) hx hb dX4_without_12 rfl (lv_at hl 2 rfl) ?_
      refine lv_iconst (v := 2) (pc := 13) hx hb dX4_without_13 (by decide) ?_
      refine lv_icmp_le (pc := 14) (tgt := 21) hx hb dX4_without_14 (by decide) (fun c4 => ?_) (fun c4 => ?_)
      · replace hf := ip c4 hf
        refine lv_aload_n (pc := 21) hx hb dX4_without_21 rfl (lv_at hl 0 rfl) ?_
        refine va_get (pc := 22) (D := D) (ci := 4) (v := .ref (q 0)) (C := RX4) (T := TX4) (N := 13) hx hb hts iX4 hown hK.1 hP 0 rfl rfl 0 (by decide) (hts _ fl_RX4_12) (fun _ h => h) rfl dX4_without_22 ?_
        refine lv_iload_n (pc := 25) hx hb dX4_without_25 rfl (lv_at hl 1 rfl) ?_
        obtain ⟨x5, ex5, hf⟩ := bd_some hf
        refine ct_V (pc := 26) (As := [.int i0]) (rest := []) (wr := bX4 cI cZ a q oo ++ (bX0 cI (q 12) qD od ++ (bX1 (qD 13) odw ++ bX1 (qD 14) odp))) (W1 := bX4 cI cZ a q oo ++ (bX3 cI (q 0) qN on ++ (bX0 cI (q 12) qD od ++ (bX1 (qD 13) odw ++ bX1 (qD 14) odp)))) ⟨hx, hb, hml, hown, hts⟩ hK (c_X3_isIntact l D cI cZ cS (q 0) qN i0 on x5 ex5) gv_RX4_102 rfl hs_X3_isIntact rfl ⟨Nat.le_of_ble_eq_true rfl, Nat.le_of_ble_eq_true rfl⟩ (ci := 3) (q0 := 5) rfl rfl rfl hl.1 rfl (Nat.le_of_ble_eq_true rfl) dX4_without_26 ⟨Nat.zero_le _, Nat.zero_le _⟩ hP hD hS hA [5, 6, 7, 8, 9, 10, 11, 12] [0, 1, 2, 3, 4, 13, 14, 15, 16, 17, 18, 19] [0, 1, 2, 3, 4, 12, 13, 14, 15, 16, 17, 18, 19, 5, 6, 7, 8, 9, 10, 11] rfl rfl (by decide +kernel) (by decide +kernel) (by decide +kernel) (by decide +kernel) rfl (fun H locs hP hD hS => ?_)
        refine lv_if_ne (pc := 29) (tgt := 36) hx hb dX4_without_29 (by decide) (fun c6 => ?_) (fun c6 => ?_)
        · replace hf := im c6 hf
          refine lv_aload_n (pc := 36) hx hb dX4_without_36 rfl (lv_at hl 0 rfl) ?_
          obtain ⟨x7, ex7, hf⟩ := bd_some hf
          refine ct_V (pc := 37) (As := []) (rest := []) (wr := bX1 (qD 13) odw ++ bX1 (qD 14) odp) (W1 := bX4 cI cZ a q oo ++ (bX3 cI (q 0) qN on ++ (bX0 cI (q 12) qD x7 ++ (bX1 (qD 13) odw ++ bX1 (qD 14) odp)))) ⟨hx, hb, hml, hown, hts⟩ hK (c_X4_takePresent l D cI cZ cS a q qN qD oo on od x7 ex7) gv_RX4_230 rfl hs_X4_takePresent rfl ⟨Nat.le_of_ble_eq_true rfl, Nat.le_of_ble_eq_true rfl⟩ (ci := 4) (q0 := 0) rfl rfl rfl hl.1 rfl (Nat.le_of_ble_eq_true rfl) dX4_without_37 ⟨Nat.zero_le _, Nat.zero_le _⟩ hP hD hS hA [0, 1, 2, 3, 4, 5, 6, 7, 8, 9, 10, 11, 12, 13, 14, 15, 16, 17] [18, 19] [2, 3, 4, 5, 6, 7, 8, 9, 10, 11, 12, 13, 14, 15, 16, 17, 18, 19, 0, 1] rfl rfl (by decide +kernel) (by decide +kernel) (by decide +kernel) (by decide +kernel) rfl (fun H locs hP hD hS => ?_)
          refine lv_aload_n (pc := 40) hx hb dX4_without_40 rfl (lv_at hl 0 rfl) ?_
          refine va_get (pc := 41) (D := D) (ci := 4) (v := .ref (q 12)) (C := RX4) (T := TX4) (N := 13) hx hb hts iX4 hown hK.1 hP 0 rfl rfl 12 (by decide) (hts _ fl_RX4_54) (fun _ h => h) rfl dX4_without_41 ?_
          refine lv_aload_n (pc := 44) hx hb dX4_without_44 rfl (lv_at hl 0 rfl) ?_
          refine va_get (pc := 45) (D := D) (ci := 4) (v := .ref (q 0)) (C := RX4) (T := TX4) (N := 13) hx hb hts iX4 hown hK.1 hP 0 rfl rfl 0 (by decide) (hts _ fl_RX4_12) (fun _ h => h) rfl dX4_without_45 ?_
          refine va_getN (pc := 48) (D := D) (ci := 3) (v := .int (on.1 5)) (C := RX3) (T := TX3) (N := 12) hx hb hts iX3 hown hK.1 hP 5 rfl rfl 5 (by decide) (va_Nw.use rfl (hK.2 _ nf_RX4_105)) (fun _ h => h) rfl dX4_without_48 ?_
          refine lv_iconst (v := 1) (pc := 51) hx hb dX4_without_51 (by decide) ?_
          refine lv_iload_n (pc := 52) hx hb dX4_without_52 rfl (lv_at hl 1 rfl) ?_
          refine lv_ishl (pc := 53) hx hb dX4_without_53 ?_
          refine lv_iconst (v := -1) (pc := 54) hx hb dX4_without_54 (by decide) ?_
          refine lv_ixor (pc := 55) hx hb dX4_without_55 ?_
          refine lv_iand (pc := 56) hx hb dX4_without_56 ?_
          obtain ⟨x8, ex8, hf⟩ := bd_some hf
          refine ct_V (pc := 57) (As := [.int ((on.1 5) &&& ((1 <<< (i0 &&& 31)) ^^^ (-1)))]) (rest := []) (wr := bX4 cI cZ a q oo ++ bX3 cI (q 0) qN on) (W1 := bX4 cI cZ a q oo ++ (bX3 cI (q 0) qN on ++ (bX0 cI (q 12) qD x8.1 ++ (bX1 (qD 13) x8.2.1 ++ bX1 (qD 14) x8.2.2)))) ⟨hx, hb, hml, hown, hts⟩ hK (c_X0_settleOn l D cI cZ cS (q 12) qD ((on.1 5) &&& ((1 <<< (i0 &&& 31)) ^^^ (-1))) x7 odw odp x8 ex8) gv_RX4_233 rfl hs_X0_settleOn rfl ⟨Nat.le_of_ble_eq_true rfl, Nat.le_of_ble_eq_true rfl⟩ (ci := 0) (q0 := 13) rfl rfl rfl hl.1 rfl (Nat.le_of_ble_eq_true rfl) dX4_without_57 ⟨Nat.zero_le _, Nat.zero_le _⟩ hP hD hS hA [13, 14, 15, 16, 17, 18, 19] [0, 1, 2, 3, 4, 5, 6, 7, 8, 9, 10, 11, 12] [0, 1, 2, 3, 4, 5, 6, 7, 8, 9, 10, 11, 12, 13, 14, 15, 16, 17, 18, 19] rfl rfl (by decide +kernel) (by decide +kernel) (by decide +kernel) (by decide +kernel) rfl (fun H locs hP hD hS => ?_)
          refine lv_aload_n (pc := 60) hx hb dX4_without_60 rfl (lv_at hl 0 rfl) ?_
          refine lv_iload_n (pc := 61) hx hb dX4_without_61 rfl (lv_at hl 2 rfl) ?_
          obtain ⟨x9, ex9, hf⟩ := bd_some hf
          refine ct_V (pc := 62) (As := [.int i1]) (rest := []) (wr := bX3 cI (q 0) qN on ++ bX1 (qD 13) x8.2.1) (W1 := bX4 cI cZ a q oo ++ (bX3 cI (q 0) qN on ++ (bX0 cI (q 12) qD x8.1 ++ (bX1 (qD 13) x8.2.1 ++ bX1 (qD 14) x8.2.2)))) ⟨hx, hb, hml, hown, hts⟩ hK (c_X4_greatestUse l D cI cZ cS a q qD i1 oo x8.1 x8.2.2 x9 ex9) gv_RX4_206 rfl hs_X4_greatestUse rfl ⟨Nat.le_of_ble_eq_true rfl, Nat.le_of_ble_eq_true rfl⟩ (ci := 4) (q0 := 0) rfl rfl rfl hl.1 rfl (Nat.le_of_ble_eq_true rfl) dX4_without_62 ⟨Nat.zero_le _, Nat.zero_le _⟩ hP hD hS hA [0, 1, 2, 3, 4, 13, 14, 15, 16, 17, 19] [5, 6, 7, 8, 9, 10, 11, 12, 18] [9, 10, 11, 12, 13, 0, 1, 2, 3, 4, 5, 6, 7, 14, 15, 16, 17, 18, 8, 19] rfl rfl (by decide +kernel) (by decide +kernel) (by decide +kernel) (by decide +kernel) rfl (fun H locs hP hD hS => ?_)
          obtain rfl := Option.some.inj hf
          exact W.lret hx hb hr (fun t ht hW => ⟨rfl, by rw [ht]; exact hP, hD, hS.F ht⟩) hS.2.2 dX4_without_65
        · replace hf := ip c6 hf
          refine lv_ldc2 (pc := 32) (v := -2) hx hb hown (hts _ cn_RX4_228) dX4_without_32 ?_
          obtain rfl := Option.some.inj hf
          exact W.lret hx hb hr (fun t ht hW => ⟨rfl, by rw [ht]; exact hP, hD, hS.F ht⟩) hS.2.2 dX4_without_35
      · replace hf := im c4 hf
        refine lv_ldc2 (pc := 17) (v := -1) hx hb hown (hts _ cn_RX4_204) dX4_without_17 ?_
        obtain rfl := Option.some.inj hf
        exact W.lret hx hb hr (fun t ht hW => ⟨rfl, by rw [ht]; exact hP, hD, hS.F ht⟩) hS.2.2 dX4_without_20
def f_J13_compare_74951 (i0 : Int64) (i1 : Int64) : Option Int32 := if i1 ≤ i0 then if i0 = i1 then some 0 else some 1 else some (-1)
set_option maxHeartbeats 4000000 in
set_option maxRecDepth 100000 in
theorem c_J13_compare_74951 (l : Launch) (D : va_G) (cI cZ cS : ClassId) (i0 : Int64) (i1 : Int64) (x : Int32) (hf : f_J13_compare_74951 i0 i1 = some x) : Ct l yJ13_compare_74951 cJ13_compare_74951 4 (some .int) 0 0 D cI cZ cS [.long i0, .long i1] ([]) (some (.int x)) ([]) := by
  intro sz
  refine va_MetF (cc := cJ13_compare_74951) (maxL := 4) (ret := (some .int)) (by decide +kernel) rfl ?_
  intro p e s m args below meth c s₁ B hml hv
  obtain ⟨rfl, hsz, hP, hK, hD0⟩ := hv
  have hx := B.exec
  have hb := B.bytes
  have hr := B.returns
  have hts0 := atoms_spec (ws := .code yJ13_compare_74951 cJ13_compare_74951 4 (some .int) :: TB) B.pre
  have hts := fun w (h : w ∈ TB) => hts0 w (List.mem_cons_of_mem _ h)
  have hown : s.vm.findClass RJ13 = some m.cls := findClass_of_methodNamed B.named
  have hlocks := B.notSynchronized
  subst hsz
  have hD := hD0.self (sz := s.heap.size)
  generalize hAe : va_A ([]) s.heap.size = A at hD ⊢
  have hA : ∀ q : Nat, s.heap.size ≤ q → A q := fun q h => by rw [← hAe]; exact Or.inr h
  have hS : va_S A s.heap s.heap [] := va_S.rf
  obtain ⟨H, hH⟩ : ∃ H, H = s.heap := ⟨_, rfl⟩
  rw [← hH] at hP
  have hS : va_S A s.heap H [] := by rw [hH]; exact hS
  have hl := lv_entry ([.long i0, .long i1]) (n := 4) (Nat.le_of_ble_eq_true rfl)
  rw [lg_entry_eq]
  generalize (lg_sl ([.long i0, .long i1]) ++ List.replicate (4 - (lg_sl ([.long i0, .long i1])).length) Slot.unset).toArray = ls at hl ⊢
  have hl : lv_has ls 4 [(0, .long i0), (2, .long i1)] := hl
  refine W_heap hH ?_
  obtain ⟨locs, hlo⟩ : ∃ locs : List Loc, locs = [] := ⟨_, rfl⟩
  rw [← hlo] at hS ⊢
  unfold f_J13_compare_74951 at hf
  refine lv_lload_n (pc := 0) hx hb dJ13_compare_74951_0 rfl (lv_at hl 0 rfl) ?_
  refine lv_lload_n (pc := 1) hx hb dJ13_compare_74951_1 rfl (lv_at hl 1 rfl) ?_
  refine W.lcmp (pc := 2) hx hb dJ13_compare_74951_2 ?_
  refine lv_if_ge (pc := 3) (tgt := 10) hx hb dJ13_compare_74951_3 (by decide) (fun c1 => ?_) (fun c1 => ?_)
  · replace c1 := (lg_cmp_ge _ _).mp c1
    replace hf := ip c1 hf
    refine lv_lload_n (pc := 10) hx hb dJ13_compare_74951_10 rfl (lv_at hl 0 rfl) ?_
    refine lv_lload_n (pc := 11) hx hb dJ13_compare_74951_11 rfl (lv_at hl 1 rfl) ?_
    refine W.lcmp (pc := 12) hx hb dJ13_compare_74951_12 ?_
    refine lv_if_ne (pc := 13) (tgt := 20) hx hb dJ13_compare_74951_13 (by decide) (fun c2 => ?_) (fun c2 => ?_)
    · replace c2 := fun q => c2 ((lg_cmp_eq _ _).mpr q)
      replace hf := im c2 hf
      refine lv_iconst (v := 1) (pc := 20) hx hb dJ13_compare_74951_20 (by decide) ?_
      obtain rfl := Option.some.inj hf
      exact W.iret hx hb hr (fun t ht hW => ⟨rfl, by rw [ht]; exact hP, hD, hS.F ht⟩) hS.2.2 dJ13_compare_74951_21
    · replace c2 := (lg_cmp_eq _ _).mp c2
      replace hf := ip c2 hf
      refine lv_iconst (v := 0) (pc := 16) hx hb dJ13_compare_74951_16 (by decide) ?_
      refine lv_goto (pc := 17) (tgt := 21) hx hb dJ13_compare_74951_17 (by decide) ?_
      obtain rfl := Option.some.inj hf
      exact W.iret hx hb hr (fun t ht hW => ⟨rfl, by rw [ht]; exact hP, hD, hS.F ht⟩) hS.2.2 dJ13_compare_74951_21
  · replace c1 := fun q => c1 ((lg_cmp_ge _ _).mpr q)
    replace hf := im c1 hf
    refine lv_iconst (v := -1) (pc := 6) hx hb dJ13_compare_74951_6 (by decide) ?_
    refine lv_goto (pc := 7) (tgt := 21) hx hb dJ13_compare_74951_7 (by decide) ?_
    obtain rfl := Option.some.inj hf
    exact W.iret hx hb hr (fun t ht hW => ⟨rfl, by rw [ht]; exact hP, hD, hS.F ht⟩) hS.2.2 dJ13_compare_74951_21
def lp_X4_compareFractions_6 : Nat → Int64 → Int64 → Int64 → Int64 → Int32 → Int32 → Option (Int32 ⊕ (Int64 × Int64 × Int64 × Int64 × Int32 × Int32))
  | 0, _, _, _, _, _, _ => none
  | n + 1, v0, v2, v4, v6, v8, v9 => if 100 ≤ v9 then some (.inr (v0, v2, v4, v6, v8, v9)) else if v2 = 0 then some (.inr (v0, v2, v4, v6, v8, v9)) else if v6 = 0 then some (.inr (v0, v2, v4, v6, v8, v9)) else dzL v2 (dzL v6 (if (v0 / v2) = (v4 / v6) then dzL v2 (dzL v6 (if (v0 - v0 / v2 * v2) = 0 then Option.bind (f_J13_compare_74951 (v0 - v0 / v2 * v2) (v4 - v4 / v6 * v6)) fun x14 => some (.inl (v8 * x14)) else if (v4 - v4 / v6 * v6) = 0 then Option.bind (f_J13_compare_74951 (v0 - v0 / v2 * v2) (v4 - v4 / v6 * v6)) fun x16 => some (.inl (v8 * x16)) else lp_X4_compareFractions_6 n v2 (v0 - v0 / v2 * v2) v6 (v4 - v4 / v6 * v6) (-v8) (v9 + 1))) else if (v0 / v2) ≤ (v4 / v6) then some (.inl (-v8)) else some (.inl v8)))
def f_X4_compareFractions (i0 : Int64) (i1 : Int64) (i2 : Int64) (i3 : Int64) : Option Int32 := Option.bind (lp_X4_compareFractions_6 1000 i0 i1 i2 i3 1 0) (Sum.elim (fun r => some r) (fun z4 => some 0))
set_option maxHeartbeats 4000000 in
set_option maxRecDepth 100000 in
theorem c_X4_compareFractions (l : Launch) (D : va_G) (cI cZ cS : ClassId) (i0 : Int64) (i1 : Int64) (i2 : Int64) (i3 : Int64) (x : Int32) (hf : f_X4_compareFractions i0 i1 i2 i3 = some x) : Ct l yX4_compareFractions cX4_compareFractions 18 (some .int) 1 23 D cI cZ cS [.long i0, .long i1, .long i2, .long i3] ([]) (some (.int x)) ([]) := by
  intro sz
  refine Met.ofW (cc := cX4_compareFractions) (maxL := 18) (ret := (some .int)) (by decide +kernel) rfl ?_
  intro p e s m args below meth c s₁ B hml hv
  obtain ⟨rfl, hsz, hP, hK, hD0⟩ := hv
  have hx := B.exec
  have hb := B.bytes
  have hr := B.returns
  have hts0 := atoms_spec (ws := .code yX4_compareFractions cX4_compareFractions 18 (some .int) :: TB) B.pre
  have hts := fun w (h : w ∈ TB) => hts0 w (List.mem_cons_of_mem _ h)
  have hown : s.vm.findClass RX4 = some m.cls := findClass_of_methodNamed B.named
  have hlocks := B.notSynchronized
  subst hsz
  have hD := hD0.self (sz := s.heap.size)
  generalize hAe : va_A ([]) s.heap.size = A at hD ⊢
  have hA : ∀ q : Nat, s.heap.size ≤ q → A q := fun q h => by rw [← hAe]; exact Or.inr h
  have hS : va_S A s.heap s.heap [] := va_S.rf
  obtain ⟨H, hH⟩ : ∃ H, H = s.heap := ⟨_, rfl⟩
  rw [← hH] at hP
  have hS : va_S A s.heap H [] := by rw [hH]; exact hS
  have hl := lv_entry ([.long i0, .long i1, .long i2, .long i3]) (n := 18) (Nat.le_of_ble_eq_true rfl)
  rw [lg_entry_eq]
  generalize (lg_sl ([.long i0, .long i1, .long i2, .long i3]) ++ List.replicate (18 - (lg_sl ([.long i0, .long i1, .long i2, .long i3])).length) Slot.unset).toArray = ls at hl ⊢
  have hl : lv_has ls 18 [(0, .long i0), (2, .long i1), (4, .long i2), (6, .long i3)] := hl
  refine W_heap hH ?_
  obtain ⟨locs, hlo⟩ : ∃ locs : List Loc, locs = [] := ⟨_, rfl⟩
  rw [← hlo] at hS ⊢
  unfold f_X4_compareFractions at hf
  refine lv_iconst (v := 1) (pc := 0) hx hb dX4_compareFractions_0 (by decide) ?_
  refine lv_istore (lv' := [(8, .int 1), (0, .long i0), (2, .long i1), (4, .long i2), (6, .long i3)]) (pc := 1) hx hb dX4_compareFractions_1 hl (by decide) rfl (fun ls hl => ?_)
  refine lv_iconst (v := 0) (pc := 3) hx hb dX4_compareFractions_3 (by decide) ?_
  refine lv_istore (lv' := [(9, .int 0), (8, .int 1), (0, .long i0), (2, .long i1), (4, .long i2), (6, .long i3)]) (pc := 4) hx hb dX4_compareFractions_4 hl (by decide) rfl (fun ls hl => ?_)
  obtain ⟨z1, hz1, hf⟩ := bd_some hf
  have hfz1 := hf
  clear hf
  have K2 : ∀ z4, z1 = .inr z4 → ∀ (H : Heap) (locs : List Loc) (ls : Array Slot), va_P D vwCl ([]) H → va_D A ([]) → va_S A s.heap H locs → lv_has ls 18 [(0, .long z4.1), (2, .long z4.2.1), (4, .long z4.2.2.1), (6, .long z4.2.2.2.1), (8, .int z4.2.2.2.2.1), (9, .int z4.2.2.2.2.2)] → GW l yX4_compareFractions cX4_compareFractions 18 (some .int) 1 23 D [.long i0, .long i1, .long i2, .long i3] (some (.int x)) ([]) A p e s m below meth c H locs (F0 m 124 ls []) := by
    intro z4 hy H locs ls hP hD hS hl
    subst hy
    replace hf := sum_r hfz1
    refine lv_iconst (v := 0) (pc := 124) hx hb dX4_compareFractions_124 (by decide) ?_
    obtain rfl := Option.some.inj hf
    exact W.iret hx hb hr (fun t ht hW => ⟨rfl, by rw [ht]; exact hP, hD, hS.F ht⟩) hS.2.2 dX4_compareFractions_125
  have KL3 : ∀ (n : Nat) (v0 : Int64) (v2 : Int64) (v4 : Int64) (v6 : Int64) (v8 : Int32) (v9 : Int32) (H : Heap) (locs : List Loc) (ls : Array Slot), lp_X4_compareFractions_6 n v0 v2 v4 v6 v8 v9 = some z1 → va_P D vwCl ([]) H → va_D A ([]) → va_S A s.heap H locs → lv_has ls 18 [(0, .long v0), (2, .long v2), (4, .long v4), (6, .long v6), (8, .int v8), (9, .int v9)] → GW l yX4_compareFractions cX4_compareFractions 18 (some .int) 1 23 D [.long i0, .long i1, .long i2, .long i3] (some (.int x)) ([]) A p e s m below meth c H locs (F0 m 6 ls []) := by
    intro n
    induction n with
    | zero => intro v0 v2 v4 v6 v8 v9 H locs ls hf; cases hf
    | succ n ih =>
      intro v0 v2 v4 v6 v8 v9 H locs ls hf hP hD hS hl
      rw [lp_X4_compareFractions_6] at hf
      refine lv_iload (pc := 6) hx hb dX4_compareFractions_6 (lv_at hl 5 rfl) ?_
      refine lv_bipush (v := 100) (pc := 8) hx hb dX4_compareFractions_8 (by decide) ?_
      refine lv_icmp_ge (pc := 10) (tgt := 124) hx hb dX4_compareFractions_10 (by decide) (fun c5 => ?_) (fun c5 => ?_)
      · replace hf := ip c5 hf
        obtain rfl := Option.some.inj hf
        exact K2 _ rfl H locs ls hP hD hS (lv_sub hl [0, 1, 2, 3, 4, 5] rfl)
      · replace hf := im c5 hf
        refine lv_lload_n (pc := 13) hx hb dX4_compareFractions_13 rfl (lv_at hl 1 rfl) ?_
        refine lv_lconst (v := 0) (pc := 14) hx hb dX4_compareFractions_14 (by decide) ?_
        refine W.lcmp (pc := 15) hx hb dX4_compareFractions_15 ?_
        refine lv_if_eq (pc := 16) (tgt := 124) hx hb dX4_compareFractions_16 (by decide) (fun c6 => ?_) (fun c6 => ?_)
        · replace c6 := (lg_cmp_eq _ _).mp c6
          replace hf := ip c6 hf
          obtain rfl := Option.some.inj hf
          exact K2 _ rfl H locs ls hP hD hS (lv_sub hl [0, 1, 2, 3, 4, 5] rfl)
        · replace c6 := fun q => c6 ((lg_cmp_eq _ _).mpr q)
          replace hf := im c6 hf
          refine lv_lload (pc := 19) hx hb dX4_compareFractions_19 (lv_at hl 3 rfl) ?_
          refine lv_lconst (v := 0) (pc := 21) hx hb dX4_compareFractions_21 (by decide) ?_
          refine W.lcmp (pc := 22) hx hb dX4_compareFractions_22 ?_
          refine lv_if_eq (pc := 23) (tgt := 124) hx hb dX4_compareFractions_23 (by decide) (fun c7 => ?_) (fun c7 => ?_)
          · replace c7 := (lg_cmp_eq _ _).mp c7
            replace hf := ip c7 hf
            obtain rfl := Option.some.inj hf
            exact K2 _ rfl H locs ls hP hD hS (lv_sub hl [0, 1, 2, 3, 4, 5] rfl)
          · replace c7 := fun q => c7 ((lg_cmp_eq _ _).mpr q)
            replace hf := im c7 hf
            refine lv_lload_n (pc := 26) hx hb dX4_compareFractions_26 rfl (lv_at hl 0 rfl) ?_
            refine lv_lload_n (pc := 27) hx hb dX4_compareFractions_27 rfl (lv_at hl 1 rfl) ?_
            obtain ⟨h8, hf⟩ := dzL_some hf
            refine lv_ldiv (pc := 28) hx hb dX4_compareFractions_28 h8 ?_
            refine lv_lstore (lv' := [(10, .long (v0 / v2)), (0, .long v0), (2, .long v2), (4, .long v4), (6, .long v6), (8, .int v8), (9, .int v9)]) (pc := 29) hx hb dX4_compareFractions_29 hl (by decide) rfl (fun ls hl => ?_)
            refine lv_lload (pc := 31) hx hb dX4_compareFractions_31 (lv_at hl 3 rfl) ?_
            refine lv_lload (pc := 33) hx hb dX4_compareFractions_33 (lv_at hl 4 rfl) ?_
            obtain ⟨h9, hf⟩ := dzL_some hf
            refine lv_ldiv (pc := 35) hx hb dX4_compareFractions_35 h9 ?_
            refine lv_lstore (lv' := [(12, .long (v4 / v6)), (10, .long (v0 / v2)), (0, .long v0), (2, .long v2), (4, .long v4), (6, .long v6), (8, .int v8), (9, .int v9)]) (pc := 36) hx hb dX4_compareFractions_36 hl (by decide) rfl (fun ls hl => ?_)
            refine lv_lload (pc := 38) hx hb dX4_compareFractions_38 (lv_at hl 1 rfl) ?_
            refine lv_lload (pc := 40) hx hb dX4_compareFractions_40 (lv_at hl 0 rfl) ?_
            refine W.lcmp (pc := 42) hx hb dX4_compareFractions_42 ?_
            refine lv_if_eq (pc := 43) (tgt := 63) hx hb dX4_compareFractions_43 (by decide) (fun c10 => ?_) (fun c10 => ?_)
            · replace c10 := (lg_cmp_eq _ _).mp c10
              replace hf := ip c10 hf
              refine lv_lload_n (pc := 63) hx hb dX4_compareFractions_63 rfl (lv_at hl 2 rfl) ?_
              refine lv_lload_n (pc := 64) hx hb dX4_compareFractions_64 rfl (lv_at hl 3 rfl) ?_
              obtain ⟨h11, hf⟩ := dzL_some hf
              refine lv_lrem (pc := 65) hx hb dX4_compareFractions_65 h11 ?_
              refine lv_lstore (lv' := [(14, .long (v0 - v0 / v2 * v2)), (12, .long (v4 / v6)), (10, .long (v0 / v2)), (0, .long v0), (2, .long v2), (4, .long v4), (6, .long v6), (8, .int v8), (9, .int v9)]) (pc := 66) hx hb dX4_compareFractions_66 hl (by decide) rfl (fun ls hl => ?_)
              refine lv_lload (pc := 68) hx hb dX4_compareFractions_68 (lv_at hl 5 rfl) ?_
              refine lv_lload (pc := 70) hx hb dX4_compareFractions_70 (lv_at hl 6 rfl) ?_
              obtain ⟨h12, hf⟩ := dzL_some hf
              refine lv_lrem (pc := 72) hx hb dX4_compareFractions_72 h12 ?_
              refine lv_lstore (lv' := [(16, .long (v4 - v4 / v6 * v6)), (14, .long (v0 - v0 / v2 * v2)), (12, .long (v4 / v6)), (10, .long (v0 / v2)), (0, .long v0), (2, .long v2), (4, .long v4), (6, .long v6), (8, .int v8), (9, .int v9)]) (pc := 73) hx hb dX4_compareFractions_73 hl (by decide) rfl (fun ls hl => ?_)
              refine lv_lload (pc := 75) hx hb dX4_compareFractions_75 (lv_at hl 1 rfl) ?_
              refine lv_lconst (v := 0) (pc := 77) hx hb dX4_compareFractions_77 (by decide) ?_
              refine W.lcmp (pc := 78) hx hb dX4_compareFractions_78 ?_
              refine lv_if_eq (pc := 79) (tgt := 89) hx hb dX4_compareFractions_79 (by decide) (fun c13 => ?_) (fun c13 => ?_)
              · replace c13 := (lg_cmp_eq _ _).mp c13
                replace hf := ip c13 hf
                refine lv_iload (pc := 89) hx hb dX4_compareFractions_89 (lv_at hl 8 rfl) ?_
                refine lv_lload (pc := 91) hx hb dX4_compareFractions_91 (lv_at hl 1 rfl) ?_
                refine lv_lload (pc := 93) hx hb dX4_compareFractions_93 (lv_at hl 0 rfl) ?_
                obtain ⟨x14, ex14, hf⟩ := bd_some hf
                refine ct_S0 (pc := 95) (As := [.long (v0 - v0 / v2 * v2), .long (v4 - v4 / v6 * v6)]) (rest := [.int v8]) ⟨hx, hb, hml, hown, hts⟩ hK (c_J13_compare_74951 l D cI cZ cS (v0 - v0 / v2 * v2) (v4 - v4 / v6 * v6) x14 ex14) gs_RX4_310 hs_J13_compare_74951 rfl ⟨Nat.le_of_ble_eq_true rfl, Nat.le_of_ble_eq_true rfl⟩ hl.1 rfl (Nat.le_of_ble_eq_true rfl) dX4_compareFractions_95 ⟨Nat.zero_le _, Nat.zero_le _⟩ hP hS hA (fun H locs hP hS => ?_)
                refine lv_imul (pc := 98) hx hb dX4_compareFractions_98 ?_
                obtain rfl := Option.some.inj hf
                replace hfz1 := sum_l hfz1
                obtain rfl := Option.some.inj hfz1
                exact W.iret hx hb hr (fun t ht hW => ⟨rfl, by rw [ht]; exact hP, hD, hS.F ht⟩) hS.2.2 dX4_compareFractions_99
              · replace c13 := fun q => c13 ((lg_cmp_eq _ _).mpr q)
                replace hf := im c13 hf
                refine lv_lload (pc := 82) hx hb dX4_compareFractions_82 (lv_at hl 0 rfl) ?_
                refine lv_lconst (v := 0) (pc := 84) hx hb dX4_compareFractions_84 (by decide) ?_
                refine W.lcmp (pc := 85) hx hb dX4_compareFractions_85 ?_
                refine lv_if_ne (pc := 86) (tgt := 100) hx hb dX4_compareFractions_86 (by decide) (fun c15 => ?_) (fun c15 => ?_)
                · replace c15 := fun q => c15 ((lg_cmp_eq _ _).mpr q)
                  replace hf := im c15 hf
                  refine lv_lload_n (pc := 100) hx hb dX4_compareFractions_100 rfl (lv_at hl 5 rfl) ?_
                  refine lv_lstore_n (lv' := [(0, .long v2), (16, .long (v4 - v4 / v6 * v6)), (14, .long (v0 - v0 / v2 * v2)), (12, .long (v4 / v6)), (10, .long (v0 / v2)), (2, .long v2), (4, .long v4), (6, .long v6), (8, .int v8), (9, .int v9)]) (pc := 101) hx hb dX4_compareFractions_101 rfl hl (by decide) rfl (fun ls hl => ?_)
                  refine lv_lload (pc := 102) hx hb dX4_compareFractions_102 (lv_at hl 2 rfl) ?_
                  refine lv_lstore_n (lv' := [(2, .long (v0 - v0 / v2 * v2)), (0, .long v2), (16, .long (v4 - v4 / v6 * v6)), (14, .long (v0 - v0 / v2 * v2)), (12, .long (v4 / v6)), (10, .long (v0 / v2)), (4, .long v4), (6, .long v6), (8, .int v8), (9, .int v9)]) (pc := 104) hx hb dX4_compareFractions_104 rfl hl (by decide) rfl (fun ls hl => ?_)
                  refine lv_lload (pc := 105) hx hb dX4_compareFractions_105 (lv_at hl 7 rfl) ?_
                  refine lv_lstore (lv' := [(4, .long v6), (2, .long (v0 - v0 / v2 * v2)), (0, .long v2), (16, .long (v4 - v4 / v6 * v6)), (14, .long (v0 - v0 / v2 * v2)), (12, .long (v4 / v6)), (10, .long (v0 / v2)), (6, .long v6), (8, .int v8), (9, .int v9)]) (pc := 107) hx hb dX4_compareFractions_107 hl (by decide) rfl (fun ls hl => ?_)
                  refine lv_lload (pc := 109) hx hb dX4_compareFractions_109 (lv_at hl 3 rfl) ?_
                  refine lv_lstore (lv' := [(6, .long (v4 - v4 / v6 * v6)), (4, .long v6), (2, .long (v0 - v0 / v2 * v2)), (0, .long v2), (16, .long (v4 - v4 / v6 * v6)), (14, .long (v0 - v0 / v2 * v2)), (12, .long (v4 / v6)), (10, .long (v0 / v2)), (8, .int v8), (9, .int v9)]) (pc := 111) hx hb dX4_compareFractions_111 hl (by decide) rfl (fun ls hl => ?_)
                  refine lv_iload (pc := 113) hx hb dX4_compareFractions_113 (lv_at hl 8 rfl) ?_
                  refine lv_ineg (pc := 115) hx hb dX4_compareFractions_115 ?_
                  refine lv_istore (lv' := [(8, .int (-v8)), (6, .long (v4 - v4 / v6 * v6)), (4, .long v6), (2, .long (v0 - v0 / v2 * v2)), (0, .long v2), (16, .long (v4 - v4 / v6 * v6)), (14, .long (v0 - v0 / v2 * v2)), (12, .long (v4 / v6)), (10, .long (v0 / v2)), (9, .int v9)]) (pc := 116) hx hb dX4_compareFractions_116 hl (by decide) rfl (fun ls hl => ?_)
                  refine lv_iinc (v := (v9 + 1)) (lv' := [(9, .int (v9 + 1)), (8, .int (-v8)), (6, .long (v4 - v4 / v6 * v6)), (4, .long v6), (2, .long (v0 - v0 / v2 * v2)), (0, .long v2), (16, .long (v4 - v4 / v6 * v6)), (14, .long (v0 - v0 / v2 * v2)), (12, .long (v4 / v6)), (10, .long (v0 / v2))]) (pc := 118) hx hb dX4_compareFractions_118 hl (k := 9) rfl rfl (by decide) rfl (fun ls hl => ?_)
                  refine lv_goto (pc := 121) (tgt := 6) hx hb dX4_compareFractions_121 (by decide) ?_
                  exact ih _ _ _ _ _ _ H locs ls hf hP hD hS (lv_sub hl [5, 4, 3, 2, 1, 0] rfl)
                · replace c15 := (lg_cmp_eq _ _).mp c15
                  replace hf := ip c15 hf
                  refine lv_iload (pc := 89) hx hb dX4_compareFractions_89 (lv_at hl 8 rfl) ?_
                  refine lv_lload (pc := 91) hx hb dX4_compareFractions_91 (lv_at hl 1 rfl) ?_
                  refine lv_lload (pc := 93) hx hb dX4_compareFractions_93 (lv_at hl 0 rfl) ?_
                  obtain ⟨x16, ex16, hf⟩ := bd_some hf
                  refine ct_S0 (pc := 95) (As := [.long (v0 - v0 / v2 * v2), .long (v4 - v4 / v6 * v6)]) (rest := [.int v8]) ⟨hx, hb, hml, hown, hts⟩ hK (c_J13_compare_74951 l D cI cZ cS (v0 - v0 / v2 * v2) (v4 - v4 / v6 * v6) x16 ex16) gs_RX4_310 hs_J13_compare_74951 rfl ⟨Nat.le_of_ble_eq_true rfl, Nat.le_of_ble_eq_true rfl⟩ hl.1 rfl (Nat.le_of_ble_eq_true rfl) dX4_compareFractions_95 ⟨Nat.zero_le _, Nat.zero_le _⟩ hP hS hA (fun H locs hP hS => ?_)
                  refine lv_imul (pc := 98) hx hb dX4_compareFractions_98 ?_
                  obtain rfl := Option.some.inj hf
                  replace hfz1 := sum_l hfz1
                  obtain rfl := Option.some.inj hfz1
                  exact W.iret hx hb hr (fun t ht hW => ⟨rfl, by rw [ht]; exact hP, hD, hS.F ht⟩) hS.2.2 dX4_compareFractions_99
            · replace c10 := fun q => c10 ((lg_cmp_eq _ _).mpr q)
              replace hf := im c10 hf
              refine lv_lload (pc := 46) hx hb dX4_compareFractions_46 (lv_at hl 1 rfl) ?_
              refine lv_lload (pc := 48) hx hb dX4_compareFractions_48 (lv_at hl 0 rfl) ?_
              refine W.lcmp (pc := 50) hx hb dX4_compareFractions_50 ?_
              refine lv_if_le (pc := 51) (tgt := 59) hx hb dX4_compareFractions_51 (by decide) (fun c17 => ?_) (fun c17 => ?_)
              · replace c17 := (lg_cmp_le _ _).mp c17
                replace hf := ip c17 hf
                refine lv_iload (pc := 59) hx hb dX4_compareFractions_59 (lv_at hl 6 rfl) ?_
                refine lv_ineg (pc := 61) hx hb dX4_compareFractions_61 ?_
                obtain rfl := Option.some.inj hf
                replace hfz1 := sum_l hfz1
                obtain rfl := Option.some.inj hfz1
                exact W.iret hx hb hr (fun t ht hW => ⟨rfl, by rw [ht]; exact hP, hD, hS.F ht⟩) hS.2.2 dX4_compareFractions_62
              · replace c17 := fun q => c17 ((lg_cmp_le _ _).mpr q)
                replace hf := im c17 hf
                refine lv_iload (pc := 54) hx hb dX4_compareFractions_54 (lv_at hl 6 rfl) ?_
                refine lv_goto (pc := 56) (tgt := 62) hx hb dX4_compareFractions_56 (by decide) ?_
                obtain rfl := Option.some.inj hf
                replace hfz1 := sum_l hfz1
                obtain rfl := Option.some.inj hfz1
                exact W.iret hx hb hr (fun t ht hW => ⟨rfl, by rw [ht]; exact hP, hD, hS.F ht⟩) hS.2.2 dX4_compareFractions_62
  exact KL3 1000 _ _ _ _ _ _ H locs ls hz1 hP hD hS (lv_sub hl [2, 3, 4, 5, 1, 0] rfl)
def lp_X4_key_15 (u_O : OS) (u_N : OS) : Nat → Int32 → Int64 → Int64 → Int32 → OS → OS → OS → Option ((Int32 × OS × OS × OS) ⊕ (Int32 × Int64 × Int64 × Int32 × OS × OS × OS))
  | 0, _, _, _, _, _, _, _ => none
  | n + 1, v1, v2, v4, v6, w_D, w_DW, w_DP => if (u_N.1 4) ≤ v6 then some (.inr (v1, v2, v4, v6, w_D, w_DW, w_DP)) else Option.bind (f_X3_isIntact v6 u_N) fun x7 => if x7 = 0 then lp_X4_key_15 u_O u_N n v1 v2 v4 (v6 + 1) w_D w_DW w_DP else Option.bind (f_X0_settleOn ((u_N.1 5) &&& ((1 <<< (v6 &&& 31)) ^^^ (-1))) w_D w_DW w_DP) fun x9 => if (x9.1.1 11) = 0 then some (.inl (v6, x9.1, x9.2.1, x9.2.2)) else if v1 = (-9) then Option.bind (f_X0_useTop x9.1 x9.2.2) fun x12 => Option.bind (f_X0_useBottom x9.1 x9.2.2) fun x13 => lp_X4_key_15 u_O u_N n v6 x12 x13 (v6 + 1) x9.1 x9.2.1 x9.2.2 else Option.bind (f_X0_useTop x9.1 x9.2.2) fun x14 => Option.bind (f_X0_useBottom x9.1 x9.2.2) fun x15 => Option.bind (f_X4_compareFractions x14 x15 v2 v4) fun x16 => if x16 ≤ 0 then lp_X4_key_15 u_O u_N n v1 v2 v4 (v6 + 1) x9.1 x9.2.1 x9.2.2 else Option.bind (f_X0_useTop x9.1 x9.2.2) fun x18 => Option.bind (f_X0_useBottom x9.1 x9.2.2) fun x19 => lp_X4_key_15 u_O u_N n v6 x18 x19 (v6 + 1) x9.1 x9.2.1 x9.2.2
def f_X4_key (oo : OS) (on : OS) (od : OS) (odw : OS) (odp : OS) : Option (Int32 × OS × OS × OS) := Option.bind (f_X4_takePresent oo on od) fun x1 => Option.bind (lp_X4_key_15 oo on 1000 (-9) 0 1 0 x1 odw odp) (Sum.elim (fun r => some r) (fun z5 => some (z5.1, z5.2.2.2.2.1, z5.2.2.2.2.2.1, z5.2.2.2.2.2.2)))
set_option maxHeartbeats 4000000 in
set_option maxRecDepth 100000 in
theorem c_X4_key (l : Launch) (D : va_G) (cI cZ cS : ClassId) (a : Nat) (q : Nat → Nat) (qN : Nat → Nat) (qD : Nat → Nat) (oo : OS) (on : OS) (od : OS) (odw : OS) (odp : OS) (x : (Int32 × OS × OS × OS)) (hf : f_X4_key oo on od odw odp = some x) : Ct l yX4_key cX4_key 7 (some .int) 5 114 D cI cZ cS [.ref a] (bX4 cI cZ a q oo ++ (bX3 cI (q 0) qN on ++ (bX0 cI (q 12) qD od ++ (bX1 (qD 13) odw ++ bX1 (qD 14) odp)))) (some (.int x.1)) (bX4 cI cZ a q oo ++ (bX3 cI (q 0) qN on ++ (bX0 cI (q 12) qD x.2.1 ++ (bX1 (qD 13) x.2.2.1 ++ bX1 (qD 14) x.2.2.2)))) := by
  intro sz
  refine Met.ofW (cc := cX4_key) (maxL := 7) (ret := (some .int)) (by decide +kernel) rfl ?_
  intro p e s m args below meth c s₁ B hml hv
  obtain ⟨rfl, hsz, hP, hK, hD0⟩ := hv
  have hx := B.exec
  have hb := B.bytes
  have hr := B.returns
  have hts0 := atoms_spec (ws := .code yX4_key cX4_key 7 (some .int) :: TB) B.pre
  have hts := fun w (h : w ∈ TB) => hts0 w (List.mem_cons_of_mem _ h)
  have hown : s.vm.findClass RX4 = some m.cls := findClass_of_methodNamed B.named
  have hlocks := B.notSynchronized
  subst hsz
  have hD := hD0.self (sz := s.heap.size)
  generalize hAe : va_A (bX4 cI cZ a q oo ++ (bX3 cI (q 0) qN on ++ (bX0 cI (q 12) qD od ++ (bX1 (qD 13) odw ++ bX1 (qD 14) odp)))) s.heap.size = A at hD ⊢
  have hA : ∀ q : Nat, s.heap.size ≤ q → A q := fun q h => by rw [← hAe]; exact Or.inr h
  have hS : va_S A s.heap s.heap [] := va_S.rf
  obtain ⟨H, hH⟩ : ∃ H, H = s.heap := ⟨_, rfl⟩
  rw [← hH] at hP
  have hS : va_S A s.heap H [] := by rw [hH]; exact hS
  have hl := lv_entry ([.ref a]) (n := 7) (Nat.le_of_ble_eq_true rfl)
  rw [lg_entry_eq]
  generalize (lg_sl ([.ref a]) ++ List.replicate (7 - (lg_sl ([.ref a])).length) Slot.unset).toArray = ls at hl ⊢
  have hl : lv_has ls 7 [(0, .ref a)] := hl
  refine W_heap hH ?_
  obtain ⟨locs, hlo⟩ : ∃ locs : List Loc, locs = [] := ⟨_, rfl⟩
  rw [← hlo] at hS ⊢
  unfold f_X4_key at hf
  refine lv_aload_n (pc := 0) hx hb dX4_key_0 rfl (lv_at hl 0 rfl) ?_
  obtain ⟨x1, ex1, hf⟩ := bd_some hf
  refine ct_V (pc := 1) (As := []) (rest := []) (wr := bX1 (qD 13) odw ++ bX1 (qD 14) odp) (W1 := bX4 cI cZ a q oo ++ (bX3 cI (q 0) qN on ++ (bX0 cI (q 12) qD x1 ++ (bX1 (qD 13) odw ++ bX1 (qD 14) odp)))) ⟨hx, hb, hml, hown, hts⟩ hK (c_X4_takePresent l D cI cZ cS a q qN qD oo on od x1 ex1) gv_RX4_230 rfl hs_X4_takePresent rfl ⟨Nat.le_of_ble_eq_true rfl, Nat.le_of_ble_eq_true rfl⟩ (ci := 4) (q0 := 0) rfl rfl rfl hl.1 rfl (Nat.le_of_ble_eq_true rfl) dX4_key_1 ⟨Nat.zero_le _, Nat.zero_le _⟩ hP hD hS hA [0, 1, 2, 3, 4, 5, 6, 7, 8, 9, 10, 11, 12, 13, 14, 15, 16, 17] [18, 19] [2, 3, 4, 5, 6, 7, 8, 9, 10, 11, 12, 13, 14, 15, 16, 17, 18, 19, 0, 1] rfl rfl (by decide +kernel) (by decide +kernel) (by decide +kernel) (by decide +kernel) rfl (fun H locs hP hD hS => ?_)
  refine lv_bipush (v := -9) (pc := 4) hx hb dX4_key_4 (by decide) ?_
  refine lv_istore_n (lv' := [(1, .int (-9)), (0, .ref a)]) (pc := 6) hx hb dX4_key_6 rfl hl (by decide) rfl (fun ls hl => ?_)
  refine lv_lconst (v := 0) (pc := 7) hx hb dX4_key_7 (by decide) ?_
  refine lv_lstore_n (lv' := [(2, .long 0), (1, .int (-9)), (0, .ref a)]) (pc := 8) hx hb dX4_key_8 rfl hl (by decide) rfl (fun ls hl => ?_)
  refine lv_lconst (v := 1) (pc := 9) hx hb dX4_key_9 (by decide) ?_
  refine lv_lstore (lv' := [(4, .long 1), (2, .long 0), (1, .int (-9)), (0, .ref a)]) (pc := 10) hx hb dX4_key_10 hl (by decide) rfl (fun ls hl => ?_)
  refine lv_iconst (v := 0) (pc := 12) hx hb dX4_key_12 (by decide) ?_
  refine lv_istore (lv' := [(6, .int 0), (4, .long 1), (2, .long 0), (1, .int (-9)), (0, .ref a)]) (pc := 13) hx hb dX4_key_13 hl (by decide) rfl (fun ls hl => ?_)
  obtain ⟨z2, hz2, hf⟩ := bd_some hf
  have hfz2 := hf
  clear hf
  have K3 : ∀ z5, z2 = .inr z5 → ∀ (H : Heap) (locs : List Loc) (ls : Array Slot), va_P D vwCl (bX4 cI cZ a q oo ++ (bX3 cI (q 0) qN on ++ (bX0 cI (q 12) qD z5.2.2.2.2.1 ++ (bX1 (qD 13) z5.2.2.2.2.2.1 ++ bX1 (qD 14) z5.2.2.2.2.2.2)))) H → va_D A (bX4 cI cZ a q oo ++ (bX3 cI (q 0) qN on ++ (bX0 cI (q 12) qD z5.2.2.2.2.1 ++ (bX1 (qD 13) z5.2.2.2.2.2.1 ++ bX1 (qD 14) z5.2.2.2.2.2.2)))) → va_S A s.heap H locs → lv_has ls 7 [(0, .ref a), (1, .int z5.1), (2, .long z5.2.1), (4, .long z5.2.2.1), (6, .int z5.2.2.2.1)] → GW l yX4_key cX4_key 7 (some .int) 5 114 D [.ref a] (some (.int x.1)) (bX4 cI cZ a q oo ++ (bX3 cI (q 0) qN on ++ (bX0 cI (q 12) qD x.2.1 ++ (bX1 (qD 13) x.2.2.1 ++ bX1 (qD 14) x.2.2.2)))) A p e s m below meth c H locs (F0 m 131 ls []) := by
    intro z5 hy H locs ls hP hD hS hl
    subst hy
    replace hf := sum_r hfz2
    refine lv_iload_n (pc := 131) hx hb dX4_key_131 rfl (lv_at hl 1 rfl) ?_
    obtain rfl := Option.some.inj hf
    exact W.iret hx hb hr (fun t ht hW => ⟨rfl, by rw [ht]; exact hP, hD, hS.F ht⟩) hS.2.2 dX4_key_132
  have KL4 : ∀ (n : Nat) (v1 : Int32) (v2 : Int64) (v4 : Int64) (v6 : Int32) (w_D : OS) (w_DW : OS) (w_DP : OS) (H : Heap) (locs : List Loc) (ls : Array Slot), lp_X4_key_15 oo on n v1 v2 v4 v6 w_D w_DW w_DP = some z2 → va_P D vwCl (bX4 cI cZ a q oo ++ (bX3 cI (q 0) qN on ++ (bX0 cI (q 12) qD w_D ++ (bX1 (qD 13) w_DW ++ bX1 (qD 14) w_DP)))) H → va_D A (bX4 cI cZ a q oo ++ (bX3 cI (q 0) qN on ++ (bX0 cI (q 12) qD w_D ++ (bX1 (qD 13) w_DW ++ bX1 (qD 14) w_DP)))) → va_S A s.heap H locs → lv_has ls 7 [(0, .ref a), (1, .int v1), (2, .long v2), (4, .long v4), (6, .int v6)] → GW l yX4_key cX4_key 7 (some .int) 5 114 D [.ref a] (some (.int x.1)) (bX4 cI cZ a q oo ++ (bX3 cI (q 0) qN on ++ (bX0 cI (q 12) qD x.2.1 ++ (bX1 (qD 13) x.2.2.1 ++ bX1 (qD 14) x.2.2.2)))) A p e s m below meth c H locs (F0 m 15 ls []) := by
    intro n
    induction n with
    | zero => intro v1 v2 v4 v6 w_D w_DW w_DP H locs ls hf; cases hf
    | succ n ih =>
      intro v1 v2 v4 v6 w_D w_DW w_DP H locs ls hf hP hD hS hl
      rw [lp_X4_key_15] at hf
      refine lv_iload (pc := 15) hx hb dX4_key_15 (lv_at hl 4 rfl) ?_
      refine lv_aload_n (pc := 17) hx hb dX4_key_17 rfl (lv_at hl 0 rfl) ?_
      refine va_get (pc := 18) (D := D) (ci := 4) (v := .ref (q 0)) (C := RX4) (T := TX4) (N := 13) hx hb hts iX4 hown hK.1 hP 0 rfl rfl 0 (by decide) (hts _ fl_RX4_12) (fun _ h => h) rfl dX4_key_18 ?_
      refine va_getN (pc := 21) (D := D) (ci := 3) (v := .int (on.1 4)) (C := RX3) (T := TX3) (N := 12) hx hb hts iX3 hown hK.1 hP 5 rfl rfl 4 (by decide) (va_Nw.use rfl (hK.2 _ nf_RX4_89)) (fun _ h => h) rfl dX4_key_21 ?_
      refine lv_icmp_ge (pc := 24) (tgt := 131) hx hb dX4_key_24 (by decide) (fun c6 => ?_) (fun c6 => ?_)
      · replace hf := ip c6 hf
        obtain rfl := Option.some.inj hf
        exact K3 _ rfl H locs ls hP hD hS (lv_sub hl [0, 1, 2, 3, 4] rfl)
      · replace hf := im c6 hf
        refine lv_aload_n (pc := 27) hx hb dX4_key_27 rfl (lv_at hl 0 rfl) ?_
        refine va_get (pc := 28) (D := D) (ci := 4) (v := .ref (q 0)) (C := RX4) (T := TX4) (N := 13) hx hb hts iX4 hown hK.1 hP 0 rfl rfl 0 (by decide) (hts _ fl_RX4_12) (fun _ h => h) rfl dX4_key_28 ?_
        refine lv_iload (pc := 31) hx hb dX4_key_31 (lv_at hl 4 rfl) ?_
        obtain ⟨x7, ex7, hf⟩ := bd_some hf
        refine ct_V (pc := 33) (As := [.int v6]) (rest := []) (wr := bX4 cI cZ a q oo ++ (bX0 cI (q 12) qD w_D ++ (bX1 (qD 13) w_DW ++ bX1 (qD 14) w_DP))) (W1 := bX4 cI cZ a q oo ++ (bX3 cI (q 0) qN on ++ (bX0 cI (q 12) qD w_D ++ (bX1 (qD 13) w_DW ++ bX1 (qD 14) w_DP)))) ⟨hx, hb, hml, hown, hts⟩ hK (c_X3_isIntact l D cI cZ cS (q 0) qN v6 on x7 ex7) gv_RX4_102 rfl hs_X3_isIntact rfl ⟨Nat.le_of_ble_eq_true rfl, Nat.le_of_ble_eq_true rfl⟩ (ci := 3) (q0 := 5) rfl rfl rfl hl.1 rfl (Nat.le_of_ble_eq_true rfl) dX4_key_33 ⟨Nat.zero_le _, Nat.zero_le _⟩ hP hD hS hA [5, 6, 7, 8, 9, 10, 11, 12] [0, 1, 2, 3, 4, 13, 14, 15, 16, 17, 18, 19] [0, 1, 2, 3, 4, 12, 13, 14, 15, 16, 17, 18, 19, 5, 6, 7, 8, 9, 10, 11] rfl rfl (by decide +kernel) (by decide +kernel) (by decide +kernel) (by decide +kernel) rfl (fun H locs hP hD hS => ?_)
        refine lv_if_ne (pc := 36) (tgt := 42) hx hb dX4_key_36 (by decide) (fun c8 => ?_) (fun c8 => ?_)
        · replace hf := im c8 hf
          refine lv_aload_n (pc := 42) hx hb dX4_key_42 rfl (lv_at hl 0 rfl) ?_
          refine va_get (pc := 43) (D := D) (ci := 4) (v := .ref (q 12)) (C := RX4) (T := TX4) (N := 13) hx hb hts iX4 hown hK.1 hP 0 rfl rfl 12 (by decide) (hts _ fl_RX4_54) (fun _ h => h) rfl dX4_key_43 ?_
          refine lv_aload_n (pc := 46) hx hb dX4_key_46 rfl (lv_at hl 0 rfl) ?_
          refine va_get (pc := 47) (D := D) (ci := 4) (v := .ref (q 0)) (C := RX4) (T := TX4) (N := 13) hx hb hts iX4 hown hK.1 hP 0 rfl rfl 0 (by decide) (hts _ fl_RX4_12) (fun _ h => h) rfl dX4_key_47 ?_
          refine va_getN (pc := 50) (D := D) (ci := 3) (v := .int (on.1 5)) (C := RX3) (T := TX3) (N := 12) hx hb hts iX3 hown hK.1 hP 5 rfl rfl 5 (by decide) (va_Nw.use rfl (hK.2 _ nf_RX4_105)) (fun _ h => h) rfl dX4_key_50 ?_
          refine lv_iconst (v := 1) (pc := 53) hx hb dX4_key_53 (by decide) ?_
          refine lv_iload (pc := 54) hx hb dX4_key_54 (lv_at hl 4 rfl) ?_
          refine lv_ishl (pc := 56) hx hb dX4_key_56 ?_
          refine lv_iconst (v := -1) (pc := 57) hx hb dX4_key_57 (by decide) ?_
          refine lv_ixor (pc := 58) hx hb dX4_key_58 ?_
          refine lv_iand (pc := 59) hx hb dX4_key_59 ?_
          obtain ⟨x9, ex9, hf⟩ := bd_some hf
          refine ct_V (pc := 60) (As := [.int ((on.1 5) &&& ((1 <<< (v6 &&& 31)) ^^^ (-1)))]) (rest := []) (wr := bX4 cI cZ a q oo ++ bX3 cI (q 0) qN on) (W1 := bX4 cI cZ a q oo ++ (bX3 cI (q 0) qN on ++ (bX0 cI (q 12) qD x9.1 ++ (bX1 (qD 13) x9.2.1 ++ bX1 (qD 14) x9.2.2)))) ⟨hx, hb, hml, hown, hts⟩ hK (c_X0_settleOn l D cI cZ cS (q 12) qD ((on.1 5) &&& ((1 <<< (v6 &&& 31)) ^^^ (-1))) w_D w_DW w_DP x9 ex9) gv_RX4_233 rfl hs_X0_settleOn rfl ⟨Nat.le_of_ble_eq_true rfl, Nat.le_of_ble_eq_true rfl⟩ (ci := 0) (q0 := 13) rfl rfl rfl hl.1 rfl (Nat.le_of_ble_eq_true rfl) dX4_key_60 ⟨Nat.zero_le _, Nat.zero_le _⟩ hP hD hS hA [13, 14, 15, 16, 17, 18, 19] [0, 1, 2, 3, 4, 5, 6, 7, 8, 9, 10, 11, 12] [0, 1, 2, 3, 4, 5, 6, 7, 8, 9, 10, 11, 12, 13, 14, 15, 16, 17, 18, 19] rfl rfl (by decide +kernel) (by decide +kernel) (by decide +kernel) (by decide +kernel) rfl (fun H locs hP hD hS => ?_)
          refine lv_aload_n (pc := 63) hx hb dX4_key_63 rfl (lv_at hl 0 rfl) ?_
          refine va_get (pc := 64) (D := D) (ci := 4) (v := .ref (q 12)) (C := RX4) (T := TX4) (N := 13) hx hb hts iX4 hown hK.1 hP 0 rfl rfl 12 (by decide) (hts _ fl_RX4_54) (fun _ h => h) rfl dX4_key_64 ?_
          refine va_getN (pc := 67) (D := D) (ci := 0) (v := .int (x9.1.1 11)) (C := RX0) (T := TX0) (N := 15) hx hb hts iX0 hown hK.1 hP 13 rfl rfl 11 (by decide) (va_Nw.use rfl (hK.2 _ nf_RX4_149)) (fun _ h => h) rfl dX4_key_67 ?_
          refine lv_if_ne (pc := 70) (tgt := 76) hx hb dX4_key_70 (by decide) (fun c10 => ?_) (fun c10 => ?_)
          · replace hf := im c10 hf
            refine lv_iload_n (pc := 76) hx hb dX4_key_76 rfl (lv_at hl 1 rfl) ?_
            refine lv_bipush (v := -9) (pc := 77) hx hb dX4_key_77 (by decide) ?_
            refine lv_icmp_eq (pc := 79) (tgt := 105) hx hb dX4_key_79 (by decide) (fun c11 => ?_) (fun c11 => ?_)
            · replace hf := ip c11 hf
              refine lv_iload (pc := 105) hx hb dX4_key_105 (lv_at hl 4 rfl) ?_
              refine lv_istore_n (lv' := [(1, .int v6), (0, .ref a), (2, .long v2), (4, .long v4), (6, .int v6)]) (pc := 107) hx hb dX4_key_107 rfl hl (by decide) rfl (fun ls hl => ?_)
              refine lv_aload_n (pc := 108) hx hb dX4_key_108 rfl (lv_at hl 1 rfl) ?_
              refine va_get (pc := 109) (D := D) (ci := 4) (v := .ref (q 12)) (C := RX4) (T := TX4) (N := 13) hx hb hts iX4 hown hK.1 hP 0 rfl rfl 12 (by decide) (hts _ fl_RX4_54) (fun _ h => h) rfl dX4_key_109 ?_
              obtain ⟨x12, ex12, hf⟩ := bd_some hf
              refine ct_V (pc := 112) (As := []) (rest := []) (wr := bX4 cI cZ a q oo ++ (bX3 cI (q 0) qN on ++ bX1 (qD 13) x9.2.1)) (W1 := bX4 cI cZ a q oo ++ (bX3 cI (q 0) qN on ++ (bX0 cI (q 12) qD x9.1 ++ (bX1 (qD 13) x9.2.1 ++ bX1 (qD 14) x9.2.2)))) ⟨hx, hb, hml, hown, hts⟩ hK (c_X0_useTop l D cI cZ cS (q 12) qD x9.1 x9.2.2 x12 ex12) gv_RX4_209 rfl hs_X0_useTop rfl ⟨Nat.le_of_ble_eq_true rfl, Nat.le_of_ble_eq_true rfl⟩ (ci := 0) (q0 := 13) rfl rfl rfl hl.1 rfl (Nat.le_of_ble_eq_true rfl) dX4_key_112 ⟨Nat.zero_le _, Nat.zero_le _⟩ hP hD hS hA [13, 14, 15, 16, 17, 19] [0, 1, 2, 3, 4, 5, 6, 7, 8, 9, 10, 11, 12, 18] [0, 1, 2, 3, 4, 5, 6, 7, 8, 9, 10, 11, 12, 14, 15, 16, 17, 18, 13, 19] rfl rfl (by decide +kernel) (by decide +kernel) (by decide +kernel) (by decide +kernel) rfl (fun H locs hP hD hS => ?_)
              refine lv_lstore_n (lv' := [(2, .long x12), (1, .int v6), (0, .ref a), (4, .long v4), (6, .int v6)]) (pc := 115) hx hb dX4_key_115 rfl hl (by decide) rfl (fun ls hl => ?_)
              refine lv_aload_n (pc := 116) hx hb dX4_key_116 rfl (lv_at hl 2 rfl) ?_
              refine va_get (pc := 117) (D := D) (ci := 4) (v := .ref (q 12)) (C := RX4) (T := TX4) (N := 13) hx hb hts iX4 hown hK.1 hP 0 rfl rfl 12 (by decide) (hts _ fl_RX4_54) (fun _ h => h) rfl dX4_key_117 ?_
              obtain ⟨x13, ex13, hf⟩ := bd_some hf
              refine ct_V (pc := 120) (As := []) (rest := []) (wr := bX4 cI cZ a q oo ++ (bX3 cI (q 0) qN on ++ bX1 (qD 13) x9.2.1)) (W1 := bX4 cI cZ a q oo ++ (bX3 cI (q 0) qN on ++ (bX0 cI (q 12) qD x9.1 ++ (bX1 (qD 13) x9.2.1 ++ bX1 (qD 14) x9.2.2)))) ⟨hx, hb, hml, hown, hts⟩ hK (c_X0_useBottom l D cI cZ cS (q 12) qD x9.1 x9.2.2 x13 ex13) gv_RX4_212 rfl hs_X0_useBottom rfl ⟨Nat.le_of_ble_eq_true rfl, Nat.le_of_ble_eq_true rfl⟩ (ci := 0) (q0 := 13) rfl rfl rfl hl.1 rfl (Nat.le_of_ble_eq_true rfl) dX4_key_120 ⟨Nat.zero_le _, Nat.zero_le _⟩ hP hD hS hA [13, 14, 15, 16, 17, 19] [0, 1, 2, 3, 4, 5, 6, 7, 8, 9, 10, 11, 12, 18] [0, 1, 2, 3, 4, 5, 6, 7, 8, 9, 10, 11, 12, 14, 15, 16, 17, 18, 13, 19] rfl rfl (by decide +kernel) (by decide +kernel) (by decide +kernel) (by decide +kernel) rfl (fun H locs hP hD hS => ?_)
              refine lv_lstore (lv' := [(4, .long x13), (2, .long x12), (1, .int v6), (0, .ref a), (6, .int v6)]) (pc := 123) hx hb dX4_key_123 hl (by decide) rfl (fun ls hl => ?_)
              refine lv_iinc (v := (v6 + 1)) (lv' := [(6, .int (v6 + 1)), (4, .long x13), (2, .long x12), (1, .int v6), (0, .ref a)]) (pc := 125) hx hb dX4_key_125 hl (k := 4) rfl rfl (by decide) rfl (fun ls hl => ?_)
              refine lv_goto (pc := 128) (tgt := 15) hx hb dX4_key_128 (by decide) ?_
              exact ih _ _ _ _ _ _ _ H locs ls hf hP hD hS (lv_sub hl [4, 3, 2, 1, 0] rfl)
            · replace hf := im c11 hf
              refine lv_aload_n (pc := 82) hx hb dX4_key_82 rfl (lv_at hl 0 rfl) ?_
              refine va_get (pc := 83) (D := D) (ci := 4) (v := .ref (q 12)) (C := RX4) (T := TX4) (N := 13) hx hb hts iX4 hown hK.1 hP 0 rfl rfl 12 (by decide) (hts _ fl_RX4_54) (fun _ h => h) rfl dX4_key_83 ?_
              obtain ⟨x14, ex14, hf⟩ := bd_some hf
              refine ct_V (pc := 86) (As := []) (rest := []) (wr := bX4 cI cZ a q oo ++ (bX3 cI (q 0) qN on ++ bX1 (qD 13) x9.2.1)) (W1 := bX4 cI cZ a q oo ++ (bX3 cI (q 0) qN on ++ (bX0 cI (q 12) qD x9.1 ++ (bX1 (qD 13) x9.2.1 ++ bX1 (qD 14) x9.2.2)))) ⟨hx, hb, hml, hown, hts⟩ hK (c_X0_useTop l D cI cZ cS (q 12) qD x9.1 x9.2.2 x14 ex14) gv_RX4_209 rfl hs_X0_useTop rfl ⟨Nat.le_of_ble_eq_true rfl, Nat.le_of_ble_eq_true rfl⟩ (ci := 0) (q0 := 13) rfl rfl rfl hl.1 rfl (Nat.le_of_ble_eq_true rfl) dX4_key_86 ⟨Nat.zero_le _, Nat.zero_le _⟩ hP hD hS hA [13, 14, 15, 16, 17, 19] [0, 1, 2, 3, 4, 5, 6, 7, 8, 9, 10, 11, 12, 18] [0, 1, 2, 3, 4, 5, 6, 7, 8, 9, 10, 11, 12, 14, 15, 16, 17, 18, 13, 19] rfl rfl (by decide +kernel) (by decide +kernel) (by decide +kernel) (by decide +kernel) rfl (fun H locs hP hD hS => ?_)
              refine lv_aload_n (pc := 89) hx hb dX4_key_89 rfl (lv_at hl 0 rfl) ?_
              refine va_get (pc := 90) (D := D) (ci := 4) (v := .ref (q 12)) (C := RX4) (T := TX4) (N := 13) hx hb hts iX4 hown hK.1 hP 0 rfl rfl 12 (by decide) (hts _ fl_RX4_54) (fun _ h => h) rfl dX4_key_90 ?_
              obtain ⟨x15, ex15, hf⟩ := bd_some hf
              refine ct_V (pc := 93) (As := []) (rest := [.long x14]) (wr := bX4 cI cZ a q oo ++ (bX3 cI (q 0) qN on ++ bX1 (qD 13) x9.2.1)) (W1 := bX4 cI cZ a q oo ++ (bX3 cI (q 0) qN on ++ (bX0 cI (q 12) qD x9.1 ++ (bX1 (qD 13) x9.2.1 ++ bX1 (qD 14) x9.2.2)))) ⟨hx, hb, hml, hown, hts⟩ hK (c_X0_useBottom l D cI cZ cS (q 12) qD x9.1 x9.2.2 x15 ex15) gv_RX4_212 rfl hs_X0_useBottom rfl ⟨Nat.le_of_ble_eq_true rfl, Nat.le_of_ble_eq_true rfl⟩ (ci := 0) (q0 := 13) rfl rfl rfl hl.1 rfl (Nat.le_of_ble_eq_true rfl) dX4_key_93 ⟨Nat.zero_le _, Nat.zero_le _⟩ hP hD hS hA [13, 14, 15, 16, 17, 19] [0, 1, 2, 3, 4, 5, 6, 7, 8, 9, 10, 11, 12, 18] [0, 1, 2, 3, 4, 5, 6, 7, 8, 9, 10, 11, 12, 14, 15, 16, 17, 18, 13, 19] rfl rfl (by decide +kernel) (by decide +kernel) (by decide +kernel) (by decide +kernel) rfl (fun H locs hP hD hS => ?_)
              refine lv_lload_n (pc := 96) hx hb dX4_key_96 rfl (lv_at hl 2 rfl) ?_
              refine lv_lload (pc := 97) hx hb dX4_key_97 (lv_at hl 3 rfl) ?_
              obtain ⟨x16, ex16, hf⟩ := bd_some hf
              refine ct_S0 (pc := 99) (As := [.long x14, .long x15, .long v2, .long v4]) (rest := []) ⟨hx, hb, hml, hown, hts⟩ hK (c_X4_compareFractions l D cI cZ cS x14 x15 v2 v4 x16 ex16) gs_RX4_237 hs_X4_compareFractions rfl ⟨Nat.le_of_ble_eq_true rfl, Nat.le_of_ble_eq_true rfl⟩ hl.1 rfl (Nat.le_of_ble_eq_true rfl) dX4_key_99 ⟨Nat.zero_le _, Nat.zero_le _⟩ hP hS hA (fun H locs hP hS => ?_)
              refine lv_if_le (pc := 102) (tgt := 125) hx hb dX4_key_102 (by decide) (fun c17 => ?_) (fun c17 => ?_)
              · replace hf := ip c17 hf
                refine lv_iinc (v := (v6 + 1)) (lv' := [(6, .int (v6 + 1)), (0, .ref a), (1, .int v1), (2, .long v2), (4, .long v4)]) (pc := 125) hx hb dX4_key_125 hl (k := 4) rfl rfl (by decide) rfl (fun ls hl => ?_)
                refine lv_goto (pc := 128) (tgt := 15) hx hb dX4_key_128 (by decide) ?_
                exact ih _ _ _ _ _ _ _ H locs ls hf hP hD hS (lv_sub hl [1, 2, 3, 4, 0] rfl)
              · replace hf := im c17 hf
                refine lv_iload (pc := 105) hx hb dX4_key_105 (lv_at hl 4 rfl) ?_
                refine lv_istore_n (lv' := [(1, .int v6), (0, .ref a), (2, .long v2), (4, .long v4), (6, .int v6)]) (pc := 107) hx hb dX4_key_107 rfl hl (by decide) rfl (fun ls hl => ?_)
                refine lv_aload_n (pc := 108) hx hb dX4_key_108 rfl (lv_at hl 1 rfl) ?_
                refine va_get (pc := 109) (D := D) (ci := 4) (v := .ref (q 12)) (C := RX4) (T := TX4) (N := 13) hx hb hts iX4 hown hK.1 hP 0 rfl rfl 12 (by decide) (hts _ fl_RX4_54) (fun _ h => h) rfl dX4_key_109 ?_
                obtain ⟨x18, ex18, hf⟩ := bd_some hf
                refine ct_V (pc := 112) (As := []) (rest := []) (wr := bX4 cI cZ a q oo ++ (bX3 cI (q 0) qN on ++ bX1 (qD 13) x9.2.1)) (W1 := bX4 cI cZ a q oo ++ (bX3 cI (q 0) qN on ++ (bX0 cI (q 12) qD x9.1 ++ (bX1 (qD 13) x9.2.1 ++ bX1 (qD 14) x9.2.2)))) ⟨hx, hb, hml, hown, hts⟩ hK (c_X0_useTop l D cI cZ cS (q 12) qD x9.1 x9.2.2 x18 ex18) gv_RX4_209 rfl hs_X0_useTop rfl ⟨Nat.le_of_ble_eq_true rfl, Nat.le_of_ble_eq_true rfl⟩ (ci := 0) (q0 := 13) rfl rfl rfl hl.1 rfl (Nat.le_of_ble_eq_true rfl) dX4_key_112 ⟨Nat.zero_le _, Nat.zero_le _⟩ hP hD hS hA [13, 14, 15, 16, 17, 19] [0, 1, 2, 3, 4, 5, 6, 7, 8, 9, 10, 11, 12, 18] [0, 1, 2, 3, 4, 5, 6, 7, 8, 9, 10, 11, 12, 14, 15, 16, 17, 18, 13, 19] rfl rfl (by decide +kernel) (by decide +kernel) (by decide +kernel) (by decide +kernel) rfl (fun H locs hP hD hS => ?_)
                refine lv_lstore_n (lv' := [(2, .long x18), (1, .int v6), (0, .ref a), (4, .long v4), (6, .int v6)]) (pc := 115) hx hb dX4_key_115 rfl hl (by decide) rfl (fun ls hl => ?_)
                refine lv_aload_n (pc := 116) hx hb dX4_key_116 rfl (lv_at hl 2 rfl) ?_
                refine va_get (pc := 117) (D := D) (ci := 4) (v := .ref (q 12)) (C := RX4) (T := TX4) (N := 13) hx hb hts iX4 hown hK.1 hP 0 rfl rfl 12 (by decide) (hts _ fl_RX4_54) (fun _ h => h) rfl dX4_key_117 ?_
                obtain ⟨x19, ex19, hf⟩ := bd_some hf
                refine ct_V (pc := 120) (As := []) (rest := []) (wr := bX4 cI cZ a q oo ++ (bX3 cI (q 0) qN on ++ bX1 (qD 13) x9.2.1)) (W1 := bX4 cI cZ a q oo ++ (bX3 cI (q 0) qN on ++ (bX0 cI (q 12) qD x9.1 ++ (bX1 (qD 13) x9.2.1 ++ bX1 (qD 14) x9.2.2)))) ⟨hx, hb, hml, hown, hts⟩ hK (c_X0_useBottom l D cI cZ cS (q 12) qD x9.1 x9.2.2 x19 ex19) gv_RX4_212 rfl hs_X0_useBottom rfl ⟨Nat.le_of_ble_eq_true rfl, Nat.le_of_ble_eq_true rfl⟩ (ci := 0) (q0 := 13) rfl rfl rfl hl.1 rfl (Nat.le_of_ble_eq_true rfl) dX4_key_120 ⟨Nat.zero_le _, Nat.zero_le _⟩ hP hD hS hA [13, 14, 15, 16, 17, 19] [0, 1, 2, 3, 4, 5, 6, 7, 8, 9, 10, 11, 12, 18] [0, 1, 2, 3, 4, 5, 6, 7, 8, 9, 10, 11, 12, 14, 15, 16, 17, 18, 13, 19] rfl rfl (by decide +kernel) (by decide +kernel) (by decide +kernel) (by decide +kernel) rfl (fun H locs hP hD hS => ?_)
                refine lv_lstore (lv' := [(4, .long x19), (2, .long x18), (1, .int v6), (0, .ref a), (6, .int v6)]) (pc := 123) hx hb dX4_key_123 hl (by decide) rfl (fun ls hl => ?_)
                refine lv_iinc (v := (v6 + 1)) (lv' := [(6, .int (v6 + 1)), (4, .long x19), (2, .long x18), (1, .int v6), (0, .ref a)]) (pc := 125) hx hb dX4_key_125 hl (k := 4) rfl rfl (by decide) rfl (fun ls hl => ?_)
                refine lv_goto (pc := 128) (tgt := 15) hx hb dX4_key_128 (by decide) ?_
                exact ih _ _ _ _ _ _ _ H locs ls hf hP hD hS (lv_sub hl [4, 3, 2, 1, 0] rfl)
          · replace hf := ip c10 hf
            refine lv_iload (pc := 73) hx hb dX4_key_73 (lv_at hl 4 rfl) ?_
            obtain rfl := Option.some.inj hf
            replace hfz2 := sum_l hfz2
            obtain rfl := Option.some.inj hfz2
            exact W.iret hx hb hr (fun t ht hW => ⟨rfl, by rw [ht]; exact hP, hD, hS.F ht⟩) hS.2.2 dX4_key_75
        · replace hf := ip c8 hf
          refine lv_goto (pc := 39) (tgt := 125) hx hb dX4_key_39 (by decide) ?_
          refine lv_iinc (v := (v6 + 1)) (lv' := [(6, .int (v6 + 1)), (0, .ref a), (1, .int v1), (2, .long v2), (4, .long v4)]) (pc := 125) hx hb dX4_key_125 hl (k := 4) rfl rfl (by decide) rfl (fun ls hl => ?_)
          refine lv_goto (pc := 128) (tgt := 15) hx hb dX4_key_128 (by decide) ?_
          exact ih _ _ _ _ _ _ _ H locs ls hf hP hD hS (lv_sub hl [1, 2, 3, 4, 0] rfl)
  exact KL4 1000 _ _ _ _ _ _ _ H locs ls hz2 hP hD hS (lv_sub hl [4, 3, 2, 1, 0] rfl)
def lp_X4_extra_40 (r1 : Int32) (r2 : Int32) (u_O : OS) (u_N : OS) : Nat → Int32 → Int64 → Int64 → Int32 → OS → OS → OS → Option (Int32 × Int64 × Int64 × Int32 × OS × OS × OS)
  | 0, _, _, _, _, _, _, _ => none
  | n + 1, v3, v4, v6, v8, w_D, w_DW, w_DP => if 361 ≤ v8 then some (v3, v4, v6, v8, w_D, w_DW, w_DP) else Option.bind (f_X4_xOf v8) fun x9 => Option.bind (f_X4_yOf v8) fun x10 => Option.bind (f_X3_hasPileAt x9 x10 u_N) fun x11 => if x11 = 0 then Option.bind (f_X0_putFurther x9 x10 r1 r2 w_D w_DW) fun x13 => Option.bind (f_X0_settle x13.1 x13.2 w_DP) fun x14 => Option.bind (f_X0_takeFurtherAway x14.1 x13.2) fun x15 => if (x15.1.1 11) = 0 then lp_X4_extra_40 r1 r2 u_O u_N n v3 v4 v6 (v8 + 1) x15.1 x15.2 x14.2 else if v3 = (-9) then Option.bind (f_X0_useTop x15.1 x14.2) fun x18 => Option.bind (f_X0_useBottom x15.1 x14.2) fun x19 => lp_X4_extra_40 r1 r2 u_O u_N n v8 x18 x19 (v8 + 1) x15.1 x15.2 x14.2 else Option.bind (f_X0_useTop x15.1 x14.2) fun x20 => Option.bind (f_X0_useBottom x15.1 x14.2) fun x21 => Option.bind (f_X4_compareFractions x20 x21 v4 v6) fun x22 => if 0 ≤ x22 then lp_X4_extra_40 r1 r2 u_O u_N n v3 v4 v6 (v8 + 1) x15.1 x15.2 x14.2 else Option.bind (f_X0_useTop x15.1 x14.2) fun x24 => Option.bind (f_X0_useBottom x15.1 x14.2) fun x25 => lp_X4_extra_40 r1 r2 u_O u_N n v8 x24 x25 (v8 + 1) x15.1 x15.2 x14.2 else lp_X4_extra_40 r1 r2 u_O u_N n v3 v4 v6 (v8 + 1) w_D w_DW w_DP
def f_X4_extra (i0 : Int32) (i1 : Int32) (oo : OS) (on : OS) (od : OS) (odw : OS) (odp : OS) : Option (Int32 × OS × OS × OS) := Option.bind (f_X4_isPileKind i0 i1) fun x1 => if x1 = 0 then some ((-1), od, odw, odp) else Option.bind (f_X4_takePresent oo on od) fun x3 => Option.bind (f_X0_beginWith (on.1 5) x3 odw) fun x4 => Option.bind (lp_X4_extra_40 i0 i1 oo on 1000 (-9) 0 1 0 x4.1 x4.2 odp) fun z5 => some (z5.1, z5.2.2.2.2.1, z5.2.2.2.2.2.1, z5.2.2.2.2.2.2)
set_option maxHeartbeats 4000000 in
set_option maxRecDepth 100000 in
theorem c_X4_extra (l : Launch) (D : va_G) (cI cZ cS : ClassId) (a : Nat) (q : Nat → Nat) (qN : Nat → Nat) (qD : Nat → Nat) (i0 : Int32) (i1 : Int32) (oo : OS) (on : OS) (od : OS) (odw : OS) (odp : OS) (x : (Int32 × OS × OS × OS)) (hf : f_X4_extra i0 i1 oo on od odw odp = some x) : Ct l yX4_extra cX4_extra 11 (some .int) 4 93 D cI cZ cS [.ref a, .int i0, .int i1] (bX4 cI cZ a q oo ++ (bX3 cI (q 0) qN on ++ (bX0 cI (q 12) qD od ++ (bX1 (qD 13) odw ++ bX1 (qD 14) odp)))) (some (.int x.1)) (bX4 cI cZ a q oo ++ (bX3 cI (q 0) qN on ++ (bX0 cI (q 12) qD x.2.1 ++ (bX1 (qD 13) x.2.2.1 ++ bX1 (qD 14) x.2.2.2)))) := by
  intro sz
  refine Met.ofW (cc := cX4_extra) (maxL := 11) (ret := (some .int)) (by decide +kernel) rfl ?_
  intro p e s m args below meth c s₁ B hml hv
  obtain ⟨rfl, hsz, hP, hK, hD0⟩ := hv
  have hx := B.exec
  have hb := B.bytes
  have hr := B.returns
  have hts0 := atoms_spec (ws := .code yX4_extra cX4_extra 11 (some .int) :: TB) B.pre
  have hts := fun w (h : w ∈ TB) => hts0 w (List.mem_cons_of_mem _ h)
  have hown : s.vm.findClass RX4 = some m.cls := findClass_of_methodNamed B.named
  have hlocks := B.notSynchronized
  subst hsz
  have hD := hD0.self (sz := s.heap.size)
  generalize hAe : va_A (bX4 cI cZ a q oo ++ (bX3 cI (q 0) qN on ++ (bX0 cI (q 12) qD od ++ (bX1 (qD 13) odw ++ bX1 (qD 14) odp)))) s.heap.size = A at hD ⊢
  have hA : ∀ q : Nat, s.heap.size ≤ q → A q := fun q h => by rw [← hAe]; exact Or.inr h
  have hS : va_S A s.heap s.heap [] := va_S.rf
  obtain ⟨H, hH⟩ : ∃ H, H = s.heap := ⟨_, rfl⟩
  rw [← hH] at hP
  have hS : va_S A s.heap H [] := by rw [hH]; exact hS
  have hl := lv_entry ([.ref a, .int i0, .int i1]) (n := 11) (Nat.le_of_ble_eq_true rfl)
  rw [lg_entry_eq]
  generalize (lg_sl ([.ref a, .int i0, .int i1]) ++ List.replicate (11 - (lg_sl ([.ref a, .int i0, .int i1])).length) Slot.unset).toArray = ls at hl ⊢
  have hl : lv_has ls 11 [(0, .ref a), (1, .int i0), (2, .int i1)] := hl
  refine W_heap hH ?_
  obtain ⟨locs, hlo⟩ : ∃ locs : List Loc, locs = [] := ⟨_, rfl⟩
  rw [← hlo] at hS ⊢
  unfold f_X4_extra at hf
  refine lv_iload_n (pc := 0) hx hb dX4_extra_0 rfl (lv_at hl 1 rfl) ?_
  refine lv_iload_n (pc := 1) hx hb dX4_extra_1 rfl (lv_at hl 2 rfl) ?_
  obtain ⟨x1, ex1, hf⟩ := bd_some hf
  refine ct_S0 (pc := 2) (As := [.int i0, .int i1]) (rest := []) ⟨hx, hb, hml, hown, hts⟩ hK (c_X4_isPileKind l D cI cZ cS i0 i1 x1 ex1) gs_RX4_83 hs_X4_isPileKind rfl ⟨Nat.le_of_ble_eq_true rfl, Nat.le_of_ble_eq_true rfl⟩ hl.1 rfl (Nat.le_of_ble_eq_true rfl) dX4_extra_2 ⟨Nat.zero_le _, Nat.zero_le _⟩ hP hS hA (fun H locs hP hS => ?_)
  refine lv_if_ne (pc := 5) (tgt := 10) hx hb dX4_extra_5 (by decide) (fun c2 => ?_) (fun c2 => ?_)
  · replace hf := im c2 hf
    refine lv_aload_n (pc := 10) hx hb dX4_extra_10 rfl (lv_at hl 0 rfl) ?_
    obtain ⟨x3, ex3, hf⟩ := bd_some hf
    refine ct_V (pc := 11) (As := []) (rest := []) (wr := bX1 (qD 13) odw ++ bX1 (qD 14) odp) (W1 := bX4 cI cZ a q oo ++ (bX3 cI (q 0) qN on ++ (bX0 cI (q 12) qD x3 ++ (bX1 (qD 13) odw ++ bX1 (qD 14) odp)))) ⟨hx, hb, hml, hown, hts⟩ hK (c_X4_takePresent l D cI cZ cS a q qN qD oo on od x3 ex3) gv_RX4_230 rfl hs_X4_takePresent rfl ⟨Nat.le_of_ble_eq_true rfl, Nat.le_of_ble_eq_true rfl⟩ (ci := 4) (q0 := 0) rfl rfl rfl hl.1 rfl (Nat.le_of_ble_eq_true rfl) dX4_extra_11 ⟨Nat.zero_le _, Nat.zero_le _⟩ hP hD hS hA [0, 1, 2, 3, 4, 5, 6, 7, 8, 9, 10, 11, 12, 13, 14, 15, 16, 17] [18, 19] [2, 3, 4, 5, 6, 7, 8, 9, 10, 11, 12, 13, 14, 15, 16, 17, 18, 19, 0, 1] rfl rfl (by decide +kernel) (by decide +kernel) (by decide +kernel) (by decide +kernel) rfl (fun H locs hP hD hS => ?_)
    refine lv_aload_n (pc := 14) hx hb dX4_extra_14 rfl (lv_at hl 0 rfl) ?_
    refine va_get (pc := 15) (D := D) (ci := 4) (v := .ref (q 12)) (C := RX4) (T := TX4) (N := 13) hx hb hts iX4 hown hK.1 hP 0 rfl rfl 12 (by decide) (hts _ fl_RX4_54) (fun _ h => h) rfl dX4_extra_15 ?_
    refine lv_aload_n (pc := 18) hx hb dX4_extra_18 rfl (lv_at hl 0 rfl) ?_
    refine va_get (pc := 19) (D := D) (ci := 4) (v := .ref (q 0)) (C := RX4) (T := TX4) (N := 13) hx hb hts iX4 hown hK.1 hP 0 rfl rfl 0 (by decide) (hts _ fl_RX4_12) (fun _ h => h) rfl dX4_extra_19 ?_
    refine va_getN (pc := 22) (D := D) (ci := 3) (v := .int (on.1 5)) (C := RX3) (T := TX3) (N := 12) hx hb hts iX3 hown hK.1 hP 5 rfl rfl 5 (by decide) (va_Nw.use rfl (hK.2 _ nf_RX4_105)) (fun _ h => h) rfl dX4_extra_22 ?_
    obtain ⟨x4, ex4, hf⟩ := bd_some hf
    refine ct_V (pc := 25) (As := [.int (on.1 5)]) (rest := []) (wr := bX4 cI cZ a q oo ++ (bX3 cI (q 0) qN on ++ bX1 (qD 14) odp)) (W1 := bX4 cI cZ a q oo ++ (bX3 cI (q 0) qN on ++ (bX0 cI (q 12) qD x4.1 ++ (bX1 (qD 13) x4.2 ++ bX1 (qD 14) odp)))) ⟨hx, hb, hml, hown, hts⟩ hK (c_X0_beginWith l D cI cZ cS (q 12) qD (on.1 5) x3 odw x4 ex4) gv_RX4_241 rfl hs_X0_beginWith rfl ⟨Nat.le_of_ble_eq_true rfl, Nat.le_of_ble_eq_true rfl⟩ (ci := 0) (q0 := 13) rfl rfl rfl hl.1 rfl (Nat.le_of_ble_eq_true rfl) dX4_extra_25 ⟨Nat.zero_le _, Nat.zero_le _⟩ hP hD hS hA [13, 14, 15, 16, 17, 18] [0, 1, 2, 3, 4, 5, 6, 7, 8, 9, 10, 11, 12, 19] [0, 1, 2, 3, 4, 5, 6, 7, 8, 9, 10, 11, 12, 14, 15, 16, 17, 18, 19, 13] rfl rfl (by decide +kernel) (by decide +kernel) (by decide +kernel) (by decide +kernel) rfl (fun H locs hP hD hS => ?_)
    refine lv_bipush (v := -9) (pc := 28) hx hb dX4_extra_28 (by decide) ?_
    refine lv_istore_n (lv' := [(3, .int (-9)), (0, .ref a), (1, .int i0), (2, .int i1)]) (pc := 30) hx hb dX4_extra_30 rfl hl (by decide) rfl (fun ls hl => ?_)
    refine lv_lconst (v := 0) (pc := 31) hx hb dX4_extra_31 (by decide) ?_
    refine lv_lstore (lv' := [(4, .long 0), (3, .int (-9)), (0, .ref a), (1, .int i0), (2, .int i1)]) (pc := 32) hx hb dX4_extra_32 hl (by decide) rfl (fun ls hl => ?_)
    refine lv_lconst (v := 1) (pc := 34) hx hb dX4_extra_34 (by decide) ?_
    refine lv_lstore (lv' := [(6, .long 1), (4, .long 0), (3, .int (-9)), (0, .ref a), (1, .int i0), (2, .int i1)]) (pc := 35) hx hb dX4_extra_35 hl (by decide) rfl (fun ls hl => ?_)
    refine lv_iconst (v := 0) (pc := 37) hx hb dX4_extra_37 (by decide) ?_
    refine lv_istore (lv' := [(8, .int 0), (6, .long 1), (4, .long 0), (3, .int (-9)), (0, .ref a), (1, .int i0), (2, .int i1)]) (pc := 38) hx hb dX4_extra_38 hl (by decide) rfl (fun ls hl => ?_)
    obtain ⟨z5, hz5, hf⟩ := bd_some hf
    have hfz5 := hf
    clear hf
    have K6 : ∀ (H : Heap) (locs : List Loc) (ls : Array Slot), va_P D vwCl (bX4 cI cZ a q oo ++ (bX3 cI (q 0) qN on ++ (bX0 cI (q 12) qD z5.2.2.2.2.1 ++ (bX1 (qD 13) z5.2.2.2.2.2.1 ++ bX1 (qD 14) z5.2.2.2.2.2.2)))) H → va_D A (bX4 cI cZ a q oo ++ (bX3 cI (q 0) qN on ++ (bX0 cI (q 12) qD z5.2.2.2.2.1 ++ (bX1 (qD 13) z5.2.2.2.2.2.1 ++ bX1 (qD 14) z5.2.2.2.2.2.2)))) → va_S A s.heap H locs → lv_has ls 11 [(0, .ref a), (1, .int i0), (2, .int i1), (3, .int z5.1), (4, .long z5.2.1), (6, .long z5.2.2.1), (8, .int z5.2.2.2.1)] → GW l yX4_extra cX4_extra 11 (some .int) 4 93 D [.ref a, .int i0, .int i1] (some (.int x.1)) (bX4 cI cZ a q oo ++ (bX3 cI (q 0) qN on ++ (bX0 cI (q 12) qD x.2.1 ++ (bX1 (qD 13) x.2.2.1 ++ bX1 (qD 14) x.2.2.2)))) A p e s m below meth c H locs (F0 m 176 ls []) := by
      intro H locs ls hP hD hS hl
      have hf := hfz5
      refine lv_iload_n (pc := 176) hx hb dX4_extra_176 rfl (lv_at hl 3 rfl) ?_
      obtain rfl := Option.some.inj hf
      exact W.iret hx hb hr (fun t ht hW => ⟨rfl, by rw [ht]; exact hP, hD, hS.F ht⟩) hS.2.2 dX4_extra_177
    have KL7 : ∀ (n : Nat) (v3 : Int32) (v4 : Int64) (v6 : Int64) (v8 : Int32) (w_D : OS) (w_DW : OS) (w_DP : OS) (H : Heap) (locs : List Loc) (ls : Array Slot), lp_X4_extra_40 i0 i1 oo on n v3 v4 v6 v8 w_D w_DW w_DP = some z5 → va_P D vwCl (bX4 cI cZ a q oo ++ (bX3 cI (q 0) qN on ++ (bX0 cI (q 12) qD w_D ++ (bX1 (qD 13) w_DW ++ bX1 (qD 14) w_DP)))) H → va_D A (bX4 cI cZ a q oo ++ (bX3 cI (q 0) qN on ++ (bX0 cI (q 12) qD w_D ++ (bX1 (qD 13) w_DW ++ bX1 (qD 14) w_DP)))) → va_S A s.heap H locs → lv_has ls 11 [(0, .ref a), (1, .int i0), (2, .int i1), (3, .int v3), (4, .long v4), (6, .long v6), (8, .int v8)] → GW l yX4_extra cX4_extra 11 (some .int) 4 93 D [.ref a, .int i0, .int i1] (some (.int x.1)) (bX4 cI cZ a q oo ++ (bX3 cI (q 0) qN on ++ (bX0 cI (q 12) qD x.2.1 ++ (bX1 (qD 13) x.2.2.1 ++ bX1 (qD 14) x.2.2.2)))) A p e s m below meth c H locs (F0 m 40 ls []) := by
      intro n
      induction n with
      | zero => intro v3 v4 v6 v8 w_D w_DW w_DP H locs ls hf; cases hf
      | succ n ih =>
        intro v3 v4 v6 v8 w_D w_DW w_DP H locs ls hf hP hD hS hl
        rw [lp_X4_extra_40] at hf
        refine lv_iload (pc := 40) hx hb dX4_extra_40 (lv_at hl 6 rfl) ?_
        refine lv_sipush (v := 361) (pc := 42) hx hb dX4_extra_42 (by decide) ?_
        refine lv_icmp_ge (pc := 45) (tgt := 176) hx hb dX4_extra_45 (by decide) (fun c8 => ?_) (fun c8 => ?_)
        · replace hf := ip c8 hf
          obtain rfl := Option.some.inj hf
          exact K6 H locs ls hP hD hS (lv_sub hl [0, 1, 2, 3, 4, 5, 6] rfl)
        · replace hf := im c8 hf
          refine lv_iload (pc := 48) hx hb dX4_extra_48 (lv_at hl 6 rfl) ?_
          obtain ⟨x9, ex9, hf⟩ := bd_some hf
          refine ct_S0 (pc := 50) (As := [.int v8]) (rest := []) ⟨hx, hb, hml, hown, hts⟩ hK (c_X4_xOf l D cI cZ cS v8 x9 ex9) gs_RX4_222 hs_X4_xOf rfl ⟨Nat.le_of_ble_eq_true rfl, Nat.le_of_ble_eq_true rfl⟩ hl.1 rfl (Nat.le_of_ble_eq_true rfl) dX4_extra_50 ⟨Nat.zero_le _, Nat.zero_le _⟩ hP hS hA (fun H locs hP hS => ?_)
          refine lv_istore (lv' := [(9, .int x9), (0, .ref a), (1, .int i0), (2, .int i1), (3, .int v3), (4, .long v4), (6, .long v6), (8, .int v8)]) (pc := 53) hx hb dX4_extra_53 hl (by decide) rfl (fun ls hl => ?_)
          refine lv_iload (pc := 55) hx hb dX4_extra_55 (lv_at hl 7 rfl) ?_
          obtain ⟨x10, ex10, hf⟩ := bd_some hf
          refine ct_S0 (pc := 57) (As := [.int v8]) (rest := []) ⟨hx, hb, hml, hown, hts⟩ hK (c_X4_yOf l D cI cZ cS v8 x10 ex10) gs_RX4_225 hs_X4_yOf rfl ⟨Nat.le_of_ble_eq_true rfl, Nat.le_of_ble_eq_true rfl⟩ hl.1 rfl (Nat.le_of_ble_eq_true rfl) dX4_extra_57 ⟨Nat.zero_le _, Nat.zero_le _⟩ hP hS hA (fun H locs hP hS => ?_)
          refine lv_istore (lv' := [(10, .int x10), (9, .int x9), (0, .ref a), (1, .int i0), (2, .int i1), (3, .int v3), (4, .long v4), (6, .long v6), (8, .int v8)]) (pc := 60) hx hb dX4_extra_60 hl (by decide) rfl (fun ls hl => ?_)
          refine lv_aload_n (pc := 62) hx hb dX4_extra_62 rfl (lv_at hl 2 rfl) ?_
          refine va_get (pc := 63) (D := D) (ci := 4) (v := .ref (q 0)) (C := RX4) (T := TX4) (N := 13) hx hb hts iX4 hown hK.1 hP 0 rfl rfl 0 (by decide) (hts _ fl_RX4_12) (fun _ h => h) rfl dX4_extra_63 ?_
          refine lv_iload (pc := 66) hx hb dX4_extra_66 (lv_at hl 1 rfl) ?_
          refine lv_iload (pc := 68) hx hb dX4_extra_68 (lv_at hl 0 rfl) ?_
          obtain ⟨x11, ex11, hf⟩ := bd_some hf
          refine ct_V (pc := 70) (As := [.int x9, .int x10]) (rest := []) (wr := bX4 cI cZ a q oo ++ (bX0 cI (q 12) qD w_D ++ (bX1 (qD 13) w_DW ++ bX1 (qD 14) w_DP))) (W1 := bX4 cI cZ a q oo ++ (bX3 cI (q 0) qN on ++ (bX0 cI (q 12) qD w_D ++ (bX1 (qD 13) w_DW ++ bX1 (qD 14) w_DP)))) ⟨hx, hb, hml, hown, hts⟩ hK (c_X3_hasPileAt l D cI cZ cS (q 0) qN x9 x10 on x11 ex11) gv_RX4_86 rfl hs_X3_hasPileAt rfl ⟨Nat.le_of_ble_eq_true rfl, Nat.le_of_ble_eq_true rfl⟩ (ci := 3) (q0 := 5) rfl rfl rfl hl.1 rfl (Nat.le_of_ble_eq_true rfl) dX4_extra_70 ⟨Nat.zero_le _, Nat.zero_le _⟩ hP hD hS hA [5, 6, 7, 8, 9, 10, 11, 12] [0, 1, 2, 3, 4, 13, 14, 15, 16, 17, 18, 19] [0, 1, 2, 3, 4, 12, 13, 14, 15, 16, 17, 18, 19, 5, 6, 7, 8, 9, 10, 11] rfl rfl (by decide +kernel) (by decide +kernel) (by decide +kernel) (by decide +kernel) rfl (fun H locs hP hD hS => ?_)
          refine lv_if_eq (pc := 73) (tgt := 79) hx hb dX4_extra_73 (by decide) (fun c12 => ?_) (fun c12 => ?_)
          · replace hf := ip c12 hf
            refine lv_aload_n (pc := 79) hx hb dX4_extra_79 rfl (lv_at hl 2 rfl) ?_
            refine va_get (pc := 80) (D := D) (ci := 4) (v := .ref (q 12)) (C := RX4) (T := TX4) (N := 13) hx hb hts iX4 hown hK.1 hP 0 rfl rfl 12 (by decide) (hts _ fl_RX4_54) (fun _ h => h) rfl dX4_extra_80 ?_
            refine lv_iload (pc := 83) hx hb dX4_extra_83 (lv_at hl 1 rfl) ?_
            refine lv_iload (pc := 85) hx hb dX4_extra_85 (lv_at hl 0 rfl) ?_
            refine lv_iload_n (pc := 87) hx hb dX4_extra_87 rfl (lv_at hl 3 rfl) ?_
            refine lv_iload_n (pc := 88) hx hb dX4_extra_88 rfl (lv_at hl 4 rfl) ?_
            obtain ⟨x13, ex13, hf⟩ := bd_some hf
            refine ct_V (pc := 89) (As := [.int x9, .int x10, .int i0, .int i1]) (rest := []) (wr := bX4 cI cZ a q oo ++ (bX3 cI (q 0) qN on ++ bX1 (qD 14) w_DP)) (W1 := bX4 cI cZ a q oo ++ (bX3 cI (q 0) qN on ++ (bX0 cI (q 12) qD x13.1 ++ (bX1 (qD 13) x13.2 ++ bX1 (qD 14) w_DP)))) ⟨hx, hb, hml, hown, hts⟩ hK (c_X0_putFurther l D cI cZ cS (q 12) qD x9 x10 i0 i1 w_D w_DW x13 ex13) gv_RX4_244 rfl hs_X0_putFurther rfl ⟨Nat.le_of_ble_eq_true rfl, Nat.le_of_ble_eq_true rfl⟩ (ci := 0) (q0 := 13) rfl rfl rfl hl.1 rfl (Nat.le_of_ble_eq_true rfl) dX4_extra_89 ⟨Nat.zero_le _, Nat.zero_le _⟩ hP hD hS hA [13, 14, 15, 16, 17, 18] [0, 1, 2, 3, 4, 5, 6, 7, 8, 9, 10, 11, 12, 19] [0, 1, 2, 3, 4, 5, 6, 7, 8, 9, 10, 11, 12, 14, 15, 16, 17, 18, 19, 13] rfl rfl (by decide +kernel) (by decide +kernel) (by decide +kernel) (by decide +kernel) rfl (fun H locs hP hD hS => ?_)
            refine lv_aload_n (pc := 92) hx hb dX4_extra_92 rfl (lv_at hl 2 rfl) ?_
            refine va_get (pc := 93) (D := D) (ci := 4) (v := .ref (q 12)) (C := RX4) (T := TX4) (N := 13) hx hb hts iX4 hown hK.1 hP 0 rfl rfl 12 (by decide) (hts _ fl_RX4_54) (fun _ h => h) rfl dX4_extra_93 ?_
            obtain ⟨x14, ex14, hf⟩ := bd_some hf
            refine ct_V (pc := 96) (As := []) (rest := []) (wr := bX4 cI cZ a q oo ++ bX3 cI (q 0) qN on) (W1 := bX4 cI cZ a q oo ++ (bX3 cI (q 0) qN on ++ (bX0 cI (q 12) qD x14.1 ++ (bX1 (qD 13) x13.2 ++ bX1 (qD 14) x14.2)))) ⟨hx, hb, hml, hown, hts⟩ hK (c_X0_settle l D cI cZ cS (q 12) qD x13.1 x13.2 w_DP x14 ex14) gv_RX4_247 rfl hs_X0_settle rfl ⟨Nat.le_of_ble_eq_true rfl, Nat.le_of_ble_eq_true rfl⟩ (ci := 0) (q0 := 13) rfl rfl rfl hl.1 rfl (Nat.le_of_ble_eq_true rfl) dX4_extra_96 ⟨Nat.zero_le _, Nat.zero_le _⟩ hP hD hS hA [13, 14, 15, 16, 17, 18, 19] [0, 1, 2, 3, 4, 5, 6, 7, 8, 9, 10, 11, 12] [0, 1, 2, 3, 4, 5, 6, 7, 8, 9, 10, 11, 12, 13, 14, 15, 16, 17, 18, 19] rfl rfl (by decide +kernel) (by decide +kernel) (by decide +kernel) (by decide +kernel) rfl (fun H locs hP hD hS => ?_)
            refine lv_aload_n (pc := 99) hx hb dX4_extra_99 rfl (lv_at hl 2 rfl) ?_
            refine va_get (pc := 100) (D := D) (ci := 4) (v := .ref (q 12)) (C := RX4) (T := TX4) (N := 13) hx hb hts iX4 hown hK.1 hP 0 rfl rfl 12 (by decide) (hts _ fl_RX4_54) (fun _ h => h) rfl dX4_extra_100 ?_
            obtain ⟨x15, ex15, hf⟩ := bd_some hf
            refine ct_V (pc := 103) (As := []) (rest := []) (wr := bX4 cI cZ a q oo ++ (bX3 cI (q 0) qN on ++ bX1 (qD 14) x14.2)) (W1 := bX4 cI cZ a q oo ++ (bX3 cI (q 0) qN on ++ (bX0 cI (q 12) qD x15.1 ++ (bX1 (qD 13) x15.2 ++ bX1 (qD 14) x14.2)))) ⟨hx, hb, hml, hown, hts⟩ hK (c_X0_takeFurtherAway l D cI cZ cS (q 12) qD x14.1 x13.2 x15 ex15) gv_RX4_250 rfl hs_X0_takeFurtherAway rfl ⟨Nat.le_of_ble_eq_true rfl, Nat.le_of_ble_eq_true rfl⟩ (ci := 0) (q0 := 13) rfl rfl rfl hl.1 rfl (Nat.le_of_ble_eq_true rfl) dX4_extra_103 ⟨Nat.zero_le _, Nat.zero_le _⟩ hP hD hS hA [13, 14, 15, 16, 17, 18] [0, 1, 2, 3, 4, 5, 6, 7, 8, 9, 10, 11, 12, 19] [0, 1, 2, 3, 4, 5, 6, 7, 8, 9, 10, 11, 12, 14, 15, 16, 17, 18, 19, 13] rfl rfl (by decide +kernel) (by decide +kernel) (by decide +kernel) (by decide +kernel) rfl (fun H locs hP hD hS => ?_)
            refine lv_aload_n (pc := 106) hx hb dX4_extra_106 rfl (lv_at hl 2 rfl) ?_
            refine va_get (pc := 107) (D := D) (ci := 4) (v := .ref (q 12)) (C := RX4) (T := TX4) (N := 13) hx hb hts iX4 hown hK.1 hP 0 rfl rfl 12 (by decide) (hts _ fl_RX4_54) (fun _ h => h) rfl dX4_extra_107 ?_
            refine va_getN (pc := 110) (D := D) (ci := 0) (v := .int (x15.1.1 11)) (C := RX0) (T := TX0) (N := 15) hx hb hts iX0 hown hK.1 hP 13 rfl rfl 11 (by decide) (va_Nw.use rfl (hK.2 _ nf_RX4_149)) (fun _ h => h) rfl dX4_extra_110 ?_
            refine lv_if_ne (pc := 113) (tgt := 119) hx hb dX4_extra_113 (by decide) (fun c16 => ?_) (fun c16 => ?_)
            · replace hf := im c16 hf
              refine lv_iload_n (pc := 119) hx hb dX4_extra_119 rfl (lv_at hl 5 rfl) ?_
              refine lv_bipush (v := -9) (pc := 120) hx hb dX4_extra_120 (by decide) ?_
              refine lv_icmp_eq (pc := 122) (tgt := 149) hx hb dX4_extra_122 (by decide) (fun c17 => ?_) (fun c17 => ?_)
              · replace hf := ip c17 hf
                refine lv_iload (pc := 149) hx hb dX4_extra_149 (lv_at hl 8 rfl) ?_
                refine lv_istore_n (lv' := [(3, .int v8), (10, .int x10), (9, .int x9), (0, .ref a), (1, .int i0), (2, .int i1), (4, .long v4), (6, .long v6), (8, .int v8)]) (pc := 151) hx hb dX4_extra_151 rfl hl (by decide) rfl (fun ls hl => ?_)
                refine lv_aload_n (pc := 152) hx hb dX4_extra_152 rfl (lv_at hl 3 rfl) ?_
                refine va_get (pc := 153) (D := D) (ci := 4) (v := .ref (q 12)) (C := RX4) (T := TX4) (N := 13) hx hb hts iX4 hown hK.1 hP 0 rfl rfl 12 (by decide) (hts _ fl_RX4_54) (fun _ h => h) rfl dX4_extra_153 ?_
                obtain ⟨x18, ex18, hf⟩ := bd_some hf
                refine ct_V (pc := 156) (As := []) (rest := []) (wr := bX4 cI cZ a q oo ++ (bX3 cI (q 0) qN on ++ bX1 (qD 13) x15.2)) (W1 := bX4 cI cZ a q oo ++ (bX3 cI (q 0) qN on ++ (bX0 cI (q 12) qD x15.1 ++ (bX1 (qD 13) x15.2 ++ bX1 (qD 14) x14.2)))) ⟨hx, hb, hml, hown, hts⟩ hK (c_X0_useTop l D cI cZ cS (q 12) qD x15.1 x14.2 x18 ex18) gv_RX4_209 rfl hs_X0_useTop rfl ⟨Nat.le_of_ble_eq_true rfl, Nat.le_of_ble_eq_true rfl⟩ (ci := 0) (q0 := 13) rfl rfl rfl hl.1 rfl (Nat.le_of_ble_eq_true rfl) dX4_extra_156 ⟨Nat.zero_le _, Nat.zero_le _⟩ hP hD hS hA [13, 14, 15, 16, 17, 19] [0, 1, 2, 3, 4, 5, 6, 7, 8, 9, 10, 11, 12, 18] [0, 1, 2, 3, 4, 5, 6, 7, 8, 9, 10, 11, 12, 14, 15, 16, 17, 18, 13, 19] rfl rfl (by decide +kernel) (by decide +kernel) (by decide +kernel) (by decide +kernel) rfl (fun H locs hP hD hS => ?_)
                refine lv_lstore (lv' := [(4, .long x18), (3, .int v8), (10, .int x10), (9, .int x9), (0, .ref a), (1, .int i0), (2, .int i1), (6, .long v6), (8, .int v8)]) (pc := 159) hx hb dX4_extra_159 hl (by decide) rfl (fun ls hl => ?_)
                refine lv_aload_n (pc := 161) hx hb dX4_extra_161 rfl (lv_at hl 4 rfl) ?_
                refine va_get (pc := 162) (D := D) (ci := 4) (v := .ref (q 12)) (C := RX4) (T := TX4) (N := 13) hx hb hts iX4 hown hK.1 hP 0 rfl rfl 12 (by decide) (hts _ fl_RX4_54) (fun _ h => h) rfl dX4_extra_162 ?_
                obtain ⟨x19, ex19, hf⟩ := bd_some hf
                refine ct_V (pc := 165) (As := []) (rest := []) (wr := bX4 cI cZ a q oo ++ (bX3 cI (q 0) qN on ++ bX1 (qD 13) x15.2)) (W1 := bX4 cI cZ a q oo ++ (bX3 cI (q 0) qN on ++ (bX0 cI (q 12) qD x15.1 ++ (bX1 (qD 13) x15.2 ++ bX1 (qD 14) x14.2)))) ⟨hx, hb, hml, hown, hts⟩ hK (c_X0_useBottom l D cI cZ cS (q 12) qD x15.1 x14.2 x19 ex19) gv_RX4_212 rfl hs_X0_useBottom rfl ⟨Nat.le_of_ble_eq_true rfl, Nat.le_of_ble_eq_true rfl⟩ (ci := 0) (q0 := 13) rfl rfl rfl hl.1 rfl (Nat.le_of_ble_eq_true rfl) dX4_extra_165 ⟨Nat.zero_le _, Nat.zero_le _⟩ hP hD hS hA [13, 14, 15, 16, 17, 19] [0, 1, 2, 3, 4, 5, 6, 7, 8, 9, 10, 11, 12, 18] [0, 1, 2, 3, 4, 5, 6, 7, 8, 9, 10, 11, 12, 14, 15, 16, 17, 18, 13, 19] rfl rfl (by decide +kernel) (by decide +kernel) (by decide +kernel) (by decide +kernel) rfl (fun H locs hP hD hS => ?_)
                refine lv_lstore (lv' := [(6, .long x19), (4, .long x18), (3, .int v8), (10, .int x10), (9, .int x9), (0, .ref a), (1, .int i0), (2, .int i1), (8, .int v8)]) (pc := 168) hx hb dX4_extra_168 hl (by decide) rfl (fun ls hl => ?_)
                refine lv_iinc (v := (v8 + 1)) (lv' := [(8, .int (v8 + 1)), (6, .long x19), (4, .long x18), (3, .int v8), (10, .int x10), (9, .int x9), (0, .ref a), (1, .int i0), (2, .int i1)]) (pc := 170) hx hb dX4_extra_170 hl (k := 8) rfl rfl (by decide) rfl (fun ls hl => ?_)
                refine lv_goto (pc := 173) (tgt := 40) hx hb dX4_extra_173 (by decide) ?_
                exact ih _ _ _ _ _ _ _ H locs ls hf hP hD hS (lv_sub hl [6, 7, 8, 3, 2, 1, 0] rfl)
              · replace hf := im c17 hf
                refine lv_aload_n (pc := 125) hx hb dX4_extra_125 rfl (lv_at hl 2 rfl) ?_
                refine va_get (pc := 126) (D := D) (ci := 4) (v := .ref (q 12)) (C := RX4) (T := TX4) (N := 13) hx hb hts iX4 hown hK.1 hP 0 rfl rfl 12 (by decide) (hts _ fl_RX4_54) (fun _ h => h) rfl dX4_extra_126 ?_
                obtain ⟨x20, ex20, hf⟩ := bd_some hf
                refine ct_V (pc := 129) (As := []) (rest := []) (wr := bX4 cI cZ a q oo ++ (bX3 cI (q 0) qN on ++ bX1 (qD 13) x15.2)) (W1 := bX4 cI cZ a q oo ++ (bX3 cI (q 0) qN on ++ (bX0 cI (q 12) qD x15.1 ++ (bX1 (qD 13) x15.2 ++ bX1 (qD 14) x14.2)))) ⟨hx, hb, hml, hown, hts⟩ hK (c_X0_useTop l D cI cZ cS (q 12) qD x15.1 x14.2 x20 ex20) gv_RX4_209 rfl hs_X0_useTop rfl ⟨Nat.le_of_ble_eq_true rfl, Nat.le_of_ble_eq_true rfl⟩ (ci := 0) (q0 := 13) rfl rfl rfl hl.1 rfl (Nat.le_of_ble_eq_true rfl) dX4_extra_129 ⟨Nat.zero_le _, Nat.zero_le _⟩ hP hD hS hA [13, 14, 15, 16, 17, 19] [0, 1, 2, 3, 4, 5, 6, 7, 8, 9, 10, 11, 12, 18] [0, 1, 2, 3, 4, 5, 6, 7, 8, 9, 10, 11, 12, 14, 15, 16, 17, 18, 13, 19] rfl rfl (by decide +kernel) (by decide +kernel) (by decide +kernel) (by decide +kernel) rfl (fun H locs hP hD hS => ?_)
                refine lv_aload_n (pc := 132) hx hb dX4_extra_132 rfl (lv_at hl 2 rfl) ?_
                refine va_get (pc := 133) (D := D) (ci := 4) (v := .ref (q 12)) (C := RX4) (T := TX4) (N := 13) hx hb hts iX4 hown hK.1 hP 0 rfl rfl 12 (by decide) (hts _ fl_RX4_54) (fun _ h => h) rfl dX4_extra_133 ?_
                obtain ⟨x21, ex21, hf⟩ := bd_some hf
                refine ct_V (pc := 136) (As := []) (rest := [.long x20]) (wr := bX4 cI cZ a q oo ++ (bX3 cI (q 0) qN on ++ bX1 (qD 13) x15.2)) (W1 := bX4 cI cZ a q oo ++ (bX3 cI (q 0) qN on ++ (bX0 cI (q 12) qD x15.1 ++ (bX1 (qD 13) x15.2 ++ bX1 (qD 14) x14.2)))) ⟨hx, hb, hml, hown, hts⟩ hK (c_X0_useBottom l D cI cZ cS (q 12) qD x15.1 x14.2 x21 ex21) gv_RX4_212 rfl hs_X0_useBottom rfl ⟨Nat.le_of_ble_eq_true rfl, Nat.le_of_ble_eq_true rfl⟩ (ci := 0) (q0 := 13) rfl rfl rfl hl.1 rfl (Nat.le_of_ble_eq_true rfl) dX4_extra_136 ⟨Nat.zero_le _, Nat.zero_le _⟩ hP hD hS hA [13, 14, 15, 16, 17, 19] [0, 1, 2, 3, 4, 5, 6, 7, 8, 9, 10, 11, 12, 18] [0, 1, 2, 3, 4, 5, 6, 7, 8, 9, 10, 11, 12, 14, 15, 16, 17, 18, 13, 19] rfl rfl (by decide +kernel) (by decide +kernel) (by decide +kernel) (by decide +kernel) rfl (fun H locs hP hD hS => ?_)
                refine lv_lload (pc := 139) hx hb dX4_extra_139 (lv_at hl 6 rfl) ?_
                refine lv_lload (pc := 141) hx hb dX4_extra_141 (lv_at hl 7 rfl) ?_
                obtain ⟨x22, ex22, hf⟩ := bd_some hf
                refine ct_S0 (pc := 143) (As := [.long x20, .long x21, .long v4, .long v6]) (rest := []) ⟨hx, hb, hml, hown, hts⟩ hK (c_X4_compareFractions l D cI cZ cS x20 x21 v4 v6 x22 ex22) gs_RX4_237 hs_X4_compareFractions rfl ⟨Nat.le_of_ble_eq_true rfl, Nat.le_of_ble_eq_true rfl⟩ hl.1 rfl (Nat.le_of_ble_eq_true rfl) dX4_extra_143 ⟨Nat.zero_le _, Nat.zero_le _⟩ hP hS hA (fun H locs hP hS => ?_)
                refine lv_if_ge (pc := 146) (tgt := 170) hx hb dX4_extra_146 (by decide) (fun c23 => ?_) (fun c23 => ?_)
                · replace hf := ip c23 hf
                  refine lv_iinc (v := (v8 + 1)) (lv' := [(8, .int (v8 + 1)), (10, .int x10), (9, .int x9), (0, .ref a), (1, .int i0), (2, .int i1), (3, .int v3), (4, .long v4), (6, .long v6)]) (pc := 170) hx hb dX4_extra_170 hl (k := 8) rfl rfl (by decide) rfl (fun ls hl => ?_)
                  refine lv_goto (pc := 173) (tgt := 40) hx hb dX4_extra_173 (by decide) ?_
                  exact ih _ _ _ _ _ _ _ H locs ls hf hP hD hS (lv_sub hl [3, 4, 5, 6, 7, 8, 0] rfl)
                · replace hf := im c23 hf
                  refine lv_iload (pc := 149) hx hb dX4_extra_149 (lv_at hl 8 rfl) ?_
                  refine lv_istore_n (lv' := [(3, .int v8), (10, .int x10), (9, .int x9), (0, .ref a), (1, .int i0), (2, .int i1), (4, .long v4), (6, .long v6), (8, .int v8)]) (pc := 151) hx hb dX4_extra_151 rfl hl (by decide) rfl (fun ls hl => ?_)
                  refine lv_aload_n (pc := 152) hx hb dX4_extra_152 rfl (lv_at hl 3 rfl) ?_
                  refine va_get (pc := 153) (D := D) (ci := 4) (v := .ref (q 12)) (C := RX4) (T := TX4) (N := 13) hx hb hts iX4 hown hK.1 hP 0 rfl rfl 12 (by decide) (hts _ fl_RX4_54) (fun _ h => h) rfl dX4_extra_153 ?_
                  obtain ⟨x24, ex24, hf⟩ := bd_some hf
                  refine ct_V (pc := 156) (As := []) (rest := []) (wr := bX4 cI cZ a q oo ++ (bX3 cI (q 0) qN on ++ bX1 (qD 13) x15.2)) (W1 := bX4 cI cZ a q oo ++ (bX3 cI (q 0) qN on ++ (bX0 cI (q 12) qD x15.1 ++ (bX1 (qD 13) x15.2 ++ bX1 (qD 14) x14.2)))) ⟨hx, hb, hml, hown, hts⟩ hK (c_X0_useTop l D cI cZ cS (q 12) qD x15.1 x14.2 x24 ex24) gv_RX4_209 rfl hs_X0_useTop rfl ⟨Nat.le_of_ble_eq_true rfl, Nat.le_of_ble_eq_true rfl⟩ (ci := 0) (q0 := 13) rfl rfl rfl hl.1 rfl (Nat.le_of_ble_eq_true rfl) dX4_extra_156 ⟨Nat.zero_le _, Nat.zero_le _⟩ hP hD hS hA [13, 14, 15, 16, 17, 19] [0, 1, 2, 3, 4, 5, 6, 7, 8, 9, 10, 11, 12, 18] [0, 1, 2, 3, 4, 5, 6, 7, 8, 9, 10, 11, 12, 14, 15, 16, 17, 18, 13, 19] rfl rfl (by decide +kernel) (by decide +kernel) (by decide +kernel) (by decide +kernel) rfl (fun H locs hP hD hS => ?_)
                  refine lv_lstore (lv' := [(4, .long x24), (3, .int v8), (10, .int x10), (9, .int x9), (0, .ref a), (1, .int i0), (2, .int i1), (6, .long v6), (8, .int v8)]) (pc := 159) hx hb dX4_extra_159 hl (by decide) rfl (fun ls hl => ?_)
                  refine lv_aload_n (pc := 161) hx hb dX4_extra_161 rfl (lv_at hl 4 rfl) ?_
                  refine va_get (pc := 162) (D := D) (ci := 4) (v := .ref (q 12)) (C := RX4) (T := TX4) (N := 13) hx hb hts iX4 hown hK.1 hP 0 rfl rfl 12 (by decide) (hts _ fl_RX4_54) (fun _ h => h) rfl dX4_extra_162 ?_
                  obtain ⟨x25, ex25, hf⟩ := bd_some hf
                  refine ct_V (pc := 165) (As := []) (rest := []) (wr := bX4 cI cZ a q oo ++ (bX3 cI (q 0) qN on ++ bX1 (qD 13) x15.2)) (W1 := bX4 cI cZ a q oo ++ (bX3 cI (q 0) qN on ++ (bX0 cI (q 12) qD x15.1 ++ (bX1 (qD 13) x15.2 ++ bX1 (qD 14) x14.2)))) ⟨hx, hb, hml, hown, hts⟩ hK (c_X0_useBottom l D cI cZ cS (q 12) qD x15.1 x14.2 x25 ex25) gv_RX4_212 rfl hs_X0_useBottom rfl ⟨Nat.le_of_ble_eq_true rfl, Nat.le_of_ble_eq_true rfl⟩ (ci := 0) (q0 := 13) rfl rfl rfl hl.1 rfl (Nat.le_of_ble_eq_true rfl) dX4_extra_165 ⟨Nat.zero_le _, Nat.zero_le _⟩ hP hD hS hA [13, 14, 15, 16, 17, 19] [0, 1, 2, 3, 4, 5, 6, 7, 8, 9, 10, 11, 12, 18] [0, 1, 2, 3, 4, 5, 6, 7, 8, 9, 10, 11, 12, 14, 15, 16, 17, 18, 13, 19] rfl rfl (by decide +kernel) (by decide +kernel) (by decide +kernel) (by decide +kernel) rfl (fun H locs hP hD hS => ?_)
                  refine lv_lstore (lv' := [(6, .long x25), (4, .long x24), (3, .int v8), (10, .int x10), (9, .int x9), (0, .ref a), (1, .int i0), (2, .int i1), (8, .int v8)]) (pc := 168) hx hb dX4_extra_168 hl (by decide) rfl (fun ls hl => ?_)
                  refine lv_iinc (v := (v8 + 1)) (lv' := [(8, .int (v8 + 1)), (6, .long x25), (4, .long x24), (3, .int v8), (10, .int x10), (9, .int x9), (0, .ref a), (1, .int i0), (2, .int i1)]) (pc := 170) hx hb dX4_extra_170 hl (k := 8) rfl rfl (by decide) rfl (fun ls hl => ?_)
                  refine lv_goto (pc := 173) (tgt := 40) hx hb dX4_extra_173 (by decide) ?_
                  exact ih _ _ _ _ _ _ _ H locs ls hf hP hD hS (lv_sub hl [6, 7, 8, 3, 2, 1, 0] rfl)
            · replace hf := ip c16 hf
              refine lv_goto (pc := 116) (tgt := 170) hx hb dX4_extra_116 (by decide) ?_
              refine lv_iinc (v := (v8 + 1)) (lv' := [(8, .int (v8 + 1)), (10, .int x10), (9, .int x9), (0, .ref a), (1, .int i0), (2, .int i1), (3, .int v3), (4, .long v4), (6, .long v6)]) (pc := 170) hx hb dX4_extra_170 hl (k := 8) rfl rfl (by decide) rfl (fun ls hl => ?_)
              refine lv_goto (pc := 173) (tgt := 40) hx hb dX4_extra_173 (by decide) ?_
              exact ih _ _ _ _ _ _ _ H locs ls hf hP hD hS (lv_sub hl [3, 4, 5, 6, 7, 8, 0] rfl)
          · replace hf := im c12 hf
            refine lv_goto (pc := 76) (tgt := 170) hx hb dX4_extra_76 (by decide) ?_
            refine lv_iinc (v := (v8 + 1)) (lv' := [(8, .int (v8 + 1)), (10, .int x10), (9, .int x9), (0, .ref a), (1, .int i0), (2, .int i1), (3, .int v3), (4, .long v4), (6, .long v6)]) (pc := 170) hx hb dX4_extra_170 hl (k := 8) rfl rfl (by decide) rfl (fun ls hl => ?_)
            refine lv_goto (pc := 173) (tgt := 40) hx hb dX4_extra_173 (by decide) ?_
            exact ih _ _ _ _ _ _ _ H locs ls hf hP hD hS (lv_sub hl [3, 4, 5, 6, 7, 8, 0] rfl)
    exact KL7 1000 _ _ _ _ _ _ _ H locs ls hz5 hP hD hS (lv_sub hl [4, 5, 6, 3, 2, 1, 0] rfl)
  · replace hf := ip c2 hf
    refine lv_iconst (v := -1) (pc := 8) hx hb dX4_extra_8 (by decide) ?_
    obtain rfl := Option.some.inj hf
    exact W.iret hx hb hr (fun t ht hW => ⟨rfl, by rw [ht]; exact hP, hD, hS.F ht⟩) hS.2.2 dX4_extra_9
