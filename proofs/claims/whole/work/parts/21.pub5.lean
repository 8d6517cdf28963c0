def lp_X4_ask_37 (u_N : OS) (u_DW : OS) : Nat → Int32 → Int32 → OS → OS → OS → Option (Int32 × Int32 × OS × OS × OS)
  | 0, _, _, _, _, _ => none
  | n + 1, v1, v2, w_O, w_D, w_DP => if 361 ≤ v2 then some (v1, v2, w_O, w_D, w_DP) else Option.bind (f_X4_isSpot v2 w_O w_D u_DW w_DP) fun x10 => if x10.1 = 0 then lp_X4_ask_37 u_N u_DW n v1 (v2 + 1) w_O x10.2.1 x10.2.2 else Option.bind (f_X4_groupShares w_O u_N x10.2.1 x10.2.2) fun x12 => lp_X4_ask_37 u_N u_DW n (v1 + 1) (v2 + 1) x12 x10.2.1 x10.2.2
def f_X4_ask (oo : OS) (on : OS) (od : OS) (odw : OS) (odp : OS) : Option (Int32 × OS × OS × OS × OS) := Option.bind (f_X0_takePiles od on) fun x1 => Option.bind (f_X0_beginWith (on.1 5) x1 odw) fun x2 => lt (sR oo 11 (fun _ => 0)) fun o3 => Option.bind (lp_X4_ask_37 on x2.2 1000 0 0 o3 x2.1 odp) fun z4 => if z4.1 ≤ 1 then some ((-9), z4.2.2.1, z4.2.2.2.1, x2.2, z4.2.2.2.2) else Option.bind (f_X4_pileWithSmallestLargestGroup z4.2.2.1 on) fun x8 => some (x8, z4.2.2.1, z4.2.2.2.1, x2.2, z4.2.2.2.2)
set_option maxHeartbeats 4000000 in
set_option maxRecDepth 100000 in
theorem c_X4_ask (l : Launch) (D : va_G) (cI cZ cS : ClassId) (a : Nat) (q : Nat → Nat) (qN : Nat → Nat) (qD : Nat → Nat) (oo : OS) (on : OS) (od : OS) (odw : OS) (odp : OS) (x : (Int32 × OS × OS × OS × OS)) (hf : f_X4_ask oo on od odw odp = some x) : Ct l yX4_ask cX4_ask 3 (some .int) 5 115 D cI cZ cS [.ref a] (bX4 cI cZ a q oo ++ (bX3 cI (q 0) qN on ++ (bX0 cI (q 12) qD od ++ (bX1 (qD 13) odw ++ bX1 (qD 14) odp)))) (some (.int x.1)) (bX4 cI cZ a q x.2.1 ++ (bX3 cI (q 0) qN on ++ (bX0 cI (q 12) qD x.2.2.1 ++ (bX1 (qD 13) x.2.2.2.1 ++ bX1 (qD 14) x.2.2.2.2)))) := by
  intro sz
  refine Met.ofW (cc := cX4_ask) (maxL := 3) (ret := (some .int)) (by decide +kernel) rfl ?_
  intro p e s m args below meth c s₁ B hml hv
  obtain ⟨rfl, hsz, hP, hK, hD0⟩ := hv
  have hx := B.exec
  have hb := B.bytes
  have hr := B.returns
  have hts0 := atoms_spec (ws := .code yX4_ask cX4_ask 3 (some .int) :: TB) B.pre
  have hts := fun w (h : w ∈ TB) => hts0 w (List.mem_cons_of_mem _ h)
  have hown : s.vm.findClass RX4 = some m.cls := findClass_of_methodNamed B.named
  have hlocks := B.notSynchronized
  subst hsz
  have hD := hD0.self (sz := s.heap.size)
  generalize hAe : va_A (bX4 cI cZ a q oo ++ (bX3 cI (q 0) qN on ++ (bX0 cI (q 12) qD od ++ (bX1 (qD 13) odw ++ bX1 (qD 14) odp)))) s.heap.size = A at hD ⊢
  have hA : ∀ q : Nat, s.heap.size ≤ q → A q := fun q h => by rw [← hAe]; exact Or.inr h
  have hS : va_S A s.heap s.heap [] := va_S.rf
  obtain ⟨H, hH⟩ : ∃ H, H = s.heap := ⟨_, rfl⟩
  rw [← hH] at hP
  have hS : va_S A s.heap H [] := by rw [hH]; exact hS
  have hl := lv_entry ([.ref a]) (n := 3) (Nat.le_of_ble_eq_true rfl)
  rw [lg_entry_eq]
  generalize (lg_sl ([.ref a]) ++ List.replicate (3 - (lg_sl ([.ref a])).length) Slot.unset).toArray = ls at hl ⊢
  have hl : lv_has ls 3 [(0, .ref a)] := hl
  refine W_heap hH ?_
  obtain ⟨locs, hlo⟩ : ∃ locs : List Loc, locs = [] := ⟨_, rfl⟩
  rw [← hlo] at hS ⊢
  unfold f_X4_ask at hf
  refine lv_aload_n (pc := 0) hx hb dX4_ask_0 rfl (lv_at hl 0 rfl) ?_
  refine va_get (pc := 1) (D := D) (ci := 4) (v := .ref (q 12)) (C := RX4) (T := TX4) (N := 13) hx hb hts iX4 hown hK.1 hP 0 rfl rfl 12 (by decide) (hts _ fl_RX4_54) (fun _ h => h) rfl dX4_ask_1 ?_
  refine lv_aload_n (pc := 4) hx hb dX4_ask_4 rfl (lv_at hl 0 rfl) ?_
  refine va_get (pc := 5) (D := D) (ci := 4) (v := .ref (q 0)) (C := RX4) (T := TX4) (N := 13) hx hb hts iX4 hown hK.1 hP 0 rfl rfl 0 (by decide) (hts _ fl_RX4_12) (fun _ h => h) rfl dX4_ask_5 ?_
  obtain ⟨x1, ex1, hf⟩ := bd_some hf
  refine ct_V (pc := 8) (As := [.ref (q 0)]) (rest := []) (wr := bX4 cI cZ a q oo ++ (bX1 (qD 13) odw ++ bX1 (qD 14) odp)) (W1 := bX4 cI cZ a q oo ++ (bX3 cI (q 0) qN on ++ (bX0 cI (q 12) qD x1 ++ (bX1 (qD 13) odw ++ bX1 (qD 14) odp)))) ⟨hx, hb, hml, hown, hts⟩ hK (c_X0_takePiles l D cI cZ cS (q 12) qD (q 0) qN od on x1 ex1) gv_RX4_263 rfl hs_X0_takePiles rfl ⟨Nat.le_of_ble_eq_true rfl, Nat.le_of_ble_eq_true rfl⟩ (ci := 0) (q0 := 13) rfl rfl rfl hl.1 rfl (Nat.le_of_ble_eq_true rfl) dX4_ask_8 ⟨Nat.zero_le _, Nat.zero_le _⟩ hP hD hS hA [13, 14, 15, 16, 17, 5, 6, 7, 8, 9, 10, 11, 12] [0, 1, 2, 3, 4, 18, 19] [0, 1, 2, 3, 4, 12, 13, 14, 15, 16, 17, 18, 19, 7, 8, 9, 10, 11, 5, 6] rfl rfl (by decide +kernel) (by decide +kernel) (by decide +kernel) (by decide +kernel) rfl (fun H locs hP hD hS => ?_)
  refine lv_aload_n (pc := 11) hx hb dX4_ask_11 rfl (lv_at hl 0 rfl) ?_
  refine va_get (pc := 12) (D := D) (ci := 4) (v := .ref (q 12)) (C := RX4) (T := TX4) (N := 13) hx hb hts iX4 hown hK.1 hP 0 rfl rfl 12 (by decide) (hts _ fl_RX4_54) (fun _ h => h) rfl dX4_ask_12 ?_
  refine lv_aload_n (pc := 15) hx hb dX4_ask_15 rfl (lv_at hl 0 rfl) ?_
  refine va_get (pc := 16) (D := D) (ci := 4) (v := .ref (q 0)) (C := RX4) (T := TX4) (N := 13) hx hb hts iX4 hown hK.1 hP 0 rfl rfl 0 (by decide) (hts _ fl_RX4_12) (fun _ h => h) rfl dX4_ask_16 ?_
  refine va_getN (pc := 19) (D := D) (ci := 3) (v := .int (on.1 5)) (C := RX3) (T := TX3) (N := 12) hx hb hts iX3 hown hK.1 hP 5 rfl rfl 5 (by decide) (va_Nw.use rfl (hK.2 _ nf_RX4_105)) (fun _ h => h) rfl dX4_ask_19 ?_
  obtain ⟨x2, ex2, hf⟩ := bd_some hf
  refine ct_V (pc := 22) (As := [.int (on.1 5)]) (rest := []) (wr := bX4 cI cZ a q oo ++ (bX3 cI (q 0) qN on ++ bX1 (qD 14) odp)) (W1 := bX4 cI cZ a q oo ++ (bX3 cI (q 0) qN on ++ (bX0 cI (q 12) qD x2.1 ++ (bX1 (qD 13) x2.2 ++ bX1 (qD 14) odp)))) ⟨hx, hb, hml, hown, hts⟩ hK (c_X0_beginWith l D cI cZ cS (q 12) qD (on.1 5) x1 odw x2 ex2) gv_RX4_241 rfl hs_X0_beginWith rfl ⟨Nat.le_of_ble_eq_true rfl, Nat.le_of_ble_eq_true rfl⟩ (ci := 0) (q0 := 13) rfl rfl rfl hl.1 rfl (Nat.le_of_ble_eq_true rfl) dX4_ask_22 ⟨Nat.zero_le _, Nat.zero_le _⟩ hP hD hS hA [13, 14, 15, 16, 17, 18] [0, 1, 2, 3, 4, 5, 6, 7, 8, 9, 10, 11, 12, 19] [0, 1, 2, 3, 4, 5, 6, 7, 8, 9, 10, 11, 12, 14, 15, 16, 17, 18, 19, 13] rfl rfl (by decide +kernel) (by decide +kernel) (by decide +kernel) (by decide +kernel) rfl (fun H locs hP hD hS => ?_)
  refine lv_aload_n (pc := 25) hx hb dX4_ask_25 rfl (lv_at hl 0 rfl) ?_
  refine va_get (pc := 26) (D := D) (ci := 4) (v := .ref (q 11)) (C := RX4) (T := TX4) (N := 13) hx hb hts iX4 hown hK.1 hP 0 rfl rfl 11 (by decide) (hts _ fl_RX4_48) (fun _ h => h) rfl dX4_ask_26 ?_
  refine lv_iconst (v := 0) (pc := 29) hx hb dX4_ask_29 (by decide) ?_
  obtain ⟨o3, eo3, hf⟩ := lt_some hf
  refine ct_S (pc := 30) (As := [.ref (q 11), .int 0]) (rest := []) (wr := [0, 1, 2, 3, 5, 6, 7, 8, 9, 10, 11, 12, 13, 14, 15, 16, 17, 18, 19].filterMap (fun i => (bX4 cI cZ a q oo ++ (bX3 cI (q 0) qN on ++ (bX0 cI (q 12) qD x2.1 ++ (bX1 (qD 13) x2.2 ++ bX1 (qD 14) odp))))[i]?)) (W1 := bX4 cI cZ a q (sR oo 11 (fun _ => 0)) ++ (bX3 cI (q 0) qN on ++ (bX0 cI (q 12) qD x2.1 ++ (bX1 (qD 13) x2.2 ++ bX1 (qD 14) odp)))) ⟨hx, hb, hml, hown, hts⟩ hK (c_J7_fill_53178 l D cI cZ cS (q 11) 800 (by decide) (oo.2.2 11) 0) gs_RX4_270 hs_J7_fill_53178 rfl ⟨Nat.le_of_ble_eq_true rfl, Nat.le_of_ble_eq_true rfl⟩ hl.1 rfl (Nat.le_of_ble_eq_true rfl) dX4_ask_30 ⟨Nat.zero_le _, Nat.zero_le _⟩ hP hD hS hA [4] [0, 1, 2, 3, 5, 6, 7, 8, 9, 10, 11, 12, 13, 14, 15, 16, 17, 18, 19] [0, 1, 2, 3, 19, 4, 5, 6, 7, 8, 9, 10, 11, 12, 13, 14, 15, 16, 17, 18] rfl rfl (by decide +kernel) (by decide +kernel) (by decide +kernel) (by decide +kernel) rfl (fun H locs hP hD hS => ?_)
  replace hP : va_P D vwCl (bX4 cI cZ a q o3 ++ (bX3 cI (q 0) qN on ++ (bX0 cI (q 12) qD x2.1 ++ (bX1 (qD 13) x2.2 ++ bX1 (qD 14) odp)))) H := by rw [eo3]; exact hP
  replace hD : va_D A (bX4 cI cZ a q o3 ++ (bX3 cI (q 0) qN on ++ (bX0 cI (q 12) qD x2.1 ++ (bX1 (qD 13) x2.2 ++ bX1 (qD 14) odp)))) := by rw [eo3]; exact hD
  refine lv_iconst (v := 0) (pc := 33) hx hb dX4_ask_33 (by decide) ?_
  refine lv_istore_n (lv' := [(1, .int 0), (0, .ref a)]) (pc := 34) hx hb dX4_ask_34 rfl hl (by decide) rfl (fun ls hl => ?_)
  refine lv_iconst (v := 0) (pc := 35) hx hb dX4_ask_35 (by decide) ?_
  refine lv_istore_n (lv' := [(2, .int 0), (1, .int 0), (0, .ref a)]) (pc := 36) hx hb dX4_ask_36 rfl hl (by decide) rfl (fun ls hl => ?_)
  obtain ⟨z4, hz4, hf⟩ := bd_some hf
  have hfz4 := hf
  clear hf
  have K5 : ∀ (H : Heap) (locs : List Loc) (ls : Array Slot), va_P D vwCl (bX4 cI cZ a q z4.2.2.1 ++ (bX3 cI (q 0) qN on ++ (bX0 cI (q 12) qD z4.2.2.2.1 ++ (bX1 (qD 13) x2.2 ++ bX1 (qD 14) z4.2.2.2.2)))) H → va_D A (bX4 cI cZ a q z4.2.2.1 ++ (bX3 cI (q 0) qN on ++ (bX0 cI (q 12) qD z4.2.2.2.1 ++ (bX1 (qD 13) x2.2 ++ bX1 (qD 14) z4.2.2.2.2)))) → va_S A s.heap H locs → lv_has ls 3 [(0, .ref a), (1, .int z4.1), (2, .int z4.2.1)] → GW l yX4_ask cX4_ask 3 (some .int) 5 115 D [.ref a] (some (.int x.1)) (bX4 cI cZ a q x.2.1 ++ (bX3 cI (q 0) qN on ++ (bX0 cI (q 12) qD x.2.2.1 ++ (bX1 (qD 13) x.2.2.2.1 ++ bX1 (qD 14) x.2.2.2.2)))) A p e s m below meth c H locs (F0 m 65 ls []) := by
    intro H locs ls hP hD hS hl
    have hf := hfz4
    refine lv_iload_n (pc := 65) hx hb dX4_ask_65 rfl (lv_at hl 1 rfl) ?_
    refine lv_iconst (v := 1) (pc := 66) hx hb dX4_ask_66 (by decide) ?_
    refine lv_icmp_le (pc := 67) (tgt := 77) hx hb dX4_ask_67 (by decide) (fun c7 => ?_) (fun c7 => ?_)
    · replace hf := ip c7 hf
      refine lv_bipush (v := -9) (pc := 77) hx hb dX4_ask_77 (by decide) ?_
      obtain rfl := Option.some.inj hf
      exact W.iret hx hb hr (fun t ht hW => ⟨rfl, by rw [ht]; exact hP, hD, hS.F ht⟩) hS.2.2 dX4_ask_79
    · replace hf := im c7 hf
      refine lv_aload_n (pc := 70) hx hb dX4_ask_70 rfl (lv_at hl 0 rfl) ?_
      obtain ⟨x8, ex8, hf⟩ := bd_some hf
      refine ct_V (pc := 71) (As := []) (rest := []) (wr := bX0 cI (q 12) qD z4.2.2.2.1 ++ (bX1 (qD 13) x2.2 ++ bX1 (qD 14) z4.2.2.2.2)) (W1 := bX4 cI cZ a q z4.2.2.1 ++ (bX3 cI (q 0) qN on ++ (bX0 cI (q 12) qD z4.2.2.2.1 ++ (bX1 (qD 13) x2.2 ++ bX1 (qD 14) z4.2.2.2.2)))) ⟨hx, hb, hml, hown, hts⟩ hK (c_X4_pileWithSmallestLargestGroup l D cI cZ cS a q qN z4.2.2.1 on x8 ex8) gv_RX4_279 rfl hs_X4_pileWithSmallestLargestGroup rfl ⟨Nat.le_of_ble_eq_true rfl, Nat.le_of_ble_eq_true rfl⟩ (ci := 4) (q0 := 0) rfl rfl rfl hl.1 rfl (Nat.le_of_ble_eq_true rfl) dX4_ask_71 ⟨Nat.zero_le _, Nat.zero_le _⟩ hP hD hS hA [0, 1, 2, 3, 4, 5, 6, 7, 8, 9, 10, 11, 12] [13, 14, 15, 16, 17, 18, 19] [7, 8, 9, 10, 11, 12, 13, 14, 15, 16, 17, 18, 19, 0, 1, 2, 3, 4, 5, 6] rfl rfl (by decide +kernel) (by decide +kernel) (by decide +kernel) (by decide +kernel) rfl (fun H locs hP hD hS => ?_)
      refine lv_goto (pc := 74) (tgt := 79) hx hb dX4_ask_74 (by decide) ?_
      obtain rfl := Option.some.inj hf
      exact W.iret hx hb hr (fun t ht hW => ⟨rfl, by rw [ht]; exact hP, hD, hS.F ht⟩) hS.2.2 dX4_ask_79
  have KL6 : ∀ (n : Nat) (v1 : Int32) (v2 : Int32) (w_O : OS) (w_D : OS) (w_DP : OS) (H : Heap) (locs : List Loc) (ls : Array Slot), lp_X4_ask_37 on x2.2 n v1 v2 w_O w_D w_DP = some z4 → va_P D vwCl (bX4 cI cZ a q w_O ++ (bX3 cI (q 0) qN on ++ (bX0 cI (q 12) qD w_D ++ (bX1 (qD 13) x2.2 ++ bX1 (qD 14) w_DP)))) H → va_D A (bX4 cI cZ a q w_O ++ (bX3 cI (q 0) qN on ++ (bX0 cI (q 12) qD w_D ++ (bX1 (qD 13) x2.2 ++ bX1 (qD 14) w_DP)))) → va_S A s.heap H locs → lv_has ls 3 [(0, .ref a), (1, .int v1), (2, .int v2)] → GW l yX4_ask cX4_ask 3 (some .int) 5 115 D [.ref a] (some (.int x.1)) (bX4 cI cZ a q x.2.1 ++ (bX3 cI (q 0) qN on ++ (bX0 cI (q 12) qD x.2.2.1 ++ (bX1 (qD 13) x.2.2.2.1 ++ bX1 (qD 14) x.2.2.2.2)))) A p e s m below meth c H locs (F0 m 37 ls []) := by
    intro n
    induction n with
    | zero => intro v1 v2 w_O w_D w_DP H locs ls hf; cases hf
    | succ n ih =>
      intro v1 v2 w_O w_D w_DP H locs ls hf hP hD hS hl
      rw [lp_X4_ask_37] at hf
      refine lv_iload_n (pc := 37) hx hb dX4_ask_37 rfl (lv_at hl 2 rfl) ?_
      refine lv_sipush (v := 361) (pc := 38) hx hb dX4_ask_38 (by decide) ?_
      refine lv_icmp_ge (pc := 41) (tgt := 65) hx hb dX4_ask_41 (by decide) (fun c9 => ?_) (fun c9 => ?_)
      · replace hf := ip c9 hf
        obtain rfl := Option.some.inj hf
        exact K5 H locs ls hP hD hS (lv_sub hl [0, 1, 2] rfl)
      · replace hf := im c9 hf
        refine lv_aload_n (pc := 44) hx hb dX4_ask_44 rfl (lv_at hl 0 rfl) ?_
        refine lv_iload_n (pc := 45) hx hb dX4_ask_45 rfl (lv_at hl 2 rfl) ?_
        obtain ⟨x10, ex10, hf⟩ := bd_some hf
        refine ct_V (pc := 46) (As := [.int v2]) (rest := []) (wr := bX3 cI (q 0) qN on) (W1 := bX4 cI cZ a q w_O ++ (bX3 cI (q 0) qN on ++ (bX0 cI (q 12) qD x10.2.1 ++ (bX1 (qD 13) x2.2 ++ bX1 (qD 14) x10.2.2)))) ⟨hx, hb, hml, hown, hts⟩ hK (c_X4_isSpot l D cI cZ cS a q qD v2 w_O w_D x2.2 w_DP x10 ex10) gv_RX4_267 rfl hs_X4_isSpot rfl ⟨Nat.le_of_ble_eq_true rfl, Nat.le_of_ble_eq_true rfl⟩ (ci := 4) (q0 := 0) rfl rfl rfl hl.1 rfl (Nat.le_of_ble_eq_true rfl) dX4_ask_46 ⟨Nat.zero_le _, Nat.zero_le _⟩ hP hD hS hA [0, 1, 2, 3, 4, 13, 14, 15, 16, 17, 18, 19] [5, 6, 7, 8, 9, 10, 11, 12] [8, 9, 10, 11, 12, 0, 1, 2, 3, 4, 5, 6, 7, 13, 14, 15, 16, 17, 18, 19] rfl rfl (by decide +kernel) (by decide +kernel) (by decide +kernel) (by decide +kernel) rfl (fun H locs hP hD hS => ?_)
        refine lv_if_eq (pc := 49) (tgt := 59) hx hb dX4_ask_49 (by decide) (fun c11 => ?_) (fun c11 => ?_)
        · replace hf := ip c11 hf
          refine lv_iinc (v := (v2 + 1)) (lv' := [(2, .int (v2 + 1)), (0, .ref a), (1, .int v1)]) (pc := 59) hx hb dX4_ask_59 hl (k := 2) rfl rfl (by decide) rfl (fun ls hl => ?_)
          refine lv_goto (pc := 62) (tgt := 37) hx hb dX4_ask_62 (by decide) ?_
          exact ih _ _ _ _ _ H locs ls hf hP hD hS (lv_sub hl [1, 2, 0] rfl)
        · replace hf := im c11 hf
          refine lv_iinc (v := (v1 + 1)) (lv' := [(1, .int (v1 + 1)), (0, .ref a), (2, .int v2)]) (pc := 52) hx hb dX4_ask_52 hl (k := 1) rfl rfl (by decide) rfl (fun ls hl => ?_)
          refine lv_aload_n (pc := 55) hx hb dX4_ask_55 rfl (lv_at hl 1 rfl) ?_
          obtain ⟨x12, ex12, hf⟩ := bd_some hf
          refine ct_V (pc := 56) (As := []) (rest := []) (wr := bX1 (qD 13) x2.2) (W1 := bX4 cI cZ a q x12 ++ (bX3 cI (q 0) qN on ++ (bX0 cI (q 12) qD x10.2.1 ++ (bX1 (qD 13) x2.2 ++ bX1 (qD 14) x10.2.2)))) ⟨hx, hb, hml, hown, hts⟩ hK (c_X4_groupShares l D cI cZ cS a q qN qD w_O on x10.2.1 x10.2.2 x12 ex12) gv_RX4_276 rfl hs_X4_groupShares rfl ⟨Nat.le_of_ble_eq_true rfl, Nat.le_of_ble_eq_true rfl⟩ (ci := 4) (q0 := 0) rfl rfl rfl hl.1 rfl (Nat.le_of_ble_eq_true rfl) dX4_ask_56 ⟨Nat.zero_le _, Nat.zero_le _⟩ hP hD hS hA [0, 1, 2, 3, 4, 5, 6, 7, 8, 9, 10, 11, 12, 13, 14, 15, 16, 17, 19] [18] [1, 2, 3, 4, 5, 6, 7, 8, 9, 10, 11, 12, 13, 14, 15, 16, 17, 18, 0, 19] rfl rfl (by decide +kernel) (by decide +kernel) (by decide +kernel) (by decide +kernel) rfl (fun H locs hP hD hS => ?_)
          refine lv_iinc (v := (v2 + 1)) (lv' := [(2, .int (v2 + 1)), (1, .int (v1 + 1)), (0, .ref a)]) (pc := 59) hx hb dX4_ask_59 hl (k := 2) rfl rfl (by decide) rfl (fun ls hl => ?_)
          refine lv_goto (pc := 62) (tgt := 37) hx hb dX4_ask_62 (by decide) ?_
          exact ih _ _ _ _ _ H locs ls hf hP hD hS (lv_sub hl [2, 1, 0] rfl)
  exact KL6 1000 _ _ _ _ _ H locs ls hz4 hP hD hS (lv_sub hl [2, 1, 0] rfl)
def f_X4_keep (i0 : Int32) (oo : OS) (on : OS) (ig : PSt) : Option (Int32 × OS × PSt) := if i0 < 0 then some ((-1), oo, ig) else if i0 < 2 then ck i0 2 (lt ((i0 : Int32).toNatClampNeg) fun k4 => Option.bind (f_X3_copy on (ig.2 k4)) fun x5 => lt (ig.1, va_up ig.2 k4 x5) fun o6 => ck i0 2 (lt (sA oo 6 ((i0 : Int32).toNatClampNeg) (vp_nar .boolean 1)) fun o9 => some ((on.1 4), o9, o6))) else some ((-1), oo, ig)
set_option maxHeartbeats 4000000 in
set_option maxRecDepth 100000 in
theorem c_X4_keep (l : Launch) (D : va_G) (cI cZ cS : ClassId) (a : Nat) (q : Nat → Nat) (qN : Nat → Nat) (i0 : Int32) (oo : OS) (on : OS) (ig : PSt) (x : (Int32 × OS × PSt)) (hf : f_X4_keep i0 oo on ig = some x) : Ct l yX4_keep cX4_keep 2 (some .int) 2 66 D cI cZ cS [.ref a, .int i0] (bX4 cI cZ a q oo ++ (bX3 cI (q 0) qN on ++ bIM cI cS (q 5) ig)) (some (.int x.1)) (bX4 cI cZ a q x.2.1 ++ (bX3 cI (q 0) qN on ++ bIM cI cS (q 5) x.2.2)) := by
  intro sz
  refine Met.ofW (cc := cX4_keep) (maxL := 2) (ret := (some .int)) (by decide +kernel) rfl ?_
  intro p e s m args below meth c s₁ B hml hv
  obtain ⟨rfl, hsz, hP, hK, hD0⟩ := hv
  have hx := B.exec
  have hb := B.bytes
  have hr := B.returns
  have hts0 := atoms_spec (ws := .code yX4_keep cX4_keep 2 (some .int) :: TB) B.pre
  have hts := fun w (h : w ∈ TB) => hts0 w (List.mem_cons_of_mem _ h)
  have hown : s.vm.findClass RX4 = some m.cls := findClass_of_methodNamed B.named
  have hlocks := B.notSynchronized
  subst hsz
  have hD := hD0.self (sz := s.heap.size)
  generalize hAe : va_A (bX4 cI cZ a q oo ++ (bX3 cI (q 0) qN on ++ bIM cI cS (q 5) ig)) s.heap.size = A at hD ⊢
  have hA : ∀ q : Nat, s.heap.size ≤ q → A q := fun q h => by rw [← hAe]; exact Or.inr h
  have hS : va_S A s.heap s.heap [] := va_S.rf
  obtain ⟨H, hH⟩ : ∃ H, H = s.heap := ⟨_, rfl⟩
  rw [← hH] at hP
  have hS : va_S A s.heap H [] := by rw [hH]; exact hS
  have hl := lv_entry ([.ref a, .int i0]) (n := 2) (Nat.le_of_ble_eq_true rfl)
  rw [lg_entry_eq]
  generalize (lg_sl ([.ref a, .int i0]) ++ List.replicate (2 - (lg_sl ([.ref a, .int i0])).length) Slot.unset).toArray = ls at hl ⊢
  have hl : lv_has ls 2 [(0, .ref a), (1, .int i0)] := hl
  refine W_heap hH ?_
  obtain ⟨locs, hlo⟩ : ∃ locs : List Loc, locs = [] := ⟨_, rfl⟩
  rw [← hlo] at hS ⊢
  unfold f_X4_keep at hf
  refine lv_iload_n (pc := 0) hx hb dX4_keep_0 rfl (lv_at hl 1 rfl) ?_
  refine lv_if_lt (pc := 1) (tgt := 9) hx hb dX4_keep_1 (by decide) (fun c1 => ?_) (fun c1 => ?_)
  · replace hf := ip c1 hf
    refine lv_iconst (v := -1) (pc := 9) hx hb dX4_keep_9 (by decide) ?_
    obtain rfl := Option.some.inj hf
    exact W.iret hx hb hr (fun t ht hW => ⟨rfl, by rw [ht]; exact hP, hD, hS.F ht⟩) hS.2.2 dX4_keep_10
  · replace hf := im c1 hf
    refine lv_iload_n (pc := 4) hx hb dX4_keep_4 rfl (lv_at hl 1 rfl) ?_
    refine lv_iconst (v := 2) (pc := 5) hx hb dX4_keep_5 (by decide) ?_
    refine lv_icmp_lt (pc := 6) (tgt := 11) hx hb dX4_keep_6 (by decide) (fun c2 => ?_) (fun c2 => ?_)
    · replace hf := ip c2 hf
      refine lv_aload_n (pc := 11) hx hb dX4_keep_11 rfl (lv_at hl 0 rfl) ?_
      refine va_get (pc := 12) (D := D) (ci := 4) (v := .ref (q 0)) (C := RX4) (T := TX4) (N := 13) hx hb hts iX4 hown hK.1 hP 0 rfl rfl 0 (by decide) (hts _ fl_RX4_12) (fun _ h => h) rfl dX4_keep_12 ?_
      refine lv_aload_n (pc := 15) hx hb dX4_keep_15 rfl (lv_at hl 0 rfl) ?_
      refine va_get (pc := 16) (D := D) (ci := 4) (v := .ref (q 5)) (C := RX4) (T := TX4) (N := 13) hx hb hts iX4 hown hK.1 hP 0 rfl rfl 5 (by decide) (hts _ fl_RX4_30) (fun _ h => h) rfl dX4_keep_16 ?_
      refine lv_iload_n (pc := 19) hx hb dX4_keep_19 rfl (lv_at hl 1 rfl) ?_
      obtain ⟨h3, hf⟩ := ck_some hf
      obtain ⟨k4, ek4, hf⟩ := lt_some hf
      refine ld_q (pc := 20) (ps := ig) hx hb hK.1 hP 13 2 rfl rfl h3 ek4 dX4_keep_20 ?_
      obtain ⟨x5, ex5, hf⟩ := bd_some hf
      obtain ⟨o6, eo6, hf⟩ := lt_some hf
      have K7 : ∀ (H : Heap) (locs : List Loc) (ls : Array Slot), va_P D vwCl (bX4 cI cZ a q oo ++ (bX3 cI (q 0) qN on ++ bIM cI cS (q 5) o6)) H → va_D A (bX4 cI cZ a q oo ++ (bX3 cI (q 0) qN on ++ bIM cI cS (q 5) o6)) → va_S A s.heap H locs → lv_has ls 2 [(0, .ref a), (1, .int i0)] → GW l yX4_keep cX4_keep 2 (some .int) 2 66 D [.ref a, .int i0] (some (.int x.1)) (bX4 cI cZ a q x.2.1 ++ (bX3 cI (q 0) qN on ++ bIM cI cS (q 5) x.2.2)) A p e s m below meth c H locs (F0 m 24 ls []) := by
        intro H locs ls hP hD hS hl
        refine lv_aload_n (pc := 24) hx hb dX4_keep_24 rfl (lv_at hl 0 rfl) ?_
        refine va_get (pc := 25) (D := D) (ci := 4) (v := .ref (q 6)) (C := RX4) (T := TX4) (N := 13) hx hb hts iX4 hown hK.1 hP 0 rfl rfl 6 (by decide) (hts _ fl_RX4_33) (fun _ h => h) rfl dX4_keep_25 ?_
        refine lv_iload_n (pc := 28) hx hb dX4_keep_28 rfl (lv_at hl 1 rfl) ?_
        refine lv_iconst (v := 1) (pc := 29) hx hb dX4_keep_29 (by decide) ?_
        obtain ⟨h8, hf⟩ := ck_some hf
        obtain ⟨o9, eo9, hf⟩ := lt_some hf
        refine va_zast (pc := 30) (f := oo.2.2 6) hx hb hK.1 hP hD hS 1 1 rfl rfl h8 dX4_keep_30 (fun H locs hP hD hS => ?_)
        replace hP : va_P D vwCl (bX4 cI cZ a q o9 ++ (bX3 cI (q 0) qN on ++ bIM cI cS (q 5) o6)) H := by rw [eo9]; exact hP
        replace hD : va_D A (bX4 cI cZ a q o9 ++ (bX3 cI (q 0) qN on ++ bIM cI cS (q 5) o6)) := by rw [eo9]; exact hD
        refine lv_aload_n (pc := 31) hx hb dX4_keep_31 rfl (lv_at hl 0 rfl) ?_
        refine va_get (pc := 32) (D := D) (ci := 4) (v := .ref (q 0)) (C := RX4) (T := TX4) (N := 13) hx hb hts iX4 hown hK.1 hP 0 rfl rfl 0 (by decide) (hts _ fl_RX4_12) (fun _ h => h) rfl dX4_keep_32 ?_
        refine va_getN (pc := 35) (D := D) (ci := 3) (v := .int (on.1 4)) (C := RX3) (T := TX3) (N := 12) hx hb hts iX3 hown hK.1 hP 5 rfl rfl 4 (by decide) (va_Nw.use rfl (hK.2 _ nf_RX4_89)) (fun _ h => h) rfl dX4_keep_35 ?_
        obtain rfl := Option.some.inj hf
        exact W.iret hx hb hr (fun t ht hW => ⟨rfl, by rw [ht]; exact hP, hD, hS.F ht⟩) hS.2.2 dX4_keep_38
      clear hf
      have hk4 : k4 < 2 := by rw [ek4]; exact Nat.not_le.mp fun q => h3 (Or.inr q)
      clear ek4
      obtain rfl | rfl : k4 = 0 ∨ k4 = 1 := by omega
      · refine ct_S (pc := 21) (As := [.ref (q 0), .ref ((ig.1 0).1)]) (rest := []) (wr := [0, 1, 2, 3, 4, 13, 22, 23, 24, 25, 26, 27, 28, 29].filterMap (fun i => (bX4 cI cZ a q oo ++ (bX3 cI (q 0) qN on ++ bIM cI cS (q 5) ig))[i]?)) (W1 := bX4 cI cZ a q oo ++ (bX3 cI (q 0) qN on ++ bIM cI cS (q 5) (ig.1, va_up ig.2 0 x5))) ⟨hx, hb, hml, hown, hts⟩ hK (c_X3_copy l D cI cZ cS (q 0) ((ig.1 0).1) qN ((ig.1 0).2) on (ig.2 0) x5 ex5) gs_RX4_69 hs_X3_copy rfl ⟨Nat.le_of_ble_eq_true rfl, Nat.le_of_ble_eq_true rfl⟩ hl.1 rfl (Nat.le_of_ble_eq_true rfl) dX4_keep_21 ⟨Nat.zero_le _, Nat.zero_le _⟩ hP hD hS hA [5, 6, 7, 8, 9, 10, 11, 12, 14, 15, 16, 17, 18, 19, 20, 21] [0, 1, 2, 3, 4, 13, 22, 23, 24, 25, 26, 27, 28, 29] [0, 1, 2, 3, 4, 14, 15, 16, 17, 18, 19, 20, 21, 5, 22, 23, 24, 25, 26, 27, 28, 29, 6, 7, 8, 9, 10, 11, 12, 13] rfl rfl (by decide +kernel) (by decide +kernel) (by decide +kernel) (by decide +kernel) rfl (fun H locs hP hD hS => ?_)
        exact K7 H locs ls (by rw [eo6]; exact hP) (by rw [eo6]; exact hD) hS (lv_sub hl [0, 1] rfl)
      · refine ct_S (pc := 21) (As := [.ref (q 0), .ref ((ig.1 1).1)]) (rest := []) (wr := [0, 1, 2, 3, 4, 13, 14, 15, 16, 17, 18, 19, 20, 21].filterMap (fun i => (bX4 cI cZ a q oo ++ (bX3 cI (q 0) qN on ++ bIM cI cS (q 5) ig))[i]?)) (W1 := bX4 cI cZ a q oo ++ (bX3 cI (q 0) qN on ++ bIM cI cS (q 5) (ig.1, va_up ig.2 1 x5))) ⟨hx, hb, hml, hown, hts⟩ hK (c_X3_copy l D cI cZ cS (q 0) ((ig.1 1).1) qN ((ig.1 1).2) on (ig.2 1) x5 ex5) gs_RX4_69 hs_X3_copy rfl ⟨Nat.le_of_ble_eq_true rfl, Nat.le_of_ble_eq_true rfl⟩ hl.1 rfl (Nat.le_of_ble_eq_true rfl) dX4_keep_21 ⟨Nat.zero_le _, Nat.zero_le _⟩ hP hD hS hA [5, 6, 7, 8, 9, 10, 11, 12, 22, 23, 24, 25, 26, 27, 28, 29] [0, 1, 2, 3, 4, 13, 14, 15, 16, 17, 18, 19, 20, 21] [0, 1, 2, 3, 4, 14, 15, 16, 17, 18, 19, 20, 21, 5, 6, 7, 8, 9, 10, 11, 12, 13, 22, 23, 24, 25, 26, 27, 28, 29] rfl rfl (by decide +kernel) (by decide +kernel) (by decide +kernel) (by decide +kernel) rfl (fun H locs hP hD hS => ?_)
        exact K7 H locs ls (by rw [eo6]; exact hP) (by rw [eo6]; exact hD) hS (lv_sub hl [0, 1] rfl)
    · replace hf := im c2 hf
      refine lv_iconst (v := -1) (pc := 9) hx hb dX4_keep_9 (by decide) ?_
      obtain rfl := Option.some.inj hf
      exact W.iret hx hb hr (fun t ht hW => ⟨rfl, by rw [ht]; exact hP, hD, hS.F ht⟩) hS.2.2 dX4_keep_10
def f_X4_back (i0 : Int32) (oo : OS) (on : OS) (ig : PSt) : Option (Int32 × OS × OS) := if i0 < 0 then some ((-1), oo, on) else if i0 < 2 then ck i0 2 (if (oo.2.2 6 (i0 : Int32).toNatClampNeg) = 0 then some ((-2), oo, on) else ck i0 2 (lt ((i0 : Int32).toNatClampNeg) fun k6 => Option.bind (f_X3_copy (ig.2 k6) on) fun x7 => lt (sI oo 4 0) fun o10 => some ((x7.1 4), o10, x7))) else some ((-1), oo, on)
set_option maxHeartbeats 4000000 in
set_option maxRecDepth 100000 in
theorem c_X4_back (l : Launch) (D : va_G) (cI cZ cS : ClassId) (a : Nat) (q : Nat → Nat) (qN : Nat → Nat) (i0 : Int32) (oo : OS) (on : OS) (ig : PSt) (x : (Int32 × OS × OS)) (hf : f_X4_back i0 oo on ig = some x) : Ct l yX4_back cX4_back 2 (some .int) 2 66 D cI cZ cS [.ref a, .int i0] (bX4 cI cZ a q oo ++ (bX3 cI (q 0) qN on ++ bIM cI cS (q 5) ig)) (some (.int x.1)) (bX4 cI cZ a q x.2.1 ++ (bX3 cI (q 0) qN x.2.2 ++ bIM cI cS (q 5) ig)) := by
  intro sz
  refine Met.ofW (cc := cX4_back) (maxL := 2) (ret := (some .int)) (by decide +kernel) rfl ?_
  intro p e s m args below meth c s₁ B hml hv
  obtain ⟨rfl, hsz, hP, hK, hD0⟩ := hv
  have hx := B.exec
  have hb := B.bytes
  have hr := B.returns
  have hts0 := atoms_spec (ws := .code yX4_back cX4_back 2 (some .int) :: TB) B.pre
  have hts := fun w (h : w ∈ TB) => hts0 w (List.mem_cons_of_mem _ h)
  have hown : s.vm.findClass RX4 = some m.cls := findClass_of_methodNamed B.named
  have hlocks := B.notSynchronized
  subst hsz
  have hD := hD0.self (sz := s.heap.size)
  generalize hAe : va_A (bX4 cI cZ a q oo ++ (bX3 cI (q 0) qN on ++ bIM cI cS (q 5) ig)) s.heap.size = A at hD ⊢
  have hA : ∀ q : Nat, s.heap.size ≤ q → A q := fun q h => by rw [← hAe]; exact Or.inr h
  have hS : va_S A s.heap s.heap [] := va_S.rf
  obtain ⟨H, hH⟩ : ∃ H, H = s.heap := ⟨_, rfl⟩
  rw [← hH] at hP
  have hS : va_S A s.heap H [] := by rw [hH]; exact hS
  have hl := lv_entry ([.ref a, .int i0]) (n := 2) (Nat.le_of_ble_eq_true rfl)
  rw [lg_entry_eq]
  generalize (lg_sl ([.ref a, .int i0]) ++ List.replicate (2 - (lg_sl ([.ref a, .int i0])).length) Slot.unset).toArray = ls at hl ⊢
  have hl : lv_has ls 2 [(0, .ref a), (1, .int i0)] := hl
  refine W_heap hH ?_
  obtain ⟨locs, hlo⟩ : ∃ locs : List Loc, locs = [] := ⟨_, rfl⟩
  rw [← hlo] at hS ⊢
  unfold f_X4_back at hf
  refine lv_iload_n (pc := 0) hx hb dX4_back_0 rfl (lv_at hl 1 rfl) ?_
  refine lv_if_lt (pc := 1) (tgt := 9) hx hb dX4_back_1 (by decide) (fun c1 => ?_) (fun c1 => ?_)
  · replace hf := ip c1 hf
    refine lv_iconst (v := -1) (pc := 9) hx hb dX4_back_9 (by decide) ?_
    obtain rfl := Option.some.inj hf
    exact W.iret hx hb hr (fun t ht hW => ⟨rfl, by rw [ht]; exact hP, hD, hS.F ht⟩) hS.2.2 dX4_back_10
  · replace hf := im c1 hf
    refine lv_iload_n (pc := 4) hx hb dX4_back_4 rfl (lv_at hl 1 rfl) ?_
    refine lv_iconst (v := 2) (pc := 5) hx hb dX4_back_5 (by decide) ?_
    refine lv_icmp_lt (pc := 6) (tgt := 11) hx hb dX4_back_6 (by decide) (fun c2 => ?_) (fun c2 => ?_)
    · replace hf := ip c2 hf
      refine lv_aload_n (pc := 11) hx hb dX4_back_11 rfl (lv_at hl 0 rfl) ?_
      refine va_get (pc := 12) (D := D) (ci := 4) (v := .ref (q 6)) (C := RX4) (T := TX4) (N := 13) hx hb hts iX4 hown hK.1 hP 0 rfl rfl 6 (by decide) (hts _ fl_RX4_33) (fun _ h => h) rfl dX4_back_12 ?_
      refine lv_iload_n (pc := 15) hx hb dX4_back_15 rfl (lv_at hl 1 rfl) ?_
      obtain ⟨h3, hf⟩ := ck_some hf
      refine va_zald (pc := 16) (f := oo.2.2 6) hx hb hK.1 hP 1 1 rfl rfl h3 dX4_back_16 ?_
      refine lv_if_ne (pc := 17) (tgt := 23) hx hb dX4_back_17 (by decide) (fun c4 => ?_) (fun c4 => ?_)
      · replace hf := im c4 hf
        refine lv_aload_n (pc := 23) hx hb dX4_back_23 rfl (lv_at hl 0 rfl) ?_
        refine va_get (pc := 24) (D := D) (ci := 4) (v := .ref (q 5)) (C := RX4) (T := TX4) (N := 13) hx hb hts iX4 hown hK.1 hP 0 rfl rfl 5 (by decide) (hts _ fl_RX4_30) (fun _ h => h) rfl dX4_back_24 ?_
        refine lv_iload_n (pc := 27) hx hb dX4_back_27 rfl (lv_at hl 1 rfl) ?_
        obtain ⟨h5, hf⟩ := ck_some hf
        obtain ⟨k6, ek6, hf⟩ := lt_some hf
        refine ld_q (pc := 28) (ps := ig) hx hb hK.1 hP 13 2 rfl rfl h5 ek6 dX4_back_28 ?_
        refine lv_aload_n (pc := 29) hx hb dX4_back_29 rfl (lv_at hl 0 rfl) ?_
        refine va_get (pc := 30) (D := D) (ci := 4) (v := .ref (q 0)) (C := RX4) (T := TX4) (N := 13) hx hb hts iX4 hown hK.1 hP 0 rfl rfl 0 (by decide) (hts _ fl_RX4_12) (fun _ h => h) rfl dX4_back_30 ?_
        obtain ⟨x7, ex7, hf⟩ := bd_some hf
        have K9 : ∀ (H : Heap) (locs : List Loc) (ls : Array Slot), va_P D vwCl (bX4 cI cZ a q oo ++ (bX3 cI (q 0) qN x7 ++ bIM cI cS (q 5) ig)) H → va_D A (bX4 cI cZ a q oo ++ (bX3 cI (q 0) qN x7 ++ bIM cI cS (q 5) ig)) → va_S A s.heap H locs → lv_has ls 2 [(0, .ref a), (1, .int i0)] → GW l yX4_back cX4_back 2 (some .int) 2 66 D [.ref a, .int i0] (some (.int x.1)) (bX4 cI cZ a q x.2.1 ++ (bX3 cI (q 0) qN x.2.2 ++ bIM cI cS (q 5) ig)) A p e s m below meth c H locs (F0 m 36 ls []) := by
          intro H locs ls hP hD hS hl
          refine lv_aload_n (pc := 36) hx hb dX4_back_36 rfl (lv_at hl 0 rfl) ?_
          refine lv_iconst (v := 0) (pc := 37) hx hb dX4_back_37 (by decide) ?_
          obtain ⟨o10, eo10, hf⟩ := lt_some hf
          refine va_put (pc := 38) (D := D) (ci := 4) (v := .int 0) (ty := .int) (C := RX4) (T := TX4) (N := 13) hx hb hts iX4 tyX4 tyX4_ok nmX4 hown hK.1 hP hD hS 0 rfl rfl 4 (by decide) (hts _ fl_RX4_73) (fun _ h => h) rfl (tyX4_ok 4 (by decide)) rfl rfl (Nat.le_of_ble_eq_true rfl) dX4_back_38 (fun H locs hP hD hS => ?_)
          replace hP : va_P D vwCl (bX4 cI cZ a q o10 ++ (bX3 cI (q 0) qN x7 ++ bIM cI cS (q 5) ig)) H := by rw [eo10]; exact hP
          replace hD : va_D A (bX4 cI cZ a q o10 ++ (bX3 cI (q 0) qN x7 ++ bIM cI cS (q 5) ig)) := by rw [eo10]; exact hD
          refine lv_aload_n (pc := 41) hx hb dX4_back_41 rfl (lv_at hl 0 rfl) ?_
          refine va_get (pc := 42) (D := D) (ci := 4) (v := .ref (q 0)) (C := RX4) (T := TX4) (N := 13) hx hb hts iX4 hown hK.1 hP 0 rfl rfl 0 (by decide) (hts _ fl_RX4_12) (fun _ h => h) rfl dX4_back_42 ?_
          refine va_getN (pc := 45) (D := D) (ci := 3) (v := .int (x7.1 4)) (C := RX3) (T := TX3) (N := 12) hx hb hts iX3 hown hK.1 hP 5 rfl rfl 4 (by decide) (va_Nw.use rfl (hK.2 _ nf_RX4_89)) (fun _ h => h) rfl dX4_back_45 ?_
          obtain rfl := Option.some.inj hf
          exact W.iret hx hb hr (fun t ht hW => ⟨rfl, by rw [ht]; exact hP, hD, hS.F ht⟩) hS.2.2 dX4_back_48
        clear hf
        have hk6 : k6 < 2 := by rw [ek6]; exact Nat.not_le.mp fun q => h5 (Or.inr q)
        clear ek6
        obtain rfl | rfl : k6 = 0 ∨ k6 = 1 := by omega
        · refine ct_S (pc := 33) (As := [.ref ((ig.1 0).1), .ref (q 0)]) (rest := []) (wr := [0, 1, 2, 3, 4, 13, 22, 23, 24, 25, 26, 27, 28, 29].filterMap (fun i => (bX4 cI cZ a q oo ++ (bX3 cI (q 0) qN on ++ bIM cI cS (q 5) ig))[i]?)) (W1 := bX4 cI cZ a q oo ++ (bX3 cI (q 0) qN x7 ++ bIM cI cS (q 5) ig)) ⟨hx, hb, hml, hown, hts⟩ hK (c_X3_copy l D cI cZ cS ((ig.1 0).1) (q 0) ((ig.1 0).2) qN (ig.2 0) on x7 ex7) gs_RX4_69 hs_X3_copy rfl ⟨Nat.le_of_ble_eq_true rfl, Nat.le_of_ble_eq_true rfl⟩ hl.1 rfl (Nat.le_of_ble_eq_true rfl) dX4_back_33 ⟨Nat.zero_le _, Nat.zero_le _⟩ hP hD hS hA [14, 15, 16, 17, 18, 19, 20, 21, 5, 6, 7, 8, 9, 10, 11, 12] [0, 1, 2, 3, 4, 13, 22, 23, 24, 25, 26, 27, 28, 29] [0, 1, 2, 3, 4, 22, 23, 24, 25, 26, 27, 28, 29, 5, 14, 15, 16, 17, 18, 19, 20, 21, 6, 7, 8, 9, 10, 11, 12, 13] rfl rfl (by decide +kernel) (by decide +kernel) (by decide +kernel) (by decide +kernel) rfl (fun H locs hP hD hS => ?_)
          exact K9 H locs ls (hP) (hD) hS (lv_sub hl [0, 1] rfl)
        · refine ct_S (pc := 33) (As := [.ref ((ig.1 1).1), .ref (q 0)]) (rest := []) (wr := [0, 1, 2, 3, 4, 13, 14, 15, 16, 17, 18, 19, 20, 21].filterMap (fun i => (bX4 cI cZ a q oo ++ (bX3 cI (q 0) qN on ++ bIM cI cS (q 5) ig))[i]?)) (W1 := bX4 cI cZ a q oo ++ (bX3 cI (q 0) qN x7 ++ bIM cI cS (q 5) ig)) ⟨hx, hb, hml, hown, hts⟩ hK (c_X3_copy l D cI cZ cS ((ig.1 1).1) (q 0) ((ig.1 1).2) qN (ig.2 1) on x7 ex7) gs_RX4_69 hs_X3_copy rfl ⟨Nat.le_of_ble_eq_true rfl, Nat.le_of_ble_eq_true rfl⟩ hl.1 rfl (Nat.le_of_ble_eq_true rfl) dX4_back_33 ⟨Nat.zero_le _, Nat.zero_le _⟩ hP hD hS hA [22, 23, 24, 25, 26, 27, 28, 29, 5, 6, 7, 8, 9, 10, 11, 12] [0, 1, 2, 3, 4, 13, 14, 15, 16, 17, 18, 19, 20, 21] [0, 1, 2, 3, 4, 22, 23, 24, 25, 26, 27, 28, 29, 5, 6, 7, 8, 9, 10, 11, 12, 13, 14, 15, 16, 17, 18, 19, 20, 21] rfl rfl (by decide +kernel) (by decide +kernel) (by decide +kernel) (by decide +kernel) rfl (fun H locs hP hD hS => ?_)
          exact K9 H locs ls (hP) (hD) hS (lv_sub hl [0, 1] rfl)
      · replace hf := ip c4 hf
        refine lv_bipush (v := -2) (pc := 20) hx hb dX4_back_20 (by decide) ?_
        obtain rfl := Option.some.inj hf
        exact W.iret hx hb hr (fun t ht hW => ⟨rfl, by rw [ht]; exact hP, hD, hS.F ht⟩) hS.2.2 dX4_back_22
    · replace hf := im c2 hf
      refine lv_iconst (v := -1) (pc := 9) hx hb dX4_back_9 (by decide) ?_
      obtain rfl := Option.some.inj hf
      exact W.iret hx hb hr (fun t ht hW => ⟨rfl, by rw [ht]; exact hP, hD, hS.F ht⟩) hS.2.2 dX4_back_10
def f_X4_count (i0 : Int32) (oo : OS) (on : OS) (oc : OS) : Option Int32 := if i0 = 0 then some (on.1 4) else if i0 = 1 then Option.bind (f_J6_bitCount_0f7a4 (on.1 5)) fun x3 => some x3 else if i0 = 2 then some (on.1 9) else if i0 = 3 then some (oo.1 7) else if i0 = 4 then some (oo.1 10) else if i0 = 5 then some (oc.1 1) else if i0 = 6 then some (oo.1 4) else some (-1)
set_option maxHeartbeats 4000000 in
set_option maxRecDepth 100000 in
theorem c_X4_count (l : Launch) (D : va_G) (cI cZ cS : ClassId) (a : Nat) (q : Nat → Nat) (qN : Nat → Nat) (qC : Nat → Nat) (i0 : Int32) (oo : OS) (on : OS) (oc : OS) (x : Int32) (hf : f_X4_count i0 oo on oc = some x) : Ct l yX4_count cX4_count 2 (some .int) 1 20 D cI cZ cS [.ref a, .int i0] (bX4 cI cZ a q oo ++ (bX3 cI (q 0) qN on ++ bX2 cI (q 2) qC oc)) (some (.int x)) (bX4 cI cZ a q oo ++ (bX3 cI (q 0) qN on ++ bX2 cI (q 2) qC oc)) := by
  intro sz
  refine Met.ofW (cc := cX4_count) (maxL := 2) (ret := (some .int)) (by decide +kernel) rfl ?_
  intro p e s m args below meth c s₁ B hml hv
  obtain ⟨rfl, hsz, hP, hK, hD0⟩ := hv
  have hx := B.exec
  have hb := B.bytes
  have hr := B.returns
  have hts0 := atoms_spec (ws := .code yX4_count cX4_count 2 (some .int) :: TB) B.pre
  have hts := fun w (h : w ∈ TB) => hts0 w (List.mem_cons_of_mem _ h)
  have hown : s.vm.findClass RX4 = some m.cls := findClass_of_methodNamed B.named
  have hlocks := B.notSynchronized
  subst hsz
  have hD := hD0.self (sz := s.heap.size)
  generalize hAe : va_A (bX4 cI cZ a q oo ++ (bX3 cI (q 0) qN on ++ bX2 cI (q 2) qC oc)) s.heap.size = A at hD ⊢
  have hA : ∀ q : Nat, s.heap.size ≤ q → A q := fun q h => by rw [← hAe]; exact Or.inr h
  have hS : va_S A s.heap s.heap [] := va_S.rf
  obtain ⟨H, hH⟩ : ∃ H, H = s.heap := ⟨_, rfl⟩
  rw [← hH] at hP
  have hS : va_S A s.heap H [] := by rw [hH]; exact hS
  have hl := lv_entry ([.ref a, .int i0]) (n := 2) (Nat.le_of_ble_eq_true rfl)
  rw [lg_entry_eq]
  generalize (lg_sl ([.ref a, .int i0]) ++ List.replicate (2 - (lg_sl ([.ref a, .int i0])).length) Slot.unset).toArray = ls at hl ⊢
  have hl : lv_has ls 2 [(0, .ref a), (1, .int i0)] := hl
  refine W_heap hH ?_
  obtain ⟨locs, hlo⟩ : ∃ locs : List Loc, locs = [] := ⟨_, rfl⟩
  rw [← hlo] at hS ⊢
  unfold f_X4_count at hf
  refine lv_iload_n (pc := 0) hx hb dX4_count_0 rfl (lv_at hl 1 rfl) ?_
  by_cases c1 : i0 = 0
  · refine lv_tableIn (pc := 1) (off := 43) (tgt := 44) hx hb dX4_count_1 (by rw [c1]; decide) (by rw [c1]; decide) (by rw [c1]; decide) (by decide) ?_
    replace hf := ip c1 hf
    refine lv_aload_n (pc := 44) hx hb dX4_count_44 rfl (lv_at hl 0 rfl) ?_
    refine va_get (pc := 45) (D := D) (ci := 4) (v := .ref (q 0)) (C := RX4) (T := TX4) (N := 13) hx hb hts iX4 hown hK.1 hP 0 rfl rfl 0 (by decide) (hts _ fl_RX4_12) (fun _ h => h) rfl dX4_count_45 ?_
    refine va_getN (pc := 48) (D := D) (ci := 3) (v := .int (on.1 4)) (C := RX3) (T := TX3) (N := 12) hx hb hts iX3 hown hK.1 hP 5 rfl rfl 4 (by decide) (va_Nw.use rfl (hK.2 _ nf_RX4_89)) (fun _ h => h) rfl dX4_count_48 ?_
    obtain rfl := Option.some.inj hf
    exact W.iret hx hb hr (fun t ht hW => ⟨rfl, by rw [ht]; exact hP, hD, hS.F ht⟩) hS.2.2 dX4_count_51
  replace hf := im c1 hf
  by_cases c2 : i0 = 1
  · refine lv_tableIn (pc := 1) (off := 51) (tgt := 52) hx hb dX4_count_1 (by rw [c2]; decide) (by rw [c2]; decide) (by rw [c2]; decide) (by decide) ?_
    replace hf := ip c2 hf
    refine lv_aload_n (pc := 52) hx hb dX4_count_52 rfl (lv_at hl 0 rfl) ?_
    refine va_get (pc := 53) (D := D) (ci := 4) (v := .ref (q 0)) (C := RX4) (T := TX4) (N := 13) hx hb hts iX4 hown hK.1 hP 0 rfl rfl 0 (by decide) (hts _ fl_RX4_12) (fun _ h => h) rfl dX4_count_53 ?_
    refine va_getN (pc := 56) (D := D) (ci := 3) (v := .int (on.1 5)) (C := RX3) (T := TX3) (N := 12) hx hb hts iX3 hown hK.1 hP 5 rfl rfl 5 (by decide) (va_Nw.use rfl (hK.2 _ nf_RX4_105)) (fun _ h => h) rfl dX4_count_56 ?_
    obtain ⟨x3, ex3, hf⟩ := bd_some hf
    refine ct_S0 (pc := 59) (As := [.int (on.1 5)]) (rest := []) ⟨hx, hb, hml, hown, hts⟩ hK (c_J6_bitCount_0f7a4 l D cI cZ cS (on.1 5) x3 ex3) gs_RX4_108 hs_J6_bitCount_0f7a4 rfl ⟨Nat.le_of_ble_eq_true rfl, Nat.le_of_ble_eq_true rfl⟩ hl.1 rfl (Nat.le_of_ble_eq_true rfl) dX4_count_59 ⟨Nat.zero_le _, Nat.zero_le _⟩ hP hS hA (fun H locs hP hS => ?_)
    obtain rfl := Option.some.inj hf
    exact W.iret hx hb hr (fun t ht hW => ⟨rfl, by rw [ht]; exact hP, hD, hS.F ht⟩) hS.2.2 dX4_count_62
  replace hf := im c2 hf
  by_cases c4 : i0 = 2
  · refine lv_tableIn (pc := 1) (off := 62) (tgt := 63) hx hb dX4_count_1 (by rw [c4]; decide) (by rw [c4]; decide) (by rw [c4]; decide) (by decide) ?_
    replace hf := ip c4 hf
    refine lv_aload_n (pc := 63) hx hb dX4_count_63 rfl (lv_at hl 0 rfl) ?_
    refine va_get (pc := 64) (D := D) (ci := 4) (v := .ref (q 0)) (C := RX4) (T := TX4) (N := 13) hx hb hts iX4 hown hK.1 hP 0 rfl rfl 0 (by decide) (hts _ fl_RX4_12) (fun _ h => h) rfl dX4_count_64 ?_
    refine va_getN (pc := 67) (D := D) (ci := 3) (v := .int (on.1 9)) (C := RX3) (T := TX3) (N := 12) hx hb hts iX3 hown hK.1 hP 5 rfl rfl 9 (by decide) (va_Nw.use rfl (hK.2 _ nf_RX4_282)) (fun _ h => h) rfl dX4_count_67 ?_
    obtain rfl := Option.some.inj hf
    exact W.iret hx hb hr (fun t ht hW => ⟨rfl, by rw [ht]; exact hP, hD, hS.F ht⟩) hS.2.2 dX4_count_70
  replace hf := im c4 hf
  by_cases c5 : i0 = 3
  · refine lv_tableIn (pc := 1) (off := 70) (tgt := 71) hx hb dX4_count_1 (by rw [c5]; decide) (by rw [c5]; decide) (by rw [c5]; decide) (by decide) ?_
    replace hf := ip c5 hf
    refine lv_aload_n (pc := 71) hx hb dX4_count_71 rfl (lv_at hl 0 rfl) ?_
    refine va_get (pc := 72) (D := D) (ci := 4) (v := .int (oo.1 7)) (C := RX4) (T := TX4) (N := 13) hx hb hts iX4 hown hK.1 hP 0 rfl rfl 7 (by decide) (hts _ fl_RX4_37) (fun _ h => h) rfl dX4_count_72 ?_
    obtain rfl := Option.some.inj hf
    exact W.iret hx hb hr (fun t ht hW => ⟨rfl, by rw [ht]; exact hP, hD, hS.F ht⟩) hS.2.2 dX4_count_75
  replace hf := im c5 hf
  by_cases c6 : i0 = 4
  · refine lv_tableIn (pc := 1) (off := 75) (tgt := 76) hx hb dX4_count_1 (by rw [c6]; decide) (by rw [c6]; decide) (by rw [c6]; decide) (by decide) ?_
    replace hf := ip c6 hf
    refine lv_aload_n (pc := 76) hx hb dX4_count_76 rfl (lv_at hl 0 rfl) ?_
    refine va_get (pc := 77) (D := D) (ci := 4) (v := .int (oo.1 10)) (C := RX4) (T := TX4) (N := 13) hx hb hts iX4 hown hK.1 hP 0 rfl rfl 10 (by decide) (hts _ fl_RX4_76) (fun _ h => h) rfl dX4_count_77 ?_
    obtain rfl := Option.some.inj hf
    exact W.iret hx hb hr (fun t ht hW => ⟨rfl, by rw [ht]; exact hP, hD, hS.F ht⟩) hS.2.2 dX4_count_80
  replace hf := im c6 hf
  by_cases c7 : i0 = 5
  · refine lv_tableIn (pc := 1) (off := 80) (tgt := 81) hx hb dX4_count_1 (by rw [c7]; decide) (by rw [c7]; decide) (by rw [c7]; decide) (by decide) ?_
    replace hf := ip c7 hf
    refine lv_aload_n (pc := 81) hx hb dX4_count_81 rfl (lv_at hl 0 rfl) ?_
    refine va_get (pc := 82) (D := D) (ci := 4) (v := .ref (q 2)) (C := RX4) (T := TX4) (N := 13) hx hb hts iX4 hown hK.1 hP 0 rfl rfl 2 (by decide) (hts _ fl_RX4_22) (fun _ h => h) rfl dX4_count_82 ?_
    refine va_getN (pc := 85) (D := D) (ci := 2) (v := .int (oc.1 1)) (C := RX2) (T := TX2) (N := 7) hx hb hts iX2 hown hK.1 hP 13 rfl rfl 1 (by decide) (va_Nw.use rfl (hK.2 _ nf_RX4_62)) (fun _ h => h) rfl dX4_count_85 ?_
    obtain rfl := Option.some.inj hf
    exact W.iret hx hb hr (fun t ht hW => ⟨rfl, by rw [ht]; exact hP, hD, hS.F ht⟩) hS.2.2 dX4_count_88
  replace hf := im c7 hf
  by_cases c8 : i0 = 6
  · refine lv_tableIn (pc := 1) (off := 88) (tgt := 89) hx hb dX4_count_1 (by rw [c8]; decide) (by rw [c8]; decide) (by rw [c8]; decide) (by decide) ?_
    replace hf := ip c8 hf
    refine lv_aload_n (pc := 89) hx hb dX4_count_89 rfl (lv_at hl 0 rfl) ?_
    refine va_get (pc := 90) (D := D) (ci := 4) (v := .int (oo.1 4)) (C := RX4) (T := TX4) (N := 13) hx hb hts iX4 hown hK.1 hP 0 rfl rfl 4 (by decide) (hts _ fl_RX4_73) (fun _ h => h) rfl dX4_count_90 ?_
    obtain rfl := Option.some.inj hf
    exact W.iret hx hb hr (fun t ht hW => ⟨rfl, by rw [ht]; exact hP, hD, hS.F ht⟩) hS.2.2 dX4_count_93
  replace hf := im c8 hf
  refine lv_tableOut (pc := 1) (tgt := 94) hx hb dX4_count_1 (by have := lv_neT c1 (a := 0) rfl; have := lv_neT c2 (a := 1) rfl; have := lv_neT c4 (a := 2) rfl; have := lv_neT c5 (a := 3) rfl; have := lv_neT c6 (a := 4) rfl; have := lv_neT c7 (a := 5) rfl; have := lv_neT c8 (a := 6) rfl; omega) (by decide) ?_
  refine lv_iconst (v := -1) (pc := 94) hx hb dX4_count_94 (by decide) ?_
  obtain rfl := Option.some.inj hf
  exact W.iret hx hb hr (fun t ht hW => ⟨rfl, by rw [ht]; exact hP, hD, hS.F ht⟩) hS.2.2 dX4_count_95
