def lp_X4_power_4 (r0 : Int32) (r1 : Int32) : Nat → Int32 → Int32 → Option (Int32 × Int32)
  | 0, _, _ => none
  | n + 1, v2, v3 => if r1 ≤ v3 then some (v2, v3) else lp_X4_power_4 r0 r1 n (v2 * r0) (v3 + 1)
def f_X4_power (i0 : Int32) (i1 : Int32) : Option Int32 := Option.bind (lp_X4_power_4 i0 i1 1000 1 0) fun z1 => some z1.1
set_option maxHeartbeats 4000000 in
set_option maxRecDepth 100000 in
theorem c_X4_power (l : Launch) (D : va_G) (cI cZ cS : ClassId) (i0 : Int32) (i1 : Int32) (x : Int32) (hf : f_X4_power i0 i1 = some x) : Ct l yX4_power cX4_power 4 (some .int) 0 0 D cI cZ cS [.int i0, .int i1] ([]) (some (.int x)) ([]) := by
  intro sz
  refine Met.ofW (cc := cX4_power) (maxL := 4) (ret := (some .int)) (by decide +kernel) rfl ?_
  intro p e s m args below meth c s₁ B hml hv
  obtain ⟨rfl, hsz, hP, hK, hD0⟩ := hv
  have hx := B.exec
  have hb := B.bytes
  have hr := B.returns
  have hts0 := atoms_spec (ws := .code yX4_power cX4_power 4 (some .int) :: TB) B.pre
  have hts := fun w (h : w ∈ TB) => hts0 w (List.mem_cons_of_mem _ h)
  have hown : s.vm.findClass RX4 = some m.cls := findClass_of_methodNamed B.named
  have hlocks := B.notSynchronized
  subst hsz
  have hD := hD0.self (sz := s.heap.size)
  generalize hAe : va_A ([]) s.heap.size = A at hD ⊢
  have hA : ∀ q : Nat, s.heap.size ≤ q → A q := fun q h => by rw [← hAe]; exact Or.inr h
  have hS : va_S A s.heap s.heap [] := va_S.rf
  obtain ⟨H, hH⟩ : ∃ H, H = s.heap := ⟨_, rfl⟩
  rw [← hH] at hP
  have hS : va_S A s.heap H [] := by rw [hH]; exact hS
  have hl := lv_entry ([.int i0, .int i1]) (n := 4) (Nat.le_of_ble_eq_true rfl)
  rw [lg_entry_eq]
  generalize (lg_sl ([.int i0, .int i1]) ++ List.replicate (4 - (lg_sl ([.int i0, .int i1])).length) Slot.unset).toArray = ls at hl ⊢
  have hl : lv_has ls 4 [(0, .int i0), (1, .int i1)] := hl
  refine W_heap hH ?_
  obtain ⟨locs, hlo⟩ : ∃ locs : List Loc, locs = [] := ⟨_, rfl⟩
  rw [← hlo] at hS ⊢
  unfold f_X4_power at hf
  refine lv_iconst (v := 1) (pc := 0) hx hb dX4_power_0 (by decide) ?_
  refine lv_istore_n (lv' := [(2, .int 1), (0, .int i0), (1, .int i1)]) (pc := 1) hx hb dX4_power_1 rfl hl (by decide) rfl (fun ls hl => ?_)
  refine lv_iconst (v := 0) (pc := 2) hx hb dX4_power_2 (by decide) ?_
  refine lv_istore_n (lv' := [(3, .int 0), (2, .int 1), (0, .int i0), (1, .int i1)]) (pc := 3) hx hb dX4_power_3 rfl hl (by decide) rfl (fun ls hl => ?_)
  obtain ⟨z1, hz1, hf⟩ := bd_some hf
  have hfz1 := hf
  clear hf
  have K2 : ∀ (H : Heap) (locs : List Loc) (ls : Array Slot), va_P D vwCl ([]) H → va_D A ([]) → va_S A s.heap H locs → lv_has ls 4 [(0, .int i0), (1, .int i1), (2, .int z1.1), (3, .int z1.2)] → GW l yX4_power cX4_power 4 (some .int) 0 0 D [.int i0, .int i1] (some (.int x)) ([]) A p e s m below meth c H locs (F0 m 19 ls []) := by
    intro H locs ls hP hD hS hl
    have hf := hfz1
    refine lv_iload_n (pc := 19) hx hb dX4_power_19 rfl (lv_at hl 2 rfl) ?_
    obtain rfl := Option.some.inj hf
    exact W.iret hx hb hr (fun t ht hW => ⟨rfl, by rw [ht]; exact hP, hD, hS.F ht⟩) hS.2.2 dX4_power_20
  have KL3 : ∀ (n : Nat) (v2 : Int32) (v3 : Int32) (H : Heap) (locs : List Loc) (ls : Array Slot), lp_X4_power_4 i0 i1 n v2 v3 = some z1 → va_P D vwCl ([]) H → va_D A ([]) → va_S A s.heap H locs → lv_has ls 4 [(0, .int i0), (1, .int i1), (2, .int v2), (3, .int v3)] → GW l yX4_power cX4_power 4 (some .int) 0 0 D [.int i0, .int i1] (some (.int x)) ([]) A p e s m below meth c H locs (F0 m 4 ls []) := by
    intro n
    induction n with
    | zero => intro v2 v3 H locs ls hf; cases hf
    | succ n ih =>
      intro v2 v3 H locs ls hf hP hD hS hl
      rw [lp_X4_power_4] at hf
      refine lv_iload_n (pc := 4) hx hb dX4_power_4 rfl (lv_at hl 3 rfl) ?_
      refine lv_iload_n (pc := 5) hx hb dX4_power_5 rfl (lv_at hl 1 rfl) ?_
      refine lv_icmp_ge (pc := 6) (tgt := 19) hx hb dX4_power_6 (by decide) (fun c4 => ?_) (fun c4 => ?_)
      · replace hf := ip c4 hf
        obtain rfl := Option.some.inj hf
        exact K2 H locs ls hP hD hS (lv_sub hl [0, 1, 2, 3] rfl)
      · replace hf := im c4 hf
        refine lv_iload_n (pc := 9) hx hb dX4_power_9 rfl (lv_at hl 2 rfl) ?_
        refine lv_iload_n (pc := 10) hx hb dX4_power_10 rfl (lv_at hl 0 rfl) ?_
        refine lv_imul (pc := 11) hx hb dX4_power_11 ?_
        refine lv_istore_n (lv' := [(2, .int (v2 * i0)), (0, .int i0), (1, .int i1), (3, .int v3)]) (pc := 12) hx hb dX4_power_12 rfl hl (by decide) rfl (fun ls hl => ?_)
        refine lv_iinc (v := (v3 + 1)) (lv' := [(3, .int (v3 + 1)), (2, .int (v2 * i0)), (0, .int i0), (1, .int i1)]) (pc := 13) hx hb dX4_power_13 hl (k := 3) rfl rfl (by decide) rfl (fun ls hl => ?_)
        refine lv_goto (pc := 16) (tgt := 4) hx hb dX4_power_16 (by decide) ?_
        exact ih _ _ H locs ls hf hP hD hS (lv_sub hl [2, 3, 1, 0] rfl)
  exact KL3 1000 _ _ H locs ls hz1 hP hD hS (lv_sub hl [2, 3, 1, 0] rfl)
def f_X4_standsOn (i0 : Int32) (oo : OS) (od : OS) (odw : OS) (odp : OS) : Option (Int32 × OS × OS × OS) := Option.bind (f_X0_beginWith i0 od odw) fun x1 => Option.bind (f_X0_settle x1.1 x1.2 odp) fun x2 => if (x2.1.1 11) = 0 then some (0, x2.1, x1.2, x2.2) else Option.bind (f_X0_useTop x2.1 x2.2) fun x4 => Option.bind (f_X0_useBottom x2.1 x2.2) fun x5 => if x5 < x4 then some (0, x2.1, x1.2, x2.2) else some (1, x2.1, x1.2, x2.2)
set_option maxHeartbeats 4000000 in
set_option maxRecDepth 100000 in
theorem c_X4_standsOn (l : Launch) (D : va_G) (cI cZ cS : ClassId) (a : Nat) (q : Nat → Nat) (qD : Nat → Nat) (i0 : Int32) (oo : OS) (od : OS) (odw : OS) (odp : OS) (x : (Int32 × OS × OS × OS)) (hf : f_X4_standsOn i0 oo od odw odp = some x) : Ct l yX4_standsOn cX4_standsOn 2 (some .boolean) 4 93 D cI cZ cS [.ref a, .int i0] (bX4 cI cZ a q oo ++ (bX0 cI (q 12) qD od ++ (bX1 (qD 13) odw ++ bX1 (qD 14) odp))) (some (.int x.1)) (bX4 cI cZ a q oo ++ (bX0 cI (q 12) qD x.2.1 ++ (bX1 (qD 13) x.2.2.1 ++ bX1 (qD 14) x.2.2.2))) := by
  intro sz
  refine Met.ofW (cc := cX4_standsOn) (maxL := 2) (ret := (some .boolean)) (by decide +kernel) rfl ?_
  intro p e s m args below meth c s₁ B hml hv
  obtain ⟨rfl, hsz, hP, hK, hD0⟩ := hv
  have hx := B.exec
  have hb := B.bytes
  have hr := B.returns
  have hts0 := atoms_spec (ws := .code yX4_standsOn cX4_standsOn 2 (some .boolean) :: TB) B.pre
  have hts := fun w (h : w ∈ TB) => hts0 w (List.mem_cons_of_mem _ h)
  have hown : s.vm.findClass RX4 = some m.cls := findClass_of_methodNamed B.named
  have hlocks := B.notSynchronized
  subst hsz
  have hD := hD0.self (sz := s.heap.size)
  generalize hAe : va_A (bX4 cI cZ a q oo ++ (bX0 cI (q 12) qD od ++ (bX1 (qD 13) odw ++ bX1 (qD 14) odp))) s.heap.size = A at hD ⊢
  have hA : ∀ q : Nat, s.heap.size ≤ q → A q := fun q h => by rw [← hAe]; exact Or.inr h
  have hS : va_S A s.heap s.heap [] := va_S.rf
  obtain ⟨H, hH⟩ : ∃ H, H = s.heap := ⟨_, rfl⟩
  rw [← hH] at hP
  have hS : va_S A s.heap H [] := by rw [hH]; exact hS
  have hl := lv_entry ([.ref a, .int i0]) (n := 2) (Nat.le_of_ble_eq_true rfl)
  rw [lg_entry_eq]
  generalize (lg_sl ([.ref a, .int i0]) ++ List.replicate (2 - (lg_sl ([.ref a, .int i0])).length) Slot.unset).toArray = ls at hl ⊢
  have hl : lv_has ls 2 [(0, .ref a), (1, .int i0)] := hl
  refine W_heap hH ?_
  obtain ⟨locs, hlo⟩ : ∃ locs : List Loc, locs = [] := ⟨_, rfl⟩
  rw [← hlo] at hS ⊢
  unfold f_X4_standsOn at hf
  refine lv_aload_n (pc := 0) hx hb dX4_standsOn_0 rfl (lv_at hl 0 rfl) ?_
  refine va_get (pc := 1) (D := D) (ci := 4) (v := .ref (q 12)) (C := RX4) (T := TX4) (N := 13) hx hb hts iX4 hown hK.1 hP 0 rfl rfl 12 (by decide) (hts _ fl_RX4_54) (fun _ h => h) rfl dX4_standsOn_1 ?_
  refine lv_iload_n (pc := 4) hx hb dX4_standsOn_4 rfl (lv_at hl 1 rfl) ?_
  obtain ⟨x1, ex1, hf⟩ := bd_some hf
  refine ct_V (pc := 5) (As := [.int i0]) (rest := []) (wr := bX4 cI cZ a q oo ++ bX1 (qD 14) odp) (W1 := bX4 cI cZ a q oo ++ (bX0 cI (q 12) qD x1.1 ++ (bX1 (qD 13) x1.2 ++ bX1 (qD 14) odp))) ⟨hx, hb, hml, hown, hts⟩ hK (c_X0_beginWith l D cI cZ cS (q 12) qD i0 od odw x1 ex1) gv_RX4_241 rfl hs_X0_beginWith rfl ⟨Nat.le_of_ble_eq_true rfl, Nat.le_of_ble_eq_true rfl⟩ (ci := 0) (q0 := 5) rfl rfl rfl hl.1 rfl (Nat.le_of_ble_eq_true rfl) dX4_standsOn_5 ⟨Nat.zero_le _, Nat.zero_le _⟩ hP hD hS hA [5, 6, 7, 8, 9, 10] [0, 1, 2, 3, 4, 11] [0, 1, 2, 3, 4, 6, 7, 8, 9, 10, 11, 5] rfl rfl (by decide +kernel) (by decide +kernel) (by decide +kernel) (by decide +kernel) rfl (fun H locs hP hD hS => ?_)
  refine lv_aload_n (pc := 8) hx hb dX4_standsOn_8 rfl (lv_at hl 0 rfl) ?_
  refine va_get (pc := 9) (D := D) (ci := 4) (v := .ref (q 12)) (C := RX4) (T := TX4) (N := 13) hx hb hts iX4 hown hK.1 hP 0 rfl rfl 12 (by decide) (hts _ fl_RX4_54) (fun _ h => h) rfl dX4_standsOn_9 ?_
  obtain ⟨x2, ex2, hf⟩ := bd_some hf
  refine ct_V (pc := 12) (As := []) (rest := []) (wr := bX4 cI cZ a q oo) (W1 := bX4 cI cZ a q oo ++ (bX0 cI (q 12) qD x2.1 ++ (bX1 (qD 13) x1.2 ++ bX1 (qD 14) x2.2))) ⟨hx, hb, hml, hown, hts⟩ hK (c_X0_settle l D cI cZ cS (q 12) qD x1.1 x1.2 odp x2 ex2) gv_RX4_247 rfl hs_X0_settle rfl ⟨Nat.le_of_ble_eq_true rfl, Nat.le_of_ble_eq_true rfl⟩ (ci := 0) (q0 := 5) rfl rfl rfl hl.1 rfl (Nat.le_of_ble_eq_true rfl) dX4_standsOn_12 ⟨Nat.zero_le _, Nat.zero_le _⟩ hP hD hS hA [5, 6, 7, 8, 9, 10, 11] [0, 1, 2, 3, 4] [0, 1, 2, 3, 4, 5, 6, 7, 8, 9, 10, 11] rfl rfl (by decide +kernel) (by decide +kernel) (by decide +kernel) (by decide +kernel) rfl (fun H locs hP hD hS => ?_)
  refine lv_aload_n (pc := 15) hx hb dX4_standsOn_15 rfl (lv_at hl 0 rfl) ?_
  refine va_get (pc := 16) (D := D) (ci := 4) (v := .ref (q 12)) (C := RX4) (T := TX4) (N := 13) hx hb hts iX4 hown hK.1 hP 0 rfl rfl 12 (by decide) (hts _ fl_RX4_54) (fun _ h => h) rfl dX4_standsOn_16 ?_
  refine va_getN (pc := 19) (D := D) (ci := 0) (v := .int (x2.1.1 11)) (C := RX0) (T := TX0) (N := 15) hx hb hts iX0 hown hK.1 hP 5 rfl rfl 11 (by decide) (va_Nw.use rfl (hK.2 _ nf_RX4_149)) (fun _ h => h) rfl dX4_standsOn_19 ?_
  refine lv_if_eq (pc := 22) (tgt := 47) hx hb dX4_standsOn_22 (by decide) (fun c3 => ?_) (fun c3 => ?_)
  · replace hf := ip c3 hf
    refine lv_iconst (v := 0) (pc := 47) hx hb dX4_standsOn_47 (by decide) ?_
    obtain rfl := Option.some.inj hf
    exact W.zret hx hb hr rfl (fun t ht hW => ⟨rfl, by rw [ht]; exact hP, hD, hS.F ht⟩) hS.2.2 dX4_standsOn_48
  · replace hf := im c3 hf
    refine lv_aload_n (pc := 25) hx hb dX4_standsOn_25 rfl (lv_at hl 0 rfl) ?_
    refine va_get (pc := 26) (D := D) (ci := 4) (v := .ref (q 12)) (C := RX4) (T := TX4) (N := 13) hx hb hts iX4 hown hK.1 hP 0 rfl rfl 12 (by decide) (hts _ fl_RX4_54) (fun _ h => h) rfl dX4_standsOn_26 ?_
    obtain ⟨x4, ex4, hf⟩ := bd_some hf
    refine ct_V (pc := 29) (As := []) (rest := []) (wr := bX4 cI cZ a q oo ++ bX1 (qD 13) x1.2) (W1 := bX4 cI cZ a q oo ++ (bX0 cI (q 12) qD x2.1 ++ (bX1 (qD 13) x1.2 ++ bX1 (qD 14) x2.2))) ⟨hx, hb, hml, hown, hts⟩ hK (c_X0_useTop l D cI cZ cS (q 12) qD x2.1 x2.2 x4 ex4) gv_RX4_209 rfl hs_X0_useTop rfl ⟨Nat.le_of_ble_eq_true rfl, Nat.le_of_ble_eq_true rfl⟩ (ci := 0) (q0 := 5) rfl rfl rfl hl.1 rfl (Nat.le_of_ble_eq_true rfl) dX4_standsOn_29 ⟨Nat.zero_le _, Nat.zero_le _⟩ hP hD hS hA [5, 6, 7, 8, 9, 11] [0, 1, 2, 3, 4, 10] [0, 1, 2, 3, 4, 6, 7, 8, 9, 10, 5, 11] rfl rfl (by decide +kernel) (by decide +kernel) (by decide +kernel) (by decide +kernel) rfl (fun H locs hP hD hS => ?_)
    refine lv_aload_n (pc := 32) hx hb dX4_standsOn_32 rfl (lv_at hl 0 rfl) ?_
    refine va_get (pc := 33) (D := D) (ci := 4) (v := .ref (q 12)) (C := RX4) (T := TX4) (N := 13) hx hb hts iX4 hown hK.1 hP 0 rfl rfl 12 (by decide) (hts _ fl_RX4_54) (fun _ h => h) rfl dX4_standsOn_33 ?_
    obtain ⟨x5, ex5, hf⟩ := bd_some hf
    refine ct_V (pc := 36) (As := []) (rest := [.long x4]) (wr := bX4 cI cZ a q oo ++ bX1 (qD 13) x1.2) (W1 := bX4 cI cZ a q oo ++ (bX0 cI (q 12) qD x2.1 ++ (bX1 (qD 13) x1.2 ++ bX1 (qD 14) x2.2))) ⟨hx, hb, hml, hown, hts⟩ hK (c_X0_useBottom l D cI cZ cS (q 12) qD x2.1 x2.2 x5 ex5) gv_RX4_212 rfl hs_X0_useBottom rfl ⟨Nat.le_of_ble_eq_true rfl, Nat.le_of_ble_eq_true rfl⟩ (ci := 0) (q0 := 5) rfl rfl rfl hl.1 rfl (Nat.le_of_ble_eq_true rfl) dX4_standsOn_36 ⟨Nat.zero_le _, Nat.zero_le _⟩ hP hD hS hA [5, 6, 7, 8, 9, 11] [0, 1, 2, 3, 4, 10] [0, 1, 2, 3, 4, 6, 7, 8, 9, 10, 5, 11] rfl rfl (by decide +kernel) (by decide +kernel) (by decide +kernel) (by decide +kernel) rfl (fun H locs hP hD hS => ?_)
    refine W.lcmp (pc := 39) hx hb dX4_standsOn_39 ?_
    refine lv_if_gt (pc := 40) (tgt := 47) hx hb dX4_standsOn_40 (by decide) (fun c6 => ?_) (fun c6 => ?_)
    · replace c6 := (lg_cmp_gt _ _).mp c6
      replace hf := ip c6 hf
      refine lv_iconst (v := 0) (pc := 47) hx hb dX4_standsOn_47 (by decide) ?_
      obtain rfl := Option.some.inj hf
      exact W.zret hx hb hr rfl (fun t ht hW => ⟨rfl, by rw [ht]; exact hP, hD, hS.F ht⟩) hS.2.2 dX4_standsOn_48
    · replace c6 := fun q => c6 ((lg_cmp_gt _ _).mpr q)
      replace hf := im c6 hf
      refine lv_iconst (v := 1) (pc := 43) hx hb dX4_standsOn_43 (by decide) ?_
      refine lv_goto (pc := 44) (tgt := 48) hx hb dX4_standsOn_44 (by decide) ?_
      obtain rfl := Option.some.inj hf
      exact W.zret hx hb hr rfl (fun t ht hW => ⟨rfl, by rw [ht]; exact hP, hD, hS.F ht⟩) hS.2.2 dX4_standsOn_48
def lp_X4_odds_42 (r1 : Int32) (r3 : Int32) (u_O : OS) (u_N : OS) : Nat → Int32 → Int32 → OS → OS → OS → Option (Int32 × Int32 × OS × OS × OS)
  | 0, _, _, _, _, _ => none
  | n + 1, v4, v5, w_D, w_DW, w_DP => if 256 ≤ v5 then some (v4, v5, w_D, w_DW, w_DP) else if (v5 &&& ((u_N.1 5) ^^^ (-1))) = 0 then Option.bind (f_J6_bitCount_0f7a4 v5) fun x14 => Option.bind (f_X4_power (10 - r1) x14) fun x15 => Option.bind (f_X4_power r1 (r3 - x14)) fun x16 => if (x15 * x16) ≤ 0 then lp_X4_odds_42 r1 r3 u_O u_N n v4 (v5 + 1) w_D w_DW w_DP else Option.bind (f_X4_standsOn v5 u_O w_D w_DW w_DP) fun x18 => if x18.1 = 0 then lp_X4_odds_42 r1 r3 u_O u_N n v4 (v5 + 1) x18.2.1 x18.2.2.1 x18.2.2.2 else lp_X4_odds_42 r1 r3 u_O u_N n (v4 + (x15 * x16)) (v5 + 1) x18.2.1 x18.2.2.1 x18.2.2.2 else lp_X4_odds_42 r1 r3 u_O u_N n v4 (v5 + 1) w_D w_DW w_DP
def f_X4_odds (i0 : Int32) (i1 : Int32) (oo : OS) (on : OS) (od : OS) (odw : OS) (odp : OS) : Option (Int32 × OS × OS × OS) := if i0 < 0 then some ((-1), od, odw, odp) else if 10 < i0 then some ((-1), od, odw, odp) else if i1 < 0 then some ((-1), od, odw, odp) else if i1 ≤ 1 then Option.bind (f_X4_takePresent oo on od) fun x5 => Option.bind (f_J6_bitCount_0f7a4 (on.1 5)) fun x6 => Option.bind (lp_X4_odds_42 i0 x6 oo on 1000 0 0 x5 odw odp) fun z7 => Option.bind (f_X4_power 10 x6) fun x10 => Option.bind (f_X4_inLowestTerms ((z7.1 : Int32).toInt64) x10.toInt64 i1) fun x11 => some (((x11 : Int64).toInt32), z7.2.2.1, z7.2.2.2.1, z7.2.2.2.2) else some ((-1), od, odw, odp)
set_option maxHeartbeats 4000000 in
set_option maxRecDepth 100000 in
theorem c_X4_odds (l : Launch) (D : va_G) (cI cZ cS : ClassId) (a : Nat) (q : Nat → Nat) (qN : Nat → Nat) (qD : Nat → Nat) (i0 : Int32) (i1 : Int32) (oo : OS) (on : OS) (od : OS) (odw : OS) (odp : OS) (x : (Int32 × OS × OS × OS)) (hf : f_X4_odds i0 i1 oo on od odw odp = some x) : Ct l yX4_odds cX4_odds 8 (some .int) 5 114 D cI cZ cS [.ref a, .int i0, .int i1] (bX4 cI cZ a q oo ++ (bX3 cI (q 0) qN on ++ (bX0 cI (q 12) qD od ++ (bX1 (qD 13) odw ++ bX1 (qD 14) odp)))) (some (.int x.1)) (bX4 cI cZ a q oo ++ (bX3 cI (q 0) qN on ++ (bX0 cI (q 12) qD x.2.1 ++ (bX1 (qD 13) x.2.2.1 ++ bX1 (qD 14) x.2.2.2)))) := by
  intro sz
  refine Met.ofW (cc := cX4_odds) (maxL := 8) (ret := (some .int)) (by decide +kernel) rfl ?_
  intro p e s m args below meth c s₁ B hml hv
  obtain ⟨rfl, hsz, hP, hK, hD0⟩ := hv
  have hx := B.exec
  have hb := B.bytes
  have hr := B.returns
  have hts0 := atoms_spec (ws := .code yX4_odds cX4_odds 8 (some .int) :: TB) B.pre
  have hts := fun w (h : w ∈ TB) => hts0 w (List.mem_cons_of_mem _ h)
  have hown : s.vm.findClass RX4 = some m.cls := findClass_of_methodNamed B.named
  have hlocks := B.notSynchronized
  subst hsz
  have hD := hD0.self (sz := s.heap.size)
  generalize hAe : va_A (bX4 cI cZ a q oo ++ (bX3 cI (q 0) qN on ++ (bX0 cI (q 12) qD od ++ (bX1 (qD 13) odw ++ bX1 (qD 14) odp)))) s.heap.size = A at hD ⊢
  have hA : ∀ q : Nat, s.heap.size ≤ q → A q := fun q h => by rw [← hAe]; exact Or.inr h
  have hS : va_S A s.heap s.heap [] := va_S.rf
  obtain ⟨H, hH⟩ : ∃ H, H = s.heap := ⟨_, rfl⟩
  rw [← hH] at hP
  have hS : va_S A s.heap H [] := by rw [hH]; exact hS
  have hl := lv_entry ([.ref a, .int i0, .int i1]) (n := 8) (Nat.le_of_ble_eq_true rfl)
  rw [lg_entry_eq]
  generalize (lg_sl ([.ref a, .int i0, .int i1]) ++ List.replicate (8 - (lg_sl ([.ref a, .int i0, .int i1])).length) Slot.unset).toArray = ls at hl ⊢
  have hl : lv_has ls 8 [(0, .ref a), (1, .int i0), (2, .int i1)] := hl
  refine W_heap hH ?_
  obtain ⟨locs, hlo⟩ : ∃ locs : List Loc, locs = [] := ⟨_, rfl⟩
  rw [← hlo] at hS ⊢
  unfold f_X4_odds at hf
  refine lv_iload_n (pc := 0) hx hb dX4_odds_0 rfl (lv_at hl 1 rfl) ?_
  refine lv_if_lt (pc := 1) (tgt := 19) hx hb dX4_odds_1 (by decide) (fun c1 => ?_) (fun c1 => ?_)
  · replace hf := ip c1 hf
    refine lv_iconst (v := -1) (pc := 19) hx hb dX4_odds_19 (by decide) ?_
    obtain rfl := Option.some.inj hf
    exact W.iret hx hb hr (fun t ht hW => ⟨rfl, by rw [ht]; exact hP, hD, hS.F ht⟩) hS.2.2 dX4_odds_20
  · replace hf := im c1 hf
    refine lv_iload_n (pc := 4) hx hb dX4_odds_4 rfl (lv_at hl 1 rfl) ?_
    refine lv_bipush (v := 10) (pc := 5) hx hb dX4_odds_5 (by decide) ?_
    refine lv_icmp_gt (pc := 7) (tgt := 19) hx hb dX4_odds_7 (by decide) (fun c2 => ?_) (fun c2 => ?_)
    · replace hf := ip c2 hf
      refine lv_iconst (v := -1) (pc := 19) hx hb dX4_odds_19 (by decide) ?_
      obtain rfl := Option.some.inj hf
      exact W.iret hx hb hr (fun t ht hW => ⟨rfl, by rw [ht]; exact hP, hD, hS.F ht⟩) hS.2.2 dX4_odds_20
    · replace hf := im c2 hf
      refine lv_iload_n (pc := 10) hx hb dX4_odds_10 rfl (lv_at hl 2 rfl) ?_
      refine lv_if_lt (pc := 11) (tgt := 19) hx hb dX4_odds_11 (by decide) (fun c3 => ?_) (fun c3 => ?_)
      · replace hf := ip c3 hf
        refine lv_iconst (v := -1) (pc := 19) hx hb dX4_odds_19 (by decide) ?_
        obtain rfl := Option.some.inj hf
        exact W.iret hx hb hr (fun t ht hW => ⟨rfl, by rw [ht]; exact hP, hD, hS.F ht⟩) hS.2.2 dX4_odds_20
      · replace hf := im c3 hf
        refine lv_iload_n (pc := 14) hx hb dX4_odds_14 rfl (lv_at hl 2 rfl) ?_
        refine lv_iconst (v := 1) (pc := 15) hx hb dX4_odds_15 (by decide) ?_
        refine lv_icmp_le (pc := 16) (tgt := 21) hx hb dX4_odds_16 (by decide) (fun c4 => ?_) (fun c4 => ?_)
        · replace hf := ip c4 hf
          refine lv_aload_n (pc := 21) hx hb dX4_odds_21 rfl (lv_at hl 0 rfl) ?_
          obtain ⟨x5, ex5, hf⟩ := bd_some hf
          refine ct_V (pc := 22) (As := []) (rest := []) (wr := bX1 (qD 13) odw ++ bX1 (qD 14) odp) (W1 := bX4 cI cZ a q oo ++ (bX3 cI (q 0) qN on ++ (bX0 cI (q 12) qD x5 ++ (bX1 (qD 13) odw ++ bX1 (qD 14) odp)))) ⟨hx, hb, hml, hown, hts⟩ hK (c_X4_takePresent l D cI cZ cS a q qN qD oo on od x5 ex5) gv_RX4_230 rfl hs_X4_takePresent rfl ⟨Nat.le_of_ble_eq_true rfl, Nat.le_of_ble_eq_true rfl⟩ (ci := 4) (q0 := 0) rfl rfl rfl hl.1 rfl (Nat.le_of_ble_eq_true rfl) dX4_odds_22 ⟨Nat.zero_le _, Nat.zero_le _⟩ hP hD hS hA [0, 1, 2, 3, 4, 5, 6, 7, 8, 9, 10, 11, 12, 13, 14, 15, 16, 17] [18, 19] [2, 3, 4, 5, 6, 7, 8, 9, 10, 11, 12, 13, 14, 15, 16, 17, 18, 19, 0, 1] rfl rfl (by decide +kernel) (by decide +kernel) (by decide +kernel) (by decide +kernel) rfl (fun H locs hP hD hS => ?_)
          refine lv_aload_n (pc := 25) hx hb dX4_odds_25 rfl (lv_at hl 0 rfl) ?_
          refine va_get (pc := 26) (D := D) (ci := 4) (v := .ref (q 0)) (C := RX4) (T := TX4) (N := 13) hx hb hts iX4 hown hK.1 hP 0 rfl rfl 0 (by decide) (hts _ fl_RX4_12) (fun _ h => h) rfl dX4_odds_26 ?_
          refine va_getN (pc := 29) (D := D) (ci := 3) (v := .int (on.1 5)) (C := RX3) (T := TX3) (N := 12) hx hb hts iX3 hown hK.1 hP 5 rfl rfl 5 (by decide) (va_Nw.use rfl (hK.2 _ nf_RX4_105)) (fun _ h => h) rfl dX4_odds_29 ?_
          obtain ⟨x6, ex6, hf⟩ := bd_some hf
          refine ct_S0 (pc := 32) (As := [.int (on.1 5)]) (rest := []) ⟨hx, hb, hml, hown, hts⟩ hK (c_J6_bitCount_0f7a4 l D cI cZ cS (on.1 5) x6 ex6) gs_RX4_108 hs_J6_bitCount_0f7a4 rfl ⟨Nat.le_of_ble_eq_true rfl, Nat.le_of_ble_eq_true rfl⟩ hl.1 rfl (Nat.le_of_ble_eq_true rfl) dX4_odds_32 ⟨Nat.zero_le _, Nat.zero_le _⟩ hP hS hA (fun H locs hP hS => ?_)
          refine lv_istore_n (lv' := [(3, .int x6), (0, .ref a), (1, .int i0), (2, .int i1)]) (pc := 35) hx hb dX4_odds_35 rfl hl (by decide) rfl (fun ls hl => ?_)
          refine lv_iconst (v := 0) (pc := 36) hx hb dX4_odds_36 (by decide) ?_
          refine lv_istore (lv' := [(4, .int 0), (3, .int x6), (0, .ref a), (1, .int i0), (2, .int i1)]) (pc := 37) hx hb dX4_odds_37 hl (by decide) rfl (fun ls hl => ?_)
          refine lv_iconst (v := 0) (pc := 39) hx hb dX4_odds_39 (by decide) ?_
          refine lv_istore (lv' := [(5, .int 0), (4, .int 0), (3, .int x6), (0, .ref a), (1, .int i0), (2, .int i1)]) (pc := 40) hx hb dX4_odds_40 hl (by decide) rfl (fun ls hl => ?_)
          obtain ⟨z7, hz7, hf⟩ := bd_some hf
          have hfz7 := hf
          clear hf
          have K8 : ∀ (H : Heap) (locs : List Loc) (ls : Array Slot), va_P D vwCl (bX4 cI cZ a q oo ++ (bX3 cI (q 0) qN on ++ (bX0 cI (q 12) qD z7.2.2.1 ++ (bX1 (qD 13) z7.2.2.2.1 ++ bX1 (qD 14) z7.2.2.2.2)))) H → va_D A (bX4 cI cZ a q oo ++ (bX3 cI (q 0) qN on ++ (bX0 cI (q 12) qD z7.2.2.1 ++ (bX1 (qD 13) z7.2.2.2.1 ++ bX1 (qD 14) z7.2.2.2.2)))) → va_S A s.heap H locs → lv_has ls 8 [(0, .ref a), (1, .int i0), (2, .int i1), (3, .int x6), (4, .int z7.1), (5, .int z7.2.1)] → GW l yX4_odds cX4_odds 8 (some .int) 5 114 D [.ref a, .int i0, .int i1] (some (.int x.1)) (bX4 cI cZ a q oo ++ (bX3 cI (q 0) qN on ++ (bX0 cI (q 12) qD x.2.1 ++ (bX1 (qD 13) x.2.2.1 ++ bX1 (qD 14) x.2.2.2)))) A p e s m below meth c H locs (F0 m 122 ls []) := by
            intro H locs ls hP hD hS hl
            have hf := hfz7
            refine lv_iload (pc := 122) hx hb dX4_odds_122 (lv_at hl 4 rfl) ?_
            refine lv_i2l (pc := 124) hx hb dX4_odds_124 rfl ?_
            refine lv_bipush (v := 10) (pc := 125) hx hb dX4_odds_125 (by decide) ?_
            refine lv_iload_n (pc := 127) hx hb dX4_odds_127 rfl (lv_at hl 3 rfl) ?_
            obtain ⟨x10, ex10, hf⟩ := bd_some hf
            refine ct_S0 (pc := 128) (As := [.int 10, .int x6]) (rest := [.long ((z7.1 : Int32).toInt64)]) ⟨hx, hb, hml, hown, hts⟩ hK (c_X4_power l D cI cZ cS 10 x6 x10 ex10) gs_RX4_253 hs_X4_power rfl ⟨Nat.le_of_ble_eq_true rfl, Nat.le_of_ble_eq_true rfl⟩ hl.1 rfl (Nat.le_of_ble_eq_true rfl) dX4_odds_128 ⟨Nat.zero_le _, Nat.zero_le _⟩ hP hS hA (fun H locs hP hS => ?_)
            refine lv_i2l (pc := 131) hx hb dX4_odds_131 rfl ?_
            refine lv_iload_n (pc := 132) hx hb dX4_odds_132 rfl (lv_at hl 2 rfl) ?_
            obtain ⟨x11, ex11, hf⟩ := bd_some hf
            refine ct_S0 (pc := 133) (As := [.long ((z7.1 : Int32).toInt64), .long x10.toInt64, .int i1]) (rest := []) ⟨hx, hb, hml, hown, hts⟩ hK (c_X4_inLowestTerms l D cI cZ cS ((z7.1 : Int32).toInt64) x10.toInt64 i1 x11 ex11) gs_RX4_190 hs_X4_inLowestTerms rfl ⟨Nat.le_of_ble_eq_true rfl, Nat.le_of_ble_eq_true rfl⟩ hl.1 rfl (Nat.le_of_ble_eq_true rfl) dX4_odds_133 ⟨Nat.zero_le _, Nat.zero_le _⟩ hP hS hA (fun H locs hP hS => ?_)
            refine lv_l2i (pc := 136) hx hb dX4_odds_136 rfl ?_
            obtain rfl := Option.some.inj hf
            exact W.iret hx hb hr (fun t ht hW => ⟨rfl, by rw [ht]; exact hP, hD, hS.F ht⟩) hS.2.2 dX4_odds_137
          have KL9 : ∀ (n : Nat) (v4 : Int32) (v5 : Int32) (w_D : OS) (w_DW : OS) (w_DP : OS) (H : Heap) (locs : List Loc) (ls : Array Slot), lp_X4_odds_42 i0 x6 oo on n v4 v5 w_D w_DW w_DP = some z7 → va_P D vwCl (bX4 cI cZ a q oo ++ (bX3 cI (q 0) qN on ++ (bX0 cI (q 12) qD w_D ++ (bX1 (qD 13) w_DW ++ bX1 (qD 14) w_DP)))) H → va_D A (bX4 cI cZ a q oo ++ (bX3 cI (q 0) qN on ++ (bX0 cI (q 12) qD w_D ++ (bX1 (qD 13) w_DW ++ bX1 (qD 14) w_DP)))) → va_S A s.heap H locs → lv_has ls 8 [(0, .ref a), (1, .int i0), (2, .int i1), (3, .int x6), (4, .int v4), (5, .int v5)] → GW l yX4_odds cX4_odds 8 (some .int) 5 114 D [.ref a, .int i0, .int i1] (some (.int x.1)) (bX4 cI cZ a q oo ++ (bX3 cI (q 0) qN on ++ (bX0 cI (q 12) qD x.2.1 ++ (bX1 (qD 13) x.2.2.1 ++ bX1 (qD 14) x.2.2.2)))) A p e s m below meth c H locs (F0 m 42 ls []) := by
            intro n
            induction n with
            | zero => intro v4 v5 w_D w_DW w_DP H locs ls hf; cases hf
            | succ n ih =>
              intro v4 v5 w_D w_DW w_DP H locs ls hf hP hD hS hl
              rw [lp_X4_odds_42] at hf
              refine lv_iload (pc := 42) hx hb dX4_odds_42 (lv_at hl 5 rfl) ?_
              refine lv_sipush (v := 256) (pc := 44) hx hb dX4_odds_44 (by decide) ?_
              refine lv_icmp_ge (pc := 47) (tgt := 122) hx hb dX4_odds_47 (by decide) (fun c12 => ?_) (fun c12 => ?_)
              · replace hf := ip c12 hf
                obtain rfl := Option.some.inj hf
                exact K8 H locs ls hP hD hS (lv_sub hl [0, 1, 2, 3, 4, 5] rfl)
              · replace hf := im c12 hf
                refine lv_iload (pc := 50) hx hb dX4_odds_50 (lv_at hl 5 rfl) ?_
                refine lv_aload_n (pc := 52) hx hb dX4_odds_52 rfl (lv_at hl 0 rfl) ?_
                refine va_get (pc := 53) (D := D) (ci := 4) (v := .ref (q 0)) (C := RX4) (T := TX4) (N := 13) hx hb hts iX4 hown hK.1 hP 0 rfl rfl 0 (by decide) (hts _ fl_RX4_12) (fun _ h => h) rfl dX4_odds_53 ?_
                refine va_getN (pc := 56) (D := D) (ci := 3) (v := .int (on.1 5)) (C := RX3) (T := TX3) (N := 12) hx hb hts iX3 hown hK.1 hP 5 rfl rfl 5 (by decide) (va_Nw.use rfl (hK.2 _ nf_RX4_105)) (fun _ h => h) rfl dX4_odds_56 ?_
                refine lv_iconst (v := -1) (pc := 59) hx hb dX4_odds_59 (by decide) ?_
                refine lv_ixor (pc := 60) hx hb dX4_odds_60 ?_
                refine lv_iand (pc := 61) hx hb dX4_odds_61 ?_
                refine lv_if_eq (pc := 62) (tgt := 68) hx hb dX4_odds_62 (by decide) (fun c13 => ?_) (fun c13 => ?_)
                · replace hf := ip c13 hf
                  refine lv_iload (pc := 68) hx hb dX4_odds_68 (lv_at hl 5 rfl) ?_
                  obtain ⟨x14, ex14, hf⟩ := bd_some hf
                  refine ct_S0 (pc := 70) (As := [.int v5]) (rest := []) ⟨hx, hb, hml, hown, hts⟩ hK (c_J6_bitCount_0f7a4 l D cI cZ cS v5 x14 ex14) gs_RX4_108 hs_J6_bitCount_0f7a4 rfl ⟨Nat.le_of_ble_eq_true rfl, Nat.le_of_ble_eq_true rfl⟩ hl.1 rfl (Nat.le_of_ble_eq_true rfl) dX4_odds_70 ⟨Nat.zero_le _, Nat.zero_le _⟩ hP hS hA (fun H locs hP hS => ?_)
                  refine lv_istore (lv' := [(6, .int x14), (0, .ref a), (1, .int i0), (2, .int i1), (3, .int x6), (4, .int v4), (5, .int v5)]) (pc := 73) hx hb dX4_odds_73 hl (by decide) rfl (fun ls hl => ?_)
                  refine lv_bipush (v := 10) (pc := 75) hx hb dX4_odds_75 (by decide) ?_
                  refine lv_iload_n (pc := 77) hx hb dX4_odds_77 rfl (lv_at hl 2 rfl) ?_
                  refine lv_isub (pc := 78) hx hb dX4_odds_78 ?_
                  refine lv_iload (pc := 79) hx hb dX4_odds_79 (lv_at hl 0 rfl) ?_
                  obtain ⟨x15, ex15, hf⟩ := bd_some hf
                  refine ct_S0 (pc := 81) (As := [.int (10 - i0), .int x14]) (rest := []) ⟨hx, hb, hml, hown, hts⟩ hK (c_X4_power l D cI cZ cS (10 - i0) x14 x15 ex15) gs_RX4_253 hs_X4_power rfl ⟨Nat.le_of_ble_eq_true rfl, Nat.le_of_ble_eq_true rfl⟩ hl.1 rfl (Nat.le_of_ble_eq_true rfl) dX4_odds_81 ⟨Nat.zero_le _, Nat.zero_le _⟩ hP hS hA (fun H locs hP hS => ?_)
                  refine lv_iload_n (pc := 84) hx hb dX4_odds_84 rfl (lv_at hl 2 rfl) ?_
                  refine lv_iload_n (pc := 85) hx hb dX4_odds_85 rfl (lv_at hl 4 rfl) ?_
                  refine lv_iload (pc := 86) hx hb dX4_odds_86 (lv_at hl 0 rfl) ?_
                  refine lv_isub (pc := 88) hx hb dX4_odds_88 ?_
                  obtain ⟨x16, ex16, hf⟩ := bd_some hf
                  refine ct_S0 (pc := 89) (As := [.int i0, .int (x6 - x14)]) (rest := [.int x15]) ⟨hx, hb, hml, hown, hts⟩ hK (c_X4_power l D cI cZ cS i0 (x6 - x14) x16 ex16) gs_RX4_253 hs_X4_power rfl ⟨Nat.le_of_ble_eq_true rfl, Nat.le_of_ble_eq_true rfl⟩ hl.1 rfl (Nat.le_of_ble_eq_true rfl) dX4_odds_89 ⟨Nat.zero_le _, Nat.zero_le _⟩ hP hS hA (fun H locs hP hS => ?_)
                  refine lv_imul (pc := 92) hx hb dX4_odds_92 ?_
                  refine lv_istore (lv' := [(7, .int (x15 * x16)), (6, .int x14), (0, .ref a), (1, .int i0), (2, .int i1), (3, .int x6), (4, .int v4), (5, .int v5)]) (pc := 93) hx hb dX4_odds_93 hl (by decide) rfl (fun ls hl => ?_)
                  refine lv_iload (pc := 95) hx hb dX4_odds_95 (lv_at hl 0 rfl) ?_
                  refine lv_if_le (pc := 97) (tgt := 116) hx hb dX4_odds_97 (by decide) (fun c17 => ?_) (fun c17 => ?_)
                  · replace hf := ip c17 hf
                    refine lv_iinc (v := (v5 + 1)) (lv' := [(5, .int (v5 + 1)), (7, .int (x15 * x16)), (6, .int x14), (0, .ref a), (1, .int i0), (2, .int i1), (3, .int x6), (4, .int v4)]) (pc := 116) hx hb dX4_odds_116 hl (k := 7) rfl rfl (by decide) rfl (fun ls hl => ?_)
                    refine lv_goto (pc := 119) (tgt := 42) hx hb dX4_odds_119 (by decide) ?_
                    exact ih _ _ _ _ _ H locs ls hf hP hD hS (lv_sub hl [3, 4, 5, 6, 7, 0] rfl)
                  · replace hf := im c17 hf
                    refine lv_aload_n (pc := 100) hx hb dX4_odds_100 rfl (lv_at hl 2 rfl) ?_
                    refine lv_iload (pc := 101) hx hb dX4_odds_101 (lv_at hl 7 rfl) ?_
                    obtain ⟨x18, ex18, hf⟩ := bd_some hf
                    refine ct_V (pc := 103) (As := [.int v5]) (rest := []) (wr := bX3 cI (q 0) qN on) (W1 := bX4 cI cZ a q oo ++ (bX3 cI (q 0) qN on ++ (bX0 cI (q 12) qD x18.2.1 ++ (bX1 (qD 13) x18.2.2.1 ++ bX1 (qD 14) x18.2.2.2)))) ⟨hx, hb, hml, hown, hts⟩ hK (c_X4_standsOn l D cI cZ cS a q qD v5 oo w_D w_DW w_DP x18 ex18) gv_RX4_257 rfl hs_X4_standsOn rfl ⟨Nat.le_of_ble_eq_true rfl, Nat.le_of_ble_eq_true rfl⟩ (ci := 4) (q0 := 0) rfl rfl rfl hl.1 rfl (Nat.le_of_ble_eq_true rfl) dX4_odds_103 ⟨Nat.zero_le _, Nat.zero_le _⟩ hP hD hS hA [0, 1, 2, 3, 4, 13, 14, 15, 16, 17, 18, 19] [5, 6, 7, 8, 9, 10, 11, 12] [8, 9, 10, 11, 12, 0, 1, 2, 3, 4, 5, 6, 7, 13, 14, 15, 16, 17, 18, 19] rfl rfl (by decide +kernel) (by decide +kernel) (by decide +kernel) (by decide +kernel) rfl (fun H locs hP hD hS => ?_)
                    refine lv_if_eq (pc := 106) (tgt := 116) hx hb dX4_odds_106 (by decide) (fun c19 => ?_) (fun c19 => ?_)
                    · replace hf := ip c19 hf
                      refine lv_iinc (v := (v5 + 1)) (lv' := [(5, .int (v5 + 1)), (7, .int (x15 * x16)), (6, .int x14), (0, .ref a), (1, .int i0), (2, .int i1), (3, .int x6), (4, .int v4)]) (pc := 116) hx hb dX4_odds_116 hl (k := 7) rfl rfl (by decide) rfl (fun ls hl => ?_)
                      refine lv_goto (pc := 119) (tgt := 42) hx hb dX4_odds_119 (by decide) ?_
                      exact ih _ _ _ _ _ H locs ls hf hP hD hS (lv_sub hl [3, 4, 5, 6, 7, 0] rfl)
                    · replace hf := im c19 hf
                      refine lv_iload (pc := 109) hx hb dX4_odds_109 (lv_at hl 6 rfl) ?_
                      refine lv_iload (pc := 111) hx hb dX4_odds_111 (lv_at hl 0 rfl) ?_
                      refine lv_iadd (pc := 113) hx hb dX4_odds_113 ?_
                      refine lv_istore (lv' := [(4, .int (v4 + (x15 * x16))), (7, .int (x15 * x16)), (6, .int x14), (0, .ref a), (1, .int i0), (2, .int i1), (3, .int x6), (5, .int v5)]) (pc := 114) hx hb dX4_odds_114 hl (by decide) rfl (fun ls hl => ?_)
                      refine lv_iinc (v := (v5 + 1)) (lv' := [(5, .int (v5 + 1)), (4, .int (v4 + (x15 * x16))), (7, .int (x15 * x16)), (6, .int x14), (0, .ref a), (1, .int i0), (2, .int i1), (3, .int x6)]) (pc := 116) hx hb dX4_odds_116 hl (k := 7) rfl rfl (by decide) rfl (fun ls hl => ?_)
                      refine lv_goto (pc := 119) (tgt := 42) hx hb dX4_odds_119 (by decide) ?_
                      exact ih _ _ _ _ _ H locs ls hf hP hD hS (lv_sub hl [4, 5, 6, 7, 1, 0] rfl)
                · replace hf := im c13 hf
                  refine lv_goto (pc := 65) (tgt := 116) hx hb dX4_odds_65 (by decide) ?_
                  refine lv_iinc (v := (v5 + 1)) (lv' := [(5, .int (v5 + 1)), (0, .ref a), (1, .int i0), (2, .int i1), (3, .int x6), (4, .int v4)]) (pc := 116) hx hb dX4_odds_116 hl (k := 5) rfl rfl (by decide) rfl (fun ls hl => ?_)
                  refine lv_goto (pc := 119) (tgt := 42) hx hb dX4_odds_119 (by decide) ?_
                  exact ih _ _ _ _ _ H locs ls hf hP hD hS (lv_sub hl [1, 2, 3, 4, 5, 0] rfl)
          exact KL9 1000 _ _ _ _ _ H locs ls hz7 hP hD hS (lv_sub hl [3, 4, 5, 2, 1, 0] rfl)
        · replace hf := im c4 hf
          refine lv_iconst (v := -1) (pc := 19) hx hb dX4_odds_19 (by decide) ?_
          obtain rfl := Option.some.inj hf
          exact W.iret hx hb hr (fun t ht hW => ⟨rfl, by rw [ht]; exact hP, hD, hS.F ht⟩) hS.2.2 dX4_odds_20
def f_X4_dropSights (oo : OS) : Option (Int32 × OS) := lt (sI oo 10 0) fun o1 => some ((oo.1 10), o1)
set_option maxHeartbeats 4000000 in
set_option maxRecDepth 100000 in
theorem c_X4_dropSights (l : Launch) (D : va_G) (cI cZ cS : ClassId) (a : Nat) (q : Nat → Nat) (oo : OS) (x : (Int32 × OS)) (hf : f_X4_dropSights oo = some x) : Ct l yX4_dropSights cX4_dropSights 2 (some .int) 0 0 D cI cZ cS [.ref a] (bX4 cI cZ a q oo) (some (.int x.1)) (bX4 cI cZ a q x.2) := by
  intro sz
  refine Met.ofW (cc := cX4_dropSights) (maxL := 2) (ret := (some .int)) (by decide +kernel) rfl ?_
  intro p e s m args below meth c s₁ B hml hv
  obtain ⟨rfl, hsz, hP, hK, hD0⟩ := hv
  have hx := B.exec
  have hb := B.bytes
  have hr := B.returns
  have hts0 := atoms_spec (ws := .code yX4_dropSights cX4_dropSights 2 (some .int) :: TB) B.pre
  have hts := fun w (h : w ∈ TB) => hts0 w (List.mem_cons_of_mem _ h)
  have hown : s.vm.findClass RX4 = some m.cls := findClass_of_methodNamed B.named
  have hlocks := B.notSynchronized
  subst hsz
  have hD := hD0.self (sz := s.heap.size)
  generalize hAe : va_A (bX4 cI cZ a q oo) s.heap.size = A at hD ⊢
  have hA : ∀ q : Nat, s.heap.size ≤ q → A q := fun q h => by rw [← hAe]; exact Or.inr h
  have hS : va_S A s.heap s.heap [] := va_S.rf
  obtain ⟨H, hH⟩ : ∃ H, H = s.heap := ⟨_, rfl⟩
  rw [← hH] at hP
  have hS : va_S A s.heap H [] := by rw [hH]; exact hS
  have hl := lv_entry ([.ref a]) (n := 2) (Nat.le_of_ble_eq_true rfl)
  rw [lg_entry_eq]
  generalize (lg_sl ([.ref a]) ++ List.replicate (2 - (lg_sl ([.ref a])).length) Slot.unset).toArray = ls at hl ⊢
  have hl : lv_has ls 2 [(0, .ref a)] := hl
  refine W_heap hH ?_
  obtain ⟨locs, hlo⟩ : ∃ locs : List Loc, locs = [] := ⟨_, rfl⟩
  rw [← hlo] at hS ⊢
  unfold f_X4_dropSights at hf
  refine lv_aload_n (pc := 0) hx hb dX4_dropSights_0 rfl (lv_at hl 0 rfl) ?_
  refine va_get (pc := 1) (D := D) (ci := 4) (v := .int (oo.1 10)) (C := RX4) (T := TX4) (N := 13) hx hb hts iX4 hown hK.1 hP 0 rfl rfl 10 (by decide) (hts _ fl_RX4_76) (fun _ h => h) rfl dX4_dropSights_1 ?_
  refine lv_istore_n (lv' := [(1, .int (oo.1 10)), (0, .ref a)]) (pc := 4) hx hb dX4_dropSights_4 rfl hl (by decide) rfl (fun ls hl => ?_)
  refine lv_aload_n (pc := 5) hx hb dX4_dropSights_5 rfl (lv_at hl 1 rfl) ?_
  refine lv_iconst (v := 0) (pc := 6) hx hb dX4_dropSights_6 (by decide) ?_
  obtain ⟨o1, eo1, hf⟩ := lt_some hf
  refine va_put (pc := 7) (D := D) (ci := 4) (v := .int 0) (ty := .int) (C := RX4) (T := TX4) (N := 13) hx hb hts iX4 tyX4 tyX4_ok nmX4 hown hK.1 hP hD hS 0 rfl rfl 10 (by decide) (hts _ fl_RX4_76) (fun _ h => h) rfl (tyX4_ok 10 (by decide)) rfl rfl (Nat.le_of_ble_eq_true rfl) dX4_dropSights_7 (fun H locs hP hD hS => ?_)
  replace hP : va_P D vwCl (bX4 cI cZ a q o1) H := by rw [eo1]; exact hP
  replace hD : va_D A (bX4 cI cZ a q o1) := by rw [eo1]; exact hD
  refine lv_iload_n (pc := 10) hx hb dX4_dropSights_10 rfl (lv_at hl 0 rfl) ?_
  obtain rfl := Option.some.inj hf
  exact W.iret hx hb hr (fun t ht hW => ⟨rfl, by rw [ht]; exact hP, hD, hS.F ht⟩) hS.2.2 dX4_dropSights_11
def f_X4_hunts (i0 : Int32) (oo : OS) : Option (Int32 × OS) := if i0 < 1 then some ((-1), oo) else if i0 ≤ 99 then lt (sI oo 7 i0) fun o3 => Option.bind (f_X4_dropSights o3) fun x4 => some (x4.1, x4.2) else some ((-1), oo)
set_option maxHeartbeats 4000000 in
set_option maxRecDepth 100000 in
theorem c_X4_hunts (l : Launch) (D : va_G) (cI cZ cS : ClassId) (a : Nat) (q : Nat → Nat) (i0 : Int32) (oo : OS) (x : (Int32 × OS)) (hf : f_X4_hunts i0 oo = some x) : Ct l yX4_hunts cX4_hunts 2 (some .int) 1 21 D cI cZ cS [.ref a, .int i0] (bX4 cI cZ a q oo) (some (.int x.1)) (bX4 cI cZ a q x.2) := by
  intro sz
  refine Met.ofW (cc := cX4_hunts) (maxL := 2) (ret := (some .int)) (by decide +kernel) rfl ?_
  intro p e s m args below meth c s₁ B hml hv
  obtain ⟨rfl, hsz, hP, hK, hD0⟩ := hv
  have hx := B.exec
  have hb := B.bytes
  have hr := B.returns
  have hts0 := atoms_spec (ws := .code yX4_hunts cX4_hunts 2 (some .int) :: TB) B.pre
  have hts := fun w (h : w ∈ TB) => hts0 w (List.mem_cons_of_mem _ h)
  have hown : s.vm.findClass RX4 = some m.cls := findClass_of_methodNamed B.named
  have hlocks := B.notSynchronized
  subst hsz
  have hD := hD0.self (sz := s.heap.size)
  generalize hAe : va_A (bX4 cI cZ a q oo) s.heap.size = A at hD ⊢
  have hA : ∀ q : Nat, s.heap.size ≤ q → A q := fun q h => by rw [← hAe]; exact Or.inr h
  have hS : va_S A s.heap s.heap [] := va_S.rf
  obtain ⟨H, hH⟩ : ∃ H, H = s.heap := ⟨_, rfl⟩
  rw [← hH] at hP
  have hS : va_S A s.heap H [] := by rw [hH]; exact hS
  have hl := lv_entry ([.ref a, .int i0]) (n := 2) (Nat.le_of_ble_eq_true rfl)
  rw [lg_entry_eq]
  generalize (lg_sl ([.ref a, .int i0]) ++ List.replicate (2 - (lg_sl ([.ref a, .int i0])).length) Slot.unset).toArray = ls at hl ⊢
  have hl : lv_has ls 2 [(0, .ref a), (1, .int i0)] := hl
  refine W_heap hH ?_
  obtain ⟨locs, hlo⟩ : ∃ locs : List Loc, locs = [] := ⟨_, rfl⟩
  rw [← hlo] at hS ⊢
  unfold f_X4_hunts at hf
  refine lv_iload_n (pc := 0) hx hb dX4_hunts_0 rfl (lv_at hl 1 rfl) ?_
  refine lv_iconst (v := 1) (pc := 1) hx hb dX4_hunts_1 (by decide) ?_
  refine lv_icmp_lt (pc := 2) (tgt := 11) hx hb dX4_hunts_2 (by decide) (fun c1 => ?_) (fun c1 => ?_)
  · replace hf := ip c1 hf
    refine lv_iconst (v := -1) (pc := 11) hx hb dX4_hunts_11 (by decide) ?_
    obtain rfl := Option.some.inj hf
    exact W.iret hx hb hr (fun t ht hW => ⟨rfl, by rw [ht]; exact hP, hD, hS.F ht⟩) hS.2.2 dX4_hunts_12
  · replace hf := im c1 hf
    refine lv_iload_n (pc := 5) hx hb dX4_hunts_5 rfl (lv_at hl 1 rfl) ?_
    refine lv_bipush (v := 99) (pc := 6) hx hb dX4_hunts_6 (by decide) ?_
    refine lv_icmp_le (pc := 8) (tgt := 13) hx hb dX4_hunts_8 (by decide) (fun c2 => ?_) (fun c2 => ?_)
    · replace hf := ip c2 hf
      refine lv_aload_n (pc := 13) hx hb dX4_hunts_13 rfl (lv_at hl 0 rfl) ?_
      refine lv_iload_n (pc := 14) hx hb dX4_hunts_14 rfl (lv_at hl 1 rfl) ?_
      obtain ⟨o3, eo3, hf⟩ := lt_some hf
      refine va_put (pc := 15) (D := D) (ci := 4) (v := .int i0) (ty := .int) (C := RX4) (T := TX4) (N := 13) hx hb hts iX4 tyX4 tyX4_ok nmX4 hown hK.1 hP hD hS 0 rfl rfl 7 (by decide) (hts _ fl_RX4_37) (fun _ h => h) rfl (tyX4_ok 7 (by decide)) rfl rfl (Nat.le_of_ble_eq_true rfl) dX4_hunts_15 (fun H locs hP hD hS => ?_)
      replace hP : va_P D vwCl (bX4 cI cZ a q o3) H := by rw [eo3]; exact hP
      replace hD : va_D A (bX4 cI cZ a q o3) := by rw [eo3]; exact hD
      refine lv_aload_n (pc := 18) hx hb dX4_hunts_18 rfl (lv_at hl 0 rfl) ?_
      obtain ⟨x4, ex4, hf⟩ := bd_some hf
      refine ct_V1 (pc := 19) (As := []) (rest := []) (W1 := bX4 cI cZ a q x4.2) ⟨hx, hb, hml, hown, hts⟩ hK (c_X4_dropSights l D cI cZ cS a q o3 x4 ex4) gv_RX4_260 rfl hs_X4_dropSights rfl ⟨Nat.le_of_ble_eq_true rfl, Nat.le_of_ble_eq_true rfl⟩ (ci := 4) (q0 := 0) rfl rfl rfl hl.1 rfl (Nat.le_of_ble_eq_true rfl) dX4_hunts_19 ⟨Nat.zero_le _, Nat.zero_le _⟩ hP hD hS hA (fun H locs hP hD hS => ?_)
      obtain rfl := Option.some.inj hf
      exact W.iret hx hb hr (fun t ht hW => ⟨rfl, by rw [ht]; exact hP, hD, hS.F ht⟩) hS.2.2 dX4_hunts_22
    · replace hf := im c2 hf
      refine lv_iconst (v := -1) (pc := 11) hx hb dX4_hunts_11 (by decide) ?_
      obtain rfl := Option.some.inj hf
      exact W.iret hx hb hr (fun t ht hW => ⟨rfl, by rw [ht]; exact hP, hD, hS.F ht⟩) hS.2.2 dX4_hunts_12
def f_X4_sees (i0 : Int32) (i1 : Int32) (oo : OS) (on : OS) : Option (Int32 × OS) := Option.bind (f_X4_isPile i0 oo on) fun x1 => if x1 = 0 then some ((-1), oo) else if i1 < 0 then some ((-1), oo) else if i1 ≤ 999 then if (oo.1 10) < 0 then some ((-3), oo) else if (oo.1 10) < 6 then ck (oo.1 10) 6 (lt (sA oo 8 (((oo.1 10) : Int32).toNatClampNeg) i0) fun o8 => ck (o8.1 10) 6 (lt (sA o8 9 (((o8.1 10) : Int32).toNatClampNeg) i1) fun o10 => lt (sI o10 10 ((o10.1 10) + 1)) fun o11 => some ((o11.1 10), o11))) else some ((-3), oo) else some ((-1), oo)
set_option maxHeartbeats 4000000 in
set_option maxRecDepth 100000 in
theorem c_X4_sees (l : Launch) (D : va_G) (cI cZ cS : ClassId) (a : Nat) (q : Nat → Nat) (qN : Nat → Nat) (i0 : Int32) (i1 : Int32) (oo : OS) (on : OS) (x : (Int32 × OS)) (hf : f_X4_sees i0 i1 oo on = some x) : Ct l yX4_sees cX4_sees 3 (some .int) 1 21 D cI cZ cS [.ref a, .int i0, .int i1] (bX4 cI cZ a q oo ++ bX3 cI (q 0) qN on) (some (.int x.1)) (bX4 cI cZ a q x.2 ++ bX3 cI (q 0) qN on) := by
  intro sz
  refine Met.ofW (cc := cX4_sees) (maxL := 3) (ret := (some .int)) (by decide +kernel) rfl ?_
  intro p e s m args below meth c s₁ B hml hv
  obtain ⟨rfl, hsz, hP, hK, hD0⟩ := hv
  have hx := B.exec
  have hb := B.bytes
  have hr := B.returns
  have hts0 := atoms_spec (ws := .code yX4_sees cX4_sees 3 (some .int) :: TB) B.pre
  have hts := fun w (h : w ∈ TB) => hts0 w (List.mem_cons_of_mem _ h)
  have hown : s.vm.findClass RX4 = some m.cls := findClass_of_methodNamed B.named
  have hlocks := B.notSynchronized
  subst hsz
  have hD := hD0.self (sz := s.heap.size)
  generalize hAe : va_A (bX4 cI cZ a q oo ++ bX3 cI (q 0) qN on) s.heap.size = A at hD ⊢
  have hA : ∀ q : Nat, s.heap.size ≤ q → A q := fun q h => by rw [← hAe]; exact Or.inr h
  have hS : va_S A s.heap s.heap [] := va_S.rf
  obtain ⟨H, hH⟩ : ∃ H, H = s.heap := ⟨_, rfl⟩
  rw [← hH] at hP
  have hS : va_S A s.heap H [] := by rw [hH]; exact hS
  have hl := lv_entry ([.ref a, .int i0, .int i1]) (n := 3) (Nat.le_of_ble_eq_true rfl)
  rw [lg_entry_eq]
  generalize (lg_sl ([.ref a, .int i0, .int i1]) ++ List.replicate (3 - (lg_sl ([.ref a, .int i0, .int i1])).length) Slot.unset).toArray = ls at hl ⊢
  have hl : lv_has ls 3 [(0, .ref a), (1, .int i0), (2, .int i1)] := hl
  refine W_heap hH ?_
  obtain ⟨locs, hlo⟩ : ∃ locs : List Loc, locs = [] := ⟨_, rfl⟩
  rw [← hlo] at hS ⊢
  unfold f_X4_sees at hf
  refine lv_aload_n (pc := 0) hx hb dX4_sees_0 rfl (lv_at hl 0 rfl) ?_
  refine lv_iload_n (pc := 1) hx hb dX4_sees_1 rfl (lv_at hl 1 rfl) ?_
  obtain ⟨x1, ex1, hf⟩ := bd_some hf
  refine ct_V1 (pc := 2) (As := [.int i0]) (rest := []) (W1 := bX4 cI cZ a q oo ++ bX3 cI (q 0) qN on) ⟨hx, hb, hml, hown, hts⟩ hK (c_X4_isPile l D cI cZ cS a q qN i0 oo on x1 ex1) gv_RX4_99 rfl hs_X4_isPile rfl ⟨Nat.le_of_ble_eq_true rfl, Nat.le_of_ble_eq_true rfl⟩ (ci := 4) (q0 := 0) rfl rfl rfl hl.1 rfl (Nat.le_of_ble_eq_true rfl) dX4_sees_2 ⟨Nat.zero_le _, Nat.zero_le _⟩ hP hD hS hA (fun H locs hP hD hS => ?_)
  refine lv_if_eq (pc := 5) (tgt := 19) hx hb dX4_sees_5 (by decide) (fun c2 => ?_) (fun c2 => ?_)
  · replace hf := ip c2 hf
    refine lv_iconst (v := -1) (pc := 19) hx hb dX4_sees_19 (by decide) ?_
    obtain rfl := Option.some.inj hf
    exact W.iret hx hb hr (fun t ht hW => ⟨rfl, by rw [ht]; exact hP, hD, hS.F ht⟩) hS.2.2 dX4_sees_20
  · replace hf := im c2 hf
    refine lv_iload_n (pc := 8) hx hb dX4_sees_8 rfl (lv_at hl 2 rfl) ?_
    refine lv_if_lt (pc := 9) (tgt := 19) hx hb dX4_sees_9 (by decide) (fun c3 => ?_) (fun c3 => ?_)
    · replace hf := ip c3 hf
      refine lv_iconst (v := -1) (pc := 19) hx hb dX4_sees_19 (by decide) ?_
      obtain rfl := Option.some.inj hf
      exact W.iret hx hb hr (fun t ht hW => ⟨rfl, by rw [ht]; exact hP, hD, hS.F ht⟩) hS.2.2 dX4_sees_20
    · replace hf := im c3 hf
      refine lv_iload_n (pc := 12) hx hb dX4_sees_12 rfl (lv_at hl 2 rfl) ?_
      refine lv_sipush (v := 999) (pc := 13) hx hb dX4_sees_13 (by decide) ?_
      refine lv_icmp_le (pc := 16) (tgt := 21) hx hb dX4_sees_16 (by decide) (fun c4 => ?_) (fun c4 => ?_)
      · replace hf := ip c4 hf
        refine lv_aload_n (pc := 21) hx hb dX4_sees_21 rfl (lv_at hl 0 rfl) ?_
        refine va_get (pc := 22) (D := D) (ci := 4) (v := .int (oo.1 10)) (C := RX4) (T := TX4) (N := 13) hx hb hts iX4 hown hK.1 hP 0 rfl rfl 10 (by decide) (hts _ fl_RX4_76) (fun _ h => h) rfl dX4_sees_22 ?_
        refine lv_if_lt (pc := 25) (tgt := 37) hx hb dX4_sees_25 (by decide) (fun c5 => ?_) (fun c5 => ?_)
        · replace hf := ip c5 hf
          refine lv_bipush (v := -3) (pc := 37) hx hb dX4_sees_37 (by decide) ?_
          obtain rfl := Option.some.inj hf
          exact W.iret hx hb hr (fun t ht hW => ⟨rfl, by rw [ht]; exact hP, hD, hS.F ht⟩) hS.2.2 dX4_sees_39
        · replace hf := im c5 hf
          refine lv_aload_n (pc := 28) hx hb dX4_sees_28 rfl (lv_at hl 0 rfl) ?_
          refine va_get (pc := 29) (D := D) (ci := 4) (v := .int (oo.1 10)) (C := RX4) (T := TX4) (N := 13) hx hb hts iX4 hown hK.1 hP 0 rfl rfl 10 (by decide) (hts _ fl_RX4_76) (fun _ h => h) rfl dX4_sees_29 ?_
          refine lv_bipush (v := 6) (pc := 32) hx hb dX4_sees_32 (by decide) ?_
          refine lv_icmp_lt (pc := 34) (tgt := 40) hx hb dX4_sees_34 (by decide) (fun c6 => ?_) (fun c6 => ?_)
          · replace hf := ip c6 hf
            refine lv_aload_n (pc := 40) hx hb dX4_sees_40 rfl (lv_at hl 0 rfl) ?_
            refine va_get (pc := 41) (D := D) (ci := 4) (v := .ref (q 8)) (C := RX4) (T := TX4) (N := 13) hx hb hts iX4 hown hK.1 hP 0 rfl rfl 8 (by decide) (hts _ fl_RX4_41) (fun _ h => h) rfl dX4_sees_41 ?_
            refine lv_aload_n (pc := 44) hx hb dX4_sees_44 rfl (lv_at hl 0 rfl) ?_
            refine va_get (pc := 45) (D := D) (ci := 4) (v := .int (oo.1 10)) (C := RX4) (T := TX4) (N := 13) hx hb hts iX4 hown hK.1 hP 0 rfl rfl 10 (by decide) (hts _ fl_RX4_76) (fun _ h => h) rfl dX4_sees_45 ?_
            refine lv_iload_n (pc := 48) hx hb dX4_sees_48 rfl (lv_at hl 1 rfl) ?_
            obtain ⟨h7, hf⟩ := ck_some hf
            obtain ⟨o8, eo8, hf⟩ := lt_some hf
            refine va_iast (pc := 49) (f := oo.2.2 8) hx hb hK.1 hP hD hS 2 0 rfl rfl h7 dX4_sees_49 (fun H locs hP hD hS => ?_)
            replace hP : va_P D vwCl (bX4 cI cZ a q o8 ++ bX3 cI (q 0) qN on) H := by rw [eo8]; exact hP
            replace hD : va_D A (bX4 cI cZ a q o8 ++ bX3 cI (q 0) qN on) := by rw [eo8]; exact hD
            refine lv_aload_n (pc := 50) hx hb dX4_sees_50 rfl (lv_at hl 0 rfl) ?_
            refine va_get (pc := 51) (D := D) (ci := 4) (v := .ref (q 9)) (C := RX4) (T := TX4) (N := 13) hx hb hts iX4 hown hK.1 hP 0 rfl rfl 9 (by decide) (hts _ fl_RX4_45) (fun _ h => h) rfl dX4_sees_51 ?_
            refine lv_aload_n (pc := 54) hx hb dX4_sees_54 rfl (lv_at hl 0 rfl) ?_
            refine va_get (pc := 55) (D := D) (ci := 4) (v := .int (o8.1 10)) (C := RX4) (T := TX4) (N := 13) hx hb hts iX4 hown hK.1 hP 0 rfl rfl 10 (by decide) (hts _ fl_RX4_76) (fun _ h => h) rfl dX4_sees_55 ?_
            refine lv_iload_n (pc := 58) hx hb dX4_sees_58 rfl (lv_at hl 2 rfl) ?_
            obtain ⟨h9, hf⟩ := ck_some hf
            obtain ⟨o10, eo10, hf⟩ := lt_some hf
            refine va_iast (pc := 59) (f := o8.2.2 9) hx hb hK.1 hP hD hS 3 0 rfl rfl h9 dX4_sees_59 (fun H locs hP hD hS => ?_)
            replace hP : va_P D vwCl (bX4 cI cZ a q o10 ++ bX3 cI (q 0) qN on) H := by rw [eo10]; exact hP
            replace hD : va_D A (bX4 cI cZ a q o10 ++ bX3 cI (q 0) qN on) := by rw [eo10]; exact hD
            refine lv_aload_n (pc := 60) hx hb dX4_sees_60 rfl (lv_at hl 0 rfl) ?_
            refine lv_dup (pc := 61) hx hb dX4_sees_61 rfl ?_
            refine va_get (pc := 62) (D := D) (ci := 4) (v := .int (o10.1 10)) (C := RX4) (T := TX4) (N := 13) hx hb hts iX4 hown hK.1 hP 0 rfl rfl 10 (by decide) (hts _ fl_RX4_76) (fun _ h => h) rfl dX4_sees_62 ?_
            refine lv_iconst (v := 1) (pc := 65) hx hb dX4_sees_65 (by decide) ?_
            refine lv_iadd (pc := 66) hx hb dX4_sees_66 ?_
            obtain ⟨o11, eo11, hf⟩ := lt_some hf
            refine va_put (pc := 67) (D := D) (ci := 4) (v := .int ((o10.1 10) + 1)) (ty := .int) (C := RX4) (T := TX4) (N := 13) hx hb hts iX4 tyX4 tyX4_ok nmX4 hown hK.1 hP hD hS 0 rfl rfl 10 (by decide) (hts _ fl_RX4_76) (fun _ h => h) rfl (tyX4_ok 10 (by decide)) rfl rfl (Nat.le_of_ble_eq_true rfl) dX4_sees_67 (fun H locs hP hD hS => ?_)
            replace hP : va_P D vwCl (bX4 cI cZ a q o11 ++ bX3 cI (q 0) qN on) H := by rw [eo11]; exact hP
            replace hD : va_D A (bX4 cI cZ a q o11 ++ bX3 cI (q 0) qN on) := by rw [eo11]; exact hD
            refine lv_aload_n (pc := 70) hx hb dX4_sees_70 rfl (lv_at hl 0 rfl) ?_
            refine va_get (pc := 71) (D := D) (ci := 4) (v := .int (o11.1 10)) (C := RX4) (T := TX4) (N := 13) hx hb hts iX4 hown hK.1 hP 0 rfl rfl 10 (by decide) (hts _ fl_RX4_76) (fun _ h => h) rfl dX4_sees_71 ?_
            obtain rfl := Option.some.inj hf
            exact W.iret hx hb hr (fun t ht hW => ⟨rfl, by rw [ht]; exact hP, hD, hS.F ht⟩) hS.2.2 dX4_sees_74
          · replace hf := im c6 hf
            refine lv_bipush (v := -3) (pc := 37) hx hb dX4_sees_37 (by decide) ?_
            obtain rfl := Option.some.inj hf
            exact W.iret hx hb hr (fun t ht hW => ⟨rfl, by rw [ht]; exact hP, hD, hS.F ht⟩) hS.2.2 dX4_sees_39
      · replace hf := im c4 hf
        refine lv_iconst (v := -1) (pc := 19) hx hb dX4_sees_19 (by decide) ?_
        obtain rfl := Option.some.inj hf
        exact W.iret hx hb hr (fun t ht hW => ⟨rfl, by rw [ht]; exact hP, hD, hS.F ht⟩) hS.2.2 dX4_sees_20
def f_X4_forget (oo : OS) : Option (Int32 × OS) := Option.bind (f_X4_dropSights oo) fun x1 => some (x1.1, x1.2)
set_option maxHeartbeats 4000000 in
set_option maxRecDepth 100000 in
theorem c_X4_forget (l : Launch) (D : va_G) (cI cZ cS : ClassId) (a : Nat) (q : Nat → Nat) (oo : OS) (x : (Int32 × OS)) (hf : f_X4_forget oo = some x) : Ct l yX4_forget cX4_forget 1 (some .int) 1 21 D cI cZ cS [.ref a] (bX4 cI cZ a q oo) (some (.int x.1)) (bX4 cI cZ a q x.2) := by
  intro sz
  refine Met.ofW (cc := cX4_forget) (maxL := 1) (ret := (some .int)) (by decide +kernel) rfl ?_
  intro p e s m args below meth c s₁ B hml hv
  obtain ⟨rfl, hsz, hP, hK, hD0⟩ := hv
  have hx := B.exec
  have hb := B.bytes
  have hr := B.returns
  have hts0 := atoms_spec (ws := .code yX4_forget cX4_forget 1 (some .int) :: TB) B.pre
  have hts := fun w (h : w ∈ TB) => hts0 w (List.mem_cons_of_mem _ h)
  have hown : s.vm.findClass RX4 = some m.cls := findClass_of_methodNamed B.named
  have hlocks := B.notSynchronized
  subst hsz
  have hD := hD0.self (sz := s.heap.size)
  generalize hAe : va_A (bX4 cI cZ a q oo) s.heap.size = A at hD ⊢
  have hA : ∀ q : Nat, s.heap.size ≤ q → A q := fun q h => by rw [← hAe]; exact Or.inr h
  have hS : va_S A s.heap s.heap [] := va_S.rf
  obtain ⟨H, hH⟩ : ∃ H, H = s.heap := ⟨_, rfl⟩
  rw [← hH] at hP
  have hS : va_S A s.heap H [] := by rw [hH]; exact hS
  have hl := lv_entry ([.ref a]) (n := 1) (Nat.le_of_ble_eq_true rfl)
  rw [lg_entry_eq]
  generalize (lg_sl ([.ref a]) ++ List.replicate (1 - (lg_sl ([.ref a])).length) Slot.unset).toArray = ls at hl ⊢
  have hl : lv_has ls 1 [(0, .ref a)] := hl
  refine W_heap hH ?_
  obtain ⟨locs, hlo⟩ : ∃ locs : List Loc, locs = [] := ⟨_, rfl⟩
  rw [← hlo] at hS ⊢
  unfold f_X4_forget at hf
  refine lv_aload_n (pc := 0) hx hb dX4_forget_0 rfl (lv_at hl 0 rfl) ?_
  obtain ⟨x1, ex1, hf⟩ := bd_some hf
  refine ct_V1 (pc := 1) (As := []) (rest := []) (W1 := bX4 cI cZ a q x1.2) ⟨hx, hb, hml, hown, hts⟩ hK (c_X4_dropSights l D cI cZ cS a q oo x1 ex1) gv_RX4_260 rfl hs_X4_dropSights rfl ⟨Nat.le_of_ble_eq_true rfl, Nat.le_of_ble_eq_true rfl⟩ (ci := 4) (q0 := 0) rfl rfl rfl hl.1 rfl (Nat.le_of_ble_eq_true rfl) dX4_forget_1 ⟨Nat.zero_le _, Nat.zero_le _⟩ hP hD hS hA (fun H locs hP hD hS => ?_)
  obtain rfl := Option.some.inj hf
  exact W.iret hx hb hr (fun t ht hW => ⟨rfl, by rw [ht]; exact hP, hD, hS.F ht⟩) hS.2.2 dX4_forget_4
def lp_X4_isSpot_53 (u_O : OS) (u_D : OS) (u_DP : OS) : Nat → Int32 → Option ((Int32 × OS × OS) ⊕ Int32)
  | 0, _ => none
  | n + 1, v2 => if (u_O.1 10) ≤ v2 then some (.inr v2) else ck v2 6 (Option.bind (f_X0_shareDown (u_O.2.2 8 (v2 : Int32).toNatClampNeg) u_D u_DP) fun x12 => ck v2 6 (if x12 = (((u_O.2.2 9 (v2 : Int32).toNatClampNeg) : Int32).toInt64) then lp_X4_isSpot_53 u_O u_D u_DP n (v2 + 1) else some (.inl (0, u_D, u_DP))))
def f_X4_isSpot (i0 : Int32) (oo : OS) (od : OS) (odw : OS) (odp : OS) : Option (Int32 × OS × OS) := Option.bind (f_X4_xOf i0) fun x1 => Option.bind (f_X4_yOf i0) fun x2 => Option.bind (f_X0_bear (((oo.1 7) : Int32).toInt64) ((((oo.1 7) * x1) : Int32).toInt64) ((((oo.1 7) * x2) : Int32).toInt64) od) fun x3 => Option.bind (f_X0_settle x3 odw odp) fun x4 => if (x4.1.1 11) = 0 then some (0, x4.1, x4.2) else Option.bind (lp_X4_isSpot_53 oo x4.1 x4.2 1000 0) (Sum.elim (fun r => some r) (fun z9 => some (1, x4.1, x4.2)))
set_option maxHeartbeats 4000000 in
set_option maxRecDepth 100000 in
theorem c_X4_isSpot (l : Launch) (D : va_G) (cI cZ cS : ClassId) (a : Nat) (q : Nat → Nat) (qD : Nat → Nat) (i0 : Int32) (oo : OS) (od : OS) (odw : OS) (odp : OS) (x : (Int32 × OS × OS)) (hf : f_X4_isSpot i0 oo od odw odp = some x) : Ct l yX4_isSpot cX4_isSpot 3 (some .boolean) 4 93 D cI cZ cS [.ref a, .int i0] (bX4 cI cZ a q oo ++ (bX0 cI (q 12) qD od ++ (bX1 (qD 13) odw ++ bX1 (qD 14) odp))) (some (.int x.1)) (bX4 cI cZ a q oo ++ (bX0 cI (q 12) qD x.2.1 ++ (bX1 (qD 13) odw ++ bX1 (qD 14) x.2.2))) := by
  intro sz
  refine Met.ofW (cc := cX4_isSpot) (maxL := 3) (ret := (some .boolean)) (by decide +kernel) rfl ?_
  intro p e s m args below meth c s₁ B hml hv
  obtain ⟨rfl, hsz, hP, hK, hD0⟩ := hv
  have hx := B.exec
  have hb := B.bytes
  have hr := B.returns
  have hts0 := atoms_spec (ws := .code yX4_isSpot cX4_isSpot 3 (some .boolean) :: TB) B.pre
  have hts := fun w (h : w ∈ TB) => hts0 w (List.mem_cons_of_mem _ h)
  have hown : s.vm.findClass RX4 = some m.cls := findClass_of_methodNamed B.named
  have hlocks := B.notSynchronized
  subst hsz
  have hD := hD0.self (sz := s.heap.size)
  generalize hAe : va_A (bX4 cI cZ a q oo ++ (bX0 cI (q 12) qD od ++ (bX1 (qD 13) odw ++ bX1 (qD 14) odp))) s.heap.size = A at hD ⊢
  have hA : ∀ q : Nat, s.heap.size ≤ q → A q := fun q h => by rw [← hAe]; exact Or.inr h
  have hS : va_S A s.heap s.heap [] := va_S.rf
  obtain ⟨H, hH⟩ : ∃ H, H = s.heap := ⟨_, rfl⟩
  rw [← hH] at hP
  have hS : va_S A s.heap H [] := by rw [hH]; exact hS
  have hl := lv_entry ([.ref a, .int i0]) (n := 3) (Nat.le_of_ble_eq_true rfl)
  rw [lg_entry_eq]
  generalize (lg_sl ([.ref a, .int i0]) ++ List.replicate (3 - (lg_sl ([.ref a, .int i0])).length) Slot.unset).toArray = ls at hl ⊢
  have hl : lv_has ls 3 [(0, .ref a), (1, .int i0)] := hl
  refine W_heap hH ?_
  obtain ⟨locs, hlo⟩ : ∃ locs : List Loc, locs = [] := ⟨_, rfl⟩
  rw [← hlo] at hS ⊢
  unfold f_X4_isSpot at hf
  refine lv_aload_n (pc := 0) hx hb dX4_isSpot_0 rfl (lv_at hl 0 rfl) ?_
  refine va_get (pc := 1) (D := D) (ci := 4) (v := .ref (q 12)) (C := RX4) (T := TX4) (N := 13) hx hb hts iX4 hown hK.1 hP 0 rfl rfl 12 (by decide) (hts _ fl_RX4_54) (fun _ h => h) rfl dX4_isSpot_1 ?_
  refine lv_aload_n (pc := 4) hx hb dX4_isSpot_4 rfl (lv_at hl 0 rfl) ?_
  refine va_get (pc := 5) (D := D) (ci := 4) (v := .int (oo.1 7)) (C := RX4) (T := TX4) (N := 13) hx hb hts iX4 hown hK.1 hP 0 rfl rfl 7 (by decide) (hts _ fl_RX4_37) (fun _ h => h) rfl dX4_isSpot_5 ?_
  refine lv_i2l (pc := 8) hx hb dX4_isSpot_8 rfl ?_
  refine lv_aload_n (pc := 9) hx hb dX4_isSpot_9 rfl (lv_at hl 0 rfl) ?_
  refine va_get (pc := 10) (D := D) (ci := 4) (v := .int (oo.1 7)) (C := RX4) (T := TX4) (N := 13) hx hb hts iX4 hown hK.1 hP 0 rfl rfl 7 (by decide) (hts _ fl_RX4_37) (fun _ h => h) rfl dX4_isSpot_10 ?_
  refine lv_iload_n (pc := 13) hx hb dX4_isSpot_13 rfl (lv_at hl 1 rfl) ?_
  obtain ⟨x1, ex1, hf⟩ := bd_some hf
  refine ct_S0 (pc := 14) (As := [.int i0]) (rest := [.int (oo.1 7), .long (((oo.1 7) : Int32).toInt64), .ref (q 12)]) ⟨hx, hb, hml, hown, hts⟩ hK (c_X4_xOf l D cI cZ cS i0 x1 ex1) gs_RX4_222 hs_X4_xOf rfl ⟨Nat.le_of_ble_eq_true rfl, Nat.le_of_ble_eq_true rfl⟩ hl.1 rfl (Nat.le_of_ble_eq_true rfl) dX4_isSpot_14 ⟨Nat.zero_le _, Nat.zero_le _⟩ hP hS hA (fun H locs hP hS => ?_)
  refine lv_imul (pc := 17) hx hb dX4_isSpot_17 ?_
  refine lv_i2l (pc := 18) hx hb dX4_isSpot_18 rfl ?_
  refine lv_aload_n (pc := 19) hx hb dX4_isSpot_19 rfl (lv_at hl 0 rfl) ?_
  refine va_get (pc := 20) (D := D) (ci := 4) (v := .int (oo.1 7)) (C := RX4) (T := TX4) (N := 13) hx hb hts iX4 hown hK.1 hP 0 rfl rfl 7 (by decide) (hts _ fl_RX4_37) (fun _ h => h) rfl dX4_isSpot_20 ?_
  refine lv_iload_n (pc := 23) hx hb dX4_isSpot_23 rfl (lv_at hl 1 rfl) ?_
  obtain ⟨x2, ex2, hf⟩ := bd_some hf
  refine ct_S0 (pc := 24) (As := [.int i0]) (rest := [.int (oo.1 7), .long ((((oo.1 7) * x1) : Int32).toInt64), .long (((oo.1 7) : Int32).toInt64), .ref (q 12)]) ⟨hx, hb, hml, hown, hts⟩ hK (c_X4_yOf l D cI cZ cS i0 x2 ex2) gs_RX4_225 hs_X4_yOf rfl ⟨Nat.le_of_ble_eq_true rfl, Nat.le_of_ble_eq_true rfl⟩ hl.1 rfl (Nat.le_of_ble_eq_true rfl) dX4_isSpot_24 ⟨Nat.zero_le _, Nat.zero_le _⟩ hP hS hA (fun H locs hP hS => ?_)
  refine lv_imul (pc := 27) hx hb dX4_isSpot_27 ?_
  refine lv_i2l (pc := 28) hx hb dX4_isSpot_28 rfl ?_
  obtain ⟨x3, ex3, hf⟩ := bd_some hf
  refine ct_V (pc := 29) (As := [.long (((oo.1 7) : Int32).toInt64), .long ((((oo.1 7) * x1) : Int32).toInt64), .long ((((oo.1 7) * x2) : Int32).toInt64)]) (rest := []) (wr := bX4 cI cZ a q oo ++ (bX1 (qD 13) odw ++ bX1 (qD 14) odp)) (W1 := bX4 cI cZ a q oo ++ (bX0 cI (q 12) qD x3 ++ (bX1 (qD 13) odw ++ bX1 (qD 14) odp))) ⟨hx, hb, hml, hown, hts⟩ hK (c_X0_bear l D cI cZ cS (q 12) qD (((oo.1 7) : Int32).toInt64) ((((oo.1 7) * x1) : Int32).toInt64) ((((oo.1 7) * x2) : Int32).toInt64) od x3 ex3) gv_RX4_285 rfl hs_X0_bear rfl ⟨Nat.le_of_ble_eq_true rfl, Nat.le_of_ble_eq_true rfl⟩ (ci := 0) (q0 := 5) rfl rfl rfl hl.1 rfl (Nat.le_of_ble_eq_true rfl) dX4_isSpot_29 ⟨Nat.zero_le _, Nat.zero_le _⟩ hP hD hS hA [5, 6, 7, 8, 9] [0, 1, 2, 3, 4, 10, 11] [0, 1, 2, 3, 4, 7, 8, 9, 10, 11, 5, 6] rfl rfl (by decide +kernel) (by decide +kernel) (by decide +kernel) (by decide +kernel) rfl (fun H locs hP hD hS => ?_)
  refine lv_aload_n (pc := 32) hx hb dX4_isSpot_32 rfl (lv_at hl 0 rfl) ?_
  refine va_get (pc := 33) (D := D) (ci := 4) (v := .ref (q 12)) (C := RX4) (T := TX4) (N := 13) hx hb hts iX4 hown hK.1 hP 0 rfl rfl 12 (by decide) (hts _ fl_RX4_54) (fun _ h => h) rfl dX4_isSpot_33 ?_
  obtain ⟨x4, ex4, hf⟩ := bd_some hf
  refine ct_V (pc := 36) (As := []) (rest := []) (wr := bX4 cI cZ a q oo) (W1 := bX4 cI cZ a q oo ++ (bX0 cI (q 12) qD x4.1 ++ (bX1 (qD 13) odw ++ bX1 (qD 14) x4.2))) ⟨hx, hb, hml, hown, hts⟩ hK (c_X0_settle l D cI cZ cS (q 12) qD x3 odw odp x4 ex4) gv_RX4_247 rfl hs_X0_settle rfl ⟨Nat.le_of_ble_eq_true rfl, Nat.le_of_ble_eq_true rfl⟩ (ci := 0) (q0 := 5) rfl rfl rfl hl.1 rfl (Nat.le_of_ble_eq_true rfl) dX4_isSpot_36 ⟨Nat.zero_le _, Nat.zero_le _⟩ hP hD hS hA [5, 6, 7, 8, 9, 10, 11] [0, 1, 2, 3, 4] [0, 1, 2, 3, 4, 5, 6, 7, 8, 9, 10, 11] rfl rfl (by decide +kernel) (by decide +kernel) (by decide +kernel) (by decide +kernel) rfl (fun H locs hP hD hS => ?_)
  refine lv_aload_n (pc := 39) hx hb dX4_isSpot_39 rfl (lv_at hl 0 rfl) ?_
  refine va_get (pc := 40) (D := D) (ci := 4) (v := .ref (q 12)) (C := RX4) (T := TX4) (N := 13) hx hb hts iX4 hown hK.1 hP 0 rfl rfl 12 (by decide) (hts _ fl_RX4_54) (fun _ h => h) rfl dX4_isSpot_40 ?_
  refine va_getN (pc := 43) (D := D) (ci := 0) (v := .int (x4.1.1 11)) (C := RX0) (T := TX0) (N := 15) hx hb hts iX0 hown hK.1 hP 5 rfl rfl 11 (by decide) (va_Nw.use rfl (hK.2 _ nf_RX4_149)) (fun _ h => h) rfl dX4_isSpot_43 ?_
  refine lv_if_ne (pc := 46) (tgt := 51) hx hb dX4_isSpot_46 (by decide) (fun c5 => ?_) (fun c5 => ?_)
  · replace hf := im c5 hf
    refine lv_iconst (v := 0) (pc := 51) hx hb dX4_isSpot_51 (by decide) ?_
    refine lv_istore_n (lv' := [(2, .int 0), (0, .ref a), (1, .int i0)]) (pc := 52) hx hb dX4_isSpot_52 rfl hl (by decide) rfl (fun ls hl => ?_)
    obtain ⟨z6, hz6, hf⟩ := bd_some hf
    have hfz6 := hf
    clear hf
    have K7 : ∀ z9, z6 = .inr z9 → ∀ (H : Heap) (locs : List Loc) (ls : Array Slot), va_P D vwCl (bX4 cI cZ a q oo ++ (bX0 cI (q 12) qD x4.1 ++ (bX1 (qD 13) odw ++ bX1 (qD 14) x4.2))) H → va_D A (bX4 cI cZ a q oo ++ (bX0 cI (q 12) qD x4.1 ++ (bX1 (qD 13) odw ++ bX1 (qD 14) x4.2))) → va_S A s.heap H locs → lv_has ls 3 [(0, .ref a), (1, .int i0), (2, .int z9)] → GW l yX4_isSpot cX4_isSpot 3 (some .boolean) 4 93 D [.ref a, .int i0] (some (.int x.1)) (bX4 cI cZ a q oo ++ (bX0 cI (q 12) qD x.2.1 ++ (bX1 (qD 13) odw ++ bX1 (qD 14) x.2.2))) A p e s m below meth c H locs (F0 m 93 ls []) := by
      intro z9 hy H locs ls hP hD hS hl
      subst hy
      replace hf := sum_r hfz6
      refine lv_iconst (v := 1) (pc := 93) hx hb dX4_isSpot_93 (by decide) ?_
      obtain rfl := Option.some.inj hf
      exact W.zret hx hb hr rfl (fun t ht hW => ⟨rfl, by rw [ht]; exact hP, hD, hS.F ht⟩) hS.2.2 dX4_isSpot_94
    have KL8 : ∀ (n : Nat) (v2 : Int32) (H : Heap) (locs : List Loc) (ls : Array Slot), lp_X4_isSpot_53 oo x4.1 x4.2 n v2 = some z6 → va_P D vwCl (bX4 cI cZ a q oo ++ (bX0 cI (q 12) qD x4.1 ++ (bX1 (qD 13) odw ++ bX1 (qD 14) x4.2))) H → va_D A (bX4 cI cZ a q oo ++ (bX0 cI (q 12) qD x4.1 ++ (bX1 (qD 13) odw ++ bX1 (qD 14) x4.2))) → va_S A s.heap H locs → lv_has ls 3 [(0, .ref a), (1, .int i0), (2, .int v2)] → GW l yX4_isSpot cX4_isSpot 3 (some .boolean) 4 93 D [.ref a, .int i0] (some (.int x.1)) (bX4 cI cZ a q oo ++ (bX0 cI (q 12) qD x.2.1 ++ (bX1 (qD 13) odw ++ bX1 (qD 14) x.2.2))) A p e s m below meth c H locs (F0 m 53 ls []) := by
      intro n
      induction n with
      | zero => intro v2 H locs ls hf; cases hf
      | succ n ih =>
        intro v2 H locs ls hf hP hD hS hl
        rw [lp_X4_isSpot_53] at hf
        refine lv_iload_n (pc := 53) hx hb dX4_isSpot_53 rfl (lv_at hl 2 rfl) ?_
        refine lv_aload_n (pc := 54) hx hb dX4_isSpot_54 rfl (lv_at hl 0 rfl) ?_
        refine va_get (pc := 55) (D := D) (ci := 4) (v := .int (oo.1 10)) (C := RX4) (T := TX4) (N := 13) hx hb hts iX4 hown hK.1 hP 0 rfl rfl 10 (by decide) (hts _ fl_RX4_76) (fun _ h => h) rfl dX4_isSpot_55 ?_
        refine lv_icmp_ge (pc := 58) (tgt := 93) hx hb dX4_isSpot_58 (by decide) (fun c10 => ?_) (fun c10 => ?_)
        · replace hf := ip c10 hf
          obtain rfl := Option.some.inj hf
          exact K7 _ rfl H locs ls hP hD hS (lv_sub hl [0, 1, 2] rfl)
        · replace hf := im c10 hf
          refine lv_aload_n (pc := 61) hx hb dX4_isSpot_61 rfl (lv_at hl 0 rfl) ?_
          refine va_get (pc := 62) (D := D) (ci := 4) (v := .ref (q 12)) (C := RX4) (T := TX4) (N := 13) hx hb hts iX4 hown hK.1 hP 0 rfl rfl 12 (by decide) (hts _ fl_RX4_54) (fun _ h => h) rfl dX4_isSpot_62 ?_
          refine lv_aload_n (pc := 65) hx hb dX4_isSpot_65 rfl (lv_at hl 0 rfl) ?_
          refine va_get (pc := 66) (D := D) (ci := 4) (v := .ref (q 8)) (C := RX4) (T := TX4) (N := 13) hx hb hts iX4 hown hK.1 hP 0 rfl rfl 8 (by decide) (hts _ fl_RX4_41) (fun _ h => h) rfl dX4_isSpot_66 ?_
          refine lv_iload_n (pc := 69) hx hb dX4_isSpot_69 rfl (lv_at hl 2 rfl) ?_
          obtain ⟨h11, hf⟩ := ck_some hf
          refine va_iald (pc := 70) (f := oo.2.2 8) hx hb hK.1 hP 2 0 rfl rfl h11 dX4_isSpot_70 ?_
          obtain ⟨x12, ex12, hf⟩ := bd_some hf
          refine ct_V (pc := 71) (As := [.int (oo.2.2 8 (v2 : Int32).toNatClampNeg)]) (rest := []) (wr := bX4 cI cZ a q oo ++ bX1 (qD 13) odw) (W1 := bX4 cI cZ a q oo ++ (bX0 cI (q 12) qD x4.1 ++ (bX1 (qD 13) odw ++ bX1 (qD 14) x4.2))) ⟨hx, hb, hml, hown, hts⟩ hK (c_X0_shareDown l D cI cZ cS (q 12) qD (oo.2.2 8 (v2 : Int32).toNatClampNeg) x4.1 x4.2 x12 ex12) gv_RX4_179 rfl hs_X0_shareDown rfl ⟨Nat.le_of_ble_eq_true rfl, Nat.le_of_ble_eq_true rfl⟩ (ci := 0) (q0 := 5) rfl rfl rfl hl.1 rfl (Nat.le_of_ble_eq_true rfl) dX4_isSpot_71 ⟨Nat.zero_le _, Nat.zero_le _⟩ hP hD hS hA [5, 6, 7, 8, 9, 11] [0, 1, 2, 3, 4, 10] [0, 1, 2, 3, 4, 6, 7, 8, 9, 10, 5, 11] rfl rfl (by decide +kernel) (by decide +kernel) (by decide +kernel) (by decide +kernel) rfl (fun H locs hP hD hS => ?_)
          refine lv_aload_n (pc := 74) hx hb dX4_isSpot_74 rfl (lv_at hl 0 rfl) ?_
          refine va_get (pc := 75) (D := D) (ci := 4) (v := .ref (q 9)) (C := RX4) (T := TX4) (N := 13) hx hb hts iX4 hown hK.1 hP 0 rfl rfl 9 (by decide) (hts _ fl_RX4_45) (fun _ h => h) rfl dX4_isSpot_75 ?_
          refine lv_iload_n (pc := 78) hx hb dX4_isSpot_78 rfl (lv_at hl 2 rfl) ?_
          obtain ⟨h13, hf⟩ := ck_some hf
          refine va_iald (pc := 79) (f := oo.2.2 9) hx hb hK.1 hP 3 0 rfl rfl h13 dX4_isSpot_79 ?_
          refine lv_i2l (pc := 80) hx hb dX4_isSpot_80 rfl ?_
          refine W.lcmp (pc := 81) hx hb dX4_isSpot_81 ?_
          refine lv_if_eq (pc := 82) (tgt := 87) hx hb dX4_isSpot_82 (by decide) (fun c14 => ?_) (fun c14 => ?_)
          · replace c14 := (lg_cmp_eq _ _).mp c14
            replace hf := ip c14 hf
            refine lv_iinc (v := (v2 + 1)) (lv' := [(2, .int (v2 + 1)), (0, .ref a), (1, .int i0)]) (pc := 87) hx hb dX4_isSpot_87 hl (k := 2) rfl rfl (by decide) rfl (fun ls hl => ?_)
            refine lv_goto (pc := 90) (tgt := 53) hx hb dX4_isSpot_90 (by decide) ?_
            exact ih _ H locs ls hf hP hD hS (lv_sub hl [1, 2, 0] rfl)
          · replace c14 := fun q => c14 ((lg_cmp_eq _ _).mpr q)
            replace hf := im c14 hf
            refine lv_iconst (v := 0) (pc := 85) hx hb dX4_isSpot_85 (by decide) ?_
            obtain rfl := Option.some.inj hf
            replace hfz6 := sum_l hfz6
            obtain rfl := Option.some.inj hfz6
            exact W.zret hx hb hr rfl (fun t ht hW => ⟨rfl, by rw [ht]; exact hP, hD, hS.F ht⟩) hS.2.2 dX4_isSpot_86
    exact KL8 1000 _ H locs ls hz6 hP hD hS (lv_sub hl [1, 2, 0] rfl)
  · replace hf := ip c5 hf
    refine lv_iconst (v := 0) (pc := 49) hx hb dX4_isSpot_49 (by decide) ?_
    obtain rfl := Option.some.inj hf
    exact W.zret hx hb hr rfl (fun t ht hW => ⟨rfl, by rw [ht]; exact hP, hD, hS.F ht⟩) hS.2.2 dX4_isSpot_50
def lp_X4_spots_44 (u_O : OS) (u_DW : OS) : Nat → Int32 → Int32 → Int32 → OS → OS → Option (Int32 × Int32 × Int32 × OS × OS)
  | 0, _, _, _, _, _ => none
  | n + 1, v2, v3, v4, w_D, w_DP => if 361 ≤ v4 then some (v2, v3, v4, w_D, w_DP) else Option.bind (f_X4_isSpot v4 u_O w_D u_DW w_DP) fun x10 => if x10.1 = 0 then lp_X4_spots_44 u_O u_DW n v2 v3 (v4 + 1) x10.2.1 x10.2.2 else if v3 = (-9) then lp_X4_spots_44 u_O u_DW n (v2 + 1) v4 (v4 + 1) x10.2.1 x10.2.2 else lp_X4_spots_44 u_O u_DW n (v2 + 1) v3 (v4 + 1) x10.2.1 x10.2.2
def f_X4_spots (i0 : Int32) (oo : OS) (on : OS) (od : OS) (odw : OS) (odp : OS) : Option (Int32 × OS × OS × OS) := if i0 < 0 then some ((-1), od, odw, odp) else if i0 ≤ 1 then Option.bind (f_X0_takePiles od on) fun x3 => Option.bind (f_X0_beginWith (on.1 5) x3 odw) fun x4 => Option.bind (lp_X4_spots_44 oo x4.2 1000 0 (-9) 0 x4.1 odp) fun z5 => if i0 = 0 then some (z5.1, z5.2.2.2.1, x4.2, z5.2.2.2.2) else some (z5.2.1, z5.2.2.2.1, x4.2, z5.2.2.2.2) else some ((-1), od, odw, odp)
set_option maxHeartbeats 4000000 in
set_option maxRecDepth 100000 in
theorem c_X4_spots (l : Launch) (D : va_G) (cI cZ cS : ClassId) (a : Nat) (q : Nat → Nat) (qN : Nat → Nat) (qD : Nat → Nat) (i0 : Int32) (oo : OS) (on : OS) (od : OS) (odw : OS) (odp : OS) (x : (Int32 × OS × OS × OS)) (hf : f_X4_spots i0 oo on od odw odp = some x) : Ct l yX4_spots cX4_spots 5 (some .int) 5 115 D cI cZ cS [.ref a, .int i0] (bX4 cI cZ a q oo ++ (bX3 cI (q 0) qN on ++ (bX0 cI (q 12) qD od ++ (bX1 (qD 13) odw ++ bX1 (qD 14) odp)))) (some (.int x.1)) (bX4 cI cZ a q oo ++ (bX3 cI (q 0) qN on ++ (bX0 cI (q 12) qD x.2.1 ++ (bX1 (qD 13) x.2.2.1 ++ bX1 (qD 14) x.2.2.2)))) := by
  intro sz
  refine Met.ofW (cc := cX4_spots) (maxL := 5) (ret := (some .int)) (by decide +kernel) rfl ?_
  intro p e s m args below meth c s₁ B hml hv
  obtain ⟨rfl, hsz, hP, hK, hD0⟩ := hv
  have hx := B.exec
  have hb := B.bytes
  have hr := B.returns
  have hts0 := atoms_spec (ws := .code yX4_spots cX4_spots 5 (some .int) :: TB) B.pre
  have hts := fun w (h : w ∈ TB) => hts0 w (List.mem_cons_of_mem _ h)
  have hown : s.vm.findClass RX4 = some m.cls := findClass_of_methodNamed B.named
  have hlocks := B.notSynchronized
  subst hsz
  have hD := hD0.self (sz := s.heap.size)
  generalize hAe : va_A (bX4 cI cZ a q oo ++ (bX3 cI (q 0) qN on ++ (bX0 cI (q 12) qD od ++ (bX1 (qD 13) odw ++ bX1 (qD 14) odp)))) s.heap.size = A at hD ⊢
  have hA : ∀ q : Nat, s.heap.size ≤ q → A q := fun q h => by rw [← hAe]; exact Or.inr h
  have hS : va_S A s.heap s.heap [] := va_S.rf
  obtain ⟨H, hH⟩ : ∃ H, H = s.heap := ⟨_, rfl⟩
  rw [← hH] at hP
  have hS : va_S A s.heap H [] := by rw [hH]; exact hS
  have hl := lv_entry ([.ref a, .int i0]) (n := 5) (Nat.le_of_ble_eq_true rfl)
  rw [lg_entry_eq]
  generalize (lg_sl ([.ref a, .int i0]) ++ List.replicate (5 - (lg_sl ([.ref a, .int i0])).length) Slot.unset).toArray = ls at hl ⊢
  have hl : lv_has ls 5 [(0, .ref a), (1, .int i0)] := hl
  refine W_heap hH ?_
  obtain ⟨locs, hlo⟩ : ∃ locs : List Loc, locs = [] := ⟨_, rfl⟩
  rw [← hlo] at hS ⊢
  unfold f_X4_spots at hf
  refine lv_iload_n (pc := 0) hx hb dX4_spots_0 rfl (lv_at hl 1 rfl) ?_
  refine lv_if_lt (pc := 1) (tgt := 9) hx hb dX4_spots_1 (by decide) (fun c1 => ?_) (fun c1 => ?_)
  · replace hf := ip c1 hf
    refine lv_iconst (v := -1) (pc := 9) hx hb dX4_spots_9 (by decide) ?_
    obtain rfl := Option.some.inj hf
    exact W.iret hx hb hr (fun t ht hW => ⟨rfl, by rw [ht]; exact hP, hD, hS.F ht⟩) hS.2.2 dX4_spots_10
  · replace hf := im c1 hf
    refine lv_iload_n (pc := 4) hx hb dX4_spots_4 rfl (lv_at hl 1 rfl) ?_
    refine lv_iconst (v := 1) (pc := 5) hx hb dX4_spots_5 (by decide) ?_
    refine lv_icmp_le (pc := 6) (tgt := 11) hx hb dX4_spots_6 (by decide) (fun c2 => ?_) (fun c2 => ?_)
    · replace hf := ip c2 hf
      refine lv_aload_n (pc := 11) hx hb dX4_spots_11 rfl (lv_at hl 0 rfl) ?_
      refine va_get (pc := 12) (D := D) (ci := 4) (v := .ref (q 12)) (C := RX4) (T := TX4) (N := 13) hx hb hts iX4 hown hK.1 hP 0 rfl rfl 12 (by decide) (hts _ fl_RX4_54) (fun _ h => h) rfl dX4_spots_12 ?_
      refine lv_aload_n (pc := 15) hx hb dX4_spots_15 rfl (lv_at hl 0 rfl) ?_
      refine va_get (pc := 16) (D := D) (ci := 4) (v := .ref (q 0)) (C := RX4) (T := TX4) (N := 13) hx hb hts iX4 hown hK.1 hP 0 rfl rfl 0 (by decide) (hts _ fl_RX4_12) (fun _ h => h) rfl dX4_spots_16 ?_
      obtain ⟨x3, ex3, hf⟩ := bd_some hf
      refine ct_V (pc := 19) (As := [.ref (q 0)]) (rest := []) (wr := bX4 cI cZ a q oo ++ (bX1 (qD 13) odw ++ bX1 (qD 14) odp)) (W1 := bX4 cI cZ a q oo ++ (bX3 cI (q 0) qN on ++ (bX0 cI (q 12) qD x3 ++ (bX1 (qD 13) odw ++ bX1 (qD 14) odp)))) ⟨hx, hb, hml, hown, hts⟩ hK (c_X0_takePiles l D cI cZ cS (q 12) qD (q 0) qN od on x3 ex3) gv_RX4_263 rfl hs_X0_takePiles rfl ⟨Nat.le_of_ble_eq_true rfl, Nat.le_of_ble_eq_true rfl⟩ (ci := 0) (q0 := 13) rfl rfl rfl hl.1 rfl (Nat.le_of_ble_eq_true rfl) dX4_spots_19 ⟨Nat.zero_le _, Nat.zero_le _⟩ hP hD hS hA [13, 14, 15, 16, 17, 5, 6, 7, 8, 9, 10, 11, 12] [0, 1, 2, 3, 4, 18, 19] [0, 1, 2, 3, 4, 12, 13, 14, 15, 16, 17, 18, 19, 7, 8, 9, 10, 11, 5, 6] rfl rfl (by decide +kernel) (by decide +kernel) (by decide +kernel) (by decide +kernel) rfl (fun H locs hP hD hS => ?_)
      refine lv_aload_n (pc := 22) hx hb dX4_spots_22 rfl (lv_at hl 0 rfl) ?_
      refine va_get (pc := 23) (D := D) (ci := 4) (v := .ref (q 12)) (C := RX4) (T := TX4) (N := 13) hx hb hts iX4 hown hK.1 hP 0 rfl rfl 12 (by decide) (hts _ fl_RX4_54) (fun _ h => h) rfl dX4_spots_23 ?_
      refine lv_aload_n (pc := 26) hx hb dX4_spots_26 rfl (lv_at hl 0 rfl) ?_
      refine va_get (pc := 27) (D := D) (ci := 4) (v := .ref (q 0)) (C := RX4) (T := TX4) (N := 13) hx hb hts iX4 hown hK.1 hP 0 rfl rfl 0 (by decide) (hts _ fl_RX4_12) (fun _ h => h) rfl dX4_spots_27 ?_
      refine va_getN (pc := 30) (D := D) (ci := 3) (v := .int (on.1 5)) (C := RX3) (T := TX3) (N := 12) hx hb hts iX3 hown hK.1 hP 5 rfl rfl 5 (by decide) (va_Nw.use rfl (hK.2 _ nf_RX4_105)) (fun _ h => h) rfl dX4_spots_30 ?_
      obtain ⟨x4, ex4, hf⟩ := bd_some hf
      refine ct_V (pc := 33) (As := [.int (on.1 5)]) (rest := []) (wr := bX4 cI cZ a q oo ++ (bX3 cI (q 0) qN on ++ bX1 (qD 14) odp)) (W1 := bX4 cI cZ a q oo ++ (bX3 cI (q 0) qN on ++ (bX0 cI (q 12) qD x4.1 ++ (bX1 (qD 13) x4.2 ++ bX1 (qD 14) odp)))) ⟨hx, hb, hml, hown, hts⟩ hK (c_X0_beginWith l D cI cZ cS (q 12) qD (on.1 5) x3 odw x4 ex4) gv_RX4_241 rfl hs_X0_beginWith rfl ⟨Nat.le_of_ble_eq_true rfl, Nat.le_of_ble_eq_true rfl⟩ (ci := 0) (q0 := 13) rfl rfl rfl hl.1 rfl (Nat.le_of_ble_eq_true rfl) dX4_spots_33 ⟨Nat.zero_le _, Nat.zero_le _⟩ hP hD hS hA [13, 14, 15, 16, 17, 18] [0, 1, 2, 3, 4, 5, 6, 7, 8, 9, 10, 11, 12, 19] [0, 1, 2, 3, 4, 5, 6, 7, 8, 9, 10, 11, 12, 14, 15, 16, 17, 18, 19, 13] rfl rfl (by decide +kernel) (by decide +kernel) (by decide +kernel) (by decide +kernel) rfl (fun H locs hP hD hS => ?_)
      refine lv_iconst (v := 0) (pc := 36) hx hb dX4_spots_36 (by decide) ?_
      refine lv_istore_n (lv' := [(2, .int 0), (0, .ref a), (1, .int i0)]) (pc := 37) hx hb dX4_spots_37 rfl hl (by decide) rfl (fun ls hl => ?_)
      refine lv_bipush (v := -9) (pc := 38) hx hb dX4_spots_38 (by decide) ?_
      refine lv_istore_n (lv' := [(3, .int (-9)), (2, .int 0), (0, .ref a), (1, .int i0)]) (pc := 40) hx hb dX4_spots_40 rfl hl (by decide) rfl (fun ls hl => ?_)
      refine lv_iconst (v := 0) (pc := 41) hx hb dX4_spots_41 (by decide) ?_
      refine lv_istore (lv' := [(4, .int 0), (3, .int (-9)), (2, .int 0), (0, .ref a), (1, .int i0)]) (pc := 42) hx hb dX4_spots_42 hl (by decide) rfl (fun ls hl => ?_)
      obtain ⟨z5, hz5, hf⟩ := bd_some hf
      have hfz5 := hf
      clear hf
      have K6 : ∀ (H : Heap) (locs : List Loc) (ls : Array Slot), va_P D vwCl (bX4 cI cZ a q oo ++ (bX3 cI (q 0) qN on ++ (bX0 cI (q 12) qD z5.2.2.2.1 ++ (bX1 (qD 13) x4.2 ++ bX1 (qD 14) z5.2.2.2.2)))) H → va_D A (bX4 cI cZ a q oo ++ (bX3 cI (q 0) qN on ++ (bX0 cI (q 12) qD z5.2.2.2.1 ++ (bX1 (qD 13) x4.2 ++ bX1 (qD 14) z5.2.2.2.2)))) → va_S A s.heap H locs → lv_has ls 5 [(0, .ref a), (1, .int i0), (2, .int z5.1), (3, .int z5.2.1), (4, .int z5.2.2.1)] → GW l yX4_spots cX4_spots 5 (some .int) 5 115 D [.ref a, .int i0] (some (.int x.1)) (bX4 cI cZ a q oo ++ (bX3 cI (q 0) qN on ++ (bX0 cI (q 12) qD x.2.1 ++ (bX1 (qD 13) x.2.2.1 ++ bX1 (qD 14) x.2.2.2)))) A p e s m below meth c H locs (F0 m 79 ls []) := by
        intro H locs ls hP hD hS hl
        have hf := hfz5
        refine lv_iload_n (pc := 79) hx hb dX4_spots_79 rfl (lv_at hl 1 rfl) ?_
        refine lv_if_ne (pc := 80) (tgt := 87) hx hb dX4_spots_80 (by decide) (fun c8 => ?_) (fun c8 => ?_)
        · replace hf := im c8 hf
          refine lv_iload_n (pc := 87) hx hb dX4_spots_87 rfl (lv_at hl 3 rfl) ?_
          obtain rfl := Option.some.inj hf
          exact W.iret hx hb hr (fun t ht hW => ⟨rfl, by rw [ht]; exact hP, hD, hS.F ht⟩) hS.2.2 dX4_spots_88
        · replace hf := ip c8 hf
          refine lv_iload_n (pc := 83) hx hb dX4_spots_83 rfl (lv_at hl 2 rfl) ?_
          refine lv_goto (pc := 84) (tgt := 88) hx hb dX4_spots_84 (by decide) ?_
          obtain rfl := Option.some.inj hf
          exact W.iret hx hb hr (fun t ht hW => ⟨rfl, by rw [ht]; exact hP, hD, hS.F ht⟩) hS.2.2 dX4_spots_88
      have KL7 : ∀ (n : Nat) (v2 : Int32) (v3 : Int32) (v4 : Int32) (w_D : OS) (w_DP : OS) (H : Heap) (locs : List Loc) (ls : Array Slot), lp_X4_spots_44 oo x4.2 n v2 v3 v4 w_D w_DP = some z5 → va_P D vwCl (bX4 cI cZ a q oo ++ (bX3 cI (q 0) qN on ++ (bX0 cI (q 12) qD w_D ++ (bX1 (qD 13) x4.2 ++ bX1 (qD 14) w_DP)))) H → va_D A (bX4 cI cZ a q oo ++ (bX3 cI (q 0) qN on ++ (bX0 cI (q 12) qD w_D ++ (bX1 (qD 13) x4.2 ++ bX1 (qD 14) w_DP)))) → va_S A s.heap H locs → lv_has ls 5 [(0, .ref a), (1, .int i0), (2, .int v2), (3, .int v3), (4, .int v4)] → GW l yX4_spots cX4_spots 5 (some .int) 5 115 D [.ref a, .int i0] (some (.int x.1)) (bX4 cI cZ a q oo ++ (bX3 cI (q 0) qN on ++ (bX0 cI (q 12) qD x.2.1 ++ (bX1 (qD 13) x.2.2.1 ++ bX1 (qD 14) x.2.2.2)))) A p e s m below meth c H locs (F0 m 44 ls []) := by
        intro n
        induction n with
        | zero => intro v2 v3 v4 w_D w_DP H locs ls hf; cases hf
        | succ n ih =>
          intro v2 v3 v4 w_D w_DP H locs ls hf hP hD hS hl
          rw [lp_X4_spots_44] at hf
          refine lv_iload (pc := 44) hx hb dX4_spots_44 (lv_at hl 4 rfl) ?_
          refine lv_sipush (v := 361) (pc := 46) hx hb dX4_spots_46 (by decide) ?_
          refine lv_icmp_ge (pc := 49) (tgt := 79) hx hb dX4_spots_49 (by decide) (fun c9 => ?_) (fun c9 => ?_)
          · replace hf := ip c9 hf
            obtain rfl := Option.some.inj hf
            exact K6 H locs ls hP hD hS (lv_sub hl [0, 1, 2, 3, 4] rfl)
          · replace hf := im c9 hf
            refine lv_aload_n (pc := 52) hx hb dX4_spots_52 rfl (lv_at hl 0 rfl) ?_
            refine lv_iload (pc := 53) hx hb dX4_spots_53 (lv_at hl 4 rfl) ?_
            obtain ⟨x10, ex10, hf⟩ := bd_some hf
            refine ct_V (pc := 55) (As := [.int v4]) (rest := []) (wr := bX3 cI (q 0) qN on) (W1 := bX4 cI cZ a q oo ++ (bX3 cI (q 0) qN on ++ (bX0 cI (q 12) qD x10.2.1 ++ (bX1 (qD 13) x4.2 ++ bX1 (qD 14) x10.2.2)))) ⟨hx, hb, hml, hown, hts⟩ hK (c_X4_isSpot l D cI cZ cS a q qD v4 oo w_D x4.2 w_DP x10 ex10) gv_RX4_267 rfl hs_X4_isSpot rfl ⟨Nat.le_of_ble_eq_true rfl, Nat.le_of_ble_eq_true rfl⟩ (ci := 4) (q0 := 0) rfl rfl rfl hl.1 rfl (Nat.le_of_ble_eq_true rfl) dX4_spots_55 ⟨Nat.zero_le _, Nat.zero_le _⟩ hP hD hS hA [0, 1, 2, 3, 4, 13, 14, 15, 16, 17, 18, 19] [5, 6, 7, 8, 9, 10, 11, 12] [8, 9, 10, 11, 12, 0, 1, 2, 3, 4, 5, 6, 7, 13, 14, 15, 16, 17, 18, 19] rfl rfl (by decide +kernel) (by decide +kernel) (by decide +kernel) (by decide +kernel) rfl (fun H locs hP hD hS => ?_)
            refine lv_if_eq (pc := 58) (tgt := 73) hx hb dX4_spots_58 (by decide) (fun c11 => ?_) (fun c11 => ?_)
            · replace hf := ip c11 hf
              refine lv_iinc (v := (v4 + 1)) (lv' := [(4, .int (v4 + 1)), (0, .ref a), (1, .int i0), (2, .int v2), (3, .int v3)]) (pc := 73) hx hb dX4_spots_73 hl (k := 4) rfl rfl (by decide) rfl (fun ls hl => ?_)
              refine lv_goto (pc := 76) (tgt := 44) hx hb dX4_spots_76 (by decide) ?_
              exact ih _ _ _ _ _ H locs ls hf hP hD hS (lv_sub hl [1, 2, 3, 4, 0] rfl)
            · replace hf := im c11 hf
              refine lv_iinc (v := (v2 + 1)) (lv' := [(2, .int (v2 + 1)), (0, .ref a), (1, .int i0), (3, .int v3), (4, .int v4)]) (pc := 61) hx hb dX4_spots_61 hl (k := 2) rfl rfl (by decide) rfl (fun ls hl => ?_)
              refine lv_iload_n (pc := 64) hx hb dX4_spots_64 rfl (lv_at hl 3 rfl) ?_
              refine lv_bipush (v := -9) (pc := 65) hx hb dX4_spots_65 (by decide) ?_
              refine lv_icmp_ne (pc := 67) (tgt := 73) hx hb dX4_spots_67 (by decide) (fun c12 => ?_) (fun c12 => ?_)
              · replace hf := im c12 hf
                refine lv_iinc (v := (v4 + 1)) (lv' := [(4, .int (v4 + 1)), (2, .int (v2 + 1)), (0, .ref a), (1, .int i0), (3, .int v3)]) (pc := 73) hx hb dX4_spots_73 hl (k := 4) rfl rfl (by decide) rfl (fun ls hl => ?_)
                refine lv_goto (pc := 76) (tgt := 44) hx hb dX4_spots_76 (by decide) ?_
                exact ih _ _ _ _ _ H locs ls hf hP hD hS (lv_sub hl [2, 3, 1, 4, 0] rfl)
              · replace hf := ip c12 hf
                refine lv_iload (pc := 70) hx hb dX4_spots_70 (lv_at hl 4 rfl) ?_
                refine lv_istore_n (lv' := [(3, .int v4), (2, .int (v2 + 1)), (0, .ref a), (1, .int i0), (4, .int v4)]) (pc := 72) hx hb dX4_spots_72 rfl hl (by decide) rfl (fun ls hl => ?_)
                refine lv_iinc (v := (v4 + 1)) (lv' := [(4, .int (v4 + 1)), (3, .int v4), (2, .int (v2 + 1)), (0, .ref a), (1, .int i0)]) (pc := 73) hx hb dX4_spots_73 hl (k := 4) rfl rfl (by decide) rfl (fun ls hl => ?_)
                refine lv_goto (pc := 76) (tgt := 44) hx hb dX4_spots_76 (by decide) ?_
                exact ih _ _ _ _ _ H locs ls hf hP hD hS (lv_sub hl [3, 4, 2, 1, 0] rfl)
      exact KL7 1000 _ _ _ _ _ H locs ls hz5 hP hD hS (lv_sub hl [3, 4, 2, 1, 0] rfl)
    · replace hf := im c2 hf
      refine lv_iconst (v := -1) (pc := 9) hx hb dX4_spots_9 (by decide) ?_
      obtain rfl := Option.some.inj hf
      exact W.iret hx hb hr (fun t ht hW => ⟨rfl, by rw [ht]; exact hP, hD, hS.F ht⟩) hS.2.2 dX4_spots_10
def lp_X4_groupShares_2 (u_N : OS) (u_D : OS) (u_DP : OS) : Nat → Int32 → OS → Option (Int32 × OS)
  | 0, _, _ => none
  | n + 1, v1, w_O => if (u_N.1 4) ≤ v1 then some (v1, w_O) else Option.bind (f_X0_shareDown v1 u_D u_DP) fun x5 => if x5 < 0 then lp_X4_groupShares_2 u_N u_D u_DP n (v1 + 1) w_O else if 100 ≤ x5 then lp_X4_groupShares_2 u_N u_D u_DP n (v1 + 1) w_O else ck ((v1 * 100) + ((x5 : Int64).toInt32)) 800 (ck ((v1 * 100) + ((x5 : Int64).toInt32)) 800 (lt (sA w_O 11 ((((v1 * 100) + ((x5 : Int64).toInt32)) : Int32).toNatClampNeg) ((w_O.2.2 11 (((v1 * 100) + ((x5 : Int64).toInt32)) : Int32).toNatClampNeg) + 1)) fun o10 => lp_X4_groupShares_2 u_N u_D u_DP n (v1 + 1) o10))
def f_X4_groupShares (oo : OS) (on : OS) (od : OS) (odp : OS) : Option OS := Option.bind (lp_X4_groupShares_2 on od odp 1000 0 oo) fun z1 => some z1.2
set_option maxHeartbeats 4000000 in
set_option maxRecDepth 100000 in
theorem c_X4_groupShares (l : Launch) (D : va_G) (cI cZ cS : ClassId) (a : Nat) (q : Nat → Nat) (qN : Nat → Nat) (qD : Nat → Nat) (oo : OS) (on : OS) (od : OS) (odp : OS) (x : OS) (hf : f_X4_groupShares oo on od odp = some x) : Ct l yX4_groupShares cX4_groupShares 4 none 3 64 D cI cZ cS [.ref a] (bX4 cI cZ a q oo ++ (bX3 cI (q 0) qN on ++ (bX0 cI (q 12) qD od ++ bX1 (qD 14) odp))) none (bX4 cI cZ a q x ++ (bX3 cI (q 0) qN on ++ (bX0 cI (q 12) qD od ++ bX1 (qD 14) odp))) := by
  intro sz
  refine Met.ofW (cc := cX4_groupShares) (maxL := 4) (ret := none) (by decide +kernel) rfl ?_
  intro p e s m args below meth c s₁ B hml hv
  obtain ⟨rfl, hsz, hP, hK, hD0⟩ := hv
  have hx := B.exec
  have hb := B.bytes
  have hr := B.returns
  have hts0 := atoms_spec (ws := .code yX4_groupShares cX4_groupShares 4 none :: TB) B.pre
  have hts := fun w (h : w ∈ TB) => hts0 w (List.mem_cons_of_mem _ h)
  have hown : s.vm.findClass RX4 = some m.cls := findClass_of_methodNamed B.named
  have hlocks := B.notSynchronized
  subst hsz
  have hD := hD0.self (sz := s.heap.size)
  generalize hAe : va_A (bX4 cI cZ a q oo ++ (bX3 cI (q 0) qN on ++ (bX0 cI (q 12) qD od ++ bX1 (qD 14) odp))) s.heap.size = A at hD ⊢
  have hA : ∀ q : Nat, s.heap.size ≤ q → A q := fun q h => by rw [← hAe]; exact Or.inr h
  have hS : va_S A s.heap s.heap [] := va_S.rf
  obtain ⟨H, hH⟩ : ∃ H, H = s.heap := ⟨_, rfl⟩
  rw [← hH] at hP
  have hS : va_S A s.heap H [] := by rw [hH]; exact hS
  have hl := lv_entry ([.ref a]) (n := 4) (Nat.le_of_ble_eq_true rfl)
  rw [lg_entry_eq]
  generalize (lg_sl ([.ref a]) ++ List.replicate (4 - (lg_sl ([.ref a])).length) Slot.unset).toArray = ls at hl ⊢
  have hl : lv_has ls 4 [(0, .ref a)] := hl
  refine W_heap hH ?_
  obtain ⟨locs, hlo⟩ : ∃ locs : List Loc, locs = [] := ⟨_, rfl⟩
  rw [← hlo] at hS ⊢
  unfold f_X4_groupShares at hf
  refine lv_iconst (v := 0) (pc := 0) hx hb dX4_groupShares_0 (by decide) ?_
  refine lv_istore_n (lv' := [(1, .int 0), (0, .ref a)]) (pc := 1) hx hb dX4_groupShares_1 rfl hl (by decide) rfl (fun ls hl => ?_)
  obtain ⟨z1, hz1, hf⟩ := bd_some hf
  have hfz1 := hf
  clear hf
  have K2 : ∀ (H : Heap) (locs : List Loc) (ls : Array Slot), va_P D vwCl (bX4 cI cZ a q z1.2 ++ (bX3 cI (q 0) qN on ++ (bX0 cI (q 12) qD od ++ bX1 (qD 14) odp))) H → va_D A (bX4 cI cZ a q z1.2 ++ (bX3 cI (q 0) qN on ++ (bX0 cI (q 12) qD od ++ bX1 (qD 14) odp))) → va_S A s.heap H locs → lv_has ls 4 [(0, .ref a), (1, .int z1.1)] → GW l yX4_groupShares cX4_groupShares 4 none 3 64 D [.ref a] none (bX4 cI cZ a q x ++ (bX3 cI (q 0) qN on ++ (bX0 cI (q 12) qD od ++ bX1 (qD 14) odp))) A p e s m below meth c H locs (F0 m 58 ls []) := by
    intro H locs ls hP hD hS hl
    have hf := hfz1
    obtain rfl := Option.some.inj hf
    exact W.vret hx hb hr (fun t ht hW => ⟨rfl, by rw [ht]; exact hP, hD, hS.F ht⟩) hS.2.2 dX4_groupShares_58
  have KL3 : ∀ (n : Nat) (v1 : Int32) (w_O : OS) (H : Heap) (locs : List Loc) (ls : Array Slot), lp_X4_groupShares_2 on od odp n v1 w_O = some z1 → va_P D vwCl (bX4 cI cZ a q w_O ++ (bX3 cI (q 0) qN on ++ (bX0 cI (q 12) qD od ++ bX1 (qD 14) odp))) H → va_D A (bX4 cI cZ a q w_O ++ (bX3 cI (q 0) qN on ++ (bX0 cI (q 12) qD od ++ bX1 (qD 14) odp))) → va_S A s.heap H locs → lv_has ls 4 [(0, .ref a), (1, .int v1)] → GW l yX4_groupShares cX4_groupShares 4 none 3 64 D [.ref a] none (bX4 cI cZ a q x ++ (bX3 cI (q 0) qN on ++ (bX0 cI (q 12) qD od ++ bX1 (qD 14) odp))) A p e s m below meth c H locs (F0 m 2 ls []) := by
    intro n
    induction n with
    | zero => intro v1 w_O H locs ls hf; cases hf
    | succ n ih =>
      intro v1 w_O H locs ls hf hP hD hS hl
      rw [lp_X4_groupShares_2] at hf
      refine lv_iload_n (pc := 2) hx hb dX4_groupShares_2 rfl (lv_at hl 1 rfl) ?_
      refine lv_aload_n (pc := 3) hx hb dX4_groupShares_3 rfl (lv_at hl 0 rfl) ?_
      refine va_get (pc := 4) (D := D) (ci := 4) (v := .ref (q 0)) (C := RX4) (T := TX4) (N := 13) hx hb hts iX4 hown hK.1 hP 0 rfl rfl 0 (by decide) (hts _ fl_RX4_12) (fun _ h => h) rfl dX4_groupShares_4 ?_
      refine va_getN (pc := 7) (D := D) (ci := 3) (v := .int (on.1 4)) (C := RX3) (T := TX3) (N := 12) hx hb hts iX3 hown hK.1 hP 5 rfl rfl 4 (by decide) (va_Nw.use rfl (hK.2 _ nf_RX4_89)) (fun _ h => h) rfl dX4_groupShares_7 ?_
      refine lv_icmp_ge (pc := 10) (tgt := 58) hx hb dX4_groupShares_10 (by decide) (fun c4 => ?_) (fun c4 => ?_)
      · replace hf := ip c4 hf
        obtain rfl := Option.some.inj hf
        exact K2 H locs ls hP hD hS (lv_sub hl [0, 1] rfl)
      · replace hf := im c4 hf
        refine lv_aload_n (pc := 13) hx hb dX4_groupShares_13 rfl (lv_at hl 0 rfl) ?_
        refine va_get (pc := 14) (D := D) (ci := 4) (v := .ref (q 12)) (C := RX4) (T := TX4) (N := 13) hx hb hts iX4 hown hK.1 hP 0 rfl rfl 12 (by decide) (hts _ fl_RX4_54) (fun _ h => h) rfl dX4_groupShares_14 ?_
        refine lv_iload_n (pc := 17) hx hb dX4_groupShares_17 rfl (lv_at hl 1 rfl) ?_
        obtain ⟨x5, ex5, hf⟩ := bd_some hf
        refine ct_V (pc := 18) (As := [.int v1]) (rest := []) (wr := bX4 cI cZ a q w_O ++ bX3 cI (q 0) qN on) (W1 := bX4 cI cZ a q w_O ++ (bX3 cI (q 0) qN on ++ (bX0 cI (q 12) qD od ++ bX1 (qD 14) odp))) ⟨hx, hb, hml, hown, hts⟩ hK (c_X0_shareDown l D cI cZ cS (q 12) qD v1 od odp x5 ex5) gv_RX4_179 rfl hs_X0_shareDown rfl ⟨Nat.le_of_ble_eq_true rfl, Nat.le_of_ble_eq_true rfl⟩ (ci := 0) (q0 := 13) rfl rfl rfl hl.1 rfl (Nat.le_of_ble_eq_true rfl) dX4_groupShares_18 ⟨Nat.zero_le _, Nat.zero_le _⟩ hP hD hS hA [13, 14, 15, 16, 17, 18] [0, 1, 2, 3, 4, 5, 6, 7, 8, 9, 10, 11, 12] [0, 1, 2, 3, 4, 5, 6, 7, 8, 9, 10, 11, 12, 13, 14, 15, 16, 17, 18] rfl rfl (by decide +kernel) (by decide +kernel) (by decide +kernel) (by decide +kernel) rfl (fun H locs hP hD hS => ?_)
        refine lv_lstore_n (lv' := [(2, .long x5), (0, .ref a), (1, .int v1)]) (pc := 21) hx hb dX4_groupShares_21 rfl hl (by decide) rfl (fun ls hl => ?_)
        refine lv_lload_n (pc := 22) hx hb dX4_groupShares_22 rfl (lv_at hl 0 rfl) ?_
        refine lv_lconst (v := 0) (pc := 23) hx hb dX4_groupShares_23 (by decide) ?_
        refine W.lcmp (pc := 24) hx hb dX4_groupShares_24 ?_
        refine lv_if_lt (pc := 25) (tgt := 52) hx hb dX4_groupShares_25 (by decide) (fun c6 => ?_) (fun c6 => ?_)
        · replace c6 := (lg_cmp_lt _ _).mp c6
          replace hf := ip c6 hf
          refine lv_iinc (v := (v1 + 1)) (lv' := [(1, .int (v1 + 1)), (2, .long x5), (0, .ref a)]) (pc := 52) hx hb dX4_groupShares_52 hl (k := 2) rfl rfl (by decide) rfl (fun ls hl => ?_)
          refine lv_goto (pc := 55) (tgt := 2) hx hb dX4_groupShares_55 (by decide) ?_
          exact ih _ _ H locs ls hf hP hD hS (lv_sub hl [2, 0] rfl)
        · replace c6 := fun q => c6 ((lg_cmp_lt _ _).mpr q)
          replace hf := im c6 hf
          refine lv_lload_n (pc := 28) hx hb dX4_groupShares_28 rfl (lv_at hl 0 rfl) ?_
          refine lv_ldc2 (pc := 29) (v := 100) hx hb hown (hts _ cn_RX4_295) dX4_groupShares_29 ?_
          refine W.lcmp (pc := 32) hx hb dX4_groupShares_32 ?_
          refine lv_if_ge (pc := 33) (tgt := 52) hx hb dX4_groupShares_33 (by decide) (fun c7 => ?_) (fun c7 => ?_)
          · replace c7 := (lg_cmp_ge _ _).mp c7
            replace hf := ip c7 hf
            refine lv_iinc (v := (v1 + 1)) (lv' := [(1, .int (v1 + 1)), (2, .long x5), (0, .ref a)]) (pc := 52) hx hb dX4_groupShares_52 hl (k := 2) rfl rfl (by decide) rfl (fun ls hl => ?_)
            refine lv_goto (pc := 55) (tgt := 2) hx hb dX4_groupShares_55 (by decide) ?_
            exact ih _ _ H locs ls hf hP hD hS (lv_sub hl [2, 0] rfl)
          · replace c7 := fun q => c7 ((lg_cmp_ge _ _).mpr q)
            replace hf := im c7 hf
            refine lv_aload_n (pc := 36) hx hb dX4_groupShares_36 rfl (lv_at hl 1 rfl) ?_
            refine va_get (pc := 37) (D := D) (ci := 4) (v := .ref (q 11)) (C := RX4) (T := TX4) (N := 13) hx hb hts iX4 hown hK.1 hP 0 rfl rfl 11 (by decide) (hts _ fl_RX4_48) (fun _ h => h) rfl dX4_groupShares_37 ?_
            refine lv_iload_n (pc := 40) hx hb dX4_groupShares_40 rfl (lv_at hl 2 rfl) ?_
            refine lv_bipush (v := 100) (pc := 41) hx hb dX4_groupShares_41 (by decide) ?_
            refine lv_imul (pc := 43) hx hb dX4_groupShares_43 ?_
            refine lv_lload_n (pc := 44) hx hb dX4_groupShares_44 rfl (lv_at hl 0 rfl) ?_
            refine lv_l2i (pc := 45) hx hb dX4_groupShares_45 rfl ?_
            refine lv_iadd (pc := 46) hx hb dX4_groupShares_46 ?_
            refine lv_dup2_11 (pc := 47) hx hb dX4_groupShares_47 rfl rfl ?_
            obtain ⟨h8, hf⟩ := ck_some hf
            refine va_iald (pc := 48) (f := w_O.2.2 11) hx hb hK.1 hP 4 0 rfl rfl h8 dX4_groupShares_48 ?_
            refine lv_iconst (v := 1) (pc := 49) hx hb dX4_groupShares_49 (by decide) ?_
            refine lv_iadd (pc := 50) hx hb dX4_groupShares_50 ?_
            obtain ⟨h9, hf⟩ := ck_some hf
            obtain ⟨o10, eo10, hf⟩ := lt_some hf
            refine va_iast (pc := 51) (f := w_O.2.2 11) hx hb hK.1 hP hD hS 4 0 rfl rfl h9 dX4_groupShares_51 (fun H locs hP hD hS => ?_)
            replace hP : va_P D vwCl (bX4 cI cZ a q o10 ++ (bX3 cI (q 0) qN on ++ (bX0 cI (q 12) qD od ++ bX1 (qD 14) odp))) H := by rw [eo10]; exact hP
            replace hD : va_D A (bX4 cI cZ a q o10 ++ (bX3 cI (q 0) qN on ++ (bX0 cI (q 12) qD od ++ bX1 (qD 14) odp))) := by rw [eo10]; exact hD
            refine lv_iinc (v := (v1 + 1)) (lv' := [(1, .int (v1 + 1)), (2, .long x5), (0, .ref a)]) (pc := 52) hx hb dX4_groupShares_52 hl (k := 2) rfl rfl (by decide) rfl (fun ls hl => ?_)
            refine lv_goto (pc := 55) (tgt := 2) hx hb dX4_groupShares_55 (by decide) ?_
            exact ih _ _ H locs ls hf hP hD hS (lv_sub hl [2, 0] rfl)
  exact KL3 1000 _ _ H locs ls hz1 hP hD hS (lv_sub hl [1, 0] rfl)
def lp_X4_pileWithSmallestLargestGroup_38 (r3 : Int32) (u_O : OS) : Nat → Int32 → Int32 → Option (Int32 × Int32)
  | 0, _, _ => none
  | n + 1, v4, v5 => if 100 ≤ v5 then some (v4, v5) else ck ((r3 * 100) + v5) 800 (lt (if v4 < (u_O.2.2 11 (((r3 * 100) + v5) : Int32).toNatClampNeg) then (u_O.2.2 11 (((r3 * 100) + v5) : Int32).toNatClampNeg) else v4) fun y14 => lp_X4_pileWithSmallestLargestGroup_38 r3 u_O n y14 (v5 + 1))
def lp_X4_pileWithSmallestLargestGroup_7 (u_O : OS) (u_N : OS) : Nat → Int32 → Int32 → Int32 → Option (Int32 × Int32 × Int32)
  | 0, _, _, _ => none
  | n + 1, v1, v2, v3 => if (u_N.1 4) ≤ v3 then some (v1, v2, v3) else Option.bind (f_X3_isIntact v3 u_N) fun x5 => if x5 = 0 then lp_X4_pileWithSmallestLargestGroup_7 u_O u_N n v1 v2 (v3 + 1) else Option.bind (lp_X4_pileWithSmallestLargestGroup_38 v3 u_O 1000 0 0) fun z7 => if v1 = (-9) then lp_X4_pileWithSmallestLargestGroup_7 u_O u_N n v3 z7.1 (v3 + 1) else if v2 ≤ z7.1 then lp_X4_pileWithSmallestLargestGroup_7 u_O u_N n v1 v2 (v3 + 1) else lp_X4_pileWithSmallestLargestGroup_7 u_O u_N n v3 z7.1 (v3 + 1)
def f_X4_pileWithSmallestLargestGroup (oo : OS) (on : OS) : Option Int32 := Option.bind (lp_X4_pileWithSmallestLargestGroup_7 oo on 1000 (-9) 0 0) fun z1 => some z1.1
set_option maxHeartbeats 4000000 in
set_option maxRecDepth 100000 in
theorem c_X4_pileWithSmallestLargestGroup (l : Launch) (D : va_G) (cI cZ cS : ClassId) (a : Nat) (q : Nat → Nat) (qN : Nat → Nat) (oo : OS) (on : OS) (x : Int32) (hf : f_X4_pileWithSmallestLargestGroup oo on = some x) : Ct l yX4_pileWithSmallestLargestGroup cX4_pileWithSmallestLargestGroup 6 (some .int) 1 25 D cI cZ cS [.ref a] (bX4 cI cZ a q oo ++ bX3 cI (q 0) qN on) (some (.int x)) (bX4 cI cZ a q oo ++ bX3 cI (q 0) qN on) := by
  intro sz
  refine Met.ofW (cc := cX4_pileWithSmallestLargestGroup) (maxL := 6) (ret := (some .int)) (by decide +kernel) rfl ?_
  intro p e s m args below meth c s₁ B hml hv
  obtain ⟨rfl, hsz, hP, hK, hD0⟩ := hv
  have hx := B.exec
  have hb := B.bytes
  have hr := B.returns
  have hts0 := atoms_spec (ws := .code yX4_pileWithSmallestLargestGroup cX4_pileWithSmallestLargestGroup 6 (some .int) :: TB) B.pre
  have hts := fun w (h : w ∈ TB) => hts0 w (List.mem_cons_of_mem _ h)
  have hown : s.vm.findClass RX4 = some m.cls := findClass_of_methodNamed B.named
  have hlocks := B.notSynchronized
  subst hsz
  have hD := hD0.self (sz := s.heap.size)
  generalize hAe : va_A (bX4 cI cZ a q oo ++ bX3 cI (q 0) qN on) s.heap.size = A at hD ⊢
  have hA : ∀ q : Nat, s.heap.size ≤ q → A q := fun q h => by rw [← hAe]; exact Or.inr h
  have hS : va_S A s.heap s.heap [] := va_S.rf
  obtain ⟨H, hH⟩ : ∃ H, H = s.heap := ⟨_, rfl⟩
  rw [← hH] at hP
  have hS : va_S A s.heap H [] := by rw [hH]; exact hS
  have hl := lv_entry ([.ref a]) (n := 6) (Nat.le_of_ble_eq_true rfl)
  rw [lg_entry_eq]
  generalize (lg_sl ([.ref a]) ++ List.replicate (6 - (lg_sl ([.ref a])).length) Slot.unset).toArray = ls at hl ⊢
  have hl : lv_has ls 6 [(0, .ref a)] := hl
  refine W_heap hH ?_
  obtain ⟨locs, hlo⟩ : ∃ locs : List Loc, locs = [] := ⟨_, rfl⟩
  rw [← hlo] at hS ⊢
  unfold f_X4_pileWithSmallestLargestGroup at hf
  refine lv_bipush (v := -9) (pc := 0) hx hb dX4_pileWithSmallestLargestGroup_0 (by decide) ?_
  refine lv_istore_n (lv' := [(1, .int (-9)), (0, .ref a)]) (pc := 2) hx hb dX4_pileWithSmallestLargestGroup_2 rfl hl (by decide) rfl (fun ls hl => ?_)
  refine lv_iconst (v := 0) (pc := 3) hx hb dX4_pileWithSmallestLargestGroup_3 (by decide) ?_
  refine lv_istore_n (lv' := [(2, .int 0), (1, .int (-9)), (0, .ref a)]) (pc := 4) hx hb dX4_pileWithSmallestLargestGroup_4 rfl hl (by decide) rfl (fun ls hl => ?_)
  refine lv_iconst (v := 0) (pc := 5) hx hb dX4_pileWithSmallestLargestGroup_5 (by decide) ?_
  refine lv_istore_n (lv' := [(3, .int 0), (2, .int 0), (1, .int (-9)), (0, .ref a)]) (pc := 6) hx hb dX4_pileWithSmallestLargestGroup_6 rfl hl (by decide) rfl (fun ls hl => ?_)
  obtain ⟨z1, hz1, hf⟩ := bd_some hf
  have hfz1 := hf
  clear hf
  have K2 : ∀ (H : Heap) (locs : List Loc) (ls : Array Slot), va_P D vwCl (bX4 cI cZ a q oo ++ bX3 cI (q 0) qN on) H → va_D A (bX4 cI cZ a q oo ++ bX3 cI (q 0) qN on) → va_S A s.heap H locs → lv_has ls 6 [(0, .ref a), (1, .int z1.1), (2, .int z1.2.1), (3, .int z1.2.2)] → GW l yX4_pileWithSmallestLargestGroup cX4_pileWithSmallestLargestGroup 6 (some .int) 1 25 D [.ref a] (some (.int x)) (bX4 cI cZ a q oo ++ bX3 cI (q 0) qN on) A p e s m below meth c H locs (F0 m 93 ls []) := by
    intro H locs ls hP hD hS hl
    have hf := hfz1
    refine lv_iload_n (pc := 93) hx hb dX4_pileWithSmallestLargestGroup_93 rfl (lv_at hl 1 rfl) ?_
    obtain rfl := Option.some.inj hf
    exact W.iret hx hb hr (fun t ht hW => ⟨rfl, by rw [ht]; exact hP, hD, hS.F ht⟩) hS.2.2 dX4_pileWithSmallestLargestGroup_94
  have KL3 : ∀ (n : Nat) (v1 : Int32) (v2 : Int32) (v3 : Int32) (H : Heap) (locs : List Loc) (ls : Array Slot), lp_X4_pileWithSmallestLargestGroup_7 oo on n v1 v2 v3 = some z1 → va_P D vwCl (bX4 cI cZ a q oo ++ bX3 cI (q 0) qN on) H → va_D A (bX4 cI cZ a q oo ++ bX3 cI (q 0) qN on) → va_S A s.heap H locs → lv_has ls 6 [(0, .ref a), (1, .int v1), (2, .int v2), (3, .int v3)] → GW l yX4_pileWithSmallestLargestGroup cX4_pileWithSmallestLargestGroup 6 (some .int) 1 25 D [.ref a] (some (.int x)) (bX4 cI cZ a q oo ++ bX3 cI (q 0) qN on) A p e s m below meth c H locs (F0 m 7 ls []) := by
    intro n
    induction n with
    | zero => intro v1 v2 v3 H locs ls hf; cases hf
    | succ n ih =>
      intro v1 v2 v3 H locs ls hf hP hD hS hl
      rw [lp_X4_pileWithSmallestLargestGroup_7] at hf
      refine lv_iload_n (pc := 7) hx hb dX4_pileWithSmallestLargestGroup_7 rfl (lv_at hl 3 rfl) ?_
      refine lv_aload_n (pc := 8) hx hb dX4_pileWithSmallestLargestGroup_8 rfl (lv_at hl 0 rfl) ?_
      refine va_get (pc := 9) (D := D) (ci := 4) (v := .ref (q 0)) (C := RX4) (T := TX4) (N := 13) hx hb hts iX4 hown hK.1 hP 0 rfl rfl 0 (by decide) (hts _ fl_RX4_12) (fun _ h => h) rfl dX4_pileWithSmallestLargestGroup_9 ?_
      refine va_getN (pc := 12) (D := D) (ci := 3) (v := .int (on.1 4)) (C := RX3) (T := TX3) (N := 12) hx hb hts iX3 hown hK.1 hP 5 rfl rfl 4 (by decide) (va_Nw.use rfl (hK.2 _ nf_RX4_89)) (fun _ h => h) rfl dX4_pileWithSmallestLargestGroup_12 ?_
      refine lv_icmp_ge (pc := 15) (tgt := 93) hx hb dX4_pileWithSmallestLargestGroup_15 (by decide) (fun c4 => ?_) (fun c4 => ?_)
      · replace hf := ip c4 hf
        obtain rfl := Option.some.inj hf
        exact K2 H locs ls hP hD hS (lv_sub hl [0, 1, 2, 3] rfl)
      · replace hf := im c4 hf
        refine lv_aload_n (pc := 18) hx hb dX4_pileWithSmallestLargestGroup_18 rfl (lv_at hl 0 rfl) ?_
        refine va_get (pc := 19) (D := D) (ci := 4) (v := .ref (q 0)) (C := RX4) (T := TX4) (N := 13) hx hb hts iX4 hown hK.1 hP 0 rfl rfl 0 (by decide) (hts _ fl_RX4_12) (fun _ h => h) rfl dX4_pileWithSmallestLargestGroup_19 ?_
        refine lv_iload_n (pc := 22) hx hb dX4_pileWithSmallestLargestGroup_22 rfl (lv_at hl 3 rfl) ?_
        obtain ⟨x5, ex5, hf⟩ := bd_some hf
        refine ct_V (pc := 23) (As := [.int v3]) (rest := []) (wr := bX4 cI cZ a q oo) (W1 := bX4 cI cZ a q oo ++ bX3 cI (q 0) qN on) ⟨hx, hb, hml, hown, hts⟩ hK (c_X3_isIntact l D cI cZ cS (q 0) qN v3 on x5 ex5) gv_RX4_102 rfl hs_X3_isIntact rfl ⟨Nat.le_of_ble_eq_true rfl, Nat.le_of_ble_eq_true rfl⟩ (ci := 3) (q0 := 5) rfl rfl rfl hl.1 rfl (Nat.le_of_ble_eq_true rfl) dX4_pileWithSmallestLargestGroup_23 ⟨Nat.zero_le _, Nat.zero_le _⟩ hP hD hS hA [5, 6, 7, 8, 9, 10, 11, 12] [0, 1, 2, 3, 4] [0, 1, 2, 3, 4, 5, 6, 7, 8, 9, 10, 11, 12] rfl rfl (by decide +kernel) (by decide +kernel) (by decide +kernel) (by decide +kernel) rfl (fun H locs hP hD hS => ?_)
        refine lv_if_ne (pc := 26) (tgt := 32) hx hb dX4_pileWithSmallestLargestGroup_26 (by decide) (fun c6 => ?_) (fun c6 => ?_)
        · replace hf := im c6 hf
          refine lv_iconst (v := 0) (pc := 32) hx hb dX4_pileWithSmallestLargestGroup_32 (by decide) ?_
          refine lv_istore (lv' := [(4, .int 0), (0, .ref a), (1, .int v1), (2, .int v2), (3, .int v3)]) (pc := 33) hx hb dX4_pileWithSmallestLargestGroup_33 hl (by decide) rfl (fun ls hl => ?_)
          refine lv_iconst (v := 0) (pc := 35) hx hb dX4_pileWithSmallestLargestGroup_35 (by decide) ?_
          refine lv_istore (lv' := [(5, .int 0), (4, .int 0), (0, .ref a), (1, .int v1), (2, .int v2), (3, .int v3)]) (pc := 36) hx hb dX4_pileWithSmallestLargestGroup_36 hl (by decide) rfl (fun ls hl => ?_)
          obtain ⟨z7, hz7, hf⟩ := bd_some hf
          have hfz7 := hf
          clear hf
          have K8 : ∀ (H : Heap) (locs : List Loc) (ls : Array Slot), va_P D vwCl (bX4 cI cZ a q oo ++ bX3 cI (q 0) qN on) H → va_D A (bX4 cI cZ a q oo ++ bX3 cI (q 0) qN on) → va_S A s.heap H locs → lv_has ls 6 [(0, .ref a), (1, .int v1), (2, .int v2), (3, .int v3), (4, .int z7.1), (5, .int z7.2)] → GW l yX4_pileWithSmallestLargestGroup cX4_pileWithSmallestLargestGroup 6 (some .int) 1 25 D [.ref a] (some (.int x)) (bX4 cI cZ a q oo ++ bX3 cI (q 0) qN on) A p e s m below meth c H locs (F0 m 70 ls []) := by
            intro H locs ls hP hD hS hl
            have hf := hfz7
            refine lv_iload_n (pc := 70) hx hb dX4_pileWithSmallestLargestGroup_70 rfl (lv_at hl 1 rfl) ?_
            refine lv_bipush (v := -9) (pc := 71) hx hb dX4_pileWithSmallestLargestGroup_71 (by decide) ?_
            refine lv_icmp_eq (pc := 73) (tgt := 82) hx hb dX4_pileWithSmallestLargestGroup_73 (by decide) (fun c10 => ?_) (fun c10 => ?_)
            · replace hf := ip c10 hf
              refine lv_iload_n (pc := 82) hx hb dX4_pileWithSmallestLargestGroup_82 rfl (lv_at hl 3 rfl) ?_
              refine lv_istore_n (lv' := [(1, .int v3), (0, .ref a), (2, .int v2), (3, .int v3), (4, .int z7.1), (5, .int z7.2)]) (pc := 83) hx hb dX4_pileWithSmallestLargestGroup_83 rfl hl (by decide) rfl (fun ls hl => ?_)
              refine lv_iload (pc := 84) hx hb dX4_pileWithSmallestLargestGroup_84 (lv_at hl 4 rfl) ?_
              refine lv_istore_n (lv' := [(2, .int z7.1), (1, .int v3), (0, .ref a), (3, .int v3), (4, .int z7.1), (5, .int z7.2)]) (pc := 86) hx hb dX4_pileWithSmallestLargestGroup_86 rfl hl (by decide) rfl (fun ls hl => ?_)
              refine lv_iinc (v := (v3 + 1)) (lv' := [(3, .int (v3 + 1)), (2, .int z7.1), (1, .int v3), (0, .ref a), (4, .int z7.1), (5, .int z7.2)]) (pc := 87) hx hb dX4_pileWithSmallestLargestGroup_87 hl (k := 3) rfl rfl (by decide) rfl (fun ls hl => ?_)
              refine lv_goto (pc := 90) (tgt := 7) hx hb dX4_pileWithSmallestLargestGroup_90 (by decide) ?_
              exact ih _ _ _ H locs ls hf hP hD hS (lv_sub hl [3, 2, 1, 0] rfl)
            · replace hf := im c10 hf
              refine lv_iload (pc := 76) hx hb dX4_pileWithSmallestLargestGroup_76 (lv_at hl 4 rfl) ?_
              refine lv_iload_n (pc := 78) hx hb dX4_pileWithSmallestLargestGroup_78 rfl (lv_at hl 2 rfl) ?_
              refine lv_icmp_ge (pc := 79) (tgt := 87) hx hb dX4_pileWithSmallestLargestGroup_79 (by decide) (fun c11 => ?_) (fun c11 => ?_)
              · replace hf := ip c11 hf
                refine lv_iinc (v := (v3 + 1)) (lv' := [(3, .int (v3 + 1)), (0, .ref a), (1, .int v1), (2, .int v2), (4, .int z7.1), (5, .int z7.2)]) (pc := 87) hx hb dX4_pileWithSmallestLargestGroup_87 hl (k := 3) rfl rfl (by decide) rfl (fun ls hl => ?_)
                refine lv_goto (pc := 90) (tgt := 7) hx hb dX4_pileWithSmallestLargestGroup_90 (by decide) ?_
                exact ih _ _ _ H locs ls hf hP hD hS (lv_sub hl [1, 2, 3, 0] rfl)
              · replace hf := im c11 hf
                refine lv_iload_n (pc := 82) hx hb dX4_pileWithSmallestLargestGroup_82 rfl (lv_at hl 3 rfl) ?_
                refine lv_istore_n (lv' := [(1, .int v3), (0, .ref a), (2, .int v2), (3, .int v3), (4, .int z7.1), (5, .int z7.2)]) (pc := 83) hx hb dX4_pileWithSmallestLargestGroup_83 rfl hl (by decide) rfl (fun ls hl => ?_)
                refine lv_iload (pc := 84) hx hb dX4_pileWithSmallestLargestGroup_84 (lv_at hl 4 rfl) ?_
                refine lv_istore_n (lv' := [(2, .int z7.1), (1, .int v3), (0, .ref a), (3, .int v3), (4, .int z7.1), (5, .int z7.2)]) (pc := 86) hx hb dX4_pileWithSmallestLargestGroup_86 rfl hl (by decide) rfl (fun ls hl => ?_)
                refine lv_iinc (v := (v3 + 1)) (lv' := [(3, .int (v3 + 1)), (2, .int z7.1), (1, .int v3), (0, .ref a), (4, .int z7.1), (5, .int z7.2)]) (pc := 87) hx hb dX4_pileWithSmallestLargestGroup_87 hl (k := 3) rfl rfl (by decide) rfl (fun ls hl => ?_)
                refine lv_goto (pc := 90) (tgt := 7) hx hb dX4_pileWithSmallestLargestGroup_90 (by decide) ?_
                exact ih _ _ _ H locs ls hf hP hD hS (lv_sub hl [3, 2, 1, 0] rfl)
          have KL9 : ∀ (n : Nat) (v4 : Int32) (v5 : Int32) (H : Heap) (locs : List Loc) (ls : Array Slot), lp_X4_pileWithSmallestLargestGroup_38 v3 oo n v4 v5 = some z7 → va_P D vwCl (bX4 cI cZ a q oo ++ bX3 cI (q 0) qN on) H → va_D A (bX4 cI cZ a q oo ++ bX3 cI (q 0) qN on) → va_S A s.heap H locs → lv_has ls 6 [(0, .ref a), (1, .int v1), (2, .int v2), (3, .int v3), (4, .int v4), (5, .int v5)] → GW l yX4_pileWithSmallestLargestGroup cX4_pileWithSmallestLargestGroup 6 (some .int) 1 25 D [.ref a] (some (.int x)) (bX4 cI cZ a q oo ++ bX3 cI (q 0) qN on) A p e s m below meth c H locs (F0 m 38 ls []) := by
            intro n
            induction n with
            | zero => intro v4 v5 H locs ls hf; cases hf
            | succ n ih =>
              intro v4 v5 H locs ls hf hP hD hS hl
              rw [lp_X4_pileWithSmallestLargestGroup_38] at hf
              refine lv_iload (pc := 38) hx hb dX4_pileWithSmallestLargestGroup_38 (lv_at hl 5 rfl) ?_
              refine lv_bipush (v := 100) (pc := 40) hx hb dX4_pileWithSmallestLargestGroup_40 (by decide) ?_
              refine lv_icmp_ge (pc := 42) (tgt := 70) hx hb dX4_pileWithSmallestLargestGroup_42 (by decide) (fun c12 => ?_) (fun c12 => ?_)
              · replace hf := ip c12 hf
                obtain rfl := Option.some.inj hf
                exact K8 H locs ls hP hD hS (lv_sub hl [0, 1, 2, 3, 4, 5] rfl)
              · replace hf := im c12 hf
                refine lv_iload (pc := 45) hx hb dX4_pileWithSmallestLargestGroup_45 (lv_at hl 4 rfl) ?_
                refine lv_aload_n (pc := 47) hx hb dX4_pileWithSmallestLargestGroup_47 rfl (lv_at hl 0 rfl) ?_
                refine va_get (pc := 48) (D := D) (ci := 4) (v := .ref (q 11)) (C := RX4) (T := TX4) (N := 13) hx hb hts iX4 hown hK.1 hP 0 rfl rfl 11 (by decide) (hts _ fl_RX4_48) (fun _ h => h) rfl dX4_pileWithSmallestLargestGroup_48 ?_
                refine lv_iload_n (pc := 51) hx hb dX4_pileWithSmallestLargestGroup_51 rfl (lv_at hl 3 rfl) ?_
                refine lv_bipush (v := 100) (pc := 52) hx hb dX4_pileWithSmallestLargestGroup_52 (by decide) ?_
                refine lv_imul (pc := 54) hx hb dX4_pileWithSmallestLargestGroup_54 ?_
                refine lv_iload (pc := 55) hx hb dX4_pileWithSmallestLargestGroup_55 (lv_at hl 5 rfl) ?_
                refine lv_iadd (pc := 57) hx hb dX4_pileWithSmallestLargestGroup_57 ?_
                obtain ⟨h13, hf⟩ := ck_some hf
                refine va_iald (pc := 58) (f := oo.2.2 11) hx hb hK.1 hP 4 0 rfl rfl h13 dX4_pileWithSmallestLargestGroup_58 ?_
                refine va_mmax (pc := 59) hx hb (hml.trans hl.1.symm) hown (hts _ ml_RX4_297) (hts _ st_J9_max_7cf53) (hts _ in_RJ9) (hts _ cd_J9_max_7cf53) (Nat.le_of_ble_eq_true rfl) (Nat.le_of_ble_eq_true rfl) (Nat.zero_le _) (Nat.zero_le _) dX4_pileWithSmallestLargestGroup_59 ?_
                obtain ⟨y14, ey14, hf⟩ := lt_some hf
                refine lv_nmI ey14 ?_
                refine lv_istore (lv' := [(4, .int y14), (0, .ref a), (1, .int v1), (2, .int v2), (3, .int v3), (5, .int v5)]) (pc := 62) hx hb dX4_pileWithSmallestLargestGroup_62 hl (by decide) rfl (fun ls hl => ?_)
                refine lv_iinc (v := (v5 + 1)) (lv' := [(5, .int (v5 + 1)), (4, .int y14), (0, .ref a), (1, .int v1), (2, .int v2), (3, .int v3)]) (pc := 64) hx hb dX4_pileWithSmallestLargestGroup_64 hl (k := 5) rfl rfl (by decide) rfl (fun ls hl => ?_)
                refine lv_goto (pc := 67) (tgt := 38) hx hb dX4_pileWithSmallestLargestGroup_67 (by decide) ?_
                exact ih _ _ H locs ls hf hP hD hS (lv_sub hl [2, 3, 4, 5, 1, 0] rfl)
          exact KL9 1000 _ _ H locs ls hz7 hP hD hS (lv_sub hl [2, 3, 4, 5, 1, 0] rfl)
        · replace hf := ip c6 hf
          refine lv_goto (pc := 29) (tgt := 87) hx hb dX4_pileWithSmallestLargestGroup_29 (by decide) ?_
          refine lv_iinc (v := (v3 + 1)) (lv' := [(3, .int (v3 + 1)), (0, .ref a), (1, .int v1), (2, .int v2)]) (pc := 87) hx hb dX4_pileWithSmallestLargestGroup_87 hl (k := 3) rfl rfl (by decide) rfl (fun ls hl => ?_)
          refine lv_goto (pc := 90) (tgt := 7) hx hb dX4_pileWithSmallestLargestGroup_90 (by decide) ?_
          exact ih _ _ _ H locs ls hf hP hD hS (lv_sub hl [1, 2, 3, 0] rfl)
  exact KL3 1000 _ _ _ H locs ls hz1 hP hD hS (lv_sub hl [3, 2, 1, 0] rfl)
