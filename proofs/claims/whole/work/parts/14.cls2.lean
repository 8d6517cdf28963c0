def f_X2_isDigit (i0 : Int32) : Option Int32 := if i0 < 48 then some 0 else if 57 < i0 then some 0 else some 1
set_option maxHeartbeats 4000000 in
set_option maxRecDepth 100000 in
theorem c_X2_isDigit (l : Launch) (D : va_G) (cI cZ cS : ClassId) (i0 : Int32) (x : Int32) (hf : f_X2_isDigit i0 = some x) : Ct l yX2_isDigit cX2_isDigit 1 (some .boolean) 0 0 D cI cZ cS [.int i0] ([]) (some (.int x)) ([]) := by
  intro sz
  refine Met.ofW (cc := cX2_isDigit) (maxL := 1) (ret := (some .boolean)) (by decide +kernel) rfl ?_
  intro p e s m args below meth c s₁ B hml hv
  obtain ⟨rfl, hsz, hP, hK, hD0⟩ := hv
  have hx := B.exec
  have hb := B.bytes
  have hr := B.returns
  have hts0 := atoms_spec (ws := .code yX2_isDigit cX2_isDigit 1 (some .boolean) :: TB) B.pre
  have hts := fun w (h : w ∈ TB) => hts0 w (List.mem_cons_of_mem _ h)
  have hown : s.vm.findClass RX2 = some m.cls := findClass_of_methodNamed B.named
  have hlocks := B.notSynchronized
  subst hsz
  have hD := hD0.self (sz := s.heap.size)
  generalize hAe : va_A ([]) s.heap.size = A at hD ⊢
  have hA : ∀ q : Nat, s.heap.size ≤ q → A q := fun q h => by rw [← hAe]; exact Or.inr h
  have hS : va_S A s.heap s.heap [] := va_S.rf
  obtain ⟨H, hH⟩ : ∃ H, H = s.heap := ⟨_, rfl⟩
  rw [← hH] at hP
  have hS : va_S A s.heap H [] := by rw [hH]; exact hS
  have hl := lv_entry ([.int i0]) (n := 1) (Nat.le_of_ble_eq_true rfl)
  rw [lg_entry_eq]
  generalize (lg_sl ([.int i0]) ++ List.replicate (1 - (lg_sl ([.int i0])).length) Slot.unset).toArray = ls at hl ⊢
  have hl : lv_has ls 1 [(0, .int i0)] := hl
  refine W_heap hH ?_
  obtain ⟨locs, hlo⟩ : ∃ locs : List Loc, locs = [] := ⟨_, rfl⟩
  rw [← hlo] at hS ⊢
  unfold f_X2_isDigit at hf
  refine lv_iload_n (pc := 0) hx hb dX2_isDigit_0 rfl (lv_at hl 0 rfl) ?_
  refine lv_bipush (v := 48) (pc := 1) hx hb dX2_isDigit_1 (by decide) ?_
  refine lv_icmp_lt (pc := 3) (tgt := 16) hx hb dX2_isDigit_3 (by decide) (fun c1 => ?_) (fun c1 => ?_)
  · replace hf := ip c1 hf
    refine lv_iconst (v := 0) (pc := 16) hx hb dX2_isDigit_16 (by decide) ?_
    obtain rfl := Option.some.inj hf
    exact W.zret hx hb hr rfl (fun t ht hW => ⟨rfl, by rw [ht]; exact hP, hD, hS.F ht⟩) hS.2.2 dX2_isDigit_17
  · replace hf := im c1 hf
    refine lv_iload_n (pc := 6) hx hb dX2_isDigit_6 rfl (lv_at hl 0 rfl) ?_
    refine lv_bipush (v := 57) (pc := 7) hx hb dX2_isDigit_7 (by decide) ?_
    refine lv_icmp_gt (pc := 9) (tgt := 16) hx hb dX2_isDigit_9 (by decide) (fun c2 => ?_) (fun c2 => ?_)
    · replace hf := ip c2 hf
      refine lv_iconst (v := 0) (pc := 16) hx hb dX2_isDigit_16 (by decide) ?_
      obtain rfl := Option.some.inj hf
      exact W.zret hx hb hr rfl (fun t ht hW => ⟨rfl, by rw [ht]; exact hP, hD, hS.F ht⟩) hS.2.2 dX2_isDigit_17
    · replace hf := im c2 hf
      refine lv_iconst (v := 1) (pc := 12) hx hb dX2_isDigit_12 (by decide) ?_
      refine lv_goto (pc := 13) (tgt := 17) hx hb dX2_isDigit_13 (by decide) ?_
      obtain rfl := Option.some.inj hf
      exact W.zret hx hb hr rfl (fun t ht hW => ⟨rfl, by rw [ht]; exact hP, hD, hS.F ht⟩) hS.2.2 dX2_isDigit_17
def lp_X2_readNumber_23 (u_C : OS) : Nat → Int32 → Int32 → Int32 → Option (Int32 × Int32 × Int32)
  | 0, _, _, _ => none
  | n + 1, v3, v4, v5 => if (u_C.1 1) ≤ v5 then some (v3, v4, v5) else ck v5 160 (Option.bind (f_X2_isDigit (u_C.2.2 0 (v5 : Int32).toNatClampNeg)) fun x18 => if x18 = 0 then some (v3, v4, v5) else ck v5 160 (lt (if 199 < (((10 * v3) + (u_C.2.2 0 (v5 : Int32).toNatClampNeg)) - 48) then 199 else (((10 * v3) + (u_C.2.2 0 (v5 : Int32).toNatClampNeg)) - 48)) fun y21 => lp_X2_readNumber_23 u_C n y21 (v4 + 1) (v5 + 1)))
def f_X2_readNumber (i0 : Int32) (i1 : Int32) (oc : OS) : Option (Int32 × OS) := Option.bind (f_X2_skipBlanks oc) fun x1 => lt (sI x1 3 (x1.1 2)) fun o2 => Option.bind (lp_X2_readNumber_23 o2 1000 0 0 (o2.1 2)) fun z3 => Option.bind (if z3.2.1 ≤ 1 then some 0 else Option.bind (f_X2_letterHere o2) fun x14 => if x14 = 48 then some 1 else some 0 : Option Int32) fun z6 => if z3.2.1 = 0 then some ((-1), o2) else if z6 = 0 then if z3.1 < i0 then some ((-1), o2) else if z3.1 ≤ i1 then lt (sI o2 2 ((o2.1 2) + z3.2.1)) fun o12 => some (z3.1, o12) else some ((-1), o2) else some ((-1), o2)
set_option maxHeartbeats 4000000 in
set_option maxRecDepth 100000 in
theorem c_X2_readNumber (l : Launch) (D : va_G) (cI cZ cS : ClassId) (a : Nat) (q : Nat → Nat) (i0 : Int32) (i1 : Int32) (oc : OS) (x : (Int32 × OS)) (hf : f_X2_readNumber i0 i1 oc = some x) : Ct l yX2_readNumber cX2_readNumber 6 (some .int) 1 25 D cI cZ cS [.ref a, .int i0, .int i1] (bX2 cI a q oc) (some (.int x.1)) (bX2 cI a q x.2) := by
  intro sz
  refine Met.ofW (cc := cX2_readNumber) (maxL := 6) (ret := (some .int)) (by decide +kernel) rfl ?_
  intro p e s m args below meth c s₁ B hml hv
  obtain ⟨rfl, hsz, hP, hK, hD0⟩ := hv
  have hx := B.exec
  have hb := B.bytes
  have hr := B.returns
  have hts0 := atoms_spec (ws := .code yX2_readNumber cX2_readNumber 6 (some .int) :: TB) B.pre
  have hts := fun w (h : w ∈ TB) => hts0 w (List.mem_cons_of_mem _ h)
  have hown : s.vm.findClass RX2 = some m.cls := findClass_of_methodNamed B.named
  have hlocks := B.notSynchronized
  subst hsz
  have hD := hD0.self (sz := s.heap.size)
  generalize hAe : va_A (bX2 cI a q oc) s.heap.size = A at hD ⊢
  have hA : ∀ q : Nat, s.heap.size ≤ q → A q := fun q h => by rw [← hAe]; exact Or.inr h
  have hS : va_S A s.heap s.heap [] := va_S.rf
  obtain ⟨H, hH⟩ : ∃ H, H = s.heap := ⟨_, rfl⟩
  rw [← hH] at hP
  have hS : va_S A s.heap H [] := by rw [hH]; exact hS
  have hl := lv_entry ([.ref a, .int i0, .int i1]) (n := 6) (Nat.le_of_ble_eq_true rfl)
  rw [lg_entry_eq]
  generalize (lg_sl ([.ref a, .int i0, .int i1]) ++ List.replicate (6 - (lg_sl ([.ref a, .int i0, .int i1])).length) Slot.unset).toArray = ls at hl ⊢
  have hl : lv_has ls 6 [(0, .ref a), (1, .int i0), (2, .int i1)] := hl
  refine W_heap hH ?_
  obtain ⟨locs, hlo⟩ : ∃ locs : List Loc, locs = [] := ⟨_, rfl⟩
  rw [← hlo] at hS ⊢
  unfold f_X2_readNumber at hf
  refine lv_aload_n (pc := 0) hx hb dX2_readNumber_0 rfl (lv_at hl 0 rfl) ?_
  obtain ⟨x1, ex1, hf⟩ := bd_some hf
  refine ct_V1 (pc := 1) (As := []) (rest := []) (W1 := bX2 cI a q x1) ⟨hx, hb, hml, hown, hts⟩ hK (c_X2_skipBlanks l D cI cZ cS a q oc x1 ex1) gv_RX2_31 rfl hs_X2_skipBlanks rfl ⟨Nat.le_of_ble_eq_true rfl, Nat.le_of_ble_eq_true rfl⟩ (ci := 2) (q0 := 0) rfl rfl rfl hl.1 rfl (Nat.le_of_ble_eq_true rfl) dX2_readNumber_1 ⟨Nat.zero_le _, Nat.zero_le _⟩ hP hD hS hA (fun H locs hP hD hS => ?_)
  refine lv_aload_n (pc := 4) hx hb dX2_readNumber_4 rfl (lv_at hl 0 rfl) ?_
  refine lv_aload_n (pc := 5) hx hb dX2_readNumber_5 rfl (lv_at hl 0 rfl) ?_
  refine va_get (pc := 6) (D := D) (ci := 2) (v := .int (x1.1 2)) (C := RX2) (T := TX2) (N := 7) hx hb hts iX2 hown hK.1 hP 0 rfl rfl 2 (by decide) (hts _ fl_RX2_24) (fun _ h => h) rfl dX2_readNumber_6 ?_
  obtain ⟨o2, eo2, hf⟩ := lt_some hf
  refine va_put (pc := 9) (D := D) (ci := 2) (v := .int (x1.1 2)) (ty := .int) (C := RX2) (T := TX2) (N := 7) hx hb hts iX2 tyX2 tyX2_ok nmX2 hown hK.1 hP hD hS 0 rfl rfl 3 (by decide) (hts _ fl_RX2_71) (fun _ h => h) rfl (tyX2_ok 3 (by decide)) rfl rfl (Nat.le_of_ble_eq_true rfl) dX2_readNumber_9 (fun H locs hP hD hS => ?_)
  replace hP : va_P D vwCl (bX2 cI a q o2) H := by rw [eo2]; exact hP
  replace hD : va_D A (bX2 cI a q o2) := by rw [eo2]; exact hD
  refine lv_iconst (v := 0) (pc := 12) hx hb dX2_readNumber_12 (by decide) ?_
  refine lv_istore_n (lv' := [(3, .int 0), (0, .ref a), (1, .int i0), (2, .int i1)]) (pc := 13) hx hb dX2_readNumber_13 rfl hl (by decide) rfl (fun ls hl => ?_)
  refine lv_iconst (v := 0) (pc := 14) hx hb dX2_readNumber_14 (by decide) ?_
  refine lv_istore (lv' := [(4, .int 0), (3, .int 0), (0, .ref a), (1, .int i0), (2, .int i1)]) (pc := 15) hx hb dX2_readNumber_15 hl (by decide) rfl (fun ls hl => ?_)
  refine lv_aload_n (pc := 17) hx hb dX2_readNumber_17 rfl (lv_at hl 2 rfl) ?_
  refine va_get (pc := 18) (D := D) (ci := 2) (v := .int (o2.1 2)) (C := RX2) (T := TX2) (N := 7) hx hb hts iX2 hown hK.1 hP 0 rfl rfl 2 (by decide) (hts _ fl_RX2_24) (fun _ h => h) rfl dX2_readNumber_18 ?_
  refine lv_istore (lv' := [(5, .int (o2.1 2)), (4, .int 0), (3, .int 0), (0, .ref a), (1, .int i0), (2, .int i1)]) (pc := 21) hx hb dX2_readNumber_21 hl (by decide) rfl (fun ls hl => ?_)
  obtain ⟨z3, hz3, hf⟩ := bd_some hf
  have hfz3 := hf
  clear hf
  have K4 : ∀ (H : Heap) (locs : List Loc) (ls : Array Slot), va_P D vwCl (bX2 cI a q o2) H → va_D A (bX2 cI a q o2) → va_S A s.heap H locs → lv_has ls 6 [(0, .ref a), (1, .int i0), (2, .int i1), (3, .int z3.1), (4, .int z3.2.1), (5, .int z3.2.2)] → GW l yX2_readNumber cX2_readNumber 6 (some .int) 1 25 D [.ref a, .int i0, .int i1] (some (.int x.1)) (bX2 cI a q x.2) A p e s m below meth c H locs (F0 m 76 ls []) := by
    intro H locs ls hP hD hS hl
    have hf := hfz3
    refine lv_iload (pc := 76) hx hb dX2_readNumber_76 (lv_at hl 4 rfl) ?_
    refine lv_iconst (v := 1) (pc := 78) hx hb dX2_readNumber_78 (by decide) ?_
    obtain ⟨z6, hz6, hf⟩ := bd_some hf
    have K7 : ∀ (H : Heap) (locs : List Loc) (ls : Array Slot), va_P D vwCl (bX2 cI a q o2) H → va_D A (bX2 cI a q o2) → va_S A s.heap H locs → lv_has ls 6 [(0, .ref a), (1, .int i0), (2, .int i1), (3, .int z3.1), (4, .int z3.2.1), (5, .int z3.2.2)] → GW l yX2_readNumber cX2_readNumber 6 (some .int) 1 25 D [.ref a, .int i0, .int i1] (some (.int x.1)) (bX2 cI a q x.2) A p e s m below meth c H locs (F0 m 96 ls [.int z6]) := by
      intro H locs ls hP hD hS hl
      refine lv_istore (lv' := [(5, .int z6), (0, .ref a), (1, .int i0), (2, .int i1), (3, .int z3.1), (4, .int z3.2.1)]) (pc := 96) hx hb dX2_readNumber_96 hl (by decide) rfl (fun ls hl => ?_)
      refine lv_iload (pc := 98) hx hb dX2_readNumber_98 (lv_at hl 5 rfl) ?_
      refine lv_if_eq (pc := 100) (tgt := 118) hx hb dX2_readNumber_100 (by decide) (fun c8 => ?_) (fun c8 => ?_)
      · replace hf := ip c8 hf
        refine lv_iconst (v := -1) (pc := 118) hx hb dX2_readNumber_118 (by decide) ?_
        obtain rfl := Option.some.inj hf
        exact W.iret hx hb hr (fun t ht hW => ⟨rfl, by rw [ht]; exact hP, hD, hS.F ht⟩) hS.2.2 dX2_readNumber_119
      · replace hf := im c8 hf
        refine lv_iload (pc := 103) hx hb dX2_readNumber_103 (lv_at hl 0 rfl) ?_
        refine lv_if_ne (pc := 105) (tgt := 118) hx hb dX2_readNumber_105 (by decide) (fun c9 => ?_) (fun c9 => ?_)
        · replace hf := im c9 hf
          refine lv_iconst (v := -1) (pc := 118) hx hb dX2_readNumber_118 (by decide) ?_
          obtain rfl := Option.some.inj hf
          exact W.iret hx hb hr (fun t ht hW => ⟨rfl, by rw [ht]; exact hP, hD, hS.F ht⟩) hS.2.2 dX2_readNumber_119
        · replace hf := ip c9 hf
          refine lv_iload_n (pc := 108) hx hb dX2_readNumber_108 rfl (lv_at hl 4 rfl) ?_
          refine lv_iload_n (pc := 109) hx hb dX2_readNumber_109 rfl (lv_at hl 2 rfl) ?_
          refine lv_icmp_lt (pc := 110) (tgt := 118) hx hb dX2_readNumber_110 (by decide) (fun c10 => ?_) (fun c10 => ?_)
          · replace hf := ip c10 hf
            refine lv_iconst (v := -1) (pc := 118) hx hb dX2_readNumber_118 (by decide) ?_
            obtain rfl := Option.some.inj hf
            exact W.iret hx hb hr (fun t ht hW => ⟨rfl, by rw [ht]; exact hP, hD, hS.F ht⟩) hS.2.2 dX2_readNumber_119
          · replace hf := im c10 hf
            refine lv_iload_n (pc := 113) hx hb dX2_readNumber_113 rfl (lv_at hl 4 rfl) ?_
            refine lv_iload_n (pc := 114) hx hb dX2_readNumber_114 rfl (lv_at hl 3 rfl) ?_
            refine lv_icmp_le (pc := 115) (tgt := 120) hx hb dX2_readNumber_115 (by decide) (fun c11 => ?_) (fun c11 => ?_)
            · replace hf := ip c11 hf
              refine lv_aload_n (pc := 120) hx hb dX2_readNumber_120 rfl (lv_at hl 1 rfl) ?_
              refine lv_dup (pc := 121) hx hb dX2_readNumber_121 rfl ?_
              refine va_get (pc := 122) (D := D) (ci := 2) (v := .int (o2.1 2)) (C := RX2) (T := TX2) (N := 7) hx hb hts iX2 hown hK.1 hP 0 rfl rfl 2 (by decide) (hts _ fl_RX2_24) (fun _ h => h) rfl dX2_readNumber_122 ?_
              refine lv_iload (pc := 125) hx hb dX2_readNumber_125 (lv_at hl 5 rfl) ?_
              refine lv_iadd (pc := 127) hx hb dX2_readNumber_127 ?_
              obtain ⟨o12, eo12, hf⟩ := lt_some hf
              refine va_put (pc := 128) (D := D) (ci := 2) (v := .int ((o2.1 2) + z3.2.1)) (ty := .int) (C := RX2) (T := TX2) (N := 7) hx hb hts iX2 tyX2 tyX2_ok nmX2 hown hK.1 hP hD hS 0 rfl rfl 2 (by decide) (hts _ fl_RX2_24) (fun _ h => h) rfl (tyX2_ok 2 (by decide)) rfl rfl (Nat.le_of_ble_eq_true rfl) dX2_readNumber_128 (fun H locs hP hD hS => ?_)
              replace hP : va_P D vwCl (bX2 cI a q o12) H := by rw [eo12]; exact hP
              replace hD : va_D A (bX2 cI a q o12) := by rw [eo12]; exact hD
              refine lv_iload_n (pc := 131) hx hb dX2_readNumber_131 rfl (lv_at hl 4 rfl) ?_
              obtain rfl := Option.some.inj hf
              exact W.iret hx hb hr (fun t ht hW => ⟨rfl, by rw [ht]; exact hP, hD, hS.F ht⟩) hS.2.2 dX2_readNumber_132
            · replace hf := im c11 hf
              refine lv_iconst (v := -1) (pc := 118) hx hb dX2_readNumber_118 (by decide) ?_
              obtain rfl := Option.some.inj hf
              exact W.iret hx hb hr (fun t ht hW => ⟨rfl, by rw [ht]; exact hP, hD, hS.F ht⟩) hS.2.2 dX2_readNumber_119
    replace hf := hz6
    refine lv_icmp_le (pc := 79) (tgt := 95) hx hb dX2_readNumber_79 (by decide) (fun c13 => ?_) (fun c13 => ?_)
    · replace hf := ip c13 hf
      refine lv_iconst (v := 0) (pc := 95) hx hb dX2_readNumber_95 (by decide) ?_
      obtain rfl := Option.some.inj hf
      exact K7 H locs ls hP hD hS (lv_sub hl [0, 1, 2, 3, 4, 5] rfl)
    · replace hf := im c13 hf
      refine lv_aload_n (pc := 82) hx hb dX2_readNumber_82 rfl (lv_at hl 0 rfl) ?_
      obtain ⟨x14, ex14, hf⟩ := bd_some hf
      refine ct_V1 (pc := 83) (As := []) (rest := []) (W1 := bX2 cI a q o2) ⟨hx, hb, hml, hown, hts⟩ hK (c_X2_letterHere l D cI cZ cS a q o2 x14 ex14) gv_RX2_38 rfl hs_X2_letterHere rfl ⟨Nat.le_of_ble_eq_true rfl, Nat.le_of_ble_eq_true rfl⟩ (ci := 2) (q0 := 0) rfl rfl rfl hl.1 rfl (Nat.le_of_ble_eq_true rfl) dX2_readNumber_83 ⟨Nat.zero_le _, Nat.zero_le _⟩ hP hD hS hA (fun H locs hP hD hS => ?_)
      refine lv_bipush (v := 48) (pc := 86) hx hb dX2_readNumber_86 (by decide) ?_
      refine lv_icmp_ne (pc := 88) (tgt := 95) hx hb dX2_readNumber_88 (by decide) (fun c15 => ?_) (fun c15 => ?_)
      · replace hf := im c15 hf
        refine lv_iconst (v := 0) (pc := 95) hx hb dX2_readNumber_95 (by decide) ?_
        obtain rfl := Option.some.inj hf
        exact K7 H locs ls hP hD hS (lv_sub hl [0, 1, 2, 3, 4, 5] rfl)
      · replace hf := ip c15 hf
        refine lv_iconst (v := 1) (pc := 91) hx hb dX2_readNumber_91 (by decide) ?_
        refine lv_goto (pc := 92) (tgt := 96) hx hb dX2_readNumber_92 (by decide) ?_
        obtain rfl := Option.some.inj hf
        exact K7 H locs ls hP hD hS (lv_sub hl [0, 1, 2, 3, 4, 5] rfl)
  have KL5 : ∀ (n : Nat) (v3 : Int32) (v4 : Int32) (v5 : Int32) (H : Heap) (locs : List Loc) (ls : Array Slot), lp_X2_readNumber_23 o2 n v3 v4 v5 = some z3 → va_P D vwCl (bX2 cI a q o2) H → va_D A (bX2 cI a q o2) → va_S A s.heap H locs → lv_has ls 6 [(0, .ref a), (1, .int i0), (2, .int i1), (3, .int v3), (4, .int v4), (5, .int v5)] → GW l yX2_readNumber cX2_readNumber 6 (some .int) 1 25 D [.ref a, .int i0, .int i1] (some (.int x.1)) (bX2 cI a q x.2) A p e s m below meth c H locs (F0 m 23 ls []) := by
    intro n
    induction n with
    | zero => intro v3 v4 v5 H locs ls hf; cases hf
    | succ n ih =>
      intro v3 v4 v5 H locs ls hf hP hD hS hl
      rw [lp_X2_readNumber_23] at hf
      refine lv_iload (pc := 23) hx hb dX2_readNumber_23 (lv_at hl 5 rfl) ?_
      refine lv_aload_n (pc := 25) hx hb dX2_readNumber_25 rfl (lv_at hl 0 rfl) ?_
      refine va_get (pc := 26) (D := D) (ci := 2) (v := .int (o2.1 1)) (C := RX2) (T := TX2) (N := 7) hx hb hts iX2 hown hK.1 hP 0 rfl rfl 1 (by decide) (hts _ fl_RX2_15) (fun _ h => h) rfl dX2_readNumber_26 ?_
      refine lv_icmp_ge (pc := 29) (tgt := 76) hx hb dX2_readNumber_29 (by decide) (fun c16 => ?_) (fun c16 => ?_)
      · replace hf := ip c16 hf
        obtain rfl := Option.some.inj hf
        exact K4 H locs ls hP hD hS (lv_sub hl [0, 1, 2, 3, 4, 5] rfl)
      · replace hf := im c16 hf
        refine lv_aload_n (pc := 32) hx hb dX2_readNumber_32 rfl (lv_at hl 0 rfl) ?_
        refine va_get (pc := 33) (D := D) (ci := 2) (v := .ref (q 0)) (C := RX2) (T := TX2) (N := 7) hx hb hts iX2 hown hK.1 hP 0 rfl rfl 0 (by decide) (hts _ fl_RX2_9) (fun _ h => h) rfl dX2_readNumber_33 ?_
        refine lv_iload (pc := 36) hx hb dX2_readNumber_36 (lv_at hl 5 rfl) ?_
        obtain ⟨h17, hf⟩ := ck_some hf
        refine va_iald (pc := 38) (f := o2.2.2 0) hx hb hK.1 hP 1 0 rfl rfl h17 dX2_readNumber_38 ?_
        obtain ⟨x18, ex18, hf⟩ := bd_some hf
        refine ct_S0 (pc := 39) (As := [.int (o2.2.2 0 (v5 : Int32).toNatClampNeg)]) (rest := []) ⟨hx, hb, hml, hown, hts⟩ hK (c_X2_isDigit l D cI cZ cS (o2.2.2 0 (v5 : Int32).toNatClampNeg) x18 ex18) gs_RX2_95 hs_X2_isDigit rfl ⟨Nat.le_of_ble_eq_true rfl, Nat.le_of_ble_eq_true rfl⟩ hl.1 rfl (Nat.le_of_ble_eq_true rfl) dX2_readNumber_39 ⟨Nat.zero_le _, Nat.zero_le _⟩ hP hS hA (fun H locs hP hS => ?_)
        refine lv_if_eq (pc := 42) (tgt := 76) hx hb dX2_readNumber_42 (by decide) (fun c19 => ?_) (fun c19 => ?_)
        · replace hf := ip c19 hf
          obtain rfl := Option.some.inj hf
          exact K4 H locs ls hP hD hS (lv_sub hl [0, 1, 2, 3, 4, 5] rfl)
        · replace hf := im c19 hf
          refine lv_bipush (v := 10) (pc := 45) hx hb dX2_readNumber_45 (by decide) ?_
          refine lv_iload_n (pc := 47) hx hb dX2_readNumber_47 rfl (lv_at hl 3 rfl) ?_
          refine lv_imul (pc := 48) hx hb dX2_readNumber_48 ?_
          refine lv_aload_n (pc := 49) hx hb dX2_readNumber_49 rfl (lv_at hl 0 rfl) ?_
          refine va_get (pc := 50) (D := D) (ci := 2) (v := .ref (q 0)) (C := RX2) (T := TX2) (N := 7) hx hb hts iX2 hown hK.1 hP 0 rfl rfl 0 (by decide) (hts _ fl_RX2_9) (fun _ h => h) rfl dX2_readNumber_50 ?_
          refine lv_iload (pc := 53) hx hb dX2_readNumber_53 (lv_at hl 5 rfl) ?_
          obtain ⟨h20, hf⟩ := ck_some hf
          refine va_iald (pc := 55) (f := o2.2.2 0) hx hb hK.1 hP 1 0 rfl rfl h20 dX2_readNumber_55 ?_
          refine lv_iadd (pc := 56) hx hb dX2_readNumber_56 ?_
          refine lv_bipush (v := 48) (pc := 57) hx hb dX2_readNumber_57 (by decide) ?_
          refine lv_isub (pc := 59) hx hb dX2_readNumber_59 ?_
          refine lv_sipush (v := 199) (pc := 60) hx hb dX2_readNumber_60 (by decide) ?_
          refine va_mmin (pc := 63) hx hb (hml.trans hl.1.symm) hown (hts _ ml_RX2_99) (hts _ st_J9_min_7cf53) (hts _ in_RJ9) (hts _ cd_J9_min_7cf53) (Nat.le_of_ble_eq_true rfl) (Nat.le_of_ble_eq_true rfl) (Nat.zero_le _) (Nat.zero_le _) dX2_readNumber_63 ?_
          obtain ⟨y21, ey21, hf⟩ := lt_some hf
          refine lv_nmI ey21 ?_
          refine lv_istore_n (lv' := [(3, .int y21), (0, .ref a), (1, .int i0), (2, .int i1), (4, .int v4), (5, .int v5)]) (pc := 66) hx hb dX2_readNumber_66 rfl hl (by decide) rfl (fun ls hl => ?_)
          refine lv_iinc (v := (v4 + 1)) (lv' := [(4, .int (v4 + 1)), (3, .int y21), (0, .ref a), (1, .int i0), (2, .int i1), (5, .int v5)]) (pc := 67) hx hb dX2_readNumber_67 hl (k := 4) rfl rfl (by decide) rfl (fun ls hl => ?_)
          refine lv_iinc (v := (v5 + 1)) (lv' := [(5, .int (v5 + 1)), (4, .int (v4 + 1)), (3, .int y21), (0, .ref a), (1, .int i0), (2, .int i1)]) (pc := 70) hx hb dX2_readNumber_70 hl (k := 5) rfl rfl (by decide) rfl (fun ls hl => ?_)
          refine lv_goto (pc := 73) (tgt := 23) hx hb dX2_readNumber_73 (by decide) ?_
          exact ih _ _ _ H locs ls hf hP hD hS (lv_sub hl [3, 4, 5, 2, 1, 0] rfl)
  exact KL5 1000 _ _ _ H locs ls hz3 hP hD hS (lv_sub hl [3, 4, 5, 2, 1, 0] rfl)
def f_X2_readPlace (oc : OS) : Option (Int32 × OS) := Option.bind (f_X2_readNumber 0 18 oc) fun x1 => if x1.1 = (-1) then some (0, x1.2) else Option.bind (f_X2_readNumber 0 18 x1.2) fun x3 => if x3.1 = (-1) then some (0, x3.2) else lt (sI x3.2 4 (x1.1 - 9)) fun o5 => lt (sI o5 5 (x3.1 - 9)) fun o6 => some (1, o6)
set_option maxHeartbeats 4000000 in
set_option maxRecDepth 100000 in
theorem c_X2_readPlace (l : Launch) (D : va_G) (cI cZ cS : ClassId) (a : Nat) (q : Nat → Nat) (oc : OS) (x : (Int32 × OS)) (hf : f_X2_readPlace oc = some x) : Ct l yX2_readPlace cX2_readPlace 3 (some .boolean) 2 50 D cI cZ cS [.ref a] (bX2 cI a q oc) (some (.int x.1)) (bX2 cI a q x.2) := by
  intro sz
  refine Met.ofW (cc := cX2_readPlace) (maxL := 3) (ret := (some .boolean)) (by decide +kernel) rfl ?_
  intro p e s m args below meth c s₁ B hml hv
  obtain ⟨rfl, hsz, hP, hK, hD0⟩ := hv
  have hx := B.exec
  have hb := B.bytes
  have hr := B.returns
  have hts0 := atoms_spec (ws := .code yX2_readPlace cX2_readPlace 3 (some .boolean) :: TB) B.pre
  have hts := fun w (h : w ∈ TB) => hts0 w (List.mem_cons_of_mem _ h)
  have hown : s.vm.findClass RX2 = some m.cls := findClass_of_methodNamed B.named
  have hlocks := B.notSynchronized
  subst hsz
  have hD := hD0.self (sz := s.heap.size)
  generalize hAe : va_A (bX2 cI a q oc) s.heap.size = A at hD ⊢
  have hA : ∀ q : Nat, s.heap.size ≤ q → A q := fun q h => by rw [← hAe]; exact Or.inr h
  have hS : va_S A s.heap s.heap [] := va_S.rf
  obtain ⟨H, hH⟩ : ∃ H, H = s.heap := ⟨_, rfl⟩
  rw [← hH] at hP
  have hS : va_S A s.heap H [] := by rw [hH]; exact hS
  have hl := lv_entry ([.ref a]) (n := 3) (Nat.le_of_ble_eq_true rfl)
  rw [lg_entry_eq]
  generalize (lg_sl ([.ref a]) ++ List.replicate (3 - (lg_sl ([.ref a])).length) Slot.unset).toArray = ls at hl ⊢
  have hl : lv_has ls 3 [(0, .ref a)] := hl
  refine W_heap hH ?_
  obtain ⟨locs, hlo⟩ : ∃ locs : List Loc, locs = [] := ⟨_, rfl⟩
  rw [← hlo] at hS ⊢
  unfold f_X2_readPlace at hf
  refine lv_aload_n (pc := 0) hx hb dX2_readPlace_0 rfl (lv_at hl 0 rfl) ?_
  refine lv_iconst (v := 0) (pc := 1) hx hb dX2_readPlace_1 (by decide) ?_
  refine lv_bipush (v := 18) (pc := 2) hx hb dX2_readPlace_2 (by decide) ?_
  obtain ⟨x1, ex1, hf⟩ := bd_some hf
  refine ct_V1 (pc := 4) (As := [.int 0, .int 18]) (rest := []) (W1 := bX2 cI a q x1.2) ⟨hx, hb, hml, hown, hts⟩ hK (c_X2_readNumber l D cI cZ cS a q 0 18 oc x1 ex1) gv_RX2_74 rfl hs_X2_readNumber rfl ⟨Nat.le_of_ble_eq_true rfl, Nat.le_of_ble_eq_true rfl⟩ (ci := 2) (q0 := 0) rfl rfl rfl hl.1 rfl (Nat.le_of_ble_eq_true rfl) dX2_readPlace_4 ⟨Nat.zero_le _, Nat.zero_le _⟩ hP hD hS hA (fun H locs hP hD hS => ?_)
  refine lv_istore_n (lv' := [(1, .int x1.1), (0, .ref a)]) (pc := 7) hx hb dX2_readPlace_7 rfl hl (by decide) rfl (fun ls hl => ?_)
  refine lv_iload_n (pc := 8) hx hb dX2_readPlace_8 rfl (lv_at hl 0 rfl) ?_
  refine lv_iconst (v := -1) (pc := 9) hx hb dX2_readPlace_9 (by decide) ?_
  refine lv_icmp_ne (pc := 10) (tgt := 15) hx hb dX2_readPlace_10 (by decide) (fun c2 => ?_) (fun c2 => ?_)
  · replace hf := im c2 hf
    refine lv_aload_n (pc := 15) hx hb dX2_readPlace_15 rfl (lv_at hl 1 rfl) ?_
    refine lv_iconst (v := 0) (pc := 16) hx hb dX2_readPlace_16 (by decide) ?_
    refine lv_bipush (v := 18) (pc := 17) hx hb dX2_readPlace_17 (by decide) ?_
    obtain ⟨x3, ex3, hf⟩ := bd_some hf
    refine ct_V1 (pc := 19) (As := [.int 0, .int 18]) (rest := []) (W1 := bX2 cI a q x3.2) ⟨hx, hb, hml, hown, hts⟩ hK (c_X2_readNumber l D cI cZ cS a q 0 18 x1.2 x3 ex3) gv_RX2_74 rfl hs_X2_readNumber rfl ⟨Nat.le_of_ble_eq_true rfl, Nat.le_of_ble_eq_true rfl⟩ (ci := 2) (q0 := 0) rfl rfl rfl hl.1 rfl (Nat.le_of_ble_eq_true rfl) dX2_readPlace_19 ⟨Nat.zero_le _, Nat.zero_le _⟩ hP hD hS hA (fun H locs hP hD hS => ?_)
    refine lv_istore_n (lv' := [(2, .int x3.1), (1, .int x1.1), (0, .ref a)]) (pc := 22) hx hb dX2_readPlace_22 rfl hl (by decide) rfl (fun ls hl => ?_)
    refine lv_iload_n (pc := 23) hx hb dX2_readPlace_23 rfl (lv_at hl 0 rfl) ?_
    refine lv_iconst (v := -1) (pc := 24) hx hb dX2_readPlace_24 (by decide) ?_
    refine lv_icmp_ne (pc := 25) (tgt := 30) hx hb dX2_readPlace_25 (by decide) (fun c4 => ?_) (fun c4 => ?_)
    · replace hf := im c4 hf
      refine lv_aload_n (pc := 30) hx hb dX2_readPlace_30 rfl (lv_at hl 2 rfl) ?_
      refine lv_iload_n (pc := 31) hx hb dX2_readPlace_31 rfl (lv_at hl 1 rfl) ?_
      refine lv_bipush (v := 9) (pc := 32) hx hb dX2_readPlace_32 (by decide) ?_
      refine lv_isub (pc := 34) hx hb dX2_readPlace_34 ?_
      obtain ⟨o5, eo5, hf⟩ := lt_some hf
      refine va_put (pc := 35) (D := D) (ci := 2) (v := .int (x1.1 - 9)) (ty := .int) (C := RX2) (T := TX2) (N := 7) hx hb hts iX2 tyX2 tyX2_ok nmX2 hown hK.1 hP hD hS 0 rfl rfl 4 (by decide) (hts _ fl_RX2_61) (fun _ h => h) rfl (tyX2_ok 4 (by decide)) rfl rfl (Nat.le_of_ble_eq_true rfl) dX2_readPlace_35 (fun H locs hP hD hS => ?_)
      replace hP : va_P D vwCl (bX2 cI a q o5) H := by rw [eo5]; exact hP
      replace hD : va_D A (bX2 cI a q o5) := by rw [eo5]; exact hD
      refine lv_aload_n (pc := 38) hx hb dX2_readPlace_38 rfl (lv_at hl 2 rfl) ?_
      refine lv_iload_n (pc := 39) hx hb dX2_readPlace_39 rfl (lv_at hl 0 rfl) ?_
      refine lv_bipush (v := 9) (pc := 40) hx hb dX2_readPlace_40 (by decide) ?_
      refine lv_isub (pc := 42) hx hb dX2_readPlace_42 ?_
      obtain ⟨o6, eo6, hf⟩ := lt_some hf
      refine va_put (pc := 43) (D := D) (ci := 2) (v := .int (x3.1 - 9)) (ty := .int) (C := RX2) (T := TX2) (N := 7) hx hb hts iX2 tyX2 tyX2_ok nmX2 hown hK.1 hP hD hS 0 rfl rfl 5 (by decide) (hts _ fl_RX2_64) (fun _ h => h) rfl (tyX2_ok 5 (by decide)) rfl rfl (Nat.le_of_ble_eq_true rfl) dX2_readPlace_43 (fun H locs hP hD hS => ?_)
      replace hP : va_P D vwCl (bX2 cI a q o6) H := by rw [eo6]; exact hP
      replace hD : va_D A (bX2 cI a q o6) := by rw [eo6]; exact hD
      refine lv_iconst (v := 1) (pc := 46) hx hb dX2_readPlace_46 (by decide) ?_
      obtain rfl := Option.some.inj hf
      exact W.zret hx hb hr rfl (fun t ht hW => ⟨rfl, by rw [ht]; exact hP, hD, hS.F ht⟩) hS.2.2 dX2_readPlace_47
    · replace hf := ip c4 hf
      refine lv_iconst (v := 0) (pc := 28) hx hb dX2_readPlace_28 (by decide) ?_
      obtain rfl := Option.some.inj hf
      exact W.zret hx hb hr rfl (fun t ht hW => ⟨rfl, by rw [ht]; exact hP, hD, hS.F ht⟩) hS.2.2 dX2_readPlace_29
  · replace hf := ip c2 hf
    refine lv_iconst (v := 0) (pc := 13) hx hb dX2_readPlace_13 (by decide) ?_
    obtain rfl := Option.some.inj hf
    exact W.zret hx hb hr rfl (fun t ht hW => ⟨rfl, by rw [ht]; exact hP, hD, hS.F ht⟩) hS.2.2 dX2_readPlace_14
def lp_X3_hasPileAt_2 (r1 : Int32) (r2 : Int32) (u_S : OS) : Nat → Int32 → Option (Int32 ⊕ Int32)
  | 0, _ => none
  | n + 1, v3 => if (u_S.1 4) ≤ v3 then some (.inr v3) else ck v3 8 (if (u_S.2.2 0 (v3 : Int32).toNatClampNeg) = r1 then ck v3 8 (if (u_S.2.2 1 (v3 : Int32).toNatClampNeg) = r2 then some (.inl 1) else lp_X3_hasPileAt_2 r1 r2 u_S n (v3 + 1)) else lp_X3_hasPileAt_2 r1 r2 u_S n (v3 + 1))
def f_X3_hasPileAt (i0 : Int32) (i1 : Int32) (os : OS) : Option Int32 := Option.bind (lp_X3_hasPileAt_2 i0 i1 os 1000 0) (Sum.elim (fun r => some r) (fun z4 => some 0))
set_option maxHeartbeats 4000000 in
set_option maxRecDepth 100000 in
theorem c_X3_hasPileAt (l : Launch) (D : va_G) (cI cZ cS : ClassId) (a : Nat) (q : Nat → Nat) (i0 : Int32) (i1 : Int32) (os : OS) (x : Int32) (hf : f_X3_hasPileAt i0 i1 os = some x) : Ct l yX3_hasPileAt cX3_hasPileAt 4 (some .boolean) 0 0 D cI cZ cS [.ref a, .int i0, .int i1] (bX3 cI a q os) (some (.int x)) (bX3 cI a q os) := by
  intro sz
  refine Met.ofW (cc := cX3_hasPileAt) (maxL := 4) (ret := (some .boolean)) (by decide +kernel) rfl ?_
  intro p e s m args below meth c s₁ B hml hv
  obtain ⟨rfl, hsz, hP, hK, hD0⟩ := hv
  have hx := B.exec
  have hb := B.bytes
  have hr := B.returns
  have hts0 := atoms_spec (ws := .code yX3_hasPileAt cX3_hasPileAt 4 (some .boolean) :: TB) B.pre
  have hts := fun w (h : w ∈ TB) => hts0 w (List.mem_cons_of_mem _ h)
  have hown : s.vm.findClass RX3 = some m.cls := findClass_of_methodNamed B.named
  have hlocks := B.notSynchronized
  subst hsz
  have hD := hD0.self (sz := s.heap.size)
  generalize hAe : va_A (bX3 cI a q os) s.heap.size = A at hD ⊢
  have hA : ∀ q : Nat, s.heap.size ≤ q → A q := fun q h => by rw [← hAe]; exact Or.inr h
  have hS : va_S A s.heap s.heap [] := va_S.rf
  obtain ⟨H, hH⟩ : ∃ H, H = s.heap := ⟨_, rfl⟩
  rw [← hH] at hP
  have hS : va_S A s.heap H [] := by rw [hH]; exact hS
  have hl := lv_entry ([.ref a, .int i0, .int i1]) (n := 4) (Nat.le_of_ble_eq_true rfl)
  rw [lg_entry_eq]
  generalize (lg_sl ([.ref a, .int i0, .int i1]) ++ List.replicate (4 - (lg_sl ([.ref a, .int i0, .int i1])).length) Slot.unset).toArray = ls at hl ⊢
  have hl : lv_has ls 4 [(0, .ref a), (1, .int i0), (2, .int i1)] := hl
  refine W_heap hH ?_
  obtain ⟨locs, hlo⟩ : ∃ locs : List Loc, locs = [] := ⟨_, rfl⟩
  rw [← hlo] at hS ⊢
  unfold f_X3_hasPileAt at hf
  refine lv_iconst (v := 0) (pc := 0) hx hb dX3_hasPileAt_0 (by decide) ?_
  refine lv_istore_n (lv' := [(3, .int 0), (0, .ref a), (1, .int i0), (2, .int i1)]) (pc := 1) hx hb dX3_hasPileAt_1 rfl hl (by decide) rfl (fun ls hl => ?_)
  obtain ⟨z1, hz1, hf⟩ := bd_some hf
  have hfz1 := hf
  clear hf
  have K2 : ∀ z4, z1 = .inr z4 → ∀ (H : Heap) (locs : List Loc) (ls : Array Slot), va_P D vwCl (bX3 cI a q os) H → va_D A (bX3 cI a q os) → va_S A s.heap H locs → lv_has ls 4 [(0, .ref a), (1, .int i0), (2, .int i1), (3, .int z4)] → GW l yX3_hasPileAt cX3_hasPileAt 4 (some .boolean) 0 0 D [.ref a, .int i0, .int i1] (some (.int x)) (bX3 cI a q os) A p e s m below meth c H locs (F0 m 38 ls []) := by
    intro z4 hy H locs ls hP hD hS hl
    subst hy
    replace hf := sum_r hfz1
    refine lv_iconst (v := 0) (pc := 38) hx hb dX3_hasPileAt_38 (by decide) ?_
    obtain rfl := Option.some.inj hf
    exact W.zret hx hb hr rfl (fun t ht hW => ⟨rfl, by rw [ht]; exact hP, hD, hS.F ht⟩) hS.2.2 dX3_hasPileAt_39
  have KL3 : ∀ (n : Nat) (v3 : Int32) (H : Heap) (locs : List Loc) (ls : Array Slot), lp_X3_hasPileAt_2 i0 i1 os n v3 = some z1 → va_P D vwCl (bX3 cI a q os) H → va_D A (bX3 cI a q os) → va_S A s.heap H locs → lv_has ls 4 [(0, .ref a), (1, .int i0), (2, .int i1), (3, .int v3)] → GW l yX3_hasPileAt cX3_hasPileAt 4 (some .boolean) 0 0 D [.ref a, .int i0, .int i1] (some (.int x)) (bX3 cI a q os) A p e s m below meth c H locs (F0 m 2 ls []) := by
    intro n
    induction n with
    | zero => intro v3 H locs ls hf; cases hf
    | succ n ih =>
      intro v3 H locs ls hf hP hD hS hl
      rw [lp_X3_hasPileAt_2] at hf
      refine lv_iload_n (pc := 2) hx hb dX3_hasPileAt_2 rfl (lv_at hl 3 rfl) ?_
      refine lv_aload_n (pc := 3) hx hb dX3_hasPileAt_3 rfl (lv_at hl 0 rfl) ?_
      refine va_get (pc := 4) (D := D) (ci := 3) (v := .int (os.1 4)) (C := RX3) (T := TX3) (N := 12) hx hb hts iX3 hown hK.1 hP 0 rfl rfl 4 (by decide) (hts _ fl_RX3_33) (fun _ h => h) rfl dX3_hasPileAt_4 ?_
      refine lv_icmp_ge (pc := 7) (tgt := 38) hx hb dX3_hasPileAt_7 (by decide) (fun c5 => ?_) (fun c5 => ?_)
      · replace hf := ip c5 hf
        obtain rfl := Option.some.inj hf
        exact K2 _ rfl H locs ls hP hD hS (lv_sub hl [0, 1, 2, 3] rfl)
      · replace hf := im c5 hf
        refine lv_aload_n (pc := 10) hx hb dX3_hasPileAt_10 rfl (lv_at hl 0 rfl) ?_
        refine va_get (pc := 11) (D := D) (ci := 3) (v := .ref (q 0)) (C := RX3) (T := TX3) (N := 12) hx hb hts iX3 hown hK.1 hP 0 rfl rfl 0 (by decide) (hts _ fl_RX3_9) (fun _ h => h) rfl dX3_hasPileAt_11 ?_
        refine lv_iload_n (pc := 14) hx hb dX3_hasPileAt_14 rfl (lv_at hl 3 rfl) ?_
        obtain ⟨h6, hf⟩ := ck_some hf
        refine va_iald (pc := 15) (f := os.2.2 0) hx hb hK.1 hP 1 0 rfl rfl h6 dX3_hasPileAt_15 ?_
        refine lv_iload_n (pc := 16) hx hb dX3_hasPileAt_16 rfl (lv_at hl 1 rfl) ?_
        refine lv_icmp_ne (pc := 17) (tgt := 32) hx hb dX3_hasPileAt_17 (by decide) (fun c7 => ?_) (fun c7 => ?_)
        · replace hf := im c7 hf
          refine lv_iinc (v := (v3 + 1)) (lv' := [(3, .int (v3 + 1)), (0, .ref a), (1, .int i0), (2, .int i1)]) (pc := 32) hx hb dX3_hasPileAt_32 hl (k := 3) rfl rfl (by decide) rfl (fun ls hl => ?_)
          refine lv_goto (pc := 35) (tgt := 2) hx hb dX3_hasPileAt_35 (by decide) ?_
          exact ih _ H locs ls hf hP hD hS (lv_sub hl [1, 2, 3, 0] rfl)
        · replace hf := ip c7 hf
          refine lv_aload_n (pc := 20) hx hb dX3_hasPileAt_20 rfl (lv_at hl 0 rfl) ?_
          refine va_get (pc := 21) (D := D) (ci := 3) (v := .ref (q 1)) (C := RX3) (T := TX3) (N := 12) hx hb hts iX3 hown hK.1 hP 0 rfl rfl 1 (by decide) (hts _ fl_RX3_15) (fun _ h => h) rfl dX3_hasPileAt_21 ?_
          refine lv_iload_n (pc := 24) hx hb dX3_hasPileAt_24 rfl (lv_at hl 3 rfl) ?_
          obtain ⟨h8, hf⟩ := ck_some hf
          refine va_iald (pc := 25) (f := os.2.2 1) hx hb hK.1 hP 2 0 rfl rfl h8 dX3_hasPileAt_25 ?_
          refine lv_iload_n (pc := 26) hx hb dX3_hasPileAt_26 rfl (lv_at hl 2 rfl) ?_
          refine lv_icmp_ne (pc := 27) (tgt := 32) hx hb dX3_hasPileAt_27 (by decide) (fun c9 => ?_) (fun c9 => ?_)
          · replace hf := im c9 hf
            refine lv_iinc (v := (v3 + 1)) (lv' := [(3, .int (v3 + 1)), (0, .ref a), (1, .int i0), (2, .int i1)]) (pc := 32) hx hb dX3_hasPileAt_32 hl (k := 3) rfl rfl (by decide) rfl (fun ls hl => ?_)
            refine lv_goto (pc := 35) (tgt := 2) hx hb dX3_hasPileAt_35 (by decide) ?_
            exact ih _ H locs ls hf hP hD hS (lv_sub hl [1, 2, 3, 0] rfl)
          · replace hf := ip c9 hf
            refine lv_iconst (v := 1) (pc := 30) hx hb dX3_hasPileAt_30 (by decide) ?_
            obtain rfl := Option.some.inj hf
            replace hfz1 := sum_l hfz1
            obtain rfl := Option.some.inj hfz1
            exact W.zret hx hb hr rfl (fun t ht hW => ⟨rfl, by rw [ht]; exact hP, hD, hS.F ht⟩) hS.2.2 dX3_hasPileAt_31
  exact KL3 1000 _ H locs ls hz1 hP hD hS (lv_sub hl [1, 2, 3, 0] rfl)
def f_X2_readSemicolon (oc : OS) : Option (Int32 × OS) := Option.bind (f_X2_skipBlanks oc) fun x1 => Option.bind (f_X2_letterHere x1) fun x2 => if x2 = 59 then lt (sI x1 2 ((x1.1 2) + 1)) fun o4 => some (1, o4) else some (0, x1)
set_option maxHeartbeats 4000000 in
set_option maxRecDepth 100000 in
theorem c_X2_readSemicolon (l : Launch) (D : va_G) (cI cZ cS : ClassId) (a : Nat) (q : Nat → Nat) (oc : OS) (x : (Int32 × OS)) (hf : f_X2_readSemicolon oc = some x) : Ct l yX2_readSemicolon cX2_readSemicolon 1 (some .boolean) 1 21 D cI cZ cS [.ref a] (bX2 cI a q oc) (some (.int x.1)) (bX2 cI a q x.2) := by
  intro sz
  refine Met.ofW (cc := cX2_readSemicolon) (maxL := 1) (ret := (some .boolean)) (by decide +kernel) rfl ?_
  intro p e s m args below meth c s₁ B hml hv
  obtain ⟨rfl, hsz, hP, hK, hD0⟩ := hv
  have hx := B.exec
  have hb := B.bytes
  have hr := B.returns
  have hts0 := atoms_spec (ws := .code yX2_readSemicolon cX2_readSemicolon 1 (some .boolean) :: TB) B.pre
  have hts := fun w (h : w ∈ TB) => hts0 w (List.mem_cons_of_mem _ h)
  have hown : s.vm.findClass RX2 = some m.cls := findClass_of_methodNamed B.named
  have hlocks := B.notSynchronized
  subst hsz
  have hD := hD0.self (sz := s.heap.size)
  generalize hAe : va_A (bX2 cI a q oc) s.heap.size = A at hD ⊢
  have hA : ∀ q : Nat, s.heap.size ≤ q → A q := fun q h => by rw [← hAe]; exact Or.inr h
  have hS : va_S A s.heap s.heap [] := va_S.rf
  obtain ⟨H, hH⟩ : ∃ H, H = s.heap := ⟨_, rfl⟩
  rw [← hH] at hP
  have hS : va_S A s.heap H [] := by rw [hH]; exact hS
  have hl := lv_entry ([.ref a]) (n := 1) (Nat.le_of_ble_eq_true rfl)
  rw [lg_entry_eq]
  generalize (lg_sl ([.ref a]) ++ List.replicate (1 - (lg_sl ([.ref a])).length) Slot.unset).toArray = ls at hl ⊢
  have hl : lv_has ls 1 [(0, .ref a)] := hl
  refine W_heap hH ?_
  obtain ⟨locs, hlo⟩ : ∃ locs : List Loc, locs = [] := ⟨_, rfl⟩
  rw [← hlo] at hS ⊢
  unfold f_X2_readSemicolon at hf
  refine lv_aload_n (pc := 0) hx hb dX2_readSemicolon_0 rfl (lv_at hl 0 rfl) ?_
  obtain ⟨x1, ex1, hf⟩ := bd_some hf
  refine ct_V1 (pc := 1) (As := []) (rest := []) (W1 := bX2 cI a q x1) ⟨hx, hb, hml, hown, hts⟩ hK (c_X2_skipBlanks l D cI cZ cS a q oc x1 ex1) gv_RX2_31 rfl hs_X2_skipBlanks rfl ⟨Nat.le_of_ble_eq_true rfl, Nat.le_of_ble_eq_true rfl⟩ (ci := 2) (q0 := 0) rfl rfl rfl hl.1 rfl (Nat.le_of_ble_eq_true rfl) dX2_readSemicolon_1 ⟨Nat.zero_le _, Nat.zero_le _⟩ hP hD hS hA (fun H locs hP hD hS => ?_)
  refine lv_aload_n (pc := 4) hx hb dX2_readSemicolon_4 rfl (lv_at hl 0 rfl) ?_
  obtain ⟨x2, ex2, hf⟩ := bd_some hf
  refine ct_V1 (pc := 5) (As := []) (rest := []) (W1 := bX2 cI a q x1) ⟨hx, hb, hml, hown, hts⟩ hK (c_X2_letterHere l D cI cZ cS a q x1 x2 ex2) gv_RX2_38 rfl hs_X2_letterHere rfl ⟨Nat.le_of_ble_eq_true rfl, Nat.le_of_ble_eq_true rfl⟩ (ci := 2) (q0 := 0) rfl rfl rfl hl.1 rfl (Nat.le_of_ble_eq_true rfl) dX2_readSemicolon_5 ⟨Nat.zero_le _, Nat.zero_le _⟩ hP hD hS hA (fun H locs hP hD hS => ?_)
  refine lv_bipush (v := 59) (pc := 8) hx hb dX2_readSemicolon_8 (by decide) ?_
  refine lv_icmp_eq (pc := 10) (tgt := 15) hx hb dX2_readSemicolon_10 (by decide) (fun c3 => ?_) (fun c3 => ?_)
  · replace hf := ip c3 hf
    refine lv_aload_n (pc := 15) hx hb dX2_readSemicolon_15 rfl (lv_at hl 0 rfl) ?_
    refine lv_dup (pc := 16) hx hb dX2_readSemicolon_16 rfl ?_
    refine va_get (pc := 17) (D := D) (ci := 2) (v := .int (x1.1 2)) (C := RX2) (T := TX2) (N := 7) hx hb hts iX2 hown hK.1 hP 0 rfl rfl 2 (by decide) (hts _ fl_RX2_24) (fun _ h => h) rfl dX2_readSemicolon_17 ?_
    refine lv_iconst (v := 1) (pc := 20) hx hb dX2_readSemicolon_20 (by decide) ?_
    refine lv_iadd (pc := 21) hx hb dX2_readSemicolon_21 ?_
    obtain ⟨o4, eo4, hf⟩ := lt_some hf
    refine va_put (pc := 22) (D := D) (ci := 2) (v := .int ((x1.1 2) + 1)) (ty := .int) (C := RX2) (T := TX2) (N := 7) hx hb hts iX2 tyX2 tyX2_ok nmX2 hown hK.1 hP hD hS 0 rfl rfl 2 (by decide) (hts _ fl_RX2_24) (fun _ h => h) rfl (tyX2_ok 2 (by decide)) rfl rfl (Nat.le_of_ble_eq_true rfl) dX2_readSemicolon_22 (fun H locs hP hD hS => ?_)
    replace hP : va_P D vwCl (bX2 cI a q o4) H := by rw [eo4]; exact hP
    replace hD : va_D A (bX2 cI a q o4) := by rw [eo4]; exact hD
    refine lv_iconst (v := 1) (pc := 25) hx hb dX2_readSemicolon_25 (by decide) ?_
    obtain rfl := Option.some.inj hf
    exact W.zret hx hb hr rfl (fun t ht hW => ⟨rfl, by rw [ht]; exact hP, hD, hS.F ht⟩) hS.2.2 dX2_readSemicolon_26
  · replace hf := im c3 hf
    refine lv_iconst (v := 0) (pc := 13) hx hb dX2_readSemicolon_13 (by decide) ?_
    obtain rfl := Option.some.inj hf
    exact W.zret hx hb hr rfl (fun t ht hW => ⟨rfl, by rw [ht]; exact hP, hD, hS.F ht⟩) hS.2.2 dX2_readSemicolon_14
def f_X3_addPile (i0 : Int32) (i1 : Int32) (i2 : Int32) (i3 : Int32) (os : OS) : Option OS := if (os.1 4) < 0 then some os else if (os.1 4) < 8 then ck (os.1 4) 8 (lt (sA os 0 (((os.1 4) : Int32).toNatClampNeg) i0) fun o4 => ck (o4.1 4) 8 (lt (sA o4 1 (((o4.1 4) : Int32).toNatClampNeg) i1) fun o6 => ck (o6.1 4) 8 (lt (sA o6 2 (((o6.1 4) : Int32).toNatClampNeg) i2) fun o8 => ck (o8.1 4) 8 (lt (sA o8 3 (((o8.1 4) : Int32).toNatClampNeg) i3) fun o10 => lt (sI o10 5 ((o10.1 5) ||| (1 <<< ((o10.1 4) &&& 31)))) fun o11 => lt (sI o11 4 ((o11.1 4) + 1)) fun o12 => some o12)))) else some os
set_option maxHeartbeats 4000000 in
set_option maxRecDepth 100000 in
theorem c_X3_addPile (l : Launch) (D : va_G) (cI cZ cS : ClassId) (a : Nat) (q : Nat → Nat) (i0 : Int32) (i1 : Int32) (i2 : Int32) (i3 : Int32) (os : OS) (x : OS) (hf : f_X3_addPile i0 i1 i2 i3 os = some x) : Ct l yX3_addPile cX3_addPile 5 none 0 0 D cI cZ cS [.ref a, .int i0, .int i1, .int i2, .int i3] (bX3 cI a q os) none (bX3 cI a q x) := by
  intro sz
  refine Met.ofW (cc := cX3_addPile) (maxL := 5) (ret := none) (by decide +kernel) rfl ?_
  intro p e s m args below meth c s₁ B hml hv
  obtain ⟨rfl, hsz, hP, hK, hD0⟩ := hv
  have hx := B.exec
  have hb := B.bytes
  have hr := B.returns
  have hts0 := atoms_spec (ws := .code yX3_addPile cX3_addPile 5 none :: TB) B.pre
  have hts := fun w (h : w ∈ TB) => hts0 w (List.mem_cons_of_mem _ h)
  have hown : s.vm.findClass RX3 = some m.cls := findClass_of_methodNamed B.named
  have hlocks := B.notSynchronized
  subst hsz
  have hD := hD0.self (sz := s.heap.size)
  generalize hAe : va_A (bX3 cI a q os) s.heap.size = A at hD ⊢
  have hA : ∀ q : Nat, s.heap.size ≤ q → A q := fun q h => by rw [← hAe]; exact Or.inr h
  have hS : va_S A s.heap s.heap [] := va_S.rf
  obtain ⟨H, hH⟩ : ∃ H, H = s.heap := ⟨_, rfl⟩
  rw [← hH] at hP
  have hS : va_S A s.heap H [] := by rw [hH]; exact hS
  have hl := lv_entry ([.ref a, .int i0, .int i1, .int i2, .int i3]) (n := 5) (Nat.le_of_ble_eq_true rfl)
  rw [lg_entry_eq]
  generalize (lg_sl ([.ref a, .int i0, .int i1, .int i2, .int i3]) ++ List.replicate (5 - (lg_sl ([.ref a, .int i0, .int i1, .int i2, .int i3])).length) Slot.unset).toArray = ls at hl ⊢
  have hl : lv_has ls 5 [(0, .ref a), (1, .int i0), (2, .int i1), (3, .int i2), (4, .int i3)] := hl
  refine W_heap hH ?_
  obtain ⟨locs, hlo⟩ : ∃ locs : List Loc, locs = [] := ⟨_, rfl⟩
  rw [← hlo] at hS ⊢
  unfold f_X3_addPile at hf
  refine lv_aload_n (pc := 0) hx hb dX3_addPile_0 rfl (lv_at hl 0 rfl) ?_
  refine va_get (pc := 1) (D := D) (ci := 3) (v := .int (os.1 4)) (C := RX3) (T := TX3) (N := 12) hx hb hts iX3 hown hK.1 hP 0 rfl rfl 4 (by decide) (hts _ fl_RX3_33) (fun _ h => h) rfl dX3_addPile_1 ?_
  refine lv_if_lt (pc := 4) (tgt := 16) hx hb dX3_addPile_4 (by decide) (fun c1 => ?_) (fun c1 => ?_)
  · replace hf := ip c1 hf
    obtain rfl := Option.some.inj hf
    exact W.vret hx hb hr (fun t ht hW => ⟨rfl, by rw [ht]; exact hP, hD, hS.F ht⟩) hS.2.2 dX3_addPile_16
  · replace hf := im c1 hf
    refine lv_aload_n (pc := 7) hx hb dX3_addPile_7 rfl (lv_at hl 0 rfl) ?_
    refine va_get (pc := 8) (D := D) (ci := 3) (v := .int (os.1 4)) (C := RX3) (T := TX3) (N := 12) hx hb hts iX3 hown hK.1 hP 0 rfl rfl 4 (by decide) (hts _ fl_RX3_33) (fun _ h => h) rfl dX3_addPile_8 ?_
    refine lv_bipush (v := 8) (pc := 11) hx hb dX3_addPile_11 (by decide) ?_
    refine lv_icmp_lt (pc := 13) (tgt := 17) hx hb dX3_addPile_13 (by decide) (fun c2 => ?_) (fun c2 => ?_)
    · replace hf := ip c2 hf
      refine lv_aload_n (pc := 17) hx hb dX3_addPile_17 rfl (lv_at hl 0 rfl) ?_
      refine va_get (pc := 18) (D := D) (ci := 3) (v := .ref (q 0)) (C := RX3) (T := TX3) (N := 12) hx hb hts iX3 hown hK.1 hP 0 rfl rfl 0 (by decide) (hts _ fl_RX3_9) (fun _ h => h) rfl dX3_addPile_18 ?_
      refine lv_aload_n (pc := 21) hx hb dX3_addPile_21 rfl (lv_at hl 0 rfl) ?_
      refine va_get (pc := 22) (D := D) (ci := 3) (v := .int (os.1 4)) (C := RX3) (T := TX3) (N := 12) hx hb hts iX3 hown hK.1 hP 0 rfl rfl 4 (by decide) (hts _ fl_RX3_33) (fun _ h => h) rfl dX3_addPile_22 ?_
      refine lv_iload_n (pc := 25) hx hb dX3_addPile_25 rfl (lv_at hl 1 rfl) ?_
      obtain ⟨h3, hf⟩ := ck_some hf
      obtain ⟨o4, eo4, hf⟩ := lt_some hf
      refine va_iast (pc := 26) (f := os.2.2 0) hx hb hK.1 hP hD hS 1 0 rfl rfl h3 dX3_addPile_26 (fun H locs hP hD hS => ?_)
      replace hP : va_P D vwCl (bX3 cI a q o4) H := by rw [eo4]; exact hP
      replace hD : va_D A (bX3 cI a q o4) := by rw [eo4]; exact hD
      refine lv_aload_n (pc := 27) hx hb dX3_addPile_27 rfl (lv_at hl 0 rfl) ?_
      refine va_get (pc := 28) (D := D) (ci := 3) (v := .ref (q 1)) (C := RX3) (T := TX3) (N := 12) hx hb hts iX3 hown hK.1 hP 0 rfl rfl 1 (by decide) (hts _ fl_RX3_15) (fun _ h => h) rfl dX3_addPile_28 ?_
      refine lv_aload_n (pc := 31) hx hb dX3_addPile_31 rfl (lv_at hl 0 rfl) ?_
      refine va_get (pc := 32) (D := D) (ci := 3) (v := .int (o4.1 4)) (C := RX3) (T := TX3) (N := 12) hx hb hts iX3 hown hK.1 hP 0 rfl rfl 4 (by decide) (hts _ fl_RX3_33) (fun _ h => h) rfl dX3_addPile_32 ?_
      refine lv_iload_n (pc := 35) hx hb dX3_addPile_35 rfl (lv_at hl 2 rfl) ?_
      obtain ⟨h5, hf⟩ := ck_some hf
      obtain ⟨o6, eo6, hf⟩ := lt_some hf
      refine va_iast (pc := 36) (f := o4.2.2 1) hx hb hK.1 hP hD hS 2 0 rfl rfl h5 dX3_addPile_36 (fun H locs hP hD hS => ?_)
      replace hP : va_P D vwCl (bX3 cI a q o6) H := by rw [eo6]; exact hP
      replace hD : va_D A (bX3 cI a q o6) := by rw [eo6]; exact hD
      refine lv_aload_n (pc := 37) hx hb dX3_addPile_37 rfl (lv_at hl 0 rfl) ?_
      refine va_get (pc := 38) (D := D) (ci := 3) (v := .ref (q 2)) (C := RX3) (T := TX3) (N := 12) hx hb hts iX3 hown hK.1 hP 0 rfl rfl 2 (by decide) (hts _ fl_RX3_18) (fun _ h => h) rfl dX3_addPile_38 ?_
      refine lv_aload_n (pc := 41) hx hb dX3_addPile_41 rfl (lv_at hl 0 rfl) ?_
      refine va_get (pc := 42) (D := D) (ci := 3) (v := .int (o6.1 4)) (C := RX3) (T := TX3) (N := 12) hx hb hts iX3 hown hK.1 hP 0 rfl rfl 4 (by decide) (hts _ fl_RX3_33) (fun _ h => h) rfl dX3_addPile_42 ?_
      refine lv_iload_n (pc := 45) hx hb dX3_addPile_45 rfl (lv_at hl 3 rfl) ?_
      obtain ⟨h7, hf⟩ := ck_some hf
      obtain ⟨o8, eo8, hf⟩ := lt_some hf
      refine va_iast (pc := 46) (f := o6.2.2 2) hx hb hK.1 hP hD hS 3 0 rfl rfl h7 dX3_addPile_46 (fun H locs hP hD hS => ?_)
      replace hP : va_P D vwCl (bX3 cI a q o8) H := by rw [eo8]; exact hP
      replace hD : va_D A (bX3 cI a q o8) := by rw [eo8]; exact hD
      refine lv_aload_n (pc := 47) hx hb dX3_addPile_47 rfl (lv_at hl 0 rfl) ?_
      refine va_get (pc := 48) (D := D) (ci := 3) (v := .ref (q 3)) (C := RX3) (T := TX3) (N := 12) hx hb hts iX3 hown hK.1 hP 0 rfl rfl 3 (by decide) (hts _ fl_RX3_21) (fun _ h => h) rfl dX3_addPile_48 ?_
      refine lv_aload_n (pc := 51) hx hb dX3_addPile_51 rfl (lv_at hl 0 rfl) ?_
      refine va_get (pc := 52) (D := D) (ci := 3) (v := .int (o8.1 4)) (C := RX3) (T := TX3) (N := 12) hx hb hts iX3 hown hK.1 hP 0 rfl rfl 4 (by decide) (hts _ fl_RX3_33) (fun _ h => h) rfl dX3_addPile_52 ?_
      refine lv_iload (pc := 55) hx hb dX3_addPile_55 (lv_at hl 4 rfl) ?_
      obtain ⟨h9, hf⟩ := ck_some hf
      obtain ⟨o10, eo10, hf⟩ := lt_some hf
      refine va_iast (pc := 57) (f := o8.2.2 3) hx hb hK.1 hP hD hS 4 0 rfl rfl h9 dX3_addPile_57 (fun H locs hP hD hS => ?_)
      replace hP : va_P D vwCl (bX3 cI a q o10) H := by rw [eo10]; exact hP
      replace hD : va_D A (bX3 cI a q o10) := by rw [eo10]; exact hD
      refine lv_aload_n (pc := 58) hx hb dX3_addPile_58 rfl (lv_at hl 0 rfl) ?_
      refine lv_dup (pc := 59) hx hb dX3_addPile_59 rfl ?_
      refine va_get (pc := 60) (D := D) (ci := 3) (v := .int (o10.1 5)) (C := RX3) (T := TX3) (N := 12) hx hb hts iX3 hown hK.1 hP 0 rfl rfl 5 (by decide) (hts _ fl_RX3_37) (fun _ h => h) rfl dX3_addPile_60 ?_
      refine lv_iconst (v := 1) (pc := 63) hx hb dX3_addPile_63 (by decide) ?_
      refine lv_aload_n (pc := 64) hx hb dX3_addPile_64 rfl (lv_at hl 0 rfl) ?_
      refine va_get (pc := 65) (D := D) (ci := 3) (v := .int (o10.1 4)) (C := RX3) (T := TX3) (N := 12) hx hb hts iX3 hown hK.1 hP 0 rfl rfl 4 (by decide) (hts _ fl_RX3_33) (fun _ h => h) rfl dX3_addPile_65 ?_
      refine lv_ishl (pc := 68) hx hb dX3_addPile_68 ?_
      refine lv_ior (pc := 69) hx hb dX3_addPile_69 ?_
      obtain ⟨o11, eo11, hf⟩ := lt_some hf
      refine va_put (pc := 70) (D := D) (ci := 3) (v := .int ((o10.1 5) ||| (1 <<< ((o10.1 4) &&& 31)))) (ty := .int) (C := RX3) (T := TX3) (N := 12) hx hb hts iX3 tyX3 tyX3_ok nmX3 hown hK.1 hP hD hS 0 rfl rfl 5 (by decide) (hts _ fl_RX3_37) (fun _ h => h) rfl (tyX3_ok 5 (by decide)) rfl rfl (Nat.le_of_ble_eq_true rfl) dX3_addPile_70 (fun H locs hP hD hS => ?_)
      replace hP : va_P D vwCl (bX3 cI a q o11) H := by rw [eo11]; exact hP
      replace hD : va_D A (bX3 cI a q o11) := by rw [eo11]; exact hD
      refine lv_aload_n (pc := 73) hx hb dX3_addPile_73 rfl (lv_at hl 0 rfl) ?_
      refine lv_dup (pc := 74) hx hb dX3_addPile_74 rfl ?_
      refine va_get (pc := 75) (D := D) (ci := 3) (v := .int (o11.1 4)) (C := RX3) (T := TX3) (N := 12) hx hb hts iX3 hown hK.1 hP 0 rfl rfl 4 (by decide) (hts _ fl_RX3_33) (fun _ h => h) rfl dX3_addPile_75 ?_
      refine lv_iconst (v := 1) (pc := 78) hx hb dX3_addPile_78 (by decide) ?_
      refine lv_iadd (pc := 79) hx hb dX3_addPile_79 ?_
      obtain ⟨o12, eo12, hf⟩ := lt_some hf
      refine va_put (pc := 80) (D := D) (ci := 3) (v := .int ((o11.1 4) + 1)) (ty := .int) (C := RX3) (T := TX3) (N := 12) hx hb hts iX3 tyX3 tyX3_ok nmX3 hown hK.1 hP hD hS 0 rfl rfl 4 (by decide) (hts _ fl_RX3_33) (fun _ h => h) rfl (tyX3_ok 4 (by decide)) rfl rfl (Nat.le_of_ble_eq_true rfl) dX3_addPile_80 (fun H locs hP hD hS => ?_)
      replace hP : va_P D vwCl (bX3 cI a q o12) H := by rw [eo12]; exact hP
      replace hD : va_D A (bX3 cI a q o12) := by rw [eo12]; exact hD
      obtain rfl := Option.some.inj hf
      exact W.vret hx hb hr (fun t ht hW => ⟨rfl, by rw [ht]; exact hP, hD, hS.F ht⟩) hS.2.2 dX3_addPile_83
    · replace hf := im c2 hf
      obtain rfl := Option.some.inj hf
      exact W.vret hx hb hr (fun t ht hW => ⟨rfl, by rw [ht]; exact hP, hD, hS.F ht⟩) hS.2.2 dX3_addPile_16
def f_X2_readPile (oc : OS) (ot : OS) : Option (Int32 × OS × OS) := lt (sI oc 2 ((oc.1 2) + 1)) fun o1 => Option.bind (f_X2_readPlace o1) fun x2 => if x2.1 = 0 then some (0, x2.2, ot) else Option.bind (f_X3_hasPileAt (x2.2.1 4) (x2.2.1 5) ot) fun x4 => if x4 = 0 then Option.bind (f_X2_readNumber 1 9 x2.2) fun x6 => if x6.1 = (-1) then some (0, x6.2, ot) else Option.bind (f_X2_readNumber 1 99 x6.2) fun x8 => if x8.1 = (-1) then some (0, x8.2, ot) else Option.bind (f_X2_readSemicolon x8.2) fun x10 => if x10.1 = 0 then some (0, x10.2, ot) else Option.bind (f_X3_addPile (x10.2.1 4) (x10.2.1 5) x6.1 x8.1 ot) fun x12 => some (1, x10.2, x12) else lt (sI x2.2 2 (x2.2.1 3)) fun o13 => some (0, o13, ot)
set_option maxHeartbeats 4000000 in
set_option maxRecDepth 100000 in
theorem c_X2_readPile (l : Launch) (D : va_G) (cI cZ cS : ClassId) (a : Nat) (q : Nat → Nat) (b : Nat) (qb : Nat → Nat) (oc : OS) (ot : OS) (x : (Int32 × OS × OS)) (hf : f_X2_readPile oc ot = some x) : Ct l yX2_readPile cX2_readPile 4 (some .boolean) 3 72 D cI cZ cS [.ref a, .ref b] (bX2 cI a q oc ++ bX3 cI b qb ot) (some (.int x.1)) (bX2 cI a q x.2.1 ++ bX3 cI b qb x.2.2) := by
  intro sz
  refine Met.ofW (cc := cX2_readPile) (maxL := 4) (ret := (some .boolean)) (by decide +kernel) rfl ?_
  intro p e s m args below meth c s₁ B hml hv
  obtain ⟨rfl, hsz, hP, hK, hD0⟩ := hv
  have hx := B.exec
  have hb := B.bytes
  have hr := B.returns
  have hts0 := atoms_spec (ws := .code yX2_readPile cX2_readPile 4 (some .boolean) :: TB) B.pre
  have hts := fun w (h : w ∈ TB) => hts0 w (List.mem_cons_of_mem _ h)
  have hown : s.vm.findClass RX2 = some m.cls := findClass_of_methodNamed B.named
  have hlocks := B.notSynchronized
  subst hsz
  have hD := hD0.self (sz := s.heap.size)
  generalize hAe : va_A (bX2 cI a q oc ++ bX3 cI b qb ot) s.heap.size = A at hD ⊢
  have hA : ∀ q : Nat, s.heap.size ≤ q → A q := fun q h => by rw [← hAe]; exact Or.inr h
  have hS : va_S A s.heap s.heap [] := va_S.rf
  obtain ⟨H, hH⟩ : ∃ H, H = s.heap := ⟨_, rfl⟩
  rw [← hH] at hP
  have hS : va_S A s.heap H [] := by rw [hH]; exact hS
  have hl := lv_entry ([.ref a, .ref b]) (n := 4) (Nat.le_of_ble_eq_true rfl)
  rw [lg_entry_eq]
  generalize (lg_sl ([.ref a, .ref b]) ++ List.replicate (4 - (lg_sl ([.ref a, .ref b])).length) Slot.unset).toArray = ls at hl ⊢
  have hl : lv_has ls 4 [(0, .ref a), (1, .ref b)] := hl
  refine W_heap hH ?_
  obtain ⟨locs, hlo⟩ : ∃ locs : List Loc, locs = [] := ⟨_, rfl⟩
  rw [← hlo] at hS ⊢
  unfold f_X2_readPile at hf
  refine lv_aload_n (pc := 0) hx hb dX2_readPile_0 rfl (lv_at hl 0 rfl) ?_
  refine lv_dup (pc := 1) hx hb dX2_readPile_1 rfl ?_
  refine va_get (pc := 2) (D := D) (ci := 2) (v := .int (oc.1 2)) (C := RX2) (T := TX2) (N := 7) hx hb hts iX2 hown hK.1 hP 0 rfl rfl 2 (by decide) (hts _ fl_RX2_24) (fun _ h => h) rfl dX2_readPile_2 ?_
  refine lv_iconst (v := 1) (pc := 5) hx hb dX2_readPile_5 (by decide) ?_
  refine lv_iadd (pc := 6) hx hb dX2_readPile_6 ?_
  obtain ⟨o1, eo1, hf⟩ := lt_some hf
  refine va_put (pc := 7) (D := D) (ci := 2) (v := .int ((oc.1 2) + 1)) (ty := .int) (C := RX2) (T := TX2) (N := 7) hx hb hts iX2 tyX2 tyX2_ok nmX2 hown hK.1 hP hD hS 0 rfl rfl 2 (by decide) (hts _ fl_RX2_24) (fun _ h => h) rfl (tyX2_ok 2 (by decide)) rfl rfl (Nat.le_of_ble_eq_true rfl) dX2_readPile_7 (fun H locs hP hD hS => ?_)
  replace hP : va_P D vwCl (bX2 cI a q o1 ++ bX3 cI b qb ot) H := by rw [eo1]; exact hP
  replace hD : va_D A (bX2 cI a q o1 ++ bX3 cI b qb ot) := by rw [eo1]; exact hD
  refine lv_aload_n (pc := 10) hx hb dX2_readPile_10 rfl (lv_at hl 0 rfl) ?_
  obtain ⟨x2, ex2, hf⟩ := bd_some hf
  refine ct_V (pc := 11) (As := []) (rest := []) (wr := bX3 cI b qb ot) (W1 := bX2 cI a q x2.2 ++ bX3 cI b qb ot) ⟨hx, hb, hml, hown, hts⟩ hK (c_X2_readPlace l D cI cZ cS a q o1 x2 ex2) gv_RX2_57 rfl hs_X2_readPlace rfl ⟨Nat.le_of_ble_eq_true rfl, Nat.le_of_ble_eq_true rfl⟩ (ci := 2) (q0 := 0) rfl rfl rfl hl.1 rfl (Nat.le_of_ble_eq_true rfl) dX2_readPile_11 ⟨Nat.zero_le _, Nat.zero_le _⟩ hP hD hS hA [0, 1] [2, 3, 4, 5, 6, 7, 8, 9] [8, 9, 0, 1, 2, 3, 4, 5, 6, 7] rfl rfl (by decide +kernel) (by decide +kernel) (by decide +kernel) (by decide +kernel) rfl (fun H locs hP hD hS => ?_)
  refine lv_if_ne (pc := 14) (tgt := 19) hx hb dX2_readPile_14 (by decide) (fun c3 => ?_) (fun c3 => ?_)
  · replace hf := im c3 hf
    refine lv_aload_n (pc := 19) hx hb dX2_readPile_19 rfl (lv_at hl 1 rfl) ?_
    refine lv_aload_n (pc := 20) hx hb dX2_readPile_20 rfl (lv_at hl 0 rfl) ?_
    refine va_get (pc := 21) (D := D) (ci := 2) (v := .int (x2.2.1 4)) (C := RX2) (T := TX2) (N := 7) hx hb hts iX2 hown hK.1 hP 0 rfl rfl 4 (by decide) (hts _ fl_RX2_61) (fun _ h => h) rfl dX2_readPile_21 ?_
    refine lv_aload_n (pc := 24) hx hb dX2_readPile_24 rfl (lv_at hl 0 rfl) ?_
    refine va_get (pc := 25) (D := D) (ci := 2) (v := .int (x2.2.1 5)) (C := RX2) (T := TX2) (N := 7) hx hb hts iX2 hown hK.1 hP 0 rfl rfl 5 (by decide) (hts _ fl_RX2_64) (fun _ h => h) rfl dX2_readPile_25 ?_
    obtain ⟨x4, ex4, hf⟩ := bd_some hf
    refine ct_V (pc := 28) (As := [.int (x2.2.1 4), .int (x2.2.1 5)]) (rest := []) (wr := bX2 cI a q x2.2) (W1 := bX2 cI a q x2.2 ++ bX3 cI b qb ot) ⟨hx, hb, hml, hown, hts⟩ hK (c_X3_hasPileAt l D cI cZ cS b qb (x2.2.1 4) (x2.2.1 5) ot x4 ex4) gv_RX2_67 rfl hs_X3_hasPileAt rfl ⟨Nat.le_of_ble_eq_true rfl, Nat.le_of_ble_eq_true rfl⟩ (ci := 3) (q0 := 2) rfl rfl rfl hl.1 rfl (Nat.le_of_ble_eq_true rfl) dX2_readPile_28 ⟨Nat.zero_le _, Nat.zero_le _⟩ hP hD hS hA [2, 3, 4, 5, 6, 7, 8, 9] [0, 1] [0, 1, 2, 3, 4, 5, 6, 7, 8, 9] rfl rfl (by decide +kernel) (by decide +kernel) (by decide +kernel) (by decide +kernel) rfl (fun H locs hP hD hS => ?_)
    refine lv_if_eq (pc := 31) (tgt := 44) hx hb dX2_readPile_31 (by decide) (fun c5 => ?_) (fun c5 => ?_)
    · replace hf := ip c5 hf
      refine lv_aload_n (pc := 44) hx hb dX2_readPile_44 rfl (lv_at hl 0 rfl) ?_
      refine lv_iconst (v := 1) (pc := 45) hx hb dX2_readPile_45 (by decide) ?_
      refine lv_bipush (v := 9) (pc := 46) hx hb dX2_readPile_46 (by decide) ?_
      obtain ⟨x6, ex6, hf⟩ := bd_some hf
      refine ct_V (pc := 48) (As := [.int 1, .int 9]) (rest := []) (wr := bX3 cI b qb ot) (W1 := bX2 cI a q x6.2 ++ bX3 cI b qb ot) ⟨hx, hb, hml, hown, hts⟩ hK (c_X2_readNumber l D cI cZ cS a q 1 9 x2.2 x6 ex6) gv_RX2_74 rfl hs_X2_readNumber rfl ⟨Nat.le_of_ble_eq_true rfl, Nat.le_of_ble_eq_true rfl⟩ (ci := 2) (q0 := 0) rfl rfl rfl hl.1 rfl (Nat.le_of_ble_eq_true rfl) dX2_readPile_48 ⟨Nat.zero_le _, Nat.zero_le _⟩ hP hD hS hA [0, 1] [2, 3, 4, 5, 6, 7, 8, 9] [8, 9, 0, 1, 2, 3, 4, 5, 6, 7] rfl rfl (by decide +kernel) (by decide +kernel) (by decide +kernel) (by decide +kernel) rfl (fun H locs hP hD hS => ?_)
      refine lv_istore_n (lv' := [(2, .int x6.1), (0, .ref a), (1, .ref b)]) (pc := 51) hx hb dX2_readPile_51 rfl hl (by decide) rfl (fun ls hl => ?_)
      refine lv_iload_n (pc := 52) hx hb dX2_readPile_52 rfl (lv_at hl 0 rfl) ?_
      refine lv_iconst (v := -1) (pc := 53) hx hb dX2_readPile_53 (by decide) ?_
      refine lv_icmp_ne (pc := 54) (tgt := 59) hx hb dX2_readPile_54 (by decide) (fun c7 => ?_) (fun c7 => ?_)
      · replace hf := im c7 hf
        refine lv_aload_n (pc := 59) hx hb dX2_readPile_59 rfl (lv_at hl 1 rfl) ?_
        refine lv_iconst (v := 1) (pc := 60) hx hb dX2_readPile_60 (by decide) ?_
        refine lv_bipush (v := 99) (pc := 61) hx hb dX2_readPile_61 (by decide) ?_
        obtain ⟨x8, ex8, hf⟩ := bd_some hf
        refine ct_V (pc := 63) (As := [.int 1, .int 99]) (rest := []) (wr := bX3 cI b qb ot) (W1 := bX2 cI a q x8.2 ++ bX3 cI b qb ot) ⟨hx, hb, hml, hown, hts⟩ hK (c_X2_readNumber l D cI cZ cS a q 1 99 x6.2 x8 ex8) gv_RX2_74 rfl hs_X2_readNumber rfl ⟨Nat.le_of_ble_eq_true rfl, Nat.le_of_ble_eq_true rfl⟩ (ci := 2) (q0 := 0) rfl rfl rfl hl.1 rfl (Nat.le_of_ble_eq_true rfl) dX2_readPile_63 ⟨Nat.zero_le _, Nat.zero_le _⟩ hP hD hS hA [0, 1] [2, 3, 4, 5, 6, 7, 8, 9] [8, 9, 0, 1, 2, 3, 4, 5, 6, 7] rfl rfl (by decide +kernel) (by decide +kernel) (by decide +kernel) (by decide +kernel) rfl (fun H locs hP hD hS => ?_)
        refine lv_istore_n (lv' := [(3, .int x8.1), (2, .int x6.1), (0, .ref a), (1, .ref b)]) (pc := 66) hx hb dX2_readPile_66 rfl hl (by decide) rfl (fun ls hl => ?_)
        refine lv_iload_n (pc := 67) hx hb dX2_readPile_67 rfl (lv_at hl 0 rfl) ?_
        refine lv_iconst (v := -1) (pc := 68) hx hb dX2_readPile_68 (by decide) ?_
        refine lv_icmp_eq (pc := 69) (tgt := 79) hx hb dX2_readPile_69 (by decide) (fun c9 => ?_) (fun c9 => ?_)
        · replace hf := ip c9 hf
          refine lv_iconst (v := 0) (pc := 79) hx hb dX2_readPile_79 (by decide) ?_
          obtain rfl := Option.some.inj hf
          exact W.zret hx hb hr rfl (fun t ht hW => ⟨rfl, by rw [ht]; exact hP, hD, hS.F ht⟩) hS.2.2 dX2_readPile_80
        · replace hf := im c9 hf
          refine lv_aload_n (pc := 72) hx hb dX2_readPile_72 rfl (lv_at hl 2 rfl) ?_
          obtain ⟨x10, ex10, hf⟩ := bd_some hf
          refine ct_V (pc := 73) (As := []) (rest := []) (wr := bX3 cI b qb ot) (W1 := bX2 cI a q x10.2 ++ bX3 cI b qb ot) ⟨hx, hb, hml, hown, hts⟩ hK (c_X2_readSemicolon l D cI cZ cS a q x8.2 x10 ex10) gv_RX2_78 rfl hs_X2_readSemicolon rfl ⟨Nat.le_of_ble_eq_true rfl, Nat.le_of_ble_eq_true rfl⟩ (ci := 2) (q0 := 0) rfl rfl rfl hl.1 rfl (Nat.le_of_ble_eq_true rfl) dX2_readPile_73 ⟨Nat.zero_le _, Nat.zero_le _⟩ hP hD hS hA [0, 1] [2, 3, 4, 5, 6, 7, 8, 9] [8, 9, 0, 1, 2, 3, 4, 5, 6, 7] rfl rfl (by decide +kernel) (by decide +kernel) (by decide +kernel) (by decide +kernel) rfl (fun H locs hP hD hS => ?_)
          refine lv_if_ne (pc := 76) (tgt := 81) hx hb dX2_readPile_76 (by decide) (fun c11 => ?_) (fun c11 => ?_)
          · replace hf := im c11 hf
            refine lv_aload_n (pc := 81) hx hb dX2_readPile_81 rfl (lv_at hl 3 rfl) ?_
            refine lv_aload_n (pc := 82) hx hb dX2_readPile_82 rfl (lv_at hl 2 rfl) ?_
            refine va_get (pc := 83) (D := D) (ci := 2) (v := .int (x10.2.1 4)) (C := RX2) (T := TX2) (N := 7) hx hb hts iX2 hown hK.1 hP 0 rfl rfl 4 (by decide) (hts _ fl_RX2_61) (fun _ h => h) rfl dX2_readPile_83 ?_
            refine lv_aload_n (pc := 86) hx hb dX2_readPile_86 rfl (lv_at hl 2 rfl) ?_
            refine va_get (pc := 87) (D := D) (ci := 2) (v := .int (x10.2.1 5)) (C := RX2) (T := TX2) (N := 7) hx hb hts iX2 hown hK.1 hP 0 rfl rfl 5 (by decide) (hts _ fl_RX2_64) (fun _ h => h) rfl dX2_readPile_87 ?_
            refine lv_iload_n (pc := 90) hx hb dX2_readPile_90 rfl (lv_at hl 1 rfl) ?_
            refine lv_iload_n (pc := 91) hx hb dX2_readPile_91 rfl (lv_at hl 0 rfl) ?_
            obtain ⟨x12, ex12, hf⟩ := bd_some hf
            refine ct_V (pc := 92) (As := [.int (x10.2.1 4), .int (x10.2.1 5), .int x6.1, .int x8.1]) (rest := []) (wr := bX2 cI a q x10.2) (W1 := bX2 cI a q x10.2 ++ bX3 cI b qb x12) ⟨hx, hb, hml, hown, hts⟩ hK (c_X3_addPile l D cI cZ cS b qb (x10.2.1 4) (x10.2.1 5) x6.1 x8.1 ot x12 ex12) gv_RX2_81 rfl hs_X3_addPile rfl ⟨Nat.le_of_ble_eq_true rfl, Nat.le_of_ble_eq_true rfl⟩ (ci := 3) (q0 := 2) rfl rfl rfl hl.1 rfl (Nat.le_of_ble_eq_true rfl) dX2_readPile_92 ⟨Nat.zero_le _, Nat.zero_le _⟩ hP hD hS hA [2, 3, 4, 5, 6, 7, 8, 9] [0, 1] [0, 1, 2, 3, 4, 5, 6, 7, 8, 9] rfl rfl (by decide +kernel) (by decide +kernel) (by decide +kernel) (by decide +kernel) rfl (fun H locs hP hD hS => ?_)
            refine lv_iconst (v := 1) (pc := 95) hx hb dX2_readPile_95 (by decide) ?_
            obtain rfl := Option.some.inj hf
            exact W.zret hx hb hr rfl (fun t ht hW => ⟨rfl, by rw [ht]; exact hP, hD, hS.F ht⟩) hS.2.2 dX2_readPile_96
          · replace hf := ip c11 hf
            refine lv_iconst (v := 0) (pc := 79) hx hb dX2_readPile_79 (by decide) ?_
            obtain rfl := Option.some.inj hf
            exact W.zret hx hb hr rfl (fun t ht hW => ⟨rfl, by rw [ht]; exact hP, hD, hS.F ht⟩) hS.2.2 dX2_readPile_80
      · replace hf := ip c7 hf
        refine lv_iconst (v := 0) (pc := 57) hx hb dX2_readPile_57 (by decide) ?_
        obtain rfl := Option.some.inj hf
        exact W.zret hx hb hr rfl (fun t ht hW => ⟨rfl, by rw [ht]; exact hP, hD, hS.F ht⟩) hS.2.2 dX2_readPile_58
    · replace hf := im c5 hf
      refine lv_aload_n (pc := 34) hx hb dX2_readPile_34 rfl (lv_at hl 0 rfl) ?_
      refine lv_aload_n (pc := 35) hx hb dX2_readPile_35 rfl (lv_at hl 0 rfl) ?_
      refine va_get (pc := 36) (D := D) (ci := 2) (v := .int (x2.2.1 3)) (C := RX2) (T := TX2) (N := 7) hx hb hts iX2 hown hK.1 hP 0 rfl rfl 3 (by decide) (hts _ fl_RX2_71) (fun _ h => h) rfl dX2_readPile_36 ?_
      obtain ⟨o13, eo13, hf⟩ := lt_some hf
      refine va_put (pc := 39) (D := D) (ci := 2) (v := .int (x2.2.1 3)) (ty := .int) (C := RX2) (T := TX2) (N := 7) hx hb hts iX2 tyX2 tyX2_ok nmX2 hown hK.1 hP hD hS 0 rfl rfl 2 (by decide) (hts _ fl_RX2_24) (fun _ h => h) rfl (tyX2_ok 2 (by decide)) rfl rfl (Nat.le_of_ble_eq_true rfl) dX2_readPile_39 (fun H locs hP hD hS => ?_)
      replace hP : va_P D vwCl (bX2 cI a q o13 ++ bX3 cI b qb ot) H := by rw [eo13]; exact hP
      replace hD : va_D A (bX2 cI a q o13 ++ bX3 cI b qb ot) := by rw [eo13]; exact hD
      refine lv_iconst (v := 0) (pc := 42) hx hb dX2_readPile_42 (by decide) ?_
      obtain rfl := Option.some.inj hf
      exact W.zret hx hb hr rfl (fun t ht hW => ⟨rfl, by rw [ht]; exact hP, hD, hS.F ht⟩) hS.2.2 dX2_readPile_43
  · replace hf := ip c3 hf
    refine lv_iconst (v := 0) (pc := 17) hx hb dX2_readPile_17 (by decide) ?_
    obtain rfl := Option.some.inj hf
    exact W.zret hx hb hr rfl (fun t ht hW => ⟨rfl, by rw [ht]; exact hP, hD, hS.F ht⟩) hS.2.2 dX2_readPile_18
def f_X3_addColumn (i0 : Int32) (i1 : Int32) (i2 : Int32) (os : OS) : Option OS := if (os.1 9) < 0 then some os else if (os.1 9) < 5 then ck (os.1 9) 5 (lt (sA os 6 (((os.1 9) : Int32).toNatClampNeg) i0) fun o4 => ck (o4.1 9) 5 (lt (sA o4 7 (((o4.1 9) : Int32).toNatClampNeg) i1) fun o6 => ck (o6.1 9) 5 (lt (sA o6 8 (((o6.1 9) : Int32).toNatClampNeg) i2) fun o8 => lt (sI o8 9 ((o8.1 9) + 1)) fun o9 => some o9))) else some os
set_option maxHeartbeats 4000000 in
set_option maxRecDepth 100000 in
theorem c_X3_addColumn (l : Launch) (D : va_G) (cI cZ cS : ClassId) (a : Nat) (q : Nat → Nat) (i0 : Int32) (i1 : Int32) (i2 : Int32) (os : OS) (x : OS) (hf : f_X3_addColumn i0 i1 i2 os = some x) : Ct l yX3_addColumn cX3_addColumn 4 none 0 0 D cI cZ cS [.ref a, .int i0, .int i1, .int i2] (bX3 cI a q os) none (bX3 cI a q x) := by
  intro sz
  refine Met.ofW (cc := cX3_addColumn) (maxL := 4) (ret := none) (by decide +kernel) rfl ?_
  intro p e s m args below meth c s₁ B hml hv
  obtain ⟨rfl, hsz, hP, hK, hD0⟩ := hv
  have hx := B.exec
  have hb := B.bytes
  have hr := B.returns
  have hts0 := atoms_spec (ws := .code yX3_addColumn cX3_addColumn 4 none :: TB) B.pre
  have hts := fun w (h : w ∈ TB) => hts0 w (List.mem_cons_of_mem _ h)
  have hown : s.vm.findClass RX3 = some m.cls := findClass_of_methodNamed B.named
  have hlocks := B.notSynchronized
  subst hsz
  have hD := hD0.self (sz := s.heap.size)
  generalize hAe : va_A (bX3 cI a q os) s.heap.size = A at hD ⊢
  have hA : ∀ q : Nat, s.heap.size ≤ q → A q := fun q h => by rw [← hAe]; exact Or.inr h
  have hS : va_S A s.heap s.heap [] := va_S.rf
  obtain ⟨H, hH⟩ : ∃ H, H = s.heap := ⟨_, rfl⟩
  rw [← hH] at hP
  have hS : va_S A s.heap H [] := by rw [hH]; exact hS
  have hl := lv_entry ([.ref a, .int i0, .int i1, .int i2]) (n := 4) (Nat.le_of_ble_eq_true rfl)
  rw [lg_entry_eq]
  generalize (lg_sl ([.ref a, .int i0, .int i1, .int i2]) ++ List.replicate (4 - (lg_sl ([.ref a, .int i0, .int i1, .int i2])).length) Slot.unset).toArray = ls at hl ⊢
  have hl : lv_has ls 4 [(0, .ref a), (1, .int i0), (2, .int i1), (3, .int i2)] := hl
  refine W_heap hH ?_
  obtain ⟨locs, hlo⟩ : ∃ locs : List Loc, locs = [] := ⟨_, rfl⟩
  rw [← hlo] at hS ⊢
  unfold f_X3_addColumn at hf
  refine lv_aload_n (pc := 0) hx hb dX3_addColumn_0 rfl (lv_at hl 0 rfl) ?_
  refine va_get (pc := 1) (D := D) (ci := 3) (v := .int (os.1 9)) (C := RX3) (T := TX3) (N := 12) hx hb hts iX3 hown hK.1 hP 0 rfl rfl 9 (by decide) (hts _ fl_RX3_40) (fun _ h => h) rfl dX3_addColumn_1 ?_
  refine lv_if_lt (pc := 4) (tgt := 15) hx hb dX3_addColumn_4 (by decide) (fun c1 => ?_) (fun c1 => ?_)
  · replace hf := ip c1 hf
    obtain rfl := Option.some.inj hf
    exact W.vret hx hb hr (fun t ht hW => ⟨rfl, by rw [ht]; exact hP, hD, hS.F ht⟩) hS.2.2 dX3_addColumn_15
  · replace hf := im c1 hf
    refine lv_aload_n (pc := 7) hx hb dX3_addColumn_7 rfl (lv_at hl 0 rfl) ?_
    refine va_get (pc := 8) (D := D) (ci := 3) (v := .int (os.1 9)) (C := RX3) (T := TX3) (N := 12) hx hb hts iX3 hown hK.1 hP 0 rfl rfl 9 (by decide) (hts _ fl_RX3_40) (fun _ h => h) rfl dX3_addColumn_8 ?_
    refine lv_iconst (v := 5) (pc := 11) hx hb dX3_addColumn_11 (by decide) ?_
    refine lv_icmp_lt (pc := 12) (tgt := 16) hx hb dX3_addColumn_12 (by decide) (fun c2 => ?_) (fun c2 => ?_)
    · replace hf := ip c2 hf
      refine lv_aload_n (pc := 16) hx hb dX3_addColumn_16 rfl (lv_at hl 0 rfl) ?_
      refine va_get (pc := 17) (D := D) (ci := 3) (v := .ref (q 6)) (C := RX3) (T := TX3) (N := 12) hx hb hts iX3 hown hK.1 hP 0 rfl rfl 6 (by decide) (hts _ fl_RX3_24) (fun _ h => h) rfl dX3_addColumn_17 ?_
      refine lv_aload_n (pc := 20) hx hb dX3_addColumn_20 rfl (lv_at hl 0 rfl) ?_
      refine va_get (pc := 21) (D := D) (ci := 3) (v := .int (os.1 9)) (C := RX3) (T := TX3) (N := 12) hx hb hts iX3 hown hK.1 hP 0 rfl rfl 9 (by decide) (hts _ fl_RX3_40) (fun _ h => h) rfl dX3_addColumn_21 ?_
      refine lv_iload_n (pc := 24) hx hb dX3_addColumn_24 rfl (lv_at hl 1 rfl) ?_
      obtain ⟨h3, hf⟩ := ck_some hf
      obtain ⟨o4, eo4, hf⟩ := lt_some hf
      refine va_iast (pc := 25) (f := os.2.2 6) hx hb hK.1 hP hD hS 5 0 rfl rfl h3 dX3_addColumn_25 (fun H locs hP hD hS => ?_)
      replace hP : va_P D vwCl (bX3 cI a q o4) H := by rw [eo4]; exact hP
      replace hD : va_D A (bX3 cI a q o4) := by rw [eo4]; exact hD
      refine lv_aload_n (pc := 26) hx hb dX3_addColumn_26 rfl (lv_at hl 0 rfl) ?_
      refine va_get (pc := 27) (D := D) (ci := 3) (v := .ref (q 7)) (C := RX3) (T := TX3) (N := 12) hx hb hts iX3 hown hK.1 hP 0 rfl rfl 7 (by decide) (hts _ fl_RX3_27) (fun _ h => h) rfl dX3_addColumn_27 ?_
      refine lv_aload_n (pc := 30) hx hb dX3_addColumn_30 rfl (lv_at hl 0 rfl) ?_
      refine va_get (pc := 31) (D := D) (ci := 3) (v := .int (o4.1 9)) (C := RX3) (T := TX3) (N := 12) hx hb hts iX3 hown hK.1 hP 0 rfl rfl 9 (by decide) (hts _ fl_RX3_40) (fun _ h => h) rfl dX3_addColumn_31 ?_
      refine lv_iload_n (pc := 34) hx hb dX3_addColumn_34 rfl (lv_at hl 2 rfl) ?_
      obtain ⟨h5, hf⟩ := ck_some hf
      obtain ⟨o6, eo6, hf⟩ := lt_some hf
      refine va_iast (pc := 35) (f := o4.2.2 7) hx hb hK.1 hP hD hS 6 0 rfl rfl h5 dX3_addColumn_35 (fun H locs hP hD hS => ?_)
      replace hP : va_P D vwCl (bX3 cI a q o6) H := by rw [eo6]; exact hP
      replace hD : va_D A (bX3 cI a q o6) := by rw [eo6]; exact hD
      refine lv_aload_n (pc := 36) hx hb dX3_addColumn_36 rfl (lv_at hl 0 rfl) ?_
      refine va_get (pc := 37) (D := D) (ci := 3) (v := .ref (q 8)) (C := RX3) (T := TX3) (N := 12) hx hb hts iX3 hown hK.1 hP 0 rfl rfl 8 (by decide) (hts _ fl_RX3_30) (fun _ h => h) rfl dX3_addColumn_37 ?_
      refine lv_aload_n (pc := 40) hx hb dX3_addColumn_40 rfl (lv_at hl 0 rfl) ?_
      refine va_get (pc := 41) (D := D) (ci := 3) (v := .int (o6.1 9)) (C := RX3) (T := TX3) (N := 12) hx hb hts iX3 hown hK.1 hP 0 rfl rfl 9 (by decide) (hts _ fl_RX3_40) (fun _ h => h) rfl dX3_addColumn_41 ?_
      refine lv_iload_n (pc := 44) hx hb dX3_addColumn_44 rfl (lv_at hl 3 rfl) ?_
      obtain ⟨h7, hf⟩ := ck_some hf
      obtain ⟨o8, eo8, hf⟩ := lt_some hf
      refine va_iast (pc := 45) (f := o6.2.2 8) hx hb hK.1 hP hD hS 7 0 rfl rfl h7 dX3_addColumn_45 (fun H locs hP hD hS => ?_)
      replace hP : va_P D vwCl (bX3 cI a q o8) H := by rw [eo8]; exact hP
      replace hD : va_D A (bX3 cI a q o8) := by rw [eo8]; exact hD
      refine lv_aload_n (pc := 46) hx hb dX3_addColumn_46 rfl (lv_at hl 0 rfl) ?_
      refine lv_dup (pc := 47) hx hb dX3_addColumn_47 rfl ?_
      refine va_get (pc := 48) (D := D) (ci := 3) (v := .int (o8.1 9)) (C := RX3) (T := TX3) (N := 12) hx hb hts iX3 hown hK.1 hP 0 rfl rfl 9 (by decide) (hts _ fl_RX3_40) (fun _ h => h) rfl dX3_addColumn_48 ?_
      refine lv_iconst (v := 1) (pc := 51) hx hb dX3_addColumn_51 (by decide) ?_
      refine lv_iadd (pc := 52) hx hb dX3_addColumn_52 ?_
      obtain ⟨o9, eo9, hf⟩ := lt_some hf
      refine va_put (pc := 53) (D := D) (ci := 3) (v := .int ((o8.1 9) + 1)) (ty := .int) (C := RX3) (T := TX3) (N := 12) hx hb hts iX3 tyX3 tyX3_ok nmX3 hown hK.1 hP hD hS 0 rfl rfl 9 (by decide) (hts _ fl_RX3_40) (fun _ h => h) rfl (tyX3_ok 9 (by decide)) rfl rfl (Nat.le_of_ble_eq_true rfl) dX3_addColumn_53 (fun H locs hP hD hS => ?_)
      replace hP : va_P D vwCl (bX3 cI a q o9) H := by rw [eo9]; exact hP
      replace hD : va_D A (bX3 cI a q o9) := by rw [eo9]; exact hD
      obtain rfl := Option.some.inj hf
      exact W.vret hx hb hr (fun t ht hW => ⟨rfl, by rw [ht]; exact hP, hD, hS.F ht⟩) hS.2.2 dX3_addColumn_56
    · replace hf := im c2 hf
      obtain rfl := Option.some.inj hf
      exact W.vret hx hb hr (fun t ht hW => ⟨rfl, by rw [ht]; exact hP, hD, hS.F ht⟩) hS.2.2 dX3_addColumn_15
def f_X2_readColumn (oc : OS) (ot : OS) : Option (Int32 × OS × OS) := lt (sI oc 2 ((oc.1 2) + 1)) fun o1 => Option.bind (f_X2_readPlace o1) fun x2 => if x2.1 = 0 then some (0, x2.2, ot) else Option.bind (f_X2_readNumber 0 99 x2.2) fun x4 => if x4.1 = (-1) then some (0, x4.2, ot) else Option.bind (f_X2_readSemicolon x4.2) fun x6 => if x6.1 = 0 then some (0, x6.2, ot) else Option.bind (f_X3_addColumn (x6.2.1 4) (x6.2.1 5) x4.1 ot) fun x8 => some (1, x6.2, x8)
set_option maxHeartbeats 4000000 in
set_option maxRecDepth 100000 in
theorem c_X2_readColumn (l : Launch) (D : va_G) (cI cZ cS : ClassId) (a : Nat) (q : Nat → Nat) (b : Nat) (qb : Nat → Nat) (oc : OS) (ot : OS) (x : (Int32 × OS × OS)) (hf : f_X2_readColumn oc ot = some x) : Ct l yX2_readColumn cX2_readColumn 3 (some .boolean) 3 72 D cI cZ cS [.ref a, .ref b] (bX2 cI a q oc ++ bX3 cI b qb ot) (some (.int x.1)) (bX2 cI a q x.2.1 ++ bX3 cI b qb x.2.2) := by
  intro sz
  refine Met.ofW (cc := cX2_readColumn) (maxL := 3) (ret := (some .boolean)) (by decide +kernel) rfl ?_
  intro p e s m args below meth c s₁ B hml hv
  obtain ⟨rfl, hsz, hP, hK, hD0⟩ := hv
  have hx := B.exec
  have hb := B.bytes
  have hr := B.returns
  have hts0 := atoms_spec (ws := .code yX2_readColumn cX2_readColumn 3 (some .boolean) :: TB) B.pre
  have hts := fun w (h : w ∈ TB) => hts0 w (List.mem_cons_of_mem _ h)
  have hown : s.vm.findClass RX2 = some m.cls := findClass_of_methodNamed B.named
  have hlocks := B.notSynchronized
  subst hsz
  have hD := hD0.self (sz := s.heap.size)
  generalize hAe : va_A (bX2 cI a q oc ++ bX3 cI b qb ot) s.heap.size = A at hD ⊢
  have hA : ∀ q : Nat, s.heap.size ≤ q → A q := fun q h => by rw [← hAe]; exact Or.inr h
  have hS : va_S A s.heap s.heap [] := va_S.rf
  obtain ⟨H, hH⟩ : ∃ H, H = s.heap := ⟨_, rfl⟩
  rw [← hH] at hP
  have hS : va_S A s.heap H [] := by rw [hH]; exact hS
  have hl := lv_entry ([.ref a, .ref b]) (n := 3) (Nat.le_of_ble_eq_true rfl)
  rw [lg_entry_eq]
  generalize (lg_sl ([.ref a, .ref b]) ++ List.replicate (3 - (lg_sl ([.ref a, .ref b])).length) Slot.unset).toArray = ls at hl ⊢
  have hl : lv_has ls 3 [(0, .ref a), (1, .ref b)] := hl
  refine W_heap hH ?_
  obtain ⟨locs, hlo⟩ : ∃ locs : List Loc, locs = [] := ⟨_, rfl⟩
  rw [← hlo] at hS ⊢
  unfold f_X2_readColumn at hf
  refine lv_aload_n (pc := 0) hx hb dX2_readColumn_0 rfl (lv_at hl 0 rfl) ?_
  refine lv_dup (pc := 1) hx hb dX2_readColumn_1 rfl ?_
  refine va_get (pc := 2) (D := D) (ci := 2) (v := .int (oc.1 2)) (C := RX2) (T := TX2) (N := 7) hx hb hts iX2 hown hK.1 hP 0 rfl rfl 2 (by decide) (hts _ fl_RX2_24) (fun _ h => h) rfl dX2_readColumn_2 ?_
  refine lv_iconst (v := 1) (pc := 5) hx hb dX2_readColumn_5 (by decide) ?_
  refine lv_iadd (pc := 6) hx hb dX2_readColumn_6 ?_
  obtain ⟨o1, eo1, hf⟩ := lt_some hf
  refine va_put (pc := 7) (D := D) (ci := 2) (v := .int ((oc.1 2) + 1)) (ty := .int) (C := RX2) (T := TX2) (N := 7) hx hb hts iX2 tyX2 tyX2_ok nmX2 hown hK.1 hP hD hS 0 rfl rfl 2 (by decide) (hts _ fl_RX2_24) (fun _ h => h) rfl (tyX2_ok 2 (by decide)) rfl rfl (Nat.le_of_ble_eq_true rfl) dX2_readColumn_7 (fun H locs hP hD hS => ?_)
  replace hP : va_P D vwCl (bX2 cI a q o1 ++ bX3 cI b qb ot) H := by rw [eo1]; exact hP
  replace hD : va_D A (bX2 cI a q o1 ++ bX3 cI b qb ot) := by rw [eo1]; exact hD
  refine lv_aload_n (pc := 10) hx hb dX2_readColumn_10 rfl (lv_at hl 0 rfl) ?_
  obtain ⟨x2, ex2, hf⟩ := bd_some hf
  refine ct_V (pc := 11) (As := []) (rest := []) (wr := bX3 cI b qb ot) (W1 := bX2 cI a q x2.2 ++ bX3 cI b qb ot) ⟨hx, hb, hml, hown, hts⟩ hK (c_X2_readPlace l D cI cZ cS a q o1 x2 ex2) gv_RX2_57 rfl hs_X2_readPlace rfl ⟨Nat.le_of_ble_eq_true rfl, Nat.le_of_ble_eq_true rfl⟩ (ci := 2) (q0 := 0) rfl rfl rfl hl.1 rfl (Nat.le_of_ble_eq_true rfl) dX2_readColumn_11 ⟨Nat.zero_le _, Nat.zero_le _⟩ hP hD hS hA [0, 1] [2, 3, 4, 5, 6, 7, 8, 9] [8, 9, 0, 1, 2, 3, 4, 5, 6, 7] rfl rfl (by decide +kernel) (by decide +kernel) (by decide +kernel) (by decide +kernel) rfl (fun H locs hP hD hS => ?_)
  refine lv_if_ne (pc := 14) (tgt := 19) hx hb dX2_readColumn_14 (by decide) (fun c3 => ?_) (fun c3 => ?_)
  · replace hf := im c3 hf
    refine lv_aload_n (pc := 19) hx hb dX2_readColumn_19 rfl (lv_at hl 0 rfl) ?_
    refine lv_iconst (v := 0) (pc := 20) hx hb dX2_readColumn_20 (by decide) ?_
    refine lv_bipush (v := 99) (pc := 21) hx hb dX2_readColumn_21 (by decide) ?_
    obtain ⟨x4, ex4, hf⟩ := bd_some hf
    refine ct_V (pc := 23) (As := [.int 0, .int 99]) (rest := []) (wr := bX3 cI b qb ot) (W1 := bX2 cI a q x4.2 ++ bX3 cI b qb ot) ⟨hx, hb, hml, hown, hts⟩ hK (c_X2_readNumber l D cI cZ cS a q 0 99 x2.2 x4 ex4) gv_RX2_74 rfl hs_X2_readNumber rfl ⟨Nat.le_of_ble_eq_true rfl, Nat.le_of_ble_eq_true rfl⟩ (ci := 2) (q0 := 0) rfl rfl rfl hl.1 rfl (Nat.le_of_ble_eq_true rfl) dX2_readColumn_23 ⟨Nat.zero_le _, Nat.zero_le _⟩ hP hD hS hA [0, 1] [2, 3, 4, 5, 6, 7, 8, 9] [8, 9, 0, 1, 2, 3, 4, 5, 6, 7] rfl rfl (by decide +kernel) (by decide +kernel) (by decide +kernel) (by decide +kernel) rfl (fun H locs hP hD hS => ?_)
    refine lv_istore_n (lv' := [(2, .int x4.1), (0, .ref a), (1, .ref b)]) (pc := 26) hx hb dX2_readColumn_26 rfl hl (by decide) rfl (fun ls hl => ?_)
    refine lv_iload_n (pc := 27) hx hb dX2_readColumn_27 rfl (lv_at hl 0 rfl) ?_
    refine lv_iconst (v := -1) (pc := 28) hx hb dX2_readColumn_28 (by decide) ?_
    refine lv_icmp_eq (pc := 29) (tgt := 39) hx hb dX2_readColumn_29 (by decide) (fun c5 => ?_) (fun c5 => ?_)
    · replace hf := ip c5 hf
      refine lv_iconst (v := 0) (pc := 39) hx hb dX2_readColumn_39 (by decide) ?_
      obtain rfl := Option.some.inj hf
      exact W.zret hx hb hr rfl (fun t ht hW => ⟨rfl, by rw [ht]; exact hP, hD, hS.F ht⟩) hS.2.2 dX2_readColumn_40
    · replace hf := im c5 hf
      refine lv_aload_n (pc := 32) hx hb dX2_readColumn_32 rfl (lv_at hl 1 rfl) ?_
      obtain ⟨x6, ex6, hf⟩ := bd_some hf
      refine ct_V (pc := 33) (As := []) (rest := []) (wr := bX3 cI b qb ot) (W1 := bX2 cI a q x6.2 ++ bX3 cI b qb ot) ⟨hx, hb, hml, hown, hts⟩ hK (c_X2_readSemicolon l D cI cZ cS a q x4.2 x6 ex6) gv_RX2_78 rfl hs_X2_readSemicolon rfl ⟨Nat.le_of_ble_eq_true rfl, Nat.le_of_ble_eq_true rfl⟩ (ci := 2) (q0 := 0) rfl rfl rfl hl.1 rfl (Nat.le_of_ble_eq_true rfl) dX2_readColumn_33 ⟨Nat.zero_le _, Nat.zero_le _⟩ hP hD hS hA [0, 1] [2, 3, 4, 5, 6, 7, 8, 9] [8, 9, 0, 1, 2, 3, 4, 5, 6, 7] rfl rfl (by decide +kernel) (by decide +kernel) (by decide +kernel) (by decide +kernel) rfl (fun H locs hP hD hS => ?_)
      refine lv_if_ne (pc := 36) (tgt := 41) hx hb dX2_readColumn_36 (by decide) (fun c7 => ?_) (fun c7 => ?_)
      · replace hf := im c7 hf
        refine lv_aload_n (pc := 41) hx hb dX2_readColumn_41 rfl (lv_at hl 2 rfl) ?_
        refine lv_aload_n (pc := 42) hx hb dX2_readColumn_42 rfl (lv_at hl 1 rfl) ?_
        refine va_get (pc := 43) (D := D) (ci := 2) (v := .int (x6.2.1 4)) (C := RX2) (T := TX2) (N := 7) hx hb hts iX2 hown hK.1 hP 0 rfl rfl 4 (by decide) (hts _ fl_RX2_61) (fun _ h => h) rfl dX2_readColumn_43 ?_
        refine lv_aload_n (pc := 46) hx hb dX2_readColumn_46 rfl (lv_at hl 1 rfl) ?_
        refine va_get (pc := 47) (D := D) (ci := 2) (v := .int (x6.2.1 5)) (C := RX2) (T := TX2) (N := 7) hx hb hts iX2 hown hK.1 hP 0 rfl rfl 5 (by decide) (hts _ fl_RX2_64) (fun _ h => h) rfl dX2_readColumn_47 ?_
        refine lv_iload_n (pc := 50) hx hb dX2_readColumn_50 rfl (lv_at hl 0 rfl) ?_
        obtain ⟨x8, ex8, hf⟩ := bd_some hf
        refine ct_V (pc := 51) (As := [.int (x6.2.1 4), .int (x6.2.1 5), .int x4.1]) (rest := []) (wr := bX2 cI a q x6.2) (W1 := bX2 cI a q x6.2 ++ bX3 cI b qb x8) ⟨hx, hb, hml, hown, hts⟩ hK (c_X3_addColumn l D cI cZ cS b qb (x6.2.1 4) (x6.2.1 5) x4.1 ot x8 ex8) gv_RX2_85 rfl hs_X3_addColumn rfl ⟨Nat.le_of_ble_eq_true rfl, Nat.le_of_ble_eq_true rfl⟩ (ci := 3) (q0 := 2) rfl rfl rfl hl.1 rfl (Nat.le_of_ble_eq_true rfl) dX2_readColumn_51 ⟨Nat.zero_le _, Nat.zero_le _⟩ hP hD hS hA [2, 3, 4, 5, 6, 7, 8, 9] [0, 1] [0, 1, 2, 3, 4, 5, 6, 7, 8, 9] rfl rfl (by decide +kernel) (by decide +kernel) (by decide +kernel) (by decide +kernel) rfl (fun H locs hP hD hS => ?_)
        refine lv_iconst (v := 1) (pc := 54) hx hb dX2_readColumn_54 (by decide) ?_
        obtain rfl := Option.some.inj hf
        exact W.zret hx hb hr rfl (fun t ht hW => ⟨rfl, by rw [ht]; exact hP, hD, hS.F ht⟩) hS.2.2 dX2_readColumn_55
      · replace hf := ip c7 hf
        refine lv_iconst (v := 0) (pc := 39) hx hb dX2_readColumn_39 (by decide) ?_
        obtain rfl := Option.some.inj hf
        exact W.zret hx hb hr rfl (fun t ht hW => ⟨rfl, by rw [ht]; exact hP, hD, hS.F ht⟩) hS.2.2 dX2_readColumn_40
  · replace hf := ip c3 hf
    refine lv_iconst (v := 0) (pc := 17) hx hb dX2_readColumn_17 (by decide) ?_
    obtain rfl := Option.some.inj hf
    exact W.zret hx hb hr rfl (fun t ht hW => ⟨rfl, by rw [ht]; exact hP, hD, hS.F ht⟩) hS.2.2 dX2_readColumn_18
def f_X2_readWind (oc : OS) (ot : OS) : Option (Int32 × OS × OS) := lt (sI oc 2 ((oc.1 2) + 1)) fun o1 => Option.bind (f_X2_readNumber 0 198 o1) fun x2 => if x2.1 = (-1) then some (0, x2.2, ot) else Option.bind (f_X2_readNumber 0 198 x2.2) fun x4 => if x4.1 = (-1) then some (0, x4.2, ot) else Option.bind (f_X2_readSemicolon x4.2) fun x6 => if x6.1 = 0 then some (0, x6.2, ot) else lt (sI ot 10 (x2.1 - 99)) fun o8 => lt (sI o8 11 (x4.1 - 99)) fun o9 => lt (sI x6.2 6 1) fun o10 => some (1, o10, o9)
set_option maxHeartbeats 4000000 in
set_option maxRecDepth 100000 in
theorem c_X2_readWind (l : Launch) (D : va_G) (cI cZ cS : ClassId) (a : Nat) (q : Nat → Nat) (b : Nat) (qb : Nat → Nat) (oc : OS) (ot : OS) (x : (Int32 × OS × OS)) (hf : f_X2_readWind oc ot = some x) : Ct l yX2_readWind cX2_readWind 4 (some .boolean) 2 50 D cI cZ cS [.ref a, .ref b] (bX2 cI a q oc ++ bX3 cI b qb ot) (some (.int x.1)) (bX2 cI a q x.2.1 ++ bX3 cI b qb x.2.2) := by
  intro sz
  refine Met.ofW (cc := cX2_readWind) (maxL := 4) (ret := (some .boolean)) (by decide +kernel) rfl ?_
  intro p e s m args below meth c s₁ B hml hv
  obtain ⟨rfl, hsz, hP, hK, hD0⟩ := hv
  have hx := B.exec
  have hb := B.bytes
  have hr := B.returns
  have hts0 := atoms_spec (ws := .code yX2_readWind cX2_readWind 4 (some .boolean) :: TB) B.pre
  have hts := fun w (h : w ∈ TB) => hts0 w (List.mem_cons_of_mem _ h)
  have hown : s.vm.findClass RX2 = some m.cls := findClass_of_methodNamed B.named
  have hlocks := B.notSynchronized
  subst hsz
  have hD := hD0.self (sz := s.heap.size)
  generalize hAe : va_A (bX2 cI a q oc ++ bX3 cI b qb ot) s.heap.size = A at hD ⊢
  have hA : ∀ q : Nat, s.heap.size ≤ q → A q := fun q h => by rw [← hAe]; exact Or.inr h
  have hS : va_S A s.heap s.heap [] := va_S.rf
  obtain ⟨H, hH⟩ : ∃ H, H = s.heap := ⟨_, rfl⟩
  rw [← hH] at hP
  have hS : va_S A s.heap H [] := by rw [hH]; exact hS
  have hl := lv_entry ([.ref a, .ref b]) (n := 4) (Nat.le_of_ble_eq_true rfl)
  rw [lg_entry_eq]
  generalize (lg_sl ([.ref a, .ref b]) ++ List.replicate (4 - (lg_sl ([.ref a, .ref b])).length) Slot.unset).toArray = ls at hl ⊢
  have hl : lv_has ls 4 [(0, .ref a), (1, .ref b)] := hl
  refine W_heap hH ?_
  obtain ⟨locs, hlo⟩ : ∃ locs : List Loc, locs = [] := ⟨_, rfl⟩
  rw [← hlo] at hS ⊢
  unfold f_X2_readWind at hf
  refine lv_aload_n (pc := 0) hx hb dX2_readWind_0 rfl (lv_at hl 0 rfl) ?_
  refine lv_dup (pc := 1) hx hb dX2_readWind_1 rfl ?_
  refine va_get (pc := 2) (D := D) (ci := 2) (v := .int (oc.1 2)) (C := RX2) (T := TX2) (N := 7) hx hb hts iX2 hown hK.1 hP 0 rfl rfl 2 (by decide) (hts _ fl_RX2_24) (fun _ h => h) rfl dX2_readWind_2 ?_
  refine lv_iconst (v := 1) (pc := 5) hx hb dX2_readWind_5 (by decide) ?_
  refine lv_iadd (pc := 6) hx hb dX2_readWind_6 ?_
  obtain ⟨o1, eo1, hf⟩ := lt_some hf
  refine va_put (pc := 7) (D := D) (ci := 2) (v := .int ((oc.1 2) + 1)) (ty := .int) (C := RX2) (T := TX2) (N := 7) hx hb hts iX2 tyX2 tyX2_ok nmX2 hown hK.1 hP hD hS 0 rfl rfl 2 (by decide) (hts _ fl_RX2_24) (fun _ h => h) rfl (tyX2_ok 2 (by decide)) rfl rfl (Nat.le_of_ble_eq_true rfl) dX2_readWind_7 (fun H locs hP hD hS => ?_)
  replace hP : va_P D vwCl (bX2 cI a q o1 ++ bX3 cI b qb ot) H := by rw [eo1]; exact hP
  replace hD : va_D A (bX2 cI a q o1 ++ bX3 cI b qb ot) := by rw [eo1]; exact hD
  refine lv_aload_n (pc := 10) hx hb dX2_readWind_10 rfl (lv_at hl 0 rfl) ?_
  refine lv_iconst (v := 0) (pc := 11) hx hb dX2_readWind_11 (by decide) ?_
  refine lv_sipush (v := 198) (pc := 12) hx hb dX2_readWind_12 (by decide) ?_
  obtain ⟨x2, ex2, hf⟩ := bd_some hf
  refine ct_V (pc := 15) (As := [.int 0, .int 198]) (rest := []) (wr := bX3 cI b qb ot) (W1 := bX2 cI a q x2.2 ++ bX3 cI b qb ot) ⟨hx, hb, hml, hown, hts⟩ hK (c_X2_readNumber l D cI cZ cS a q 0 198 o1 x2 ex2) gv_RX2_74 rfl hs_X2_readNumber rfl ⟨Nat.le_of_ble_eq_true rfl, Nat.le_of_ble_eq_true rfl⟩ (ci := 2) (q0 := 0) rfl rfl rfl hl.1 rfl (Nat.le_of_ble_eq_true rfl) dX2_readWind_15 ⟨Nat.zero_le _, Nat.zero_le _⟩ hP hD hS hA [0, 1] [2, 3, 4, 5, 6, 7, 8, 9] [8, 9, 0, 1, 2, 3, 4, 5, 6, 7] rfl rfl (by decide +kernel) (by decide +kernel) (by decide +kernel) (by decide +kernel) rfl (fun H locs hP hD hS => ?_)
  refine lv_istore_n (lv' := [(2, .int x2.1), (0, .ref a), (1, .ref b)]) (pc := 18) hx hb dX2_readWind_18 rfl hl (by decide) rfl (fun ls hl => ?_)
  refine lv_iload_n (pc := 19) hx hb dX2_readWind_19 rfl (lv_at hl 0 rfl) ?_
  refine lv_iconst (v := -1) (pc := 20) hx hb dX2_readWind_20 (by decide) ?_
  refine lv_icmp_ne (pc := 21) (tgt := 26) hx hb dX2_readWind_21 (by decide) (fun c3 => ?_) (fun c3 => ?_)
  · replace hf := im c3 hf
    refine lv_aload_n (pc := 26) hx hb dX2_readWind_26 rfl (lv_at hl 1 rfl) ?_
    refine lv_iconst (v := 0) (pc := 27) hx hb dX2_readWind_27 (by decide) ?_
    refine lv_sipush (v := 198) (pc := 28) hx hb dX2_readWind_28 (by decide) ?_
    obtain ⟨x4, ex4, hf⟩ := bd_some hf
    refine ct_V (pc := 31) (As := [.int 0, .int 198]) (rest := []) (wr := bX3 cI b qb ot) (W1 := bX2 cI a q x4.2 ++ bX3 cI b qb ot) ⟨hx, hb, hml, hown, hts⟩ hK (c_X2_readNumber l D cI cZ cS a q 0 198 x2.2 x4 ex4) gv_RX2_74 rfl hs_X2_readNumber rfl ⟨Nat.le_of_ble_eq_true rfl, Nat.le_of_ble_eq_true rfl⟩ (ci := 2) (q0 := 0) rfl rfl rfl hl.1 rfl (Nat.le_of_ble_eq_true rfl) dX2_readWind_31 ⟨Nat.zero_le _, Nat.zero_le _⟩ hP hD hS hA [0, 1] [2, 3, 4, 5, 6, 7, 8, 9] [8, 9, 0, 1, 2, 3, 4, 5, 6, 7] rfl rfl (by decide +kernel) (by decide +kernel) (by decide +kernel) (by decide +kernel) rfl (fun H locs hP hD hS => ?_)
    refine lv_istore_n (lv' := [(3, .int x4.1), (2, .int x2.1), (0, .ref a), (1, .ref b)]) (pc := 34) hx hb dX2_readWind_34 rfl hl (by decide) rfl (fun ls hl => ?_)
    refine lv_iload_n (pc := 35) hx hb dX2_readWind_35 rfl (lv_at hl 0 rfl) ?_
    refine lv_iconst (v := -1) (pc := 36) hx hb dX2_readWind_36 (by decide) ?_
    refine lv_icmp_eq (pc := 37) (tgt := 47) hx hb dX2_readWind_37 (by decide) (fun c5 => ?_) (fun c5 => ?_)
    · replace hf := ip c5 hf
      refine lv_iconst (v := 0) (pc := 47) hx hb dX2_readWind_47 (by decide) ?_
      obtain rfl := Option.some.inj hf
      exact W.zret hx hb hr rfl (fun t ht hW => ⟨rfl, by rw [ht]; exact hP, hD, hS.F ht⟩) hS.2.2 dX2_readWind_48
    · replace hf := im c5 hf
      refine lv_aload_n (pc := 40) hx hb dX2_readWind_40 rfl (lv_at hl 2 rfl) ?_
      obtain ⟨x6, ex6, hf⟩ := bd_some hf
      refine ct_V (pc := 41) (As := []) (rest := []) (wr := bX3 cI b qb ot) (W1 := bX2 cI a q x6.2 ++ bX3 cI b qb ot) ⟨hx, hb, hml, hown, hts⟩ hK (c_X2_readSemicolon l D cI cZ cS a q x4.2 x6 ex6) gv_RX2_78 rfl hs_X2_readSemicolon rfl ⟨Nat.le_of_ble_eq_true rfl, Nat.le_of_ble_eq_true rfl⟩ (ci := 2) (q0 := 0) rfl rfl rfl hl.1 rfl (Nat.le_of_ble_eq_true rfl) dX2_readWind_41 ⟨Nat.zero_le _, Nat.zero_le _⟩ hP hD hS hA [0, 1] [2, 3, 4, 5, 6, 7, 8, 9] [8, 9, 0, 1, 2, 3, 4, 5, 6, 7] rfl rfl (by decide +kernel) (by decide +kernel) (by decide +kernel) (by decide +kernel) rfl (fun H locs hP hD hS => ?_)
      refine lv_if_ne (pc := 44) (tgt := 49) hx hb dX2_readWind_44 (by decide) (fun c7 => ?_) (fun c7 => ?_)
      · replace hf := im c7 hf
        refine lv_aload_n (pc := 49) hx hb dX2_readWind_49 rfl (lv_at hl 3 rfl) ?_
        refine lv_iload_n (pc := 50) hx hb dX2_readWind_50 rfl (lv_at hl 1 rfl) ?_
        refine lv_bipush (v := 99) (pc := 51) hx hb dX2_readWind_51 (by decide) ?_
        refine lv_isub (pc := 53) hx hb dX2_readWind_53 ?_
        obtain ⟨o8, eo8, hf⟩ := lt_some hf
        refine va_putN (pc := 54) (D := D) (ci := 3) (v := .int (x2.1 - 99)) (ty := .int) (C := RX3) (T := TX3) (N := 12) hx hb hts iX3 tyX3 tyX3_ok nmX3 hown hK.1 hP hD hS 2 rfl rfl 10 (by decide) (va_Nw.use rfl (hK.2 _ nf_RX2_89)) (fun _ h => h) rfl (tyX3_ok 10 (by decide)) rfl rfl (Nat.le_of_ble_eq_true rfl) dX2_readWind_54 (fun H locs hP hD hS => ?_)
        replace hP : va_P D vwCl (bX2 cI a q x6.2 ++ bX3 cI b qb o8) H := by rw [eo8]; exact hP
        replace hD : va_D A (bX2 cI a q x6.2 ++ bX3 cI b qb o8) := by rw [eo8]; exact hD
        refine lv_aload_n (pc := 57) hx hb dX2_readWind_57 rfl (lv_at hl 3 rfl) ?_
        refine lv_iload_n (pc := 58) hx hb dX2_readWind_58 rfl (lv_at hl 0 rfl) ?_
        refine lv_bipush (v := 99) (pc := 59) hx hb dX2_readWind_59 (by decide) ?_
        refine lv_isub (pc := 61) hx hb dX2_readWind_61 ?_
        obtain ⟨o9, eo9, hf⟩ := lt_some hf
        refine va_putN (pc := 62) (D := D) (ci := 3) (v := .int (x4.1 - 99)) (ty := .int) (C := RX3) (T := TX3) (N := 12) hx hb hts iX3 tyX3 tyX3_ok nmX3 hown hK.1 hP hD hS 2 rfl rfl 11 (by decide) (va_Nw.use rfl (hK.2 _ nf_RX2_92)) (fun _ h => h) rfl (tyX3_ok 11 (by decide)) rfl rfl (Nat.le_of_ble_eq_true rfl) dX2_readWind_62 (fun H locs hP hD hS => ?_)
        replace hP : va_P D vwCl (bX2 cI a q x6.2 ++ bX3 cI b qb o9) H := by rw [eo9]; exact hP
        replace hD : va_D A (bX2 cI a q x6.2 ++ bX3 cI b qb o9) := by rw [eo9]; exact hD
        refine lv_aload_n (pc := 65) hx hb dX2_readWind_65 rfl (lv_at hl 2 rfl) ?_
        refine lv_iconst (v := 1) (pc := 66) hx hb dX2_readWind_66 (by decide) ?_
        obtain ⟨o10, eo10, hf⟩ := lt_some hf
        refine va_put (pc := 67) (D := D) (ci := 2) (v := .int 1) (ty := .boolean) (C := RX2) (T := TX2) (N := 7) hx hb hts iX2 tyX2 tyX2_ok nmX2 hown hK.1 hP hD hS 0 rfl rfl 6 (by decide) (hts _ fl_RX2_27) (fun _ h => h) rfl (tyX2_ok 6 (by decide)) rfl rfl (Nat.le_of_ble_eq_true rfl) dX2_readWind_67 (fun H locs hP hD hS => ?_)
        replace hP : va_P D vwCl (bX2 cI a q o10 ++ bX3 cI b qb o9) H := by rw [eo10]; exact hP
        replace hD : va_D A (bX2 cI a q o10 ++ bX3 cI b qb o9) := by rw [eo10]; exact hD
        refine lv_iconst (v := 1) (pc := 70) hx hb dX2_readWind_70 (by decide) ?_
        obtain rfl := Option.some.inj hf
        exact W.zret hx hb hr rfl (fun t ht hW => ⟨rfl, by rw [ht]; exact hP, hD, hS.F ht⟩) hS.2.2 dX2_readWind_71
      · replace hf := ip c7 hf
        refine lv_iconst (v := 0) (pc := 47) hx hb dX2_readWind_47 (by decide) ?_
        obtain rfl := Option.some.inj hf
        exact W.zret hx hb hr rfl (fun t ht hW => ⟨rfl, by rw [ht]; exact hP, hD, hS.F ht⟩) hS.2.2 dX2_readWind_48
  · replace hf := ip c3 hf
    refine lv_iconst (v := 0) (pc := 24) hx hb dX2_readWind_24 (by decide) ?_
    obtain rfl := Option.some.inj hf
    exact W.zret hx hb hr rfl (fun t ht hW => ⟨rfl, by rw [ht]; exact hP, hD, hS.F ht⟩) hS.2.2 dX2_readWind_25
def f_X2_readItem (oc : OS) (ot : OS) : Option (Int32 × OS × OS) := Option.bind (f_X2_letterHere oc) fun x1 => if x1 = 99 then if 5 ≤ (ot.1 9) then some (0, oc, ot) else Option.bind (f_X2_readColumn oc ot) fun x4 => if x4.1 = 0 then some (0, x4.2.1, x4.2.2) else some (1, x4.2.1, x4.2.2) else if x1 = 112 then if 8 ≤ (ot.1 4) then some (0, oc, ot) else Option.bind (f_X2_readPile oc ot) fun x8 => if x8.1 = 0 then some (0, x8.2.1, x8.2.2) else some (1, x8.2.1, x8.2.2) else if x1 = 119 then if (oc.1 6) = 0 then Option.bind (f_X2_readWind oc ot) fun x12 => if x12.1 = 0 then some (0, x12.2.1, x12.2.2) else some (1, x12.2.1, x12.2.2) else some (0, oc, ot) else some (0, oc, ot)
set_option maxHeartbeats 4000000 in
set_option maxRecDepth 100000 in
theorem c_X2_readItem (l : Launch) (D : va_G) (cI cZ cS : ClassId) (a : Nat) (q : Nat → Nat) (b : Nat) (qb : Nat → Nat) (oc : OS) (ot : OS) (x : (Int32 × OS × OS)) (hf : f_X2_readItem oc ot = some x) : Ct l yX2_readItem cX2_readItem 2 (some .boolean) 4 95 D cI cZ cS [.ref a, .ref b] (bX2 cI a q oc ++ bX3 cI b qb ot) (some (.int x.1)) (bX2 cI a q x.2.1 ++ bX3 cI b qb x.2.2) := by
  intro sz
  refine Met.ofW (cc := cX2_readItem) (maxL := 2) (ret := (some .boolean)) (by decide +kernel) rfl ?_
  intro p e s m args below meth c s₁ B hml hv
  obtain ⟨rfl, hsz, hP, hK, hD0⟩ := hv
  have hx := B.exec
  have hb := B.bytes
  have hr := B.returns
  have hts0 := atoms_spec (ws := .code yX2_readItem cX2_readItem 2 (some .boolean) :: TB) B.pre
  have hts := fun w (h : w ∈ TB) => hts0 w (List.mem_cons_of_mem _ h)
  have hown : s.vm.findClass RX2 = some m.cls := findClass_of_methodNamed B.named
  have hlocks := B.notSynchronized
  subst hsz
  have hD := hD0.self (sz := s.heap.size)
  generalize hAe : va_A (bX2 cI a q oc ++ bX3 cI b qb ot) s.heap.size = A at hD ⊢
  have hA : ∀ q : Nat, s.heap.size ≤ q → A q := fun q h => by rw [← hAe]; exact Or.inr h
  have hS : va_S A s.heap s.heap [] := va_S.rf
  obtain ⟨H, hH⟩ : ∃ H, H = s.heap := ⟨_, rfl⟩
  rw [← hH] at hP
  have hS : va_S A s.heap H [] := by rw [hH]; exact hS
  have hl := lv_entry ([.ref a, .ref b]) (n := 2) (Nat.le_of_ble_eq_true rfl)
  rw [lg_entry_eq]
  generalize (lg_sl ([.ref a, .ref b]) ++ List.replicate (2 - (lg_sl ([.ref a, .ref b])).length) Slot.unset).toArray = ls at hl ⊢
  have hl : lv_has ls 2 [(0, .ref a), (1, .ref b)] := hl
  refine W_heap hH ?_
  obtain ⟨locs, hlo⟩ : ∃ locs : List Loc, locs = [] := ⟨_, rfl⟩
  rw [← hlo] at hS ⊢
  unfold f_X2_readItem at hf
  refine lv_aload_n (pc := 0) hx hb dX2_readItem_0 rfl (lv_at hl 0 rfl) ?_
  obtain ⟨x1, ex1, hf⟩ := bd_some hf
  refine ct_V (pc := 1) (As := []) (rest := []) (wr := bX3 cI b qb ot) (W1 := bX2 cI a q oc ++ bX3 cI b qb ot) ⟨hx, hb, hml, hown, hts⟩ hK (c_X2_letterHere l D cI cZ cS a q oc x1 ex1) gv_RX2_38 rfl hs_X2_letterHere rfl ⟨Nat.le_of_ble_eq_true rfl, Nat.le_of_ble_eq_true rfl⟩ (ci := 2) (q0 := 0) rfl rfl rfl hl.1 rfl (Nat.le_of_ble_eq_true rfl) dX2_readItem_1 ⟨Nat.zero_le _, Nat.zero_le _⟩ hP hD hS hA [0, 1] [2, 3, 4, 5, 6, 7, 8, 9] [8, 9, 0, 1, 2, 3, 4, 5, 6, 7] rfl rfl (by decide +kernel) (by decide +kernel) (by decide +kernel) (by decide +kernel) rfl (fun H locs hP hD hS => ?_)
  by_cases c2 : x1 = 99
  · refine lv_lookup (pc := 4) (off := 59) (tgt := 63) hx hb dX2_readItem_4 (by decide) (by rw [c2]; decide) (by decide) ?_
    replace hf := ip c2 hf
    refine lv_aload_n (pc := 63) hx hb dX2_readItem_63 rfl (lv_at hl 1 rfl) ?_
    refine va_getN (pc := 64) (D := D) (ci := 3) (v := .int (ot.1 9)) (C := RX3) (T := TX3) (N := 12) hx hb hts iX3 hown hK.1 hP 2 rfl rfl 9 (by decide) (va_Nw.use rfl (hK.2 _ nf_RX2_48)) (fun _ h => h) rfl dX2_readItem_64 ?_
    refine lv_iconst (v := 5) (pc := 67) hx hb dX2_readItem_67 (by decide) ?_
    refine lv_icmp_ge (pc := 68) (tgt := 83) hx hb dX2_readItem_68 (by decide) (fun c3 => ?_) (fun c3 => ?_)
    · replace hf := ip c3 hf
      refine lv_iconst (v := 0) (pc := 83) hx hb dX2_readItem_83 (by decide) ?_
      obtain rfl := Option.some.inj hf
      exact W.zret hx hb hr rfl (fun t ht hW => ⟨rfl, by rw [ht]; exact hP, hD, hS.F ht⟩) hS.2.2 dX2_readItem_84
    · replace hf := im c3 hf
      refine lv_aload_n (pc := 71) hx hb dX2_readItem_71 rfl (lv_at hl 0 rfl) ?_
      refine lv_aload_n (pc := 72) hx hb dX2_readItem_72 rfl (lv_at hl 1 rfl) ?_
      obtain ⟨x4, ex4, hf⟩ := bd_some hf
      refine ct_V1 (pc := 73) (As := [.ref b]) (rest := []) (W1 := bX2 cI a q x4.2.1 ++ bX3 cI b qb x4.2.2) ⟨hx, hb, hml, hown, hts⟩ hK (c_X2_readColumn l D cI cZ cS a q b qb oc ot x4 ex4) gv_RX2_51 rfl hs_X2_readColumn rfl ⟨Nat.le_of_ble_eq_true rfl, Nat.le_of_ble_eq_true rfl⟩ (ci := 2) (q0 := 0) rfl rfl rfl hl.1 rfl (Nat.le_of_ble_eq_true rfl) dX2_readItem_73 ⟨Nat.zero_le _, Nat.zero_le _⟩ hP hD hS hA (fun H locs hP hD hS => ?_)
      refine lv_if_eq (pc := 76) (tgt := 83) hx hb dX2_readItem_76 (by decide) (fun c5 => ?_) (fun c5 => ?_)
      · replace hf := ip c5 hf
        refine lv_iconst (v := 0) (pc := 83) hx hb dX2_readItem_83 (by decide) ?_
        obtain rfl := Option.some.inj hf
        exact W.zret hx hb hr rfl (fun t ht hW => ⟨rfl, by rw [ht]; exact hP, hD, hS.F ht⟩) hS.2.2 dX2_readItem_84
      · replace hf := im c5 hf
        refine lv_iconst (v := 1) (pc := 79) hx hb dX2_readItem_79 (by decide) ?_
        refine lv_goto (pc := 80) (tgt := 84) hx hb dX2_readItem_80 (by decide) ?_
        obtain rfl := Option.some.inj hf
        exact W.zret hx hb hr rfl (fun t ht hW => ⟨rfl, by rw [ht]; exact hP, hD, hS.F ht⟩) hS.2.2 dX2_readItem_84
  replace hf := im c2 hf
  by_cases c6 : x1 = 112
  · refine lv_lookup (pc := 4) (off := 36) (tgt := 40) hx hb dX2_readItem_4 (by decide) (by rw [c6]; decide) (by decide) ?_
    replace hf := ip c6 hf
    refine lv_aload_n (pc := 40) hx hb dX2_readItem_40 rfl (lv_at hl 1 rfl) ?_
    refine va_getN (pc := 41) (D := D) (ci := 3) (v := .int (ot.1 4)) (C := RX3) (T := TX3) (N := 12) hx hb hts iX3 hown hK.1 hP 2 rfl rfl 4 (by decide) (va_Nw.use rfl (hK.2 _ nf_RX2_42)) (fun _ h => h) rfl dX2_readItem_41 ?_
    refine lv_bipush (v := 8) (pc := 44) hx hb dX2_readItem_44 (by decide) ?_
    refine lv_icmp_ge (pc := 46) (tgt := 61) hx hb dX2_readItem_46 (by decide) (fun c7 => ?_) (fun c7 => ?_)
    · replace hf := ip c7 hf
      refine lv_iconst (v := 0) (pc := 61) hx hb dX2_readItem_61 (by decide) ?_
      obtain rfl := Option.some.inj hf
      exact W.zret hx hb hr rfl (fun t ht hW => ⟨rfl, by rw [ht]; exact hP, hD, hS.F ht⟩) hS.2.2 dX2_readItem_62
    · replace hf := im c7 hf
      refine lv_aload_n (pc := 49) hx hb dX2_readItem_49 rfl (lv_at hl 0 rfl) ?_
      refine lv_aload_n (pc := 50) hx hb dX2_readItem_50 rfl (lv_at hl 1 rfl) ?_
      obtain ⟨x8, ex8, hf⟩ := bd_some hf
      refine ct_V1 (pc := 51) (As := [.ref b]) (rest := []) (W1 := bX2 cI a q x8.2.1 ++ bX3 cI b qb x8.2.2) ⟨hx, hb, hml, hown, hts⟩ hK (c_X2_readPile l D cI cZ cS a q b qb oc ot x8 ex8) gv_RX2_45 rfl hs_X2_readPile rfl ⟨Nat.le_of_ble_eq_true rfl, Nat.le_of_ble_eq_true rfl⟩ (ci := 2) (q0 := 0) rfl rfl rfl hl.1 rfl (Nat.le_of_ble_eq_true rfl) dX2_readItem_51 ⟨Nat.zero_le _, Nat.zero_le _⟩ hP hD hS hA (fun H locs hP hD hS => ?_)
      refine lv_if_eq (pc := 54) (tgt := 61) hx hb dX2_readItem_54 (by decide) (fun c9 => ?_) (fun c9 => ?_)
      · replace hf := ip c9 hf
        refine lv_iconst (v := 0) (pc := 61) hx hb dX2_readItem_61 (by decide) ?_
        obtain rfl := Option.some.inj hf
        exact W.zret hx hb hr rfl (fun t ht hW => ⟨rfl, by rw [ht]; exact hP, hD, hS.F ht⟩) hS.2.2 dX2_readItem_62
      · replace hf := im c9 hf
        refine lv_iconst (v := 1) (pc := 57) hx hb dX2_readItem_57 (by decide) ?_
        refine lv_goto (pc := 58) (tgt := 62) hx hb dX2_readItem_58 (by decide) ?_
        obtain rfl := Option.some.inj hf
        exact W.zret hx hb hr rfl (fun t ht hW => ⟨rfl, by rw [ht]; exact hP, hD, hS.F ht⟩) hS.2.2 dX2_readItem_62
  replace hf := im c6 hf
  by_cases c10 : x1 = 119
  · refine lv_lookup (pc := 4) (off := 81) (tgt := 85) hx hb dX2_readItem_4 (by decide) (by rw [c10]; decide) (by decide) ?_
    replace hf := ip c10 hf
    refine lv_aload_n (pc := 85) hx hb dX2_readItem_85 rfl (lv_at hl 0 rfl) ?_
    refine va_get (pc := 86) (D := D) (ci := 2) (v := .int (oc.1 6)) (C := RX2) (T := TX2) (N := 7) hx hb hts iX2 hown hK.1 hP 0 rfl rfl 6 (by decide) (hts _ fl_RX2_27) (fun _ h => h) rfl dX2_readItem_86 ?_
    refine lv_if_ne (pc := 89) (tgt := 104) hx hb dX2_readItem_89 (by decide) (fun c11 => ?_) (fun c11 => ?_)
    · replace hf := im c11 hf
      refine lv_iconst (v := 0) (pc := 104) hx hb dX2_readItem_104 (by decide) ?_
      obtain rfl := Option.some.inj hf
      exact W.zret hx hb hr rfl (fun t ht hW => ⟨rfl, by rw [ht]; exact hP, hD, hS.F ht⟩) hS.2.2 dX2_readItem_105
    · replace hf := ip c11 hf
      refine lv_aload_n (pc := 92) hx hb dX2_readItem_92 rfl (lv_at hl 0 rfl) ?_
      refine lv_aload_n (pc := 93) hx hb dX2_readItem_93 rfl (lv_at hl 1 rfl) ?_
      obtain ⟨x12, ex12, hf⟩ := bd_some hf
      refine ct_V1 (pc := 94) (As := [.ref b]) (rest := []) (W1 := bX2 cI a q x12.2.1 ++ bX3 cI b qb x12.2.2) ⟨hx, hb, hml, hown, hts⟩ hK (c_X2_readWind l D cI cZ cS a q b qb oc ot x12 ex12) gv_RX2_54 rfl hs_X2_readWind rfl ⟨Nat.le_of_ble_eq_true rfl, Nat.le_of_ble_eq_true rfl⟩ (ci := 2) (q0 := 0) rfl rfl rfl hl.1 rfl (Nat.le_of_ble_eq_true rfl) dX2_readItem_94 ⟨Nat.zero_le _, Nat.zero_le _⟩ hP hD hS hA (fun H locs hP hD hS => ?_)
      refine lv_if_eq (pc := 97) (tgt := 104) hx hb dX2_readItem_97 (by decide) (fun c13 => ?_) (fun c13 => ?_)
      · replace hf := ip c13 hf
        refine lv_iconst (v := 0) (pc := 104) hx hb dX2_readItem_104 (by decide) ?_
        obtain rfl := Option.some.inj hf
        exact W.zret hx hb hr rfl (fun t ht hW => ⟨rfl, by rw [ht]; exact hP, hD, hS.F ht⟩) hS.2.2 dX2_readItem_105
      · replace hf := im c13 hf
        refine lv_iconst (v := 1) (pc := 100) hx hb dX2_readItem_100 (by decide) ?_
        refine lv_goto (pc := 101) (tgt := 105) hx hb dX2_readItem_101 (by decide) ?_
        obtain rfl := Option.some.inj hf
        exact W.zret hx hb hr rfl (fun t ht hW => ⟨rfl, by rw [ht]; exact hP, hD, hS.F ht⟩) hS.2.2 dX2_readItem_105
  replace hf := im c10 hf
  refine lv_lookup (pc := 4) (off := 102) (tgt := 106) hx hb dX2_readItem_4 (by decide) (by refine (lv_osw c2 rfl).trans ?_; refine (lv_osw c6 rfl).trans ?_; refine (lv_osw c10 rfl).trans ?_; rfl) (by decide) ?_
  refine lv_iconst (v := 0) (pc := 106) hx hb dX2_readItem_106 (by decide) ?_
  obtain rfl := Option.some.inj hf
  exact W.zret hx hb hr rfl (fun t ht hW => ⟨rfl, by rw [ht]; exact hP, hD, hS.F ht⟩) hS.2.2 dX2_readItem_107
def lp_X2_readInto_16 : Nat → Int32 → OS → OS → Option ((Int32 × OS × OS) ⊕ (Int32 × OS × OS))
  | 0, _, _, _ => none
  | n + 1, v2, w_C, w_T => if 160 ≤ v2 then some (.inr (v2, w_C, w_T)) else Option.bind (f_X2_skipBlanks w_C) fun x9 => if (x9.1 2) < (x9.1 1) then Option.bind (f_X2_readItem x9 w_T) fun x11 => if x11.1 = 0 then some (.inl (((-10) - (x11.2.1.1 2)), x11.2.1, x11.2.2)) else lp_X2_readInto_16 n (v2 + 1) x11.2.1 x11.2.2 else some (.inl (v2, x9, w_T))
def f_X2_readInto (oc : OS) (ot : OS) : Option (Int32 × OS × OS) := Option.bind (f_X3_empty ot) fun x1 => lt (sI oc 2 0) fun o2 => lt (sI o2 6 0) fun o3 => Option.bind (lp_X2_readInto_16 1000 0 o3 x1) (Sum.elim (fun r => some r) (fun z7 => some (((-10) - (z7.2.1.1 2)), z7.2.1, z7.2.2)))
set_option maxHeartbeats 4000000 in
set_option maxRecDepth 100000 in
theorem c_X2_readInto (l : Launch) (D : va_G) (cI cZ cS : ClassId) (a : Nat) (q : Nat → Nat) (b : Nat) (qb : Nat → Nat) (oc : OS) (ot : OS) (x : (Int32 × OS × OS)) (hf : f_X2_readInto oc ot = some x) : Ct l yX2_readInto cX2_readInto 3 (some .int) 5 116 D cI cZ cS [.ref a, .ref b] (bX2 cI a q oc ++ bX3 cI b qb ot) (some (.int x.1)) (bX2 cI a q x.2.1 ++ bX3 cI b qb x.2.2) := by
  intro sz
  refine Met.ofW (cc := cX2_readInto) (maxL := 3) (ret := (some .int)) (by decide +kernel) rfl ?_
  intro p e s m args below meth c s₁ B hml hv
  obtain ⟨rfl, hsz, hP, hK, hD0⟩ := hv
  have hx := B.exec
  have hb := B.bytes
  have hr := B.returns
  have hts0 := atoms_spec (ws := .code yX2_readInto cX2_readInto 3 (some .int) :: TB) B.pre
  have hts := fun w (h : w ∈ TB) => hts0 w (List.mem_cons_of_mem _ h)
  have hown : s.vm.findClass RX2 = some m.cls := findClass_of_methodNamed B.named
  have hlocks := B.notSynchronized
  subst hsz
  have hD := hD0.self (sz := s.heap.size)
  generalize hAe : va_A (bX2 cI a q oc ++ bX3 cI b qb ot) s.heap.size = A at hD ⊢
  have hA : ∀ q : Nat, s.heap.size ≤ q → A q := fun q h => by rw [← hAe]; exact Or.inr h
  have hS : va_S A s.heap s.heap [] := va_S.rf
  obtain ⟨H, hH⟩ : ∃ H, H = s.heap := ⟨_, rfl⟩
  rw [← hH] at hP
  have hS : va_S A s.heap H [] := by rw [hH]; exact hS
  have hl := lv_entry ([.ref a, .ref b]) (n := 3) (Nat.le_of_ble_eq_true rfl)
  rw [lg_entry_eq]
  generalize (lg_sl ([.ref a, .ref b]) ++ List.replicate (3 - (lg_sl ([.ref a, .ref b])).length) Slot.unset).toArray = ls at hl ⊢
  have hl : lv_has ls 3 [(0, .ref a), (1, .ref b)] := hl
  refine W_heap hH ?_
  obtain ⟨locs, hlo⟩ : ∃ locs : List Loc, locs = [] := ⟨_, rfl⟩
  rw [← hlo] at hS ⊢
  unfold f_X2_readInto at hf
  refine lv_aload_n (pc := 0) hx hb dX2_readInto_0 rfl (lv_at hl 1 rfl) ?_
  obtain ⟨x1, ex1, hf⟩ := bd_some hf
  refine ct_V (pc := 1) (As := []) (rest := []) (wr := bX2 cI a q oc) (W1 := bX2 cI a q oc ++ bX3 cI b qb x1) ⟨hx, hb, hml, hown, hts⟩ hK (c_X3_empty l D cI cZ cS b qb ot x1 ex1) gv_RX2_19 rfl hs_X3_empty rfl ⟨Nat.le_of_ble_eq_true rfl, Nat.le_of_ble_eq_true rfl⟩ (ci := 3) (q0 := 2) rfl rfl rfl hl.1 rfl (Nat.le_of_ble_eq_true rfl) dX2_readInto_1 ⟨Nat.zero_le _, Nat.zero_le _⟩ hP hD hS hA [2, 3, 4, 5, 6, 7, 8, 9] [0, 1] [0, 1, 2, 3, 4, 5, 6, 7, 8, 9] rfl rfl (by decide +kernel) (by decide +kernel) (by decide +kernel) (by decide +kernel) rfl (fun H locs hP hD hS => ?_)
  refine lv_aload_n (pc := 4) hx hb dX2_readInto_4 rfl (lv_at hl 0 rfl) ?_
  refine lv_iconst (v := 0) (pc := 5) hx hb dX2_readInto_5 (by decide) ?_
  obtain ⟨o2, eo2, hf⟩ := lt_some hf
  refine va_put (pc := 6) (D := D) (ci := 2) (v := .int 0) (ty := .int) (C := RX2) (T := TX2) (N := 7) hx hb hts iX2 tyX2 tyX2_ok nmX2 hown hK.1 hP hD hS 0 rfl rfl 2 (by decide) (hts _ fl_RX2_24) (fun _ h => h) rfl (tyX2_ok 2 (by decide)) rfl rfl (Nat.le_of_ble_eq_true rfl) dX2_readInto_6 (fun H locs hP hD hS => ?_)
  replace hP : va_P D vwCl (bX2 cI a q o2 ++ bX3 cI b qb x1) H := by rw [eo2]; exact hP
  replace hD : va_D A (bX2 cI a q o2 ++ bX3 cI b qb x1) := by rw [eo2]; exact hD
  refine lv_aload_n (pc := 9) hx hb dX2_readInto_9 rfl (lv_at hl 0 rfl) ?_
  refine lv_iconst (v := 0) (pc := 10) hx hb dX2_readInto_10 (by decide) ?_
  obtain ⟨o3, eo3, hf⟩ := lt_some hf
  refine va_put (pc := 11) (D := D) (ci := 2) (v := .int 0) (ty := .boolean) (C := RX2) (T := TX2) (N := 7) hx hb hts iX2 tyX2 tyX2_ok nmX2 hown hK.1 hP hD hS 0 rfl rfl 6 (by decide) (hts _ fl_RX2_27) (fun _ h => h) rfl (tyX2_ok 6 (by decide)) rfl rfl (Nat.le_of_ble_eq_true rfl) dX2_readInto_11 (fun H locs hP hD hS => ?_)
  replace hP : va_P D vwCl (bX2 cI a q o3 ++ bX3 cI b qb x1) H := by rw [eo3]; exact hP
  replace hD : va_D A (bX2 cI a q o3 ++ bX3 cI b qb x1) := by rw [eo3]; exact hD
  refine lv_iconst (v := 0) (pc := 14) hx hb dX2_readInto_14 (by decide) ?_
  refine lv_istore_n (lv' := [(2, .int 0), (0, .ref a), (1, .ref b)]) (pc := 15) hx hb dX2_readInto_15 rfl hl (by decide) rfl (fun ls hl => ?_)
  obtain ⟨z4, hz4, hf⟩ := bd_some hf
  have hfz4 := hf
  clear hf
  have K5 : ∀ z7, z4 = .inr z7 → ∀ (H : Heap) (locs : List Loc) (ls : Array Slot), va_P D vwCl (bX2 cI a q z7.2.1 ++ bX3 cI b qb z7.2.2) H → va_D A (bX2 cI a q z7.2.1 ++ bX3 cI b qb z7.2.2) → va_S A s.heap H locs → lv_has ls 3 [(0, .ref a), (1, .ref b), (2, .int z7.1)] → GW l yX2_readInto cX2_readInto 3 (some .int) 5 116 D [.ref a, .ref b] (some (.int x.1)) (bX2 cI a q x.2.1 ++ bX3 cI b qb x.2.2) A p e s m below meth c H locs (F0 m 57 ls []) := by
    intro z7 hy H locs ls hP hD hS hl
    subst hy
    replace hf := sum_r hfz4
    refine lv_bipush (v := -10) (pc := 57) hx hb dX2_readInto_57 (by decide) ?_
    refine lv_aload_n (pc := 59) hx hb dX2_readInto_59 rfl (lv_at hl 0 rfl) ?_
    refine va_get (pc := 60) (D := D) (ci := 2) (v := .int (z7.2.1.1 2)) (C := RX2) (T := TX2) (N := 7) hx hb hts iX2 hown hK.1 hP 0 rfl rfl 2 (by decide) (hts _ fl_RX2_24) (fun _ h => h) rfl dX2_readInto_60 ?_
    refine lv_isub (pc := 63) hx hb dX2_readInto_63 ?_
    obtain rfl := Option.some.inj hf
    exact W.iret hx hb hr (fun t ht hW => ⟨rfl, by rw [ht]; exact hP, hD, hS.F ht⟩) hS.2.2 dX2_readInto_64
  have KL6 : ∀ (n : Nat) (v2 : Int32) (w_C : OS) (w_T : OS) (H : Heap) (locs : List Loc) (ls : Array Slot), lp_X2_readInto_16 n v2 w_C w_T = some z4 → va_P D vwCl (bX2 cI a q w_C ++ bX3 cI b qb w_T) H → va_D A (bX2 cI a q w_C ++ bX3 cI b qb w_T) → va_S A s.heap H locs → lv_has ls 3 [(0, .ref a), (1, .ref b), (2, .int v2)] → GW l yX2_readInto cX2_readInto 3 (some .int) 5 116 D [.ref a, .ref b] (some (.int x.1)) (bX2 cI a q x.2.1 ++ bX3 cI b qb x.2.2) A p e s m below meth c H locs (F0 m 16 ls []) := by
    intro n
    induction n with
    | zero => intro v2 w_C w_T H locs ls hf; cases hf
    | succ n ih =>
      intro v2 w_C w_T H locs ls hf hP hD hS hl
      rw [lp_X2_readInto_16] at hf
      refine lv_iload_n (pc := 16) hx hb dX2_readInto_16 rfl (lv_at hl 2 rfl) ?_
      refine lv_sipush (v := 160) (pc := 17) hx hb dX2_readInto_17 (by decide) ?_
      refine lv_icmp_ge (pc := 20) (tgt := 57) hx hb dX2_readInto_20 (by decide) (fun c8 => ?_) (fun c8 => ?_)
      · replace hf := ip c8 hf
        obtain rfl := Option.some.inj hf
        exact K5 _ rfl H locs ls hP hD hS (lv_sub hl [0, 1, 2] rfl)
      · replace hf := im c8 hf
        refine lv_aload_n (pc := 23) hx hb dX2_readInto_23 rfl (lv_at hl 0 rfl) ?_
        obtain ⟨x9, ex9, hf⟩ := bd_some hf
        refine ct_V (pc := 24) (As := []) (rest := []) (wr := bX3 cI b qb w_T) (W1 := bX2 cI a q x9 ++ bX3 cI b qb w_T) ⟨hx, hb, hml, hown, hts⟩ hK (c_X2_skipBlanks l D cI cZ cS a q w_C x9 ex9) gv_RX2_31 rfl hs_X2_skipBlanks rfl ⟨Nat.le_of_ble_eq_true rfl, Nat.le_of_ble_eq_true rfl⟩ (ci := 2) (q0 := 0) rfl rfl rfl hl.1 rfl (Nat.le_of_ble_eq_true rfl) dX2_readInto_24 ⟨Nat.zero_le _, Nat.zero_le _⟩ hP hD hS hA [0, 1] [2, 3, 4, 5, 6, 7, 8, 9] [8, 9, 0, 1, 2, 3, 4, 5, 6, 7] rfl rfl (by decide +kernel) (by decide +kernel) (by decide +kernel) (by decide +kernel) rfl (fun H locs hP hD hS => ?_)
        refine lv_aload_n (pc := 27) hx hb dX2_readInto_27 rfl (lv_at hl 0 rfl) ?_
        refine va_get (pc := 28) (D := D) (ci := 2) (v := .int (x9.1 2)) (C := RX2) (T := TX2) (N := 7) hx hb hts iX2 hown hK.1 hP 0 rfl rfl 2 (by decide) (hts _ fl_RX2_24) (fun _ h => h) rfl dX2_readInto_28 ?_
        refine lv_aload_n (pc := 31) hx hb dX2_readInto_31 rfl (lv_at hl 0 rfl) ?_
        refine va_get (pc := 32) (D := D) (ci := 2) (v := .int (x9.1 1)) (C := RX2) (T := TX2) (N := 7) hx hb hts iX2 hown hK.1 hP 0 rfl rfl 1 (by decide) (hts _ fl_RX2_15) (fun _ h => h) rfl dX2_readInto_32 ?_
        refine lv_icmp_lt (pc := 35) (tgt := 40) hx hb dX2_readInto_35 (by decide) (fun c10 => ?_) (fun c10 => ?_)
        · replace hf := ip c10 hf
          refine lv_aload_n (pc := 40) hx hb dX2_readInto_40 rfl (lv_at hl 0 rfl) ?_
          refine lv_aload_n (pc := 41) hx hb dX2_readInto_41 rfl (lv_at hl 1 rfl) ?_
          obtain ⟨x11, ex11, hf⟩ := bd_some hf
          refine ct_V1 (pc := 42) (As := [.ref b]) (rest := []) (W1 := bX2 cI a q x11.2.1 ++ bX3 cI b qb x11.2.2) ⟨hx, hb, hml, hown, hts⟩ hK (c_X2_readItem l D cI cZ cS a q b qb x9 w_T x11 ex11) gv_RX2_34 rfl hs_X2_readItem rfl ⟨Nat.le_of_ble_eq_true rfl, Nat.le_of_ble_eq_true rfl⟩ (ci := 2) (q0 := 0) rfl rfl rfl hl.1 rfl (Nat.le_of_ble_eq_true rfl) dX2_readInto_42 ⟨Nat.zero_le _, Nat.zero_le _⟩ hP hD hS hA (fun H locs hP hD hS => ?_)
          refine lv_if_ne (pc := 45) (tgt := 51) hx hb dX2_readInto_45 (by decide) (fun c12 => ?_) (fun c12 => ?_)
          · replace hf := im c12 hf
            refine lv_iinc (v := (v2 + 1)) (lv' := [(2, .int (v2 + 1)), (0, .ref a), (1, .ref b)]) (pc := 51) hx hb dX2_readInto_51 hl (k := 2) rfl rfl (by decide) rfl (fun ls hl => ?_)
            refine lv_goto (pc := 54) (tgt := 16) hx hb dX2_readInto_54 (by decide) ?_
            exact ih _ _ _ H locs ls hf hP hD hS (lv_sub hl [1, 2, 0] rfl)
          · replace hf := ip c12 hf
            refine lv_goto (pc := 48) (tgt := 57) hx hb dX2_readInto_48 (by decide) ?_
            refine lv_bipush (v := -10) (pc := 57) hx hb dX2_readInto_57 (by decide) ?_
            refine lv_aload_n (pc := 59) hx hb dX2_readInto_59 rfl (lv_at hl 0 rfl) ?_
            refine va_get (pc := 60) (D := D) (ci := 2) (v := .int (x11.2.1.1 2)) (C := RX2) (T := TX2) (N := 7) hx hb hts iX2 hown hK.1 hP 0 rfl rfl 2 (by decide) (hts _ fl_RX2_24) (fun _ h => h) rfl dX2_readInto_60 ?_
            refine lv_isub (pc := 63) hx hb dX2_readInto_63 ?_
            obtain rfl := Option.some.inj hf
            replace hfz4 := sum_l hfz4
            obtain rfl := Option.some.inj hfz4
            exact W.iret hx hb hr (fun t ht hW => ⟨rfl, by rw [ht]; exact hP, hD, hS.F ht⟩) hS.2.2 dX2_readInto_64
        · replace hf := im c10 hf
          refine lv_iload_n (pc := 38) hx hb dX2_readInto_38 rfl (lv_at hl 2 rfl) ?_
          obtain rfl := Option.some.inj hf
          replace hfz4 := sum_l hfz4
          obtain rfl := Option.some.inj hfz4
          exact W.iret hx hb hr (fun t ht hW => ⟨rfl, by rw [ht]; exact hP, hD, hS.F ht⟩) hS.2.2 dX2_readInto_39
  exact KL6 1000 _ _ _ H locs ls hz4 hP hD hS (lv_sub hl [1, 2, 0] rfl)
def f_X3_copy (os : OS) (os2 : OS) : Option OS := lt (sR os2 0 (va_cpy (os.2.2 0) (os2.2.2 0) 0 0 8)) fun o1 => lt (sR o1 1 (va_cpy (os.2.2 1) (o1.2.2 1) 0 0 8)) fun o2 => lt (sR o2 2 (va_cpy (os.2.2 2) (o2.2.2 2) 0 0 8)) fun o3 => lt (sR o3 3 (va_cpy (os.2.2 3) (o3.2.2 3) 0 0 8)) fun o4 => lt (sI o4 4 (os.1 4)) fun o5 => lt (sI o5 5 (os.1 5)) fun o6 => lt (sR o6 6 (va_cpy (os.2.2 6) (o6.2.2 6) 0 0 5)) fun o7 => lt (sR o7 7 (va_cpy (os.2.2 7) (o7.2.2 7) 0 0 5)) fun o8 => lt (sR o8 8 (va_cpy (os.2.2 8) (o8.2.2 8) 0 0 5)) fun o9 => lt (sI o9 9 (os.1 9)) fun o10 => lt (sI o10 10 (os.1 10)) fun o11 => lt (sI o11 11 (os.1 11)) fun o12 => some o12
set_option maxHeartbeats 4000000 in
set_option maxRecDepth 100000 in
theorem c_X3_copy (l : Launch) (D : va_G) (cI cZ cS : ClassId) (a : Nat) (b : Nat) (q : Nat → Nat) (qb : Nat → Nat) (os : OS) (os2 : OS) (x : OS) (hf : f_X3_copy os os2 = some x) : Ct l yX3_copy cX3_copy 2 none 1 45 D cI cZ cS [.ref a, .ref b] (bX3 cI a q os ++ bX3 cI b qb os2) none (bX3 cI a q os ++ bX3 cI b qb x) := by
  intro sz
  refine Met.ofW (cc := cX3_copy) (maxL := 2) (ret := none) (by decide +kernel) rfl ?_
  intro p e s m args below meth c s₁ B hml hv
  obtain ⟨rfl, hsz, hP, hK, hD0⟩ := hv
  have hx := B.exec
  have hb := B.bytes
  have hr := B.returns
  have hts0 := atoms_spec (ws := .code yX3_copy cX3_copy 2 none :: TB) B.pre
  have hts := fun w (h : w ∈ TB) => hts0 w (List.mem_cons_of_mem _ h)
  have hown : s.vm.findClass RX3 = some m.cls := findClass_of_methodNamed B.named
  have hlocks := B.notSynchronized
  subst hsz
  have hD := hD0.self (sz := s.heap.size)
  generalize hAe : va_A (bX3 cI a q os ++ bX3 cI b qb os2) s.heap.size = A at hD ⊢
  have hA : ∀ q : Nat, s.heap.size ≤ q → A q := fun q h => by rw [← hAe]; exact Or.inr h
  have hS : va_S A s.heap s.heap [] := va_S.rf
  obtain ⟨H, hH⟩ : ∃ H, H = s.heap := ⟨_, rfl⟩
  rw [← hH] at hP
  have hS : va_S A s.heap H [] := by rw [hH]; exact hS
  have hl := lv_entry ([.ref a, .ref b]) (n := 2) (Nat.le_of_ble_eq_true rfl)
  rw [lg_entry_eq]
  generalize (lg_sl ([.ref a, .ref b]) ++ List.replicate (2 - (lg_sl ([.ref a, .ref b])).length) Slot.unset).toArray = ls at hl ⊢
  have hl : lv_has ls 2 [(0, .ref a), (1, .ref b)] := hl
  refine W_heap hH ?_
  obtain ⟨locs, hlo⟩ : ∃ locs : List Loc, locs = [] := ⟨_, rfl⟩
  rw [← hlo] at hS ⊢
  unfold f_X3_copy at hf
  refine lv_aload_n (pc := 0) hx hb dX3_copy_0 rfl (lv_at hl 0 rfl) ?_
  refine lv_ifnull (pc := 1) hx hb dX3_copy_1 ?_
  refine lv_aload_n (pc := 4) hx hb dX3_copy_4 rfl (lv_at hl 1 rfl) ?_
  refine lv_ifnonnull (pc := 5) (tgt := 9) hx hb dX3_copy_5 (by decide) ?_
  refine lv_aload_n (pc := 9) hx hb dX3_copy_9 rfl (lv_at hl 0 rfl) ?_
  refine va_get (pc := 10) (D := D) (ci := 3) (v := .ref (q 0)) (C := RX3) (T := TX3) (N := 12) hx hb hts iX3 hown hK.1 hP 0 rfl rfl 0 (by decide) (hts _ fl_RX3_9) (fun _ h => h) rfl dX3_copy_10 ?_
  refine lv_iconst (v := 0) (pc := 13) hx hb dX3_copy_13 (by decide) ?_
  refine lv_aload_n (pc := 14) hx hb dX3_copy_14 rfl (lv_at hl 1 rfl) ?_
  refine va_get (pc := 15) (D := D) (ci := 3) (v := .ref (qb 0)) (C := RX3) (T := TX3) (N := 12) hx hb hts iX3 hown hK.1 hP 8 rfl rfl 0 (by decide) (hts _ fl_RX3_9) (fun _ h => h) rfl dX3_copy_15 ?_
  refine lv_iconst (v := 0) (pc := 18) hx hb dX3_copy_18 (by decide) ?_
  refine lv_bipush (v := 8) (pc := 19) hx hb dX3_copy_19 (by decide) ?_
  obtain ⟨o1, eo1, hf⟩ := lt_some hf
  refine va_copyi (pc := 21) (f := os.2.2 0) (g := os2.2.2 0) hx hb (hml.trans hl.1.symm) hown (hts _ ml_RX3_49) (hts _ w_ac_native) (hts _ w_ac_static) (hts _ w_ac_init) hK.1 hP hD hS 1 9 0 0 rfl rfl rfl rfl rfl (by decide) (by decide) (by decide) (by decide) (by decide) (fun _ _ => rfl) (Nat.le_of_ble_eq_true rfl) (Nat.le_of_ble_eq_true rfl) dX3_copy_21 (fun H locs hP hD hS => ?_)
  replace hP : va_P D vwCl (bX3 cI a q os ++ bX3 cI b qb o1) H := by rw [eo1]; exact hP
  replace hD : va_D A (bX3 cI a q os ++ bX3 cI b qb o1) := by rw [eo1]; exact hD
  refine lv_aload_n (pc := 24) hx hb dX3_copy_24 rfl (lv_at hl 0 rfl) ?_
  refine va_get (pc := 25) (D := D) (ci := 3) (v := .ref (q 1)) (C := RX3) (T := TX3) (N := 12) hx hb hts iX3 hown hK.1 hP 0 rfl rfl 1 (by decide) (hts _ fl_RX3_15) (fun _ h => h) rfl dX3_copy_25 ?_
  refine lv_iconst (v := 0) (pc := 28) hx hb dX3_copy_28 (by decide) ?_
  refine lv_aload_n (pc := 29) hx hb dX3_copy_29 rfl (lv_at hl 1 rfl) ?_
  refine va_get (pc := 30) (D := D) (ci := 3) (v := .ref (qb 1)) (C := RX3) (T := TX3) (N := 12) hx hb hts iX3 hown hK.1 hP 8 rfl rfl 1 (by decide) (hts _ fl_RX3_15) (fun _ h => h) rfl dX3_copy_30 ?_
  refine lv_iconst (v := 0) (pc := 33) hx hb dX3_copy_33 (by decide) ?_
  refine lv_bipush (v := 8) (pc := 34) hx hb dX3_copy_34 (by decide) ?_
  obtain ⟨o2, eo2, hf⟩ := lt_some hf
  refine va_copyi (pc := 36) (f := os.2.2 1) (g := o1.2.2 1) hx hb (hml.trans hl.1.symm) hown (hts _ ml_RX3_49) (hts _ w_ac_native) (hts _ w_ac_static) (hts _ w_ac_init) hK.1 hP hD hS 2 10 0 0 rfl rfl rfl rfl rfl (by decide) (by decide) (by decide) (by decide) (by decide) (fun _ _ => rfl) (Nat.le_of_ble_eq_true rfl) (Nat.le_of_ble_eq_true rfl) dX3_copy_36 (fun H locs hP hD hS => ?_)
  replace hP : va_P D vwCl (bX3 cI a q os ++ bX3 cI b qb o2) H := by rw [eo2]; exact hP
  replace hD : va_D A (bX3 cI a q os ++ bX3 cI b qb o2) := by rw [eo2]; exact hD
  refine lv_aload_n (pc := 39) hx hb dX3_copy_39 rfl (lv_at hl 0 rfl) ?_
  refine va_get (pc := 40) (D := D) (ci := 3) (v := .ref (q 2)) (C := RX3) (T := TX3) (N := 12) hx hb hts iX3 hown hK.1 hP 0 rfl rfl 2 (by decide) (hts _ fl_RX3_18) (fun _ h => h) rfl dX3_copy_40 ?_
  refine lv_iconst (v := 0) (pc := 43) hx hb dX3_copy_43 (by decide) ?_
  refine lv_aload_n (pc := 44) hx hb dX3_copy_44 rfl (lv_at hl 1 rfl) ?_
  refine va_get (pc := 45) (D := D) (ci := 3) (v := .ref (qb 2)) (C := RX3) (T := TX3) (N := 12) hx hb hts iX3 hown hK.1 hP 8 rfl rfl 2 (by decide) (hts _ fl_RX3_18) (fun _ h => h) rfl dX3_copy_45 ?_
  refine lv_iconst (v := 0) (pc := 48) hx hb dX3_copy_48 (by decide) ?_
  refine lv_bipush (v := 8) (pc := 49) hx hb dX3_copy_49 (by decide) ?_
  obtain ⟨o3, eo3, hf⟩ := lt_some hf
  refine va_copyi (pc := 51) (f := os.2.2 2) (g := o2.2.2 2) hx hb (hml.trans hl.1.symm) hown (hts _ ml_RX3_49) (hts _ w_ac_native) (hts _ w_ac_static) (hts _ w_ac_init) hK.1 hP hD hS 3 11 0 0 rfl rfl rfl rfl rfl (by decide) (by decide) (by decide) (by decide) (by decide) (fun _ _ => rfl) (Nat.le_of_ble_eq_true rfl) (Nat.le_of_ble_eq_true rfl) dX3_copy_51 (fun H locs hP hD hS => ?_)
  replace hP : va_P D vwCl (bX3 cI a q os ++ bX3 cI b qb o3) H := by rw [eo3]; exact hP
  replace hD : va_D A (bX3 cI a q os ++ bX3 cI b qb o3) := by rw [eo3]; exact hD
  refine lv_aload_n (pc := 54) hx hb dX3_copy_54 rfl (lv_at hl 0 rfl) ?_
  refine va_get (pc := 55) (D := D) (ci := 3) (v := .ref (q 3)) (C := RX3) (T := TX3) (N := 12) hx hb hts iX3 hown hK.1 hP 0 rfl rfl 3 (by decide) (hts _ fl_RX3_21) (fun _ h => h) rfl dX3_copy_55 ?_
  refine lv_iconst (v := 0) (pc := 58) hx hb dX3_copy_58 (by decide) ?_
  refine lv_aload_n (pc := 59) hx hb dX3_copy_59 rfl (lv_at hl 1 rfl) ?_
  refine va_get (pc := 60) (D := D) (ci := 3) (v := .ref (qb 3)) (C := RX3) (T := TX3) (N := 12) hx hb hts iX3 hown hK.1 hP 8 rfl rfl 3 (by decide) (hts _ fl_RX3_21) (fun _ h => h) rfl dX3_copy_60 ?_
  refine lv_iconst (v := 0) (pc := 63) hx hb dX3_copy_63 (by decide) ?_
  refine lv_bipush (v := 8) (pc := 64) hx hb dX3_copy_64 (by decide) ?_
  obtain ⟨o4, eo4, hf⟩ := lt_some hf
  refine va_copyi (pc := 66) (f := os.2.2 3) (g := o3.2.2 3) hx hb (hml.trans hl.1.symm) hown (hts _ ml_RX3_49) (hts _ w_ac_native) (hts _ w_ac_static) (hts _ w_ac_init) hK.1 hP hD hS 4 12 0 0 rfl rfl rfl rfl rfl (by decide) (by decide) (by decide) (by decide) (by decide) (fun _ _ => rfl) (Nat.le_of_ble_eq_true rfl) (Nat.le_of_ble_eq_true rfl) dX3_copy_66 (fun H locs hP hD hS => ?_)
  replace hP : va_P D vwCl (bX3 cI a q os ++ bX3 cI b qb o4) H := by rw [eo4]; exact hP
  replace hD : va_D A (bX3 cI a q os ++ bX3 cI b qb o4) := by rw [eo4]; exact hD
  refine lv_aload_n (pc := 69) hx hb dX3_copy_69 rfl (lv_at hl 1 rfl) ?_
  refine lv_aload_n (pc := 70) hx hb dX3_copy_70 rfl (lv_at hl 0 rfl) ?_
  refine va_get (pc := 71) (D := D) (ci := 3) (v := .int (os.1 4)) (C := RX3) (T := TX3) (N := 12) hx hb hts iX3 hown hK.1 hP 0 rfl rfl 4 (by decide) (hts _ fl_RX3_33) (fun _ h => h) rfl dX3_copy_71 ?_
  obtain ⟨o5, eo5, hf⟩ := lt_some hf
  refine va_put (pc := 74) (D := D) (ci := 3) (v := .int (os.1 4)) (ty := .int) (C := RX3) (T := TX3) (N := 12) hx hb hts iX3 tyX3 tyX3_ok nmX3 hown hK.1 hP hD hS 8 rfl rfl 4 (by decide) (hts _ fl_RX3_33) (fun _ h => h) rfl (tyX3_ok 4 (by decide)) rfl rfl (Nat.le_of_ble_eq_true rfl) dX3_copy_74 (fun H locs hP hD hS => ?_)
  replace hP : va_P D vwCl (bX3 cI a q os ++ bX3 cI b qb o5) H := by rw [eo5]; exact hP
  replace hD : va_D A (bX3 cI a q os ++ bX3 cI b qb o5) := by rw [eo5]; exact hD
  refine lv_aload_n (pc := 77) hx hb dX3_copy_77 rfl (lv_at hl 1 rfl) ?_
  refine lv_aload_n (pc := 78) hx hb dX3_copy_78 rfl (lv_at hl 0 rfl) ?_
  refine va_get (pc := 79) (D := D) (ci := 3) (v := .int (os.1 5)) (C := RX3) (T := TX3) (N := 12) hx hb hts iX3 hown hK.1 hP 0 rfl rfl 5 (by decide) (hts _ fl_RX3_37) (fun _ h => h) rfl dX3_copy_79 ?_
  obtain ⟨o6, eo6, hf⟩ := lt_some hf
  refine va_put (pc := 82) (D := D) (ci := 3) (v := .int (os.1 5)) (ty := .int) (C := RX3) (T := TX3) (N := 12) hx hb hts iX3 tyX3 tyX3_ok nmX3 hown hK.1 hP hD hS 8 rfl rfl 5 (by decide) (hts _ fl_RX3_37) (fun _ h => h) rfl (tyX3_ok 5 (by decide)) rfl rfl (Nat.le_of_ble_eq_true rfl) dX3_copy_82 (fun H locs hP hD hS => ?_)
  replace hP : va_P D vwCl (bX3 cI a q os ++ bX3 cI b qb o6) H := by rw [eo6]; exact hP
  replace hD : va_D A (bX3 cI a q os ++ bX3 cI b qb o6) := by rw [eo6]; exact hD
  refine lv_aload_n (pc := 85) hx hb dX3_copy_85 rfl (lv_at hl 0 rfl) ?_
  refine va_get (pc := 86) (D := D) (ci := 3) (v := .ref (q 6)) (C := RX3) (T := TX3) (N := 12) hx hb hts iX3 hown hK.1 hP 0 rfl rfl 6 (by decide) (hts _ fl_RX3_24) (fun _ h => h) rfl dX3_copy_86 ?_
  refine lv_iconst (v := 0) (pc := 89) hx hb dX3_copy_89 (by decide) ?_
  refine lv_aload_n (pc := 90) hx hb dX3_copy_90 rfl (lv_at hl 1 rfl) ?_
  refine va_get (pc := 91) (D := D) (ci := 3) (v := .ref (qb 6)) (C := RX3) (T := TX3) (N := 12) hx hb hts iX3 hown hK.1 hP 8 rfl rfl 6 (by decide) (hts _ fl_RX3_24) (fun _ h => h) rfl dX3_copy_91 ?_
  refine lv_iconst (v := 0) (pc := 94) hx hb dX3_copy_94 (by decide) ?_
  refine lv_iconst (v := 5) (pc := 95) hx hb dX3_copy_95 (by decide) ?_
  obtain ⟨o7, eo7, hf⟩ := lt_some hf
  refine va_copyi (pc := 96) (f := os.2.2 6) (g := o6.2.2 6) hx hb (hml.trans hl.1.symm) hown (hts _ ml_RX3_49) (hts _ w_ac_native) (hts _ w_ac_static) (hts _ w_ac_init) hK.1 hP hD hS 5 13 0 0 rfl rfl rfl rfl rfl (by decide) (by decide) (by decide) (by decide) (by decide) (fun _ _ => rfl) (Nat.le_of_ble_eq_true rfl) (Nat.le_of_ble_eq_true rfl) dX3_copy_96 (fun H locs hP hD hS => ?_)
  replace hP : va_P D vwCl (bX3 cI a q os ++ bX3 cI b qb o7) H := by rw [eo7]; exact hP
  replace hD : va_D A (bX3 cI a q os ++ bX3 cI b qb o7) := by rw [eo7]; exact hD
  refine lv_aload_n (pc := 99) hx hb dX3_copy_99 rfl (lv_at hl 0 rfl) ?_
  refine va_get (pc := 100) (D := D) (ci := 3) (v := .ref (q 7)) (C := RX3) (T := TX3) (N := 12) hx hb hts iX3 hown hK.1 hP 0 rfl rfl 7 (by decide) (hts _ fl_RX3_27) (fun _ h => h) rfl dX3_copy_100 ?_
  refine lv_iconst (v := 0) (pc := 103) hx hb dX3_copy_103 (by decide) ?_
  refine lv_aload_n (pc := 104) hx hb dX3_copy_104 rfl (lv_at hl 1 rfl) ?_
  refine va_get (pc := 105) (D := D) (ci := 3) (v := .ref (qb 7)) (C := RX3) (T := TX3) (N := 12) hx hb hts iX3 hown hK.1 hP 8 rfl rfl 7 (by decide) (hts _ fl_RX3_27) (fun _ h => h) rfl dX3_copy_105 ?_
  refine lv_iconst (v := 0) (pc := 108) hx hb dX3_copy_108 (by decide) ?_
  refine lv_iconst (v := 5) (pc := 109) hx hb dX3_copy_109 (by decide) ?_
  obtain ⟨o8, eo8, hf⟩ := lt_some hf
  refine va_copyi (pc := 110) (f := os.2.2 7) (g := o7.2.2 7) hx hb (hml.trans hl.1.symm) hown (hts _ ml_RX3_49) (hts _ w_ac_native) (hts _ w_ac_static) (hts _ w_ac_init) hK.1 hP hD hS 6 14 0 0 rfl rfl rfl rfl rfl (by decide) (by decide) (by decide) (by decide) (by decide) (fun _ _ => rfl) (Nat.le_of_ble_eq_true rfl) (Nat.le_of_ble_eq_true rfl) dX3_copy_110 (fun H locs hP hD hS => ?_)
  replace hP : va_P D vwCl (bX3 cI a q os ++ bX3 cI b qb o8) H := by rw [eo8]; exact hP
  replace hD : va_D A (bX3 cI a q os ++ bX3 cI b qb o8) := by rw [eo8]; exact hD
  refine lv_aload_n (pc := 113) hx hb dX3_copy_113 rfl (lv_at hl 0 rfl) ?_
  refine va_get (pc := 114) (D := D) (ci := 3) (v := .ref (q 8)) (C := RX3) (T := TX3) (N := 12) hx hb hts iX3 hown hK.1 hP 0 rfl rfl 8 (by decide) (hts _ fl_RX3_30) (fun _ h => h) rfl dX3_copy_114 ?_
  refine lv_iconst (v := 0) (pc := 117) hx hb dX3_copy_117 (by decide) ?_
  refine lv_aload_n (pc := 118) hx hb dX3_copy_118 rfl (lv_at hl 1 rfl) ?_
  refine va_get (pc := 119) (D := D) (ci := 3) (v := .ref (qb 8)) (C := RX3) (T := TX3) (N := 12) hx hb hts iX3 hown hK.1 hP 8 rfl rfl 8 (by decide) (hts _ fl_RX3_30) (fun _ h => h) rfl dX3_copy_119 ?_
  refine lv_iconst (v := 0) (pc := 122) hx hb dX3_copy_122 (by decide) ?_
  refine lv_iconst (v := 5) (pc := 123) hx hb dX3_copy_123 (by decide) ?_
  obtain ⟨o9, eo9, hf⟩ := lt_some hf
  refine va_copyi (pc := 124) (f := os.2.2 8) (g := o8.2.2 8) hx hb (hml.trans hl.1.symm) hown (hts _ ml_RX3_49) (hts _ w_ac_native) (hts _ w_ac_static) (hts _ w_ac_init) hK.1 hP hD hS 7 15 0 0 rfl rfl rfl rfl rfl (by decide) (by decide) (by decide) (by decide) (by decide) (fun _ _ => rfl) (Nat.le_of_ble_eq_true rfl) (Nat.le_of_ble_eq_true rfl) dX3_copy_124 (fun H locs hP hD hS => ?_)
  replace hP : va_P D vwCl (bX3 cI a q os ++ bX3 cI b qb o9) H := by rw [eo9]; exact hP
  replace hD : va_D A (bX3 cI a q os ++ bX3 cI b qb o9) := by rw [eo9]; exact hD
  refine lv_aload_n (pc := 127) hx hb dX3_copy_127 rfl (lv_at hl 1 rfl) ?_
  refine lv_aload_n (pc := 128) hx hb dX3_copy_128 rfl (lv_at hl 0 rfl) ?_
  refine va_get (pc := 129) (D := D) (ci := 3) (v := .int (os.1 9)) (C := RX3) (T := TX3) (N := 12) hx hb hts iX3 hown hK.1 hP 0 rfl rfl 9 (by decide) (hts _ fl_RX3_40) (fun _ h => h) rfl dX3_copy_129 ?_
  obtain ⟨o10, eo10, hf⟩ := lt_some hf
  refine va_put (pc := 132) (D := D) (ci := 3) (v := .int (os.1 9)) (ty := .int) (C := RX3) (T := TX3) (N := 12) hx hb hts iX3 tyX3 tyX3_ok nmX3 hown hK.1 hP hD hS 8 rfl rfl 9 (by decide) (hts _ fl_RX3_40) (fun _ h => h) rfl (tyX3_ok 9 (by decide)) rfl rfl (Nat.le_of_ble_eq_true rfl) dX3_copy_132 (fun H locs hP hD hS => ?_)
  replace hP : va_P D vwCl (bX3 cI a q os ++ bX3 cI b qb o10) H := by rw [eo10]; exact hP
  replace hD : va_D A (bX3 cI a q os ++ bX3 cI b qb o10) := by rw [eo10]; exact hD
  refine lv_aload_n (pc := 135) hx hb dX3_copy_135 rfl (lv_at hl 1 rfl) ?_
  refine lv_aload_n (pc := 136) hx hb dX3_copy_136 rfl (lv_at hl 0 rfl) ?_
  refine va_get (pc := 137) (D := D) (ci := 3) (v := .int (os.1 10)) (C := RX3) (T := TX3) (N := 12) hx hb hts iX3 hown hK.1 hP 0 rfl rfl 10 (by decide) (hts _ fl_RX3_43) (fun _ h => h) rfl dX3_copy_137 ?_
  obtain ⟨o11, eo11, hf⟩ := lt_some hf
  refine va_put (pc := 140) (D := D) (ci := 3) (v := .int (os.1 10)) (ty := .int) (C := RX3) (T := TX3) (N := 12) hx hb hts iX3 tyX3 tyX3_ok nmX3 hown hK.1 hP hD hS 8 rfl rfl 10 (by decide) (hts _ fl_RX3_43) (fun _ h => h) rfl (tyX3_ok 10 (by decide)) rfl rfl (Nat.le_of_ble_eq_true rfl) dX3_copy_140 (fun H locs hP hD hS => ?_)
  replace hP : va_P D vwCl (bX3 cI a q os ++ bX3 cI b qb o11) H := by rw [eo11]; exact hP
  replace hD : va_D A (bX3 cI a q os ++ bX3 cI b qb o11) := by rw [eo11]; exact hD
  refine lv_aload_n (pc := 143) hx hb dX3_copy_143 rfl (lv_at hl 1 rfl) ?_
  refine lv_aload_n (pc := 144) hx hb dX3_copy_144 rfl (lv_at hl 0 rfl) ?_
  refine va_get (pc := 145) (D := D) (ci := 3) (v := .int (os.1 11)) (C := RX3) (T := TX3) (N := 12) hx hb hts iX3 hown hK.1 hP 0 rfl rfl 11 (by decide) (hts _ fl_RX3_46) (fun _ h => h) rfl dX3_copy_145 ?_
  obtain ⟨o12, eo12, hf⟩ := lt_some hf
  refine va_put (pc := 148) (D := D) (ci := 3) (v := .int (os.1 11)) (ty := .int) (C := RX3) (T := TX3) (N := 12) hx hb hts iX3 tyX3 tyX3_ok nmX3 hown hK.1 hP hD hS 8 rfl rfl 11 (by decide) (hts _ fl_RX3_46) (fun _ h => h) rfl (tyX3_ok 11 (by decide)) rfl rfl (Nat.le_of_ble_eq_true rfl) dX3_copy_148 (fun H locs hP hD hS => ?_)
  replace hP : va_P D vwCl (bX3 cI a q os ++ bX3 cI b qb o12) H := by rw [eo12]; exact hP
  replace hD : va_D A (bX3 cI a q os ++ bX3 cI b qb o12) := by rw [eo12]; exact hD
  obtain rfl := Option.some.inj hf
  exact W.vret hx hb hr (fun t ht hW => ⟨rfl, by rw [ht]; exact hP, hD, hS.F ht⟩) hS.2.2 dX3_copy_151
def f_X3_isIntact (i0 : Int32) (os : OS) : Option Int32 := if (((os.1 5) >>> (i0 &&& 31)) &&& 1) = 1 then some 1 else some 0
set_option maxHeartbeats 4000000 in
set_option maxRecDepth 100000 in
theorem c_X3_isIntact (l : Launch) (D : va_G) (cI cZ cS : ClassId) (a : Nat) (q : Nat → Nat) (i0 : Int32) (os : OS) (x : Int32) (hf : f_X3_isIntact i0 os = some x) : Ct l yX3_isIntact cX3_isIntact 2 (some .boolean) 0 0 D cI cZ cS [.ref a, .int i0] (bX3 cI a q os) (some (.int x)) (bX3 cI a q os) := by
  intro sz
  refine Met.ofW (cc := cX3_isIntact) (maxL := 2) (ret := (some .boolean)) (by decide +kernel) rfl ?_
  intro p e s m args below meth c s₁ B hml hv
  obtain ⟨rfl, hsz, hP, hK, hD0⟩ := hv
  have hx := B.exec
  have hb := B.bytes
  have hr := B.returns
  have hts0 := atoms_spec (ws := .code yX3_isIntact cX3_isIntact 2 (some .boolean) :: TB) B.pre
  have hts := fun w (h : w ∈ TB) => hts0 w (List.mem_cons_of_mem _ h)
  have hown : s.vm.findClass RX3 = some m.cls := findClass_of_methodNamed B.named
  have hlocks := B.notSynchronized
  subst hsz
  have hD := hD0.self (sz := s.heap.size)
  generalize hAe : va_A (bX3 cI a q os) s.heap.size = A at hD ⊢
  have hA : ∀ q : Nat, s.heap.size ≤ q → A q := fun q h => by rw [← hAe]; exact Or.inr h
  have hS : va_S A s.heap s.heap [] := va_S.rf
  obtain ⟨H, hH⟩ : ∃ H, H = s.heap := ⟨_, rfl⟩
  rw [← hH] at hP
  have hS : va_S A s.heap H [] := by rw [hH]; exact hS
  have hl := lv_entry ([.ref a, .int i0]) (n := 2) (Nat.le_of_ble_eq_true rfl)
  rw [lg_entry_eq]
  generalize (lg_sl ([.ref a, .int i0]) ++ List.replicate (2 - (lg_sl ([.ref a, .int i0])).length) Slot.unset).toArray = ls at hl ⊢
  have hl : lv_has ls 2 [(0, .ref a), (1, .int i0)] := hl
  refine W_heap hH ?_
  obtain ⟨locs, hlo⟩ : ∃ locs : List Loc, locs = [] := ⟨_, rfl⟩
  rw [← hlo] at hS ⊢
  unfold f_X3_isIntact at hf
  refine lv_aload_n (pc := 0) hx hb dX3_isIntact_0 rfl (lv_at hl 0 rfl) ?_
  refine va_get (pc := 1) (D := D) (ci := 3) (v := .int (os.1 5)) (C := RX3) (T := TX3) (N := 12) hx hb hts iX3 hown hK.1 hP 0 rfl rfl 5 (by decide) (hts _ fl_RX3_37) (fun _ h => h) rfl dX3_isIntact_1 ?_
  refine lv_iload_n (pc := 4) hx hb dX3_isIntact_4 rfl (lv_at hl 1 rfl) ?_
  refine lv_ishr (pc := 5) hx hb dX3_isIntact_5 ?_
  refine lv_iconst (v := 1) (pc := 6) hx hb dX3_isIntact_6 (by decide) ?_
  refine lv_iand (pc := 7) hx hb dX3_isIntact_7 ?_
  refine lv_iconst (v := 1) (pc := 8) hx hb dX3_isIntact_8 (by decide) ?_
  refine lv_icmp_ne (pc := 9) (tgt := 16) hx hb dX3_isIntact_9 (by decide) (fun c1 => ?_) (fun c1 => ?_)
  · replace hf := im c1 hf
    refine lv_iconst (v := 0) (pc := 16) hx hb dX3_isIntact_16 (by decide) ?_
    obtain rfl := Option.some.inj hf
    exact W.zret hx hb hr rfl (fun t ht hW => ⟨rfl, by rw [ht]; exact hP, hD, hS.F ht⟩) hS.2.2 dX3_isIntact_17
  · replace hf := ip c1 hf
    refine lv_iconst (v := 1) (pc := 12) hx hb dX3_isIntact_12 (by decide) ?_
    refine lv_goto (pc := 13) (tgt := 17) hx hb dX3_isIntact_13 (by decide) ?_
    obtain rfl := Option.some.inj hf
    exact W.zret hx hb hr rfl (fun t ht hW => ⟨rfl, by rw [ht]; exact hP, hD, hS.F ht⟩) hS.2.2 dX3_isIntact_17
def lp_X3_weight_4 (u_S : OS) : Nat → Int32 → Int32 → Option (Int32 × Int32)
  | 0, _, _ => none
  | n + 1, v1, v2 => if (u_S.1 9) ≤ v2 then some (v1, v2) else ck v2 5 (lt (v1 + (u_S.2.2 8 (v2 : Int32).toNatClampNeg)) fun y6 => lp_X3_weight_4 u_S n y6 (v2 + 1))
def f_X3_weight (os : OS) : Option Int32 := Option.bind (lp_X3_weight_4 os 1000 0 0) fun z1 => some z1.1
set_option maxHeartbeats 4000000 in
set_option maxRecDepth 100000 in
theorem c_X3_weight (l : Launch) (D : va_G) (cI cZ cS : ClassId) (a : Nat) (q : Nat → Nat) (os : OS) (x : Int32) (hf : f_X3_weight os = some x) : Ct l yX3_weight cX3_weight 3 (some .int) 0 0 D cI cZ cS [.ref a] (bX3 cI a q os) (some (.int x)) (bX3 cI a q os) := by
  intro sz
  refine Met.ofW (cc := cX3_weight) (maxL := 3) (ret := (some .int)) (by decide +kernel) rfl ?_
  intro p e s m args below meth c s₁ B hml hv
  obtain ⟨rfl, hsz, hP, hK, hD0⟩ := hv
  have hx := B.exec
  have hb := B.bytes
  have hr := B.returns
  have hts0 := atoms_spec (ws := .code yX3_weight cX3_weight 3 (some .int) :: TB) B.pre
  have hts := fun w (h : w ∈ TB) => hts0 w (List.mem_cons_of_mem _ h)
  have hown : s.vm.findClass RX3 = some m.cls := findClass_of_methodNamed B.named
  have hlocks := B.notSynchronized
  subst hsz
  have hD := hD0.self (sz := s.heap.size)
  generalize hAe : va_A (bX3 cI a q os) s.heap.size = A at hD ⊢
  have hA : ∀ q : Nat, s.heap.size ≤ q → A q := fun q h => by rw [← hAe]; exact Or.inr h
  have hS : va_S A s.heap s.heap [] := va_S.rf
  obtain ⟨H, hH⟩ : ∃ H, H = s.heap := ⟨_, rfl⟩
  rw [← hH] at hP
  have hS : va_S A s.heap H [] := by rw [hH]; exact hS
  have hl := lv_entry ([.ref a]) (n := 3) (Nat.le_of_ble_eq_true rfl)
  rw [lg_entry_eq]
  generalize (lg_sl ([.ref a]) ++ List.replicate (3 - (lg_sl ([.ref a])).length) Slot.unset).toArray = ls at hl ⊢
  have hl : lv_has ls 3 [(0, .ref a)] := hl
  refine W_heap hH ?_
  obtain ⟨locs, hlo⟩ : ∃ locs : List Loc, locs = [] := ⟨_, rfl⟩
  rw [← hlo] at hS ⊢
  unfold f_X3_weight at hf
  refine lv_iconst (v := 0) (pc := 0) hx hb dX3_weight_0 (by decide) ?_
  refine lv_istore_n (lv' := [(1, .int 0), (0, .ref a)]) (pc := 1) hx hb dX3_weight_1 rfl hl (by decide) rfl (fun ls hl => ?_)
  refine lv_iconst (v := 0) (pc := 2) hx hb dX3_weight_2 (by decide) ?_
  refine lv_istore_n (lv' := [(2, .int 0), (1, .int 0), (0, .ref a)]) (pc := 3) hx hb dX3_weight_3 rfl hl (by decide) rfl (fun ls hl => ?_)
  obtain ⟨z1, hz1, hf⟩ := bd_some hf
  have hfz1 := hf
  clear hf
  have K2 : ∀ (H : Heap) (locs : List Loc) (ls : Array Slot), va_P D vwCl (bX3 cI a q os) H → va_D A (bX3 cI a q os) → va_S A s.heap H locs → lv_has ls 3 [(0, .ref a), (1, .int z1.1), (2, .int z1.2)] → GW l yX3_weight cX3_weight 3 (some .int) 0 0 D [.ref a] (some (.int x)) (bX3 cI a q os) A p e s m below meth c H locs (F0 m 27 ls []) := by
    intro H locs ls hP hD hS hl
    have hf := hfz1
    refine lv_iload_n (pc := 27) hx hb dX3_weight_27 rfl (lv_at hl 1 rfl) ?_
    obtain rfl := Option.some.inj hf
    exact W.iret hx hb hr (fun t ht hW => ⟨rfl, by rw [ht]; exact hP, hD, hS.F ht⟩) hS.2.2 dX3_weight_28
  have KL3 : ∀ (n : Nat) (v1 : Int32) (v2 : Int32) (H : Heap) (locs : List Loc) (ls : Array Slot), lp_X3_weight_4 os n v1 v2 = some z1 → va_P D vwCl (bX3 cI a q os) H → va_D A (bX3 cI a q os) → va_S A s.heap H locs → lv_has ls 3 [(0, .ref a), (1, .int v1), (2, .int v2)] → GW l yX3_weight cX3_weight 3 (some .int) 0 0 D [.ref a] (some (.int x)) (bX3 cI a q os) A p e s m below meth c H locs (F0 m 4 ls []) := by
    intro n
    induction n with
    | zero => intro v1 v2 H locs ls hf; cases hf
    | succ n ih =>
      intro v1 v2 H locs ls hf hP hD hS hl
      rw [lp_X3_weight_4] at hf
      refine lv_iload_n (pc := 4) hx hb dX3_weight_4 rfl (lv_at hl 2 rfl) ?_
      refine lv_aload_n (pc := 5) hx hb dX3_weight_5 rfl (lv_at hl 0 rfl) ?_
      refine va_get (pc := 6) (D := D) (ci := 3) (v := .int (os.1 9)) (C := RX3) (T := TX3) (N := 12) hx hb hts iX3 hown hK.1 hP 0 rfl rfl 9 (by decide) (hts _ fl_RX3_40) (fun _ h => h) rfl dX3_weight_6 ?_
      refine lv_icmp_ge (pc := 9) (tgt := 27) hx hb dX3_weight_9 (by decide) (fun c4 => ?_) (fun c4 => ?_)
      · replace hf := ip c4 hf
        obtain rfl := Option.some.inj hf
        exact K2 H locs ls hP hD hS (lv_sub hl [0, 1, 2] rfl)
      · replace hf := im c4 hf
        refine lv_iload_n (pc := 12) hx hb dX3_weight_12 rfl (lv_at hl 1 rfl) ?_
        refine lv_aload_n (pc := 13) hx hb dX3_weight_13 rfl (lv_at hl 0 rfl) ?_
        refine va_get (pc := 14) (D := D) (ci := 3) (v := .ref (q 8)) (C := RX3) (T := TX3) (N := 12) hx hb hts iX3 hown hK.1 hP 0 rfl rfl 8 (by decide) (hts _ fl_RX3_30) (fun _ h => h) rfl dX3_weight_14 ?_
        refine lv_iload_n (pc := 17) hx hb dX3_weight_17 rfl (lv_at hl 2 rfl) ?_
        obtain ⟨h5, hf⟩ := ck_some hf
        refine va_iald (pc := 18) (f := os.2.2 8) hx hb hK.1 hP 7 0 rfl rfl h5 dX3_weight_18 ?_
        refine lv_iadd (pc := 19) hx hb dX3_weight_19 ?_
        obtain ⟨y6, ey6, hf⟩ := lt_some hf
        refine lv_nmI ey6 ?_
        refine lv_istore_n (lv' := [(1, .int y6), (0, .ref a), (2, .int v2)]) (pc := 20) hx hb dX3_weight_20 rfl hl (by decide) rfl (fun ls hl => ?_)
        refine lv_iinc (v := (v2 + 1)) (lv' := [(2, .int (v2 + 1)), (1, .int y6), (0, .ref a)]) (pc := 21) hx hb dX3_weight_21 hl (k := 2) rfl rfl (by decide) rfl (fun ls hl => ?_)
        refine lv_goto (pc := 24) (tgt := 4) hx hb dX3_weight_24 (by decide) ?_
        exact ih _ _ H locs ls hf hP hD hS (lv_sub hl [2, 1, 0] rfl)
  exact KL3 1000 _ _ H locs ls hz1 hP hD hS (lv_sub hl [2, 1, 0] rfl)
def lp_X3_momentX_7 (u_S : OS) : Nat → Int32 → Int32 → Option (Int32 × Int32)
  | 0, _, _ => none
  | n + 1, v1, v2 => if (u_S.1 9) ≤ v2 then some (v1, v2) else ck v2 5 (ck v2 5 (lt (v1 + ((u_S.2.2 8 (v2 : Int32).toNatClampNeg) * (u_S.2.2 6 (v2 : Int32).toNatClampNeg))) fun y7 => lp_X3_momentX_7 u_S n y7 (v2 + 1)))
def f_X3_momentX (os : OS) : Option Int32 := Option.bind (lp_X3_momentX_7 os 1000 (os.1 10) 0) fun z1 => some z1.1
set_option maxHeartbeats 4000000 in
set_option maxRecDepth 100000 in
theorem c_X3_momentX (l : Launch) (D : va_G) (cI cZ cS : ClassId) (a : Nat) (q : Nat → Nat) (os : OS) (x : Int32) (hf : f_X3_momentX os = some x) : Ct l yX3_momentX cX3_momentX 3 (some .int) 0 0 D cI cZ cS [.ref a] (bX3 cI a q os) (some (.int x)) (bX3 cI a q os) := by
  intro sz
  refine Met.ofW (cc := cX3_momentX) (maxL := 3) (ret := (some .int)) (by decide +kernel) rfl ?_
  intro p e s m args below meth c s₁ B hml hv
  obtain ⟨rfl, hsz, hP, hK, hD0⟩ := hv
  have hx := B.exec
  have hb := B.bytes
  have hr := B.returns
  have hts0 := atoms_spec (ws := .code yX3_momentX cX3_momentX 3 (some .int) :: TB) B.pre
  have hts := fun w (h : w ∈ TB) => hts0 w (List.mem_cons_of_mem _ h)
  have hown : s.vm.findClass RX3 = some m.cls := findClass_of_methodNamed B.named
  have hlocks := B.notSynchronized
  subst hsz
  have hD := hD0.self (sz := s.heap.size)
  generalize hAe : va_A (bX3 cI a q os) s.heap.size = A at hD ⊢
  have hA : ∀ q : Nat, s.heap.size ≤ q → A q := fun q h => by rw [← hAe]; exact Or.inr h
  have hS : va_S A s.heap s.heap [] := va_S.rf
  obtain ⟨H, hH⟩ : ∃ H, H = s.heap := ⟨_, rfl⟩
  rw [← hH] at hP
  have hS : va_S A s.heap H [] := by rw [hH]; exact hS
  have hl := lv_entry ([.ref a]) (n := 3) (Nat.le_of_ble_eq_true rfl)
  rw [lg_entry_eq]
  generalize (lg_sl ([.ref a]) ++ List.replicate (3 - (lg_sl ([.ref a])).length) Slot.unset).toArray = ls at hl ⊢
  have hl : lv_has ls 3 [(0, .ref a)] := hl
  refine W_heap hH ?_
  obtain ⟨locs, hlo⟩ : ∃ locs : List Loc, locs = [] := ⟨_, rfl⟩
  rw [← hlo] at hS ⊢
  unfold f_X3_momentX at hf
  refine lv_aload_n (pc := 0) hx hb dX3_momentX_0 rfl (lv_at hl 0 rfl) ?_
  refine va_get (pc := 1) (D := D) (ci := 3) (v := .int (os.1 10)) (C := RX3) (T := TX3) (N := 12) hx hb hts iX3 hown hK.1 hP 0 rfl rfl 10 (by decide) (hts _ fl_RX3_43) (fun _ h => h) rfl dX3_momentX_1 ?_
  refine lv_istore_n (lv' := [(1, .int (os.1 10)), (0, .ref a)]) (pc := 4) hx hb dX3_momentX_4 rfl hl (by decide) rfl (fun ls hl => ?_)
  refine lv_iconst (v := 0) (pc := 5) hx hb dX3_momentX_5 (by decide) ?_
  refine lv_istore_n (lv' := [(2, .int 0), (1, .int (os.1 10)), (0, .ref a)]) (pc := 6) hx hb dX3_momentX_6 rfl hl (by decide) rfl (fun ls hl => ?_)
  obtain ⟨z1, hz1, hf⟩ := bd_some hf
  have hfz1 := hf
  clear hf
  have K2 : ∀ (H : Heap) (locs : List Loc) (ls : Array Slot), va_P D vwCl (bX3 cI a q os) H → va_D A (bX3 cI a q os) → va_S A s.heap H locs → lv_has ls 3 [(0, .ref a), (1, .int z1.1), (2, .int z1.2)] → GW l yX3_momentX cX3_momentX 3 (some .int) 0 0 D [.ref a] (some (.int x)) (bX3 cI a q os) A p e s m below meth c H locs (F0 m 37 ls []) := by
    intro H locs ls hP hD hS hl
    have hf := hfz1
    refine lv_iload_n (pc := 37) hx hb dX3_momentX_37 rfl (lv_at hl 1 rfl) ?_
    obtain rfl := Option.some.inj hf
    exact W.iret hx hb hr (fun t ht hW => ⟨rfl, by rw [ht]; exact hP, hD, hS.F ht⟩) hS.2.2 dX3_momentX_38
  have KL3 : ∀ (n : Nat) (v1 : Int32) (v2 : Int32) (H : Heap) (locs : List Loc) (ls : Array Slot), lp_X3_momentX_7 os n v1 v2 = some z1 → va_P D vwCl (bX3 cI a q os) H → va_D A (bX3 cI a q os) → va_S A s.heap H locs → lv_has ls 3 [(0, .ref a), (1, .int v1), (2, .int v2)] → GW l yX3_momentX cX3_momentX 3 (some .int) 0 0 D [.ref a] (some (.int x)) (bX3 cI a q os) A p e s m below meth c H locs (F0 m 7 ls []) := by
    intro n
    induction n with
    | zero => intro v1 v2 H locs ls hf; cases hf
    | succ n ih =>
      intro v1 v2 H locs ls hf hP hD hS hl
      rw [lp_X3_momentX_7] at hf
      refine lv_iload_n (pc := 7) hx hb dX3_momentX_7 rfl (lv_at hl 2 rfl) ?_
      refine lv_aload_n (pc := 8) hx hb dX3_momentX_8 rfl (lv_at hl 0 rfl) ?_
      refine va_get (pc := 9) (D := D) (ci := 3) (v := .int (os.1 9)) (C := RX3) (T := TX3) (N := 12) hx hb hts iX3 hown hK.1 hP 0 rfl rfl 9 (by decide) (hts _ fl_RX3_40) (fun _ h => h) rfl dX3_momentX_9 ?_
      refine lv_icmp_ge (pc := 12) (tgt := 37) hx hb dX3_momentX_12 (by decide) (fun c4 => ?_) (fun c4 => ?_)
      · replace hf := ip c4 hf
        obtain rfl := Option.some.inj hf
        exact K2 H locs ls hP hD hS (lv_sub hl [0, 1, 2] rfl)
      · replace hf := im c4 hf
        refine lv_iload_n (pc := 15) hx hb dX3_momentX_15 rfl (lv_at hl 1 rfl) ?_
        refine lv_aload_n (pc := 16) hx hb dX3_momentX_16 rfl (lv_at hl 0 rfl) ?_
        refine va_get (pc := 17) (D := D) (ci := 3) (v := .ref (q 8)) (C := RX3) (T := TX3) (N := 12) hx hb hts iX3 hown hK.1 hP 0 rfl rfl 8 (by decide) (hts _ fl_RX3_30) (fun _ h => h) rfl dX3_momentX_17 ?_
        refine lv_iload_n (pc := 20) hx hb dX3_momentX_20 rfl (lv_at hl 2 rfl) ?_
        obtain ⟨h5, hf⟩ := ck_some hf
        refine va_iald (pc := 21) (f := os.2.2 8) hx hb hK.1 hP 7 0 rfl rfl h5 dX3_momentX_21 ?_
        refine lv_aload_n (pc := 22) hx hb dX3_momentX_22 rfl (lv_at hl 0 rfl) ?_
        refine va_get (pc := 23) (D := D) (ci := 3) (v := .ref (q 6)) (C := RX3) (T := TX3) (N := 12) hx hb hts iX3 hown hK.1 hP 0 rfl rfl 6 (by decide) (hts _ fl_RX3_24) (fun _ h => h) rfl dX3_momentX_23 ?_
        refine lv_iload_n (pc := 26) hx hb dX3_momentX_26 rfl (lv_at hl 2 rfl) ?_
        obtain ⟨h6, hf⟩ := ck_some hf
        refine va_iald (pc := 27) (f := os.2.2 6) hx hb hK.1 hP 5 0 rfl rfl h6 dX3_momentX_27 ?_
        refine lv_imul (pc := 28) hx hb dX3_momentX_28 ?_
        refine lv_iadd (pc := 29) hx hb dX3_momentX_29 ?_
        obtain ⟨y7, ey7, hf⟩ := lt_some hf
        refine lv_nmI ey7 ?_
        refine lv_istore_n (lv' := [(1, .int y7), (0, .ref a), (2, .int v2)]) (pc := 30) hx hb dX3_momentX_30 rfl hl (by decide) rfl (fun ls hl => ?_)
        refine lv_iinc (v := (v2 + 1)) (lv' := [(2, .int (v2 + 1)), (1, .int y7), (0, .ref a)]) (pc := 31) hx hb dX3_momentX_31 hl (k := 2) rfl rfl (by decide) rfl (fun ls hl => ?_)
        refine lv_goto (pc := 34) (tgt := 7) hx hb dX3_momentX_34 (by decide) ?_
        exact ih _ _ H locs ls hf hP hD hS (lv_sub hl [2, 1, 0] rfl)
  exact KL3 1000 _ _ H locs ls hz1 hP hD hS (lv_sub hl [2, 1, 0] rfl)
def lp_X3_momentY_7 (u_S : OS) : Nat → Int32 → Int32 → Option (Int32 × Int32)
  | 0, _, _ => none
  | n + 1, v1, v2 => if (u_S.1 9) ≤ v2 then some (v1, v2) else ck v2 5 (ck v2 5 (lt (v1 + ((u_S.2.2 8 (v2 : Int32).toNatClampNeg) * (u_S.2.2 7 (v2 : Int32).toNatClampNeg))) fun y7 => lp_X3_momentY_7 u_S n y7 (v2 + 1)))
def f_X3_momentY (os : OS) : Option Int32 := Option.bind (lp_X3_momentY_7 os 1000 (os.1 11) 0) fun z1 => some z1.1
set_option maxHeartbeats 4000000 in
set_option maxRecDepth 100000 in
theorem c_X3_momentY (l : Launch) (D : va_G) (cI cZ cS : ClassId) (a : Nat) (q : Nat → Nat) (os : OS) (x : Int32) (hf : f_X3_momentY os = some x) : Ct l yX3_momentY cX3_momentY 3 (some .int) 0 0 D cI cZ cS [.ref a] (bX3 cI a q os) (some (.int x)) (bX3 cI a q os) := by
  intro sz
  refine Met.ofW (cc := cX3_momentY) (maxL := 3) (ret := (some .int)) (by decide +kernel) rfl ?_
  intro p e s m args below meth c s₁ B hml hv
  obtain ⟨rfl, hsz, hP, hK, hD0⟩ := hv
  have hx := B.exec
  have hb := B.bytes
  have hr := B.returns
  have hts0 := atoms_spec (ws := .code yX3_momentY cX3_momentY 3 (some .int) :: TB) B.pre
  have hts := fun w (h : w ∈ TB) => hts0 w (List.mem_cons_of_mem _ h)
  have hown : s.vm.findClass RX3 = some m.cls := findClass_of_methodNamed B.named
  have hlocks := B.notSynchronized
  subst hsz
  have hD := hD0.self (sz := s.heap.size)
  generalize hAe : va_A (bX3 cI a q os) s.heap.size = A at hD ⊢
  have hA : ∀ q : Nat, s.heap.size ≤ q → A q := fun q h => by rw [← hAe]; exact Or.inr h
  have hS : va_S A s.heap s.heap [] := va_S.rf
  obtain ⟨H, hH⟩ : ∃ H, H = s.heap := ⟨_, rfl⟩
  rw [← hH] at hP
  have hS : va_S A s.heap H [] := by rw [hH]; exact hS
  have hl := lv_entry ([.ref a]) (n := 3) (Nat.le_of_ble_eq_true rfl)
  rw [lg_entry_eq]
  generalize (lg_sl ([.ref a]) ++ List.replicate (3 - (lg_sl ([.ref a])).length) Slot.unset).toArray = ls at hl ⊢
  have hl : lv_has ls 3 [(0, .ref a)] := hl
  refine W_heap hH ?_
  obtain ⟨locs, hlo⟩ : ∃ locs : List Loc, locs = [] := ⟨_, rfl⟩
  rw [← hlo] at hS ⊢
  unfold f_X3_momentY at hf
  refine lv_aload_n (pc := 0) hx hb dX3_momentY_0 rfl (lv_at hl 0 rfl) ?_
  refine va_get (pc := 1) (D := D) (ci := 3) (v := .int (os.1 11)) (C := RX3) (T := TX3) (N := 12) hx hb hts iX3 hown hK.1 hP 0 rfl rfl 11 (by decide) (hts _ fl_RX3_46) (fun _ h => h) rfl dX3_momentY_1 ?_
  refine lv_istore_n (lv' := [(1, .int (os.1 11)), (0, .ref a)]) (pc := 4) hx hb dX3_momentY_4 rfl hl (by decide) rfl (fun ls hl => ?_)
  refine lv_iconst (v := 0) (pc := 5) hx hb dX3_momentY_5 (by decide) ?_
  refine lv_istore_n (lv' := [(2, .int 0), (1, .int (os.1 11)), (0, .ref a)]) (pc := 6) hx hb dX3_momentY_6 rfl hl (by decide) rfl (fun ls hl => ?_)
  obtain ⟨z1, hz1, hf⟩ := bd_some hf
  have hfz1 := hf
  clear hf
  have K2 : ∀ (H : Heap) (locs : List Loc) (ls : Array Slot), va_P D vwCl (bX3 cI a q os) H → va_D A (bX3 cI a q os) → va_S A s.heap H locs → lv_has ls 3 [(0, .ref a), (1, .int z1.1), (2, .int z1.2)] → GW l yX3_momentY cX3_momentY 3 (some .int) 0 0 D [.ref a] (some (.int x)) (bX3 cI a q os) A p e s m below meth c H locs (F0 m 37 ls []) := by
    intro H locs ls hP hD hS hl
    have hf := hfz1
    refine lv_iload_n (pc := 37) hx hb dX3_momentY_37 rfl (lv_at hl 1 rfl) ?_
    obtain rfl := Option.some.inj hf
    exact W.iret hx hb hr (fun t ht hW => ⟨rfl, by rw [ht]; exact hP, hD, hS.F ht⟩) hS.2.2 dX3_momentY_38
  have KL3 : ∀ (n : Nat) (v1 : Int32) (v2 : Int32) (H : Heap) (locs : List Loc) (ls : Array Slot), lp_X3_momentY_7 os n v1 v2 = some z1 → va_P D vwCl (bX3 cI a q os) H → va_D A (bX3 cI a q os) → va_S A s.heap H locs → lv_has ls 3 [(0, .ref a), (1, .int v1), (2, .int v2)] → GW l yX3_momentY cX3_momentY 3 (some .int) 0 0 D [.ref a] (some (.int x)) (bX3 cI a q os) A p e s m below meth c H locs (F0 m 7 ls []) := by
    intro n
    induction n with
    | zero => intro v1 v2 H locs ls hf; cases hf
    | succ n ih =>
      intro v1 v2 H locs ls hf hP hD hS hl
      rw [lp_X3_momentY_7] at hf
      refine lv_iload_n (pc := 7) hx hb dX3_momentY_7 rfl (lv_at hl 2 rfl) ?_
      refine lv_aload_n (pc := 8) hx hb dX3_momentY_8 rfl (lv_at hl 0 rfl) ?_
      refine va_get (pc := 9) (D := D) (ci := 3) (v := .int (os.1 9)) (C := RX3) (T := TX3) (N := 12) hx hb hts iX3 hown hK.1 hP 0 rfl rfl 9 (by decide) (hts _ fl_RX3_40) (fun _ h => h) rfl dX3_momentY_9 ?_
      refine lv_icmp_ge (pc := 12) (tgt := 37) hx hb dX3_momentY_12 (by decide) (fun c4 => ?_) (fun c4 => ?_)
      · replace hf := ip c4 hf
        obtain rfl := Option.some.inj hf
        exact K2 H locs ls hP hD hS (lv_sub hl [0, 1, 2] rfl)
      · replace hf := im c4 hf
        refine lv_iload_n (pc := 15) hx hb dX3_momentY_15 rfl (lv_at hl 1 rfl) ?_
        refine lv_aload_n (pc := 16) hx hb dX3_momentY_16 rfl (lv_at hl 0 rfl) ?_
        refine va_get (pc := 17) (D := D) (ci := 3) (v := .ref (q 8)) (C := RX3) (T := TX3) (N := 12) hx hb hts iX3 hown hK.1 hP 0 rfl rfl 8 (by decide) (hts _ fl_RX3_30) (fun _ h => h) rfl dX3_momentY_17 ?_
        refine lv_iload_n (pc := 20) hx hb dX3_momentY_20 rfl (lv_at hl 2 rfl) ?_
        obtain ⟨h5, hf⟩ := ck_some hf
        refine va_iald (pc := 21) (f := os.2.2 8) hx hb hK.1 hP 7 0 rfl rfl h5 dX3_momentY_21 ?_
        refine lv_aload_n (pc := 22) hx hb dX3_momentY_22 rfl (lv_at hl 0 rfl) ?_
        refine va_get (pc := 23) (D := D) (ci := 3) (v := .ref (q 7)) (C := RX3) (T := TX3) (N := 12) hx hb hts iX3 hown hK.1 hP 0 rfl rfl 7 (by decide) (hts _ fl_RX3_27) (fun _ h => h) rfl dX3_momentY_23 ?_
        refine lv_iload_n (pc := 26) hx hb dX3_momentY_26 rfl (lv_at hl 2 rfl) ?_
        obtain ⟨h6, hf⟩ := ck_some hf
        refine va_iald (pc := 27) (f := os.2.2 7) hx hb hK.1 hP 6 0 rfl rfl h6 dX3_momentY_27 ?_
        refine lv_imul (pc := 28) hx hb dX3_momentY_28 ?_
        refine lv_iadd (pc := 29) hx hb dX3_momentY_29 ?_
        obtain ⟨y7, ey7, hf⟩ := lt_some hf
        refine lv_nmI ey7 ?_
        refine lv_istore_n (lv' := [(1, .int y7), (0, .ref a), (2, .int v2)]) (pc := 30) hx hb dX3_momentY_30 rfl hl (by decide) rfl (fun ls hl => ?_)
        refine lv_iinc (v := (v2 + 1)) (lv' := [(2, .int (v2 + 1)), (1, .int y7), (0, .ref a)]) (pc := 31) hx hb dX3_momentY_31 hl (k := 2) rfl rfl (by decide) rfl (fun ls hl => ?_)
        refine lv_goto (pc := 34) (tgt := 7) hx hb dX3_momentY_34 (by decide) ?_
        exact ih _ _ H locs ls hf hP hD hS (lv_sub hl [2, 1, 0] rfl)
  exact KL3 1000 _ _ H locs ls hz1 hP hD hS (lv_sub hl [2, 1, 0] rfl)
