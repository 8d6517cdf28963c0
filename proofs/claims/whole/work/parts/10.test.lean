def f_X5_in (i0 : Int32) (i1 : Int32) (i2 : Int32) : Option Int32 := if i0 < i1 then some 0 else if i2 < i0 then some 0 else some 1
set_option maxHeartbeats 4000000 in
set_option maxRecDepth 100000 in
theorem c_X5_in (l : Launch) (D : va_G) (cI cZ cS : ClassId) (i0 : Int32) (i1 : Int32) (i2 : Int32) (x : Int32) (hf : f_X5_in i0 i1 i2 = some x) : Ct l yX5_in cX5_in 3 (some .boolean) 0 0 D cI cZ cS [.int i0, .int i1, .int i2] ([]) (some (.int x)) ([]) := by
  intro sz
  refine Met.ofW (cc := cX5_in) (maxL := 3) (ret := (some .boolean)) (by decide) rfl ?_
  intro p e s m args below meth c s₁ B hml hv
  obtain ⟨rfl, hsz, hP, hK, hD0⟩ := hv
  have hx := B.exec
  have hb := B.bytes
  have hr := B.returns
  have hts0 := atoms_spec (ws := .code yX5_in cX5_in 3 (some .boolean) :: TB) B.pre
  have hts := fun w (h : w ∈ TB) => hts0 w (List.mem_cons_of_mem _ h)
  have hown : s.vm.findClass RX5 = some m.cls := findClass_of_methodNamed B.named
  have hlocks := B.notSynchronized
  subst hsz
  have hD := hD0.self (sz := s.heap.size)
  generalize hAe : va_A ([]) s.heap.size = A at hD ⊢
  have hA : ∀ q : Nat, s.heap.size ≤ q → A q := fun q h => by rw [← hAe]; exact Or.inr h
  have hS : va_S A s.heap s.heap [] := va_S.rf
  obtain ⟨H, hH⟩ : ∃ H, H = s.heap := ⟨_, rfl⟩
  rw [← hH] at hP
  have hS : va_S A s.heap H [] := by rw [hH]; exact hS
  have hl := lv_entry ([.int i0, .int i1, .int i2]) (n := 3) (Nat.le_of_ble_eq_true rfl)
  rw [lg_entry_eq]
  generalize (lg_sl ([.int i0, .int i1, .int i2]) ++ List.replicate (3 - (lg_sl ([.int i0, .int i1, .int i2])).length) Slot.unset).toArray = ls at hl ⊢
  have hl : lv_has ls 3 [(0, .int i0), (1, .int i1), (2, .int i2)] := hl
  refine W_heap hH ?_
  obtain ⟨locs, hlo⟩ : ∃ locs : List Loc, locs = [] := ⟨_, rfl⟩
  rw [← hlo] at hS ⊢
  unfold f_X5_in at hf
  refine lv_iload_n (pc := 0) hx hb dX5_in_0 rfl (lv_at hl 0 rfl) ?_
  refine lv_iload_n (pc := 1) hx hb dX5_in_1 rfl (lv_at hl 1 rfl) ?_
  refine lv_icmp_lt (pc := 2) (tgt := 14) hx hb dX5_in_2 (by decide) (fun c1 => ?_) (fun c1 => ?_)
  · replace hf := ip c1 hf
    refine lv_iconst (v := 0) (pc := 14) hx hb dX5_in_14 (by decide) ?_
    cases hf
    exact W.zret hx hb hr rfl (fun t ht hW => ⟨rfl, by rw [ht]; exact hP, hD, hS.F ht⟩) hS.2.2 dX5_in_15
  · replace hf := im c1 hf
    refine lv_iload_n (pc := 5) hx hb dX5_in_5 rfl (lv_at hl 0 rfl) ?_
    refine lv_iload_n (pc := 6) hx hb dX5_in_6 rfl (lv_at hl 2 rfl) ?_
    refine lv_icmp_gt (pc := 7) (tgt := 14) hx hb dX5_in_7 (by decide) (fun c2 => ?_) (fun c2 => ?_)
    · replace hf := ip c2 hf
      refine lv_iconst (v := 0) (pc := 14) hx hb dX5_in_14 (by decide) ?_
      cases hf
      exact W.zret hx hb hr rfl (fun t ht hW => ⟨rfl, by rw [ht]; exact hP, hD, hS.F ht⟩) hS.2.2 dX5_in_15
    · replace hf := im c2 hf
      refine lv_iconst (v := 1) (pc := 10) hx hb dX5_in_10 (by decide) ?_
      refine lv_goto (pc := 11) (tgt := 15) hx hb dX5_in_11 (by decide) ?_
      cases hf
      exact W.zret hx hb hr rfl (fun t ht hW => ⟨rfl, by rw [ht]; exact hP, hD, hS.F ht⟩) hS.2.2 dX5_in_15
def f_X5_isPile (i0 : Int32) (om : OS) : Option Int32 := Option.bind (f_X5_in i0 0 ((om.2.2 0 (0 : Int32).toNatClampNeg) - 1)) fun x2 => bz x2 (some x2)
set_option maxHeartbeats 4000000 in
set_option maxRecDepth 100000 in
theorem c_X5_isPile (l : Launch) (D : va_G) (cI cZ cS : ClassId) (a : Nat) (q : Nat → Nat) (i0 : Int32) (om : OS) (x : Int32) (hf : f_X5_isPile i0 om = some x) : Ct l yX5_isPile cX5_isPile 2 (some .boolean) 1 22 D cI cZ cS [.ref a, .int i0] (bX5 cI cZ a q om) (some (.int x)) (bX5 cI cZ a q om) := by
  intro sz
  refine Met.ofW (cc := cX5_isPile) (maxL := 2) (ret := (some .boolean)) (by decide) rfl ?_
  intro p e s m args below meth c s₁ B hml hv
  obtain ⟨rfl, hsz, hP, hK, hD0⟩ := hv
  have hx := B.exec
  have hb := B.bytes
  have hr := B.returns
  have hts0 := atoms_spec (ws := .code yX5_isPile cX5_isPile 2 (some .boolean) :: TB) B.pre
  have hts := fun w (h : w ∈ TB) => hts0 w (List.mem_cons_of_mem _ h)
  have hown : s.vm.findClass RX5 = some m.cls := findClass_of_methodNamed B.named
  have hlocks := B.notSynchronized
  subst hsz
  have hD := hD0.self (sz := s.heap.size)
  generalize hAe : va_A (bX5 cI cZ a q om) s.heap.size = A at hD ⊢
  have hA : ∀ q : Nat, s.heap.size ≤ q → A q := fun q h => by rw [← hAe]; exact Or.inr h
  have hS : va_S A s.heap s.heap [] := va_S.rf
  obtain ⟨H, hH⟩ : ∃ H, H = s.heap := ⟨_, rfl⟩
  rw [← hH] at hP
  have hS : va_S A s.heap H [] := by rw [hH]; exact hS
  have hl := lv_entry ([.ref a, .int i0]) (n := 2) (Nat.le_of_ble_eq_true rfl)
  rw [lg_entry_eq]
  generalize (lg_sl ([.ref a, .int i0]) ++ List.replicate (2 - (lg_sl ([.ref a, .int i0])).length) Slot.unset).toArray = ls at hl ⊢
  have hl : lv_has ls 2 [(0, .ref a), (1, .int i0)] := hl
  refine W_heap hH ?_
  obtain ⟨locs, hlo⟩ : ∃ locs : List Loc, locs = [] := ⟨_, rfl⟩
  rw [← hlo] at hS ⊢
  unfold f_X5_isPile at hf
  refine lv_iload_n (pc := 0) hx hb dX5_isPile_0 rfl (lv_at hl 1 rfl) ?_
  refine lv_iconst (v := 0) (pc := 1) hx hb dX5_isPile_1 (by decide) ?_
  refine lv_aload_n (pc := 2) hx hb dX5_isPile_2 rfl (lv_at hl 0 rfl) ?_
  refine va_get (pc := 3) (D := D) (ci := 5) (v := .ref (q 0)) (C := RX5) (T := TX5) (N := 41) hx hb hts iX5 hown hK.1 hP 0 rfl rfl 0 (by decide) (hts _ fl_RX5_7) (fun _ h => h) rfl dX5_isPile_3 ?_
  refine lv_iconst (v := 0) (pc := 6) hx hb dX5_isPile_6 (by decide) ?_
  have h1 : vp_in 0 59 := by unfold vp_in; decide
  refine va_iald (pc := 7) (f := om.2.2 0) hx hb hK.1 hP 1 0 rfl rfl h1 dX5_isPile_7 ?_
  refine lv_iconst (v := 1) (pc := 8) hx hb dX5_isPile_8 (by decide) ?_
  refine lv_isub (pc := 9) hx hb dX5_isPile_9 ?_
  obtain ⟨x2, ex2, hf⟩ := bd_some hf
  refine ct_S (pc := 10) (As := [.int i0, .int 0, .int ((om.2.2 0 (0 : Int32).toNatClampNeg) - 1)]) (rest := []) (wr := bX5 cI cZ a q om) (W1 := bX5 cI cZ a q om) ⟨hx, hb, hml, hown, hts⟩ hK (c_X5_in l D cI cZ cS i0 0 ((om.2.2 0 (0 : Int32).toNatClampNeg) - 1) x2 ex2) gs_RX5_57 hs_X5_in rfl ⟨Nat.le_of_ble_eq_true rfl, Nat.le_of_ble_eq_true rfl⟩ hl.1 rfl (Nat.le_of_ble_eq_true rfl) dX5_isPile_10 ⟨Nat.zero_le _, Nat.zero_le _⟩ hP hD hS hA [] [0, 1, 2, 3, 4, 5, 6, 7, 8, 9, 10, 11, 12, 13, 14] [0, 1, 2, 3, 4, 5, 6, 7, 8, 9, 10, 11, 12, 13, 14] rfl rfl rfl rfl rfl rfl rfl (fun H locs hP hD hS => ?_)
  obtain ⟨h3, hf⟩ := bz_some hf
  cases hf
  exact W.zret hx hb hr h3 (fun t ht hW => ⟨rfl, by rw [ht]; exact hP, hD, hS.F ht⟩) hS.2.2 dX5_isPile_13
def f_X5_ofPile (i0 : Int32) (i1 : Int32) (om : OS) : Option Int32 := ck ((1 + (5 * i0)) + i1) 59 (some (om.2.2 0 (((1 + (5 * i0)) + i1) : Int32).toNatClampNeg))
set_option maxHeartbeats 4000000 in
set_option maxRecDepth 100000 in
theorem c_X5_ofPile (l : Launch) (D : va_G) (cI cZ cS : ClassId) (a : Nat) (q : Nat → Nat) (i0 : Int32) (i1 : Int32) (om : OS) (x : Int32) (hf : f_X5_ofPile i0 i1 om = some x) : Ct l yX5_ofPile cX5_ofPile 3 (some .int) 0 0 D cI cZ cS [.ref a, .int i0, .int i1] (bX5 cI cZ a q om) (some (.int x)) (bX5 cI cZ a q om) := by
  intro sz
  refine Met.ofW (cc := cX5_ofPile) (maxL := 3) (ret := (some .int)) (by decide) rfl ?_
  intro p e s m args below meth c s₁ B hml hv
  obtain ⟨rfl, hsz, hP, hK, hD0⟩ := hv
  have hx := B.exec
  have hb := B.bytes
  have hr := B.returns
  have hts0 := atoms_spec (ws := .code yX5_ofPile cX5_ofPile 3 (some .int) :: TB) B.pre
  have hts := fun w (h : w ∈ TB) => hts0 w (List.mem_cons_of_mem _ h)
  have hown : s.vm.findClass RX5 = some m.cls := findClass_of_methodNamed B.named
  have hlocks := B.notSynchronized
  subst hsz
  have hD := hD0.self (sz := s.heap.size)
  generalize hAe : va_A (bX5 cI cZ a q om) s.heap.size = A at hD ⊢
  have hA : ∀ q : Nat, s.heap.size ≤ q → A q := fun q h => by rw [← hAe]; exact Or.inr h
  have hS : va_S A s.heap s.heap [] := va_S.rf
  obtain ⟨H, hH⟩ : ∃ H, H = s.heap := ⟨_, rfl⟩
  rw [← hH] at hP
  have hS : va_S A s.heap H [] := by rw [hH]; exact hS
  have hl := lv_entry ([.ref a, .int i0, .int i1]) (n := 3) (Nat.le_of_ble_eq_true rfl)
  rw [lg_entry_eq]
  generalize (lg_sl ([.ref a, .int i0, .int i1]) ++ List.replicate (3 - (lg_sl ([.ref a, .int i0, .int i1])).length) Slot.unset).toArray = ls at hl ⊢
  have hl : lv_has ls 3 [(0, .ref a), (1, .int i0), (2, .int i1)] := hl
  refine W_heap hH ?_
  obtain ⟨locs, hlo⟩ : ∃ locs : List Loc, locs = [] := ⟨_, rfl⟩
  rw [← hlo] at hS ⊢
  unfold f_X5_ofPile at hf
  refine lv_aload_n (pc := 0) hx hb dX5_ofPile_0 rfl (lv_at hl 0 rfl) ?_
  refine va_get (pc := 1) (D := D) (ci := 5) (v := .ref (q 0)) (C := RX5) (T := TX5) (N := 41) hx hb hts iX5 hown hK.1 hP 0 rfl rfl 0 (by decide) (hts _ fl_RX5_7) (fun _ h => h) rfl dX5_ofPile_1 ?_
  refine lv_iconst (v := 1) (pc := 4) hx hb dX5_ofPile_4 (by decide) ?_
  refine lv_iconst (v := 5) (pc := 5) hx hb dX5_ofPile_5 (by decide) ?_
  refine lv_iload_n (pc := 6) hx hb dX5_ofPile_6 rfl (lv_at hl 1 rfl) ?_
  refine lv_imul (pc := 7) hx hb dX5_ofPile_7 ?_
  refine lv_iadd (pc := 8) hx hb dX5_ofPile_8 ?_
  refine lv_iload_n (pc := 9) hx hb dX5_ofPile_9 rfl (lv_at hl 2 rfl) ?_
  refine lv_iadd (pc := 10) hx hb dX5_ofPile_10 ?_
  obtain ⟨h1, hf⟩ := ck_some hf
  refine va_iald (pc := 11) (f := om.2.2 0) hx hb hK.1 hP 1 0 rfl rfl h1 dX5_ofPile_11 ?_
  cases hf
  exact W.iret hx hb hr (fun t ht hW => ⟨rfl, by rw [ht]; exact hP, hD, hS.F ht⟩) hS.2.2 dX5_ofPile_12
def lp_X5_wholes_4 (u_M : OS) : Nat → Int32 → Int32 → Option (Int32 × Int32)
  | 0, _, _ => none
  | n + 1, v1, v2 => if (u_M.2.2 0 (0 : Int32).toNatClampNeg) ≤ v2 then some (v1, v2) else Option.bind (f_X5_ofPile v2 4 u_M) fun x6 => if x6 = 0 then lp_X5_wholes_4 u_M n (v1 + 1) (v2 + 1) else lp_X5_wholes_4 u_M n (v1 + 0) (v2 + 1)
def f_X5_wholes (om : OS) : Option Int32 := Option.bind (lp_X5_wholes_4 om 1000 0 0) fun z1 => some z1.1
set_option maxHeartbeats 4000000 in
set_option maxRecDepth 100000 in
theorem c_X5_wholes (l : Launch) (D : va_G) (cI cZ cS : ClassId) (a : Nat) (q : Nat → Nat) (om : OS) (x : Int32) (hf : f_X5_wholes om = some x) : Ct l yX5_wholes cX5_wholes 3 (some .int) 1 22 D cI cZ cS [.ref a] (bX5 cI cZ a q om) (some (.int x)) (bX5 cI cZ a q om) := by
  intro sz
  refine Met.ofW (cc := cX5_wholes) (maxL := 3) (ret := (some .int)) (by decide) rfl ?_
  intro p e s m args below meth c s₁ B hml hv
  obtain ⟨rfl, hsz, hP, hK, hD0⟩ := hv
  have hx := B.exec
  have hb := B.bytes
  have hr := B.returns
  have hts0 := atoms_spec (ws := .code yX5_wholes cX5_wholes 3 (some .int) :: TB) B.pre
  have hts := fun w (h : w ∈ TB) => hts0 w (List.mem_cons_of_mem _ h)
  have hown : s.vm.findClass RX5 = some m.cls := findClass_of_methodNamed B.named
  have hlocks := B.notSynchronized
  subst hsz
  have hD := hD0.self (sz := s.heap.size)
  generalize hAe : va_A (bX5 cI cZ a q om) s.heap.size = A at hD ⊢
  have hA : ∀ q : Nat, s.heap.size ≤ q → A q := fun q h => by rw [← hAe]; exact Or.inr h
  have hS : va_S A s.heap s.heap [] := va_S.rf
  obtain ⟨H, hH⟩ : ∃ H, H = s.heap := ⟨_, rfl⟩
  rw [← hH] at hP
  have hS : va_S A s.heap H [] := by rw [hH]; exact hS
  have hl := lv_entry ([.ref a]) (n := 3) (Nat.le_of_ble_eq_true rfl)
  rw [lg_entry_eq]
  generalize (lg_sl ([.ref a]) ++ List.replicate (3 - (lg_sl ([.ref a])).length) Slot.unset).toArray = ls at hl ⊢
  have hl : lv_has ls 3 [(0, .ref a)] := hl
  refine W_heap hH ?_
  obtain ⟨locs, hlo⟩ : ∃ locs : List Loc, locs = [] := ⟨_, rfl⟩
  rw [← hlo] at hS ⊢
  unfold f_X5_wholes at hf
  refine lv_iconst (v := 0) (pc := 0) hx hb dX5_wholes_0 (by decide) ?_
  refine lv_istore_n (lv' := [(1, .int 0), (0, .ref a)]) (pc := 1) hx hb dX5_wholes_1 rfl hl (by decide) rfl (fun ls hl => ?_)
  refine lv_iconst (v := 0) (pc := 2) hx hb dX5_wholes_2 (by decide) ?_
  refine lv_istore_n (lv' := [(2, .int 0), (1, .int 0), (0, .ref a)]) (pc := 3) hx hb dX5_wholes_3 rfl hl (by decide) rfl (fun ls hl => ?_)
  obtain ⟨z1, hz1, hf⟩ := bd_some hf
  have hfz1 := hf
  clear hf
  have K2 : ∀ (H : Heap) (locs : List Loc) (ls : Array Slot), va_P D vwCl (bX5 cI cZ a q om) H → va_D A (bX5 cI cZ a q om) → va_S A s.heap H locs → lv_has ls 3 [(0, .ref a), (1, .int z1.1), (2, .int z1.2)] → GW l yX5_wholes cX5_wholes 3 (some .int) 1 22 D [.ref a] (some (.int x)) (bX5 cI cZ a q om) A p e s m below meth c H locs (F0 m 37 ls []) := by
    intro H locs ls hP hD hS hl
    have hf := hfz1
    refine lv_iload_n (pc := 37) hx hb dX5_wholes_37 rfl (lv_at hl 1 rfl) ?_
    cases hf
    exact W.iret hx hb hr (fun t ht hW => ⟨rfl, by rw [ht]; exact hP, hD, hS.F ht⟩) hS.2.2 dX5_wholes_38
  have KL3 : ∀ (n : Nat) (v1 : Int32) (v2 : Int32) (H : Heap) (locs : List Loc) (ls : Array Slot), lp_X5_wholes_4 om n v1 v2 = some z1 → va_P D vwCl (bX5 cI cZ a q om) H → va_D A (bX5 cI cZ a q om) → va_S A s.heap H locs → lv_has ls 3 [(0, .ref a), (1, .int v1), (2, .int v2)] → GW l yX5_wholes cX5_wholes 3 (some .int) 1 22 D [.ref a] (some (.int x)) (bX5 cI cZ a q om) A p e s m below meth c H locs (F0 m 4 ls []) := by
    intro n
    induction n with
    | zero => intro v1 v2 H locs ls hf; cases hf
    | succ n ih =>
      intro v1 v2 H locs ls hf hP hD hS hl
      rw [lp_X5_wholes_4] at hf
      refine lv_iload_n (pc := 4) hx hb dX5_wholes_4 rfl (lv_at hl 2 rfl) ?_
      refine lv_aload_n (pc := 5) hx hb dX5_wholes_5 rfl (lv_at hl 0 rfl) ?_
      refine va_get (pc := 6) (D := D) (ci := 5) (v := .ref (q 0)) (C := RX5) (T := TX5) (N := 41) hx hb hts iX5 hown hK.1 hP 0 rfl rfl 0 (by decide) (hts _ fl_RX5_7) (fun _ h => h) rfl dX5_wholes_6 ?_
      refine lv_iconst (v := 0) (pc := 9) hx hb dX5_wholes_9 (by decide) ?_
      have h4 : vp_in 0 59 := by unfold vp_in; decide
      refine va_iald (pc := 10) (f := om.2.2 0) hx hb hK.1 hP 1 0 rfl rfl h4 dX5_wholes_10 ?_
      refine lv_icmp_ge (pc := 11) (tgt := 37) hx hb dX5_wholes_11 (by decide) (fun c5 => ?_) (fun c5 => ?_)
      · replace hf := ip c5 hf
        cases hf
        exact K2 H locs ls hP hD hS (lv_sub hl [0, 1, 2] rfl)
      · replace hf := im c5 hf
        refine lv_iload_n (pc := 14) hx hb dX5_wholes_14 rfl (lv_at hl 1 rfl) ?_
        refine lv_aload_n (pc := 15) hx hb dX5_wholes_15 rfl (lv_at hl 0 rfl) ?_
        refine lv_iload_n (pc := 16) hx hb dX5_wholes_16 rfl (lv_at hl 2 rfl) ?_
        refine lv_iconst (v := 4) (pc := 17) hx hb dX5_wholes_17 (by decide) ?_
        obtain ⟨x6, ex6, hf⟩ := bd_some hf
        refine ct_V (pc := 18) (As := [.int v2, .int 4]) (rest := [.int v1]) (wr := []) (W1 := bX5 cI cZ a q om) ⟨hx, hb, hml, hown, hts⟩ hK (c_X5_ofPile l D cI cZ cS a q v2 4 om x6 ex6) gv_RX5_117 rfl hs_X5_ofPile rfl ⟨Nat.le_of_ble_eq_true rfl, Nat.le_of_ble_eq_true rfl⟩ (ci := 5) (q0 := 0) rfl rfl rfl hl.1 rfl (Nat.le_of_ble_eq_true rfl) dX5_wholes_18 ⟨Nat.zero_le _, Nat.zero_le _⟩ hP hD hS hA [0, 1, 2, 3, 4, 5, 6, 7, 8, 9, 10, 11, 12, 13, 14] [] [0, 1, 2, 3, 4, 5, 6, 7, 8, 9, 10, 11, 12, 13, 14] rfl rfl rfl rfl rfl rfl rfl (fun H locs hP hD hS => ?_)
        refine lv_if_ne (pc := 21) (tgt := 28) hx hb dX5_wholes_21 (by decide) (fun c7 => ?_) (fun c7 => ?_)
        · replace hf := im c7 hf
          refine lv_iconst (v := 0) (pc := 28) hx hb dX5_wholes_28 (by decide) ?_
          refine lv_iadd (pc := 29) hx hb dX5_wholes_29 ?_
          refine lv_istore_n (lv' := [(1, .int (v1 + 0)), (0, .ref a), (2, .int v2)]) (pc := 30) hx hb dX5_wholes_30 rfl hl (by decide) rfl (fun ls hl => ?_)
          refine lv_iinc (v := (v2 + 1)) (lv' := [(2, .int (v2 + 1)), (1, .int (v1 + 0)), (0, .ref a)]) (pc := 31) hx hb dX5_wholes_31 hl (k := 2) rfl rfl (by decide) rfl (fun ls hl => ?_)
          refine lv_goto (pc := 34) (tgt := 4) hx hb dX5_wholes_34 (by decide) ?_
          exact ih _ _ H locs ls hf hP hD hS (lv_sub hl [2, 1, 0] rfl)
        · replace hf := ip c7 hf
          refine lv_iconst (v := 1) (pc := 24) hx hb dX5_wholes_24 (by decide) ?_
          refine lv_goto (pc := 25) (tgt := 29) hx hb dX5_wholes_25 (by decide) ?_
          refine lv_iadd (pc := 29) hx hb dX5_wholes_29 ?_
          refine lv_istore_n (lv' := [(1, .int (v1 + 1)), (0, .ref a), (2, .int v2)]) (pc := 30) hx hb dX5_wholes_30 rfl hl (by decide) rfl (fun ls hl => ?_)
          refine lv_iinc (v := (v2 + 1)) (lv' := [(2, .int (v2 + 1)), (1, .int (v1 + 1)), (0, .ref a)]) (pc := 31) hx hb dX5_wholes_31 hl (k := 2) rfl rfl (by decide) rfl (fun ls hl => ?_)
          refine lv_goto (pc := 34) (tgt := 4) hx hb dX5_wholes_34 (by decide) ?_
          exact ih _ _ H locs ls hf hP hD hS (lv_sub hl [2, 1, 0] rfl)
  exact KL3 1000 _ _ H locs ls hz1 hP hD hS (lv_sub hl [2, 1, 0] rfl)
def f_X5_type (i0 : Int32) (om : OS) : Option (Int32 × OS) := Option.bind (f_X5_in i0 0 255) fun x1 => if x1 = 0 then some ((-1), om) else if (om.1 9) = 160 then some ((-3), om) else ck (om.1 9) 160 (some (((om.1 9) + 1), (sI (sA om 8 (((om.1 9) : Int32).toNatClampNeg) i0) 9 ((om.1 9) + 1))))
set_option maxHeartbeats 4000000 in
set_option maxRecDepth 100000 in
theorem c_X5_type (l : Launch) (D : va_G) (cI cZ cS : ClassId) (a : Nat) (q : Nat → Nat) (i0 : Int32) (om : OS) (x : (Int32 × OS)) (hf : f_X5_type i0 om = some x) : Ct l yX5_type cX5_type 2 (some .int) 1 22 D cI cZ cS [.ref a, .int i0] (bX5 cI cZ a q om) (some (.int x.1)) (bX5 cI cZ a q x.2) := by
  intro sz
  refine Met.ofW (cc := cX5_type) (maxL := 2) (ret := (some .int)) (by decide) rfl ?_
  intro p e s m args below meth c s₁ B hml hv
  obtain ⟨rfl, hsz, hP, hK, hD0⟩ := hv
  have hx := B.exec
  have hb := B.bytes
  have hr := B.returns
  have hts0 := atoms_spec (ws := .code yX5_type cX5_type 2 (some .int) :: TB) B.pre
  have hts := fun w (h : w ∈ TB) => hts0 w (List.mem_cons_of_mem _ h)
  have hown : s.vm.findClass RX5 = some m.cls := findClass_of_methodNamed B.named
  have hlocks := B.notSynchronized
  subst hsz
  have hD := hD0.self (sz := s.heap.size)
  generalize hAe : va_A (bX5 cI cZ a q om) s.heap.size = A at hD ⊢
  have hA : ∀ q : Nat, s.heap.size ≤ q → A q := fun q h => by rw [← hAe]; exact Or.inr h
  have hS : va_S A s.heap s.heap [] := va_S.rf
  obtain ⟨H, hH⟩ : ∃ H, H = s.heap := ⟨_, rfl⟩
  rw [← hH] at hP
  have hS : va_S A s.heap H [] := by rw [hH]; exact hS
  have hl := lv_entry ([.ref a, .int i0]) (n := 2) (Nat.le_of_ble_eq_true rfl)
  rw [lg_entry_eq]
  generalize (lg_sl ([.ref a, .int i0]) ++ List.replicate (2 - (lg_sl ([.ref a, .int i0])).length) Slot.unset).toArray = ls at hl ⊢
  have hl : lv_has ls 2 [(0, .ref a), (1, .int i0)] := hl
  refine W_heap hH ?_
  obtain ⟨locs, hlo⟩ : ∃ locs : List Loc, locs = [] := ⟨_, rfl⟩
  rw [← hlo] at hS ⊢
  unfold f_X5_type at hf
  refine lv_iload_n (pc := 0) hx hb dX5_type_0 rfl (lv_at hl 1 rfl) ?_
  refine lv_iconst (v := 0) (pc := 1) hx hb dX5_type_1 (by decide) ?_
  refine lv_sipush (v := 255) (pc := 2) hx hb dX5_type_2 (by decide) ?_
  obtain ⟨x1, ex1, hf⟩ := bd_some hf
  refine ct_S (pc := 5) (As := [.int i0, .int 0, .int 255]) (rest := []) (wr := bX5 cI cZ a q om) (W1 := bX5 cI cZ a q om) ⟨hx, hb, hml, hown, hts⟩ hK (c_X5_in l D cI cZ cS i0 0 255 x1 ex1) gs_RX5_57 hs_X5_in rfl ⟨Nat.le_of_ble_eq_true rfl, Nat.le_of_ble_eq_true rfl⟩ hl.1 rfl (Nat.le_of_ble_eq_true rfl) dX5_type_5 ⟨Nat.zero_le _, Nat.zero_le _⟩ hP hD hS hA [] [0, 1, 2, 3, 4, 5, 6, 7, 8, 9, 10, 11, 12, 13, 14] [0, 1, 2, 3, 4, 5, 6, 7, 8, 9, 10, 11, 12, 13, 14] rfl rfl rfl rfl rfl rfl rfl (fun H locs hP hD hS => ?_)
  refine lv_if_ne (pc := 8) (tgt := 13) hx hb dX5_type_8 (by decide) (fun c2 => ?_) (fun c2 => ?_)
  · replace hf := im c2 hf
    refine lv_aload_n (pc := 13) hx hb dX5_type_13 rfl (lv_at hl 0 rfl) ?_
    refine va_get (pc := 14) (D := D) (ci := 5) (v := .int (om.1 9)) (C := RX5) (T := TX5) (N := 41) hx hb hts iX5 hown hK.1 hP 0 rfl rfl 9 (by decide) (hts _ fl_RX5_61) (fun _ h => h) rfl dX5_type_14 ?_
    refine lv_sipush (v := 160) (pc := 17) hx hb dX5_type_17 (by decide) ?_
    refine lv_icmp_ne (pc := 20) (tgt := 26) hx hb dX5_type_20 (by decide) (fun c3 => ?_) (fun c3 => ?_)
    · replace hf := im c3 hf
      refine lv_aload_n (pc := 26) hx hb dX5_type_26 rfl (lv_at hl 0 rfl) ?_
      refine va_get (pc := 27) (D := D) (ci := 5) (v := .ref (q 8)) (C := RX5) (T := TX5) (N := 41) hx hb hts iX5 hown hK.1 hP 0 rfl rfl 8 (by decide) (hts _ fl_RX5_30) (fun _ h => h) rfl dX5_type_27 ?_
      refine lv_aload_n (pc := 30) hx hb dX5_type_30 rfl (lv_at hl 0 rfl) ?_
      refine va_get (pc := 31) (D := D) (ci := 5) (v := .int (om.1 9)) (C := RX5) (T := TX5) (N := 41) hx hb hts iX5 hown hK.1 hP 0 rfl rfl 9 (by decide) (hts _ fl_RX5_61) (fun _ h => h) rfl dX5_type_31 ?_
      refine lv_iload_n (pc := 34) hx hb dX5_type_34 rfl (lv_at hl 1 rfl) ?_
      obtain ⟨h4, hf⟩ := ck_some hf
      refine va_iast (pc := 35) (f := om.2.2 8) hx hb hK.1 hP hD hS 6 0 rfl rfl h4 dX5_type_35 (fun H locs hP hD hS => ?_)
      replace hP : va_P D vwCl (bX5 cI cZ a q (sA om 8 (((om.1 9) : Int32).toNatClampNeg) i0)) H := hP
      replace hD : va_D A (bX5 cI cZ a q (sA om 8 (((om.1 9) : Int32).toNatClampNeg) i0)) := hD
      refine lv_aload_n (pc := 36) hx hb dX5_type_36 rfl (lv_at hl 0 rfl) ?_
      refine lv_dup (pc := 37) hx hb dX5_type_37 rfl ?_
      refine va_get (pc := 38) (D := D) (ci := 5) (v := .int (om.1 9)) (C := RX5) (T := TX5) (N := 41) hx hb hts iX5 hown hK.1 hP 0 rfl rfl 9 (by decide) (hts _ fl_RX5_61) (fun _ h => h) rfl dX5_type_38 ?_
      refine lv_iconst (v := 1) (pc := 41) hx hb dX5_type_41 (by decide) ?_
      refine lv_iadd (pc := 42) hx hb dX5_type_42 ?_
      refine va_put (pc := 43) (D := D) (ci := 5) (v := .int ((om.1 9) + 1)) (ty := .int) (C := RX5) (T := TX5) (N := 41) hx hb hts iX5 tyX5 tyX5_ok nmX5 hown hK.1 hP hD hS 0 rfl rfl 9 (by decide) (hts _ fl_RX5_61) (fun _ h => h) rfl (tyX5_ok 9 (by decide)) rfl rfl (Nat.le_of_ble_eq_true rfl) dX5_type_43 (fun H locs hP hD hS => ?_)
      replace hP : va_P D vwCl (bX5 cI cZ a q (sI (sA om 8 (((om.1 9) : Int32).toNatClampNeg) i0) 9 ((om.1 9) + 1))) H := hP
      replace hD : va_D A (bX5 cI cZ a q (sI (sA om 8 (((om.1 9) : Int32).toNatClampNeg) i0) 9 ((om.1 9) + 1))) := hD
      refine lv_aload_n (pc := 46) hx hb dX5_type_46 rfl (lv_at hl 0 rfl) ?_
      refine va_get (pc := 47) (D := D) (ci := 5) (v := .int ((om.1 9) + 1)) (C := RX5) (T := TX5) (N := 41) hx hb hts iX5 hown hK.1 hP 0 rfl rfl 9 (by decide) (hts _ fl_RX5_61) (fun _ h => h) rfl dX5_type_47 ?_
      cases hf
      exact W.iret hx hb hr (fun t ht hW => ⟨rfl, by rw [ht]; exact hP, hD, hS.F ht⟩) hS.2.2 dX5_type_50
    · replace hf := ip c3 hf
      refine lv_bipush (v := -3) (pc := 23) hx hb dX5_type_23 (by decide) ?_
      cases hf
      exact W.iret hx hb hr (fun t ht hW => ⟨rfl, by rw [ht]; exact hP, hD, hS.F ht⟩) hS.2.2 dX5_type_25
  · replace hf := ip c2 hf
    refine lv_iconst (v := -1) (pc := 11) hx hb dX5_type_11 (by decide) ?_
    cases hf
    exact W.iret hx hb hr (fun t ht hW => ⟨rfl, by rw [ht]; exact hP, hD, hS.F ht⟩) hS.2.2 dX5_type_12
