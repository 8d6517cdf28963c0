def f_X0_takePiles (od : OS) (os : OS) : Option OS := lt (sR od 0 (va_cpy (os.2.2 0) (od.2.2 0) 0 0 8)) fun o1 => lt (sR o1 1 (va_cpy (os.2.2 1) (o1.2.2 1) 0 0 8)) fun o2 => lt (sR o2 2 (va_cpy (os.2.2 2) (o2.2.2 2) 0 0 8)) fun o3 => lt (sR o3 3 (va_cpy (os.2.2 3) (o3.2.2 3) 0 0 8)) fun o4 => lt (sI o4 4 (os.1 4)) fun o5 => some o5
set_option maxHeartbeats 4000000 in
set_option maxRecDepth 100000 in
theorem c_X0_takePiles (l : Launch) (D : va_G) (cI cZ cS : ClassId) (a : Nat) (q : Nat → Nat) (b : Nat) (qb : Nat → Nat) (od : OS) (os : OS) (x : OS) (hf : f_X0_takePiles od os = some x) : Ct l yX0_takePiles cX0_takePiles 2 none 1 45 D cI cZ cS [.ref a, .ref b] (bX0 cI a q od ++ bX3 cI b qb os) none (bX0 cI a q x ++ bX3 cI b qb os) := by
  intro sz
  refine Met.ofW (cc := cX0_takePiles) (maxL := 2) (ret := none) (by decide +kernel) rfl ?_
  intro p e s m args below meth c s₁ B hml hv
  obtain ⟨rfl, hsz, hP, hK, hD0⟩ := hv
  have hx := B.exec
  have hb := B.bytes
  have hr := B.returns
  have hts0 := atoms_spec (ws := .code yX0_takePiles cX0_takePiles 2 none :: TB) B.pre
  have hts := fun w (h : w ∈ TB) => hts0 w (List.mem_cons_of_mem _ h)
  have hown : s.vm.findClass RX0 = some m.cls := findClass_of_methodNamed B.named
  have hlocks := B.notSynchronized
  subst hsz
  have hD := hD0.self (sz := s.heap.size)
  generalize hAe : va_A (bX0 cI a q od ++ bX3 cI b qb os) s.heap.size = A at hD ⊢
  have hA : ∀ q : Nat, s.heap.size ≤ q → A q := fun q h => by rw [← hAe]; exact Or.inr h
  have hS : va_S A s.heap s.heap [] := va_S.rf
  obtain ⟨H, hH⟩ : ∃ H, H = s.heap := ⟨_, rfl⟩
  rw [← hH] at hP
  have hS : va_S A s.heap H [] := by rw [hH]; exact hS
  have hl := lv_entry ([.ref a, .ref b]) (n := 2) (Nat.le_of_ble_eq_true rfl)
  rw [lg_entry_eq]
  generalize (lg_sl ([.ref a, .ref b]) ++ List.replicate (2 - (lg_sl ([.ref a, .ref b])).length) Slot.unset).toArray = ls at hl ⊢
  have hl : lv_has ls 2 [(0, .ref a), (1, .ref b)] := hl
  refine W_heap hH ?_
  obtain ⟨locs, hlo⟩ : ∃ locs : List Loc, locs = [] := ⟨_, rfl⟩
  rw [← hlo] at hS ⊢
  unfold f_X0_takePiles at hf
  refine lv_aload_n (pc := 0) hx hb dX0_takePiles_0 rfl (lv_at hl 1 rfl) ?_
  refine va_getN (pc := 1) (D := D) (ci := 3) (v := .ref (qb 0)) (C := RX3) (T := TX3) (N := 12) hx hb hts iX3 hown hK.1 hP 5 rfl rfl 0 (by decide) (va_Nw.use rfl (hK.2 _ nf_RX0_34)) (fun _ h => h) rfl dX0_takePiles_1 ?_
  refine lv_iconst (v := 0) (pc := 4) hx hb dX0_takePiles_4 (by decide) ?_
  refine lv_aload_n (pc := 5) hx hb dX0_takePiles_5 rfl (lv_at hl 0 rfl) ?_
  refine va_get (pc := 6) (D := D) (ci := 0) (v := .ref (q 0)) (C := RX0) (T := TX0) (N := 15) hx hb hts iX0 hown hK.1 hP 0 rfl rfl 0 (by decide) (hts _ fl_RX0_11) (fun _ h => h) rfl dX0_takePiles_6 ?_
  refine lv_iconst (v := 0) (pc := 9) hx hb dX0_takePiles_9 (by decide) ?_
  refine lv_bipush (v := 8) (pc := 10) hx hb dX0_takePiles_10 (by decide) ?_
  obtain ⟨o1, eo1, hf⟩ := lt_some hf
  refine va_copyi (pc := 12) (f := os.2.2 0) (g := od.2.2 0) hx hb (hml.trans hl.1.symm) hown (hts _ ml_RX0_37) (hts _ w_ac_native) (hts _ w_ac_static) (hts _ w_ac_init) hK.1 hP hD hS 6 1 0 0 rfl rfl rfl rfl rfl (by decide) (by decide) (by decide) (by decide) (by decide) (fun _ _ => rfl) (Nat.le_of_ble_eq_true rfl) (Nat.le_of_ble_eq_true rfl) dX0_takePiles_12 (fun H locs hP hD hS => ?_)
  replace hP : va_P D vwCl (bX0 cI a q o1 ++ bX3 cI b qb os) H := by rw [eo1]; exact hP
  replace hD : va_D A (bX0 cI a q o1 ++ bX3 cI b qb os) := by rw [eo1]; exact hD
  refine lv_aload_n (pc := 15) hx hb dX0_takePiles_15 rfl (lv_at hl 1 rfl) ?_
  refine va_getN (pc := 16) (D := D) (ci := 3) (v := .ref (qb 1)) (C := RX3) (T := TX3) (N := 12) hx hb hts iX3 hown hK.1 hP 5 rfl rfl 1 (by decide) (va_Nw.use rfl (hK.2 _ nf_RX0_43)) (fun _ h => h) rfl dX0_takePiles_16 ?_
  refine lv_iconst (v := 0) (pc := 19) hx hb dX0_takePiles_19 (by decide) ?_
  refine lv_aload_n (pc := 20) hx hb dX0_takePiles_20 rfl (lv_at hl 0 rfl) ?_
  refine va_get (pc := 21) (D := D) (ci := 0) (v := .ref (q 1)) (C := RX0) (T := TX0) (N := 15) hx hb hts iX0 hown hK.1 hP 0 rfl rfl 1 (by decide) (hts _ fl_RX0_15) (fun _ h => h) rfl dX0_takePiles_21 ?_
  refine lv_iconst (v := 0) (pc := 24) hx hb dX0_takePiles_24 (by decide) ?_
  refine lv_bipush (v := 8) (pc := 25) hx hb dX0_takePiles_25 (by decide) ?_
  obtain ⟨o2, eo2, hf⟩ := lt_some hf
  refine va_copyi (pc := 27) (f := os.2.2 1) (g := o1.2.2 1) hx hb (hml.trans hl.1.symm) hown (hts _ ml_RX0_37) (hts _ w_ac_native) (hts _ w_ac_static) (hts _ w_ac_init) hK.1 hP hD hS 7 2 0 0 rfl rfl rfl rfl rfl (by decide) (by decide) (by decide) (by decide) (by decide) (fun _ _ => rfl) (Nat.le_of_ble_eq_true rfl) (Nat.le_of_ble_eq_true rfl) dX0_takePiles_27 (fun H locs hP hD hS => ?_)
  replace hP : va_P D vwCl (bX0 cI a q o2 ++ bX3 cI b qb os) H := by rw [eo2]; exact hP
  replace hD : va_D A (bX0 cI a q o2 ++ bX3 cI b qb os) := by rw [eo2]; exact hD
  refine lv_aload_n (pc := 30) hx hb dX0_takePiles_30 rfl (lv_at hl 1 rfl) ?_
  refine va_getN (pc := 31) (D := D) (ci := 3) (v := .ref (qb 2)) (C := RX3) (T := TX3) (N := 12) hx hb hts iX3 hown hK.1 hP 5 rfl rfl 2 (by decide) (va_Nw.use rfl (hK.2 _ nf_RX0_44)) (fun _ h => h) rfl dX0_takePiles_31 ?_
  refine lv_iconst (v := 0) (pc := 34) hx hb dX0_takePiles_34 (by decide) ?_
  refine lv_aload_n (pc := 35) hx hb dX0_takePiles_35 rfl (lv_at hl 0 rfl) ?_
  refine va_get (pc := 36) (D := D) (ci := 0) (v := .ref (q 2)) (C := RX0) (T := TX0) (N := 15) hx hb hts iX0 hown hK.1 hP 0 rfl rfl 2 (by decide) (hts _ fl_RX0_18) (fun _ h => h) rfl dX0_takePiles_36 ?_
  refine lv_iconst (v := 0) (pc := 39) hx hb dX0_takePiles_39 (by decide) ?_
  refine lv_bipush (v := 8) (pc := 40) hx hb dX0_takePiles_40 (by decide) ?_
  obtain ⟨o3, eo3, hf⟩ := lt_some hf
  refine va_copyi (pc := 42) (f := os.2.2 2) (g := o2.2.2 2) hx hb (hml.trans hl.1.symm) hown (hts _ ml_RX0_37) (hts _ w_ac_native) (hts _ w_ac_static) (hts _ w_ac_init) hK.1 hP hD hS 8 3 0 0 rfl rfl rfl rfl rfl (by decide) (by decide) (by decide) (by decide) (by decide) (fun _ _ => rfl) (Nat.le_of_ble_eq_true rfl) (Nat.le_of_ble_eq_true rfl) dX0_takePiles_42 (fun H locs hP hD hS => ?_)
  replace hP : va_P D vwCl (bX0 cI a q o3 ++ bX3 cI b qb os) H := by rw [eo3]; exact hP
  replace hD : va_D A (bX0 cI a q o3 ++ bX3 cI b qb os) := by rw [eo3]; exact hD
  refine lv_aload_n (pc := 45) hx hb dX0_takePiles_45 rfl (lv_at hl 1 rfl) ?_
  refine va_getN (pc := 46) (D := D) (ci := 3) (v := .ref (qb 3)) (C := RX3) (T := TX3) (N := 12) hx hb hts iX3 hown hK.1 hP 5 rfl rfl 3 (by decide) (va_Nw.use rfl (hK.2 _ nf_RX0_45)) (fun _ h => h) rfl dX0_takePiles_46 ?_
  refine lv_iconst (v := 0) (pc := 49) hx hb dX0_takePiles_49 (by decide) ?_
  refine lv_aload_n (pc := 50) hx hb dX0_takePiles_50 rfl (lv_at hl 0 rfl) ?_
  refine va_get (pc := 51) (D := D) (ci := 0) (v := .ref (q 3)) (C := RX0) (T := TX0) (N := 15) hx hb hts iX0 hown hK.1 hP 0 rfl rfl 3 (by decide) (hts _ fl_RX0_21) (fun _ h => h) rfl dX0_takePiles_51 ?_
  refine lv_iconst (v := 0) (pc := 54) hx hb dX0_takePiles_54 (by decide) ?_
  refine lv_bipush (v := 8) (pc := 55) hx hb dX0_takePiles_55 (by decide) ?_
  obtain ⟨o4, eo4, hf⟩ := lt_some hf
  refine va_copyi (pc := 57) (f := os.2.2 3) (g := o3.2.2 3) hx hb (hml.trans hl.1.symm) hown (hts _ ml_RX0_37) (hts _ w_ac_native) (hts _ w_ac_static) (hts _ w_ac_init) hK.1 hP hD hS 9 4 0 0 rfl rfl rfl rfl rfl (by decide) (by decide) (by decide) (by decide) (by decide) (fun _ _ => rfl) (Nat.le_of_ble_eq_true rfl) (Nat.le_of_ble_eq_true rfl) dX0_takePiles_57 (fun H locs hP hD hS => ?_)
  replace hP : va_P D vwCl (bX0 cI a q o4 ++ bX3 cI b qb os) H := by rw [eo4]; exact hP
  replace hD : va_D A (bX0 cI a q o4 ++ bX3 cI b qb os) := by rw [eo4]; exact hD
  refine lv_aload_n (pc := 60) hx hb dX0_takePiles_60 rfl (lv_at hl 0 rfl) ?_
  refine lv_aload_n (pc := 61) hx hb dX0_takePiles_61 rfl (lv_at hl 1 rfl) ?_
  refine va_getN (pc := 62) (D := D) (ci := 3) (v := .int (os.1 4)) (C := RX3) (T := TX3) (N := 12) hx hb hts iX3 hown hK.1 hP 5 rfl rfl 4 (by decide) (va_Nw.use rfl (hK.2 _ nf_RX0_46)) (fun _ h => h) rfl dX0_takePiles_62 ?_
  obtain ⟨o5, eo5, hf⟩ := lt_some hf
  refine va_put (pc := 65) (D := D) (ci := 0) (v := .int (os.1 4)) (ty := .int) (C := RX0) (T := TX0) (N := 15) hx hb hts iX0 tyX0 tyX0_ok nmX0 hown hK.1 hP hD hS 0 rfl rfl 4 (by decide) (hts _ fl_RX0_50) (fun _ h => h) rfl (tyX0_ok 4 (by decide)) rfl rfl (Nat.le_of_ble_eq_true rfl) dX0_takePiles_65 (fun H locs hP hD hS => ?_)
  replace hP : va_P D vwCl (bX0 cI a q o5 ++ bX3 cI b qb os) H := by rw [eo5]; exact hP
  replace hD : va_D A (bX0 cI a q o5 ++ bX3 cI b qb os) := by rw [eo5]; exact hD
  obtain rfl := Option.some.inj hf
  exact W.vret hx hb hr (fun t ht hW => ⟨rfl, by rw [ht]; exact hP, hD, hS.F ht⟩) hS.2.2 dX0_takePiles_68
def f_X0_bear (i0 : Int64) (i1 : Int64) (i2 : Int64) (od : OS) : Option OS := lt (sL od 5 i0) fun o1 => lt (sL o1 6 i1) fun o2 => lt (sL o2 7 i2) fun o3 => some o3
set_option maxHeartbeats 4000000 in
set_option maxRecDepth 100000 in
theorem c_X0_bear (l : Launch) (D : va_G) (cI cZ cS : ClassId) (a : Nat) (q : Nat → Nat) (i0 : Int64) (i1 : Int64) (i2 : Int64) (od : OS) (x : OS) (hf : f_X0_bear i0 i1 i2 od = some x) : Ct l yX0_bear cX0_bear 7 none 0 0 D cI cZ cS [.ref a, .long i0, .long i1, .long i2] (bX0 cI a q od) none (bX0 cI a q x) := by
  intro sz
  refine Met.ofW (cc := cX0_bear) (maxL := 7) (ret := none) (by decide +kernel) rfl ?_
  intro p e s m args below meth c s₁ B hml hv
  obtain ⟨rfl, hsz, hP, hK, hD0⟩ := hv
  have hx := B.exec
  have hb := B.bytes
  have hr := B.returns
  have hts0 := atoms_spec (ws := .code yX0_bear cX0_bear 7 none :: TB) B.pre
  have hts := fun w (h : w ∈ TB) => hts0 w (List.mem_cons_of_mem _ h)
  have hown : s.vm.findClass RX0 = some m.cls := findClass_of_methodNamed B.named
  have hlocks := B.notSynchronized
  subst hsz
  have hD := hD0.self (sz := s.heap.size)
  generalize hAe : va_A (bX0 cI a q od) s.heap.size = A at hD ⊢
  have hA : ∀ q : Nat, s.heap.size ≤ q → A q := fun q h => by rw [← hAe]; exact Or.inr h
  have hS : va_S A s.heap s.heap [] := va_S.rf
  obtain ⟨H, hH⟩ : ∃ H, H = s.heap := ⟨_, rfl⟩
  rw [← hH] at hP
  have hS : va_S A s.heap H [] := by rw [hH]; exact hS
  have hl := lv_entry ([.ref a, .long i0, .long i1, .long i2]) (n := 7) (Nat.le_of_ble_eq_true rfl)
  rw [lg_entry_eq]
  generalize (lg_sl ([.ref a, .long i0, .long i1, .long i2]) ++ List.replicate (7 - (lg_sl ([.ref a, .long i0, .long i1, .long i2])).length) Slot.unset).toArray = ls at hl ⊢
  have hl : lv_has ls 7 [(0, .ref a), (1, .long i0), (3, .long i1), (5, .long i2)] := hl
  refine W_heap hH ?_
  obtain ⟨locs, hlo⟩ : ∃ locs : List Loc, locs = [] := ⟨_, rfl⟩
  rw [← hlo] at hS ⊢
  unfold f_X0_bear at hf
  refine lv_aload_n (pc := 0) hx hb dX0_bear_0 rfl (lv_at hl 0 rfl) ?_
  refine lv_lload_n (pc := 1) hx hb dX0_bear_1 rfl (lv_at hl 1 rfl) ?_
  obtain ⟨o1, eo1, hf⟩ := lt_some hf
  refine va_put (pc := 2) (D := D) (ci := 0) (v := .long i0) (ty := .long) (C := RX0) (T := TX0) (N := 15) hx hb hts iX0 tyX0 tyX0_ok nmX0 hown hK.1 hP hD hS 0 rfl rfl 5 (by decide) (hts _ fl_RX0_51) (fun _ h => h) rfl (tyX0_ok 5 (by decide)) rfl rfl (Nat.le_of_ble_eq_true rfl) dX0_bear_2 (fun H locs hP hD hS => ?_)
  replace hP : va_P D vwCl (bX0 cI a q o1) H := by rw [eo1]; exact hP
  replace hD : va_D A (bX0 cI a q o1) := by rw [eo1]; exact hD
  refine lv_aload_n (pc := 5) hx hb dX0_bear_5 rfl (lv_at hl 0 rfl) ?_
  refine lv_lload_n (pc := 6) hx hb dX0_bear_6 rfl (lv_at hl 2 rfl) ?_
  obtain ⟨o2, eo2, hf⟩ := lt_some hf
  refine va_put (pc := 7) (D := D) (ci := 0) (v := .long i1) (ty := .long) (C := RX0) (T := TX0) (N := 15) hx hb hts iX0 tyX0 tyX0_ok nmX0 hown hK.1 hP hD hS 0 rfl rfl 6 (by decide) (hts _ fl_RX0_55) (fun _ h => h) rfl (tyX0_ok 6 (by decide)) rfl rfl (Nat.le_of_ble_eq_true rfl) dX0_bear_7 (fun H locs hP hD hS => ?_)
  replace hP : va_P D vwCl (bX0 cI a q o2) H := by rw [eo2]; exact hP
  replace hD : va_D A (bX0 cI a q o2) := by rw [eo2]; exact hD
  refine lv_aload_n (pc := 10) hx hb dX0_bear_10 rfl (lv_at hl 0 rfl) ?_
  refine lv_lload (pc := 11) hx hb dX0_bear_11 (lv_at hl 3 rfl) ?_
  obtain ⟨o3, eo3, hf⟩ := lt_some hf
  refine va_put (pc := 13) (D := D) (ci := 0) (v := .long i2) (ty := .long) (C := RX0) (T := TX0) (N := 15) hx hb hts iX0 tyX0 tyX0_ok nmX0 hown hK.1 hP hD hS 0 rfl rfl 7 (by decide) (hts _ fl_RX0_58) (fun _ h => h) rfl (tyX0_ok 7 (by decide)) rfl rfl (Nat.le_of_ble_eq_true rfl) dX0_bear_13 (fun H locs hP hD hS => ?_)
  replace hP : va_P D vwCl (bX0 cI a q o3) H := by rw [eo3]; exact hP
  replace hD : va_D A (bX0 cI a q o3) := by rw [eo3]; exact hD
  obtain rfl := Option.some.inj hf
  exact W.vret hx hb hr (fun t ht hW => ⟨rfl, by rw [ht]; exact hP, hD, hS.F ht⟩) hS.2.2 dX0_bear_16
def f_X1_empty (op : OS) : Option OS := lt (sL op 0 0) fun o1 => lt (sL o1 1 0) fun o2 => lt (sL o2 2 0) fun o3 => lt (sL o3 3 0) fun o4 => lt (sL o4 4 0) fun o5 => lt (sL o5 5 0) fun o6 => some o6
set_option maxHeartbeats 4000000 in
set_option maxRecDepth 100000 in
theorem c_X1_empty (l : Launch) (D : va_G) (cI cZ cS : ClassId) (a : Nat) (op : OS) (x : OS) (hf : f_X1_empty op = some x) : Ct l yX1_empty cX1_empty 1 none 0 0 D cI cZ cS [.ref a] (bX1 a op) none (bX1 a x) := by
  intro sz
  refine Met.ofW (cc := cX1_empty) (maxL := 1) (ret := none) (by decide +kernel) rfl ?_
  intro p e s m args below meth c s₁ B hml hv
  obtain ⟨rfl, hsz, hP, hK, hD0⟩ := hv
  have hx := B.exec
  have hb := B.bytes
  have hr := B.returns
  have hts0 := atoms_spec (ws := .code yX1_empty cX1_empty 1 none :: TB) B.pre
  have hts := fun w (h : w ∈ TB) => hts0 w (List.mem_cons_of_mem _ h)
  have hown : s.vm.findClass RX1 = some m.cls := findClass_of_methodNamed B.named
  have hlocks := B.notSynchronized
  subst hsz
  have hD := hD0.self (sz := s.heap.size)
  generalize hAe : va_A (bX1 a op) s.heap.size = A at hD ⊢
  have hA : ∀ q : Nat, s.heap.size ≤ q → A q := fun q h => by rw [← hAe]; exact Or.inr h
  have hS : va_S A s.heap s.heap [] := va_S.rf
  obtain ⟨H, hH⟩ : ∃ H, H = s.heap := ⟨_, rfl⟩
  rw [← hH] at hP
  have hS : va_S A s.heap H [] := by rw [hH]; exact hS
  have hl := lv_entry ([.ref a]) (n := 1) (Nat.le_of_ble_eq_true rfl)
  rw [lg_entry_eq]
  generalize (lg_sl ([.ref a]) ++ List.replicate (1 - (lg_sl ([.ref a])).length) Slot.unset).toArray = ls at hl ⊢
  have hl : lv_has ls 1 [(0, .ref a)] := hl
  refine W_heap hH ?_
  obtain ⟨locs, hlo⟩ : ∃ locs : List Loc, locs = [] := ⟨_, rfl⟩
  rw [← hlo] at hS ⊢
  unfold f_X1_empty at hf
  refine lv_aload_n (pc := 0) hx hb dX1_empty_0 rfl (lv_at hl 0 rfl) ?_
  refine lv_lconst (v := 0) (pc := 1) hx hb dX1_empty_1 (by decide) ?_
  obtain ⟨o1, eo1, hf⟩ := lt_some hf
  refine va_put (pc := 2) (D := D) (ci := 1) (v := .long 0) (ty := .long) (C := RX1) (T := TX1) (N := 16) hx hb hts iX1 tyX1 tyX1_ok nmX1 hown hK.1 hP hD hS 0 rfl rfl 0 (by decide) (hts _ fl_RX1_7) (fun _ h => h) rfl (tyX1_ok 0 (by decide)) rfl rfl (Nat.le_of_ble_eq_true rfl) dX1_empty_2 (fun H locs hP hD hS => ?_)
  replace hP : va_P D vwCl (bX1 a o1) H := by rw [eo1]; exact hP
  replace hD : va_D A (bX1 a o1) := by rw [eo1]; exact hD
  refine lv_aload_n (pc := 5) hx hb dX1_empty_5 rfl (lv_at hl 0 rfl) ?_
  refine lv_lconst (v := 0) (pc := 6) hx hb dX1_empty_6 (by decide) ?_
  obtain ⟨o2, eo2, hf⟩ := lt_some hf
  refine va_put (pc := 7) (D := D) (ci := 1) (v := .long 0) (ty := .long) (C := RX1) (T := TX1) (N := 16) hx hb hts iX1 tyX1 tyX1_ok nmX1 hown hK.1 hP hD hS 0 rfl rfl 1 (by decide) (hts _ fl_RX1_13) (fun _ h => h) rfl (tyX1_ok 1 (by decide)) rfl rfl (Nat.le_of_ble_eq_true rfl) dX1_empty_7 (fun H locs hP hD hS => ?_)
  replace hP : va_P D vwCl (bX1 a o2) H := by rw [eo2]; exact hP
  replace hD : va_D A (bX1 a o2) := by rw [eo2]; exact hD
  refine lv_aload_n (pc := 10) hx hb dX1_empty_10 rfl (lv_at hl 0 rfl) ?_
  refine lv_lconst (v := 0) (pc := 11) hx hb dX1_empty_11 (by decide) ?_
  obtain ⟨o3, eo3, hf⟩ := lt_some hf
  refine va_put (pc := 12) (D := D) (ci := 1) (v := .long 0) (ty := .long) (C := RX1) (T := TX1) (N := 16) hx hb hts iX1 tyX1 tyX1_ok nmX1 hown hK.1 hP hD hS 0 rfl rfl 2 (by decide) (hts _ fl_RX1_16) (fun _ h => h) rfl (tyX1_ok 2 (by decide)) rfl rfl (Nat.le_of_ble_eq_true rfl) dX1_empty_12 (fun H locs hP hD hS => ?_)
  replace hP : va_P D vwCl (bX1 a o3) H := by rw [eo3]; exact hP
  replace hD : va_D A (bX1 a o3) := by rw [eo3]; exact hD
  refine lv_aload_n (pc := 15) hx hb dX1_empty_15 rfl (lv_at hl 0 rfl) ?_
  refine lv_lconst (v := 0) (pc := 16) hx hb dX1_empty_16 (by decide) ?_
  obtain ⟨o4, eo4, hf⟩ := lt_some hf
  refine va_put (pc := 17) (D := D) (ci := 1) (v := .long 0) (ty := .long) (C := RX1) (T := TX1) (N := 16) hx hb hts iX1 tyX1 tyX1_ok nmX1 hown hK.1 hP hD hS 0 rfl rfl 3 (by decide) (hts _ fl_RX1_19) (fun _ h => h) rfl (tyX1_ok 3 (by decide)) rfl rfl (Nat.le_of_ble_eq_true rfl) dX1_empty_17 (fun H locs hP hD hS => ?_)
  replace hP : va_P D vwCl (bX1 a o4) H := by rw [eo4]; exact hP
  replace hD : va_D A (bX1 a o4) := by rw [eo4]; exact hD
  refine lv_aload_n (pc := 20) hx hb dX1_empty_20 rfl (lv_at hl 0 rfl) ?_
  refine lv_lconst (v := 0) (pc := 21) hx hb dX1_empty_21 (by decide) ?_
  obtain ⟨o5, eo5, hf⟩ := lt_some hf
  refine va_put (pc := 22) (D := D) (ci := 1) (v := .long 0) (ty := .long) (C := RX1) (T := TX1) (N := 16) hx hb hts iX1 tyX1 tyX1_ok nmX1 hown hK.1 hP hD hS 0 rfl rfl 4 (by decide) (hts _ fl_RX1_22) (fun _ h => h) rfl (tyX1_ok 4 (by decide)) rfl rfl (Nat.le_of_ble_eq_true rfl) dX1_empty_22 (fun H locs hP hD hS => ?_)
  replace hP : va_P D vwCl (bX1 a o5) H := by rw [eo5]; exact hP
  replace hD : va_D A (bX1 a o5) := by rw [eo5]; exact hD
  refine lv_aload_n (pc := 25) hx hb dX1_empty_25 rfl (lv_at hl 0 rfl) ?_
  refine lv_lconst (v := 0) (pc := 26) hx hb dX1_empty_26 (by decide) ?_
  obtain ⟨o6, eo6, hf⟩ := lt_some hf
  refine va_put (pc := 27) (D := D) (ci := 1) (v := .long 0) (ty := .long) (C := RX1) (T := TX1) (N := 16) hx hb hts iX1 tyX1 tyX1_ok nmX1 hown hK.1 hP hD hS 0 rfl rfl 5 (by decide) (hts _ fl_RX1_25) (fun _ h => h) rfl (tyX1_ok 5 (by decide)) rfl rfl (Nat.le_of_ble_eq_true rfl) dX1_empty_27 (fun H locs hP hD hS => ?_)
  replace hP : va_P D vwCl (bX1 a o6) H := by rw [eo6]; exact hP
  replace hD : va_D A (bX1 a o6) := by rw [eo6]; exact hD
  obtain rfl := Option.some.inj hf
  exact W.vret hx hb hr (fun t ht hW => ⟨rfl, by rw [ht]; exact hP, hD, hS.F ht⟩) hS.2.2 dX1_empty_30
def f_X1_put (i0 : Int32) (i1 : Int32) (i2 : Int32) (op : OS) : Option OS := lt (sL op 0 ((op.2.1 0) + i2.toInt64)) fun o1 => lt (sL o1 1 ((o1.2.1 1) + (((i2 * i0) : Int32).toInt64))) fun o2 => lt (sL o2 2 ((o2.2.1 2) + (((i2 * i1) : Int32).toInt64))) fun o3 => lt (sL o3 3 ((o3.2.1 3) + ((((i2 * i0) * i0) : Int32).toInt64))) fun o4 => lt (sL o4 4 ((o4.2.1 4) + ((((i2 * i0) * i1) : Int32).toInt64))) fun o5 => lt (sL o5 5 ((o5.2.1 5) + ((((i2 * i1) * i1) : Int32).toInt64))) fun o6 => some o6
set_option maxHeartbeats 4000000 in
set_option maxRecDepth 100000 in
theorem c_X1_put (l : Launch) (D : va_G) (cI cZ cS : ClassId) (a : Nat) (i0 : Int32) (i1 : Int32) (i2 : Int32) (op : OS) (x : OS) (hf : f_X1_put i0 i1 i2 op = some x) : Ct l yX1_put cX1_put 6 none 0 0 D cI cZ cS [.ref a, .int i0, .int i1, .int i2] (bX1 a op) none (bX1 a x) := by
  intro sz
  refine Met.ofW (cc := cX1_put) (maxL := 6) (ret := none) (by decide +kernel) rfl ?_
  intro p e s m args below meth c s₁ B hml hv
  obtain ⟨rfl, hsz, hP, hK, hD0⟩ := hv
  have hx := B.exec
  have hb := B.bytes
  have hr := B.returns
  have hts0 := atoms_spec (ws := .code yX1_put cX1_put 6 none :: TB) B.pre
  have hts := fun w (h : w ∈ TB) => hts0 w (List.mem_cons_of_mem _ h)
  have hown : s.vm.findClass RX1 = some m.cls := findClass_of_methodNamed B.named
  have hlocks := B.notSynchronized
  subst hsz
  have hD := hD0.self (sz := s.heap.size)
  generalize hAe : va_A (bX1 a op) s.heap.size = A at hD ⊢
  have hA : ∀ q : Nat, s.heap.size ≤ q → A q := fun q h => by rw [← hAe]; exact Or.inr h
  have hS : va_S A s.heap s.heap [] := va_S.rf
  obtain ⟨H, hH⟩ : ∃ H, H = s.heap := ⟨_, rfl⟩
  rw [← hH] at hP
  have hS : va_S A s.heap H [] := by rw [hH]; exact hS
  have hl := lv_entry ([.ref a, .int i0, .int i1, .int i2]) (n := 6) (Nat.le_of_ble_eq_true rfl)
  rw [lg_entry_eq]
  generalize (lg_sl ([.ref a, .int i0, .int i1, .int i2]) ++ List.replicate (6 - (lg_sl ([.ref a, .int i0, .int i1, .int i2])).length) Slot.unset).toArray = ls at hl ⊢
  have hl : lv_has ls 6 [(0, .ref a), (1, .int i0), (2, .int i1), (3, .int i2)] := hl
  refine W_heap hH ?_
  obtain ⟨locs, hlo⟩ : ∃ locs : List Loc, locs = [] := ⟨_, rfl⟩
  rw [← hlo] at hS ⊢
  unfold f_X1_put at hf
  refine lv_iload_n (pc := 0) hx hb dX1_put_0 rfl (lv_at hl 3 rfl) ?_
  refine lv_iload_n (pc := 1) hx hb dX1_put_1 rfl (lv_at hl 1 rfl) ?_
  refine lv_imul (pc := 2) hx hb dX1_put_2 ?_
  refine lv_istore (lv' := [(4, .int (i2 * i0)), (0, .ref a), (1, .int i0), (2, .int i1), (3, .int i2)]) (pc := 3) hx hb dX1_put_3 hl (by decide) rfl (fun ls hl => ?_)
  refine lv_iload_n (pc := 5) hx hb dX1_put_5 rfl (lv_at hl 4 rfl) ?_
  refine lv_iload_n (pc := 6) hx hb dX1_put_6 rfl (lv_at hl 3 rfl) ?_
  refine lv_imul (pc := 7) hx hb dX1_put_7 ?_
  refine lv_istore (lv' := [(5, .int (i2 * i1)), (4, .int (i2 * i0)), (0, .ref a), (1, .int i0), (2, .int i1), (3, .int i2)]) (pc := 8) hx hb dX1_put_8 hl (by decide) rfl (fun ls hl => ?_)
  refine lv_aload_n (pc := 10) hx hb dX1_put_10 rfl (lv_at hl 2 rfl) ?_
  refine lv_dup (pc := 11) hx hb dX1_put_11 rfl ?_
  refine va_get (pc := 12) (D := D) (ci := 1) (v := .long (op.2.1 0)) (C := RX1) (T := TX1) (N := 16) hx hb hts iX1 hown hK.1 hP 0 rfl rfl 0 (by decide) (hts _ fl_RX1_7) (fun _ h => h) rfl dX1_put_12 ?_
  refine lv_iload_n (pc := 15) hx hb dX1_put_15 rfl (lv_at hl 5 rfl) ?_
  refine lv_i2l (pc := 16) hx hb dX1_put_16 rfl ?_
  refine lv_ladd (pc := 17) hx hb dX1_put_17 ?_
  obtain ⟨o1, eo1, hf⟩ := lt_some hf
  refine va_put (pc := 18) (D := D) (ci := 1) (v := .long ((op.2.1 0) + i2.toInt64)) (ty := .long) (C := RX1) (T := TX1) (N := 16) hx hb hts iX1 tyX1 tyX1_ok nmX1 hown hK.1 hP hD hS 0 rfl rfl 0 (by decide) (hts _ fl_RX1_7) (fun _ h => h) rfl (tyX1_ok 0 (by decide)) rfl rfl (Nat.le_of_ble_eq_true rfl) dX1_put_18 (fun H locs hP hD hS => ?_)
  replace hP : va_P D vwCl (bX1 a o1) H := by rw [eo1]; exact hP
  replace hD : va_D A (bX1 a o1) := by rw [eo1]; exact hD
  refine lv_aload_n (pc := 21) hx hb dX1_put_21 rfl (lv_at hl 2 rfl) ?_
  refine lv_dup (pc := 22) hx hb dX1_put_22 rfl ?_
  refine va_get (pc := 23) (D := D) (ci := 1) (v := .long (o1.2.1 1)) (C := RX1) (T := TX1) (N := 16) hx hb hts iX1 hown hK.1 hP 0 rfl rfl 1 (by decide) (hts _ fl_RX1_13) (fun _ h => h) rfl dX1_put_23 ?_
  refine lv_iload (pc := 26) hx hb dX1_put_26 (lv_at hl 1 rfl) ?_
  refine lv_i2l (pc := 28) hx hb dX1_put_28 rfl ?_
  refine lv_ladd (pc := 29) hx hb dX1_put_29 ?_
  obtain ⟨o2, eo2, hf⟩ := lt_some hf
  refine va_put (pc := 30) (D := D) (ci := 1) (v := .long ((o1.2.1 1) + (((i2 * i0) : Int32).toInt64))) (ty := .long) (C := RX1) (T := TX1) (N := 16) hx hb hts iX1 tyX1 tyX1_ok nmX1 hown hK.1 hP hD hS 0 rfl rfl 1 (by decide) (hts _ fl_RX1_13) (fun _ h => h) rfl (tyX1_ok 1 (by decide)) rfl rfl (Nat.le_of_ble_eq_true rfl) dX1_put_30 (fun H locs hP hD hS => ?_)
  replace hP : va_P D vwCl (bX1 a o2) H := by rw [eo2]; exact hP
  replace hD : va_D A (bX1 a o2) := by rw [eo2]; exact hD
  refine lv_aload_n (pc := 33) hx hb dX1_put_33 rfl (lv_at hl 2 rfl) ?_
  refine lv_dup (pc := 34) hx hb dX1_put_34 rfl ?_
  refine va_get (pc := 35) (D := D) (ci := 1) (v := .long (o2.2.1 2)) (C := RX1) (T := TX1) (N := 16) hx hb hts iX1 hown hK.1 hP 0 rfl rfl 2 (by decide) (hts _ fl_RX1_16) (fun _ h => h) rfl dX1_put_35 ?_
  refine lv_iload (pc := 38) hx hb dX1_put_38 (lv_at hl 0 rfl) ?_
  refine lv_i2l (pc := 40) hx hb dX1_put_40 rfl ?_
  refine lv_ladd (pc := 41) hx hb dX1_put_41 ?_
  obtain ⟨o3, eo3, hf⟩ := lt_some hf
  refine va_put (pc := 42) (D := D) (ci := 1) (v := .long ((o2.2.1 2) + (((i2 * i1) : Int32).toInt64))) (ty := .long) (C := RX1) (T := TX1) (N := 16) hx hb hts iX1 tyX1 tyX1_ok nmX1 hown hK.1 hP hD hS 0 rfl rfl 2 (by decide) (hts _ fl_RX1_16) (fun _ h => h) rfl (tyX1_ok 2 (by decide)) rfl rfl (Nat.le_of_ble_eq_true rfl) dX1_put_42 (fun H locs hP hD hS => ?_)
  replace hP : va_P D vwCl (bX1 a o3) H := by rw [eo3]; exact hP
  replace hD : va_D A (bX1 a o3) := by rw [eo3]; exact hD
  refine lv_aload_n (pc := 45) hx hb dX1_put_45 rfl (lv_at hl 2 rfl) ?_
  refine lv_dup (pc := 46) hx hb dX1_put_46 rfl ?_
  refine va_get (pc := 47) (D := D) (ci := 1) (v := .long (o3.2.1 3)) (C := RX1) (T := TX1) (N := 16) hx hb hts iX1 hown hK.1 hP 0 rfl rfl 3 (by decide) (hts _ fl_RX1_19) (fun _ h => h) rfl dX1_put_47 ?_
  refine lv_iload (pc := 50) hx hb dX1_put_50 (lv_at hl 1 rfl) ?_
  refine lv_iload_n (pc := 52) hx hb dX1_put_52 rfl (lv_at hl 3 rfl) ?_
  refine lv_imul (pc := 53) hx hb dX1_put_53 ?_
  refine lv_i2l (pc := 54) hx hb dX1_put_54 rfl ?_
  refine lv_ladd (pc := 55) hx hb dX1_put_55 ?_
  obtain ⟨o4, eo4, hf⟩ := lt_some hf
  refine va_put (pc := 56) (D := D) (ci := 1) (v := .long ((o3.2.1 3) + ((((i2 * i0) * i0) : Int32).toInt64))) (ty := .long) (C := RX1) (T := TX1) (N := 16) hx hb hts iX1 tyX1 tyX1_ok nmX1 hown hK.1 hP hD hS 0 rfl rfl 3 (by decide) (hts _ fl_RX1_19) (fun _ h => h) rfl (tyX1_ok 3 (by decide)) rfl rfl (Nat.le_of_ble_eq_true rfl) dX1_put_56 (fun H locs hP hD hS => ?_)
  replace hP : va_P D vwCl (bX1 a o4) H := by rw [eo4]; exact hP
  replace hD : va_D A (bX1 a o4) := by rw [eo4]; exact hD
  refine lv_aload_n (pc := 59) hx hb dX1_put_59 rfl (lv_at hl 2 rfl) ?_
  refine lv_dup (pc := 60) hx hb dX1_put_60 rfl ?_
  refine va_get (pc := 61) (D := D) (ci := 1) (v := .long (o4.2.1 4)) (C := RX1) (T := TX1) (N := 16) hx hb hts iX1 hown hK.1 hP 0 rfl rfl 4 (by decide) (hts _ fl_RX1_22) (fun _ h => h) rfl dX1_put_61 ?_
  refine lv_iload (pc := 64) hx hb dX1_put_64 (lv_at hl 1 rfl) ?_
  refine lv_iload_n (pc := 66) hx hb dX1_put_66 rfl (lv_at hl 4 rfl) ?_
  refine lv_imul (pc := 67) hx hb dX1_put_67 ?_
  refine lv_i2l (pc := 68) hx hb dX1_put_68 rfl ?_
  refine lv_ladd (pc := 69) hx hb dX1_put_69 ?_
  obtain ⟨o5, eo5, hf⟩ := lt_some hf
  refine va_put (pc := 70) (D := D) (ci := 1) (v := .long ((o4.2.1 4) + ((((i2 * i0) * i1) : Int32).toInt64))) (ty := .long) (C := RX1) (T := TX1) (N := 16) hx hb hts iX1 tyX1 tyX1_ok nmX1 hown hK.1 hP hD hS 0 rfl rfl 4 (by decide) (hts _ fl_RX1_22) (fun _ h => h) rfl (tyX1_ok 4 (by decide)) rfl rfl (Nat.le_of_ble_eq_true rfl) dX1_put_70 (fun H locs hP hD hS => ?_)
  replace hP : va_P D vwCl (bX1 a o5) H := by rw [eo5]; exact hP
  replace hD : va_D A (bX1 a o5) := by rw [eo5]; exact hD
  refine lv_aload_n (pc := 73) hx hb dX1_put_73 rfl (lv_at hl 2 rfl) ?_
  refine lv_dup (pc := 74) hx hb dX1_put_74 rfl ?_
  refine va_get (pc := 75) (D := D) (ci := 1) (v := .long (o5.2.1 5)) (C := RX1) (T := TX1) (N := 16) hx hb hts iX1 hown hK.1 hP 0 rfl rfl 5 (by decide) (hts _ fl_RX1_25) (fun _ h => h) rfl dX1_put_75 ?_
  refine lv_iload (pc := 78) hx hb dX1_put_78 (lv_at hl 0 rfl) ?_
  refine lv_iload_n (pc := 80) hx hb dX1_put_80 rfl (lv_at hl 4 rfl) ?_
  refine lv_imul (pc := 81) hx hb dX1_put_81 ?_
  refine lv_i2l (pc := 82) hx hb dX1_put_82 rfl ?_
  refine lv_ladd (pc := 83) hx hb dX1_put_83 ?_
  obtain ⟨o6, eo6, hf⟩ := lt_some hf
  refine va_put (pc := 84) (D := D) (ci := 1) (v := .long ((o5.2.1 5) + ((((i2 * i1) * i1) : Int32).toInt64))) (ty := .long) (C := RX1) (T := TX1) (N := 16) hx hb hts iX1 tyX1 tyX1_ok nmX1 hown hK.1 hP hD hS 0 rfl rfl 5 (by decide) (hts _ fl_RX1_25) (fun _ h => h) rfl (tyX1_ok 5 (by decide)) rfl rfl (Nat.le_of_ble_eq_true rfl) dX1_put_84 (fun H locs hP hD hS => ?_)
  replace hP : va_P D vwCl (bX1 a o6) H := by rw [eo6]; exact hP
  replace hD : va_D A (bX1 a o6) := by rw [eo6]; exact hD
  obtain rfl := Option.some.inj hf
  exact W.vret hx hb hr (fun t ht hW => ⟨rfl, by rw [ht]; exact hP, hD, hS.F ht⟩) hS.2.2 dX1_put_87
def lp_X0_beginWith_14 (u_D : OS) : Nat → Int32 → OS → Option (Int32 × OS)
  | 0, _, _ => none
  | n + 1, v2, w_DW => if (u_D.1 4) ≤ v2 then some (v2, w_DW) else if (((u_D.1 8) >>> (v2 &&& 31)) &&& 1) = 1 then ck v2 9 (ck v2 9 (ck v2 9 (Option.bind (f_X1_put (u_D.2.2 0 (v2 : Int32).toNatClampNeg) (u_D.2.2 1 (v2 : Int32).toNatClampNeg) (u_D.2.2 2 (v2 : Int32).toNatClampNeg) w_DW) fun x11 => lp_X0_beginWith_14 u_D n (v2 + 1) x11))) else lp_X0_beginWith_14 u_D n (v2 + 1) w_DW
def f_X0_beginWith (i0 : Int32) (od : OS) (odw : OS) : Option (OS × OS) := lt (sI od 8 i0) fun o1 => Option.bind (f_X1_empty odw) fun x2 => Option.bind (lp_X0_beginWith_14 o1 1000 0 x2) fun z3 => some (o1, z3.2)
set_option maxHeartbeats 4000000 in
set_option maxRecDepth 100000 in
theorem c_X0_beginWith (l : Launch) (D : va_G) (cI cZ cS : ClassId) (a : Nat) (q : Nat → Nat) (i0 : Int32) (od : OS) (odw : OS) (x : (OS × OS)) (hf : f_X0_beginWith i0 od odw = some x) : Ct l yX0_beginWith cX0_beginWith 3 none 1 25 D cI cZ cS [.ref a, .int i0] (bX0 cI a q od ++ bX1 (q 13) odw) none (bX0 cI a q x.1 ++ bX1 (q 13) x.2) := by
  intro sz
  refine Met.ofW (cc := cX0_beginWith) (maxL := 3) (ret := none) (by decide +kernel) rfl ?_
  intro p e s m args below meth c s₁ B hml hv
  obtain ⟨rfl, hsz, hP, hK, hD0⟩ := hv
  have hx := B.exec
  have hb := B.bytes
  have hr := B.returns
  have hts0 := atoms_spec (ws := .code yX0_beginWith cX0_beginWith 3 none :: TB) B.pre
  have hts := fun w (h : w ∈ TB) => hts0 w (List.mem_cons_of_mem _ h)
  have hown : s.vm.findClass RX0 = some m.cls := findClass_of_methodNamed B.named
  have hlocks := B.notSynchronized
  subst hsz
  have hD := hD0.self (sz := s.heap.size)
  generalize hAe : va_A (bX0 cI a q od ++ bX1 (q 13) odw) s.heap.size = A at hD ⊢
  have hA : ∀ q : Nat, s.heap.size ≤ q → A q := fun q h => by rw [← hAe]; exact Or.inr h
  have hS : va_S A s.heap s.heap [] := va_S.rf
  obtain ⟨H, hH⟩ : ∃ H, H = s.heap := ⟨_, rfl⟩
  rw [← hH] at hP
  have hS : va_S A s.heap H [] := by rw [hH]; exact hS
  have hl := lv_entry ([.ref a, .int i0]) (n := 3) (Nat.le_of_ble_eq_true rfl)
  rw [lg_entry_eq]
  generalize (lg_sl ([.ref a, .int i0]) ++ List.replicate (3 - (lg_sl ([.ref a, .int i0])).length) Slot.unset).toArray = ls at hl ⊢
  have hl : lv_has ls 3 [(0, .ref a), (1, .int i0)] := hl
  refine W_heap hH ?_
  obtain ⟨locs, hlo⟩ : ∃ locs : List Loc, locs = [] := ⟨_, rfl⟩
  rw [← hlo] at hS ⊢
  unfold f_X0_beginWith at hf
  refine lv_aload_n (pc := 0) hx hb dX0_beginWith_0 rfl (lv_at hl 0 rfl) ?_
  refine lv_iload_n (pc := 1) hx hb dX0_beginWith_1 rfl (lv_at hl 1 rfl) ?_
  obtain ⟨o1, eo1, hf⟩ := lt_some hf
  refine va_put (pc := 2) (D := D) (ci := 0) (v := .int i0) (ty := .int) (C := RX0) (T := TX0) (N := 15) hx hb hts iX0 tyX0 tyX0_ok nmX0 hown hK.1 hP hD hS 0 rfl rfl 8 (by decide) (hts _ fl_RX0_68) (fun _ h => h) rfl (tyX0_ok 8 (by decide)) rfl rfl (Nat.le_of_ble_eq_true rfl) dX0_beginWith_2 (fun H locs hP hD hS => ?_)
  replace hP : va_P D vwCl (bX0 cI a q o1 ++ bX1 (q 13) odw) H := by rw [eo1]; exact hP
  replace hD : va_D A (bX0 cI a q o1 ++ bX1 (q 13) odw) := by rw [eo1]; exact hD
  refine lv_aload_n (pc := 5) hx hb dX0_beginWith_5 rfl (lv_at hl 0 rfl) ?_
  refine va_get (pc := 6) (D := D) (ci := 0) (v := .ref (q 13)) (C := RX0) (T := TX0) (N := 15) hx hb hts iX0 hown hK.1 hP 0 rfl rfl 13 (by decide) (hts _ fl_RX0_27) (fun _ h => h) rfl dX0_beginWith_6 ?_
  obtain ⟨x2, ex2, hf⟩ := bd_some hf
  refine ct_V (pc := 9) (As := []) (rest := []) (wr := bX0 cI a q o1) (W1 := bX0 cI a q o1 ++ bX1 (q 13) x2) ⟨hx, hb, hml, hown, hts⟩ hK (c_X1_empty l D cI cZ cS (q 13) odw x2 ex2) gv_RX0_71 rfl hs_X1_empty rfl ⟨Nat.le_of_ble_eq_true rfl, Nat.le_of_ble_eq_true rfl⟩ (ci := 1) (q0 := 5) rfl rfl rfl hl.1 rfl (Nat.le_of_ble_eq_true rfl) dX0_beginWith_9 ⟨Nat.zero_le _, Nat.zero_le _⟩ hP hD hS hA [5] [0, 1, 2, 3, 4] [0, 1, 2, 3, 4, 5] rfl rfl (by decide +kernel) (by decide +kernel) (by decide +kernel) (by decide +kernel) rfl (fun H locs hP hD hS => ?_)
  refine lv_iconst (v := 0) (pc := 12) hx hb dX0_beginWith_12 (by decide) ?_
  refine lv_istore_n (lv' := [(2, .int 0), (0, .ref a), (1, .int i0)]) (pc := 13) hx hb dX0_beginWith_13 rfl hl (by decide) rfl (fun ls hl => ?_)
  obtain ⟨z3, hz3, hf⟩ := bd_some hf
  have hfz3 := hf
  clear hf
  have K4 : ∀ (H : Heap) (locs : List Loc) (ls : Array Slot), va_P D vwCl (bX0 cI a q o1 ++ bX1 (q 13) z3.2) H → va_D A (bX0 cI a q o1 ++ bX1 (q 13) z3.2) → va_S A s.heap H locs → lv_has ls 3 [(0, .ref a), (1, .int i0), (2, .int z3.1)] → GW l yX0_beginWith cX0_beginWith 3 none 1 25 D [.ref a, .int i0] none (bX0 cI a q x.1 ++ bX1 (q 13) x.2) A p e s m below meth c H locs (F0 m 65 ls []) := by
    intro H locs ls hP hD hS hl
    have hf := hfz3
    obtain rfl := Option.some.inj hf
    exact W.vret hx hb hr (fun t ht hW => ⟨rfl, by rw [ht]; exact hP, hD, hS.F ht⟩) hS.2.2 dX0_beginWith_65
  have KL5 : ∀ (n : Nat) (v2 : Int32) (w_DW : OS) (H : Heap) (locs : List Loc) (ls : Array Slot), lp_X0_beginWith_14 o1 n v2 w_DW = some z3 → va_P D vwCl (bX0 cI a q o1 ++ bX1 (q 13) w_DW) H → va_D A (bX0 cI a q o1 ++ bX1 (q 13) w_DW) → va_S A s.heap H locs → lv_has ls 3 [(0, .ref a), (1, .int i0), (2, .int v2)] → GW l yX0_beginWith cX0_beginWith 3 none 1 25 D [.ref a, .int i0] none (bX0 cI a q x.1 ++ bX1 (q 13) x.2) A p e s m below meth c H locs (F0 m 14 ls []) := by
    intro n
    induction n with
    | zero => intro v2 w_DW H locs ls hf; cases hf
    | succ n ih =>
      intro v2 w_DW H locs ls hf hP hD hS hl
      rw [lp_X0_beginWith_14] at hf
      refine lv_iload_n (pc := 14) hx hb dX0_beginWith_14 rfl (lv_at hl 2 rfl) ?_
      refine lv_aload_n (pc := 15) hx hb dX0_beginWith_15 rfl (lv_at hl 0 rfl) ?_
      refine va_get (pc := 16) (D := D) (ci := 0) (v := .int (o1.1 4)) (C := RX0) (T := TX0) (N := 15) hx hb hts iX0 hown hK.1 hP 0 rfl rfl 4 (by decide) (hts _ fl_RX0_50) (fun _ h => h) rfl dX0_beginWith_16 ?_
      refine lv_icmp_ge (pc := 19) (tgt := 65) hx hb dX0_beginWith_19 (by decide) (fun c6 => ?_) (fun c6 => ?_)
      · replace hf := ip c6 hf
        obtain rfl := Option.some.inj hf
        exact K4 H locs ls hP hD hS (lv_sub hl [0, 1, 2] rfl)
      · replace hf := im c6 hf
        refine lv_aload_n (pc := 22) hx hb dX0_beginWith_22 rfl (lv_at hl 0 rfl) ?_
        refine va_get (pc := 23) (D := D) (ci := 0) (v := .int (o1.1 8)) (C := RX0) (T := TX0) (N := 15) hx hb hts iX0 hown hK.1 hP 0 rfl rfl 8 (by decide) (hts _ fl_RX0_68) (fun _ h => h) rfl dX0_beginWith_23 ?_
        refine lv_iload_n (pc := 26) hx hb dX0_beginWith_26 rfl (lv_at hl 2 rfl) ?_
        refine lv_ishr (pc := 27) hx hb dX0_beginWith_27 ?_
        refine lv_iconst (v := 1) (pc := 28) hx hb dX0_beginWith_28 (by decide) ?_
        refine lv_iand (pc := 29) hx hb dX0_beginWith_29 ?_
        refine lv_iconst (v := 1) (pc := 30) hx hb dX0_beginWith_30 (by decide) ?_
        refine lv_icmp_ne (pc := 31) (tgt := 59) hx hb dX0_beginWith_31 (by decide) (fun c7 => ?_) (fun c7 => ?_)
        · replace hf := im c7 hf
          refine lv_iinc (v := (v2 + 1)) (lv' := [(2, .int (v2 + 1)), (0, .ref a), (1, .int i0)]) (pc := 59) hx hb dX0_beginWith_59 hl (k := 2) rfl rfl (by decide) rfl (fun ls hl => ?_)
          refine lv_goto (pc := 62) (tgt := 14) hx hb dX0_beginWith_62 (by decide) ?_
          exact ih _ _ H locs ls hf hP hD hS (lv_sub hl [1, 2, 0] rfl)
        · replace hf := ip c7 hf
          refine lv_aload_n (pc := 34) hx hb dX0_beginWith_34 rfl (lv_at hl 0 rfl) ?_
          refine va_get (pc := 35) (D := D) (ci := 0) (v := .ref (q 13)) (C := RX0) (T := TX0) (N := 15) hx hb hts iX0 hown hK.1 hP 0 rfl rfl 13 (by decide) (hts _ fl_RX0_27) (fun _ h => h) rfl dX0_beginWith_35 ?_
          refine lv_aload_n (pc := 38) hx hb dX0_beginWith_38 rfl (lv_at hl 0 rfl) ?_
          refine va_get (pc := 39) (D := D) (ci := 0) (v := .ref (q 0)) (C := RX0) (T := TX0) (N := 15) hx hb hts iX0 hown hK.1 hP 0 rfl rfl 0 (by decide) (hts _ fl_RX0_11) (fun _ h => h) rfl dX0_beginWith_39 ?_
          refine lv_iload_n (pc := 42) hx hb dX0_beginWith_42 rfl (lv_at hl 2 rfl) ?_
          obtain ⟨h8, hf⟩ := ck_some hf
          refine va_iald (pc := 43) (f := o1.2.2 0) hx hb hK.1 hP 1 0 rfl rfl h8 dX0_beginWith_43 ?_
          refine lv_aload_n (pc := 44) hx hb dX0_beginWith_44 rfl (lv_at hl 0 rfl) ?_
          refine va_get (pc := 45) (D := D) (ci := 0) (v := .ref (q 1)) (C := RX0) (T := TX0) (N := 15) hx hb hts iX0 hown hK.1 hP 0 rfl rfl 1 (by decide) (hts _ fl_RX0_15) (fun _ h => h) rfl dX0_beginWith_45 ?_
          refine lv_iload_n (pc := 48) hx hb dX0_beginWith_48 rfl (lv_at hl 2 rfl) ?_
          obtain ⟨h9, hf⟩ := ck_some hf
          refine va_iald (pc := 49) (f := o1.2.2 1) hx hb hK.1 hP 2 0 rfl rfl h9 dX0_beginWith_49 ?_
          refine lv_aload_n (pc := 50) hx hb dX0_beginWith_50 rfl (lv_at hl 0 rfl) ?_
          refine va_get (pc := 51) (D := D) (ci := 0) (v := .ref (q 2)) (C := RX0) (T := TX0) (N := 15) hx hb hts iX0 hown hK.1 hP 0 rfl rfl 2 (by decide) (hts _ fl_RX0_18) (fun _ h => h) rfl dX0_beginWith_51 ?_
          refine lv_iload_n (pc := 54) hx hb dX0_beginWith_54 rfl (lv_at hl 2 rfl) ?_
          obtain ⟨h10, hf⟩ := ck_some hf
          refine va_iald (pc := 55) (f := o1.2.2 2) hx hb hK.1 hP 3 0 rfl rfl h10 dX0_beginWith_55 ?_
          obtain ⟨x11, ex11, hf⟩ := bd_some hf
          refine ct_V (pc := 56) (As := [.int (o1.2.2 0 (v2 : Int32).toNatClampNeg), .int (o1.2.2 1 (v2 : Int32).toNatClampNeg), .int (o1.2.2 2 (v2 : Int32).toNatClampNeg)]) (rest := []) (wr := bX0 cI a q o1) (W1 := bX0 cI a q o1 ++ bX1 (q 13) x11) ⟨hx, hb, hml, hown, hts⟩ hK (c_X1_put l D cI cZ cS (q 13) (o1.2.2 0 (v2 : Int32).toNatClampNeg) (o1.2.2 1 (v2 : Int32).toNatClampNeg) (o1.2.2 2 (v2 : Int32).toNatClampNeg) w_DW x11 ex11) gv_RX0_74 rfl hs_X1_put rfl ⟨Nat.le_of_ble_eq_true rfl, Nat.le_of_ble_eq_true rfl⟩ (ci := 1) (q0 := 5) rfl rfl rfl hl.1 rfl (Nat.le_of_ble_eq_true rfl) dX0_beginWith_56 ⟨Nat.zero_le _, Nat.zero_le _⟩ hP hD hS hA [5] [0, 1, 2, 3, 4] [0, 1, 2, 3, 4, 5] rfl rfl (by decide +kernel) (by decide +kernel) (by decide +kernel) (by decide +kernel) rfl (fun H locs hP hD hS => ?_)
          refine lv_iinc (v := (v2 + 1)) (lv' := [(2, .int (v2 + 1)), (0, .ref a), (1, .int i0)]) (pc := 59) hx hb dX0_beginWith_59 hl (k := 2) rfl rfl (by decide) rfl (fun ls hl => ?_)
          refine lv_goto (pc := 62) (tgt := 14) hx hb dX0_beginWith_62 (by decide) ?_
          exact ih _ _ H locs ls hf hP hD hS (lv_sub hl [1, 2, 0] rfl)
  exact KL5 1000 _ _ H locs ls hz3 hP hD hS (lv_sub hl [1, 2, 0] rfl)
def f_X1_copySums (op : OS) (op2 : OS) : Option OS := lt (sL op 0 (op2.2.1 0)) fun o1 => lt (sL o1 1 (op2.2.1 1)) fun o2 => lt (sL o2 2 (op2.2.1 2)) fun o3 => lt (sL o3 3 (op2.2.1 3)) fun o4 => lt (sL o4 4 (op2.2.1 4)) fun o5 => lt (sL o5 5 (op2.2.1 5)) fun o6 => some o6
set_option maxHeartbeats 4000000 in
set_option maxRecDepth 100000 in
theorem c_X1_copySums (l : Launch) (D : va_G) (cI cZ cS : ClassId) (a : Nat) (b : Nat) (op : OS) (op2 : OS) (x : OS) (hf : f_X1_copySums op op2 = some x) : Ct l yX1_copySums cX1_copySums 2 none 0 0 D cI cZ cS [.ref a, .ref b] (bX1 a op ++ bX1 b op2) none (bX1 a x ++ bX1 b op2) := by
  intro sz
  refine Met.ofW (cc := cX1_copySums) (maxL := 2) (ret := none) (by decide +kernel) rfl ?_
  intro p e s m args below meth c s₁ B hml hv
  obtain ⟨rfl, hsz, hP, hK, hD0⟩ := hv
  have hx := B.exec
  have hb := B.bytes
  have hr := B.returns
  have hts0 := atoms_spec (ws := .code yX1_copySums cX1_copySums 2 none :: TB) B.pre
  have hts := fun w (h : w ∈ TB) => hts0 w (List.mem_cons_of_mem _ h)
  have hown : s.vm.findClass RX1 = some m.cls := findClass_of_methodNamed B.named
  have hlocks := B.notSynchronized
  subst hsz
  have hD := hD0.self (sz := s.heap.size)
  generalize hAe : va_A (bX1 a op ++ bX1 b op2) s.heap.size = A at hD ⊢
  have hA : ∀ q : Nat, s.heap.size ≤ q → A q := fun q h => by rw [← hAe]; exact Or.inr h
  have hS : va_S A s.heap s.heap [] := va_S.rf
  obtain ⟨H, hH⟩ : ∃ H, H = s.heap := ⟨_, rfl⟩
  rw [← hH] at hP
  have hS : va_S A s.heap H [] := by rw [hH]; exact hS
  have hl := lv_entry ([.ref a, .ref b]) (n := 2) (Nat.le_of_ble_eq_true rfl)
  rw [lg_entry_eq]
  generalize (lg_sl ([.ref a, .ref b]) ++ List.replicate (2 - (lg_sl ([.ref a, .ref b])).length) Slot.unset).toArray = ls at hl ⊢
  have hl : lv_has ls 2 [(0, .ref a), (1, .ref b)] := hl
  refine W_heap hH ?_
  obtain ⟨locs, hlo⟩ : ∃ locs : List Loc, locs = [] := ⟨_, rfl⟩
  rw [← hlo] at hS ⊢
  unfold f_X1_copySums at hf
  refine lv_aload_n (pc := 0) hx hb dX1_copySums_0 rfl (lv_at hl 0 rfl) ?_
  refine lv_aload_n (pc := 1) hx hb dX1_copySums_1 rfl (lv_at hl 1 rfl) ?_
  refine va_get (pc := 2) (D := D) (ci := 1) (v := .long (op2.2.1 0)) (C := RX1) (T := TX1) (N := 16) hx hb hts iX1 hown hK.1 hP 1 rfl rfl 0 (by decide) (hts _ fl_RX1_7) (fun _ h => h) rfl dX1_copySums_2 ?_
  obtain ⟨o1, eo1, hf⟩ := lt_some hf
  refine va_put (pc := 5) (D := D) (ci := 1) (v := .long (op2.2.1 0)) (ty := .long) (C := RX1) (T := TX1) (N := 16) hx hb hts iX1 tyX1 tyX1_ok nmX1 hown hK.1 hP hD hS 0 rfl rfl 0 (by decide) (hts _ fl_RX1_7) (fun _ h => h) rfl (tyX1_ok 0 (by decide)) rfl rfl (Nat.le_of_ble_eq_true rfl) dX1_copySums_5 (fun H locs hP hD hS => ?_)
  replace hP : va_P D vwCl (bX1 a o1 ++ bX1 b op2) H := by rw [eo1]; exact hP
  replace hD : va_D A (bX1 a o1 ++ bX1 b op2) := by rw [eo1]; exact hD
  refine lv_aload_n (pc := 8) hx hb dX1_copySums_8 rfl (lv_at hl 0 rfl) ?_
  refine lv_aload_n (pc := 9) hx hb dX1_copySums_9 rfl (lv_at hl 1 rfl) ?_
  refine va_get (pc := 10) (D := D) (ci := 1) (v := .long (op2.2.1 1)) (C := RX1) (T := TX1) (N := 16) hx hb hts iX1 hown hK.1 hP 1 rfl rfl 1 (by decide) (hts _ fl_RX1_13) (fun _ h => h) rfl dX1_copySums_10 ?_
  obtain ⟨o2, eo2, hf⟩ := lt_some hf
  refine va_put (pc := 13) (D := D) (ci := 1) (v := .long (op2.2.1 1)) (ty := .long) (C := RX1) (T := TX1) (N := 16) hx hb hts iX1 tyX1 tyX1_ok nmX1 hown hK.1 hP hD hS 0 rfl rfl 1 (by decide) (hts _ fl_RX1_13) (fun _ h => h) rfl (tyX1_ok 1 (by decide)) rfl rfl (Nat.le_of_ble_eq_true rfl) dX1_copySums_13 (fun H locs hP hD hS => ?_)
  replace hP : va_P D vwCl (bX1 a o2 ++ bX1 b op2) H := by rw [eo2]; exact hP
  replace hD : va_D A (bX1 a o2 ++ bX1 b op2) := by rw [eo2]; exact hD
  refine lv_aload_n (pc := 16) hx hb dX1_copySums_16 rfl (lv_at hl 0 rfl) ?_
  refine lv_aload_n (pc := 17) hx hb dX1_copySums_17 rfl (lv_at hl 1 rfl) ?_
  refine va_get (pc := 18) (D := D) (ci := 1) (v := .long (op2.2.1 2)) (C := RX1) (T := TX1) (N := 16) hx hb hts iX1 hown hK.1 hP 1 rfl rfl 2 (by decide) (hts _ fl_RX1_16) (fun _ h => h) rfl dX1_copySums_18 ?_
  obtain ⟨o3, eo3, hf⟩ := lt_some hf
  refine va_put (pc := 21) (D := D) (ci := 1) (v := .long (op2.2.1 2)) (ty := .long) (C := RX1) (T := TX1) (N := 16) hx hb hts iX1 tyX1 tyX1_ok nmX1 hown hK.1 hP hD hS 0 rfl rfl 2 (by decide) (hts _ fl_RX1_16) (fun _ h => h) rfl (tyX1_ok 2 (by decide)) rfl rfl (Nat.le_of_ble_eq_true rfl) dX1_copySums_21 (fun H locs hP hD hS => ?_)
  replace hP : va_P D vwCl (bX1 a o3 ++ bX1 b op2) H := by rw [eo3]; exact hP
  replace hD : va_D A (bX1 a o3 ++ bX1 b op2) := by rw [eo3]; exact hD
  refine lv_aload_n (pc := 24) hx hb dX1_copySums_24 rfl (lv_at hl 0 rfl) ?_
  refine lv_aload_n (pc := 25) hx hb dX1_copySums_25 rfl (lv_at hl 1 rfl) ?_
  refine va_get (pc := 26) (D := D) (ci := 1) (v := .long (op2.2.1 3)) (C := RX1) (T := TX1) (N := 16) hx hb hts iX1 hown hK.1 hP 1 rfl rfl 3 (by decide) (hts _ fl_RX1_19) (fun _ h => h) rfl dX1_copySums_26 ?_
  obtain ⟨o4, eo4, hf⟩ := lt_some hf
  refine va_put (pc := 29) (D := D) (ci := 1) (v := .long (op2.2.1 3)) (ty := .long) (C := RX1) (T := TX1) (N := 16) hx hb hts iX1 tyX1 tyX1_ok nmX1 hown hK.1 hP hD hS 0 rfl rfl 3 (by decide) (hts _ fl_RX1_19) (fun _ h => h) rfl (tyX1_ok 3 (by decide)) rfl rfl (Nat.le_of_ble_eq_true rfl) dX1_copySums_29 (fun H locs hP hD hS => ?_)
  replace hP : va_P D vwCl (bX1 a o4 ++ bX1 b op2) H := by rw [eo4]; exact hP
  replace hD : va_D A (bX1 a o4 ++ bX1 b op2) := by rw [eo4]; exact hD
  refine lv_aload_n (pc := 32) hx hb dX1_copySums_32 rfl (lv_at hl 0 rfl) ?_
  refine lv_aload_n (pc := 33) hx hb dX1_copySums_33 rfl (lv_at hl 1 rfl) ?_
  refine va_get (pc := 34) (D := D) (ci := 1) (v := .long (op2.2.1 4)) (C := RX1) (T := TX1) (N := 16) hx hb hts iX1 hown hK.1 hP 1 rfl rfl 4 (by decide) (hts _ fl_RX1_22) (fun _ h => h) rfl dX1_copySums_34 ?_
  obtain ⟨o5, eo5, hf⟩ := lt_some hf
  refine va_put (pc := 37) (D := D) (ci := 1) (v := .long (op2.2.1 4)) (ty := .long) (C := RX1) (T := TX1) (N := 16) hx hb hts iX1 tyX1 tyX1_ok nmX1 hown hK.1 hP hD hS 0 rfl rfl 4 (by decide) (hts _ fl_RX1_22) (fun _ h => h) rfl (tyX1_ok 4 (by decide)) rfl rfl (Nat.le_of_ble_eq_true rfl) dX1_copySums_37 (fun H locs hP hD hS => ?_)
  replace hP : va_P D vwCl (bX1 a o5 ++ bX1 b op2) H := by rw [eo5]; exact hP
  replace hD : va_D A (bX1 a o5 ++ bX1 b op2) := by rw [eo5]; exact hD
  refine lv_aload_n (pc := 40) hx hb dX1_copySums_40 rfl (lv_at hl 0 rfl) ?_
  refine lv_aload_n (pc := 41) hx hb dX1_copySums_41 rfl (lv_at hl 1 rfl) ?_
  refine va_get (pc := 42) (D := D) (ci := 1) (v := .long (op2.2.1 5)) (C := RX1) (T := TX1) (N := 16) hx hb hts iX1 hown hK.1 hP 1 rfl rfl 5 (by decide) (hts _ fl_RX1_25) (fun _ h => h) rfl dX1_copySums_42 ?_
  obtain ⟨o6, eo6, hf⟩ := lt_some hf
  refine va_put (pc := 45) (D := D) (ci := 1) (v := .long (op2.2.1 5)) (ty := .long) (C := RX1) (T := TX1) (N := 16) hx hb hts iX1 tyX1 tyX1_ok nmX1 hown hK.1 hP hD hS 0 rfl rfl 5 (by decide) (hts _ fl_RX1_25) (fun _ h => h) rfl (tyX1_ok 5 (by decide)) rfl rfl (Nat.le_of_ble_eq_true rfl) dX1_copySums_45 (fun H locs hP hD hS => ?_)
  replace hP : va_P D vwCl (bX1 a o6 ++ bX1 b op2) H := by rw [eo6]; exact hP
  replace hD : va_D A (bX1 a o6 ++ bX1 b op2) := by rw [eo6]; exact hD
  obtain rfl := Option.some.inj hf
  exact W.vret hx hb hr (fun t ht hW => ⟨rfl, by rw [ht]; exact hP, hD, hS.F ht⟩) hS.2.2 dX1_copySums_48
def f_X1_brace (op : OS) : Option (Int32 × OS) := lt (sL op 6 (((op.2.1 3) * (op.2.1 5)) - ((op.2.1 4) * (op.2.1 4)))) fun o1 => lt (sL o1 7 (((o1.2.1 4) * (o1.2.1 2)) - ((o1.2.1 1) * (o1.2.1 5)))) fun o2 => lt (sL o2 8 (((o2.2.1 1) * (o2.2.1 4)) - ((o2.2.1 3) * (o2.2.1 2)))) fun o3 => lt (sL o3 9 (((o3.2.1 0) * (o3.2.1 5)) - ((o3.2.1 2) * (o3.2.1 2)))) fun o4 => lt (sL o4 10 (((o4.2.1 1) * (o4.2.1 2)) - ((o4.2.1 0) * (o4.2.1 4)))) fun o5 => lt (sL o5 11 (((o5.2.1 0) * (o5.2.1 3)) - ((o5.2.1 1) * (o5.2.1 1)))) fun o6 => lt (sL o6 12 ((((o6.2.1 0) * (o6.2.1 6)) + ((o6.2.1 1) * (o6.2.1 7))) + ((o6.2.1 2) * (o6.2.1 8)))) fun o7 => if (o7.2.1 12) ≤ 0 then some (0, o7) else some (1, o7)
set_option maxHeartbeats 4000000 in
set_option maxRecDepth 100000 in
theorem c_X1_brace (l : Launch) (D : va_G) (cI cZ cS : ClassId) (a : Nat) (op : OS) (x : (Int32 × OS)) (hf : f_X1_brace op = some x) : Ct l yX1_brace cX1_brace 1 (some .boolean) 0 0 D cI cZ cS [.ref a] (bX1 a op) (some (.int x.1)) (bX1 a x.2) := by
  intro sz
  refine Met.ofW (cc := cX1_brace) (maxL := 1) (ret := (some .boolean)) (by decide +kernel) rfl ?_
  intro p e s m args below meth c s₁ B hml hv
  obtain ⟨rfl, hsz, hP, hK, hD0⟩ := hv
  have hx := B.exec
  have hb := B.bytes
  have hr := B.returns
  have hts0 := atoms_spec (ws := .code yX1_brace cX1_brace 1 (some .boolean) :: TB) B.pre
  have hts := fun w (h : w ∈ TB) => hts0 w (List.mem_cons_of_mem _ h)
  have hown : s.vm.findClass RX1 = some m.cls := findClass_of_methodNamed B.named
  have hlocks := B.notSynchronized
  subst hsz
  have hD := hD0.self (sz := s.heap.size)
  generalize hAe : va_A (bX1 a op) s.heap.size = A at hD ⊢
  have hA : ∀ q : Nat, s.heap.size ≤ q → A q := fun q h => by rw [← hAe]; exact Or.inr h
  have hS : va_S A s.heap s.heap [] := va_S.rf
  obtain ⟨H, hH⟩ : ∃ H, H = s.heap := ⟨_, rfl⟩
  rw [← hH] at hP
  have hS : va_S A s.heap H [] := by rw [hH]; exact hS
  have hl := lv_entry ([.ref a]) (n := 1) (Nat.le_of_ble_eq_true rfl)
  rw [lg_entry_eq]
  generalize (lg_sl ([.ref a]) ++ List.replicate (1 - (lg_sl ([.ref a])).length) Slot.unset).toArray = ls at hl ⊢
  have hl : lv_has ls 1 [(0, .ref a)] := hl
  refine W_heap hH ?_
  obtain ⟨locs, hlo⟩ : ∃ locs : List Loc, locs = [] := ⟨_, rfl⟩
  rw [← hlo] at hS ⊢
  unfold f_X1_brace at hf
  refine lv_aload_n (pc := 0) hx hb dX1_brace_0 rfl (lv_at hl 0 rfl) ?_
  refine lv_aload_n (pc := 1) hx hb dX1_brace_1 rfl (lv_at hl 0 rfl) ?_
  refine va_get (pc := 2) (D := D) (ci := 1) (v := .long (op.2.1 3)) (C := RX1) (T := TX1) (N := 16) hx hb hts iX1 hown hK.1 hP 0 rfl rfl 3 (by decide) (hts _ fl_RX1_19) (fun _ h => h) rfl dX1_brace_2 ?_
  refine lv_aload_n (pc := 5) hx hb dX1_brace_5 rfl (lv_at hl 0 rfl) ?_
  refine va_get (pc := 6) (D := D) (ci := 1) (v := .long (op.2.1 5)) (C := RX1) (T := TX1) (N := 16) hx hb hts iX1 hown hK.1 hP 0 rfl rfl 5 (by decide) (hts _ fl_RX1_25) (fun _ h => h) rfl dX1_brace_6 ?_
  refine lv_lmul (pc := 9) hx hb dX1_brace_9 ?_
  refine lv_aload_n (pc := 10) hx hb dX1_brace_10 rfl (lv_at hl 0 rfl) ?_
  refine va_get (pc := 11) (D := D) (ci := 1) (v := .long (op.2.1 4)) (C := RX1) (T := TX1) (N := 16) hx hb hts iX1 hown hK.1 hP 0 rfl rfl 4 (by decide) (hts _ fl_RX1_22) (fun _ h => h) rfl dX1_brace_11 ?_
  refine lv_aload_n (pc := 14) hx hb dX1_brace_14 rfl (lv_at hl 0 rfl) ?_
  refine va_get (pc := 15) (D := D) (ci := 1) (v := .long (op.2.1 4)) (C := RX1) (T := TX1) (N := 16) hx hb hts iX1 hown hK.1 hP 0 rfl rfl 4 (by decide) (hts _ fl_RX1_22) (fun _ h => h) rfl dX1_brace_15 ?_
  refine lv_lmul (pc := 18) hx hb dX1_brace_18 ?_
  refine lv_lsub (pc := 19) hx hb dX1_brace_19 ?_
  obtain ⟨o1, eo1, hf⟩ := lt_some hf
  refine va_put (pc := 20) (D := D) (ci := 1) (v := .long (((op.2.1 3) * (op.2.1 5)) - ((op.2.1 4) * (op.2.1 4)))) (ty := .long) (C := RX1) (T := TX1) (N := 16) hx hb hts iX1 tyX1 tyX1_ok nmX1 hown hK.1 hP hD hS 0 rfl rfl 6 (by decide) (hts _ fl_RX1_28) (fun _ h => h) rfl (tyX1_ok 6 (by decide)) rfl rfl (Nat.le_of_ble_eq_true rfl) dX1_brace_20 (fun H locs hP hD hS => ?_)
  replace hP : va_P D vwCl (bX1 a o1) H := by rw [eo1]; exact hP
  replace hD : va_D A (bX1 a o1) := by rw [eo1]; exact hD
  refine lv_aload_n (pc := 23) hx hb dX1_brace_23 rfl (lv_at hl 0 rfl) ?_
  refine lv_aload_n (pc := 24) hx hb dX1_brace_24 rfl (lv_at hl 0 rfl) ?_
  refine va_get (pc := 25) (D := D) (ci := 1) (v := .long (o1.2.1 4)) (C := RX1) (T := TX1) (N := 16) hx hb hts iX1 hown hK.1 hP 0 rfl rfl 4 (by decide) (hts _ fl_RX1_22) (fun _ h => h) rfl dX1_brace_25 ?_
  refine lv_aload_n (pc := 28) hx hb dX1_brace_28 rfl (lv_at hl 0 rfl) ?_
  refine va_get (pc := 29) (D := D) (ci := 1) (v := .long (o1.2.1 2)) (C := RX1) (T := TX1) (N := 16) hx hb hts iX1 hown hK.1 hP 0 rfl rfl 2 (by decide) (hts _ fl_RX1_16) (fun _ h => h) rfl dX1_brace_29 ?_
  refine lv_lmul (pc := 32) hx hb dX1_brace_32 ?_
  refine lv_aload_n (pc := 33) hx hb dX1_brace_33 rfl (lv_at hl 0 rfl) ?_
  refine va_get (pc := 34) (D := D) (ci := 1) (v := .long (o1.2.1 1)) (C := RX1) (T := TX1) (N := 16) hx hb hts iX1 hown hK.1 hP 0 rfl rfl 1 (by decide) (hts _ fl_RX1_13) (fun _ h => h) rfl dX1_brace_34 ?_
  refine lv_aload_n (pc := 37) hx hb dX1_brace_37 rfl (lv_at hl 0 rfl) ?_
  refine va_get (pc := 38) (D := D) (ci := 1) (v := .long (o1.2.1 5)) (C := RX1) (T := TX1) (N := 16) hx hb hts iX1 hown hK.1 hP 0 rfl rfl 5 (by decide) (hts _ fl_RX1_25) (fun _ h => h) rfl dX1_brace_38 ?_
  refine lv_lmul (pc := 41) hx hb dX1_brace_41 ?_
  refine lv_lsub (pc := 42) hx hb dX1_brace_42 ?_
  obtain ⟨o2, eo2, hf⟩ := lt_some hf
  refine va_put (pc := 43) (D := D) (ci := 1) (v := .long (((o1.2.1 4) * (o1.2.1 2)) - ((o1.2.1 1) * (o1.2.1 5)))) (ty := .long) (C := RX1) (T := TX1) (N := 16) hx hb hts iX1 tyX1 tyX1_ok nmX1 hown hK.1 hP hD hS 0 rfl rfl 7 (by decide) (hts _ fl_RX1_31) (fun _ h => h) rfl (tyX1_ok 7 (by decide)) rfl rfl (Nat.le_of_ble_eq_true rfl) dX1_brace_43 (fun H locs hP hD hS => ?_)
  replace hP : va_P D vwCl (bX1 a o2) H := by rw [eo2]; exact hP
  replace hD : va_D A (bX1 a o2) := by rw [eo2]; exact hD
  refine lv_aload_n (pc := 46) hx hb dX1_brace_46 rfl (lv_at hl 0 rfl) ?_
  refine lv_aload_n (pc := 47) hx hb dX1_brace_47 rfl (lv_at hl 0 rfl) ?_
  refine va_get (pc := 48) (D := D) (ci := 1) (v := .long (o2.2.1 1)) (C := RX1) (T := TX1) (N := 16) hx hb hts iX1 hown hK.1 hP 0 rfl rfl 1 (by decide) (hts _ fl_RX1_13) (fun _ h => h) rfl dX1_brace_48 ?_
  refine lv_aload_n (pc := 51) hx hb dX1_brace_51 rfl (lv_at hl 0 rfl) ?_
  refine va_get (pc := 52) (D := D) (ci := 1) (v := .long (o2.2.1 4)) (C := RX1) (T := TX1) (N := 16) hx hb hts iX1 hown hK.1 hP 0 rfl rfl 4 (by decide) (hts _ fl_RX1_22) (fun _ h => h) rfl dX1_brace_52 ?_
  refine lv_lmul (pc := 55) hx hb dX1_brace_55 ?_
  refine lv_aload_n (pc := 56) hx hb dX1_brace_56 rfl (lv_at hl 0 rfl) ?_
  refine va_get (pc := 57) (D := D) (ci := 1) (v := .long (o2.2.1 3)) (C := RX1) (T := TX1) (N := 16) hx hb hts iX1 hown hK.1 hP 0 rfl rfl 3 (by decide) (hts _ fl_RX1_19) (fun _ h => h) rfl dX1_brace_57 ?_
  refine lv_aload_n (pc := 60) hx hb dX1_brace_60 rfl (lv_at hl 0 rfl) ?_
  refine va_get (pc := 61) (D := D) (ci := 1) (v := .long (o2.2.1 2)) (C := RX1) (T := TX1) (N := 16) hx hb hts iX1 hown hK.1 hP 0 rfl rfl 2 (by decide) (hts _ fl_RX1_16) (fun _ h => h) rfl dX1_brace_61 ?_
  refine lv_lmul (pc := 64) hx hb dX1_brace_64 ?_
  refine lv_lsub (pc := 65) hx hb dX1_brace_65 ?_
  obtain ⟨o3, eo3, hf⟩ := lt_some hf
  refine va_put (pc := 66) (D := D) (ci := 1) (v := .long (((o2.2.1 1) * (o2.2.1 4)) - ((o2.2.1 3) * (o2.2.1 2)))) (ty := .long) (C := RX1) (T := TX1) (N := 16) hx hb hts iX1 tyX1 tyX1_ok nmX1 hown hK.1 hP hD hS 0 rfl rfl 8 (by decide) (hts _ fl_RX1_34) (fun _ h => h) rfl (tyX1_ok 8 (by decide)) rfl rfl (Nat.le_of_ble_eq_true rfl) dX1_brace_66 (fun H locs hP hD hS => ?_)
  replace hP : va_P D vwCl (bX1 a o3) H := by rw [eo3]; exact hP
  replace hD : va_D A (bX1 a o3) := by rw [eo3]; exact hD
  refine lv_aload_n (pc := 69) hx hb dX1_brace_69 rfl (lv_at hl 0 rfl) ?_
  refine lv_aload_n (pc := 70) hx hb dX1_brace_70 rfl (lv_at hl 0 rfl) ?_
  refine va_get (pc := 71) (D := D) (ci := 1) (v := .long (o3.2.1 0)) (C := RX1) (T := TX1) (N := 16) hx hb hts iX1 hown hK.1 hP 0 rfl rfl 0 (by decide) (hts _ fl_RX1_7) (fun _ h => h) rfl dX1_brace_71 ?_
  refine lv_aload_n (pc := 74) hx hb dX1_brace_74 rfl (lv_at hl 0 rfl) ?_
  refine va_get (pc := 75) (D := D) (ci := 1) (v := .long (o3.2.1 5)) (C := RX1) (T := TX1) (N := 16) hx hb hts iX1 hown hK.1 hP 0 rfl rfl 5 (by decide) (hts _ fl_RX1_25) (fun _ h => h) rfl dX1_brace_75 ?_
  refine lv_lmul (pc := 78) hx hb dX1_brace_78 ?_
  refine lv_aload_n (pc := 79) hx hb dX1_brace_79 rfl (lv_at hl 0 rfl) ?_
  refine va_get (pc := 80) (D := D) (ci := 1) (v := .long (o3.2.1 2)) (C := RX1) (T := TX1) (N := 16) hx hb hts iX1 hown hK.1 hP 0 rfl rfl 2 (by decide) (hts _ fl_RX1_16) (fun _ h => h) rfl dX1_brace_80 ?_
  refine lv_aload_n (pc := 83) hx hb dX1_brace_83 rfl (lv_at hl 0 rfl) ?_
  refine va_get (pc := 84) (D := D) (ci := 1) (v := .long (o3.2.1 2)) (C := RX1) (T := TX1) (N := 16) hx hb hts iX1 hown hK.1 hP 0 rfl rfl 2 (by decide) (hts _ fl_RX1_16) (fun _ h => h) rfl dX1_brace_84 ?_
  refine lv_lmul (pc := 87) hx hb dX1_brace_87 ?_
  refine lv_lsub (pc := 88) hx hb dX1_brace_88 ?_
  obtain ⟨o4, eo4, hf⟩ := lt_some hf
  refine va_put (pc := 89) (D := D) (ci := 1) (v := .long (((o3.2.1 0) * (o3.2.1 5)) - ((o3.2.1 2) * (o3.2.1 2)))) (ty := .long) (C := RX1) (T := TX1) (N := 16) hx hb hts iX1 tyX1 tyX1_ok nmX1 hown hK.1 hP hD hS 0 rfl rfl 9 (by decide) (hts _ fl_RX1_37) (fun _ h => h) rfl (tyX1_ok 9 (by decide)) rfl rfl (Nat.le_of_ble_eq_true rfl) dX1_brace_89 (fun H locs hP hD hS => ?_)
  replace hP : va_P D vwCl (bX1 a o4) H := by rw [eo4]; exact hP
  replace hD : va_D A (bX1 a o4) := by rw [eo4]; exact hD
  refine lv_aload_n (pc := 92) hx hb dX1_brace_92 rfl (lv_at hl 0 rfl) ?_
  refine lv_aload_n (pc := 93) hx hb dX1_brace_93 rfl (lv_at hl 0 rfl) ?_
  refine va_get (pc := 94) (D := D) (ci := 1) (v := .long (o4.2.1 1)) (C := RX1) (T := TX1) (N := 16) hx hb hts iX1 hown hK.1 hP 0 rfl rfl 1 (by decide) (hts _ fl_RX1_13) (fun _ h => h) rfl dX1_brace_94 ?_
  refine lv_aload_n (pc := 97) hx hb dX1_brace_97 rfl (lv_at hl 0 rfl) ?_
  refine va_get (pc := 98) (D := D) (ci := 1) (v := .long (o4.2.1 2)) (C := RX1) (T := TX1) (N := 16) hx hb hts iX1 hown hK.1 hP 0 rfl rfl 2 (by decide) (hts _ fl_RX1_16) (fun _ h => h) rfl dX1_brace_98 ?_
  refine lv_lmul (pc := 101) hx hb dX1_brace_101 ?_
  refine lv_aload_n (pc := 102) hx hb dX1_brace_102 rfl (lv_at hl 0 rfl) ?_
  refine va_get (pc := 103) (D := D) (ci := 1) (v := .long (o4.2.1 0)) (C := RX1) (T := TX1) (N := 16) hx hb hts iX1 hown hK.1 hP 0 rfl rfl 0 (by decide) (hts _ fl_RX1_7) (fun _ h => h) rfl dX1_brace_103 ?_
  refine lv_aload_n (pc := 106) hx hb dX1_brace_106 rfl (lv_at hl 0 rfl) ?_
  refine va_get (pc := 107) (D := D) (ci := 1) (v := .long (o4.2.1 4)) (C := RX1) (T := TX1) (N := 16) hx hb hts iX1 hown hK.1 hP 0 rfl rfl 4 (by decide) (hts _ fl_RX1_22) (fun _ h => h) rfl dX1_brace_107 ?_
  refine lv_lmul (pc := 110) hx hb dX1_brace_110 ?_
  refine lv_lsub (pc := 111) hx hb dX1_brace_111 ?_
  obtain ⟨o5, eo5, hf⟩ := lt_some hf
  refine va_put (pc := 112) (D := D) (ci := 1) (v := .long (((o4.2.1 1) * (o4.2.1 2)) - ((o4.2.1 0) * (o4.2.1 4)))) (ty := .long) (C := RX1) (T := TX1) (N := 16) hx hb hts iX1 tyX1 tyX1_ok nmX1 hown hK.1 hP hD hS 0 rfl rfl 10 (by decide) (hts _ fl_RX1_40) (fun _ h => h) rfl (tyX1_ok 10 (by decide)) rfl rfl (Nat.le_of_ble_eq_true rfl) dX1_brace_112 (fun H locs hP hD hS => ?_)
  replace hP : va_P D vwCl (bX1 a o5) H := by rw [eo5]; exact hP
  replace hD : va_D A (bX1 a o5) := by rw [eo5]; exact hD
  refine lv_aload_n (pc := 115) hx hb dX1_brace_115 rfl (lv_at hl 0 rfl) ?_
  refine lv_aload_n (pc := 116) hx hb dX1_brace_116 rfl (lv_at hl 0 rfl) ?_
  refine va_get (pc := 117) (D := D) (ci := 1) (v := .long (o5.2.1 0)) (C := RX1) (T := TX1) (N := 16) hx hb hts iX1 hown hK.1 hP 0 rfl rfl 0 (by decide) (hts _ fl_RX1_7) (fun _ h => h) rfl dX1_brace_117 ?_
  refine lv_aload_n (pc := 120) hx hb dX1_brace_120 rfl (lv_at hl 0 rfl) ?_
  refine va_get (pc := 121) (D := D) (ci := 1) (v := .long (o5.2.1 3)) (C := RX1) (T := TX1) (N := 16) hx hb hts iX1 hown hK.1 hP 0 rfl rfl 3 (by decide) (hts _ fl_RX1_19) (fun _ h => h) rfl dX1_brace_121 ?_
  refine lv_lmul (pc := 124) hx hb dX1_brace_124 ?_
  refine lv_aload_n (pc := 125) hx hb dX1_brace_125 rfl (lv_at hl 0 rfl) ?_
  refine va_get (pc := 126) (D := D) (ci := 1) (v := .long (o5.2.1 1)) (C := RX1) (T := TX1) (N := 16) hx hb hts iX1 hown hK.1 hP 0 rfl rfl 1 (by decide) (hts _ fl_RX1_13) (fun _ h => h) rfl dX1_brace_126 ?_
  refine lv_aload_n (pc := 129) hx hb dX1_brace_129 rfl (lv_at hl 0 rfl) ?_
  refine va_get (pc := 130) (D := D) (ci := 1) (v := .long (o5.2.1 1)) (C := RX1) (T := TX1) (N := 16) hx hb hts iX1 hown hK.1 hP 0 rfl rfl 1 (by decide) (hts _ fl_RX1_13) (fun _ h => h) rfl dX1_brace_130 ?_
  refine lv_lmul (pc := 133) hx hb dX1_brace_133 ?_
  refine lv_lsub (pc := 134) hx hb dX1_brace_134 ?_
  obtain ⟨o6, eo6, hf⟩ := lt_some hf
  refine va_put (pc := 135) (D := D) (ci := 1) (v := .long (((o5.2.1 0) * (o5.2.1 3)) - ((o5.2.1 1) * (o5.2.1 1)))) (ty := .long) (C := RX1) (T := TX1) (N := 16) hx hb hts iX1 tyX1 tyX1_ok nmX1 hown hK.1 hP hD hS 0 rfl rfl 11 (by decide) (hts _ fl_RX1_43) (fun _ h => h) rfl (tyX1_ok 11 (by decide)) rfl rfl (Nat.le_of_ble_eq_true rfl) dX1_brace_135 (fun H locs hP hD hS => ?_)
  replace hP : va_P D vwCl (bX1 a o6) H := by rw [eo6]; exact hP
  replace hD : va_D A (bX1 a o6) := by rw [eo6]; exact hD
  refine lv_aload_n (pc := 138) hx hb dX1_brace_138 rfl (lv_at hl 0 rfl) ?_
  refine lv_aload_n (pc := 139) hx hb dX1_brace_139 rfl (lv_at hl 0 rfl) ?_
  refine va_get (pc := 140) (D := D) (ci := 1) (v := .long (o6.2.1 0)) (C := RX1) (T := TX1) (N := 16) hx hb hts iX1 hown hK.1 hP 0 rfl rfl 0 (by decide) (hts _ fl_RX1_7) (fun _ h => h) rfl dX1_brace_140 ?_
  refine lv_aload_n (pc := 143) hx hb dX1_brace_143 rfl (lv_at hl 0 rfl) ?_
  refine va_get (pc := 144) (D := D) (ci := 1) (v := .long (o6.2.1 6)) (C := RX1) (T := TX1) (N := 16) hx hb hts iX1 hown hK.1 hP 0 rfl rfl 6 (by decide) (hts _ fl_RX1_28) (fun _ h => h) rfl dX1_brace_144 ?_
  refine lv_lmul (pc := 147) hx hb dX1_brace_147 ?_
  refine lv_aload_n (pc := 148) hx hb dX1_brace_148 rfl (lv_at hl 0 rfl) ?_
  refine va_get (pc := 149) (D := D) (ci := 1) (v := .long (o6.2.1 1)) (C := RX1) (T := TX1) (N := 16) hx hb hts iX1 hown hK.1 hP 0 rfl rfl 1 (by decide) (hts _ fl_RX1_13) (fun _ h => h) rfl dX1_brace_149 ?_
  refine lv_aload_n (pc := 152) hx hb dX1_brace_152 rfl (lv_at hl 0 rfl) ?_
  refine va_get (pc := 153) (D := D) (ci := 1) (v := .long (o6.2.1 7)) (C := RX1) (T := TX1) (N := 16) hx hb hts iX1 hown hK.1 hP 0 rfl rfl 7 (by decide) (hts _ fl_RX1_31) (fun _ h => h) rfl dX1_brace_153 ?_
  refine lv_lmul (pc := 156) hx hb dX1_brace_156 ?_
  refine lv_ladd (pc := 157) hx hb dX1_brace_157 ?_
  refine lv_aload_n (pc := 158) hx hb dX1_brace_158 rfl (lv_at hl 0 rfl) ?_
  refine va_get (pc := 159) (D := D) (ci := 1) (v := .long (o6.2.1 2)) (C := RX1) (T := TX1) (N := 16) hx hb hts iX1 hown hK.1 hP 0 rfl rfl 2 (by decide) (hts _ fl_RX1_16) (fun _ h => h) rfl dX1_brace_159 ?_
  refine lv_aload_n (pc := 162) hx hb dX1_brace_162 rfl (lv_at hl 0 rfl) ?_
  refine va_get (pc := 163) (D := D) (ci := 1) (v := .long (o6.2.1 8)) (C := RX1) (T := TX1) (N := 16) hx hb hts iX1 hown hK.1 hP 0 rfl rfl 8 (by decide) (hts _ fl_RX1_34) (fun _ h => h) rfl dX1_brace_163 ?_
  refine lv_lmul (pc := 166) hx hb dX1_brace_166 ?_
  refine lv_ladd (pc := 167) hx hb dX1_brace_167 ?_
  obtain ⟨o7, eo7, hf⟩ := lt_some hf
  refine va_put (pc := 168) (D := D) (ci := 1) (v := .long ((((o6.2.1 0) * (o6.2.1 6)) + ((o6.2.1 1) * (o6.2.1 7))) + ((o6.2.1 2) * (o6.2.1 8)))) (ty := .long) (C := RX1) (T := TX1) (N := 16) hx hb hts iX1 tyX1 tyX1_ok nmX1 hown hK.1 hP hD hS 0 rfl rfl 12 (by decide) (hts _ fl_RX1_46) (fun _ h => h) rfl (tyX1_ok 12 (by decide)) rfl rfl (Nat.le_of_ble_eq_true rfl) dX1_brace_168 (fun H locs hP hD hS => ?_)
  replace hP : va_P D vwCl (bX1 a o7) H := by rw [eo7]; exact hP
  replace hD : va_D A (bX1 a o7) := by rw [eo7]; exact hD
  refine lv_aload_n (pc := 171) hx hb dX1_brace_171 rfl (lv_at hl 0 rfl) ?_
  refine va_get (pc := 172) (D := D) (ci := 1) (v := .long (o7.2.1 12)) (C := RX1) (T := TX1) (N := 16) hx hb hts iX1 hown hK.1 hP 0 rfl rfl 12 (by decide) (hts _ fl_RX1_46) (fun _ h => h) rfl dX1_brace_172 ?_
  refine lv_lconst (v := 0) (pc := 175) hx hb dX1_brace_175 (by decide) ?_
  refine W.lcmp (pc := 176) hx hb dX1_brace_176 ?_
  refine lv_if_le (pc := 177) (tgt := 184) hx hb dX1_brace_177 (by decide) (fun c8 => ?_) (fun c8 => ?_)
  · replace c8 := (lg_cmp_le _ _).mp c8
    replace hf := ip c8 hf
    refine lv_iconst (v := 0) (pc := 184) hx hb dX1_brace_184 (by decide) ?_
    obtain rfl := Option.some.inj hf
    exact W.zret hx hb hr rfl (fun t ht hW => ⟨rfl, by rw [ht]; exact hP, hD, hS.F ht⟩) hS.2.2 dX1_brace_185
  · replace c8 := fun q => c8 ((lg_cmp_le _ _).mpr q)
    replace hf := im c8 hf
    refine lv_iconst (v := 1) (pc := 180) hx hb dX1_brace_180 (by decide) ?_
    refine lv_goto (pc := 181) (tgt := 185) hx hb dX1_brace_181 (by decide) ?_
    obtain rfl := Option.some.inj hf
    exact W.zret hx hb hr rfl (fun t ht hW => ⟨rfl, by rw [ht]; exact hP, hD, hS.F ht⟩) hS.2.2 dX1_brace_185
def f_X1_tilt (i0 : Int64) (i1 : Int64) (i2 : Int64) (op : OS) : Option OS := lt (sL op 13 ((((op.2.1 6) * i0) + ((op.2.1 7) * i1)) + ((op.2.1 8) * i2))) fun o1 => lt (sL o1 14 ((((o1.2.1 7) * i0) + ((o1.2.1 9) * i1)) + ((o1.2.1 10) * i2))) fun o2 => lt (sL o2 15 ((((o2.2.1 8) * i0) + ((o2.2.1 10) * i1)) + ((o2.2.1 11) * i2))) fun o3 => some o3
set_option maxHeartbeats 4000000 in
set_option maxRecDepth 100000 in
theorem c_X1_tilt (l : Launch) (D : va_G) (cI cZ cS : ClassId) (a : Nat) (i0 : Int64) (i1 : Int64) (i2 : Int64) (op : OS) (x : OS) (hf : f_X1_tilt i0 i1 i2 op = some x) : Ct l yX1_tilt cX1_tilt 7 none 0 0 D cI cZ cS [.ref a, .long i0, .long i1, .long i2] (bX1 a op) none (bX1 a x) := by
  intro sz
  refine Met.ofW (cc := cX1_tilt) (maxL := 7) (ret := none) (by decide +kernel) rfl ?_
  intro p e s m args below meth c s₁ B hml hv
  obtain ⟨rfl, hsz, hP, hK, hD0⟩ := hv
  have hx := B.exec
  have hb := B.bytes
  have hr := B.returns
  have hts0 := atoms_spec (ws := .code yX1_tilt cX1_tilt 7 none :: TB) B.pre
  have hts := fun w (h : w ∈ TB) => hts0 w (List.mem_cons_of_mem _ h)
  have hown : s.vm.findClass RX1 = some m.cls := findClass_of_methodNamed B.named
  have hlocks := B.notSynchronized
  subst hsz
  have hD := hD0.self (sz := s.heap.size)
  generalize hAe : va_A (bX1 a op) s.heap.size = A at hD ⊢
  have hA : ∀ q : Nat, s.heap.size ≤ q → A q := fun q h => by rw [← hAe]; exact Or.inr h
  have hS : va_S A s.heap s.heap [] := va_S.rf
  obtain ⟨H, hH⟩ : ∃ H, H = s.heap := ⟨_, rfl⟩
  rw [← hH] at hP
  have hS : va_S A s.heap H [] := by rw [hH]; exact hS
  have hl := lv_entry ([.ref a, .long i0, .long i1, .long i2]) (n := 7) (Nat.le_of_ble_eq_true rfl)
  rw [lg_entry_eq]
  generalize (lg_sl ([.ref a, .long i0, .long i1, .long i2]) ++ List.replicate (7 - (lg_sl ([.ref a, .long i0, .long i1, .long i2])).length) Slot.unset).toArray = ls at hl ⊢
  have hl : lv_has ls 7 [(0, .ref a), (1, .long i0), (3, .long i1), (5, .long i2)] := hl
  refine W_heap hH ?_
  obtain ⟨locs, hlo⟩ : ∃ locs : List Loc, locs = [] := ⟨_, rfl⟩
  rw [← hlo] at hS ⊢
  unfold f_X1_tilt at hf
  refine lv_aload_n (pc := 0) hx hb dX1_tilt_0 rfl (lv_at hl 0 rfl) ?_
  refine lv_aload_n (pc := 1) hx hb dX1_tilt_1 rfl (lv_at hl 0 rfl) ?_
  refine va_get (pc := 2) (D := D) (ci := 1) (v := .long (op.2.1 6)) (C := RX1) (T := TX1) (N := 16) hx hb hts iX1 hown hK.1 hP 0 rfl rfl 6 (by decide) (hts _ fl_RX1_28) (fun _ h => h) rfl dX1_tilt_2 ?_
  refine lv_lload_n (pc := 5) hx hb dX1_tilt_5 rfl (lv_at hl 1 rfl) ?_
  refine lv_lmul (pc := 6) hx hb dX1_tilt_6 ?_
  refine lv_aload_n (pc := 7) hx hb dX1_tilt_7 rfl (lv_at hl 0 rfl) ?_
  refine va_get (pc := 8) (D := D) (ci := 1) (v := .long (op.2.1 7)) (C := RX1) (T := TX1) (N := 16) hx hb hts iX1 hown hK.1 hP 0 rfl rfl 7 (by decide) (hts _ fl_RX1_31) (fun _ h => h) rfl dX1_tilt_8 ?_
  refine lv_lload_n (pc := 11) hx hb dX1_tilt_11 rfl (lv_at hl 2 rfl) ?_
  refine lv_lmul (pc := 12) hx hb dX1_tilt_12 ?_
  refine lv_ladd (pc := 13) hx hb dX1_tilt_13 ?_
  refine lv_aload_n (pc := 14) hx hb dX1_tilt_14 rfl (lv_at hl 0 rfl) ?_
  refine va_get (pc := 15) (D := D) (ci := 1) (v := .long (op.2.1 8)) (C := RX1) (T := TX1) (N := 16) hx hb hts iX1 hown hK.1 hP 0 rfl rfl 8 (by decide) (hts _ fl_RX1_34) (fun _ h => h) rfl dX1_tilt_15 ?_
  refine lv_lload (pc := 18) hx hb dX1_tilt_18 (lv_at hl 3 rfl) ?_
  refine lv_lmul (pc := 20) hx hb dX1_tilt_20 ?_
  refine lv_ladd (pc := 21) hx hb dX1_tilt_21 ?_
  obtain ⟨o1, eo1, hf⟩ := lt_some hf
  refine va_put (pc := 22) (D := D) (ci := 1) (v := .long ((((op.2.1 6) * i0) + ((op.2.1 7) * i1)) + ((op.2.1 8) * i2))) (ty := .long) (C := RX1) (T := TX1) (N := 16) hx hb hts iX1 tyX1 tyX1_ok nmX1 hown hK.1 hP hD hS 0 rfl rfl 13 (by decide) (hts _ fl_RX1_49) (fun _ h => h) rfl (tyX1_ok 13 (by decide)) rfl rfl (Nat.le_of_ble_eq_true rfl) dX1_tilt_22 (fun H locs hP hD hS => ?_)
  replace hP : va_P D vwCl (bX1 a o1) H := by rw [eo1]; exact hP
  replace hD : va_D A (bX1 a o1) := by rw [eo1]; exact hD
  refine lv_aload_n (pc := 25) hx hb dX1_tilt_25 rfl (lv_at hl 0 rfl) ?_
  refine lv_aload_n (pc := 26) hx hb dX1_tilt_26 rfl (lv_at hl 0 rfl) ?_
  refine va_get (pc := 27) (D := D) (ci := 1) (v := .long (o1.2.1 7)) (C := RX1) (T := TX1) (N := 16) hx hb hts iX1 hown hK.1 hP 0 rfl rfl 7 (by decide) (hts _ fl_RX1_31) (fun _ h => h) rfl dX1_tilt_27 ?_
  refine lv_lload_n (pc := 30) hx hb dX1_tilt_30 rfl (lv_at hl 1 rfl) ?_
  refine lv_lmul (pc := 31) hx hb dX1_tilt_31 ?_
  refine lv_aload_n (pc := 32) hx hb dX1_tilt_32 rfl (lv_at hl 0 rfl) ?_
  refine va_get (pc := 33) (D := D) (ci := 1) (v := .long (o1.2.1 9)) (C := RX1) (T := TX1) (N := 16) hx hb hts iX1 hown hK.1 hP 0 rfl rfl 9 (by decide) (hts _ fl_RX1_37) (fun _ h => h) rfl dX1_tilt_33 ?_
  refine lv_lload_n (pc := 36) hx hb dX1_tilt_36 rfl (lv_at hl 2 rfl) ?_
  refine lv_lmul (pc := 37) hx hb dX1_tilt_37 ?_
  refine lv_ladd (pc := 38) hx hb dX1_tilt_38 ?_
  refine lv_aload_n (pc := 39) hx hb dX1_tilt_39 rfl (lv_at hl 0 rfl) ?_
  refine va_get (pc := 40) (D := D) (ci := 1) (v := .long (o1.2.1 10)) (C := RX1) (T := TX1) (N := 16) hx hb hts iX1 hown hK.1 hP 0 rfl rfl 10 (by decide) (hts _ fl_RX1_40) (fun _ h => h) rfl dX1_tilt_40 ?_
  refine lv_lload (pc := 43) hx hb dX1_tilt_43 (lv_at hl 3 rfl) ?_
  refine lv_lmul (pc := 45) hx hb dX1_tilt_45 ?_
  refine lv_ladd (pc := 46) hx hb dX1_tilt_46 ?_
  obtain ⟨o2, eo2, hf⟩ := lt_some hf
  refine va_put (pc := 47) (D := D) (ci := 1) (v := .long ((((o1.2.1 7) * i0) + ((o1.2.1 9) * i1)) + ((o1.2.1 10) * i2))) (ty := .long) (C := RX1) (T := TX1) (N := 16) hx hb hts iX1 tyX1 tyX1_ok nmX1 hown hK.1 hP hD hS 0 rfl rfl 14 (by decide) (hts _ fl_RX1_52) (fun _ h => h) rfl (tyX1_ok 14 (by decide)) rfl rfl (Nat.le_of_ble_eq_true rfl) dX1_tilt_47 (fun H locs hP hD hS => ?_)
  replace hP : va_P D vwCl (bX1 a o2) H := by rw [eo2]; exact hP
  replace hD : va_D A (bX1 a o2) := by rw [eo2]; exact hD
  refine lv_aload_n (pc := 50) hx hb dX1_tilt_50 rfl (lv_at hl 0 rfl) ?_
  refine lv_aload_n (pc := 51) hx hb dX1_tilt_51 rfl (lv_at hl 0 rfl) ?_
  refine va_get (pc := 52) (D := D) (ci := 1) (v := .long (o2.2.1 8)) (C := RX1) (T := TX1) (N := 16) hx hb hts iX1 hown hK.1 hP 0 rfl rfl 8 (by decide) (hts _ fl_RX1_34) (fun _ h => h) rfl dX1_tilt_52 ?_
  refine lv_lload_n (pc := 55) hx hb dX1_tilt_55 rfl (lv_at hl 1 rfl) ?_
  refine lv_lmul (pc := 56) hx hb dX1_tilt_56 ?_
  refine lv_aload_n (pc := 57) hx hb dX1_tilt_57 rfl (lv_at hl 0 rfl) ?_
  refine va_get (pc := 58) (D := D) (ci := 1) (v := .long (o2.2.1 10)) (C := RX1) (T := TX1) (N := 16) hx hb hts iX1 hown hK.1 hP 0 rfl rfl 10 (by decide) (hts _ fl_RX1_40) (fun _ h => h) rfl dX1_tilt_58 ?_
  refine lv_lload_n (pc := 61) hx hb dX1_tilt_61 rfl (lv_at hl 2 rfl) ?_
  refine lv_lmul (pc := 62) hx hb dX1_tilt_62 ?_
  refine lv_ladd (pc := 63) hx hb dX1_tilt_63 ?_
  refine lv_aload_n (pc := 64) hx hb dX1_tilt_64 rfl (lv_at hl 0 rfl) ?_
  refine va_get (pc := 65) (D := D) (ci := 1) (v := .long (o2.2.1 11)) (C := RX1) (T := TX1) (N := 16) hx hb hts iX1 hown hK.1 hP 0 rfl rfl 11 (by decide) (hts _ fl_RX1_43) (fun _ h => h) rfl dX1_tilt_65 ?_
  refine lv_lload (pc := 68) hx hb dX1_tilt_68 (lv_at hl 3 rfl) ?_
  refine lv_lmul (pc := 70) hx hb dX1_tilt_70 ?_
  refine lv_ladd (pc := 71) hx hb dX1_tilt_71 ?_
  obtain ⟨o3, eo3, hf⟩ := lt_some hf
  refine va_put (pc := 72) (D := D) (ci := 1) (v := .long ((((o2.2.1 8) * i0) + ((o2.2.1 10) * i1)) + ((o2.2.1 11) * i2))) (ty := .long) (C := RX1) (T := TX1) (N := 16) hx hb hts iX1 tyX1 tyX1_ok nmX1 hown hK.1 hP hD hS 0 rfl rfl 15 (by decide) (hts _ fl_RX1_55) (fun _ h => h) rfl (tyX1_ok 15 (by decide)) rfl rfl (Nat.le_of_ble_eq_true rfl) dX1_tilt_72 (fun H locs hP hD hS => ?_)
  replace hP : va_P D vwCl (bX1 a o3) H := by rw [eo3]; exact hP
  replace hD : va_D A (bX1 a o3) := by rw [eo3]; exact hD
  obtain rfl := Option.some.inj hf
  exact W.vret hx hb hr (fun t ht hW => ⟨rfl, by rw [ht]; exact hP, hD, hS.F ht⟩) hS.2.2 dX1_tilt_75
def f_X1_topAt (i0 : Int32) (i1 : Int32) (op : OS) : Option Int64 := some (((op.2.1 13) + ((op.2.1 14) * i0.toInt64)) + ((op.2.1 15) * i1.toInt64))
set_option maxHeartbeats 4000000 in
set_option maxRecDepth 100000 in
theorem c_X1_topAt (l : Launch) (D : va_G) (cI cZ cS : ClassId) (a : Nat) (i0 : Int32) (i1 : Int32) (op : OS) (x : Int64) (hf : f_X1_topAt i0 i1 op = some x) : Ct l yX1_topAt cX1_topAt 3 (some .long) 0 0 D cI cZ cS [.ref a, .int i0, .int i1] (bX1 a op) (some (.long x)) (bX1 a op) := by
  intro sz
  refine Met.ofW (cc := cX1_topAt) (maxL := 3) (ret := (some .long)) (by decide +kernel) rfl ?_
  intro p e s m args below meth c s₁ B hml hv
  obtain ⟨rfl, hsz, hP, hK, hD0⟩ := hv
  have hx := B.exec
  have hb := B.bytes
  have hr := B.returns
  have hts0 := atoms_spec (ws := .code yX1_topAt cX1_topAt 3 (some .long) :: TB) B.pre
  have hts := fun w (h : w ∈ TB) => hts0 w (List.mem_cons_of_mem _ h)
  have hown : s.vm.findClass RX1 = some m.cls := findClass_of_methodNamed B.named
  have hlocks := B.notSynchronized
  subst hsz
  have hD := hD0.self (sz := s.heap.size)
  generalize hAe : va_A (bX1 a op) s.heap.size = A at hD ⊢
  have hA : ∀ q : Nat, s.heap.size ≤ q → A q := fun q h => by rw [← hAe]; exact Or.inr h
  have hS : va_S A s.heap s.heap [] := va_S.rf
  obtain ⟨H, hH⟩ : ∃ H, H = s.heap := ⟨_, rfl⟩
  rw [← hH] at hP
  have hS : va_S A s.heap H [] := by rw [hH]; exact hS
  have hl := lv_entry ([.ref a, .int i0, .int i1]) (n := 3) (Nat.le_of_ble_eq_true rfl)
  rw [lg_entry_eq]
  generalize (lg_sl ([.ref a, .int i0, .int i1]) ++ List.replicate (3 - (lg_sl ([.ref a, .int i0, .int i1])).length) Slot.unset).toArray = ls at hl ⊢
  have hl : lv_has ls 3 [(0, .ref a), (1, .int i0), (2, .int i1)] := hl
  refine W_heap hH ?_
  obtain ⟨locs, hlo⟩ : ∃ locs : List Loc, locs = [] := ⟨_, rfl⟩
  rw [← hlo] at hS ⊢
  unfold f_X1_topAt at hf
  refine lv_aload_n (pc := 0) hx hb dX1_topAt_0 rfl (lv_at hl 0 rfl) ?_
  refine va_get (pc := 1) (D := D) (ci := 1) (v := .long (op.2.1 13)) (C := RX1) (T := TX1) (N := 16) hx hb hts iX1 hown hK.1 hP 0 rfl rfl 13 (by decide) (hts _ fl_RX1_49) (fun _ h => h) rfl dX1_topAt_1 ?_
  refine lv_aload_n (pc := 4) hx hb dX1_topAt_4 rfl (lv_at hl 0 rfl) ?_
  refine va_get (pc := 5) (D := D) (ci := 1) (v := .long (op.2.1 14)) (C := RX1) (T := TX1) (N := 16) hx hb hts iX1 hown hK.1 hP 0 rfl rfl 14 (by decide) (hts _ fl_RX1_52) (fun _ h => h) rfl dX1_topAt_5 ?_
  refine lv_iload_n (pc := 8) hx hb dX1_topAt_8 rfl (lv_at hl 1 rfl) ?_
  refine lv_i2l (pc := 9) hx hb dX1_topAt_9 rfl ?_
  refine lv_lmul (pc := 10) hx hb dX1_topAt_10 ?_
  refine lv_ladd (pc := 11) hx hb dX1_topAt_11 ?_
  refine lv_aload_n (pc := 12) hx hb dX1_topAt_12 rfl (lv_at hl 0 rfl) ?_
  refine va_get (pc := 13) (D := D) (ci := 1) (v := .long (op.2.1 15)) (C := RX1) (T := TX1) (N := 16) hx hb hts iX1 hown hK.1 hP 0 rfl rfl 15 (by decide) (hts _ fl_RX1_55) (fun _ h => h) rfl dX1_topAt_13 ?_
  refine lv_iload_n (pc := 16) hx hb dX1_topAt_16 rfl (lv_at hl 2 rfl) ?_
  refine lv_i2l (pc := 17) hx hb dX1_topAt_17 rfl ?_
  refine lv_lmul (pc := 18) hx hb dX1_topAt_18 ?_
  refine lv_ladd (pc := 19) hx hb dX1_topAt_19 ?_
  obtain rfl := Option.some.inj hf
  exact W.lret hx hb hr (fun t ht hW => ⟨rfl, by rw [ht]; exact hP, hD, hS.F ht⟩) hS.2.2 dX1_topAt_20
def lp_X0_mostPulled_7 (u_D : OS) (u_DP : OS) : Nat → Int32 → Int64 → Int32 → Option (Int32 × Int64 × Int32)
  | 0, _, _, _ => none
  | n + 1, v1, v2, v4 => if (u_D.1 4) ≤ v4 then some (v1, v2, v4) else if (((u_D.1 9) >>> (v4 &&& 31)) &&& 1) = 1 then ck v4 9 (ck v4 9 (ck v4 9 (Option.bind (f_X1_topAt (u_D.2.2 0 (v4 : Int32).toNatClampNeg) (u_D.2.2 1 (v4 : Int32).toNatClampNeg) u_DP) fun x9 => lt ((((u_D.2.2 2 (v4 : Int32).toNatClampNeg) : Int32).toInt64) * x9) fun y10 => if v2 ≤ y10 then lp_X0_mostPulled_7 u_D u_DP n v1 v2 (v4 + 1) else lp_X0_mostPulled_7 u_D u_DP n v4 y10 (v4 + 1)))) else lp_X0_mostPulled_7 u_D u_DP n v1 v2 (v4 + 1)
def f_X0_mostPulled (od : OS) (odp : OS) : Option Int32 := Option.bind (lp_X0_mostPulled_7 od odp 1000 (-1) 0 0) fun z1 => some z1.1
set_option maxHeartbeats 4000000 in
set_option maxRecDepth 100000 in
theorem c_X0_mostPulled (l : Launch) (D : va_G) (cI cZ cS : ClassId) (a : Nat) (q : Nat → Nat) (od : OS) (odp : OS) (x : Int32) (hf : f_X0_mostPulled od odp = some x) : Ct l yX0_mostPulled cX0_mostPulled 7 (some .int) 1 22 D cI cZ cS [.ref a] (bX0 cI a q od ++ bX1 (q 14) odp) (some (.int x)) (bX0 cI a q od ++ bX1 (q 14) odp) := by
  intro sz
  refine Met.ofW (cc := cX0_mostPulled) (maxL := 7) (ret := (some .int)) (by decide +kernel) rfl ?_
  intro p e s m args below meth c s₁ B hml hv
  obtain ⟨rfl, hsz, hP, hK, hD0⟩ := hv
  have hx := B.exec
  have hb := B.bytes
  have hr := B.returns
  have hts0 := atoms_spec (ws := .code yX0_mostPulled cX0_mostPulled 7 (some .int) :: TB) B.pre
  have hts := fun w (h : w ∈ TB) => hts0 w (List.mem_cons_of_mem _ h)
  have hown : s.vm.findClass RX0 = some m.cls := findClass_of_methodNamed B.named
  have hlocks := B.notSynchronized
  subst hsz
  have hD := hD0.self (sz := s.heap.size)
  generalize hAe : va_A (bX0 cI a q od ++ bX1 (q 14) odp) s.heap.size = A at hD ⊢
  have hA : ∀ q : Nat, s.heap.size ≤ q → A q := fun q h => by rw [← hAe]; exact Or.inr h
  have hS : va_S A s.heap s.heap [] := va_S.rf
  obtain ⟨H, hH⟩ : ∃ H, H = s.heap := ⟨_, rfl⟩
  rw [← hH] at hP
  have hS : va_S A s.heap H [] := by rw [hH]; exact hS
  have hl := lv_entry ([.ref a]) (n := 7) (Nat.le_of_ble_eq_true rfl)
  rw [lg_entry_eq]
  generalize (lg_sl ([.ref a]) ++ List.replicate (7 - (lg_sl ([.ref a])).length) Slot.unset).toArray = ls at hl ⊢
  have hl : lv_has ls 7 [(0, .ref a)] := hl
  refine W_heap hH ?_
  obtain ⟨locs, hlo⟩ : ∃ locs : List Loc, locs = [] := ⟨_, rfl⟩
  rw [← hlo] at hS ⊢
  unfold f_X0_mostPulled at hf
  refine lv_iconst (v := -1) (pc := 0) hx hb dX0_mostPulled_0 (by decide) ?_
  refine lv_istore_n (lv' := [(1, .int (-1)), (0, .ref a)]) (pc := 1) hx hb dX0_mostPulled_1 rfl hl (by decide) rfl (fun ls hl => ?_)
  refine lv_lconst (v := 0) (pc := 2) hx hb dX0_mostPulled_2 (by decide) ?_
  refine lv_lstore_n (lv' := [(2, .long 0), (1, .int (-1)), (0, .ref a)]) (pc := 3) hx hb dX0_mostPulled_3 rfl hl (by decide) rfl (fun ls hl => ?_)
  refine lv_iconst (v := 0) (pc := 4) hx hb dX0_mostPulled_4 (by decide) ?_
  refine lv_istore (lv' := [(4, .int 0), (2, .long 0), (1, .int (-1)), (0, .ref a)]) (pc := 5) hx hb dX0_mostPulled_5 hl (by decide) rfl (fun ls hl => ?_)
  obtain ⟨z1, hz1, hf⟩ := bd_some hf
  have hfz1 := hf
  clear hf
  have K2 : ∀ (H : Heap) (locs : List Loc) (ls : Array Slot), va_P D vwCl (bX0 cI a q od ++ bX1 (q 14) odp) H → va_D A (bX0 cI a q od ++ bX1 (q 14) odp) → va_S A s.heap H locs → lv_has ls 7 [(0, .ref a), (1, .int z1.1), (2, .long z1.2.1), (4, .int z1.2.2)] → GW l yX0_mostPulled cX0_mostPulled 7 (some .int) 1 22 D [.ref a] (some (.int x)) (bX0 cI a q od ++ bX1 (q 14) odp) A p e s m below meth c H locs (F0 m 80 ls []) := by
    intro H locs ls hP hD hS hl
    have hf := hfz1
    refine lv_iload_n (pc := 80) hx hb dX0_mostPulled_80 rfl (lv_at hl 1 rfl) ?_
    obtain rfl := Option.some.inj hf
    exact W.iret hx hb hr (fun t ht hW => ⟨rfl, by rw [ht]; exact hP, hD, hS.F ht⟩) hS.2.2 dX0_mostPulled_81
  have KL3 : ∀ (n : Nat) (v1 : Int32) (v2 : Int64) (v4 : Int32) (H : Heap) (locs : List Loc) (ls : Array Slot), lp_X0_mostPulled_7 od odp n v1 v2 v4 = some z1 → va_P D vwCl (bX0 cI a q od ++ bX1 (q 14) odp) H → va_D A (bX0 cI a q od ++ bX1 (q 14) odp) → va_S A s.heap H locs → lv_has ls 7 [(0, .ref a), (1, .int v1), (2, .long v2), (4, .int v4)] → GW l yX0_mostPulled cX0_mostPulled 7 (some .int) 1 22 D [.ref a] (some (.int x)) (bX0 cI a q od ++ bX1 (q 14) odp) A p e s m below meth c H locs (F0 m 7 ls []) := by
    intro n
    induction n with
    | zero => intro v1 v2 v4 H locs ls hf; cases hf
    | succ n ih =>
      intro v1 v2 v4 H locs ls hf hP hD hS hl
      rw [lp_X0_mostPulled_7] at hf
      refine lv_iload (pc := 7) hx hb dX0_mostPulled_7 (lv_at hl 3 rfl) ?_
      refine lv_aload_n (pc := 9) hx hb dX0_mostPulled_9 rfl (lv_at hl 0 rfl) ?_
      refine va_get (pc := 10) (D := D) (ci := 0) (v := .int (od.1 4)) (C := RX0) (T := TX0) (N := 15) hx hb hts iX0 hown hK.1 hP 0 rfl rfl 4 (by decide) (hts _ fl_RX0_50) (fun _ h => h) rfl dX0_mostPulled_10 ?_
      refine lv_icmp_ge (pc := 13) (tgt := 80) hx hb dX0_mostPulled_13 (by decide) (fun c4 => ?_) (fun c4 => ?_)
      · replace hf := ip c4 hf
        obtain rfl := Option.some.inj hf
        exact K2 H locs ls hP hD hS (lv_sub hl [0, 1, 2, 3] rfl)
      · replace hf := im c4 hf
        refine lv_aload_n (pc := 16) hx hb dX0_mostPulled_16 rfl (lv_at hl 0 rfl) ?_
        refine va_get (pc := 17) (D := D) (ci := 0) (v := .int (od.1 9)) (C := RX0) (T := TX0) (N := 15) hx hb hts iX0 hown hK.1 hP 0 rfl rfl 9 (by decide) (hts _ fl_RX0_82) (fun _ h => h) rfl dX0_mostPulled_17 ?_
        refine lv_iload (pc := 20) hx hb dX0_mostPulled_20 (lv_at hl 3 rfl) ?_
        refine lv_ishr (pc := 22) hx hb dX0_mostPulled_22 ?_
        refine lv_iconst (v := 1) (pc := 23) hx hb dX0_mostPulled_23 (by decide) ?_
        refine lv_iand (pc := 24) hx hb dX0_mostPulled_24 ?_
        refine lv_iconst (v := 1) (pc := 25) hx hb dX0_mostPulled_25 (by decide) ?_
        refine lv_icmp_ne (pc := 26) (tgt := 74) hx hb dX0_mostPulled_26 (by decide) (fun c5 => ?_) (fun c5 => ?_)
        · replace hf := im c5 hf
          refine lv_iinc (v := (v4 + 1)) (lv' := [(4, .int (v4 + 1)), (0, .ref a), (1, .int v1), (2, .long v2)]) (pc := 74) hx hb dX0_mostPulled_74 hl (k := 3) rfl rfl (by decide) rfl (fun ls hl => ?_)
          refine lv_goto (pc := 77) (tgt := 7) hx hb dX0_mostPulled_77 (by decide) ?_
          exact ih _ _ _ H locs ls hf hP hD hS (lv_sub hl [1, 2, 3, 0] rfl)
        · replace hf := ip c5 hf
          refine lv_aload_n (pc := 29) hx hb dX0_mostPulled_29 rfl (lv_at hl 0 rfl) ?_
          refine va_get (pc := 30) (D := D) (ci := 0) (v := .ref (q 2)) (C := RX0) (T := TX0) (N := 15) hx hb hts iX0 hown hK.1 hP 0 rfl rfl 2 (by decide) (hts _ fl_RX0_18) (fun _ h => h) rfl dX0_mostPulled_30 ?_
          refine lv_iload (pc := 33) hx hb dX0_mostPulled_33 (lv_at hl 3 rfl) ?_
          obtain ⟨h6, hf⟩ := ck_some hf
          refine va_iald (pc := 35) (f := od.2.2 2) hx hb hK.1 hP 3 0 rfl rfl h6 dX0_mostPulled_35 ?_
          refine lv_i2l (pc := 36) hx hb dX0_mostPulled_36 rfl ?_
          refine lv_aload_n (pc := 37) hx hb dX0_mostPulled_37 rfl (lv_at hl 0 rfl) ?_
          refine va_get (pc := 38) (D := D) (ci := 0) (v := .ref (q 14)) (C := RX0) (T := TX0) (N := 15) hx hb hts iX0 hown hK.1 hP 0 rfl rfl 14 (by decide) (hts _ fl_RX0_31) (fun _ h => h) rfl dX0_mostPulled_38 ?_
          refine lv_aload_n (pc := 41) hx hb dX0_mostPulled_41 rfl (lv_at hl 0 rfl) ?_
          refine va_get (pc := 42) (D := D) (ci := 0) (v := .ref (q 0)) (C := RX0) (T := TX0) (N := 15) hx hb hts iX0 hown hK.1 hP 0 rfl rfl 0 (by decide) (hts _ fl_RX0_11) (fun _ h => h) rfl dX0_mostPulled_42 ?_
          refine lv_iload (pc := 45) hx hb dX0_mostPulled_45 (lv_at hl 3 rfl) ?_
          obtain ⟨h7, hf⟩ := ck_some hf
          refine va_iald (pc := 47) (f := od.2.2 0) hx hb hK.1 hP 1 0 rfl rfl h7 dX0_mostPulled_47 ?_
          refine lv_aload_n (pc := 48) hx hb dX0_mostPulled_48 rfl (lv_at hl 0 rfl) ?_
          refine va_get (pc := 49) (D := D) (ci := 0) (v := .ref (q 1)) (C := RX0) (T := TX0) (N := 15) hx hb hts iX0 hown hK.1 hP 0 rfl rfl 1 (by decide) (hts _ fl_RX0_15) (fun _ h => h) rfl dX0_mostPulled_49 ?_
          refine lv_iload (pc := 52) hx hb dX0_mostPulled_52 (lv_at hl 3 rfl) ?_
          obtain ⟨h8, hf⟩ := ck_some hf
          refine va_iald (pc := 54) (f := od.2.2 1) hx hb hK.1 hP 2 0 rfl rfl h8 dX0_mostPulled_54 ?_
          obtain ⟨x9, ex9, hf⟩ := bd_some hf
          refine ct_V (pc := 55) (As := [.int (od.2.2 0 (v4 : Int32).toNatClampNeg), .int (od.2.2 1 (v4 : Int32).toNatClampNeg)]) (rest := [.long (((od.2.2 2 (v4 : Int32).toNatClampNeg) : Int32).toInt64)]) (wr := bX0 cI a q od) (W1 := bX0 cI a q od ++ bX1 (q 14) odp) ⟨hx, hb, hml, hown, hts⟩ hK (c_X1_topAt l D cI cZ cS (q 14) (od.2.2 0 (v4 : Int32).toNatClampNeg) (od.2.2 1 (v4 : Int32).toNatClampNeg) odp x9 ex9) gv_RX0_113 rfl hs_X1_topAt rfl ⟨Nat.le_of_ble_eq_true rfl, Nat.le_of_ble_eq_true rfl⟩ (ci := 1) (q0 := 5) rfl rfl rfl hl.1 rfl (Nat.le_of_ble_eq_true rfl) dX0_mostPulled_55 ⟨Nat.zero_le _, Nat.zero_le _⟩ hP hD hS hA [5] [0, 1, 2, 3, 4] [0, 1, 2, 3, 4, 5] rfl rfl (by decide +kernel) (by decide +kernel) (by decide +kernel) (by decide +kernel) rfl (fun H locs hP hD hS => ?_)
          refine lv_lmul (pc := 58) hx hb dX0_mostPulled_58 ?_
          obtain ⟨y10, ey10, hf⟩ := lt_some hf
          refine lv_nmL ey10 ?_
          refine lv_lstore (lv' := [(5, .long y10), (0, .ref a), (1, .int v1), (2, .long v2), (4, .int v4)]) (pc := 59) hx hb dX0_mostPulled_59 hl (by decide) rfl (fun ls hl => ?_)
          refine lv_lload (pc := 61) hx hb dX0_mostPulled_61 (lv_at hl 0 rfl) ?_
          refine lv_lload_n (pc := 63) hx hb dX0_mostPulled_63 rfl (lv_at hl 3 rfl) ?_
          refine W.lcmp (pc := 64) hx hb dX0_mostPulled_64 ?_
          refine lv_if_ge (pc := 65) (tgt := 74) hx hb dX0_mostPulled_65 (by decide) (fun c11 => ?_) (fun c11 => ?_)
          · replace c11 := (lg_cmp_ge _ _).mp c11
            replace hf := ip c11 hf
            refine lv_iinc (v := (v4 + 1)) (lv' := [(4, .int (v4 + 1)), (5, .long y10), (0, .ref a), (1, .int v1), (2, .long v2)]) (pc := 74) hx hb dX0_mostPulled_74 hl (k := 4) rfl rfl (by decide) rfl (fun ls hl => ?_)
            refine lv_goto (pc := 77) (tgt := 7) hx hb dX0_mostPulled_77 (by decide) ?_
            exact ih _ _ _ H locs ls hf hP hD hS (lv_sub hl [2, 3, 4, 0] rfl)
          · replace c11 := fun q => c11 ((lg_cmp_ge _ _).mpr q)
            replace hf := im c11 hf
            refine lv_lload (pc := 68) hx hb dX0_mostPulled_68 (lv_at hl 0 rfl) ?_
            refine lv_lstore_n (lv' := [(2, .long y10), (5, .long y10), (0, .ref a), (1, .int v1), (4, .int v4)]) (pc := 70) hx hb dX0_mostPulled_70 rfl hl (by decide) rfl (fun ls hl => ?_)
            refine lv_iload (pc := 71) hx hb dX0_mostPulled_71 (lv_at hl 4 rfl) ?_
            refine lv_istore_n (lv' := [(1, .int v4), (2, .long y10), (5, .long y10), (0, .ref a), (4, .int v4)]) (pc := 73) hx hb dX0_mostPulled_73 rfl hl (by decide) rfl (fun ls hl => ?_)
            refine lv_iinc (v := (v4 + 1)) (lv' := [(4, .int (v4 + 1)), (1, .int v4), (2, .long y10), (5, .long y10), (0, .ref a)]) (pc := 74) hx hb dX0_mostPulled_74 hl (k := 4) rfl rfl (by decide) rfl (fun ls hl => ?_)
            refine lv_goto (pc := 77) (tgt := 7) hx hb dX0_mostPulled_77 (by decide) ?_
            exact ih _ _ _ H locs ls hf hP hD hS (lv_sub hl [4, 1, 2, 0] rfl)
  exact KL3 1000 _ _ _ H locs ls hz1 hP hD hS (lv_sub hl [3, 2, 1, 0] rfl)
def lp_X0_mostPressedOfReleased_19 (r1 : Int32) (u_D : OS) (u_DP : OS) : Nat → Int32 → Int64 → Int32 → Option (Int32 × Int64 × Int32)
  | 0, _, _, _ => none
  | n + 1, v2, v3, v5 => if (u_D.1 4) ≤ v5 then some (v2, v3, v5) else if r1 = 0 then some (v2, v3, v5) else if ((r1 >>> (v5 &&& 31)) &&& 1) = 1 then ck v5 9 (ck v5 9 (Option.bind (f_X1_topAt (u_D.2.2 0 (v5 : Int32).toNatClampNeg) (u_D.2.2 1 (v5 : Int32).toNatClampNeg) u_DP) fun x9 => if x9 ≤ v3 then lp_X0_mostPressedOfReleased_19 r1 u_D u_DP n v2 v3 (v5 + 1) else lp_X0_mostPressedOfReleased_19 r1 u_D u_DP n v5 x9 (v5 + 1))) else lp_X0_mostPressedOfReleased_19 r1 u_D u_DP n v2 v3 (v5 + 1)
def f_X0_mostPressedOfReleased (od : OS) (odp : OS) : Option Int32 := Option.bind (lp_X0_mostPressedOfReleased_19 ((od.1 8) &&& ((od.1 9) ^^^ (-1))) od odp 1000 (-1) 0 0) fun z1 => some z1.1
set_option maxHeartbeats 4000000 in
set_option maxRecDepth 100000 in
theorem c_X0_mostPressedOfReleased (l : Launch) (D : va_G) (cI cZ cS : ClassId) (a : Nat) (q : Nat → Nat) (od : OS) (odp : OS) (x : Int32) (hf : f_X0_mostPressedOfReleased od odp = some x) : Ct l yX0_mostPressedOfReleased cX0_mostPressedOfReleased 8 (some .int) 1 22 D cI cZ cS [.ref a] (bX0 cI a q od ++ bX1 (q 14) odp) (some (.int x)) (bX0 cI a q od ++ bX1 (q 14) odp) := by
  intro sz
  refine Met.ofW (cc := cX0_mostPressedOfReleased) (maxL := 8) (ret := (some .int)) (by decide +kernel) rfl ?_
  intro p e s m args below meth c s₁ B hml hv
  obtain ⟨rfl, hsz, hP, hK, hD0⟩ := hv
  have hx := B.exec
  have hb := B.bytes
  have hr := B.returns
  have hts0 := atoms_spec (ws := .code yX0_mostPressedOfReleased cX0_mostPressedOfReleased 8 (some .int) :: TB) B.pre
  have hts := fun w (h : w ∈ TB) => hts0 w (List.mem_cons_of_mem _ h)
  have hown : s.vm.findClass RX0 = some m.cls := findClass_of_methodNamed B.named
  have hlocks := B.notSynchronized
  subst hsz
  have hD := hD0.self (sz := s.heap.size)
  generalize hAe : va_A (bX0 cI a q od ++ bX1 (q 14) odp) s.heap.size = A at hD ⊢
  have hA : ∀ q : Nat, s.heap.size ≤ q → A q := fun q h => by rw [← hAe]; exact Or.inr h
  have hS : va_S A s.heap s.heap [] := va_S.rf
  obtain ⟨H, hH⟩ : ∃ H, H = s.heap := ⟨_, rfl⟩
  rw [← hH] at hP
  have hS : va_S A s.heap H [] := by rw [hH]; exact hS
  have hl := lv_entry ([.ref a]) (n := 8) (Nat.le_of_ble_eq_true rfl)
  rw [lg_entry_eq]
  generalize (lg_sl ([.ref a]) ++ List.replicate (8 - (lg_sl ([.ref a])).length) Slot.unset).toArray = ls at hl ⊢
  have hl : lv_has ls 8 [(0, .ref a)] := hl
  refine W_heap hH ?_
  obtain ⟨locs, hlo⟩ : ∃ locs : List Loc, locs = [] := ⟨_, rfl⟩
  rw [← hlo] at hS ⊢
  unfold f_X0_mostPressedOfReleased at hf
  refine lv_aload_n (pc := 0) hx hb dX0_mostPressedOfReleased_0 rfl (lv_at hl 0 rfl) ?_
  refine va_get (pc := 1) (D := D) (ci := 0) (v := .int (od.1 8)) (C := RX0) (T := TX0) (N := 15) hx hb hts iX0 hown hK.1 hP 0 rfl rfl 8 (by decide) (hts _ fl_RX0_68) (fun _ h => h) rfl dX0_mostPressedOfReleased_1 ?_
  refine lv_aload_n (pc := 4) hx hb dX0_mostPressedOfReleased_4 rfl (lv_at hl 0 rfl) ?_
  refine va_get (pc := 5) (D := D) (ci := 0) (v := .int (od.1 9)) (C := RX0) (T := TX0) (N := 15) hx hb hts iX0 hown hK.1 hP 0 rfl rfl 9 (by decide) (hts _ fl_RX0_82) (fun _ h => h) rfl dX0_mostPressedOfReleased_5 ?_
  refine lv_iconst (v := -1) (pc := 8) hx hb dX0_mostPressedOfReleased_8 (by decide) ?_
  refine lv_ixor (pc := 9) hx hb dX0_mostPressedOfReleased_9 ?_
  refine lv_iand (pc := 10) hx hb dX0_mostPressedOfReleased_10 ?_
  refine lv_istore_n (lv' := [(1, .int ((od.1 8) &&& ((od.1 9) ^^^ (-1)))), (0, .ref a)]) (pc := 11) hx hb dX0_mostPressedOfReleased_11 rfl hl (by decide) rfl (fun ls hl => ?_)
  refine lv_iconst (v := -1) (pc := 12) hx hb dX0_mostPressedOfReleased_12 (by decide) ?_
  refine lv_istore_n (lv' := [(2, .int (-1)), (1, .int ((od.1 8) &&& ((od.1 9) ^^^ (-1)))), (0, .ref a)]) (pc := 13) hx hb dX0_mostPressedOfReleased_13 rfl hl (by decide) rfl (fun ls hl => ?_)
  refine lv_lconst (v := 0) (pc := 14) hx hb dX0_mostPressedOfReleased_14 (by decide) ?_
  refine lv_lstore_n (lv' := [(3, .long 0), (2, .int (-1)), (1, .int ((od.1 8) &&& ((od.1 9) ^^^ (-1)))), (0, .ref a)]) (pc := 15) hx hb dX0_mostPressedOfReleased_15 rfl hl (by decide) rfl (fun ls hl => ?_)
  refine lv_iconst (v := 0) (pc := 16) hx hb dX0_mostPressedOfReleased_16 (by decide) ?_
  refine lv_istore (lv' := [(5, .int 0), (3, .long 0), (2, .int (-1)), (1, .int ((od.1 8) &&& ((od.1 9) ^^^ (-1)))), (0, .ref a)]) (pc := 17) hx hb dX0_mostPressedOfReleased_17 hl (by decide) rfl (fun ls hl => ?_)
  obtain ⟨z1, hz1, hf⟩ := bd_some hf
  have hfz1 := hf
  clear hf
  have K2 : ∀ (H : Heap) (locs : List Loc) (ls : Array Slot), va_P D vwCl (bX0 cI a q od ++ bX1 (q 14) odp) H → va_D A (bX0 cI a q od ++ bX1 (q 14) odp) → va_S A s.heap H locs → lv_has ls 8 [(0, .ref a), (1, .int ((od.1 8) &&& ((od.1 9) ^^^ (-1)))), (2, .int z1.1), (3, .long z1.2.1), (5, .int z1.2.2)] → GW l yX0_mostPressedOfReleased cX0_mostPressedOfReleased 8 (some .int) 1 22 D [.ref a] (some (.int x)) (bX0 cI a q od ++ bX1 (q 14) odp) A p e s m below meth c H locs (F0 m 84 ls []) := by
    intro H locs ls hP hD hS hl
    have hf := hfz1
    refine lv_iload_n (pc := 84) hx hb dX0_mostPressedOfReleased_84 rfl (lv_at hl 2 rfl) ?_
    obtain rfl := Option.some.inj hf
    exact W.iret hx hb hr (fun t ht hW => ⟨rfl, by rw [ht]; exact hP, hD, hS.F ht⟩) hS.2.2 dX0_mostPressedOfReleased_85
  have KL3 : ∀ (n : Nat) (v2 : Int32) (v3 : Int64) (v5 : Int32) (H : Heap) (locs : List Loc) (ls : Array Slot), lp_X0_mostPressedOfReleased_19 ((od.1 8) &&& ((od.1 9) ^^^ (-1))) od odp n v2 v3 v5 = some z1 → va_P D vwCl (bX0 cI a q od ++ bX1 (q 14) odp) H → va_D A (bX0 cI a q od ++ bX1 (q 14) odp) → va_S A s.heap H locs → lv_has ls 8 [(0, .ref a), (1, .int ((od.1 8) &&& ((od.1 9) ^^^ (-1)))), (2, .int v2), (3, .long v3), (5, .int v5)] → GW l yX0_mostPressedOfReleased cX0_mostPressedOfReleased 8 (some .int) 1 22 D [.ref a] (some (.int x)) (bX0 cI a q od ++ bX1 (q 14) odp) A p e s m below meth c H locs (F0 m 19 ls []) := by
    intro n
    induction n with
    | zero => intro v2 v3 v5 H locs ls hf; cases hf
    | succ n ih =>
      intro v2 v3 v5 H locs ls hf hP hD hS hl
      rw [lp_X0_mostPressedOfReleased_19] at hf
      refine lv_iload (pc := 19) hx hb dX0_mostPressedOfReleased_19 (lv_at hl 4 rfl) ?_
      refine lv_aload_n (pc := 21) hx hb dX0_mostPressedOfReleased_21 rfl (lv_at hl 0 rfl) ?_
      refine va_get (pc := 22) (D := D) (ci := 0) (v := .int (od.1 4)) (C := RX0) (T := TX0) (N := 15) hx hb hts iX0 hown hK.1 hP 0 rfl rfl 4 (by decide) (hts _ fl_RX0_50) (fun _ h => h) rfl dX0_mostPressedOfReleased_22 ?_
      refine lv_icmp_ge (pc := 25) (tgt := 84) hx hb dX0_mostPressedOfReleased_25 (by decide) (fun c4 => ?_) (fun c4 => ?_)
      · replace hf := ip c4 hf
        obtain rfl := Option.some.inj hf
        exact K2 H locs ls hP hD hS (lv_sub hl [0, 1, 2, 3, 4] rfl)
      · replace hf := im c4 hf
        refine lv_iload_n (pc := 28) hx hb dX0_mostPressedOfReleased_28 rfl (lv_at hl 1 rfl) ?_
        refine lv_if_eq (pc := 29) (tgt := 84) hx hb dX0_mostPressedOfReleased_29 (by decide) (fun c5 => ?_) (fun c5 => ?_)
        · replace hf := ip c5 hf
          obtain rfl := Option.some.inj hf
          exact K2 H locs ls hP hD hS (lv_sub hl [0, 1, 2, 3, 4] rfl)
        · replace hf := im c5 hf
          refine lv_iload_n (pc := 32) hx hb dX0_mostPressedOfReleased_32 rfl (lv_at hl 1 rfl) ?_
          refine lv_iload (pc := 33) hx hb dX0_mostPressedOfReleased_33 (lv_at hl 4 rfl) ?_
          refine lv_ishr (pc := 35) hx hb dX0_mostPressedOfReleased_35 ?_
          refine lv_iconst (v := 1) (pc := 36) hx hb dX0_mostPressedOfReleased_36 (by decide) ?_
          refine lv_iand (pc := 37) hx hb dX0_mostPressedOfReleased_37 ?_
          refine lv_iconst (v := 1) (pc := 38) hx hb dX0_mostPressedOfReleased_38 (by decide) ?_
          refine lv_icmp_ne (pc := 39) (tgt := 78) hx hb dX0_mostPressedOfReleased_39 (by decide) (fun c6 => ?_) (fun c6 => ?_)
          · replace hf := im c6 hf
            refine lv_iinc (v := (v5 + 1)) (lv' := [(5, .int (v5 + 1)), (0, .ref a), (1, .int ((od.1 8) &&& ((od.1 9) ^^^ (-1)))), (2, .int v2), (3, .long v3)]) (pc := 78) hx hb dX0_mostPressedOfReleased_78 hl (k := 4) rfl rfl (by decide) rfl (fun ls hl => ?_)
            refine lv_goto (pc := 81) (tgt := 19) hx hb dX0_mostPressedOfReleased_81 (by decide) ?_
            exact ih _ _ _ H locs ls hf hP hD hS (lv_sub hl [1, 2, 3, 4, 0] rfl)
          · replace hf := ip c6 hf
            refine lv_aload_n (pc := 42) hx hb dX0_mostPressedOfReleased_42 rfl (lv_at hl 0 rfl) ?_
            refine va_get (pc := 43) (D := D) (ci := 0) (v := .ref (q 14)) (C := RX0) (T := TX0) (N := 15) hx hb hts iX0 hown hK.1 hP 0 rfl rfl 14 (by decide) (hts _ fl_RX0_31) (fun _ h => h) rfl dX0_mostPressedOfReleased_43 ?_
            refine lv_aload_n (pc := 46) hx hb dX0_mostPressedOfReleased_46 rfl (lv_at hl 0 rfl) ?_
            refine va_get (pc := 47) (D := D) (ci := 0) (v := .ref (q 0)) (C := RX0) (T := TX0) (N := 15) hx hb hts iX0 hown hK.1 hP 0 rfl rfl 0 (by decide) (hts _ fl_RX0_11) (fun _ h => h) rfl dX0_mostPressedOfReleased_47 ?_
            refine lv_iload (pc := 50) hx hb dX0_mostPressedOfReleased_50 (lv_at hl 4 rfl) ?_
            obtain ⟨h7, hf⟩ := ck_some hf
            refine va_iald (pc := 52) (f := od.2.2 0) hx hb hK.1 hP 1 0 rfl rfl h7 dX0_mostPressedOfReleased_52 ?_
            refine lv_aload_n (pc := 53) hx hb dX0_mostPressedOfReleased_53 rfl (lv_at hl 0 rfl) ?_
            refine va_get (pc := 54) (D := D) (ci := 0) (v := .ref (q 1)) (C := RX0) (T := TX0) (N := 15) hx hb hts iX0 hown hK.1 hP 0 rfl rfl 1 (by decide) (hts _ fl_RX0_15) (fun _ h => h) rfl dX0_mostPressedOfReleased_54 ?_
            refine lv_iload (pc := 57) hx hb dX0_mostPressedOfReleased_57 (lv_at hl 4 rfl) ?_
            obtain ⟨h8, hf⟩ := ck_some hf
            refine va_iald (pc := 59) (f := od.2.2 1) hx hb hK.1 hP 2 0 rfl rfl h8 dX0_mostPressedOfReleased_59 ?_
            obtain ⟨x9, ex9, hf⟩ := bd_some hf
            refine ct_V (pc := 60) (As := [.int (od.2.2 0 (v5 : Int32).toNatClampNeg), .int (od.2.2 1 (v5 : Int32).toNatClampNeg)]) (rest := []) (wr := bX0 cI a q od) (W1 := bX0 cI a q od ++ bX1 (q 14) odp) ⟨hx, hb, hml, hown, hts⟩ hK (c_X1_topAt l D cI cZ cS (q 14) (od.2.2 0 (v5 : Int32).toNatClampNeg) (od.2.2 1 (v5 : Int32).toNatClampNeg) odp x9 ex9) gv_RX0_113 rfl hs_X1_topAt rfl ⟨Nat.le_of_ble_eq_true rfl, Nat.le_of_ble_eq_true rfl⟩ (ci := 1) (q0 := 5) rfl rfl rfl hl.1 rfl (Nat.le_of_ble_eq_true rfl) dX0_mostPressedOfReleased_60 ⟨Nat.zero_le _, Nat.zero_le _⟩ hP hD hS hA [5] [0, 1, 2, 3, 4] [0, 1, 2, 3, 4, 5] rfl rfl (by decide +kernel) (by decide +kernel) (by decide +kernel) (by decide +kernel) rfl (fun H locs hP hD hS => ?_)
            refine lv_lstore (lv' := [(6, .long x9), (0, .ref a), (1, .int ((od.1 8) &&& ((od.1 9) ^^^ (-1)))), (2, .int v2), (3, .long v3), (5, .int v5)]) (pc := 63) hx hb dX0_mostPressedOfReleased_63 hl (by decide) rfl (fun ls hl => ?_)
            refine lv_lload (pc := 65) hx hb dX0_mostPressedOfReleased_65 (lv_at hl 0 rfl) ?_
            refine lv_lload_n (pc := 67) hx hb dX0_mostPressedOfReleased_67 rfl (lv_at hl 4 rfl) ?_
            refine W.lcmp (pc := 68) hx hb dX0_mostPressedOfReleased_68 ?_
            refine lv_if_le (pc := 69) (tgt := 78) hx hb dX0_mostPressedOfReleased_69 (by decide) (fun c10 => ?_) (fun c10 => ?_)
            · replace c10 := (lg_cmp_le _ _).mp c10
              replace hf := ip c10 hf
              refine lv_iinc (v := (v5 + 1)) (lv' := [(5, .int (v5 + 1)), (6, .long x9), (0, .ref a), (1, .int ((od.1 8) &&& ((od.1 9) ^^^ (-1)))), (2, .int v2), (3, .long v3)]) (pc := 78) hx hb dX0_mostPressedOfReleased_78 hl (k := 5) rfl rfl (by decide) rfl (fun ls hl => ?_)
              refine lv_goto (pc := 81) (tgt := 19) hx hb dX0_mostPressedOfReleased_81 (by decide) ?_
              exact ih _ _ _ H locs ls hf hP hD hS (lv_sub hl [2, 3, 4, 5, 0] rfl)
            · replace c10 := fun q => c10 ((lg_cmp_le _ _).mpr q)
              replace hf := im c10 hf
              refine lv_lload (pc := 72) hx hb dX0_mostPressedOfReleased_72 (lv_at hl 0 rfl) ?_
              refine lv_lstore_n (lv' := [(3, .long x9), (6, .long x9), (0, .ref a), (1, .int ((od.1 8) &&& ((od.1 9) ^^^ (-1)))), (2, .int v2), (5, .int v5)]) (pc := 74) hx hb dX0_mostPressedOfReleased_74 rfl hl (by decide) rfl (fun ls hl => ?_)
              refine lv_iload (pc := 75) hx hb dX0_mostPressedOfReleased_75 (lv_at hl 5 rfl) ?_
              refine lv_istore_n (lv' := [(2, .int v5), (3, .long x9), (6, .long x9), (0, .ref a), (1, .int ((od.1 8) &&& ((od.1 9) ^^^ (-1)))), (5, .int v5)]) (pc := 77) hx hb dX0_mostPressedOfReleased_77 rfl hl (by decide) rfl (fun ls hl => ?_)
              refine lv_iinc (v := (v5 + 1)) (lv' := [(5, .int (v5 + 1)), (2, .int v5), (3, .long x9), (6, .long x9), (0, .ref a), (1, .int ((od.1 8) &&& ((od.1 9) ^^^ (-1))))]) (pc := 78) hx hb dX0_mostPressedOfReleased_78 hl (k := 5) rfl rfl (by decide) rfl (fun ls hl => ?_)
              refine lv_goto (pc := 81) (tgt := 19) hx hb dX0_mostPressedOfReleased_81 (by decide) ?_
              exact ih _ _ _ H locs ls hf hP hD hS (lv_sub hl [4, 5, 1, 2, 0] rfl)
  exact KL3 1000 _ _ _ H locs ls hz1 hP hD hS (lv_sub hl [4, 3, 2, 1, 0] rfl)
def f_X0_anotherRoundFollows (od : OS) (odp : OS) : Option (Int32 × OS × OS) := Option.bind (f_X1_brace odp) fun x1 => if x1.1 = 0 then some (0, od, x1.2) else Option.bind (f_X1_tilt (od.2.1 5) (od.2.1 6) (od.2.1 7) x1.2) fun x3 => Option.bind (f_X0_mostPulled od x3) fun x4 => if x4 < 0 then Option.bind (f_X0_mostPressedOfReleased od x3) fun x6 => if x6 < 0 then lt (sI od 11 1) fun o8 => some (0, o8, x3) else lt (sI od 9 ((od.1 9) ||| (1 <<< (x6 &&& 31)))) fun o9 => ck x6 9 (ck x6 9 (ck x6 9 (Option.bind (f_X1_put (o9.2.2 0 (x6 : Int32).toNatClampNeg) (o9.2.2 1 (x6 : Int32).toNatClampNeg) (o9.2.2 2 (x6 : Int32).toNatClampNeg) x3) fun x13 => some (1, o9, x13)))) else lt (sI od 9 ((od.1 9) &&& ((1 <<< (x4 &&& 31)) ^^^ (-1)))) fun o14 => ck x4 9 (ck x4 9 (ck x4 9 (Option.bind (f_X1_put (o14.2.2 0 (x4 : Int32).toNatClampNeg) (o14.2.2 1 (x4 : Int32).toNatClampNeg) (-(o14.2.2 2 (x4 : Int32).toNatClampNeg)) x3) fun x18 => some (1, o14, x18))))
set_option maxHeartbeats 4000000 in
set_option maxRecDepth 100000 in
theorem c_X0_anotherRoundFollows (l : Launch) (D : va_G) (cI cZ cS : ClassId) (a : Nat) (q : Nat → Nat) (od : OS) (odp : OS) (x : (Int32 × OS × OS)) (hf : f_X0_anotherRoundFollows od odp = some x) : Ct l yX0_anotherRoundFollows cX0_anotherRoundFollows 3 (some .boolean) 2 49 D cI cZ cS [.ref a] (bX0 cI a q od ++ bX1 (q 14) odp) (some (.int x.1)) (bX0 cI a q x.2.1 ++ bX1 (q 14) x.2.2) := by
  intro sz
  refine Met.ofW (cc := cX0_anotherRoundFollows) (maxL := 3) (ret := (some .boolean)) (by decide +kernel) rfl ?_
  intro p e s m args below meth c s₁ B hml hv
  obtain ⟨rfl, hsz, hP, hK, hD0⟩ := hv
  have hx := B.exec
  have hb := B.bytes
  have hr := B.returns
  have hts0 := atoms_spec (ws := .code yX0_anotherRoundFollows cX0_anotherRoundFollows 3 (some .boolean) :: TB) B.pre
  have hts := fun w (h : w ∈ TB) => hts0 w (List.mem_cons_of_mem _ h)
  have hown : s.vm.findClass RX0 = some m.cls := findClass_of_methodNamed B.named
  have hlocks := B.notSynchronized
  subst hsz
  have hD := hD0.self (sz := s.heap.size)
  generalize hAe : va_A (bX0 cI a q od ++ bX1 (q 14) odp) s.heap.size = A at hD ⊢
  have hA : ∀ q : Nat, s.heap.size ≤ q → A q := fun q h => by rw [← hAe]; exact Or.inr h
  have hS : va_S A s.heap s.heap [] := va_S.rf
  obtain ⟨H, hH⟩ : ∃ H, H = s.heap := ⟨_, rfl⟩
  rw [← hH] at hP
  have hS : va_S A s.heap H [] := by rw [hH]; exact hS
  have hl := lv_entry ([.ref a]) (n := 3) (Nat.le_of_ble_eq_true rfl)
  rw [lg_entry_eq]
  generalize (lg_sl ([.ref a]) ++ List.replicate (3 - (lg_sl ([.ref a])).length) Slot.unset).toArray = ls at hl ⊢
  have hl : lv_has ls 3 [(0, .ref a)] := hl
  refine W_heap hH ?_
  obtain ⟨locs, hlo⟩ : ∃ locs : List Loc, locs = [] := ⟨_, rfl⟩
  rw [← hlo] at hS ⊢
  unfold f_X0_anotherRoundFollows at hf
  refine lv_aload_n (pc := 0) hx hb dX0_anotherRoundFollows_0 rfl (lv_at hl 0 rfl) ?_
  refine va_get (pc := 1) (D := D) (ci := 0) (v := .ref (q 14)) (C := RX0) (T := TX0) (N := 15) hx hb hts iX0 hown hK.1 hP 0 rfl rfl 14 (by decide) (hts _ fl_RX0_31) (fun _ h => h) rfl dX0_anotherRoundFollows_1 ?_
  obtain ⟨x1, ex1, hf⟩ := bd_some hf
  refine ct_V (pc := 4) (As := []) (rest := []) (wr := bX0 cI a q od) (W1 := bX0 cI a q od ++ bX1 (q 14) x1.2) ⟨hx, hb, hml, hown, hts⟩ hK (c_X1_brace l D cI cZ cS (q 14) odp x1 ex1) gv_RX0_99 rfl hs_X1_brace rfl ⟨Nat.le_of_ble_eq_true rfl, Nat.le_of_ble_eq_true rfl⟩ (ci := 1) (q0 := 5) rfl rfl rfl hl.1 rfl (Nat.le_of_ble_eq_true rfl) dX0_anotherRoundFollows_4 ⟨Nat.zero_le _, Nat.zero_le _⟩ hP hD hS hA [5] [0, 1, 2, 3, 4] [0, 1, 2, 3, 4, 5] rfl rfl (by decide +kernel) (by decide +kernel) (by decide +kernel) (by decide +kernel) rfl (fun H locs hP hD hS => ?_)
  refine lv_if_ne (pc := 7) (tgt := 12) hx hb dX0_anotherRoundFollows_7 (by decide) (fun c2 => ?_) (fun c2 => ?_)
  · replace hf := im c2 hf
    refine lv_aload_n (pc := 12) hx hb dX0_anotherRoundFollows_12 rfl (lv_at hl 0 rfl) ?_
    refine va_get (pc := 13) (D := D) (ci := 0) (v := .ref (q 14)) (C := RX0) (T := TX0) (N := 15) hx hb hts iX0 hown hK.1 hP 0 rfl rfl 14 (by decide) (hts _ fl_RX0_31) (fun _ h => h) rfl dX0_anotherRoundFollows_13 ?_
    refine lv_aload_n (pc := 16) hx hb dX0_anotherRoundFollows_16 rfl (lv_at hl 0 rfl) ?_
    refine va_get (pc := 17) (D := D) (ci := 0) (v := .long (od.2.1 5)) (C := RX0) (T := TX0) (N := 15) hx hb hts iX0 hown hK.1 hP 0 rfl rfl 5 (by decide) (hts _ fl_RX0_51) (fun _ h => h) rfl dX0_anotherRoundFollows_17 ?_
    refine lv_aload_n (pc := 20) hx hb dX0_anotherRoundFollows_20 rfl (lv_at hl 0 rfl) ?_
    refine va_get (pc := 21) (D := D) (ci := 0) (v := .long (od.2.1 6)) (C := RX0) (T := TX0) (N := 15) hx hb hts iX0 hown hK.1 hP 0 rfl rfl 6 (by decide) (hts _ fl_RX0_55) (fun _ h => h) rfl dX0_anotherRoundFollows_21 ?_
    refine lv_aload_n (pc := 24) hx hb dX0_anotherRoundFollows_24 rfl (lv_at hl 0 rfl) ?_
    refine va_get (pc := 25) (D := D) (ci := 0) (v := .long (od.2.1 7)) (C := RX0) (T := TX0) (N := 15) hx hb hts iX0 hown hK.1 hP 0 rfl rfl 7 (by decide) (hts _ fl_RX0_58) (fun _ h => h) rfl dX0_anotherRoundFollows_25 ?_
    obtain ⟨x3, ex3, hf⟩ := bd_some hf
    refine ct_V (pc := 28) (As := [.long (od.2.1 5), .long (od.2.1 6), .long (od.2.1 7)]) (rest := []) (wr := bX0 cI a q od) (W1 := bX0 cI a q od ++ bX1 (q 14) x3) ⟨hx, hb, hml, hown, hts⟩ hK (c_X1_tilt l D cI cZ cS (q 14) (od.2.1 5) (od.2.1 6) (od.2.1 7) x1.2 x3 ex3) gv_RX0_102 rfl hs_X1_tilt rfl ⟨Nat.le_of_ble_eq_true rfl, Nat.le_of_ble_eq_true rfl⟩ (ci := 1) (q0 := 5) rfl rfl rfl hl.1 rfl (Nat.le_of_ble_eq_true rfl) dX0_anotherRoundFollows_28 ⟨Nat.zero_le _, Nat.zero_le _⟩ hP hD hS hA [5] [0, 1, 2, 3, 4] [0, 1, 2, 3, 4, 5] rfl rfl (by decide +kernel) (by decide +kernel) (by decide +kernel) (by decide +kernel) rfl (fun H locs hP hD hS => ?_)
    refine lv_aload_n (pc := 31) hx hb dX0_anotherRoundFollows_31 rfl (lv_at hl 0 rfl) ?_
    obtain ⟨x4, ex4, hf⟩ := bd_some hf
    refine ct_V1 (pc := 32) (As := []) (rest := []) (W1 := bX0 cI a q od ++ bX1 (q 14) x3) ⟨hx, hb, hml, hown, hts⟩ hK (c_X0_mostPulled l D cI cZ cS a q od x3 x4 ex4) gv_RX0_106 rfl hs_X0_mostPulled rfl ⟨Nat.le_of_ble_eq_true rfl, Nat.le_of_ble_eq_true rfl⟩ (ci := 0) (q0 := 0) rfl rfl rfl hl.1 rfl (Nat.le_of_ble_eq_true rfl) dX0_anotherRoundFollows_32 ⟨Nat.zero_le _, Nat.zero_le _⟩ hP hD hS hA (fun H locs hP hD hS => ?_)
    refine lv_istore_n (lv' := [(1, .int x4), (0, .ref a)]) (pc := 35) hx hb dX0_anotherRoundFollows_35 rfl hl (by decide) rfl (fun ls hl => ?_)
    refine lv_iload_n (pc := 36) hx hb dX0_anotherRoundFollows_36 rfl (lv_at hl 0 rfl) ?_
    refine lv_if_lt (pc := 37) (tgt := 82) hx hb dX0_anotherRoundFollows_37 (by decide) (fun c5 => ?_) (fun c5 => ?_)
    · replace hf := ip c5 hf
      refine lv_aload_n (pc := 82) hx hb dX0_anotherRoundFollows_82 rfl (lv_at hl 1 rfl) ?_
      obtain ⟨x6, ex6, hf⟩ := bd_some hf
      refine ct_V1 (pc := 83) (As := []) (rest := []) (W1 := bX0 cI a q od ++ bX1 (q 14) x3) ⟨hx, hb, hml, hown, hts⟩ hK (c_X0_mostPressedOfReleased l D cI cZ cS a q od x3 x6 ex6) gv_RX0_110 rfl hs_X0_mostPressedOfReleased rfl ⟨Nat.le_of_ble_eq_true rfl, Nat.le_of_ble_eq_true rfl⟩ (ci := 0) (q0 := 0) rfl rfl rfl hl.1 rfl (Nat.le_of_ble_eq_true rfl) dX0_anotherRoundFollows_83 ⟨Nat.zero_le _, Nat.zero_le _⟩ hP hD hS hA (fun H locs hP hD hS => ?_)
      refine lv_istore_n (lv' := [(2, .int x6), (1, .int x4), (0, .ref a)]) (pc := 86) hx hb dX0_anotherRoundFollows_86 rfl hl (by decide) rfl (fun ls hl => ?_)
      refine lv_iload_n (pc := 87) hx hb dX0_anotherRoundFollows_87 rfl (lv_at hl 0 rfl) ?_
      refine lv_if_lt (pc := 88) (tgt := 130) hx hb dX0_anotherRoundFollows_88 (by decide) (fun c7 => ?_) (fun c7 => ?_)
      · replace hf := ip c7 hf
        refine lv_aload_n (pc := 130) hx hb dX0_anotherRoundFollows_130 rfl (lv_at hl 2 rfl) ?_
        refine lv_iconst (v := 1) (pc := 131) hx hb dX0_anotherRoundFollows_131 (by decide) ?_
        obtain ⟨o8, eo8, hf⟩ := lt_some hf
        refine va_put (pc := 132) (D := D) (ci := 0) (v := .int 1) (ty := .boolean) (C := RX0) (T := TX0) (N := 15) hx hb hts iX0 tyX0 tyX0_ok nmX0 hown hK.1 hP hD hS 0 rfl rfl 11 (by decide) (hts _ fl_RX0_85) (fun _ h => h) rfl (tyX0_ok 11 (by decide)) rfl rfl (Nat.le_of_ble_eq_true rfl) dX0_anotherRoundFollows_132 (fun H locs hP hD hS => ?_)
        replace hP : va_P D vwCl (bX0 cI a q o8 ++ bX1 (q 14) x3) H := by rw [eo8]; exact hP
        replace hD : va_D A (bX0 cI a q o8 ++ bX1 (q 14) x3) := by rw [eo8]; exact hD
        refine lv_iconst (v := 0) (pc := 135) hx hb dX0_anotherRoundFollows_135 (by decide) ?_
        obtain rfl := Option.some.inj hf
        exact W.zret hx hb hr rfl (fun t ht hW => ⟨rfl, by rw [ht]; exact hP, hD, hS.F ht⟩) hS.2.2 dX0_anotherRoundFollows_136
      · replace hf := im c7 hf
        refine lv_aload_n (pc := 91) hx hb dX0_anotherRoundFollows_91 rfl (lv_at hl 2 rfl) ?_
        refine lv_dup (pc := 92) hx hb dX0_anotherRoundFollows_92 rfl ?_
        refine va_get (pc := 93) (D := D) (ci := 0) (v := .int (od.1 9)) (C := RX0) (T := TX0) (N := 15) hx hb hts iX0 hown hK.1 hP 0 rfl rfl 9 (by decide) (hts _ fl_RX0_82) (fun _ h => h) rfl dX0_anotherRoundFollows_93 ?_
        refine lv_iconst (v := 1) (pc := 96) hx hb dX0_anotherRoundFollows_96 (by decide) ?_
        refine lv_iload_n (pc := 97) hx hb dX0_anotherRoundFollows_97 rfl (lv_at hl 0 rfl) ?_
        refine lv_ishl (pc := 98) hx hb dX0_anotherRoundFollows_98 ?_
        refine lv_ior (pc := 99) hx hb dX0_anotherRoundFollows_99 ?_
        obtain ⟨o9, eo9, hf⟩ := lt_some hf
        refine va_put (pc := 100) (D := D) (ci := 0) (v := .int ((od.1 9) ||| (1 <<< (x6 &&& 31)))) (ty := .int) (C := RX0) (T := TX0) (N := 15) hx hb hts iX0 tyX0 tyX0_ok nmX0 hown hK.1 hP hD hS 0 rfl rfl 9 (by decide) (hts _ fl_RX0_82) (fun _ h => h) rfl (tyX0_ok 9 (by decide)) rfl rfl (Nat.le_of_ble_eq_true rfl) dX0_anotherRoundFollows_100 (fun H locs hP hD hS => ?_)
        replace hP : va_P D vwCl (bX0 cI a q o9 ++ bX1 (q 14) x3) H := by rw [eo9]; exact hP
        replace hD : va_D A (bX0 cI a q o9 ++ bX1 (q 14) x3) := by rw [eo9]; exact hD
        refine lv_aload_n (pc := 103) hx hb dX0_anotherRoundFollows_103 rfl (lv_at hl 2 rfl) ?_
        refine va_get (pc := 104) (D := D) (ci := 0) (v := .ref (q 14)) (C := RX0) (T := TX0) (N := 15) hx hb hts iX0 hown hK.1 hP 0 rfl rfl 14 (by decide) (hts _ fl_RX0_31) (fun _ h => h) rfl dX0_anotherRoundFollows_104 ?_
        refine lv_aload_n (pc := 107) hx hb dX0_anotherRoundFollows_107 rfl (lv_at hl 2 rfl) ?_
        refine va_get (pc := 108) (D := D) (ci := 0) (v := .ref (q 0)) (C := RX0) (T := TX0) (N := 15) hx hb hts iX0 hown hK.1 hP 0 rfl rfl 0 (by decide) (hts _ fl_RX0_11) (fun _ h => h) rfl dX0_anotherRoundFollows_108 ?_
        refine lv_iload_n (pc := 111) hx hb dX0_anotherRoundFollows_111 rfl (lv_at hl 0 rfl) ?_
        obtain ⟨h10, hf⟩ := ck_some hf
        refine va_iald (pc := 112) (f := o9.2.2 0) hx hb hK.1 hP 1 0 rfl rfl h10 dX0_anotherRoundFollows_112 ?_
        refine lv_aload_n (pc := 113) hx hb dX0_anotherRoundFollows_113 rfl (lv_at hl 2 rfl) ?_
        refine va_get (pc := 114) (D := D) (ci := 0) (v := .ref (q 1)) (C := RX0) (T := TX0) (N := 15) hx hb hts iX0 hown hK.1 hP 0 rfl rfl 1 (by decide) (hts _ fl_RX0_15) (fun _ h => h) rfl dX0_anotherRoundFollows_114 ?_
        refine lv_iload_n (pc := 117) hx hb dX0_anotherRoundFollows_117 rfl (lv_at hl 0 rfl) ?_
        obtain ⟨h11, hf⟩ := ck_some hf
        refine va_iald (pc := 118) (f := o9.2.2 1) hx hb hK.1 hP 2 0 rfl rfl h11 dX0_anotherRoundFollows_118 ?_
        refine lv_aload_n (pc := 119) hx hb dX0_anotherRoundFollows_119 rfl (lv_at hl 2 rfl) ?_
        refine va_get (pc := 120) (D := D) (ci := 0) (v := .ref (q 2)) (C := RX0) (T := TX0) (N := 15) hx hb hts iX0 hown hK.1 hP 0 rfl rfl 2 (by decide) (hts _ fl_RX0_18) (fun _ h => h) rfl dX0_anotherRoundFollows_120 ?_
        refine lv_iload_n (pc := 123) hx hb dX0_anotherRoundFollows_123 rfl (lv_at hl 0 rfl) ?_
        obtain ⟨h12, hf⟩ := ck_some hf
        refine va_iald (pc := 124) (f := o9.2.2 2) hx hb hK.1 hP 3 0 rfl rfl h12 dX0_anotherRoundFollows_124 ?_
        obtain ⟨x13, ex13, hf⟩ := bd_some hf
        refine ct_V (pc := 125) (As := [.int (o9.2.2 0 (x6 : Int32).toNatClampNeg), .int (o9.2.2 1 (x6 : Int32).toNatClampNeg), .int (o9.2.2 2 (x6 : Int32).toNatClampNeg)]) (rest := []) (wr := bX0 cI a q o9) (W1 := bX0 cI a q o9 ++ bX1 (q 14) x13) ⟨hx, hb, hml, hown, hts⟩ hK (c_X1_put l D cI cZ cS (q 14) (o9.2.2 0 (x6 : Int32).toNatClampNeg) (o9.2.2 1 (x6 : Int32).toNatClampNeg) (o9.2.2 2 (x6 : Int32).toNatClampNeg) x3 x13 ex13) gv_RX0_74 rfl hs_X1_put rfl ⟨Nat.le_of_ble_eq_true rfl, Nat.le_of_ble_eq_true rfl⟩ (ci := 1) (q0 := 5) rfl rfl rfl hl.1 rfl (Nat.le_of_ble_eq_true rfl) dX0_anotherRoundFollows_125 ⟨Nat.zero_le _, Nat.zero_le _⟩ hP hD hS hA [5] [0, 1, 2, 3, 4] [0, 1, 2, 3, 4, 5] rfl rfl (by decide +kernel) (by decide +kernel) (by decide +kernel) (by decide +kernel) rfl (fun H locs hP hD hS => ?_)
        refine lv_iconst (v := 1) (pc := 128) hx hb dX0_anotherRoundFollows_128 (by decide) ?_
        obtain rfl := Option.some.inj hf
        exact W.zret hx hb hr rfl (fun t ht hW => ⟨rfl, by rw [ht]; exact hP, hD, hS.F ht⟩) hS.2.2 dX0_anotherRoundFollows_129
    · replace hf := im c5 hf
      refine lv_aload_n (pc := 40) hx hb dX0_anotherRoundFollows_40 rfl (lv_at hl 1 rfl) ?_
      refine lv_dup (pc := 41) hx hb dX0_anotherRoundFollows_41 rfl ?_
      refine va_get (pc := 42) (D := D) (ci := 0) (v := .int (od.1 9)) (C := RX0) (T := TX0) (N := 15) hx hb hts iX0 hown hK.1 hP 0 rfl rfl 9 (by decide) (hts _ fl_RX0_82) (fun _ h => h) rfl dX0_anotherRoundFollows_42 ?_
      refine lv_iconst (v := 1) (pc := 45) hx hb dX0_anotherRoundFollows_45 (by decide) ?_
      refine lv_iload_n (pc := 46) hx hb dX0_anotherRoundFollows_46 rfl (lv_at hl 0 rfl) ?_
      refine lv_ishl (pc := 47) hx hb dX0_anotherRoundFollows_47 ?_
      refine lv_iconst (v := -1) (pc := 48) hx hb dX0_anotherRoundFollows_48 (by decide) ?_
      refine lv_ixor (pc := 49) hx hb dX0_anotherRoundFollows_49 ?_
      refine lv_iand (pc := 50) hx hb dX0_anotherRoundFollows_50 ?_
      obtain ⟨o14, eo14, hf⟩ := lt_some hf
      refine va_put (pc := 51) (D := D) (ci := 0) (v := .int ((od.1 9) &&& ((1 <<< (x4 &&& 31)) ^^^ (-1)))) (ty := .int) (C := RX0) (T := TX0) (N := 15) hx hb hts iX0 tyX0 tyX0_ok nmX0 hown hK.1 hP hD hS 0 rfl rfl 9 (by decide) (hts _ fl_RX0_82) (fun _ h => h) rfl (tyX0_ok 9 (by decide)) rfl rfl (Nat.le_of_ble_eq_true rfl) dX0_anotherRoundFollows_51 (fun H locs hP hD hS => ?_)
      replace hP : va_P D vwCl (bX0 cI a q o14 ++ bX1 (q 14) x3) H := by rw [eo14]; exact hP
      replace hD : va_D A (bX0 cI a q o14 ++ bX1 (q 14) x3) := by rw [eo14]; exact hD
      refine lv_aload_n (pc := 54) hx hb dX0_anotherRoundFollows_54 rfl (lv_at hl 1 rfl) ?_
      refine va_get (pc := 55) (D := D) (ci := 0) (v := .ref (q 14)) (C := RX0) (T := TX0) (N := 15) hx hb hts iX0 hown hK.1 hP 0 rfl rfl 14 (by decide) (hts _ fl_RX0_31) (fun _ h => h) rfl dX0_anotherRoundFollows_55 ?_
      refine lv_aload_n (pc := 58) hx hb dX0_anotherRoundFollows_58 rfl (lv_at hl 1 rfl) ?_
      refine va_get (pc := 59) (D := D) (ci := 0) (v := .ref (q 0)) (C := RX0) (T := TX0) (N := 15) hx hb hts iX0 hown hK.1 hP 0 rfl rfl 0 (by decide) (hts _ fl_RX0_11) (fun _ h => h) rfl dX0_anotherRoundFollows_59 ?_
      refine lv_iload_n (pc := 62) hx hb dX0_anotherRoundFollows_62 rfl (lv_at hl 0 rfl) ?_
      obtain ⟨h15, hf⟩ := ck_some hf
      refine va_iald (pc := 63) (f := o14.2.2 0) hx hb hK.1 hP 1 0 rfl rfl h15 dX0_anotherRoundFollows_63 ?_
      refine lv_aload_n (pc := 64) hx hb dX0_anotherRoundFollows_64 rfl (lv_at hl 1 rfl) ?_
      refine va_get (pc := 65) (D := D) (ci := 0) (v := .ref (q 1)) (C := RX0) (T := TX0) (N := 15) hx hb hts iX0 hown hK.1 hP 0 rfl rfl 1 (by decide) (hts _ fl_RX0_15) (fun _ h => h) rfl dX0_anotherRoundFollows_65 ?_
      refine lv_iload_n (pc := 68) hx hb dX0_anotherRoundFollows_68 rfl (lv_at hl 0 rfl) ?_
      obtain ⟨h16, hf⟩ := ck_some hf
      refine va_iald (pc := 69) (f := o14.2.2 1) hx hb hK.1 hP 2 0 rfl rfl h16 dX0_anotherRoundFollows_69 ?_
      refine lv_aload_n (pc := 70) hx hb dX0_anotherRoundFollows_70 rfl (lv_at hl 1 rfl) ?_
      refine va_get (pc := 71) (D := D) (ci := 0) (v := .ref (q 2)) (C := RX0) (T := TX0) (N := 15) hx hb hts iX0 hown hK.1 hP 0 rfl rfl 2 (by decide) (hts _ fl_RX0_18) (fun _ h => h) rfl dX0_anotherRoundFollows_71 ?_
      refine lv_iload_n (pc := 74) hx hb dX0_anotherRoundFollows_74 rfl (lv_at hl 0 rfl) ?_
      obtain ⟨h17, hf⟩ := ck_some hf
      refine va_iald (pc := 75) (f := o14.2.2 2) hx hb hK.1 hP 3 0 rfl rfl h17 dX0_anotherRoundFollows_75 ?_
      refine lv_ineg (pc := 76) hx hb dX0_anotherRoundFollows_76 ?_
      obtain ⟨x18, ex18, hf⟩ := bd_some hf
      refine ct_V (pc := 77) (As := [.int (o14.2.2 0 (x4 : Int32).toNatClampNeg), .int (o14.2.2 1 (x4 : Int32).toNatClampNeg), .int (-(o14.2.2 2 (x4 : Int32).toNatClampNeg))]) (rest := []) (wr := bX0 cI a q o14) (W1 := bX0 cI a q o14 ++ bX1 (q 14) x18) ⟨hx, hb, hml, hown, hts⟩ hK (c_X1_put l D cI cZ cS (q 14) (o14.2.2 0 (x4 : Int32).toNatClampNeg) (o14.2.2 1 (x4 : Int32).toNatClampNeg) (-(o14.2.2 2 (x4 : Int32).toNatClampNeg)) x3 x18 ex18) gv_RX0_74 rfl hs_X1_put rfl ⟨Nat.le_of_ble_eq_true rfl, Nat.le_of_ble_eq_true rfl⟩ (ci := 1) (q0 := 5) rfl rfl rfl hl.1 rfl (Nat.le_of_ble_eq_true rfl) dX0_anotherRoundFollows_77 ⟨Nat.zero_le _, Nat.zero_le _⟩ hP hD hS hA [5] [0, 1, 2, 3, 4] [0, 1, 2, 3, 4, 5] rfl rfl (by decide +kernel) (by decide +kernel) (by decide +kernel) (by decide +kernel) rfl (fun H locs hP hD hS => ?_)
      refine lv_iconst (v := 1) (pc := 80) hx hb dX0_anotherRoundFollows_80 (by decide) ?_
      obtain rfl := Option.some.inj hf
      exact W.zret hx hb hr rfl (fun t ht hW => ⟨rfl, by rw [ht]; exact hP, hD, hS.F ht⟩) hS.2.2 dX0_anotherRoundFollows_81
  · replace hf := ip c2 hf
    refine lv_iconst (v := 0) (pc := 10) hx hb dX0_anotherRoundFollows_10 (by decide) ?_
    obtain rfl := Option.some.inj hf
    exact W.zret hx hb hr rfl (fun t ht hW => ⟨rfl, by rw [ht]; exact hP, hD, hS.F ht⟩) hS.2.2 dX0_anotherRoundFollows_11
def f_X0_isSlot (i0 : Int32) : Option Int32 := if i0 < 0 then some 0 else if 9 ≤ i0 then some 0 else some 1
set_option maxHeartbeats 4000000 in
set_option maxRecDepth 100000 in
theorem c_X0_isSlot (l : Launch) (D : va_G) (cI cZ cS : ClassId) (i0 : Int32) (x : Int32) (hf : f_X0_isSlot i0 = some x) : Ct l yX0_isSlot cX0_isSlot 1 (some .boolean) 0 0 D cI cZ cS [.int i0] ([]) (some (.int x)) ([]) := by
  intro sz
  refine Met.ofW (cc := cX0_isSlot) (maxL := 1) (ret := (some .boolean)) (by decide +kernel) rfl ?_
  intro p e s m args below meth c s₁ B hml hv
  obtain ⟨rfl, hsz, hP, hK, hD0⟩ := hv
  have hx := B.exec
  have hb := B.bytes
  have hr := B.returns
  have hts0 := atoms_spec (ws := .code yX0_isSlot cX0_isSlot 1 (some .boolean) :: TB) B.pre
  have hts := fun w (h : w ∈ TB) => hts0 w (List.mem_cons_of_mem _ h)
  have hown : s.vm.findClass RX0 = some m.cls := findClass_of_methodNamed B.named
  have hlocks := B.notSynchronized
  subst hsz
  have hD := hD0.self (sz := s.heap.size)
  generalize hAe : va_A ([]) s.heap.size = A at hD ⊢
  have hA : ∀ q : Nat, s.heap.size ≤ q → A q := fun q h => by rw [← hAe]; exact Or.inr h
  have hS : va_S A s.heap s.heap [] := va_S.rf
  obtain ⟨H, hH⟩ : ∃ H, H = s.heap := ⟨_, rfl⟩
  rw [← hH] at hP
  have hS : va_S A s.heap H [] := by rw [hH]; exact hS
  have hl := lv_entry ([.int i0]) (n := 1) (Nat.le_of_ble_eq_true rfl)
  rw [lg_entry_eq]
  generalize (lg_sl ([.int i0]) ++ List.replicate (1 - (lg_sl ([.int i0])).length) Slot.unset).toArray = ls at hl ⊢
  have hl : lv_has ls 1 [(0, .int i0)] := hl
  refine W_heap hH ?_
  obtain ⟨locs, hlo⟩ : ∃ locs : List Loc, locs = [] := ⟨_, rfl⟩
  rw [← hlo] at hS ⊢
  unfold f_X0_isSlot at hf
  refine lv_iload_n (pc := 0) hx hb dX0_isSlot_0 rfl (lv_at hl 0 rfl) ?_
  refine lv_if_lt (pc := 1) (tgt := 14) hx hb dX0_isSlot_1 (by decide) (fun c1 => ?_) (fun c1 => ?_)
  · replace hf := ip c1 hf
    refine lv_iconst (v := 0) (pc := 14) hx hb dX0_isSlot_14 (by decide) ?_
    obtain rfl := Option.some.inj hf
    exact W.zret hx hb hr rfl (fun t ht hW => ⟨rfl, by rw [ht]; exact hP, hD, hS.F ht⟩) hS.2.2 dX0_isSlot_15
  · replace hf := im c1 hf
    refine lv_iload_n (pc := 4) hx hb dX0_isSlot_4 rfl (lv_at hl 0 rfl) ?_
    refine lv_bipush (v := 9) (pc := 5) hx hb dX0_isSlot_5 (by decide) ?_
    refine lv_icmp_ge (pc := 7) (tgt := 14) hx hb dX0_isSlot_7 (by decide) (fun c2 => ?_) (fun c2 => ?_)
    · replace hf := ip c2 hf
      refine lv_iconst (v := 0) (pc := 14) hx hb dX0_isSlot_14 (by decide) ?_
      obtain rfl := Option.some.inj hf
      exact W.zret hx hb hr rfl (fun t ht hW => ⟨rfl, by rw [ht]; exact hP, hD, hS.F ht⟩) hS.2.2 dX0_isSlot_15
    · replace hf := im c2 hf
      refine lv_iconst (v := 1) (pc := 10) hx hb dX0_isSlot_10 (by decide) ?_
      refine lv_goto (pc := 11) (tgt := 15) hx hb dX0_isSlot_11 (by decide) ?_
      obtain rfl := Option.some.inj hf
      exact W.zret hx hb hr rfl (fun t ht hW => ⟨rfl, by rw [ht]; exact hP, hD, hS.F ht⟩) hS.2.2 dX0_isSlot_15
def f_X0_isActive (i0 : Int32) (od : OS) : Option Int32 := if (((od.1 9) >>> (i0 &&& 31)) &&& 1) = 1 then some 1 else some 0
set_option maxHeartbeats 4000000 in
set_option maxRecDepth 100000 in
theorem c_X0_isActive (l : Launch) (D : va_G) (cI cZ cS : ClassId) (a : Nat) (q : Nat → Nat) (i0 : Int32) (od : OS) (x : Int32) (hf : f_X0_isActive i0 od = some x) : Ct l yX0_isActive cX0_isActive 2 (some .boolean) 0 0 D cI cZ cS [.ref a, .int i0] (bX0 cI a q od) (some (.int x)) (bX0 cI a q od) := by
  intro sz
  refine Met.ofW (cc := cX0_isActive) (maxL := 2) (ret := (some .boolean)) (by decide +kernel) rfl ?_
  intro p e s m args below meth c s₁ B hml hv
  obtain ⟨rfl, hsz, hP, hK, hD0⟩ := hv
  have hx := B.exec
  have hb := B.bytes
  have hr := B.returns
  have hts0 := atoms_spec (ws := .code yX0_isActive cX0_isActive 2 (some .boolean) :: TB) B.pre
  have hts := fun w (h : w ∈ TB) => hts0 w (List.mem_cons_of_mem _ h)
  have hown : s.vm.findClass RX0 = some m.cls := findClass_of_methodNamed B.named
  have hlocks := B.notSynchronized
  subst hsz
  have hD := hD0.self (sz := s.heap.size)
  generalize hAe : va_A (bX0 cI a q od) s.heap.size = A at hD ⊢
  have hA : ∀ q : Nat, s.heap.size ≤ q → A q := fun q h => by rw [← hAe]; exact Or.inr h
  have hS : va_S A s.heap s.heap [] := va_S.rf
  obtain ⟨H, hH⟩ : ∃ H, H = s.heap := ⟨_, rfl⟩
  rw [← hH] at hP
  have hS : va_S A s.heap H [] := by rw [hH]; exact hS
  have hl := lv_entry ([.ref a, .int i0]) (n := 2) (Nat.le_of_ble_eq_true rfl)
  rw [lg_entry_eq]
  generalize (lg_sl ([.ref a, .int i0]) ++ List.replicate (2 - (lg_sl ([.ref a, .int i0])).length) Slot.unset).toArray = ls at hl ⊢
  have hl : lv_has ls 2 [(0, .ref a), (1, .int i0)] := hl
  refine W_heap hH ?_
  obtain ⟨locs, hlo⟩ : ∃ locs : List Loc, locs = [] := ⟨_, rfl⟩
  rw [← hlo] at hS ⊢
  unfold f_X0_isActive at hf
  refine lv_aload_n (pc := 0) hx hb dX0_isActive_0 rfl (lv_at hl 0 rfl) ?_
  refine va_get (pc := 1) (D := D) (ci := 0) (v := .int (od.1 9)) (C := RX0) (T := TX0) (N := 15) hx hb hts iX0 hown hK.1 hP 0 rfl rfl 9 (by decide) (hts _ fl_RX0_82) (fun _ h => h) rfl dX0_isActive_1 ?_
  refine lv_iload_n (pc := 4) hx hb dX0_isActive_4 rfl (lv_at hl 1 rfl) ?_
  refine lv_ishr (pc := 5) hx hb dX0_isActive_5 ?_
  refine lv_iconst (v := 1) (pc := 6) hx hb dX0_isActive_6 (by decide) ?_
  refine lv_iand (pc := 7) hx hb dX0_isActive_7 ?_
  refine lv_iconst (v := 1) (pc := 8) hx hb dX0_isActive_8 (by decide) ?_
  refine lv_icmp_ne (pc := 9) (tgt := 16) hx hb dX0_isActive_9 (by decide) (fun c1 => ?_) (fun c1 => ?_)
  · replace hf := im c1 hf
    refine lv_iconst (v := 0) (pc := 16) hx hb dX0_isActive_16 (by decide) ?_
    obtain rfl := Option.some.inj hf
    exact W.zret hx hb hr rfl (fun t ht hW => ⟨rfl, by rw [ht]; exact hP, hD, hS.F ht⟩) hS.2.2 dX0_isActive_17
  · replace hf := ip c1 hf
    refine lv_iconst (v := 1) (pc := 12) hx hb dX0_isActive_12 (by decide) ?_
    refine lv_goto (pc := 13) (tgt := 17) hx hb dX0_isActive_13 (by decide) ?_
    obtain rfl := Option.some.inj hf
    exact W.zret hx hb hr rfl (fun t ht hW => ⟨rfl, by rw [ht]; exact hP, hD, hS.F ht⟩) hS.2.2 dX0_isActive_17
def f_X0_shareTop (i0 : Int32) (od : OS) (odp : OS) : Option Int64 := Option.bind (f_X0_isSlot i0) fun x1 => if x1 = 0 then some 0 else Option.bind (f_X0_isActive i0 od) fun x3 => if x3 = 0 then some 0 else ck i0 9 (ck i0 9 (ck i0 9 (Option.bind (f_X1_topAt (od.2.2 0 (i0 : Int32).toNatClampNeg) (od.2.2 1 (i0 : Int32).toNatClampNeg) odp) fun x8 => some ((((od.2.2 2 (i0 : Int32).toNatClampNeg) : Int32).toInt64) * x8))))
set_option maxHeartbeats 4000000 in
set_option maxRecDepth 100000 in
theorem c_X0_shareTop (l : Launch) (D : va_G) (cI cZ cS : ClassId) (a : Nat) (q : Nat → Nat) (i0 : Int32) (od : OS) (odp : OS) (x : Int64) (hf : f_X0_shareTop i0 od odp = some x) : Ct l yX0_shareTop cX0_shareTop 2 (some .long) 1 22 D cI cZ cS [.ref a, .int i0] (bX0 cI a q od ++ bX1 (q 14) odp) (some (.long x)) (bX0 cI a q od ++ bX1 (q 14) odp) := by
  intro sz
  refine Met.ofW (cc := cX0_shareTop) (maxL := 2) (ret := (some .long)) (by decide +kernel) rfl ?_
  intro p e s m args below meth c s₁ B hml hv
  obtain ⟨rfl, hsz, hP, hK, hD0⟩ := hv
  have hx := B.exec
  have hb := B.bytes
  have hr := B.returns
  have hts0 := atoms_spec (ws := .code yX0_shareTop cX0_shareTop 2 (some .long) :: TB) B.pre
  have hts := fun w (h : w ∈ TB) => hts0 w (List.mem_cons_of_mem _ h)
  have hown : s.vm.findClass RX0 = some m.cls := findClass_of_methodNamed B.named
  have hlocks := B.notSynchronized
  subst hsz
  have hD := hD0.self (sz := s.heap.size)
  generalize hAe : va_A (bX0 cI a q od ++ bX1 (q 14) odp) s.heap.size = A at hD ⊢
  have hA : ∀ q : Nat, s.heap.size ≤ q → A q := fun q h => by rw [← hAe]; exact Or.inr h
  have hS : va_S A s.heap s.heap [] := va_S.rf
  obtain ⟨H, hH⟩ : ∃ H, H = s.heap := ⟨_, rfl⟩
  rw [← hH] at hP
  have hS : va_S A s.heap H [] := by rw [hH]; exact hS
  have hl := lv_entry ([.ref a, .int i0]) (n := 2) (Nat.le_of_ble_eq_true rfl)
  rw [lg_entry_eq]
  generalize (lg_sl ([.ref a, .int i0]) ++ List.replicate (2 - (lg_sl ([.ref a, .int i0])).length) Slot.unset).toArray = ls at hl ⊢
  have hl : lv_has ls 2 [(0, .ref a), (1, .int i0)] := hl
  refine W_heap hH ?_
  obtain ⟨locs, hlo⟩ : ∃ locs : List Loc, locs = [] := ⟨_, rfl⟩
  rw [← hlo] at hS ⊢
  unfold f_X0_shareTop at hf
  refine lv_iload_n (pc := 0) hx hb dX0_shareTop_0 rfl (lv_at hl 1 rfl) ?_
  obtain ⟨x1, ex1, hf⟩ := bd_some hf
  refine ct_S0 (pc := 1) (As := [.int i0]) (rest := []) ⟨hx, hb, hml, hown, hts⟩ hK (c_X0_isSlot l D cI cZ cS i0 x1 ex1) gs_RX0_124 hs_X0_isSlot rfl ⟨Nat.le_of_ble_eq_true rfl, Nat.le_of_ble_eq_true rfl⟩ hl.1 rfl (Nat.le_of_ble_eq_true rfl) dX0_shareTop_1 ⟨Nat.zero_le _, Nat.zero_le _⟩ hP hS hA (fun H locs hP hS => ?_)
  refine lv_if_eq (pc := 4) (tgt := 45) hx hb dX0_shareTop_4 (by decide) (fun c2 => ?_) (fun c2 => ?_)
  · replace hf := ip c2 hf
    refine lv_lconst (v := 0) (pc := 45) hx hb dX0_shareTop_45 (by decide) ?_
    obtain rfl := Option.some.inj hf
    exact W.lret hx hb hr (fun t ht hW => ⟨rfl, by rw [ht]; exact hP, hD, hS.F ht⟩) hS.2.2 dX0_shareTop_46
  · replace hf := im c2 hf
    refine lv_aload_n (pc := 7) hx hb dX0_shareTop_7 rfl (lv_at hl 0 rfl) ?_
    refine lv_iload_n (pc := 8) hx hb dX0_shareTop_8 rfl (lv_at hl 1 rfl) ?_
    obtain ⟨x3, ex3, hf⟩ := bd_some hf
    refine ct_V (pc := 9) (As := [.int i0]) (rest := []) (wr := bX1 (q 14) odp) (W1 := bX0 cI a q od ++ bX1 (q 14) odp) ⟨hx, hb, hml, hown, hts⟩ hK (c_X0_isActive l D cI cZ cS a q i0 od x3 ex3) gv_RX0_128 rfl hs_X0_isActive rfl ⟨Nat.le_of_ble_eq_true rfl, Nat.le_of_ble_eq_true rfl⟩ (ci := 0) (q0 := 0) rfl rfl rfl hl.1 rfl (Nat.le_of_ble_eq_true rfl) dX0_shareTop_9 ⟨Nat.zero_le _, Nat.zero_le _⟩ hP hD hS hA [0, 1, 2, 3, 4] [5] [1, 2, 3, 4, 5, 0] rfl rfl (by decide +kernel) (by decide +kernel) (by decide +kernel) (by decide +kernel) rfl (fun H locs hP hD hS => ?_)
    refine lv_if_eq (pc := 12) (tgt := 45) hx hb dX0_shareTop_12 (by decide) (fun c4 => ?_) (fun c4 => ?_)
    · replace hf := ip c4 hf
      refine lv_lconst (v := 0) (pc := 45) hx hb dX0_shareTop_45 (by decide) ?_
      obtain rfl := Option.some.inj hf
      exact W.lret hx hb hr (fun t ht hW => ⟨rfl, by rw [ht]; exact hP, hD, hS.F ht⟩) hS.2.2 dX0_shareTop_46
    · replace hf := im c4 hf
      refine lv_aload_n (pc := 15) hx hb dX0_shareTop_15 rfl (lv_at hl 0 rfl) ?_
      refine va_get (pc := 16) (D := D) (ci := 0) (v := .ref (q 2)) (C := RX0) (T := TX0) (N := 15) hx hb hts iX0 hown hK.1 hP 0 rfl rfl 2 (by decide) (hts _ fl_RX0_18) (fun _ h => h) rfl dX0_shareTop_16 ?_
      refine lv_iload_n (pc := 19) hx hb dX0_shareTop_19 rfl (lv_at hl 1 rfl) ?_
      obtain ⟨h5, hf⟩ := ck_some hf
      refine va_iald (pc := 20) (f := od.2.2 2) hx hb hK.1 hP 3 0 rfl rfl h5 dX0_shareTop_20 ?_
      refine lv_i2l (pc := 21) hx hb dX0_shareTop_21 rfl ?_
      refine lv_aload_n (pc := 22) hx hb dX0_shareTop_22 rfl (lv_at hl 0 rfl) ?_
      refine va_get (pc := 23) (D := D) (ci := 0) (v := .ref (q 14)) (C := RX0) (T := TX0) (N := 15) hx hb hts iX0 hown hK.1 hP 0 rfl rfl 14 (by decide) (hts _ fl_RX0_31) (fun _ h => h) rfl dX0_shareTop_23 ?_
      refine lv_aload_n (pc := 26) hx hb dX0_shareTop_26 rfl (lv_at hl 0 rfl) ?_
      refine va_get (pc := 27) (D := D) (ci := 0) (v := .ref (q 0)) (C := RX0) (T := TX0) (N := 15) hx hb hts iX0 hown hK.1 hP 0 rfl rfl 0 (by decide) (hts _ fl_RX0_11) (fun _ h => h) rfl dX0_shareTop_27 ?_
      refine lv_iload_n (pc := 30) hx hb dX0_shareTop_30 rfl (lv_at hl 1 rfl) ?_
      obtain ⟨h6, hf⟩ := ck_some hf
      refine va_iald (pc := 31) (f := od.2.2 0) hx hb hK.1 hP 1 0 rfl rfl h6 dX0_shareTop_31 ?_
      refine lv_aload_n (pc := 32) hx hb dX0_shareTop_32 rfl (lv_at hl 0 rfl) ?_
      refine va_get (pc := 33) (D := D) (ci := 0) (v := .ref (q 1)) (C := RX0) (T := TX0) (N := 15) hx hb hts iX0 hown hK.1 hP 0 rfl rfl 1 (by decide) (hts _ fl_RX0_15) (fun _ h => h) rfl dX0_shareTop_33 ?_
      refine lv_iload_n (pc := 36) hx hb dX0_shareTop_36 rfl (lv_at hl 1 rfl) ?_
      obtain ⟨h7, hf⟩ := ck_some hf
      refine va_iald (pc := 37) (f := od.2.2 1) hx hb hK.1 hP 2 0 rfl rfl h7 dX0_shareTop_37 ?_
      obtain ⟨x8, ex8, hf⟩ := bd_some hf
      refine ct_V (pc := 38) (As := [.int (od.2.2 0 (i0 : Int32).toNatClampNeg), .int (od.2.2 1 (i0 : Int32).toNatClampNeg)]) (rest := [.long (((od.2.2 2 (i0 : Int32).toNatClampNeg) : Int32).toInt64)]) (wr := bX0 cI a q od) (W1 := bX0 cI a q od ++ bX1 (q 14) odp) ⟨hx, hb, hml, hown, hts⟩ hK (c_X1_topAt l D cI cZ cS (q 14) (od.2.2 0 (i0 : Int32).toNatClampNeg) (od.2.2 1 (i0 : Int32).toNatClampNeg) odp x8 ex8) gv_RX0_113 rfl hs_X1_topAt rfl ⟨Nat.le_of_ble_eq_true rfl, Nat.le_of_ble_eq_true rfl⟩ (ci := 1) (q0 := 5) rfl rfl rfl hl.1 rfl (Nat.le_of_ble_eq_true rfl) dX0_shareTop_38 ⟨Nat.zero_le _, Nat.zero_le _⟩ hP hD hS hA [5] [0, 1, 2, 3, 4] [0, 1, 2, 3, 4, 5] rfl rfl (by decide +kernel) (by decide +kernel) (by decide +kernel) (by decide +kernel) rfl (fun H locs hP hD hS => ?_)
      refine lv_lmul (pc := 41) hx hb dX0_shareTop_41 ?_
      refine lv_goto (pc := 42) (tgt := 46) hx hb dX0_shareTop_42 (by decide) ?_
      obtain rfl := Option.some.inj hf
      exact W.lret hx hb hr (fun t ht hW => ⟨rfl, by rw [ht]; exact hP, hD, hS.F ht⟩) hS.2.2 dX0_shareTop_46
def lp_X0_findMostUsed_9 (u_DP : OS) : Nat → Int64 → Int32 → OS → Option (Int64 × Int32 × OS)
  | 0, _, _, _ => none
  | n + 1, v1, v3, w_D => if (w_D.1 4) ≤ v3 then some (v1, v3, w_D) else if (((w_D.1 8) >>> (v3 &&& 31)) &&& 1) = 1 then Option.bind (f_X0_shareTop v3 w_D u_DP) fun x7 => if (w_D.1 12) < 0 then lt (sI w_D 12 v3) fun o9 => lp_X0_findMostUsed_9 u_DP n x7 (v3 + 1) o9 else ck (w_D.1 12) 9 (ck v3 9 (if (x7 * (((w_D.2.2 3 ((w_D.1 12) : Int32).toNatClampNeg) : Int32).toInt64)) ≤ (v1 * (((w_D.2.2 3 (v3 : Int32).toNatClampNeg) : Int32).toInt64)) then lp_X0_findMostUsed_9 u_DP n v1 (v3 + 1) w_D else lt (sI w_D 12 v3) fun o13 => lp_X0_findMostUsed_9 u_DP n x7 (v3 + 1) o13)) else lp_X0_findMostUsed_9 u_DP n v1 (v3 + 1) w_D
def f_X0_findMostUsed (od : OS) (odp : OS) : Option OS := lt (sI od 12 (-1)) fun o1 => Option.bind (lp_X0_findMostUsed_9 odp 1000 0 0 o1) fun z2 => some z2.2.2
set_option maxHeartbeats 4000000 in
set_option maxRecDepth 100000 in
theorem c_X0_findMostUsed (l : Launch) (D : va_G) (cI cZ cS : ClassId) (a : Nat) (q : Nat → Nat) (od : OS) (odp : OS) (x : OS) (hf : f_X0_findMostUsed od odp = some x) : Ct l yX0_findMostUsed cX0_findMostUsed 6 none 2 43 D cI cZ cS [.ref a] (bX0 cI a q od ++ bX1 (q 14) odp) none (bX0 cI a q x ++ bX1 (q 14) odp) := by
  intro sz
  refine Met.ofW (cc := cX0_findMostUsed) (maxL := 6) (ret := none) (by decide +kernel) rfl ?_
  intro p e s m args below meth c s₁ B hml hv
  obtain ⟨rfl, hsz, hP, hK, hD0⟩ := hv
  have hx := B.exec
  have hb := B.bytes
  have hr := B.returns
  have hts0 := atoms_spec (ws := .code yX0_findMostUsed cX0_findMostUsed 6 none :: TB) B.pre
  have hts := fun w (h : w ∈ TB) => hts0 w (List.mem_cons_of_mem _ h)
  have hown : s.vm.findClass RX0 = some m.cls := findClass_of_methodNamed B.named
  have hlocks := B.notSynchronized
  subst hsz
  have hD := hD0.self (sz := s.heap.size)
  generalize hAe : va_A (bX0 cI a q od ++ bX1 (q 14) odp) s.heap.size = A at hD ⊢
  have hA : ∀ q : Nat, s.heap.size ≤ q → A q := fun q h => by rw [← hAe]; exact Or.inr h
  have hS : va_S A s.heap s.heap [] := va_S.rf
  obtain ⟨H, hH⟩ : ∃ H, H = s.heap := ⟨_, rfl⟩
  rw [← hH] at hP
  have hS : va_S A s.heap H [] := by rw [hH]; exact hS
  have hl := lv_entry ([.ref a]) (n := 6) (Nat.le_of_ble_eq_true rfl)
  rw [lg_entry_eq]
  generalize (lg_sl ([.ref a]) ++ List.replicate (6 - (lg_sl ([.ref a])).length) Slot.unset).toArray = ls at hl ⊢
  have hl : lv_has ls 6 [(0, .ref a)] := hl
  refine W_heap hH ?_
  obtain ⟨locs, hlo⟩ : ∃ locs : List Loc, locs = [] := ⟨_, rfl⟩
  rw [← hlo] at hS ⊢
  unfold f_X0_findMostUsed at hf
  refine lv_aload_n (pc := 0) hx hb dX0_findMostUsed_0 rfl (lv_at hl 0 rfl) ?_
  refine lv_iconst (v := -1) (pc := 1) hx hb dX0_findMostUsed_1 (by decide) ?_
  obtain ⟨o1, eo1, hf⟩ := lt_some hf
  refine va_put (pc := 2) (D := D) (ci := 0) (v := .int (-1)) (ty := .int) (C := RX0) (T := TX0) (N := 15) hx hb hts iX0 tyX0 tyX0_ok nmX0 hown hK.1 hP hD hS 0 rfl rfl 12 (by decide) (hts _ fl_RX0_117) (fun _ h => h) rfl (tyX0_ok 12 (by decide)) rfl rfl (Nat.le_of_ble_eq_true rfl) dX0_findMostUsed_2 (fun H locs hP hD hS => ?_)
  replace hP : va_P D vwCl (bX0 cI a q o1 ++ bX1 (q 14) odp) H := by rw [eo1]; exact hP
  replace hD : va_D A (bX0 cI a q o1 ++ bX1 (q 14) odp) := by rw [eo1]; exact hD
  refine lv_lconst (v := 0) (pc := 5) hx hb dX0_findMostUsed_5 (by decide) ?_
  refine lv_lstore_n (lv' := [(1, .long 0), (0, .ref a)]) (pc := 6) hx hb dX0_findMostUsed_6 rfl hl (by decide) rfl (fun ls hl => ?_)
  refine lv_iconst (v := 0) (pc := 7) hx hb dX0_findMostUsed_7 (by decide) ?_
  refine lv_istore_n (lv' := [(3, .int 0), (1, .long 0), (0, .ref a)]) (pc := 8) hx hb dX0_findMostUsed_8 rfl hl (by decide) rfl (fun ls hl => ?_)
  obtain ⟨z2, hz2, hf⟩ := bd_some hf
  have hfz2 := hf
  clear hf
  have K3 : ∀ (H : Heap) (locs : List Loc) (ls : Array Slot), va_P D vwCl (bX0 cI a q z2.2.2 ++ bX1 (q 14) odp) H → va_D A (bX0 cI a q z2.2.2 ++ bX1 (q 14) odp) → va_S A s.heap H locs → lv_has ls 6 [(0, .ref a), (1, .long z2.1), (3, .int z2.2.1)] → GW l yX0_findMostUsed cX0_findMostUsed 6 none 2 43 D [.ref a] none (bX0 cI a q x ++ bX1 (q 14) odp) A p e s m below meth c H locs (F0 m 83 ls []) := by
    intro H locs ls hP hD hS hl
    have hf := hfz2
    obtain rfl := Option.some.inj hf
    exact W.vret hx hb hr (fun t ht hW => ⟨rfl, by rw [ht]; exact hP, hD, hS.F ht⟩) hS.2.2 dX0_findMostUsed_83
  have KL4 : ∀ (n : Nat) (v1 : Int64) (v3 : Int32) (w_D : OS) (H : Heap) (locs : List Loc) (ls : Array Slot), lp_X0_findMostUsed_9 odp n v1 v3 w_D = some z2 → va_P D vwCl (bX0 cI a q w_D ++ bX1 (q 14) odp) H → va_D A (bX0 cI a q w_D ++ bX1 (q 14) odp) → va_S A s.heap H locs → lv_has ls 6 [(0, .ref a), (1, .long v1), (3, .int v3)] → GW l yX0_findMostUsed cX0_findMostUsed 6 none 2 43 D [.ref a] none (bX0 cI a q x ++ bX1 (q 14) odp) A p e s m below meth c H locs (F0 m 9 ls []) := by
    intro n
    induction n with
    | zero => intro v1 v3 w_D H locs ls hf; cases hf
    | succ n ih =>
      intro v1 v3 w_D H locs ls hf hP hD hS hl
      rw [lp_X0_findMostUsed_9] at hf
      refine lv_iload_n (pc := 9) hx hb dX0_findMostUsed_9 rfl (lv_at hl 2 rfl) ?_
      refine lv_aload_n (pc := 10) hx hb dX0_findMostUsed_10 rfl (lv_at hl 0 rfl) ?_
      refine va_get (pc := 11) (D := D) (ci := 0) (v := .int (w_D.1 4)) (C := RX0) (T := TX0) (N := 15) hx hb hts iX0 hown hK.1 hP 0 rfl rfl 4 (by decide) (hts _ fl_RX0_50) (fun _ h => h) rfl dX0_findMostUsed_11 ?_
      refine lv_icmp_ge (pc := 14) (tgt := 83) hx hb dX0_findMostUsed_14 (by decide) (fun c5 => ?_) (fun c5 => ?_)
      · replace hf := ip c5 hf
        obtain rfl := Option.some.inj hf
        exact K3 H locs ls hP hD hS (lv_sub hl [0, 1, 2] rfl)
      · replace hf := im c5 hf
        refine lv_aload_n (pc := 17) hx hb dX0_findMostUsed_17 rfl (lv_at hl 0 rfl) ?_
        refine va_get (pc := 18) (D := D) (ci := 0) (v := .int (w_D.1 8)) (C := RX0) (T := TX0) (N := 15) hx hb hts iX0 hown hK.1 hP 0 rfl rfl 8 (by decide) (hts _ fl_RX0_68) (fun _ h => h) rfl dX0_findMostUsed_18 ?_
        refine lv_iload_n (pc := 21) hx hb dX0_findMostUsed_21 rfl (lv_at hl 2 rfl) ?_
        refine lv_ishr (pc := 22) hx hb dX0_findMostUsed_22 ?_
        refine lv_iconst (v := 1) (pc := 23) hx hb dX0_findMostUsed_23 (by decide) ?_
        refine lv_iand (pc := 24) hx hb dX0_findMostUsed_24 ?_
        refine lv_iconst (v := 1) (pc := 25) hx hb dX0_findMostUsed_25 (by decide) ?_
        refine lv_icmp_ne (pc := 26) (tgt := 77) hx hb dX0_findMostUsed_26 (by decide) (fun c6 => ?_) (fun c6 => ?_)
        · replace hf := im c6 hf
          refine lv_iinc (v := (v3 + 1)) (lv' := [(3, .int (v3 + 1)), (0, .ref a), (1, .long v1)]) (pc := 77) hx hb dX0_findMostUsed_77 hl (k := 2) rfl rfl (by decide) rfl (fun ls hl => ?_)
          refine lv_goto (pc := 80) (tgt := 9) hx hb dX0_findMostUsed_80 (by decide) ?_
          exact ih _ _ _ H locs ls hf hP hD hS (lv_sub hl [1, 2, 0] rfl)
        · replace hf := ip c6 hf
          refine lv_aload_n (pc := 29) hx hb dX0_findMostUsed_29 rfl (lv_at hl 0 rfl) ?_
          refine lv_iload_n (pc := 30) hx hb dX0_findMostUsed_30 rfl (lv_at hl 2 rfl) ?_
          obtain ⟨x7, ex7, hf⟩ := bd_some hf
          refine ct_V1 (pc := 31) (As := [.int v3]) (rest := []) (W1 := bX0 cI a q w_D ++ bX1 (q 14) odp) ⟨hx, hb, hml, hown, hts⟩ hK (c_X0_shareTop l D cI cZ cS a q v3 w_D odp x7 ex7) gv_RX0_120 rfl hs_X0_shareTop rfl ⟨Nat.le_of_ble_eq_true rfl, Nat.le_of_ble_eq_true rfl⟩ (ci := 0) (q0 := 0) rfl rfl rfl hl.1 rfl (Nat.le_of_ble_eq_true rfl) dX0_findMostUsed_31 ⟨Nat.zero_le _, Nat.zero_le _⟩ hP hD hS hA (fun H locs hP hD hS => ?_)
          refine lv_lstore (lv' := [(4, .long x7), (0, .ref a), (1, .long v1), (3, .int v3)]) (pc := 34) hx hb dX0_findMostUsed_34 hl (by decide) rfl (fun ls hl => ?_)
          refine lv_aload_n (pc := 36) hx hb dX0_findMostUsed_36 rfl (lv_at hl 1 rfl) ?_
          refine va_get (pc := 37) (D := D) (ci := 0) (v := .int (w_D.1 12)) (C := RX0) (T := TX0) (N := 15) hx hb hts iX0 hown hK.1 hP 0 rfl rfl 12 (by decide) (hts _ fl_RX0_117) (fun _ h => h) rfl dX0_findMostUsed_37 ?_
          refine lv_if_lt (pc := 40) (tgt := 69) hx hb dX0_findMostUsed_40 (by decide) (fun c8 => ?_) (fun c8 => ?_)
          · replace hf := ip c8 hf
            refine lv_aload_n (pc := 69) hx hb dX0_findMostUsed_69 rfl (lv_at hl 1 rfl) ?_
            refine lv_iload_n (pc := 70) hx hb dX0_findMostUsed_70 rfl (lv_at hl 3 rfl) ?_
            obtain ⟨o9, eo9, hf⟩ := lt_some hf
            refine va_put (pc := 71) (D := D) (ci := 0) (v := .int v3) (ty := .int) (C := RX0) (T := TX0) (N := 15) hx hb hts iX0 tyX0 tyX0_ok nmX0 hown hK.1 hP hD hS 0 rfl rfl 12 (by decide) (hts _ fl_RX0_117) (fun _ h => h) rfl (tyX0_ok 12 (by decide)) rfl rfl (Nat.le_of_ble_eq_true rfl) dX0_findMostUsed_71 (fun H locs hP hD hS => ?_)
            replace hP : va_P D vwCl (bX0 cI a q o9 ++ bX1 (q 14) odp) H := by rw [eo9]; exact hP
            replace hD : va_D A (bX0 cI a q o9 ++ bX1 (q 14) odp) := by rw [eo9]; exact hD
            refine lv_lload (pc := 74) hx hb dX0_findMostUsed_74 (lv_at hl 0 rfl) ?_
            refine lv_lstore_n (lv' := [(1, .long x7), (4, .long x7), (0, .ref a), (3, .int v3)]) (pc := 76) hx hb dX0_findMostUsed_76 rfl hl (by decide) rfl (fun ls hl => ?_)
            refine lv_iinc (v := (v3 + 1)) (lv' := [(3, .int (v3 + 1)), (1, .long x7), (4, .long x7), (0, .ref a)]) (pc := 77) hx hb dX0_findMostUsed_77 hl (k := 3) rfl rfl (by decide) rfl (fun ls hl => ?_)
            refine lv_goto (pc := 80) (tgt := 9) hx hb dX0_findMostUsed_80 (by decide) ?_
            exact ih _ _ _ H locs ls hf hP hD hS (lv_sub hl [3, 1, 0] rfl)
          · replace hf := im c8 hf
            refine lv_lload (pc := 43) hx hb dX0_findMostUsed_43 (lv_at hl 0 rfl) ?_
            refine lv_aload_n (pc := 45) hx hb dX0_findMostUsed_45 rfl (lv_at hl 1 rfl) ?_
            refine va_get (pc := 46) (D := D) (ci := 0) (v := .ref (q 3)) (C := RX0) (T := TX0) (N := 15) hx hb hts iX0 hown hK.1 hP 0 rfl rfl 3 (by decide) (hts _ fl_RX0_21) (fun _ h => h) rfl dX0_findMostUsed_46 ?_
            refine lv_aload_n (pc := 49) hx hb dX0_findMostUsed_49 rfl (lv_at hl 1 rfl) ?_
            refine va_get (pc := 50) (D := D) (ci := 0) (v := .int (w_D.1 12)) (C := RX0) (T := TX0) (N := 15) hx hb hts iX0 hown hK.1 hP 0 rfl rfl 12 (by decide) (hts _ fl_RX0_117) (fun _ h => h) rfl dX0_findMostUsed_50 ?_
            obtain ⟨h10, hf⟩ := ck_some hf
            refine va_iald (pc := 53) (f := w_D.2.2 3) hx hb hK.1 hP 4 0 rfl rfl h10 dX0_findMostUsed_53 ?_
            refine lv_i2l (pc := 54) hx hb dX0_findMostUsed_54 rfl ?_
            refine lv_lmul (pc := 55) hx hb dX0_findMostUsed_55 ?_
            refine lv_lload_n (pc := 56) hx hb dX0_findMostUsed_56 rfl (lv_at hl 2 rfl) ?_
            refine lv_aload_n (pc := 57) hx hb dX0_findMostUsed_57 rfl (lv_at hl 1 rfl) ?_
            refine va_get (pc := 58) (D := D) (ci := 0) (v := .ref (q 3)) (C := RX0) (T := TX0) (N := 15) hx hb hts iX0 hown hK.1 hP 0 rfl rfl 3 (by decide) (hts _ fl_RX0_21) (fun _ h => h) rfl dX0_findMostUsed_58 ?_
            refine lv_iload_n (pc := 61) hx hb dX0_findMostUsed_61 rfl (lv_at hl 3 rfl) ?_
            obtain ⟨h11, hf⟩ := ck_some hf
            refine va_iald (pc := 62) (f := w_D.2.2 3) hx hb hK.1 hP 4 0 rfl rfl h11 dX0_findMostUsed_62 ?_
            refine lv_i2l (pc := 63) hx hb dX0_findMostUsed_63 rfl ?_
            refine lv_lmul (pc := 64) hx hb dX0_findMostUsed_64 ?_
            refine W.lcmp (pc := 65) hx hb dX0_findMostUsed_65 ?_
            refine lv_if_le (pc := 66) (tgt := 77) hx hb dX0_findMostUsed_66 (by decide) (fun c12 => ?_) (fun c12 => ?_)
            · replace c12 := (lg_cmp_le _ _).mp c12
              replace hf := ip c12 hf
              refine lv_iinc (v := (v3 + 1)) (lv' := [(3, .int (v3 + 1)), (4, .long x7), (0, .ref a), (1, .long v1)]) (pc := 77) hx hb dX0_findMostUsed_77 hl (k := 3) rfl rfl (by decide) rfl (fun ls hl => ?_)
              refine lv_goto (pc := 80) (tgt := 9) hx hb dX0_findMostUsed_80 (by decide) ?_
              exact ih _ _ _ H locs ls hf hP hD hS (lv_sub hl [2, 3, 0] rfl)
            · replace c12 := fun q => c12 ((lg_cmp_le _ _).mpr q)
              replace hf := im c12 hf
              refine lv_aload_n (pc := 69) hx hb dX0_findMostUsed_69 rfl (lv_at hl 1 rfl) ?_
              refine lv_iload_n (pc := 70) hx hb dX0_findMostUsed_70 rfl (lv_at hl 3 rfl) ?_
              obtain ⟨o13, eo13, hf⟩ := lt_some hf
              refine va_put (pc := 71) (D := D) (ci := 0) (v := .int v3) (ty := .int) (C := RX0) (T := TX0) (N := 15) hx hb hts iX0 tyX0 tyX0_ok nmX0 hown hK.1 hP hD hS 0 rfl rfl 12 (by decide) (hts _ fl_RX0_117) (fun _ h => h) rfl (tyX0_ok 12 (by decide)) rfl rfl (Nat.le_of_ble_eq_true rfl) dX0_findMostUsed_71 (fun H locs hP hD hS => ?_)
              replace hP : va_P D vwCl (bX0 cI a q o13 ++ bX1 (q 14) odp) H := by rw [eo13]; exact hP
              replace hD : va_D A (bX0 cI a q o13 ++ bX1 (q 14) odp) := by rw [eo13]; exact hD
              refine lv_lload (pc := 74) hx hb dX0_findMostUsed_74 (lv_at hl 0 rfl) ?_
              refine lv_lstore_n (lv' := [(1, .long x7), (4, .long x7), (0, .ref a), (3, .int v3)]) (pc := 76) hx hb dX0_findMostUsed_76 rfl hl (by decide) rfl (fun ls hl => ?_)
              refine lv_iinc (v := (v3 + 1)) (lv' := [(3, .int (v3 + 1)), (1, .long x7), (4, .long x7), (0, .ref a)]) (pc := 77) hx hb dX0_findMostUsed_77 hl (k := 3) rfl rfl (by decide) rfl (fun ls hl => ?_)
              refine lv_goto (pc := 80) (tgt := 9) hx hb dX0_findMostUsed_80 (by decide) ?_
              exact ih _ _ _ H locs ls hf hP hD hS (lv_sub hl [3, 1, 0] rfl)
  exact KL4 1000 _ _ _ H locs ls hz2 hP hD hS (lv_sub hl [2, 1, 0] rfl)
def lp_X0_settle_33 : Nat → Int32 → Int32 → OS → OS → Option (Int32 × Int32 × OS × OS)
  | 0, _, _, _, _ => none
  | n + 1, v1, v2, w_D, w_DP => if 40 < v2 then some (v1, v2, w_D, w_DP) else if v1 = 0 then some (v1, v2, w_D, w_DP) else lt (sI w_D 10 v2) fun o12 => Option.bind (f_X0_anotherRoundFollows o12 w_DP) fun x13 => lp_X0_settle_33 n x13.1 (v2 + 1) x13.2.1 x13.2.2
def f_X0_settle (od : OS) (odw : OS) (odp : OS) : Option (OS × OS) := Option.bind (f_X1_copySums odp odw) fun x1 => lt (sI od 9 (od.1 8)) fun o2 => lt (sI o2 11 0) fun o3 => lt (sI o3 10 0) fun o4 => Option.bind (lp_X0_settle_33 1000 1 1 o4 x1) fun z5 => if (z5.2.2.1.1 11) = 0 then some (z5.2.2.1, z5.2.2.2) else Option.bind (f_X0_findMostUsed z5.2.2.1 z5.2.2.2) fun x9 => some (x9, z5.2.2.2)
set_option maxHeartbeats 4000000 in
set_option maxRecDepth 100000 in
theorem c_X0_settle (l : Launch) (D : va_G) (cI cZ cS : ClassId) (a : Nat) (q : Nat → Nat) (od : OS) (odw : OS) (odp : OS) (x : (OS × OS)) (hf : f_X0_settle od odw odp = some x) : Ct l yX0_settle cX0_settle 3 none 3 71 D cI cZ cS [.ref a] (bX0 cI a q od ++ (bX1 (q 13) odw ++ bX1 (q 14) odp)) none (bX0 cI a q x.1 ++ (bX1 (q 13) odw ++ bX1 (q 14) x.2)) := by
  intro sz
  refine Met.ofW (cc := cX0_settle) (maxL := 3) (ret := none) (by decide +kernel) rfl ?_
  intro p e s m args below meth c s₁ B hml hv
  obtain ⟨rfl, hsz, hP, hK, hD0⟩ := hv
  have hx := B.exec
  have hb := B.bytes
  have hr := B.returns
  have hts0 := atoms_spec (ws := .code yX0_settle cX0_settle 3 none :: TB) B.pre
  have hts := fun w (h : w ∈ TB) => hts0 w (List.mem_cons_of_mem _ h)
  have hown : s.vm.findClass RX0 = some m.cls := findClass_of_methodNamed B.named
  have hlocks := B.notSynchronized
  subst hsz
  have hD := hD0.self (sz := s.heap.size)
  generalize hAe : va_A (bX0 cI a q od ++ (bX1 (q 13) odw ++ bX1 (q 14) odp)) s.heap.size = A at hD ⊢
  have hA : ∀ q : Nat, s.heap.size ≤ q → A q := fun q h => by rw [← hAe]; exact Or.inr h
  have hS : va_S A s.heap s.heap [] := va_S.rf
  obtain ⟨H, hH⟩ : ∃ H, H = s.heap := ⟨_, rfl⟩
  rw [← hH] at hP
  have hS : va_S A s.heap H [] := by rw [hH]; exact hS
  have hl := lv_entry ([.ref a]) (n := 3) (Nat.le_of_ble_eq_true rfl)
  rw [lg_entry_eq]
  generalize (lg_sl ([.ref a]) ++ List.replicate (3 - (lg_sl ([.ref a])).length) Slot.unset).toArray = ls at hl ⊢
  have hl : lv_has ls 3 [(0, .ref a)] := hl
  refine W_heap hH ?_
  obtain ⟨locs, hlo⟩ : ∃ locs : List Loc, locs = [] := ⟨_, rfl⟩
  rw [← hlo] at hS ⊢
  unfold f_X0_settle at hf
  refine lv_aload_n (pc := 0) hx hb dX0_settle_0 rfl (lv_at hl 0 rfl) ?_
  refine va_get (pc := 1) (D := D) (ci := 0) (v := .ref (q 14)) (C := RX0) (T := TX0) (N := 15) hx hb hts iX0 hown hK.1 hP 0 rfl rfl 14 (by decide) (hts _ fl_RX0_31) (fun _ h => h) rfl dX0_settle_1 ?_
  refine lv_aload_n (pc := 4) hx hb dX0_settle_4 rfl (lv_at hl 0 rfl) ?_
  refine va_get (pc := 5) (D := D) (ci := 0) (v := .ref (q 13)) (C := RX0) (T := TX0) (N := 15) hx hb hts iX0 hown hK.1 hP 0 rfl rfl 13 (by decide) (hts _ fl_RX0_27) (fun _ h => h) rfl dX0_settle_5 ?_
  obtain ⟨x1, ex1, hf⟩ := bd_some hf
  refine ct_V (pc := 8) (As := [.ref (q 13)]) (rest := []) (wr := bX0 cI a q od) (W1 := bX0 cI a q od ++ (bX1 (q 13) odw ++ bX1 (q 14) x1)) ⟨hx, hb, hml, hown, hts⟩ hK (c_X1_copySums l D cI cZ cS (q 14) (q 13) odp odw x1 ex1) gv_RX0_78 rfl hs_X1_copySums rfl ⟨Nat.le_of_ble_eq_true rfl, Nat.le_of_ble_eq_true rfl⟩ (ci := 1) (q0 := 6) rfl rfl rfl hl.1 rfl (Nat.le_of_ble_eq_true rfl) dX0_settle_8 ⟨Nat.zero_le _, Nat.zero_le _⟩ hP hD hS hA [6, 5] [0, 1, 2, 3, 4] [0, 1, 2, 3, 4, 6, 5] rfl rfl (by decide +kernel) (by decide +kernel) (by decide +kernel) (by decide +kernel) rfl (fun H locs hP hD hS => ?_)
  refine lv_aload_n (pc := 11) hx hb dX0_settle_11 rfl (lv_at hl 0 rfl) ?_
  refine lv_aload_n (pc := 12) hx hb dX0_settle_12 rfl (lv_at hl 0 rfl) ?_
  refine va_get (pc := 13) (D := D) (ci := 0) (v := .int (od.1 8)) (C := RX0) (T := TX0) (N := 15) hx hb hts iX0 hown hK.1 hP 0 rfl rfl 8 (by decide) (hts _ fl_RX0_68) (fun _ h => h) rfl dX0_settle_13 ?_
  obtain ⟨o2, eo2, hf⟩ := lt_some hf
  refine va_put (pc := 16) (D := D) (ci := 0) (v := .int (od.1 8)) (ty := .int) (C := RX0) (T := TX0) (N := 15) hx hb hts iX0 tyX0 tyX0_ok nmX0 hown hK.1 hP hD hS 0 rfl rfl 9 (by decide) (hts _ fl_RX0_82) (fun _ h => h) rfl (tyX0_ok 9 (by decide)) rfl rfl (Nat.le_of_ble_eq_true rfl) dX0_settle_16 (fun H locs hP hD hS => ?_)
  replace hP : va_P D vwCl (bX0 cI a q o2 ++ (bX1 (q 13) odw ++ bX1 (q 14) x1)) H := by rw [eo2]; exact hP
  replace hD : va_D A (bX0 cI a q o2 ++ (bX1 (q 13) odw ++ bX1 (q 14) x1)) := by rw [eo2]; exact hD
  refine lv_aload_n (pc := 19) hx hb dX0_settle_19 rfl (lv_at hl 0 rfl) ?_
  refine lv_iconst (v := 0) (pc := 20) hx hb dX0_settle_20 (by decide) ?_
  obtain ⟨o3, eo3, hf⟩ := lt_some hf
  refine va_put (pc := 21) (D := D) (ci := 0) (v := .int 0) (ty := .boolean) (C := RX0) (T := TX0) (N := 15) hx hb hts iX0 tyX0 tyX0_ok nmX0 hown hK.1 hP hD hS 0 rfl rfl 11 (by decide) (hts _ fl_RX0_85) (fun _ h => h) rfl (tyX0_ok 11 (by decide)) rfl rfl (Nat.le_of_ble_eq_true rfl) dX0_settle_21 (fun H locs hP hD hS => ?_)
  replace hP : va_P D vwCl (bX0 cI a q o3 ++ (bX1 (q 13) odw ++ bX1 (q 14) x1)) H := by rw [eo3]; exact hP
  replace hD : va_D A (bX0 cI a q o3 ++ (bX1 (q 13) odw ++ bX1 (q 14) x1)) := by rw [eo3]; exact hD
  refine lv_aload_n (pc := 24) hx hb dX0_settle_24 rfl (lv_at hl 0 rfl) ?_
  refine lv_iconst (v := 0) (pc := 25) hx hb dX0_settle_25 (by decide) ?_
  obtain ⟨o4, eo4, hf⟩ := lt_some hf
  refine va_put (pc := 26) (D := D) (ci := 0) (v := .int 0) (ty := .int) (C := RX0) (T := TX0) (N := 15) hx hb hts iX0 tyX0 tyX0_ok nmX0 hown hK.1 hP hD hS 0 rfl rfl 10 (by decide) (hts _ fl_RX0_89) (fun _ h => h) rfl (tyX0_ok 10 (by decide)) rfl rfl (Nat.le_of_ble_eq_true rfl) dX0_settle_26 (fun H locs hP hD hS => ?_)
  replace hP : va_P D vwCl (bX0 cI a q o4 ++ (bX1 (q 13) odw ++ bX1 (q 14) x1)) H := by rw [eo4]; exact hP
  replace hD : va_D A (bX0 cI a q o4 ++ (bX1 (q 13) odw ++ bX1 (q 14) x1)) := by rw [eo4]; exact hD
  refine lv_iconst (v := 1) (pc := 29) hx hb dX0_settle_29 (by decide) ?_
  refine lv_istore_n (lv' := [(1, .int 1), (0, .ref a)]) (pc := 30) hx hb dX0_settle_30 rfl hl (by decide) rfl (fun ls hl => ?_)
  refine lv_iconst (v := 1) (pc := 31) hx hb dX0_settle_31 (by decide) ?_
  refine lv_istore_n (lv' := [(2, .int 1), (1, .int 1), (0, .ref a)]) (pc := 32) hx hb dX0_settle_32 rfl hl (by decide) rfl (fun ls hl => ?_)
  obtain ⟨z5, hz5, hf⟩ := bd_some hf
  have hfz5 := hf
  clear hf
  have K6 : ∀ (H : Heap) (locs : List Loc) (ls : Array Slot), va_P D vwCl (bX0 cI a q z5.2.2.1 ++ (bX1 (q 13) odw ++ bX1 (q 14) z5.2.2.2)) H → va_D A (bX0 cI a q z5.2.2.1 ++ (bX1 (q 13) odw ++ bX1 (q 14) z5.2.2.2)) → va_S A s.heap H locs → lv_has ls 3 [(0, .ref a), (1, .int z5.1), (2, .int z5.2.1)] → GW l yX0_settle cX0_settle 3 none 3 71 D [.ref a] none (bX0 cI a q x.1 ++ (bX1 (q 13) odw ++ bX1 (q 14) x.2)) A p e s m below meth c H locs (F0 m 59 ls []) := by
    intro H locs ls hP hD hS hl
    have hf := hfz5
    refine lv_aload_n (pc := 59) hx hb dX0_settle_59 rfl (lv_at hl 0 rfl) ?_
    refine va_get (pc := 60) (D := D) (ci := 0) (v := .int (z5.2.2.1.1 11)) (C := RX0) (T := TX0) (N := 15) hx hb hts iX0 hown hK.1 hP 0 rfl rfl 11 (by decide) (hts _ fl_RX0_85) (fun _ h => h) rfl dX0_settle_60 ?_
    refine lv_if_eq (pc := 63) (tgt := 70) hx hb dX0_settle_63 (by decide) (fun c8 => ?_) (fun c8 => ?_)
    · replace hf := ip c8 hf
      obtain rfl := Option.some.inj hf
      exact W.vret hx hb hr (fun t ht hW => ⟨rfl, by rw [ht]; exact hP, hD, hS.F ht⟩) hS.2.2 dX0_settle_70
    · replace hf := im c8 hf
      refine lv_aload_n (pc := 66) hx hb dX0_settle_66 rfl (lv_at hl 0 rfl) ?_
      obtain ⟨x9, ex9, hf⟩ := bd_some hf
      refine ct_V (pc := 67) (As := []) (rest := []) (wr := bX1 (q 13) odw) (W1 := bX0 cI a q x9 ++ (bX1 (q 13) odw ++ bX1 (q 14) z5.2.2.2)) ⟨hx, hb, hml, hown, hts⟩ hK (c_X0_findMostUsed l D cI cZ cS a q z5.2.2.1 z5.2.2.2 x9 ex9) gv_RX0_96 rfl hs_X0_findMostUsed rfl ⟨Nat.le_of_ble_eq_true rfl, Nat.le_of_ble_eq_true rfl⟩ (ci := 0) (q0 := 0) rfl rfl rfl hl.1 rfl (Nat.le_of_ble_eq_true rfl) dX0_settle_67 ⟨Nat.zero_le _, Nat.zero_le _⟩ hP hD hS hA [0, 1, 2, 3, 4, 6] [5] [1, 2, 3, 4, 5, 0, 6] rfl rfl (by decide +kernel) (by decide +kernel) (by decide +kernel) (by decide +kernel) rfl (fun H locs hP hD hS => ?_)
      obtain rfl := Option.some.inj hf
      exact W.vret hx hb hr (fun t ht hW => ⟨rfl, by rw [ht]; exact hP, hD, hS.F ht⟩) hS.2.2 dX0_settle_70
  have KL7 : ∀ (n : Nat) (v1 : Int32) (v2 : Int32) (w_D : OS) (w_DP : OS) (H : Heap) (locs : List Loc) (ls : Array Slot), lp_X0_settle_33 n v1 v2 w_D w_DP = some z5 → va_P D vwCl (bX0 cI a q w_D ++ (bX1 (q 13) odw ++ bX1 (q 14) w_DP)) H → va_D A (bX0 cI a q w_D ++ (bX1 (q 13) odw ++ bX1 (q 14) w_DP)) → va_S A s.heap H locs → lv_has ls 3 [(0, .ref a), (1, .int v1), (2, .int v2)] → GW l yX0_settle cX0_settle 3 none 3 71 D [.ref a] none (bX0 cI a q x.1 ++ (bX1 (q 13) odw ++ bX1 (q 14) x.2)) A p e s m below meth c H locs (F0 m 33 ls []) := by
    intro n
    induction n with
    | zero => intro v1 v2 w_D w_DP H locs ls hf; cases hf
    | succ n ih =>
      intro v1 v2 w_D w_DP H locs ls hf hP hD hS hl
      rw [lp_X0_settle_33] at hf
      refine lv_iload_n (pc := 33) hx hb dX0_settle_33 rfl (lv_at hl 2 rfl) ?_
      refine lv_bipush (v := 40) (pc := 34) hx hb dX0_settle_34 (by decide) ?_
      refine lv_icmp_gt (pc := 36) (tgt := 59) hx hb dX0_settle_36 (by decide) (fun c10 => ?_) (fun c10 => ?_)
      · replace hf := ip c10 hf
        obtain rfl := Option.some.inj hf
        exact K6 H locs ls hP hD hS (lv_sub hl [0, 1, 2] rfl)
      · replace hf := im c10 hf
        refine lv_iload_n (pc := 39) hx hb dX0_settle_39 rfl (lv_at hl 1 rfl) ?_
        refine lv_if_eq (pc := 40) (tgt := 59) hx hb dX0_settle_40 (by decide) (fun c11 => ?_) (fun c11 => ?_)
        · replace hf := ip c11 hf
          obtain rfl := Option.some.inj hf
          exact K6 H locs ls hP hD hS (lv_sub hl [0, 1, 2] rfl)
        · replace hf := im c11 hf
          refine lv_aload_n (pc := 43) hx hb dX0_settle_43 rfl (lv_at hl 0 rfl) ?_
          refine lv_iload_n (pc := 44) hx hb dX0_settle_44 rfl (lv_at hl 2 rfl) ?_
          obtain ⟨o12, eo12, hf⟩ := lt_some hf
          refine va_put (pc := 45) (D := D) (ci := 0) (v := .int v2) (ty := .int) (C := RX0) (T := TX0) (N := 15) hx hb hts iX0 tyX0 tyX0_ok nmX0 hown hK.1 hP hD hS 0 rfl rfl 10 (by decide) (hts _ fl_RX0_89) (fun _ h => h) rfl (tyX0_ok 10 (by decide)) rfl rfl (Nat.le_of_ble_eq_true rfl) dX0_settle_45 (fun H locs hP hD hS => ?_)
          replace hP : va_P D vwCl (bX0 cI a q o12 ++ (bX1 (q 13) odw ++ bX1 (q 14) w_DP)) H := by rw [eo12]; exact hP
          replace hD : va_D A (bX0 cI a q o12 ++ (bX1 (q 13) odw ++ bX1 (q 14) w_DP)) := by rw [eo12]; exact hD
          refine lv_aload_n (pc := 48) hx hb dX0_settle_48 rfl (lv_at hl 0 rfl) ?_
          obtain ⟨x13, ex13, hf⟩ := bd_some hf
          refine ct_V (pc := 49) (As := []) (rest := []) (wr := bX1 (q 13) odw) (W1 := bX0 cI a q x13.2.1 ++ (bX1 (q 13) odw ++ bX1 (q 14) x13.2.2)) ⟨hx, hb, hml, hown, hts⟩ hK (c_X0_anotherRoundFollows l D cI cZ cS a q o12 w_DP x13 ex13) gv_RX0_92 rfl hs_X0_anotherRoundFollows rfl ⟨Nat.le_of_ble_eq_true rfl, Nat.le_of_ble_eq_true rfl⟩ (ci := 0) (q0 := 0) rfl rfl rfl hl.1 rfl (Nat.le_of_ble_eq_true rfl) dX0_settle_49 ⟨Nat.zero_le _, Nat.zero_le _⟩ hP hD hS hA [0, 1, 2, 3, 4, 6] [5] [1, 2, 3, 4, 5, 0, 6] rfl rfl (by decide +kernel) (by decide +kernel) (by decide +kernel) (by decide +kernel) rfl (fun H locs hP hD hS => ?_)
          refine lv_istore_n (lv' := [(1, .int x13.1), (0, .ref a), (2, .int v2)]) (pc := 52) hx hb dX0_settle_52 rfl hl (by decide) rfl (fun ls hl => ?_)
          refine lv_iinc (v := (v2 + 1)) (lv' := [(2, .int (v2 + 1)), (1, .int x13.1), (0, .ref a)]) (pc := 53) hx hb dX0_settle_53 hl (k := 2) rfl rfl (by decide) rfl (fun ls hl => ?_)
          refine lv_goto (pc := 56) (tgt := 33) hx hb dX0_settle_56 (by decide) ?_
          exact ih _ _ _ _ H locs ls hf hP hD hS (lv_sub hl [2, 1, 0] rfl)
  exact KL7 1000 _ _ _ _ H locs ls hz5 hP hD hS (lv_sub hl [2, 1, 0] rfl)
def f_X0_settleOn (i0 : Int32) (od : OS) (odw : OS) (odp : OS) : Option (OS × OS × OS) := Option.bind (f_X0_beginWith i0 od odw) fun x1 => Option.bind (f_X0_settle x1.1 x1.2 odp) fun x2 => some (x2.1, x1.2, x2.2)
set_option maxHeartbeats 4000000 in
set_option maxRecDepth 100000 in
theorem c_X0_settleOn (l : Launch) (D : va_G) (cI cZ cS : ClassId) (a : Nat) (q : Nat → Nat) (i0 : Int32) (od : OS) (odw : OS) (odp : OS) (x : (OS × OS × OS)) (hf : f_X0_settleOn i0 od odw odp = some x) : Ct l yX0_settleOn cX0_settleOn 2 none 4 93 D cI cZ cS [.ref a, .int i0] (bX0 cI a q od ++ (bX1 (q 13) odw ++ bX1 (q 14) odp)) none (bX0 cI a q x.1 ++ (bX1 (q 13) x.2.1 ++ bX1 (q 14) x.2.2)) := by
  intro sz
  refine Met.ofW (cc := cX0_settleOn) (maxL := 2) (ret := none) (by decide +kernel) rfl ?_
  intro p e s m args below meth c s₁ B hml hv
  obtain ⟨rfl, hsz, hP, hK, hD0⟩ := hv
  have hx := B.exec
  have hb := B.bytes
  have hr := B.returns
  have hts0 := atoms_spec (ws := .code yX0_settleOn cX0_settleOn 2 none :: TB) B.pre
  have hts := fun w (h : w ∈ TB) => hts0 w (List.mem_cons_of_mem _ h)
  have hown : s.vm.findClass RX0 = some m.cls := findClass_of_methodNamed B.named
  have hlocks := B.notSynchronized
  subst hsz
  have hD := hD0.self (sz := s.heap.size)
  generalize hAe : va_A (bX0 cI a q od ++ (bX1 (q 13) odw ++ bX1 (q 14) odp)) s.heap.size = A at hD ⊢
  have hA : ∀ q : Nat, s.heap.size ≤ q → A q := fun q h => by rw [← hAe]; exact Or.inr h
  have hS : va_S A s.heap s.heap [] := va_S.rf
  obtain ⟨H, hH⟩ : ∃ H, H = s.heap := ⟨_, rfl⟩
  rw [← hH] at hP
  have hS : va_S A s.heap H [] := by rw [hH]; exact hS
  have hl := lv_entry ([.ref a, .int i0]) (n := 2) (Nat.le_of_ble_eq_true rfl)
  rw [lg_entry_eq]
  generalize (lg_sl ([.ref a, .int i0]) ++ List.replicate (2 - (lg_sl ([.ref a, .int i0])).length) Slot.unset).toArray = ls at hl ⊢
  have hl : lv_has ls 2 [(0, .ref a), (1, .int i0)] := hl
  refine W_heap hH ?_
  obtain ⟨locs, hlo⟩ : ∃ locs : List Loc, locs = [] := ⟨_, rfl⟩
  rw [← hlo] at hS ⊢
  unfold f_X0_settleOn at hf
  refine lv_aload_n (pc := 0) hx hb dX0_settleOn_0 rfl (lv_at hl 0 rfl) ?_
  refine lv_iload_n (pc := 1) hx hb dX0_settleOn_1 rfl (lv_at hl 1 rfl) ?_
  obtain ⟨x1, ex1, hf⟩ := bd_some hf
  refine ct_V (pc := 2) (As := [.int i0]) (rest := []) (wr := bX1 (q 14) odp) (W1 := bX0 cI a q x1.1 ++ (bX1 (q 13) x1.2 ++ bX1 (q 14) odp)) ⟨hx, hb, hml, hown, hts⟩ hK (c_X0_beginWith l D cI cZ cS a q i0 od odw x1 ex1) gv_RX0_61 rfl hs_X0_beginWith rfl ⟨Nat.le_of_ble_eq_true rfl, Nat.le_of_ble_eq_true rfl⟩ (ci := 0) (q0 := 0) rfl rfl rfl hl.1 rfl (Nat.le_of_ble_eq_true rfl) dX0_settleOn_2 ⟨Nat.zero_le _, Nat.zero_le _⟩ hP hD hS hA [0, 1, 2, 3, 4, 5] [6] [1, 2, 3, 4, 5, 6, 0] rfl rfl (by decide +kernel) (by decide +kernel) (by decide +kernel) (by decide +kernel) rfl (fun H locs hP hD hS => ?_)
  refine lv_aload_n (pc := 5) hx hb dX0_settleOn_5 rfl (lv_at hl 0 rfl) ?_
  obtain ⟨x2, ex2, hf⟩ := bd_some hf
  refine ct_V1 (pc := 6) (As := []) (rest := []) (W1 := bX0 cI a q x2.1 ++ (bX1 (q 13) x1.2 ++ bX1 (q 14) x2.2)) ⟨hx, hb, hml, hown, hts⟩ hK (c_X0_settle l D cI cZ cS a q x1.1 x1.2 odp x2 ex2) gv_RX0_65 rfl hs_X0_settle rfl ⟨Nat.le_of_ble_eq_true rfl, Nat.le_of_ble_eq_true rfl⟩ (ci := 0) (q0 := 0) rfl rfl rfl hl.1 rfl (Nat.le_of_ble_eq_true rfl) dX0_settleOn_6 ⟨Nat.zero_le _, Nat.zero_le _⟩ hP hD hS hA (fun H locs hP hD hS => ?_)
  obtain rfl := Option.some.inj hf
  exact W.vret hx hb hr (fun t ht hW => ⟨rfl, by rw [ht]; exact hP, hD, hS.F ht⟩) hS.2.2 dX0_settleOn_9
def f_X0_putFurther (i0 : Int32) (i1 : Int32) (i2 : Int32) (i3 : Int32) (od : OS) (odw : OS) : Option (OS × OS) := if (od.1 4) < 0 then some (od, odw) else if (od.1 4) < 9 then ck (od.1 4) 9 (lt (sA od 0 (((od.1 4) : Int32).toNatClampNeg) i0) fun o4 => ck (o4.1 4) 9 (lt (sA o4 1 (((o4.1 4) : Int32).toNatClampNeg) i1) fun o6 => ck (o6.1 4) 9 (lt (sA o6 2 (((o6.1 4) : Int32).toNatClampNeg) i2) fun o8 => ck (o8.1 4) 9 (lt (sA o8 3 (((o8.1 4) : Int32).toNatClampNeg) i3) fun o10 => Option.bind (f_X1_put i0 i1 i2 odw) fun x11 => lt (sI o10 8 ((o10.1 8) ||| (1 <<< ((o10.1 4) &&& 31)))) fun o12 => lt (sI o12 4 ((o12.1 4) + 1)) fun o13 => some (o13, x11))))) else some (od, odw)
set_option maxHeartbeats 4000000 in
set_option maxRecDepth 100000 in
theorem c_X0_putFurther (l : Launch) (D : va_G) (cI cZ cS : ClassId) (a : Nat) (q : Nat → Nat) (i0 : Int32) (i1 : Int32) (i2 : Int32) (i3 : Int32) (od : OS) (odw : OS) (x : (OS × OS)) (hf : f_X0_putFurther i0 i1 i2 i3 od odw = some x) : Ct l yX0_putFurther cX0_putFurther 5 none 1 25 D cI cZ cS [.ref a, .int i0, .int i1, .int i2, .int i3] (bX0 cI a q od ++ bX1 (q 13) odw) none (bX0 cI a q x.1 ++ bX1 (q 13) x.2) := by
  intro sz
  refine Met.ofW (cc := cX0_putFurther) (maxL := 5) (ret := none) (by decide +kernel) rfl ?_
  intro p e s m args below meth c s₁ B hml hv
  obtain ⟨rfl, hsz, hP, hK, hD0⟩ := hv
  have hx := B.exec
  have hb := B.bytes
  have hr := B.returns
  have hts0 := atoms_spec (ws := .code yX0_putFurther cX0_putFurther 5 none :: TB) B.pre
  have hts := fun w (h : w ∈ TB) => hts0 w (List.mem_cons_of_mem _ h)
  have hown : s.vm.findClass RX0 = some m.cls := findClass_of_methodNamed B.named
  have hlocks := B.notSynchronized
  subst hsz
  have hD := hD0.self (sz := s.heap.size)
  generalize hAe : va_A (bX0 cI a q od ++ bX1 (q 13) odw) s.heap.size = A at hD ⊢
  have hA : ∀ q : Nat, s.heap.size ≤ q → A q := fun q h => by rw [← hAe]; exact Or.inr h
  have hS : va_S A s.heap s.heap [] := va_S.rf
  obtain ⟨H, hH⟩ : ∃ H, H = s.heap := ⟨_, rfl⟩
  rw [← hH] at hP
  have hS : va_S A s.heap H [] := by rw [hH]; exact hS
  have hl := lv_entry ([.ref a, .int i0, .int i1, .int i2, .int i3]) (n := 5) (Nat.le_of_ble_eq_true rfl)
  rw [lg_entry_eq]
  generalize (lg_sl ([.ref a, .int i0, .int i1, .int i2, .int i3]) ++ List.replicate (5 - (lg_sl ([.ref a, .int i0, .int i1, .int i2, .int i3])).length) Slot.unset).toArray = ls at hl ⊢
  have hl : lv_has ls 5 [(0, .ref a), (1, .int i0), (2, .int i1), (3, .int i2), (4, .int i3)] := hl
  refine W_heap hH ?_
  obtain ⟨locs, hlo⟩ : ∃ locs : List Loc, locs = [] := ⟨_, rfl⟩
  rw [← hlo] at hS ⊢
  unfold f_X0_putFurther at hf
  refine lv_aload_n (pc := 0) hx hb dX0_putFurther_0 rfl (lv_at hl 0 rfl) ?_
  refine va_get (pc := 1) (D := D) (ci := 0) (v := .int (od.1 4)) (C := RX0) (T := TX0) (N := 15) hx hb hts iX0 hown hK.1 hP 0 rfl rfl 4 (by decide) (hts _ fl_RX0_50) (fun _ h => h) rfl dX0_putFurther_1 ?_
  refine lv_if_lt (pc := 4) (tgt := 16) hx hb dX0_putFurther_4 (by decide) (fun c1 => ?_) (fun c1 => ?_)
  · replace hf := ip c1 hf
    obtain rfl := Option.some.inj hf
    exact W.vret hx hb hr (fun t ht hW => ⟨rfl, by rw [ht]; exact hP, hD, hS.F ht⟩) hS.2.2 dX0_putFurther_16
  · replace hf := im c1 hf
    refine lv_aload_n (pc := 7) hx hb dX0_putFurther_7 rfl (lv_at hl 0 rfl) ?_
    refine va_get (pc := 8) (D := D) (ci := 0) (v := .int (od.1 4)) (C := RX0) (T := TX0) (N := 15) hx hb hts iX0 hown hK.1 hP 0 rfl rfl 4 (by decide) (hts _ fl_RX0_50) (fun _ h => h) rfl dX0_putFurther_8 ?_
    refine lv_bipush (v := 9) (pc := 11) hx hb dX0_putFurther_11 (by decide) ?_
    refine lv_icmp_lt (pc := 13) (tgt := 17) hx hb dX0_putFurther_13 (by decide) (fun c2 => ?_) (fun c2 => ?_)
    · replace hf := ip c2 hf
      refine lv_aload_n (pc := 17) hx hb dX0_putFurther_17 rfl (lv_at hl 0 rfl) ?_
      refine va_get (pc := 18) (D := D) (ci := 0) (v := .ref (q 0)) (C := RX0) (T := TX0) (N := 15) hx hb hts iX0 hown hK.1 hP 0 rfl rfl 0 (by decide) (hts _ fl_RX0_11) (fun _ h => h) rfl dX0_putFurther_18 ?_
      refine lv_aload_n (pc := 21) hx hb dX0_putFurther_21 rfl (lv_at hl 0 rfl) ?_
      refine va_get (pc := 22) (D := D) (ci := 0) (v := .int (od.1 4)) (C := RX0) (T := TX0) (N := 15) hx hb hts iX0 hown hK.1 hP 0 rfl rfl 4 (by decide) (hts _ fl_RX0_50) (fun _ h => h) rfl dX0_putFurther_22 ?_
      refine lv_iload_n (pc := 25) hx hb dX0_putFurther_25 rfl (lv_at hl 1 rfl) ?_
      obtain ⟨h3, hf⟩ := ck_some hf
      obtain ⟨o4, eo4, hf⟩ := lt_some hf
      refine va_iast (pc := 26) (f := od.2.2 0) hx hb hK.1 hP hD hS 1 0 rfl rfl h3 dX0_putFurther_26 (fun H locs hP hD hS => ?_)
      replace hP : va_P D vwCl (bX0 cI a q o4 ++ bX1 (q 13) odw) H := by rw [eo4]; exact hP
      replace hD : va_D A (bX0 cI a q o4 ++ bX1 (q 13) odw) := by rw [eo4]; exact hD
      refine lv_aload_n (pc := 27) hx hb dX0_putFurther_27 rfl (lv_at hl 0 rfl) ?_
      refine va_get (pc := 28) (D := D) (ci := 0) (v := .ref (q 1)) (C := RX0) (T := TX0) (N := 15) hx hb hts iX0 hown hK.1 hP 0 rfl rfl 1 (by decide) (hts _ fl_RX0_15) (fun _ h => h) rfl dX0_putFurther_28 ?_
      refine lv_aload_n (pc := 31) hx hb dX0_putFurther_31 rfl (lv_at hl 0 rfl) ?_
      refine va_get (pc := 32) (D := D) (ci := 0) (v := .int (o4.1 4)) (C := RX0) (T := TX0) (N := 15) hx hb hts iX0 hown hK.1 hP 0 rfl rfl 4 (by decide) (hts _ fl_RX0_50) (fun _ h => h) rfl dX0_putFurther_32 ?_
      refine lv_iload_n (pc := 35) hx hb dX0_putFurther_35 rfl (lv_at hl 2 rfl) ?_
      obtain ⟨h5, hf⟩ := ck_some hf
      obtain ⟨o6, eo6, hf⟩ := lt_some hf
      refine va_iast (pc := 36) (f := o4.2.2 1) hx hb hK.1 hP hD hS 2 0 rfl rfl h5 dX0_putFurther_36 (fun H locs hP hD hS => ?_)
      replace hP : va_P D vwCl (bX0 cI a q o6 ++ bX1 (q 13) odw) H := by rw [eo6]; exact hP
      replace hD : va_D A (bX0 cI a q o6 ++ bX1 (q 13) odw) := by rw [eo6]; exact hD
      refine lv_aload_n (pc := 37) hx hb dX0_putFurther_37 rfl (lv_at hl 0 rfl) ?_
      refine va_get (pc := 38) (D := D) (ci := 0) (v := .ref (q 2)) (C := RX0) (T := TX0) (N := 15) hx hb hts iX0 hown hK.1 hP 0 rfl rfl 2 (by decide) (hts _ fl_RX0_18) (fun _ h => h) rfl dX0_putFurther_38 ?_
      refine lv_aload_n (pc := 41) hx hb dX0_putFurther_41 rfl (lv_at hl 0 rfl) ?_
      refine va_get (pc := 42) (D := D) (ci := 0) (v := .int (o6.1 4)) (C := RX0) (T := TX0) (N := 15) hx hb hts iX0 hown hK.1 hP 0 rfl rfl 4 (by decide) (hts _ fl_RX0_50) (fun _ h => h) rfl dX0_putFurther_42 ?_
      refine lv_iload_n (pc := 45) hx hb dX0_putFurther_45 rfl (lv_at hl 3 rfl) ?_
      obtain ⟨h7, hf⟩ := ck_some hf
      obtain ⟨o8, eo8, hf⟩ := lt_some hf
      refine va_iast (pc := 46) (f := o6.2.2 2) hx hb hK.1 hP hD hS 3 0 rfl rfl h7 dX0_putFurther_46 (fun H locs hP hD hS => ?_)
      replace hP : va_P D vwCl (bX0 cI a q o8 ++ bX1 (q 13) odw) H := by rw [eo8]; exact hP
      replace hD : va_D A (bX0 cI a q o8 ++ bX1 (q 13) odw) := by rw [eo8]; exact hD
      refine lv_aload_n (pc := 47) hx hb dX0_putFurther_47 rfl (lv_at hl 0 rfl) ?_
      refine va_get (pc := 48) (D := D) (ci := 0) (v := .ref (q 3)) (C := RX0) (T := TX0) (N := 15) hx hb hts iX0 hown hK.1 hP 0 rfl rfl 3 (by decide) (hts _ fl_RX0_21) (fun _ h => h) rfl dX0_putFurther_48 ?_
      refine lv_aload_n (pc := 51) hx hb dX0_putFurther_51 rfl (lv_at hl 0 rfl) ?_
      refine va_get (pc := 52) (D := D) (ci := 0) (v := .int (o8.1 4)) (C := RX0) (T := TX0) (N := 15) hx hb hts iX0 hown hK.1 hP 0 rfl rfl 4 (by decide) (hts _ fl_RX0_50) (fun _ h => h) rfl dX0_putFurther_52 ?_
      refine lv_iload (pc := 55) hx hb dX0_putFurther_55 (lv_at hl 4 rfl) ?_
      obtain ⟨h9, hf⟩ := ck_some hf
      obtain ⟨o10, eo10, hf⟩ := lt_some hf
      refine va_iast (pc := 57) (f := o8.2.2 3) hx hb hK.1 hP hD hS 4 0 rfl rfl h9 dX0_putFurther_57 (fun H locs hP hD hS => ?_)
      replace hP : va_P D vwCl (bX0 cI a q o10 ++ bX1 (q 13) odw) H := by rw [eo10]; exact hP
      replace hD : va_D A (bX0 cI a q o10 ++ bX1 (q 13) odw) := by rw [eo10]; exact hD
      refine lv_aload_n (pc := 58) hx hb dX0_putFurther_58 rfl (lv_at hl 0 rfl) ?_
      refine va_get (pc := 59) (D := D) (ci := 0) (v := .ref (q 13)) (C := RX0) (T := TX0) (N := 15) hx hb hts iX0 hown hK.1 hP 0 rfl rfl 13 (by decide) (hts _ fl_RX0_27) (fun _ h => h) rfl dX0_putFurther_59 ?_
      refine lv_iload_n (pc := 62) hx hb dX0_putFurther_62 rfl (lv_at hl 1 rfl) ?_
      refine lv_iload_n (pc := 63) hx hb dX0_putFurther_63 rfl (lv_at hl 2 rfl) ?_
      refine lv_iload_n (pc := 64) hx hb dX0_putFurther_64 rfl (lv_at hl 3 rfl) ?_
      obtain ⟨x11, ex11, hf⟩ := bd_some hf
      refine ct_V (pc := 65) (As := [.int i0, .int i1, .int i2]) (rest := []) (wr := bX0 cI a q o10) (W1 := bX0 cI a q o10 ++ bX1 (q 13) x11) ⟨hx, hb, hml, hown, hts⟩ hK (c_X1_put l D cI cZ cS (q 13) i0 i1 i2 odw x11 ex11) gv_RX0_74 rfl hs_X1_put rfl ⟨Nat.le_of_ble_eq_true rfl, Nat.le_of_ble_eq_true rfl⟩ (ci := 1) (q0 := 5) rfl rfl rfl hl.1 rfl (Nat.le_of_ble_eq_true rfl) dX0_putFurther_65 ⟨Nat.zero_le _, Nat.zero_le _⟩ hP hD hS hA [5] [0, 1, 2, 3, 4] [0, 1, 2, 3, 4, 5] rfl rfl (by decide +kernel) (by decide +kernel) (by decide +kernel) (by decide +kernel) rfl (fun H locs hP hD hS => ?_)
      refine lv_aload_n (pc := 68) hx hb dX0_putFurther_68 rfl (lv_at hl 0 rfl) ?_
      refine lv_dup (pc := 69) hx hb dX0_putFurther_69 rfl ?_
      refine va_get (pc := 70) (D := D) (ci := 0) (v := .int (o10.1 8)) (C := RX0) (T := TX0) (N := 15) hx hb hts iX0 hown hK.1 hP 0 rfl rfl 8 (by decide) (hts _ fl_RX0_68) (fun _ h => h) rfl dX0_putFurther_70 ?_
      refine lv_iconst (v := 1) (pc := 73) hx hb dX0_putFurther_73 (by decide) ?_
      refine lv_aload_n (pc := 74) hx hb dX0_putFurther_74 rfl (lv_at hl 0 rfl) ?_
      refine va_get (pc := 75) (D := D) (ci := 0) (v := .int (o10.1 4)) (C := RX0) (T := TX0) (N := 15) hx hb hts iX0 hown hK.1 hP 0 rfl rfl 4 (by decide) (hts _ fl_RX0_50) (fun _ h => h) rfl dX0_putFurther_75 ?_
      refine lv_ishl (pc := 78) hx hb dX0_putFurther_78 ?_
      refine lv_ior (pc := 79) hx hb dX0_putFurther_79 ?_
      obtain ⟨o12, eo12, hf⟩ := lt_some hf
      refine va_put (pc := 80) (D := D) (ci := 0) (v := .int ((o10.1 8) ||| (1 <<< ((o10.1 4) &&& 31)))) (ty := .int) (C := RX0) (T := TX0) (N := 15) hx hb hts iX0 tyX0 tyX0_ok nmX0 hown hK.1 hP hD hS 0 rfl rfl 8 (by decide) (hts _ fl_RX0_68) (fun _ h => h) rfl (tyX0_ok 8 (by decide)) rfl rfl (Nat.le_of_ble_eq_true rfl) dX0_putFurther_80 (fun H locs hP hD hS => ?_)
      replace hP : va_P D vwCl (bX0 cI a q o12 ++ bX1 (q 13) x11) H := by rw [eo12]; exact hP
      replace hD : va_D A (bX0 cI a q o12 ++ bX1 (q 13) x11) := by rw [eo12]; exact hD
      refine lv_aload_n (pc := 83) hx hb dX0_putFurther_83 rfl (lv_at hl 0 rfl) ?_
      refine lv_dup (pc := 84) hx hb dX0_putFurther_84 rfl ?_
      refine va_get (pc := 85) (D := D) (ci := 0) (v := .int (o12.1 4)) (C := RX0) (T := TX0) (N := 15) hx hb hts iX0 hown hK.1 hP 0 rfl rfl 4 (by decide) (hts _ fl_RX0_50) (fun _ h => h) rfl dX0_putFurther_85 ?_
      refine lv_iconst (v := 1) (pc := 88) hx hb dX0_putFurther_88 (by decide) ?_
      refine lv_iadd (pc := 89) hx hb dX0_putFurther_89 ?_
      obtain ⟨o13, eo13, hf⟩ := lt_some hf
      refine va_put (pc := 90) (D := D) (ci := 0) (v := .int ((o12.1 4) + 1)) (ty := .int) (C := RX0) (T := TX0) (N := 15) hx hb hts iX0 tyX0 tyX0_ok nmX0 hown hK.1 hP hD hS 0 rfl rfl 4 (by decide) (hts _ fl_RX0_50) (fun _ h => h) rfl (tyX0_ok 4 (by decide)) rfl rfl (Nat.le_of_ble_eq_true rfl) dX0_putFurther_90 (fun H locs hP hD hS => ?_)
      replace hP : va_P D vwCl (bX0 cI a q o13 ++ bX1 (q 13) x11) H := by rw [eo13]; exact hP
      replace hD : va_D A (bX0 cI a q o13 ++ bX1 (q 13) x11) := by rw [eo13]; exact hD
      obtain rfl := Option.some.inj hf
      exact W.vret hx hb hr (fun t ht hW => ⟨rfl, by rw [ht]; exact hP, hD, hS.F ht⟩) hS.2.2 dX0_putFurther_93
    · replace hf := im c2 hf
      obtain rfl := Option.some.inj hf
      exact W.vret hx hb hr (fun t ht hW => ⟨rfl, by rw [ht]; exact hP, hD, hS.F ht⟩) hS.2.2 dX0_putFurther_16
def f_X0_takeFurtherAway (od : OS) (odw : OS) : Option (OS × OS) := if (od.1 4) < 1 then some (od, odw) else if (od.1 4) ≤ 9 then lt (sI od 4 ((od.1 4) - 1)) fun o3 => ck (o3.1 4) 9 (ck (o3.1 4) 9 (ck (o3.1 4) 9 (Option.bind (f_X1_put (o3.2.2 0 ((o3.1 4) : Int32).toNatClampNeg) (o3.2.2 1 ((o3.1 4) : Int32).toNatClampNeg) (-(o3.2.2 2 ((o3.1 4) : Int32).toNatClampNeg)) odw) fun x7 => lt (sI o3 8 ((o3.1 8) &&& ((1 <<< ((o3.1 4) &&& 31)) ^^^ (-1)))) fun o8 => some (o8, x7)))) else some (od, odw)
set_option maxHeartbeats 4000000 in
set_option maxRecDepth 100000 in
theorem c_X0_takeFurtherAway (l : Launch) (D : va_G) (cI cZ cS : ClassId) (a : Nat) (q : Nat → Nat) (od : OS) (odw : OS) (x : (OS × OS)) (hf : f_X0_takeFurtherAway od odw = some x) : Ct l yX0_takeFurtherAway cX0_takeFurtherAway 1 none 1 25 D cI cZ cS [.ref a] (bX0 cI a q od ++ bX1 (q 13) odw) none (bX0 cI a q x.1 ++ bX1 (q 13) x.2) := by
  intro sz
  refine Met.ofW (cc := cX0_takeFurtherAway) (maxL := 1) (ret := none) (by decide +kernel) rfl ?_
  intro p e s m args below meth c s₁ B hml hv
  obtain ⟨rfl, hsz, hP, hK, hD0⟩ := hv
  have hx := B.exec
  have hb := B.bytes
  have hr := B.returns
  have hts0 := atoms_spec (ws := .code yX0_takeFurtherAway cX0_takeFurtherAway 1 none :: TB) B.pre
  have hts := fun w (h : w ∈ TB) => hts0 w (List.mem_cons_of_mem _ h)
  have hown : s.vm.findClass RX0 = some m.cls := findClass_of_methodNamed B.named
  have hlocks := B.notSynchronized
  subst hsz
  have hD := hD0.self (sz := s.heap.size)
  generalize hAe : va_A (bX0 cI a q od ++ bX1 (q 13) odw) s.heap.size = A at hD ⊢
  have hA : ∀ q : Nat, s.heap.size ≤ q → A q := fun q h => by rw [← hAe]; exact Or.inr h
  have hS : va_S A s.heap s.heap [] := va_S.rf
  obtain ⟨H, hH⟩ : ∃ H, H = s.heap := ⟨_, rfl⟩
  rw [← hH] at hP
  have hS : va_S A s.heap H [] := by rw [hH]; exact hS
  have hl := lv_entry ([.ref a]) (n := 1) (Nat.le_of_ble_eq_true rfl)
  rw [lg_entry_eq]
  generalize (lg_sl ([.ref a]) ++ List.replicate (1 - (lg_sl ([.ref a])).length) Slot.unset).toArray = ls at hl ⊢
  have hl : lv_has ls 1 [(0, .ref a)] := hl
  refine W_heap hH ?_
  obtain ⟨locs, hlo⟩ : ∃ locs : List Loc, locs = [] := ⟨_, rfl⟩
  rw [← hlo] at hS ⊢
  unfold f_X0_takeFurtherAway at hf
  refine lv_aload_n (pc := 0) hx hb dX0_takeFurtherAway_0 rfl (lv_at hl 0 rfl) ?_
  refine va_get (pc := 1) (D := D) (ci := 0) (v := .int (od.1 4)) (C := RX0) (T := TX0) (N := 15) hx hb hts iX0 hown hK.1 hP 0 rfl rfl 4 (by decide) (hts _ fl_RX0_50) (fun _ h => h) rfl dX0_takeFurtherAway_1 ?_
  refine lv_iconst (v := 1) (pc := 4) hx hb dX0_takeFurtherAway_4 (by decide) ?_
  refine lv_icmp_lt (pc := 5) (tgt := 17) hx hb dX0_takeFurtherAway_5 (by decide) (fun c1 => ?_) (fun c1 => ?_)
  · replace hf := ip c1 hf
    obtain rfl := Option.some.inj hf
    exact W.vret hx hb hr (fun t ht hW => ⟨rfl, by rw [ht]; exact hP, hD, hS.F ht⟩) hS.2.2 dX0_takeFurtherAway_17
  · replace hf := im c1 hf
    refine lv_aload_n (pc := 8) hx hb dX0_takeFurtherAway_8 rfl (lv_at hl 0 rfl) ?_
    refine va_get (pc := 9) (D := D) (ci := 0) (v := .int (od.1 4)) (C := RX0) (T := TX0) (N := 15) hx hb hts iX0 hown hK.1 hP 0 rfl rfl 4 (by decide) (hts _ fl_RX0_50) (fun _ h => h) rfl dX0_takeFurtherAway_9 ?_
    refine lv_bipush (v := 9) (pc := 12) hx hb dX0_takeFurtherAway_12 (by decide) ?_
    refine lv_icmp_le (pc := 14) (tgt := 18) hx hb dX0_takeFurtherAway_14 (by decide) (fun c2 => ?_) (fun c2 => ?_)
    · replace hf := ip c2 hf
      refine lv_aload_n (pc := 18) hx hb dX0_takeFurtherAway_18 rfl (lv_at hl 0 rfl) ?_
      refine lv_dup (pc := 19) hx hb dX0_takeFurtherAway_19 rfl ?_
      refine va_get (pc := 20) (D := D) (ci := 0) (v := .int (od.1 4)) (C := RX0) (T := TX0) (N := 15) hx hb hts iX0 hown hK.1 hP 0 rfl rfl 4 (by decide) (hts _ fl_RX0_50) (fun _ h => h) rfl dX0_takeFurtherAway_20 ?_
      refine lv_iconst (v := 1) (pc := 23) hx hb dX0_takeFurtherAway_23 (by decide) ?_
      refine lv_isub (pc := 24) hx hb dX0_takeFurtherAway_24 ?_
      obtain ⟨o3, eo3, hf⟩ := lt_some hf
      refine va_put (pc := 25) (D := D) (ci := 0) (v := .int ((od.1 4) - 1)) (ty := .int) (C := RX0) (T := TX0) (N := 15) hx hb hts iX0 tyX0 tyX0_ok nmX0 hown hK.1 hP hD hS 0 rfl rfl 4 (by decide) (hts _ fl_RX0_50) (fun _ h => h) rfl (tyX0_ok 4 (by decide)) rfl rfl (Nat.le_of_ble_eq_true rfl) dX0_takeFurtherAway_25 (fun H locs hP hD hS => ?_)
      replace hP : va_P D vwCl (bX0 cI a q o3 ++ bX1 (q 13) odw) H := by rw [eo3]; exact hP
      replace hD : va_D A (bX0 cI a q o3 ++ bX1 (q 13) odw) := by rw [eo3]; exact hD
      refine lv_aload_n (pc := 28) hx hb dX0_takeFurtherAway_28 rfl (lv_at hl 0 rfl) ?_
      refine va_get (pc := 29) (D := D) (ci := 0) (v := .ref (q 13)) (C := RX0) (T := TX0) (N := 15) hx hb hts iX0 hown hK.1 hP 0 rfl rfl 13 (by decide) (hts _ fl_RX0_27) (fun _ h => h) rfl dX0_takeFurtherAway_29 ?_
      refine lv_aload_n (pc := 32) hx hb dX0_takeFurtherAway_32 rfl (lv_at hl 0 rfl) ?_
      refine va_get (pc := 33) (D := D) (ci := 0) (v := .ref (q 0)) (C := RX0) (T := TX0) (N := 15) hx hb hts iX0 hown hK.1 hP 0 rfl rfl 0 (by decide) (hts _ fl_RX0_11) (fun _ h => h) rfl dX0_takeFurtherAway_33 ?_
      refine lv_aload_n (pc := 36) hx hb dX0_takeFurtherAway_36 rfl (lv_at hl 0 rfl) ?_
      refine va_get (pc := 37) (D := D) (ci := 0) (v := .int (o3.1 4)) (C := RX0) (T := TX0) (N := 15) hx hb hts iX0 hown hK.1 hP 0 rfl rfl 4 (by decide) (hts _ fl_RX0_50) (fun _ h => h) rfl dX0_takeFurtherAway_37 ?_
      obtain ⟨h4, hf⟩ := ck_some hf
      refine va_iald (pc := 40) (f := o3.2.2 0) hx hb hK.1 hP 1 0 rfl rfl h4 dX0_takeFurtherAway_40 ?_
      refine lv_aload_n (pc := 41) hx hb dX0_takeFurtherAway_41 rfl (lv_at hl 0 rfl) ?_
      refine va_get (pc := 42) (D := D) (ci := 0) (v := .ref (q 1)) (C := RX0) (T := TX0) (N := 15) hx hb hts iX0 hown hK.1 hP 0 rfl rfl 1 (by decide) (hts _ fl_RX0_15) (fun _ h => h) rfl dX0_takeFurtherAway_42 ?_
      refine lv_aload_n (pc := 45) hx hb dX0_takeFurtherAway_45 rfl (lv_at hl 0 rfl) ?_
      refine va_get (pc := 46) (D := D) (ci := 0) (v := .int (o3.1 4)) (C := RX0) (T := TX0) (N := 15) hx hb hts iX0 hown hK.1 hP 0 rfl rfl 4 (by decide) (hts _ fl_RX0_50) (fun _ h => h) rfl dX0_takeFurtherAway_46 ?_
      obtain ⟨h5, hf⟩ := ck_some hf
      refine va_iald (pc := 49) (f := o3.2.2 1) hx hb hK.1 hP 2 0 rfl rfl h5 dX0_takeFurtherAway_49 ?_
      refine lv_aload_n (pc := 50) hx hb dX0_takeFurtherAway_50 rfl (lv_at hl 0 rfl) ?_
      refine va_get (pc := 51) (D := D) (ci := 0) (v := .ref (q 2)) (C := RX0) (T := TX0) (N := 15) hx hb hts iX0 hown hK.1 hP 0 rfl rfl 2 (by decide) (hts _ fl_RX0_18) (fun _ h => h) rfl dX0_takeFurtherAway_51 ?_
      refine lv_aload_n (pc := 54) hx hb dX0_takeFurtherAway_54 rfl (lv_at hl 0 rfl) ?_
      refine va_get (pc := 55) (D := D) (ci := 0) (v := .int (o3.1 4)) (C := RX0) (T := TX0) (N := 15) hx hb hts iX0 hown hK.1 hP 0 rfl rfl 4 (by decide) (hts _ fl_RX0_50) (fun _ h => h) rfl dX0_takeFurtherAway_55 ?_
      obtain ⟨h6, hf⟩ := ck_some hf
      refine va_iald (pc := 58) (f := o3.2.2 2) hx hb hK.1 hP 3 0 rfl rfl h6 dX0_takeFurtherAway_58 ?_
      refine lv_ineg (pc := 59) hx hb dX0_takeFurtherAway_59 ?_
      obtain ⟨x7, ex7, hf⟩ := bd_some hf
      refine ct_V (pc := 60) (As := [.int (o3.2.2 0 ((o3.1 4) : Int32).toNatClampNeg), .int (o3.2.2 1 ((o3.1 4) : Int32).toNatClampNeg), .int (-(o3.2.2 2 ((o3.1 4) : Int32).toNatClampNeg))]) (rest := []) (wr := bX0 cI a q o3) (W1 := bX0 cI a q o3 ++ bX1 (q 13) x7) ⟨hx, hb, hml, hown, hts⟩ hK (c_X1_put l D cI cZ cS (q 13) (o3.2.2 0 ((o3.1 4) : Int32).toNatClampNeg) (o3.2.2 1 ((o3.1 4) : Int32).toNatClampNeg) (-(o3.2.2 2 ((o3.1 4) : Int32).toNatClampNeg)) odw x7 ex7) gv_RX0_74 rfl hs_X1_put rfl ⟨Nat.le_of_ble_eq_true rfl, Nat.le_of_ble_eq_true rfl⟩ (ci := 1) (q0 := 5) rfl rfl rfl hl.1 rfl (Nat.le_of_ble_eq_true rfl) dX0_takeFurtherAway_60 ⟨Nat.zero_le _, Nat.zero_le _⟩ hP hD hS hA [5] [0, 1, 2, 3, 4] [0, 1, 2, 3, 4, 5] rfl rfl (by decide +kernel) (by decide +kernel) (by decide +kernel) (by decide +kernel) rfl (fun H locs hP hD hS => ?_)
      refine lv_aload_n (pc := 63) hx hb dX0_takeFurtherAway_63 rfl (lv_at hl 0 rfl) ?_
      refine lv_dup (pc := 64) hx hb dX0_takeFurtherAway_64 rfl ?_
      refine va_get (pc := 65) (D := D) (ci := 0) (v := .int (o3.1 8)) (C := RX0) (T := TX0) (N := 15) hx hb hts iX0 hown hK.1 hP 0 rfl rfl 8 (by decide) (hts _ fl_RX0_68) (fun _ h => h) rfl dX0_takeFurtherAway_65 ?_
      refine lv_iconst (v := 1) (pc := 68) hx hb dX0_takeFurtherAway_68 (by decide) ?_
      refine lv_aload_n (pc := 69) hx hb dX0_takeFurtherAway_69 rfl (lv_at hl 0 rfl) ?_
      refine va_get (pc := 70) (D := D) (ci := 0) (v := .int (o3.1 4)) (C := RX0) (T := TX0) (N := 15) hx hb hts iX0 hown hK.1 hP 0 rfl rfl 4 (by decide) (hts _ fl_RX0_50) (fun _ h => h) rfl dX0_takeFurtherAway_70 ?_
      refine lv_ishl (pc := 73) hx hb dX0_takeFurtherAway_73 ?_
      refine lv_iconst (v := -1) (pc := 74) hx hb dX0_takeFurtherAway_74 (by decide) ?_
      refine lv_ixor (pc := 75) hx hb dX0_takeFurtherAway_75 ?_
      refine lv_iand (pc := 76) hx hb dX0_takeFurtherAway_76 ?_
      obtain ⟨o8, eo8, hf⟩ := lt_some hf
      refine va_put (pc := 77) (D := D) (ci := 0) (v := .int ((o3.1 8) &&& ((1 <<< ((o3.1 4) &&& 31)) ^^^ (-1)))) (ty := .int) (C := RX0) (T := TX0) (N := 15) hx hb hts iX0 tyX0 tyX0_ok nmX0 hown hK.1 hP hD hS 0 rfl rfl 8 (by decide) (hts _ fl_RX0_68) (fun _ h => h) rfl (tyX0_ok 8 (by decide)) rfl rfl (Nat.le_of_ble_eq_true rfl) dX0_takeFurtherAway_77 (fun H locs hP hD hS => ?_)
      replace hP : va_P D vwCl (bX0 cI a q o8 ++ bX1 (q 13) x7) H := by rw [eo8]; exact hP
      replace hD : va_D A (bX0 cI a q o8 ++ bX1 (q 13) x7) := by rw [eo8]; exact hD
      obtain rfl := Option.some.inj hf
      exact W.vret hx hb hr (fun t ht hW => ⟨rfl, by rw [ht]; exact hP, hD, hS.F ht⟩) hS.2.2 dX0_takeFurtherAway_80
    · replace hf := im c2 hf
      obtain rfl := Option.some.inj hf
      exact W.vret hx hb hr (fun t ht hW => ⟨rfl, by rw [ht]; exact hP, hD, hS.F ht⟩) hS.2.2 dX0_takeFurtherAway_17
def f_X0_pullsNoPile (i0 : Int32) (i1 : Int32) (od : OS) (odp : OS) : Option (Int32 × OS) := Option.bind (f_X1_tilt 1 i0.toInt64 i1.toInt64 odp) fun x1 => Option.bind (f_X0_mostPulled od x1) fun x2 => if 0 ≤ x2 then some (0, x1) else some (1, x1)
set_option maxHeartbeats 4000000 in
set_option maxRecDepth 100000 in
theorem c_X0_pullsNoPile (l : Launch) (D : va_G) (cI cZ cS : ClassId) (a : Nat) (q : Nat → Nat) (i0 : Int32) (i1 : Int32) (od : OS) (odp : OS) (x : (Int32 × OS)) (hf : f_X0_pullsNoPile i0 i1 od odp = some x) : Ct l yX0_pullsNoPile cX0_pullsNoPile 3 (some .boolean) 2 48 D cI cZ cS [.ref a, .int i0, .int i1] (bX0 cI a q od ++ bX1 (q 14) odp) (some (.int x.1)) (bX0 cI a q od ++ bX1 (q 14) x.2) := by
  intro sz
  refine Met.ofW (cc := cX0_pullsNoPile) (maxL := 3) (ret := (some .boolean)) (by decide +kernel) rfl ?_
  intro p e s m args below meth c s₁ B hml hv
  obtain ⟨rfl, hsz, hP, hK, hD0⟩ := hv
  have hx := B.exec
  have hb := B.bytes
  have hr := B.returns
  have hts0 := atoms_spec (ws := .code yX0_pullsNoPile cX0_pullsNoPile 3 (some .boolean) :: TB) B.pre
  have hts := fun w (h : w ∈ TB) => hts0 w (List.mem_cons_of_mem _ h)
  have hown : s.vm.findClass RX0 = some m.cls := findClass_of_methodNamed B.named
  have hlocks := B.notSynchronized
  subst hsz
  have hD := hD0.self (sz := s.heap.size)
  generalize hAe : va_A (bX0 cI a q od ++ bX1 (q 14) odp) s.heap.size = A at hD ⊢
  have hA : ∀ q : Nat, s.heap.size ≤ q → A q := fun q h => by rw [← hAe]; exact Or.inr h
  have hS : va_S A s.heap s.heap [] := va_S.rf
  obtain ⟨H, hH⟩ : ∃ H, H = s.heap := ⟨_, rfl⟩
  rw [← hH] at hP
  have hS : va_S A s.heap H [] := by rw [hH]; exact hS
  have hl := lv_entry ([.ref a, .int i0, .int i1]) (n := 3) (Nat.le_of_ble_eq_true rfl)
  rw [lg_entry_eq]
  generalize (lg_sl ([.ref a, .int i0, .int i1]) ++ List.replicate (3 - (lg_sl ([.ref a, .int i0, .int i1])).length) Slot.unset).toArray = ls at hl ⊢
  have hl : lv_has ls 3 [(0, .ref a), (1, .int i0), (2, .int i1)] := hl
  refine W_heap hH ?_
  obtain ⟨locs, hlo⟩ : ∃ locs : List Loc, locs = [] := ⟨_, rfl⟩
  rw [← hlo] at hS ⊢
  unfold f_X0_pullsNoPile at hf
  refine lv_aload_n (pc := 0) hx hb dX0_pullsNoPile_0 rfl (lv_at hl 0 rfl) ?_
  refine va_get (pc := 1) (D := D) (ci := 0) (v := .ref (q 14)) (C := RX0) (T := TX0) (N := 15) hx hb hts iX0 hown hK.1 hP 0 rfl rfl 14 (by decide) (hts _ fl_RX0_31) (fun _ h => h) rfl dX0_pullsNoPile_1 ?_
  refine lv_lconst (v := 1) (pc := 4) hx hb dX0_pullsNoPile_4 (by decide) ?_
  refine lv_iload_n (pc := 5) hx hb dX0_pullsNoPile_5 rfl (lv_at hl 1 rfl) ?_
  refine lv_i2l (pc := 6) hx hb dX0_pullsNoPile_6 rfl ?_
  refine lv_iload_n (pc := 7) hx hb dX0_pullsNoPile_7 rfl (lv_at hl 2 rfl) ?_
  refine lv_i2l (pc := 8) hx hb dX0_pullsNoPile_8 rfl ?_
  obtain ⟨x1, ex1, hf⟩ := bd_some hf
  refine ct_V (pc := 9) (As := [.long 1, .long i0.toInt64, .long i1.toInt64]) (rest := []) (wr := bX0 cI a q od) (W1 := bX0 cI a q od ++ bX1 (q 14) x1) ⟨hx, hb, hml, hown, hts⟩ hK (c_X1_tilt l D cI cZ cS (q 14) 1 i0.toInt64 i1.toInt64 odp x1 ex1) gv_RX0_102 rfl hs_X1_tilt rfl ⟨Nat.le_of_ble_eq_true rfl, Nat.le_of_ble_eq_true rfl⟩ (ci := 1) (q0 := 5) rfl rfl rfl hl.1 rfl (Nat.le_of_ble_eq_true rfl) dX0_pullsNoPile_9 ⟨Nat.zero_le _, Nat.zero_le _⟩ hP hD hS hA [5] [0, 1, 2, 3, 4] [0, 1, 2, 3, 4, 5] rfl rfl (by decide +kernel) (by decide +kernel) (by decide +kernel) (by decide +kernel) rfl (fun H locs hP hD hS => ?_)
  refine lv_aload_n (pc := 12) hx hb dX0_pullsNoPile_12 rfl (lv_at hl 0 rfl) ?_
  obtain ⟨x2, ex2, hf⟩ := bd_some hf
  refine ct_V1 (pc := 13) (As := []) (rest := []) (W1 := bX0 cI a q od ++ bX1 (q 14) x1) ⟨hx, hb, hml, hown, hts⟩ hK (c_X0_mostPulled l D cI cZ cS a q od x1 x2 ex2) gv_RX0_106 rfl hs_X0_mostPulled rfl ⟨Nat.le_of_ble_eq_true rfl, Nat.le_of_ble_eq_true rfl⟩ (ci := 0) (q0 := 0) rfl rfl rfl hl.1 rfl (Nat.le_of_ble_eq_true rfl) dX0_pullsNoPile_13 ⟨Nat.zero_le _, Nat.zero_le _⟩ hP hD hS hA (fun H locs hP hD hS => ?_)
  refine lv_if_ge (pc := 16) (tgt := 23) hx hb dX0_pullsNoPile_16 (by decide) (fun c3 => ?_) (fun c3 => ?_)
  · replace hf := ip c3 hf
    refine lv_iconst (v := 0) (pc := 23) hx hb dX0_pullsNoPile_23 (by decide) ?_
    obtain rfl := Option.some.inj hf
    exact W.zret hx hb hr rfl (fun t ht hW => ⟨rfl, by rw [ht]; exact hP, hD, hS.F ht⟩) hS.2.2 dX0_pullsNoPile_24
  · replace hf := im c3 hf
    refine lv_iconst (v := 1) (pc := 19) hx hb dX0_pullsNoPile_19 (by decide) ?_
    refine lv_goto (pc := 20) (tgt := 24) hx hb dX0_pullsNoPile_20 (by decide) ?_
    obtain rfl := Option.some.inj hf
    exact W.zret hx hb hr rfl (fun t ht hW => ⟨rfl, by rw [ht]; exact hP, hD, hS.F ht⟩) hS.2.2 dX0_pullsNoPile_24
def f_X0_braceAll (i0 : Int32) (od : OS) (odw : OS) (odp : OS) : Option (Int32 × OS × OS × OS) := Option.bind (f_X0_beginWith i0 od odw) fun x1 => Option.bind (f_X1_copySums odp x1.2) fun x2 => lt (sI x1.1 9 (x1.1.1 8)) fun o3 => Option.bind (f_X1_brace x2) fun x4 => bz x4.1 (some (x4.1, o3, x1.2, x4.2))
set_option maxHeartbeats 4000000 in
set_option maxRecDepth 100000 in
theorem c_X0_braceAll (l : Launch) (D : va_G) (cI cZ cS : ClassId) (a : Nat) (q : Nat → Nat) (i0 : Int32) (od : OS) (odw : OS) (odp : OS) (x : (Int32 × OS × OS × OS)) (hf : f_X0_braceAll i0 od odw odp = some x) : Ct l yX0_braceAll cX0_braceAll 2 (some .boolean) 2 47 D cI cZ cS [.ref a, .int i0] (bX0 cI a q od ++ (bX1 (q 13) odw ++ bX1 (q 14) odp)) (some (.int x.1)) (bX0 cI a q x.2.1 ++ (bX1 (q 13) x.2.2.1 ++ bX1 (q 14) x.2.2.2)) := by
  intro sz
  refine Met.ofW (cc := cX0_braceAll) (maxL := 2) (ret := (some .boolean)) (by decide +kernel) rfl ?_
  intro p e s m args below meth c s₁ B hml hv
  obtain ⟨rfl, hsz, hP, hK, hD0⟩ := hv
  have hx := B.exec
  have hb := B.bytes
  have hr := B.returns
  have hts0 := atoms_spec (ws := .code yX0_braceAll cX0_braceAll 2 (some .boolean) :: TB) B.pre
  have hts := fun w (h : w ∈ TB) => hts0 w (List.mem_cons_of_mem _ h)
  have hown : s.vm.findClass RX0 = some m.cls := findClass_of_methodNamed B.named
  have hlocks := B.notSynchronized
  subst hsz
  have hD := hD0.self (sz := s.heap.size)
  generalize hAe : va_A (bX0 cI a q od ++ (bX1 (q 13) odw ++ bX1 (q 14) odp)) s.heap.size = A at hD ⊢
  have hA : ∀ q : Nat, s.heap.size ≤ q → A q := fun q h => by rw [← hAe]; exact Or.inr h
  have hS : va_S A s.heap s.heap [] := va_S.rf
  obtain ⟨H, hH⟩ : ∃ H, H = s.heap := ⟨_, rfl⟩
  rw [← hH] at hP
  have hS : va_S A s.heap H [] := by rw [hH]; exact hS
  have hl := lv_entry ([.ref a, .int i0]) (n := 2) (Nat.le_of_ble_eq_true rfl)
  rw [lg_entry_eq]
  generalize (lg_sl ([.ref a, .int i0]) ++ List.replicate (2 - (lg_sl ([.ref a, .int i0])).length) Slot.unset).toArray = ls at hl ⊢
  have hl : lv_has ls 2 [(0, .ref a), (1, .int i0)] := hl
  refine W_heap hH ?_
  obtain ⟨locs, hlo⟩ : ∃ locs : List Loc, locs = [] := ⟨_, rfl⟩
  rw [← hlo] at hS ⊢
  unfold f_X0_braceAll at hf
  refine lv_aload_n (pc := 0) hx hb dX0_braceAll_0 rfl (lv_at hl 0 rfl) ?_
  refine lv_iload_n (pc := 1) hx hb dX0_braceAll_1 rfl (lv_at hl 1 rfl) ?_
  obtain ⟨x1, ex1, hf⟩ := bd_some hf
  refine ct_V (pc := 2) (As := [.int i0]) (rest := []) (wr := bX1 (q 14) odp) (W1 := bX0 cI a q x1.1 ++ (bX1 (q 13) x1.2 ++ bX1 (q 14) odp)) ⟨hx, hb, hml, hown, hts⟩ hK (c_X0_beginWith l D cI cZ cS a q i0 od odw x1 ex1) gv_RX0_61 rfl hs_X0_beginWith rfl ⟨Nat.le_of_ble_eq_true rfl, Nat.le_of_ble_eq_true rfl⟩ (ci := 0) (q0 := 0) rfl rfl rfl hl.1 rfl (Nat.le_of_ble_eq_true rfl) dX0_braceAll_2 ⟨Nat.zero_le _, Nat.zero_le _⟩ hP hD hS hA [0, 1, 2, 3, 4, 5] [6] [1, 2, 3, 4, 5, 6, 0] rfl rfl (by decide +kernel) (by decide +kernel) (by decide +kernel) (by decide +kernel) rfl (fun H locs hP hD hS => ?_)
  refine lv_aload_n (pc := 5) hx hb dX0_braceAll_5 rfl (lv_at hl 0 rfl) ?_
  refine va_get (pc := 6) (D := D) (ci := 0) (v := .ref (q 14)) (C := RX0) (T := TX0) (N := 15) hx hb hts iX0 hown hK.1 hP 0 rfl rfl 14 (by decide) (hts _ fl_RX0_31) (fun _ h => h) rfl dX0_braceAll_6 ?_
  refine lv_aload_n (pc := 9) hx hb dX0_braceAll_9 rfl (lv_at hl 0 rfl) ?_
  refine va_get (pc := 10) (D := D) (ci := 0) (v := .ref (q 13)) (C := RX0) (T := TX0) (N := 15) hx hb hts iX0 hown hK.1 hP 0 rfl rfl 13 (by decide) (hts _ fl_RX0_27) (fun _ h => h) rfl dX0_braceAll_10 ?_
  obtain ⟨x2, ex2, hf⟩ := bd_some hf
  refine ct_V (pc := 13) (As := [.ref (q 13)]) (rest := []) (wr := bX0 cI a q x1.1) (W1 := bX0 cI a q x1.1 ++ (bX1 (q 13) x1.2 ++ bX1 (q 14) x2)) ⟨hx, hb, hml, hown, hts⟩ hK (c_X1_copySums l D cI cZ cS (q 14) (q 13) odp x1.2 x2 ex2) gv_RX0_78 rfl hs_X1_copySums rfl ⟨Nat.le_of_ble_eq_true rfl, Nat.le_of_ble_eq_true rfl⟩ (ci := 1) (q0 := 6) rfl rfl rfl hl.1 rfl (Nat.le_of_ble_eq_true rfl) dX0_braceAll_13 ⟨Nat.zero_le _, Nat.zero_le _⟩ hP hD hS hA [6, 5] [0, 1, 2, 3, 4] [0, 1, 2, 3, 4, 6, 5] rfl rfl (by decide +kernel) (by decide +kernel) (by decide +kernel) (by decide +kernel) rfl (fun H locs hP hD hS => ?_)
  refine lv_aload_n (pc := 16) hx hb dX0_braceAll_16 rfl (lv_at hl 0 rfl) ?_
  refine lv_aload_n (pc := 17) hx hb dX0_braceAll_17 rfl (lv_at hl 0 rfl) ?_
  refine va_get (pc := 18) (D := D) (ci := 0) (v := .int (x1.1.1 8)) (C := RX0) (T := TX0) (N := 15) hx hb hts iX0 hown hK.1 hP 0 rfl rfl 8 (by decide) (hts _ fl_RX0_68) (fun _ h => h) rfl dX0_braceAll_18 ?_
  obtain ⟨o3, eo3, hf⟩ := lt_some hf
  refine va_put (pc := 21) (D := D) (ci := 0) (v := .int (x1.1.1 8)) (ty := .int) (C := RX0) (T := TX0) (N := 15) hx hb hts iX0 tyX0 tyX0_ok nmX0 hown hK.1 hP hD hS 0 rfl rfl 9 (by decide) (hts _ fl_RX0_82) (fun _ h => h) rfl (tyX0_ok 9 (by decide)) rfl rfl (Nat.le_of_ble_eq_true rfl) dX0_braceAll_21 (fun H locs hP hD hS => ?_)
  replace hP : va_P D vwCl (bX0 cI a q o3 ++ (bX1 (q 13) x1.2 ++ bX1 (q 14) x2)) H := by rw [eo3]; exact hP
  replace hD : va_D A (bX0 cI a q o3 ++ (bX1 (q 13) x1.2 ++ bX1 (q 14) x2)) := by rw [eo3]; exact hD
  refine lv_aload_n (pc := 24) hx hb dX0_braceAll_24 rfl (lv_at hl 0 rfl) ?_
  refine va_get (pc := 25) (D := D) (ci := 0) (v := .ref (q 14)) (C := RX0) (T := TX0) (N := 15) hx hb hts iX0 hown hK.1 hP 0 rfl rfl 14 (by decide) (hts _ fl_RX0_31) (fun _ h => h) rfl dX0_braceAll_25 ?_
  obtain ⟨x4, ex4, hf⟩ := bd_some hf
  refine ct_V (pc := 28) (As := []) (rest := []) (wr := bX0 cI a q o3 ++ bX1 (q 13) x1.2) (W1 := bX0 cI a q o3 ++ (bX1 (q 13) x1.2 ++ bX1 (q 14) x4.2)) ⟨hx, hb, hml, hown, hts⟩ hK (c_X1_brace l D cI cZ cS (q 14) x2 x4 ex4) gv_RX0_99 rfl hs_X1_brace rfl ⟨Nat.le_of_ble_eq_true rfl, Nat.le_of_ble_eq_true rfl⟩ (ci := 1) (q0 := 6) rfl rfl rfl hl.1 rfl (Nat.le_of_ble_eq_true rfl) dX0_braceAll_28 ⟨Nat.zero_le _, Nat.zero_le _⟩ hP hD hS hA [6] [0, 1, 2, 3, 4, 5] [0, 1, 2, 3, 4, 5, 6] rfl rfl (by decide +kernel) (by decide +kernel) (by decide +kernel) (by decide +kernel) rfl (fun H locs hP hD hS => ?_)
  obtain ⟨h5, hf⟩ := bz_some hf
  obtain rfl := Option.some.inj hf
  exact W.zret hx hb hr h5 (fun t ht hW => ⟨rfl, by rw [ht]; exact hP, hD, hS.F ht⟩) hS.2.2 dX0_braceAll_31
def f_X0_bottom (od : OS) (odp : OS) : Option Int64 := some (odp.2.1 12)
set_option maxHeartbeats 4000000 in
set_option maxRecDepth 100000 in
theorem c_X0_bottom (l : Launch) (D : va_G) (cI cZ cS : ClassId) (a : Nat) (q : Nat → Nat) (od : OS) (odp : OS) (x : Int64) (hf : f_X0_bottom od odp = some x) : Ct l yX0_bottom cX0_bottom 1 (some .long) 0 0 D cI cZ cS [.ref a] (bX0 cI a q od ++ bX1 (q 14) odp) (some (.long x)) (bX0 cI a q od ++ bX1 (q 14) odp) := by
  intro sz
  refine Met.ofW (cc := cX0_bottom) (maxL := 1) (ret := (some .long)) (by decide +kernel) rfl ?_
  intro p e s m args below meth c s₁ B hml hv
  obtain ⟨rfl, hsz, hP, hK, hD0⟩ := hv
  have hx := B.exec
  have hb := B.bytes
  have hr := B.returns
  have hts0 := atoms_spec (ws := .code yX0_bottom cX0_bottom 1 (some .long) :: TB) B.pre
  have hts := fun w (h : w ∈ TB) => hts0 w (List.mem_cons_of_mem _ h)
  have hown : s.vm.findClass RX0 = some m.cls := findClass_of_methodNamed B.named
  have hlocks := B.notSynchronized
  subst hsz
  have hD := hD0.self (sz := s.heap.size)
  generalize hAe : va_A (bX0 cI a q od ++ bX1 (q 14) odp) s.heap.size = A at hD ⊢
  have hA : ∀ q : Nat, s.heap.size ≤ q → A q := fun q h => by rw [← hAe]; exact Or.inr h
  have hS : va_S A s.heap s.heap [] := va_S.rf
  obtain ⟨H, hH⟩ : ∃ H, H = s.heap := ⟨_, rfl⟩
  rw [← hH] at hP
  have hS : va_S A s.heap H [] := by rw [hH]; exact hS
  have hl := lv_entry ([.ref a]) (n := 1) (Nat.le_of_ble_eq_true rfl)
  rw [lg_entry_eq]
  generalize (lg_sl ([.ref a]) ++ List.replicate (1 - (lg_sl ([.ref a])).length) Slot.unset).toArray = ls at hl ⊢
  have hl : lv_has ls 1 [(0, .ref a)] := hl
  refine W_heap hH ?_
  obtain ⟨locs, hlo⟩ : ∃ locs : List Loc, locs = [] := ⟨_, rfl⟩
  rw [← hlo] at hS ⊢
  unfold f_X0_bottom at hf
  refine lv_aload_n (pc := 0) hx hb dX0_bottom_0 rfl (lv_at hl 0 rfl) ?_
  refine va_get (pc := 1) (D := D) (ci := 0) (v := .ref (q 14)) (C := RX0) (T := TX0) (N := 15) hx hb hts iX0 hown hK.1 hP 0 rfl rfl 14 (by decide) (hts _ fl_RX0_31) (fun _ h => h) rfl dX0_bottom_1 ?_
  refine va_getN (pc := 4) (D := D) (ci := 1) (v := .long (odp.2.1 12)) (C := RX1) (T := TX1) (N := 16) hx hb hts iX1 hown hK.1 hP 5 rfl rfl 12 (by decide) (va_Nw.use rfl (hK.2 _ nf_RX0_131)) (fun _ h => h) rfl dX0_bottom_4 ?_
  obtain rfl := Option.some.inj hf
  exact W.lret hx hb hr (fun t ht hW => ⟨rfl, by rw [ht]; exact hP, hD, hS.F ht⟩) hS.2.2 dX0_bottom_7
def f_J9_floorDiv_f86c9 (i0 : Int64) (i1 : Int64) : Option Int64 := dzL i1 (if 0 ≤ (i0 ^^^ i1) then some (i0 / i1) else if ((i0 / i1) * i1) = i0 then some (i0 / i1) else some ((i0 / i1) - 1))
set_option maxHeartbeats 4000000 in
set_option maxRecDepth 100000 in
theorem c_J9_floorDiv_f86c9 (l : Launch) (D : va_G) (cI cZ cS : ClassId) (i0 : Int64) (i1 : Int64) (x : Int64) (hf : f_J9_floorDiv_f86c9 i0 i1 = some x) : Ct l yJ9_floorDiv_f86c9 cJ9_floorDiv_f86c9 6 (some .long) 0 0 D cI cZ cS [.long i0, .long i1] ([]) (some (.long x)) ([]) := by
  intro sz
  refine va_MetF (cc := cJ9_floorDiv_f86c9) (maxL := 6) (ret := (some .long)) (by decide +kernel) rfl ?_
  intro p e s m args below meth c s₁ B hml hv
  obtain ⟨rfl, hsz, hP, hK, hD0⟩ := hv
  have hx := B.exec
  have hb := B.bytes
  have hr := B.returns
  have hts0 := atoms_spec (ws := .code yJ9_floorDiv_f86c9 cJ9_floorDiv_f86c9 6 (some .long) :: TB) B.pre
  have hts := fun w (h : w ∈ TB) => hts0 w (List.mem_cons_of_mem _ h)
  have hown : s.vm.findClass RJ9 = some m.cls := findClass_of_methodNamed B.named
  have hlocks := B.notSynchronized
  subst hsz
  have hD := hD0.self (sz := s.heap.size)
  generalize hAe : va_A ([]) s.heap.size = A at hD ⊢
  have hA : ∀ q : Nat, s.heap.size ≤ q → A q := fun q h => by rw [← hAe]; exact Or.inr h
  have hS : va_S A s.heap s.heap [] := va_S.rf
  obtain ⟨H, hH⟩ : ∃ H, H = s.heap := ⟨_, rfl⟩
  rw [← hH] at hP
  have hS : va_S A s.heap H [] := by rw [hH]; exact hS
  have hl := lv_entry ([.long i0, .long i1]) (n := 6) (Nat.le_of_ble_eq_true rfl)
  rw [lg_entry_eq]
  generalize (lg_sl ([.long i0, .long i1]) ++ List.replicate (6 - (lg_sl ([.long i0, .long i1])).length) Slot.unset).toArray = ls at hl ⊢
  have hl : lv_has ls 6 [(0, .long i0), (2, .long i1)] := hl
  refine W_heap hH ?_
  obtain ⟨locs, hlo⟩ : ∃ locs : List Loc, locs = [] := ⟨_, rfl⟩
  rw [← hlo] at hS ⊢
  unfold f_J9_floorDiv_f86c9 at hf
  refine lv_lload_n (pc := 0) hx hb dJ9_floorDiv_f86c9_0 rfl (lv_at hl 0 rfl) ?_
  refine lv_lload_n (pc := 1) hx hb dJ9_floorDiv_f86c9_1 rfl (lv_at hl 1 rfl) ?_
  obtain ⟨h1, hf⟩ := dzL_some hf
  refine lv_ldiv (pc := 2) hx hb dJ9_floorDiv_f86c9_2 h1 ?_
  refine lv_lstore (lv' := [(4, .long (i0 / i1)), (0, .long i0), (2, .long i1)]) (pc := 3) hx hb dJ9_floorDiv_f86c9_3 hl (by decide) rfl (fun ls hl => ?_)
  refine lv_lload_n (pc := 5) hx hb dJ9_floorDiv_f86c9_5 rfl (lv_at hl 1 rfl) ?_
  refine lv_lload_n (pc := 6) hx hb dJ9_floorDiv_f86c9_6 rfl (lv_at hl 2 rfl) ?_
  refine lv_lxor (pc := 7) hx hb dJ9_floorDiv_f86c9_7 ?_
  refine lv_lconst (v := 0) (pc := 8) hx hb dJ9_floorDiv_f86c9_8 (by decide) ?_
  refine W.lcmp (pc := 9) hx hb dJ9_floorDiv_f86c9_9 ?_
  refine lv_if_ge (pc := 10) (tgt := 27) hx hb dJ9_floorDiv_f86c9_10 (by decide) (fun c2 => ?_) (fun c2 => ?_)
  · replace c2 := (lg_cmp_ge _ _).mp c2
    replace hf := ip c2 hf
    refine lv_lload (pc := 27) hx hb dJ9_floorDiv_f86c9_27 (lv_at hl 0 rfl) ?_
    obtain rfl := Option.some.inj hf
    exact W.lret hx hb hr (fun t ht hW => ⟨rfl, by rw [ht]; exact hP, hD, hS.F ht⟩) hS.2.2 dJ9_floorDiv_f86c9_29
  · replace c2 := fun q => c2 ((lg_cmp_ge _ _).mpr q)
    replace hf := im c2 hf
    refine lv_lload (pc := 13) hx hb dJ9_floorDiv_f86c9_13 (lv_at hl 0 rfl) ?_
    refine lv_lload_n (pc := 15) hx hb dJ9_floorDiv_f86c9_15 rfl (lv_at hl 2 rfl) ?_
    refine lv_lmul (pc := 16) hx hb dJ9_floorDiv_f86c9_16 ?_
    refine lv_lload_n (pc := 17) hx hb dJ9_floorDiv_f86c9_17 rfl (lv_at hl 1 rfl) ?_
    refine W.lcmp (pc := 18) hx hb dJ9_floorDiv_f86c9_18 ?_
    refine lv_if_eq (pc := 19) (tgt := 27) hx hb dJ9_floorDiv_f86c9_19 (by decide) (fun c3 => ?_) (fun c3 => ?_)
    · replace c3 := (lg_cmp_eq _ _).mp c3
      replace hf := ip c3 hf
      refine lv_lload (pc := 27) hx hb dJ9_floorDiv_f86c9_27 (lv_at hl 0 rfl) ?_
      obtain rfl := Option.some.inj hf
      exact W.lret hx hb hr (fun t ht hW => ⟨rfl, by rw [ht]; exact hP, hD, hS.F ht⟩) hS.2.2 dJ9_floorDiv_f86c9_29
    · replace c3 := fun q => c3 ((lg_cmp_eq _ _).mpr q)
      replace hf := im c3 hf
      refine lv_lload (pc := 22) hx hb dJ9_floorDiv_f86c9_22 (lv_at hl 0 rfl) ?_
      refine lv_lconst (v := 1) (pc := 24) hx hb dJ9_floorDiv_f86c9_24 (by decide) ?_
      refine lv_lsub (pc := 25) hx hb dJ9_floorDiv_f86c9_25 ?_
      obtain rfl := Option.some.inj hf
      exact W.lret hx hb hr (fun t ht hW => ⟨rfl, by rw [ht]; exact hP, hD, hS.F ht⟩) hS.2.2 dJ9_floorDiv_f86c9_26
def f_X0_shareDown (i0 : Int32) (od : OS) (odp : OS) : Option Int64 := if (odp.2.1 12) = 0 then some 0 else Option.bind (f_X0_shareTop i0 od odp) fun x2 => Option.bind (f_J9_floorDiv_f86c9 x2 (odp.2.1 12)) fun x3 => some x3
set_option maxHeartbeats 4000000 in
set_option maxRecDepth 100000 in
theorem c_X0_shareDown (l : Launch) (D : va_G) (cI cZ cS : ClassId) (a : Nat) (q : Nat → Nat) (i0 : Int32) (od : OS) (odp : OS) (x : Int64) (hf : f_X0_shareDown i0 od odp = some x) : Ct l yX0_shareDown cX0_shareDown 2 (some .long) 2 43 D cI cZ cS [.ref a, .int i0] (bX0 cI a q od ++ bX1 (q 14) odp) (some (.long x)) (bX0 cI a q od ++ bX1 (q 14) odp) := by
  intro sz
  refine Met.ofW (cc := cX0_shareDown) (maxL := 2) (ret := (some .long)) (by decide +kernel) rfl ?_
  intro p e s m args below meth c s₁ B hml hv
  obtain ⟨rfl, hsz, hP, hK, hD0⟩ := hv
  have hx := B.exec
  have hb := B.bytes
  have hr := B.returns
  have hts0 := atoms_spec (ws := .code yX0_shareDown cX0_shareDown 2 (some .long) :: TB) B.pre
  have hts := fun w (h : w ∈ TB) => hts0 w (List.mem_cons_of_mem _ h)
  have hown : s.vm.findClass RX0 = some m.cls := findClass_of_methodNamed B.named
  have hlocks := B.notSynchronized
  subst hsz
  have hD := hD0.self (sz := s.heap.size)
  generalize hAe : va_A (bX0 cI a q od ++ bX1 (q 14) odp) s.heap.size = A at hD ⊢
  have hA : ∀ q : Nat, s.heap.size ≤ q → A q := fun q h => by rw [← hAe]; exact Or.inr h
  have hS : va_S A s.heap s.heap [] := va_S.rf
  obtain ⟨H, hH⟩ : ∃ H, H = s.heap := ⟨_, rfl⟩
  rw [← hH] at hP
  have hS : va_S A s.heap H [] := by rw [hH]; exact hS
  have hl := lv_entry ([.ref a, .int i0]) (n := 2) (Nat.le_of_ble_eq_true rfl)
  rw [lg_entry_eq]
  generalize (lg_sl ([.ref a, .int i0]) ++ List.replicate (2 - (lg_sl ([.ref a, .int i0])).length) Slot.unset).toArray = ls at hl ⊢
  have hl : lv_has ls 2 [(0, .ref a), (1, .int i0)] := hl
  refine W_heap hH ?_
  obtain ⟨locs, hlo⟩ : ∃ locs : List Loc, locs = [] := ⟨_, rfl⟩
  rw [← hlo] at hS ⊢
  unfold f_X0_shareDown at hf
  refine lv_aload_n (pc := 0) hx hb dX0_shareDown_0 rfl (lv_at hl 0 rfl) ?_
  refine va_get (pc := 1) (D := D) (ci := 0) (v := .ref (q 14)) (C := RX0) (T := TX0) (N := 15) hx hb hts iX0 hown hK.1 hP 0 rfl rfl 14 (by decide) (hts _ fl_RX0_31) (fun _ h => h) rfl dX0_shareDown_1 ?_
  refine va_getN (pc := 4) (D := D) (ci := 1) (v := .long (odp.2.1 12)) (C := RX1) (T := TX1) (N := 16) hx hb hts iX1 hown hK.1 hP 5 rfl rfl 12 (by decide) (va_Nw.use rfl (hK.2 _ nf_RX0_131)) (fun _ h => h) rfl dX0_shareDown_4 ?_
  refine lv_lconst (v := 0) (pc := 7) hx hb dX0_shareDown_7 (by decide) ?_
  refine W.lcmp (pc := 8) hx hb dX0_shareDown_8 ?_
  refine lv_if_ne (pc := 9) (tgt := 16) hx hb dX0_shareDown_9 (by decide) (fun c1 => ?_) (fun c1 => ?_)
  · replace c1 := fun q => c1 ((lg_cmp_eq _ _).mpr q)
    replace hf := im c1 hf
    refine lv_aload_n (pc := 16) hx hb dX0_shareDown_16 rfl (lv_at hl 0 rfl) ?_
    refine lv_iload_n (pc := 17) hx hb dX0_shareDown_17 rfl (lv_at hl 1 rfl) ?_
    obtain ⟨x2, ex2, hf⟩ := bd_some hf
    refine ct_V1 (pc := 18) (As := [.int i0]) (rest := []) (W1 := bX0 cI a q od ++ bX1 (q 14) odp) ⟨hx, hb, hml, hown, hts⟩ hK (c_X0_shareTop l D cI cZ cS a q i0 od odp x2 ex2) gv_RX0_120 rfl hs_X0_shareTop rfl ⟨Nat.le_of_ble_eq_true rfl, Nat.le_of_ble_eq_true rfl⟩ (ci := 0) (q0 := 0) rfl rfl rfl hl.1 rfl (Nat.le_of_ble_eq_true rfl) dX0_shareDown_18 ⟨Nat.zero_le _, Nat.zero_le _⟩ hP hD hS hA (fun H locs hP hD hS => ?_)
    refine lv_aload_n (pc := 21) hx hb dX0_shareDown_21 rfl (lv_at hl 0 rfl) ?_
    refine va_get (pc := 22) (D := D) (ci := 0) (v := .ref (q 14)) (C := RX0) (T := TX0) (N := 15) hx hb hts iX0 hown hK.1 hP 0 rfl rfl 14 (by decide) (hts _ fl_RX0_31) (fun _ h => h) rfl dX0_shareDown_22 ?_
    refine va_getN (pc := 25) (D := D) (ci := 1) (v := .long (odp.2.1 12)) (C := RX1) (T := TX1) (N := 16) hx hb hts iX1 hown hK.1 hP 5 rfl rfl 12 (by decide) (va_Nw.use rfl (hK.2 _ nf_RX0_131)) (fun _ h => h) rfl dX0_shareDown_25 ?_
    obtain ⟨x3, ex3, hf⟩ := bd_some hf
    refine ct_S0 (pc := 28) (As := [.long x2, .long (odp.2.1 12)]) (rest := []) ⟨hx, hb, hml, hown, hts⟩ hK (c_J9_floorDiv_f86c9 l D cI cZ cS x2 (odp.2.1 12) x3 ex3) gs_RX0_134 hs_J9_floorDiv_f86c9 rfl ⟨Nat.le_of_ble_eq_true rfl, Nat.le_of_ble_eq_true rfl⟩ hl.1 rfl (Nat.le_of_ble_eq_true rfl) dX0_shareDown_28 ⟨Nat.zero_le _, Nat.zero_le _⟩ hP hS hA (fun H locs hP hS => ?_)
    obtain rfl := Option.some.inj hf
    exact W.lret hx hb hr (fun t ht hW => ⟨rfl, by rw [ht]; exact hP, hD, hS.F ht⟩) hS.2.2 dX0_shareDown_31
  · replace c1 := (lg_cmp_eq _ _).mp c1
    replace hf := ip c1 hf
    refine lv_lconst (v := 0) (pc := 12) hx hb dX0_shareDown_12 (by decide) ?_
    refine lv_goto (pc := 13) (tgt := 31) hx hb dX0_shareDown_13 (by decide) ?_
    obtain rfl := Option.some.inj hf
    exact W.lret hx hb hr (fun t ht hW => ⟨rfl, by rw [ht]; exact hP, hD, hS.F ht⟩) hS.2.2 dX0_shareDown_31
def f_X0_useTop (od : OS) (odp : OS) : Option Int64 := Option.bind (f_X0_shareTop (od.1 12) od odp) fun x1 => some x1
set_option maxHeartbeats 4000000 in
set_option maxRecDepth 100000 in
theorem c_X0_useTop (l : Launch) (D : va_G) (cI cZ cS : ClassId) (a : Nat) (q : Nat → Nat) (od : OS) (odp : OS) (x : Int64) (hf : f_X0_useTop od odp = some x) : Ct l yX0_useTop cX0_useTop 1 (some .long) 2 43 D cI cZ cS [.ref a] (bX0 cI a q od ++ bX1 (q 14) odp) (some (.long x)) (bX0 cI a q od ++ bX1 (q 14) odp) := by
  intro sz
  refine Met.ofW (cc := cX0_useTop) (maxL := 1) (ret := (some .long)) (by decide +kernel) rfl ?_
  intro p e s m args below meth c s₁ B hml hv
  obtain ⟨rfl, hsz, hP, hK, hD0⟩ := hv
  have hx := B.exec
  have hb := B.bytes
  have hr := B.returns
  have hts0 := atoms_spec (ws := .code yX0_useTop cX0_useTop 1 (some .long) :: TB) B.pre
  have hts := fun w (h : w ∈ TB) => hts0 w (List.mem_cons_of_mem _ h)
  have hown : s.vm.findClass RX0 = some m.cls := findClass_of_methodNamed B.named
  have hlocks := B.notSynchronized
  subst hsz
  have hD := hD0.self (sz := s.heap.size)
  generalize hAe : va_A (bX0 cI a q od ++ bX1 (q 14) odp) s.heap.size = A at hD ⊢
  have hA : ∀ q : Nat, s.heap.size ≤ q → A q := fun q h => by rw [← hAe]; exact Or.inr h
  have hS : va_S A s.heap s.heap [] := va_S.rf
  obtain ⟨H, hH⟩ : ∃ H, H = s.heap := ⟨_, rfl⟩
  rw [← hH] at hP
  have hS : va_S A s.heap H [] := by rw [hH]; exact hS
  have hl := lv_entry ([.ref a]) (n := 1) (Nat.le_of_ble_eq_true rfl)
  rw [lg_entry_eq]
  generalize (lg_sl ([.ref a]) ++ List.replicate (1 - (lg_sl ([.ref a])).length) Slot.unset).toArray = ls at hl ⊢
  have hl : lv_has ls 1 [(0, .ref a)] := hl
  refine W_heap hH ?_
  obtain ⟨locs, hlo⟩ : ∃ locs : List Loc, locs = [] := ⟨_, rfl⟩
  rw [← hlo] at hS ⊢
  unfold f_X0_useTop at hf
  refine lv_aload_n (pc := 0) hx hb dX0_useTop_0 rfl (lv_at hl 0 rfl) ?_
  refine lv_aload_n (pc := 1) hx hb dX0_useTop_1 rfl (lv_at hl 0 rfl) ?_
  refine va_get (pc := 2) (D := D) (ci := 0) (v := .int (od.1 12)) (C := RX0) (T := TX0) (N := 15) hx hb hts iX0 hown hK.1 hP 0 rfl rfl 12 (by decide) (hts _ fl_RX0_117) (fun _ h => h) rfl dX0_useTop_2 ?_
  obtain ⟨x1, ex1, hf⟩ := bd_some hf
  refine ct_V1 (pc := 5) (As := [.int (od.1 12)]) (rest := []) (W1 := bX0 cI a q od ++ bX1 (q 14) odp) ⟨hx, hb, hml, hown, hts⟩ hK (c_X0_shareTop l D cI cZ cS a q (od.1 12) od odp x1 ex1) gv_RX0_120 rfl hs_X0_shareTop rfl ⟨Nat.le_of_ble_eq_true rfl, Nat.le_of_ble_eq_true rfl⟩ (ci := 0) (q0 := 0) rfl rfl rfl hl.1 rfl (Nat.le_of_ble_eq_true rfl) dX0_useTop_5 ⟨Nat.zero_le _, Nat.zero_le _⟩ hP hD hS hA (fun H locs hP hD hS => ?_)
  obtain rfl := Option.some.inj hf
  exact W.lret hx hb hr (fun t ht hW => ⟨rfl, by rw [ht]; exact hP, hD, hS.F ht⟩) hS.2.2 dX0_useTop_8
def f_X0_useBottom (od : OS) (odp : OS) : Option Int64 := Option.bind (f_X0_isSlot (od.1 12)) fun x1 => if x1 = 0 then some 1 else ck (od.1 12) 9 (some ((odp.2.1 12) * (((od.2.2 3 ((od.1 12) : Int32).toNatClampNeg) : Int32).toInt64)))
set_option maxHeartbeats 4000000 in
set_option maxRecDepth 100000 in
theorem c_X0_useBottom (l : Launch) (D : va_G) (cI cZ cS : ClassId) (a : Nat) (q : Nat → Nat) (od : OS) (odp : OS) (x : Int64) (hf : f_X0_useBottom od odp = some x) : Ct l yX0_useBottom cX0_useBottom 1 (some .long) 1 20 D cI cZ cS [.ref a] (bX0 cI a q od ++ bX1 (q 14) odp) (some (.long x)) (bX0 cI a q od ++ bX1 (q 14) odp) := by
  intro sz
  refine Met.ofW (cc := cX0_useBottom) (maxL := 1) (ret := (some .long)) (by decide +kernel) rfl ?_
  intro p e s m args below meth c s₁ B hml hv
  obtain ⟨rfl, hsz, hP, hK, hD0⟩ := hv
  have hx := B.exec
  have hb := B.bytes
  have hr := B.returns
  have hts0 := atoms_spec (ws := .code yX0_useBottom cX0_useBottom 1 (some .long) :: TB) B.pre
  have hts := fun w (h : w ∈ TB) => hts0 w (List.mem_cons_of_mem _ h)
  have hown : s.vm.findClass RX0 = some m.cls := findClass_of_methodNamed B.named
  have hlocks := B.notSynchronized
  subst hsz
  have hD := hD0.self (sz := s.heap.size)
  generalize hAe : va_A (bX0 cI a q od ++ bX1 (q 14) odp) s.heap.size = A at hD ⊢
  have hA : ∀ q : Nat, s.heap.size ≤ q → A q := fun q h => by rw [← hAe]; exact Or.inr h
  have hS : va_S A s.heap s.heap [] := va_S.rf
  obtain ⟨H, hH⟩ : ∃ H, H = s.heap := ⟨_, rfl⟩
  rw [← hH] at hP
  have hS : va_S A s.heap H [] := by rw [hH]; exact hS
  have hl := lv_entry ([.ref a]) (n := 1) (Nat.le_of_ble_eq_true rfl)
  rw [lg_entry_eq]
  generalize (lg_sl ([.ref a]) ++ List.replicate (1 - (lg_sl ([.ref a])).length) Slot.unset).toArray = ls at hl ⊢
  have hl : lv_has ls 1 [(0, .ref a)] := hl
  refine W_heap hH ?_
  obtain ⟨locs, hlo⟩ : ∃ locs : List Loc, locs = [] := ⟨_, rfl⟩
  rw [← hlo] at hS ⊢
  unfold f_X0_useBottom at hf
  refine lv_aload_n (pc := 0) hx hb dX0_useBottom_0 rfl (lv_at hl 0 rfl) ?_
  refine va_get (pc := 1) (D := D) (ci := 0) (v := .int (od.1 12)) (C := RX0) (T := TX0) (N := 15) hx hb hts iX0 hown hK.1 hP 0 rfl rfl 12 (by decide) (hts _ fl_RX0_117) (fun _ h => h) rfl dX0_useBottom_1 ?_
  obtain ⟨x1, ex1, hf⟩ := bd_some hf
  refine ct_S0 (pc := 4) (As := [.int (od.1 12)]) (rest := []) ⟨hx, hb, hml, hown, hts⟩ hK (c_X0_isSlot l D cI cZ cS (od.1 12) x1 ex1) gs_RX0_124 hs_X0_isSlot rfl ⟨Nat.le_of_ble_eq_true rfl, Nat.le_of_ble_eq_true rfl⟩ hl.1 rfl (Nat.le_of_ble_eq_true rfl) dX0_useBottom_4 ⟨Nat.zero_le _, Nat.zero_le _⟩ hP hS hA (fun H locs hP hS => ?_)
  refine lv_if_eq (pc := 7) (tgt := 31) hx hb dX0_useBottom_7 (by decide) (fun c2 => ?_) (fun c2 => ?_)
  · replace hf := ip c2 hf
    refine lv_lconst (v := 1) (pc := 31) hx hb dX0_useBottom_31 (by decide) ?_
    obtain rfl := Option.some.inj hf
    exact W.lret hx hb hr (fun t ht hW => ⟨rfl, by rw [ht]; exact hP, hD, hS.F ht⟩) hS.2.2 dX0_useBottom_32
  · replace hf := im c2 hf
    refine lv_aload_n (pc := 10) hx hb dX0_useBottom_10 rfl (lv_at hl 0 rfl) ?_
    refine va_get (pc := 11) (D := D) (ci := 0) (v := .ref (q 14)) (C := RX0) (T := TX0) (N := 15) hx hb hts iX0 hown hK.1 hP 0 rfl rfl 14 (by decide) (hts _ fl_RX0_31) (fun _ h => h) rfl dX0_useBottom_11 ?_
    refine va_getN (pc := 14) (D := D) (ci := 1) (v := .long (odp.2.1 12)) (C := RX1) (T := TX1) (N := 16) hx hb hts iX1 hown hK.1 hP 5 rfl rfl 12 (by decide) (va_Nw.use rfl (hK.2 _ nf_RX0_131)) (fun _ h => h) rfl dX0_useBottom_14 ?_
    refine lv_aload_n (pc := 17) hx hb dX0_useBottom_17 rfl (lv_at hl 0 rfl) ?_
    refine va_get (pc := 18) (D := D) (ci := 0) (v := .ref (q 3)) (C := RX0) (T := TX0) (N := 15) hx hb hts iX0 hown hK.1 hP 0 rfl rfl 3 (by decide) (hts _ fl_RX0_21) (fun _ h => h) rfl dX0_useBottom_18 ?_
    refine lv_aload_n (pc := 21) hx hb dX0_useBottom_21 rfl (lv_at hl 0 rfl) ?_
    refine va_get (pc := 22) (D := D) (ci := 0) (v := .int (od.1 12)) (C := RX0) (T := TX0) (N := 15) hx hb hts iX0 hown hK.1 hP 0 rfl rfl 12 (by decide) (hts _ fl_RX0_117) (fun _ h => h) rfl dX0_useBottom_22 ?_
    obtain ⟨h3, hf⟩ := ck_some hf
    refine va_iald (pc := 25) (f := od.2.2 3) hx hb hK.1 hP 4 0 rfl rfl h3 dX0_useBottom_25 ?_
    refine lv_i2l (pc := 26) hx hb dX0_useBottom_26 rfl ?_
    refine lv_lmul (pc := 27) hx hb dX0_useBottom_27 ?_
    refine lv_goto (pc := 28) (tgt := 32) hx hb dX0_useBottom_28 (by decide) ?_
    obtain rfl := Option.some.inj hf
    exact W.lret hx hb hr (fun t ht hW => ⟨rfl, by rw [ht]; exact hP, hD, hS.F ht⟩) hS.2.2 dX0_useBottom_32
def f_X2_append (i0 : Int32) (oc : OS) : Option (Int32 × OS) := if (oc.1 1) < 0 then some (0, oc) else if (oc.1 1) < 160 then ck (oc.1 1) 160 (lt (sA oc 0 (((oc.1 1) : Int32).toNatClampNeg) i0) fun o4 => lt (sI o4 1 ((o4.1 1) + 1)) fun o5 => some (1, o5)) else some (0, oc)
set_option maxHeartbeats 4000000 in
set_option maxRecDepth 100000 in
theorem c_X2_append (l : Launch) (D : va_G) (cI cZ cS : ClassId) (a : Nat) (q : Nat → Nat) (i0 : Int32) (oc : OS) (x : (Int32 × OS)) (hf : f_X2_append i0 oc = some x) : Ct l yX2_append cX2_append 2 (some .boolean) 0 0 D cI cZ cS [.ref a, .int i0] (bX2 cI a q oc) (some (.int x.1)) (bX2 cI a q x.2) := by
  intro sz
  refine Met.ofW (cc := cX2_append) (maxL := 2) (ret := (some .boolean)) (by decide +kernel) rfl ?_
  intro p e s m args below meth c s₁ B hml hv
  obtain ⟨rfl, hsz, hP, hK, hD0⟩ := hv
  have hx := B.exec
  have hb := B.bytes
  have hr := B.returns
  have hts0 := atoms_spec (ws := .code yX2_append cX2_append 2 (some .boolean) :: TB) B.pre
  have hts := fun w (h : w ∈ TB) => hts0 w (List.mem_cons_of_mem _ h)
  have hown : s.vm.findClass RX2 = some m.cls := findClass_of_methodNamed B.named
  have hlocks := B.notSynchronized
  subst hsz
  have hD := hD0.self (sz := s.heap.size)
  generalize hAe : va_A (bX2 cI a q oc) s.heap.size = A at hD ⊢
  have hA : ∀ q : Nat, s.heap.size ≤ q → A q := fun q h => by rw [← hAe]; exact Or.inr h
  have hS : va_S A s.heap s.heap [] := va_S.rf
  obtain ⟨H, hH⟩ : ∃ H, H = s.heap := ⟨_, rfl⟩
  rw [← hH] at hP
  have hS : va_S A s.heap H [] := by rw [hH]; exact hS
  have hl := lv_entry ([.ref a, .int i0]) (n := 2) (Nat.le_of_ble_eq_true rfl)
  rw [lg_entry_eq]
  generalize (lg_sl ([.ref a, .int i0]) ++ List.replicate (2 - (lg_sl ([.ref a, .int i0])).length) Slot.unset).toArray = ls at hl ⊢
  have hl : lv_has ls 2 [(0, .ref a), (1, .int i0)] := hl
  refine W_heap hH ?_
  obtain ⟨locs, hlo⟩ : ∃ locs : List Loc, locs = [] := ⟨_, rfl⟩
  rw [← hlo] at hS ⊢
  unfold f_X2_append at hf
  refine lv_aload_n (pc := 0) hx hb dX2_append_0 rfl (lv_at hl 0 rfl) ?_
  refine va_get (pc := 1) (D := D) (ci := 2) (v := .int (oc.1 1)) (C := RX2) (T := TX2) (N := 7) hx hb hts iX2 hown hK.1 hP 0 rfl rfl 1 (by decide) (hts _ fl_RX2_15) (fun _ h => h) rfl dX2_append_1 ?_
  refine lv_if_lt (pc := 4) (tgt := 17) hx hb dX2_append_4 (by decide) (fun c1 => ?_) (fun c1 => ?_)
  · replace hf := ip c1 hf
    refine lv_iconst (v := 0) (pc := 17) hx hb dX2_append_17 (by decide) ?_
    obtain rfl := Option.some.inj hf
    exact W.zret hx hb hr rfl (fun t ht hW => ⟨rfl, by rw [ht]; exact hP, hD, hS.F ht⟩) hS.2.2 dX2_append_18
  · replace hf := im c1 hf
    refine lv_aload_n (pc := 7) hx hb dX2_append_7 rfl (lv_at hl 0 rfl) ?_
    refine va_get (pc := 8) (D := D) (ci := 2) (v := .int (oc.1 1)) (C := RX2) (T := TX2) (N := 7) hx hb hts iX2 hown hK.1 hP 0 rfl rfl 1 (by decide) (hts _ fl_RX2_15) (fun _ h => h) rfl dX2_append_8 ?_
    refine lv_sipush (v := 160) (pc := 11) hx hb dX2_append_11 (by decide) ?_
    refine lv_icmp_lt (pc := 14) (tgt := 19) hx hb dX2_append_14 (by decide) (fun c2 => ?_) (fun c2 => ?_)
    · replace hf := ip c2 hf
      refine lv_aload_n (pc := 19) hx hb dX2_append_19 rfl (lv_at hl 0 rfl) ?_
      refine va_get (pc := 20) (D := D) (ci := 2) (v := .ref (q 0)) (C := RX2) (T := TX2) (N := 7) hx hb hts iX2 hown hK.1 hP 0 rfl rfl 0 (by decide) (hts _ fl_RX2_9) (fun _ h => h) rfl dX2_append_20 ?_
      refine lv_aload_n (pc := 23) hx hb dX2_append_23 rfl (lv_at hl 0 rfl) ?_
      refine va_get (pc := 24) (D := D) (ci := 2) (v := .int (oc.1 1)) (C := RX2) (T := TX2) (N := 7) hx hb hts iX2 hown hK.1 hP 0 rfl rfl 1 (by decide) (hts _ fl_RX2_15) (fun _ h => h) rfl dX2_append_24 ?_
      refine lv_iload_n (pc := 27) hx hb dX2_append_27 rfl (lv_at hl 1 rfl) ?_
      obtain ⟨h3, hf⟩ := ck_some hf
      obtain ⟨o4, eo4, hf⟩ := lt_some hf
      refine va_iast (pc := 28) (f := oc.2.2 0) hx hb hK.1 hP hD hS 1 0 rfl rfl h3 dX2_append_28 (fun H locs hP hD hS => ?_)
      replace hP : va_P D vwCl (bX2 cI a q o4) H := by rw [eo4]; exact hP
      replace hD : va_D A (bX2 cI a q o4) := by rw [eo4]; exact hD
      refine lv_aload_n (pc := 29) hx hb dX2_append_29 rfl (lv_at hl 0 rfl) ?_
      refine lv_dup (pc := 30) hx hb dX2_append_30 rfl ?_
      refine va_get (pc := 31) (D := D) (ci := 2) (v := .int (o4.1 1)) (C := RX2) (T := TX2) (N := 7) hx hb hts iX2 hown hK.1 hP 0 rfl rfl 1 (by decide) (hts _ fl_RX2_15) (fun _ h => h) rfl dX2_append_31 ?_
      refine lv_iconst (v := 1) (pc := 34) hx hb dX2_append_34 (by decide) ?_
      refine lv_iadd (pc := 35) hx hb dX2_append_35 ?_
      obtain ⟨o5, eo5, hf⟩ := lt_some hf
      refine va_put (pc := 36) (D := D) (ci := 2) (v := .int ((o4.1 1) + 1)) (ty := .int) (C := RX2) (T := TX2) (N := 7) hx hb hts iX2 tyX2 tyX2_ok nmX2 hown hK.1 hP hD hS 0 rfl rfl 1 (by decide) (hts _ fl_RX2_15) (fun _ h => h) rfl (tyX2_ok 1 (by decide)) rfl rfl (Nat.le_of_ble_eq_true rfl) dX2_append_36 (fun H locs hP hD hS => ?_)
      replace hP : va_P D vwCl (bX2 cI a q o5) H := by rw [eo5]; exact hP
      replace hD : va_D A (bX2 cI a q o5) := by rw [eo5]; exact hD
      refine lv_iconst (v := 1) (pc := 39) hx hb dX2_append_39 (by decide) ?_
      obtain rfl := Option.some.inj hf
      exact W.zret hx hb hr rfl (fun t ht hW => ⟨rfl, by rw [ht]; exact hP, hD, hS.F ht⟩) hS.2.2 dX2_append_40
    · replace hf := im c2 hf
      refine lv_iconst (v := 0) (pc := 17) hx hb dX2_append_17 (by decide) ?_
      obtain rfl := Option.some.inj hf
      exact W.zret hx hb hr rfl (fun t ht hW => ⟨rfl, by rw [ht]; exact hP, hD, hS.F ht⟩) hS.2.2 dX2_append_18
def f_X3_empty (os : OS) : Option OS := lt (sI os 4 0) fun o1 => lt (sI o1 5 0) fun o2 => lt (sI o2 9 0) fun o3 => lt (sI o3 10 0) fun o4 => lt (sI o4 11 0) fun o5 => some o5
set_option maxHeartbeats 4000000 in
set_option maxRecDepth 100000 in
theorem c_X3_empty (l : Launch) (D : va_G) (cI cZ cS : ClassId) (a : Nat) (q : Nat → Nat) (os : OS) (x : OS) (hf : f_X3_empty os = some x) : Ct l yX3_empty cX3_empty 1 none 0 0 D cI cZ cS [.ref a] (bX3 cI a q os) none (bX3 cI a q x) := by
  intro sz
  refine Met.ofW (cc := cX3_empty) (maxL := 1) (ret := none) (by decide +kernel) rfl ?_
  intro p e s m args below meth c s₁ B hml hv
  obtain ⟨rfl, hsz, hP, hK, hD0⟩ := hv
  have hx := B.exec
  have hb := B.bytes
  have hr := B.returns
  have hts0 := atoms_spec (ws := .code yX3_empty cX3_empty 1 none :: TB) B.pre
  have hts := fun w (h : w ∈ TB) => hts0 w (List.mem_cons_of_mem _ h)
  have hown : s.vm.findClass RX3 = some m.cls := findClass_of_methodNamed B.named
  have hlocks := B.notSynchronized
  subst hsz
  have hD := hD0.self (sz := s.heap.size)
  generalize hAe : va_A (bX3 cI a q os) s.heap.size = A at hD ⊢
  have hA : ∀ q : Nat, s.heap.size ≤ q → A q := fun q h => by rw [← hAe]; exact Or.inr h
  have hS : va_S A s.heap s.heap [] := va_S.rf
  obtain ⟨H, hH⟩ : ∃ H, H = s.heap := ⟨_, rfl⟩
  rw [← hH] at hP
  have hS : va_S A s.heap H [] := by rw [hH]; exact hS
  have hl := lv_entry ([.ref a]) (n := 1) (Nat.le_of_ble_eq_true rfl)
  rw [lg_entry_eq]
  generalize (lg_sl ([.ref a]) ++ List.replicate (1 - (lg_sl ([.ref a])).length) Slot.unset).toArray = ls at hl ⊢
  have hl : lv_has ls 1 [(0, .ref a)] := hl
  refine W_heap hH ?_
  obtain ⟨locs, hlo⟩ : ∃ locs : List Loc, locs = [] := ⟨_, rfl⟩
  rw [← hlo] at hS ⊢
  unfold f_X3_empty at hf
  refine lv_aload_n (pc := 0) hx hb dX3_empty_0 rfl (lv_at hl 0 rfl) ?_
  refine lv_iconst (v := 0) (pc := 1) hx hb dX3_empty_1 (by decide) ?_
  obtain ⟨o1, eo1, hf⟩ := lt_some hf
  refine va_put (pc := 2) (D := D) (ci := 3) (v := .int 0) (ty := .int) (C := RX3) (T := TX3) (N := 12) hx hb hts iX3 tyX3 tyX3_ok nmX3 hown hK.1 hP hD hS 0 rfl rfl 4 (by decide) (hts _ fl_RX3_33) (fun _ h => h) rfl (tyX3_ok 4 (by decide)) rfl rfl (Nat.le_of_ble_eq_true rfl) dX3_empty_2 (fun H locs hP hD hS => ?_)
  replace hP : va_P D vwCl (bX3 cI a q o1) H := by rw [eo1]; exact hP
  replace hD : va_D A (bX3 cI a q o1) := by rw [eo1]; exact hD
  refine lv_aload_n (pc := 5) hx hb dX3_empty_5 rfl (lv_at hl 0 rfl) ?_
  refine lv_iconst (v := 0) (pc := 6) hx hb dX3_empty_6 (by decide) ?_
  obtain ⟨o2, eo2, hf⟩ := lt_some hf
  refine va_put (pc := 7) (D := D) (ci := 3) (v := .int 0) (ty := .int) (C := RX3) (T := TX3) (N := 12) hx hb hts iX3 tyX3 tyX3_ok nmX3 hown hK.1 hP hD hS 0 rfl rfl 5 (by decide) (hts _ fl_RX3_37) (fun _ h => h) rfl (tyX3_ok 5 (by decide)) rfl rfl (Nat.le_of_ble_eq_true rfl) dX3_empty_7 (fun H locs hP hD hS => ?_)
  replace hP : va_P D vwCl (bX3 cI a q o2) H := by rw [eo2]; exact hP
  replace hD : va_D A (bX3 cI a q o2) := by rw [eo2]; exact hD
  refine lv_aload_n (pc := 10) hx hb dX3_empty_10 rfl (lv_at hl 0 rfl) ?_
  refine lv_iconst (v := 0) (pc := 11) hx hb dX3_empty_11 (by decide) ?_
  obtain ⟨o3, eo3, hf⟩ := lt_some hf
  refine va_put (pc := 12) (D := D) (ci := 3) (v := .int 0) (ty := .int) (C := RX3) (T := TX3) (N := 12) hx hb hts iX3 tyX3 tyX3_ok nmX3 hown hK.1 hP hD hS 0 rfl rfl 9 (by decide) (hts _ fl_RX3_40) (fun _ h => h) rfl (tyX3_ok 9 (by decide)) rfl rfl (Nat.le_of_ble_eq_true rfl) dX3_empty_12 (fun H locs hP hD hS => ?_)
  replace hP : va_P D vwCl (bX3 cI a q o3) H := by rw [eo3]; exact hP
  replace hD : va_D A (bX3 cI a q o3) := by rw [eo3]; exact hD
  refine lv_aload_n (pc := 15) hx hb dX3_empty_15 rfl (lv_at hl 0 rfl) ?_
  refine lv_iconst (v := 0) (pc := 16) hx hb dX3_empty_16 (by decide) ?_
  obtain ⟨o4, eo4, hf⟩ := lt_some hf
  refine va_put (pc := 17) (D := D) (ci := 3) (v := .int 0) (ty := .int) (C := RX3) (T := TX3) (N := 12) hx hb hts iX3 tyX3 tyX3_ok nmX3 hown hK.1 hP hD hS 0 rfl rfl 10 (by decide) (hts _ fl_RX3_43) (fun _ h => h) rfl (tyX3_ok 10 (by decide)) rfl rfl (Nat.le_of_ble_eq_true rfl) dX3_empty_17 (fun H locs hP hD hS => ?_)
  replace hP : va_P D vwCl (bX3 cI a q o4) H := by rw [eo4]; exact hP
  replace hD : va_D A (bX3 cI a q o4) := by rw [eo4]; exact hD
  refine lv_aload_n (pc := 20) hx hb dX3_empty_20 rfl (lv_at hl 0 rfl) ?_
  refine lv_iconst (v := 0) (pc := 21) hx hb dX3_empty_21 (by decide) ?_
  obtain ⟨o5, eo5, hf⟩ := lt_some hf
  refine va_put (pc := 22) (D := D) (ci := 3) (v := .int 0) (ty := .int) (C := RX3) (T := TX3) (N := 12) hx hb hts iX3 tyX3 tyX3_ok nmX3 hown hK.1 hP hD hS 0 rfl rfl 11 (by decide) (hts _ fl_RX3_46) (fun _ h => h) rfl (tyX3_ok 11 (by decide)) rfl rfl (Nat.le_of_ble_eq_true rfl) dX3_empty_22 (fun H locs hP hD hS => ?_)
  replace hP : va_P D vwCl (bX3 cI a q o5) H := by rw [eo5]; exact hP
  replace hD : va_D A (bX3 cI a q o5) := by rw [eo5]; exact hD
  obtain rfl := Option.some.inj hf
  exact W.vret hx hb hr (fun t ht hW => ⟨rfl, by rw [ht]; exact hP, hD, hS.F ht⟩) hS.2.2 dX3_empty_25
def lp_X2_skipBlanks_5 : Nat → Int32 → OS → Option (Int32 × OS)
  | 0, _, _ => none
  | n + 1, v1, w_C => if (w_C.1 1) ≤ v1 then some (v1, w_C) else ck v1 160 (if (w_C.2.2 0 (v1 : Int32).toNatClampNeg) = 32 then lt (sI w_C 2 (v1 + 1)) fun o7 => lp_X2_skipBlanks_5 n (v1 + 1) o7 else some (v1, w_C))
def f_X2_skipBlanks (oc : OS) : Option OS := Option.bind (lp_X2_skipBlanks_5 1000 (oc.1 2) oc) fun z1 => some z1.2
set_option maxHeartbeats 4000000 in
set_option maxRecDepth 100000 in
theorem c_X2_skipBlanks (l : Launch) (D : va_G) (cI cZ cS : ClassId) (a : Nat) (q : Nat → Nat) (oc : OS) (x : OS) (hf : f_X2_skipBlanks oc = some x) : Ct l yX2_skipBlanks cX2_skipBlanks 2 none 0 0 D cI cZ cS [.ref a] (bX2 cI a q oc) none (bX2 cI a q x) := by
  intro sz
  refine Met.ofW (cc := cX2_skipBlanks) (maxL := 2) (ret := none) (by decide +kernel) rfl ?_
  intro p e s m args below meth c s₁ B hml hv
  obtain ⟨rfl, hsz, hP, hK, hD0⟩ := hv
  have hx := B.exec
  have hb := B.bytes
  have hr := B.returns
  have hts0 := atoms_spec (ws := .code yX2_skipBlanks cX2_skipBlanks 2 none :: TB) B.pre
  have hts := fun w (h : w ∈ TB) => hts0 w (List.mem_cons_of_mem _ h)
  have hown : s.vm.findClass RX2 = some m.cls := findClass_of_methodNamed B.named
  have hlocks := B.notSynchronized
  subst hsz
  have hD := hD0.self (sz := s.heap.size)
  generalize hAe : va_A (bX2 cI a q oc) s.heap.size = A at hD ⊢
  have hA : ∀ q : Nat, s.heap.size ≤ q → A q := fun q h => by rw [← hAe]; exact Or.inr h
  have hS : va_S A s.heap s.heap [] := va_S.rf
  obtain ⟨H, hH⟩ : ∃ H, H = s.heap := ⟨_, rfl⟩
  rw [← hH] at hP
  have hS : va_S A s.heap H [] := by rw [hH]; exact hS
  have hl := lv_entry ([.ref a]) (n := 2) (Nat.le_of_ble_eq_true rfl)
  rw [lg_entry_eq]
  generalize (lg_sl ([.ref a]) ++ List.replicate (2 - (lg_sl ([.ref a])).length) Slot.unset).toArray = ls at hl ⊢
  have hl : lv_has ls 2 [(0, .ref a)] := hl
  refine W_heap hH ?_
  obtain ⟨locs, hlo⟩ : ∃ locs : List Loc, locs = [] := ⟨_, rfl⟩
  rw [← hlo] at hS ⊢
  unfold f_X2_skipBlanks at hf
  refine lv_aload_n (pc := 0) hx hb dX2_skipBlanks_0 rfl (lv_at hl 0 rfl) ?_
  refine va_get (pc := 1) (D := D) (ci := 2) (v := .int (oc.1 2)) (C := RX2) (T := TX2) (N := 7) hx hb hts iX2 hown hK.1 hP 0 rfl rfl 2 (by decide) (hts _ fl_RX2_24) (fun _ h => h) rfl dX2_skipBlanks_1 ?_
  refine lv_istore_n (lv' := [(1, .int (oc.1 2)), (0, .ref a)]) (pc := 4) hx hb dX2_skipBlanks_4 rfl hl (by decide) rfl (fun ls hl => ?_)
  obtain ⟨z1, hz1, hf⟩ := bd_some hf
  have hfz1 := hf
  clear hf
  have K2 : ∀ (H : Heap) (locs : List Loc) (ls : Array Slot), va_P D vwCl (bX2 cI a q z1.2) H → va_D A (bX2 cI a q z1.2) → va_S A s.heap H locs → lv_has ls 2 [(0, .ref a), (1, .int z1.1)] → GW l yX2_skipBlanks cX2_skipBlanks 2 none 0 0 D [.ref a] none (bX2 cI a q x) A p e s m below meth c H locs (F0 m 37 ls []) := by
    intro H locs ls hP hD hS hl
    have hf := hfz1
    obtain rfl := Option.some.inj hf
    exact W.vret hx hb hr (fun t ht hW => ⟨rfl, by rw [ht]; exact hP, hD, hS.F ht⟩) hS.2.2 dX2_skipBlanks_37
  have KL3 : ∀ (n : Nat) (v1 : Int32) (w_C : OS) (H : Heap) (locs : List Loc) (ls : Array Slot), lp_X2_skipBlanks_5 n v1 w_C = some z1 → va_P D vwCl (bX2 cI a q w_C) H → va_D A (bX2 cI a q w_C) → va_S A s.heap H locs → lv_has ls 2 [(0, .ref a), (1, .int v1)] → GW l yX2_skipBlanks cX2_skipBlanks 2 none 0 0 D [.ref a] none (bX2 cI a q x) A p e s m below meth c H locs (F0 m 5 ls []) := by
    intro n
    induction n with
    | zero => intro v1 w_C H locs ls hf; cases hf
    | succ n ih =>
      intro v1 w_C H locs ls hf hP hD hS hl
      rw [lp_X2_skipBlanks_5] at hf
      refine lv_iload_n (pc := 5) hx hb dX2_skipBlanks_5 rfl (lv_at hl 1 rfl) ?_
      refine lv_aload_n (pc := 6) hx hb dX2_skipBlanks_6 rfl (lv_at hl 0 rfl) ?_
      refine va_get (pc := 7) (D := D) (ci := 2) (v := .int (w_C.1 1)) (C := RX2) (T := TX2) (N := 7) hx hb hts iX2 hown hK.1 hP 0 rfl rfl 1 (by decide) (hts _ fl_RX2_15) (fun _ h => h) rfl dX2_skipBlanks_7 ?_
      refine lv_icmp_ge (pc := 10) (tgt := 37) hx hb dX2_skipBlanks_10 (by decide) (fun c4 => ?_) (fun c4 => ?_)
      · replace hf := ip c4 hf
        obtain rfl := Option.some.inj hf
        exact K2 H locs ls hP hD hS (lv_sub hl [0, 1] rfl)
      · replace hf := im c4 hf
        refine lv_aload_n (pc := 13) hx hb dX2_skipBlanks_13 rfl (lv_at hl 0 rfl) ?_
        refine va_get (pc := 14) (D := D) (ci := 2) (v := .ref (q 0)) (C := RX2) (T := TX2) (N := 7) hx hb hts iX2 hown hK.1 hP 0 rfl rfl 0 (by decide) (hts _ fl_RX2_9) (fun _ h => h) rfl dX2_skipBlanks_14 ?_
        refine lv_iload_n (pc := 17) hx hb dX2_skipBlanks_17 rfl (lv_at hl 1 rfl) ?_
        obtain ⟨h5, hf⟩ := ck_some hf
        refine va_iald (pc := 18) (f := w_C.2.2 0) hx hb hK.1 hP 1 0 rfl rfl h5 dX2_skipBlanks_18 ?_
        refine lv_bipush (v := 32) (pc := 19) hx hb dX2_skipBlanks_19 (by decide) ?_
        refine lv_icmp_ne (pc := 21) (tgt := 37) hx hb dX2_skipBlanks_21 (by decide) (fun c6 => ?_) (fun c6 => ?_)
        · replace hf := im c6 hf
          obtain rfl := Option.some.inj hf
          exact K2 H locs ls hP hD hS (lv_sub hl [0, 1] rfl)
        · replace hf := ip c6 hf
          refine lv_aload_n (pc := 24) hx hb dX2_skipBlanks_24 rfl (lv_at hl 0 rfl) ?_
          refine lv_iload_n (pc := 25) hx hb dX2_skipBlanks_25 rfl (lv_at hl 1 rfl) ?_
          refine lv_iconst (v := 1) (pc := 26) hx hb dX2_skipBlanks_26 (by decide) ?_
          refine lv_iadd (pc := 27) hx hb dX2_skipBlanks_27 ?_
          obtain ⟨o7, eo7, hf⟩ := lt_some hf
          refine va_put (pc := 28) (D := D) (ci := 2) (v := .int (v1 + 1)) (ty := .int) (C := RX2) (T := TX2) (N := 7) hx hb hts iX2 tyX2 tyX2_ok nmX2 hown hK.1 hP hD hS 0 rfl rfl 2 (by decide) (hts _ fl_RX2_24) (fun _ h => h) rfl (tyX2_ok 2 (by decide)) rfl rfl (Nat.le_of_ble_eq_true rfl) dX2_skipBlanks_28 (fun H locs hP hD hS => ?_)
          replace hP : va_P D vwCl (bX2 cI a q o7) H := by rw [eo7]; exact hP
          replace hD : va_D A (bX2 cI a q o7) := by rw [eo7]; exact hD
          refine lv_iinc (v := (v1 + 1)) (lv' := [(1, .int (v1 + 1)), (0, .ref a)]) (pc := 31) hx hb dX2_skipBlanks_31 hl (k := 1) rfl rfl (by decide) rfl (fun ls hl => ?_)
          refine lv_goto (pc := 34) (tgt := 5) hx hb dX2_skipBlanks_34 (by decide) ?_
          exact ih _ _ H locs ls hf hP hD hS (lv_sub hl [1, 0] rfl)
  exact KL3 1000 _ _ H locs ls hz1 hP hD hS (lv_sub hl [1, 0] rfl)
def f_X2_letterHere (oc : OS) : Option Int32 := if (oc.1 2) < 0 then some (-1) else if (oc.1 1) ≤ (oc.1 2) then some (-1) else ck (oc.1 2) 160 (some (oc.2.2 0 ((oc.1 2) : Int32).toNatClampNeg))
set_option maxHeartbeats 4000000 in
set_option maxRecDepth 100000 in
theorem c_X2_letterHere (l : Launch) (D : va_G) (cI cZ cS : ClassId) (a : Nat) (q : Nat → Nat) (oc : OS) (x : Int32) (hf : f_X2_letterHere oc = some x) : Ct l yX2_letterHere cX2_letterHere 1 (some .int) 0 0 D cI cZ cS [.ref a] (bX2 cI a q oc) (some (.int x)) (bX2 cI a q oc) := by
  intro sz
  refine Met.ofW (cc := cX2_letterHere) (maxL := 1) (ret := (some .int)) (by decide +kernel) rfl ?_
  intro p e s m args below meth c s₁ B hml hv
  obtain ⟨rfl, hsz, hP, hK, hD0⟩ := hv
  have hx := B.exec
  have hb := B.bytes
  have hr := B.returns
  have hts0 := atoms_spec (ws := .code yX2_letterHere cX2_letterHere 1 (some .int) :: TB) B.pre
  have hts := fun w (h : w ∈ TB) => hts0 w (List.mem_cons_of_mem _ h)
  have hown : s.vm.findClass RX2 = some m.cls := findClass_of_methodNamed B.named
  have hlocks := B.notSynchronized
  subst hsz
  have hD := hD0.self (sz := s.heap.size)
  generalize hAe : va_A (bX2 cI a q oc) s.heap.size = A at hD ⊢
  have hA : ∀ q : Nat, s.heap.size ≤ q → A q := fun q h => by rw [← hAe]; exact Or.inr h
  have hS : va_S A s.heap s.heap [] := va_S.rf
  obtain ⟨H, hH⟩ : ∃ H, H = s.heap := ⟨_, rfl⟩
  rw [← hH] at hP
  have hS : va_S A s.heap H [] := by rw [hH]; exact hS
  have hl := lv_entry ([.ref a]) (n := 1) (Nat.le_of_ble_eq_true rfl)
  rw [lg_entry_eq]
  generalize (lg_sl ([.ref a]) ++ List.replicate (1 - (lg_sl ([.ref a])).length) Slot.unset).toArray = ls at hl ⊢
  have hl : lv_has ls 1 [(0, .ref a)] := hl
  refine W_heap hH ?_
  obtain ⟨locs, hlo⟩ : ∃ locs : List Loc, locs = [] := ⟨_, rfl⟩
  rw [← hlo] at hS ⊢
  unfold f_X2_letterHere at hf
  refine lv_aload_n (pc := 0) hx hb dX2_letterHere_0 rfl (lv_at hl 0 rfl) ?_
  refine va_get (pc := 1) (D := D) (ci := 2) (v := .int (oc.1 2)) (C := RX2) (T := TX2) (N := 7) hx hb hts iX2 hown hK.1 hP 0 rfl rfl 2 (by decide) (hts _ fl_RX2_24) (fun _ h => h) rfl dX2_letterHere_1 ?_
  refine lv_if_lt (pc := 4) (tgt := 30) hx hb dX2_letterHere_4 (by decide) (fun c1 => ?_) (fun c1 => ?_)
  · replace hf := ip c1 hf
    refine lv_iconst (v := -1) (pc := 30) hx hb dX2_letterHere_30 (by decide) ?_
    obtain rfl := Option.some.inj hf
    exact W.iret hx hb hr (fun t ht hW => ⟨rfl, by rw [ht]; exact hP, hD, hS.F ht⟩) hS.2.2 dX2_letterHere_31
  · replace hf := im c1 hf
    refine lv_aload_n (pc := 7) hx hb dX2_letterHere_7 rfl (lv_at hl 0 rfl) ?_
    refine va_get (pc := 8) (D := D) (ci := 2) (v := .int (oc.1 2)) (C := RX2) (T := TX2) (N := 7) hx hb hts iX2 hown hK.1 hP 0 rfl rfl 2 (by decide) (hts _ fl_RX2_24) (fun _ h => h) rfl dX2_letterHere_8 ?_
    refine lv_aload_n (pc := 11) hx hb dX2_letterHere_11 rfl (lv_at hl 0 rfl) ?_
    refine va_get (pc := 12) (D := D) (ci := 2) (v := .int (oc.1 1)) (C := RX2) (T := TX2) (N := 7) hx hb hts iX2 hown hK.1 hP 0 rfl rfl 1 (by decide) (hts _ fl_RX2_15) (fun _ h => h) rfl dX2_letterHere_12 ?_
    refine lv_icmp_ge (pc := 15) (tgt := 30) hx hb dX2_letterHere_15 (by decide) (fun c2 => ?_) (fun c2 => ?_)
    · replace hf := ip c2 hf
      refine lv_iconst (v := -1) (pc := 30) hx hb dX2_letterHere_30 (by decide) ?_
      obtain rfl := Option.some.inj hf
      exact W.iret hx hb hr (fun t ht hW => ⟨rfl, by rw [ht]; exact hP, hD, hS.F ht⟩) hS.2.2 dX2_letterHere_31
    · replace hf := im c2 hf
      refine lv_aload_n (pc := 18) hx hb dX2_letterHere_18 rfl (lv_at hl 0 rfl) ?_
      refine va_get (pc := 19) (D := D) (ci := 2) (v := .ref (q 0)) (C := RX2) (T := TX2) (N := 7) hx hb hts iX2 hown hK.1 hP 0 rfl rfl 0 (by decide) (hts _ fl_RX2_9) (fun _ h => h) rfl dX2_letterHere_19 ?_
      refine lv_aload_n (pc := 22) hx hb dX2_letterHere_22 rfl (lv_at hl 0 rfl) ?_
      refine va_get (pc := 23) (D := D) (ci := 2) (v := .int (oc.1 2)) (C := RX2) (T := TX2) (N := 7) hx hb hts iX2 hown hK.1 hP 0 rfl rfl 2 (by decide) (hts _ fl_RX2_24) (fun _ h => h) rfl dX2_letterHere_23 ?_
      obtain ⟨h3, hf⟩ := ck_some hf
      refine va_iald (pc := 26) (f := oc.2.2 0) hx hb hK.1 hP 1 0 rfl rfl h3 dX2_letterHere_26 ?_
      refine lv_goto (pc := 27) (tgt := 31) hx hb dX2_letterHere_27 (by decide) ?_
      obtain rfl := Option.some.inj hf
      exact W.iret hx hb hr (fun t ht hW => ⟨rfl, by rw [ht]; exact hP, hD, hS.F ht⟩) hS.2.2 dX2_letterHere_31
