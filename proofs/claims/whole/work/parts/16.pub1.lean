def f_X4_recordAction (oo : OS) (on : OS) (pa : PSt) : Option (OS × PSt) := Option.bind (if (oo.1 4) < 6 then some (oo, pa) else lt (rotPS pa) fun o10 => lt (sI oo 4 5) fun o11 => some (o11, o10) : Option (OS × PSt)) fun z1 => ck (z1.1.1 4) 6 (lt (((z1.1.1 4) : Int32).toNatClampNeg) fun k4 => Option.bind (f_X3_copy on (z1.2.2 k4)) fun x5 => lt (z1.2.1, va_up z1.2.2 k4 x5) fun o6 => lt (sI z1.1 4 ((z1.1.1 4) + 1)) fun o8 => some (o8, o6))
set_option maxHeartbeats 4000000 in
set_option maxRecDepth 100000 in
theorem c_X4_recordAction (l : Launch) (D : va_G) (cI cZ cS : ClassId) (a : Nat) (q : Nat → Nat) (qN : Nat → Nat) (oo : OS) (on : OS) (pa : PSt) (x : (OS × PSt)) (hf : f_X4_recordAction oo on pa = some x) : Ct l yX4_recordAction cX4_recordAction 3 none 2 66 D cI cZ cS [.ref a] (bX4 cI cZ a q oo ++ (bX3 cI (q 0) qN on ++ bPA cI cS (q 3) pa)) none (bX4 cI cZ a q x.1 ++ (bX3 cI (q 0) qN on ++ bPA cI cS (q 3) x.2)) := by
  intro sz
  refine Met.ofW (cc := cX4_recordAction) (maxL := 3) (ret := none) (by decide +kernel) rfl ?_
  intro p e s m args below meth c s₁ B hml hv
  obtain ⟨rfl, hsz, hP, hK, hD0⟩ := hv
  have hx := B.exec
  have hb := B.bytes
  have hr := B.returns
  have hts0 := atoms_spec (ws := .code yX4_recordAction cX4_recordAction 3 none :: TB) B.pre
  have hts := fun w (h : w ∈ TB) => hts0 w (List.mem_cons_of_mem _ h)
  have hown : s.vm.findClass RX4 = some m.cls := findClass_of_methodNamed B.named
  have hlocks := B.notSynchronized
  subst hsz
  have hD := hD0.self (sz := s.heap.size)
  generalize hAe : va_A (bX4 cI cZ a q oo ++ (bX3 cI (q 0) qN on ++ bPA cI cS (q 3) pa)) s.heap.size = A at hD ⊢
  have hA : ∀ q : Nat, s.heap.size ≤ q → A q := fun q h => by rw [← hAe]; exact Or.inr h
  have hS : va_S A s.heap s.heap [] := va_S.rf
  obtain ⟨H, hH⟩ : ∃ H, H = s.heap := ⟨_, rfl⟩
  rw [← hH] at hP
  have hS : va_S A s.heap H [] := by rw [hH]; exact hS
  have hl := lv_entry ([.ref a]) (n := 3) (Nat.le_of_ble_eq_true rfl)
  rw [lg_entry_eq]
  generalize (lg_sl ([.ref a]) ++ List.replicate (3 - (lg_sl ([.ref a])).length) Slot.unset).toArray = ls at hl ⊢
  have hl : lv_has ls 3 [(0, .ref a)] := hl
  refine W_heap hH ?_
  obtain ⟨locs, hlo⟩ : ∃ locs : List Loc, locs = [] := ⟨_, rfl⟩
  rw [← hlo] at hS ⊢
  unfold f_X4_recordAction at hf
  refine lv_aload_n (pc := 0) hx hb dX4_recordAction_0 rfl (lv_at hl 0 rfl) ?_
  refine va_get (pc := 1) (D := D) (ci := 4) (v := .int (oo.1 4)) (C := RX4) (T := TX4) (N := 13) hx hb hts iX4 hown hK.1 hP 0 rfl rfl 4 (by decide) (hts _ fl_RX4_73) (fun _ h => h) rfl dX4_recordAction_1 ?_
  refine lv_bipush (v := 6) (pc := 4) hx hb dX4_recordAction_4 (by decide) ?_
  obtain ⟨z1, hz1, hf⟩ := bd_some hf
  have K2 : ∀ (H : Heap) (locs : List Loc) (ls : Array Slot), va_P D vwCl (bX4 cI cZ a q z1.1 ++ (bX3 cI (q 0) qN on ++ bPA cI cS (q 3) z1.2)) H → va_D A (bX4 cI cZ a q z1.1 ++ (bX3 cI (q 0) qN on ++ bPA cI cS (q 3) z1.2)) → va_S A s.heap H locs → lv_has ls 3 [(0, .ref a)] → GW l yX4_recordAction cX4_recordAction 3 none 2 66 D [.ref a] none (bX4 cI cZ a q x.1 ++ (bX3 cI (q 0) qN on ++ bPA cI cS (q 3) x.2)) A p e s m below meth c H locs (F0 m 56 ls []) := by
    intro H locs ls hP hD hS hl
    refine lv_aload_n (pc := 56) hx hb dX4_recordAction_56 rfl (lv_at hl 0 rfl) ?_
    refine va_get (pc := 57) (D := D) (ci := 4) (v := .ref (q 0)) (C := RX4) (T := TX4) (N := 13) hx hb hts iX4 hown hK.1 hP 0 rfl rfl 0 (by decide) (hts _ fl_RX4_12) (fun _ h => h) rfl dX4_recordAction_57 ?_
    refine lv_aload_n (pc := 60) hx hb dX4_recordAction_60 rfl (lv_at hl 0 rfl) ?_
    refine va_get (pc := 61) (D := D) (ci := 4) (v := .ref (q 3)) (C := RX4) (T := TX4) (N := 13) hx hb hts iX4 hown hK.1 hP 0 rfl rfl 3 (by decide) (hts _ fl_RX4_26) (fun _ h => h) rfl dX4_recordAction_61 ?_
    refine lv_aload_n (pc := 64) hx hb dX4_recordAction_64 rfl (lv_at hl 0 rfl) ?_
    refine va_get (pc := 65) (D := D) (ci := 4) (v := .int (z1.1.1 4)) (C := RX4) (T := TX4) (N := 13) hx hb hts iX4 hown hK.1 hP 0 rfl rfl 4 (by decide) (hts _ fl_RX4_73) (fun _ h => h) rfl dX4_recordAction_65 ?_
    obtain ⟨h3, hf⟩ := ck_some hf
    obtain ⟨k4, ek4, hf⟩ := lt_some hf
    refine ld_q (pc := 68) (ps := z1.2) hx hb hK.1 hP 13 2 rfl rfl h3 ek4 dX4_recordAction_68 ?_
    obtain ⟨x5, ex5, hf⟩ := bd_some hf
    obtain ⟨o6, eo6, hf⟩ := lt_some hf
    have K7 : ∀ (H : Heap) (locs : List Loc) (ls : Array Slot), va_P D vwCl (bX4 cI cZ a q z1.1 ++ (bX3 cI (q 0) qN on ++ bPA cI cS (q 3) o6)) H → va_D A (bX4 cI cZ a q z1.1 ++ (bX3 cI (q 0) qN on ++ bPA cI cS (q 3) o6)) → va_S A s.heap H locs → lv_has ls 3 [(0, .ref a)] → GW l yX4_recordAction cX4_recordAction 3 none 2 66 D [.ref a] none (bX4 cI cZ a q x.1 ++ (bX3 cI (q 0) qN on ++ bPA cI cS (q 3) x.2)) A p e s m below meth c H locs (F0 m 72 ls []) := by
      intro H locs ls hP hD hS hl
      refine lv_aload_n (pc := 72) hx hb dX4_recordAction_72 rfl (lv_at hl 0 rfl) ?_
      refine lv_dup (pc := 73) hx hb dX4_recordAction_73 rfl ?_
      refine va_get (pc := 74) (D := D) (ci := 4) (v := .int (z1.1.1 4)) (C := RX4) (T := TX4) (N := 13) hx hb hts iX4 hown hK.1 hP 0 rfl rfl 4 (by decide) (hts _ fl_RX4_73) (fun _ h => h) rfl dX4_recordAction_74 ?_
      refine lv_iconst (v := 1) (pc := 77) hx hb dX4_recordAction_77 (by decide) ?_
      refine lv_iadd (pc := 78) hx hb dX4_recordAction_78 ?_
      obtain ⟨o8, eo8, hf⟩ := lt_some hf
      refine va_put (pc := 79) (D := D) (ci := 4) (v := .int ((z1.1.1 4) + 1)) (ty := .int) (C := RX4) (T := TX4) (N := 13) hx hb hts iX4 tyX4 tyX4_ok nmX4 hown hK.1 hP hD hS 0 rfl rfl 4 (by decide) (hts _ fl_RX4_73) (fun _ h => h) rfl (tyX4_ok 4 (by decide)) rfl rfl (Nat.le_of_ble_eq_true rfl) dX4_recordAction_79 (fun H locs hP hD hS => ?_)
      replace hP : va_P D vwCl (bX4 cI cZ a q o8 ++ (bX3 cI (q 0) qN on ++ bPA cI cS (q 3) o6)) H := by rw [eo8]; exact hP
      replace hD : va_D A (bX4 cI cZ a q o8 ++ (bX3 cI (q 0) qN on ++ bPA cI cS (q 3) o6)) := by rw [eo8]; exact hD
      obtain rfl := Option.some.inj hf
      exact W.vret hx hb hr (fun t ht hW => ⟨rfl, by rw [ht]; exact hP, hD, hS.F ht⟩) hS.2.2 dX4_recordAction_82
    clear hf
    have hk4 : k4 < 6 := by rw [ek4]; exact Nat.not_le.mp fun q => h3 (Or.inr q)
    clear ek4
    obtain rfl | rfl | rfl | rfl | rfl | rfl : k4 = 0 ∨ k4 = 1 ∨ k4 = 2 ∨ k4 = 3 ∨ k4 = 4 ∨ k4 = 5 := by omega
    · refine ct_S (pc := 69) (As := [.ref (q 0), .ref ((z1.2.1 0).1)]) (rest := []) (wr := [0, 1, 2, 3, 4, 13, 22, 23, 24, 25, 26, 27, 28, 29, 30, 31, 32, 33, 34, 35, 36, 37, 38, 39, 40, 41, 42, 43, 44, 45, 46, 47, 48, 49, 50, 51, 52, 53, 54, 55, 56, 57, 58, 59, 60, 61].filterMap (fun i => (bX4 cI cZ a q z1.1 ++ (bX3 cI (q 0) qN on ++ bPA cI cS (q 3) z1.2))[i]?)) (W1 := bX4 cI cZ a q z1.1 ++ (bX3 cI (q 0) qN on ++ bPA cI cS (q 3) (z1.2.1, va_up z1.2.2 0 x5))) ⟨hx, hb, hml, hown, hts⟩ hK (c_X3_copy l D cI cZ cS (q 0) ((z1.2.1 0).1) qN ((z1.2.1 0).2) on (z1.2.2 0) x5 ex5) gs_RX4_69 hs_X3_copy rfl ⟨Nat.le_of_ble_eq_true rfl, Nat.le_of_ble_eq_true rfl⟩ hl.1 rfl (Nat.le_of_ble_eq_true rfl) dX4_recordAction_69 ⟨Nat.zero_le _, Nat.zero_le _⟩ hP hD hS hA [5, 6, 7, 8, 9, 10, 11, 12, 14, 15, 16, 17, 18, 19, 20, 21] [0, 1, 2, 3, 4, 13, 22, 23, 24, 25, 26, 27, 28, 29, 30, 31, 32, 33, 34, 35, 36, 37, 38, 39, 40, 41, 42, 43, 44, 45, 46, 47, 48, 49, 50, 51, 52, 53, 54, 55, 56, 57, 58, 59, 60, 61] [0, 1, 2, 3, 4, 46, 47, 48, 49, 50, 51, 52, 53, 5, 54, 55, 56, 57, 58, 59, 60, 61, 6, 7, 8, 9, 10, 11, 12, 13, 14, 15, 16, 17, 18, 19, 20, 21, 22, 23, 24, 25, 26, 27, 28, 29, 30, 31, 32, 33, 34, 35, 36, 37, 38, 39, 40, 41, 42, 43, 44, 45] rfl rfl (by decide +kernel) (by decide +kernel) (by decide +kernel) (by decide +kernel) rfl (fun H locs hP hD hS => ?_)
      exact K7 H locs ls (by rw [eo6]; exact hP) (by rw [eo6]; exact hD) hS (lv_sub hl [0] rfl)
    · refine ct_S (pc := 69) (As := [.ref (q 0), .ref ((z1.2.1 1).1)]) (rest := []) (wr := [0, 1, 2, 3, 4, 13, 14, 15, 16, 17, 18, 19, 20, 21, 30, 31, 32, 33, 34, 35, 36, 37, 38, 39, 40, 41, 42, 43, 44, 45, 46, 47, 48, 49, 50, 51, 52, 53, 54, 55, 56, 57, 58, 59, 60, 61].filterMap (fun i => (bX4 cI cZ a q z1.1 ++ (bX3 cI (q 0) qN on ++ bPA cI cS (q 3) z1.2))[i]?)) (W1 := bX4 cI cZ a q z1.1 ++ (bX3 cI (q 0) qN on ++ bPA cI cS (q 3) (z1.2.1, va_up z1.2.2 1 x5))) ⟨hx, hb, hml, hown, hts⟩ hK (c_X3_copy l D cI cZ cS (q 0) ((z1.2.1 1).1) qN ((z1.2.1 1).2) on (z1.2.2 1) x5 ex5) gs_RX4_69 hs_X3_copy rfl ⟨Nat.le_of_ble_eq_true rfl, Nat.le_of_ble_eq_true rfl⟩ hl.1 rfl (Nat.le_of_ble_eq_true rfl) dX4_recordAction_69 ⟨Nat.zero_le _, Nat.zero_le _⟩ hP hD hS hA [5, 6, 7, 8, 9, 10, 11, 12, 22, 23, 24, 25, 26, 27, 28, 29] [0, 1, 2, 3, 4, 13, 14, 15, 16, 17, 18, 19, 20, 21, 30, 31, 32, 33, 34, 35, 36, 37, 38, 39, 40, 41, 42, 43, 44, 45, 46, 47, 48, 49, 50, 51, 52, 53, 54, 55, 56, 57, 58, 59, 60, 61] [0, 1, 2, 3, 4, 46, 47, 48, 49, 50, 51, 52, 53, 5, 6, 7, 8, 9, 10, 11, 12, 13, 54, 55, 56, 57, 58, 59, 60, 61, 14, 15, 16, 17, 18, 19, 20, 21, 22, 23, 24, 25, 26, 27, 28, 29, 30, 31, 32, 33, 34, 35, 36, 37, 38, 39, 40, 41, 42, 43, 44, 45] rfl rfl (by decide +kernel) (by decide +kernel) (by decide +kernel) (by decide +kernel) rfl (fun H locs hP hD hS => ?_)
      exact K7 H locs ls (by rw [eo6]; exact hP) (by rw [eo6]; exact hD) hS (lv_sub hl [0] rfl)
    · refine ct_S (pc := 69) (As := [.ref (q 0), .ref ((z1.2.1 2).1)]) (rest := []) (wr := [0, 1, 2, 3, 4, 13, 14, 15, 16, 17, 18, 19, 20, 21, 22, 23, 24, 25, 26, 27, 28, 29, 38, 39, 40, 41, 42, 43, 44, 45, 46, 47, 48, 49, 50, 51, 52, 53, 54, 55, 56, 57, 58, 59, 60, 61].filterMap (fun i => (bX4 cI cZ a q z1.1 ++ (bX3 cI (q 0) qN on ++ bPA cI cS (q 3) z1.2))[i]?)) (W1 := bX4 cI cZ a q z1.1 ++ (bX3 cI (q 0) qN on ++ bPA cI cS (q 3) (z1.2.1, va_up z1.2.2 2 x5))) ⟨hx, hb, hml, hown, hts⟩ hK (c_X3_copy l D cI cZ cS (q 0) ((z1.2.1 2).1) qN ((z1.2.1 2).2) on (z1.2.2 2) x5 ex5) gs_RX4_69 hs_X3_copy rfl ⟨Nat.le_of_ble_eq_true rfl, Nat.le_of_ble_eq_true rfl⟩ hl.1 rfl (Nat.le_of_ble_eq_true rfl) dX4_recordAction_69 ⟨Nat.zero_le _, Nat.zero_le _⟩ hP hD hS hA [5, 6, 7, 8, 9, 10, 11, 12, 30, 31, 32, 33, 34, 35, 36, 37] [0, 1, 2, 3, 4, 13, 14, 15, 16, 17, 18, 19, 20, 21, 22, 23, 24, 25, 26, 27, 28, 29, 38, 39, 40, 41, 42, 43, 44, 45, 46, 47, 48, 49, 50, 51, 52, 53, 54, 55, 56, 57, 58, 59, 60, 61] [0, 1, 2, 3, 4, 46, 47, 48, 49, 50, 51, 52, 53, 5, 6, 7, 8, 9, 10, 11, 12, 13, 14, 15, 16, 17, 18, 19, 20, 21, 54, 55, 56, 57, 58, 59, 60, 61, 22, 23, 24, 25, 26, 27, 28, 29, 30, 31, 32, 33, 34, 35, 36, 37, 38, 39, 40, 41, 42, 43, 44, 45] rfl rfl (by decide +kernel) (by decide +kernel) (by decide +kernel) (by decide +kernel) rfl (fun H locs hP hD hS => ?_)
      exact K7 H locs ls (by rw [eo6]; exact hP) (by rw [eo6]; exact hD) hS (lv_sub hl [0] rfl)
    · refine ct_S (pc := 69) (As := [.ref (q 0), .ref ((z1.2.1 3).1)]) (rest := []) (wr := [0, 1, 2, 3, 4, 13, 14, 15, 16, 17, 18, 19, 20, 21, 22, 23, 24, 25, 26, 27, 28, 29, 30, 31, 32, 33, 34, 35, 36, 37, 46, 47, 48, 49, 50, 51, 52, 53, 54, 55, 56, 57, 58, 59, 60, 61].filterMap (fun i => (bX4 cI cZ a q z1.1 ++ (bX3 cI (q 0) qN on ++ bPA cI cS (q 3) z1.2))[i]?)) (W1 := bX4 cI cZ a q z1.1 ++ (bX3 cI (q 0) qN on ++ bPA cI cS (q 3) (z1.2.1, va_up z1.2.2 3 x5))) ⟨hx, hb, hml, hown, hts⟩ hK (c_X3_copy l D cI cZ cS (q 0) ((z1.2.1 3).1) qN ((z1.2.1 3).2) on (z1.2.2 3) x5 ex5) gs_RX4_69 hs_X3_copy rfl ⟨Nat.le_of_ble_eq_true rfl, Nat.le_of_ble_eq_true rfl⟩ hl.1 rfl (Nat.le_of_ble_eq_true rfl) dX4_recordAction_69 ⟨Nat.zero_le _, Nat.zero_le _⟩ hP hD hS hA [5, 6, 7, 8, 9, 10, 11, 12, 38, 39, 40, 41, 42, 43, 44, 45] [0, 1, 2, 3, 4, 13, 14, 15, 16, 17, 18, 19, 20, 21, 22, 23, 24, 25, 26, 27, 28, 29, 30, 31, 32, 33, 34, 35, 36, 37, 46, 47, 48, 49, 50, 51, 52, 53, 54, 55, 56, 57, 58, 59, 60, 61] [0, 1, 2, 3, 4, 46, 47, 48, 49, 50, 51, 52, 53, 5, 6, 7, 8, 9, 10, 11, 12, 13, 14, 15, 16, 17, 18, 19, 20, 21, 22, 23, 24, 25, 26, 27, 28, 29, 54, 55, 56, 57, 58, 59, 60, 61, 30, 31, 32, 33, 34, 35, 36, 37, 38, 39, 40, 41, 42, 43, 44, 45] rfl rfl (by decide +kernel) (by decide +kernel) (by decide +kernel) (by decide +kernel) rfl (fun H locs hP hD hS => ?_)
      exact K7 H locs ls (by rw [eo6]; exact hP) (by rw [eo6]; exact hD) hS (lv_sub hl [0] rfl)
    · refine ct_S (pc := 69) (As := [.ref (q 0), .ref ((z1.2.1 4).1)]) (rest := []) (wr := [0, 1, 2, 3, 4, 13, 14, 15, 16, 17, 18, 19, 20, 21, 22, 23, 24, 25, 26, 27, 28, 29, 30, 31, 32, 33, 34, 35, 36, 37, 38, 39, 40, 41, 42, 43, 44, 45, 54, 55, 56, 57, 58, 59, 60, 61].filterMap (fun i => (bX4 cI cZ a q z1.1 ++ (bX3 cI (q 0) qN on ++ bPA cI cS (q 3) z1.2))[i]?)) (W1 := bX4 cI cZ a q z1.1 ++ (bX3 cI (q 0) qN on ++ bPA cI cS (q 3) (z1.2.1, va_up z1.2.2 4 x5))) ⟨hx, hb, hml, hown, hts⟩ hK (c_X3_copy l D cI cZ cS (q 0) ((z1.2.1 4).1) qN ((z1.2.1 4).2) on (z1.2.2 4) x5 ex5) gs_RX4_69 hs_X3_copy rfl ⟨Nat.le_of_ble_eq_true rfl, Nat.le_of_ble_eq_true rfl⟩ hl.1 rfl (Nat.le_of_ble_eq_true rfl) dX4_recordAction_69 ⟨Nat.zero_le _, Nat.zero_le _⟩ hP hD hS hA [5, 6, 7, 8, 9, 10, 11, 12, 46, 47, 48, 49, 50, 51, 52, 53] [0, 1, 2, 3, 4, 13, 14, 15, 16, 17, 18, 19, 20, 21, 22, 23, 24, 25, 26, 27, 28, 29, 30, 31, 32, 33, 34, 35, 36, 37, 38, 39, 40, 41, 42, 43, 44, 45, 54, 55, 56, 57, 58, 59, 60, 61] [0, 1, 2, 3, 4, 46, 47, 48, 49, 50, 51, 52, 53, 5, 6, 7, 8, 9, 10, 11, 12, 13, 14, 15, 16, 17, 18, 19, 20, 21, 22, 23, 24, 25, 26, 27, 28, 29, 30, 31, 32, 33, 34, 35, 36, 37, 54, 55, 56, 57, 58, 59, 60, 61, 38, 39, 40, 41, 42, 43, 44, 45] rfl rfl (by decide +kernel) (by decide +kernel) (by decide +kernel) (by decide +kernel) rfl (fun H locs hP hD hS => ?_)
      exact K7 H locs ls (by rw [eo6]; exact hP) (by rw [eo6]; exact hD) hS (lv_sub hl [0] rfl)
    · refine ct_S (pc := 69) (As := [.ref (q 0), .ref ((z1.2.1 5).1)]) (rest := []) (wr := [0, 1, 2, 3, 4, 13, 14, 15, 16, 17, 18, 19, 20, 21, 22, 23, 24, 25, 26, 27, 28, 29, 30, 31, 32, 33, 34, 35, 36, 37, 38, 39, 40, 41, 42, 43, 44, 45, 46, 47, 48, 49, 50, 51, 52, 53].filterMap (fun i => (bX4 cI cZ a q z1.1 ++ (bX3 cI (q 0) qN on ++ bPA cI cS (q 3) z1.2))[i]?)) (W1 := bX4 cI cZ a q z1.1 ++ (bX3 cI (q 0) qN on ++ bPA cI cS (q 3) (z1.2.1, va_up z1.2.2 5 x5))) ⟨hx, hb, hml, hown, hts⟩ hK (c_X3_copy l D cI cZ cS (q 0) ((z1.2.1 5).1) qN ((z1.2.1 5).2) on (z1.2.2 5) x5 ex5) gs_RX4_69 hs_X3_copy rfl ⟨Nat.le_of_ble_eq_true rfl, Nat.le_of_ble_eq_true rfl⟩ hl.1 rfl (Nat.le_of_ble_eq_true rfl) dX4_recordAction_69 ⟨Nat.zero_le _, Nat.zero_le _⟩ hP hD hS hA [5, 6, 7, 8, 9, 10, 11, 12, 54, 55, 56, 57, 58, 59, 60, 61] [0, 1, 2, 3, 4, 13, 14, 15, 16, 17, 18, 19, 20, 21, 22, 23, 24, 25, 26, 27, 28, 29, 30, 31, 32, 33, 34, 35, 36, 37, 38, 39, 40, 41, 42, 43, 44, 45, 46, 47, 48, 49, 50, 51, 52, 53] [0, 1, 2, 3, 4, 46, 47, 48, 49, 50, 51, 52, 53, 5, 6, 7, 8, 9, 10, 11, 12, 13, 14, 15, 16, 17, 18, 19, 20, 21, 22, 23, 24, 25, 26, 27, 28, 29, 30, 31, 32, 33, 34, 35, 36, 37, 38, 39, 40, 41, 42, 43, 44, 45, 54, 55, 56, 57, 58, 59, 60, 61] rfl rfl (by decide +kernel) (by decide +kernel) (by decide +kernel) (by decide +kernel) rfl (fun H locs hP hD hS => ?_)
      exact K7 H locs ls (by rw [eo6]; exact hP) (by rw [eo6]; exact hD) hS (lv_sub hl [0] rfl)
  replace hf := hz1
  refine lv_icmp_lt (pc := 6) (tgt := 56) hx hb dX4_recordAction_6 (by decide) (fun c9 => ?_) (fun c9 => ?_)
  · replace hf := ip c9 hf
    obtain rfl := Option.some.inj hf
    exact K2 H locs ls hP hD hS (lv_sub hl [0] rfl)
  · replace hf := im c9 hf
    refine lv_aload_n (pc := 9) hx hb dX4_recordAction_9 rfl (lv_at hl 0 rfl) ?_
    refine va_get (pc := 10) (D := D) (ci := 4) (v := .ref (q 3)) (C := RX4) (T := TX4) (N := 13) hx hb hts iX4 hown hK.1 hP 0 rfl rfl 3 (by decide) (hts _ fl_RX4_26) (fun _ h => h) rfl dX4_recordAction_10 ?_
    refine lv_iconst (v := 0) (pc := 13) hx hb dX4_recordAction_13 (by decide) ?_
    refine va_aldq (pc := 14) hx hb hK.1 hP 13 2 rfl rfl (i := 0) (by unfold vp_in; decide) dX4_recordAction_14 ?_
    refine lv_astore_n (lv' := [(1, .ref (pa.1 0).1), (0, .ref a)]) (pc := 15) hx hb dX4_recordAction_15 rfl hl (by decide) rfl (fun ls hl => ?_)
    refine lv_iconst (v := 1) (pc := 16) hx hb dX4_recordAction_16 (by decide) ?_
    refine lv_istore_n (lv' := [(2, .int 1), (1, .ref (pa.1 0).1), (0, .ref a)]) (pc := 17) hx hb dX4_recordAction_17 rfl hl (by decide) rfl (fun ls hl => ?_)
    refine lv_iload_n (pc := 18) hx hb dX4_recordAction_18 rfl (lv_at hl 0 rfl) ?_
    refine lv_bipush (v := 6) (pc := 19) hx hb dX4_recordAction_19 (by decide) ?_
    refine lv_icmp_ge (pc := 21) (tgt := 44) hx hb dX4_recordAction_21 (by decide) (fun c0 => absurd c0 (by decide)) (fun _ => ?_)
    refine lv_aload_n (pc := 24) hx hb dX4_recordAction_24 rfl (lv_at hl 2 rfl) ?_
    refine va_get (pc := 25) (D := D) (ci := 4) (v := .ref (q 3)) (C := RX4) (T := TX4) (N := 13) hx hb hts iX4 hown hK.1 hP 0 rfl rfl 3 (by decide) (hts _ fl_RX4_26) (fun _ h => h) rfl dX4_recordAction_25 ?_
    refine lv_iload_n (pc := 28) hx hb dX4_recordAction_28 rfl (lv_at hl 0 rfl) ?_
    refine lv_iconst (v := 1) (pc := 29) hx hb dX4_recordAction_29 (by decide) ?_
    refine lv_isub (pc := 30) hx hb dX4_recordAction_30 ?_
    refine lv_aload_n (pc := 31) hx hb dX4_recordAction_31 rfl (lv_at hl 2 rfl) ?_
    refine va_get (pc := 32) (D := D) (ci := 4) (v := .ref (q 3)) (C := RX4) (T := TX4) (N := 13) hx hb hts iX4 hown hK.1 hP 0 rfl rfl 3 (by decide) (hts _ fl_RX4_26) (fun _ h => h) rfl dX4_recordAction_32 ?_
    refine lv_iload_n (pc := 35) hx hb dX4_recordAction_35 rfl (lv_at hl 0 rfl) ?_
    refine va_aldq (pc := 36) hx hb hK.1 hP 13 2 rfl rfl (i := 1) (by unfold vp_in; decide) dX4_recordAction_36 ?_
    refine va_astq (pc := 37) (v := (pa.1 1).1) (i := 1 - 1) hx hb hK.1 hP hD hS 13 2 22 3 rfl rfl rfl rfl (by unfold vp_in; decide) dX4_recordAction_37 (fun H locs hP hD hS => ?_)
    refine lv_iinc (v := 2) (lv' := [(2, .int 2), (1, .ref (pa.1 0).1), (0, .ref a)]) (pc := 38) hx hb dX4_recordAction_38 hl (k := 0) rfl (by decide) (by decide) rfl (fun ls hl => ?_)
    refine lv_goto (pc := 41) (tgt := 18) hx hb dX4_recordAction_41 (by decide) ?_
    refine lv_iload_n (pc := 18) hx hb dX4_recordAction_18 rfl (lv_at hl 0 rfl) ?_
    refine lv_bipush (v := 6) (pc := 19) hx hb dX4_recordAction_19 (by decide) ?_
    refine lv_icmp_ge (pc := 21) (tgt := 44) hx hb dX4_recordAction_21 (by decide) (fun c0 => absurd c0 (by decide)) (fun _ => ?_)
    refine lv_aload_n (pc := 24) hx hb dX4_recordAction_24 rfl (lv_at hl 2 rfl) ?_
    refine va_get (pc := 25) (D := D) (ci := 4) (v := .ref (q 3)) (C := RX4) (T := TX4) (N := 13) hx hb hts iX4 hown hK.1 hP 0 rfl rfl 3 (by decide) (hts _ fl_RX4_26) (fun _ h => h) rfl dX4_recordAction_25 ?_
    refine lv_iload_n (pc := 28) hx hb dX4_recordAction_28 rfl (lv_at hl 0 rfl) ?_
    refine lv_iconst (v := 1) (pc := 29) hx hb dX4_recordAction_29 (by decide) ?_
    refine lv_isub (pc := 30) hx hb dX4_recordAction_30 ?_
    refine lv_aload_n (pc := 31) hx hb dX4_recordAction_31 rfl (lv_at hl 2 rfl) ?_
    refine va_get (pc := 32) (D := D) (ci := 4) (v := .ref (q 3)) (C := RX4) (T := TX4) (N := 13) hx hb hts iX4 hown hK.1 hP 0 rfl rfl 3 (by decide) (hts _ fl_RX4_26) (fun _ h => h) rfl dX4_recordAction_32 ?_
    refine lv_iload_n (pc := 35) hx hb dX4_recordAction_35 rfl (lv_at hl 0 rfl) ?_
    refine va_aldq (pc := 36) hx hb hK.1 hP 13 2 rfl rfl (i := 2) (by unfold vp_in; decide) dX4_recordAction_36 ?_
    refine va_astq (pc := 37) (v := (pa.1 2).1) (i := 2 - 1) hx hb hK.1 hP hD hS 13 2 30 3 rfl rfl rfl rfl (by unfold vp_in; decide) dX4_recordAction_37 (fun H locs hP hD hS => ?_)
    refine lv_iinc (v := 3) (lv' := [(2, .int 3), (1, .ref (pa.1 0).1), (0, .ref a)]) (pc := 38) hx hb dX4_recordAction_38 hl (k := 0) rfl (by decide) (by decide) rfl (fun ls hl => ?_)
    refine lv_goto (pc := 41) (tgt := 18) hx hb dX4_recordAction_41 (by decide) ?_
    refine lv_iload_n (pc := 18) hx hb dX4_recordAction_18 rfl (lv_at hl 0 rfl) ?_
    refine lv_bipush (v := 6) (pc := 19) hx hb dX4_recordAction_19 (by decide) ?_
    refine lv_icmp_ge (pc := 21) (tgt := 44) hx hb dX4_recordAction_21 (by decide) (fun c0 => absurd c0 (by decide)) (fun _ => ?_)
    refine lv_aload_n (pc := 24) hx hb dX4_recordAction_24 rfl (lv_at hl 2 rfl) ?_
    refine va_get (pc := 25) (D := D) (ci := 4) (v := .ref (q 3)) (C := RX4) (T := TX4) (N := 13) hx hb hts iX4 hown hK.1 hP 0 rfl rfl 3 (by decide) (hts _ fl_RX4_26) (fun _ h => h) rfl dX4_recordAction_25 ?_
    refine lv_iload_n (pc := 28) hx hb dX4_recordAction_28 rfl (lv_at hl 0 rfl) ?_
    refine lv_iconst (v := 1) (pc := 29) hx hb dX4_recordAction_29 (by decide) ?_
    refine lv_isub (pc := 30) hx hb dX4_recordAction_30 ?_
    refine lv_aload_n (pc := 31) hx hb dX4_recordAction_31 rfl (lv_at hl 2 rfl) ?_
    refine va_get (pc := 32) (D := D) (ci := 4) (v := .ref (q 3)) (C := RX4) (T := TX4) (N := 13) hx hb hts iX4 hown hK.1 hP 0 rfl rfl 3 (by decide) (hts _ fl_RX4_26) (fun _ h => h) rfl dX4_recordAction_32 ?_
    refine lv_iload_n (pc := 35) hx hb dX4_recordAction_35 rfl (lv_at hl 0 rfl) ?_
    refine va_aldq (pc := 36) hx hb hK.1 hP 13 2 rfl rfl (i := 3) (by unfold vp_in; decide) dX4_recordAction_36 ?_
    refine va_astq (pc := 37) (v := (pa.1 3).1) (i := 3 - 1) hx hb hK.1 hP hD hS 13 2 38 3 rfl rfl rfl rfl (by unfold vp_in; decide) dX4_recordAction_37 (fun H locs hP hD hS => ?_)
    refine lv_iinc (v := 4) (lv' := [(2, .int 4), (1, .ref (pa.1 0).1), (0, .ref a)]) (pc := 38) hx hb dX4_recordAction_38 hl (k := 0) rfl (by decide) (by decide) rfl (fun ls hl => ?_)
    refine lv_goto (pc := 41) (tgt := 18) hx hb dX4_recordAction_41 (by decide) ?_
    refine lv_iload_n (pc := 18) hx hb dX4_recordAction_18 rfl (lv_at hl 0 rfl) ?_
    refine lv_bipush (v := 6) (pc := 19) hx hb dX4_recordAction_19 (by decide) ?_
    refine lv_icmp_ge (pc := 21) (tgt := 44) hx hb dX4_recordAction_21 (by decide) (fun c0 => absurd c0 (by decide)) (fun _ => ?_)
    refine lv_aload_n (pc := 24) hx hb dX4_recordAction_24 rfl (lv_at hl 2 rfl) ?_
    refine va_get (pc := 25) (D := D) (ci := 4) (v := .ref (q 3)) (C := RX4) (T := TX4) (N := 13) hx hb hts iX4 hown hK.1 hP 0 rfl rfl 3 (by decide) (hts _ fl_RX4_26) (fun _ h => h) rfl dX4_recordAction_25 ?_
    refine lv_iload_n (pc := 28) hx hb dX4_recordAction_28 rfl (lv_at hl 0 rfl) ?_
    refine lv_iconst (v := 1) (pc := 29) hx hb dX4_recordAction_29 (by decide) ?_
    refine lv_isub (pc := 30) hx hb dX4_recordAction_30 ?_
    refine lv_aload_n (pc := 31) hx hb dX4_recordAction_31 rfl (lv_at hl 2 rfl) ?_
    refine va_get (pc := 32) (D := D) (ci := 4) (v := .ref (q 3)) (C := RX4) (T := TX4) (N := 13) hx hb hts iX4 hown hK.1 hP 0 rfl rfl 3 (by decide) (hts _ fl_RX4_26) (fun _ h => h) rfl dX4_recordAction_32 ?_
    refine lv_iload_n (pc := 35) hx hb dX4_recordAction_35 rfl (lv_at hl 0 rfl) ?_
    refine va_aldq (pc := 36) hx hb hK.1 hP 13 2 rfl rfl (i := 4) (by unfold vp_in; decide) dX4_recordAction_36 ?_
    refine va_astq (pc := 37) (v := (pa.1 4).1) (i := 4 - 1) hx hb hK.1 hP hD hS 13 2 46 3 rfl rfl rfl rfl (by unfold vp_in; decide) dX4_recordAction_37 (fun H locs hP hD hS => ?_)
    refine lv_iinc (v := 5) (lv' := [(2, .int 5), (1, .ref (pa.1 0).1), (0, .ref a)]) (pc := 38) hx hb dX4_recordAction_38 hl (k := 0) rfl (by decide) (by decide) rfl (fun ls hl => ?_)
    refine lv_goto (pc := 41) (tgt := 18) hx hb dX4_recordAction_41 (by decide) ?_
    refine lv_iload_n (pc := 18) hx hb dX4_recordAction_18 rfl (lv_at hl 0 rfl) ?_
    refine lv_bipush (v := 6) (pc := 19) hx hb dX4_recordAction_19 (by decide) ?_
    refine lv_icmp_ge (pc := 21) (tgt := 44) hx hb dX4_recordAction_21 (by decide) (fun c0 => absurd c0 (by decide)) (fun _ => ?_)
    refine lv_aload_n (pc := 24) hx hb dX4_recordAction_24 rfl (lv_at hl 2 rfl) ?_
    refine va_get (pc := 25) (D := D) (ci := 4) (v := .ref (q 3)) (C := RX4) (T := TX4) (N := 13) hx hb hts iX4 hown hK.1 hP 0 rfl rfl 3 (by decide) (hts _ fl_RX4_26) (fun _ h => h) rfl dX4_recordAction_25 ?_
    refine lv_iload_n (pc := 28) hx hb dX4_recordAction_28 rfl (lv_at hl 0 rfl) ?_
    refine lv_iconst (v := 1) (pc := 29) hx hb dX4_recordAction_29 (by decide) ?_
    refine lv_isub (pc := 30) hx hb dX4_recordAction_30 ?_
    refine lv_aload_n (pc := 31) hx hb dX4_recordAction_31 rfl (lv_at hl 2 rfl) ?_
    refine va_get (pc := 32) (D := D) (ci := 4) (v := .ref (q 3)) (C := RX4) (T := TX4) (N := 13) hx hb hts iX4 hown hK.1 hP 0 rfl rfl 3 (by decide) (hts _ fl_RX4_26) (fun _ h => h) rfl dX4_recordAction_32 ?_
    refine lv_iload_n (pc := 35) hx hb dX4_recordAction_35 rfl (lv_at hl 0 rfl) ?_
    refine va_aldq (pc := 36) hx hb hK.1 hP 13 2 rfl rfl (i := 5) (by unfold vp_in; decide) dX4_recordAction_36 ?_
    refine va_astq (pc := 37) (v := (pa.1 5).1) (i := 5 - 1) hx hb hK.1 hP hD hS 13 2 54 3 rfl rfl rfl rfl (by unfold vp_in; decide) dX4_recordAction_37 (fun H locs hP hD hS => ?_)
    refine lv_iinc (v := 6) (lv' := [(2, .int 6), (1, .ref (pa.1 0).1), (0, .ref a)]) (pc := 38) hx hb dX4_recordAction_38 hl (k := 0) rfl (by decide) (by decide) rfl (fun ls hl => ?_)
    refine lv_goto (pc := 41) (tgt := 18) hx hb dX4_recordAction_41 (by decide) ?_
    refine lv_iload_n (pc := 18) hx hb dX4_recordAction_18 rfl (lv_at hl 0 rfl) ?_
    refine lv_bipush (v := 6) (pc := 19) hx hb dX4_recordAction_19 (by decide) ?_
    refine lv_icmp_ge (pc := 21) (tgt := 44) hx hb dX4_recordAction_21 (by decide) (fun _ => ?_) (fun c0 => absurd (by decide) c0)
    refine lv_aload_n (pc := 44) hx hb dX4_recordAction_44 rfl (lv_at hl 2 rfl) ?_
    refine va_get (pc := 45) (D := D) (ci := 4) (v := .ref (q 3)) (C := RX4) (T := TX4) (N := 13) hx hb hts iX4 hown hK.1 hP 0 rfl rfl 3 (by decide) (hts _ fl_RX4_26) (fun _ h => h) rfl dX4_recordAction_45 ?_
    refine lv_iconst (v := 5) (pc := 48) hx hb dX4_recordAction_48 (by decide) ?_
    refine lv_aload_n (pc := 49) hx hb dX4_recordAction_49 rfl (lv_at hl 1 rfl) ?_
    refine va_astq (pc := 50) (v := (pa.1 0).1) (i := 5) hx hb hK.1 hP hD hS 13 2 14 3 rfl rfl rfl rfl (by unfold vp_in; decide) dX4_recordAction_50 (fun H locs hP hD hS => ?_)
    obtain ⟨o10, eo10, hf⟩ := lt_some hf
    replace hP : va_P D vwCl (bX4 cI cZ a q oo ++ (bX3 cI (q 0) qN on ++ (((q 3, .inl (cS, 6, .inr (.inr (.inr (.inr (rotG pa)))))) :: (bX3 cI (pa.1 0).1 (pa.1 0).2 (pa.2 0) ++ (bX3 cI (pa.1 1).1 (pa.1 1).2 (pa.2 1) ++ (bX3 cI (pa.1 2).1 (pa.1 2).2 (pa.2 2) ++ (bX3 cI (pa.1 3).1 (pa.1 3).2 (pa.2 3) ++ (bX3 cI (pa.1 4).1 (pa.1 4).2 (pa.2 4) ++ (bX3 cI (pa.1 5).1 (pa.1 5).2 (pa.2 5))))))))))) H := hP
    replace hD : va_D A (bX4 cI cZ a q oo ++ (bX3 cI (q 0) qN on ++ (((q 3, .inl (cS, 6, .inr (.inr (.inr (.inr (rotG pa)))))) :: (bX3 cI (pa.1 0).1 (pa.1 0).2 (pa.2 0) ++ (bX3 cI (pa.1 1).1 (pa.1 1).2 (pa.2 1) ++ (bX3 cI (pa.1 2).1 (pa.1 2).2 (pa.2 2) ++ (bX3 cI (pa.1 3).1 (pa.1 3).2 (pa.2 3) ++ (bX3 cI (pa.1 4).1 (pa.1 4).2 (pa.2 4) ++ (bX3 cI (pa.1 5).1 (pa.1 5).2 (pa.2 5))))))))))) := hD
    rw [rotG_eq] at hP hD
    replace hP : va_P D vwCl (bX4 cI cZ a q oo ++ (bX3 cI (q 0) qN on ++ bPA cI cS (q 3) o10)) H := by rw [eo10]; exact hP.sub [0, 1, 2, 3, 4, 5, 6, 7, 8, 9, 10, 11, 12, 13, 22, 23, 24, 25, 26, 27, 28, 29, 30, 31, 32, 33, 34, 35, 36, 37, 38, 39, 40, 41, 42, 43, 44, 45, 46, 47, 48, 49, 50, 51, 52, 53, 54, 55, 56, 57, 58, 59, 60, 61, 14, 15, 16, 17, 18, 19, 20, 21] rfl
    replace hD : va_D A (bX4 cI cZ a q oo ++ (bX3 cI (q 0) qN on ++ bPA cI cS (q 3) o10)) := by rw [eo10]; exact hD.sub [0, 1, 2, 3, 4, 5, 6, 7, 8, 9, 10, 11, 12, 13, 22, 23, 24, 25, 26, 27, 28, 29, 30, 31, 32, 33, 34, 35, 36, 37, 38, 39, 40, 41, 42, 43, 44, 45, 46, 47, 48, 49, 50, 51, 52, 53, 54, 55, 56, 57, 58, 59, 60, 61, 14, 15, 16, 17, 18, 19, 20, 21] (by decide +kernel) rfl
    refine lv_aload_n (pc := 51) hx hb dX4_recordAction_51 rfl (lv_at hl 2 rfl) ?_
    refine lv_iconst (v := 5) (pc := 52) hx hb dX4_recordAction_52 (by decide) ?_
    obtain ⟨o11, eo11, hf⟩ := lt_some hf
    refine va_put (pc := 53) (D := D) (ci := 4) (v := .int 5) (ty := .int) (C := RX4) (T := TX4) (N := 13) hx hb hts iX4 tyX4 tyX4_ok nmX4 hown hK.1 hP hD hS 0 rfl rfl 4 (by decide) (hts _ fl_RX4_73) (fun _ h => h) rfl (tyX4_ok 4 (by decide)) rfl rfl (Nat.le_of_ble_eq_true rfl) dX4_recordAction_53 (fun H locs hP hD hS => ?_)
    replace hP : va_P D vwCl (bX4 cI cZ a q o11 ++ (bX3 cI (q 0) qN on ++ bPA cI cS (q 3) o10)) H := by rw [eo11]; exact hP
    replace hD : va_D A (bX4 cI cZ a q o11 ++ (bX3 cI (q 0) qN on ++ bPA cI cS (q 3) o10)) := by rw [eo11]; exact hD
    obtain rfl := Option.some.inj hf
    exact K2 H locs ls hP hD hS (lv_sub hl [2] rfl)
