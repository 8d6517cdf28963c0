def f_X4_undo (oo : OS) (on : OS) (pa : PSt) : Option (Int32 × OS × OS) := if (oo.1 4) < 1 then some ((-2), oo, on) else if (oo.1 4) ≤ 6 then lt (sI oo 4 ((oo.1 4) - 1)) fun o3 => ck (o3.1 4) 6 (lt (((o3.1 4) : Int32).toNatClampNeg) fun k5 => Option.bind (f_X3_copy (pa.2 k5) on) fun x6 => some ((o3.1 4), o3, x6)) else some ((-2), oo, on)
set_option maxHeartbeats 4000000 in
set_option maxRecDepth 100000 in
theorem c_X4_undo (l : Launch) (D : va_G) (cI cZ cS : ClassId) (a : Nat) (q : Nat → Nat) (qN : Nat → Nat) (oo : OS) (on : OS) (pa : PSt) (x : (Int32 × OS × OS)) (hf : f_X4_undo oo on pa = some x) : Ct l yX4_undo cX4_undo 1 (some .int) 2 66 D cI cZ cS [.ref a] (bX4 cI cZ a q oo ++ (bX3 cI (q 0) qN on ++ bPA cI cS (q 3) pa)) (some (.int x.1)) (bX4 cI cZ a q x.2.1 ++ (bX3 cI (q 0) qN x.2.2 ++ bPA cI cS (q 3) pa)) := by
  intro sz
  refine Met.ofW (cc := cX4_undo) (maxL := 1) (ret := (some .int)) (by decide +kernel) rfl ?_
  intro p e s m args below meth c s₁ B hml hv
  obtain ⟨rfl, hsz, hP, hK, hD0⟩ := hv
  have hx := B.exec
  have hb := B.bytes
  have hr := B.returns
  have hts0 := atoms_spec (ws := .code yX4_undo cX4_undo 1 (some .int) :: TB) B.pre
  have hts := fun w (h : w ∈ TB) => hts0 w (List.mem_cons_of_mem _ h)
  have hown : s.vm.findClass RX4 = some m.cls := findClass_of_methodNamed B.named
  have hlocks := B.notSynchronized
  subst hsz
  have hD := hD0.self (sz := s.heap.size)
  generalize hAe : va_A (bX4 cI cZ a q oo ++ (bX3 cI (q 0) qN on ++ bPA cI cS (q 3) pa)) s.heap.size = A at hD ⊢
  have hA : ∀ q : Nat, s.heap.size ≤ q → A q := fun q h => by rw [← hAe]; exact Or.inr h
  have hS : va_S A s.heap s.heap [] := va_S.rf
  obtain ⟨H, hH⟩ : ∃ H, H = s.heap := ⟨_, rfl⟩
  rw [← hH] at hP
  have hS : va_S A s.heap H [] := by rw [hH]; exact hS
  have hl := lv_entry ([.ref a]) (n := 1) (Nat.le_of_ble_eq_true rfl)
  rw [lg_entry_eq]
  generalize (lg_sl ([.ref a]) ++ List.replicate (1 - (lg_sl ([.ref a])).length) Slot.unset).toArray = ls at hl ⊢
  have hl : lv_has ls 1 [(0, .ref a)] := hl
  refine W_heap hH ?_
  obtain ⟨locs, hlo⟩ : ∃ locs : List Loc, locs = [] := ⟨_, rfl⟩
  rw [← hlo] at hS ⊢
  unfold f_X4_undo at hf
  refine lv_aload_n (pc := 0) hx hb dX4_undo_0 rfl (lv_at hl 0 rfl) ?_
  refine va_get (pc := 1) (D := D) (ci := 4) (v := .int (oo.1 4)) (C := RX4) (T := TX4) (N := 13) hx hb hts iX4 hown hK.1 hP 0 rfl rfl 4 (by decide) (hts _ fl_RX4_73) (fun _ h => h) rfl dX4_undo_1 ?_
  refine lv_iconst (v := 1) (pc := 4) hx hb dX4_undo_4 (by decide) ?_
  refine lv_icmp_lt (pc := 5) (tgt := 17) hx hb dX4_undo_5 (by decide) (fun c1 => ?_) (fun c1 => ?_)
  · replace hf := ip c1 hf
    refine lv_bipush (v := -2) (pc := 17) hx hb dX4_undo_17 (by decide) ?_
    obtain rfl := Option.some.inj hf
    exact W.iret hx hb hr (fun t ht hW => ⟨rfl, by rw [ht]; exact hP, hD, hS.F ht⟩) hS.2.2 dX4_undo_19
  · replace hf := im c1 hf
    refine lv_aload_n (pc := 8) hx hb dX4_undo_8 rfl (lv_at hl 0 rfl) ?_
    refine va_get (pc := 9) (D := D) (ci := 4) (v := .int (oo.1 4)) (C := RX4) (T := TX4) (N := 13) hx hb hts iX4 hown hK.1 hP 0 rfl rfl 4 (by decide) (hts _ fl_RX4_73) (fun _ h => h) rfl dX4_undo_9 ?_
    refine lv_bipush (v := 6) (pc := 12) hx hb dX4_undo_12 (by decide) ?_
    refine lv_icmp_le (pc := 14) (tgt := 20) hx hb dX4_undo_14 (by decide) (fun c2 => ?_) (fun c2 => ?_)
    · replace hf := ip c2 hf
      refine lv_aload_n (pc := 20) hx hb dX4_undo_20 rfl (lv_at hl 0 rfl) ?_
      refine lv_dup (pc := 21) hx hb dX4_undo_21 rfl ?_
      refine va_get (pc := 22) (D := D) (ci := 4) (v := .int (oo.1 4)) (C := RX4) (T := TX4) (N := 13) hx hb hts iX4 hown hK.1 hP 0 rfl rfl 4 (by decide) (hts _ fl_RX4_73) (fun _ h => h) rfl dX4_undo_22 ?_
      refine lv_iconst (v := 1) (pc := 25) hx hb dX4_undo_25 (by decide) ?_
      refine lv_isub (pc := 26) hx hb dX4_undo_26 ?_
      obtain ⟨o3, eo3, hf⟩ := lt_some hf
      refine va_put (pc := 27) (D := D) (ci := 4) (v := .int ((oo.1 4) - 1)) (ty := .int) (C := RX4) (T := TX4) (N := 13) hx hb hts iX4 tyX4 tyX4_ok nmX4 hown hK.1 hP hD hS 0 rfl rfl 4 (by decide) (hts _ fl_RX4_73) (fun _ h => h) rfl (tyX4_ok 4 (by decide)) rfl rfl (Nat.le_of_ble_eq_true rfl) dX4_undo_27 (fun H locs hP hD hS => ?_)
      replace hP : va_P D vwCl (bX4 cI cZ a q o3 ++ (bX3 cI (q 0) qN on ++ bPA cI cS (q 3) pa)) H := by rw [eo3]; exact hP
      replace hD : va_D A (bX4 cI cZ a q o3 ++ (bX3 cI (q 0) qN on ++ bPA cI cS (q 3) pa)) := by rw [eo3]; exact hD
      refine lv_aload_n (pc := 30) hx hb dX4_undo_30 rfl (lv_at hl 0 rfl) ?_
      refine va_get (pc := 31) (D := D) (ci := 4) (v := .ref (q 3)) (C := RX4) (T := TX4) (N := 13) hx hb hts iX4 hown hK.1 hP 0 rfl rfl 3 (by decide) (hts _ fl_RX4_26) (fun _ h => h) rfl dX4_undo_31 ?_
      refine lv_aload_n (pc := 34) hx hb dX4_undo_34 rfl (lv_at hl 0 rfl) ?_
      refine va_get (pc := 35) (D := D) (ci := 4) (v := .int (o3.1 4)) (C := RX4) (T := TX4) (N := 13) hx hb hts iX4 hown hK.1 hP 0 rfl rfl 4 (by decide) (hts _ fl_RX4_73) (fun _ h => h) rfl dX4_undo_35 ?_
      obtain ⟨h4, hf⟩ := ck_some hf
      obtain ⟨k5, ek5, hf⟩ := lt_some hf
      refine ld_q (pc := 38) (ps := pa) hx hb hK.1 hP 13 2 rfl rfl h4 ek5 dX4_undo_38 ?_
      refine lv_aload_n (pc := 39) hx hb dX4_undo_39 rfl (lv_at hl 0 rfl) ?_
      refine va_get (pc := 40) (D := D) (ci := 4) (v := .ref (q 0)) (C := RX4) (T := TX4) (N := 13) hx hb hts iX4 hown hK.1 hP 0 rfl rfl 0 (by decide) (hts _ fl_RX4_12) (fun _ h => h) rfl dX4_undo_40 ?_
      obtain ⟨x6, ex6, hf⟩ := bd_some hf
      have K8 : ∀ (H : Heap) (locs : List Loc) (ls : Array Slot), va_P D vwCl (bX4 cI cZ a q o3 ++ (bX3 cI (q 0) qN x6 ++ bPA cI cS (q 3) pa)) H → va_D A (bX4 cI cZ a q o3 ++ (bX3 cI (q 0) qN x6 ++ bPA cI cS (q 3) pa)) → va_S A s.heap H locs → lv_has ls 1 [(0, .ref a)] → GW l yX4_undo cX4_undo 1 (some .int) 2 66 D [.ref a] (some (.int x.1)) (bX4 cI cZ a q x.2.1 ++ (bX3 cI (q 0) qN x.2.2 ++ bPA cI cS (q 3) pa)) A p e s m below meth c H locs (F0 m 46 ls []) := by
        intro H locs ls hP hD hS hl
        refine lv_aload_n (pc := 46) hx hb dX4_undo_46 rfl (lv_at hl 0 rfl) ?_
        refine va_get (pc := 47) (D := D) (ci := 4) (v := .int (o3.1 4)) (C := RX4) (T := TX4) (N := 13) hx hb hts iX4 hown hK.1 hP 0 rfl rfl 4 (by decide) (hts _ fl_RX4_73) (fun _ h => h) rfl dX4_undo_47 ?_
        obtain rfl := Option.some.inj hf
        exact W.iret hx hb hr (fun t ht hW => ⟨rfl, by rw [ht]; exact hP, hD, hS.F ht⟩) hS.2.2 dX4_undo_50
      clear hf
      have hk5 : k5 < 6 := by rw [ek5]; exact Nat.not_le.mp fun q => h4 (Or.inr q)
      clear ek5
      obtain rfl | rfl | rfl | rfl | rfl | rfl : k5 = 0 ∨ k5 = 1 ∨ k5 = 2 ∨ k5 = 3 ∨ k5 = 4 ∨ k5 = 5 := by omega
      · refine ct_S (pc := 43) (As := [.ref ((pa.1 0).1), .ref (q 0)]) (rest := []) (wr := [0, 1, 2, 3, 4, 13, 22, 23, 24, 25, 26, 27, 28, 29, 30, 31, 32, 33, 34, 35, 36, 37, 38, 39, 40, 41, 42, 43, 44, 45, 46, 47, 48, 49, 50, 51, 52, 53, 54, 55, 56, 57, 58, 59, 60, 61].filterMap (fun i => (bX4 cI cZ a q o3 ++ (bX3 cI (q 0) qN on ++ bPA cI cS (q 3) pa))[i]?)) (W1 := bX4 cI cZ a q o3 ++ (bX3 cI (q 0) qN x6 ++ bPA cI cS (q 3) pa)) ⟨hx, hb, hml, hown, hts⟩ hK (c_X3_copy l D cI cZ cS ((pa.1 0).1) (q 0) ((pa.1 0).2) qN (pa.2 0) on x6 ex6) gs_RX4_69 hs_X3_copy rfl ⟨Nat.le_of_ble_eq_true rfl, Nat.le_of_ble_eq_true rfl⟩ hl.1 rfl (Nat.le_of_ble_eq_true rfl) dX4_undo_43 ⟨Nat.zero_le _, Nat.zero_le _⟩ hP hD hS hA [14, 15, 16, 17, 18, 19, 20, 21, 5, 6, 7, 8, 9, 10, 11, 12] [0, 1, 2, 3, 4, 13, 22, 23, 24, 25, 26, 27, 28, 29, 30, 31, 32, 33, 34, 35, 36, 37, 38, 39, 40, 41, 42, 43, 44, 45, 46, 47, 48, 49, 50, 51, 52, 53, 54, 55, 56, 57, 58, 59, 60, 61] [0, 1, 2, 3, 4, 54, 55, 56, 57, 58, 59, 60, 61, 5, 46, 47, 48, 49, 50, 51, 52, 53, 6, 7, 8, 9, 10, 11, 12, 13, 14, 15, 16, 17, 18, 19, 20, 21, 22, 23, 24, 25, 26, 27, 28, 29, 30, 31, 32, 33, 34, 35, 36, 37, 38, 39, 40, 41, 42, 43, 44, 45] rfl rfl (by decide +kernel) (by decide +kernel) (by decide +kernel) (by decide +kernel) rfl (fun H locs hP hD hS => ?_)
        exact K8 H locs ls (hP) (hD) hS (lv_sub hl [0] rfl)
      · refine ct_S (pc := 43) (As := [.ref ((pa.1 1).1), .ref (q 0)]) (rest := []) (wr := [0, 1, 2, 3, 4, 13, 14, 15, 16, 17, 18, 19, 20, 21, 30, 31, 32, 33, 34, 35, 36, 37, 38, 39, 40, 41, 42, 43, 44, 45, 46, 47, 48, 49, 50, 51, 52, 53, 54, 55, 56, 57, 58, 59, 60, 61].filterMap (fun i => (bX4 cI cZ a q o3 ++ (bX3 cI (q 0) qN on ++ bPA cI cS (q 3) pa))[i]?)) (W1 := bX4 cI cZ a q o3 ++ (bX3 cI (q 0) qN x6 ++ bPA cI cS (q 3) pa)) ⟨hx, hb, hml, hown, hts⟩ hK (c_X3_copy l D cI cZ cS ((pa.1 1).1) (q 0) ((pa.1 1).2) qN (pa.2 1) on x6 ex6) gs_RX4_69 hs_X3_copy rfl ⟨Nat.le_of_ble_eq_true rfl, Nat.le_of_ble_eq_true rfl⟩ hl.1 rfl (Nat.le_of_ble_eq_true rfl) dX4_undo_43 ⟨Nat.zero_le _, Nat.zero_le _⟩ hP hD hS hA [22, 23, 24, 25, 26, 27, 28, 29, 5, 6, 7, 8, 9, 10, 11, 12] [0, 1, 2, 3, 4, 13, 14, 15, 16, 17, 18, 19, 20, 21, 30, 31, 32, 33, 34, 35, 36, 37, 38, 39, 40, 41, 42, 43, 44, 45, 46, 47, 48, 49, 50, 51, 52, 53, 54, 55, 56, 57, 58, 59, 60, 61] [0, 1, 2, 3, 4, 54, 55, 56, 57, 58, 59, 60, 61, 5, 6, 7, 8, 9, 10, 11, 12, 13, 46, 47, 48, 49, 50, 51, 52, 53, 14, 15, 16, 17, 18, 19, 20, 21, 22, 23, 24, 25, 26, 27, 28, 29, 30, 31, 32, 33, 34, 35, 36, 37, 38, 39, 40, 41, 42, 43, 44, 45] rfl rfl (by decide +kernel) (by decide +kernel) (by decide +kernel) (by decide +kernel) rfl (fun H locs hP hD hS => ?_)
        exact K8 H locs ls (hP) (hD) hS (lv_sub hl [0] rfl)
      · refine ct_S (pc := 43) (As := [.ref ((pa.1 2).1), .ref (q 0)]) (rest := []) (wr := [0, 1, 2, 3, 4, 13, 14, 15, 16, 17, 18, 19, 20, 21, 22, 23, 24, 25, 26, 27, 28, 29, 38, 39, 40, 41, 42, 43, 44, 45, 46, 47, 48, 49, 50, 51, 52, 53, 54, 55, 56, 57, 58, 59, 60, 61].filterMap (fun i => (bX4 cI cZ a q o3 ++ (bX3 cI (q 0) qN on ++ bPA cI cS (q 3) pa))[i]?)) (W1 := bX4 cI cZ a q o3 ++ (bX3 cI (q 0) qN x6 ++ bPA cI cS (q 3) pa)) ⟨hx, hb, hml, hown, hts⟩ hK (c_X3_copy l D cI cZ cS ((pa.1 2).1) (q 0) ((pa.1 2).2) qN (pa.2 2) on x6 ex6) gs_RX4_69 hs_X3_copy rfl ⟨Nat.le_of_ble_eq_true rfl, Nat.le_of_ble_eq_true rfl⟩ hl.1 rfl (Nat.le_of_ble_eq_true rfl) dX4_undo_43 ⟨Nat.zero_le _, Nat.zero_le _⟩ hP hD hS hA [30, 31, 32, 33, 34, 35, 36, 37, 5, 6, 7, 8, 9, 10, 11, 12] [0, 1, 2, 3, 4, 13, 14, 15, 16, 17, 18, 19, 20, 21, 22, 23, 24, 25, 26, 27, 28, 29, 38, 39, 40, 41, 42, 43, 44, 45, 46, 47, 48, 49, 50, 51, 52, 53, 54, 55, 56, 57, 58, 59, 60, 61] [0, 1, 2, 3, 4, 54, 55, 56, 57, 58, 59, 60, 61, 5, 6, 7, 8, 9, 10, 11, 12, 13, 14, 15, 16, 17, 18, 19, 20, 21, 46, 47, 48, 49, 50, 51, 52, 53, 22, 23, 24, 25, 26, 27, 28, 29, 30, 31, 32, 33, 34, 35, 36, 37, 38, 39, 40, 41, 42, 43, 44, 45] rfl rfl (by decide +kernel) (by decide +kernel) (by decide +kernel) (by decide +kernel) rfl (fun H locs hP hD hS => ?_)
        exact K8 H locs ls (hP) (hD) hS (lv_sub hl [0] rfl)
      · refine ct_S (pc := 43) (As := [.ref ((pa.1 3).1), .ref (q 0)]) (rest := []) (wr := [0, 1, 2, 3, 4, 13, 14, 15, 16, 17, 18, 19, 20, 21, 22, 23, 24, 25, 26, 27, 28, 29, 30, 31, 32, 33, 34, 35, 36, 37, 46, 47, 48, 49, 50, 51, 52, 53, 54, 55, 56, 57, 58, 59, 60, 61].filterMap (fun i => (bX4 cI cZ a q o3 ++ (bX3 cI (q 0) qN on ++ bPA cI cS (q 3) pa))[i]?)) (W1 := bX4 cI cZ a q o3 ++ (bX3 cI (q 0) qN x6 ++ bPA cI cS (q 3) pa)) ⟨hx, hb, hml, hown, hts⟩ hK (c_X3_copy l D cI cZ cS ((pa.1 3).1) (q 0) ((pa.1 3).2) qN (pa.2 3) on x6 ex6) gs_RX4_69 hs_X3_copy rfl ⟨Nat.le_of_ble_eq_true rfl, Nat.le_of_ble_eq_true rfl⟩ hl.1 rfl (Nat.le_of_ble_eq_true rfl) dX4_undo_43 ⟨Nat.zero_le _, Nat.zero_le _⟩ hP hD hS hA [38, 39, 40, 41, 42, 43, 44, 45, 5, 6, 7, 8, 9, 10, 11, 12] [0, 1, 2, 3, 4, 13, 14, 15, 16, 17, 18, 19, 20, 21, 22, 23, 24, 25, 26, 27, 28, 29, 30, 31, 32, 33, 34, 35, 36, 37, 46, 47, 48, 49, 50, 51, 52, 53, 54, 55, 56, 57, 58, 59, 60, 61] [0, 1, 2, 3, 4, 54, 55, 56, 57, 58, 59, 60, 61, 5, 6, 7, 8, 9, 10, 11, 12, 13, 14, 15, 16, 17, 18, 19, 20, 21, 22, 23, 24, 25, 26, 27, 28, 29, 46, 47, 48, 49, 50, 51, 52, 53, 30, 31, 32, 33, 34, 35, 36, 37, 38, 39, 40, 41, 42, 43, 44, 45] rfl rfl (by decide +kernel) (by decide +kernel) (by decide +kernel) (by decide +kernel) rfl (fun H locs hP hD hS => ?_)
        exact K8 H locs ls (hP) (hD) hS (lv_sub hl [0] rfl)
      · refine ct_S (pc := 43) (As := [.ref ((pa.1 4).1), .ref (q 0)]) (rest := []) (wr := [0, 1, 2, 3, 4, 13, 14, 15, 16, 17, 18, 19, 20, 21, 22, 23, 24, 25, 26, 27, 28, 29, 30, 31, 32, 33, 34, 35, 36, 37, 38, 39, 40, 41, 42, 43, 44, 45, 54, 55, 56, 57, 58, 59, 60, 61].filterMap (fun i => (bX4 cI cZ a q o3 ++ (bX3 cI (q 0) qN on ++ bPA cI cS (q 3) pa))[i]?)) (W1 := bX4 cI cZ a q o3 ++ (bX3 cI (q 0) qN x6 ++ bPA cI cS (q 3) pa)) ⟨hx, hb, hml, hown, hts⟩ hK (c_X3_copy l D cI cZ cS ((pa.1 4).1) (q 0) ((pa.1 4).2) qN (pa.2 4) on x6 ex6) gs_RX4_69 hs_X3_copy rfl ⟨Nat.le_of_ble_eq_true rfl, Nat.le_of_ble_eq_true rfl⟩ hl.1 rfl (Nat.le_of_ble_eq_true rfl) dX4_undo_43 ⟨Nat.zero_le _, Nat.zero_le _⟩ hP hD hS hA [46, 47, 48, 49, 50, 51, 52, 53, 5, 6, 7, 8, 9, 10, 11, 12] [0, 1, 2, 3, 4, 13, 14, 15, 16, 17, 18, 19, 20, 21, 22, 23, 24, 25, 26, 27, 28, 29, 30, 31, 32, 33, 34, 35, 36, 37, 38, 39, 40, 41, 42, 43, 44, 45, 54, 55, 56, 57, 58, 59, 60, 61] [0, 1, 2, 3, 4, 54, 55, 56, 57, 58, 59, 60, 61, 5, 6, 7, 8, 9, 10, 11, 12, 13, 14, 15, 16, 17, 18, 19, 20, 21, 22, 23, 24, 25, 26, 27, 28, 29, 30, 31, 32, 33, 34, 35, 36, 37, 46, 47, 48, 49, 50, 51, 52, 53, 38, 39, 40, 41, 42, 43, 44, 45] rfl rfl (by decide +kernel) (by decide +kernel) (by decide +kernel) (by decide +kernel) rfl (fun H locs hP hD hS => ?_)
        exact K8 H locs ls (hP) (hD) hS (lv_sub hl [0] rfl)
      · refine ct_S (pc := 43) (As := [.ref ((pa.1 5).1), .ref (q 0)]) (rest := []) (wr := [0, 1, 2, 3, 4, 13, 14, 15, 16, 17, 18, 19, 20, 21, 22, 23, 24, 25, 26, 27, 28, 29, 30, 31, 32, 33, 34, 35, 36, 37, 38, 39, 40, 41, 42, 43, 44, 45, 46, 47, 48, 49, 50, 51, 52, 53].filterMap (fun i => (bX4 cI cZ a q o3 ++ (bX3 cI (q 0) qN on ++ bPA cI cS (q 3) pa))[i]?)) (W1 := bX4 cI cZ a q o3 ++ (bX3 cI (q 0) qN x6 ++ bPA cI cS (q 3) pa)) ⟨hx, hb, hml, hown, hts⟩ hK (c_X3_copy l D cI cZ cS ((pa.1 5).1) (q 0) ((pa.1 5).2) qN (pa.2 5) on x6 ex6) gs_RX4_69 hs_X3_copy rfl ⟨Nat.le_of_ble_eq_true rfl, Nat.le_of_ble_eq_true rfl⟩ hl.1 rfl (Nat.le_of_ble_eq_true rfl) dX4_undo_43 ⟨Nat.zero_le _, Nat.zero_le _⟩ hP hD hS hA [54, 55, 56, 57, 58, 59, 60, 61, 5, 6, 7, 8, 9, 10, 11, 12] [0, 1, 2, 3, 4, 13, 14, 15, 16, 17, 18, 19, 20, 21, 22, 23, 24, 25, 26, 27, 28, 29, 30, 31, 32, 33, 34, 35, 36, 37, 38, 39, 40, 41, 42, 43, 44, 45, 46, 47, 48, 49, 50, 51, 52, 53] [0, 1, 2, 3, 4, 54, 55, 56, 57, 58, 59, 60, 61, 5, 6, 7, 8, 9, 10, 11, 12, 13, 14, 15, 16, 17, 18, 19, 20, 21, 22, 23, 24, 25, 26, 27, 28, 29, 30, 31, 32, 33, 34, 35, 36, 37, 38, 39, 40, 41, 42, 43, 44, 45, 46, 47, 48, 49, 50, 51, 52, 53] rfl rfl (by decide +kernel) (by decide +kernel) (by decide +kernel) (by decide +kernel) rfl (fun H locs hP hD hS => ?_)
        exact K8 H locs ls (hP) (hD) hS (lv_sub hl [0] rfl)
    · replace hf := im c2 hf
      refine lv_bipush (v := -2) (pc := 17) hx hb dX4_undo_17 (by decide) ?_
      obtain rfl := Option.some.inj hf
      exact W.iret hx hb hr (fun t ht hW => ⟨rfl, by rw [ht]; exact hP, hD, hS.F ht⟩) hS.2.2 dX4_undo_19
def f_X4_takePresent (oo : OS) (on : OS) (od : OS) : Option OS := Option.bind (f_X0_takePiles od on) fun x1 => Option.bind (f_X3_weight on) fun x2 => Option.bind (f_X3_momentX on) fun x3 => Option.bind (f_X3_momentY on) fun x4 => Option.bind (f_X0_bear x2.toInt64 x3.toInt64 x4.toInt64 x1) fun x5 => some x5
set_option maxHeartbeats 4000000 in
set_option maxRecDepth 100000 in
theorem c_X4_takePresent (l : Launch) (D : va_G) (cI cZ cS : ClassId) (a : Nat) (q : Nat → Nat) (qN : Nat → Nat) (qD : Nat → Nat) (oo : OS) (on : OS) (od : OS) (x : OS) (hf : f_X4_takePresent oo on od = some x) : Ct l yX4_takePresent cX4_takePresent 1 none 2 66 D cI cZ cS [.ref a] (bX4 cI cZ a q oo ++ (bX3 cI (q 0) qN on ++ bX0 cI (q 12) qD od)) none (bX4 cI cZ a q oo ++ (bX3 cI (q 0) qN on ++ bX0 cI (q 12) qD x)) := by
  intro sz
  refine Met.ofW (cc := cX4_takePresent) (maxL := 1) (ret := none) (by decide +kernel) rfl ?_
  intro p e s m args below meth c s₁ B hml hv
  obtain ⟨rfl, hsz, hP, hK, hD0⟩ := hv
  have hx := B.exec
  have hb := B.bytes
  have hr := B.returns
  have hts0 := atoms_spec (ws := .code yX4_takePresent cX4_takePresent 1 none :: TB) B.pre
  have hts := fun w (h : w ∈ TB) => hts0 w (List.mem_cons_of_mem _ h)
  have hown : s.vm.findClass RX4 = some m.cls := findClass_of_methodNamed B.named
  have hlocks := B.notSynchronized
  subst hsz
  have hD := hD0.self (sz := s.heap.size)
  generalize hAe : va_A (bX4 cI cZ a q oo ++ (bX3 cI (q 0) qN on ++ bX0 cI (q 12) qD od)) s.heap.size = A at hD ⊢
  have hA : ∀ q : Nat, s.heap.size ≤ q → A q := fun q h => by rw [← hAe]; exact Or.inr h
  have hS : va_S A s.heap s.heap [] := va_S.rf
  obtain ⟨H, hH⟩ : ∃ H, H = s.heap := ⟨_, rfl⟩
  rw [← hH] at hP
  have hS : va_S A s.heap H [] := by rw [hH]; exact hS
  have hl := lv_entry ([.ref a]) (n := 1) (Nat.le_of_ble_eq_true rfl)
  rw [lg_entry_eq]
  generalize (lg_sl ([.ref a]) ++ List.replicate (1 - (lg_sl ([.ref a])).length) Slot.unset).toArray = ls at hl ⊢
  have hl : lv_has ls 1 [(0, .ref a)] := hl
  refine W_heap hH ?_
  obtain ⟨locs, hlo⟩ : ∃ locs : List Loc, locs = [] := ⟨_, rfl⟩
  rw [← hlo] at hS ⊢
  unfold f_X4_takePresent at hf
  refine lv_aload_n (pc := 0) hx hb dX4_takePresent_0 rfl (lv_at hl 0 rfl) ?_
  refine va_get (pc := 1) (D := D) (ci := 4) (v := .ref (q 12)) (C := RX4) (T := TX4) (N := 13) hx hb hts iX4 hown hK.1 hP 0 rfl rfl 12 (by decide) (hts _ fl_RX4_54) (fun _ h => h) rfl dX4_takePresent_1 ?_
  refine lv_aload_n (pc := 4) hx hb dX4_takePresent_4 rfl (lv_at hl 0 rfl) ?_
  refine va_get (pc := 5) (D := D) (ci := 4) (v := .ref (q 0)) (C := RX4) (T := TX4) (N := 13) hx hb hts iX4 hown hK.1 hP 0 rfl rfl 0 (by decide) (hts _ fl_RX4_12) (fun _ h => h) rfl dX4_takePresent_5 ?_
  obtain ⟨x1, ex1, hf⟩ := bd_some hf
  refine ct_V (pc := 8) (As := [.ref (q 0)]) (rest := []) (wr := bX4 cI cZ a q oo) (W1 := bX4 cI cZ a q oo ++ (bX3 cI (q 0) qN on ++ bX0 cI (q 12) qD x1)) ⟨hx, hb, hml, hown, hts⟩ hK (c_X0_takePiles l D cI cZ cS (q 12) qD (q 0) qN od on x1 ex1) gv_RX4_263 rfl hs_X0_takePiles rfl ⟨Nat.le_of_ble_eq_true rfl, Nat.le_of_ble_eq_true rfl⟩ (ci := 0) (q0 := 13) rfl rfl rfl hl.1 rfl (Nat.le_of_ble_eq_true rfl) dX4_takePresent_8 ⟨Nat.zero_le _, Nat.zero_le _⟩ hP hD hS hA [13, 14, 15, 16, 17, 5, 6, 7, 8, 9, 10, 11, 12] [0, 1, 2, 3, 4] [0, 1, 2, 3, 4, 10, 11, 12, 13, 14, 15, 16, 17, 5, 6, 7, 8, 9] rfl rfl (by decide +kernel) (by decide +kernel) (by decide +kernel) (by decide +kernel) rfl (fun H locs hP hD hS => ?_)
  refine lv_aload_n (pc := 11) hx hb dX4_takePresent_11 rfl (lv_at hl 0 rfl) ?_
  refine va_get (pc := 12) (D := D) (ci := 4) (v := .ref (q 12)) (C := RX4) (T := TX4) (N := 13) hx hb hts iX4 hown hK.1 hP 0 rfl rfl 12 (by decide) (hts _ fl_RX4_54) (fun _ h => h) rfl dX4_takePresent_12 ?_
  refine lv_aload_n (pc := 15) hx hb dX4_takePresent_15 rfl (lv_at hl 0 rfl) ?_
  refine va_get (pc := 16) (D := D) (ci := 4) (v := .ref (q 0)) (C := RX4) (T := TX4) (N := 13) hx hb hts iX4 hown hK.1 hP 0 rfl rfl 0 (by decide) (hts _ fl_RX4_12) (fun _ h => h) rfl dX4_takePresent_16 ?_
  obtain ⟨x2, ex2, hf⟩ := bd_some hf
  refine ct_V (pc := 19) (As := []) (rest := [.ref (q 12)]) (wr := bX4 cI cZ a q oo ++ bX0 cI (q 12) qD x1) (W1 := bX4 cI cZ a q oo ++ (bX3 cI (q 0) qN on ++ bX0 cI (q 12) qD x1)) ⟨hx, hb, hml, hown, hts⟩ hK (c_X3_weight l D cI cZ cS (q 0) qN on x2 ex2) gv_RX4_158 rfl hs_X3_weight rfl ⟨Nat.le_of_ble_eq_true rfl, Nat.le_of_ble_eq_true rfl⟩ (ci := 3) (q0 := 5) rfl rfl rfl hl.1 rfl (Nat.le_of_ble_eq_true rfl) dX4_takePresent_19 ⟨Nat.zero_le _, Nat.zero_le _⟩ hP hD hS hA [5, 6, 7, 8, 9, 10, 11, 12] [0, 1, 2, 3, 4, 13, 14, 15, 16, 17] [0, 1, 2, 3, 4, 10, 11, 12, 13, 14, 15, 16, 17, 5, 6, 7, 8, 9] rfl rfl (by decide +kernel) (by decide +kernel) (by decide +kernel) (by decide +kernel) rfl (fun H locs hP hD hS => ?_)
  refine lv_i2l (pc := 22) hx hb dX4_takePresent_22 rfl ?_
  refine lv_aload_n (pc := 23) hx hb dX4_takePresent_23 rfl (lv_at hl 0 rfl) ?_
  refine va_get (pc := 24) (D := D) (ci := 4) (v := .ref (q 0)) (C := RX4) (T := TX4) (N := 13) hx hb hts iX4 hown hK.1 hP 0 rfl rfl 0 (by decide) (hts _ fl_RX4_12) (fun _ h => h) rfl dX4_takePresent_24 ?_
  obtain ⟨x3, ex3, hf⟩ := bd_some hf
  refine ct_V (pc := 27) (As := []) (rest := [.long x2.toInt64, .ref (q 12)]) (wr := bX4 cI cZ a q oo ++ bX0 cI (q 12) qD x1) (W1 := bX4 cI cZ a q oo ++ (bX3 cI (q 0) qN on ++ bX0 cI (q 12) qD x1)) ⟨hx, hb, hml, hown, hts⟩ hK (c_X3_momentX l D cI cZ cS (q 0) qN on x3 ex3) gv_RX4_162 rfl hs_X3_momentX rfl ⟨Nat.le_of_ble_eq_true rfl, Nat.le_of_ble_eq_true rfl⟩ (ci := 3) (q0 := 5) rfl rfl rfl hl.1 rfl (Nat.le_of_ble_eq_true rfl) dX4_takePresent_27 ⟨Nat.zero_le _, Nat.zero_le _⟩ hP hD hS hA [5, 6, 7, 8, 9, 10, 11, 12] [0, 1, 2, 3, 4, 13, 14, 15, 16, 17] [0, 1, 2, 3, 4, 10, 11, 12, 13, 14, 15, 16, 17, 5, 6, 7, 8, 9] rfl rfl (by decide +kernel) (by decide +kernel) (by decide +kernel) (by decide +kernel) rfl (fun H locs hP hD hS => ?_)
  refine lv_i2l (pc := 30) hx hb dX4_takePresent_30 rfl ?_
  refine lv_aload_n (pc := 31) hx hb dX4_takePresent_31 rfl (lv_at hl 0 rfl) ?_
  refine va_get (pc := 32) (D := D) (ci := 4) (v := .ref (q 0)) (C := RX4) (T := TX4) (N := 13) hx hb hts iX4 hown hK.1 hP 0 rfl rfl 0 (by decide) (hts _ fl_RX4_12) (fun _ h => h) rfl dX4_takePresent_32 ?_
  obtain ⟨x4, ex4, hf⟩ := bd_some hf
  refine ct_V (pc := 35) (As := []) (rest := [.long x3.toInt64, .long x2.toInt64, .ref (q 12)]) (wr := bX4 cI cZ a q oo ++ bX0 cI (q 12) qD x1) (W1 := bX4 cI cZ a q oo ++ (bX3 cI (q 0) qN on ++ bX0 cI (q 12) qD x1)) ⟨hx, hb, hml, hown, hts⟩ hK (c_X3_momentY l D cI cZ cS (q 0) qN on x4 ex4) gv_RX4_165 rfl hs_X3_momentY rfl ⟨Nat.le_of_ble_eq_true rfl, Nat.le_of_ble_eq_true rfl⟩ (ci := 3) (q0 := 5) rfl rfl rfl hl.1 rfl (Nat.le_of_ble_eq_true rfl) dX4_takePresent_35 ⟨Nat.zero_le _, Nat.zero_le _⟩ hP hD hS hA [5, 6, 7, 8, 9, 10, 11, 12] [0, 1, 2, 3, 4, 13, 14, 15, 16, 17] [0, 1, 2, 3, 4, 10, 11, 12, 13, 14, 15, 16, 17, 5, 6, 7, 8, 9] rfl rfl (by decide +kernel) (by decide +kernel) (by decide +kernel) (by decide +kernel) rfl (fun H locs hP hD hS => ?_)
  refine lv_i2l (pc := 38) hx hb dX4_takePresent_38 rfl ?_
  obtain ⟨x5, ex5, hf⟩ := bd_some hf
  refine ct_V (pc := 39) (As := [.long x2.toInt64, .long x3.toInt64, .long x4.toInt64]) (rest := []) (wr := bX4 cI cZ a q oo ++ bX3 cI (q 0) qN on) (W1 := bX4 cI cZ a q oo ++ (bX3 cI (q 0) qN on ++ bX0 cI (q 12) qD x5)) ⟨hx, hb, hml, hown, hts⟩ hK (c_X0_bear l D cI cZ cS (q 12) qD x2.toInt64 x3.toInt64 x4.toInt64 x1 x5 ex5) gv_RX4_285 rfl hs_X0_bear rfl ⟨Nat.le_of_ble_eq_true rfl, Nat.le_of_ble_eq_true rfl⟩ (ci := 0) (q0 := 13) rfl rfl rfl hl.1 rfl (Nat.le_of_ble_eq_true rfl) dX4_takePresent_39 ⟨Nat.zero_le _, Nat.zero_le _⟩ hP hD hS hA [13, 14, 15, 16, 17] [0, 1, 2, 3, 4, 5, 6, 7, 8, 9, 10, 11, 12] [0, 1, 2, 3, 4, 5, 6, 7, 8, 9, 10, 11, 12, 13, 14, 15, 16, 17] rfl rfl (by decide +kernel) (by decide +kernel) (by decide +kernel) (by decide +kernel) rfl (fun H locs hP hD hS => ?_)
  obtain rfl := Option.some.inj hf
  exact W.vret hx hb hr (fun t ht hW => ⟨rfl, by rw [ht]; exact hP, hD, hS.F ht⟩) hS.2.2 dX4_takePresent_42
def f_X4_spreadPresent (oo : OS) (on : OS) (od : OS) (odw : OS) (odp : OS) : Option (OS × OS × OS) := Option.bind (f_X4_takePresent oo on od) fun x1 => Option.bind (f_X0_settleOn (on.1 5) x1 odw odp) fun x2 => some (x2.1, x2.2.1, x2.2.2)
set_option maxHeartbeats 4000000 in
set_option maxRecDepth 100000 in
theorem c_X4_spreadPresent (l : Launch) (D : va_G) (cI cZ cS : ClassId) (a : Nat) (q : Nat → Nat) (qN : Nat → Nat) (qD : Nat → Nat) (oo : OS) (on : OS) (od : OS) (odw : OS) (odp : OS) (x : (OS × OS × OS)) (hf : f_X4_spreadPresent oo on od odw odp = some x) : Ct l yX4_spreadPresent cX4_spreadPresent 1 none 5 114 D cI cZ cS [.ref a] (bX4 cI cZ a q oo ++ (bX3 cI (q 0) qN on ++ (bX0 cI (q 12) qD od ++ (bX1 (qD 13) odw ++ bX1 (qD 14) odp)))) none (bX4 cI cZ a q oo ++ (bX3 cI (q 0) qN on ++ (bX0 cI (q 12) qD x.1 ++ (bX1 (qD 13) x.2.1 ++ bX1 (qD 14) x.2.2)))) := by
  intro sz
  refine Met.ofW (cc := cX4_spreadPresent) (maxL := 1) (ret := none) (by decide +kernel) rfl ?_
  intro p e s m args below meth c s₁ B hml hv
  obtain ⟨rfl, hsz, hP, hK, hD0⟩ := hv
  have hx := B.exec
  have hb := B.bytes
  have hr := B.returns
  have hts0 := atoms_spec (ws := .code yX4_spreadPresent cX4_spreadPresent 1 none :: TB) B.pre
  have hts := fun w (h : w ∈ TB) => hts0 w (List.mem_cons_of_mem _ h)
  have hown : s.vm.findClass RX4 = some m.cls := findClass_of_methodNamed B.named
  have hlocks := B.notSynchronized
  subst hsz
  have hD := hD0.self (sz := s.heap.size)
  generalize hAe : va_A (bX4 cI cZ a q oo ++ (bX3 cI (q 0) qN on ++ (bX0 cI (q 12) qD od ++ (bX1 (qD 13) odw ++ bX1 (qD 14) odp)))) s.heap.size = A at hD ⊢
  have hA : ∀ q : Nat, s.heap.size ≤ q → A q := fun q h => by rw [← hAe]; exact Or.inr h
  have hS : va_S A s.heap s.heap [] := va_S.rf
  obtain ⟨H, hH⟩ : ∃ H, H = s.heap := ⟨_, rfl⟩
  rw [← hH] at hP
  have hS : va_S A s.heap H [] := by rw [hH]; exact hS
  have hl := lv_entry ([.ref a]) (n := 1) (Nat.le_of_ble_eq_true rfl)
  rw [lg_entry_eq]
  generalize (lg_sl ([.ref a]) ++ List.replicate (1 - (lg_sl ([.ref a])).length) Slot.unset).toArray = ls at hl ⊢
  have hl : lv_has ls 1 [(0, .ref a)] := hl
  refine W_heap hH ?_
  obtain ⟨locs, hlo⟩ : ∃ locs : List Loc, locs = [] := ⟨_, rfl⟩
  rw [← hlo] at hS ⊢
  unfold f_X4_spreadPresent at hf
  refine lv_aload_n (pc := 0) hx hb dX4_spreadPresent_0 rfl (lv_at hl 0 rfl) ?_
  obtain ⟨x1, ex1, hf⟩ := bd_some hf
  refine ct_V (pc := 1) (As := []) (rest := []) (wr := bX1 (qD 13) odw ++ bX1 (qD 14) odp) (W1 := bX4 cI cZ a q oo ++ (bX3 cI (q 0) qN on ++ (bX0 cI (q 12) qD x1 ++ (bX1 (qD 13) odw ++ bX1 (qD 14) odp)))) ⟨hx, hb, hml, hown, hts⟩ hK (c_X4_takePresent l D cI cZ cS a q qN qD oo on od x1 ex1) gv_RX4_230 rfl hs_X4_takePresent rfl ⟨Nat.le_of_ble_eq_true rfl, Nat.le_of_ble_eq_true rfl⟩ (ci := 4) (q0 := 0) rfl rfl rfl hl.1 rfl (Nat.le_of_ble_eq_true rfl) dX4_spreadPresent_1 ⟨Nat.zero_le _, Nat.zero_le _⟩ hP hD hS hA [0, 1, 2, 3, 4, 5, 6, 7, 8, 9, 10, 11, 12, 13, 14, 15, 16, 17] [18, 19] [2, 3, 4, 5, 6, 7, 8, 9, 10, 11, 12, 13, 14, 15, 16, 17, 18, 19, 0, 1] rfl rfl (by decide +kernel) (by decide +kernel) (by decide +kernel) (by decide +kernel) rfl (fun H locs hP hD hS => ?_)
  refine lv_aload_n (pc := 4) hx hb dX4_spreadPresent_4 rfl (lv_at hl 0 rfl) ?_
  refine va_get (pc := 5) (D := D) (ci := 4) (v := .ref (q 12)) (C := RX4) (T := TX4) (N := 13) hx hb hts iX4 hown hK.1 hP 0 rfl rfl 12 (by decide) (hts _ fl_RX4_54) (fun _ h => h) rfl dX4_spreadPresent_5 ?_
  refine lv_aload_n (pc := 8) hx hb dX4_spreadPresent_8 rfl (lv_at hl 0 rfl) ?_
  refine va_get (pc := 9) (D := D) (ci := 4) (v := .ref (q 0)) (C := RX4) (T := TX4) (N := 13) hx hb hts iX4 hown hK.1 hP 0 rfl rfl 0 (by decide) (hts _ fl_RX4_12) (fun _ h => h) rfl dX4_spreadPresent_9 ?_
  refine va_getN (pc := 12) (D := D) (ci := 3) (v := .int (on.1 5)) (C := RX3) (T := TX3) (N := 12) hx hb hts iX3 hown hK.1 hP 5 rfl rfl 5 (by decide) (va_Nw.use rfl (hK.2 _ nf_RX4_105)) (fun _ h => h) rfl dX4_spreadPresent_12 ?_
  obtain ⟨x2, ex2, hf⟩ := bd_some hf
  refine ct_V (pc := 15) (As := [.int (on.1 5)]) (rest := []) (wr := bX4 cI cZ a q oo ++ bX3 cI (q 0) qN on) (W1 := bX4 cI cZ a q oo ++ (bX3 cI (q 0) qN on ++ (bX0 cI (q 12) qD x2.1 ++ (bX1 (qD 13) x2.2.1 ++ bX1 (qD 14) x2.2.2)))) ⟨hx, hb, hml, hown, hts⟩ hK (c_X0_settleOn l D cI cZ cS (q 12) qD (on.1 5) x1 odw odp x2 ex2) gv_RX4_233 rfl hs_X0_settleOn rfl ⟨Nat.le_of_ble_eq_true rfl, Nat.le_of_ble_eq_true rfl⟩ (ci := 0) (q0 := 13) rfl rfl rfl hl.1 rfl (Nat.le_of_ble_eq_true rfl) dX4_spreadPresent_15 ⟨Nat.zero_le _, Nat.zero_le _⟩ hP hD hS hA [13, 14, 15, 16, 17, 18, 19] [0, 1, 2, 3, 4, 5, 6, 7, 8, 9, 10, 11, 12] [0, 1, 2, 3, 4, 5, 6, 7, 8, 9, 10, 11, 12, 13, 14, 15, 16, 17, 18, 19] rfl rfl (by decide +kernel) (by decide +kernel) (by decide +kernel) (by decide +kernel) rfl (fun H locs hP hD hS => ?_)
  obtain rfl := Option.some.inj hf
  exact W.vret hx hb hr (fun t ht hW => ⟨rfl, by rw [ht]; exact hP, hD, hS.F ht⟩) hS.2.2 dX4_spreadPresent_18
def f_X4_pile (i0 : Int32) (i1 : Int32) (oo : OS) (on : OS) (od : OS) (odw : OS) (odp : OS) : Option (Int64 × OS × OS × OS) := Option.bind (f_X4_isPile i0 oo on) fun x1 => if x1 = 0 then some ((-1000000000000000000), od, odw, odp) else if i1 < 0 then some ((-1000000000000000000), od, odw, odp) else if i1 ≤ 5 then if i1 = 0 then ck i0 8 (some ((((on.2.2 0 (i0 : Int32).toNatClampNeg) : Int32).toInt64), od, odw, odp)) else if i1 = 1 then ck i0 8 (some ((((on.2.2 1 (i0 : Int32).toNatClampNeg) : Int32).toInt64), od, odw, odp)) else if i1 = 2 then ck i0 8 (some ((((on.2.2 2 (i0 : Int32).toNatClampNeg) : Int32).toInt64), od, odw, odp)) else if i1 = 3 then ck i0 8 (some ((((on.2.2 3 (i0 : Int32).toNatClampNeg) : Int32).toInt64), od, odw, odp)) else if i1 = 4 then Option.bind (f_X3_isIntact i0 on) fun x14 => if x14 = 0 then some (0, od, odw, odp) else some (1, od, odw, odp) else Option.bind (f_X4_spreadPresent oo on od odw odp) fun x16 => if (x16.1.1 11) = 0 then some ((-9), x16.1, x16.2.1, x16.2.2) else Option.bind (f_X0_isActive i0 x16.1) fun x18 => if x18 = 0 then some (((0 : Int32).toInt64), x16.1, x16.2.1, x16.2.2) else some (((1 : Int32).toInt64), x16.1, x16.2.1, x16.2.2) else some ((-1000000000000000000), od, odw, odp)
set_option maxHeartbeats 4000000 in
set_option maxRecDepth 100000 in
theorem c_X4_pile (l : Launch) (D : va_G) (cI cZ cS : ClassId) (a : Nat) (q : Nat → Nat) (qN : Nat → Nat) (qD : Nat → Nat) (i0 : Int32) (i1 : Int32) (oo : OS) (on : OS) (od : OS) (odw : OS) (odp : OS) (x : (Int64 × OS × OS × OS)) (hf : f_X4_pile i0 i1 oo on od odw odp = some x) : Ct l yX4_pile cX4_pile 3 (some .long) 6 134 D cI cZ cS [.ref a, .int i0, .int i1] (bX4 cI cZ a q oo ++ (bX3 cI (q 0) qN on ++ (bX0 cI (q 12) qD od ++ (bX1 (qD 13) odw ++ bX1 (qD 14) odp)))) (some (.long x.1)) (bX4 cI cZ a q oo ++ (bX3 cI (q 0) qN on ++ (bX0 cI (q 12) qD x.2.1 ++ (bX1 (qD 13) x.2.2.1 ++ bX1 (qD 14) x.2.2.2)))) := by
  intro sz
  refine Met.ofW (cc := cX4_pile) (maxL := 3) (ret := (some .long)) (by decide +kernel) rfl ?_
  intro p e s m args below meth c s₁ B hml hv
  obtain ⟨rfl, hsz, hP, hK, hD0⟩ := hv
  have hx := B.exec
  have hb := B.bytes
  have hr := B.returns
  have hts0 := atoms_spec (ws := .code yX4_pile cX4_pile 3 (some .long) :: TB) B.pre
  have hts := fun w (h : w ∈ TB) => hts0 w (List.mem_cons_of_mem _ h)
  have hown : s.vm.findClass RX4 = some m.cls := findClass_of_methodNamed B.named
  have hlocks := B.notSynchronized
  subst hsz
  have hD := hD0.self (sz := s.heap.size)
  generalize hAe : va_A (bX4 cI cZ a q oo ++ (bX3 cI (q 0) qN on ++ (bX0 cI (q 12) qD od ++ (bX1 (qD 13) odw ++ bX1 (qD 14) odp)))) s.heap.size = A at hD ⊢
  have hA : ∀ q : Nat, s.heap.size ≤ q → A q := fun q h => by rw [← hAe]; exact Or.inr h
  have hS : va_S A s.heap s.heap [] := va_S.rf
  obtain ⟨H, hH⟩ : ∃ H, H = s.heap := ⟨_, rfl⟩
  rw [← hH] at hP
  have hS : va_S A s.heap H [] := by rw [hH]; exact hS
  have hl := lv_entry ([.ref a, .int i0, .int i1]) (n := 3) (Nat.le_of_ble_eq_true rfl)
  rw [lg_entry_eq]
  generalize (lg_sl ([.ref a, .int i0, .int i1]) ++ List.replicate (3 - (lg_sl ([.ref a, .int i0, .int i1])).length) Slot.unset).toArray = ls at hl ⊢
  have hl : lv_has ls 3 [(0, .ref a), (1, .int i0), (2, .int i1)] := hl
  refine W_heap hH ?_
  obtain ⟨locs, hlo⟩ : ∃ locs : List Loc, locs = [] := ⟨_, rfl⟩
  rw [← hlo] at hS ⊢
  unfold f_X4_pile at hf
  refine lv_aload_n (pc := 0) hx hb dX4_pile_0 rfl (lv_at hl 0 rfl) ?_
  refine lv_iload_n (pc := 1) hx hb dX4_pile_1 rfl (lv_at hl 1 rfl) ?_
  obtain ⟨x1, ex1, hf⟩ := bd_some hf
  refine ct_V (pc := 2) (As := [.int i0]) (rest := []) (wr := bX0 cI (q 12) qD od ++ (bX1 (qD 13) odw ++ bX1 (qD 14) odp)) (W1 := bX4 cI cZ a q oo ++ (bX3 cI (q 0) qN on ++ (bX0 cI (q 12) qD od ++ (bX1 (qD 13) odw ++ bX1 (qD 14) odp)))) ⟨hx, hb, hml, hown, hts⟩ hK (c_X4_isPile l D cI cZ cS a q qN i0 oo on x1 ex1) gv_RX4_99 rfl hs_X4_isPile rfl ⟨Nat.le_of_ble_eq_true rfl, Nat.le_of_ble_eq_true rfl⟩ (ci := 4) (q0 := 0) rfl rfl rfl hl.1 rfl (Nat.le_of_ble_eq_true rfl) dX4_pile_2 ⟨Nat.zero_le _, Nat.zero_le _⟩ hP hD hS hA [0, 1, 2, 3, 4, 5, 6, 7, 8, 9, 10, 11, 12] [13, 14, 15, 16, 17, 18, 19] [7, 8, 9, 10, 11, 12, 13, 14, 15, 16, 17, 18, 19, 0, 1, 2, 3, 4, 5, 6] rfl rfl (by decide +kernel) (by decide +kernel) (by decide +kernel) (by decide +kernel) rfl (fun H locs hP hD hS => ?_)
  refine lv_if_eq (pc := 5) (tgt := 17) hx hb dX4_pile_5 (by decide) (fun c2 => ?_) (fun c2 => ?_)
  · replace hf := ip c2 hf
    refine lv_ldc2 (pc := 17) (v := -1000000000000000000) hx hb hown (hts _ cn_RX4_132) dX4_pile_17 ?_
    obtain rfl := Option.some.inj hf
    exact W.lret hx hb hr (fun t ht hW => ⟨rfl, by rw [ht]; exact hP, hD, hS.F ht⟩) hS.2.2 dX4_pile_20
  · replace hf := im c2 hf
    refine lv_iload_n (pc := 8) hx hb dX4_pile_8 rfl (lv_at hl 2 rfl) ?_
    refine lv_if_lt (pc := 9) (tgt := 17) hx hb dX4_pile_9 (by decide) (fun c3 => ?_) (fun c3 => ?_)
    · replace hf := ip c3 hf
      refine lv_ldc2 (pc := 17) (v := -1000000000000000000) hx hb hown (hts _ cn_RX4_132) dX4_pile_17 ?_
      obtain rfl := Option.some.inj hf
      exact W.lret hx hb hr (fun t ht hW => ⟨rfl, by rw [ht]; exact hP, hD, hS.F ht⟩) hS.2.2 dX4_pile_20
    · replace hf := im c3 hf
      refine lv_iload_n (pc := 12) hx hb dX4_pile_12 rfl (lv_at hl 2 rfl) ?_
      refine lv_iconst (v := 5) (pc := 13) hx hb dX4_pile_13 (by decide) ?_
      refine lv_icmp_le (pc := 14) (tgt := 21) hx hb dX4_pile_14 (by decide) (fun c4 => ?_) (fun c4 => ?_)
      · replace hf := ip c4 hf
        refine lv_iload_n (pc := 21) hx hb dX4_pile_21 rfl (lv_at hl 2 rfl) ?_
        by_cases c5 : i1 = 0
        · refine lv_tableIn (pc := 22) (off := 34) (tgt := 56) hx hb dX4_pile_22 (by rw [c5]; decide) (by rw [c5]; decide) (by rw [c5]; decide) (by decide) ?_
          replace hf := ip c5 hf
          refine lv_aload_n (pc := 56) hx hb dX4_pile_56 rfl (lv_at hl 0 rfl) ?_
          refine va_get (pc := 57) (D := D) (ci := 4) (v := .ref (q 0)) (C := RX4) (T := TX4) (N := 13) hx hb hts iX4 hown hK.1 hP 0 rfl rfl 0 (by decide) (hts _ fl_RX4_12) (fun _ h => h) rfl dX4_pile_57 ?_
          refine va_getN (pc := 60) (D := D) (ci := 3) (v := .ref (qN 0)) (C := RX3) (T := TX3) (N := 12) hx hb hts iX3 hown hK.1 hP 5 rfl rfl 0 (by decide) (va_Nw.use rfl (hK.2 _ nf_RX4_134)) (fun _ h => h) rfl dX4_pile_60 ?_
          refine lv_iload_n (pc := 63) hx hb dX4_pile_63 rfl (lv_at hl 1 rfl) ?_
          obtain ⟨h6, hf⟩ := ck_some hf
          refine va_iald (pc := 64) (f := on.2.2 0) hx hb hK.1 hP 6 0 rfl rfl h6 dX4_pile_64 ?_
          refine lv_i2l (pc := 65) hx hb dX4_pile_65 rfl ?_
          obtain rfl := Option.some.inj hf
          exact W.lret hx hb hr (fun t ht hW => ⟨rfl, by rw [ht]; exact hP, hD, hS.F ht⟩) hS.2.2 dX4_pile_66
        replace hf := im c5 hf
        by_cases c7 : i1 = 1
        · refine lv_tableIn (pc := 22) (off := 45) (tgt := 67) hx hb dX4_pile_22 (by rw [c7]; decide) (by rw [c7]; decide) (by rw [c7]; decide) (by decide) ?_
          replace hf := ip c7 hf
          refine lv_aload_n (pc := 67) hx hb dX4_pile_67 rfl (lv_at hl 0 rfl) ?_
          refine va_get (pc := 68) (D := D) (ci := 4) (v := .ref (q 0)) (C := RX4) (T := TX4) (N := 13) hx hb hts iX4 hown hK.1 hP 0 rfl rfl 0 (by decide) (hts _ fl_RX4_12) (fun _ h => h) rfl dX4_pile_68 ?_
          refine va_getN (pc := 71) (D := D) (ci := 3) (v := .ref (qN 1)) (C := RX3) (T := TX3) (N := 12) hx hb hts iX3 hown hK.1 hP 5 rfl rfl 1 (by decide) (va_Nw.use rfl (hK.2 _ nf_RX4_137)) (fun _ h => h) rfl dX4_pile_71 ?_
          refine lv_iload_n (pc := 74) hx hb dX4_pile_74 rfl (lv_at hl 1 rfl) ?_
          obtain ⟨h8, hf⟩ := ck_some hf
          refine va_iald (pc := 75) (f := on.2.2 1) hx hb hK.1 hP 7 0 rfl rfl h8 dX4_pile_75 ?_
          refine lv_i2l (pc := 76) hx hb dX4_pile_76 rfl ?_
          obtain rfl := Option.some.inj hf
          exact W.lret hx hb hr (fun t ht hW => ⟨rfl, by rw [ht]; exact hP, hD, hS.F ht⟩) hS.2.2 dX4_pile_77
        replace hf := im c7 hf
        by_cases c9 : i1 = 2
        · refine lv_tableIn (pc := 22) (off := 56) (tgt := 78) hx hb dX4_pile_22 (by rw [c9]; decide) (by rw [c9]; decide) (by rw [c9]; decide) (by decide) ?_
          replace hf := ip c9 hf
          refine lv_aload_n (pc := 78) hx hb dX4_pile_78 rfl (lv_at hl 0 rfl) ?_
          refine va_get (pc := 79) (D := D) (ci := 4) (v := .ref (q 0)) (C := RX4) (T := TX4) (N := 13) hx hb hts iX4 hown hK.1 hP 0 rfl rfl 0 (by decide) (hts _ fl_RX4_12) (fun _ h => h) rfl dX4_pile_79 ?_
          refine va_getN (pc := 82) (D := D) (ci := 3) (v := .ref (qN 2)) (C := RX3) (T := TX3) (N := 12) hx hb hts iX3 hown hK.1 hP 5 rfl rfl 2 (by decide) (va_Nw.use rfl (hK.2 _ nf_RX4_140)) (fun _ h => h) rfl dX4_pile_82 ?_
          refine lv_iload_n (pc := 85) hx hb dX4_pile_85 rfl (lv_at hl 1 rfl) ?_
          obtain ⟨h10, hf⟩ := ck_some hf
          refine va_iald (pc := 86) (f := on.2.2 2) hx hb hK.1 hP 8 0 rfl rfl h10 dX4_pile_86 ?_
          refine lv_i2l (pc := 87) hx hb dX4_pile_87 rfl ?_
          obtain rfl := Option.some.inj hf
          exact W.lret hx hb hr (fun t ht hW => ⟨rfl, by rw [ht]; exact hP, hD, hS.F ht⟩) hS.2.2 dX4_pile_88
        replace hf := im c9 hf
        by_cases c11 : i1 = 3
        · refine lv_tableIn (pc := 22) (off := 67) (tgt := 89) hx hb dX4_pile_22 (by rw [c11]; decide) (by rw [c11]; decide) (by rw [c11]; decide) (by decide) ?_
          replace hf := ip c11 hf
          refine lv_aload_n (pc := 89) hx hb dX4_pile_89 rfl (lv_at hl 0 rfl) ?_
          refine va_get (pc := 90) (D := D) (ci := 4) (v := .ref (q 0)) (C := RX4) (T := TX4) (N := 13) hx hb hts iX4 hown hK.1 hP 0 rfl rfl 0 (by decide) (hts _ fl_RX4_12) (fun _ h => h) rfl dX4_pile_90 ?_
          refine va_getN (pc := 93) (D := D) (ci := 3) (v := .ref (qN 3)) (C := RX3) (T := TX3) (N := 12) hx hb hts iX3 hown hK.1 hP 5 rfl rfl 3 (by decide) (va_Nw.use rfl (hK.2 _ nf_RX4_143)) (fun _ h => h) rfl dX4_pile_93 ?_
          refine lv_iload_n (pc := 96) hx hb dX4_pile_96 rfl (lv_at hl 1 rfl) ?_
          obtain ⟨h12, hf⟩ := ck_some hf
          refine va_iald (pc := 97) (f := on.2.2 3) hx hb hK.1 hP 9 0 rfl rfl h12 dX4_pile_97 ?_
          refine lv_i2l (pc := 98) hx hb dX4_pile_98 rfl ?_
          obtain rfl := Option.some.inj hf
          exact W.lret hx hb hr (fun t ht hW => ⟨rfl, by rw [ht]; exact hP, hD, hS.F ht⟩) hS.2.2 dX4_pile_99
        replace hf := im c11 hf
        by_cases c13 : i1 = 4
        · refine lv_tableIn (pc := 22) (off := 78) (tgt := 100) hx hb dX4_pile_22 (by rw [c13]; decide) (by rw [c13]; decide) (by rw [c13]; decide) (by decide) ?_
          replace hf := ip c13 hf
          refine lv_aload_n (pc := 100) hx hb dX4_pile_100 rfl (lv_at hl 0 rfl) ?_
          refine va_get (pc := 101) (D := D) (ci := 4) (v := .ref (q 0)) (C := RX4) (T := TX4) (N := 13) hx hb hts iX4 hown hK.1 hP 0 rfl rfl 0 (by decide) (hts _ fl_RX4_12) (fun _ h => h) rfl dX4_pile_101 ?_
          refine lv_iload_n (pc := 104) hx hb dX4_pile_104 rfl (lv_at hl 1 rfl) ?_
          obtain ⟨x14, ex14, hf⟩ := bd_some hf
          refine ct_V (pc := 105) (As := [.int i0]) (rest := []) (wr := bX4 cI cZ a q oo ++ (bX0 cI (q 12) qD od ++ (bX1 (qD 13) odw ++ bX1 (qD 14) odp))) (W1 := bX4 cI cZ a q oo ++ (bX3 cI (q 0) qN on ++ (bX0 cI (q 12) qD od ++ (bX1 (qD 13) odw ++ bX1 (qD 14) odp)))) ⟨hx, hb, hml, hown, hts⟩ hK (c_X3_isIntact l D cI cZ cS (q 0) qN i0 on x14 ex14) gv_RX4_102 rfl hs_X3_isIntact rfl ⟨Nat.le_of_ble_eq_true rfl, Nat.le_of_ble_eq_true rfl⟩ (ci := 3) (q0 := 5) rfl rfl rfl hl.1 rfl (Nat.le_of_ble_eq_true rfl) dX4_pile_105 ⟨Nat.zero_le _, Nat.zero_le _⟩ hP hD hS hA [5, 6, 7, 8, 9, 10, 11, 12] [0, 1, 2, 3, 4, 13, 14, 15, 16, 17, 18, 19] [0, 1, 2, 3, 4, 12, 13, 14, 15, 16, 17, 18, 19, 5, 6, 7, 8, 9, 10, 11] rfl rfl (by decide +kernel) (by decide +kernel) (by decide +kernel) (by decide +kernel) rfl (fun H locs hP hD hS => ?_)
          refine lv_if_eq (pc := 108) (tgt := 115) hx hb dX4_pile_108 (by decide) (fun c15 => ?_) (fun c15 => ?_)
          · replace hf := ip c15 hf
            refine lv_lconst (v := 0) (pc := 115) hx hb dX4_pile_115 (by decide) ?_
            obtain rfl := Option.some.inj hf
            exact W.lret hx hb hr (fun t ht hW => ⟨rfl, by rw [ht]; exact hP, hD, hS.F ht⟩) hS.2.2 dX4_pile_116
          · replace hf := im c15 hf
            refine lv_lconst (v := 1) (pc := 111) hx hb dX4_pile_111 (by decide) ?_
            refine lv_goto (pc := 112) (tgt := 116) hx hb dX4_pile_112 (by decide) ?_
            obtain rfl := Option.some.inj hf
            exact W.lret hx hb hr (fun t ht hW => ⟨rfl, by rw [ht]; exact hP, hD, hS.F ht⟩) hS.2.2 dX4_pile_116
        replace hf := im c13 hf
        refine lv_tableOut (pc := 22) (tgt := 117) hx hb dX4_pile_22 (by have := lv_neT c5 (a := 0) rfl; have := lv_neT c7 (a := 1) rfl; have := lv_neT c9 (a := 2) rfl; have := lv_neT c11 (a := 3) rfl; have := lv_neT c13 (a := 4) rfl; omega) (by decide) ?_
        refine lv_aload_n (pc := 117) hx hb dX4_pile_117 rfl (lv_at hl 0 rfl) ?_
        obtain ⟨x16, ex16, hf⟩ := bd_some hf
        refine ct_V1 (pc := 118) (As := []) (rest := []) (W1 := bX4 cI cZ a q oo ++ (bX3 cI (q 0) qN on ++ (bX0 cI (q 12) qD x16.1 ++ (bX1 (qD 13) x16.2.1 ++ bX1 (qD 14) x16.2.2)))) ⟨hx, hb, hml, hown, hts⟩ hK (c_X4_spreadPresent l D cI cZ cS a q qN qD oo on od odw odp x16 ex16) gv_RX4_146 rfl hs_X4_spreadPresent rfl ⟨Nat.le_of_ble_eq_true rfl, Nat.le_of_ble_eq_true rfl⟩ (ci := 4) (q0 := 0) rfl rfl rfl hl.1 rfl (Nat.le_of_ble_eq_true rfl) dX4_pile_118 ⟨Nat.zero_le _, Nat.zero_le _⟩ hP hD hS hA (fun H locs hP hD hS => ?_)
        refine lv_aload_n (pc := 121) hx hb dX4_pile_121 rfl (lv_at hl 0 rfl) ?_
        refine va_get (pc := 122) (D := D) (ci := 4) (v := .ref (q 12)) (C := RX4) (T := TX4) (N := 13) hx hb hts iX4 hown hK.1 hP 0 rfl rfl 12 (by decide) (hts _ fl_RX4_54) (fun _ h => h) rfl dX4_pile_122 ?_
        refine va_getN (pc := 125) (D := D) (ci := 0) (v := .int (x16.1.1 11)) (C := RX0) (T := TX0) (N := 15) hx hb hts iX0 hown hK.1 hP 13 rfl rfl 11 (by decide) (va_Nw.use rfl (hK.2 _ nf_RX4_149)) (fun _ h => h) rfl dX4_pile_125 ?_
        refine lv_if_eq (pc := 128) (tgt := 151) hx hb dX4_pile_128 (by decide) (fun c17 => ?_) (fun c17 => ?_)
        · replace hf := ip c17 hf
          refine lv_ldc2 (pc := 151) (v := -9) hx hb hown (hts _ cn_RX4_156) dX4_pile_151 ?_
          obtain rfl := Option.some.inj hf
          exact W.lret hx hb hr (fun t ht hW => ⟨rfl, by rw [ht]; exact hP, hD, hS.F ht⟩) hS.2.2 dX4_pile_154
        · replace hf := im c17 hf
          refine lv_aload_n (pc := 131) hx hb dX4_pile_131 rfl (lv_at hl 0 rfl) ?_
          refine va_get (pc := 132) (D := D) (ci := 4) (v := .ref (q 12)) (C := RX4) (T := TX4) (N := 13) hx hb hts iX4 hown hK.1 hP 0 rfl rfl 12 (by decide) (hts _ fl_RX4_54) (fun _ h => h) rfl dX4_pile_132 ?_
          refine lv_iload_n (pc := 135) hx hb dX4_pile_135 rfl (lv_at hl 1 rfl) ?_
          obtain ⟨x18, ex18, hf⟩ := bd_some hf
          refine ct_V (pc := 136) (As := [.int i0]) (rest := []) (wr := bX4 cI cZ a q oo ++ (bX3 cI (q 0) qN on ++ (bX1 (qD 13) x16.2.1 ++ bX1 (qD 14) x16.2.2))) (W1 := bX4 cI cZ a q oo ++ (bX3 cI (q 0) qN on ++ (bX0 cI (q 12) qD x16.1 ++ (bX1 (qD 13) x16.2.1 ++ bX1 (qD 14) x16.2.2)))) ⟨hx, hb, hml, hown, hts⟩ hK (c_X0_isActive l D cI cZ cS (q 12) qD i0 x16.1 x18 ex18) gv_RX4_153 rfl hs_X0_isActive rfl ⟨Nat.le_of_ble_eq_true rfl, Nat.le_of_ble_eq_true rfl⟩ (ci := 0) (q0 := 13) rfl rfl rfl hl.1 rfl (Nat.le_of_ble_eq_true rfl) dX4_pile_136 ⟨Nat.zero_le _, Nat.zero_le _⟩ hP hD hS hA [13, 14, 15, 16, 17] [0, 1, 2, 3, 4, 5, 6, 7, 8, 9, 10, 11, 12, 18, 19] [0, 1, 2, 3, 4, 5, 6, 7, 8, 9, 10, 11, 12, 15, 16, 17, 18, 19, 13, 14] rfl rfl (by decide +kernel) (by decide +kernel) (by decide +kernel) (by decide +kernel) rfl (fun H locs hP hD hS => ?_)
          refine lv_if_eq (pc := 139) (tgt := 146) hx hb dX4_pile_139 (by decide) (fun c19 => ?_) (fun c19 => ?_)
          · replace hf := ip c19 hf
            refine lv_iconst (v := 0) (pc := 146) hx hb dX4_pile_146 (by decide) ?_
            refine lv_i2l (pc := 147) hx hb dX4_pile_147 rfl ?_
            refine lv_goto (pc := 148) (tgt := 154) hx hb dX4_pile_148 (by decide) ?_
            obtain rfl := Option.some.inj hf
            exact W.lret hx hb hr (fun t ht hW => ⟨rfl, by rw [ht]; exact hP, hD, hS.F ht⟩) hS.2.2 dX4_pile_154
          · replace hf := im c19 hf
            refine lv_iconst (v := 1) (pc := 142) hx hb dX4_pile_142 (by decide) ?_
            refine lv_goto (pc := 143) (tgt := 147) hx hb dX4_pile_143 (by decide) ?_
            refine lv_i2l (pc := 147) hx hb dX4_pile_147 rfl ?_
            refine lv_goto (pc := 148) (tgt := 154) hx hb dX4_pile_148 (by decide) ?_
            obtain rfl := Option.some.inj hf
            exact W.lret hx hb hr (fun t ht hW => ⟨rfl, by rw [ht]; exact hP, hD, hS.F ht⟩) hS.2.2 dX4_pile_154
      · replace hf := im c4 hf
        refine lv_ldc2 (pc := 17) (v := -1000000000000000000) hx hb hown (hts _ cn_RX4_132) dX4_pile_17 ?_
        obtain rfl := Option.some.inj hf
        exact W.lret hx hb hr (fun t ht hW => ⟨rfl, by rw [ht]; exact hP, hD, hS.F ht⟩) hS.2.2 dX4_pile_20
def f_X4_column (i0 : Int32) (i1 : Int32) (oo : OS) (on : OS) : Option Int64 := Option.bind (f_X4_isColumn i0 oo on) fun x1 => if x1 = 0 then some (-1000000000000000000) else if i1 < 0 then some (-1000000000000000000) else if i1 ≤ 2 then if i1 = 0 then ck i0 5 (some (((on.2.2 6 (i0 : Int32).toNatClampNeg) : Int32).toInt64)) else if i1 = 1 then ck i0 5 (some (((on.2.2 7 (i0 : Int32).toNatClampNeg) : Int32).toInt64)) else ck i0 5 (some (((on.2.2 8 (i0 : Int32).toNatClampNeg) : Int32).toInt64)) else some (-1000000000000000000)
set_option maxHeartbeats 4000000 in
set_option maxRecDepth 100000 in
theorem c_X4_column (l : Launch) (D : va_G) (cI cZ cS : ClassId) (a : Nat) (q : Nat → Nat) (qN : Nat → Nat) (i0 : Int32) (i1 : Int32) (oo : OS) (on : OS) (x : Int64) (hf : f_X4_column i0 i1 oo on = some x) : Ct l yX4_column cX4_column 3 (some .long) 1 21 D cI cZ cS [.ref a, .int i0, .int i1] (bX4 cI cZ a q oo ++ bX3 cI (q 0) qN on) (some (.long x)) (bX4 cI cZ a q oo ++ bX3 cI (q 0) qN on) := by
  intro sz
  refine Met.ofW (cc := cX4_column) (maxL := 3) (ret := (some .long)) (by decide +kernel) rfl ?_
  intro p e s m args below meth c s₁ B hml hv
  obtain ⟨rfl, hsz, hP, hK, hD0⟩ := hv
  have hx := B.exec
  have hb := B.bytes
  have hr := B.returns
  have hts0 := atoms_spec (ws := .code yX4_column cX4_column 3 (some .long) :: TB) B.pre
  have hts := fun w (h : w ∈ TB) => hts0 w (List.mem_cons_of_mem _ h)
  have hown : s.vm.findClass RX4 = some m.cls := findClass_of_methodNamed B.named
  have hlocks := B.notSynchronized
  subst hsz
  have hD := hD0.self (sz := s.heap.size)
  generalize hAe : va_A (bX4 cI cZ a q oo ++ bX3 cI (q 0) qN on) s.heap.size = A at hD ⊢
  have hA : ∀ q : Nat, s.heap.size ≤ q → A q := fun q h => by rw [← hAe]; exact Or.inr h
  have hS : va_S A s.heap s.heap [] := va_S.rf
  obtain ⟨H, hH⟩ : ∃ H, H = s.heap := ⟨_, rfl⟩
  rw [← hH] at hP
  have hS : va_S A s.heap H [] := by rw [hH]; exact hS
  have hl := lv_entry ([.ref a, .int i0, .int i1]) (n := 3) (Nat.le_of_ble_eq_true rfl)
  rw [lg_entry_eq]
  generalize (lg_sl ([.ref a, .int i0, .int i1]) ++ List.replicate (3 - (lg_sl ([.ref a, .int i0, .int i1])).length) Slot.unset).toArray = ls at hl ⊢
  have hl : lv_has ls 3 [(0, .ref a), (1, .int i0), (2, .int i1)] := hl
  refine W_heap hH ?_
  obtain ⟨locs, hlo⟩ : ∃ locs : List Loc, locs = [] := ⟨_, rfl⟩
  rw [← hlo] at hS ⊢
  unfold f_X4_column at hf
  refine lv_aload_n (pc := 0) hx hb dX4_column_0 rfl (lv_at hl 0 rfl) ?_
  refine lv_iload_n (pc := 1) hx hb dX4_column_1 rfl (lv_at hl 1 rfl) ?_
  obtain ⟨x1, ex1, hf⟩ := bd_some hf
  refine ct_V1 (pc := 2) (As := [.int i0]) (rest := []) (W1 := bX4 cI cZ a q oo ++ bX3 cI (q 0) qN on) ⟨hx, hb, hml, hown, hts⟩ hK (c_X4_isColumn l D cI cZ cS a q qN i0 oo on x1 ex1) gv_RX4_114 rfl hs_X4_isColumn rfl ⟨Nat.le_of_ble_eq_true rfl, Nat.le_of_ble_eq_true rfl⟩ (ci := 4) (q0 := 0) rfl rfl rfl hl.1 rfl (Nat.le_of_ble_eq_true rfl) dX4_column_2 ⟨Nat.zero_le _, Nat.zero_le _⟩ hP hD hS hA (fun H locs hP hD hS => ?_)
  refine lv_if_eq (pc := 5) (tgt := 17) hx hb dX4_column_5 (by decide) (fun c2 => ?_) (fun c2 => ?_)
  · replace hf := ip c2 hf
    refine lv_ldc2 (pc := 17) (v := -1000000000000000000) hx hb hown (hts _ cn_RX4_132) dX4_column_17 ?_
    obtain rfl := Option.some.inj hf
    exact W.lret hx hb hr (fun t ht hW => ⟨rfl, by rw [ht]; exact hP, hD, hS.F ht⟩) hS.2.2 dX4_column_20
  · replace hf := im c2 hf
    refine lv_iload_n (pc := 8) hx hb dX4_column_8 rfl (lv_at hl 2 rfl) ?_
    refine lv_if_lt (pc := 9) (tgt := 17) hx hb dX4_column_9 (by decide) (fun c3 => ?_) (fun c3 => ?_)
    · replace hf := ip c3 hf
      refine lv_ldc2 (pc := 17) (v := -1000000000000000000) hx hb hown (hts _ cn_RX4_132) dX4_column_17 ?_
      obtain rfl := Option.some.inj hf
      exact W.lret hx hb hr (fun t ht hW => ⟨rfl, by rw [ht]; exact hP, hD, hS.F ht⟩) hS.2.2 dX4_column_20
    · replace hf := im c3 hf
      refine lv_iload_n (pc := 12) hx hb dX4_column_12 rfl (lv_at hl 2 rfl) ?_
      refine lv_iconst (v := 2) (pc := 13) hx hb dX4_column_13 (by decide) ?_
      refine lv_icmp_le (pc := 14) (tgt := 21) hx hb dX4_column_14 (by decide) (fun c4 => ?_) (fun c4 => ?_)
      · replace hf := ip c4 hf
        refine lv_iload_n (pc := 21) hx hb dX4_column_21 rfl (lv_at hl 2 rfl) ?_
        by_cases c5 : i1 = 0
        · refine lv_lookup (pc := 22) (off := 26) (tgt := 48) hx hb dX4_column_22 (by decide) (by rw [c5]; decide) (by decide) ?_
          replace hf := ip c5 hf
          refine lv_aload_n (pc := 48) hx hb dX4_column_48 rfl (lv_at hl 0 rfl) ?_
          refine va_get (pc := 49) (D := D) (ci := 4) (v := .ref (q 0)) (C := RX4) (T := TX4) (N := 13) hx hb hts iX4 hown hK.1 hP 0 rfl rfl 0 (by decide) (hts _ fl_RX4_12) (fun _ h => h) rfl dX4_column_49 ?_
          refine va_getN (pc := 52) (D := D) (ci := 3) (v := .ref (qN 6)) (C := RX3) (T := TX3) (N := 12) hx hb hts iX3 hown hK.1 hP 5 rfl rfl 6 (by decide) (va_Nw.use rfl (hK.2 _ nf_RX4_120)) (fun _ h => h) rfl dX4_column_52 ?_
          refine lv_iload_n (pc := 55) hx hb dX4_column_55 rfl (lv_at hl 1 rfl) ?_
          obtain ⟨h6, hf⟩ := ck_some hf
          refine va_iald (pc := 56) (f := on.2.2 6) hx hb hK.1 hP 10 0 rfl rfl h6 dX4_column_56 ?_
          refine lv_i2l (pc := 57) hx hb dX4_column_57 rfl ?_
          obtain rfl := Option.some.inj hf
          exact W.lret hx hb hr (fun t ht hW => ⟨rfl, by rw [ht]; exact hP, hD, hS.F ht⟩) hS.2.2 dX4_column_58
        replace hf := im c5 hf
        by_cases c7 : i1 = 1
        · refine lv_lookup (pc := 22) (off := 37) (tgt := 59) hx hb dX4_column_22 (by decide) (by rw [c7]; decide) (by decide) ?_
          replace hf := ip c7 hf
          refine lv_aload_n (pc := 59) hx hb dX4_column_59 rfl (lv_at hl 0 rfl) ?_
          refine va_get (pc := 60) (D := D) (ci := 4) (v := .ref (q 0)) (C := RX4) (T := TX4) (N := 13) hx hb hts iX4 hown hK.1 hP 0 rfl rfl 0 (by decide) (hts _ fl_RX4_12) (fun _ h => h) rfl dX4_column_60 ?_
          refine va_getN (pc := 63) (D := D) (ci := 3) (v := .ref (qN 7)) (C := RX3) (T := TX3) (N := 12) hx hb hts iX3 hown hK.1 hP 5 rfl rfl 7 (by decide) (va_Nw.use rfl (hK.2 _ nf_RX4_123)) (fun _ h => h) rfl dX4_column_63 ?_
          refine lv_iload_n (pc := 66) hx hb dX4_column_66 rfl (lv_at hl 1 rfl) ?_
          obtain ⟨h8, hf⟩ := ck_some hf
          refine va_iald (pc := 67) (f := on.2.2 7) hx hb hK.1 hP 11 0 rfl rfl h8 dX4_column_67 ?_
          refine lv_i2l (pc := 68) hx hb dX4_column_68 rfl ?_
          obtain rfl := Option.some.inj hf
          exact W.lret hx hb hr (fun t ht hW => ⟨rfl, by rw [ht]; exact hP, hD, hS.F ht⟩) hS.2.2 dX4_column_69
        replace hf := im c7 hf
        refine lv_lookup (pc := 22) (off := 48) (tgt := 70) hx hb dX4_column_22 (by decide) (by refine (lv_osw c5 rfl).trans ?_; refine (lv_osw c7 rfl).trans ?_; rfl) (by decide) ?_
        refine lv_aload_n (pc := 70) hx hb dX4_column_70 rfl (lv_at hl 0 rfl) ?_
        refine va_get (pc := 71) (D := D) (ci := 4) (v := .ref (q 0)) (C := RX4) (T := TX4) (N := 13) hx hb hts iX4 hown hK.1 hP 0 rfl rfl 0 (by decide) (hts _ fl_RX4_12) (fun _ h => h) rfl dX4_column_71 ?_
        refine va_getN (pc := 74) (D := D) (ci := 3) (v := .ref (qN 8)) (C := RX3) (T := TX3) (N := 12) hx hb hts iX3 hown hK.1 hP 5 rfl rfl 8 (by decide) (va_Nw.use rfl (hK.2 _ nf_RX4_117)) (fun _ h => h) rfl dX4_column_74 ?_
        refine lv_iload_n (pc := 77) hx hb dX4_column_77 rfl (lv_at hl 1 rfl) ?_
        obtain ⟨h9, hf⟩ := ck_some hf
        refine va_iald (pc := 78) (f := on.2.2 8) hx hb hK.1 hP 12 0 rfl rfl h9 dX4_column_78 ?_
        refine lv_i2l (pc := 79) hx hb dX4_column_79 rfl ?_
        obtain rfl := Option.some.inj hf
        exact W.lret hx hb hr (fun t ht hW => ⟨rfl, by rw [ht]; exact hP, hD, hS.F ht⟩) hS.2.2 dX4_column_80
      · replace hf := im c4 hf
        refine lv_ldc2 (pc := 17) (v := -1000000000000000000) hx hb hown (hts _ cn_RX4_132) dX4_column_17 ?_
        obtain rfl := Option.some.inj hf
        exact W.lret hx hb hr (fun t ht hW => ⟨rfl, by rw [ht]; exact hP, hD, hS.F ht⟩) hS.2.2 dX4_column_20
def f_X4_sum (i0 : Int32) (oo : OS) (on : OS) : Option Int64 := if i0 = 0 then Option.bind (f_X3_weight on) fun x2 => some x2.toInt64 else if i0 = 1 then Option.bind (f_X3_momentX on) fun x4 => some x4.toInt64 else if i0 = 2 then Option.bind (f_X3_momentY on) fun x6 => some x6.toInt64 else if i0 = 3 then some (((on.1 10) : Int32).toInt64) else if i0 = 4 then some (((on.1 11) : Int32).toInt64) else some (-1000000000000000000)
set_option maxHeartbeats 4000000 in
set_option maxRecDepth 100000 in
theorem c_X4_sum (l : Launch) (D : va_G) (cI cZ cS : ClassId) (a : Nat) (q : Nat → Nat) (qN : Nat → Nat) (i0 : Int32) (oo : OS) (on : OS) (x : Int64) (hf : f_X4_sum i0 oo on = some x) : Ct l yX4_sum cX4_sum 2 (some .long) 1 22 D cI cZ cS [.ref a, .int i0] (bX4 cI cZ a q oo ++ bX3 cI (q 0) qN on) (some (.long x)) (bX4 cI cZ a q oo ++ bX3 cI (q 0) qN on) := by
  intro sz
  refine Met.ofW (cc := cX4_sum) (maxL := 2) (ret := (some .long)) (by decide +kernel) rfl ?_
  intro p e s m args below meth c s₁ B hml hv
  obtain ⟨rfl, hsz, hP, hK, hD0⟩ := hv
  have hx := B.exec
  have hb := B.bytes
  have hr := B.returns
  have hts0 := atoms_spec (ws := .code yX4_sum cX4_sum 2 (some .long) :: TB) B.pre
  have hts := fun w (h : w ∈ TB) => hts0 w (List.mem_cons_of_mem _ h)
  have hown : s.vm.findClass RX4 = some m.cls := findClass_of_methodNamed B.named
  have hlocks := B.notSynchronized
  subst hsz
  have hD := hD0.self (sz := s.heap.size)
  generalize hAe : va_A (bX4 cI cZ a q oo ++ bX3 cI (q 0) qN on) s.heap.size = A at hD ⊢
  have hA : ∀ q : Nat, s.heap.size ≤ q → A q := fun q h => by rw [← hAe]; exact Or.inr h
  have hS : va_S A s.heap s.heap [] := va_S.rf
  obtain ⟨H, hH⟩ : ∃ H, H = s.heap := ⟨_, rfl⟩
  rw [← hH] at hP
  have hS : va_S A s.heap H [] := by rw [hH]; exact hS
  have hl := lv_entry ([.ref a, .int i0]) (n := 2) (Nat.le_of_ble_eq_true rfl)
  rw [lg_entry_eq]
  generalize (lg_sl ([.ref a, .int i0]) ++ List.replicate (2 - (lg_sl ([.ref a, .int i0])).length) Slot.unset).toArray = ls at hl ⊢
  have hl : lv_has ls 2 [(0, .ref a), (1, .int i0)] := hl
  refine W_heap hH ?_
  obtain ⟨locs, hlo⟩ : ∃ locs : List Loc, locs = [] := ⟨_, rfl⟩
  rw [← hlo] at hS ⊢
  unfold f_X4_sum at hf
  refine lv_iload_n (pc := 0) hx hb dX4_sum_0 rfl (lv_at hl 1 rfl) ?_
  by_cases c1 : i0 = 0
  · refine lv_tableIn (pc := 1) (off := 35) (tgt := 36) hx hb dX4_sum_1 (by rw [c1]; decide) (by rw [c1]; decide) (by rw [c1]; decide) (by decide) ?_
    replace hf := ip c1 hf
    refine lv_aload_n (pc := 36) hx hb dX4_sum_36 rfl (lv_at hl 0 rfl) ?_
    refine va_get (pc := 37) (D := D) (ci := 4) (v := .ref (q 0)) (C := RX4) (T := TX4) (N := 13) hx hb hts iX4 hown hK.1 hP 0 rfl rfl 0 (by decide) (hts _ fl_RX4_12) (fun _ h => h) rfl dX4_sum_37 ?_
    obtain ⟨x2, ex2, hf⟩ := bd_some hf
    refine ct_V (pc := 40) (As := []) (rest := []) (wr := bX4 cI cZ a q oo) (W1 := bX4 cI cZ a q oo ++ bX3 cI (q 0) qN on) ⟨hx, hb, hml, hown, hts⟩ hK (c_X3_weight l D cI cZ cS (q 0) qN on x2 ex2) gv_RX4_158 rfl hs_X3_weight rfl ⟨Nat.le_of_ble_eq_true rfl, Nat.le_of_ble_eq_true rfl⟩ (ci := 3) (q0 := 5) rfl rfl rfl hl.1 rfl (Nat.le_of_ble_eq_true rfl) dX4_sum_40 ⟨Nat.zero_le _, Nat.zero_le _⟩ hP hD hS hA [5, 6, 7, 8, 9, 10, 11, 12] [0, 1, 2, 3, 4] [0, 1, 2, 3, 4, 5, 6, 7, 8, 9, 10, 11, 12] rfl rfl (by decide +kernel) (by decide +kernel) (by decide +kernel) (by decide +kernel) rfl (fun H locs hP hD hS => ?_)
    refine lv_i2l (pc := 43) hx hb dX4_sum_43 rfl ?_
    obtain rfl := Option.some.inj hf
    exact W.lret hx hb hr (fun t ht hW => ⟨rfl, by rw [ht]; exact hP, hD, hS.F ht⟩) hS.2.2 dX4_sum_44
  replace hf := im c1 hf
  by_cases c3 : i0 = 1
  · refine lv_tableIn (pc := 1) (off := 44) (tgt := 45) hx hb dX4_sum_1 (by rw [c3]; decide) (by rw [c3]; decide) (by rw [c3]; decide) (by decide) ?_
    replace hf := ip c3 hf
    refine lv_aload_n (pc := 45) hx hb dX4_sum_45 rfl (lv_at hl 0 rfl) ?_
    refine va_get (pc := 46) (D := D) (ci := 4) (v := .ref (q 0)) (C := RX4) (T := TX4) (N := 13) hx hb hts iX4 hown hK.1 hP 0 rfl rfl 0 (by decide) (hts _ fl_RX4_12) (fun _ h => h) rfl dX4_sum_46 ?_
    obtain ⟨x4, ex4, hf⟩ := bd_some hf
    refine ct_V (pc := 49) (As := []) (rest := []) (wr := bX4 cI cZ a q oo) (W1 := bX4 cI cZ a q oo ++ bX3 cI (q 0) qN on) ⟨hx, hb, hml, hown, hts⟩ hK (c_X3_momentX l D cI cZ cS (q 0) qN on x4 ex4) gv_RX4_162 rfl hs_X3_momentX rfl ⟨Nat.le_of_ble_eq_true rfl, Nat.le_of_ble_eq_true rfl⟩ (ci := 3) (q0 := 5) rfl rfl rfl hl.1 rfl (Nat.le_of_ble_eq_true rfl) dX4_sum_49 ⟨Nat.zero_le _, Nat.zero_le _⟩ hP hD hS hA [5, 6, 7, 8, 9, 10, 11, 12] [0, 1, 2, 3, 4] [0, 1, 2, 3, 4, 5, 6, 7, 8, 9, 10, 11, 12] rfl rfl (by decide +kernel) (by decide +kernel) (by decide +kernel) (by decide +kernel) rfl (fun H locs hP hD hS => ?_)
    refine lv_i2l (pc := 52) hx hb dX4_sum_52 rfl ?_
    obtain rfl := Option.some.inj hf
    exact W.lret hx hb hr (fun t ht hW => ⟨rfl, by rw [ht]; exact hP, hD, hS.F ht⟩) hS.2.2 dX4_sum_53
  replace hf := im c3 hf
  by_cases c5 : i0 = 2
  · refine lv_tableIn (pc := 1) (off := 53) (tgt := 54) hx hb dX4_sum_1 (by rw [c5]; decide) (by rw [c5]; decide) (by rw [c5]; decide) (by decide) ?_
    replace hf := ip c5 hf
    refine lv_aload_n (pc := 54) hx hb dX4_sum_54 rfl (lv_at hl 0 rfl) ?_
    refine va_get (pc := 55) (D := D) (ci := 4) (v := .ref (q 0)) (C := RX4) (T := TX4) (N := 13) hx hb hts iX4 hown hK.1 hP 0 rfl rfl 0 (by decide) (hts _ fl_RX4_12) (fun _ h => h) rfl dX4_sum_55 ?_
    obtain ⟨x6, ex6, hf⟩ := bd_some hf
    refine ct_V (pc := 58) (As := []) (rest := []) (wr := bX4 cI cZ a q oo) (W1 := bX4 cI cZ a q oo ++ bX3 cI (q 0) qN on) ⟨hx, hb, hml, hown, hts⟩ hK (c_X3_momentY l D cI cZ cS (q 0) qN on x6 ex6) gv_RX4_165 rfl hs_X3_momentY rfl ⟨Nat.le_of_ble_eq_true rfl, Nat.le_of_ble_eq_true rfl⟩ (ci := 3) (q0 := 5) rfl rfl rfl hl.1 rfl (Nat.le_of_ble_eq_true rfl) dX4_sum_58 ⟨Nat.zero_le _, Nat.zero_le _⟩ hP hD hS hA [5, 6, 7, 8, 9, 10, 11, 12] [0, 1, 2, 3, 4] [0, 1, 2, 3, 4, 5, 6, 7, 8, 9, 10, 11, 12] rfl rfl (by decide +kernel) (by decide +kernel) (by decide +kernel) (by decide +kernel) rfl (fun H locs hP hD hS => ?_)
    refine lv_i2l (pc := 61) hx hb dX4_sum_61 rfl ?_
    obtain rfl := Option.some.inj hf
    exact W.lret hx hb hr (fun t ht hW => ⟨rfl, by rw [ht]; exact hP, hD, hS.F ht⟩) hS.2.2 dX4_sum_62
  replace hf := im c5 hf
  by_cases c7 : i0 = 3
  · refine lv_tableIn (pc := 1) (off := 62) (tgt := 63) hx hb dX4_sum_1 (by rw [c7]; decide) (by rw [c7]; decide) (by rw [c7]; decide) (by decide) ?_
    replace hf := ip c7 hf
    refine lv_aload_n (pc := 63) hx hb dX4_sum_63 rfl (lv_at hl 0 rfl) ?_
    refine va_get (pc := 64) (D := D) (ci := 4) (v := .ref (q 0)) (C := RX4) (T := TX4) (N := 13) hx hb hts iX4 hown hK.1 hP 0 rfl rfl 0 (by decide) (hts _ fl_RX4_12) (fun _ h => h) rfl dX4_sum_64 ?_
    refine va_getN (pc := 67) (D := D) (ci := 3) (v := .int (on.1 10)) (C := RX3) (T := TX3) (N := 12) hx hb hts iX3 hown hK.1 hP 5 rfl rfl 10 (by decide) (va_Nw.use rfl (hK.2 _ nf_RX4_126)) (fun _ h => h) rfl dX4_sum_67 ?_
    refine lv_i2l (pc := 70) hx hb dX4_sum_70 rfl ?_
    obtain rfl := Option.some.inj hf
    exact W.lret hx hb hr (fun t ht hW => ⟨rfl, by rw [ht]; exact hP, hD, hS.F ht⟩) hS.2.2 dX4_sum_71
  replace hf := im c7 hf
  by_cases c8 : i0 = 4
  · refine lv_tableIn (pc := 1) (off := 71) (tgt := 72) hx hb dX4_sum_1 (by rw [c8]; decide) (by rw [c8]; decide) (by rw [c8]; decide) (by decide) ?_
    replace hf := ip c8 hf
    refine lv_aload_n (pc := 72) hx hb dX4_sum_72 rfl (lv_at hl 0 rfl) ?_
    refine va_get (pc := 73) (D := D) (ci := 4) (v := .ref (q 0)) (C := RX4) (T := TX4) (N := 13) hx hb hts iX4 hown hK.1 hP 0 rfl rfl 0 (by decide) (hts _ fl_RX4_12) (fun _ h => h) rfl dX4_sum_73 ?_
    refine va_getN (pc := 76) (D := D) (ci := 3) (v := .int (on.1 11)) (C := RX3) (T := TX3) (N := 12) hx hb hts iX3 hown hK.1 hP 5 rfl rfl 11 (by decide) (va_Nw.use rfl (hK.2 _ nf_RX4_129)) (fun _ h => h) rfl dX4_sum_76 ?_
    refine lv_i2l (pc := 79) hx hb dX4_sum_79 rfl ?_
    obtain rfl := Option.some.inj hf
    exact W.lret hx hb hr (fun t ht hW => ⟨rfl, by rw [ht]; exact hP, hD, hS.F ht⟩) hS.2.2 dX4_sum_80
  replace hf := im c8 hf
  refine lv_tableOut (pc := 1) (tgt := 81) hx hb dX4_sum_1 (by have := lv_neT c1 (a := 0) rfl; have := lv_neT c3 (a := 1) rfl; have := lv_neT c5 (a := 2) rfl; have := lv_neT c7 (a := 3) rfl; have := lv_neT c8 (a := 4) rfl; omega) (by decide) ?_
  refine lv_ldc2 (pc := 81) (v := -1000000000000000000) hx hb hown (hts _ cn_RX4_132) dX4_sum_81 ?_
  obtain rfl := Option.some.inj hf
  exact W.lret hx hb hr (fun t ht hW => ⟨rfl, by rw [ht]; exact hP, hD, hS.F ht⟩) hS.2.2 dX4_sum_84
def f_X4_sharing (i0 : Int32) (oo : OS) (on : OS) (od : OS) (odw : OS) (odp : OS) : Option (Int32 × OS × OS × OS) := if i0 < 0 then some ((-1), od, odw, odp) else if i0 ≤ 2 then Option.bind (f_X4_spreadPresent oo on od odw odp) fun x3 => if i0 = 0 then some ((x3.1.1 10), x3.1, x3.2.1, x3.2.2) else if i0 = 1 then if (x3.1.1 11) = 0 then some (0, x3.1, x3.2.1, x3.2.2) else some (1, x3.1, x3.2.1, x3.2.2) else if (x3.1.1 11) = 0 then some ((-9), x3.1, x3.2.1, x3.2.2) else some (((x3.1.1 8) &&& ((x3.1.1 9) ^^^ (-1))), x3.1, x3.2.1, x3.2.2) else some ((-1), od, odw, odp)
set_option maxHeartbeats 4000000 in
set_option maxRecDepth 100000 in
theorem c_X4_sharing (l : Launch) (D : va_G) (cI cZ cS : ClassId) (a : Nat) (q : Nat → Nat) (qN : Nat → Nat) (qD : Nat → Nat) (i0 : Int32) (oo : OS) (on : OS) (od : OS) (odw : OS) (odp : OS) (x : (Int32 × OS × OS × OS)) (hf : f_X4_sharing i0 oo on od odw odp = some x) : Ct l yX4_sharing cX4_sharing 2 (some .int) 6 134 D cI cZ cS [.ref a, .int i0] (bX4 cI cZ a q oo ++ (bX3 cI (q 0) qN on ++ (bX0 cI (q 12) qD od ++ (bX1 (qD 13) odw ++ bX1 (qD 14) odp)))) (some (.int x.1)) (bX4 cI cZ a q oo ++ (bX3 cI (q 0) qN on ++ (bX0 cI (q 12) qD x.2.1 ++ (bX1 (qD 13) x.2.2.1 ++ bX1 (qD 14) x.2.2.2)))) := by
  intro sz
  refine Met.ofW (cc := cX4_sharing) (maxL := 2) (ret := (some .int)) (by decide +kernel) rfl ?_
  intro p e s m args below meth c s₁ B hml hv
  obtain ⟨rfl, hsz, hP, hK, hD0⟩ := hv
  have hx := B.exec
  have hb := B.bytes
  have hr := B.returns
  have hts0 := atoms_spec (ws := .code yX4_sharing cX4_sharing 2 (some .int) :: TB) B.pre
  have hts := fun w (h : w ∈ TB) => hts0 w (List.mem_cons_of_mem _ h)
  have hown : s.vm.findClass RX4 = some m.cls := findClass_of_methodNamed B.named
  have hlocks := B.notSynchronized
  subst hsz
  have hD := hD0.self (sz := s.heap.size)
  generalize hAe : va_A (bX4 cI cZ a q oo ++ (bX3 cI (q 0) qN on ++ (bX0 cI (q 12) qD od ++ (bX1 (qD 13) odw ++ bX1 (qD 14) odp)))) s.heap.size = A at hD ⊢
  have hA : ∀ q : Nat, s.heap.size ≤ q → A q := fun q h => by rw [← hAe]; exact Or.inr h
  have hS : va_S A s.heap s.heap [] := va_S.rf
  obtain ⟨H, hH⟩ : ∃ H, H = s.heap := ⟨_, rfl⟩
  rw [← hH] at hP
  have hS : va_S A s.heap H [] := by rw [hH]; exact hS
  have hl := lv_entry ([.ref a, .int i0]) (n := 2) (Nat.le_of_ble_eq_true rfl)
  rw [lg_entry_eq]
  generalize (lg_sl ([.ref a, .int i0]) ++ List.replicate (2 - (lg_sl ([.ref a, .int i0])).length) Slot.unset).toArray = ls at hl ⊢
  have hl : lv_has ls 2 [(0, .ref a), (1, .int i0)] := hl
  refine W_heap hH ?_
  obtain ⟨locs, hlo⟩ : ∃ locs : List Loc, locs = [] := ⟨_, rfl⟩
  rw [← hlo] at hS ⊢
  unfold f_X4_sharing at hf
  refine lv_iload_n (pc := 0) hx hb dX4_sharing_0 rfl (lv_at hl 1 rfl) ?_
  refine lv_if_lt (pc := 1) (tgt := 9) hx hb dX4_sharing_1 (by decide) (fun c1 => ?_) (fun c1 => ?_)
  · replace hf := ip c1 hf
    refine lv_iconst (v := -1) (pc := 9) hx hb dX4_sharing_9 (by decide) ?_
    obtain rfl := Option.some.inj hf
    exact W.iret hx hb hr (fun t ht hW => ⟨rfl, by rw [ht]; exact hP, hD, hS.F ht⟩) hS.2.2 dX4_sharing_10
  · replace hf := im c1 hf
    refine lv_iload_n (pc := 4) hx hb dX4_sharing_4 rfl (lv_at hl 1 rfl) ?_
    refine lv_iconst (v := 2) (pc := 5) hx hb dX4_sharing_5 (by decide) ?_
    refine lv_icmp_le (pc := 6) (tgt := 11) hx hb dX4_sharing_6 (by decide) (fun c2 => ?_) (fun c2 => ?_)
    · replace hf := ip c2 hf
      refine lv_aload_n (pc := 11) hx hb dX4_sharing_11 rfl (lv_at hl 0 rfl) ?_
      obtain ⟨x3, ex3, hf⟩ := bd_some hf
      refine ct_V1 (pc := 12) (As := []) (rest := []) (W1 := bX4 cI cZ a q oo ++ (bX3 cI (q 0) qN on ++ (bX0 cI (q 12) qD x3.1 ++ (bX1 (qD 13) x3.2.1 ++ bX1 (qD 14) x3.2.2)))) ⟨hx, hb, hml, hown, hts⟩ hK (c_X4_spreadPresent l D cI cZ cS a q qN qD oo on od odw odp x3 ex3) gv_RX4_146 rfl hs_X4_spreadPresent rfl ⟨Nat.le_of_ble_eq_true rfl, Nat.le_of_ble_eq_true rfl⟩ (ci := 4) (q0 := 0) rfl rfl rfl hl.1 rfl (Nat.le_of_ble_eq_true rfl) dX4_sharing_12 ⟨Nat.zero_le _, Nat.zero_le _⟩ hP hD hS hA (fun H locs hP hD hS => ?_)
      refine lv_iload_n (pc := 15) hx hb dX4_sharing_15 rfl (lv_at hl 1 rfl) ?_
      by_cases c4 : i0 = 0
      · refine lv_lookup (pc := 16) (off := 28) (tgt := 44) hx hb dX4_sharing_16 (by decide) (by rw [c4]; decide) (by decide) ?_
        replace hf := ip c4 hf
        refine lv_aload_n (pc := 44) hx hb dX4_sharing_44 rfl (lv_at hl 0 rfl) ?_
        refine va_get (pc := 45) (D := D) (ci := 4) (v := .ref (q 12)) (C := RX4) (T := TX4) (N := 13) hx hb hts iX4 hown hK.1 hP 0 rfl rfl 12 (by decide) (hts _ fl_RX4_54) (fun _ h => h) rfl dX4_sharing_45 ?_
        refine va_getN (pc := 48) (D := D) (ci := 0) (v := .int (x3.1.1 10)) (C := RX0) (T := TX0) (N := 15) hx hb hts iX0 hown hK.1 hP 13 rfl rfl 10 (by decide) (va_Nw.use rfl (hK.2 _ nf_RX4_168)) (fun _ h => h) rfl dX4_sharing_48 ?_
        obtain rfl := Option.some.inj hf
        exact W.iret hx hb hr (fun t ht hW => ⟨rfl, by rw [ht]; exact hP, hD, hS.F ht⟩) hS.2.2 dX4_sharing_51
      replace hf := im c4 hf
      by_cases c5 : i0 = 1
      · refine lv_lookup (pc := 16) (off := 36) (tgt := 52) hx hb dX4_sharing_16 (by decide) (by rw [c5]; decide) (by decide) ?_
        replace hf := ip c5 hf
        refine lv_aload_n (pc := 52) hx hb dX4_sharing_52 rfl (lv_at hl 0 rfl) ?_
        refine va_get (pc := 53) (D := D) (ci := 4) (v := .ref (q 12)) (C := RX4) (T := TX4) (N := 13) hx hb hts iX4 hown hK.1 hP 0 rfl rfl 12 (by decide) (hts _ fl_RX4_54) (fun _ h => h) rfl dX4_sharing_53 ?_
        refine va_getN (pc := 56) (D := D) (ci := 0) (v := .int (x3.1.1 11)) (C := RX0) (T := TX0) (N := 15) hx hb hts iX0 hown hK.1 hP 13 rfl rfl 11 (by decide) (va_Nw.use rfl (hK.2 _ nf_RX4_149)) (fun _ h => h) rfl dX4_sharing_56 ?_
        refine lv_if_eq (pc := 59) (tgt := 66) hx hb dX4_sharing_59 (by decide) (fun c6 => ?_) (fun c6 => ?_)
        · replace hf := ip c6 hf
          refine lv_iconst (v := 0) (pc := 66) hx hb dX4_sharing_66 (by decide) ?_
          obtain rfl := Option.some.inj hf
          exact W.iret hx hb hr (fun t ht hW => ⟨rfl, by rw [ht]; exact hP, hD, hS.F ht⟩) hS.2.2 dX4_sharing_67
        · replace hf := im c6 hf
          refine lv_iconst (v := 1) (pc := 62) hx hb dX4_sharing_62 (by decide) ?_
          refine lv_goto (pc := 63) (tgt := 67) hx hb dX4_sharing_63 (by decide) ?_
          obtain rfl := Option.some.inj hf
          exact W.iret hx hb hr (fun t ht hW => ⟨rfl, by rw [ht]; exact hP, hD, hS.F ht⟩) hS.2.2 dX4_sharing_67
      replace hf := im c5 hf
      refine lv_lookup (pc := 16) (off := 52) (tgt := 68) hx hb dX4_sharing_16 (by decide) (by refine (lv_osw c4 rfl).trans ?_; refine (lv_osw c5 rfl).trans ?_; rfl) (by decide) ?_
      refine lv_aload_n (pc := 68) hx hb dX4_sharing_68 rfl (lv_at hl 0 rfl) ?_
      refine va_get (pc := 69) (D := D) (ci := 4) (v := .ref (q 12)) (C := RX4) (T := TX4) (N := 13) hx hb hts iX4 hown hK.1 hP 0 rfl rfl 12 (by decide) (hts _ fl_RX4_54) (fun _ h => h) rfl dX4_sharing_69 ?_
      refine va_getN (pc := 72) (D := D) (ci := 0) (v := .int (x3.1.1 11)) (C := RX0) (T := TX0) (N := 15) hx hb hts iX0 hown hK.1 hP 13 rfl rfl 11 (by decide) (va_Nw.use rfl (hK.2 _ nf_RX4_149)) (fun _ h => h) rfl dX4_sharing_72 ?_
      refine lv_if_eq (pc := 75) (tgt := 98) hx hb dX4_sharing_75 (by decide) (fun c7 => ?_) (fun c7 => ?_)
      · replace hf := ip c7 hf
        refine lv_bipush (v := -9) (pc := 98) hx hb dX4_sharing_98 (by decide) ?_
        obtain rfl := Option.some.inj hf
        exact W.iret hx hb hr (fun t ht hW => ⟨rfl, by rw [ht]; exact hP, hD, hS.F ht⟩) hS.2.2 dX4_sharing_100
      · replace hf := im c7 hf
        refine lv_aload_n (pc := 78) hx hb dX4_sharing_78 rfl (lv_at hl 0 rfl) ?_
        refine va_get (pc := 79) (D := D) (ci := 4) (v := .ref (q 12)) (C := RX4) (T := TX4) (N := 13) hx hb hts iX4 hown hK.1 hP 0 rfl rfl 12 (by decide) (hts _ fl_RX4_54) (fun _ h => h) rfl dX4_sharing_79 ?_
        refine va_getN (pc := 82) (D := D) (ci := 0) (v := .int (x3.1.1 8)) (C := RX0) (T := TX0) (N := 15) hx hb hts iX0 hown hK.1 hP 13 rfl rfl 8 (by decide) (va_Nw.use rfl (hK.2 _ nf_RX4_171)) (fun _ h => h) rfl dX4_sharing_82 ?_
        refine lv_aload_n (pc := 85) hx hb dX4_sharing_85 rfl (lv_at hl 0 rfl) ?_
        refine va_get (pc := 86) (D := D) (ci := 4) (v := .ref (q 12)) (C := RX4) (T := TX4) (N := 13) hx hb hts iX4 hown hK.1 hP 0 rfl rfl 12 (by decide) (hts _ fl_RX4_54) (fun _ h => h) rfl dX4_sharing_86 ?_
        refine va_getN (pc := 89) (D := D) (ci := 0) (v := .int (x3.1.1 9)) (C := RX0) (T := TX0) (N := 15) hx hb hts iX0 hown hK.1 hP 13 rfl rfl 9 (by decide) (va_Nw.use rfl (hK.2 _ nf_RX4_174)) (fun _ h => h) rfl dX4_sharing_89 ?_
        refine lv_iconst (v := -1) (pc := 92) hx hb dX4_sharing_92 (by decide) ?_
        refine lv_ixor (pc := 93) hx hb dX4_sharing_93 ?_
        refine lv_iand (pc := 94) hx hb dX4_sharing_94 ?_
        refine lv_goto (pc := 95) (tgt := 100) hx hb dX4_sharing_95 (by decide) ?_
        obtain rfl := Option.some.inj hf
        exact W.iret hx hb hr (fun t ht hW => ⟨rfl, by rw [ht]; exact hP, hD, hS.F ht⟩) hS.2.2 dX4_sharing_100
    · replace hf := im c2 hf
      refine lv_iconst (v := -1) (pc := 9) hx hb dX4_sharing_9 (by decide) ?_
      obtain rfl := Option.some.inj hf
      exact W.iret hx hb hr (fun t ht hW => ⟨rfl, by rw [ht]; exact hP, hD, hS.F ht⟩) hS.2.2 dX4_sharing_10
def lp_X4_commonDivisor_3 : Nat → Int64 → Int64 → Int32 → Option (Int64 × Int64 × Int32)
  | 0, _, _, _ => none
  | n + 1, v0, v2, v4 => if 100 ≤ v4 then some (v0, v2, v4) else if v2 = 0 then some (v0, v2, v4) else dzL v2 (lp_X4_commonDivisor_3 n v2 (v0 - v0 / v2 * v2) (v4 + 1))
def f_X4_commonDivisor (i0 : Int64) (i1 : Int64) : Option Int64 := Option.bind (lp_X4_commonDivisor_3 1000 i0 i1 0) fun z1 => some z1.1
set_option maxHeartbeats 4000000 in
set_option maxRecDepth 100000 in
theorem c_X4_commonDivisor (l : Launch) (D : va_G) (cI cZ cS : ClassId) (i0 : Int64) (i1 : Int64) (x : Int64) (hf : f_X4_commonDivisor i0 i1 = some x) : Ct l yX4_commonDivisor cX4_commonDivisor 7 (some .long) 0 0 D cI cZ cS [.long i0, .long i1] ([]) (some (.long x)) ([]) := by
  intro sz
  refine Met.ofW (cc := cX4_commonDivisor) (maxL := 7) (ret := (some .long)) (by decide +kernel) rfl ?_
  intro p e s m args below meth c s₁ B hml hv
  obtain ⟨rfl, hsz, hP, hK, hD0⟩ := hv
  have hx := B.exec
  have hb := B.bytes
  have hr := B.returns
  have hts0 := atoms_spec (ws := .code yX4_commonDivisor cX4_commonDivisor 7 (some .long) :: TB) B.pre
  have hts := fun w (h : w ∈ TB) => hts0 w (List.mem_cons_of_mem _ h)
  have hown : s.vm.findClass RX4 = some m.cls := findClass_of_methodNamed B.named
  have hlocks := B.notSynchronized
  subst hsz
  have hD := hD0.self (sz := s.heap.size)
  generalize hAe : va_A ([]) s.heap.size = A at hD ⊢
  have hA : ∀ q : Nat, s.heap.size ≤ q → A q := fun q h => by rw [← hAe]; exact Or.inr h
  have hS : va_S A s.heap s.heap [] := va_S.rf
  obtain ⟨H, hH⟩ : ∃ H, H = s.heap := ⟨_, rfl⟩
  rw [← hH] at hP
  have hS : va_S A s.heap H [] := by rw [hH]; exact hS
  have hl := lv_entry ([.long i0, .long i1]) (n := 7) (Nat.le_of_ble_eq_true rfl)
  rw [lg_entry_eq]
  generalize (lg_sl ([.long i0, .long i1]) ++ List.replicate (7 - (lg_sl ([.long i0, .long i1])).length) Slot.unset).toArray = ls at hl ⊢
  have hl : lv_has ls 7 [(0, .long i0), (2, .long i1)] := hl
  refine W_heap hH ?_
  obtain ⟨locs, hlo⟩ : ∃ locs : List Loc, locs = [] := ⟨_, rfl⟩
  rw [← hlo] at hS ⊢
  unfold f_X4_commonDivisor at hf
  refine lv_iconst (v := 0) (pc := 0) hx hb dX4_commonDivisor_0 (by decide) ?_
  refine lv_istore (lv' := [(4, .int 0), (0, .long i0), (2, .long i1)]) (pc := 1) hx hb dX4_commonDivisor_1 hl (by decide) rfl (fun ls hl => ?_)
  obtain ⟨z1, hz1, hf⟩ := bd_some hf
  have hfz1 := hf
  clear hf
  have K2 : ∀ (H : Heap) (locs : List Loc) (ls : Array Slot), va_P D vwCl ([]) H → va_D A ([]) → va_S A s.heap H locs → lv_has ls 7 [(0, .long z1.1), (2, .long z1.2.1), (4, .int z1.2.2)] → GW l yX4_commonDivisor cX4_commonDivisor 7 (some .long) 0 0 D [.long i0, .long i1] (some (.long x)) ([]) A p e s m below meth c H locs (F0 m 32 ls []) := by
    intro H locs ls hP hD hS hl
    have hf := hfz1
    refine lv_lload_n (pc := 32) hx hb dX4_commonDivisor_32 rfl (lv_at hl 0 rfl) ?_
    obtain rfl := Option.some.inj hf
    exact W.lret hx hb hr (fun t ht hW => ⟨rfl, by rw [ht]; exact hP, hD, hS.F ht⟩) hS.2.2 dX4_commonDivisor_33
  have KL3 : ∀ (n : Nat) (v0 : Int64) (v2 : Int64) (v4 : Int32) (H : Heap) (locs : List Loc) (ls : Array Slot), lp_X4_commonDivisor_3 n v0 v2 v4 = some z1 → va_P D vwCl ([]) H → va_D A ([]) → va_S A s.heap H locs → lv_has ls 7 [(0, .long v0), (2, .long v2), (4, .int v4)] → GW l yX4_commonDivisor cX4_commonDivisor 7 (some .long) 0 0 D [.long i0, .long i1] (some (.long x)) ([]) A p e s m below meth c H locs (F0 m 3 ls []) := by
    intro n
    induction n with
    | zero => intro v0 v2 v4 H locs ls hf; cases hf
    | succ n ih =>
      intro v0 v2 v4 H locs ls hf hP hD hS hl
      rw [lp_X4_commonDivisor_3] at hf
      refine lv_iload (pc := 3) hx hb dX4_commonDivisor_3 (lv_at hl 2 rfl) ?_
      refine lv_bipush (v := 100) (pc := 5) hx hb dX4_commonDivisor_5 (by decide) ?_
      refine lv_icmp_ge (pc := 7) (tgt := 32) hx hb dX4_commonDivisor_7 (by decide) (fun c4 => ?_) (fun c4 => ?_)
      · replace hf := ip c4 hf
        obtain rfl := Option.some.inj hf
        exact K2 H locs ls hP hD hS (lv_sub hl [0, 1, 2] rfl)
      · replace hf := im c4 hf
        refine lv_lload_n (pc := 10) hx hb dX4_commonDivisor_10 rfl (lv_at hl 1 rfl) ?_
        refine lv_lconst (v := 0) (pc := 11) hx hb dX4_commonDivisor_11 (by decide) ?_
        refine W.lcmp (pc := 12) hx hb dX4_commonDivisor_12 ?_
        refine lv_if_eq (pc := 13) (tgt := 32) hx hb dX4_commonDivisor_13 (by decide) (fun c5 => ?_) (fun c5 => ?_)
        · replace c5 := (lg_cmp_eq _ _).mp c5
          replace hf := ip c5 hf
          obtain rfl := Option.some.inj hf
          exact K2 H locs ls hP hD hS (lv_sub hl [0, 1, 2] rfl)
        · replace c5 := fun q => c5 ((lg_cmp_eq _ _).mpr q)
          replace hf := im c5 hf
          refine lv_lload_n (pc := 16) hx hb dX4_commonDivisor_16 rfl (lv_at hl 0 rfl) ?_
          refine lv_lload_n (pc := 17) hx hb dX4_commonDivisor_17 rfl (lv_at hl 1 rfl) ?_
          obtain ⟨h6, hf⟩ := dzL_some hf
          refine lv_lrem (pc := 18) hx hb dX4_commonDivisor_18 h6 ?_
          refine lv_lstore (lv' := [(5, .long (v0 - v0 / v2 * v2)), (0, .long v0), (2, .long v2), (4, .int v4)]) (pc := 19) hx hb dX4_commonDivisor_19 hl (by decide) rfl (fun ls hl => ?_)
          refine lv_lload_n (pc := 21) hx hb dX4_commonDivisor_21 rfl (lv_at hl 2 rfl) ?_
          refine lv_lstore_n (lv' := [(0, .long v2), (5, .long (v0 - v0 / v2 * v2)), (2, .long v2), (4, .int v4)]) (pc := 22) hx hb dX4_commonDivisor_22 rfl hl (by decide) rfl (fun ls hl => ?_)
          refine lv_lload (pc := 23) hx hb dX4_commonDivisor_23 (lv_at hl 1 rfl) ?_
          refine lv_lstore_n (lv' := [(2, .long (v0 - v0 / v2 * v2)), (0, .long v2), (5, .long (v0 - v0 / v2 * v2)), (4, .int v4)]) (pc := 25) hx hb dX4_commonDivisor_25 rfl hl (by decide) rfl (fun ls hl => ?_)
          refine lv_iinc (v := (v4 + 1)) (lv' := [(4, .int (v4 + 1)), (2, .long (v0 - v0 / v2 * v2)), (0, .long v2), (5, .long (v0 - v0 / v2 * v2))]) (pc := 26) hx hb dX4_commonDivisor_26 hl (k := 3) rfl rfl (by decide) rfl (fun ls hl => ?_)
          refine lv_goto (pc := 29) (tgt := 3) hx hb dX4_commonDivisor_29 (by decide) ?_
          exact ih _ _ _ H locs ls hf hP hD hS (lv_sub hl [2, 1, 0] rfl)
  exact KL3 1000 _ _ _ H locs ls hz1 hP hD hS (lv_sub hl [1, 2, 0] rfl)
def f_X4_inLowestTerms (i0 : Int64) (i1 : Int64) (i2 : Int32) : Option Int64 := Option.bind (f_X4_commonDivisor (if 0 < i0 then i0 else -i0) (if 0 < i1 then i1 else -i1)) fun x1 => if x1 = 0 then some i2.toInt64 else if i2 = 0 then dzL x1 (some (i0 / x1)) else dzL x1 (some (i1 / x1))
set_option maxHeartbeats 4000000 in
set_option maxRecDepth 100000 in
theorem c_X4_inLowestTerms (l : Launch) (D : va_G) (cI cZ cS : ClassId) (i0 : Int64) (i1 : Int64) (i2 : Int32) (x : Int64) (hf : f_X4_inLowestTerms i0 i1 i2 = some x) : Ct l yX4_inLowestTerms cX4_inLowestTerms 7 (some .long) 1 26 D cI cZ cS [.long i0, .long i1, .int i2] ([]) (some (.long x)) ([]) := by
  intro sz
  refine Met.ofW (cc := cX4_inLowestTerms) (maxL := 7) (ret := (some .long)) (by decide +kernel) rfl ?_
  intro p e s m args below meth c s₁ B hml hv
  obtain ⟨rfl, hsz, hP, hK, hD0⟩ := hv
  have hx := B.exec
  have hb := B.bytes
  have hr := B.returns
  have hts0 := atoms_spec (ws := .code yX4_inLowestTerms cX4_inLowestTerms 7 (some .long) :: TB) B.pre
  have hts := fun w (h : w ∈ TB) => hts0 w (List.mem_cons_of_mem _ h)
  have hown : s.vm.findClass RX4 = some m.cls := findClass_of_methodNamed B.named
  have hlocks := B.notSynchronized
  subst hsz
  have hD := hD0.self (sz := s.heap.size)
  generalize hAe : va_A ([]) s.heap.size = A at hD ⊢
  have hA : ∀ q : Nat, s.heap.size ≤ q → A q := fun q h => by rw [← hAe]; exact Or.inr h
  have hS : va_S A s.heap s.heap [] := va_S.rf
  obtain ⟨H, hH⟩ : ∃ H, H = s.heap := ⟨_, rfl⟩
  rw [← hH] at hP
  have hS : va_S A s.heap H [] := by rw [hH]; exact hS
  have hl := lv_entry ([.long i0, .long i1, .int i2]) (n := 7) (Nat.le_of_ble_eq_true rfl)
  rw [lg_entry_eq]
  generalize (lg_sl ([.long i0, .long i1, .int i2]) ++ List.replicate (7 - (lg_sl ([.long i0, .long i1, .int i2])).length) Slot.unset).toArray = ls at hl ⊢
  have hl : lv_has ls 7 [(0, .long i0), (2, .long i1), (4, .int i2)] := hl
  refine W_heap hH ?_
  obtain ⟨locs, hlo⟩ : ∃ locs : List Loc, locs = [] := ⟨_, rfl⟩
  rw [← hlo] at hS ⊢
  unfold f_X4_inLowestTerms at hf
  refine lv_lload_n (pc := 0) hx hb dX4_inLowestTerms_0 rfl (lv_at hl 0 rfl) ?_
  refine va_mabs_long (pc := 1) hx hb (hml.trans hl.1.symm) hown (hts _ ml_RX4_302) (hts _ st_J9_abs_067f4) (hts _ in_RJ9) (hts _ cd_J9_abs_067f4) (Nat.le_of_ble_eq_true rfl) (Nat.le_of_ble_eq_true rfl) (Nat.zero_le _) (Nat.zero_le _) dX4_inLowestTerms_1 ?_
  refine lv_lload_n (pc := 4) hx hb dX4_inLowestTerms_4 rfl (lv_at hl 1 rfl) ?_
  refine va_mabs_long (pc := 5) hx hb (hml.trans hl.1.symm) hown (hts _ ml_RX4_302) (hts _ st_J9_abs_067f4) (hts _ in_RJ9) (hts _ cd_J9_abs_067f4) (Nat.le_of_ble_eq_true rfl) (Nat.le_of_ble_eq_true rfl) (Nat.zero_le _) (Nat.zero_le _) dX4_inLowestTerms_5 ?_
  obtain ⟨x1, ex1, hf⟩ := bd_some hf
  refine ct_S0 (pc := 8) (As := [.long (if 0 < i0 then i0 else -i0), .long (if 0 < i1 then i1 else -i1)]) (rest := []) ⟨hx, hb, hml, hown, hts⟩ hK (c_X4_commonDivisor l D cI cZ cS (if 0 < i0 then i0 else -i0) (if 0 < i1 then i1 else -i1) x1 ex1) gs_RX4_306 hs_X4_commonDivisor rfl ⟨Nat.le_of_ble_eq_true rfl, Nat.le_of_ble_eq_true rfl⟩ hl.1 rfl (Nat.le_of_ble_eq_true rfl) dX4_inLowestTerms_8 ⟨Nat.zero_le _, Nat.zero_le _⟩ hP hS hA (fun H locs hP hS => ?_)
  refine lv_lstore (lv' := [(5, .long x1), (0, .long i0), (2, .long i1), (4, .int i2)]) (pc := 11) hx hb dX4_inLowestTerms_11 hl (by decide) rfl (fun ls hl => ?_)
  refine lv_lload (pc := 13) hx hb dX4_inLowestTerms_13 (lv_at hl 0 rfl) ?_
  refine lv_lconst (v := 0) (pc := 15) hx hb dX4_inLowestTerms_15 (by decide) ?_
  refine W.lcmp (pc := 16) hx hb dX4_inLowestTerms_16 ?_
  refine lv_if_ne (pc := 17) (tgt := 24) hx hb dX4_inLowestTerms_17 (by decide) (fun c2 => ?_) (fun c2 => ?_)
  · replace c2 := fun q => c2 ((lg_cmp_eq _ _).mpr q)
    replace hf := im c2 hf
    refine lv_iload (pc := 24) hx hb dX4_inLowestTerms_24 (lv_at hl 3 rfl) ?_
    refine lv_if_ne (pc := 26) (tgt := 33) hx hb dX4_inLowestTerms_26 (by decide) (fun c3 => ?_) (fun c3 => ?_)
    · replace hf := im c3 hf
      refine lv_lload_n (pc := 33) hx hb dX4_inLowestTerms_33 rfl (lv_at hl 2 rfl) ?_
      refine lv_lload (pc := 34) hx hb dX4_inLowestTerms_34 (lv_at hl 0 rfl) ?_
      obtain ⟨h4, hf⟩ := dzL_some hf
      refine lv_ldiv (pc := 36) hx hb dX4_inLowestTerms_36 h4 ?_
      obtain rfl := Option.some.inj hf
      exact W.lret hx hb hr (fun t ht hW => ⟨rfl, by rw [ht]; exact hP, hD, hS.F ht⟩) hS.2.2 dX4_inLowestTerms_37
    · replace hf := ip c3 hf
      refine lv_lload_n (pc := 29) hx hb dX4_inLowestTerms_29 rfl (lv_at hl 1 rfl) ?_
      refine lv_goto (pc := 30) (tgt := 34) hx hb dX4_inLowestTerms_30 (by decide) ?_
      refine lv_lload (pc := 34) hx hb dX4_inLowestTerms_34 (lv_at hl 0 rfl) ?_
      obtain ⟨h5, hf⟩ := dzL_some hf
      refine lv_ldiv (pc := 36) hx hb dX4_inLowestTerms_36 h5 ?_
      obtain rfl := Option.some.inj hf
      exact W.lret hx hb hr (fun t ht hW => ⟨rfl, by rw [ht]; exact hP, hD, hS.F ht⟩) hS.2.2 dX4_inLowestTerms_37
  · replace c2 := (lg_cmp_eq _ _).mp c2
    replace hf := ip c2 hf
    refine lv_iload (pc := 20) hx hb dX4_inLowestTerms_20 (lv_at hl 3 rfl) ?_
    refine lv_i2l (pc := 22) hx hb dX4_inLowestTerms_22 rfl ?_
    obtain rfl := Option.some.inj hf
    exact W.lret hx hb hr (fun t ht hW => ⟨rfl, by rw [ht]; exact hP, hD, hS.F ht⟩) hS.2.2 dX4_inLowestTerms_23
def f_X4_share (i0 : Int32) (i1 : Int32) (oo : OS) (on : OS) (od : OS) (odw : OS) (odp : OS) : Option (Int64 × OS × OS × OS) := Option.bind (f_X4_isPile i0 oo on) fun x1 => if x1 = 0 then some ((-1000000000000000000), od, odw, odp) else if i1 < 0 then some ((-1000000000000000000), od, odw, odp) else if i1 ≤ 2 then Option.bind (f_X4_spreadPresent oo on od odw odp) fun x5 => if (x5.1.1 11) = 0 then some ((-2000000000000000000), x5.1, x5.2.1, x5.2.2) else if i1 = 2 then Option.bind (f_X0_shareDown i0 x5.1 x5.2.2) fun x11 => some (x11, x5.1, x5.2.1, x5.2.2) else Option.bind (f_X0_shareTop i0 x5.1 x5.2.2) fun x8 => Option.bind (f_X0_bottom x5.1 x5.2.2) fun x9 => Option.bind (f_X4_inLowestTerms x8 x9 i1) fun x10 => some (x10, x5.1, x5.2.1, x5.2.2) else some ((-1000000000000000000), od, odw, odp)
set_option maxHeartbeats 4000000 in
set_option maxRecDepth 100000 in
theorem c_X4_share (l : Launch) (D : va_G) (cI cZ cS : ClassId) (a : Nat) (q : Nat → Nat) (qN : Nat → Nat) (qD : Nat → Nat) (i0 : Int32) (i1 : Int32) (oo : OS) (on : OS) (od : OS) (odw : OS) (odp : OS) (x : (Int64 × OS × OS × OS)) (hf : f_X4_share i0 i1 oo on od odw odp = some x) : Ct l yX4_share cX4_share 3 (some .long) 6 134 D cI cZ cS [.ref a, .int i0, .int i1] (bX4 cI cZ a q oo ++ (bX3 cI (q 0) qN on ++ (bX0 cI (q 12) qD od ++ (bX1 (qD 13) odw ++ bX1 (qD 14) odp)))) (some (.long x.1)) (bX4 cI cZ a q oo ++ (bX3 cI (q 0) qN on ++ (bX0 cI (q 12) qD x.2.1 ++ (bX1 (qD 13) x.2.2.1 ++ bX1 (qD 14) x.2.2.2)))) := by
  intro sz
  refine Met.ofW (cc := cX4_share) (maxL := 3) (ret := (some .long)) (by decide +kernel) rfl ?_
  intro p e s m args below meth c s₁ B hml hv
  obtain ⟨rfl, hsz, hP, hK, hD0⟩ := hv
  have hx := B.exec
  have hb := B.bytes
  have hr := B.returns
  have hts0 := atoms_spec (ws := .code yX4_share cX4_share 3 (some .long) :: TB) B.pre
  have hts := fun w (h : w ∈ TB) => hts0 w (List.mem_cons_of_mem _ h)
  have hown : s.vm.findClass RX4 = some m.cls := findClass_of_methodNamed B.named
  have hlocks := B.notSynchronized
  subst hsz
  have hD := hD0.self (sz := s.heap.size)
  generalize hAe : va_A (bX4 cI cZ a q oo ++ (bX3 cI (q 0) qN on ++ (bX0 cI (q 12) qD od ++ (bX1 (qD 13) odw ++ bX1 (qD 14) odp)))) s.heap.size = A at hD ⊢
  have hA : ∀ q : Nat, s.heap.size ≤ q → A q := fun q h => by rw [← hAe]; exact Or.inr h
  have hS : va_S A s.heap s.heap [] := va_S.rf
  obtain ⟨H, hH⟩ : ∃ H, H = s.heap := ⟨_, rfl⟩
  rw [← hH] at hP
  have hS : va_S A s.heap H [] := by rw [hH]; exact hS
  have hl := lv_entry ([.ref a, .int i0, .int i1]) (n := 3) (Nat.le_of_ble_eq_true rfl)
  rw [lg_entry_eq]
  generalize (lg_sl ([.ref a, .int i0, .int i1]) ++ List.replicate (3 - (lg_sl ([.ref a, .int i0, .int i1])).length) Slot.unset).toArray = ls at hl ⊢
  have hl : lv_has ls 3 [(0, .ref a), (1, .int i0), (2, .int i1)] := hl
  refine W_heap hH ?_
  obtain ⟨locs, hlo⟩ : ∃ locs : List Loc, locs = [] := ⟨_, rfl⟩
  rw [← hlo] at hS ⊢
  unfold f_X4_share at hf
  refine lv_aload_n (pc := 0) hx hb dX4_share_0 rfl (lv_at hl 0 rfl) ?_
  refine lv_iload_n (pc := 1) hx hb dX4_share_1 rfl (lv_at hl 1 rfl) ?_
  obtain ⟨x1, ex1, hf⟩ := bd_some hf
  refine ct_V (pc := 2) (As := [.int i0]) (rest := []) (wr := bX0 cI (q 12) qD od ++ (bX1 (qD 13) odw ++ bX1 (qD 14) odp)) (W1 := bX4 cI cZ a q oo ++ (bX3 cI (q 0) qN on ++ (bX0 cI (q 12) qD od ++ (bX1 (qD 13) odw ++ bX1 (qD 14) odp)))) ⟨hx, hb, hml, hown, hts⟩ hK (c_X4_isPile l D cI cZ cS a q qN i0 oo on x1 ex1) gv_RX4_99 rfl hs_X4_isPile rfl ⟨Nat.le_of_ble_eq_true rfl, Nat.le_of_ble_eq_true rfl⟩ (ci := 4) (q0 := 0) rfl rfl rfl hl.1 rfl (Nat.le_of_ble_eq_true rfl) dX4_share_2 ⟨Nat.zero_le _, Nat.zero_le _⟩ hP hD hS hA [0, 1, 2, 3, 4, 5, 6, 7, 8, 9, 10, 11, 12] [13, 14, 15, 16, 17, 18, 19] [7, 8, 9, 10, 11, 12, 13, 14, 15, 16, 17, 18, 19, 0, 1, 2, 3, 4, 5, 6] rfl rfl (by decide +kernel) (by decide +kernel) (by decide +kernel) (by decide +kernel) rfl (fun H locs hP hD hS => ?_)
  refine lv_if_eq (pc := 5) (tgt := 17) hx hb dX4_share_5 (by decide) (fun c2 => ?_) (fun c2 => ?_)
  · replace hf := ip c2 hf
    refine lv_ldc2 (pc := 17) (v := -1000000000000000000) hx hb hown (hts _ cn_RX4_132) dX4_share_17 ?_
    obtain rfl := Option.some.inj hf
    exact W.lret hx hb hr (fun t ht hW => ⟨rfl, by rw [ht]; exact hP, hD, hS.F ht⟩) hS.2.2 dX4_share_20
  · replace hf := im c2 hf
    refine lv_iload_n (pc := 8) hx hb dX4_share_8 rfl (lv_at hl 2 rfl) ?_
    refine lv_if_lt (pc := 9) (tgt := 17) hx hb dX4_share_9 (by decide) (fun c3 => ?_) (fun c3 => ?_)
    · replace hf := ip c3 hf
      refine lv_ldc2 (pc := 17) (v := -1000000000000000000) hx hb hown (hts _ cn_RX4_132) dX4_share_17 ?_
      obtain rfl := Option.some.inj hf
      exact W.lret hx hb hr (fun t ht hW => ⟨rfl, by rw [ht]; exact hP, hD, hS.F ht⟩) hS.2.2 dX4_share_20
    · replace hf := im c3 hf
      refine lv_iload_n (pc := 12) hx hb dX4_share_12 rfl (lv_at hl 2 rfl) ?_
      refine lv_iconst (v := 2) (pc := 13) hx hb dX4_share_13 (by decide) ?_
      refine lv_icmp_le (pc := 14) (tgt := 21) hx hb dX4_share_14 (by decide) (fun c4 => ?_) (fun c4 => ?_)
      · replace hf := ip c4 hf
        refine lv_aload_n (pc := 21) hx hb dX4_share_21 rfl (lv_at hl 0 rfl) ?_
        obtain ⟨x5, ex5, hf⟩ := bd_some hf
        refine ct_V1 (pc := 22) (As := []) (rest := []) (W1 := bX4 cI cZ a q oo ++ (bX3 cI (q 0) qN on ++ (bX0 cI (q 12) qD x5.1 ++ (bX1 (qD 13) x5.2.1 ++ bX1 (qD 14) x5.2.2)))) ⟨hx, hb, hml, hown, hts⟩ hK (c_X4_spreadPresent l D cI cZ cS a q qN qD oo on od odw odp x5 ex5) gv_RX4_146 rfl hs_X4_spreadPresent rfl ⟨Nat.le_of_ble_eq_true rfl, Nat.le_of_ble_eq_true rfl⟩ (ci := 4) (q0 := 0) rfl rfl rfl hl.1 rfl (Nat.le_of_ble_eq_true rfl) dX4_share_22 ⟨Nat.zero_le _, Nat.zero_le _⟩ hP hD hS hA (fun H locs hP hD hS => ?_)
        refine lv_aload_n (pc := 25) hx hb dX4_share_25 rfl (lv_at hl 0 rfl) ?_
        refine va_get (pc := 26) (D := D) (ci := 4) (v := .ref (q 12)) (C := RX4) (T := TX4) (N := 13) hx hb hts iX4 hown hK.1 hP 0 rfl rfl 12 (by decide) (hts _ fl_RX4_54) (fun _ h => h) rfl dX4_share_26 ?_
        refine va_getN (pc := 29) (D := D) (ci := 0) (v := .int (x5.1.1 11)) (C := RX0) (T := TX0) (N := 15) hx hb hts iX0 hown hK.1 hP 13 rfl rfl 11 (by decide) (va_Nw.use rfl (hK.2 _ nf_RX4_149)) (fun _ h => h) rfl dX4_share_29 ?_
        refine lv_if_ne (pc := 32) (tgt := 39) hx hb dX4_share_32 (by decide) (fun c6 => ?_) (fun c6 => ?_)
        · replace hf := im c6 hf
          refine lv_iload_n (pc := 39) hx hb dX4_share_39 rfl (lv_at hl 2 rfl) ?_
          refine lv_iconst (v := 2) (pc := 40) hx hb dX4_share_40 (by decide) ?_
          refine lv_icmp_ne (pc := 41) (tgt := 53) hx hb dX4_share_41 (by decide) (fun c7 => ?_) (fun c7 => ?_)
          · replace hf := im c7 hf
            refine lv_aload_n (pc := 53) hx hb dX4_share_53 rfl (lv_at hl 0 rfl) ?_
            refine va_get (pc := 54) (D := D) (ci := 4) (v := .ref (q 12)) (C := RX4) (T := TX4) (N := 13) hx hb hts iX4 hown hK.1 hP 0 rfl rfl 12 (by decide) (hts _ fl_RX4_54) (fun _ h => h) rfl dX4_share_54 ?_
            refine lv_iload_n (pc := 57) hx hb dX4_share_57 rfl (lv_at hl 1 rfl) ?_
            obtain ⟨x8, ex8, hf⟩ := bd_some hf
            refine ct_V (pc := 58) (As := [.int i0]) (rest := []) (wr := bX4 cI cZ a q oo ++ (bX3 cI (q 0) qN on ++ bX1 (qD 13) x5.2.1)) (W1 := bX4 cI cZ a q oo ++ (bX3 cI (q 0) qN on ++ (bX0 cI (q 12) qD x5.1 ++ (bX1 (qD 13) x5.2.1 ++ bX1 (qD 14) x5.2.2)))) ⟨hx, hb, hml, hown, hts⟩ hK (c_X0_shareTop l D cI cZ cS (q 12) qD i0 x5.1 x5.2.2 x8 ex8) gv_RX4_183 rfl hs_X0_shareTop rfl ⟨Nat.le_of_ble_eq_true rfl, Nat.le_of_ble_eq_true rfl⟩ (ci := 0) (q0 := 13) rfl rfl rfl hl.1 rfl (Nat.le_of_ble_eq_true rfl) dX4_share_58 ⟨Nat.zero_le _, Nat.zero_le _⟩ hP hD hS hA [13, 14, 15, 16, 17, 19] [0, 1, 2, 3, 4, 5, 6, 7, 8, 9, 10, 11, 12, 18] [0, 1, 2, 3, 4, 5, 6, 7, 8, 9, 10, 11, 12, 14, 15, 16, 17, 18, 13, 19] rfl rfl (by decide +kernel) (by decide +kernel) (by decide +kernel) (by decide +kernel) rfl (fun H locs hP hD hS => ?_)
            refine lv_aload_n (pc := 61) hx hb dX4_share_61 rfl (lv_at hl 0 rfl) ?_
            refine va_get (pc := 62) (D := D) (ci := 4) (v := .ref (q 12)) (C := RX4) (T := TX4) (N := 13) hx hb hts iX4 hown hK.1 hP 0 rfl rfl 12 (by decide) (hts _ fl_RX4_54) (fun _ h => h) rfl dX4_share_62 ?_
            obtain ⟨x9, ex9, hf⟩ := bd_some hf
            refine ct_V (pc := 65) (As := []) (rest := [.long x8]) (wr := bX4 cI cZ a q oo ++ (bX3 cI (q 0) qN on ++ bX1 (qD 13) x5.2.1)) (W1 := bX4 cI cZ a q oo ++ (bX3 cI (q 0) qN on ++ (bX0 cI (q 12) qD x5.1 ++ (bX1 (qD 13) x5.2.1 ++ bX1 (qD 14) x5.2.2)))) ⟨hx, hb, hml, hown, hts⟩ hK (c_X0_bottom l D cI cZ cS (q 12) qD x5.1 x5.2.2 x9 ex9) gv_RX4_186 rfl hs_X0_bottom rfl ⟨Nat.le_of_ble_eq_true rfl, Nat.le_of_ble_eq_true rfl⟩ (ci := 0) (q0 := 13) rfl rfl rfl hl.1 rfl (Nat.le_of_ble_eq_true rfl) dX4_share_65 ⟨Nat.zero_le _, Nat.zero_le _⟩ hP hD hS hA [13, 14, 15, 16, 17, 19] [0, 1, 2, 3, 4, 5, 6, 7, 8, 9, 10, 11, 12, 18] [0, 1, 2, 3, 4, 5, 6, 7, 8, 9, 10, 11, 12, 14, 15, 16, 17, 18, 13, 19] rfl rfl (by decide +kernel) (by decide +kernel) (by decide +kernel) (by decide +kernel) rfl (fun H locs hP hD hS => ?_)
            refine lv_iload_n (pc := 68) hx hb dX4_share_68 rfl (lv_at hl 2 rfl) ?_
            obtain ⟨x10, ex10, hf⟩ := bd_some hf
            refine ct_S0 (pc := 69) (As := [.long x8, .long x9, .int i1]) (rest := []) ⟨hx, hb, hml, hown, hts⟩ hK (c_X4_inLowestTerms l D cI cZ cS x8 x9 i1 x10 ex10) gs_RX4_190 hs_X4_inLowestTerms rfl ⟨Nat.le_of_ble_eq_true rfl, Nat.le_of_ble_eq_true rfl⟩ hl.1 rfl (Nat.le_of_ble_eq_true rfl) dX4_share_69 ⟨Nat.zero_le _, Nat.zero_le _⟩ hP hS hA (fun H locs hP hS => ?_)
            obtain rfl := Option.some.inj hf
            exact W.lret hx hb hr (fun t ht hW => ⟨rfl, by rw [ht]; exact hP, hD, hS.F ht⟩) hS.2.2 dX4_share_72
          · replace hf := ip c7 hf
            refine lv_aload_n (pc := 44) hx hb dX4_share_44 rfl (lv_at hl 0 rfl) ?_
            refine va_get (pc := 45) (D := D) (ci := 4) (v := .ref (q 12)) (C := RX4) (T := TX4) (N := 13) hx hb hts iX4 hown hK.1 hP 0 rfl rfl 12 (by decide) (hts _ fl_RX4_54) (fun _ h => h) rfl dX4_share_45 ?_
            refine lv_iload_n (pc := 48) hx hb dX4_share_48 rfl (lv_at hl 1 rfl) ?_
            obtain ⟨x11, ex11, hf⟩ := bd_some hf
            refine ct_V (pc := 49) (As := [.int i0]) (rest := []) (wr := bX4 cI cZ a q oo ++ (bX3 cI (q 0) qN on ++ bX1 (qD 13) x5.2.1)) (W1 := bX4 cI cZ a q oo ++ (bX3 cI (q 0) qN on ++ (bX0 cI (q 12) qD x5.1 ++ (bX1 (qD 13) x5.2.1 ++ bX1 (qD 14) x5.2.2)))) ⟨hx, hb, hml, hown, hts⟩ hK (c_X0_shareDown l D cI cZ cS (q 12) qD i0 x5.1 x5.2.2 x11 ex11) gv_RX4_179 rfl hs_X0_shareDown rfl ⟨Nat.le_of_ble_eq_true rfl, Nat.le_of_ble_eq_true rfl⟩ (ci := 0) (q0 := 13) rfl rfl rfl hl.1 rfl (Nat.le_of_ble_eq_true rfl) dX4_share_49 ⟨Nat.zero_le _, Nat.zero_le _⟩ hP hD hS hA [13, 14, 15, 16, 17, 19] [0, 1, 2, 3, 4, 5, 6, 7, 8, 9, 10, 11, 12, 18] [0, 1, 2, 3, 4, 5, 6, 7, 8, 9, 10, 11, 12, 14, 15, 16, 17, 18, 13, 19] rfl rfl (by decide +kernel) (by decide +kernel) (by decide +kernel) (by decide +kernel) rfl (fun H locs hP hD hS => ?_)
            obtain rfl := Option.some.inj hf
            exact W.lret hx hb hr (fun t ht hW => ⟨rfl, by rw [ht]; exact hP, hD, hS.F ht⟩) hS.2.2 dX4_share_52
        · replace hf := ip c6 hf
          refine lv_ldc2 (pc := 35) (v := -2000000000000000000) hx hb hown (hts _ cn_RX4_177) dX4_share_35 ?_
          obtain rfl := Option.some.inj hf
          exact W.lret hx hb hr (fun t ht hW => ⟨rfl, by rw [ht]; exact hP, hD, hS.F ht⟩) hS.2.2 dX4_share_38
      · replace hf := im c4 hf
        refine lv_ldc2 (pc := 17) (v := -1000000000000000000) hx hb hown (hts _ cn_RX4_132) dX4_share_17 ?_
        obtain rfl := Option.some.inj hf
        exact W.lret hx hb hr (fun t ht hW => ⟨rfl, by rw [ht]; exact hP, hD, hS.F ht⟩) hS.2.2 dX4_share_20
def f_X4_press (i0 : Int32) (i1 : Int32) (i2 : Int32) (oo : OS) (on : OS) (od : OS) (odw : OS) (odp : OS) : Option (Int64 × OS × OS × OS) := Option.bind (f_X4_isPlace i0 i1) fun x1 => if x1 = 0 then some ((-1000000000000000000), od, odw, odp) else if i2 < 0 then some ((-1000000000000000000), od, odw, odp) else if i2 ≤ 1 then Option.bind (f_X4_spreadPresent oo on od odw odp) fun x5 => if (x5.1.1 11) = 0 then some ((-2000000000000000000), x5.1, x5.2.1, x5.2.2) else Option.bind (f_X1_topAt i0 i1 x5.2.2) fun x7 => Option.bind (f_X0_bottom x5.1 x5.2.2) fun x8 => Option.bind (f_X4_inLowestTerms x7 x8 i2) fun x9 => some (x9, x5.1, x5.2.1, x5.2.2) else some ((-1000000000000000000), od, odw, odp)
set_option maxHeartbeats 4000000 in
set_option maxRecDepth 100000 in
theorem c_X4_press (l : Launch) (D : va_G) (cI cZ cS : ClassId) (a : Nat) (q : Nat → Nat) (qN : Nat → Nat) (qD : Nat → Nat) (i0 : Int32) (i1 : Int32) (i2 : Int32) (oo : OS) (on : OS) (od : OS) (odw : OS) (odp : OS) (x : (Int64 × OS × OS × OS)) (hf : f_X4_press i0 i1 i2 oo on od odw odp = some x) : Ct l yX4_press cX4_press 4 (some .long) 6 134 D cI cZ cS [.ref a, .int i0, .int i1, .int i2] (bX4 cI cZ a q oo ++ (bX3 cI (q 0) qN on ++ (bX0 cI (q 12) qD od ++ (bX1 (qD 13) odw ++ bX1 (qD 14) odp)))) (some (.long x.1)) (bX4 cI cZ a q oo ++ (bX3 cI (q 0) qN on ++ (bX0 cI (q 12) qD x.2.1 ++ (bX1 (qD 13) x.2.2.1 ++ bX1 (qD 14) x.2.2.2)))) := by
  intro sz
  refine Met.ofW (cc := cX4_press) (maxL := 4) (ret := (some .long)) (by decide +kernel) rfl ?_
  intro p e s m args below meth c s₁ B hml hv
  obtain ⟨rfl, hsz, hP, hK, hD0⟩ := hv
  have hx := B.exec
  have hb := B.bytes
  have hr := B.returns
  have hts0 := atoms_spec (ws := .code yX4_press cX4_press 4 (some .long) :: TB) B.pre
  have hts := fun w (h : w ∈ TB) => hts0 w (List.mem_cons_of_mem _ h)
  have hown : s.vm.findClass RX4 = some m.cls := findClass_of_methodNamed B.named
  have hlocks := B.notSynchronized
  subst hsz
  have hD := hD0.self (sz := s.heap.size)
  generalize hAe : va_A (bX4 cI cZ a q oo ++ (bX3 cI (q 0) qN on ++ (bX0 cI (q 12) qD od ++ (bX1 (qD 13) odw ++ bX1 (qD 14) odp)))) s.heap.size = A at hD ⊢
  have hA : ∀ q : Nat, s.heap.size ≤ q → A q := fun q h => by rw [← hAe]; exact Or.inr h
  have hS : va_S A s.heap s.heap [] := va_S.rf
  obtain ⟨H, hH⟩ : ∃ H, H = s.heap := ⟨_, rfl⟩
  rw [← hH] at hP
  have hS : va_S A s.heap H [] := by rw [hH]; exact hS
  have hl := lv_entry ([.ref a, .int i0, .int i1, .int i2]) (n := 4) (Nat.le_of_ble_eq_true rfl)
  rw [lg_entry_eq]
  generalize (lg_sl ([.ref a, .int i0, .int i1, .int i2]) ++ List.replicate (4 - (lg_sl ([.ref a, .int i0, .int i1, .int i2])).length) Slot.unset).toArray = ls at hl ⊢
  have hl : lv_has ls 4 [(0, .ref a), (1, .int i0), (2, .int i1), (3, .int i2)] := hl
  refine W_heap hH ?_
  obtain ⟨locs, hlo⟩ : ∃ locs : List Loc, locs = [] := ⟨_, rfl⟩
  rw [← hlo] at hS ⊢
  unfold f_X4_press at hf
  refine lv_iload_n (pc := 0) hx hb dX4_press_0 rfl (lv_at hl 1 rfl) ?_
  refine lv_iload_n (pc := 1) hx hb dX4_press_1 rfl (lv_at hl 2 rfl) ?_
  obtain ⟨x1, ex1, hf⟩ := bd_some hf
  refine ct_S0 (pc := 2) (As := [.int i0, .int i1]) (rest := []) ⟨hx, hb, hml, hown, hts⟩ hK (c_X4_isPlace l D cI cZ cS i0 i1 x1 ex1) gs_RX4_79 hs_X4_isPlace rfl ⟨Nat.le_of_ble_eq_true rfl, Nat.le_of_ble_eq_true rfl⟩ hl.1 rfl (Nat.le_of_ble_eq_true rfl) dX4_press_2 ⟨Nat.zero_le _, Nat.zero_le _⟩ hP hS hA (fun H locs hP hS => ?_)
  refine lv_if_eq (pc := 5) (tgt := 17) hx hb dX4_press_5 (by decide) (fun c2 => ?_) (fun c2 => ?_)
  · replace hf := ip c2 hf
    refine lv_ldc2 (pc := 17) (v := -1000000000000000000) hx hb hown (hts _ cn_RX4_132) dX4_press_17 ?_
    obtain rfl := Option.some.inj hf
    exact W.lret hx hb hr (fun t ht hW => ⟨rfl, by rw [ht]; exact hP, hD, hS.F ht⟩) hS.2.2 dX4_press_20
  · replace hf := im c2 hf
    refine lv_iload_n (pc := 8) hx hb dX4_press_8 rfl (lv_at hl 3 rfl) ?_
    refine lv_if_lt (pc := 9) (tgt := 17) hx hb dX4_press_9 (by decide) (fun c3 => ?_) (fun c3 => ?_)
    · replace hf := ip c3 hf
      refine lv_ldc2 (pc := 17) (v := -1000000000000000000) hx hb hown (hts _ cn_RX4_132) dX4_press_17 ?_
      obtain rfl := Option.some.inj hf
      exact W.lret hx hb hr (fun t ht hW => ⟨rfl, by rw [ht]; exact hP, hD, hS.F ht⟩) hS.2.2 dX4_press_20
    · replace hf := im c3 hf
      refine lv_iload_n (pc := 12) hx hb dX4_press_12 rfl (lv_at hl 3 rfl) ?_
      refine lv_iconst (v := 1) (pc := 13) hx hb dX4_press_13 (by decide) ?_
      refine lv_icmp_le (pc := 14) (tgt := 21) hx hb dX4_press_14 (by decide) (fun c4 => ?_) (fun c4 => ?_)
      · replace hf := ip c4 hf
        refine lv_aload_n (pc := 21) hx hb dX4_press_21 rfl (lv_at hl 0 rfl) ?_
        obtain ⟨x5, ex5, hf⟩ := bd_some hf
        refine ct_V1 (pc := 22) (As := []) (rest := []) (W1 := bX4 cI cZ a q oo ++ (bX3 cI (q 0) qN on ++ (bX0 cI (q 12) qD x5.1 ++ (bX1 (qD 13) x5.2.1 ++ bX1 (qD 14) x5.2.2)))) ⟨hx, hb, hml, hown, hts⟩ hK (c_X4_spreadPresent l D cI cZ cS a q qN qD oo on od odw odp x5 ex5) gv_RX4_146 rfl hs_X4_spreadPresent rfl ⟨Nat.le_of_ble_eq_true rfl, Nat.le_of_ble_eq_true rfl⟩ (ci := 4) (q0 := 0) rfl rfl rfl hl.1 rfl (Nat.le_of_ble_eq_true rfl) dX4_press_22 ⟨Nat.zero_le _, Nat.zero_le _⟩ hP hD hS hA (fun H locs hP hD hS => ?_)
        refine lv_aload_n (pc := 25) hx hb dX4_press_25 rfl (lv_at hl 0 rfl) ?_
        refine va_get (pc := 26) (D := D) (ci := 4) (v := .ref (q 12)) (C := RX4) (T := TX4) (N := 13) hx hb hts iX4 hown hK.1 hP 0 rfl rfl 12 (by decide) (hts _ fl_RX4_54) (fun _ h => h) rfl dX4_press_26 ?_
        refine va_getN (pc := 29) (D := D) (ci := 0) (v := .int (x5.1.1 11)) (C := RX0) (T := TX0) (N := 15) hx hb hts iX0 hown hK.1 hP 13 rfl rfl 11 (by decide) (va_Nw.use rfl (hK.2 _ nf_RX4_149)) (fun _ h => h) rfl dX4_press_29 ?_
        refine lv_if_ne (pc := 32) (tgt := 39) hx hb dX4_press_32 (by decide) (fun c6 => ?_) (fun c6 => ?_)
        · replace hf := im c6 hf
          refine lv_aload_n (pc := 39) hx hb dX4_press_39 rfl (lv_at hl 0 rfl) ?_
          refine va_get (pc := 40) (D := D) (ci := 4) (v := .ref (q 12)) (C := RX4) (T := TX4) (N := 13) hx hb hts iX4 hown hK.1 hP 0 rfl rfl 12 (by decide) (hts _ fl_RX4_54) (fun _ h => h) rfl dX4_press_40 ?_
          refine va_getN (pc := 43) (D := D) (ci := 0) (v := .ref (qD 14)) (C := RX0) (T := TX0) (N := 15) hx hb hts iX0 hown hK.1 hP 13 rfl rfl 14 (by decide) (va_Nw.use rfl (hK.2 _ nf_RX4_194)) (fun _ h => h) rfl dX4_press_43 ?_
          refine lv_iload_n (pc := 46) hx hb dX4_press_46 rfl (lv_at hl 1 rfl) ?_
          refine lv_iload_n (pc := 47) hx hb dX4_press_47 rfl (lv_at hl 2 rfl) ?_
          obtain ⟨x7, ex7, hf⟩ := bd_some hf
          refine ct_V (pc := 48) (As := [.int i0, .int i1]) (rest := []) (wr := bX4 cI cZ a q oo ++ (bX3 cI (q 0) qN on ++ (bX0 cI (q 12) qD x5.1 ++ bX1 (qD 13) x5.2.1))) (W1 := bX4 cI cZ a q oo ++ (bX3 cI (q 0) qN on ++ (bX0 cI (q 12) qD x5.1 ++ (bX1 (qD 13) x5.2.1 ++ bX1 (qD 14) x5.2.2)))) ⟨hx, hb, hml, hown, hts⟩ hK (c_X1_topAt l D cI cZ cS (qD 14) i0 i1 x5.2.2 x7 ex7) gv_RX4_198 rfl hs_X1_topAt rfl ⟨Nat.le_of_ble_eq_true rfl, Nat.le_of_ble_eq_true rfl⟩ (ci := 1) (q0 := 19) rfl rfl rfl hl.1 rfl (Nat.le_of_ble_eq_true rfl) dX4_press_48 ⟨Nat.zero_le _, Nat.zero_le _⟩ hP hD hS hA [19] [0, 1, 2, 3, 4, 5, 6, 7, 8, 9, 10, 11, 12, 13, 14, 15, 16, 17, 18] [0, 1, 2, 3, 4, 5, 6, 7, 8, 9, 10, 11, 12, 13, 14, 15, 16, 17, 18, 19] rfl rfl (by decide +kernel) (by decide +kernel) (by decide +kernel) (by decide +kernel) rfl (fun H locs hP hD hS => ?_)
          refine lv_aload_n (pc := 51) hx hb dX4_press_51 rfl (lv_at hl 0 rfl) ?_
          refine va_get (pc := 52) (D := D) (ci := 4) (v := .ref (q 12)) (C := RX4) (T := TX4) (N := 13) hx hb hts iX4 hown hK.1 hP 0 rfl rfl 12 (by decide) (hts _ fl_RX4_54) (fun _ h => h) rfl dX4_press_52 ?_
          obtain ⟨x8, ex8, hf⟩ := bd_some hf
          refine ct_V (pc := 55) (As := []) (rest := [.long x7]) (wr := bX4 cI cZ a q oo ++ (bX3 cI (q 0) qN on ++ bX1 (qD 13) x5.2.1)) (W1 := bX4 cI cZ a q oo ++ (bX3 cI (q 0) qN on ++ (bX0 cI (q 12) qD x5.1 ++ (bX1 (qD 13) x5.2.1 ++ bX1 (qD 14) x5.2.2)))) ⟨hx, hb, hml, hown, hts⟩ hK (c_X0_bottom l D cI cZ cS (q 12) qD x5.1 x5.2.2 x8 ex8) gv_RX4_186 rfl hs_X0_bottom rfl ⟨Nat.le_of_ble_eq_true rfl, Nat.le_of_ble_eq_true rfl⟩ (ci := 0) (q0 := 13) rfl rfl rfl hl.1 rfl (Nat.le_of_ble_eq_true rfl) dX4_press_55 ⟨Nat.zero_le _, Nat.zero_le _⟩ hP hD hS hA [13, 14, 15, 16, 17, 19] [0, 1, 2, 3, 4, 5, 6, 7, 8, 9, 10, 11, 12, 18] [0, 1, 2, 3, 4, 5, 6, 7, 8, 9, 10, 11, 12, 14, 15, 16, 17, 18, 13, 19] rfl rfl (by decide +kernel) (by decide +kernel) (by decide +kernel) (by decide +kernel) rfl (fun H locs hP hD hS => ?_)
          refine lv_iload_n (pc := 58) hx hb dX4_press_58 rfl (lv_at hl 3 rfl) ?_
          obtain ⟨x9, ex9, hf⟩ := bd_some hf
          refine ct_S0 (pc := 59) (As := [.long x7, .long x8, .int i2]) (rest := []) ⟨hx, hb, hml, hown, hts⟩ hK (c_X4_inLowestTerms l D cI cZ cS x7 x8 i2 x9 ex9) gs_RX4_190 hs_X4_inLowestTerms rfl ⟨Nat.le_of_ble_eq_true rfl, Nat.le_of_ble_eq_true rfl⟩ hl.1 rfl (Nat.le_of_ble_eq_true rfl) dX4_press_59 ⟨Nat.zero_le _, Nat.zero_le _⟩ hP hS hA (fun H locs hP hS => ?_)
          obtain rfl := Option.some.inj hf
          exact W.lret hx hb hr (fun t ht hW => ⟨rfl, by rw [ht]; exact hP, hD, hS.F ht⟩) hS.2.2 dX4_press_62
        · replace hf := ip c6 hf
          refine lv_ldc2 (pc := 35) (v := -2000000000000000000) hx hb hown (hts _ cn_RX4_177) dX4_press_35 ?_
          obtain rfl := Option.some.inj hf
          exact W.lret hx hb hr (fun t ht hW => ⟨rfl, by rw [ht]; exact hP, hD, hS.F ht⟩) hS.2.2 dX4_press_38
      · replace hf := im c4 hf
        refine lv_ldc2 (pc := 17) (v := -1000000000000000000) hx hb hown (hts _ cn_RX4_132) dX4_press_17 ?_
        obtain rfl := Option.some.inj hf
        exact W.lret hx hb hr (fun t ht hW => ⟨rfl, by rw [ht]; exact hP, hD, hS.F ht⟩) hS.2.2 dX4_press_20
def f_X4_greatestUse (i0 : Int32) (oo : OS) (od : OS) (odp : OS) : Option Int64 := if (od.1 11) = 0 then some (-9) else if i0 = 2 then some (((od.1 12) : Int32).toInt64) else Option.bind (f_X0_useTop od odp) fun x3 => Option.bind (f_X0_useBottom od odp) fun x4 => Option.bind (f_X4_inLowestTerms x3 x4 i0) fun x5 => some x5
set_option maxHeartbeats 4000000 in
set_option maxRecDepth 100000 in
theorem c_X4_greatestUse (l : Launch) (D : va_G) (cI cZ cS : ClassId) (a : Nat) (q : Nat → Nat) (qD : Nat → Nat) (i0 : Int32) (oo : OS) (od : OS) (odp : OS) (x : Int64) (hf : f_X4_greatestUse i0 oo od odp = some x) : Ct l yX4_greatestUse cX4_greatestUse 2 (some .long) 3 63 D cI cZ cS [.ref a, .int i0] (bX4 cI cZ a q oo ++ (bX0 cI (q 12) qD od ++ bX1 (qD 14) odp)) (some (.long x)) (bX4 cI cZ a q oo ++ (bX0 cI (q 12) qD od ++ bX1 (qD 14) odp)) := by
  intro sz
  refine Met.ofW (cc := cX4_greatestUse) (maxL := 2) (ret := (some .long)) (by decide +kernel) rfl ?_
  intro p e s m args below meth c s₁ B hml hv
  obtain ⟨rfl, hsz, hP, hK, hD0⟩ := hv
  have hx := B.exec
  have hb := B.bytes
  have hr := B.returns
  have hts0 := atoms_spec (ws := .code yX4_greatestUse cX4_greatestUse 2 (some .long) :: TB) B.pre
  have hts := fun w (h : w ∈ TB) => hts0 w (List.mem_cons_of_mem _ h)
  have hown : s.vm.findClass RX4 = some m.cls := findClass_of_methodNamed B.named
  have hlocks := B.notSynchronized
  subst hsz
  have hD := hD0.self (sz := s.heap.size)
  generalize hAe : va_A (bX4 cI cZ a q oo ++ (bX0 cI (q 12) qD od ++ bX1 (qD 14) odp)) s.heap.size = A at hD ⊢
  have hA : ∀ q : Nat, s.heap.size ≤ q → A q := fun q h => by rw [← hAe]; exact Or.inr h
  have hS : va_S A s.heap s.heap [] := va_S.rf
  obtain ⟨H, hH⟩ : ∃ H, H = s.heap := ⟨_, rfl⟩
  rw [← hH] at hP
  have hS : va_S A s.heap H [] := by rw [hH]; exact hS
  have hl := lv_entry ([.ref a, .int i0]) (n := 2) (Nat.le_of_ble_eq_true rfl)
  rw [lg_entry_eq]
  generalize (lg_sl ([.ref a, .int i0]) ++ List.replicate (2 - (lg_sl ([.ref a, .int i0])).length) Slot.unset).toArray = ls at hl ⊢
  have hl : lv_has ls 2 [(0, .ref a), (1, .int i0)] := hl
  refine W_heap hH ?_
  obtain ⟨locs, hlo⟩ : ∃ locs : List Loc, locs = [] := ⟨_, rfl⟩
  rw [← hlo] at hS ⊢
  unfold f_X4_greatestUse at hf
  refine lv_aload_n (pc := 0) hx hb dX4_greatestUse_0 rfl (lv_at hl 0 rfl) ?_
  refine va_get (pc := 1) (D := D) (ci := 4) (v := .ref (q 12)) (C := RX4) (T := TX4) (N := 13) hx hb hts iX4 hown hK.1 hP 0 rfl rfl 12 (by decide) (hts _ fl_RX4_54) (fun _ h => h) rfl dX4_greatestUse_1 ?_
  refine va_getN (pc := 4) (D := D) (ci := 0) (v := .int (od.1 11)) (C := RX0) (T := TX0) (N := 15) hx hb hts iX0 hown hK.1 hP 5 rfl rfl 11 (by decide) (va_Nw.use rfl (hK.2 _ nf_RX4_149)) (fun _ h => h) rfl dX4_greatestUse_4 ?_
  refine lv_if_ne (pc := 7) (tgt := 14) hx hb dX4_greatestUse_7 (by decide) (fun c1 => ?_) (fun c1 => ?_)
  · replace hf := im c1 hf
    refine lv_iload_n (pc := 14) hx hb dX4_greatestUse_14 rfl (lv_at hl 1 rfl) ?_
    refine lv_iconst (v := 2) (pc := 15) hx hb dX4_greatestUse_15 (by decide) ?_
    refine lv_icmp_ne (pc := 16) (tgt := 30) hx hb dX4_greatestUse_16 (by decide) (fun c2 => ?_) (fun c2 => ?_)
    · replace hf := im c2 hf
      refine lv_aload_n (pc := 30) hx hb dX4_greatestUse_30 rfl (lv_at hl 0 rfl) ?_
      refine va_get (pc := 31) (D := D) (ci := 4) (v := .ref (q 12)) (C := RX4) (T := TX4) (N := 13) hx hb hts iX4 hown hK.1 hP 0 rfl rfl 12 (by decide) (hts _ fl_RX4_54) (fun _ h => h) rfl dX4_greatestUse_31 ?_
      obtain ⟨x3, ex3, hf⟩ := bd_some hf
      refine ct_V (pc := 34) (As := []) (rest := []) (wr := bX4 cI cZ a q oo) (W1 := bX4 cI cZ a q oo ++ (bX0 cI (q 12) qD od ++ bX1 (qD 14) odp)) ⟨hx, hb, hml, hown, hts⟩ hK (c_X0_useTop l D cI cZ cS (q 12) qD od odp x3 ex3) gv_RX4_209 rfl hs_X0_useTop rfl ⟨Nat.le_of_ble_eq_true rfl, Nat.le_of_ble_eq_true rfl⟩ (ci := 0) (q0 := 5) rfl rfl rfl hl.1 rfl (Nat.le_of_ble_eq_true rfl) dX4_greatestUse_34 ⟨Nat.zero_le _, Nat.zero_le _⟩ hP hD hS hA [5, 6, 7, 8, 9, 10] [0, 1, 2, 3, 4] [0, 1, 2, 3, 4, 5, 6, 7, 8, 9, 10] rfl rfl (by decide +kernel) (by decide +kernel) (by decide +kernel) (by decide +kernel) rfl (fun H locs hP hD hS => ?_)
      refine lv_aload_n (pc := 37) hx hb dX4_greatestUse_37 rfl (lv_at hl 0 rfl) ?_
      refine va_get (pc := 38) (D := D) (ci := 4) (v := .ref (q 12)) (C := RX4) (T := TX4) (N := 13) hx hb hts iX4 hown hK.1 hP 0 rfl rfl 12 (by decide) (hts _ fl_RX4_54) (fun _ h => h) rfl dX4_greatestUse_38 ?_
      obtain ⟨x4, ex4, hf⟩ := bd_some hf
      refine ct_V (pc := 41) (As := []) (rest := [.long x3]) (wr := bX4 cI cZ a q oo) (W1 := bX4 cI cZ a q oo ++ (bX0 cI (q 12) qD od ++ bX1 (qD 14) odp)) ⟨hx, hb, hml, hown, hts⟩ hK (c_X0_useBottom l D cI cZ cS (q 12) qD od odp x4 ex4) gv_RX4_212 rfl hs_X0_useBottom rfl ⟨Nat.le_of_ble_eq_true rfl, Nat.le_of_ble_eq_true rfl⟩ (ci := 0) (q0 := 5) rfl rfl rfl hl.1 rfl (Nat.le_of_ble_eq_true rfl) dX4_greatestUse_41 ⟨Nat.zero_le _, Nat.zero_le _⟩ hP hD hS hA [5, 6, 7, 8, 9, 10] [0, 1, 2, 3, 4] [0, 1, 2, 3, 4, 5, 6, 7, 8, 9, 10] rfl rfl (by decide +kernel) (by decide +kernel) (by decide +kernel) (by decide +kernel) rfl (fun H locs hP hD hS => ?_)
      refine lv_iload_n (pc := 44) hx hb dX4_greatestUse_44 rfl (lv_at hl 1 rfl) ?_
      obtain ⟨x5, ex5, hf⟩ := bd_some hf
      refine ct_S0 (pc := 45) (As := [.long x3, .long x4, .int i0]) (rest := []) ⟨hx, hb, hml, hown, hts⟩ hK (c_X4_inLowestTerms l D cI cZ cS x3 x4 i0 x5 ex5) gs_RX4_190 hs_X4_inLowestTerms rfl ⟨Nat.le_of_ble_eq_true rfl, Nat.le_of_ble_eq_true rfl⟩ hl.1 rfl (Nat.le_of_ble_eq_true rfl) dX4_greatestUse_45 ⟨Nat.zero_le _, Nat.zero_le _⟩ hP hS hA (fun H locs hP hS => ?_)
      obtain rfl := Option.some.inj hf
      exact W.lret hx hb hr (fun t ht hW => ⟨rfl, by rw [ht]; exact hP, hD, hS.F ht⟩) hS.2.2 dX4_greatestUse_48
    · replace hf := ip c2 hf
      refine lv_aload_n (pc := 19) hx hb dX4_greatestUse_19 rfl (lv_at hl 0 rfl) ?_
      refine va_get (pc := 20) (D := D) (ci := 4) (v := .ref (q 12)) (C := RX4) (T := TX4) (N := 13) hx hb hts iX4 hown hK.1 hP 0 rfl rfl 12 (by decide) (hts _ fl_RX4_54) (fun _ h => h) rfl dX4_greatestUse_20 ?_
      refine va_getN (pc := 23) (D := D) (ci := 0) (v := .int (od.1 12)) (C := RX0) (T := TX0) (N := 15) hx hb hts iX0 hown hK.1 hP 5 rfl rfl 12 (by decide) (va_Nw.use rfl (hK.2 _ nf_RX4_292)) (fun _ h => h) rfl dX4_greatestUse_23 ?_
      refine lv_i2l (pc := 26) hx hb dX4_greatestUse_26 rfl ?_
      refine lv_goto (pc := 27) (tgt := 48) hx hb dX4_greatestUse_27 (by decide) ?_
      obtain rfl := Option.some.inj hf
      exact W.lret hx hb hr (fun t ht hW => ⟨rfl, by rw [ht]; exact hP, hD, hS.F ht⟩) hS.2.2 dX4_greatestUse_48
  · replace hf := ip c1 hf
    refine lv_ldc2 (pc := 10) (v := -9) hx hb hown (hts _ cn_RX4_156) dX4_greatestUse_10 ?_
    obtain rfl := Option.some.inj hf
    exact W.lret hx hb hr (fun t ht hW => ⟨rfl, by rw [ht]; exact hP, hD, hS.F ht⟩) hS.2.2 dX4_greatestUse_13
