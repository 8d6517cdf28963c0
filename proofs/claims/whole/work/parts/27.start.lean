theorem ao_in : Cond.arrayOver (.object RX3) ∈ lw_tbl := List.mem_of_getElem? (i := 173) (by decide +kernel)
/-- what the tables give: the classes, the array classes, the nest -/
theorem KX_of {args : Array Value} {s : State} (hts : ∀ w ∈ lw_tbl, w.before args s = true) : (∃ (D : va_G) (cI cZ cS : ClassId), KX D cI cZ cS s) ∧ va_AO RX3 s := by
  have htb := fun w (h : w ∈ TB) => hts w (List.mem_filter.mp h).1
  have hO : va_AO RX3 s := va_AO.of (A := args) (hts _ ao_in)
  obtain ⟨c0, i0, k0⟩ := u_known (C := RX0) (T := TX0) (N := 15) (n := 15) htb iX0 (htb _ it_RX0)
  obtain ⟨c1, i1, k1⟩ := u_known (C := RX1) (T := TX1) (N := 16) (n := 16) htb iX1 (htb _ it_RX1)
  obtain ⟨c2, i2, k2⟩ := u_known (C := RX2) (T := TX2) (N := 7) (n := 7) htb iX2 (htb _ it_RX2)
  obtain ⟨c3, i3, k3⟩ := u_known (C := RX3) (T := TX3) (N := 12) (n := 12) htb iX3 (htb _ it_RX3)
  obtain ⟨c4, i4, k4⟩ := u_known (C := RX4) (T := TX4) (N := 13) (n := 13) htb iX4 (htb _ it_RX4)
  obtain ⟨c5, i5, k5⟩ := u_known (C := RX5) (T := TX5) (N := 41) (n := 41) htb iX5 (htb _ it_RX5)
  obtain ⟨cI, kI, pI, hI1, hI2, hI3⟩ := Cond.arrayClass_spec (htb _ ac_int)
  obtain ⟨cZ, kZ, pZ, hZ1, hZ2, hZ3⟩ := Cond.arrayClass_spec (htb _ ac_bool)
  obtain ⟨pS, cS, kS, hS1, -, hS2, hS3, hS4⟩ := Cond.arrayOver_spec hO
  refine ⟨⟨(fun k => if k = 0 then c0 else if k = 1 then c1 else if k = 2 then c2 else if k = 3 then c3 else if k = 4 then c4 else c5, fun k => if k = 0 then i0 else if k = 1 then i1 else if k = 2 then i2 else if k = 3 then i3 else if k = 4 then i4 else i5), cI, cZ, cS, ⟨?_, ?_⟩, ?_⟩, hO⟩
  · intro k q hq
    match k, hq with
    | 0, hq => cases hq; exact k0
    | 1, hq => cases hq; exact k1
    | 2, hq => cases hq; exact k2
    | 3, hq => cases hq; exact k3
    | 4, hq => cases hq; exact k4
    | 5, hq => cases hq; exact k5
    | k + 6, hq => simp [vwCl] at hq
  · intro k q hq
    match k, hq with
    | 0, hq => cases hq; exact ⟨fun n z => ⟨fun k h => (by cases h), kI, hI2, pI, hI3⟩, hI1⟩
    | 1, hq => cases hq; exact ⟨fun n z => ⟨fun k h => (by cases h), kZ, hZ2, pZ, hZ3⟩, hZ1⟩
    | 2, hq => cases hq; exact ⟨fun n z => ⟨fun k h => (by cases h), kS, hS2, pS, hS3⟩, kS, pS, hS2, hS3, hS1, hS4⟩
    | k + 3, hq => simp at hq
  · intro w hw
    exact va_Nw.of (nestW_on w hw) (hts w (nestW_in w hw))
set_option maxHeartbeats 8000000 in
set_option maxRecDepth 100000 in
/-- THE LAW from its entry, once its function answers 1 -/
theorem whole_start_of {p : Program} {e : Env} {s : State} {m : MethodId} {below : List Frame} {meth : Method} {c : Code} (l : Launch) {b L : Nat} {xs : Nat → Int32} (hpure : ∀ pd gd : Nat → Nat × (Nat → Nat), lp_law xs L 1000 0 (sI z0 7 10) z0 z0 z0 z0 z0 z0 (pd, fun _ => z0) (gd, fun _ => z0) (sI z0 5 10) = some 1) (C0 : lw_At p s m meth c b L xs) : W p l e room_1 s m #[Value.ref b] below meth c s.heap [] 0 0 (lw_Z below #[Value.ref b] s) (entryFrame m ([Value.ref b] : List Value).toArray 4) := by
  obtain ⟨hx, hb, hr, hml, hown, hts9, hX, hbl, hlocks, hgv⟩ := id C0
  have hts := fun w (h : w ∈ TB) => hts9 w (List.mem_filter.mp h).1
  have hA : ∀ q : Nat, s.heap.size ≤ q → (fun q : Nat => s.heap.size ≤ q) q := fun _ h => h
  obtain ⟨⟨D, cI, cZ, cS, hK⟩, hO⟩ := KX_of hts9
  have hS : va_S (fun q : Nat => s.heap.size ≤ q) s.heap s.heap [] := va_S.rf
  have hP : va_P D vwCl [] s.heap := fun k q h => by simp at h
  have hD : va_D (fun q : Nat => s.heap.size ≤ q) [] := ⟨fun i j p q h => by simp at h, fun k q h => by simp at h⟩
  have hl := lv_entry ([.ref b]) (n := 4) (Nat.le_of_ble_eq_true rfl)
  rw [lg_entry_eq]
  generalize (lg_sl ([.ref b]) ++ List.replicate (4 - (lg_sl ([.ref b])).length) Slot.unset).toArray = ls at hl ⊢
  have hl : lv_has ls 4 [(0, .ref b)] := hl
  refine va_new (pc := 0) (ci := 4) (fs := zf4) (C := RX4) (T := TX4) (N := 13) hx hb hts iX4 tyX4 tyX4_ok hown (hts _ cl_RL_7) (hts _ it_RX4) (hts _ in_RX4) hK.1 hP hD hS hA rfl zf_4 (Nat.le_of_ble_eq_true rfl) (Nat.le_of_ble_eq_true rfl) dL_law_0 (fun a H hP hD hS => ?_)
  refine lv_dup (pc := 3) hx hb dL_law_3 rfl ?_
  refine ct_I (pc := 4) (ws := []) ⟨hx, hb, hml, hown, hts⟩ hK hO (n_X4_init l D cI cZ cS a) cd_X4_init ml_RL_9 in_RX4 im_X4_init rfl hs_X4_init ⟨Nat.le_of_ble_eq_true rfl, Nat.le_of_ble_eq_true rfl⟩ hl.1 (Nat.le_of_ble_eq_true rfl) dL_law_4 ⟨Nat.le_of_ble_eq_true rfl, Nat.le_of_ble_eq_true rfl⟩ hP hD hS hA (fun u H locs hP hD hS => ?_)
  obtain ⟨q, qN, qT, qC, qD, pd, gd⟩ := u
  refine lv_astore_n (lv' := [(1, .ref a), (0, .ref b)]) (pc := 7) hx hb dL_law_7 rfl hl (by decide) rfl (fun ls hl => ?_)
  refine va_new (pc := 8) (ci := 5) (fs := zf5) (C := RX5) (T := TX5) (N := 41) hx hb hts iX5 tyX5 tyX5_ok hown (hts _ cl_RL_10) (hts _ it_RX5) (hts _ in_RX5) hK.1 hP hD hS hA rfl zf_5 (Nat.le_of_ble_eq_true rfl) (Nat.le_of_ble_eq_true rfl) dL_law_8 (fun am H hP hD hS => ?_)
  refine lv_dup (pc := 11) hx hb dL_law_11 rfl ?_
  refine ct_I (pc := 12) ⟨hx, hb, hml, hown, hts⟩ hK hO (n_X5_init l D cI cZ cS am) cd_X5_init ml_RL_12 in_RX5 im_X5_init rfl hs_X5_init ⟨Nat.le_of_ble_eq_true rfl, Nat.le_of_ble_eq_true rfl⟩ hl.1 (Nat.le_of_ble_eq_true rfl) dL_law_12 ⟨Nat.le_of_ble_eq_true rfl, Nat.le_of_ble_eq_true rfl⟩ hP hD hS hA (fun qM H locs hP hD hS => ?_)
  refine lv_astore_n (lv' := [(2, .ref am), (1, .ref a), (0, .ref b)]) (pc := 15) hx hb dL_law_15 rfl hl (by decide) rfl (fun ls hl => ?_)
  refine lv_iconst (v := 0) (pc := 16) hx hb dL_law_16 (by decide) ?_
  refine lv_istore_n (lv' := [(3, .int 0), (2, .ref am), (1, .ref a), (0, .ref b)]) (pc := 17) hx hb dL_law_17 rfl hl (by decide) rfl (fun ls hl => ?_)
  have ew : ∀ A B C D E F G H I J : va_W, ([] ++ (A ++ (B ++ (C ++ (D ++ (E ++ (F ++ (G ++ (H ++ I))))))))) ++ J = fl [A, B, C, D, E, F, G, H, I, J] := by
    intro A B C D E F G H I J
    simp [fl, List.append_assoc]
  replace hP := (ew _ _ _ _ _ _ _ _ _ _) ▸ hP
  replace hD := (ew _ _ _ _ _ _ _ _ _ _) ▸ hD
  exact law_loop l C0 D cI cZ cS hK a am q qN qT qC qD qM 1000 _ _ _ _ _ _ _ _ _ _ _ H locs ls (hpure pd gd) hP hD hS (lv_sub hl [3, 2, 1, 0] rfl)
