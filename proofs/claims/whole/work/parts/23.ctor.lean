theorem im_obj : Cond.instanceMethod objectInit ∈ TB := tbm 77 (by decide +kernel) (by decide +kernel)
theorem cd_obj : Cond.code objectInit ⟨#[0xb1]⟩ 1 none ∈ TB := tbm 78 (by decide +kernel) (by decide +kernel)
theorem ac_int : Cond.arrayClass .int ∈ TB := tbm 143 (by decide +kernel) (by decide +kernel)
theorem ac_bool : Cond.arrayClass .boolean ∈ TB := tbm 236 (by decide +kernel) (by decide +kernel)
theorem cl_RL_7 : Cond.classLink RL 7 RX4 ∈ TB := tbm 71 (by decide +kernel) (by decide +kernel)
theorem it_RX4 : Cond.instantiable RX4 13 ∈ TB := tbm 72 (by decide +kernel) (by decide +kernel)
theorem ml_obj_RX4 : Cond.methodLink RX4 3 objectInit ∈ TB := tbm 76 (by decide +kernel) (by decide +kernel)
theorem cl_RX4_9 : Cond.classLink RX4 9 RX3 ∈ TB := tbm 79 (by decide +kernel) (by decide +kernel)
theorem it_RX3 : Cond.instantiable RX3 12 ∈ TB := tbm 80 (by decide +kernel) (by decide +kernel)
theorem ml_obj_RX3 : Cond.methodLink RX3 3 objectInit ∈ TB := tbm 84 (by decide +kernel) (by decide +kernel)
theorem cl_RX4_19 : Cond.classLink RX4 19 RX2 ∈ TB := tbm 144 (by decide +kernel) (by decide +kernel)
theorem it_RX2 : Cond.instantiable RX2 7 ∈ TB := tbm 145 (by decide +kernel) (by decide +kernel)
theorem ml_obj_RX2 : Cond.methodLink RX2 3 objectInit ∈ TB := tbm 149 (by decide +kernel) (by decide +kernel)
theorem cl_RX4_51 : Cond.classLink RX4 51 RX0 ∈ TB := tbm 174 (by decide +kernel) (by decide +kernel)
theorem it_RX0 : Cond.instantiable RX0 15 ∈ TB := tbm 175 (by decide +kernel) (by decide +kernel)
theorem ml_obj_RX0 : Cond.methodLink RX0 3 objectInit ∈ TB := tbm 179 (by decide +kernel) (by decide +kernel)
theorem cl_RX0_24 : Cond.classLink RX0 24 RX1 ∈ TB := tbm 180 (by decide +kernel) (by decide +kernel)
theorem it_RX1 : Cond.instantiable RX1 16 ∈ TB := tbm 181 (by decide +kernel) (by decide +kernel)
theorem ml_obj_RX1 : Cond.methodLink RX1 1 objectInit ∈ TB := tbm 185 (by decide +kernel) (by decide +kernel)
theorem cl_RL_10 : Cond.classLink RL 10 RX5 ∈ TB := tbm 755 (by decide +kernel) (by decide +kernel)
theorem it_RX5 : Cond.instantiable RX5 41 ∈ TB := tbm 756 (by decide +kernel) (by decide +kernel)
theorem ml_obj_RX5 : Cond.methodLink RX5 1 objectInit ∈ TB := tbm 760 (by decide +kernel) (by decide +kernel)
def zf0 : List Value := [.null, .null, .null, .null, .int 0, .long 0, .long 0, .long 0, .int 0, .int 0, .int 0, .int 0, .int 0, .null, .null]
theorem zf_0 : ∀ j, j < 15 → defaultValue (tyX0 j) = vp_V zf0 j := fun j hj => match j, hj with
  | 0, _ => rfl
  | 1, _ => rfl
  | 2, _ => rfl
  | 3, _ => rfl
  | 4, _ => rfl
  | 5, _ => rfl
  | 6, _ => rfl
  | 7, _ => rfl
  | 8, _ => rfl
  | 9, _ => rfl
  | 10, _ => rfl
  | 11, _ => rfl
  | 12, _ => rfl
  | 13, _ => rfl
  | 14, _ => rfl
  | j + 15, h => absurd h (by omega)
def zf1 : List Value := [.long 0, .long 0, .long 0, .long 0, .long 0, .long 0, .long 0, .long 0, .long 0, .long 0, .long 0, .long 0, .long 0, .long 0, .long 0, .long 0]
theorem zf_1 : ∀ j, j < 16 → defaultValue (tyX1 j) = vp_V zf1 j := fun j hj => match j, hj with
  | 0, _ => rfl
  | 1, _ => rfl
  | 2, _ => rfl
  | 3, _ => rfl
  | 4, _ => rfl
  | 5, _ => rfl
  | 6, _ => rfl
  | 7, _ => rfl
  | 8, _ => rfl
  | 9, _ => rfl
  | 10, _ => rfl
  | 11, _ => rfl
  | 12, _ => rfl
  | 13, _ => rfl
  | 14, _ => rfl
  | 15, _ => rfl
  | j + 16, h => absurd h (by omega)
def zf2 : List Value := [.null, .int 0, .int 0, .int 0, .int 0, .int 0, .int 0]
theorem zf_2 : ∀ j, j < 7 → defaultValue (tyX2 j) = vp_V zf2 j := fun j hj => match j, hj with
  | 0, _ => rfl
  | 1, _ => rfl
  | 2, _ => rfl
  | 3, _ => rfl
  | 4, _ => rfl
  | 5, _ => rfl
  | 6, _ => rfl
  | j + 7, h => absurd h (by omega)
def zf3 : List Value := [.null, .null, .null, .null, .int 0, .int 0, .null, .null, .null, .int 0, .int 0, .int 0]
theorem zf_3 : ∀ j, j < 12 → defaultValue (tyX3 j) = vp_V zf3 j := fun j hj => match j, hj with
  | 0, _ => rfl
  | 1, _ => rfl
  | 2, _ => rfl
  | 3, _ => rfl
  | 4, _ => rfl
  | 5, _ => rfl
  | 6, _ => rfl
  | 7, _ => rfl
  | 8, _ => rfl
  | 9, _ => rfl
  | 10, _ => rfl
  | 11, _ => rfl
  | j + 12, h => absurd h (by omega)
def zf4 : List Value := [.null, .null, .null, .null, .int 0, .null, .null, .int 0, .null, .null, .int 0, .null, .null]
theorem zf_4 : ∀ j, j < 13 → defaultValue (tyX4 j) = vp_V zf4 j := fun j hj => match j, hj with
  | 0, _ => rfl
  | 1, _ => rfl
  | 2, _ => rfl
  | 3, _ => rfl
  | 4, _ => rfl
  | 5, _ => rfl
  | 6, _ => rfl
  | 7, _ => rfl
  | 8, _ => rfl
  | 9, _ => rfl
  | 10, _ => rfl
  | 11, _ => rfl
  | 12, _ => rfl
  | j + 13, h => absurd h (by omega)
def zf5 : List Value := [.null, .null, .int 0, .null, .null, .int 0, .null, .int 0, .null, .int 0, .int 0, .int 0, .int 0, .int 0, .int 0, .null, .int 0, .null, .null, .null, .null, .int 0, .int 0, .long 0, .long 0, .long 0, .int 0, .int 0, .int 0, .long 0, .long 0, .long 0, .long 0, .long 0, .long 0, .int 0, .null, .null, .int 0, .int 0, .null]
theorem zf_5 : ∀ j, j < 41 → defaultValue (tyX5 j) = vp_V zf5 j := fun j hj => match j, hj with
  | 0, _ => rfl
  | 1, _ => rfl
  | 2, _ => rfl
  | 3, _ => rfl
  | 4, _ => rfl
  | 5, _ => rfl
  | 6, _ => rfl
  | 7, _ => rfl
  | 8, _ => rfl
  | 9, _ => rfl
  | 10, _ => rfl
  | 11, _ => rfl
  | 12, _ => rfl
  | 13, _ => rfl
  | 14, _ => rfl
  | 15, _ => rfl
  | 16, _ => rfl
  | 17, _ => rfl
  | 18, _ => rfl
  | 19, _ => rfl
  | 20, _ => rfl
  | 21, _ => rfl
  | 22, _ => rfl
  | 23, _ => rfl
  | 24, _ => rfl
  | 25, _ => rfl
  | 26, _ => rfl
  | 27, _ => rfl
  | 28, _ => rfl
  | 29, _ => rfl
  | 30, _ => rfl
  | 31, _ => rfl
  | 32, _ => rfl
  | 33, _ => rfl
  | 34, _ => rfl
  | 35, _ => rfl
  | 36, _ => rfl
  | 37, _ => rfl
  | 38, _ => rfl
  | 39, _ => rfl
  | 40, _ => rfl
  | j + 41, h => absurd h (by omega)
set_option maxHeartbeats 8000000 in
set_option maxRecDepth 100000 in
theorem n_X1_init (l : Launch) (D : va_G) (cI cZ cS : ClassId) (a : Nat) : CtN (α := Unit) l yX1_init cX1_init 1 1 12 0 0 D cI cZ cS [.ref a] [(a, .inr (1, zf1))] (fun q => bX1 a z0) := by
  intro sz
  refine Met.ofW (cc := cX1_init) (maxL := 1) (ret := none) (by decide +kernel) rfl ?_
  intro p e s m args below meth c s₁ B hml hv
  obtain ⟨rfl, hsz, hP, ⟨hK, hO⟩, hD0⟩ := hv
  have hx := B.exec
  have hb := B.bytes
  have hr := B.returns
  have hts0 := atoms_spec (ws := .code yX1_init cX1_init 1 none :: TB) B.pre
  have hts := fun w (h : w ∈ TB) => hts0 w (List.mem_cons_of_mem _ h)
  have hown : s.vm.findClass RX1 = some m.cls := findClass_of_methodNamed B.named
  have hlocks := B.notSynchronized
  have hin : meth.name = "<init>" := (name_of_methodNamed B.named B.method).1
  subst hsz
  have hD := hD0.self (sz := s.heap.size)
  generalize hAe : va_A [(a, .inr (1, zf1))] s.heap.size = A at hD ⊢
  have hA : ∀ q : Nat, s.heap.size ≤ q → A q := fun q h => by rw [← hAe]; exact Or.inr h
  have hS : va_S A s.heap s.heap [] := va_S.rf
  obtain ⟨H, hH⟩ : ∃ H, H = s.heap := ⟨_, rfl⟩
  rw [← hH] at hP
  have hS : va_S A s.heap H [] := by rw [hH]; exact hS
  have hl := lv_entry ([.ref a]) (n := 1) (Nat.le_of_ble_eq_true rfl)
  rw [lg_entry_eq]
  generalize (lg_sl ([.ref a]) ++ List.replicate (1 - (lg_sl ([.ref a])).length) Slot.unset).toArray = ls at hl ⊢
  have hl : lv_has ls 1 [(0, .ref a)] := hl
  refine W_heap hH ?_
  obtain ⟨locs, hlo⟩ : ∃ locs : List Loc, locs = [] := ⟨_, rfl⟩
  rw [← hlo] at hS ⊢
  refine lv_aload_n (pc := 0) hx hb dX1_init_0 rfl (lv_at hl 0 rfl) ?_
  refine W.objInit hx hb hown (hts _ ml_obj_RX1) (hts _ im_obj) (hts _ cd_obj) rfl (by rw [hml]; exact hl.1) rfl dX1_init_1 (Nat.le_of_ble_eq_true rfl) (Nat.le_of_ble_eq_true rfl) ?_
  refine W.eq (g2 := F0 m 4 ls []) rfl ?_
  exact W.vret hx hb hr (fun t ht hW => ⟨rfl, ⟨(), by rw [ht]; exact hP, hD⟩, hS.F ht⟩) hS.2.2 dX1_init_4
set_option maxHeartbeats 8000000 in
set_option maxRecDepth 100000 in
theorem n_X3_init (l : Launch) (D : va_G) (cI cZ cS : ClassId) (a : Nat) : CtN (α := Nat → Nat) l yX3_init cX3_init 1 1 12 7 47 D cI cZ cS [.ref a] [(a, .inr (3, zf3))] (fun q => bX3 cI a q z0) := by
  intro sz
  refine Met.ofW (cc := cX3_init) (maxL := 1) (ret := none) (by decide +kernel) rfl ?_
  intro p e s m args below meth c s₁ B hml hv
  obtain ⟨rfl, hsz, hP, ⟨hK, hO⟩, hD0⟩ := hv
  have hx := B.exec
  have hb := B.bytes
  have hr := B.returns
  have hts0 := atoms_spec (ws := .code yX3_init cX3_init 1 none :: TB) B.pre
  have hts := fun w (h : w ∈ TB) => hts0 w (List.mem_cons_of_mem _ h)
  have hown : s.vm.findClass RX3 = some m.cls := findClass_of_methodNamed B.named
  have hlocks := B.notSynchronized
  have hin : meth.name = "<init>" := (name_of_methodNamed B.named B.method).1
  subst hsz
  have hD := hD0.self (sz := s.heap.size)
  generalize hAe : va_A [(a, .inr (3, zf3))] s.heap.size = A at hD ⊢
  have hA : ∀ q : Nat, s.heap.size ≤ q → A q := fun q h => by rw [← hAe]; exact Or.inr h
  have hS : va_S A s.heap s.heap [] := va_S.rf
  obtain ⟨H, hH⟩ : ∃ H, H = s.heap := ⟨_, rfl⟩
  rw [← hH] at hP
  have hS : va_S A s.heap H [] := by rw [hH]; exact hS
  have hl := lv_entry ([.ref a]) (n := 1) (Nat.le_of_ble_eq_true rfl)
  rw [lg_entry_eq]
  generalize (lg_sl ([.ref a]) ++ List.replicate (1 - (lg_sl ([.ref a])).length) Slot.unset).toArray = ls at hl ⊢
  have hl : lv_has ls 1 [(0, .ref a)] := hl
  refine W_heap hH ?_
  obtain ⟨locs, hlo⟩ : ∃ locs : List Loc, locs = [] := ⟨_, rfl⟩
  rw [← hlo] at hS ⊢
  refine lv_aload_n (pc := 0) hx hb dX3_init_0 rfl (lv_at hl 0 rfl) ?_
  refine W.objInit hx hb hown (hts _ ml_obj_RX3) (hts _ im_obj) (hts _ cd_obj) rfl (by rw [hml]; exact hl.1) rfl dX3_init_1 (Nat.le_of_ble_eq_true rfl) (Nat.le_of_ble_eq_true rfl) ?_
  refine W.eq (g2 := F0 m 4 ls []) rfl ?_
  refine lv_aload_n (pc := 4) hx hb dX3_init_4 rfl (lv_at hl 0 rfl) ?_
  refine lv_bipush (v := 8) (pc := 5) hx hb dX3_init_5 (by decide) ?_
  refine nwI (pc := 7) (N := 8) hx hb hK (hts _ ac_int) hP hD hS hA (by decide) rfl (Nat.le_of_ble_eq_true rfl) (Nat.le_of_ble_eq_true rfl) (Nat.le_of_ble_eq_true rfl) dX3_init_7 (fun q1 H hP hD hS => ?_)
  refine va_putF (pc := 9) (D := D) (ci := 3) (v := .ref q1) (ty := tyX3 0) (C := RX3) (T := TX3) (N := 12) hx hb hts iX3 tyX3 tyX3_ok nmX3 hown hK.1 hP hD hS 0 rfl rfl 0 (by decide) (hts _ fl_RX3_9) (fun _ h => h) rfl hin rfl (tyX3_ok 0 (by decide)) rfl rfl (Nat.le_of_ble_eq_true rfl) dX3_init_9 (fun H locs hP hD hS => ?_)
  replace hP : va_P D vwCl ([(a, .inr (3, [.ref q1, .null, .null, .null, .int 0, .int 0, .null, .null, .null, .int 0, .int 0, .int 0]))] ++ [(q1, .inl (cI, 8, .inl (z0.2.2 0)))]) H := hP
  replace hD : va_D A ([(a, .inr (3, [.ref q1, .null, .null, .null, .int 0, .int 0, .null, .null, .null, .int 0, .int 0, .int 0]))] ++ [(q1, .inl (cI, 8, .inl (z0.2.2 0)))]) := hD
  refine lv_aload_n (pc := 12) hx hb dX3_init_12 rfl (lv_at hl 0 rfl) ?_
  refine lv_bipush (v := 8) (pc := 13) hx hb dX3_init_13 (by decide) ?_
  refine nwI (pc := 15) (N := 8) hx hb hK (hts _ ac_int) hP hD hS hA (by decide) rfl (Nat.le_of_ble_eq_true rfl) (Nat.le_of_ble_eq_true rfl) (Nat.le_of_ble_eq_true rfl) dX3_init_15 (fun q2 H hP hD hS => ?_)
  refine va_putF (pc := 17) (D := D) (ci := 3) (v := .ref q2) (ty := tyX3 1) (C := RX3) (T := TX3) (N := 12) hx hb hts iX3 tyX3 tyX3_ok nmX3 hown hK.1 hP hD hS 0 rfl rfl 1 (by decide) (hts _ fl_RX3_15) (fun _ h => h) rfl hin rfl (tyX3_ok 1 (by decide)) rfl rfl (Nat.le_of_ble_eq_true rfl) dX3_init_17 (fun H locs hP hD hS => ?_)
  replace hP : va_P D vwCl (([(a, .inr (3, [.ref q1, .ref q2, .null, .null, .int 0, .int 0, .null, .null, .null, .int 0, .int 0, .int 0]))] ++ [(q1, .inl (cI, 8, .inl (z0.2.2 0)))]) ++ [(q2, .inl (cI, 8, .inl (z0.2.2 0)))]) H := hP
  replace hD : va_D A (([(a, .inr (3, [.ref q1, .ref q2, .null, .null, .int 0, .int 0, .null, .null, .null, .int 0, .int 0, .int 0]))] ++ [(q1, .inl (cI, 8, .inl (z0.2.2 0)))]) ++ [(q2, .inl (cI, 8, .inl (z0.2.2 0)))]) := hD
  refine lv_aload_n (pc := 20) hx hb dX3_init_20 rfl (lv_at hl 0 rfl) ?_
  refine lv_bipush (v := 8) (pc := 21) hx hb dX3_init_21 (by decide) ?_
  refine nwI (pc := 23) (N := 8) hx hb hK (hts _ ac_int) hP hD hS hA (by decide) rfl (Nat.le_of_ble_eq_true rfl) (Nat.le_of_ble_eq_true rfl) (Nat.le_of_ble_eq_true rfl) dX3_init_23 (fun q3 H hP hD hS => ?_)
  refine va_putF (pc := 25) (D := D) (ci := 3) (v := .ref q3) (ty := tyX3 2) (C := RX3) (T := TX3) (N := 12) hx hb hts iX3 tyX3 tyX3_ok nmX3 hown hK.1 hP hD hS 0 rfl rfl 2 (by decide) (hts _ fl_RX3_18) (fun _ h => h) rfl hin rfl (tyX3_ok 2 (by decide)) rfl rfl (Nat.le_of_ble_eq_true rfl) dX3_init_25 (fun H locs hP hD hS => ?_)
  replace hP : va_P D vwCl ((([(a, .inr (3, [.ref q1, .ref q2, .ref q3, .null, .int 0, .int 0, .null, .null, .null, .int 0, .int 0, .int 0]))] ++ [(q1, .inl (cI, 8, .inl (z0.2.2 0)))]) ++ [(q2, .inl (cI, 8, .inl (z0.2.2 0)))]) ++ [(q3, .inl (cI, 8, .inl (z0.2.2 0)))]) H := hP
  replace hD : va_D A ((([(a, .inr (3, [.ref q1, .ref q2, .ref q3, .null, .int 0, .int 0, .null, .null, .null, .int 0, .int 0, .int 0]))] ++ [(q1, .inl (cI, 8, .inl (z0.2.2 0)))]) ++ [(q2, .inl (cI, 8, .inl (z0.2.2 0)))]) ++ [(q3, .inl (cI, 8, .inl (z0.2.2 0)))]) := hD
  refine lv_aload_n (pc := 28) hx hb dX3_init_28 rfl (lv_at hl 0 rfl) ?_
  refine lv_bipush (v := 8) (pc := 29) hx hb dX3_init_29 (by decide) ?_
  refine nwI (pc := 31) (N := 8) hx hb hK (hts _ ac_int) hP hD hS hA (by decide) rfl (Nat.le_of_ble_eq_true rfl) (Nat.le_of_ble_eq_true rfl) (Nat.le_of_ble_eq_true rfl) dX3_init_31 (fun q4 H hP hD hS => ?_)
  refine va_putF (pc := 33) (D := D) (ci := 3) (v := .ref q4) (ty := tyX3 3) (C := RX3) (T := TX3) (N := 12) hx hb hts iX3 tyX3 tyX3_ok nmX3 hown hK.1 hP hD hS 0 rfl rfl 3 (by decide) (hts _ fl_RX3_21) (fun _ h => h) rfl hin rfl (tyX3_ok 3 (by decide)) rfl rfl (Nat.le_of_ble_eq_true rfl) dX3_init_33 (fun H locs hP hD hS => ?_)
  replace hP : va_P D vwCl (((([(a, .inr (3, [.ref q1, .ref q2, .ref q3, .ref q4, .int 0, .int 0, .null, .null, .null, .int 0, .int 0, .int 0]))] ++ [(q1, .inl (cI, 8, .inl (z0.2.2 0)))]) ++ [(q2, .inl (cI, 8, .inl (z0.2.2 0)))]) ++ [(q3, .inl (cI, 8, .inl (z0.2.2 0)))]) ++ [(q4, .inl (cI, 8, .inl (z0.2.2 0)))]) H := hP
  replace hD : va_D A (((([(a, .inr (3, [.ref q1, .ref q2, .ref q3, .ref q4, .int 0, .int 0, .null, .null, .null, .int 0, .int 0, .int 0]))] ++ [(q1, .inl (cI, 8, .inl (z0.2.2 0)))]) ++ [(q2, .inl (cI, 8, .inl (z0.2.2 0)))]) ++ [(q3, .inl (cI, 8, .inl (z0.2.2 0)))]) ++ [(q4, .inl (cI, 8, .inl (z0.2.2 0)))]) := hD
  refine lv_aload_n (pc := 36) hx hb dX3_init_36 rfl (lv_at hl 0 rfl) ?_
  refine lv_iconst (v := 5) (pc := 37) hx hb dX3_init_37 (by decide) ?_
  refine nwI (pc := 38) (N := 5) hx hb hK (hts _ ac_int) hP hD hS hA (by decide) rfl (Nat.le_of_ble_eq_true rfl) (Nat.le_of_ble_eq_true rfl) (Nat.le_of_ble_eq_true rfl) dX3_init_38 (fun q5 H hP hD hS => ?_)
  refine va_putF (pc := 40) (D := D) (ci := 3) (v := .ref q5) (ty := tyX3 6) (C := RX3) (T := TX3) (N := 12) hx hb hts iX3 tyX3 tyX3_ok nmX3 hown hK.1 hP hD hS 0 rfl rfl 6 (by decide) (hts _ fl_RX3_24) (fun _ h => h) rfl hin rfl (tyX3_ok 6 (by decide)) rfl rfl (Nat.le_of_ble_eq_true rfl) dX3_init_40 (fun H locs hP hD hS => ?_)
  replace hP : va_P D vwCl ((((([(a, .inr (3, [.ref q1, .ref q2, .ref q3, .ref q4, .int 0, .int 0, .ref q5, .null, .null, .int 0, .int 0, .int 0]))] ++ [(q1, .inl (cI, 8, .inl (z0.2.2 0)))]) ++ [(q2, .inl (cI, 8, .inl (z0.2.2 0)))]) ++ [(q3, .inl (cI, 8, .inl (z0.2.2 0)))]) ++ [(q4, .inl (cI, 8, .inl (z0.2.2 0)))]) ++ [(q5, .inl (cI, 5, .inl (z0.2.2 0)))]) H := hP
  replace hD : va_D A ((((([(a, .inr (3, [.ref q1, .ref q2, .ref q3, .ref q4, .int 0, .int 0, .ref q5, .null, .null, .int 0, .int 0, .int 0]))] ++ [(q1, .inl (cI, 8, .inl (z0.2.2 0)))]) ++ [(q2, .inl (cI, 8, .inl (z0.2.2 0)))]) ++ [(q3, .inl (cI, 8, .inl (z0.2.2 0)))]) ++ [(q4, .inl (cI, 8, .inl (z0.2.2 0)))]) ++ [(q5, .inl (cI, 5, .inl (z0.2.2 0)))]) := hD
  refine lv_aload_n (pc := 43) hx hb dX3_init_43 rfl (lv_at hl 0 rfl) ?_
  refine lv_iconst (v := 5) (pc := 44) hx hb dX3_init_44 (by decide) ?_
  refine nwI (pc := 45) (N := 5) hx hb hK (hts _ ac_int) hP hD hS hA (by decide) rfl (Nat.le_of_ble_eq_true rfl) (Nat.le_of_ble_eq_true rfl) (Nat.le_of_ble_eq_true rfl) dX3_init_45 (fun q6 H hP hD hS => ?_)
  refine va_putF (pc := 47) (D := D) (ci := 3) (v := .ref q6) (ty := tyX3 7) (C := RX3) (T := TX3) (N := 12) hx hb hts iX3 tyX3 tyX3_ok nmX3 hown hK.1 hP hD hS 0 rfl rfl 7 (by decide) (hts _ fl_RX3_27) (fun _ h => h) rfl hin rfl (tyX3_ok 7 (by decide)) rfl rfl (Nat.le_of_ble_eq_true rfl) dX3_init_47 (fun H locs hP hD hS => ?_)
  replace hP : va_P D vwCl (((((([(a, .inr (3, [.ref q1, .ref q2, .ref q3, .ref q4, .int 0, .int 0, .ref q5, .ref q6, .null, .int 0, .int 0, .int 0]))] ++ [(q1, .inl (cI, 8, .inl (z0.2.2 0)))]) ++ [(q2, .inl (cI, 8, .inl (z0.2.2 0)))]) ++ [(q3, .inl (cI, 8, .inl (z0.2.2 0)))]) ++ [(q4, .inl (cI, 8, .inl (z0.2.2 0)))]) ++ [(q5, .inl (cI, 5, .inl (z0.2.2 0)))]) ++ [(q6, .inl (cI, 5, .inl (z0.2.2 0)))]) H := hP
  replace hD : va_D A (((((([(a, .inr (3, [.ref q1, .ref q2, .ref q3, .ref q4, .int 0, .int 0, .ref q5, .ref q6, .null, .int 0, .int 0, .int 0]))] ++ [(q1, .inl (cI, 8, .inl (z0.2.2 0)))]) ++ [(q2, .inl (cI, 8, .inl (z0.2.2 0)))]) ++ [(q3, .inl (cI, 8, .inl (z0.2.2 0)))]) ++ [(q4, .inl (cI, 8, .inl (z0.2.2 0)))]) ++ [(q5, .inl (cI, 5, .inl (z0.2.2 0)))]) ++ [(q6, .inl (cI, 5, .inl (z0.2.2 0)))]) := hD
  refine lv_aload_n (pc := 50) hx hb dX3_init_50 rfl (lv_at hl 0 rfl) ?_
  refine lv_iconst (v := 5) (pc := 51) hx hb dX3_init_51 (by decide) ?_
  refine nwI (pc := 52) (N := 5) hx hb hK (hts _ ac_int) hP hD hS hA (by decide) rfl (Nat.le_of_ble_eq_true rfl) (Nat.le_of_ble_eq_true rfl) (Nat.le_of_ble_eq_true rfl) dX3_init_52 (fun q7 H hP hD hS => ?_)
  refine va_putF (pc := 54) (D := D) (ci := 3) (v := .ref q7) (ty := tyX3 8) (C := RX3) (T := TX3) (N := 12) hx hb hts iX3 tyX3 tyX3_ok nmX3 hown hK.1 hP hD hS 0 rfl rfl 8 (by decide) (hts _ fl_RX3_30) (fun _ h => h) rfl hin rfl (tyX3_ok 8 (by decide)) rfl rfl (Nat.le_of_ble_eq_true rfl) dX3_init_54 (fun H locs hP hD hS => ?_)
  replace hP : va_P D vwCl ((((((([(a, .inr (3, [.ref q1, .ref q2, .ref q3, .ref q4, .int 0, .int 0, .ref q5, .ref q6, .ref q7, .int 0, .int 0, .int 0]))] ++ [(q1, .inl (cI, 8, .inl (z0.2.2 0)))]) ++ [(q2, .inl (cI, 8, .inl (z0.2.2 0)))]) ++ [(q3, .inl (cI, 8, .inl (z0.2.2 0)))]) ++ [(q4, .inl (cI, 8, .inl (z0.2.2 0)))]) ++ [(q5, .inl (cI, 5, .inl (z0.2.2 0)))]) ++ [(q6, .inl (cI, 5, .inl (z0.2.2 0)))]) ++ [(q7, .inl (cI, 5, .inl (z0.2.2 0)))]) H := hP
  replace hD : va_D A ((((((([(a, .inr (3, [.ref q1, .ref q2, .ref q3, .ref q4, .int 0, .int 0, .ref q5, .ref q6, .ref q7, .int 0, .int 0, .int 0]))] ++ [(q1, .inl (cI, 8, .inl (z0.2.2 0)))]) ++ [(q2, .inl (cI, 8, .inl (z0.2.2 0)))]) ++ [(q3, .inl (cI, 8, .inl (z0.2.2 0)))]) ++ [(q4, .inl (cI, 8, .inl (z0.2.2 0)))]) ++ [(q5, .inl (cI, 5, .inl (z0.2.2 0)))]) ++ [(q6, .inl (cI, 5, .inl (z0.2.2 0)))]) ++ [(q7, .inl (cI, 5, .inl (z0.2.2 0)))]) := hD
  exact W.vret hx hb hr (fun t ht hW => ⟨rfl, ⟨(fun k => if k = 8 then q7 else if k = 7 then q6 else if k = 6 then q5 else if k = 3 then q4 else if k = 2 then q3 else if k = 1 then q2 else if k = 0 then q1 else 0), by rw [ht]; exact hP, hD⟩, hS.F ht⟩) hS.2.2 dX3_init_57
set_option maxHeartbeats 8000000 in
set_option maxRecDepth 100000 in
theorem n_X2_init (l : Launch) (D : va_G) (cI cZ cS : ClassId) (a : Nat) : CtN (α := Nat → Nat) l yX2_init cX2_init 1 1 12 1 160 D cI cZ cS [.ref a] [(a, .inr (2, zf2))] (fun q => bX2 cI a q z0) := by
  intro sz
  refine Met.ofW (cc := cX2_init) (maxL := 1) (ret := none) (by decide +kernel) rfl ?_
  intro p e s m args below meth c s₁ B hml hv
  obtain ⟨rfl, hsz, hP, ⟨hK, hO⟩, hD0⟩ := hv
  have hx := B.exec
  have hb := B.bytes
  have hr := B.returns
  have hts0 := atoms_spec (ws := .code yX2_init cX2_init 1 none :: TB) B.pre
  have hts := fun w (h : w ∈ TB) => hts0 w (List.mem_cons_of_mem _ h)
  have hown : s.vm.findClass RX2 = some m.cls := findClass_of_methodNamed B.named
  have hlocks := B.notSynchronized
  have hin : meth.name = "<init>" := (name_of_methodNamed B.named B.method).1
  subst hsz
  have hD := hD0.self (sz := s.heap.size)
  generalize hAe : va_A [(a, .inr (2, zf2))] s.heap.size = A at hD ⊢
  have hA : ∀ q : Nat, s.heap.size ≤ q → A q := fun q h => by rw [← hAe]; exact Or.inr h
  have hS : va_S A s.heap s.heap [] := va_S.rf
  obtain ⟨H, hH⟩ : ∃ H, H = s.heap := ⟨_, rfl⟩
  rw [← hH] at hP
  have hS : va_S A s.heap H [] := by rw [hH]; exact hS
  have hl := lv_entry ([.ref a]) (n := 1) (Nat.le_of_ble_eq_true rfl)
  rw [lg_entry_eq]
  generalize (lg_sl ([.ref a]) ++ List.replicate (1 - (lg_sl ([.ref a])).length) Slot.unset).toArray = ls at hl ⊢
  have hl : lv_has ls 1 [(0, .ref a)] := hl
  refine W_heap hH ?_
  obtain ⟨locs, hlo⟩ : ∃ locs : List Loc, locs = [] := ⟨_, rfl⟩
  rw [← hlo] at hS ⊢
  refine lv_aload_n (pc := 0) hx hb dX2_init_0 rfl (lv_at hl 0 rfl) ?_
  refine W.objInit hx hb hown (hts _ ml_obj_RX2) (hts _ im_obj) (hts _ cd_obj) rfl (by rw [hml]; exact hl.1) rfl dX2_init_1 (Nat.le_of_ble_eq_true rfl) (Nat.le_of_ble_eq_true rfl) ?_
  refine W.eq (g2 := F0 m 4 ls []) rfl ?_
  refine lv_aload_n (pc := 4) hx hb dX2_init_4 rfl (lv_at hl 0 rfl) ?_
  refine lv_sipush (v := 160) (pc := 5) hx hb dX2_init_5 (by decide) ?_
  refine nwI (pc := 8) (N := 160) hx hb hK (hts _ ac_int) hP hD hS hA (by decide) rfl (Nat.le_of_ble_eq_true rfl) (Nat.le_of_ble_eq_true rfl) (Nat.le_of_ble_eq_true rfl) dX2_init_8 (fun q1 H hP hD hS => ?_)
  refine va_putF (pc := 10) (D := D) (ci := 2) (v := .ref q1) (ty := tyX2 0) (C := RX2) (T := TX2) (N := 7) hx hb hts iX2 tyX2 tyX2_ok nmX2 hown hK.1 hP hD hS 0 rfl rfl 0 (by decide) (hts _ fl_RX2_9) (fun _ h => h) rfl hin rfl (tyX2_ok 0 (by decide)) rfl rfl (Nat.le_of_ble_eq_true rfl) dX2_init_10 (fun H locs hP hD hS => ?_)
  replace hP : va_P D vwCl ([(a, .inr (2, [.ref q1, .int 0, .int 0, .int 0, .int 0, .int 0, .int 0]))] ++ [(q1, .inl (cI, 160, .inl (z0.2.2 0)))]) H := hP
  replace hD : va_D A ([(a, .inr (2, [.ref q1, .int 0, .int 0, .int 0, .int 0, .int 0, .int 0]))] ++ [(q1, .inl (cI, 160, .inl (z0.2.2 0)))]) := hD
  exact W.vret hx hb hr (fun t ht hW => ⟨rfl, ⟨(fun k => if k = 0 then q1 else 0), by rw [ht]; exact hP, hD⟩, hS.F ht⟩) hS.2.2 dX2_init_13
set_option maxHeartbeats 8000000 in
set_option maxRecDepth 100000 in
theorem n_X0_init (l : Launch) (D : va_G) (cI cZ cS : ClassId) (a : Nat) : CtN (α := Nat → Nat) l yX0_init cX0_init 1 2 32 6 68 D cI cZ cS [.ref a] [(a, .inr (0, zf0))] (fun q => bX0 cI a q z0 ++ (bX1 (q 13) z0 ++ bX1 (q 14) z0)) := by
  intro sz
  refine Met.ofW (cc := cX0_init) (maxL := 1) (ret := none) (by decide +kernel) rfl ?_
  intro p e s m args below meth c s₁ B hml hv
  obtain ⟨rfl, hsz, hP, ⟨hK, hO⟩, hD0⟩ := hv
  have hx := B.exec
  have hb := B.bytes
  have hr := B.returns
  have hts0 := atoms_spec (ws := .code yX0_init cX0_init 1 none :: TB) B.pre
  have hts := fun w (h : w ∈ TB) => hts0 w (List.mem_cons_of_mem _ h)
  have hown : s.vm.findClass RX0 = some m.cls := findClass_of_methodNamed B.named
  have hlocks := B.notSynchronized
  have hin : meth.name = "<init>" := (name_of_methodNamed B.named B.method).1
  subst hsz
  have hD := hD0.self (sz := s.heap.size)
  generalize hAe : va_A [(a, .inr (0, zf0))] s.heap.size = A at hD ⊢
  have hA : ∀ q : Nat, s.heap.size ≤ q → A q := fun q h => by rw [← hAe]; exact Or.inr h
  have hS : va_S A s.heap s.heap [] := va_S.rf
  obtain ⟨H, hH⟩ : ∃ H, H = s.heap := ⟨_, rfl⟩
  rw [← hH] at hP
  have hS : va_S A s.heap H [] := by rw [hH]; exact hS
  have hl := lv_entry ([.ref a]) (n := 1) (Nat.le_of_ble_eq_true rfl)
  rw [lg_entry_eq]
  generalize (lg_sl ([.ref a]) ++ List.replicate (1 - (lg_sl ([.ref a])).length) Slot.unset).toArray = ls at hl ⊢
  have hl : lv_has ls 1 [(0, .ref a)] := hl
  refine W_heap hH ?_
  obtain ⟨locs, hlo⟩ : ∃ locs : List Loc, locs = [] := ⟨_, rfl⟩
  rw [← hlo] at hS ⊢
  refine lv_aload_n (pc := 0) hx hb dX0_init_0 rfl (lv_at hl 0 rfl) ?_
  refine W.objInit hx hb hown (hts _ ml_obj_RX0) (hts _ im_obj) (hts _ cd_obj) rfl (by rw [hml]; exact hl.1) rfl dX0_init_1 (Nat.le_of_ble_eq_true rfl) (Nat.le_of_ble_eq_true rfl) ?_
  refine W.eq (g2 := F0 m 4 ls []) rfl ?_
  refine lv_aload_n (pc := 4) hx hb dX0_init_4 rfl (lv_at hl 0 rfl) ?_
  refine lv_bipush (v := 9) (pc := 5) hx hb dX0_init_5 (by decide) ?_
  refine nwI (pc := 7) (N := 9) hx hb hK (hts _ ac_int) hP hD hS hA (by decide) rfl (Nat.le_of_ble_eq_true rfl) (Nat.le_of_ble_eq_true rfl) (Nat.le_of_ble_eq_true rfl) dX0_init_7 (fun q1 H hP hD hS => ?_)
  refine va_putF (pc := 9) (D := D) (ci := 0) (v := .ref q1) (ty := tyX0 0) (C := RX0) (T := TX0) (N := 15) hx hb hts iX0 tyX0 tyX0_ok nmX0 hown hK.1 hP hD hS 0 rfl rfl 0 (by decide) (hts _ fl_RX0_11) (fun _ h => h) rfl hin rfl (tyX0_ok 0 (by decide)) rfl rfl (Nat.le_of_ble_eq_true rfl) dX0_init_9 (fun H locs hP hD hS => ?_)
  replace hP : va_P D vwCl ([(a, .inr (0, [.ref q1, .null, .null, .null, .int 0, .long 0, .long 0, .long 0, .int 0, .int 0, .int 0, .int 0, .int 0, .null, .null]))] ++ [(q1, .inl (cI, 9, .inl (z0.2.2 0)))]) H := hP
  replace hD : va_D A ([(a, .inr (0, [.ref q1, .null, .null, .null, .int 0, .long 0, .long 0, .long 0, .int 0, .int 0, .int 0, .int 0, .int 0, .null, .null]))] ++ [(q1, .inl (cI, 9, .inl (z0.2.2 0)))]) := hD
  refine lv_aload_n (pc := 12) hx hb dX0_init_12 rfl (lv_at hl 0 rfl) ?_
  refine lv_bipush (v := 9) (pc := 13) hx hb dX0_init_13 (by decide) ?_
  refine nwI (pc := 15) (N := 9) hx hb hK (hts _ ac_int) hP hD hS hA (by decide) rfl (Nat.le_of_ble_eq_true rfl) (Nat.le_of_ble_eq_true rfl) (Nat.le_of_ble_eq_true rfl) dX0_init_15 (fun q2 H hP hD hS => ?_)
  refine va_putF (pc := 17) (D := D) (ci := 0) (v := .ref q2) (ty := tyX0 1) (C := RX0) (T := TX0) (N := 15) hx hb hts iX0 tyX0 tyX0_ok nmX0 hown hK.1 hP hD hS 0 rfl rfl 1 (by decide) (hts _ fl_RX0_15) (fun _ h => h) rfl hin rfl (tyX0_ok 1 (by decide)) rfl rfl (Nat.le_of_ble_eq_true rfl) dX0_init_17 (fun H locs hP hD hS => ?_)
  replace hP : va_P D vwCl (([(a, .inr (0, [.ref q1, .ref q2, .null, .null, .int 0, .long 0, .long 0, .long 0, .int 0, .int 0, .int 0, .int 0, .int 0, .null, .null]))] ++ [(q1, .inl (cI, 9, .inl (z0.2.2 0)))]) ++ [(q2, .inl (cI, 9, .inl (z0.2.2 0)))]) H := hP
  replace hD : va_D A (([(a, .inr (0, [.ref q1, .ref q2, .null, .null, .int 0, .long 0, .long 0, .long 0, .int 0, .int 0, .int 0, .int 0, .int 0, .null, .null]))] ++ [(q1, .inl (cI, 9, .inl (z0.2.2 0)))]) ++ [(q2, .inl (cI, 9, .inl (z0.2.2 0)))]) := hD
  refine lv_aload_n (pc := 20) hx hb dX0_init_20 rfl (lv_at hl 0 rfl) ?_
  refine lv_bipush (v := 9) (pc := 21) hx hb dX0_init_21 (by decide) ?_
  refine nwI (pc := 23) (N := 9) hx hb hK (hts _ ac_int) hP hD hS hA (by decide) rfl (Nat.le_of_ble_eq_true rfl) (Nat.le_of_ble_eq_true rfl) (Nat.le_of_ble_eq_true rfl) dX0_init_23 (fun q3 H hP hD hS => ?_)
  refine va_putF (pc := 25) (D := D) (ci := 0) (v := .ref q3) (ty := tyX0 2) (C := RX0) (T := TX0) (N := 15) hx hb hts iX0 tyX0 tyX0_ok nmX0 hown hK.1 hP hD hS 0 rfl rfl 2 (by decide) (hts _ fl_RX0_18) (fun _ h => h) rfl hin rfl (tyX0_ok 2 (by decide)) rfl rfl (Nat.le_of_ble_eq_true rfl) dX0_init_25 (fun H locs hP hD hS => ?_)
  replace hP : va_P D vwCl ((([(a, .inr (0, [.ref q1, .ref q2, .ref q3, .null, .int 0, .long 0, .long 0, .long 0, .int 0, .int 0, .int 0, .int 0, .int 0, .null, .null]))] ++ [(q1, .inl (cI, 9, .inl (z0.2.2 0)))]) ++ [(q2, .inl (cI, 9, .inl (z0.2.2 0)))]) ++ [(q3, .inl (cI, 9, .inl (z0.2.2 0)))]) H := hP
  replace hD : va_D A ((([(a, .inr (0, [.ref q1, .ref q2, .ref q3, .null, .int 0, .long 0, .long 0, .long 0, .int 0, .int 0, .int 0, .int 0, .int 0, .null, .null]))] ++ [(q1, .inl (cI, 9, .inl (z0.2.2 0)))]) ++ [(q2, .inl (cI, 9, .inl (z0.2.2 0)))]) ++ [(q3, .inl (cI, 9, .inl (z0.2.2 0)))]) := hD
  refine lv_aload_n (pc := 28) hx hb dX0_init_28 rfl (lv_at hl 0 rfl) ?_
  refine lv_bipush (v := 9) (pc := 29) hx hb dX0_init_29 (by decide) ?_
  refine nwI (pc := 31) (N := 9) hx hb hK (hts _ ac_int) hP hD hS hA (by decide) rfl (Nat.le_of_ble_eq_true rfl) (Nat.le_of_ble_eq_true rfl) (Nat.le_of_ble_eq_true rfl) dX0_init_31 (fun q4 H hP hD hS => ?_)
  refine va_putF (pc := 33) (D := D) (ci := 0) (v := .ref q4) (ty := tyX0 3) (C := RX0) (T := TX0) (N := 15) hx hb hts iX0 tyX0 tyX0_ok nmX0 hown hK.1 hP hD hS 0 rfl rfl 3 (by decide) (hts _ fl_RX0_21) (fun _ h => h) rfl hin rfl (tyX0_ok 3 (by decide)) rfl rfl (Nat.le_of_ble_eq_true rfl) dX0_init_33 (fun H locs hP hD hS => ?_)
  replace hP : va_P D vwCl (((([(a, .inr (0, [.ref q1, .ref q2, .ref q3, .ref q4, .int 0, .long 0, .long 0, .long 0, .int 0, .int 0, .int 0, .int 0, .int 0, .null, .null]))] ++ [(q1, .inl (cI, 9, .inl (z0.2.2 0)))]) ++ [(q2, .inl (cI, 9, .inl (z0.2.2 0)))]) ++ [(q3, .inl (cI, 9, .inl (z0.2.2 0)))]) ++ [(q4, .inl (cI, 9, .inl (z0.2.2 0)))]) H := hP
  replace hD : va_D A (((([(a, .inr (0, [.ref q1, .ref q2, .ref q3, .ref q4, .int 0, .long 0, .long 0, .long 0, .int 0, .int 0, .int 0, .int 0, .int 0, .null, .null]))] ++ [(q1, .inl (cI, 9, .inl (z0.2.2 0)))]) ++ [(q2, .inl (cI, 9, .inl (z0.2.2 0)))]) ++ [(q3, .inl (cI, 9, .inl (z0.2.2 0)))]) ++ [(q4, .inl (cI, 9, .inl (z0.2.2 0)))]) := hD
  refine lv_aload_n (pc := 36) hx hb dX0_init_36 rfl (lv_at hl 0 rfl) ?_
  refine va_new (pc := 37) (ci := 1) (fs := zf1) (C := RX1) (T := TX1) (N := 16) hx hb hts iX1 tyX1 tyX1_ok hown (hts _ cl_RX0_24) (hts _ it_RX1) (hts _ in_RX1) hK.1 hP hD hS hA rfl zf_1 (Nat.le_of_ble_eq_true rfl) (Nat.le_of_ble_eq_true rfl) dX0_init_37 (fun q5 H hP hD hS => ?_)
  refine lv_dup (pc := 40) hx hb dX0_init_40 rfl ?_
  refine ct_IN (pc := 41) (ws := (((([(a, .inr (0, [.ref q1, .ref q2, .ref q3, .ref q4, .int 0, .long 0, .long 0, .long 0, .int 0, .int 0, .int 0, .int 0, .int 0, .null, .null]))] ++ [(q1, .inl (cI, 9, .inl (z0.2.2 0)))]) ++ [(q2, .inl (cI, 9, .inl (z0.2.2 0)))]) ++ [(q3, .inl (cI, 9, .inl (z0.2.2 0)))]) ++ [(q4, .inl (cI, 9, .inl (z0.2.2 0)))])) ⟨hx, hb, hml, hown, hts⟩ hK hO (n_X1_init l D cI cZ cS q5) cd_X1_init (hK.2 _ nf_RX0_26) in_RX1 im_X1_init rfl hs_X1_init ⟨Nat.le_of_ble_eq_true rfl, Nat.le_of_ble_eq_true rfl⟩ hl.1 (Nat.le_of_ble_eq_true rfl) dX0_init_41 ⟨Nat.le_of_ble_eq_true rfl, Nat.le_of_ble_eq_true rfl⟩ hP hD hS hA (fun w6 H locs hP hD hS => ?_)
  refine va_putF (pc := 44) (D := D) (ci := 0) (v := .ref q5) (ty := tyX0 13) (C := RX0) (T := TX0) (N := 15) hx hb hts iX0 tyX0 tyX0_ok nmX0 hown hK.1 hP hD hS 0 rfl rfl 13 (by decide) (hts _ fl_RX0_27) (fun _ h => h) rfl hin rfl (tyX0_ok 13 (by decide)) rfl rfl (Nat.le_of_ble_eq_true rfl) dX0_init_44 (fun H locs hP hD hS => ?_)
  replace hP : va_P D vwCl ((((([(a, .inr (0, [.ref q1, .ref q2, .ref q3, .ref q4, .int 0, .long 0, .long 0, .long 0, .int 0, .int 0, .int 0, .int 0, .int 0, .ref q5, .null]))] ++ [(q1, .inl (cI, 9, .inl (z0.2.2 0)))]) ++ [(q2, .inl (cI, 9, .inl (z0.2.2 0)))]) ++ [(q3, .inl (cI, 9, .inl (z0.2.2 0)))]) ++ [(q4, .inl (cI, 9, .inl (z0.2.2 0)))]) ++ bX1 q5 z0) H := hP
  replace hD : va_D A ((((([(a, .inr (0, [.ref q1, .ref q2, .ref q3, .ref q4, .int 0, .long 0, .long 0, .long 0, .int 0, .int 0, .int 0, .int 0, .int 0, .ref q5, .null]))] ++ [(q1, .inl (cI, 9, .inl (z0.2.2 0)))]) ++ [(q2, .inl (cI, 9, .inl (z0.2.2 0)))]) ++ [(q3, .inl (cI, 9, .inl (z0.2.2 0)))]) ++ [(q4, .inl (cI, 9, .inl (z0.2.2 0)))]) ++ bX1 q5 z0) := hD
  refine lv_aload_n (pc := 47) hx hb dX0_init_47 rfl (lv_at hl 0 rfl) ?_
  refine va_new (pc := 48) (ci := 1) (fs := zf1) (C := RX1) (T := TX1) (N := 16) hx hb hts iX1 tyX1 tyX1_ok hown (hts _ cl_RX0_24) (hts _ it_RX1) (hts _ in_RX1) hK.1 hP hD hS hA rfl zf_1 (Nat.le_of_ble_eq_true rfl) (Nat.le_of_ble_eq_true rfl) dX0_init_48 (fun q7 H hP hD hS => ?_)
  refine lv_dup (pc := 51) hx hb dX0_init_51 rfl ?_
  refine ct_IN (pc := 52) (ws := ((((([(a, .inr (0, [.ref q1, .ref q2, .ref q3, .ref q4, .int 0, .long 0, .long 0, .long 0, .int 0, .int 0, .int 0, .int 0, .int 0, .ref q5, .null]))] ++ [(q1, .inl (cI, 9, .inl (z0.2.2 0)))]) ++ [(q2, .inl (cI, 9, .inl (z0.2.2 0)))]) ++ [(q3, .inl (cI, 9, .inl (z0.2.2 0)))]) ++ [(q4, .inl (cI, 9, .inl (z0.2.2 0)))]) ++ bX1 q5 z0)) ⟨hx, hb, hml, hown, hts⟩ hK hO (n_X1_init l D cI cZ cS q7) cd_X1_init (hK.2 _ nf_RX0_26) in_RX1 im_X1_init rfl hs_X1_init ⟨Nat.le_of_ble_eq_true rfl, Nat.le_of_ble_eq_true rfl⟩ hl.1 (Nat.le_of_ble_eq_true rfl) dX0_init_52 ⟨Nat.le_of_ble_eq_true rfl, Nat.le_of_ble_eq_true rfl⟩ hP hD hS hA (fun w8 H locs hP hD hS => ?_)
  refine va_putF (pc := 55) (D := D) (ci := 0) (v := .ref q7) (ty := tyX0 14) (C := RX0) (T := TX0) (N := 15) hx hb hts iX0 tyX0 tyX0_ok nmX0 hown hK.1 hP hD hS 0 rfl rfl 14 (by decide) (hts _ fl_RX0_31) (fun _ h => h) rfl hin rfl (tyX0_ok 14 (by decide)) rfl rfl (Nat.le_of_ble_eq_true rfl) dX0_init_55 (fun H locs hP hD hS => ?_)
  replace hP : va_P D vwCl (((((([(a, .inr (0, [.ref q1, .ref q2, .ref q3, .ref q4, .int 0, .long 0, .long 0, .long 0, .int 0, .int 0, .int 0, .int 0, .int 0, .ref q5, .ref q7]))] ++ [(q1, .inl (cI, 9, .inl (z0.2.2 0)))]) ++ [(q2, .inl (cI, 9, .inl (z0.2.2 0)))]) ++ [(q3, .inl (cI, 9, .inl (z0.2.2 0)))]) ++ [(q4, .inl (cI, 9, .inl (z0.2.2 0)))]) ++ bX1 q5 z0) ++ bX1 q7 z0) H := hP
  replace hD : va_D A (((((([(a, .inr (0, [.ref q1, .ref q2, .ref q3, .ref q4, .int 0, .long 0, .long 0, .long 0, .int 0, .int 0, .int 0, .int 0, .int 0, .ref q5, .ref q7]))] ++ [(q1, .inl (cI, 9, .inl (z0.2.2 0)))]) ++ [(q2, .inl (cI, 9, .inl (z0.2.2 0)))]) ++ [(q3, .inl (cI, 9, .inl (z0.2.2 0)))]) ++ [(q4, .inl (cI, 9, .inl (z0.2.2 0)))]) ++ bX1 q5 z0) ++ bX1 q7 z0) := hD
  exact W.vret hx hb hr (fun t ht hW => ⟨rfl, ⟨(fun k => if k = 14 then q7 else if k = 13 then q5 else if k = 3 then q4 else if k = 2 then q3 else if k = 1 then q2 else if k = 0 then q1 else 0), by rw [ht]; exact hP, hD⟩, hS.F ht⟩) hS.2.2 dX0_init_58
set_option maxHeartbeats 8000000 in
set_option maxRecDepth 100000 in
theorem n_X5_init (l : Launch) (D : va_G) (cI cZ cS : ClassId) (a : Nat) : CtN (α := Nat → Nat) l yX5_init cX5_init 1 1 12 14 4149 D cI cZ cS [.ref a] [(a, .inr (5, zf5))] (fun q => bX5 cI cZ a q (sI z0 5 10)) := by
  intro sz
  refine Met.ofW (cc := cX5_init) (maxL := 1) (ret := none) (by decide +kernel) rfl ?_
  intro p e s m args below meth c s₁ B hml hv
  obtain ⟨rfl, hsz, hP, ⟨hK, hO⟩, hD0⟩ := hv
  have hx := B.exec
  have hb := B.bytes
  have hr := B.returns
  have hts0 := atoms_spec (ws := .code yX5_init cX5_init 1 none :: TB) B.pre
  have hts := fun w (h : w ∈ TB) => hts0 w (List.mem_cons_of_mem _ h)
  have hown : s.vm.findClass RX5 = some m.cls := findClass_of_methodNamed B.named
  have hlocks := B.notSynchronized
  have hin : meth.name = "<init>" := (name_of_methodNamed B.named B.method).1
  subst hsz
  have hD := hD0.self (sz := s.heap.size)
  generalize hAe : va_A [(a, .inr (5, zf5))] s.heap.size = A at hD ⊢
  have hA : ∀ q : Nat, s.heap.size ≤ q → A q := fun q h => by rw [← hAe]; exact Or.inr h
  have hS : va_S A s.heap s.heap [] := va_S.rf
  obtain ⟨H, hH⟩ : ∃ H, H = s.heap := ⟨_, rfl⟩
  rw [← hH] at hP
  have hS : va_S A s.heap H [] := by rw [hH]; exact hS
  have hl := lv_entry ([.ref a]) (n := 1) (Nat.le_of_ble_eq_true rfl)
  rw [lg_entry_eq]
  generalize (lg_sl ([.ref a]) ++ List.replicate (1 - (lg_sl ([.ref a])).length) Slot.unset).toArray = ls at hl ⊢
  have hl : lv_has ls 1 [(0, .ref a)] := hl
  refine W_heap hH ?_
  obtain ⟨locs, hlo⟩ : ∃ locs : List Loc, locs = [] := ⟨_, rfl⟩
  rw [← hlo] at hS ⊢
  refine lv_aload_n (pc := 0) hx hb dX5_init_0 rfl (lv_at hl 0 rfl) ?_
  refine W.objInit hx hb hown (hts _ ml_obj_RX5) (hts _ im_obj) (hts _ cd_obj) rfl (by rw [hml]; exact hl.1) rfl dX5_init_1 (Nat.le_of_ble_eq_true rfl) (Nat.le_of_ble_eq_true rfl) ?_
  refine W.eq (g2 := F0 m 4 ls []) rfl ?_
  refine lv_aload_n (pc := 4) hx hb dX5_init_4 rfl (lv_at hl 0 rfl) ?_
  refine lv_bipush (v := 59) (pc := 5) hx hb dX5_init_5 (by decide) ?_
  refine nwI (pc := 7) (N := 59) hx hb hK (hts _ ac_int) hP hD hS hA (by decide) rfl (Nat.le_of_ble_eq_true rfl) (Nat.le_of_ble_eq_true rfl) (Nat.le_of_ble_eq_true rfl) dX5_init_7 (fun q1 H hP hD hS => ?_)
  refine va_putF (pc := 9) (D := D) (ci := 5) (v := .ref q1) (ty := tyX5 0) (C := RX5) (T := TX5) (N := 41) hx hb hts iX5 tyX5 tyX5_ok nmX5 hown hK.1 hP hD hS 0 rfl rfl 0 (by decide) (hts _ fl_RX5_7) (fun _ h => h) rfl hin rfl (tyX5_ok 0 (by decide)) rfl rfl (Nat.le_of_ble_eq_true rfl) dX5_init_9 (fun H locs hP hD hS => ?_)
  replace hP : va_P D vwCl ([(a, .inr (5, [.ref q1, .null, .int 0, .null, .null, .int 0, .null, .int 0, .null, .int 0, .int 0, .int 0, .int 0, .int 0, .int 0, .null, .int 0, .null, .null, .null, .null, .int 0, .int 0, .long 0, .long 0, .long 0, .int 0, .int 0, .int 0, .long 0, .long 0, .long 0, .long 0, .long 0, .long 0, .int 0, .null, .null, .int 0, .int 0, .null]))] ++ [(q1, .inl (cI, 59, .inl (z0.2.2 0)))]) H := hP
  replace hD : va_D A ([(a, .inr (5, [.ref q1, .null, .int 0, .null, .null, .int 0, .null, .int 0, .null, .int 0, .int 0, .int 0, .int 0, .int 0, .int 0, .null, .int 0, .null, .null, .null, .null, .int 0, .int 0, .long 0, .long 0, .long 0, .int 0, .int 0, .int 0, .long 0, .long 0, .long 0, .long 0, .long 0, .long 0, .int 0, .null, .null, .int 0, .int 0, .null]))] ++ [(q1, .inl (cI, 59, .inl (z0.2.2 0)))]) := hD
  refine lv_aload_n (pc := 12) hx hb dX5_init_12 rfl (lv_at hl 0 rfl) ?_
  refine lv_sipush (v := 354) (pc := 13) hx hb dX5_init_13 (by decide) ?_
  refine nwI (pc := 16) (N := 354) hx hb hK (hts _ ac_int) hP hD hS hA (by decide) rfl (Nat.le_of_ble_eq_true rfl) (Nat.le_of_ble_eq_true rfl) (Nat.le_of_ble_eq_true rfl) dX5_init_16 (fun q2 H hP hD hS => ?_)
  refine va_putF (pc := 18) (D := D) (ci := 5) (v := .ref q2) (ty := tyX5 1) (C := RX5) (T := TX5) (N := 41) hx hb hts iX5 tyX5 tyX5_ok nmX5 hown hK.1 hP hD hS 0 rfl rfl 1 (by decide) (hts _ fl_RX5_13) (fun _ h => h) rfl hin rfl (tyX5_ok 1 (by decide)) rfl rfl (Nat.le_of_ble_eq_true rfl) dX5_init_18 (fun H locs hP hD hS => ?_)
  replace hP : va_P D vwCl (([(a, .inr (5, [.ref q1, .ref q2, .int 0, .null, .null, .int 0, .null, .int 0, .null, .int 0, .int 0, .int 0, .int 0, .int 0, .int 0, .null, .int 0, .null, .null, .null, .null, .int 0, .int 0, .long 0, .long 0, .long 0, .int 0, .int 0, .int 0, .long 0, .long 0, .long 0, .long 0, .long 0, .long 0, .int 0, .null, .null, .int 0, .int 0, .null]))] ++ [(q1, .inl (cI, 59, .inl (z0.2.2 0)))]) ++ [(q2, .inl (cI, 354, .inl (z0.2.2 0)))]) H := hP
  replace hD : va_D A (([(a, .inr (5, [.ref q1, .ref q2, .int 0, .null, .null, .int 0, .null, .int 0, .null, .int 0, .int 0, .int 0, .int 0, .int 0, .int 0, .null, .int 0, .null, .null, .null, .null, .int 0, .int 0, .long 0, .long 0, .long 0, .int 0, .int 0, .int 0, .long 0, .long 0, .long 0, .long 0, .long 0, .long 0, .int 0, .null, .null, .int 0, .int 0, .null]))] ++ [(q1, .inl (cI, 59, .inl (z0.2.2 0)))]) ++ [(q2, .inl (cI, 354, .inl (z0.2.2 0)))]) := hD
  refine lv_aload_n (pc := 21) hx hb dX5_init_21 rfl (lv_at hl 0 rfl) ?_
  refine lv_bipush (v := 118) (pc := 22) hx hb dX5_init_22 (by decide) ?_
  refine nwI (pc := 24) (N := 118) hx hb hK (hts _ ac_int) hP hD hS hA (by decide) rfl (Nat.le_of_ble_eq_true rfl) (Nat.le_of_ble_eq_true rfl) (Nat.le_of_ble_eq_true rfl) dX5_init_24 (fun q3 H hP hD hS => ?_)
  refine va_putF (pc := 26) (D := D) (ci := 5) (v := .ref q3) (ty := tyX5 3) (C := RX5) (T := TX5) (N := 41) hx hb hts iX5 tyX5 tyX5_ok nmX5 hown hK.1 hP hD hS 0 rfl rfl 3 (by decide) (hts _ fl_RX5_16) (fun _ h => h) rfl hin rfl (tyX5_ok 3 (by decide)) rfl rfl (Nat.le_of_ble_eq_true rfl) dX5_init_26 (fun H locs hP hD hS => ?_)
  replace hP : va_P D vwCl ((([(a, .inr (5, [.ref q1, .ref q2, .int 0, .ref q3, .null, .int 0, .null, .int 0, .null, .int 0, .int 0, .int 0, .int 0, .int 0, .int 0, .null, .int 0, .null, .null, .null, .null, .int 0, .int 0, .long 0, .long 0, .long 0, .int 0, .int 0, .int 0, .long 0, .long 0, .long 0, .long 0, .long 0, .long 0, .int 0, .null, .null, .int 0, .int 0, .null]))] ++ [(q1, .inl (cI, 59, .inl (z0.2.2 0)))]) ++ [(q2, .inl (cI, 354, .inl (z0.2.2 0)))]) ++ [(q3, .inl (cI, 118, .inl (z0.2.2 0)))]) H := hP
  replace hD : va_D A ((([(a, .inr (5, [.ref q1, .ref q2, .int 0, .ref q3, .null, .int 0, .null, .int 0, .null, .int 0, .int 0, .int 0, .int 0, .int 0, .int 0, .null, .int 0, .null, .null, .null, .null, .int 0, .int 0, .long 0, .long 0, .long 0, .int 0, .int 0, .int 0, .long 0, .long 0, .long 0, .long 0, .long 0, .long 0, .int 0, .null, .null, .int 0, .int 0, .null]))] ++ [(q1, .inl (cI, 59, .inl (z0.2.2 0)))]) ++ [(q2, .inl (cI, 354, .inl (z0.2.2 0)))]) ++ [(q3, .inl (cI, 118, .inl (z0.2.2 0)))]) := hD
  refine lv_aload_n (pc := 29) hx hb dX5_init_29 rfl (lv_at hl 0 rfl) ?_
  refine lv_iconst (v := 2) (pc := 30) hx hb dX5_init_30 (by decide) ?_
  refine nwZ (pc := 31) (N := 2) hx hb hK (hts _ ac_bool) hP hD hS hA (by decide) rfl (Nat.le_of_ble_eq_true rfl) (Nat.le_of_ble_eq_true rfl) (Nat.le_of_ble_eq_true rfl) dX5_init_31 (fun q4 H hP hD hS => ?_)
  refine va_putF (pc := 33) (D := D) (ci := 5) (v := .ref q4) (ty := tyX5 4) (C := RX5) (T := TX5) (N := 41) hx hb hts iX5 tyX5 tyX5_ok nmX5 hown hK.1 hP hD hS 0 rfl rfl 4 (by decide) (hts _ fl_RX5_19) (fun _ h => h) rfl hin rfl (tyX5_ok 4 (by decide)) rfl rfl (Nat.le_of_ble_eq_true rfl) dX5_init_33 (fun H locs hP hD hS => ?_)
  replace hP : va_P D vwCl (((([(a, .inr (5, [.ref q1, .ref q2, .int 0, .ref q3, .ref q4, .int 0, .null, .int 0, .null, .int 0, .int 0, .int 0, .int 0, .int 0, .int 0, .null, .int 0, .null, .null, .null, .null, .int 0, .int 0, .long 0, .long 0, .long 0, .int 0, .int 0, .int 0, .long 0, .long 0, .long 0, .long 0, .long 0, .long 0, .int 0, .null, .null, .int 0, .int 0, .null]))] ++ [(q1, .inl (cI, 59, .inl (z0.2.2 0)))]) ++ [(q2, .inl (cI, 354, .inl (z0.2.2 0)))]) ++ [(q3, .inl (cI, 118, .inl (z0.2.2 0)))]) ++ [(q4, .inl (cZ, 2, .inl (z0.2.2 0)))]) H := hP
  replace hD : va_D A (((([(a, .inr (5, [.ref q1, .ref q2, .int 0, .ref q3, .ref q4, .int 0, .null, .int 0, .null, .int 0, .int 0, .int 0, .int 0, .int 0, .int 0, .null, .int 0, .null, .null, .null, .null, .int 0, .int 0, .long 0, .long 0, .long 0, .int 0, .int 0, .int 0, .long 0, .long 0, .long 0, .long 0, .long 0, .long 0, .int 0, .null, .null, .int 0, .int 0, .null]))] ++ [(q1, .inl (cI, 59, .inl (z0.2.2 0)))]) ++ [(q2, .inl (cI, 354, .inl (z0.2.2 0)))]) ++ [(q3, .inl (cI, 118, .inl (z0.2.2 0)))]) ++ [(q4, .inl (cZ, 2, .inl (z0.2.2 0)))]) := hD
  refine lv_aload_n (pc := 36) hx hb dX5_init_36 rfl (lv_at hl 0 rfl) ?_
  refine lv_bipush (v := 10) (pc := 37) hx hb dX5_init_37 (by decide) ?_
  refine va_put (pc := 39) (D := D) (ci := 5) (v := .int 10) (ty := tyX5 5) (C := RX5) (T := TX5) (N := 41) hx hb hts iX5 tyX5 tyX5_ok nmX5 hown hK.1 hP hD hS 0 rfl rfl 5 (by decide) (hts _ fl_RX5_23) (fun _ h => h) rfl (tyX5_ok 5 (by decide)) rfl rfl (Nat.le_of_ble_eq_true rfl) dX5_init_39 (fun H locs hP hD hS => ?_)
  replace hP : va_P D vwCl (((([(a, .inr (5, [.ref q1, .ref q2, .int 0, .ref q3, .ref q4, .int 10, .null, .int 0, .null, .int 0, .int 0, .int 0, .int 0, .int 0, .int 0, .null, .int 0, .null, .null, .null, .null, .int 0, .int 0, .long 0, .long 0, .long 0, .int 0, .int 0, .int 0, .long 0, .long 0, .long 0, .long 0, .long 0, .long 0, .int 0, .null, .null, .int 0, .int 0, .null]))] ++ [(q1, .inl (cI, 59, .inl (z0.2.2 0)))]) ++ [(q2, .inl (cI, 354, .inl (z0.2.2 0)))]) ++ [(q3, .inl (cI, 118, .inl (z0.2.2 0)))]) ++ [(q4, .inl (cZ, 2, .inl (z0.2.2 0)))]) H := hP
  replace hD : va_D A (((([(a, .inr (5, [.ref q1, .ref q2, .int 0, .ref q3, .ref q4, .int 10, .null, .int 0, .null, .int 0, .int 0, .int 0, .int 0, .int 0, .int 0, .null, .int 0, .null, .null, .null, .null, .int 0, .int 0, .long 0, .long 0, .long 0, .int 0, .int 0, .int 0, .long 0, .long 0, .long 0, .long 0, .long 0, .long 0, .int 0, .null, .null, .int 0, .int 0, .null]))] ++ [(q1, .inl (cI, 59, .inl (z0.2.2 0)))]) ++ [(q2, .inl (cI, 354, .inl (z0.2.2 0)))]) ++ [(q3, .inl (cI, 118, .inl (z0.2.2 0)))]) ++ [(q4, .inl (cZ, 2, .inl (z0.2.2 0)))]) := hD
  refine lv_aload_n (pc := 42) hx hb dX5_init_42 rfl (lv_at hl 0 rfl) ?_
  refine lv_bipush (v := 12) (pc := 43) hx hb dX5_init_43 (by decide) ?_
  refine nwI (pc := 45) (N := 12) hx hb hK (hts _ ac_int) hP hD hS hA (by decide) rfl (Nat.le_of_ble_eq_true rfl) (Nat.le_of_ble_eq_true rfl) (Nat.le_of_ble_eq_true rfl) dX5_init_45 (fun q5 H hP hD hS => ?_)
  refine va_putF (pc := 47) (D := D) (ci := 5) (v := .ref q5) (ty := tyX5 6) (C := RX5) (T := TX5) (N := 41) hx hb hts iX5 tyX5 tyX5_ok nmX5 hown hK.1 hP hD hS 0 rfl rfl 6 (by decide) (hts _ fl_RX5_27) (fun _ h => h) rfl hin rfl (tyX5_ok 6 (by decide)) rfl rfl (Nat.le_of_ble_eq_true rfl) dX5_init_47 (fun H locs hP hD hS => ?_)
  replace hP : va_P D vwCl ((((([(a, .inr (5, [.ref q1, .ref q2, .int 0, .ref q3, .ref q4, .int 10, .ref q5, .int 0, .null, .int 0, .int 0, .int 0, .int 0, .int 0, .int 0, .null, .int 0, .null, .null, .null, .null, .int 0, .int 0, .long 0, .long 0, .long 0, .int 0, .int 0, .int 0, .long 0, .long 0, .long 0, .long 0, .long 0, .long 0, .int 0, .null, .null, .int 0, .int 0, .null]))] ++ [(q1, .inl (cI, 59, .inl (z0.2.2 0)))]) ++ [(q2, .inl (cI, 354, .inl (z0.2.2 0)))]) ++ [(q3, .inl (cI, 118, .inl (z0.2.2 0)))]) ++ [(q4, .inl (cZ, 2, .inl (z0.2.2 0)))]) ++ [(q5, .inl (cI, 12, .inl (z0.2.2 0)))]) H := hP
  replace hD : va_D A ((((([(a, .inr (5, [.ref q1, .ref q2, .int 0, .ref q3, .ref q4, .int 10, .ref q5, .int 0, .null, .int 0, .int 0, .int 0, .int 0, .int 0, .int 0, .null, .int 0, .null, .null, .null, .null, .int 0, .int 0, .long 0, .long 0, .long 0, .int 0, .int 0, .int 0, .long 0, .long 0, .long 0, .long 0, .long 0, .long 0, .int 0, .null, .null, .int 0, .int 0, .null]))] ++ [(q1, .inl (cI, 59, .inl (z0.2.2 0)))]) ++ [(q2, .inl (cI, 354, .inl (z0.2.2 0)))]) ++ [(q3, .inl (cI, 118, .inl (z0.2.2 0)))]) ++ [(q4, .inl (cZ, 2, .inl (z0.2.2 0)))]) ++ [(q5, .inl (cI, 12, .inl (z0.2.2 0)))]) := hD
  refine lv_aload_n (pc := 50) hx hb dX5_init_50 rfl (lv_at hl 0 rfl) ?_
  refine lv_sipush (v := 160) (pc := 51) hx hb dX5_init_51 (by decide) ?_
  refine nwI (pc := 54) (N := 160) hx hb hK (hts _ ac_int) hP hD hS hA (by decide) rfl (Nat.le_of_ble_eq_true rfl) (Nat.le_of_ble_eq_true rfl) (Nat.le_of_ble_eq_true rfl) dX5_init_54 (fun q6 H hP hD hS => ?_)
  refine va_putF (pc := 56) (D := D) (ci := 5) (v := .ref q6) (ty := tyX5 8) (C := RX5) (T := TX5) (N := 41) hx hb hts iX5 tyX5 tyX5_ok nmX5 hown hK.1 hP hD hS 0 rfl rfl 8 (by decide) (hts _ fl_RX5_30) (fun _ h => h) rfl hin rfl (tyX5_ok 8 (by decide)) rfl rfl (Nat.le_of_ble_eq_true rfl) dX5_init_56 (fun H locs hP hD hS => ?_)
  replace hP : va_P D vwCl (((((([(a, .inr (5, [.ref q1, .ref q2, .int 0, .ref q3, .ref q4, .int 10, .ref q5, .int 0, .ref q6, .int 0, .int 0, .int 0, .int 0, .int 0, .int 0, .null, .int 0, .null, .null, .null, .null, .int 0, .int 0, .long 0, .long 0, .long 0, .int 0, .int 0, .int 0, .long 0, .long 0, .long 0, .long 0, .long 0, .long 0, .int 0, .null, .null, .int 0, .int 0, .null]))] ++ [(q1, .inl (cI, 59, .inl (z0.2.2 0)))]) ++ [(q2, .inl (cI, 354, .inl (z0.2.2 0)))]) ++ [(q3, .inl (cI, 118, .inl (z0.2.2 0)))]) ++ [(q4, .inl (cZ, 2, .inl (z0.2.2 0)))]) ++ [(q5, .inl (cI, 12, .inl (z0.2.2 0)))]) ++ [(q6, .inl (cI, 160, .inl (z0.2.2 0)))]) H := hP
  replace hD : va_D A (((((([(a, .inr (5, [.ref q1, .ref q2, .int 0, .ref q3, .ref q4, .int 10, .ref q5, .int 0, .ref q6, .int 0, .int 0, .int 0, .int 0, .int 0, .int 0, .null, .int 0, .null, .null, .null, .null, .int 0, .int 0, .long 0, .long 0, .long 0, .int 0, .int 0, .int 0, .long 0, .long 0, .long 0, .long 0, .long 0, .long 0, .int 0, .null, .null, .int 0, .int 0, .null]))] ++ [(q1, .inl (cI, 59, .inl (z0.2.2 0)))]) ++ [(q2, .inl (cI, 354, .inl (z0.2.2 0)))]) ++ [(q3, .inl (cI, 118, .inl (z0.2.2 0)))]) ++ [(q4, .inl (cZ, 2, .inl (z0.2.2 0)))]) ++ [(q5, .inl (cI, 12, .inl (z0.2.2 0)))]) ++ [(q6, .inl (cI, 160, .inl (z0.2.2 0)))]) := hD
  refine lv_aload_n (pc := 59) hx hb dX5_init_59 rfl (lv_at hl 0 rfl) ?_
  refine lv_bipush (v := 59) (pc := 60) hx hb dX5_init_60 (by decide) ?_
  refine nwI (pc := 62) (N := 59) hx hb hK (hts _ ac_int) hP hD hS hA (by decide) rfl (Nat.le_of_ble_eq_true rfl) (Nat.le_of_ble_eq_true rfl) (Nat.le_of_ble_eq_true rfl) dX5_init_62 (fun q7 H hP hD hS => ?_)
  refine va_putF (pc := 64) (D := D) (ci := 5) (v := .ref q7) (ty := tyX5 15) (C := RX5) (T := TX5) (N := 41) hx hb hts iX5 tyX5 tyX5_ok nmX5 hown hK.1 hP hD hS 0 rfl rfl 15 (by decide) (hts _ fl_RX5_33) (fun _ h => h) rfl hin rfl (tyX5_ok 15 (by decide)) rfl rfl (Nat.le_of_ble_eq_true rfl) dX5_init_64 (fun H locs hP hD hS => ?_)
  replace hP : va_P D vwCl ((((((([(a, .inr (5, [.ref q1, .ref q2, .int 0, .ref q3, .ref q4, .int 10, .ref q5, .int 0, .ref q6, .int 0, .int 0, .int 0, .int 0, .int 0, .int 0, .ref q7, .int 0, .null, .null, .null, .null, .int 0, .int 0, .long 0, .long 0, .long 0, .int 0, .int 0, .int 0, .long 0, .long 0, .long 0, .long 0, .long 0, .long 0, .int 0, .null, .null, .int 0, .int 0, .null]))] ++ [(q1, .inl (cI, 59, .inl (z0.2.2 0)))]) ++ [(q2, .inl (cI, 354, .inl (z0.2.2 0)))]) ++ [(q3, .inl (cI, 118, .inl (z0.2.2 0)))]) ++ [(q4, .inl (cZ, 2, .inl (z0.2.2 0)))]) ++ [(q5, .inl (cI, 12, .inl (z0.2.2 0)))]) ++ [(q6, .inl (cI, 160, .inl (z0.2.2 0)))]) ++ [(q7, .inl (cI, 59, .inl (z0.2.2 0)))]) H := hP
  replace hD : va_D A ((((((([(a, .inr (5, [.ref q1, .ref q2, .int 0, .ref q3, .ref q4, .int 10, .ref q5, .int 0, .ref q6, .int 0, .int 0, .int 0, .int 0, .int 0, .int 0, .ref q7, .int 0, .null, .null, .null, .null, .int 0, .int 0, .long 0, .long 0, .long 0, .int 0, .int 0, .int 0, .long 0, .long 0, .long 0, .long 0, .long 0, .long 0, .int 0, .null, .null, .int 0, .int 0, .null]))] ++ [(q1, .inl (cI, 59, .inl (z0.2.2 0)))]) ++ [(q2, .inl (cI, 354, .inl (z0.2.2 0)))]) ++ [(q3, .inl (cI, 118, .inl (z0.2.2 0)))]) ++ [(q4, .inl (cZ, 2, .inl (z0.2.2 0)))]) ++ [(q5, .inl (cI, 12, .inl (z0.2.2 0)))]) ++ [(q6, .inl (cI, 160, .inl (z0.2.2 0)))]) ++ [(q7, .inl (cI, 59, .inl (z0.2.2 0)))]) := hD
  refine lv_aload_n (pc := 67) hx hb dX5_init_67 rfl (lv_at hl 0 rfl) ?_
  refine lv_bipush (v := 9) (pc := 68) hx hb dX5_init_68 (by decide) ?_
  refine nwI (pc := 70) (N := 9) hx hb hK (hts _ ac_int) hP hD hS hA (by decide) rfl (Nat.le_of_ble_eq_true rfl) (Nat.le_of_ble_eq_true rfl) (Nat.le_of_ble_eq_true rfl) dX5_init_70 (fun q8 H hP hD hS => ?_)
  refine va_putF (pc := 72) (D := D) (ci := 5) (v := .ref q8) (ty := tyX5 17) (C := RX5) (T := TX5) (N := 41) hx hb hts iX5 tyX5 tyX5_ok nmX5 hown hK.1 hP hD hS 0 rfl rfl 17 (by decide) (hts _ fl_RX5_36) (fun _ h => h) rfl hin rfl (tyX5_ok 17 (by decide)) rfl rfl (Nat.le_of_ble_eq_true rfl) dX5_init_72 (fun H locs hP hD hS => ?_)
  replace hP : va_P D vwCl (((((((([(a, .inr (5, [.ref q1, .ref q2, .int 0, .ref q3, .ref q4, .int 10, .ref q5, .int 0, .ref q6, .int 0, .int 0, .int 0, .int 0, .int 0, .int 0, .ref q7, .int 0, .ref q8, .null, .null, .null, .int 0, .int 0, .long 0, .long 0, .long 0, .int 0, .int 0, .int 0, .long 0, .long 0, .long 0, .long 0, .long 0, .long 0, .int 0, .null, .null, .int 0, .int 0, .null]))] ++ [(q1, .inl (cI, 59, .inl (z0.2.2 0)))]) ++ [(q2, .inl (cI, 354, .inl (z0.2.2 0)))]) ++ [(q3, .inl (cI, 118, .inl (z0.2.2 0)))]) ++ [(q4, .inl (cZ, 2, .inl (z0.2.2 0)))]) ++ [(q5, .inl (cI, 12, .inl (z0.2.2 0)))]) ++ [(q6, .inl (cI, 160, .inl (z0.2.2 0)))]) ++ [(q7, .inl (cI, 59, .inl (z0.2.2 0)))]) ++ [(q8, .inl (cI, 9, .inl (z0.2.2 0)))]) H := hP
  replace hD : va_D A (((((((([(a, .inr (5, [.ref q1, .ref q2, .int 0, .ref q3, .ref q4, .int 10, .ref q5, .int 0, .ref q6, .int 0, .int 0, .int 0, .int 0, .int 0, .int 0, .ref q7, .int 0, .ref q8, .null, .null, .null, .int 0, .int 0, .long 0, .long 0, .long 0, .int 0, .int 0, .int 0, .long 0, .long 0, .long 0, .long 0, .long 0, .long 0, .int 0, .null, .null, .int 0, .int 0, .null]))] ++ [(q1, .inl (cI, 59, .inl (z0.2.2 0)))]) ++ [(q2, .inl (cI, 354, .inl (z0.2.2 0)))]) ++ [(q3, .inl (cI, 118, .inl (z0.2.2 0)))]) ++ [(q4, .inl (cZ, 2, .inl (z0.2.2 0)))]) ++ [(q5, .inl (cI, 12, .inl (z0.2.2 0)))]) ++ [(q6, .inl (cI, 160, .inl (z0.2.2 0)))]) ++ [(q7, .inl (cI, 59, .inl (z0.2.2 0)))]) ++ [(q8, .inl (cI, 9, .inl (z0.2.2 0)))]) := hD
  refine lv_aload_n (pc := 75) hx hb dX5_init_75 rfl (lv_at hl 0 rfl) ?_
  refine lv_bipush (v := 9) (pc := 76) hx hb dX5_init_76 (by decide) ?_
  refine nwI (pc := 78) (N := 9) hx hb hK (hts _ ac_int) hP hD hS hA (by decide) rfl (Nat.le_of_ble_eq_true rfl) (Nat.le_of_ble_eq_true rfl) (Nat.le_of_ble_eq_true rfl) dX5_init_78 (fun q9 H hP hD hS => ?_)
  refine va_putF (pc := 80) (D := D) (ci := 5) (v := .ref q9) (ty := tyX5 18) (C := RX5) (T := TX5) (N := 41) hx hb hts iX5 tyX5 tyX5_ok nmX5 hown hK.1 hP hD hS 0 rfl rfl 18 (by decide) (hts _ fl_RX5_39) (fun _ h => h) rfl hin rfl (tyX5_ok 18 (by decide)) rfl rfl (Nat.le_of_ble_eq_true rfl) dX5_init_80 (fun H locs hP hD hS => ?_)
  replace hP : va_P D vwCl ((((((((([(a, .inr (5, [.ref q1, .ref q2, .int 0, .ref q3, .ref q4, .int 10, .ref q5, .int 0, .ref q6, .int 0, .int 0, .int 0, .int 0, .int 0, .int 0, .ref q7, .int 0, .ref q8, .ref q9, .null, .null, .int 0, .int 0, .long 0, .long 0, .long 0, .int 0, .int 0, .int 0, .long 0, .long 0, .long 0, .long 0, .long 0, .long 0, .int 0, .null, .null, .int 0, .int 0, .null]))] ++ [(q1, .inl (cI, 59, .inl (z0.2.2 0)))]) ++ [(q2, .inl (cI, 354, .inl (z0.2.2 0)))]) ++ [(q3, .inl (cI, 118, .inl (z0.2.2 0)))]) ++ [(q4, .inl (cZ, 2, .inl (z0.2.2 0)))]) ++ [(q5, .inl (cI, 12, .inl (z0.2.2 0)))]) ++ [(q6, .inl (cI, 160, .inl (z0.2.2 0)))]) ++ [(q7, .inl (cI, 59, .inl (z0.2.2 0)))]) ++ [(q8, .inl (cI, 9, .inl (z0.2.2 0)))]) ++ [(q9, .inl (cI, 9, .inl (z0.2.2 0)))]) H := hP
  replace hD : va_D A ((((((((([(a, .inr (5, [.ref q1, .ref q2, .int 0, .ref q3, .ref q4, .int 10, .ref q5, .int 0, .ref q6, .int 0, .int 0, .int 0, .int 0, .int 0, .int 0, .ref q7, .int 0, .ref q8, .ref q9, .null, .null, .int 0, .int 0, .long 0, .long 0, .long 0, .int 0, .int 0, .int 0, .long 0, .long 0, .long 0, .long 0, .long 0, .long 0, .int 0, .null, .null, .int 0, .int 0, .null]))] ++ [(q1, .inl (cI, 59, .inl (z0.2.2 0)))]) ++ [(q2, .inl (cI, 354, .inl (z0.2.2 0)))]) ++ [(q3, .inl (cI, 118, .inl (z0.2.2 0)))]) ++ [(q4, .inl (cZ, 2, .inl (z0.2.2 0)))]) ++ [(q5, .inl (cI, 12, .inl (z0.2.2 0)))]) ++ [(q6, .inl (cI, 160, .inl (z0.2.2 0)))]) ++ [(q7, .inl (cI, 59, .inl (z0.2.2 0)))]) ++ [(q8, .inl (cI, 9, .inl (z0.2.2 0)))]) ++ [(q9, .inl (cI, 9, .inl (z0.2.2 0)))]) := hD
  refine lv_aload_n (pc := 83) hx hb dX5_init_83 rfl (lv_at hl 0 rfl) ?_
  refine lv_bipush (v := 9) (pc := 84) hx hb dX5_init_84 (by decide) ?_
  refine nwI (pc := 86) (N := 9) hx hb hK (hts _ ac_int) hP hD hS hA (by decide) rfl (Nat.le_of_ble_eq_true rfl) (Nat.le_of_ble_eq_true rfl) (Nat.le_of_ble_eq_true rfl) dX5_init_86 (fun q10 H hP hD hS => ?_)
  refine va_putF (pc := 88) (D := D) (ci := 5) (v := .ref q10) (ty := tyX5 19) (C := RX5) (T := TX5) (N := 41) hx hb hts iX5 tyX5 tyX5_ok nmX5 hown hK.1 hP hD hS 0 rfl rfl 19 (by decide) (hts _ fl_RX5_42) (fun _ h => h) rfl hin rfl (tyX5_ok 19 (by decide)) rfl rfl (Nat.le_of_ble_eq_true rfl) dX5_init_88 (fun H locs hP hD hS => ?_)
  replace hP : va_P D vwCl (((((((((([(a, .inr (5, [.ref q1, .ref q2, .int 0, .ref q3, .ref q4, .int 10, .ref q5, .int 0, .ref q6, .int 0, .int 0, .int 0, .int 0, .int 0, .int 0, .ref q7, .int 0, .ref q8, .ref q9, .ref q10, .null, .int 0, .int 0, .long 0, .long 0, .long 0, .int 0, .int 0, .int 0, .long 0, .long 0, .long 0, .long 0, .long 0, .long 0, .int 0, .null, .null, .int 0, .int 0, .null]))] ++ [(q1, .inl (cI, 59, .inl (z0.2.2 0)))]) ++ [(q2, .inl (cI, 354, .inl (z0.2.2 0)))]) ++ [(q3, .inl (cI, 118, .inl (z0.2.2 0)))]) ++ [(q4, .inl (cZ, 2, .inl (z0.2.2 0)))]) ++ [(q5, .inl (cI, 12, .inl (z0.2.2 0)))]) ++ [(q6, .inl (cI, 160, .inl (z0.2.2 0)))]) ++ [(q7, .inl (cI, 59, .inl (z0.2.2 0)))]) ++ [(q8, .inl (cI, 9, .inl (z0.2.2 0)))]) ++ [(q9, .inl (cI, 9, .inl (z0.2.2 0)))]) ++ [(q10, .inl (cI, 9, .inl (z0.2.2 0)))]) H := hP
  replace hD : va_D A (((((((((([(a, .inr (5, [.ref q1, .ref q2, .int 0, .ref q3, .ref q4, .int 10, .ref q5, .int 0, .ref q6, .int 0, .int 0, .int 0, .int 0, .int 0, .int 0, .ref q7, .int 0, .ref q8, .ref q9, .ref q10, .null, .int 0, .int 0, .long 0, .long 0, .long 0, .int 0, .int 0, .int 0, .long 0, .long 0, .long 0, .long 0, .long 0, .long 0, .int 0, .null, .null, .int 0, .int 0, .null]))] ++ [(q1, .inl (cI, 59, .inl (z0.2.2 0)))]) ++ [(q2, .inl (cI, 354, .inl (z0.2.2 0)))]) ++ [(q3, .inl (cI, 118, .inl (z0.2.2 0)))]) ++ [(q4, .inl (cZ, 2, .inl (z0.2.2 0)))]) ++ [(q5, .inl (cI, 12, .inl (z0.2.2 0)))]) ++ [(q6, .inl (cI, 160, .inl (z0.2.2 0)))]) ++ [(q7, .inl (cI, 59, .inl (z0.2.2 0)))]) ++ [(q8, .inl (cI, 9, .inl (z0.2.2 0)))]) ++ [(q9, .inl (cI, 9, .inl (z0.2.2 0)))]) ++ [(q10, .inl (cI, 9, .inl (z0.2.2 0)))]) := hD
  refine lv_aload_n (pc := 91) hx hb dX5_init_91 rfl (lv_at hl 0 rfl) ?_
  refine lv_bipush (v := 9) (pc := 92) hx hb dX5_init_92 (by decide) ?_
  refine nwI (pc := 94) (N := 9) hx hb hK (hts _ ac_int) hP hD hS hA (by decide) rfl (Nat.le_of_ble_eq_true rfl) (Nat.le_of_ble_eq_true rfl) (Nat.le_of_ble_eq_true rfl) dX5_init_94 (fun q11 H hP hD hS => ?_)
  refine va_putF (pc := 96) (D := D) (ci := 5) (v := .ref q11) (ty := tyX5 20) (C := RX5) (T := TX5) (N := 41) hx hb hts iX5 tyX5 tyX5_ok nmX5 hown hK.1 hP hD hS 0 rfl rfl 20 (by decide) (hts _ fl_RX5_45) (fun _ h => h) rfl hin rfl (tyX5_ok 20 (by decide)) rfl rfl (Nat.le_of_ble_eq_true rfl) dX5_init_96 (fun H locs hP hD hS => ?_)
  replace hP : va_P D vwCl ((((((((((([(a, .inr (5, [.ref q1, .ref q2, .int 0, .ref q3, .ref q4, .int 10, .ref q5, .int 0, .ref q6, .int 0, .int 0, .int 0, .int 0, .int 0, .int 0, .ref q7, .int 0, .ref q8, .ref q9, .ref q10, .ref q11, .int 0, .int 0, .long 0, .long 0, .long 0, .int 0, .int 0, .int 0, .long 0, .long 0, .long 0, .long 0, .long 0, .long 0, .int 0, .null, .null, .int 0, .int 0, .null]))] ++ [(q1, .inl (cI, 59, .inl (z0.2.2 0)))]) ++ [(q2, .inl (cI, 354, .inl (z0.2.2 0)))]) ++ [(q3, .inl (cI, 118, .inl (z0.2.2 0)))]) ++ [(q4, .inl (cZ, 2, .inl (z0.2.2 0)))]) ++ [(q5, .inl (cI, 12, .inl (z0.2.2 0)))]) ++ [(q6, .inl (cI, 160, .inl (z0.2.2 0)))]) ++ [(q7, .inl (cI, 59, .inl (z0.2.2 0)))]) ++ [(q8, .inl (cI, 9, .inl (z0.2.2 0)))]) ++ [(q9, .inl (cI, 9, .inl (z0.2.2 0)))]) ++ [(q10, .inl (cI, 9, .inl (z0.2.2 0)))]) ++ [(q11, .inl (cI, 9, .inl (z0.2.2 0)))]) H := hP
  replace hD : va_D A ((((((((((([(a, .inr (5, [.ref q1, .ref q2, .int 0, .ref q3, .ref q4, .int 10, .ref q5, .int 0, .ref q6, .int 0, .int 0, .int 0, .int 0, .int 0, .int 0, .ref q7, .int 0, .ref q8, .ref q9, .ref q10, .ref q11, .int 0, .int 0, .long 0, .long 0, .long 0, .int 0, .int 0, .int 0, .long 0, .long 0, .long 0, .long 0, .long 0, .long 0, .int 0, .null, .null, .int 0, .int 0, .null]))] ++ [(q1, .inl (cI, 59, .inl (z0.2.2 0)))]) ++ [(q2, .inl (cI, 354, .inl (z0.2.2 0)))]) ++ [(q3, .inl (cI, 118, .inl (z0.2.2 0)))]) ++ [(q4, .inl (cZ, 2, .inl (z0.2.2 0)))]) ++ [(q5, .inl (cI, 12, .inl (z0.2.2 0)))]) ++ [(q6, .inl (cI, 160, .inl (z0.2.2 0)))]) ++ [(q7, .inl (cI, 59, .inl (z0.2.2 0)))]) ++ [(q8, .inl (cI, 9, .inl (z0.2.2 0)))]) ++ [(q9, .inl (cI, 9, .inl (z0.2.2 0)))]) ++ [(q10, .inl (cI, 9, .inl (z0.2.2 0)))]) ++ [(q11, .inl (cI, 9, .inl (z0.2.2 0)))]) := hD
  refine lv_aload_n (pc := 99) hx hb dX5_init_99 rfl (lv_at hl 0 rfl) ?_
  refine lv_sipush (v := 361) (pc := 100) hx hb dX5_init_100 (by decide) ?_
  refine nwZ (pc := 103) (N := 361) hx hb hK (hts _ ac_bool) hP hD hS hA (by decide) rfl (Nat.le_of_ble_eq_true rfl) (Nat.le_of_ble_eq_true rfl) (Nat.le_of_ble_eq_true rfl) dX5_init_103 (fun q12 H hP hD hS => ?_)
  refine va_putF (pc := 105) (D := D) (ci := 5) (v := .ref q12) (ty := tyX5 36) (C := RX5) (T := TX5) (N := 41) hx hb hts iX5 tyX5 tyX5_ok nmX5 hown hK.1 hP hD hS 0 rfl rfl 36 (by decide) (hts _ fl_RX5_48) (fun _ h => h) rfl hin rfl (tyX5_ok 36 (by decide)) rfl rfl (Nat.le_of_ble_eq_true rfl) dX5_init_105 (fun H locs hP hD hS => ?_)
  replace hP : va_P D vwCl (((((((((((([(a, .inr (5, [.ref q1, .ref q2, .int 0, .ref q3, .ref q4, .int 10, .ref q5, .int 0, .ref q6, .int 0, .int 0, .int 0, .int 0, .int 0, .int 0, .ref q7, .int 0, .ref q8, .ref q9, .ref q10, .ref q11, .int 0, .int 0, .long 0, .long 0, .long 0, .int 0, .int 0, .int 0, .long 0, .long 0, .long 0, .long 0, .long 0, .long 0, .int 0, .ref q12, .null, .int 0, .int 0, .null]))] ++ [(q1, .inl (cI, 59, .inl (z0.2.2 0)))]) ++ [(q2, .inl (cI, 354, .inl (z0.2.2 0)))]) ++ [(q3, .inl (cI, 118, .inl (z0.2.2 0)))]) ++ [(q4, .inl (cZ, 2, .inl (z0.2.2 0)))]) ++ [(q5, .inl (cI, 12, .inl (z0.2.2 0)))]) ++ [(q6, .inl (cI, 160, .inl (z0.2.2 0)))]) ++ [(q7, .inl (cI, 59, .inl (z0.2.2 0)))]) ++ [(q8, .inl (cI, 9, .inl (z0.2.2 0)))]) ++ [(q9, .inl (cI, 9, .inl (z0.2.2 0)))]) ++ [(q10, .inl (cI, 9, .inl (z0.2.2 0)))]) ++ [(q11, .inl (cI, 9, .inl (z0.2.2 0)))]) ++ [(q12, .inl (cZ, 361, .inl (z0.2.2 0)))]) H := hP
  replace hD : va_D A (((((((((((([(a, .inr (5, [.ref q1, .ref q2, .int 0, .ref q3, .ref q4, .int 10, .ref q5, .int 0, .ref q6, .int 0, .int 0, .int 0, .int 0, .int 0, .int 0, .ref q7, .int 0, .ref q8, .ref q9, .ref q10, .ref q11, .int 0, .int 0, .long 0, .long 0, .long 0, .int 0, .int 0, .int 0, .long 0, .long 0, .long 0, .long 0, .long 0, .long 0, .int 0, .ref q12, .null, .int 0, .int 0, .null]))] ++ [(q1, .inl (cI, 59, .inl (z0.2.2 0)))]) ++ [(q2, .inl (cI, 354, .inl (z0.2.2 0)))]) ++ [(q3, .inl (cI, 118, .inl (z0.2.2 0)))]) ++ [(q4, .inl (cZ, 2, .inl (z0.2.2 0)))]) ++ [(q5, .inl (cI, 12, .inl (z0.2.2 0)))]) ++ [(q6, .inl (cI, 160, .inl (z0.2.2 0)))]) ++ [(q7, .inl (cI, 59, .inl (z0.2.2 0)))]) ++ [(q8, .inl (cI, 9, .inl (z0.2.2 0)))]) ++ [(q9, .inl (cI, 9, .inl (z0.2.2 0)))]) ++ [(q10, .inl (cI, 9, .inl (z0.2.2 0)))]) ++ [(q11, .inl (cI, 9, .inl (z0.2.2 0)))]) ++ [(q12, .inl (cZ, 361, .inl (z0.2.2 0)))]) := hD
  refine lv_aload_n (pc := 108) hx hb dX5_init_108 rfl (lv_at hl 0 rfl) ?_
  refine lv_sipush (v := 2888) (pc := 109) hx hb dX5_init_109 (by decide) ?_
  refine nwI (pc := 112) (N := 2888) hx hb hK (hts _ ac_int) hP hD hS hA (by decide) rfl (Nat.le_of_ble_eq_true rfl) (Nat.le_of_ble_eq_true rfl) (Nat.le_of_ble_eq_true rfl) dX5_init_112 (fun q13 H hP hD hS => ?_)
  refine va_putF (pc := 114) (D := D) (ci := 5) (v := .ref q13) (ty := tyX5 37) (C := RX5) (T := TX5) (N := 41) hx hb hts iX5 tyX5 tyX5_ok nmX5 hown hK.1 hP hD hS 0 rfl rfl 37 (by decide) (hts _ fl_RX5_51) (fun _ h => h) rfl hin rfl (tyX5_ok 37 (by decide)) rfl rfl (Nat.le_of_ble_eq_true rfl) dX5_init_114 (fun H locs hP hD hS => ?_)
  replace hP : va_P D vwCl ((((((((((((([(a, .inr (5, [.ref q1, .ref q2, .int 0, .ref q3, .ref q4, .int 10, .ref q5, .int 0, .ref q6, .int 0, .int 0, .int 0, .int 0, .int 0, .int 0, .ref q7, .int 0, .ref q8, .ref q9, .ref q10, .ref q11, .int 0, .int 0, .long 0, .long 0, .long 0, .int 0, .int 0, .int 0, .long 0, .long 0, .long 0, .long 0, .long 0, .long 0, .int 0, .ref q12, .ref q13, .int 0, .int 0, .null]))] ++ [(q1, .inl (cI, 59, .inl (z0.2.2 0)))]) ++ [(q2, .inl (cI, 354, .inl (z0.2.2 0)))]) ++ [(q3, .inl (cI, 118, .inl (z0.2.2 0)))]) ++ [(q4, .inl (cZ, 2, .inl (z0.2.2 0)))]) ++ [(q5, .inl (cI, 12, .inl (z0.2.2 0)))]) ++ [(q6, .inl (cI, 160, .inl (z0.2.2 0)))]) ++ [(q7, .inl (cI, 59, .inl (z0.2.2 0)))]) ++ [(q8, .inl (cI, 9, .inl (z0.2.2 0)))]) ++ [(q9, .inl (cI, 9, .inl (z0.2.2 0)))]) ++ [(q10, .inl (cI, 9, .inl (z0.2.2 0)))]) ++ [(q11, .inl (cI, 9, .inl (z0.2.2 0)))]) ++ [(q12, .inl (cZ, 361, .inl (z0.2.2 0)))]) ++ [(q13, .inl (cI, 2888, .inl (z0.2.2 0)))]) H := hP
  replace hD : va_D A ((((((((((((([(a, .inr (5, [.ref q1, .ref q2, .int 0, .ref q3, .ref q4, .int 10, .ref q5, .int 0, .ref q6, .int 0, .int 0, .int 0, .int 0, .int 0, .int 0, .ref q7, .int 0, .ref q8, .ref q9, .ref q10, .ref q11, .int 0, .int 0, .long 0, .long 0, .long 0, .int 0, .int 0, .int 0, .long 0, .long 0, .long 0, .long 0, .long 0, .long 0, .int 0, .ref q12, .ref q13, .int 0, .int 0, .null]))] ++ [(q1, .inl (cI, 59, .inl (z0.2.2 0)))]) ++ [(q2, .inl (cI, 354, .inl (z0.2.2 0)))]) ++ [(q3, .inl (cI, 118, .inl (z0.2.2 0)))]) ++ [(q4, .inl (cZ, 2, .inl (z0.2.2 0)))]) ++ [(q5, .inl (cI, 12, .inl (z0.2.2 0)))]) ++ [(q6, .inl (cI, 160, .inl (z0.2.2 0)))]) ++ [(q7, .inl (cI, 59, .inl (z0.2.2 0)))]) ++ [(q8, .inl (cI, 9, .inl (z0.2.2 0)))]) ++ [(q9, .inl (cI, 9, .inl (z0.2.2 0)))]) ++ [(q10, .inl (cI, 9, .inl (z0.2.2 0)))]) ++ [(q11, .inl (cI, 9, .inl (z0.2.2 0)))]) ++ [(q12, .inl (cZ, 361, .inl (z0.2.2 0)))]) ++ [(q13, .inl (cI, 2888, .inl (z0.2.2 0)))]) := hD
  refine lv_aload_n (pc := 117) hx hb dX5_init_117 rfl (lv_at hl 0 rfl) ?_
  refine lv_bipush (v := 100) (pc := 118) hx hb dX5_init_118 (by decide) ?_
  refine nwI (pc := 120) (N := 100) hx hb hK (hts _ ac_int) hP hD hS hA (by decide) rfl (Nat.le_of_ble_eq_true rfl) (Nat.le_of_ble_eq_true rfl) (Nat.le_of_ble_eq_true rfl) dX5_init_120 (fun q14 H hP hD hS => ?_)
  refine va_putF (pc := 122) (D := D) (ci := 5) (v := .ref q14) (ty := tyX5 40) (C := RX5) (T := TX5) (N := 41) hx hb hts iX5 tyX5 tyX5_ok nmX5 hown hK.1 hP hD hS 0 rfl rfl 40 (by decide) (hts _ fl_RX5_54) (fun _ h => h) rfl hin rfl (tyX5_ok 40 (by decide)) rfl rfl (Nat.le_of_ble_eq_true rfl) dX5_init_122 (fun H locs hP hD hS => ?_)
  replace hP : va_P D vwCl (((((((((((((([(a, .inr (5, [.ref q1, .ref q2, .int 0, .ref q3, .ref q4, .int 10, .ref q5, .int 0, .ref q6, .int 0, .int 0, .int 0, .int 0, .int 0, .int 0, .ref q7, .int 0, .ref q8, .ref q9, .ref q10, .ref q11, .int 0, .int 0, .long 0, .long 0, .long 0, .int 0, .int 0, .int 0, .long 0, .long 0, .long 0, .long 0, .long 0, .long 0, .int 0, .ref q12, .ref q13, .int 0, .int 0, .ref q14]))] ++ [(q1, .inl (cI, 59, .inl (z0.2.2 0)))]) ++ [(q2, .inl (cI, 354, .inl (z0.2.2 0)))]) ++ [(q3, .inl (cI, 118, .inl (z0.2.2 0)))]) ++ [(q4, .inl (cZ, 2, .inl (z0.2.2 0)))]) ++ [(q5, .inl (cI, 12, .inl (z0.2.2 0)))]) ++ [(q6, .inl (cI, 160, .inl (z0.2.2 0)))]) ++ [(q7, .inl (cI, 59, .inl (z0.2.2 0)))]) ++ [(q8, .inl (cI, 9, .inl (z0.2.2 0)))]) ++ [(q9, .inl (cI, 9, .inl (z0.2.2 0)))]) ++ [(q10, .inl (cI, 9, .inl (z0.2.2 0)))]) ++ [(q11, .inl (cI, 9, .inl (z0.2.2 0)))]) ++ [(q12, .inl (cZ, 361, .inl (z0.2.2 0)))]) ++ [(q13, .inl (cI, 2888, .inl (z0.2.2 0)))]) ++ [(q14, .inl (cI, 100, .inl (z0.2.2 0)))]) H := hP
  replace hD : va_D A (((((((((((((([(a, .inr (5, [.ref q1, .ref q2, .int 0, .ref q3, .ref q4, .int 10, .ref q5, .int 0, .ref q6, .int 0, .int 0, .int 0, .int 0, .int 0, .int 0, .ref q7, .int 0, .ref q8, .ref q9, .ref q10, .ref q11, .int 0, .int 0, .long 0, .long 0, .long 0, .int 0, .int 0, .int 0, .long 0, .long 0, .long 0, .long 0, .long 0, .long 0, .int 0, .ref q12, .ref q13, .int 0, .int 0, .ref q14]))] ++ [(q1, .inl (cI, 59, .inl (z0.2.2 0)))]) ++ [(q2, .inl (cI, 354, .inl (z0.2.2 0)))]) ++ [(q3, .inl (cI, 118, .inl (z0.2.2 0)))]) ++ [(q4, .inl (cZ, 2, .inl (z0.2.2 0)))]) ++ [(q5, .inl (cI, 12, .inl (z0.2.2 0)))]) ++ [(q6, .inl (cI, 160, .inl (z0.2.2 0)))]) ++ [(q7, .inl (cI, 59, .inl (z0.2.2 0)))]) ++ [(q8, .inl (cI, 9, .inl (z0.2.2 0)))]) ++ [(q9, .inl (cI, 9, .inl (z0.2.2 0)))]) ++ [(q10, .inl (cI, 9, .inl (z0.2.2 0)))]) ++ [(q11, .inl (cI, 9, .inl (z0.2.2 0)))]) ++ [(q12, .inl (cZ, 361, .inl (z0.2.2 0)))]) ++ [(q13, .inl (cI, 2888, .inl (z0.2.2 0)))]) ++ [(q14, .inl (cI, 100, .inl (z0.2.2 0)))]) := hD
  exact W.vret hx hb hr (fun t ht hW => ⟨rfl, ⟨(fun k => if k = 40 then q14 else if k = 37 then q13 else if k = 36 then q12 else if k = 20 then q11 else if k = 19 then q10 else if k = 18 then q9 else if k = 17 then q8 else if k = 15 then q7 else if k = 8 then q6 else if k = 6 then q5 else if k = 4 then q4 else if k = 3 then q3 else if k = 1 then q2 else if k = 0 then q1 else 0), by rw [ht]; exact hP, hD⟩, hS.F ht⟩) hS.2.2 dX5_init_125
theorem swap_q {D : va_G} {cl : List vw_C} {ws : va_W} {H : Heap} (k : Nat) {a n : Nat} {c : ClassId} {g g2 : Nat → Option Nat} (hk : ws[k]? = some (a, .inl (c, n, .inr (.inr (.inr (.inr g)))))) (hg : ∀ j, j < n → g j = g2 j) (hP : va_P D cl ws H) : va_P D cl (ws.set k (a, .inl (c, n, .inr (.inr (.inr (.inr g2)))))) H := by
  intro i q hi
  have hl := (List.getElem?_eq_some_iff.mp hk).1
  by_cases e : i = k
  · subst e
    rw [List.getElem?_set_self hl] at hi
    cases hi
    have h0 := hP i _ hk
    show H[a]? = some (vp_cell c (n, .inr (.inr (.inr (.inr g2)))))
    rw [vp_cell_q, ← arrV_congr (f := fun j => va_rf (g j)) (fun j hj => by rw [hg j hj])]
    exact h0
  · rw [List.getElem?_set_ne (Ne.symm e)] at hi
    exact hP i q hi
