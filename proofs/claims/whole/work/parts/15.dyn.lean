/-! the recorded structures in their row: the oldest goes behind the others -/
def rot6 {α : Type} (f : Nat → α) : Nat → α := va_up (va_up (va_up (va_up (va_up (va_up f 0 (f 1)) 1 (f 2)) 2 (f 3)) 3 (f 4)) 4 (f 5)) 5 (f 0)
def rotPS (ps : PSt) : PSt := (rot6 ps.1, rot6 ps.2)
def rotG (ps : PSt) : Nat → Option Nat := va_up (va_up (va_up (va_up (va_up (va_up (fun i => some (ps.1 i).1) 0 (some (ps.1 1).1)) 1 (some (ps.1 2).1)) 2 (some (ps.1 3).1)) 3 (some (ps.1 4).1)) 4 (some (ps.1 5).1)) 5 (some (ps.1 0).1)
theorem rotG_eq (ps : PSt) : rotG ps = fun i => some ((rotPS ps).1 i).1 := by
  funext i
  unfold rotG rotPS rot6 va_up
  repeat' split
  all_goals first | rfl | (simp_all; done)
section LDQ
variable {p : Program} {l : Launch} {e : Env} {R : Room} {s : State} {m : MethodId} {args : Array Value} {below : List Frame} {meth : Method} {c : Code} {H : Heap} {locs : List Loc} {cells slots : Nat} {Q : State → Prop}
variable {cc : ByteArray} {pc : Nat} {ls : Array Slot} {rest : List Value} {D : va_G} {cl : List vw_C} {a : Nat} {tys : List (ClassId × FieldType)} {ws : va_W}
theorem ld_q (hexec : p.tables.exec = Jvm.exec) (hb : c.code = cc) (hK : va_K D cl tys s) (hP : va_P D cl ws H) (q0 t0 : Nat) {cA : ClassId} {C : String} {n k : Nat} {ps : PSt} (ha : ws[q0]? = some (a, .inl (cA, n, .inr (.inr (.inr (.inr (fun i => some (ps.1 i).1))))))) (ht : tys[t0]? = some (cA, .object C)) {i : Int32} (hin : vp_in i n) (hk : k = i.toNatClampNeg) (hdg : decode cc pc = .ok (.aaload, 1))
    (kk : W p l e R s m args below meth c H locs cells slots Q (F0 m (pc + 1) ls (.ref (ps.1 k).1 :: rest))) : W p l e R s m args below meth c H locs cells slots Q (F0 m pc ls (.int i :: .ref a :: rest)) := by
  subst hk
  exact va_aldq hexec hb hK hP q0 t0 ha ht hin hdg kk
end LDQ
theorem arrV_congr {cI : ClassId} {n : Nat} {f g : Nat → Value} (h : ∀ j, j < n → f j = g j) : arrV cI n f = arrV cI n g := by
  have h1 : (Array.ofFn (n := n) fun j => f j.val) = (Array.ofFn (n := n) fun j => g j.val) := by
    congr 1
    funext j
    exact h j.val j.isLt
  unfold arrV
  rw [h1]
theorem cell_congr {D : va_G} {cl : List vw_C} {b n : Nat} {cI : ClassId} {f g : Nat → Int32} {H : Heap} (h : ∀ j, j < n → f j = g j) (hP : va_P D cl [(b, .inl (cI, n, .inl f))] H) : va_P D cl [(b, .inl (cI, n, .inl g))] H := by
  intro k q hk
  match k, hk with
  | 0, hk =>
    cases hk
    have h0 := hP 0 _ rfl
    show H[b]? = some (vp_cell cI (n, .inl g))
    rw [vp_cell_i, ← arrV_congr (f := fun j => .int (f j)) (fun j hj => by rw [h j hj])]
    exact h0
  | k + 1, hk => simp at hk
set_option maxHeartbeats 4000000 in
set_option maxRecDepth 100000 in
/-- Arrays.fill(int[], int) -/
theorem c_J7_fill_53178 (l : Launch) (D : va_G) (cI cZ cS : ClassId) (b n : Nat) (hn : n < 2 ^ 31) (f0 : Nat → Int32) (v : Int32) : Ct l yJ7_fill_53178 cJ7_fill_53178 4 none 0 0 D cI cZ cS [.ref b, .int v] [(b, .inl (cI, n, .inl f0))] none [(b, .inl (cI, n, .inl (fun _ => v)))] := by
  intro sz
  refine va_MetF (cc := cJ7_fill_53178) (maxL := 4) (ret := none) (by decide +kernel) rfl ?_
  intro p e s m args below meth c s₁ B hml hv
  obtain ⟨rfl, hsz, hP, hK, hD0⟩ := hv
  have hx := B.exec
  have hb := B.bytes
  have hr := B.returns
  have hlocks := B.notSynchronized
  subst hsz
  have hD := hD0.self (sz := s.heap.size)
  generalize hAe : va_A [(b, .inl (cI, n, .inl f0))] s.heap.size = A at hD ⊢
  have hS : va_S A s.heap s.heap [] := va_S.rf
  obtain ⟨H, hH⟩ : ∃ H, H = s.heap := ⟨_, rfl⟩
  rw [← hH] at hP
  have hS : va_S A s.heap H [] := by rw [hH]; exact hS
  have hl := lv_entry ([.ref b, .int v]) (n := 4) (Nat.le_of_ble_eq_true rfl)
  rw [lg_entry_eq]
  generalize (lg_sl ([.ref b, .int v]) ++ List.replicate (4 - (lg_sl ([.ref b, .int v])).length) Slot.unset).toArray = ls at hl ⊢
  have hl : lv_has ls 4 [(0, .ref b), (1, .int v)] := hl
  refine W_heap hH ?_
  obtain ⟨locs, hlo⟩ : ∃ locs : List Loc, locs = [] := ⟨_, rfl⟩
  rw [← hlo] at hS ⊢
  refine lv_iconst (v := 0) (pc := 0) hx hb dJ7_fill_53178_0 (by decide) ?_
  refine lv_istore_n (lv' := [(2, .int (nI 0)), (0, .ref b), (1, .int v)]) (pc := 1) hx hb dJ7_fill_53178_1 rfl hl (by decide) rfl (fun ls hl => ?_)
  refine lv_aload_n (pc := 2) hx hb dJ7_fill_53178_2 rfl (lv_at hl 1 rfl) ?_
  refine va_alen (pc := 3) hx hb hK.1 hP 0 0 rfl rfl (v := nI n) rfl dJ7_fill_53178_3 ?_
  refine lv_istore_n (lv' := [(3, .int (nI n)), (2, .int (nI 0)), (0, .ref b), (1, .int v)]) (pc := 4) hx hb dJ7_fill_53178_4 rfl hl (by decide) rfl (fun ls hl => ?_)
  have KL : ∀ (k i : Nat) (f : Nat → Int32) (H : Heap) (locs : List Loc) (ls : Array Slot), i ≤ n → n - i = k → (∀ j, j < i → f j = v) → va_P D vwCl [(b, .inl (cI, n, .inl f))] H → va_D A [(b, .inl (cI, n, .inl f))] → va_S A s.heap H locs → lv_has ls 4 [(3, .int (nI n)), (2, .int (nI i)), (0, .ref b), (1, .int v)] → GW l yJ7_fill_53178 cJ7_fill_53178 4 none 0 0 D [.ref b, .int v] none [(b, .inl (cI, n, .inl (fun _ => v)))] A p e s m below meth c H locs (F0 m 5 ls []) := by
    intro k
    induction k with
    | zero =>
      intro i f H locs ls hi hk hfj hP hD hS hl
      have hin : i = n := by omega
      subst hin
      refine lv_iload_n (pc := 5) hx hb dJ7_fill_53178_5 rfl (lv_at hl 1 rfl) ?_
      refine lv_iload_n (pc := 6) hx hb dJ7_fill_53178_6 rfl (lv_at hl 0 rfl) ?_
      refine lv_icmp_ge (pc := 7) (tgt := 20) hx hb dJ7_fill_53178_7 (by decide) (fun _ => ?_) (fun c0 => absurd (nI_le (Nat.le_refl _) hn) c0)
      have hP9 := cell_congr (g := fun _ => v) hfj hP
      have hD9 : va_D A [(b, .inl (cI, i, .inl (fun _ => v)))] := hD.set (p := 0) (a := b) (e := .inl (cI, i, .inl (fun _ => v))) rfl
      exact W.vret hx hb hr (fun t ht hW => ⟨rfl, by rw [ht]; exact hP9, hD9, hS.F ht⟩) hS.2.2 dJ7_fill_53178_20
    | succ k ih =>
      intro i f H locs ls hi hk hfj hP hD hS hl
      have hin : i < n := by omega
      refine lv_iload_n (pc := 5) hx hb dJ7_fill_53178_5 rfl (lv_at hl 1 rfl) ?_
      refine lv_iload_n (pc := 6) hx hb dJ7_fill_53178_6 rfl (lv_at hl 0 rfl) ?_
      refine lv_icmp_ge (pc := 7) (tgt := 20) hx hb dJ7_fill_53178_7 (by decide) (fun c0 => absurd c0 (nI_ge hin hn)) (fun _ => ?_)
      refine lv_aload_n (pc := 10) hx hb dJ7_fill_53178_10 rfl (lv_at hl 2 rfl) ?_
      refine lv_iload_n (pc := 11) hx hb dJ7_fill_53178_11 rfl (lv_at hl 1 rfl) ?_
      refine lv_iload_n (pc := 12) hx hb dJ7_fill_53178_12 rfl (lv_at hl 3 rfl) ?_
      refine va_iast (pc := 13) (f := f) hx hb hK.1 hP hD hS 0 0 rfl rfl (vp_in_nI hin hn) dJ7_fill_53178_13 (fun H locs hP hD hS => ?_)
      replace hP : va_P D vwCl [(b, .inl (cI, n, .inl (upd f (nI i).toNatClampNeg v)))] H := hP
      replace hD : va_D A [(b, .inl (cI, n, .inl (upd f (nI i).toNatClampNeg v)))] := hD
      refine lv_iinc (v := nI (i + 1)) (lv' := [(2, .int (nI (i + 1))), (3, .int (nI n)), (0, .ref b), (1, .int v)]) (pc := 14) hx hb dJ7_fill_53178_14 hl (k := 1) rfl (by rw [nI_succ]; rfl) (by decide) rfl (fun ls hl => ?_)
      refine lv_goto (pc := 17) (tgt := 5) hx hb dJ7_fill_53178_17 (by decide) ?_
      refine ih (i + 1) _ H locs ls hin (by omega) (fun j hj => ?_) hP hD hS (lv_sub hl [1, 0, 2, 3] rfl)
      rw [nI_clamp (by omega)]
      unfold upd
      by_cases e : j = i
      · rw [if_pos e]
      · rw [if_neg e]; exact hfj j (by omega)
  exact KL n 0 f0 H locs ls (Nat.zero_le _) rfl (fun j hj => absurd hj (Nat.not_lt_zero _)) hP hD hS hl
