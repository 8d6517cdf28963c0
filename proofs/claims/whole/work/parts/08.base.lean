/-! the state of an object: its ints, its longs, its int and boolean arrays, each by the number of its field -/
abbrev OS : Type := (Nat → Int32) × (Nat → Int64) × (Nat → Nat → Int32)
def sI (o : OS) (k : Nat) (v : Int32) : OS := (va_up o.1 k v, o.2.1, o.2.2)
def sL (o : OS) (k : Nat) (v : Int64) : OS := (o.1, va_up o.2.1 k v, o.2.2)
def sA (o : OS) (k i : Nat) (v : Int32) : OS := (o.1, o.2.1, va_up o.2.2 k (upd (o.2.2 k) i v))
def sR (o : OS) (k : Nat) (f : Nat → Int32) : OS := (o.1, o.2.1, va_up o.2.2 k f)
/-! what may fail: an index, a divisor, a boolean -/
def ck {α : Type} (i : Int32) (n : Nat) (k : Option α) : Option α := if i < 0 ∨ n ≤ i.toNatClampNeg then none else k
theorem ck_some {α : Type} {i : Int32} {n : Nat} {k : Option α} {x : α} (h : ck i n k = some x) : vp_in i n ∧ k = some x := by
  unfold ck at h
  by_cases c : i < 0 ∨ n ≤ i.toNatClampNeg
  · rw [if_pos c] at h; cases h
  · rw [if_neg c] at h; exact ⟨c, h⟩
theorem ck_ok {α : Type} {i : Int32} {n : Nat} {k : Option α} (h : vp_in i n) : ck i n k = k := if_neg h
def dz {α : Type} (y : Int32) (k : Option α) : Option α := if y = 0 then none else k
theorem dz_some {α : Type} {y : Int32} {k : Option α} {x : α} (h : dz y k = some x) : ¬ y = 0 ∧ k = some x := by
  unfold dz at h
  by_cases c : y = 0
  · rw [if_pos c] at h; cases h
  · rw [if_neg c] at h; exact ⟨c, h⟩
def dzL {α : Type} (y : Int64) (k : Option α) : Option α := if y = 0 then none else k
theorem dzL_some {α : Type} {y : Int64} {k : Option α} {x : α} (h : dzL y k = some x) : ¬ y = 0 ∧ k = some x := by
  unfold dzL at h
  by_cases c : y = 0
  · rw [if_pos c] at h; cases h
  · rw [if_neg c] at h; exact ⟨c, h⟩
def bz {α : Type} (v : Int32) (k : Option α) : Option α := if v = 0 ∨ v = 1 then k else none
theorem bz_some {α : Type} {v : Int32} {k : Option α} {x : α} (h : bz v k = some x) : narrow .boolean (.int v) = .int v ∧ k = some x := by
  unfold bz at h
  by_cases c : v = 0 ∨ v = 1
  · rw [if_pos c] at h
    refine ⟨?_, h⟩
    rcases c with rfl | rfl <;> rfl
  · rw [if_neg c] at h; cases h
theorem bd_some {α β : Type} {o : Option α} {k : α → Option β} {x : β} (h : o.bind k = some x) : ∃ a, o = some a ∧ k a = some x := Option.bind_eq_some_iff.mp h
theorem ip {c : Prop} [Decidable c] {α : Type} {a b : Option α} {x : α} (h : c) (e : (if c then a else b) = some x) : a = some x := (if_pos h).symm.trans e
theorem im {c : Prop} [Decidable c] {α : Type} {a b : Option α} {x : α} (h : ¬ c) (e : (if c then a else b) = some x) : b = some x := (if_neg h).symm.trans e
def lt {α β : Type} (v : α) (k : α → Option β) : Option β := k v
theorem lt_some {α β : Type} {v : α} {k : α → Option β} {x : β} (h : lt v k = some x) : ∃ y, y = v ∧ k y = some x := ⟨v, rfl, h⟩
theorem sum_r {α β γ : Type} {f : α → Option γ} {g : β → Option γ} {y : β} {x : γ} (h : Sum.elim f g (.inr y) = some x) : g y = some x := h
theorem sum_l {α β : Type} {g : β → Option α} {r x : α} (h : Sum.elim (fun r => some r) g (.inl r) = some x) : some r = some x := h
theorem sum_i {α β γ : Type} {g : β → Option (α ⊕ γ)} {r : α} {x : α ⊕ γ} (h : Sum.elim (fun r => some (.inl r)) g (.inl r) = some x) : some (.inl r) = some x := h
section NAMING
variable {p : Program} {l : Launch} {e : Env} {R : Room} {s : State} {m : MethodId} {args : Array Value} {below : List Frame} {meth : Method} {c : Code} {H : Heap} {locs : List Loc} {cells slots : Nat} {Q : State → Prop} {pc : Nat} {ls : Array Slot} {rest : List Value}
theorem lv_nmI {y v : Int32} (h : y = v) (k : W p l e R s m args below meth c H locs cells slots Q (F0 m pc ls (.int y :: rest))) : W p l e R s m args below meth c H locs cells slots Q (F0 m pc ls (.int v :: rest)) := h ▸ k
theorem lv_nmL {y v : Int64} (h : y = v) (k : W p l e R s m args below meth c H locs cells slots Q (F0 m pc ls (.long y :: rest))) : W p l e R s m args below meth c H locs cells slots Q (F0 m pc ls (.long v :: rest)) := h ▸ k
theorem W_heap {g : JFrame} {H1 : Heap} (h : H1 = H) (k : W p l e R s m args below meth c H1 locs cells slots Q g) : W p l e R s m args below meth c H locs cells slots Q g := h ▸ k
end NAMING
/-! the tables' words of a method: what holds at its entry -/
def KX (D : va_G) (cI cZ cS : ClassId) (U : State) : Prop := va_K D vwCl [(cI, .int), (cZ, .boolean), (cS, .object RX3)] U ∧ ∀ w ∈ nestW, va_Nw w U
theorem nestW_on : ∀ w ∈ nestW, w.onTables = true := by decide +kernel
theorem KX.moved {D : va_G} {cI cZ cS : ClassId} {s U : State} (hW : s.WarmedH U.vm) (h : KX D cI cZ cS s) : KX D cI cZ cS U := ⟨va_K.moved hW.alike h.1, nestW_warm hW h.2⟩
theorem KX.same {D : va_G} {cI cZ cS : ClassId} {U : State} {g : JFrame} {mk : MethodId} {a : Array Value} (h : KX D cI cZ cS U) : KX D cI cZ cS (U.calling g mk a) := ⟨va_K.moved (u := U) (U := U.calling g mk a) (Vm.Alike.refl U.vm) h.1, fun w hw => va_Nw.same (u := U) (U := U.calling g mk a) (nestW_on w hw) rfl (h.2 w hw)⟩
/-! a contract: from the world w, the answer is res and the world w' -/
def CtQ (D : va_G) (A : Nat → Prop) (w' : va_W) (res : Option Value) : Array Value → State → Outcome → State → Prop := fun _ st oc t => oc = .returned res ∧ va_P D vwCl w' t.heap ∧ va_D A w' ∧ va_F A st t
def CtP (D : va_G) (cI cZ cS : ClassId) (w : va_W) (sz : Nat) (U : State) : Prop := U.heap.size = sz ∧ va_P D vwCl w U.heap ∧ KX D cI cZ cS U ∧ va_D (fun _ => True) w
def Ct (l : Launch) (y : MethodName) (c : ByteArray) (n : Nat) (ret : Option FieldType) (fr lo : Nat) (D : va_G) (cI cZ cS : ClassId) (av : List Value) (w : va_W) (res : Option Value) (w' : va_W) : Prop :=
  ∀ sz : Nat, Met l y (.code y c n ret :: TB) { frames := fr, cells := 0, slots := 0, locals := lo } (va_Pc av (CtP D cI cZ cS w sz)) (CtQ D (va_A w sz) w' res) 0 0 (va_A w sz)
/-- the walk's goal within a contract -/
abbrev GW (l : Launch) (y : MethodName) (cd : ByteArray) (n : Nat) (ret : Option FieldType) (fr lo : Nat) (D : va_G) (av : List Value) (res : Option Value) (w' : va_W) (A : Nat → Prop) (p : Program) (e : Env) (s : State) (m : MethodId) (below : List Frame) (meth : Method) (c : Code) (H : Heap) (locs : List Loc) (g : JFrame) : Prop :=
  W p l e (headSpec (.code y cd n ret :: TB) { frames := fr, cells := 0, slots := 0, locals := lo }).room s m av.toArray below meth c H locs 0 0 (MQ below (CtQ D A w' res) av.toArray s 0 0 A) g
theorem CtP_blind {D : va_G} {cI cZ cS : ClassId} {w : va_W} {sz : Nat} {av : List Value} : FrameBlind (va_Pc av (CtP D cI cZ cS w sz)) := fun _ _ _ _ q => ⟨q.1, q.2.1, q.2.2.1, q.2.2.2.1.same, q.2.2.2.2⟩
section CALLS
variable {p : Program} {l : Launch} {e : Env} {R : Room} {s : State} {m : MethodId} {args : Array Value} {below : List Frame} {meth : Method} {c : Code} {H : Heap} {locs : List Loc} {cells slots : Nat} {Q : State → Prop}
variable {pc : Nat} {ls : Array Slot} {rest st0 : List Value} {A0 : Nat → Prop} {H0 : Heap} {D : va_G} {cI cZ cS : ClassId}
/-- behind a call: the world that the callee leaves, in the caller's order -/
theorem ct_go {a : Array Value} {W0 W1 w wr w' : va_W} {res : Option Value} (hr : va_Run p l e R s m args below meth c H locs cells slots 0 0 (F0 m pc ls st0) rest (CtQ D (va_A w H.size) w' res a) (va_A w H.size)) (hP : va_P D vwCl W0 H) (hD : va_D A0 W0) (hS : va_S A0 H0 H locs) (hA : ∀ q, H0.size ≤ q → A0 q)
    (isC isR is1 : List Nat) (hC : isC.map (fun i => W0[i]?) = w.map some) (hR : isR.map (fun i => W0[i]?) = wr.map some) (hn : va_nd isR = true) (hdis : isR.all (fun i => !isC.elem i) = true) (hn1 : va_nd is1 = true) (h1 : is1.map (fun i => (wr ++ w')[i]?) = W1.map some)
    (kk : ∀ (H1 : Heap) (locs1 : List Loc), va_P D vwCl W1 H1 → va_D A0 W1 → va_S A0 H0 H1 locs1 → W p l e R s m args below meth c H1 locs1 cells slots Q (F0 m (pc + 3) ls (res.toList ++ rest))) : W p l e R s m args below meth c H locs cells slots Q (F0 m pc ls st0) := by
  have hF := va_free (wc := w) hD hS hA isC hC
  intro T hT X
  obtain ⟨v, st₀, t, T', L, h0, X', hL, e1, e2, ⟨hv, hPt, hDt, hz, hk⟩, st⟩ := hr T hT X
  cases hv
  rw [h0] at hz hk
  have hj := va_join (wr := wr) (w1 := w') hP hD isC isR hC hR hn (fun i hi => by
    have := List.all_eq_true.mp hdis i hi
    simpa using this) hk hF hPt hDt
  have hP1 : va_P D vwCl W1 t.heap := by
    refine hj.1.sub is1 ?_
    have h2 : is1.filterMap (fun i => (wr ++ w')[i]?) = (is1.map (fun i => (wr ++ w')[i]?)).filterMap id := by rw [List.filterMap_map]; rfl
    rw [h2, h1, List.filterMap_map]
    simp
  have hD1 : va_D A0 W1 := hj.2.sub is1 hn1 h1
  obtain ⟨t2, a1, b1⟩ := kk T'.heap (locs ++ L) (by rw [e1]; exact hP1) hD1
    ⟨Nat.le_trans hS.1 (by rw [e1]; exact hz), fun q h1 h2 => by rw [e1, hk q (Nat.lt_of_lt_of_le h1 hS.1) (fun z => h2 (hF q z))]; exact hS.2.1 q h1 h2, fun q hq => by
      rcases List.mem_append.mp hq with h | h
      · exact hS.2.2 q h
      · exact hF _ (hL q h)⟩ T' rfl X'
  exact ⟨t2, st t2 a1, b1⟩
variable {y : MethodName} {bytes cc : ByteArray} {maxL nL n index fr lo : Nat} {ret : Option FieldType} {own C : String} {b : Addr} {As : List Value} {res : Option Value} {W0 W1 w wr w' : va_W}
/-- a call of an instance's method -/
theorem ct_V (S : CallFix p m c cc nL s args TB own) (hK : KX D cI cZ cS s) (hM : Ct l y bytes maxL ret fr lo D cI cZ cS (.ref b :: As) w res w') (hT : GoodIn TB (wsV own index C y (.code y bytes maxL ret :: TB))) (hC0 : y.cls = C) (hd : y.cls ≠ "java/lang/invoke/MethodHandle" ∧ y.cls ≠ "java/lang/invoke/VarHandle" ∧ (parseMethodDescriptor y.desc).map (fun d => d.parameters.length) = some n) (hlen : As.length = n) (hR : fr + 1 ≤ R.frames ∧ 8 + (maxL + 11) + lo ≤ R.locals)
    {ci q0 : Nat} {qc : vw_C} {fs : List Value} (hc : vwCl[ci]? = some qc) (hqC : qc.1 = C) (he : W0[q0]? = some (b, .inr (ci, fs)))
    (hsize : ls.size = nL) (hstack : st0 = As.reverse ++ .ref b :: rest) (hW : (rest.map fun v => v.category).sum ≤ 8) (hdg : decode cc pc = .ok (.invokevirtual index, 3)) (hcc : cells ≤ R.cells ∧ slots ≤ R.slots)
    (hP : va_P D vwCl W0 H) (hD : va_D A0 W0) (hS : va_S A0 H0 H locs) (hA : ∀ q, H0.size ≤ q → A0 q)
    (isC isR is1 : List Nat) (hC : isC.map (fun i => W0[i]?) = w.map some) (hRr : isR.map (fun i => W0[i]?) = wr.map some) (hn : va_nd isR = true) (hdis : isR.all (fun i => !isC.elem i) = true) (hnC : va_nd isC = true) (hn1 : va_nd is1 = true) (h1 : is1.map (fun i => (wr ++ w')[i]?) = W1.map some)
    (kk : ∀ (H1 : Heap) (locs1 : List Loc), va_P D vwCl W1 H1 → va_D A0 W1 → va_S A0 H0 H1 locs1 → W p l e R s m args below meth c H1 locs1 cells slots Q (F0 m (pc + 3) ls (res.toList ++ rest))) : W p l e R s m args below meth c H locs cells slots Q (F0 m pc ls st0) := by
  subst hstack
  have hPc : va_P D vwCl w H := by
    refine hP.sub isC ?_
    have h2 : isC.filterMap (fun i => W0[i]?) = (isC.map (fun i => W0[i]?)).filterMap id := by rw [List.filterMap_map]; rfl
    rw [h2, hC, List.filterMap_map]
    simp
  have hDc : va_D A0 w := hD.sub isC hnC hC
  refine ct_go (va_runV (C := C) (As := As) (rest := rest) S (hM H.size) (cwV n S.2.2.2.2 hT rfl rfl rfl ⟨hC0, hd⟩ hR) ⟨CtP_blind, by
      have hv := va_recv hK.1 hP hc he
      rw [hqC] at hv
      exact hv, fun U hU hW2 => ⟨rfl, by rw [hU], by rw [hU]; exact hPc, hK.moved hW2, hDc.weaken (fun _ _ _ _ => trivial)⟩⟩ rfl hlen hsize rfl (lv_room hW) hdg hcc) hP hD hS hA isC isR is1 hC hRr hn hdis hn1 h1 kk
/-- a call of a static method -/
theorem ct_S (S : CallFix p m c cc nL s args TB own) (hK : KX D cI cZ cS s) (hM : Ct l y bytes maxL ret fr lo D cI cZ cS As w res w') (hT : GoodIn TB (va_wsS own index y (.code y bytes maxL ret :: TB))) (hd : y.cls ≠ "java/lang/invoke/MethodHandle" ∧ y.cls ≠ "java/lang/invoke/VarHandle" ∧ (parseMethodDescriptor y.desc).map (fun d => d.parameters.length) = some n) (hlen : As.length = n) (hR : fr + 1 ≤ R.frames ∧ 8 + (maxL + 11) + lo ≤ R.locals)
    (hsize : ls.size = nL) (hstack : st0 = As.reverse ++ rest) (hW : (rest.map fun v => v.category).sum ≤ 8) (hdg : decode cc pc = .ok (.invokestatic index, 3)) (hcc : cells ≤ R.cells ∧ slots ≤ R.slots)
    (hP : va_P D vwCl W0 H) (hD : va_D A0 W0) (hS : va_S A0 H0 H locs) (hA : ∀ q, H0.size ≤ q → A0 q)
    (isC isR is1 : List Nat) (hC : isC.map (fun i => W0[i]?) = w.map some) (hRr : isR.map (fun i => W0[i]?) = wr.map some) (hn : va_nd isR = true) (hdis : isR.all (fun i => !isC.elem i) = true) (hnC : va_nd isC = true) (hn1 : va_nd is1 = true) (h1 : is1.map (fun i => (wr ++ w')[i]?) = W1.map some)
    (kk : ∀ (H1 : Heap) (locs1 : List Loc), va_P D vwCl W1 H1 → va_D A0 W1 → va_S A0 H0 H1 locs1 → W p l e R s m args below meth c H1 locs1 cells slots Q (F0 m (pc + 3) ls (res.toList ++ rest))) : W p l e R s m args below meth c H locs cells slots Q (F0 m pc ls st0) := by
  subst hstack
  have hPc : va_P D vwCl w H := by
    refine hP.sub isC ?_
    have h2 : isC.filterMap (fun i => W0[i]?) = (isC.map (fun i => W0[i]?)).filterMap id := by rw [List.filterMap_map]; rfl
    rw [h2, hC, List.filterMap_map]
    simp
  have hDc : va_D A0 w := hD.sub isC hnC hC
  exact ct_go (va_runS (As := As) (rest := rest) S (hM H.size) (va_cwS n S.2.2.2.2 hT rfl rfl rfl hd hR) ⟨CtP_blind, fun U hU hW2 => ⟨rfl, by rw [hU], by rw [hU]; exact hPc, hK.moved hW2, hDc.weaken (fun _ _ _ _ => trivial)⟩⟩ rfl hlen hsize rfl (lv_room hW) hdg hcc) hP hD hS hA isC isR is1 hC hRr hn hdis hn1 h1 kk
/-- behind a call that has the caller's whole world -/
theorem ct_go1 {a : Array Value} {W0 W1 : va_W} {res : Option Value} (hr : va_Run p l e R s m args below meth c H locs cells slots 0 0 (F0 m pc ls st0) rest (CtQ D (va_A W0 H.size) W1 res a) (va_A W0 H.size)) (hD : va_D A0 W0) (hS : va_S A0 H0 H locs) (hA : ∀ q, H0.size ≤ q → A0 q)
    (kk : ∀ (H1 : Heap) (locs1 : List Loc), va_P D vwCl W1 H1 → va_D A0 W1 → va_S A0 H0 H1 locs1 → W p l e R s m args below meth c H1 locs1 cells slots Q (F0 m (pc + 3) ls (res.toList ++ rest))) : W p l e R s m args below meth c H locs cells slots Q (F0 m pc ls st0) := by
  have hF : ∀ q, va_A W0 H.size q → A0 q := by
    intro q h
    rcases h with ⟨k, e, h⟩ | h
    · exact hD.2 k (q, e) h
    · exact hA q (Nat.le_trans hS.1 h)
  intro T hT X
  obtain ⟨v, st₀, t, T', L, h0, X', hL, e1, e2, ⟨hv, hPt, hDt, hz, hk⟩, st⟩ := hr T hT X
  cases hv
  rw [h0] at hz hk
  obtain ⟨t2, a1, b1⟩ := kk T'.heap (locs ++ L) (by rw [e1]; exact hPt) (hDt.weaken (fun k q _ h => hF q.1 h))
    ⟨Nat.le_trans hS.1 (by rw [e1]; exact hz), fun q h1 h2 => by rw [e1, hk q (Nat.lt_of_lt_of_le h1 hS.1) (fun z => h2 (hF q z))]; exact hS.2.1 q h1 h2, fun q hq => by
      rcases List.mem_append.mp hq with h | h
      · exact hS.2.2 q h
      · exact hF _ (hL q h)⟩ T' rfl X'
  exact ⟨t2, st t2 a1, b1⟩
/-- behind a call that has no world -/
theorem ct_go0 {a : Array Value} {W0 : va_W} {res : Option Value} (hr : va_Run p l e R s m args below meth c H locs cells slots 0 0 (F0 m pc ls st0) rest (CtQ D (va_A [] H.size) [] res a) (va_A [] H.size)) (hP : va_P D vwCl W0 H) (hS : va_S A0 H0 H locs) (hA : ∀ q, H0.size ≤ q → A0 q)
    (kk : ∀ (H1 : Heap) (locs1 : List Loc), va_P D vwCl W0 H1 → va_S A0 H0 H1 locs1 → W p l e R s m args below meth c H1 locs1 cells slots Q (F0 m (pc + 3) ls (res.toList ++ rest))) : W p l e R s m args below meth c H locs cells slots Q (F0 m pc ls st0) := by
  have hF : ∀ q, va_A [] H.size q → A0 q := by
    intro q h
    rcases h with ⟨k, e, h⟩ | h
    · simp at h
    · exact hA q (Nat.le_trans hS.1 h)
  have hn : ∀ q, q < H.size → ¬ va_A [] H.size q := by
    intro q hq h
    rcases h with ⟨k, e, h⟩ | h
    · simp at h
    · omega
  intro T hT X
  obtain ⟨v, st₀, t, T', L, h0, X', hL, e1, e2, ⟨hv, hPt, hDt, hz, hk⟩, st⟩ := hr T hT X
  cases hv
  rw [h0] at hz hk
  obtain ⟨t2, a1, b1⟩ := kk T'.heap (locs ++ L) (by rw [e1]; exact hP.kept (fun k q hq => hk q.1 (hP k q hq).lt (hn _ (hP k q hq).lt)))
    ⟨Nat.le_trans hS.1 (by rw [e1]; exact hz), fun q h1 h2 => by rw [e1, hk q (Nat.lt_of_lt_of_le h1 hS.1) (fun z => h2 (hF q z))]; exact hS.2.1 q h1 h2, fun q hq => by
      rcases List.mem_append.mp hq with h | h
      · exact hS.2.2 q h
      · exact hF _ (hL q h)⟩ T' rfl X'
  exact ⟨t2, st t2 a1, b1⟩
theorem ct_V1 (S : CallFix p m c cc nL s args TB own) (hK : KX D cI cZ cS s) (hM : Ct l y bytes maxL ret fr lo D cI cZ cS (.ref b :: As) W0 res W1) (hT : GoodIn TB (wsV own index C y (.code y bytes maxL ret :: TB))) (hC0 : y.cls = C) (hd : y.cls ≠ "java/lang/invoke/MethodHandle" ∧ y.cls ≠ "java/lang/invoke/VarHandle" ∧ (parseMethodDescriptor y.desc).map (fun d => d.parameters.length) = some n) (hlen : As.length = n) (hR : fr + 1 ≤ R.frames ∧ 8 + (maxL + 11) + lo ≤ R.locals)
    {ci q0 : Nat} {qc : vw_C} {fs : List Value} (hc : vwCl[ci]? = some qc) (hqC : qc.1 = C) (he : W0[q0]? = some (b, .inr (ci, fs)))
    (hsize : ls.size = nL) (hstack : st0 = As.reverse ++ .ref b :: rest) (hW : (rest.map fun v => v.category).sum ≤ 8) (hdg : decode cc pc = .ok (.invokevirtual index, 3)) (hcc : cells ≤ R.cells ∧ slots ≤ R.slots)
    (hP : va_P D vwCl W0 H) (hD : va_D A0 W0) (hS : va_S A0 H0 H locs) (hA : ∀ q, H0.size ≤ q → A0 q)
    (kk : ∀ (H1 : Heap) (locs1 : List Loc), va_P D vwCl W1 H1 → va_D A0 W1 → va_S A0 H0 H1 locs1 → W p l e R s m args below meth c H1 locs1 cells slots Q (F0 m (pc + 3) ls (res.toList ++ rest))) : W p l e R s m args below meth c H locs cells slots Q (F0 m pc ls st0) := by
  subst hstack
  exact ct_go1 (va_runV (C := C) (As := As) (rest := rest) S (hM H.size) (cwV n S.2.2.2.2 hT rfl rfl rfl ⟨hC0, hd⟩ hR) ⟨CtP_blind, by
      have hv := va_recv hK.1 hP hc he
      rw [hqC] at hv
      exact hv, fun U hU hW2 => ⟨rfl, by rw [hU], by rw [hU]; exact hP, hK.moved hW2, hD.weaken (fun _ _ _ _ => trivial)⟩⟩ rfl hlen hsize rfl (lv_room hW) hdg hcc) hD hS hA kk
theorem ct_S0 (S : CallFix p m c cc nL s args TB own) (hK : KX D cI cZ cS s) (hM : Ct l y bytes maxL ret fr lo D cI cZ cS As [] res []) (hT : GoodIn TB (va_wsS own index y (.code y bytes maxL ret :: TB))) (hd : y.cls ≠ "java/lang/invoke/MethodHandle" ∧ y.cls ≠ "java/lang/invoke/VarHandle" ∧ (parseMethodDescriptor y.desc).map (fun d => d.parameters.length) = some n) (hlen : As.length = n) (hR : fr + 1 ≤ R.frames ∧ 8 + (maxL + 11) + lo ≤ R.locals)
    (hsize : ls.size = nL) (hstack : st0 = As.reverse ++ rest) (hW : (rest.map fun v => v.category).sum ≤ 8) (hdg : decode cc pc = .ok (.invokestatic index, 3)) (hcc : cells ≤ R.cells ∧ slots ≤ R.slots)
    (hP : va_P D vwCl W0 H) (hS : va_S A0 H0 H locs) (hA : ∀ q, H0.size ≤ q → A0 q)
    (kk : ∀ (H1 : Heap) (locs1 : List Loc), va_P D vwCl W0 H1 → va_S A0 H0 H1 locs1 → W p l e R s m args below meth c H1 locs1 cells slots Q (F0 m (pc + 3) ls (res.toList ++ rest))) : W p l e R s m args below meth c H locs cells slots Q (F0 m pc ls st0) := by
  subst hstack
  exact ct_go0 (va_runS (As := As) (rest := rest) S (hM H.size) (va_cwS n S.2.2.2.2 hT rfl rfl rfl hd hR) ⟨CtP_blind, fun U hU hW2 => ⟨rfl, by rw [hU], fun k q h => by simp at h, hK.moved hW2, ⟨fun i j p q h => by simp at h, fun k q h => by simp at h⟩⟩⟩ rfl hlen hsize rfl (lv_room hW) hdg hcc) hP hS hA kk
end CALLS
