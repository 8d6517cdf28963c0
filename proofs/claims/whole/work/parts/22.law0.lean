/-! worlds by blocks: the order of blocks is free -/
theorem va_P_mem {D : va_G} {cl : List vw_C} {ws : va_W} {H : Heap} : va_P D cl ws H ↔ ∀ q ∈ ws, va_at D cl q H := by
  constructor
  · intro h q hq
    obtain ⟨k, hk⟩ := List.getElem?_of_mem hq
    exact h k q hk
  · intro h k q hk
    exact h q (List.mem_of_getElem? hk)
theorem va_P_perm {D : va_G} {cl : List vw_C} {ws ws' : va_W} {H : Heap} (hp : ws.Perm ws') (h : va_P D cl ws H) : va_P D cl ws' H := va_P_mem.mpr fun q hq => va_P_mem.mp h q (hp.mem_iff.mpr hq)
theorem va_D_nodup {A : Nat → Prop} {ws : va_W} : va_D A ws ↔ (ws.map Prod.fst).Nodup ∧ ∀ q ∈ ws, A q.1 := by
  constructor
  · intro h
    refine ⟨?_, fun q hq => ?_⟩
    · rw [List.nodup_iff_pairwise_ne, List.pairwise_iff_getElem]
      intro i j hi hj hij e
      simp only [List.length_map] at hi hj
      simp only [List.getElem_map] at e
      have := h.1 i j ws[i] ws[j] (List.getElem?_eq_getElem hi) (List.getElem?_eq_getElem hj) e
      omega
    · obtain ⟨k, hk⟩ := List.getElem?_of_mem hq
      exact h.2 k q hk
  · intro h
    refine ⟨fun i j p q hi hj e => ?_, fun k q hk => h.2 q (List.mem_of_getElem? hk)⟩
    have hn := h.1
    rw [List.nodup_iff_pairwise_ne, List.pairwise_iff_getElem] at hn
    obtain ⟨li, ei⟩ := List.getElem?_eq_some_iff.mp hi
    obtain ⟨lj, ej⟩ := List.getElem?_eq_some_iff.mp hj
    rcases Nat.lt_trichotomy i j with hl | hl | hl
    · have h9 := hn i j (by simpa using li) (by simpa using lj) hl
      rw [List.getElem_map, List.getElem_map, ei, ej] at h9
      exact absurd e h9
    · exact hl
    · have h9 := hn j i (by simpa using lj) (by simpa using li) hl
      rw [List.getElem_map, List.getElem_map, ei, ej] at h9
      exact absurd e.symm h9
theorem va_D_perm {A : Nat → Prop} {ws ws' : va_W} (hp : ws.Perm ws') (h : va_D A ws) : va_D A ws' := by
  rw [va_D_nodup] at h ⊢
  exact ⟨(hp.map Prod.fst).nodup_iff.mp h.1, fun q hq => h.2 q (hp.mem_iff.mpr hq)⟩
def fl : List va_W → va_W
  | [] => []
  | [b] => b
  | b :: c :: bs => b ++ fl (c :: bs)
theorem fl_cons (b : va_W) (bs : List va_W) : fl (b :: bs) = b ++ fl bs := by
  cases bs with
  | nil => simp [fl]
  | cons c bs => rfl
theorem fl_app (a b : List va_W) : fl (a ++ b) = fl a ++ fl b := by
  induction a with
  | nil => rfl
  | cons x a ih => rw [List.cons_append, fl_cons, fl_cons, ih, List.append_assoc]
theorem fl_perm {a b : List va_W} (h : a.Perm b) : (fl a).Perm (fl b) := by
  induction h with
  | nil => exact List.Perm.refl _
  | cons x _ ih => rw [fl_cons, fl_cons]; exact ih.append_left x
  | swap x y l => rw [fl_cons, fl_cons, fl_cons, fl_cons, ← List.append_assoc, ← List.append_assoc]; exact List.perm_append_comm.append_right _
  | trans _ _ h1 h2 => exact h1.trans h2
theorem range_pick {α : Type} : ∀ l : List α, (List.range l.length).filterMap (fun i => l[i]?) = l
  | [] => rfl
  | x :: l => by
    have ih := range_pick l
    rw [List.length_cons, List.range_succ_eq_map, List.filterMap_cons, List.filterMap_map]
    simp only [List.getElem?_cons_zero]
    congr 1
theorem pick_perm {α : Type} (l : List α) {is : List Nat} (h : is.Perm (List.range l.length)) : (is.filterMap (fun i => l[i]?)).Perm l := by
  have h1 := h.filterMap (fun i => l[i]?)
  rwa [range_pick] at h1
section CALLB
variable {p : Program} {l : Launch} {e : Env} {R : Room} {s : State} {m : MethodId} {args : Array Value} {below : List Frame} {meth : Method} {c : Code} {H : Heap} {locs : List Loc} {cells slots : Nat} {Q : State → Prop}
variable {pc : Nat} {ls : Array Slot} {rest st0 : List Value} {A0 : Nat → Prop} {H0 : Heap} {D : va_G} {cI cZ cS : ClassId}
variable {y : MethodName} {bytes cc : ByteArray} {maxL nL n index fr lo : Nat} {ret : Option FieldType} {own C : String} {b : Addr} {As : List Value} {res : Option Value}
/-- a call over worlds by blocks -/
theorem ct_VB {bs cb rb cb1 bs1 : List va_W} (S : CallFix p m c cc nL s args TB own) (hK : KX D cI cZ cS s) (hM : Ct l y bytes maxL ret fr lo D cI cZ cS (.ref b :: As) (fl cb) res (fl cb1)) (hT : GoodIn TB (wsV own index C y (.code y bytes maxL ret :: TB))) (hC0 : y.cls = C) (hd : y.cls ≠ "java/lang/invoke/MethodHandle" ∧ y.cls ≠ "java/lang/invoke/VarHandle" ∧ (parseMethodDescriptor y.desc).map (fun d => d.parameters.length) = some n) (hlen : As.length = n) (hR : fr + 1 ≤ R.frames ∧ 8 + (maxL + 11) + lo ≤ R.locals)
    {ci : Nat} {qc : vw_C} {fs : List Value} (hc : vwCl[ci]? = some qc) (hqC : qc.1 = C) (he : (fl cb)[0]? = some (b, .inr (ci, fs)))
    (hsize : ls.size = nL) (hstack : st0 = As.reverse ++ .ref b :: rest) (hW : (rest.map fun v => v.category).sum ≤ 8) (hdg : decode cc pc = .ok (.invokevirtual index, 3)) (hcc : cells ≤ R.cells ∧ slots ≤ R.slots)
    (hP : va_P D vwCl (fl bs) H) (hD : va_D A0 (fl bs)) (hS : va_S A0 H0 H locs) (hA : ∀ q, H0.size ≤ q → A0 q)
    (isC isR is1 : List Nat) {nb nb1 : Nat} (hnb : bs.length = nb) (hp : (isC ++ isR).Perm (List.range nb)) (hcb : isC.filterMap (fun i => bs[i]?) = cb) (hrb : isR.filterMap (fun i => bs[i]?) = rb) (hnb1 : (cb1 ++ rb).length = nb1) (hp1 : is1.Perm (List.range nb1)) (hb1 : is1.filterMap (fun i => (cb1 ++ rb)[i]?) = bs1)
    (kk : ∀ (H1 : Heap) (locs1 : List Loc), va_P D vwCl (fl bs1) H1 → va_D A0 (fl bs1) → va_S A0 H0 H1 locs1 → W p l e R s m args below meth c H1 locs1 cells slots Q (F0 m (pc + 3) ls (res.toList ++ rest))) : W p l e R s m args below meth c H locs cells slots Q (F0 m pc ls st0) := by
  subst hstack
  have hperm : (fl bs).Perm (fl cb ++ fl rb) := by
    rw [← fl_app, ← hcb, ← hrb, ← List.filterMap_append]
    exact (fl_perm (pick_perm bs (by rw [hnb]; exact hp))).symm
  have hperm1 : (fl cb1 ++ fl rb).Perm (fl bs1) := by
    rw [← fl_app, ← hb1]
    exact (fl_perm (pick_perm (cb1 ++ rb) (by rw [hnb1]; exact hp1))).symm
  have hP0 := va_P_perm hperm hP
  have hD0 := va_D_perm hperm hD
  have hPc : va_P D vwCl (fl cb) H := va_P_mem.mpr fun q hq => va_P_mem.mp hP0 q (List.mem_append_left _ hq)
  have hPr : va_P D vwCl (fl rb) H := va_P_mem.mpr fun q hq => va_P_mem.mp hP0 q (List.mem_append_right _ hq)
  have hN := va_D_nodup.mp hD0
  have hDc : va_D A0 (fl cb) := va_D_nodup.mpr ⟨by
    have := hN.1
    rw [List.map_append] at this
    exact (List.nodup_append.mp this).1, fun q hq => hN.2 q (List.mem_append_left _ hq)⟩
  have hDr : va_D A0 (fl rb) := va_D_nodup.mpr ⟨by
    have := hN.1
    rw [List.map_append] at this
    exact (List.nodup_append.mp this).2.1, fun q hq => hN.2 q (List.mem_append_right _ hq)⟩
  have hdis : ∀ p ∈ fl cb, ∀ q ∈ fl rb, p.1 ≠ q.1 := by
    have := hN.1
    rw [List.map_append] at this
    intro p hp q hq
    exact (List.nodup_append.mp this).2.2 p.1 (List.mem_map_of_mem hp) q.1 (List.mem_map_of_mem hq)
  have hF : ∀ q, va_A (fl cb) H.size q → A0 q := by
    intro q h
    rcases h with ⟨k, e, h⟩ | h
    · exact hDc.2 k (q, e) h
    · exact hA q (Nat.le_trans hS.1 h)
  have hout : ∀ q ∈ fl rb, q.1 < H.size ∧ ¬ va_A (fl cb) H.size q.1 := by
    intro q hq
    have hl := (va_P_mem.mp hPr q hq).lt
    refine ⟨hl, fun h => ?_⟩
    rcases h with ⟨k, e, h⟩ | h
    · exact hdis _ (List.mem_of_getElem? h) q hq rfl
    · omega
  have hr := va_runV (C := C) (As := As) (rest := rest) (locs := locs) (l := l) (e := e) (below := below) (meth := meth) (cells := cells) (slots := slots) (g := F0 m pc ls (As.reverse ++ .ref b :: rest)) S (hM H.size) (cwV n S.2.2.2.2 hT rfl rfl rfl ⟨hC0, hd⟩ hR) ⟨CtP_blind, by
      have hv := va_recv hK.1 hPc hc he
      rw [hqC] at hv
      exact hv, fun U hU hW2 => ⟨rfl, by rw [hU], by rw [hU]; exact hPc, hK.moved hW2, hDc.weaken (fun _ _ _ _ => trivial)⟩⟩ rfl hlen hsize rfl (lv_room hW) hdg hcc
  intro T hT X
  obtain ⟨v, st₀, t, T', L, h0, X', hL, e1, e2, ⟨hv, hPt, hDt, hz, hk⟩, st⟩ := hr T hT X
  cases hv
  rw [h0] at hz hk
  have hPr1 : va_P D vwCl (fl rb) t.heap := va_P_mem.mpr fun q hq => (va_P_mem.mp hPr q hq).kept (hk q.1 (hout q hq).1 (hout q hq).2)
  have hP1 : va_P D vwCl (fl bs1) t.heap := va_P_perm hperm1 (hPt.app hPr1)
  have hD1 : va_D A0 (fl bs1) := va_D_perm hperm1 (va_D.app (hDt.weaken (fun k q _ h => hF q.1 h)) hDr (fun i j x y hx hy hxy => (hout y (List.mem_of_getElem? hy)).2 (by rw [← hxy]; exact hDt.2 i x hx)))
  obtain ⟨t2, a1, b1⟩ := kk T'.heap (locs ++ L) (by rw [e1]; exact hP1) hD1
    ⟨Nat.le_trans hS.1 (by rw [e1]; exact hz), fun q h1 h2 => by rw [e1, hk q (Nat.lt_of_lt_of_le h1 hS.1) (fun z => h2 (hF q z))]; exact hS.2.1 q h1 h2, fun q hq => by
      rcases List.mem_append.mp hq with h | h
      · exact hS.2.2 q h
      · exact hF _ (hL q h)⟩ T' rfl X'
  exact ⟨t2, st t2 a1, b1⟩
end CALLB
/-! constructors: new cells come -/
def z0 : OS := (fun _ => 0, fun _ => 0, fun _ _ => 0)
def CnQ {α : Type} (D : va_G) (A : Nat → Prop) (w' : α → va_W) : Array Value → State → Outcome → State → Prop := fun _ st oc t => oc = .returned none ∧ (∃ q : α, va_P D vwCl (w' q) t.heap ∧ va_D A (w' q)) ∧ va_F A st t
def CnP (D : va_G) (cI cZ cS : ClassId) (w : va_W) (sz : Nat) (U : State) : Prop := U.heap.size = sz ∧ va_P D vwCl w U.heap ∧ (KX D cI cZ cS U ∧ va_AO RX3 U) ∧ va_D (fun _ => True) w
def CtN {α : Type} (l : Launch) (y : MethodName) (c : ByteArray) (n : Nat) (fr lo mc ms : Nat) (D : va_G) (cI cZ cS : ClassId) (av : List Value) (w : va_W) (w' : α → va_W) : Prop :=
  ∀ sz : Nat, Met l y (.code y c n none :: TB) { frames := fr, cells := mc, slots := ms, locals := lo } (va_Pc av (CnP D cI cZ cS w sz)) (CnQ D (va_A w sz) w') mc ms (va_A w sz)
theorem CnP_blind {D : va_G} {cI cZ cS : ClassId} {w : va_W} {sz : Nat} {av : List Value} : FrameBlind (va_Pc av (CnP D cI cZ cS w sz)) := fun _ U g mk q => ⟨q.1, q.2.1, q.2.2.1, ⟨q.2.2.2.1.1.same, va_AO.moved (u := U) (Vm.Alike.refl U.vm) q.2.2.2.1.2⟩, q.2.2.2.2⟩
section CALLN
variable {p : Program} {l : Launch} {e : Env} {R : Room} {s : State} {m : MethodId} {args : Array Value} {below : List Frame} {meth : Method} {c : Code} {H : Heap} {locs : List Loc} {cells slots : Nat} {Q : State → Prop}
variable {pc : Nat} {ls : Array Slot} {rest st0 : List Value} {A0 : Nat → Prop} {H0 : Heap} {D : va_G} {cI cZ cS : ClassId}
theorem ct_goN {α : Type} {mc ms : Nat} {a : Array Value} {ws w : va_W} {w' : α → va_W} (hr : va_Run p l e R s m args below meth c H locs cells slots mc ms (F0 m pc ls st0) rest (CnQ D (va_A w H.size) w' a) (va_A w H.size)) (hP : va_P D vwCl (ws ++ w) H) (hD : va_D A0 (ws ++ w)) (hS : va_S A0 H0 H locs) (hA : ∀ q, H0.size ≤ q → A0 q)
    (kk : ∀ (q : α) (H1 : Heap) (locs1 : List Loc), va_P D vwCl (ws ++ w' q) H1 → va_D A0 (ws ++ w' q) → va_S A0 H0 H1 locs1 → W p l e R s m args below meth c H1 locs1 (cells + mc) (slots + ms) Q (F0 m (pc + 3) ls rest)) : W p l e R s m args below meth c H locs cells slots Q (F0 m pc ls st0) := by
  have hPr : va_P D vwCl ws H := va_P_mem.mpr fun q hq => va_P_mem.mp hP q (List.mem_append_left _ hq)
  have hN := va_D_nodup.mp hD
  have hDc : va_D A0 w := va_D_nodup.mpr ⟨by
    have := hN.1
    rw [List.map_append] at this
    exact (List.nodup_append.mp this).2.1, fun q hq => hN.2 q (List.mem_append_right _ hq)⟩
  have hDr : va_D A0 ws := va_D_nodup.mpr ⟨by
    have := hN.1
    rw [List.map_append] at this
    exact (List.nodup_append.mp this).1, fun q hq => hN.2 q (List.mem_append_left _ hq)⟩
  have hdis : ∀ p ∈ ws, ∀ q ∈ w, p.1 ≠ q.1 := by
    have := hN.1
    rw [List.map_append] at this
    intro p hp q hq
    exact (List.nodup_append.mp this).2.2 p.1 (List.mem_map_of_mem hp) q.1 (List.mem_map_of_mem hq)
  have hF : ∀ q, va_A w H.size q → A0 q := by
    intro q h
    rcases h with ⟨k, e, h⟩ | h
    · exact hDc.2 k (q, e) h
    · exact hA q (Nat.le_trans hS.1 h)
  have hout : ∀ q ∈ ws, q.1 < H.size ∧ ¬ va_A w H.size q.1 := by
    intro q hq
    have hl := (va_P_mem.mp hPr q hq).lt
    refine ⟨hl, fun h => ?_⟩
    rcases h with ⟨k, e, h⟩ | h
    · exact hdis q hq _ (List.mem_of_getElem? h) rfl
    · omega
  intro T hT X
  obtain ⟨v, st₀, t, T', L, h0, X', hL, e1, e2, ⟨hv, ⟨q, hPt, hDt⟩, hz, hk⟩, st⟩ := hr T hT X
  cases hv
  rw [h0] at hz hk
  have hPr1 : va_P D vwCl ws t.heap := va_P_mem.mpr fun q hq => (va_P_mem.mp hPr q hq).kept (hk q.1 (hout q hq).1 (hout q hq).2)
  obtain ⟨t2, a1, b1⟩ := kk q T'.heap (locs ++ L) (by rw [e1]; exact hPr1.app hPt) (va_D.app hDr (hDt.weaken (fun k q _ h => hF q.1 h)) (fun i j x y hx hy hxy => (hout x (List.mem_of_getElem? hx)).2 (by rw [hxy]; exact hDt.2 j y hy)))
    ⟨Nat.le_trans hS.1 (by rw [e1]; exact hz), fun q h1 h2 => by rw [e1, hk q (Nat.lt_of_lt_of_le h1 hS.1) (fun z => h2 (hF q z))]; exact hS.2.1 q h1 h2, fun q hq => by
      rcases List.mem_append.mp hq with h | h
      · exact hS.2.2 q h
      · exact hF _ (hL q h)⟩ T' rfl X'
  exact ⟨t2, st t2 a1, b1⟩
variable {y : MethodName} {bytes cc : ByteArray} {maxL nL index fr lo mc ms : Nat} {own : String} {b : Addr}
theorem CnP_at {ws w : va_W} {av : List Value} (hK : KX D cI cZ cS s) (hO : va_AO RX3 s) (hP : va_P D vwCl (ws ++ w) H) (hD : va_D A0 (ws ++ w)) : PreS s H (va_Pc av (CnP D cI cZ cS w H.size)) av := by
  have hN := va_D_nodup.mp hD
  have hPc : va_P D vwCl w H := va_P_mem.mpr fun q hq => va_P_mem.mp hP q (List.mem_append_right _ hq)
  have hDc : va_D A0 w := va_D_nodup.mpr ⟨by
    have := hN.1
    rw [List.map_append] at this
    exact (List.nodup_append.mp this).2.1, fun q hq => hN.2 q (List.mem_append_right _ hq)⟩
  exact ⟨CnP_blind, fun U hU hW2 => ⟨rfl, by rw [hU], by rw [hU]; exact hPc, ⟨hK.moved hW2, va_AO.moved hW2.alike hO⟩, hDc.weaken (fun _ _ _ _ => trivial)⟩⟩
/-- a constructor of a nest mate -/
theorem ct_IN {α : Type} {ws w : va_W} {w' : α → va_W} (S : CallFix p m c cc nL s args TB own) (hK : KX D cI cZ cS s) (hO : va_AO RX3 s) (hM : CtN l y bytes maxL fr lo mc ms D cI cZ cS [.ref b] w w') (hcd : Cond.code y bytes maxL none ∈ TB) (hl : va_Nw (.methodLinkNest own index y RX4) s) (hini : Cond.initialized y.cls ∈ TB) (hin : Cond.instanceMethod y ∈ TB) (hy1 : y.name = "<init>") (hd : y.cls ≠ "java/lang/invoke/MethodHandle" ∧ y.cls ≠ "java/lang/invoke/VarHandle" ∧ (parseMethodDescriptor y.desc).map (fun d => d.parameters.length) = some 0) (hR : fr + 1 ≤ R.frames ∧ 8 + (maxL + 11) + lo ≤ R.locals)
    (hsize : ls.size = nL) (hW : (rest.map fun v => v.category).sum ≤ 8) (hdg : decode cc pc = .ok (.invokespecial index, 3)) (hcc : cells + mc ≤ R.cells ∧ slots + ms ≤ R.slots)
    (hP : va_P D vwCl (ws ++ w) H) (hD : va_D A0 (ws ++ w)) (hS : va_S A0 H0 H locs) (hA : ∀ q, H0.size ≤ q → A0 q)
    (kk : ∀ (q : α) (H1 : Heap) (locs1 : List Loc), va_P D vwCl (ws ++ w' q) H1 → va_D A0 (ws ++ w' q) → va_S A0 H0 H1 locs1 → W p l e R s m args below meth c H1 locs1 (cells + mc) (slots + ms) Q (F0 m (pc + 3) ls rest)) : W p l e R s m args below meth c H locs cells slots Q (F0 m pc ls (.ref b :: rest)) :=
  ct_goN (va_runIN (As := []) (rest := rest) S (hM H.size) ⟨va_cnB 0 S.2.2.2.2 (goodC hcd) rfl rfl rfl hl (S.2.2.2.2 _ hini) hd hR, hy1, S.2.2.2.2 _ hin⟩ (CnP_at hK hO hP hD) rfl rfl hsize rfl (lv_room hW) hdg hcc) hP hD hS hA kk
/-- a constructor -/
theorem ct_I {α : Type} {ws w : va_W} {w' : α → va_W} (S : CallFix p m c cc nL s args TB own) (hK : KX D cI cZ cS s) (hO : va_AO RX3 s) (hM : CtN l y bytes maxL fr lo mc ms D cI cZ cS [.ref b] w w') (hcd : Cond.code y bytes maxL none ∈ TB) (hl : Cond.methodLink own index y ∈ TB) (hini : Cond.initialized y.cls ∈ TB) (hin : Cond.instanceMethod y ∈ TB) (hy1 : y.name = "<init>") (hd : y.cls ≠ "java/lang/invoke/MethodHandle" ∧ y.cls ≠ "java/lang/invoke/VarHandle" ∧ (parseMethodDescriptor y.desc).map (fun d => d.parameters.length) = some 0) (hR : fr + 1 ≤ R.frames ∧ 8 + (maxL + 11) + lo ≤ R.locals)
    (hsize : ls.size = nL) (hW : (rest.map fun v => v.category).sum ≤ 8) (hdg : decode cc pc = .ok (.invokespecial index, 3)) (hcc : cells + mc ≤ R.cells ∧ slots + ms ≤ R.slots)
    (hP : va_P D vwCl (ws ++ w) H) (hD : va_D A0 (ws ++ w)) (hS : va_S A0 H0 H locs) (hA : ∀ q, H0.size ≤ q → A0 q)
    (kk : ∀ (q : α) (H1 : Heap) (locs1 : List Loc), va_P D vwCl (ws ++ w' q) H1 → va_D A0 (ws ++ w' q) → va_S A0 H0 H1 locs1 → W p l e R s m args below meth c H1 locs1 (cells + mc) (slots + ms) Q (F0 m (pc + 3) ls rest)) : W p l e R s m args below meth c H locs cells slots Q (F0 m pc ls (.ref b :: rest)) :=
  ct_goN (va_runI (As := []) (rest := rest) S (hM H.size) (cwI 0 S.2.2.2.2 (goodC hcd) rfl rfl rfl (S.2.2.2.2 _ hini) (S.2.2.2.2 _ hl) (S.2.2.2.2 _ hin) hy1 hd hR) (CnP_at hK hO hP hD) rfl rfl hsize rfl (lv_room hW) hdg hcc) hP hD hS hA kk
/-- a new int array -/
theorem nwI {ws : va_W} (hexec : p.tables.exec = Jvm.exec) (hb : c.code = cc) (hK : KX D cI cZ cS s) (harr : (Cond.arrayClass .int).before args s = true) (hP : va_P D vwCl ws H) (hD : va_D A0 ws) (hS : va_S A0 H0 H locs) (hA : ∀ q, H0.size ≤ q → A0 q) {n : Int32} {N : Nat} (hn : ¬ n < 0) (hN : n.toNatClampNeg = N) (hbytes : N * 4 ≤ 536870912) (hcells : cells + 1 ≤ R.cells) (hslots : slots + N ≤ R.slots) (hdg : decode cc pc = .ok (.newarray .int, 2))
    (kk : ∀ (q : Nat) (H1 : Heap), va_P D vwCl (ws ++ [(q, .inl (cI, N, .inl (z0.2.2 0)))]) H1 → va_D A0 (ws ++ [(q, .inl (cI, N, .inl (z0.2.2 0)))]) → va_S A0 H0 H1 locs → W p l e R s m args below meth c H1 locs (cells + 1) (slots + N) Q (F0 m (pc + 2) ls (.ref q :: rest))) : W p l e R s m args below meth c H locs cells slots Q (F0 m pc ls (.int n :: rest)) := by
  refine va_newa (atype := .int) (ty := .int) (a0 := (N, .inl (z0.2.2 0))) hexec hb harr rfl hK.1 hP hD hS hA (fun cA => rfl) hn hN hbytes hcells hslots hdg (fun q cA H1 hK1 hP1 hD1 hS1 => ?_)
  have e1 : s.vm.findClass ("[" ++ FieldType.int.toString) = some cA := (hK1.2 3 _ rfl).2
  have e2 : s.vm.findClass ("[" ++ FieldType.int.toString) = some cI := (hK.1.2 0 _ rfl).2
  have e3 : cA = cI := Option.some.inj (e1.symm.trans e2)
  subst e3
  exact kk q H1 hP1 hD1 hS1
theorem nwZ {ws : va_W} (hexec : p.tables.exec = Jvm.exec) (hb : c.code = cc) (hK : KX D cI cZ cS s) (harr : (Cond.arrayClass .boolean).before args s = true) (hP : va_P D vwCl ws H) (hD : va_D A0 ws) (hS : va_S A0 H0 H locs) (hA : ∀ q, H0.size ≤ q → A0 q) {n : Int32} {N : Nat} (hn : ¬ n < 0) (hN : n.toNatClampNeg = N) (hbytes : N * componentBytes .boolean ≤ 536870912) (hcells : cells + 1 ≤ R.cells) (hslots : slots + N ≤ R.slots) (hdg : decode cc pc = .ok (.newarray .boolean, 2))
    (kk : ∀ (q : Nat) (H1 : Heap), va_P D vwCl (ws ++ [(q, .inl (cZ, N, .inl (z0.2.2 0)))]) H1 → va_D A0 (ws ++ [(q, .inl (cZ, N, .inl (z0.2.2 0)))]) → va_S A0 H0 H1 locs → W p l e R s m args below meth c H1 locs (cells + 1) (slots + N) Q (F0 m (pc + 2) ls (.ref q :: rest))) : W p l e R s m args below meth c H locs cells slots Q (F0 m pc ls (.int n :: rest)) := by
  refine va_newa (atype := .boolean) (ty := .boolean) (a0 := (N, .inl (z0.2.2 0))) hexec hb harr rfl hK.1 hP hD hS hA (fun cA => rfl) hn hN hbytes hcells hslots hdg (fun q cA H1 hK1 hP1 hD1 hS1 => ?_)
  have e1 : s.vm.findClass ("[" ++ FieldType.boolean.toString) = some cA := (hK1.2 3 _ rfl).2
  have e2 : s.vm.findClass ("[" ++ FieldType.boolean.toString) = some cZ := (hK.1.2 1 _ rfl).2
  have e3 : cA = cZ := Option.some.inj (e1.symm.trans e2)
  subst e3
  exact kk q H1 hP1 hD1 hS1
theorem nwQ {ws : va_W} (hexec : p.tables.exec = Jvm.exec) (hb : c.code = cc) (hown : s.vm.findClass own = some m.cls) (hclink : (Cond.classLink own index RX3).before args s = true) (hO : va_AO RX3 s) (hK : KX D cI cZ cS s) (hP : va_P D vwCl ws H) (hD : va_D A0 ws) (hS : va_S A0 H0 H locs) (hA : ∀ q, H0.size ≤ q → A0 q) {n : Int32} {N : Nat} (hn : ¬ n < 0) (hN : n.toNatClampNeg = N) (hbytes : N * 4 ≤ 536870912) (hcells : cells + 1 ≤ R.cells) (hslots : slots + N ≤ R.slots) (hdg : decode cc pc = .ok (.anewarray index, 3))
    (kk : ∀ (q : Nat) (H1 : Heap), va_P D vwCl (ws ++ [(q, .inl (cS, N, .inr (.inr (.inr (.inr (fun _ => none))))))]) H1 → va_D A0 (ws ++ [(q, .inl (cS, N, .inr (.inr (.inr (.inr (fun _ => none))))))]) → va_S A0 H0 H1 locs → W p l e R s m args below meth c H1 locs (cells + 1) (slots + N) Q (F0 m (pc + 3) ls (.ref q :: rest))) : W p l e R s m args below meth c H locs cells slots Q (F0 m pc ls (.int n :: rest)) := by
  refine va_newq hexec hb hown hclink hO hK.1 hP hD hS hA hn hN hbytes hcells hslots hdg (fun q cA H1 hK1 hP1 hD1 hS1 => ?_)
  obtain ⟨_, _, -, -, -, e1⟩ := (hK1.2 3 _ rfl).2
  obtain ⟨_, _, -, -, -, e2⟩ := (hK.1.2 2 _ rfl).2
  have e3 : cA = cS := Option.some.inj (e1.symm.trans e2)
  subst e3
  exact kk q H1 hP1 hD1 hS1
end CALLN
