/-! worlds by blocks: the order of blocks is free -/
theorem va_P_mem {D : va_G} {cl : List vw_C} {ws : va_W} {H : Heap} : va_P D cl ws H ↔ ∀ q ∈ ws, va_at D cl q H := by
  constructor
  · intro h q hq
    obtain ⟨k, hk⟩ := List.getElem?_of_mem hq
    exact h k q hk
  · intro h k q hk
    exact h q (List.mem_of_getElem? hk)
theorem va_P_perm {D : va_G} {cl : List vw_C} {ws ws' : va_W} {H : Heap} (hp : ws.Perm ws') (h : va_P D cl ws H) : va_P D cl ws' H := va_P_mem.mpr fun q hq => va_P_mem.mp h q (hp.mem_iff.mpr hq)
theorem va_D_nodup {A : Nat → Prop} {ws : va_W} : va_D A ws ↔ (ws.map Prod.fst).Nodup ∧ ∀ q ∈ ws, A q.1 := by
  constructor
  · intro h
    refine ⟨?_, fun q hq => ?_⟩
    · rw [List.nodup_iff_pairwise_ne, List.pairwise_iff_getElem]
      intro i j hi hj hij e
      simp only [List.length_map] at hi hj
      simp only [List.getElem_map] at e
      have := h.1 i j ws[i] ws[j] (List.getElem?_eq_getElem hi) (List.getElem?_eq_getElem hj) e
      omega
    · obtain ⟨k, hk⟩ := List.getElem?_of_mem hq
      exact h.2 k q hk
  · intro h
    refine ⟨fun i j p q hi hj e => ?_, fun k q hk => h.2 q (List.mem_of_getElem? hk)⟩
    have hn := h.1
    rw [List.nodup_iff_pairwise_ne, List.pairwise_iff_getElem] at hn
    obtain ⟨li, ei⟩ := List.getElem?_eq_some_iff.mp hi
    obtain ⟨lj, ej⟩ := List.getElem?_eq_some_iff.mp hj
    rcases Nat.lt_trichotomy i j with hl | hl | hl
    · exact absurd (by simp only [List.getElem_map]; rw [ei, ej]; exact e) (hn i j (by simpa using li) (by simpa using lj) hl)
    · exact hl
    · exact absurd (by simp only [List.getElem_map]; rw [ei, ej]; exact e.symm) (hn j i (by simpa using lj) (by simpa using li) hl)
theorem va_D_perm {A : Nat → Prop} {ws ws' : va_W} (hp : ws.Perm ws') (h : va_D A ws) : va_D A ws' := by
  rw [va_D_nodup] at h ⊢
  exact ⟨(hp.map Prod.fst).nodup_iff.mp h.1, fun q hq => h.2 q (hp.mem_iff.mpr hq)⟩
def fl : List va_W → va_W
  | [] => []
  | [b] => b
  | b :: c :: bs => b ++ fl (c :: bs)
theorem fl_cons (b : va_W) (bs : List va_W) : fl (b :: bs) = b ++ fl bs := by
  cases bs with
  | nil => simp [fl]
  | cons c bs => rfl
theorem fl_app (a b : List va_W) : fl (a ++ b) = fl a ++ fl b := by
  induction a with
  | nil => rfl
  | cons x a ih => rw [List.cons_append, fl_cons, fl_cons, ih, List.append_assoc]
theorem fl_perm {a b : List va_W} (h : a.Perm b) : (fl a).Perm (fl b) := by
  induction h with
  | nil => exact List.Perm.refl _
  | cons x _ ih => rw [fl_cons, fl_cons]; exact ih.append_left x
  | swap x y l => rw [fl_cons, fl_cons, fl_cons, fl_cons, ← List.append_assoc, ← List.append_assoc]; exact List.perm_append_comm.append_right _
  | trans _ _ h1 h2 => exact h1.trans h2
theorem range_pick {α : Type} : ∀ l : List α, (List.range l.length).filterMap (fun i => l[i]?) = l
  | [] => rfl
  | x :: l => by
    have ih := range_pick l
    rw [List.length_cons, List.range_succ_eq_map, List.filterMap_cons, List.filterMap_map]
    simp only [List.getElem?_cons_zero]
    congr 1
theorem pick_perm {α : Type} (l : List α) {is : List Nat} (h : is.Perm (List.range l.length)) : (is.filterMap (fun i => l[i]?)).Perm l := by
  have h1 := h.filterMap (fun i => l[i]?)
  rwa [range_pick] at h1
section CALLB
variable {p : Program} {l : Launch} {e : Env} {R : Room} {s : State} {m : MethodId} {args : Array Value} {below : List Frame} {meth : Method} {c : Code} {H : Heap} {locs : List Loc} {cells slots : Nat} {Q : State → Prop}
variable {pc : Nat} {ls : Array Slot} {rest st0 : List Value} {A0 : Nat → Prop} {H0 : Heap} {D : va_G} {cI cZ cS : ClassId}
variable {y : MethodName} {bytes cc : ByteArray} {maxL nL n index fr lo : Nat} {ret : Option FieldType} {own C : String} {b : Addr} {As : List Value} {res : Option Value}
/-- a call over worlds by blocks -/
theorem ct_VB {bs cb rb cb1 bs1 : List va_W} (S : CallFix p m c cc nL s args TB own) (hK : KX D cI cZ cS s) (hM : Ct l y bytes maxL ret fr lo D cI cZ cS (.ref b :: As) (fl cb) res (fl cb1)) (hT : GoodIn TB (wsV own index C y (.code y bytes maxL ret :: TB))) (hC0 : y.cls = C) (hd : y.cls ≠ "java/lang/invoke/MethodHandle" ∧ y.cls ≠ "java/lang/invoke/VarHandle" ∧ (parseMethodDescriptor y.desc).map (fun d => d.parameters.length) = some n) (hlen : As.length = n) (hR : fr + 1 ≤ R.frames ∧ 8 + (maxL + 11) + lo ≤ R.locals)
    {ci : Nat} {qc : vw_C} {fs : List Value} (hc : vwCl[ci]? = some qc) (hqC : qc.1 = C) (he : (fl cb)[0]? = some (b, .inr (ci, fs)))
    (hsize : ls.size = nL) (hstack : st0 = As.reverse ++ .ref b :: rest) (hW : (rest.map fun v => v.category).sum ≤ 8) (hdg : decode cc pc = .ok (.invokevirtual index, 3)) (hcc : cells ≤ R.cells ∧ slots ≤ R.slots)
    (hP : va_P D vwCl (fl bs) H) (hD : va_D A0 (fl bs)) (hS : va_S A0 H0 H locs) (hA : ∀ q, H0.size ≤ q → A0 q)
    (isC isR is1 : List Nat) (hp : (isC ++ isR).Perm (List.range bs.length)) (hcb : isC.filterMap (fun i => bs[i]?) = cb) (hrb : isR.filterMap (fun i => bs[i]?) = rb) (hp1 : is1.Perm (List.range (cb1 ++ rb).length)) (hb1 : is1.filterMap (fun i => (cb1 ++ rb)[i]?) = bs1)
    (kk : ∀ (H1 : Heap) (locs1 : List Loc), va_P D vwCl (fl bs1) H1 → va_D A0 (fl bs1) → va_S A0 H0 H1 locs1 → W p l e R s m args below meth c H1 locs1 cells slots Q (F0 m (pc + 3) ls (res.toList ++ rest))) : W p l e R s m args below meth c H locs cells slots Q (F0 m pc ls st0) := by
  subst hstack
  have hperm : (fl bs).Perm (fl cb ++ fl rb) := by
    rw [← fl_app, ← hcb, ← hrb, ← List.filterMap_append]
    exact (fl_perm (pick_perm bs hp)).symm
  have hperm1 : (fl cb1 ++ fl rb).Perm (fl bs1) := by
    rw [← fl_app, ← hb1]
    exact (fl_perm (pick_perm (cb1 ++ rb) hp1)).symm
  have hP0 := va_P_perm hperm hP
  have hD0 := va_D_perm hperm hD
  have hPc : va_P D vwCl (fl cb) H := va_P_mem.mpr fun q hq => va_P_mem.mp hP0 q (List.mem_append_left _ hq)
  have hPr : va_P D vwCl (fl rb) H := va_P_mem.mpr fun q hq => va_P_mem.mp hP0 q (List.mem_append_right _ hq)
  have hN := va_D_nodup.mp hD0
  have hDc : va_D A0 (fl cb) := va_D_nodup.mpr ⟨by
    have := hN.1
    rw [List.map_append] at this
    exact (List.nodup_append.mp this).1, fun q hq => hN.2 q (List.mem_append_left _ hq)⟩
  have hDr : va_D A0 (fl rb) := va_D_nodup.mpr ⟨by
    have := hN.1
    rw [List.map_append] at this
    exact (List.nodup_append.mp this).2.1, fun q hq => hN.2 q (List.mem_append_right _ hq)⟩
  have hdis : ∀ p ∈ fl cb, ∀ q ∈ fl rb, p.1 ≠ q.1 := by
    have := hN.1
    rw [List.map_append] at this
    intro p hp q hq
    exact (List.nodup_append.mp this).2.2 p.1 (List.mem_map_of_mem hp) q.1 (List.mem_map_of_mem hq)
  have hF : ∀ q, va_A (fl cb) H.size q → A0 q := by
    intro q h
    rcases h with ⟨k, e, h⟩ | h
    · exact hDc.2 k (q, e) h
    · exact hA q (Nat.le_trans hS.1 h)
  have hout : ∀ q ∈ fl rb, q.1 < H.size ∧ ¬ va_A (fl cb) H.size q.1 := by
    intro q hq
    have hl := (va_P_mem.mp hPr q hq).lt
    refine ⟨hl, fun h => ?_⟩
    rcases h with ⟨k, e, h⟩ | h
    · exact hdis _ (List.mem_of_getElem? h) q hq rfl
    · omega
  have hr := va_runV (C := C) (As := As) (rest := rest) (locs := locs) (l := l) (e := e) (below := below) (meth := meth) (cells := cells) (slots := slots) (g := F0 m pc ls (As.reverse ++ .ref b :: rest)) S (hM H.size) (cwV n S.2.2.2.2 hT rfl rfl rfl ⟨hC0, hd⟩ hR) ⟨CtP_blind, by
      have hv := va_recv hK.1 hPc hc he
      rw [hqC] at hv
      exact hv, fun U hU hW2 => ⟨rfl, by rw [hU], by rw [hU]; exact hPc, hK.moved hW2, hDc.weaken (fun _ _ _ _ => trivial)⟩⟩ rfl hlen hsize rfl (lv_room hW) hdg hcc
  intro T hT X
  obtain ⟨v, st₀, t, T', L, h0, X', hL, e1, e2, ⟨hv, hPt, hDt, hz, hk⟩, st⟩ := hr T hT X
  cases hv
  rw [h0] at hz hk
  have hPr1 : va_P D vwCl (fl rb) t.heap := va_P_mem.mpr fun q hq => (va_P_mem.mp hPr q hq).kept (hk q.1 (hout q hq).1 (hout q hq).2)
  have hP1 : va_P D vwCl (fl bs1) t.heap := va_P_perm hperm1 (hPt.app hPr1)
  have hD1 : va_D A0 (fl bs1) := va_D_perm hperm1 (va_D.app (hDt.weaken (fun k q _ h => hF q.1 h)) hDr (fun i j x y hx hy hxy => (hout y (List.mem_of_getElem? hy)).2 (by rw [← hxy]; exact hDt.2 i x hx)))
  obtain ⟨t2, a1, b1⟩ := kk T'.heap (locs ++ L) (by rw [e1]; exact hP1) hD1
    ⟨Nat.le_trans hS.1 (by rw [e1]; exact hz), fun q h1 h2 => by rw [e1, hk q (Nat.lt_of_lt_of_le h1 hS.1) (fun z => h2 (hF q z))]; exact hS.2.1 q h1 h2, fun q hq => by
      rcases List.mem_append.mp hq with h | h
      · exact hS.2.2 q h
      · exact hF _ (hL q h)⟩ T' rfl X'
  exact ⟨t2, st t2 a1, b1⟩
end CALLB
