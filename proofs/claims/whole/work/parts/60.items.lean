/-! ===== one item of the text ===== -/
theorem nI_m1 {j : Nat} (hj : j < 2 ^ 31) : ¬ nI j = -1 := fun q => by
  have h2 := nI_toInt hj
  rw [q] at h2
  have h3 : (-1 : Int32).toInt = -1 := rfl
  omega
theorem RX.pe {om om2 : OS} {f : Nat → Int32} {t : Nat} (h : RX om f t) (e : PE om om2) : RX om2 f t := by
  obtain ⟨e1, e2, e3, e4, e5, e6, e7, e8, e9, e10⟩ := e
  refine ⟨e10.trans h.1, fun j hj => ?_⟩
  rw [e6]
  exact h.2 j hj
theorem PE.i14 (om : OS) (v : Int32) : PE om (sI om 14 v) := ⟨Eq.refl _, Eq.refl _, Eq.refl _, Eq.refl _, Eq.refl _, Eq.refl _, Eq.refl _, Eq.refl _, Eq.refl _, Eq.refl _⟩
theorem PE.i16 (om : OS) (v : Int32) : PE om (sI om 16 v) := ⟨Eq.refl _, Eq.refl _, Eq.refl _, Eq.refl _, Eq.refl _, Eq.refl _, Eq.refl _, Eq.refl _, Eq.refl _, Eq.refl _⟩
theorem PE.a15 (om : OS) (i : Nat) (v : Int32) : PE om (sA om 15 i v) := ⟨Eq.refl _, Eq.refl _, Eq.refl _, Eq.refl _, Eq.refl _, Eq.refl _, Eq.refl _, Eq.refl _, Eq.refl _, Eq.refl _⟩
/-- the reference has read up to the token at s without a fault -/
def RK (om0 om : OS) (f : Nat → Int32) (t s : Nat) (D : Nat → Int32) (w : Int32) : Prop := PE om0 om ∧ om.1 14 = -9 ∧ om.1 16 = w ∧ om.2.2 15 = D ∧ Tk om f t s
/-- it has found a fault at s -/
def RF (om0 om : OS) (s : Nat) : Prop := PE om0 om ∧ om.1 14 = nI s
theorem RK.fail {om0 om : OS} {f : Nat → Int32} {t s : Nat} {D : Nat → Int32} {w : Int32} (h : RK om0 om f t s D w) : RF om0 (sI om 14 (nI s)) s := ⟨h.1.trans (PE.i14 _ _), rfl⟩
theorem RK.next {om0 om om2 : OS} {f : Nat → Int32} {t s s2 : Nat} {D : Nat → Int32} {w : Int32} (h : RK om0 om f t s D w) (g : NF om om2) (tk : Tk om2 f t s2) : RK om0 om2 f t s2 D w := by
  refine ⟨h.1.trans g.pe, (g.2 14 (by omega) (by omega) (by omega) (by omega)).trans h.2.1, (g.2 16 (by omega) (by omega) (by omega) (by omega)).trans h.2.2.1, ?_, tk⟩
  rw [g.1]
  exact h.2.2.2.1
theorem RK.put {om0 om : OS} {f : Nat → Int32} {t s : Nat} {D : Nat → Int32} {w : Int32} (h : RK om0 om f t s D w) (i : Nat) (v : Int32) : RK om0 (sA om 15 i v) f t s (upd D i v) w := by
  refine ⟨h.1.trans (PE.a15 _ _ _), h.2.1, h.2.2.1, ?_, h.2.2.2.2.ints rfl rfl rfl rfl⟩
  rw [sA_same, h.2.2.2.1]
theorem due_fl {om : OS} (h : ¬ om.1 14 = -9) (z : Int32) : f_X5_due z om = some om := by
  unfold f_X5_due
  by_cases c : z = 0
  · rw [if_pos c, if_neg h]
  · rw [if_neg c]
theorem due_0 {om : OS} (h : om.1 14 = -9) : f_X5_due 0 om = some (sI om 14 (om.1 11)) := by
  unfold f_X5_due
  rw [if_pos rfl, if_pos h]
  rfl
theorem due_1 (om : OS) : f_X5_due 1 om = some om := by
  unfold f_X5_due
  rw [if_neg (by decide)]
theorem RF.n9 {om0 om : OS} {s : Nat} (h : RF om0 om s) (hs : s ≤ 160) : ¬ om.1 14 = -9 := by
  rw [h.2]
  exact nI_n9 (by omega)
theorem reads_fl {om : OS} (h : ¬ om.1 14 = -9) (a b c d : Int32) : f_X5_reads a b c d om = some om := by
  have : ∃ z, (if (om.1 12) = 0 then Option.bind (f_X5_in (om.1 13) b c) fun x9 => if x9 = 0 then some 0 else some 1 else some 0 : Option Int32) = some z := by
    by_cases q : om.1 12 = 0
    · rw [if_pos q]
      rcases in_eq (om.1 13) b c with ⟨e, _⟩ | ⟨e, _⟩
      · rw [e]; exact ⟨1, rfl⟩
      · rw [e]; exact ⟨0, rfl⟩
    · exact ⟨0, if_neg q⟩
  obtain ⟨z, e⟩ := this
  rw [f_X5_reads, e, Option.bind_some, due_fl h, Option.bind_some, if_neg h]
/-- a number, read by both -/
theorem nump {om0 om oc0 oc : OS} {f : Nat → Int32} {t i : Nat} {D : Nat → Int32} {w : Int32} (ht : t ≤ 160) (hi0 : i ≤ t) (hX : RX om0 f t) (hT : CT oc0 f t) (hR : RK om0 om f t (skb f t 1000 i) D w) (hc : CK oc0 oc i) (lo hi pl : Nat) {a b : Int32} (d : Int32) (ea : a = nI lo) (eb : b = nI hi) (hlo : lo ≤ 198) (hhi : hi ≤ 198) (hpl : pl < 59) :
    ∃ oc2, oc2.1 3 = nI (skb f t 1000 i) ∧ (∀ j, 4 ≤ j → oc2.1 j = oc.1 j) ∧ ((∃ (v e : Nat) (om2 : OS), lo ≤ v ∧ v ≤ hi ∧ i ≤ e ∧ e ≤ t ∧ f_X2_readNumber a b oc = some (nI v, oc2) ∧ CK oc0 oc2 e ∧ f_X5_reads (nI pl) a b d om = some om2 ∧ RK om0 om2 f t (skb f t 1000 e) (upd D pl (nI v - d)) w ∧ om.1 12 = 0 ∧ om.1 13 = nI v) ∨ (f_X2_readNumber a b oc = some (-1, oc2) ∧ CK oc0 oc2 (skb f t 1000 i) ∧ f_X5_reads (nI pl) a b d om = some (sI om 14 (nI (skb f t 1000 i))) ∧ ¬ (om.1 12 = 0 ∧ a ≤ om.1 13 ∧ om.1 13 ≤ b))) := by
  subst ea eb
  have hs := skb_le f t 1000 i hi0
  have hg := skb_ge f t 1000 i
  obtain ⟨oc2, k1, k2, k3, k4⟩ := readNumber_eq ht hi0 hT hc hlo hhi
  obtain ⟨s, es⟩ : ∃ s, s = skb f t 1000 i := ⟨_, rfl⟩
  rw [← es] at hs hg k1 k2 k3 hR ⊢
  obtain ⟨hP, h14, h16, hD, hTk⟩ := id hR
  refine ⟨oc2, k3, k4, ?_⟩
  by_cases ok : NumOk f t lo hi s
  · left
    obtain ⟨a1, a2, a3⟩ := (hTk.2.2.1 lo hi hhi hlo).mpr ok
    obtain ⟨b1, b2⟩ := hTk.2.2.2.1 lo hi hhi ok
    obtain ⟨c1, c2⟩ := k1 ok
    have hge := nv_ge f t 1000 s 0
    have hle := nv_le f t 1000 s 0 hs
    have R6 := hR.put pl (nI (nv f t 1000 s 0).1 - d)
    obtain ⟨om2, n1, n2, n3⟩ := next_eq (om := sA om 15 pl (nI (nv f t 1000 s 0).1 - d)) ht hle (hX.pe R6.1) b2
    refine ⟨(nv f t 1000 s 0).1, (nv f t 1000 s 0).2, om2, ok.2.2.1, ok.2.2.2, by omega, hle, c1, c2, ?_, R6.next n2 n3, a1, b1⟩
    rw [f_X5_reads, if_pos a1, in_yes a2 a3, Option.bind_some, if_neg (by decide), Option.bind_some, due_1, Option.bind_some, if_pos h14, ck_nI hpl (by decide), nI_clamp (by omega), b1]
    simp only [lt]
    rw [n1, Option.bind_some]
  · right
    obtain ⟨c1, c2⟩ := k2 ok
    have hno : ¬ (om.1 12 = 0 ∧ nI lo ≤ om.1 13 ∧ om.1 13 ≤ nI hi) := fun q => ok ((hTk.2.2.1 lo hi hhi hlo).mp q)
    refine ⟨c1, c2, ?_, hno⟩
    have cz : (if (om.1 12) = 0 then Option.bind (f_X5_in (om.1 13) (nI lo) (nI hi)) fun x9 => if x9 = 0 then some 0 else some 1 else some 0 : Option Int32) = some 0 := by
      by_cases q : om.1 12 = 0
      · rw [if_pos q]
        rcases in_eq (om.1 13) (nI lo) (nI hi) with ⟨e, l, u⟩ | ⟨e, _⟩
        · exact absurd ⟨q, Int32.le_iff_toInt_le.mpr l, Int32.le_iff_toInt_le.mpr u⟩ hno
        · rw [e]; rfl
      · exact if_neg q
    rw [f_X5_reads, cz, Option.bind_some, due_0 h14, Option.bind_some, hTk.1, sI_same, if_neg (nI_n9 (by omega))]
/-- an item's end, in the reference -/
def fin (z : OS) : Option OS := Option.bind (if (z.1 12) = 59 then some 1 else some 0 : Option Int32) fun z31 => f_X5_due z31 z
theorem fin_fl {z : OS} (h : ¬ z.1 14 = -9) : fin z = some z := by
  unfold fin
  by_cases c : z.1 12 = 59
  · rw [if_pos c, Option.bind_some, due_fl h]
  · rw [if_neg c, Option.bind_some, due_fl h]
theorem semi_pair {om0 z oc0 oc : OS} {f : Nat → Int32} {t i : Nat} {D : Nat → Int32} {w : Int32} (ht : t ≤ 160) (hi0 : i ≤ t) (hT : CT oc0 f t) (hR : RK om0 z f t (skb f t 1000 i) D w) (hc : CK oc0 oc i) : ∃ oc2, (∀ j, 4 ≤ j → oc2.1 j = oc.1 j) ∧ ((skb f t 1000 i < t ∧ f_X2_readSemicolon oc = some (1, oc2) ∧ CK oc0 oc2 (skb f t 1000 i + 1) ∧ fin z = some z ∧ z.1 10 = nI (skb f t 1000 i + 1)) ∨ (f_X2_readSemicolon oc = some (0, oc2) ∧ CK oc0 oc2 (skb f t 1000 i) ∧ ∃ x, fin z = some x ∧ RF om0 x (skb f t 1000 i))) := by
  obtain ⟨oc2, k1, k2, k3⟩ := readSemi_eq ht hi0 hT hc
  obtain ⟨hP, h14, h16, hD, hTk⟩ := id hR
  obtain ⟨j1, j2⟩ := hTk.2.2.2.2.2 59 (Or.inr (Or.inr (Or.inr rfl)))
  refine ⟨oc2, k3, ?_⟩
  by_cases c : skb f t 1000 i < t ∧ f (skb f t 1000 i) = 59
  · obtain ⟨c1, c2⟩ := k1 c
    have e := j1.mpr c
    exact Or.inl ⟨c.1, c1, c2, by rw [fin, if_pos e, Option.bind_some, due_1], j2 e⟩
  · obtain ⟨c1, c2⟩ := k2 c
    refine Or.inr ⟨c1, c2, _, ?_, hR.fail⟩
    rw [fin, if_neg (fun q => c (j1.mp q)), Option.bind_some, due_0 h14, hTk.1]
/-- what both say of an item -/
def Out (om0 : OS) (f : Nat → Int32) (t : Nat) (oc0 : OS) (s0 : Nat) (A : Option (Int32 × OS × OS)) (B : Option OS) : Prop :=
  (∃ (oc2 ot2 x : OS) (s : Nat) (D : Nat → Int32) (w : Int32) (n k b : Nat), A = some (1, oc2, ot2) ∧ B = some x ∧ s0 < s ∧ s < t ∧ CK oc0 oc2 (s + 1) ∧ oc2.1 6 = w ∧ (w = 0 ∨ w = 1) ∧ RK om0 x f t s D w ∧ x.1 10 = nI (s + 1) ∧ SRn ot2 D n k b) ∨
  (∃ (oc2 ot2 x : OS) (s : Nat), s ≤ t ∧ A = some (0, oc2, ot2) ∧ B = some x ∧ CK oc0 oc2 s ∧ RF om0 x s)
theorem ir18 : ∀ v, v < 19 → (-9 ≤ (nI v - 9).toInt ∧ (nI v - 9).toInt ≤ 9) := by decide +kernel
theorem ir198 : ∀ v, v < 199 → (-99 ≤ (nI v - 99).toInt ∧ (nI v - 99).toInt ≤ 99) := by decide +kernel
/-- the class's place -/
theorem place_1 {o1 o2 : OS} (h : f_X2_readNumber 0 18 o1 = some (-1, o2)) : f_X2_readPlace o1 = some (0, o2) := by
  rw [f_X2_readPlace, h, Option.bind_some, if_pos rfl]
theorem place_2 {o1 o2 o3 : OS} {v1 : Nat} (hv : v1 ≤ 18) (h : f_X2_readNumber 0 18 o1 = some (nI v1, o2)) (h2 : f_X2_readNumber 0 18 o2 = some (-1, o3)) : f_X2_readPlace o1 = some (0, o3) := by
  rw [f_X2_readPlace, h, Option.bind_some, if_neg (nI_m1 (by omega)), h2, Option.bind_some, if_pos rfl]
theorem place_3 {o1 o2 o3 : OS} {v1 v2 : Nat} (hv : v1 ≤ 18) (hv2 : v2 ≤ 18) (h : f_X2_readNumber 0 18 o1 = some (nI v1, o2)) (h2 : f_X2_readNumber 0 18 o2 = some (nI v2, o3)) : f_X2_readPlace o1 = some (1, sI (sI o3 4 (nI v1 - 9)) 5 (nI v2 - 9)) := by
  rw [f_X2_readPlace, h, Option.bind_some, if_neg (nI_m1 (by omega)), h2, Option.bind_some, if_neg (nI_m1 (by omega))]
  rfl
