/-! ===== the two readers of the text: tokens ===== -/
def dgt (c : Int32) : Bool := !decide (c < 48) && !decide (57 < c)
theorem dgt_t {c : Int32} (h : dgt c = true) : ∃ d, d ≤ 9 ∧ c = nI (48 + d) := by
  unfold dgt at h
  rw [Bool.and_eq_true, Bool.not_eq_true', Bool.not_eq_true', decide_eq_false_iff_not, decide_eq_false_iff_not, Int32.lt_iff_toInt_lt, Int32.lt_iff_toInt_lt] at h
  have z1 : (48 : Int32).toInt = 48 := rfl
  have z2 : (57 : Int32).toInt = 57 := rfl
  obtain ⟨k, hk, rfl⟩ := IR.nat (n := 57) (x := c) ⟨by omega, by omega⟩ (by decide)
  rw [nI_toInt (by omega)] at h
  exact ⟨k - 48, by omega, by rw [show 48 + (k - 48) = k by omega]⟩
theorem isDigit_eq (c : Int32) : f_X2_isDigit c = some (if dgt c = true then 1 else 0) := by
  unfold f_X2_isDigit dgt
  by_cases h1 : c < 48
  · simp [h1]
  · by_cases h2 : 57 < c
    · simp [h1, h2]
    · simp [h1, h2]
theorem inDigit_eq (c : Int32) : f_X5_in c 48 57 = some (if dgt c = true then 1 else 0) := by
  unfold f_X5_in dgt
  by_cases h1 : c < 48
  · simp [h1]
  · by_cases h2 : 57 < c
    · simp [h1, h2]
    · simp [h1, h2]
/-- behind the blanks -/
def skb (f : Nat → Int32) (t : Nat) : Nat → Nat → Nat
  | 0, i => i
  | n + 1, i => if i < t ∧ f i = 32 then skb f t n (i + 1) else i
theorem skb_ge (f : Nat → Int32) (t : Nat) : ∀ n i, i ≤ skb f t n i
  | 0, i => Nat.le_refl i
  | n + 1, i => by
    unfold skb
    by_cases c : i < t ∧ f i = 32
    · rw [if_pos c]
      have := skb_ge f t n (i + 1)
      omega
    · rw [if_neg c]
      exact Nat.le_refl _
theorem skb_le (f : Nat → Int32) (t : Nat) : ∀ n i, i ≤ t → skb f t n i ≤ t
  | 0, i => fun h => h
  | n + 1, i => fun h => by
    unfold skb
    by_cases c : i < t ∧ f i = 32
    · rw [if_pos c]
      exact skb_le f t n (i + 1) (by omega)
    · rw [if_neg c]
      exact h
/-- a number's value (199 stands for all above 198) and its end -/
def nv (f : Nat → Int32) (t : Nat) : Nat → Nat → Nat → Nat × Nat
  | 0, i, v => (v, i)
  | n + 1, i, v => if i < t ∧ dgt (f i) = true then nv f t n (i + 1) (min (10 * v + ((f i).toInt.toNat - 48)) 199) else (v, i)
theorem nv_ge (f : Nat → Int32) (t : Nat) : ∀ n i v, i ≤ (nv f t n i v).2
  | 0, i, v => Nat.le_refl i
  | n + 1, i, v => by
    unfold nv
    by_cases c : i < t ∧ dgt (f i) = true
    · rw [if_pos c]
      have := nv_ge f t n (i + 1) (min (10 * v + ((f i).toInt.toNat - 48)) 199)
      omega
    · rw [if_neg c]
      exact Nat.le_refl _
theorem nv_le (f : Nat → Int32) (t : Nat) : ∀ n i v, i ≤ t → (nv f t n i v).2 ≤ t
  | 0, i, v => fun h => h
  | n + 1, i, v => fun h => by
    unfold nv
    by_cases c : i < t ∧ dgt (f i) = true
    · rw [if_pos c]
      exact nv_le f t n (i + 1) _ (by omega)
    · rw [if_neg c]
      exact h
theorem nv_199 (f : Nat → Int32) (t : Nat) : ∀ n i v, v ≤ 199 → (nv f t n i v).1 ≤ 199
  | 0, i, v => fun h => h
  | n + 1, i, v => fun h => by
    unfold nv
    by_cases c : i < t ∧ dgt (f i) = true
    · rw [if_pos c]
      exact nv_199 f t n (i + 1) _ (by omega)
    · rw [if_neg c]
      exact h
theorem nv_no {f : Nat → Int32} {t : Nat} {i : Nat} (h : ¬ (i < t ∧ dgt (f i) = true)) (n v : Nat) : nv f t (n + 1) i v = (v, i) := by
  rw [nv, if_neg h]
theorem nv_yes {f : Nat → Int32} {t : Nat} {i : Nat} (h : i < t ∧ dgt (f i) = true) (n v : Nat) : i < (nv f t (n + 1) i v).2 := by
  rw [nv, if_pos h]
  have := nv_ge f t n (i + 1) (min (10 * v + ((f i).toInt.toNat - 48)) 199)
  omega
theorem sI_eqv {o : OS} {k : Nat} {v : Int32} (h : o.1 k = v) : sI o k v = o := by
  unfold sI
  rw [← h, va_up_id]
/-- the text, as the class has it -/
def CT (oc : OS) (f : Nat → Int32) (t : Nat) : Prop := oc.1 1 = nI t ∧ ∀ j, j < t → oc.2.2 0 j = f j
/-- and the reference -/
def RX (om : OS) (f : Nat → Int32) (t : Nat) : Prop := om.1 9 = nI t ∧ ∀ j, j < t → om.2.2 8 j = f j
theorem skip_c {f : Nat → Int32} {t : Nat} (ht : t ≤ 160) : ∀ (n i : Nat) (oc : OS), i ≤ t → t - i < n → CT oc f t → oc.1 2 = nI i → lp_X2_skipBlanks_5 n (nI i) oc = some (nI (skb f t n i), sI oc 2 (nI (skb f t n i))) := by
  intro n
  induction n with
  | zero => intro i oc h1 h2; omega
  | succ n ih =>
    intro i oc h1 h2 hT e2
    rw [lp_X2_skipBlanks_5, hT.1, skb]
    by_cases c : i < t
    · rw [if_neg (nI_ge c (by omega)), ck_nI (show i < 160 by omega) (by decide), nI_clamp (by omega), hT.2 i c]
      by_cases d : f i = 32
      · rw [if_pos d, if_pos ⟨c, d⟩]
        simp only [lt]
        rw [nI_1]
        have := ih (i + 1) (sI oc 2 (nI (i + 1))) (by omega) (by omega) ⟨hT.1, hT.2⟩ rfl
        rw [sI_sI] at this
        exact this
      · rw [if_neg d, if_neg (fun q => d q.2), sI_eqv e2]
    · have : i = t := by omega
      rw [if_pos (nI_le (by omega) (by omega)), if_neg (fun q => c q.1), sI_eqv e2]
theorem skipBlanks_eq {f : Nat → Int32} {t : Nat} (ht : t ≤ 160) {i : Nat} {oc : OS} (h1 : i ≤ t) (hT : CT oc f t) (e2 : oc.1 2 = nI i) : f_X2_skipBlanks oc = some (sI oc 2 (nI (skb f t 1000 i))) := by
  rw [f_X2_skipBlanks, e2, skip_c ht 1000 i oc h1 (by omega) hT e2]
  rfl
theorem skip_r {f : Nat → Int32} {t : Nat} (ht : t ≤ 160) : ∀ (n i : Nat) (om : OS), i ≤ t → t - i < n → RX om f t → om.1 10 = nI i → lp_X5_next_0 n om = some (sI om 10 (nI (skb f t n i))) := by
  intro n
  induction n with
  | zero => intro i om h1 h2; omega
  | succ n ih =>
    intro i om h1 h2 hT e2
    rw [lp_X5_next_0, hT.1, e2, skb]
    by_cases c : i < t
    · rw [if_neg (nI_ge c (by omega)), ck_nI (show i < 160 by omega) (by decide), nI_clamp (by omega), hT.2 i c]
      by_cases d : f i = 32
      · rw [if_pos d, if_pos ⟨c, d⟩]
        simp only [lt]
        rw [nI_1]
        have := ih (i + 1) (sI om 10 (nI (i + 1))) (by omega) (by omega) ⟨hT.1, hT.2⟩ rfl
        rw [sI_sI] at this
        exact this
      · rw [if_neg d, if_neg (fun q => d q.2), sI_eqv e2]
    · have : i = t := by omega
      rw [if_pos (nI_le (by omega) (by omega)), if_neg (fun q => c q.1), sI_eqv e2]
theorem dstep {v d : Nat} (hv : v ≤ 1989) (hd : d ≤ 9) : ((10 : Int32) * nI v + nI (48 + d)) - 48 = nI (10 * v + d) := by
  rw [show (10 : Int32) = nI 10 from rfl, show (48 : Int32) = nI 48 from rfl, nI_mul, nI_add, nI_sub (by omega), show 10 * v + (48 + d) - 48 = 10 * v + d by omega]
theorem num_c {f : Nat → Int32} {t : Nat} {u : OS} (ht : t ≤ 160) (hT : CT u f t) : ∀ (n i v d : Nat), i ≤ t → t - i < n → v ≤ 199 → lp_X2_readNumber_23 u n (nI v) (nI d) (nI i) = some (nI (nv f t n i v).1, nI (d + ((nv f t n i v).2 - i)), nI (nv f t n i v).2) := by
  intro n
  induction n with
  | zero => intro i v d h1 h2; omega
  | succ n ih =>
    intro i v d h1 h2 hv
    rw [lp_X2_readNumber_23, hT.1, nv]
    by_cases c : i < t
    · rw [if_neg (nI_ge c (by omega)), ck_nI (show i < 160 by omega) (by decide), nI_clamp (by omega), hT.2 i c, isDigit_eq, Option.bind_some]
      by_cases g : dgt (f i) = true
      · rw [if_pos g, if_neg (show ¬ (1 : Int32) = 0 by decide), if_pos (show i < t ∧ dgt (f i) = true from ⟨c, g⟩), ck_nI (show i < 160 by omega) (by decide)]
        obtain ⟨k, hk, e⟩ := dgt_t g
        rw [e, dstep (by omega) hk, nI_toInt (by omega)]
        simp only [lt]
        have em : (if 199 < nI (10 * v + k) then (199 : Int32) else nI (10 * v + k)) = nI (min (10 * v + ((48 + k : Nat) : Int).toNat - 48) 199) := by
          rw [show 10 * v + ((48 + k : Nat) : Int).toNat - 48 = 10 * v + k by omega]
          by_cases q : 199 < 10 * v + k
          · rw [if_pos (show (199 : Int32) < nI (10 * v + k) from nI_lt (a := 199) q (by omega)), Nat.min_eq_right (by omega)]
            rfl
          · rw [if_neg (show ¬ (199 : Int32) < nI (10 * v + k) from nI_nlt (a := 199) (b := 10 * v + k) (by omega) (by omega)), Nat.min_eq_left (by omega)]
        have ee : 10 * v + (((48 + k : Nat) : Int).toNat - 48) = 10 * v + ((48 + k : Nat) : Int).toNat - 48 := by omega
        rw [em, nI_1, nI_1, ee, ih (i + 1) _ (d + 1) (by omega) (by omega) (by omega)]
        have := nv_ge f t n (i + 1) (min (10 * v + ((48 + k : Nat) : Int).toNat - 48) 199)
        rw [show d + 1 + ((nv f t n (i + 1) (min (10 * v + ((48 + k : Nat) : Int).toNat - 48) 199)).2 - (i + 1)) = d + ((nv f t n (i + 1) (min (10 * v + ((48 + k : Nat) : Int).toNat - 48) 199)).2 - i) by omega]
      · rw [if_neg g, if_pos rfl, if_neg (fun q => g q.2)]
        simp
    · rw [if_pos (nI_le (by omega) (by omega)), if_neg (fun q => c q.1)]
      simp
/-- nothing but the reader's own places changes -/
def NF (om om2 : OS) : Prop := om2.2 = om.2 ∧ ∀ j, j ≠ 10 → j ≠ 11 → j ≠ 12 → j ≠ 13 → om2.1 j = om.1 j
theorem NF.rfl {om : OS} : NF om om := ⟨Eq.refl _, fun _ _ _ _ _ => Eq.refl _⟩
theorem NF.trans {a b c : OS} (h : NF a b) (g : NF b c) : NF a c := ⟨g.1.trans h.1, fun j h1 h2 h3 h4 => (g.2 j h1 h2 h3 h4).trans (h.2 j h1 h2 h3 h4)⟩
theorem NF.s (om : OS) (k : Nat) (v : Int32) (hk : k = 10 ∨ k = 11 ∨ k = 12 ∨ k = 13) : NF om (sI om k v) := ⟨Eq.refl _, fun j h1 h2 h3 h4 => sI_ne _ _ _ _ (by omega)⟩
theorem NF.pe {om om2 : OS} (h : NF om om2) : PE om om2 := by
  obtain ⟨h1, h2⟩ := h
  unfold PE
  rw [h1]
  exact ⟨Eq.refl _, Eq.refl _, Eq.refl _, Eq.refl _, Eq.refl _, Eq.refl _, h2 2 (by omega) (by omega) (by omega) (by omega), h2 5 (by omega) (by omega) (by omega) (by omega), h2 7 (by omega) (by omega) (by omega) (by omega), h2 9 (by omega) (by omega) (by omega) (by omega)⟩
theorem RX.nf {om om2 : OS} {f : Nat → Int32} {t : Nat} (h : RX om f t) (g : NF om om2) : RX om2 f t := by
  refine ⟨(g.2 9 (by omega) (by omega) (by omega) (by omega)).trans h.1, fun j hj => ?_⟩
  rw [g.1]
  exact h.2 j hj
theorem isFigure_eq {f : Nat → Int32} {t i : Nat} {om : OS} (ht : t ≤ 160) (hT : RX om f t) (hi : i ≤ t) (e : om.1 10 = nI i) : f_X5_isFigure om = some (if i < t ∧ dgt (f i) = true then 1 else 0) := by
  rw [f_X5_isFigure, hT.1, e]
  by_cases c : i < t
  · rw [if_neg (nI_ge c (by omega)), ck_nI (show i < 160 by omega) (by decide), nI_clamp (by omega), hT.2 i c, inDigit_eq, Option.bind_some]
    by_cases g : dgt (f i) = true
    · rw [if_pos g, if_neg (by decide), if_pos ⟨c, g⟩]
    · rw [if_neg g, if_pos rfl, if_neg (fun q => g q.2)]
  · rw [if_pos (nI_le (by omega) (by omega)), if_neg (fun q => c q.1)]
theorem num_r {f : Nat → Int32} {t : Nat} (ht : t ≤ 160) : ∀ (n i w : Nat) (om : OS), i ≤ t → t - i < n → w ≤ 1989 → RX om f t → om.1 10 = nI i → om.1 13 = nI w → ∃ (om2 : OS) (w2 : Nat), lp_X5_next_130 n om = some om2 ∧ NF om om2 ∧ om2.1 11 = om.1 11 ∧ om2.1 10 = nI (nv f t n i (min w 199)).2 ∧ om2.1 13 = nI w2 ∧ w2 ≤ 1989 ∧ (nv f t n i (min w 199)).1 = min w2 199 := by
  intro n
  induction n with
  | zero => intro i w om h1 h2; omega
  | succ n ih =>
    intro i w om h1 h2 hw hT e1 e2
    rw [lp_X5_next_130, isFigure_eq ht hT h1 e1, Option.bind_some, nv]
    by_cases c : i < t ∧ dgt (f i) = true
    · rw [if_pos c, if_neg (by decide), if_pos c, e2, e1]
      obtain ⟨k, hk, e⟩ := dgt_t c.2
      rw [ck_nI (show i < 160 by omega) (by decide), nI_clamp (by omega), hT.2 i c.1, e, dstep hw hk, nI_toInt (by omega)]
      have st : ∀ w3 : Nat, w3 ≤ 1989 → min w3 199 = min (10 * min w 199 + (((48 + k : Nat) : Int).toNat - 48)) 199 → ∃ (om2 : OS) (w2 : Nat), (Option.bind (some (nI w3)) fun z21 => lt (sI om 13 z21) fun o23 => lt (sI o23 10 ((o23.1 10) + 1)) fun o24 => lp_X5_next_130 n o24) = some om2 ∧ NF om om2 ∧ om2.1 11 = om.1 11 ∧ om2.1 10 = nI (nv f t n (i + 1) (min (10 * min w 199 + (((48 + k : Nat) : Int).toNat - 48)) 199)).2 ∧ om2.1 13 = nI w2 ∧ w2 ≤ 1989 ∧ (nv f t n (i + 1) (min (10 * min w 199 + (((48 + k : Nat) : Int).toNat - 48)) 199)).1 = min w2 199 := by
        intro w3 hw3 em
        have e10 : (sI om 13 (nI w3)).1 10 = nI i := by rw [sI_ne _ _ _ _ (by decide), e1]
        have nf : NF om (sI (sI om 13 (nI w3)) 10 (nI (i + 1))) := (NF.s om 13 _ (by omega)).trans (NF.s _ 10 _ (by omega))
        obtain ⟨om2, w2, a1, a2, a3, a4, a5, a6, a7⟩ := ih (i + 1) w3 (sI (sI om 13 (nI w3)) 10 (nI (i + 1))) (by omega) (by omega) hw3 (hT.nf nf) rfl rfl
        rw [em] at a4 a7
        refine ⟨om2, w2, ?_, nf.trans a2, a3.trans rfl, a4, a5, a6, a7⟩
        rw [Option.bind_some]
        simp only [lt]
        rw [e10, nI_1]
        exact a1
      by_cases q : w ≤ 198
      · rw [if_pos (show nI w ≤ 198 from nI_le (b := 198) q (by decide))]
        exact st (10 * w + k) (by omega) (by omega)
      · rw [if_neg (show ¬ nI w ≤ 198 from nI_ge (a := 198) (b := w) (by omega) (by omega))]
        exact st 199 (by omega) (by omega)
    · rw [if_neg c, if_pos rfl, if_neg c]
      exact ⟨om, w, rfl, NF.rfl, rfl, e1, e2, hw, rfl⟩
