/-! ===== one token ===== -/
/-- a number in bounds stands at s -/
def NumOk (f : Nat → Int32) (t lo hi s : Nat) : Prop := s < (nv f t 1000 s 0).2 ∧ ¬ (s + 1 < (nv f t 1000 s 0).2 ∧ f s = 48) ∧ lo ≤ (nv f t 1000 s 0).1 ∧ (nv f t 1000 s 0).1 ≤ hi
/-- the reference has the token that stands at s -/
def Tk (om : OS) (f : Nat → Int32) (t s : Nat) : Prop := om.1 11 = nI s ∧ s ≤ t ∧ (∀ lo hi : Nat, hi ≤ 198 → lo ≤ 198 → ((om.1 12 = 0 ∧ nI lo ≤ om.1 13 ∧ om.1 13 ≤ nI hi) ↔ NumOk f t lo hi s)) ∧ (∀ lo hi : Nat, hi ≤ 198 → NumOk f t lo hi s → om.1 13 = nI (nv f t 1000 s 0).1 ∧ om.1 10 = nI (nv f t 1000 s 0).2) ∧ (om.1 12 = -1 ↔ s = t) ∧ (∀ c : Int32, c = 112 ∨ c = 99 ∨ c = 119 ∨ c = 59 → (om.1 12 = c ↔ (s < t ∧ f s = c)) ∧ (om.1 12 = c → om.1 10 = nI (s + 1)))
theorem nv_no1000 {f : Nat → Int32} {t i : Nat} (h : ¬ (i < t ∧ dgt (f i) = true)) (v : Nat) : nv f t 1000 i v = (v, i) := nv_no h 999 v
theorem nv_yes1000 {f : Nat → Int32} {t i : Nat} (h : i < t ∧ dgt (f i) = true) (v : Nat) : i < (nv f t 1000 i v).2 := nv_yes h 999 v
theorem numNo {f : Nat → Int32} {t s : Nat} (h : ¬ (s < t ∧ dgt (f s) = true)) (lo hi : Nat) : ¬ NumOk f t lo hi s := by
  unfold NumOk
  rw [nv_no1000 h]
  intro q
  exact absurd q.1 (Nat.lt_irrefl _)
theorem Tk.ints {om om2 : OS} {f : Nat → Int32} {t s : Nat} (h : Tk om f t s) (e10 : om2.1 10 = om.1 10) (e11 : om2.1 11 = om.1 11) (e12 : om2.1 12 = om.1 12) (e13 : om2.1 13 = om.1 13) : Tk om2 f t s := by
  unfold Tk at *
  rw [e10, e11, e12, e13]
  exact h
theorem Tk.non {om : OS} {f : Nat → Int32} {t s : Nat} (hs : s ≤ t) (h : ¬ (s < t ∧ dgt (f s) = true)) (e11 : om.1 11 = nI s) (h0 : ¬ om.1 12 = 0) (h1 : om.1 12 = -1 ↔ s = t) (h2 : ∀ c : Int32, c = 112 ∨ c = 99 ∨ c = 119 ∨ c = 59 → (om.1 12 = c ↔ (s < t ∧ f s = c)) ∧ (om.1 12 = c → om.1 10 = nI (s + 1))) : Tk om f t s :=
  ⟨e11, hs, fun lo hi _ _ => ⟨fun q => absurd q.1 h0, fun q => absurd q (numNo h lo hi)⟩, fun lo hi _ q => absurd q (numNo h lo hi), h1, h2⟩
theorem dgt_no {c : Int32} (h : c = 112 ∨ c = 99 ∨ c = 119 ∨ c = 59) : dgt c = false := by
  rcases h with rfl | rfl | rfl | rfl <;> decide
theorem next_eq {f : Nat → Int32} {t i : Nat} {om : OS} (ht : t ≤ 160) (hi : i ≤ t) (hT : RX om f t) (e : om.1 10 = nI i) : ∃ om2, f_X5_next om = some om2 ∧ NF om om2 ∧ Tk om2 f t (skb f t 1000 i) := by
  have hs := skb_le f t 1000 i hi
  rw [f_X5_next, skip_r ht 1000 i om hi (by omega) hT e, Option.bind_some]
  obtain ⟨s, es⟩ : ∃ s, s = skb f t 1000 i := ⟨_, rfl⟩
  rw [← es] at hs ⊢
  have e10 : (sI om 10 (nI s)).1 10 = nI s := rfl
  simp only [lt]
  rw [e10]
  obtain ⟨o4, h4⟩ : ∃ o4, o4 = sI (sI om 10 (nI s)) 11 (nI s) := ⟨_, rfl⟩
  rw [← h4]
  have nf4 : NF om o4 := by rw [h4]; exact (NF.s om 10 _ (by omega)).trans (NF.s _ 11 _ (by omega))
  have hT4 := hT.nf nf4
  have a10 : o4.1 10 = nI s := by rw [h4]; rfl
  have a11 : o4.1 11 = nI s := by rw [h4]; rfl
  rw [a10, hT4.1]
  by_cases c : s = t
  · rw [if_pos (by rw [c])]
    refine ⟨sI o4 12 (-1), rfl, nf4.trans (NF.s _ 12 _ (by omega)), Tk.non hs (fun q => by omega) a11 (show ¬ (-1 : Int32) = 0 by decide) ⟨fun _ => c, fun _ => rfl⟩ (fun d hd => ⟨⟨fun q => ?_, fun q => by omega⟩, fun q => ?_⟩)⟩
    · rcases hd with rfl | rfl | rfl | rfl <;> exact absurd (show (-1 : Int32) = _ from q) (by decide)
    · rcases hd with rfl | rfl | rfl | rfl <;> exact absurd (show (-1 : Int32) = _ from q) (by decide)
  · have hst : s < t := by omega
    rw [if_neg (fun q => c (nI_inj (by omega) (by omega) q)), isFigure_eq ht hT4 hs a10, Option.bind_some]
    by_cases g : dgt (f s) = true
    · rw [if_pos (show s < t ∧ dgt (f s) = true from ⟨hst, g⟩), if_neg (show ¬ (1 : Int32) = 0 by decide)]
      have nf8 : NF om (sI o4 13 0) := nf4.trans (NF.s _ 13 _ (by omega))
      obtain ⟨z9, w2, b1, b2, b3, b4, b5, b6, b7⟩ := num_r (f := f) ht 1000 s 0 (sI o4 13 0) hs (by omega) (by omega) (hT.nf nf8) a10 rfl
      rw [show min 0 199 = 0 from rfl] at b4 b7
      rw [b1, Option.bind_some, b5]
      have hT9 := (hT.nf nf8).nf b2
      have a11' : z9.1 11 = nI s := b3.trans a11
      have hy := nv_yes1000 ⟨hst, g⟩ 0
      have hl := nv_le f t 1000 s 0 hs
      rw [a11', b4, ck_nI (show s < 160 by omega) (by decide), nI_clamp (by omega), hT9.2 s hst, nI_1]
      have fin : ∀ z : Int32, (z = 0 ∨ z = -2) → (z = 0 ↔ (w2 ≤ 198 ∧ ¬ (s + 1 < (nv f t 1000 s 0).2 ∧ f s = 48))) → ∃ om2, (Option.bind (some z) fun z12 => (fun o14 => some o14) (sI z9 12 z12)) = some om2 ∧ NF om om2 ∧ Tk om2 f t s := by
        intro z hz hz0
        refine ⟨sI z9 12 z, rfl, (nf8.trans b2).trans (NF.s _ 12 _ (by omega)), ?_⟩
        have q12 : (sI z9 12 z).1 12 = z := rfl
        have q13 : (sI z9 12 z).1 13 = nI w2 := b5
        have q10 : (sI z9 12 z).1 10 = nI (nv f t 1000 s 0).2 := b4
        refine ⟨a11', hs, fun lo hi h1 h1' => ?_, fun lo hi h1 q => ?_, ?_, fun d hd => ?_⟩
        · rw [q12, q13, hz0, nI_le_iff (by omega) (by omega), nI_le_iff (by omega) (by omega)]
          unfold NumOk
          rw [b7]
          constructor
          · rintro ⟨⟨p1, p2⟩, p3, p4⟩
            exact ⟨hy, p2, by omega, by omega⟩
          · rintro ⟨_, p2, p3, p4⟩
            exact ⟨⟨by omega, p2⟩, by omega, by omega⟩
        · rw [q13, q10]
          obtain ⟨_, _, _, p4⟩ := q
          rw [b7] at p4 ⊢
          exact ⟨by rw [Nat.min_eq_left (by omega)], rfl⟩
        · rw [q12]
          constructor
          · intro p
            rcases hz with rfl | rfl <;> exact absurd p (by decide)
          · intro p; omega
        · rw [q12]
          have nd : ¬ z = d := by
            rcases hz with rfl | rfl <;> rcases hd with rfl | rfl | rfl | rfl <;> decide
          refine ⟨⟨fun p => absurd p nd, fun p => ?_⟩, fun p => absurd p nd⟩
          rw [p.2, dgt_no hd] at g
          cases g
      by_cases k1 : 198 < w2
      · rw [if_pos (show (198 : Int32) < nI w2 from nI_lt (a := 198) k1 (by omega))]
        exact fin (-2) (Or.inr rfl) ⟨fun p => absurd p (by decide), fun p => by omega⟩
      · rw [if_neg (show ¬ (198 : Int32) < nI w2 from nI_nlt (a := 198) (b := w2) (by omega) (by omega))]
        by_cases k2 : f s = 48
        · rw [if_pos k2]
          by_cases k3 : s + 1 < (nv f t 1000 s 0).2
          · rw [if_neg (nI_ge k3 (by omega))]
            exact fin (-2) (Or.inr rfl) ⟨fun p => absurd p (by decide), fun p => absurd ⟨k3, k2⟩ p.2⟩
          · rw [if_pos (nI_le (by omega) (by omega))]
            exact fin 0 (Or.inl rfl) ⟨fun _ => ⟨by omega, fun p => k3 p.1⟩, fun _ => rfl⟩
        · rw [if_neg k2]
          exact fin 0 (Or.inl rfl) ⟨fun _ => ⟨by omega, fun p => k2 p.2⟩, fun _ => rfl⟩
    · rw [if_neg (show ¬ (s < t ∧ dgt (f s) = true) from fun q => g q.2), if_pos (show (0 : Int32) = 0 from rfl), ck_nI (show s < 160 by omega) (by decide), nI_clamp (by omega), hT4.2 s hst]
      have fin : ∀ z : Int32, (z = -2 ∨ (z = f s ∧ (z = 112 ∨ z = 99 ∨ z = 119 ∨ z = 59))) → (∀ d : Int32, d = 112 ∨ d = 99 ∨ d = 119 ∨ d = 59 → f s = d → z = d) → ∃ om2, (Option.bind (some z) fun z29 => (fun o31 => (fun o32 => some o32) (sI o31 10 ((o31.1 10) + 1))) (sI o4 12 z29)) = some om2 ∧ NF om om2 ∧ Tk om2 f t s := by
        intro z hz hd2
        have q10 : (sI o4 12 z).1 10 = nI s := a10
        refine ⟨sI (sI o4 12 z) 10 (nI (s + 1)), ?_, (nf4.trans (NF.s _ 12 _ (by omega))).trans (NF.s _ 10 _ (by omega)), Tk.non hs (fun q => g q.2) a11 (show ¬ z = 0 from ?_) (show z = -1 ↔ s = t from ⟨fun q => ?_, fun q => absurd q c⟩) (fun d hd => ⟨(show z = d ↔ (s < t ∧ f s = d) from ⟨fun q => ?_, fun q => hd2 d hd q.2⟩), fun _ => rfl⟩)⟩
        · show some (sI (sI o4 12 z) 10 ((sI o4 12 z).1 10 + 1)) = _
          rw [q10, nI_1]
        · rcases hz with rfl | ⟨_, rfl | rfl | rfl | rfl⟩ <;> decide
        · exfalso
          rcases hz with rfl | ⟨_, rfl | rfl | rfl | rfl⟩ <;> exact absurd q (by decide)
        · rcases hz with rfl | ⟨hz, _⟩
          · exfalso
            rcases hd with rfl | rfl | rfl | rfl <;> exact absurd q (by decide)
          · exact ⟨hst, hz.symm.trans q⟩
      by_cases k1 : f s = 112
      · rw [if_pos k1]
        exact fin _ (Or.inr ⟨rfl, Or.inl k1⟩) (fun d _ q => q)
      rw [if_neg k1]
      by_cases k2 : f s = 99
      · rw [if_pos k2]
        exact fin _ (Or.inr ⟨rfl, Or.inr (Or.inl k2)⟩) (fun d _ q => q)
      rw [if_neg k2]
      by_cases k3 : f s = 119
      · rw [if_pos k3]
        exact fin _ (Or.inr ⟨rfl, Or.inr (Or.inr (Or.inl k3))⟩) (fun d _ q => q)
      rw [if_neg k3]
      by_cases k4 : f s = 59
      · rw [if_pos k4]
        exact fin _ (Or.inr ⟨rfl, Or.inr (Or.inr (Or.inr k4))⟩) (fun d _ q => q)
      rw [if_neg k4]
      exact fin (-2) (Or.inl rfl) (fun d hd q => by rcases hd with rfl | rfl | rfl | rfl <;> contradiction)
/-- the class stands at i, its text is as it was -/
def CK (oc0 oc : OS) (i : Nat) : Prop := oc.2 = oc0.2 ∧ oc.1 1 = oc0.1 1 ∧ oc.1 2 = nI i
theorem CK.ct {oc0 oc : OS} {i : Nat} {f : Nat → Int32} {t : Nat} (h : CK oc0 oc i) (g : CT oc0 f t) : CT oc f t := by
  refine ⟨h.2.1.trans g.1, fun j hj => ?_⟩
  rw [h.1]
  exact g.2 j hj
theorem letterHere_eq {f : Nat → Int32} {t s : Nat} {oc : OS} (ht : t ≤ 160) (hs : s ≤ t) (hT : CT oc f t) (e : oc.1 2 = nI s) : f_X2_letterHere oc = some (if s < t then f s else -1) := by
  rw [f_X2_letterHere, e, hT.1, if_neg (nI_pos (by omega))]
  by_cases c : s < t
  · rw [if_neg (nI_ge c (by omega)), if_pos c, ck_nI (show s < 160 by omega) (by decide), nI_clamp (by omega), hT.2 s c]
  · rw [if_pos (nI_le (by omega) (by omega)), if_neg c]
theorem readNumber_eq {f : Nat → Int32} {t i lo hi : Nat} {oc0 oc : OS} (ht : t ≤ 160) (hi0 : i ≤ t) (hT : CT oc0 f t) (hc : CK oc0 oc i) (hlo : lo ≤ 198) (hhi : hi ≤ 198) : ∃ oc2, (NumOk f t lo hi (skb f t 1000 i) → f_X2_readNumber (nI lo) (nI hi) oc = some (nI (nv f t 1000 (skb f t 1000 i) 0).1, oc2) ∧ CK oc0 oc2 (nv f t 1000 (skb f t 1000 i) 0).2) ∧ (¬ NumOk f t lo hi (skb f t 1000 i) → f_X2_readNumber (nI lo) (nI hi) oc = some (-1, oc2) ∧ CK oc0 oc2 (skb f t 1000 i)) ∧ oc2.1 3 = nI (skb f t 1000 i) ∧ ∀ j, 4 ≤ j → oc2.1 j = oc.1 j := by
  have hs := skb_le f t 1000 i hi0
  have hsk := skipBlanks_eq ht hi0 (hc.ct hT) hc.2.2
  obtain ⟨s, es⟩ : ∃ s, s = skb f t 1000 i := ⟨_, rfl⟩
  rw [← es] at hs hsk ⊢
  obtain ⟨o2, h2⟩ : ∃ o2, o2 = sI (sI oc 2 (nI s)) 3 (nI s) := ⟨_, rfl⟩
  have a2 : o2.1 2 = nI s := by rw [h2]; rfl
  have ck2 : CK oc0 o2 s := by rw [h2]; exact ⟨hc.1, hc.2.1, rfl⟩
  have hT2 := ck2.ct hT
  have hj : ∀ j, 4 ≤ j → o2.1 j = oc.1 j := fun j hj => by rw [h2, sI_ne _ _ _ _ (by omega), sI_ne _ _ _ _ (by omega)]
  have nc := num_c (u := o2) ht hT2 1000 s 0 0 hs (by omega) (by omega)
  rw [Nat.zero_add] at nc
  have hg := nv_ge f t 1000 s 0
  have hl := nv_le f t 1000 s 0 hs
  have h199 := nv_199 f t 1000 s 0 (by omega)
  have eF : f_X2_readNumber (nI lo) (nI hi) oc = Option.bind (if nI ((nv f t 1000 s 0).2 - s) ≤ 1 then some 0 else Option.bind (f_X2_letterHere o2) fun x14 => if x14 = 48 then some 1 else some 0 : Option Int32) fun z6 => if nI ((nv f t 1000 s 0).2 - s) = 0 then some ((-1), o2) else if z6 = 0 then if nI (nv f t 1000 s 0).1 < nI lo then some ((-1), o2) else if nI (nv f t 1000 s 0).1 ≤ nI hi then some (nI (nv f t 1000 s 0).1, sI o2 2 ((o2.1 2) + nI ((nv f t 1000 s 0).2 - s))) else some ((-1), o2) else some ((-1), o2) := by
    rw [f_X2_readNumber, hsk, Option.bind_some]
    simp only [lt]
    rw [show (sI oc 2 (nI s)).1 2 = nI s from rfl, ← h2, a2]
    rw [show lp_X2_readNumber_23 o2 1000 0 0 (nI s) = _ from nc, Option.bind_some]
  have lz : (if nI ((nv f t 1000 s 0).2 - s) ≤ 1 then some 0 else Option.bind (f_X2_letterHere o2) fun x14 => if x14 = 48 then some 1 else some 0 : Option Int32) = some (if s + 1 < (nv f t 1000 s 0).2 ∧ f s = 48 then 1 else 0) := by
    by_cases c : s + 1 < (nv f t 1000 s 0).2
    · rw [if_neg (show ¬ nI ((nv f t 1000 s 0).2 - s) ≤ 1 from nI_ge (a := 1) (by omega) (by omega)), letterHere_eq ht hs hT2 a2, Option.bind_some, if_pos (show s < t by omega)]
      by_cases d : f s = 48
      · rw [if_pos d, if_pos ⟨c, d⟩]
      · rw [if_neg d, if_neg (fun q => d q.2)]
    · rw [if_pos (show nI ((nv f t 1000 s 0).2 - s) ≤ 1 from nI_le (b := 1) (by omega) (by decide)), if_neg (fun q => c q.1)]
  rw [lz, Option.bind_some] at eF
  by_cases ok : NumOk f t lo hi s
  · obtain ⟨p1, p2, p3, p4⟩ := id ok
    refine ⟨sI o2 2 (nI (nv f t 1000 s 0).2), fun _ => ⟨?_, ck2.1, ck2.2.1, rfl⟩, fun q => absurd ok q, ?_, fun j h => by rw [sI_ne _ _ _ _ (by omega)]; exact hj j h⟩
    · rw [eF, if_neg (nI_ne0 (by omega) (by omega)), if_neg p2, if_pos rfl, if_neg (nI_nlt p3 (by omega)), if_pos (nI_le p4 (by omega)), a2, nI_add, show s + ((nv f t 1000 s 0).2 - s) = (nv f t 1000 s 0).2 by omega]
    · rw [sI_ne _ _ _ _ (by decide), h2]; rfl
  · refine ⟨o2, fun q => absurd q ok, fun _ => ⟨?_, ck2⟩, by rw [h2]; rfl, hj⟩
    rw [eF]
    by_cases c1 : s < (nv f t 1000 s 0).2
    · rw [if_neg (nI_ne0 (by omega) (by omega))]
      by_cases c2 : s + 1 < (nv f t 1000 s 0).2 ∧ f s = 48
      · rw [if_pos c2, if_neg (by decide)]
      · rw [if_neg c2, if_pos rfl]
        by_cases c3 : lo ≤ (nv f t 1000 s 0).1
        · rw [if_neg (nI_nlt c3 (by omega))]
          by_cases c4 : (nv f t 1000 s 0).1 ≤ hi
          · exact absurd ⟨c1, c2, c3, c4⟩ ok
          · rw [if_neg (nI_ge (by omega) (by omega))]
        · rw [if_pos (nI_lt (by omega) (by omega))]
    · rw [show (nv f t 1000 s 0).2 - s = 0 by omega, if_pos (show nI 0 = 0 from rfl)]
theorem readSemi_eq {f : Nat → Int32} {t i : Nat} {oc0 oc : OS} (ht : t ≤ 160) (hi0 : i ≤ t) (hT : CT oc0 f t) (hc : CK oc0 oc i) : ∃ oc2, (skb f t 1000 i < t ∧ f (skb f t 1000 i) = 59 → f_X2_readSemicolon oc = some (1, oc2) ∧ CK oc0 oc2 (skb f t 1000 i + 1)) ∧ (¬ (skb f t 1000 i < t ∧ f (skb f t 1000 i) = 59) → f_X2_readSemicolon oc = some (0, oc2) ∧ CK oc0 oc2 (skb f t 1000 i)) ∧ ∀ j, 4 ≤ j → oc2.1 j = oc.1 j := by
  have hs := skb_le f t 1000 i hi0
  have hsk := skipBlanks_eq ht hi0 (hc.ct hT) hc.2.2
  obtain ⟨s, es⟩ : ∃ s, s = skb f t 1000 i := ⟨_, rfl⟩
  rw [← es] at hs hsk ⊢
  have ck2 : CK oc0 (sI oc 2 (nI s)) s := ⟨hc.1, hc.2.1, rfl⟩
  have lh := letterHere_eq ht hs (ck2.ct hT) rfl
  have eF : f_X2_readSemicolon oc = if (if s < t then f s else -1) = 59 then some (1, sI (sI oc 2 (nI s)) 2 (nI (s + 1))) else some (0, sI oc 2 (nI s)) := by
    rw [f_X2_readSemicolon, hsk, Option.bind_some, lh, Option.bind_some]
    simp only [lt]
    rw [show (sI oc 2 (nI s)).1 2 = nI s from rfl, nI_1]
  by_cases c : s < t ∧ f s = 59
  · refine ⟨sI (sI oc 2 (nI s)) 2 (nI (s + 1)), fun _ => ⟨?_, hc.1, hc.2.1, rfl⟩, fun q => absurd c q, fun j h => by rw [sI_ne _ _ _ _ (by omega), sI_ne _ _ _ _ (by omega)]⟩
    rw [eF, if_pos c.1, if_pos c.2]
  · refine ⟨sI oc 2 (nI s), fun q => absurd q c, fun _ => ⟨?_, ck2⟩, fun j h => by rw [sI_ne _ _ _ _ (by omega)]⟩
    rw [eF]
    by_cases d : s < t
    · rw [if_pos d, if_neg (fun q => c ⟨d, q⟩)]
    · rw [if_neg d, if_neg (by decide)]
