/-! the class's reader: characters, terms -/
theorem gC.kpure {α : Type} {w : α → Outcome} {N0 : Nat} {K : Nat → Nat} {d mi C : Nat} {av : List Value} {s : cS} {G : gm_H} {sz : Nat} {Q : α → Prop} (h : gC w N0 K d mi av (bM C (cH C s) G) sz (fun r M' sz' dd => M' = bM C (cH C s) G ∧ sz' = sz ∧ dd = 0 ∧ Q r)) : gC w N0 K d mi av (bM C (cH C s) G) sz (kQ C (fun r s' G' sz' dd => s' = s ∧ G' = G ∧ sz' = sz ∧ dd = 0 ∧ Q r)) := by
  obtain ⟨r, M', sz', dd, e, h1, h2, h3, h4⟩ := h
  exact ⟨r, M', sz', dd, e, s, G, h1, rfl, rfl, h2, h3, h4⟩
theorem gC.pure {α : Type} {w : α → Outcome} {N0 : Nat} {K : Nat → Nat} {d mi : Nat} {av : List Value} {M : gm_H} {sz : Nat} {Q : α → gm_H → Nat → Nat → Prop} (h : gC w N0 K d mi av M sz (fun r M' sz' dd => M' = M ∧ sz' = sz ∧ dd = 0 ∧ Q r M sz 0)) : gC w N0 K d mi av M sz Q := by
  obtain ⟨r, M', sz', dd, e, rfl, rfl, rfl, h4⟩ := h
  exact ⟨r, _, _, _, e, h4⟩
theorem hq_isLetter {c : Int32} {Q : Int32 → Prop} (q : Q (zb (chL c))) : if c < 97 then Q 0 else (if 122 < c then Q 0 else Q 1) := by
  by_cases h1 : c < 97
  · rw [if_pos h1]
    rwa [zb_f (fun z => absurd z.1 (Int32.not_le.mpr h1))] at q
  · rw [if_neg h1]
    by_cases h2 : 122 < c
    · rw [if_pos h2]
      rwa [zb_f (fun z => absurd z.2 (Int32.not_le.mpr h2))] at q
    · rw [if_neg h2]
      rwa [zb_t ⟨Int32.not_lt.mp h1, Int32.not_lt.mp h2⟩] at q
theorem hq_isVariable {c : Int32} {Q : Int32 → Prop} (q : Q (zb (chV c))) : if c < 85 then Q 0 else (if 90 < c then Q 0 else Q 1) := by
  by_cases h1 : c < 85
  · rw [if_pos h1]
    rwa [zb_f (fun z => absurd z.1 (Int32.not_le.mpr h1))] at q
  · rw [if_neg h1]
    by_cases h2 : 90 < c
    · rw [if_pos h2]
      rwa [zb_f (fun z => absurd z.2 (Int32.not_le.mpr h2))] at q
    · rw [if_neg h2]
      rwa [zb_t ⟨Int32.not_lt.mp h1, Int32.not_lt.mp h2⟩] at q
theorem kq_isLetter {N0 : Nat} {K : Nat → Nat} {d C : Nat} {c : Int32} {s : cS} {G : gm_H} {sz : Nat} {Q : Int32 → Prop} (q : Q (zb (chL c))) : kX9_isLetter N0 K (d + 1) C c s G sz Q := gC.kpure (gX9_isLetter.of (TX9_isLetter_0 (hq_isLetter q)))
theorem gq_isLetter {N0 : Nat} {K : Nat → Nat} {d : Nat} {c : Int32} {M : gm_H} {sz : Nat} {Q : Int32 → gm_H → Nat → Nat → Prop} (q : Q (zb (chL c)) M sz 0) : gX9_isLetter N0 K (d + 1) c M sz Q := gC.pure (gX9_isLetter.of (TX9_isLetter_0 (hq_isLetter (Q := fun r => Q r M sz 0) q)))
theorem gq_isVariable {N0 : Nat} {K : Nat → Nat} {d : Nat} {c : Int32} {M : gm_H} {sz : Nat} {Q : Int32 → gm_H → Nat → Nat → Prop} (q : Q (zb (chV c)) M sz 0) : gX9_isVariable N0 K (d + 1) c M sz Q := gC.pure (gX9_isVariable.of (TX9_isVariable_0 (hq_isVariable (Q := fun r => Q r M sz 0) q)))
theorem kq_isPlain {N0 : Nat} {K : Nat → Nat} {d C : Nat} {c : Int32} {s : cS} {G : gm_H} {sz : Nat} {Q : Int32 → Prop} (q : Q (zb (chP c))) : kX9_isPlain N0 K (d + 1) C c s G sz Q := by
  refine gC.kpure (gX9_isPlain.of (TX9_isPlain_0 ?_))
  by_cases hp : chP c
  · rw [zb_t hp] at q
    rcases hp with h | h | h
    · rw [if_neg (Int32.not_lt.mpr h.1), if_pos h.2]
      exact q
    · rw [if_pos (show c < 97 from Int32.lt_of_le_of_lt h.2 (by decide)), if_neg (Int32.not_lt.mpr h.1), if_pos h.2]
      exact q
    · rw [if_pos (show c < 97 from Int32.lt_of_le_of_lt h.2 (by decide)), if_pos (show c < 85 from Int32.lt_of_le_of_lt h.2 (by decide)), if_neg (Int32.not_lt.mpr h.1), if_neg (Int32.not_lt.mpr h.2)]
      exact q
  · rw [zb_f hp] at q
    have t1 : if c < 48 then Q 0 else (if 57 < c then Q 0 else Q 1) := by
      by_cases h1 : c < 48
      · rw [if_pos h1]; exact q
      · rw [if_neg h1]
        by_cases h2 : 57 < c
        · rw [if_pos h2]; exact q
        · exact absurd (Or.inr (Or.inr ⟨Int32.not_lt.mp h1, Int32.not_lt.mp h2⟩)) hp
    have t2 : if c < 85 then (if c < 48 then Q 0 else (if 57 < c then Q 0 else Q 1)) else (if c ≤ 90 then Q 1 else (if c < 48 then Q 0 else (if 57 < c then Q 0 else Q 1))) := by
      by_cases h1 : c < 85
      · rw [if_pos h1]; exact t1
      · rw [if_neg h1]
        by_cases h2 : c ≤ 90
        · exact absurd (Or.inr (Or.inl ⟨Int32.not_lt.mp h1, h2⟩)) hp
        · rw [if_neg h2]; exact t1
    by_cases h1 : c < 97
    · rw [if_pos h1]; exact t2
    · rw [if_neg h1]
      by_cases h2 : c ≤ 122
      · exact absurd (Or.inl ⟨Int32.not_lt.mp h1, h2⟩) hp
      · rw [if_neg h2]; exact t2
/-- the text T on the sheet, of which l is left -/
def cL (C : Nat) (s : cS) (T l : List Int32) : Prop := s.2.2 40 = some (C + 1) ∧ T.length ≤ 240 ∧ (∀ k, k < T.length → s.2.1 1 k = T.getD k 0) ∧ s.2.1 1 T.length = 0 ∧ ∃ q, q + l.length = T.length ∧ s.1 41 = nI q ∧ T.drop q = l
theorem cL.get {C : Nat} {s : cS} {T l : List Int32} (h : cL C s T l) : ∃ k, s.1 41 = nI k ∧ k < 241 ∧ s.2.1 1 k = ps_hc l ∧ s.2.2 40 = some (C + 1) ∧ k + l.length = T.length := by
  obtain ⟨h1, h2, h3, h4, q, h5, h6, h7⟩ := h
  refine ⟨q, h6, by omega, ?_, h1, h5⟩
  cases l with
  | nil =>
    simp only [List.length_nil] at h5
    rw [show q = T.length by omega, h4]
    rfl
  | cons x l =>
    simp only [List.length_cons] at h5
    have e : T[q]? = some x := by
      have := congrArg (fun z : List Int32 => z[0]?) h7
      simpa [List.getElem?_drop] using this
    rw [h3 q (by omega), List.getD_eq_getElem?_getD, e]
    rfl
theorem cL.step {C : Nat} {s : cS} {T l : List Int32} (h : cL C s T l) (hl : l ≠ []) : cL C (cI s 41 (s.1 41 + 1)) T l.tail := by
  obtain ⟨h1, h2, h3, h4, q, h5, h6, h7⟩ := h
  cases l with
  | nil => exact absurd rfl hl
  | cons x l =>
    refine ⟨h1, h2, h3, h4, q + 1, ?_, ?_, ?_⟩
    · simp only [List.length_cons] at h5
      simp only [List.tail_cons]
      omega
    · show s.1 41 + 1 = _
      rw [h6, nI_1]
    · rw [← List.drop_drop, h7]
      rfl
theorem cL.fr {C : Nat} {s s' : cS} {T l : List Int32} (h : cL C s T l) (h1 : s'.1 41 = s.1 41) (h2 : s'.2.1 1 = s.2.1 1) (h3 : s'.2.2 40 = s.2.2 40) : cL C s' T l := by
  unfold cL at h ⊢
  rw [h1, h2, h3]
  exact h
theorem cq_take {N0 : Nat} {K : Nat → Nat} {d C : Nat} {c : Int32} {s : cS} {G : gm_H} {sz : Nat} {Q : Int32 → cS → Prop} {T l : List Int32} (hN : N0 ≤ C) (h0 : c ≠ 0) (h : cL C s T l) (q1 : ps_hc l = c → cL C (cI s 41 (s.1 41 + 1)) T l.tail → Q 1 (cI s 41 (s.1 41 + 1))) (q0 : ¬ ps_hc l = c → Q 0 s) : kX6_take N0 K (d + 1) C c s G sz Q := by
  refine kX6_take.of (TX6_take_0 hN ?_)
  obtain ⟨k, h1, h2, h3, h4, _⟩ := h.get
  refine ⟨h4, k, h1, h2, ?_⟩
  rw [h3]
  by_cases e : ps_hc l = c
  · rw [if_pos e]
    exact q1 e (h.step (ps_hc_ne h0 e))
  · rw [if_neg e]
    exact q0 e
/-- all as it was but the reader's place -/
def fP (s s' : cS) : Prop := (∀ i, i ≠ 41 → s'.1 i = s.1 i) ∧ s'.2 = s.2
theorem fP.refl (s : cS) : fP s s := ⟨fun _ _ => rfl, rfl⟩
theorem fP.p {s s' : cS} (h : fP s s') (v : Int32) : fP s (cI s' 41 v) := by
  refine ⟨fun i hi => ?_, h.2⟩
  show (if i = 41 then v else s'.1 i) = s.1 i
  rw [if_neg hi]; exact h.1 i hi
theorem fP.trans {s s' s'' : cS} (h : fP s s') (g : fP s' s'') : fP s s'' := ⟨fun i hi => (g.1 i hi).trans (h.1 i hi), g.2.trans h.2⟩
theorem tE_c {o : Int32} {acc : List Int32} (h : ¬ o = 0) : tE (o, acc) = cn o * 2097152 + cn (acc.getD 0 0) * 16384 + cn (acc.getD 1 0) * 128 + cn (acc.getD 2 0) := by
  unfold tE dg
  simp [h]
theorem tE_k {c : Int32} : tE (0, [c]) = cn c * 2097152 := by
  unfold tE dg
  simp
theorem chL_ne {o : Int32} (h : chL o) : ¬ o = 0 := fun z => by
  rw [z] at h
  exact absurd h (by decide)
theorem tE_add {o c : Int32} {acc : List Int32} (ho : chL o) (ha : ∀ x ∈ acc, chP x) (hc : chP c) (hl : acc.length ≤ 2) : nI (tE (o, acc)) ||| (c <<< (nI (14 - 7 * acc.length) &&& 31)) = nI (tE (o, acc ++ [c])) := by
  obtain ⟨h1, h2, h3⟩ := chP_cn hc
  have h4 := (chP_cn (Or.inl ho)).2.1
  have e : c <<< (nI (14 - 7 * acc.length) &&& 31) = nI (cn c * 2 ^ (14 - 7 * acc.length)) := by
    rw [← nI_shl (cn c) (k := 14 - 7 * acc.length) (by omega), ← h3]
  rw [e, nI_or, tE_c (chL_ne ho), tE_c (chL_ne ho)]
  congr 1
  match acc, ha, hl with
  | [], _, _ =>
    show cn o * 2097152 + 0 * 16384 + 0 * 128 + 0 ||| cn c * 2 ^ 14 = cn o * 2097152 + cn c * 16384 + 0 * 128 + 0
    rw [show cn o * 2097152 + 0 * 16384 + 0 * 128 + 0 = cn o * 2 ^ 21 by omega, n_or (by omega)]
    omega
  | [x], ha, _ =>
    have hx := (chP_cn (ha x (by simp))).2.1
    show cn o * 2097152 + cn x * 16384 + 0 * 128 + 0 ||| cn c * 2 ^ 7 = cn o * 2097152 + cn x * 16384 + cn c * 128 + 0
    rw [show cn o * 2097152 + cn x * 16384 + 0 * 128 + 0 = (cn o * 128 + cn x) * 2 ^ 14 by omega, n_or (by omega)]
    omega
  | [x, y], ha, _ =>
    have hx := (chP_cn (ha x (by simp))).2.1
    have hy := (chP_cn (ha y (by simp))).2.1
    show cn o * 2097152 + cn x * 16384 + cn y * 128 + 0 ||| cn c * 2 ^ 0 = cn o * 2097152 + cn x * 16384 + cn y * 128 + cn c
    rw [show cn o * 2097152 + cn x * 16384 + cn y * 128 + 0 = (cn o * 16384 + cn x * 128 + cn y) * 2 ^ 7 by omega, n_or (by omega)]
    omega
theorem nI_m7 {m : Nat} (h : m ≤ 2) : nI (21 - 7 * m) + (-7 : Int32) = nI (14 - 7 * m) := by
  match m, h with
  | 0, _ => decide
  | 1, _ => decide
  | 2, _ => decide
theorem cq_readTerm_55 {N0 : Nat} {K : Nat → Nat} {d C : Nat} {G : gm_H} {sz sl : Nat} {T : List Int32} {o : Int32} {s0 : cS} (hN : N0 ≤ C) (ho : chL o) : ∀ (n : Nat) (acc l : List Int32) (s : cS) (Q : Int32 → cS → Prop), n + acc.length = 2 → (∀ x ∈ acc, chP x) → fP s0 s → cL C s T l → (∀ s' l', fP s0 s' → cL C s' T l' → (∀ x, ps_parts o n acc l = (some x, l') → Q (nI (tE x)) s') ∧ (ps_parts o n acc l = (none, l') → Q 0 s')) → hX6_readTerm_55 N0 K (d + 1) C (nI (tE (o, acc))) (nI (21 - 7 * acc.length)) s G sz sl Q := by
  intro n
  induction n with
  | zero =>
    intro acc l s Q hn ha hf hr q
    refine TX6_readTerm_55 hN ?_
    obtain ⟨k, h1, h2, h3, h4, _⟩ := hr.get
    refine ⟨h4, k, h1, h2, ?_⟩
    rw [h3, nI_m7 (by omega)]
    refine kq_isPlain ?_
    by_cases hp : chP (ps_hc l)
    · have hr1 := hr.step (ps_hc_ne (chP_ne hp) rfl)
      rw [if_neg (zb_ne.mpr hp), if_pos (by rw [show 14 - 7 * acc.length = 0 by omega]; decide), tE_add ho ha hp (by omega)]
      refine cq_take hN (by decide) hr1 (fun e hr2 => ?_) (fun e => ?_)
      · rw [if_neg (by decide)]
        refine (q _ _ ((hf.p _).p _) hr2).1 (o, acc ++ [ps_hc l]) ?_
        rw [ps_parts, if_pos hp, if_pos e]
      · rw [if_pos rfl]
        refine (q _ _ (hf.p _) hr1).2 ?_
        rw [ps_parts, if_pos hp, if_neg e]
    · rw [if_pos (zb_eq.mpr hp)]
      refine (q _ _ hf hr).2 ?_
      rw [ps_parts, if_neg hp]
  | succ n ih =>
    intro acc l s Q hn ha hf hr q
    refine TX6_readTerm_55 hN ?_
    obtain ⟨k, h1, h2, h3, h4, _⟩ := hr.get
    refine ⟨h4, k, h1, h2, ?_⟩
    rw [h3, nI_m7 (by omega)]
    refine kq_isPlain ?_
    by_cases hp : chP (ps_hc l)
    · have hr1 := hr.step (ps_hc_ne (chP_ne hp) rfl)
      have hl' : (acc ++ [ps_hc l]).length = acc.length + 1 := by simp
      rw [if_neg (zb_ne.mpr hp), if_neg (nI_nle (by omega) (by omega)), tE_add ho ha hp (by omega)]
      refine cq_take hN (by decide) hr1 (fun e hr2 => ?_) (fun e => ?_)
      · rw [if_neg (by decide), show 14 - 7 * acc.length = 21 - 7 * (acc ++ [ps_hc l]).length by rw [hl']; omega]
        refine ih _ _ _ Q (by rw [hl']; omega) ?_ ((hf.p _).p _) hr2 ?_
        · intro x hx
          simp only [List.mem_append, List.mem_singleton] at hx
          rcases hx with hx | hx
          · exact ha x hx
          · rw [hx]; exact hp
        · intro s' l' g1 g2
          have eq : ps_parts o (n + 1) acc l = ps_parts o n (acc ++ [ps_hc l]) l.tail.tail := by rw [ps_parts, if_pos hp, if_neg (by rw [e]; decide), if_pos e]
          rw [← eq]
          exact q s' l' g1 g2
      · rw [if_pos rfl]
        refine cq_take hN (by decide) hr1 (fun e2 hr2 => ?_) (fun e2 => ?_)
        · rw [if_neg (by decide)]
          refine (q _ _ ((hf.p _).p _) hr2).1 (o, acc ++ [ps_hc l]) ?_
          rw [ps_parts, if_pos hp, if_pos e2]
        · rw [if_pos rfl]
          refine (q _ _ (hf.p _) hr1).2 ?_
          rw [ps_parts, if_pos hp, if_neg e2, if_neg e]
    · rw [if_pos (zb_eq.mpr hp)]
      refine (q _ _ hf hr).2 ?_
      rw [ps_parts, if_neg hp]
theorem cq_readTerm {N0 : Nat} {K : Nat → Nat} {d C : Nat} {G : gm_H} {sz : Nat} {T l : List Int32} {s : cS} {Q : Int32 → cS → Prop} (hN : N0 ≤ C) (hr : cL C s T l) (q : ∀ s' l', fP s s' → cL C s' T l' → (∀ x, ps_term l = (some x, l') → Q (nI (tE x)) s') ∧ (ps_term l = (none, l') → Q 0 s')) : kX6_readTerm N0 K (d + 2) C s G sz Q := by
  refine kX6_readTerm.of (TX6_readTerm_0 hN ?_)
  obtain ⟨k, h1, h2, h3, h4, _⟩ := hr.get
  refine ⟨h4, k, h1, h2, ?_⟩
  rw [h3]
  refine kq_isPlain ?_
  by_cases hp : chP (ps_hc l)
  · have hr1 := hr.step (ps_hc_ne (chP_ne hp) rfl)
    obtain ⟨c1, c2, c3⟩ := chP_cn hp
    have e21 : ps_hc l <<< ((21 : Int32) &&& 31) = nI (cn (ps_hc l) * 2097152) := by
      have := nI_shl (cn (ps_hc l)) (k := 21) (by decide)
      rw [← c3] at this
      exact this
    rw [if_neg (zb_ne.mpr hp), e21]
    refine kq_isLetter ?_
    by_cases hL : chL (ps_hc l)
    · rw [if_neg (zb_ne.mpr hL)]
      refine cq_take hN (by decide) hr1 (fun e hr2 => ?_) (fun e => ?_)
      · rw [if_neg (by decide)]
        have e0 : cn (ps_hc l) * 2097152 = tE (ps_hc l, []) := by
          rw [tE_c (chL_ne hL)]
          show _ = cn (ps_hc l) * 2097152 + 0 * 16384 + 0 * 128 + 0
          omega
        rw [e0]
        refine cq_readTerm_55 (s0 := s) hN hL 2 [] _ _ Q rfl (fun x hx => absurd hx (by simp)) (((fP.refl s).p _).p _) hr2 ?_
        intro s' l' g1 g2
        have eq : ps_term l = ps_parts (ps_hc l) 2 [] l.tail.tail := by rw [ps_term, if_pos hp, if_pos ⟨hL, e⟩]
        rw [← eq]
        exact q s' l' g1 g2
      · rw [if_pos rfl, ← tE_k]
        refine (q _ _ ((fP.refl s).p _) hr1).1 (0, [ps_hc l]) ?_
        rw [ps_term, if_pos hp, if_neg (fun z => e z.2)]
    · rw [if_pos (zb_eq.mpr hL), ← tE_k]
      refine (q _ _ ((fP.refl s).p _) hr1).1 (0, [ps_hc l]) ?_
      rw [ps_term, if_pos hp, if_neg (fun z => hL z.1)]
  · rw [if_pos (zb_eq.mpr hp)]
    refine (q _ _ (fP.refl s) hr).2 ?_
    rw [ps_term, if_neg hp]
