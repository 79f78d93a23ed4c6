/-! the class: relations by number; asks, keywords, headsIn -/
theorem wf_kw_len {c : Int32} {ts : List Tm} {k : Nat} (h : wfA c ts) (hk : k < 8) (e : gm_ix c = nI k) : nI ts.length = chK c := by
  rcases h.1 with h1 | h1
  · have := gm_ix_chL h1
    rw [e] at this
    exact absurd this (nI_pos (by omega))
  · exact h1.2
theorem rn_inj {k k' c c' : Int32} {ts ts' : List Tm} (h : wfA c ts) (g : wfA c' ts') : rn c ts.length = rn c' ts'.length ↔ lk (k, c, ts) = lk (k', c', ts') := by
  have hl := h.2.1
  have gl := g.2.1
  have key : lk (k, c, ts) = lk (k', c', ts') ↔ c = c' ∧ ts.length = ts'.length := by
    obtain ⟨m, _, hm, e⟩ := wfA_nat h
    obtain ⟨m', _, hm', e'⟩ := wfA_nat g
    subst e
    subst e'
    unfold lk
    simp only [cn_nI hm, cn_nI hm']
    constructor
    · intro z
      have : m = m' := by omega
      exact ⟨by rw [this], by omega⟩
    · intro z
      have := (nI_eq (by omega) (by omega)).mp z.1
      omega
  rw [key]
  rcases rn_cases h with ⟨a, h1, h2, h3⟩ | ⟨m, h1, h2, h3, h4, h5⟩
  · rcases rn_cases g with ⟨b, g1, g2, g3⟩ | ⟨m', g1, g2, g3, g4, g5⟩
    · rw [h2, g2, nI_eq (by omega) (by omega)]
      constructor
      · intro z
        subst z
        have ec : c = c' := by rw [(ix_kw h1).mp h3, (ix_kw h1).mp g3]
        subst ec
        have := (wf_kw_len h h1 h3).trans (wf_kw_len g h1 h3).symm
        exact ⟨rfl, (nI_eq (by omega) (by omega)).mp this⟩
      · intro z
        rw [z.1, g3, nI_eq (by omega) (by omega)] at h3
        omega
    · rw [h2, g4, nI_eq (by omega) (by omega)]
      constructor
      · intro z
        omega
      · intro z
        rw [← z.1, h3] at g5
        exact absurd g5 (nI_pos (by omega))
  · rcases rn_cases g with ⟨b, g1, g2, g3⟩ | ⟨m', g1, g2, g3, g4, g5⟩
    · rw [h4, g2, nI_eq (by omega) (by omega)]
      constructor
      · intro z
        omega
      · intro z
        rw [z.1, g3] at h5
        exact absurd h5 (nI_pos (by omega))
    · rw [h4, g4, nI_eq (by omega) (by omega), h3, g3, nI_eq (by omega) (by omega)]
      omega
/-- the relation's number of a literal's cell -/
def lr (x : Lt) : Int32 := if x.1 = 2 then -1 else rn x.2.1 x.2.2.length
theorem rn_pos {c : Int32} {ts : List Tm} (h : wfA c ts) : ∃ m, m < 112 ∧ rn c ts.length = nI m := by
  have := h.2.1
  rcases rn_cases h with ⟨a, h1, h2, h3⟩ | ⟨m, h1, h2, h3, h4, h5⟩
  · exact ⟨a, by omega, h2⟩
  · exact ⟨_, by omega, h4⟩
theorem lr_eq {x y : Lt} (hx : wfL x) (hy : wfL y) (ky : y.1 ≠ 2) : lr x = rn y.2.1 y.2.2.length ↔ x.1 ≠ 2 ∧ lk x = lk y := by
  unfold lr
  by_cases h2 : x.1 = 2
  · rw [if_pos h2]
    constructor
    · intro e
      obtain ⟨m, h1, h3⟩ := rn_pos (wfL_atom hy ky).1
      rw [h3] at e
      exact absurd (by rw [← e]; decide : nI m < 0) (nI_pos (by omega))
    · intro e
      exact absurd h2 e.1
  · rw [if_neg h2, rn_inj (k := x.1) (k' := y.1) (wfL_atom hx h2).1 (wfL_atom hy ky).1]
    exact ⟨fun z => ⟨h2, z⟩, fun z => z.2⟩
theorem lr_head {y : Lt} (ky : y.1 ≠ 2) : (if y.1 = 2 then (-1 : Int32) else rn y.2.1 y.2.2.length) = rn y.2.1 y.2.2.length := if_neg ky
theorem gs_asks_2 {N0 : Nat} {K : Nat → Nat} {d r : Nat} {M : gm_H} {sz sl : Nat} {x : Rl} {y : Lt} {Q : Int32 → Prop} (hx : gRule M r x) (hw : wfR x) (hy : wfL y) (ky : y.1 ≠ 2) (q1 : (∃ l ∈ x.2, l.1 ≠ 2 ∧ lk l = lk y) → Q 1) (q0 : ¬ (∃ l ∈ x.2, l.1 ≠ 2 ∧ lk l = lk y) → Q 0) : ∀ (m j : Nat), j + m = x.2.length → (∀ i l, i < j → x.2[i]? = some l → ¬ (l.1 ≠ 2 ∧ lk l = lk y)) → hX7_asks_2 N0 K d r (rn y.2.1 y.2.2.length) (nI j) M sz sl Q := by
  obtain ⟨h, b, fa, e1, e2, e3, e4, e5⟩ := hx
  intro m
  induction m with
  | zero =>
    intro j hj hno
    refine TX7_asks_2 ⟨_, e2, nI x.2.length, rfl, ?_⟩
    rw [if_pos (nI_le (by omega) (by omega))]
    refine q0 (fun z => ?_)
    obtain ⟨l, hl, z1⟩ := z
    obtain ⟨i, hi, el⟩ := List.getElem_of_mem hl
    exact hno i l (by omega) (by rw [List.getElem?_eq_getElem hi, el]) z1
  | succ m ih =>
    intro j hj hno
    have hj' : j < x.2.length := by omega
    refine TX7_asks_2 ⟨_, e2, nI x.2.length, rfl, ?_⟩
    rw [if_neg (nI_ge (by omega) (by omega)), nI_1]
    obtain ⟨a, f1, f2⟩ := e5 j x.2[j] (List.getElem?_eq_getElem hj')
    have hm : x.2[j] ∈ x.2 := List.getElem_mem hj'
    have hwl := hw.2.2 _ hm
    refine ⟨b, rfl, 5, fa, e3, by decide, j, rfl, by omega, a, f1, _, f2, lr x.2[j], rfl, ?_⟩
    by_cases hc : x.2[j].1 ≠ 2 ∧ lk x.2[j] = lk y
    · rw [if_pos ((lr_eq hwl hy ky).mpr hc)]
      exact q1 ⟨_, hm, hc⟩
    · rw [if_neg (fun z => hc ((lr_eq hwl hy ky).mp z))]
      refine ih (j + 1) (by omega) (fun i l hi hl => ?_)
      by_cases ei : i = j
      · subst ei
        rw [List.getElem?_eq_getElem hj'] at hl
        cases hl
        exact hc
      · exact hno i l (by omega) hl
theorem gq_asks {N0 : Nat} {K : Nat → Nat} {d r : Nat} {M : gm_H} {sz : Nat} {x : Rl} {y : Lt} {Q : Int32 → gm_H → Nat → Nat → Prop} (hx : gRule M r x) (hw : wfR x) (hy : wfL y) (ky : y.1 ≠ 2) (q1 : (∃ l ∈ x.2, l.1 ≠ 2 ∧ lk l = lk y) → Q 1 M sz 0) (q0 : ¬ (∃ l ∈ x.2, l.1 ≠ 2 ∧ lk l = lk y) → Q 0 M sz 0) : gX7_asks N0 K (d + 1) r (rn y.2.1 y.2.2.length) M sz Q := gC.pure (gX7_asks.of (TX7_asks_0 (gs_asks_2 (Q := fun r => Q r M sz 0) hx hw hy ky q1 q0 x.2.length 0 (by omega) (fun i l hi => absurd hi (by omega)))))
theorem gs_kws_4 {N0 : Nat} {K : Nat → Nat} {d r : Nat} {M : gm_H} {sz sl : Nat} {x : Rl} {Q : Int32 → Prop} (hx : gRule M r x) (hw : wfR x) (q : ∀ v, bs v (fun w => w < 8 ∧ ∃ l ∈ x.2, l.1 ≠ 2 ∧ gm_ix l.2.1 = nI w) → Q v) : ∀ (m j : Nat) (v : Int32), j + m = x.2.length → bs v (fun w => w < 8 ∧ ∃ i l, i < j ∧ x.2[i]? = some l ∧ l.1 ≠ 2 ∧ gm_ix l.2.1 = nI w) → hX7_keywords_4 N0 K d r v (nI j) M sz sl Q := by
  obtain ⟨h, b, fa, e1, e2, e3, e4, e5⟩ := hx
  intro m
  induction m with
  | zero =>
    intro j v hj hv
    refine TX7_keywords_4 ⟨_, e2, nI x.2.length, rfl, ?_⟩
    rw [if_pos (nI_le (by omega) (by omega))]
    refine q v (hv.iff (fun w => ⟨fun z => ?_, fun z => ?_⟩))
    · obtain ⟨z1, i, l, _, z3, z4⟩ := z
      exact ⟨z1, l, List.mem_of_getElem? z3, z4⟩
    · obtain ⟨z1, l, hl, z4⟩ := z
      obtain ⟨i, hi, el⟩ := List.getElem_of_mem hl
      exact ⟨z1, i, l, by omega, by rw [List.getElem?_eq_getElem hi, el], z4⟩
  | succ m ih =>
    intro j v hj hv
    have hj' : j < x.2.length := by omega
    refine TX7_keywords_4 ⟨_, e2, nI x.2.length, rfl, ?_⟩
    rw [if_neg (nI_ge (by omega) (by omega)), nI_1]
    obtain ⟨a, f1, f2⟩ := e5 j x.2[j] (List.getElem?_eq_getElem hj')
    have hm : x.2[j] ∈ x.2 := List.getElem_mem hj'
    have hwl := hw.2.2 _ hm
    refine ⟨b, rfl, 5, fa, e3, by decide, j, rfl, by omega, a, f1, _, f2, lr x.2[j], rfl, ?_⟩
    have same : (∀ w, w < 8 → ¬ (x.2[j].1 ≠ 2 ∧ gm_ix x.2[j].2.1 = nI w)) → hX7_keywords_4 N0 K d r v (nI (j + 1)) M sz sl Q := by
      intro hno
      refine ih (j + 1) v (by omega) (hv.iff (fun w => ⟨fun z => ?_, fun z => ?_⟩))
      · obtain ⟨z1, i, l, z2, z3⟩ := z
        exact ⟨z1, i, l, by omega, z3⟩
      · obtain ⟨z1, i, l, z2, z3, z4⟩ := z
        refine ⟨z1, i, l, ?_, z3, z4⟩
        by_cases ei : i = j
        · subst ei
          rw [List.getElem?_eq_getElem hj'] at z3
          cases z3
          exact absurd z4 (hno w z1)
        · omega
    unfold lr
    by_cases h2 : x.2[j].1 = 2
    · rw [if_pos h2, if_pos (by decide)]
      exact same (fun w _ z => z.1 h2)
    · rw [if_neg h2]
      have hwa := (wfL_atom hwl h2).1
      have hwn := hwa.2.1
      rcases rn_cases hwa with ⟨k, g1, g2, g3⟩ | ⟨k, g1, g2, g3, g4, g5⟩
      · rw [g2, if_neg (nI_pos (by omega)), if_neg (by rw [show (8 : Int32) = nI 8 from rfl]; exact nI_ge (by omega) (by decide))]
        refine ih (j + 1) _ (by omega) ((hv.or (bs_one (k := k) (by omega))).iff (fun w => ⟨fun z => ?_, fun z => ?_⟩))
        · rcases z with ⟨z1, i, l, z2, z3⟩ | z
          · exact ⟨z1, i, l, by omega, z3⟩
          · subst z
            exact ⟨g1, j, x.2[j], by omega, List.getElem?_eq_getElem hj', h2, g3⟩
        · obtain ⟨z1, i, l, z2, z3, z4, z5⟩ := z
          by_cases ei : i = j
          · subst ei
            rw [List.getElem?_eq_getElem hj'] at z3
            cases z3
            rw [g3, nI_eq (by omega) (by omega)] at z5
            exact Or.inr z5.symm
          · exact Or.inl ⟨z1, i, l, by omega, z3, z4, z5⟩
      · rw [g4, if_neg (nI_pos (by omega)), if_pos (by rw [show (8 : Int32) = nI 8 from rfl]; exact nI_le (by omega) (by omega))]
        refine same (fun w hw z => ?_)
        rw [z.2] at g5
        exact nI_pos (by omega) g5
theorem gq_keywords {N0 : Nat} {K : Nat → Nat} {d r : Nat} {M : gm_H} {sz : Nat} {x : Rl} {Q : Int32 → gm_H → Nat → Nat → Prop} (hx : gRule M r x) (hw : wfR x) (q : ∀ v, bs v (fun w => w < 8 ∧ ∃ l ∈ x.2, l.1 ≠ 2 ∧ gm_ix l.2.1 = nI w) → Q v M sz 0) : gX7_keywords N0 K (d + 1) r M sz Q := gC.pure (gX7_keywords.of (TX7_keywords_0 (gs_kws_4 (Q := fun r => Q r M sz 0) hx hw q x.2.length 0 0 (by omega) (bs_0.iff (fun w => ⟨fun z => z.elim, fun z => by obtain ⟨_, i, l, z2, _⟩ := z; omega⟩)))))
/-- the rules' object in a heap -/
def gRules (M : gm_H) (q : Nat) (R : List Rl) (fa : Nat → Option Nat) : Prop := M q = some (.inr (8, qcell q R.length)) ∧ M (q + 1) = some (rarr fa) ∧ R.length ≤ 24 ∧ ∀ r x, R[r]? = some x → ∃ ad, fa r = some ad ∧ gRule M ad x
/-- the relation of a rule's head -/
def hd (R : List Rl) (k : Nat) : Nat := match R[k]? with
  | some x => lk x.1
  | none => 0
theorem hd_get {R : List Rl} {k : Nat} {x : Rl} (h : R[k]? = some x) : hd R k = lk x.1 := by
  unfold hd
  rw [h]
/-- the rule k has a head of rule j in its body -/
def asksR (R : List Rl) (k j : Nat) : Prop := j < R.length ∧ ∃ x, R[k]? = some x ∧ ∃ l ∈ x.2, l.1 ≠ 2 ∧ lk l = hd R j
theorem gs_heads_4 {N0 : Nat} {K : Nat → Nat} {d q k p : Nat} {M : gm_H} {sz sl : Nat} {R : List Rl} {fa : Nat → Option Nat} {x : Rl} {Q : Int32 → gm_H → Nat → Nat → Prop} (hR : gRules M q R fa) (hw : ∀ x ∈ R, wfR x) (hk : R[k]? = some x) (hp : gRule M p x) (qq : ∀ v, bs v (asksR R k) → Q v M sz sl) : ∀ (m j : Nat) (v : Int32), j + m = R.length → bs v (fun i => i < j ∧ asksR R k i) → hX8_headsIn_4 N0 K (d + 1) q p v (nI j) M sz sl Q := by
  obtain ⟨h1, h2, h3, h4⟩ := hR
  obtain ⟨ph, pb, pf, p1, p2, p3⟩ := hp
  intro m
  induction m with
  | zero =>
    intro j v hj hv
    refine TX8_headsIn_4 ⟨_, h1, nI R.length, rfl, ?_⟩
    rw [if_pos (nI_le (by omega) (by omega))]
    exact qq v (hv.iff (fun i => ⟨fun z => z.2, fun z => ⟨by have := z.1; omega, z⟩⟩))
  | succ m ih =>
    intro j v hj hv
    have hj' : j < R.length := by omega
    have hx : R[j]? = some R[j] := List.getElem?_eq_getElem hj'
    refine TX8_headsIn_4 ⟨_, h1, nI R.length, rfl, ?_⟩
    rw [if_neg (nI_ge (by omega) (by omega)), nI_1]
    obtain ⟨ad, a1, ah, ab, af, a2, a3, a4⟩ := h4 j _ hx
    obtain ⟨w1, w2, w3⟩ := wfR_head (hw _ (List.getElem_mem hj'))
    refine ⟨q + 1, rfl, 24, fa, h2, by decide, j, rfl, by omega, ad, a1, _, a3, ah, rfl, _, a2, rn R[j].1.2.1 R[j].1.2.2.length, ?_, _, p2, ?_⟩
    · rw [lcell_rel, lr_head w3]
    · have e : ∀ z : Prop, (∃ l ∈ x.2, l.1 ≠ 2 ∧ lk l = lk R[j].1) ↔ asksR R k j := by
        intro _
        constructor
        · intro z
          refine ⟨hj', x, hk, ?_⟩
          rw [hd_get hx]
          exact z
        · intro z
          obtain ⟨_, y, hy, z⟩ := z
          rw [hk] at hy
          cases hy
          rw [hd_get hx] at z
          exact z
      refine gq_asks ⟨ph, pb, pf, p1, p2, p3⟩ (hw x (List.mem_of_getElem? hk)) w1 w3 (fun z => ?_) (fun z => ?_)
      · rw [if_neg (by decide)]
        refine ih (j + 1) _ (by omega) ((hv.or (bs_one (k := j) (by omega))).iff (fun i => ⟨fun y => ?_, fun y => ?_⟩))
        · rcases y with y | y
          · exact ⟨by omega, y.2⟩
          · subst y
            exact ⟨by omega, (e True).mp z⟩
        · by_cases ei : i = j
          · exact Or.inr ei
          · exact Or.inl ⟨by omega, y.2⟩
      · rw [if_pos rfl]
        refine ih (j + 1) _ (by omega) (hv.iff (fun i => ⟨fun y => ⟨by omega, y.2⟩, fun y => ⟨?_, y.2⟩⟩))
        by_cases ei : i = j
        · subst ei
          exact absurd ((e True).mpr y.2) z
        · omega
theorem gq_headsIn {N0 : Nat} {K : Nat → Nat} {d q k p : Nat} {M : gm_H} {sz : Nat} {R : List Rl} {fa : Nat → Option Nat} {x : Rl} {Q : Int32 → gm_H → Nat → Nat → Prop} (hR : gRules M q R fa) (hw : ∀ x ∈ R, wfR x) (hk : R[k]? = some x) (hp : gRule M p x) (qq : ∀ v, bs v (asksR R k) → Q v M sz 0) : gX8_headsIn N0 K (d + 2) q p M sz Q := gX8_headsIn.of (TX8_headsIn_0 (gs_heads_4 hR hw hk hp qq R.length 0 0 (by omega) (bs_0.iff (fun w => ⟨fun z => z.elim, fun z => by omega⟩))))
