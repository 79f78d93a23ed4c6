/-! the class: isDue, isRecursive -/
theorem cI_same {s : cS} {k : Nat} {v : Int32} (h : s.1 k = v) : cI s k v = s := by
  refine Prod.ext (funext (fun j => ?_)) rfl
  show (if j = k then v else s.1 j) = s.1 j
  by_cases e : j = k
  · rw [if_pos e, e, h]
  · rw [if_neg e]
theorem cK_cnt {s : cS} {L : List Fct} {l : Lt} (hL : cFacts s L) (hl : wfL l) (h2 : l.1 ≠ 2) : cK L (cr (lk l)) = cnt L (lk l) := by
  unfold cK cnt
  congr 1
  apply List.filter_congr
  intro f hf
  obtain ⟨i, hi, e⟩ := List.getElem_of_mem hf
  have hv := (hL.2.2.1 i f (by rw [List.getElem?_eq_getElem hi, e])).1.2
  by_cases h : f.1 = lk l
  · simp [h]
  · have : ¬ cr f.1 = cr (lk l) := fun z => h (cr_inj hv (cr_lk hl h2).1 z)
    show (cr f.1 == cr (lk l)) = (f.1 == lk l)
    rw [beq_eq_false_iff_ne.mpr this, beq_eq_false_iff_ne.mpr h]
theorem cs_due_57 {N0 : Nat} {K : Nat → Nat} {d C a : Nat} {G : gm_H} {sz sl : Nat} {x : Rl} {fl : Int32 → Bool} {s : cS} {L : List Fct} {Q : Int32 → cS → Prop} (hN : N0 ≤ C) (hp : pRule G C a x fl) (hw : wfR x) (hL : cFacts s L) (hb : s.1 130 = 0) (qz : wy L x = 0 → Q 0 s) (q1 : wy L x ≤ 100000 → 0 < wy L x → Q 1 s) (qx : 100000 < wy L x → Q 0 (cI s 130 1)) : ∀ (m j p : Nat), j + m = x.2.length → ((x.2.drop j).filter (fun l => l.1 == 0)).foldl (fun p l => p * cnt L (lk l)) p = wy L x → hX2_isDue_57 N0 K d C a (lN p) (nI j) s G sz sl Q := by
  obtain ⟨h, b, fa, v, kh, oh, ⟨ca, ch, cb⟩, ga, hflm, gh, gb, hbd⟩ := hp
  have h5 := hw.2.1
  have hlt := wy_lt hL.2.1 h5
  intro m
  induction m with
  | zero =>
    intro j p hj hf
    rw [List.drop_eq_nil_of_le (by omega)] at hf
    have ep : p = wy L x := hf
    subst ep
    refine TX2_isDue_57 hN ⟨_, ga, nI x.2.length, rfl, ca, ?_⟩
    rw [if_pos (nI_le (by omega) (by omega))]
    by_cases h1 : wy L x ≤ 100000
    · rw [if_pos ((wy_cmp hL.2.1 h5).mpr h1), cI_same hb]
      have hz : lg_cmp (lN (wy L x)) (0 : Int64) ≤ 0 ↔ wy L x ≤ 0 := by
        rw [lg_cmp_le, show (0 : Int64) = lN 0 from rfl, pk_lLE (by omega) (by decide)]
      by_cases h0 : wy L x = 0
      · rw [if_pos (hz.mpr (by omega))]
        exact qz h0
      · rw [if_neg (fun z => h0 (by have := hz.mp z; omega))]
        exact q1 h1 (by omega)
    · rw [if_neg (fun z => h1 ((wy_cmp hL.2.1 h5).mp z)), ite_self]
      exact qx (by omega)
  | succ m ih =>
    intro j p hj hf
    have hj' : j < x.2.length := by omega
    obtain ⟨pa, kn, on, b1, b2, b3, _⟩ := hbd j x.2[j] (List.getElem?_eq_getElem hj')
    have hwl := hw.2.2 _ (List.getElem_mem hj')
    refine TX2_isDue_57 hN ⟨_, ga, nI x.2.length, rfl, ca, ?_⟩
    rw [if_neg (nI_ge (by omega) (by omega))]
    refine ⟨b, rfl, j, rfl, 5, fa, gb, by decide, cb, by omega, pa, b1, _, b3, x.2[j].1, rfl, b2, ?_⟩
    rw [List.drop_eq_getElem_cons hj'] at hf
    by_cases hk : x.2[j].1 = 0
    · have k2 : x.2[j].1 ≠ 2 := by rw [hk]; decide
      rw [if_pos hk]
      refine ⟨pa, b1, _, b3, lr x.2[j], rfl, b2, cr (lk x.2[j]), lr_cr hwl k2, (vr_cr (cr_lk hwl k2).1).1, ?_⟩
      have hc : cnt L (lk x.2[j]) ≤ 200 := Nat.le_trans (List.length_filter_le _ _) hL.2.1
      rw [(hL.2.2.2.1 _ (vr_cr (cr_lk hwl k2).1).1).2, cK_cnt hL hwl k2, nI_l (by omega), lN_mul, nI_1]
      refine ih (j + 1) _ (by omega) ?_
      rw [List.filter_cons_of_pos (by simp [hk]), List.foldl_cons] at hf
      exact hf
    · rw [if_neg hk, nI_1]
      refine ih (j + 1) _ (by omega) ?_
      rw [List.filter_cons_of_neg (by simp [hk])] at hf
      exact hf
/-- the step's literal must hold, and there is a fact from low on that it may be -/
def isNew (x : Rl) (L : List Fct) (low k : Nat) : Prop := ∃ l, x.2[k]? = some l ∧ l.1 = 0 ∧ ∃ (i : Nat) (f : Fct), low ≤ i + 1 ∧ L[i]? = some f ∧ f.1 = lk l
theorem cq_due0 {N0 : Nat} {K : Nat → Nat} {d C a : Nat} {G : gm_H} {sz : Nat} {x : Rl} {fl : Int32 → Bool} {s : cS} {L : List Fct} {Q : Int32 → cS → Prop} (hN : N0 ≤ C) (hp : pRule G C a x fl) (hw : wfR x) (hL : cFacts s L) (qb : s.1 130 ≠ 0 → Q 0 s) (qz : s.1 130 = 0 → wy L x = 0 → Q 0 s) (q1 : s.1 130 = 0 → wy L x ≤ 100000 → 0 < wy L x → Q 1 s) (qx : s.1 130 = 0 → 100000 < wy L x → Q 0 (cI s 130 1)) : kX2_isDue N0 K (d + 1) C a (-1) s G sz Q := by
  refine kX2_isDue.of (TX2_isDue_0 hN ?_)
  by_cases hb : s.1 130 = 0
  · rw [if_pos hb, if_pos rfl]
    exact cs_due_57 hN hp hw hL hb (qz hb) (q1 hb) (qx hb) x.2.length 0 1 (by omega) rfl
  · rw [if_neg hb]
    exact qb hb
theorem cq_due {N0 : Nat} {K : Nat → Nat} {d C a k low : Nat} {G : gm_H} {sz : Nat} {x : Rl} {fl : Int32 → Bool} {s : cS} {L : List Fct} {Q : Int32 → cS → Prop} (hN : N0 ≤ C) (hp : pRule G C a x fl) (hw : wfR x) (hL : cFacts s L) (hk : k < x.2.length) (hlow : s.1 106 = nI low) (hl1 : 1 ≤ low) (hl2 : low ≤ 201) (qb : s.1 130 ≠ 0 → Q 0 s) (qn : s.1 130 = 0 → ¬ isNew x L low k → Q 0 s) (qz : s.1 130 = 0 → isNew x L low k → wy L x = 0 → Q 0 s) (q1 : s.1 130 = 0 → isNew x L low k → wy L x ≤ 100000 → 0 < wy L x → Q 1 s) (qx : s.1 130 = 0 → 100000 < wy L x → Q 0 (cI s 130 1)) : kX2_isDue N0 K (d + 1) C a (nI k) s G sz Q := by
  have h5 := hw.2.1
  obtain ⟨h, b, fa, v, kh, oh, ⟨ca, ch, cb⟩, ga, hflm, gh, gb, hbd⟩ := id hp
  have hl : x.2[k]? = some x.2[k] := List.getElem?_eq_getElem hk
  obtain ⟨pa, kn, on, b1, b2, b3, _⟩ := hbd k x.2[k] hl
  have hwl := hw.2.2 _ (List.getElem_mem hk)
  refine kX2_isDue.of (TX2_isDue_0 hN ?_)
  by_cases hb : s.1 130 = 0
  · rw [if_pos hb, if_neg (fun z => by
      have : nI k < 0 := by rw [z]; decide
      exact nI_pos (n := k) (by omega) this)]
    refine ⟨_, ga, b, rfl, ca, k, rfl, 5, fa, gb, by decide, cb, by omega, pa, b1, _, b3, x.2[k].1, rfl, b2, ?_⟩
    by_cases k0 : x.2[k].1 = 0
    · have k2 : x.2[k].1 ≠ 2 := by rw [k0]; decide
      have hcr := (vr_cr (cr_lk hwl k2).1).1
      rw [if_pos k0]
      refine ⟨lr x.2[k], rfl, cr (lk x.2[k]), lr_cr hwl k2, hcr, ?_⟩
      have hle := lst_le (pR L (cr (lk x.2[k]))) L.length
      have h200 := hL.2.1
      rw [(hL.2.2.2.1 _ hcr).1, hlow]
      by_cases hnw : low ≤ lst (pR L (cr (lk x.2[k]))) L.length
      · rw [if_pos (nI_le hnw (by omega))]
        have hN' : isNew x L low k := by
          cases ev : lst (pR L (cr (lk x.2[k]))) L.length with
          | zero => omega
          | succ j =>
            obtain ⟨j1, j2, _⟩ := lst_s ev
            have hj := List.getElem?_eq_getElem j1
            rw [pR_get hj] at j2
            have hv := (hL.2.2.1 j _ hj).1.2
            exact ⟨_, hl, k0, j, _, by omega, hj, cr_inj hv (cr_lk hwl k2).1 (by simpa using j2)⟩
        exact cs_due_57 hN hp hw hL hb (qz hb hN') (q1 hb hN') (qx hb) x.2.length 0 1 (by omega) rfl
      · rw [if_neg (nI_ge (by omega) (by omega))]
        refine qn hb (fun z => ?_)
        obtain ⟨l, y1, _, i, f, y2, y3, y4⟩ := z
        rw [hl] at y1
        cases y1
        have hi := (List.getElem?_eq_some_iff.mp y3).1
        have hpr : pR L (cr (lk x.2[k])) i = true := by rw [pR_get y3, y4]; simp
        cases ev : lst (pR L (cr (lk x.2[k]))) L.length with
        | zero =>
          have := lst_0 ev i hi
          rw [hpr] at this
          cases this
        | succ j =>
          have := (lst_s ev).2.2 i (by omega) hi
          rw [hpr] at this
          cases this
    · rw [if_neg k0]
      refine qn hb (fun z => ?_)
      obtain ⟨l, y1, y2, _⟩ := z
      rw [hl] at y1
      cases y1
      exact k0 y2
  · rw [if_neg hb]
    exact qb hb
theorem kq_isRecursive {N0 : Nat} {K : Nat → Nat} {d C z k : Nat} {o t g : Nat} {v : Int32} {s : cS} {G : gm_H} {sz : Nat} {S : Nat → Prop} {Q : Int32 → Prop} (hz : C + 34 ≤ z) (hG : G z = some (.inr (4, [.ref o, .ref t, .ref g, .int v]))) (hv : bs v S) (hk : k < 24) (q1 : S k → Q 1) (q0 : ¬ S k → Q 0) : kX4_isRecursive N0 K (d + 1) C z (nI k) s G sz Q := by
  refine gC.kpure (gX4_isRecursive.of (TX4_isRecursive_0 ⟨_, cG_get hz hG, v, rfl, ?_⟩))
  by_cases h : S k
  · rw [if_neg (fun y => (hv.test hk).mp y h)]
    exact q1 h
  · rw [if_pos ((hv.test hk).mpr h)]
    exact q0 h
