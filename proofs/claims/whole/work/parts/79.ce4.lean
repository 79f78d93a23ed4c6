/-! the reference: moves, ends, goals; rows are found -/
/-- of any terms there is a sorted row -/
theorem ex_row : ∀ (l : List Tm), (∀ t ∈ l, gT t) → ∃ T, okT T ∧ (∀ x, x ∈ T ↔ x ∈ l) ∧ T.length ≤ l.length := by
  intro l
  induction l with
  | nil => intro _; exact ⟨[], ⟨List.Pairwise.nil, fun t h => absurd h (by simp)⟩, fun x => Iff.rfl, Nat.le_refl _⟩
  | cons t l ih =>
    intro h
    obtain ⟨T, a, b, c⟩ := ih (fun x hx => h x (List.mem_cons_of_mem _ hx))
    have ht := h t (by simp)
    by_cases hin : t ∈ T
    · refine ⟨T, a, fun x => ?_, by simp only [List.length_cons]; omega⟩
      rw [b x, List.mem_cons]
      exact ⟨Or.inr, fun z => z.elim (fun e => by rw [e]; exact (b t).mp hin) id⟩
    · -- the place: how many are smaller
      have key : ∀ n, n ≤ T.length → (∀ (i : Nat) x, i < n → T[i]? = some x → tE x < tE t) → ∃ p, p ≤ T.length ∧ (∀ (i : Nat) x, i < p → T[i]? = some x → tE x < tE t) ∧ (∀ (i : Nat) x, p ≤ i → T[i]? = some x → tE t < tE x) := by
        have : ∀ m n, n + m = T.length → (∀ (i : Nat) x, i < n → T[i]? = some x → tE x < tE t) → ∃ p, p ≤ T.length ∧ (∀ (i : Nat) x, i < p → T[i]? = some x → tE x < tE t) ∧ (∀ (i : Nat) x, p ≤ i → T[i]? = some x → tE t < tE x) := by
          intro m
          induction m with
          | zero =>
            intro n hn h1
            exact ⟨n, by omega, h1, fun i x hi hx => by have := (List.getElem?_eq_some_iff.mp hx).1; omega⟩
          | succ m ihm =>
            intro n hn h1
            have hx : T[n]? = some (T[n]'(by omega)) := List.getElem?_eq_getElem (by omega)
            by_cases hlt : tE (T[n]'(by omega)) < tE t
            · refine ihm (n + 1) (by omega) (fun i x hi hxi => ?_)
              by_cases e : i = n
              · subst e
                rw [hx] at hxi
                rw [← Option.some.inj hxi]
                exact hlt
              · exact h1 i x (by omega) hxi
            · refine ⟨n, by omega, h1, fun i x hi hxi => ?_⟩
              have hne : tE (T[n]'(by omega)) ≠ tE t := by
                intro e
                have := tE_inj (a.2 _ (List.mem_of_getElem? hx)).1 ht.1 e
                rw [← this] at hin
                exact hin (List.mem_of_getElem? hx)
              by_cases e : i = n
              · subst e
                rw [hx] at hxi
                rw [← Option.some.inj hxi]
                omega
              · have := a.1.get hx hxi (by omega)
                omega
        intro n hn h1
        exact this (T.length - n) n (by omega) h1
      obtain ⟨p, p1, p2, p3⟩ := key 0 (by omega) (fun i x hi => by omega)
      obtain ⟨b1, b2, b3, _⟩ := ins_at a ht p1 p2 p3
      refine ⟨_, b1, fun x => ?_, by simp only [List.length_cons]; omega⟩
      rw [b2 x, b x, List.mem_cons]
theorem ex_row2 {L : List Fct} (hL : ∀ f ∈ L, wfF f) (k : Nat) (P : List Tm) (i : Nat) : ∃ T, okT T ∧ ∀ x, x ∈ T ↔ ∃ r, P[i]? = some r ∧ ((k, [r, x]) : Fct) ∈ L := by
  obtain ⟨T, a, b, _⟩ := ex_row (L.filterMap (fun f : Fct => if f.1 = k ∧ f.2.length = 2 ∧ f.2[0]? = P[i]? then f.2[1]? else none)) (fun t ht => by
    obtain ⟨f, hf, e⟩ := List.mem_filterMap.mp ht
    by_cases h : f.1 = k ∧ f.2.length = 2 ∧ f.2[0]? = P[i]?
    · rw [if_pos h] at e
      exact (hL f hf).2.2 t (List.mem_of_getElem? e)
    · rw [if_neg h] at e
      cases e)
  refine ⟨T, a, fun x => (b x).trans ?_⟩
  rw [List.mem_filterMap]
  constructor
  · rintro ⟨f, hf, e⟩
    by_cases h : f.1 = k ∧ f.2.length = 2 ∧ f.2[0]? = P[i]?
    · rw [if_pos h] at e
      obtain ⟨f1, f2⟩ := f
      obtain ⟨h1, h2, h3⟩ := h
      simp only at h1 h2 h3 e
      subst h1
      match f2, h2, h3, e, hf with
      | [y, z], _, h3, e, hf =>
        simp only [List.getElem?_cons_zero, List.getElem?_cons_succ, Option.some.injEq] at h3 e
        exact ⟨y, h3.symm, by rw [← e]; exact hf⟩
    · rw [if_neg h] at e
      cases e
  · rintro ⟨r, hr, hm⟩
    exact ⟨_, hm, by rw [if_pos ⟨rfl, rfl, by rw [hr]; rfl⟩]; rfl⟩
theorem rq_isEnd {d : Nat} {L : List Fct} {s : mS} {Q : Int32 → Prop} (hL : rFacts s L) (q1 : aEn L → Q 1) (q0 : ¬ aEn L → Q 0) : q_isEnd (d + 2) s Q := by
  refine q_isEnd.of (T_isEnd_0 ?_)
  refine rq_holds (d := d) (F := (276, [])) hL ⟨by show (276 : Nat) < 512; decide, rfl, fun t h => absurd h (by simp)⟩ (fun z => ⟨Or.inr rfl, rfl, q1 z⟩) (fun z => ⟨Or.inl rfl, rfl, q0 z⟩)
theorem rq_legal {d i : Nat} {P : List Tm} {r : Tm} {L : List Fct} {s : mS} {Q : Unit → mS → Prop} (hL : rFacts s L) (hnd : L.Nodup) (hP : rT s 35 0 P) (hi : P[i]? = some r) (hl : P.length ≤ 24) (hg : gT r) (q : ∀ s', cfw s s' → rT s' 37 0 (aMv L P i) → s'.1 38 = nI (aMv L P i).length → mvOk L P i → Q () s') : m_legal (d + 2) (nI i) s Q := by
  have hil := (List.getElem?_eq_some_iff.mp hi).1
  refine m_legal.of (T_legal_0 ⟨i, rfl, by omega, ?_⟩)
  have e := hP i r hi
  rw [Nat.zero_add] at e
  rw [e]
  refine rq_coll2 (k := 306) (d := d) hL hnd (by decide) (by decide) hg (fun s' T a b c e f g => ?_)
  have hm : ∀ x, x ∈ T ↔ ∃ r, P[i]? = some r ∧ ((306, [r, x]) : Fct) ∈ L := by
    intro x
    rw [g x, hi]
    exact ⟨fun z => ⟨r, rfl, z⟩, fun ⟨r', z, z2⟩ => by cases z; exact z2⟩
  have eT : aMv L P i = T := rowS_eq e hm
  refine q s' a (by rw [eT]; exact b) (by rw [eT]; exact c) ?_
  unfold mvOk
  rw [eT]
  exact ⟨e, f, hm⟩
theorem rq_goalOf {d i : Nat} {P : List Tm} {r : Tm} {L : List Fct} {s : mS} {Q : Int32 → mS → Prop} (hL : rFacts s L) (hnd : L.Nodup) (hP : rT s 35 0 P) (hi : P[i]? = some r) (hl : P.length ≤ 24) (hg : gT r) (q : ∀ s', cfw s s' → Q (goalV (aGs L P i)) s') : m_goalOf (d + 2) (nI i) s Q := by
  have hil := (List.getElem?_eq_some_iff.mp hi).1
  refine m_goalOf.of (T_goalOf_0 ⟨i, rfl, by omega, ?_⟩)
  have e := hP i r hi
  rw [Nat.zero_add] at e
  rw [e]
  refine rq_coll2 (k := 286) (d := d) hL hnd (by decide) (by decide) hg (fun s' T a b c e f g => ?_)
  have hm : ∀ x, x ∈ T ↔ ∃ r, P[i]? = some r ∧ ((286, [r, x]) : Fct) ∈ L := by
    intro x
    rw [g x, hi]
    exact ⟨fun z => ⟨r, rfl, z⟩, fun ⟨r', z, z2⟩ => by cases z; exact z2⟩
  have eT : aGs L P i = T := rowS_eq e hm
  have qq := q s' a
  rw [eT] at qq
  rw [c]
  match T, e, b, qq with
  | [], _, _, qq => rw [if_neg (by decide)]; exact qq
  | [t], e, b, qq =>
    rw [if_pos (by rfl)]
    have ht := e.2 t (by simp)
    have hb := b 0 t rfl
    rw [Nat.add_zero] at hb
    rw [hb]
    have htl := (tL_lt ht.1).1
    refine rq_isConstant (d := d) ht.1 (fun hz => ?_) (fun hz => ?_)
    · rw [if_neg (by decide)]
      refine rq_letterOf (d := d) (k := 0) htl (by decide) ?_
      rw [if_pos (by decide : (0 : Nat) < 8)]
      obtain ⟨p1, p2, p3, p4, p5⟩ := ht.1.par
      have e4 := p4 hz
      have c128 := (chP_cn p3).2.1
      have hc : tL t / 2 ^ (56 - 8 * 0) % 256 = cn (tTop t) := by
        rw [e4, tL_k]
        show cn (tTop t) * 2 ^ 56 / 2 ^ 56 % 256 = cn (tTop t)
        rw [Nat.mul_div_cancel _ (by decide)]
        omega
      rw [hc]
      have et : tTop t = ps_hc t.2 := if_pos hz
      rw [et] at c128 ⊢
      have key : ∀ m, m < 128 → (if 48 ≤ m ∧ m ≤ 56 then nI (m - 48) else -1) = (if nI m - (48 : Int32) < 0 then (-1 : Int32) else if (9 : Int32) ≤ nI m - (48 : Int32) then (-1 : Int32) else nI m - (48 : Int32)) := by decide +kernel
      have qv : goalV [t] = (if 48 ≤ cn (ps_hc t.2) ∧ cn (ps_hc t.2) ≤ 56 then nI (cn (ps_hc t.2) - 48) else -1) := by
        show (if t.1 = 0 ∧ 48 ≤ cn (ps_hc t.2) ∧ cn (ps_hc t.2) ≤ 56 then nI (cn (ps_hc t.2) - 48) else -1) = _
        by_cases h2 : 48 ≤ cn (ps_hc t.2) ∧ cn (ps_hc t.2) ≤ 56
        · rw [if_pos ⟨hz, h2⟩, if_pos h2]
        · rw [if_neg (fun z => h2 z.2), if_neg h2]
      rw [qv, key _ c128] at qq
      split
      · rename_i h1
        rw [if_pos h1] at qq
        exact qq
      · rename_i h1
        rw [if_neg h1] at qq
        split
        · rename_i h2
          rw [if_pos h2] at qq
          exact qq
        · rename_i h2
          rw [if_neg h2] at qq
          exact qq
    · rw [if_pos rfl]
      have qv : goalV [t] = -1 := if_neg (fun z => hz z.1)
      rw [qv] at qq
      exact qq
  | a :: b' :: l, e, b, qq =>
    rw [if_neg (by
      intro z
      have : nI (a :: b' :: l).length = nI 1 := z
      rw [nI_eq (by simp only [List.length_cons] at f ⊢; omega) (by decide)] at this
      simp only [List.length_cons] at this
      omega)]
    exact qq
/-- the game begins anew -/
def bfw (s s' : mS) : Prop := (∀ i, i ≠ 24 → i ≠ 30 → s'.1 i = s.1 i) ∧ s'.2.1 = s.2.1 ∧ ∀ i, i ≠ 29 → s'.2.2 i = s.2.2 i
theorem bfw.trans {s s' s'' : mS} (h : bfw s s') (g : bfw s' s'') : bfw s s'' := ⟨fun i a b => (g.1 i a b).trans (h.1 i a b), g.2.1.trans h.2.1, fun i a => (g.2.2 i a).trans (h.2.2 i a)⟩
theorem rs_begin10 {d : Nat} {T : List Tm} {s0 : mS} {Q : Unit → mS → Prop} (hT : rT s0 31 0 T) (h32 : s0.1 32 = nI T.length) (hl : T.length ≤ 24) (q : ∀ s', bfw s0 s' → rT s' 29 0 T → s'.1 24 = 0 → s'.1 30 = s0.1 30 → Q () s') : ∀ (m k : Nat) (s : mS), k + m = T.length → bfw s0 s → s.1 30 = s0.1 30 → (∀ (i : Nat) t, i < k → T[i]? = some t → s.2.2 29 i = lN (tL t)) → h_begin_10 d (nI k) s Q := by
  intro m
  induction m with
  | zero =>
    intro k s hk hf h30 hv
    refine T_begin_10 ?_
    rw [hf.1 32 (by decide) (by decide), h32, if_pos (nI_le (by omega) (by omega))]
    refine q _ (hf.trans ⟨fun i a _ => if_neg a, rfl, fun _ _ => rfl⟩) (fun i t ht => ?_) rfl h30
    rw [Nat.zero_add]
    have := (List.getElem?_eq_some_iff.mp ht).1
    exact hv i t (by omega) ht
  | succ m ih =>
    intro k s hk hf h30 hv
    refine T_begin_10 ?_
    rw [hf.1 32 (by decide) (by decide), h32, if_neg (nI_ge (by omega) (by omega))]
    refine ⟨k, rfl, by omega, ?_⟩
    rw [nI_1]
    refine ih (k + 1) _ (by omega) (hf.trans ⟨fun _ _ _ => rfl, rfl, fun i hi => if_neg hi⟩) h30 (fun i t hi ht => ?_)
    show vp_updL (s.2.2 29) k (s.2.2 31 k) i = lN (tL t)
    by_cases e : i = k
    · subst e
      rw [vl_eq, hf.2.2 31 (by decide)]
      have := hT i t ht
      rw [Nat.zero_add] at this
      exact this
    · rw [vl_ne e]
      exact hv i t (by omega) ht
theorem rq_begin {d : Nat} {R : List Rl} {T : List Tm} {s : mS} {Q : Unit → mS → Prop} (hT : rT s 31 0 T) (h32 : s.1 32 = nI T.length) (hl : T.length ≤ 24) (q : ∀ s', bfw s s' → rNow R T s' → s'.1 24 = 0 → Q () s') : m_begin (d + 1) s Q := by
  have f0 : bfw s (mI s 30 (s.1 32)) := ⟨fun i _ b => if_neg b, rfl, fun _ _ => rfl⟩
  refine m_begin.of (T_begin_0 ?_)
  rw [← nI_0]
  exact rs_begin10 (s0 := mI s 30 (s.1 32)) hT h32 hl (fun s' a b c e => q s' (f0.trans a) ⟨⟨b, e.trans h32⟩, Or.inl c⟩ c) T.length 0 _ (by omega) ⟨fun _ _ _ => rfl, rfl, fun _ _ => rfl⟩ rfl (fun i t hi => by omega)
