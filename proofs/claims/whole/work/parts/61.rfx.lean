/-! the reference: facts; holds, add, ways, held -/
/-- a ground fact -/
def wfF (f : Fct) : Prop := f.1 < 512 ∧ f.2.length = f.1 % 4 ∧ ∀ t ∈ f.2, gT t
theorem wfF.len {f : Fct} (h : wfF f) : f.2.length ≤ 3 := by
  have := h.2.1
  omega
theorem wfF.wf {f : Fct} (h : wfF f) : ∀ t ∈ f.2, wfT t := fun t ht => (h.2.2 t ht).1
/-- the facts in their rows -/
def rFacts (s : mS) (L : List Fct) : Prop := s.1 20 = nI L.length ∧ L.length ≤ 200 ∧ ∀ (i : Nat) f, L[i]? = some f → wfF f ∧ s.2.1 21 i = nI f.1 ∧ s.2.2 22 (3 * i) = tl f.2 0 ∧ s.2.2 22 (3 * i + 1) = tl f.2 1 ∧ s.2.2 22 (3 * i + 2) = tl f.2 2
theorem rs_holds_3 {d : Nat} {s : mS} {L : List Fct} {F : Fct} {Q : Int32 → mS → Prop} (hL : rFacts s L) (hF : wfF F) (q1 : F ∈ L → Q 1 s) (q0 : ¬ F ∈ L → Q 0 s) : ∀ (m i : Nat), i + m = L.length → (∀ j f, j < i → L[j]? = some f → f ≠ F) → h_holds_3 d (nI F.1) (tl F.2 0) (tl F.2 1) (tl F.2 2) (nI i) s Q := by
  obtain ⟨h1, h2, h3⟩ := hL
  have hF1 := hF.1
  intro m
  induction m with
  | zero =>
    intro i hi hno
    refine T_holds_3 ?_
    rw [h1, if_pos (nI_le (by omega) (by omega))]
    refine q0 (fun z => ?_)
    obtain ⟨j, hj, e⟩ := List.getElem_of_mem z
    exact hno j F (by omega) (by rw [List.getElem?_eq_getElem hj, e]) rfl
  | succ m ih =>
    intro i hi hno
    have hi' : i < L.length := by omega
    obtain ⟨w, b1, b2, b3, b4⟩ := h3 i _ (List.getElem?_eq_getElem hi')
    have w1 := w.1
    have next : L[i] ≠ F → h_holds_3 d (nI F.1) (tl F.2 0) (tl F.2 1) (tl F.2 2) (nI i + 1) s Q := by
      intro hne
      rw [nI_1]
      refine ih (i + 1) (by omega) (fun j f hj hf => ?_)
      by_cases e : j = i
      · subst e
        rw [List.getElem?_eq_getElem hi'] at hf
        cases hf
        exact hne
      · exact hno j f (by omega) hf
    refine T_holds_3 ?_
    rw [h1, if_neg (nI_ge (by omega) (by omega))]
    refine ⟨i, rfl, by omega, ?_⟩
    rw [b1]
    by_cases c0 : L[i].1 = F.1
    · rw [if_pos (by rw [c0])]
      refine ⟨3 * i, by rw [n_3, nI_mul], by omega, ?_⟩
      rw [b2]
      by_cases c1 : tl L[i].2 0 = tl F.2 0
      · rw [if_pos ((lg_eq _ _).mpr c1)]
        refine ⟨3 * i + 1, by rw [n_3, nI_mul, nI_1], by omega, ?_⟩
        rw [b3]
        by_cases c2 : tl L[i].2 1 = tl F.2 1
        · rw [if_pos ((lg_eq _ _).mpr c2)]
          refine ⟨3 * i + 2, by rw [n_3, n_2, nI_mul, nI_add], by omega, ?_⟩
          rw [b4]
          by_cases c3 : tl L[i].2 2 = tl F.2 2
          · rw [if_pos ((lg_eq _ _).mpr c3)]
            have e : L[i] = F := Prod.ext c0 (tl_inj w.wf hF.wf (by rw [w.2.1, hF.2.1, c0]) w.len c1 c2 c3)
            refine q1 ?_
            rw [← e]
            exact List.getElem_mem hi'
          · rw [if_neg (fun z => c3 ((lg_eq _ _).mp z))]
            exact next (fun e => c3 (by rw [e]))
        · rw [if_neg (fun z => c2 ((lg_eq _ _).mp z))]
          exact next (fun e => c2 (by rw [e]))
      · rw [if_neg (fun z => c1 ((lg_eq _ _).mp z))]
        exact next (fun e => c1 (by rw [e]))
    · rw [if_neg (fun z => c0 ((nI_eq (by omega) (by omega)).mp z))]
      exact next (fun e => c0 (by rw [e]))
theorem rq_holds {d : Nat} {s : mS} {L : List Fct} {F : Fct} {Q : Int32 → Prop} (hL : rFacts s L) (hF : wfF F) (q1 : F ∈ L → Q 1) (q0 : ¬ F ∈ L → Q 0) : q_holds (d + 1) (nI F.1) (tl F.2 0) (tl F.2 1) (tl F.2 2) s Q := q_holds.of (T_holds_0 (rs_holds_3 hL hF (fun z => ⟨rfl, q1 z⟩) (fun z => ⟨rfl, q0 z⟩) L.length 0 (by omega) (fun j f hj => absurd hj (by omega))))
/-- all as it was but the facts -/
def ff (s s' : mS) : Prop := (∀ i, i ≠ 20 → s'.1 i = s.1 i) ∧ (∀ i, i ≠ 21 → s'.2.1 i = s.2.1 i) ∧ (∀ i, i ≠ 22 → s'.2.2 i = s.2.2 i)
theorem vl_eq {f : Nat → Int64} {k : Nat} {v : Int64} : vp_updL f k v k = v := if_pos rfl
theorem vl_ne {f : Nat → Int64} {k j : Nat} {v : Int64} (h : j ≠ k) : vp_updL f k v j = f j := if_neg h
theorem rq_add {d : Nat} {s : mS} {L : List Fct} {F : Fct} {Q : Unit → mS → Prop} (hL : rFacts s L) (hF : wfF F) (hb : s.1 23 = 0 ∨ s.1 23 = 1) (q0 : s.1 23 = 1 → Q () s) (q1 : s.1 23 = 0 → F ∈ L → Q () s) (q2 : s.1 23 = 0 → ¬ F ∈ L → L.length = 200 → Q () (mI s 23 1)) (q3 : ∀ s', s.1 23 = 0 → ¬ F ∈ L → L.length < 200 → ff s s' → rFacts s' (L ++ [F]) → Q () s') : m_add (d + 2) (nI F.1) (tl F.2 0) (tl F.2 1) (tl F.2 2) s Q := by
  refine m_add.of (T_add_0 ?_)
  rcases hb with hb | hb
  · rw [if_pos hb]
    refine rq_holds hL hF (fun z => ?_) (fun z => ?_)
    · rw [if_neg (by decide)]
      exact q1 hb z
    · obtain ⟨h1, h2, h3⟩ := hL
      rw [if_pos rfl]
      by_cases h200 : L.length = 200
      · rw [if_pos (by rw [h1, h200]; rfl)]
        exact q2 hb z h200
      · have hlt : L.length < 200 := by omega
        rw [if_neg (by rw [h1, show (200 : Int32) = nI 200 from rfl, nI_eq (by omega) (by decide)]; exact h200)]
        refine ⟨L.length, h1, by omega, 3 * L.length, by rw [h1, n_3, nI_mul], by omega, 3 * L.length + 1, by rw [h1, n_3, nI_mul, nI_1], by omega, 3 * L.length + 2, by rw [h1, n_3, n_2, nI_mul, nI_add], by omega, ?_⟩
        refine q3 _ hb z hlt ⟨fun i hi => if_neg hi, fun i hi => if_neg hi, fun i hi => ?_⟩ ⟨?_, ?_, ?_⟩
        · show (if i = 22 then _ else if i = 22 then _ else if i = 22 then _ else s.2.2 i) = s.2.2 i
          rw [if_neg hi, if_neg hi, if_neg hi]
        · show s.1 20 + 1 = _
          rw [h1, nI_1]
          simp
        · simp only [List.length_append, List.length_cons, List.length_nil]
          omega
        · intro i f hf
          show wfF f ∧ upd (s.2.1 21) L.length (nI F.1) i = _ ∧ vp_updL (vp_updL (vp_updL (s.2.2 22) (3 * L.length) (tl F.2 0)) (3 * L.length + 1) (tl F.2 1)) (3 * L.length + 2) (tl F.2 2) (3 * i) = _ ∧ vp_updL (vp_updL (vp_updL (s.2.2 22) (3 * L.length) (tl F.2 0)) (3 * L.length + 1) (tl F.2 1)) (3 * L.length + 2) (tl F.2 2) (3 * i + 1) = _ ∧ vp_updL (vp_updL (vp_updL (s.2.2 22) (3 * L.length) (tl F.2 0)) (3 * L.length + 1) (tl F.2 1)) (3 * L.length + 2) (tl F.2 2) (3 * i + 2) = _
          by_cases hi : i < L.length
          · rw [List.getElem?_append_left hi] at hf
            obtain ⟨c1, c2, c3, c4, c5⟩ := h3 i f hf
            rw [upd_ne (by omega), vl_ne (by omega), vl_ne (by omega), vl_ne (by omega), vl_ne (by omega), vl_ne (by omega), vl_ne (by omega), vl_ne (by omega), vl_ne (by omega), vl_ne (by omega)]
            exact ⟨c1, c2, c3, c4, c5⟩
          · have := (List.getElem?_eq_some_iff.mp hf).1
            simp only [List.length_append, List.length_cons, List.length_nil] at this
            have ei : i = L.length := by omega
            subst ei
            simp at hf
            subst hf
            refine ⟨hF, upd_eq, ?_, ?_, ?_⟩
            · rw [vl_ne (by omega), vl_ne (by omega), vl_eq]
            · rw [vl_ne (by omega), vl_eq]
            · rw [vl_eq]
  · rw [if_neg (by rw [hb]; decide)]
    exact q0 hb
theorem rs_ways_32 {d r j : Nat} {s : mS} {L : List Fct} {y : Lt} {p : Nat} {Q : Int64 → mS → Prop} (hr : r < 24) (hj : j < 5) (hL : rFacts s L) (hy : rLit s.2.1 (6 * r + 1 + j) y) (hw : wfL y) (q : h_ways_10 d (nI r) (lN (if y.1 = 0 then p * cnt L (lk y) else p)) (nI (6 * r + 1 + (j + 1))) s Q) : ∀ (m i n : Nat), i + m = L.length → (y.1 = 0 → n = cnt (L.take i) (lk y)) → h_ways_32 d (nI r) (lN p) (nI (6 * r + 1 + j)) (lN n) (nI i) s Q := by
  obtain ⟨h1, h2, h3⟩ := hL
  intro m
  induction m with
  | zero =>
    intro i n hi hn
    refine T_ways_32 ?_
    rw [h1, if_pos (nI_le (by omega) (by omega))]
    refine ⟨6 * r + 1 + j, rfl, by omega, ?_⟩
    rw [hy.1, nI_1, show 6 * r + 1 + j + 1 = 6 * r + 1 + (j + 1) by omega]
    by_cases hk : y.1 = 0
    · rw [if_pos hk, lN_mul, hn hk, List.take_of_length_le (by omega)]
      rw [if_pos hk] at q
      exact q
    · rw [if_neg hk]
      rw [if_neg hk] at q
      exact q
  | succ m ih =>
    intro i n hi hn
    have hi' : i < L.length := by omega
    refine T_ways_32 ?_
    rw [h1, if_neg (nI_ge (by omega) (by omega))]
    refine ⟨6 * r + 1 + j, rfl, by omega, ?_⟩
    rw [hy.1, nI_1]
    by_cases hk : y.1 = 0
    · rw [if_pos hk]
      have hk2 : y.1 ≠ 2 := by rw [hk]; decide
      obtain ⟨g1, g2, _⟩ := hy.rel hw hk2
      obtain ⟨w, b1, _⟩ := h3 i _ (List.getElem?_eq_getElem hi')
      have w1 := w.1
      refine ⟨i, rfl, by omega, ?_⟩
      rw [b1, g1]
      have et : cnt (L.take (i + 1)) (lk y) = cnt (L.take i) (lk y) + (if L[i].1 = lk y then 1 else 0) := by
        unfold cnt
        rw [List.take_succ_eq_append_getElem hi', List.filter_append, List.length_append]
        by_cases z : L[i].1 = lk y
        · rw [if_pos z, List.filter_cons_of_pos (by simp [z])]
          simp
        · rw [if_neg z, List.filter_cons_of_neg (by simp [z])]
          simp
      by_cases z : L[i].1 = lk y
      · rw [if_pos (by rw [z]), lN_1]
        refine ih (i + 1) _ (by omega) (fun _ => ?_)
        rw [et, if_pos z, hn hk]
      · rw [if_neg (fun e => z ((nI_eq (by omega) (by omega)).mp e))]
        refine ih (i + 1) _ (by omega) (fun _ => ?_)
        rw [et, if_neg z, hn hk]
        rfl
    · rw [if_neg hk, nI_1, show 6 * r + 1 + j + 1 = 6 * r + 1 + (j + 1) by omega]
      rw [if_neg hk] at q
      exact q
theorem rs_ways_10 {d r : Nat} {s : mS} {L : List Fct} {x : Rl} {Q : Int64 → mS → Prop} (hr : r < 24) (hL : rFacts s L) (hx : rRule s.2.1 r x) (hw : wfR x) : ∀ (m j p : Nat), j + m = x.2.length → Q (lN (((x.2.drop j).filter (fun l => l.1 == 0)).foldl (fun p l => p * cnt L (lk l)) p)) s → h_ways_10 d (nI r) (lN p) (nI (6 * r + 1 + j)) s Q := by
  obtain ⟨b1, b2, b3, b4⟩ := hx
  intro m
  induction m with
  | zero =>
    intro j p hj q
    refine T_ways_10 ⟨r, rfl, hr, ?_⟩
    rw [b1, if_pos (by rw [n_6, nI_mul, nI_add]; exact nI_lt (by omega) (by omega))]
    rw [List.drop_eq_nil_of_le (by omega)] at q
    exact q
  | succ m ih =>
    intro j p hj q
    have hj' : j < x.2.length := by omega
    refine T_ways_10 ⟨r, rfl, hr, ?_⟩
    rw [b1, if_neg (by rw [n_6, nI_mul, nI_add]; exact nI_nlt (by omega) (by omega))]
    refine rs_ways_32 hr (by omega) hL (b4 j x.2[j] (List.getElem?_eq_getElem hj')) (hw.2.2 _ (List.getElem_mem hj')) ?_ L.length 0 0 (by omega) (fun _ => rfl)
    refine ih (j + 1) _ (by omega) ?_
    rw [List.drop_eq_getElem_cons hj'] at q
    by_cases hk : x.2[j].1 = 0
    · rw [if_pos hk]
      rw [List.filter_cons_of_pos (by simp [hk]), List.foldl_cons] at q
      exact q
    · rw [if_neg hk]
      rw [List.filter_cons_of_neg (by simp [hk])] at q
      exact q
theorem rq_ways {d r : Nat} {s : mS} {L : List Fct} {x : Rl} {Q : Int64 → Prop} (hr : r < 24) (hL : rFacts s L) (hx : rRule s.2.1 r x) (hw : wfR x) (q : Q (lN (wy L x))) : q_ways (d + 1) (nI r) s Q := by
  refine q_ways.of (T_ways_0 ?_)
  rw [show (6 : Int32) * nI r + 1 = nI (6 * r + 1 + 0) by rw [n_6, nI_mul, nI_1]]
  exact rs_ways_10 hr hL hx hw x.2.length 0 1 (by omega) ⟨rfl, q⟩
theorem wy_lt {L : List Fct} {x : Rl} (hL : L.length ≤ 200) (hx : x.2.length ≤ 5) : wy L x < 2 ^ 40 := by
  have hc : ∀ l, cnt L l ≤ 200 := fun l => Nat.le_trans (List.length_filter_le _ _) hL
  have : ∀ (ls : List Lt) (a : Nat), ls.foldl (fun p l => p * cnt L (lk l)) a ≤ a * 200 ^ ls.length := by
    intro ls
    induction ls with
    | nil => intro a; simp
    | cons y ls ih =>
      intro a
      simp only [List.foldl_cons, List.length_cons]
      refine Nat.le_trans (ih _) ?_
      rw [Nat.pow_succ, Nat.mul_comm (200 ^ ls.length) 200, ← Nat.mul_assoc]
      exact Nat.mul_le_mul_right _ (Nat.mul_le_mul_left _ (hc _))
  have h1 := this (x.2.filter (fun l => l.1 == 0)) 1
  have h2 : (x.2.filter (fun l => l.1 == 0)).length ≤ 5 := Nat.le_trans (List.length_filter_le _ _) hx
  have h3 : 200 ^ (x.2.filter (fun l => l.1 == 0)).length ≤ 200 ^ 5 := Nat.pow_le_pow_right (by decide) h2
  unfold wy
  have h4 : (200 : Nat) ^ 5 < 2 ^ 40 := by decide
  omega
theorem wy_cmp {L : List Fct} {x : Rl} (hL : L.length ≤ 200) (hx : x.2.length ≤ 5) : lg_cmp (lN (wy L x)) (100000 : Int64) ≤ 0 ↔ wy L x ≤ 100000 := by
  have := wy_lt hL hx
  rw [lg_cmp_le, show (100000 : Int64) = lN 100000 from rfl, pk_lLE (by omega) (by decide)]
