/-! the reference: part, agrees, held -/
theorem rq_part {d D a k : Nat} {s : mS} {e : Env} {σ : Int32 → Tm} {l : Lt} {Q : Int64 → Prop} (ha : a < 144) (hk : k < 3) (hx : rLit s.2.1 a l) (hl : wfL l) (h2 : l.1 ≠ 2) (he : rEnv s D e) (hσ : ∀ t ∈ l.2.2, eOn e σ t.2 ∧ (¬ t.1 = 0 → ∀ c ∈ t.2, chV c → (σ c).1 = 0)) (q : Q (tl (l.2.2.map (sT σ)) k)) : q_part (d + 4) (nI a) (nI k) s Q := by
  have hn := (wfL_len hl).1
  refine q_part.of (T_part_0 ⟨a, rfl, ha, ?_⟩)
  rw [(hx.rel hl h2).2.2.2]
  by_cases hkl : k < l.2.2.length
  · rw [if_neg (nI_ge (by omega) (by omega)), show (3 : Int32) * nI a + nI k = nI (3 * a + k) by rw [n_3, nI_mul, nI_add]]
    have hm : l.2.2[k] ∈ l.2.2 := List.getElem_mem hkl
    refine rq_made (by omega) (hx.2.2.2 k _ (List.getElem?_eq_getElem hkl)) ((wfL_len hl).2 _ hm) he (hσ _ hm).1 (hσ _ hm).2 ⟨rfl, ?_⟩
    unfold tl at q
    rw [List.getElem?_map, List.getElem?_eq_getElem hkl] at q
    exact q
  · rw [if_pos (nI_le (by omega) (by omega))]
    unfold tl at q
    rw [List.getElem?_eq_none (by rw [List.length_map]; omega)] at q
    exact ⟨rfl, q⟩
/-- all variables of the rule have values -/
def eAll (e : Env) (σ : Int32 → Tm) (x : Rl) : Prop := ∀ c, chV c → rV x c → e c = some (σ c)
theorem eAll.lit {e : Env} {σ : Int32 → Tm} {x : Rl} {l : Lt} (h : eAll e σ x) (ha : adm x σ) (hl : l = x.1 ∨ l ∈ x.2) : ∀ t ∈ l.2.2, eOn e σ t.2 ∧ (¬ t.1 = 0 → ∀ c ∈ t.2, chV c → (σ c).1 = 0) := by
  intro t ht
  have hv : ∀ c ∈ t.2, rV x c := by
    intro c hc
    rcases hl with hl | hl
    · exact Or.inl ⟨t, by rw [← hl]; exact ht, hc⟩
    · exact Or.inr ⟨l, hl, t, ht, hc⟩
  refine ⟨fun c hc hv' => h c hv' (hv c hc), fun h0 c hc hv' => (ha c hv' (hv c hc)).2 ?_⟩
  rcases hl with hl | hl
  · exact Or.inl ⟨t, by rw [← hl]; exact ht, h0, hc⟩
  · exact Or.inr ⟨l, hl, t, ht, h0, hc⟩
theorem lk_mod {l : Lt} (h : l.2.2.length ≤ 3) : lk l % 4 = l.2.2.length := by
  unfold lk
  omega
theorem wfF_sL {D : Nat} {s : mS} {e : Env} {σ : Int32 → Tm} {x : Rl} {l : Lt} (hl : wfL l) (h2 : l.1 ≠ 2) (he : rEnv s D e) (hA : eAll e σ x) (ha : adm x σ) (hx : l = x.1 ∨ l ∈ x.2) : wfF (sL σ l) := by
  obtain ⟨w1, w2⟩ := wfL_len hl
  obtain ⟨e1, _⟩ := wfA_lk (k := l.1) (wfL_atom hl h2).1
  refine ⟨e1, ?_, fun t ht => ?_⟩
  · show (l.2.2.map (sT σ)).length = lk l % 4
    rw [List.length_map, lk_mod w1]
  · obtain ⟨p, hp, rfl⟩ := List.mem_map.mp ht
    have := hA.lit ha hx p hp
    exact gT_sT he (w2 p hp) this.1 this.2
/-- the literals that fail or are unlike do so -/
def agr (L : List Fct) (x : Rl) (σ : Int32 → Tm) : Prop := ∀ l ∈ x.2, (l.1 = 1 → ¬ sL σ l ∈ L) ∧ (l.1 = 2 → unl σ l)
theorem rs_agr_7 {d D r : Nat} {s : mS} {L : List Fct} {e : Env} {σ : Int32 → Tm} {x : Rl} {Q : Int32 → mS → Prop} (hr : r < 24) (hL : rFacts s L) (hx : rRule s.2.1 r x) (hw : wfR x) (he : rEnv s D e) (hA : eAll e σ x) (ha : adm x σ) (q1 : agr L x σ → Q 1 s) (q0 : ¬ agr L x σ → Q 0 s) : ∀ (m j : Nat), j + m = x.2.length → (∀ i l, i < j → x.2[i]? = some l → (l.1 = 1 → ¬ sL σ l ∈ L) ∧ (l.1 = 2 → unl σ l)) → h_agrees_7 (d + 4) (nI r) (nI (6 * r + 1 + j)) s Q := by
  obtain ⟨b1, b2, b3, b4⟩ := hx
  intro m
  induction m with
  | zero =>
    intro j hj hno
    refine T_agrees_7 ⟨r, rfl, hr, ?_⟩
    rw [b1, if_pos (by rw [n_6, nI_mul, nI_add]; exact nI_lt (by omega) (by omega))]
    refine q1 (fun l hl => ?_)
    obtain ⟨i, hi, el⟩ := List.getElem_of_mem hl
    exact hno i l (by omega) (by rw [List.getElem?_eq_getElem hi, el])
  | succ m ih =>
    intro j hj hno
    have hj' : j < x.2.length := by omega
    have hxj : x.2[j]? = some x.2[j] := List.getElem?_eq_getElem hj'
    have hm : x.2[j] ∈ x.2 := List.getElem_mem hj'
    have hl := b4 j _ hxj
    have hwl := hw.2.2 _ hm
    have hlit := hA.lit ha (Or.inr hm)
    refine T_agrees_7 ⟨r, rfl, hr, ?_⟩
    rw [b1, if_neg (by rw [n_6, nI_mul, nI_add]; exact nI_nlt (by omega) (by omega)), nI_1, show 6 * r + 1 + j + 1 = 6 * r + 1 + (j + 1) by omega]
    refine ⟨6 * r + 1 + j, rfl, by omega, ?_⟩
    have next : ((x.2[j].1 = 1 → ¬ sL σ x.2[j] ∈ L) ∧ (x.2[j].1 = 2 → unl σ x.2[j])) → h_agrees_7 (d + 4) (nI r) (nI (6 * r + 1 + (j + 1))) s Q := by
      intro hg
      refine ih (j + 1) (by omega) (fun i l hi hl2 => ?_)
      by_cases ei : i = j
      · subst ei
        rw [hxj] at hl2
        cases hl2
        exact hg
      · exact hno i l (by omega) hl2
    rw [hl.1]
    by_cases h1 : x.2[j].1 = 1
    · rw [if_pos h1]
      have h2 : x.2[j].1 ≠ 2 := by rw [h1]; decide
      refine rq_part (k := 0) (by omega) (by decide) hl hwl h2 he hlit (rq_part (k := 1) (by omega) (by decide) hl hwl h2 he hlit (rq_part (k := 2) (by omega) (by decide) hl hwl h2 he hlit ?_))
      rw [(hl.rel hwl h2).1]
      refine rq_holds (F := sL σ x.2[j]) hL (wfF_sL hwl h2 he hA ha (Or.inr hm)) (fun z => ?_) (fun z => ?_)
      · rw [if_neg (by decide)]
        exact q0 (fun y => (y _ hm).1 h1 z)
      · rw [if_pos rfl, if_neg h2]
        exact next ⟨fun _ => z, fun y => absurd y h2⟩
    · rw [if_neg h1]
      by_cases h2 : x.2[j].1 = 2
      · rw [if_pos h2]
        rcases hwl with ⟨y, _⟩ | ⟨_, ta, tb, et, wa, wb⟩
        · rw [h2] at y
          exact absurd y (by decide)
        · have ma : ta ∈ x.2[j].2.2 := by rw [et]; simp
          have mb : tb ∈ x.2[j].2.2 := by rw [et]; simp
          have ra := hl.2.2.2 0 ta (by rw [et]; rfl)
          have rb := hl.2.2.2 1 tb (by rw [et]; rfl)
          rw [show (3 : Int32) * nI (6 * r + 1 + j) = nI (3 * (6 * r + 1 + j) + 0) by rw [n_3, nI_mul]; rfl]
          refine rq_made (by omega) ra wa he (hlit ta ma).1 (hlit ta ma).2 ?_
          rw [show nI (3 * (6 * r + 1 + j) + 0) + 1 = nI (3 * (6 * r + 1 + j) + 1) by rw [nI_1]]
          refine rq_made (by omega) rb wb he (hlit tb mb).1 (hlit tb mb).2 ?_
          have ga := gT_sT he wa (hlit ta ma).1 (hlit ta ma).2
          have gb := gT_sT he wb (hlit tb mb).1 (hlit tb mb).2
          have eu : unl σ x.2[j] ↔ sT σ ta ≠ sT σ tb := by
            unfold unl
            rw [et]
            exact Iff.rfl
          by_cases c : sT σ ta = sT σ tb
          · rw [if_pos ((lg_eq _ _).mpr (by rw [c]))]
            exact q0 (fun y => (eu.mp ((y _ hm).2 h2)) c)
          · rw [if_neg (fun y => c ((lL_eq ga.1 gb.1).mp ((lg_eq _ _).mp y)))]
            exact next ⟨fun y => absurd y h1, fun _ => eu.mpr c⟩
      · rw [if_neg h2]
        exact next ⟨fun y => absurd y h1, fun y => absurd y h2⟩
theorem rq_agrees {d D r : Nat} {s : mS} {L : List Fct} {e : Env} {σ : Int32 → Tm} {x : Rl} {Q : Int32 → Prop} (hr : r < 24) (hL : rFacts s L) (hx : rRule s.2.1 r x) (hw : wfR x) (he : rEnv s D e) (hA : eAll e σ x) (ha : adm x σ) (q1 : agr L x σ → Q 1) (q0 : ¬ agr L x σ → Q 0) : q_agrees (d + 5) (nI r) s Q := by
  refine q_agrees.of (T_agrees_0 ?_)
  rw [show (6 : Int32) * nI r + 1 = nI (6 * r + 1 + 0) by rw [n_6, nI_mul, nI_1]]
  exact rs_agr_7 hr hL hx hw he hA ha (fun z => ⟨rfl, q1 z⟩) (fun z => ⟨rfl, q0 z⟩) x.2.length 0 (by omega) (fun i l hi => absurd hi (by omega))
/-- a set of variables as bits -/
def vbs (v : Int32) (P : Int32 → Prop) : Prop := bs v (fun b => b < 6 ∧ P (nI (85 + b)))
theorem vbs.iff {v : Int32} {P P' : Int32 → Prop} (h : vbs v P) (e : ∀ c, chV c → (P c ↔ P' c)) : vbs v P' := bs.iff h (fun b => ⟨fun z => ⟨z.1, (e _ (chV_of z.1)).mp z.2⟩, fun z => ⟨z.1, (e _ (chV_of z.1)).mpr z.2⟩⟩)
theorem vbs.add {v : Int32} {P : Int32 → Prop} {c : Int32} (h : vbs v P) (hc : chV c) : vbs (v ||| ((1 : Int32) <<< ((c - 85) &&& 31))) (fun c' => P c' ∨ c' = c) := by
  obtain ⟨b, hb, rfl⟩ := chV_ix hc
  rw [vc_sub hb]
  refine (bs.or h (bs_one (k := b) (by omega))).iff (fun j => ⟨fun z => ?_, fun z => ?_⟩)
  · rcases z with z | z
    · exact ⟨z.1, Or.inl z.2⟩
    · subst z
      exact ⟨hb, Or.inr rfl⟩
  · rcases z.2 with y | y
    · exact Or.inl ⟨z.1, y⟩
    · have := (nI_eq (by omega) (by omega)).mp y
      exact Or.inr (by omega)
theorem rs_held_61 {d r a tt : Nat} {s : mS} {t : Tm} {P : Int32 → Prop} {Q : Int32 → mS → Prop} (ht : tt < 432) (hx : rTm s.2.1 tt t) (q : ∀ v, vbs v (fun c => P c ∨ (t.1 ≠ 0 ∧ c ∈ t.2)) → h_held_27 (d + 1) (nI r) v (nI a) (nI (tt + 1)) s Q) : ∀ (m k : Nat) (v : Int32), k + m = t.2.length → vbs v (fun c => P c ∨ (t.1 ≠ 0 ∧ c ∈ t.2.take k)) → h_held_61 (d + 1) (nI r) v (nI a) (nI tt) (nI k) s Q := by
  obtain ⟨x1, x2, x3, x4⟩ := hx
  intro m
  induction m with
  | zero =>
    intro k v hk hv
    refine T_held_61 ⟨tt, rfl, ht, ?_⟩
    rw [x2, if_pos (nI_le (by omega) (by omega)), nI_1]
    rw [List.take_of_length_le (by omega)] at hv
    exact q v hv
  | succ m ih =>
    intro k v hk hv
    have hk' : k < t.2.length := by omega
    refine T_held_61 ⟨tt, rfl, ht, ?_⟩
    rw [x2, if_neg (nI_ge (by omega) (by omega)), x1]
    by_cases h0 : t.1 = 0
    · rw [if_pos h0, nI_1]
      exact q v (hv.iff (fun c _ => ⟨fun z => z.imp id (fun y => absurd h0 y.1), fun z => z.imp id (fun y => absurd h0 y.1)⟩))
    · rw [if_neg h0]
      refine ⟨3 * tt + k, by rw [n_3, nI_mul, nI_add], by omega, ?_⟩
      have e : s.2.1 17 (3 * tt + k) = t.2[k] := by
        rw [x4 k hk', List.getD_eq_getElem?_getD, List.getElem?_eq_getElem hk']
        rfl
      rw [e, nI_1]
      refine rq_isVariable ?_
      have et : t.2.take (k + 1) = t.2.take k ++ [t.2[k]] := List.take_succ_eq_append_getElem hk'
      by_cases hc : chV t.2[k]
      · rw [if_neg (zb_ne.mpr hc)]
        refine ih (k + 1) _ (by omega) ((hv.add hc).iff (fun c _ => ?_))
        rw [et]
        simp only [List.mem_append, List.mem_singleton]
        constructor
        · intro z
          rcases z with (z | z) | z
          · exact Or.inl z
          · exact Or.inr ⟨z.1, Or.inl z.2⟩
          · exact Or.inr ⟨h0, Or.inr z⟩
        · intro z
          rcases z with z | ⟨z1, z | z⟩
          · exact Or.inl (Or.inl z)
          · exact Or.inl (Or.inr ⟨z1, z⟩)
          · exact Or.inr z
      · rw [if_pos (zb_eq.mpr hc)]
        refine ih (k + 1) _ (by omega) (hv.iff (fun c hc' => ?_))
        rw [et]
        simp only [List.mem_append, List.mem_singleton]
        constructor
        · intro z
          exact z.imp id (fun y => ⟨y.1, Or.inl y.2⟩)
        · intro z
          rcases z with z | ⟨z1, z | z⟩
          · exact Or.inl z
          · exact Or.inr ⟨z1, z⟩
          · rw [z] at hc'
            exact absurd hc' hc
theorem rs_held_27 {d r a : Nat} {s : mS} {l : Lt} {P : Int32 → Prop} {Q : Int32 → mS → Prop} (ha : a < 144) (hl : rLit s.2.1 a l) (hw : wfL l) (q : ∀ v, vbs v (fun c => P c ∨ inC l c) → h_held_7 (d + 1) (nI r) v (nI (a + 1)) s Q) : ∀ (m i : Nat) (v : Int32), i + m = l.2.2.length → vbs v (fun c => P c ∨ ∃ t ∈ l.2.2.take i, t.1 ≠ 0 ∧ c ∈ t.2) → h_held_27 (d + 1) (nI r) v (nI a) (nI (3 * a + i)) s Q := by
  have hn := (wfL_len hw).1
  intro m
  induction m with
  | zero =>
    intro i v hi hv
    refine T_held_27 ⟨a, rfl, ha, ?_⟩
    rw [List.take_of_length_le (by omega)] at hv
    rw [hl.1, nI_1]
    by_cases h2 : l.1 = 2
    · rw [if_pos h2, if_pos (by
        rcases hw with ⟨y, _⟩ | ⟨_, ta, tb, et, _⟩
        · rw [h2] at y
          exact absurd y (by decide)
        · rw [et] at hi
          simp only [List.length_cons, List.length_nil] at hi
          rw [n_3, n_2, nI_mul, nI_add]
          exact nI_le (by omega) (by omega))]
      exact q v hv
    · rw [if_neg h2, (hl.rel hw h2).2.2.2, if_pos (by rw [n_3, nI_mul, nI_add]; exact nI_le (by omega) (by omega))]
      exact q v hv
  | succ m ih =>
    intro i v hi hv
    have hi' : i < l.2.2.length := by omega
    have go : h_held_61 (d + 1) (nI r) v (nI a) (nI (3 * a + i)) 0 s Q := by
      refine rs_held_61 (by omega) (hl.2.2.2 i _ (List.getElem?_eq_getElem hi')) (P := fun c => P c ∨ ∃ t ∈ l.2.2.take i, t.1 ≠ 0 ∧ c ∈ t.2) (fun v hv => ?_) _ 0 v (Nat.zero_add _) (hv.iff (fun c _ => by simp))
      rw [show 3 * a + i + 1 = 3 * a + (i + 1) by omega]
      refine ih (i + 1) v (by omega) (hv.iff (fun c _ => ?_))
      rw [List.take_succ_eq_append_getElem hi']
      simp only [List.mem_append, List.mem_singleton]
      constructor
      · intro z
        rcases z with (z | ⟨t, z1, z2⟩) | z
        · exact Or.inl z
        · exact Or.inr ⟨t, Or.inl z1, z2⟩
        · exact Or.inr ⟨_, Or.inr rfl, z⟩
      · intro z
        rcases z with z | ⟨t, z1 | z1, z2⟩
        · exact Or.inl (Or.inl z)
        · exact Or.inl (Or.inr ⟨t, z1, z2⟩)
        · rw [z1] at z2
          exact Or.inr z2
    refine T_held_27 ⟨a, rfl, ha, ?_⟩
    rw [hl.1]
    by_cases h2 : l.1 = 2
    · rw [if_pos h2, if_neg (by
        rcases hw with ⟨y, _⟩ | ⟨_, ta, tb, et, _⟩
        · rw [h2] at y
          exact absurd y (by decide)
        · rw [et] at hi
          simp only [List.length_cons, List.length_nil] at hi
          rw [n_3, n_2, nI_mul, nI_add]
          exact nI_ge (by omega) (by omega))]
      exact go
    · rw [if_neg h2, (hl.rel hw h2).2.2.2, if_neg (by rw [n_3, nI_mul, nI_add]; exact nI_ge (by omega) (by omega))]
      exact go
theorem rs_held_7 {d r : Nat} {s : mS} {x : Rl} {Q : Int32 → mS → Prop} (hr : r < 24) (hx : rRule s.2.1 r x) (hw : wfR x) (q : ∀ v, vbs v (rF x) → Q v s) : ∀ (m j : Nat) (v : Int32), j + m = x.2.length + 1 → vbs v (fun c => ∃ l ∈ (x.1 :: x.2).take j, inC l c) → h_held_7 (d + 1) (nI r) v (nI (6 * r + j)) s Q := by
  obtain ⟨b1, b2, b3, b4⟩ := hx
  intro m
  induction m with
  | zero =>
    intro j v hj hv
    refine T_held_7 ⟨r, rfl, hr, ?_⟩
    rw [b1, if_pos (by rw [n_6, nI_mul, nI_add]; exact nI_lt (by omega) (by omega))]
    rw [List.take_of_length_le (by simp only [List.length_cons]; omega)] at hv
    refine q v (hv.iff (fun c _ => ?_))
    simp only [List.mem_cons, exists_eq_or_imp]
    exact Iff.rfl
  | succ m ih =>
    intro j v hj hv
    have hj' : j < (x.1 :: x.2).length := by simp only [List.length_cons]; omega
    refine T_held_7 ⟨r, rfl, hr, ?_⟩
    rw [b1, if_neg (by rw [n_6, nI_mul, nI_add]; exact nI_nlt (by omega) (by omega)), show (3 : Int32) * nI (6 * r + j) = nI (3 * (6 * r + j) + 0) by rw [n_3, nI_mul]; rfl]
    have hlit : rLit s.2.1 (6 * r + j) (x.1 :: x.2)[j] ∧ wfL (x.1 :: x.2)[j] := by
      cases j with
      | zero => exact ⟨b3, (wfR_head hw).1⟩
      | succ j =>
        have hj2 : j < x.2.length := by simp only [List.length_cons] at hj'; omega
        have := b4 j _ (List.getElem?_eq_getElem hj2)
        rw [show 6 * r + 1 + j = 6 * r + (j + 1) by omega] at this
        exact ⟨this, hw.2.2 _ (List.getElem_mem hj2)⟩
    refine rs_held_27 (by omega) hlit.1 hlit.2 (P := fun c => ∃ l ∈ (x.1 :: x.2).take j, inC l c) (fun v hv => ?_) _ 0 v (Nat.zero_add _) (hv.iff (fun c _ => by simp))
    rw [show 6 * r + j + 1 = 6 * r + (j + 1) by omega]
    refine ih (j + 1) v (by omega) (hv.iff (fun c _ => ?_))
    rw [List.take_succ_eq_append_getElem hj']
    simp only [List.mem_append, List.mem_singleton]
    constructor
    · intro z
      rcases z with ⟨l, z1, z2⟩ | z
      · exact ⟨l, Or.inl z1, z2⟩
      · exact ⟨_, Or.inr rfl, z⟩
    · intro z
      obtain ⟨l, z1 | z1, z2⟩ := z
      · exact Or.inl ⟨l, z1, z2⟩
      · rw [z1] at z2
        exact Or.inr z2
theorem rq_held {d r : Nat} {s : mS} {x : Rl} {Q : Int32 → Prop} (hr : r < 24) (hx : rRule s.2.1 r x) (hw : wfR x) (q : ∀ v, vbs v (rF x) → Q v) : q_held (d + 2) (nI r) s Q := by
  refine q_held.of (T_held_0 ?_)
  rw [show (6 : Int32) * nI r = nI (6 * r + 0) by rw [n_6, nI_mul]; rfl]
  exact rs_held_7 hr hx hw (fun v hv => ⟨rfl, q v hv⟩) (x.2.length + 1) 0 0 (by omega) (bs_0.iff (fun b => ⟨fun z => z.elim, fun z => by obtain ⟨_, l, hl, _⟩ := z; simp at hl⟩))
