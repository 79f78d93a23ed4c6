/-! the reference: variables, faults 2 and 3 -/
theorem rs_bits_23 {d a n t : Nat} {s : mS} {x : Tm} {Q : Int32 → mS → Prop} (ht : t < 432) (hx : rTm s.2.1 t x) : ∀ (m k acc : Nat), k + m = x.2.length → h_bits_7 (d + 1) (nI a) (nI n) (nI ((x.2.drop k).foldl (fun m c => m ||| vb c) acc)) (nI (t + 1)) s Q → h_bits_23 (d + 1) (nI a) (nI n) (nI acc) (nI t) (nI (3 * t + k)) s Q := by
  obtain ⟨h1, h2, h3, h4⟩ := hx
  intro m
  induction m with
  | zero =>
    intro k acc hk q
    refine T_bits_23 ⟨t, rfl, ht, ?_⟩
    rw [h2, if_pos (by rw [n_3, nI_mul, nI_add]; exact nI_le (by omega) (by omega)), nI_1]
    rw [List.drop_eq_nil_of_le (by omega)] at q
    exact q
  | succ m ih =>
    intro k acc hk q
    have hk' : k < x.2.length := by omega
    refine T_bits_23 ⟨t, rfl, ht, ?_⟩
    rw [h2, if_neg (by rw [n_3, nI_mul, nI_add]; exact nI_ge (by omega) (by omega))]
    refine ⟨3 * t + k, rfl, by omega, ?_⟩
    have e : s.2.1 17 (3 * t + k) = x.2[k] := by
      rw [h4 k hk', List.getD_eq_getElem?_getD, List.getElem?_eq_getElem hk']
      rfl
    rw [e]
    refine rq_isVariable ?_
    rw [List.drop_eq_getElem_cons hk', List.foldl_cons] at q
    rw [nI_1]
    by_cases hv : chV x.2[k]
    · rw [if_neg (zb_ne.mpr hv), vb_eq hv, nI_or]
      exact ih (k + 1) _ (by omega) q
    · rw [if_pos (zb_eq.mpr hv)]
      refine ih (k + 1) acc (by omega) ?_
      have e0 : vb x.2[k] = 0 := by
        unfold vb
        rw [if_neg hv]
      rw [e0, Nat.or_zero] at q
      exact q
theorem rs_bits_7 {d a : Nat} {s : mS} {ts : List Tm} {Q : Int32 → mS → Prop} (ha : a < 144) (hn : ts.length ≤ 3) (hts : rTms s.2.1 (3 * a) ts) : ∀ (m i acc : Nat), i + m = ts.length → Q (nI ((ts.drop i).foldl (fun m t => m ||| vt t.2) acc)) s → h_bits_7 (d + 1) (nI a) (nI ts.length) (nI acc) (nI (3 * a + i)) s Q := by
  intro m
  induction m with
  | zero =>
    intro i acc hi q
    refine T_bits_7 ?_
    rw [if_pos (by rw [n_3, nI_mul, nI_add]; exact nI_le (by omega) (by omega))]
    rw [List.drop_eq_nil_of_le (by omega)] at q
    exact q
  | succ m ih =>
    intro i acc hi q
    have hi' : i < ts.length := by omega
    refine T_bits_7 ?_
    rw [if_neg (by rw [n_3, nI_mul, nI_add]; exact nI_ge (by omega) (by omega)), show (3 : Int32) * nI (3 * a + i) = nI (3 * (3 * a + i) + 0) by rw [n_3, nI_mul]; rfl]
    refine rs_bits_23 (by omega) (hts i ts[i] (List.getElem?_eq_getElem hi')) ts[i].2.length 0 acc (by omega) ?_
    rw [List.drop_zero, foldl_or vb ts[i].2 acc]
    rw [List.drop_eq_getElem_cons hi', List.foldl_cons] at q
    exact ih (i + 1) _ (by omega) q
theorem rq_bits {d a : Nat} {s : mS} {ts : List Tm} {Q : Int32 → Prop} (ha : a < 144) (hn : ts.length ≤ 3) (hts : rTms s.2.1 (3 * a) ts) (q : Q (nI (vm ts))) : q_bits (d + 2) (nI a) (nI ts.length) s Q := by
  refine q_bits.of (T_bits_0 ?_)
  rw [show (3 : Int32) * nI a = nI (3 * a + 0) by rw [n_3, nI_mul]; rfl]
  exact rs_bits_7 ha hn hts ts.length 0 0 (by omega) ⟨rfl, q⟩
theorem wfL_len {x : Lt} (h : wfL x) : x.2.2.length ≤ 3 ∧ ∀ t ∈ x.2.2, wfT t := by
  rcases h with ⟨_, h⟩ | ⟨_, a, b, e, ha, hb⟩
  · exact ⟨h.2.1, h.2.2⟩
  · rw [e]
    refine ⟨Nat.le_of_ble_eq_true rfl, fun t ht => ?_⟩
    simp only [List.mem_cons, List.not_mem_nil, or_false] at ht
    rcases ht with ht | ht
    · rw [ht]; exact ha
    · rw [ht]; exact hb
theorem wfL_atom {x : Lt} (h : wfL x) (hk : x.1 ≠ 2) : wfA x.2.1 x.2.2 ∧ (x.1 = 0 ∨ x.1 = 1) := by
  rcases h with ⟨h0, h⟩ | ⟨h0, _⟩
  · exact ⟨h, h0⟩
  · exact absurd h0 hk
theorem rLit.rel {A : Nat → Nat → Int32} {a : Nat} {x : Lt} (h : rLit A a x) (hw : wfL x) (hk : x.1 ≠ 2) : A 14 a = nI (lk x) ∧ lk x < 512 ∧ A 14 a / 4 = x.2.1 ∧ A 14 a &&& 3 = nI x.2.2.length := by
  obtain ⟨e1, e2, e3, e4, e5⟩ := wfA_lk (k := x.1) (wfL_atom hw hk).1
  have := h.2.1 hk
  rw [this]
  exact ⟨e3, e1, e4, e5⟩
theorem rq_variables {d a : Nat} {s : mS} {x : Lt} {Q : Int32 → Prop} (ha : a < 144) (hx : rLit s.2.1 a x) (hw : wfL x) (q : Q (nI (vm x.2.2))) : q_variables (d + 3) (nI a) s Q := by
  refine q_variables.of (T_variables_0 ⟨a, rfl, ha, ?_⟩)
  rw [hx.1]
  by_cases h2 : x.1 = 2
  · rw [if_pos h2]
    have hl : (2 : Int32) = nI x.2.2.length := by
      rcases hw with ⟨h0, _⟩ | ⟨_, a, b, e, _⟩
      · rw [h2] at h0
        exact absurd h0 (by decide)
      · rw [e]
        rfl
    rw [hl]
    exact rq_bits ha hx.2.2.1 hx.2.2.2 ⟨rfl, q⟩
  · rw [if_neg h2, (hx.rel hw h2).2.2.2]
    exact rq_bits ha hx.2.2.1 hx.2.2.2 ⟨rfl, q⟩
theorem wfR_head {x : Rl} (h : wfR x) : wfL x.1 ∧ x.1.1 = 0 ∧ x.1.1 ≠ 2 := ⟨Or.inl ⟨Or.inl h.1.1, h.1.2⟩, h.1.1, by rw [h.1.1]; decide⟩
theorem rs_hw_64 {d r : Nat} {s : mS} {x : Rl} {Q : Int32 → mS → Prop} (hr : r < 24) (hx : rRule s.2.1 r x) (hw : wfR x) {P : Prop} (q1 : P ∨ (∃ l ∈ x.2, l.1 ≠ 2 ∧ (l.2.1 = 73 ∨ l.2.1 = 78)) → Q 1 s) (q0 : ¬ (P ∨ (∃ l ∈ x.2, l.1 ≠ 2 ∧ (l.2.1 = 73 ∨ l.2.1 = 78))) → Q 0 s) : ∀ (m j : Nat) (w : Int32), j + m = x.2.length → ((w = 1 ∧ (P ∨ (∃ l ∈ x.2, l.1 ≠ 2 ∧ (l.2.1 = 73 ∨ l.2.1 = 78)))) ∨ (w = 0 ∧ ¬ P ∧ ∀ i l, i < j → x.2[i]? = some l → l.1 ≠ 2 → ¬ (l.2.1 = 73 ∨ l.2.1 = 78))) → h_isHeadWrong_64 d (nI r) w (nI (6 * r + 1 + j)) s Q := by
  obtain ⟨b1, b2, b3, b4⟩ := hx
  intro m
  induction m with
  | zero =>
    intro j w hj h
    refine T_isHeadWrong_64 ⟨r, rfl, hr, ?_⟩
    rw [b1, if_pos (by rw [n_6, nI_mul, nI_add]; exact nI_lt (by omega) (by omega))]
    rcases h with ⟨e, h⟩ | ⟨e, h1, h2⟩
    · rw [e]
      exact ⟨Or.inr rfl, q1 h⟩
    · rw [e]
      refine ⟨Or.inl rfl, q0 (fun z => ?_)⟩
      rcases z with z | ⟨l, hl, z1, z2⟩
      · exact h1 z
      · obtain ⟨i, hi, e⟩ := List.getElem_of_mem hl
        exact h2 i l (by omega) (by rw [List.getElem?_eq_getElem hi, e]) z1 z2
  | succ m ih =>
    intro j w hj h
    have hj' : j < x.2.length := by omega
    refine T_isHeadWrong_64 ⟨r, rfl, hr, ?_⟩
    rw [b1, if_neg (by rw [n_6, nI_mul, nI_add]; exact nI_nlt (by omega) (by omega)), nI_1, show 6 * r + 1 + j + 1 = 6 * r + 1 + (j + 1) by omega]
    rcases h with ⟨e, h⟩ | ⟨e, h1, h2⟩
    · rw [e, if_neg (by decide)]
      exact ih (j + 1) 1 (by omega) (Or.inl ⟨rfl, h⟩)
    · rw [e, if_pos rfl]
      refine ⟨6 * r + 1 + j, rfl, by omega, ?_⟩
      have hl := b4 j x.2[j] (List.getElem?_eq_getElem hj')
      have hm : x.2[j] ∈ x.2 := List.getElem_mem hj'
      have hwl := hw.2.2 _ hm
      rw [hl.1]
      have stay : (x.2[j].1 ≠ 2 → ¬ (x.2[j].2.1 = 73 ∨ x.2[j].2.1 = 78)) → h_isHeadWrong_64 d (nI r) 0 (nI (6 * r + 1 + (j + 1))) s Q := by
        intro hno
        refine ih (j + 1) 0 (by omega) (Or.inr ⟨rfl, h1, fun i l hi hl2 hk => ?_⟩)
        by_cases ei : i = j
        · subst ei
          rw [List.getElem?_eq_getElem hj'] at hl2
          cases hl2
          exact hno hk
        · exact h2 i l (by omega) hl2 hk
      by_cases hk : x.2[j].1 = 2
      · rw [if_pos (by rw [hk]; decide)]
        exact stay (fun z => absurd hk z)
      · have h01 := (wfL_atom hwl hk).2
        rw [if_neg (by rcases h01 with z | z <;> rw [z] <;> decide), (hl.rel hwl hk).2.2.1]
        by_cases c1 : x.2[j].2.1 = 73
        · rw [if_pos c1]
          exact ih (j + 1) 1 (by omega) (Or.inl ⟨rfl, Or.inr ⟨_, hm, hk, Or.inl c1⟩⟩)
        · rw [if_neg c1]
          by_cases c2 : x.2[j].2.1 = 78
          · rw [if_pos c2]
            exact ih (j + 1) 1 (by omega) (Or.inl ⟨rfl, Or.inr ⟨_, hm, hk, Or.inr c2⟩⟩)
          · rw [if_neg c2]
            exact stay (fun _ z => z.elim c1 c2)
theorem rq_isHeadWrong {d r : Nat} {s : mS} {x : Rl} {Q : Int32 → Prop} (hr : r < 24) (hx : rRule s.2.1 r x) (hw : wfR x) (q1 : flt2 x → Q 1) (q0 : ¬ flt2 x → Q 0) : q_isHeadWrong (d + 4) (nI r) s Q := by
  obtain ⟨w1, w2, w3⟩ := wfR_head hw
  refine q_isHeadWrong.of (T_isHeadWrong_0 ⟨6 * r, by rw [n_6, nI_mul], by omega, ?_⟩)
  rw [(hx.2.2.1.rel w1 w3).2.2.1, show (6 : Int32) * nI r + 1 = nI (6 * r + 1 + 0) by rw [n_6, nI_mul, nI_1], show (6 : Int32) * nI r = nI (6 * r) by rw [n_6, nI_mul]]
  have go : ∀ w, ((w = 1 ∧ (x.1.2.1 = 84 ∨ x.1.2.1 = 68 ∨ (x.1.2.1 = 82 ∧ (x.2 ≠ [] ∨ vm x.1.2.2 ≠ 0)))) ∨ (w = 0 ∧ ¬ (x.1.2.1 = 84 ∨ x.1.2.1 = 68 ∨ (x.1.2.1 = 82 ∧ (x.2 ≠ [] ∨ vm x.1.2.2 ≠ 0))))) → h_isHeadWrong_64 (d + 3) (nI r) w (nI (6 * r + 1 + 0)) s (fun r s' => s' = s ∧ Q r) := by
    intro w h
    refine rs_hw_64 (P := x.1.2.1 = 84 ∨ x.1.2.1 = 68 ∨ (x.1.2.1 = 82 ∧ (x.2 ≠ [] ∨ vm x.1.2.2 ≠ 0))) hr hx hw (fun z => ⟨rfl, q1 z⟩) (fun z => ⟨rfl, q0 z⟩) x.2.length 0 w (by omega) ?_
    rcases h with ⟨e, h⟩ | ⟨e, h⟩
    · exact Or.inl ⟨e, Or.inl h⟩
    · exact Or.inr ⟨e, h, fun i l hi => absurd hi (by omega)⟩
  by_cases c1 : x.1.2.1 = 84
  · rw [if_pos c1]
    exact go 1 (Or.inl ⟨rfl, Or.inl c1⟩)
  · rw [if_neg c1]
    by_cases c2 : x.1.2.1 = 68
    · rw [if_pos c2]
      exact go 1 (Or.inl ⟨rfl, Or.inr (Or.inl c2)⟩)
    · rw [if_neg c2]
      by_cases c3 : x.1.2.1 = 82
      · rw [if_pos c3]
        refine ⟨r, rfl, hr, ?_⟩
        rw [hx.1]
        have hl5 := hx.2.1
        by_cases c4 : x.2 = []
        · rw [if_neg (by rw [c4]; decide)]
          refine rq_variables (by omega) hx.2.2.1 w1 ?_
          have := vm_lt x.1.2.2
          by_cases c5 : vm x.1.2.2 = 0
          · rw [if_pos (by rw [c5]; rfl)]
            exact go 0 (Or.inr ⟨rfl, fun z => z.elim c1 (fun z => z.elim c2 (fun z => z.2.elim (fun y => y c4) (fun y => y c5)))⟩)
          · rw [if_neg (nI_ne0 (by omega) (by omega))]
            exact go 1 (Or.inl ⟨rfl, Or.inr (Or.inr ⟨c3, Or.inr c5⟩)⟩)
        · have : 0 < x.2.length := List.length_pos_iff.mpr c4
          rw [if_pos (by rw [← nI_0]; exact nI_lt this (by omega))]
          exact go 1 (Or.inl ⟨rfl, Or.inr (Or.inr ⟨c3, Or.inl c4⟩)⟩)
      · rw [if_neg c3]
        exact go 0 (Or.inr ⟨rfl, fun z => z.elim c1 (fun z => z.elim c2 (fun z => c3 z.1))⟩)
theorem rs_lo_19 {d r : Nat} {s : mS} {x : Rl} {Q : Int32 → mS → Prop} (hr : r < 24) (hx : rRule s.2.1 r x) (hw : wfR x) : ∀ (m j na ha : Nat), j + m = x.2.length → (if nI (((x.2.drop j).filter (fun l => l.1 != 0)).foldl (fun m l => m ||| vm l.2.2) na) &&& (nI (((x.2.drop j).filter (fun l => l.1 == 0)).foldl (fun m l => m ||| vm l.2.2) ha) ^^^ (-1 : Int32)) = 0 then Q 0 s else Q 1 s) → h_isLoose_19 (d + 3) (nI r) (nI na) (nI ha) (nI (6 * r + 1 + j)) s Q := by
  obtain ⟨b1, b2, b3, b4⟩ := hx
  intro m
  induction m with
  | zero =>
    intro j na ha hj q
    refine T_isLoose_19 ⟨r, rfl, hr, ?_⟩
    rw [b1, if_pos (by rw [n_6, nI_mul, nI_add]; exact nI_lt (by omega) (by omega))]
    rw [List.drop_eq_nil_of_le (by omega)] at q
    exact q
  | succ m ih =>
    intro j na ha hj q
    have hj' : j < x.2.length := by omega
    refine T_isLoose_19 ⟨r, rfl, hr, ?_⟩
    rw [b1, if_neg (by rw [n_6, nI_mul, nI_add]; exact nI_nlt (by omega) (by omega)), nI_1, show 6 * r + 1 + j + 1 = 6 * r + 1 + (j + 1) by omega]
    refine ⟨6 * r + 1 + j, rfl, by omega, ?_⟩
    have hl := b4 j x.2[j] (List.getElem?_eq_getElem hj')
    have hwl := hw.2.2 _ (List.getElem_mem hj')
    rw [hl.1]
    rw [List.drop_eq_getElem_cons hj'] at q
    by_cases hk : x.2[j].1 = 0
    · rw [if_pos hk]
      refine rq_variables (by omega) hl hwl ?_
      rw [nI_or]
      refine ih (j + 1) _ _ (by omega) ?_
      rw [List.filter_cons_of_neg (by simp [hk]), List.filter_cons_of_pos (by simp [hk]), List.foldl_cons] at q
      exact q
    · rw [if_neg hk]
      refine rq_variables (by omega) hl hwl ?_
      rw [nI_or]
      refine ih (j + 1) _ _ (by omega) ?_
      rw [List.filter_cons_of_pos (by simp [hk]), List.filter_cons_of_neg (by simp [hk]), List.foldl_cons] at q
      exact q
theorem rq_isLoose {d r : Nat} {s : mS} {x : Rl} {Q : Int32 → Prop} (hr : r < 24) (hx : rRule s.2.1 r x) (hw : wfR x) (q1 : flt3 x → Q 1) (q0 : ¬ flt3 x → Q 0) : q_isLoose (d + 4) (nI r) s Q := by
  obtain ⟨w1, w2, w3⟩ := wfR_head hw
  refine q_isLoose.of (T_isLoose_0 ?_)
  rw [show (6 : Int32) * nI r + 1 = nI (6 * r + 1 + 0) by rw [n_6, nI_mul, nI_1], show (6 : Int32) * nI r = nI (6 * r) by rw [n_6, nI_mul]]
  refine rq_variables (by omega) hx.2.2.1 w1 ?_
  refine rs_lo_19 hr hx hw x.2.length 0 _ 0 (by omega) ?_
  rw [List.drop_zero]
  change (if nI (vNeed x) &&& (nI (vHeld x) ^^^ (-1 : Int32)) = 0 then _ else _)
  by_cases h : nI (vNeed x) &&& (nI (vHeld x) ^^^ (-1 : Int32)) = 0
  · rw [if_pos h]
    exact ⟨rfl, q0 (fun z => z h)⟩
  · rw [if_neg h]
    exact ⟨rfl, q1 h⟩
