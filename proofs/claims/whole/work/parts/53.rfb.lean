/-! the reference: what depends on what; faults 4 and 5 -/
theorem mA_mA {s : mS} {k : Nat} {f g : Nat → Int32} : mA (mA s k f) k g = mA s k g := by
  unfold mA
  refine Prod.ext rfl (Prod.ext ?_ rfl)
  funext j
  show (if j = k then g else if j = k then f else s.2.1 j) = if j = k then g else s.2.1 j
  by_cases h : j = k
  · rw [if_pos h, if_pos h]
  · rw [if_neg h, if_neg h, if_neg h]
theorem mA_self {s : mS} {k : Nat} : mA s k (s.2.1 k) = s := by
  unfold mA
  refine Prod.ext rfl (Prod.ext ?_ rfl)
  funext j
  show (if j = k then s.2.1 k else s.2.1 j) = s.2.1 j
  by_cases h : j = k
  · rw [if_pos h, h]
  · rw [if_neg h]
/-- how many zeros there are below n -/
def cz (f : Nat → Int32) : Nat → Nat
  | 0 => 0
  | n + 1 => cz f n + (if f n = 0 then 1 else 0)
theorem cz_out {f : Nat → Int32} {k : Nat} {v : Int32} : ∀ n, n ≤ k → cz (upd f k v) n = cz f n := by
  intro n
  induction n with
  | zero => intro _; rfl
  | succ n ih =>
    intro h
    rw [cz, cz, ih (by omega), upd_ne (by omega)]
theorem cz_upd {f : Nat → Int32} {k : Nat} {v : Int32} (h0 : f k = 0) (hv : ¬ v = 0) : ∀ n, k < n → cz (upd f k v) n + 1 = cz f n := by
  intro n
  induction n with
  | zero => intro h; omega
  | succ n ih =>
    intro h
    rw [cz, cz]
    by_cases e : k = n
    · subst e
      rw [cz_out k (Nat.le_refl _), upd_eq, if_neg hv, if_pos h0]
    · rw [upd_ne (by omega)]
      have := ih (by omega)
      omega
theorem nar0 : vp_nar .boolean (0 : Int32) = 0 := by decide
theorem nar1 : vp_nar .boolean (1 : Int32) = 1 := by decide
/-- marks: 0 or 1, and sound -/
def mkS (R : List Rl) (o : Nat) (f : Nat → Int32) : Prop := ∀ y, y < 512 → f y = 0 ∨ (f y = 1 ∧ Dep R o y)
/-- rule x adds nothing to the marks, by its first j literals -/
def mkC (o : Nat) (f : Nat → Int32) (x : Rl) (j : Nat) : Prop := (lk x.1 = o ∨ f (lk x.1) = 1) → ∀ i l, i < j → x.2[i]? = some l → l.1 ≠ 2 → f (lk l) = 1
theorem rs_dep_59 {d r o m0 : Nat} {R : List Rl} {s : mS} {x : Rl} {Q : Unit → mS → Prop} (hR : rRules s R) (hw : ∀ r ∈ R, wfR r) (ho5 : o < 512) (hrx : R[r]? = some x) (q : ∀ (w : Int32) (f : Nat → Int32), mkS R o f → ((w = 1 ∧ cz f 512 < m0) ∨ (w = 0 ∧ cz f 512 ≤ m0 ∧ ∀ i y, i < r + 1 → R[i]? = some y → mkC o f y y.2.length)) → h_depends_32 d (nI o) w (nI (r + 1)) (mA s 18 f) Q) : ∀ (m j : Nat) (w : Int32) (f : Nat → Int32), j + m = x.2.length → mkS R o f → ((w = 1 ∧ cz f 512 < m0) ∨ (w = 0 ∧ cz f 512 ≤ m0 ∧ (∀ i y, i < r → R[i]? = some y → mkC o f y y.2.length) ∧ mkC o f x j)) → h_depends_59 d (nI o) w (nI r) (nI (lk x.1)) (nI (6 * r + 1 + j)) (mA s 18 f) Q := by
  obtain ⟨_, hR2, hR3⟩ := hR
  have hr : r < R.length := (List.getElem?_eq_some_iff.mp hrx).1
  have hmem : x ∈ R := List.mem_of_getElem? hrx
  have hwx := hw x hmem
  obtain ⟨w1, w2, w3⟩ := wfR_head hwx
  obtain ⟨b1, b2, b3, b4⟩ := hR3 r x hrx
  have hlk := (b3.rel w1 w3).2.1
  have fin : ∀ (w : Int32) (f : Nat → Int32), mkS R o f → ((w = 1 ∧ cz f 512 < m0) ∨ (w = 0 ∧ cz f 512 ≤ m0 ∧ (∀ i y, i < r → R[i]? = some y → mkC o f y y.2.length) ∧ mkC o f x x.2.length)) → h_depends_32 d (nI o) w (nI r + 1) (mA s 18 f) Q := by
    intro w f hs h
    rw [nI_1]
    refine q w f hs ?_
    rcases h with h | ⟨e, h1, h2, h3⟩
    · exact Or.inl h
    · refine Or.inr ⟨e, h1, fun i y hi hy => ?_⟩
      by_cases ei : i = r
      · subst ei
        rw [hrx] at hy
        cases hy
        exact h3
      · exact h2 i y (by omega) hy
  intro m
  induction m with
  | zero =>
    intro j w f hj hs h
    refine T_depends_59 ⟨r, rfl, by omega, ?_⟩
    rw [show (mA s 18 f).2.1 12 r = nI x.2.length from b1, if_pos (by rw [n_6, nI_mul, nI_add]; exact nI_lt (by omega) (by omega))]
    rw [show j = x.2.length by omega] at h
    exact fin w f hs h
  | succ m ih =>
    intro j w f hj hs h
    have hj' : j < x.2.length := by omega
    have hl := b4 j x.2[j] (List.getElem?_eq_getElem hj')
    have hm : x.2[j] ∈ x.2 := List.getElem_mem hj'
    have hwl := hwx.2.2 _ hm
    refine T_depends_59 ⟨r, rfl, by omega, ?_⟩
    rw [show (mA s 18 f).2.1 12 r = nI x.2.length from b1, if_neg (by rw [n_6, nI_mul, nI_add]; exact nI_nlt (by omega) (by omega)), nI_1, show 6 * r + 1 + j + 1 = 6 * r + 1 + (j + 1) by omega]
    have step : (lk x.1 = o ∨ f (lk x.1) = 1) → (if (2 : Int32) ≤ x.2[j].1 then h_depends_59 d (nI o) w (nI r) (nI (lk x.1)) (nI (6 * r + 1 + (j + 1))) (mA s 18 f) Q else ∃ k7 : Nat, (mA s 18 f).2.1 14 (6 * r + 1 + j) = nI k7 ∧ k7 < 512 ∧ (if (mA s 18 f).2.1 18 k7 = 0 then h_depends_59 d (nI o) 1 (nI r) (nI (lk x.1)) (nI (6 * r + 1 + (j + 1))) (mA (mA s 18 f) 18 (upd ((mA s 18 f).2.1 18) k7 (vp_nar .boolean 1))) Q else h_depends_59 d (nI o) w (nI r) (nI (lk x.1)) (nI (6 * r + 1 + (j + 1))) (mA s 18 f) Q)) := by
      intro hact
      have same : (x.2[j].1 ≠ 2 → f (lk x.2[j]) = 1) → h_depends_59 d (nI o) w (nI r) (nI (lk x.1)) (nI (6 * r + 1 + (j + 1))) (mA s 18 f) Q := by
        intro hno
        refine ih (j + 1) w f (by omega) hs ?_
        rcases h with h | ⟨e, h1, h2, h3⟩
        · exact Or.inl h
        · refine Or.inr ⟨e, h1, h2, fun ha i l hi hl2 hk => ?_⟩
          by_cases ei : i = j
          · subst ei
            rw [List.getElem?_eq_getElem hj'] at hl2
            cases hl2
            exact hno hk
          · exact h3 ha i l (by omega) hl2 hk
      by_cases hk : x.2[j].1 = 2
      · rw [if_pos (by rw [hk]; decide)]
        exact same (fun z => absurd hk z)
      · have h01 := (wfL_atom hwl hk).2
        obtain ⟨g1, g2, _⟩ := hl.rel hwl hk
        rw [if_neg (by rcases h01 with z | z <;> rw [z] <;> decide)]
        refine ⟨lk x.2[j], g1, g2, ?_⟩
        rw [mA_eq, mA_mA, nar1]
        by_cases h0 : f (lk x.2[j]) = 0
        · rw [if_pos h0]
          have hd : Dep R o (lk x.2[j]) := by
            have d1 : dep1 R (lk x.1) (lk x.2[j]) := ⟨x, hmem, rfl, _, hm, hk, rfl⟩
            rcases hact with z | z
            · rw [z] at d1
              exact Dep.one d1
            · rcases hs _ hlk with y | y
              · rw [y] at z
                exact absurd z (by decide)
              · exact y.2.tail d1
          refine ih (j + 1) 1 _ (by omega) ?_ (Or.inl ⟨rfl, ?_⟩)
          · intro y hy
            by_cases ey : y = lk x.2[j]
            · subst ey
              rw [upd_eq]
              exact Or.inr ⟨rfl, hd⟩
            · rw [upd_ne ey]
              exact hs y hy
          · have := cz_upd (v := 1) h0 (by decide) 512 g2
            rcases h with h | h
            · omega
            · omega
        · rw [if_neg h0]
          exact same (fun _ => ((hs _ g2).resolve_left h0).1)
    by_cases ho : lk x.1 = o
    · rw [if_pos (by rw [ho])]
      refine ⟨6 * r + 1 + j, rfl, by omega, ?_⟩
      rw [show (mA s 18 f).2.1 13 (6 * r + 1 + j) = x.2[j].1 from hl.1]
      exact step (Or.inl ho)
    · by_cases hoo : nI (lk x.1) = nI o
      · rw [if_pos hoo]
        exact absurd ((nI_eq (by omega) (by omega)).mp hoo) ho
      · rw [if_neg hoo]
        refine ⟨lk x.1, rfl, hlk, ?_⟩
        rw [mA_eq]
        by_cases h0 : f (lk x.1) = 0
        · rw [if_pos h0]
          refine fin w f hs ?_
          rcases h with h | ⟨e, h1, h2, h3⟩
          · exact Or.inl h
          · refine Or.inr ⟨e, h1, h2, fun ha => ?_⟩
            rcases ha with ha | ha
            · exact absurd ha ho
            · rw [h0] at ha
              exact absurd ha (by decide)
        · rw [if_neg h0]
          refine ⟨6 * r + 1 + j, rfl, by omega, ?_⟩
          rw [show (mA s 18 f).2.1 13 (6 * r + 1 + j) = x.2[j].1 from hl.1]
          exact step (Or.inr ((hs _ hlk).resolve_left h0).1)
theorem rs_dep_32 {d o m0 : Nat} {R : List Rl} {s : mS} {Q : Unit → mS → Prop} (hR : rRules s R) (hw : ∀ r ∈ R, wfR r) (ho : o < 512) (q : ∀ (w : Int32) (f : Nat → Int32), mkS R o f → ((w = 1 ∧ cz f 512 < m0) ∨ (w = 0 ∧ cz f 512 ≤ m0 ∧ ∀ (i : Nat) y, R[i]? = some y → mkC o f y y.2.length)) → h_depends_24 d (nI o) w (mA s 18 f) Q) : ∀ (m r : Nat) (w : Int32) (f : Nat → Int32), r + m = R.length → mkS R o f → ((w = 1 ∧ cz f 512 < m0) ∨ (w = 0 ∧ cz f 512 ≤ m0 ∧ ∀ i y, i < r → R[i]? = some y → mkC o f y y.2.length)) → h_depends_32 d (nI o) w (nI r) (mA s 18 f) Q := by
  intro m
  induction m with
  | zero =>
    intro r w f hr hs h
    refine T_depends_32 ?_
    rw [show (mA s 18 f).1 11 = nI R.length from hR.1, if_pos (nI_le (by omega) (by have := hR.2.1; omega))]
    refine q w f hs ?_
    rcases h with h | ⟨e, h1, h2⟩
    · exact Or.inl h
    · exact Or.inr ⟨e, h1, fun i y hy => h2 i y (by have := (List.getElem?_eq_some_iff.mp hy).1; omega) hy⟩
  | succ m ih =>
    intro r w f hr hs h
    have hr' : r < R.length := by omega
    have h24 := hR.2.1
    refine T_depends_32 ?_
    rw [show (mA s 18 f).1 11 = nI R.length from hR.1, if_neg (nI_ge (by omega) (by omega))]
    refine ⟨6 * r, by rw [n_6, nI_mul], by omega, ?_⟩
    have hx := hR.2.2 r R[r] (List.getElem?_eq_getElem hr')
    obtain ⟨w1, w2, w3⟩ := wfR_head (hw R[r] (List.getElem_mem hr'))
    rw [show (mA s 18 f).2.1 14 (6 * r) = nI (lk R[r].1) from (hx.2.2.1.rel w1 w3).1, show (6 : Int32) * nI r + 1 = nI (6 * r + 1 + 0) by rw [n_6, nI_mul, nI_1]]
    refine rs_dep_59 hR hw ho (List.getElem?_eq_getElem hr') (fun w f hs h => ih (r + 1) w f (by omega) hs h) R[r].2.length 0 w f (by omega) hs ?_
    rcases h with h | ⟨e, h1, h2⟩
    · exact Or.inl h
    · exact Or.inr ⟨e, h1, h2, fun _ i l hi => absurd hi (by omega)⟩
theorem rs_dep_end {o : Nat} {R : List Rl} {s : mS} {f : Nat → Int32} {Q : Unit → mS → Prop} (hw : ∀ r ∈ R, wfR r) (ho : o < 512) (hs : mkS R o f) (h2 : ∀ (i : Nat) y, R[i]? = some y → mkC o f y y.2.length) (q : ∀ f : Nat → Int32, (∀ y, y < 512 → f y = 0 ∨ f y = 1) → (∀ y, y < 512 → (f y = 1 ↔ Dep R o y)) → Q () (mA s 18 f)) : Q () (mA s 18 f) := by
  refine q f (fun y hy => (hs y hy).imp id (fun z => z.1)) (fun y hy => ⟨fun h => ?_, fun h => ?_⟩)
  · rcases hs y hy with z | z
    · rw [z] at h
      exact absurd h (by decide)
    · exact z.2
  · have : y < 512 → f y = 1 := by
      refine Dep.ind (x := o) (S := fun y => f y = 1) ?_ h |> fun z _ => z
      intro z y hz hd
      obtain ⟨r, hr, e1, l, hl, hk, e2⟩ := hd
      obtain ⟨i, hi, er⟩ := List.getElem_of_mem hr
      obtain ⟨j, hj, el⟩ := List.getElem_of_mem hl
      have := h2 i r (by rw [List.getElem?_eq_getElem hi, er]) (by rw [e1]; exact hz) j l hj (by rw [List.getElem?_eq_getElem hj, el]) hk
      rw [e2] at this
      exact this
    exact this hy
theorem rs_dep_24 {d o : Nat} {R : List Rl} {s : mS} {Q : Unit → mS → Prop} (hR : rRules s R) (hw : ∀ r ∈ R, wfR r) (ho : o < 512) (q : ∀ f : Nat → Int32, (∀ y, y < 512 → f y = 0 ∨ f y = 1) → (∀ y, y < 512 → (f y = 1 ↔ Dep R o y)) → Q () (mA s 18 f)) : ∀ (m : Nat) (f : Nat → Int32), cz f 512 ≤ m → mkS R o f → h_depends_24 d (nI o) 1 (mA s 18 f) Q := by
  intro m
  induction m with
  | zero =>
    intro f hm hs
    refine T_depends_24 ?_
    rw [if_neg (by decide)]
    refine rs_dep_32 (m0 := 0) hR hw ho ?_ R.length 0 0 f (by omega) hs (Or.inr ⟨rfl, hm, fun i y hi => absurd hi (by omega)⟩)
    intro w f hs h
    rcases h with ⟨_, h⟩ | ⟨e, h1, h2⟩
    · omega
    · refine T_depends_24 ?_
      rw [if_pos e]
      exact rs_dep_end hw ho hs h2 q
  | succ m ih =>
    intro f hm hs
    refine T_depends_24 ?_
    rw [if_neg (by decide)]
    refine rs_dep_32 (m0 := m + 1) hR hw ho ?_ R.length 0 0 f (by omega) hs (Or.inr ⟨rfl, hm, fun i y hi => absurd hi (by omega)⟩)
    intro w f hs h
    rcases h with ⟨e, h⟩ | ⟨e, h1, h2⟩
    · rw [e]
      exact ih f (by omega) hs
    · refine T_depends_24 ?_
      rw [if_pos e]
      exact rs_dep_end hw ho hs h2 q
theorem rs_dep_2 {d o : Nat} {R : List Rl} {s : mS} {Q : Unit → mS → Prop} (hR : rRules s R) (hw : ∀ r ∈ R, wfR r) (ho : o < 512) (q : ∀ f : Nat → Int32, (∀ y, y < 512 → f y = 0 ∨ f y = 1) → (∀ y, y < 512 → (f y = 1 ↔ Dep R o y)) → Q () (mA s 18 f)) : ∀ (m k : Nat) (f : Nat → Int32), k + m = 512 → (∀ y, y < k → f y = 0) → h_depends_2 d (nI o) (nI k) (mA s 18 f) Q := by
  intro m
  induction m with
  | zero =>
    intro k f hk h
    refine T_depends_2 ?_
    rw [if_pos (by rw [show (512 : Int32) = nI 512 from rfl]; exact nI_le (by omega) (by omega))]
    exact rs_dep_24 hR hw ho q _ f (Nat.le_refl _) (fun y hy => Or.inl (h y (by omega)))
  | succ m ih =>
    intro k f hk h
    refine T_depends_2 ?_
    rw [if_neg (by rw [show (512 : Int32) = nI 512 from rfl]; exact nI_ge (by omega) (by decide))]
    refine ⟨k, rfl, by omega, ?_⟩
    rw [nI_1, mA_eq, mA_mA, nar0]
    refine ih (k + 1) _ (by omega) (fun y hy => ?_)
    by_cases e : y = k
    · rw [e, upd_eq]
    · rw [upd_ne e]
      exact h y (by omega)
theorem rq_depends {d o : Nat} {R : List Rl} {s : mS} {Q : Unit → mS → Prop} (hR : rRules s R) (hw : ∀ r ∈ R, wfR r) (ho : o < 512) (q : ∀ f : Nat → Int32, (∀ y, y < 512 → f y = 0 ∨ f y = 1) → (∀ y, y < 512 → (f y = 1 ↔ Dep R o y)) → Q () (mA s 18 f)) : m_depends (d + 1) (nI o) s Q := by
  refine m_depends.of (T_depends_0 ?_)
  have := rs_dep_2 (d := d) hR hw ho q 512 0 (s.2.1 18) rfl (fun y hy => absurd hy (by omega))
  rw [mA_self] at this
  exact this
theorem rRules.m18 {s : mS} {R : List Rl} {f : Nat → Int32} (h : rRules s R) : rRules (mA s 18 f) R := h
theorem rs_circ_20 {d r : Nat} {R : List Rl} {s : mS} {x : Rl} {Q : Int32 → mS → Prop} (hR : rRules s R) (hw : ∀ r ∈ R, wfR r) (hrx : R[r]? = some x) (q1 : ∀ f, flt4 R x → Q 1 (mA s 18 f)) (q0 : ∀ f, ¬ flt4 R x → Q 0 (mA s 18 f)) : ∀ (m j : Nat) (w : Int32) (f : Nat → Int32), j + m = x.2.length → ((w = 1 ∧ flt4 R x) ∨ (w = 0 ∧ ∀ i l, i < j → x.2[i]? = some l → l.1 = 1 → ¬ (lk l = lk x.1 ∨ Dep R (lk l) (lk x.1)))) → h_isCircular_20 (d + 1) (nI r) (nI (lk x.1)) w (nI (6 * r + 1 + j)) (mA s 18 f) Q := by
  have hr : r < R.length := (List.getElem?_eq_some_iff.mp hrx).1
  have h24 := hR.2.1
  have hmem : x ∈ R := List.mem_of_getElem? hrx
  have hwx := hw x hmem
  obtain ⟨w1, w2, w3⟩ := wfR_head hwx
  obtain ⟨b1, b2, b3, b4⟩ := hR.2.2 r x hrx
  have hlk := (b3.rel w1 w3).2.1
  intro m
  induction m with
  | zero =>
    intro j w f hj h
    refine T_isCircular_20 ⟨r, rfl, by omega, ?_⟩
    rw [show (mA s 18 f).2.1 12 r = nI x.2.length from b1, if_pos (by rw [n_6, nI_mul, nI_add]; exact nI_lt (by omega) (by omega))]
    rcases h with ⟨e, h⟩ | ⟨e, h⟩
    · rw [e]
      exact ⟨Or.inr rfl, q1 f h⟩
    · rw [e]
      refine ⟨Or.inl rfl, q0 f (fun z => ?_)⟩
      obtain ⟨l, hl, z1, z2⟩ := z
      obtain ⟨i, hi, el⟩ := List.getElem_of_mem hl
      exact h i l (by omega) (by rw [List.getElem?_eq_getElem hi, el]) z1 z2
  | succ m ih =>
    intro j w f hj h
    have hj' : j < x.2.length := by omega
    have hl := b4 j x.2[j] (List.getElem?_eq_getElem hj')
    have hm : x.2[j] ∈ x.2 := List.getElem_mem hj'
    have hwl := hwx.2.2 _ hm
    refine T_isCircular_20 ⟨r, rfl, by omega, ?_⟩
    rw [show (mA s 18 f).2.1 12 r = nI x.2.length from b1, if_neg (by rw [n_6, nI_mul, nI_add]; exact nI_nlt (by omega) (by omega)), nI_1, show 6 * r + 1 + j + 1 = 6 * r + 1 + (j + 1) by omega]
    refine ⟨6 * r + 1 + j, rfl, by omega, ?_⟩
    rw [show (mA s 18 f).2.1 13 (6 * r + 1 + j) = x.2[j].1 from hl.1]
    have same : ∀ g, (x.2[j].1 = 1 → ¬ (lk x.2[j] = lk x.1 ∨ Dep R (lk x.2[j]) (lk x.1))) → h_isCircular_20 (d + 1) (nI r) (nI (lk x.1)) w (nI (6 * r + 1 + (j + 1))) (mA s 18 g) Q := by
      intro g hno
      refine ih (j + 1) w g (by omega) ?_
      rcases h with h | ⟨e, h⟩
      · exact Or.inl h
      · refine Or.inr ⟨e, fun i l hi hl2 hk => ?_⟩
        by_cases ei : i = j
        · subst ei
          rw [List.getElem?_eq_getElem hj'] at hl2
          cases hl2
          exact hno hk
        · exact h i l (by omega) hl2 hk
    by_cases hk : x.2[j].1 = 1
    · rw [if_pos hk]
      have hk2 : x.2[j].1 ≠ 2 := by rw [hk]; decide
      obtain ⟨g1, g2, _⟩ := hl.rel hwl hk2
      rw [show (mA s 18 f).2.1 14 (6 * r + 1 + j) = nI (lk x.2[j]) from g1]
      refine rq_depends hR.m18 hw g2 ?_
      intro g hg1 hg2
      rw [mA_mA]
      have yes : (lk x.2[j] = lk x.1 ∨ Dep R (lk x.2[j]) (lk x.1)) → h_isCircular_20 (d + 1) (nI r) (nI (lk x.1)) 1 (nI (6 * r + 1 + (j + 1))) (mA s 18 g) Q := fun z => ih (j + 1) 1 g (by omega) (Or.inl ⟨rfl, _, hm, hk, z⟩)
      rcases h with ⟨e, h⟩ | ⟨e, h⟩
      · rw [e, if_neg (by decide)]
        exact ih (j + 1) 1 g (by omega) (Or.inl ⟨rfl, h⟩)
      · subst e
        rw [if_pos rfl, show (mA s 18 g).2.1 14 (6 * r + 1 + j) = nI (lk x.2[j]) from g1]
        by_cases e1 : lk x.2[j] = lk x.1
        · rw [if_pos (by rw [e1])]
          exact yes (Or.inl e1)
        · rw [if_neg (fun z => e1 ((nI_eq (by omega) (by omega)).mp z))]
          refine ⟨lk x.1, rfl, hlk, ?_⟩
          rw [mA_eq]
          by_cases e2 : g (lk x.1) = 0
          · rw [if_pos e2]
            refine same g (fun _ z => ?_)
            rcases z with z | z
            · exact e1 z
            · have := (hg2 _ hlk).mpr z
              rw [e2] at this
              exact absurd this (by decide)
          · rw [if_neg e2]
            exact yes (Or.inr ((hg2 _ hlk).mp ((hg1 _ hlk).resolve_left e2)))
    · rw [if_neg hk]
      exact same f (fun z => absurd z hk)
theorem rq_isCircular {d r : Nat} {R : List Rl} {s : mS} {x : Rl} {Q : Int32 → mS → Prop} (hR : rRules s R) (hw : ∀ r ∈ R, wfR r) (hrx : R[r]? = some x) (q1 : ∀ f, flt4 R x → Q 1 (mA s 18 f)) (q0 : ∀ f, ¬ flt4 R x → Q 0 (mA s 18 f)) : m_isCircular (d + 2) (nI r) s Q := by
  have hr : r < R.length := (List.getElem?_eq_some_iff.mp hrx).1
  have h24 := hR.2.1
  obtain ⟨w1, w2, w3⟩ := wfR_head (hw x (List.mem_of_getElem? hrx))
  refine m_isCircular.of (T_isCircular_0 ⟨6 * r, by rw [n_6, nI_mul], by omega, ?_⟩)
  rw [((hR.2.2 r x hrx).2.2.1.rel w1 w3).1, show (6 : Int32) * nI r + 1 = nI (6 * r + 1 + 0) by rw [n_6, nI_mul, nI_1]]
  have := rs_circ_20 (d := d) hR hw hrx q1 q0 x.2.length 0 0 (s.2.1 18) (by omega) (Or.inr ⟨rfl, fun i l hi => absurd hi (by omega)⟩)
  rw [mA_self] at this
  exact this
theorem rq_isMixed {d r : Nat} {R : List Rl} {s : mS} {x : Rl} {Q : Int32 → mS → Prop} (hR : rRules s R) (hw : ∀ r ∈ R, wfR r) (hrx : R[r]? = some x) (q1 : ∀ f, flt5 R x → Q 1 (mA s 18 f)) (q0 : ∀ f, ¬ flt5 R x → Q 0 (mA s 18 f)) : m_isMixed (d + 2) (nI r) s Q := by
  have hr : r < R.length := (List.getElem?_eq_some_iff.mp hrx).1
  have h24 := hR.2.1
  obtain ⟨w1, w2, w3⟩ := wfR_head (hw x (List.mem_of_getElem? hrx))
  obtain ⟨g1, g2, g3, _⟩ := (hR.2.2 r x hrx).2.2.1.rel w1 w3
  refine m_isMixed.of (T_isMixed_0 ⟨6 * r, by rw [n_6, nI_mul], by omega, ?_⟩)
  rw [g3, g1]
  have key : ∀ {f : Nat → Int32}, (∀ y, y < 512 → f y = 0 ∨ f y = 1) → (∀ y, y < 512 → (f y = 1 ↔ Dep R (lk x.1) y)) → ∀ y, y < 512 → (f y = 0 ∧ ¬ Dep R (lk x.1) y) ∨ (f y = 1 ∧ Dep R (lk x.1) y) := by
    intro f h1 h2 y hy
    rcases h1 y hy with z | z
    · refine Or.inl ⟨z, fun w => ?_⟩
      have := (h2 y hy).mpr w
      rw [z] at this
      exact absurd this (by decide)
    · exact Or.inr ⟨z, (h2 y hy).mp z⟩
  have other : (x.1.2.1 = 76 ∨ x.1.2.1 = 71 ∨ x.1.2.1 = 69) → ¬ x.1.2.1 = 73 → m_depends (d + 1) (nI (lk x.1)) s (fun _ s6 => ((s6.2.1 18 274) = 0 ∨ (s6.2.1 18 274) = 1) ∧ (Q (s6.2.1 18 274) s6)) := by
    intro hc hn
    refine rq_depends hR hw g2 (fun f h1 h2 => ?_)
    rw [mA_eq]
    rcases key h1 h2 274 (by decide) with ⟨z1, z2⟩ | ⟨z1, z2⟩
    · rw [z1]
      refine ⟨Or.inl rfl, q0 f (fun z => ?_)⟩
      rcases z with z | z
      · exact hn z.1
      · exact z2 z.2
    · rw [z1]
      exact ⟨Or.inr rfl, q1 f (Or.inr ⟨hc, z2⟩)⟩
  by_cases c1 : x.1.2.1 = 73
  · rw [if_pos c1]
    refine rq_depends hR hw g2 (fun f h1 h2 => ?_)
    rw [mA_eq]
    have yes : (Dep R (lk x.1) 274 ∨ Dep R (lk x.1) 337 ∨ Dep R (lk x.1) 306 ∨ Dep R (lk x.1) 286 ∨ Dep R (lk x.1) 276) → Q 1 (mA s 18 f) := fun z => q1 f (Or.inl ⟨c1, z⟩)
    rcases key h1 h2 274 (by decide) with ⟨a1, a2⟩ | ⟨a1, a2⟩
    · rw [if_pos a1]
      rcases key h1 h2 337 (by decide) with ⟨b1, b2⟩ | ⟨b1, b2⟩
      · rw [if_pos b1]
        rcases key h1 h2 306 (by decide) with ⟨e1, e2⟩ | ⟨e1, e2⟩
        · rw [if_pos e1]
          rcases key h1 h2 286 (by decide) with ⟨i1, i2⟩ | ⟨i1, i2⟩
          · rw [if_pos i1]
            rcases key h1 h2 276 (by decide) with ⟨j1, j2⟩ | ⟨j1, j2⟩
            · rw [if_pos j1]
              refine q0 f (fun z => ?_)
              rcases z with z | z
              · exact z.2.elim a2 (fun z => z.elim b2 (fun z => z.elim e2 (fun z => z.elim i2 j2)))
              · exact a2 z.2
            · rw [if_neg (by rw [j1]; decide)]
              exact yes (Or.inr (Or.inr (Or.inr (Or.inr j2))))
          · rw [if_neg (by rw [i1]; decide)]
            exact yes (Or.inr (Or.inr (Or.inr (Or.inl i2))))
        · rw [if_neg (by rw [e1]; decide)]
          exact yes (Or.inr (Or.inr (Or.inl e2)))
      · rw [if_neg (by rw [b1]; decide)]
        exact yes (Or.inr (Or.inl b2))
    · rw [if_neg (by rw [a1]; decide)]
      exact yes (Or.inl a2)
  · rw [if_neg c1]
    by_cases c2 : x.1.2.1 = 76
    · rw [if_pos c2]
      exact other (Or.inl c2) c1
    · rw [if_neg c2]
      by_cases c3 : x.1.2.1 = 71
      · rw [if_pos c3]
        exact other (Or.inr (Or.inl c3)) c1
      · rw [if_neg c3]
        by_cases c4 : x.1.2.1 = 69
        · rw [if_pos c4]
          exact other (Or.inr (Or.inr c4)) c1
        · rw [if_neg c4]
          have := q0 (s.2.1 18) (fun z => z.elim (fun z => c1 z.1) (fun z => z.1.elim c2 (fun z => z.elim c3 c4)))
          rw [mA_self] at this
          exact this
