/-! the reference: layers; isWell -/
def kd (l : Lt) : Nat := if l.1 = 1 then 1 else 0
theorem kd_eq {l : Lt} (h : l.1 = 0 ∨ l.1 = 1) : l.1 = nI (kd l) ∧ kd l ≤ 1 := by
  unfold kd
  rcases h with h | h
  · rw [h, if_neg (by decide)]
    exact ⟨rfl, by decide⟩
  · rw [h, if_pos rfl]
    exact ⟨rfl, by decide⟩
def ms (n : Nat → Nat) : Nat → Nat
  | 0 => 0
  | k + 1 => ms n k + (24 - n k)
def upn (n : Nat → Nat) (k v : Nat) : Nat → Nat := fun j => if j = k then v else n j
theorem ms_out {n : Nat → Nat} {k v : Nat} : ∀ m, m ≤ k → ms (upn n k v) m = ms n m := by
  intro m
  induction m with
  | zero => intro _; rfl
  | succ m ih =>
    intro h
    rw [ms, ms, ih (by omega)]
    unfold upn
    rw [if_neg (by omega)]
theorem ms_upd {n : Nat → Nat} {k v : Nat} (h1 : n k < v) (h2 : v ≤ 24) : ∀ m, k < m → ms (upn n k v) m < ms n m := by
  intro m
  induction m with
  | zero => intro h; omega
  | succ m ih =>
    intro h
    rw [ms, ms]
    by_cases e : k = m
    · subst e
      rw [ms_out k (Nat.le_refl _)]
      unfold upn
      rw [if_pos rfl]
      omega
    · have := ih (by omega)
      have e2 : upn n k v m = n m := by
        unfold upn
        rw [if_neg (by omega)]
      rw [e2]
      omega
def lyS (R : List Rl) (f : Nat → Int32) (n : Nat → Nat) : Prop := ∀ y, y < 512 → f y = nI (n y) ∧ n y ≤ cReach R y
def lyC (n : Nat → Nat) (x : Rl) (j : Nat) : Prop := ∀ i l, i < j → x.2[i]? = some l → l.1 ≠ 2 → n (lk l) + kd l ≤ n (lk x.1)
theorem rs_lay_58 {d r m0 : Nat} {R : List Rl} {s : mS} {x : Rl} {Q : Unit → mS → Prop} (hR : rRules s R) (hw : ∀ r ∈ R, wfR r) (h4 : ∀ x ∈ R, ¬ flt4 R x) (hrx : R[r]? = some x) (q : ∀ (w : Int32) (f : Nat → Int32) (n : Nat → Nat), lyS R f n → ((w = 1 ∧ ms n 512 < m0) ∨ (w = 0 ∧ ms n 512 ≤ m0 ∧ ∀ (i : Nat) y, i < r + 1 → R[i]? = some y → lyC n y y.2.length)) → h_layers_32 d w (nI (r + 1)) (mA s 19 f) Q) : ∀ (m j : Nat) (w : Int32) (f : Nat → Int32) (n : Nat → Nat), j + m = x.2.length → lyS R f n → ((w = 1 ∧ ms n 512 < m0) ∨ (w = 0 ∧ ms n 512 ≤ m0 ∧ (∀ (i : Nat) y, i < r → R[i]? = some y → lyC n y y.2.length) ∧ lyC n x j)) → h_layers_58 d w (nI r) (nI (lk x.1)) (nI (6 * r + 1 + j)) (mA s 19 f) Q := by
  have hr : r < R.length := (List.getElem?_eq_some_iff.mp hrx).1
  have h24 := hR.2.1
  have hmem : x ∈ R := List.mem_of_getElem? hrx
  have hwx := hw x hmem
  obtain ⟨w1, w2, w3⟩ := wfR_head hwx
  obtain ⟨b1, b2, b3, b4⟩ := hR.2.2 r x hrx
  have hlk := (b3.rel w1 w3).2.1
  intro m
  induction m with
  | zero =>
    intro j w f n hj hs h
    refine T_layers_58 ⟨r, rfl, by omega, ?_⟩
    rw [show (mA s 19 f).2.1 12 r = nI x.2.length from b1, if_pos (by rw [n_6, nI_mul, nI_add]; exact nI_lt (by omega) (by omega)), nI_1]
    refine q w f n hs ?_
    rcases h with h | ⟨e, h1, h2, h3⟩
    · exact Or.inl h
    · refine Or.inr ⟨e, h1, fun i y hi hy => ?_⟩
      by_cases ei : i = r
      · subst ei
        rw [hrx] at hy
        cases hy
        rw [← show j = x.2.length by omega]
        exact h3
      · exact h2 i y (by omega) hy
  | succ m ih =>
    intro j w f n hj hs h
    have hj' : j < x.2.length := by omega
    have hl := b4 j x.2[j] (List.getElem?_eq_getElem hj')
    have hm : x.2[j] ∈ x.2 := List.getElem_mem hj'
    have hwl := hwx.2.2 _ hm
    refine T_layers_58 ⟨r, rfl, by omega, ?_⟩
    rw [show (mA s 19 f).2.1 12 r = nI x.2.length from b1, if_neg (by rw [n_6, nI_mul, nI_add]; exact nI_nlt (by omega) (by omega)), nI_1, show 6 * r + 1 + j + 1 = 6 * r + 1 + (j + 1) by omega]
    refine ⟨6 * r + 1 + j, rfl, by omega, ?_⟩
    rw [show (mA s 19 f).2.1 13 (6 * r + 1 + j) = x.2[j].1 from hl.1]
    have same : (x.2[j].1 ≠ 2 → n (lk x.2[j]) + kd x.2[j] ≤ n (lk x.1)) → h_layers_58 d w (nI r) (nI (lk x.1)) (nI (6 * r + 1 + (j + 1))) (mA s 19 f) Q := by
      intro hno
      refine ih (j + 1) w f n (by omega) hs ?_
      rcases h with h | ⟨e, h1, h2, h3⟩
      · exact Or.inl h
      · refine Or.inr ⟨e, h1, h2, fun i l hi hl2 hk => ?_⟩
        by_cases ei : i = j
        · subst ei
          rw [List.getElem?_eq_getElem hj'] at hl2
          cases hl2
          exact hno hk
        · exact h3 i l (by omega) hl2 hk
    have c24 := cReach_le R (lk x.1)
    have hn1 := hs _ hlk
    by_cases hk : x.2[j].1 = 2
    · rw [if_pos hk]
      refine ⟨lk x.1, rfl, hlk, ?_⟩
      rw [mA_eq, hn1.1, if_pos (nI_pos' (by omega))]
      exact same (fun z => absurd hk z)
    · rw [if_neg hk]
      have h01 := (wfL_atom hwl hk).2
      obtain ⟨k1, k2⟩ := kd_eq h01
      obtain ⟨g1, g2, _⟩ := hl.rel hwl hk
      refine ⟨lk x.2[j], g1, g2, lk x.1, rfl, hlk, ?_⟩
      have c25 := cReach_le R (lk x.2[j])
      have hn2 := hs _ g2
      have hdep := cReach_dep h4 hmem hm hk
      have hle : n (lk x.2[j]) + kd x.2[j] ≤ cReach R (lk x.1) := by
        unfold kd
        by_cases e1 : x.2[j].1 = 1
        · rw [if_pos e1]
          have := hdep.2 e1
          omega
        · rw [if_neg e1]
          have := hdep.1
          omega
      rw [mA_eq, mA_mA, hn2.1, hn1.1]
      generalize hv : n (lk x.2[j]) + kd x.2[j] = v at *
      rw [show nI (n (lk x.2[j])) + x.2[j].1 = nI v by rw [k1, nI_add, hv]]
      by_cases hc : v ≤ n (lk x.1)
      · rw [if_pos (nI_le hc (by omega))]
        exact same (fun _ => hc)
      · rw [if_neg (nI_ge (by omega) (by omega))]
        refine ih (j + 1) 1 _ (upn n (lk x.1) v) (by omega) ?_ (Or.inl ⟨rfl, ?_⟩)
        · intro y hy
          unfold upn
          by_cases ey : y = lk x.1
          · subst ey
            rw [upd_eq, if_pos rfl]
            exact ⟨rfl, hle⟩
          · rw [upd_ne ey, if_neg ey]
            exact hs y hy
        · have := ms_upd (n := n) (k := lk x.1) (v := v) (by omega) (by omega) 512 hlk
          rcases h with h | h
          · omega
          · omega
theorem rs_lay_32 {d m0 : Nat} {R : List Rl} {s : mS} {Q : Unit → mS → Prop} (hR : rRules s R) (hw : ∀ r ∈ R, wfR r) (h4 : ∀ x ∈ R, ¬ flt4 R x) (q : ∀ (w : Int32) (f : Nat → Int32) (n : Nat → Nat), lyS R f n → ((w = 1 ∧ ms n 512 < m0) ∨ (w = 0 ∧ ms n 512 ≤ m0 ∧ ∀ (i : Nat) y, R[i]? = some y → lyC n y y.2.length)) → h_layers_24 d w (mA s 19 f) Q) : ∀ (m r : Nat) (w : Int32) (f : Nat → Int32) (n : Nat → Nat), r + m = R.length → lyS R f n → ((w = 1 ∧ ms n 512 < m0) ∨ (w = 0 ∧ ms n 512 ≤ m0 ∧ ∀ (i : Nat) y, i < r → R[i]? = some y → lyC n y y.2.length)) → h_layers_32 d w (nI r) (mA s 19 f) Q := by
  intro m
  induction m with
  | zero =>
    intro r w f n hr hs h
    refine T_layers_32 ?_
    rw [show (mA s 19 f).1 11 = nI R.length from hR.1, if_pos (nI_le (by omega) (by have := hR.2.1; omega))]
    refine q w f n hs ?_
    rcases h with h | ⟨e, h1, h2⟩
    · exact Or.inl h
    · exact Or.inr ⟨e, h1, fun i y hy => h2 i y (by have := (List.getElem?_eq_some_iff.mp hy).1; omega) hy⟩
  | succ m ih =>
    intro r w f n hr hs h
    have hr' : r < R.length := by omega
    have h24 := hR.2.1
    refine T_layers_32 ?_
    rw [show (mA s 19 f).1 11 = nI R.length from hR.1, if_neg (nI_ge (by omega) (by omega))]
    refine ⟨6 * r, by rw [n_6, nI_mul], by omega, ?_⟩
    have hx := hR.2.2 r R[r] (List.getElem?_eq_getElem hr')
    obtain ⟨w1, w2, w3⟩ := wfR_head (hw R[r] (List.getElem_mem hr'))
    rw [show (mA s 19 f).2.1 14 (6 * r) = nI (lk R[r].1) from (hx.2.2.1.rel w1 w3).1, show (6 : Int32) * nI r + 1 = nI (6 * r + 1 + 0) by rw [n_6, nI_mul, nI_1]]
    refine rs_lay_58 hR hw h4 (List.getElem?_eq_getElem hr') (fun w f n hs h => ih (r + 1) w f n (by omega) hs h) R[r].2.length 0 w f n (by omega) hs ?_
    rcases h with h | ⟨e, h1, h2⟩
    · exact Or.inl h
    · exact Or.inr ⟨e, h1, h2, fun i l hi => absurd hi (by omega)⟩
/-- layers that are as they must be -/
def lyOk (R : List Rl) (f : Nat → Int32) (n : Nat → Nat) : Prop := (∀ y, y < 512 → f y = nI (n y) ∧ n y ≤ 24) ∧ ∀ x ∈ R, ∀ l ∈ x.2, l.1 ≠ 2 → n (lk l) + kd l ≤ n (lk x.1)
theorem rs_lay_end {R : List Rl} {f : Nat → Int32} {n : Nat → Nat} (h24 : R.length ≤ 24) (hs : lyS R f n) (h2 : ∀ (i : Nat) y, R[i]? = some y → lyC n y y.2.length) : lyOk R f n := by
  refine ⟨fun y hy => ⟨(hs y hy).1, ?_⟩, fun x hx l hl hk => ?_⟩
  · have := cReach_le R y
    have := (hs y hy).2
    omega
  · obtain ⟨i, hi, er⟩ := List.getElem_of_mem hx
    obtain ⟨j, hj, el⟩ := List.getElem_of_mem hl
    exact h2 i x (by rw [List.getElem?_eq_getElem hi, er]) j l hj (by rw [List.getElem?_eq_getElem hj, el]) hk
theorem rs_lay_24 {d : Nat} {R : List Rl} {s : mS} {Q : Unit → mS → Prop} (hR : rRules s R) (hw : ∀ r ∈ R, wfR r) (h4 : ∀ x ∈ R, ¬ flt4 R x) (q : ∀ f n, lyOk R f n → Q () (mA s 19 f)) : ∀ (m : Nat) (f : Nat → Int32) (n : Nat → Nat), ms n 512 ≤ m → lyS R f n → h_layers_24 d 1 (mA s 19 f) Q := by
  intro m
  induction m with
  | zero =>
    intro f n hm hs
    refine T_layers_24 ?_
    rw [if_neg (by decide)]
    refine rs_lay_32 (m0 := 0) hR hw h4 ?_ R.length 0 0 f n (by omega) hs (Or.inr ⟨rfl, hm, fun i y hi => absurd hi (by omega)⟩)
    intro w f n hs h
    rcases h with ⟨_, h⟩ | ⟨e, h1, h2⟩
    · omega
    · refine T_layers_24 ?_
      rw [if_pos e]
      exact q f n (rs_lay_end hR.2.1 hs h2)
  | succ m ih =>
    intro f n hm hs
    refine T_layers_24 ?_
    rw [if_neg (by decide)]
    refine rs_lay_32 (m0 := m + 1) hR hw h4 ?_ R.length 0 0 f n (by omega) hs (Or.inr ⟨rfl, hm, fun i y hi => absurd hi (by omega)⟩)
    intro w f n hs h
    rcases h with ⟨e, h⟩ | ⟨e, h1, h2⟩
    · rw [e]
      exact ih f n (by omega) hs
    · refine T_layers_24 ?_
      rw [if_pos e]
      exact q f n (rs_lay_end hR.2.1 hs h2)
theorem rs_lay_2 {d : Nat} {R : List Rl} {s : mS} {Q : Unit → mS → Prop} (hR : rRules s R) (hw : ∀ r ∈ R, wfR r) (h4 : ∀ x ∈ R, ¬ flt4 R x) (q : ∀ f n, lyOk R f n → Q () (mA s 19 f)) : ∀ (m k : Nat) (f : Nat → Int32), k + m = 512 → (∀ y, y < k → f y = 0) → h_layers_2 d (nI k) (mA s 19 f) Q := by
  intro m
  induction m with
  | zero =>
    intro k f hk h
    refine T_layers_2 ?_
    rw [if_pos (by rw [show (512 : Int32) = nI 512 from rfl]; exact nI_le (by omega) (by omega))]
    exact rs_lay_24 hR hw h4 q _ f (fun _ => 0) (Nat.le_refl _) (fun y hy => ⟨h y (by omega), Nat.zero_le _⟩)
  | succ m ih =>
    intro k f hk h
    refine T_layers_2 ?_
    rw [if_neg (by rw [show (512 : Int32) = nI 512 from rfl]; exact nI_ge (by omega) (by decide))]
    refine ⟨k, rfl, by omega, ?_⟩
    rw [nI_1, mA_eq, mA_mA]
    refine ih (k + 1) _ (by omega) (fun y hy => ?_)
    by_cases e : y = k
    · rw [e, upd_eq]
    · rw [upd_ne e]
      exact h y (by omega)
theorem rq_layers {d : Nat} {R : List Rl} {s : mS} {Q : Unit → mS → Prop} (hR : rRules s R) (hw : ∀ r ∈ R, wfR r) (h4 : ∀ x ∈ R, ¬ flt4 R x) (q : ∀ f n, lyOk R f n → Q () (mA s 19 f)) : m_layers (d + 1) s Q := by
  refine m_layers.of (T_layers_0 ?_)
  have := rs_lay_2 (d := d) hR hw h4 q 512 0 (s.2.1 19) rfl (fun y hy => absurd hy (by omega))
  rw [mA_self] at this
  exact this
/-- all as it was but fault, place, and what is read -/
def frW (s s' : mS) : Prop := (∀ i, i ≠ 6 → i ≠ 7 → i ≠ 10 → i ≠ 11 → s'.1 i = s.1 i) ∧ (∀ i, (i < 12 ∨ 19 < i) → s'.2.1 i = s.2.1 i) ∧ s'.2.2 = s.2.2
theorem frW.m {s s' : mS} {k : Nat} {f : Nat → Int32} (h : frW s s') (hk : 12 ≤ k ∧ k ≤ 19) : frW s (mA s' k f) := ⟨h.1, fun i hi => (mA_ne (by omega)).trans (h.2.1 i hi), h.2.2⟩
theorem frW.i {s s' : mS} {k : Nat} {v : Int32} (h : frW s s') (hk : k = 6 ∨ k = 7) : frW s (mI s' k v) := by
  refine ⟨fun i h1 h2 h3 h4 => ?_, h.2.1, h.2.2⟩
  show (if i = k then v else s'.1 i) = s.1 i
  rw [if_neg (by omega)]
  exact h.1 i h1 h2 h3 h4
theorem rs_well_42 {d fk : Nat} {R : List Rl} {s0 : mS} {Q : Int32 → mS → Prop} (hw : ∀ r ∈ R, wfR r) (hf : 2 ≤ fk) (hf6 : fk < 6) (hprev : ∀ f', 2 ≤ f' → f' < fk → ∀ x ∈ R, ¬ flt R f' x) (qf : ∀ s' f r, flFirst R f r → frW s0 s' → s'.1 6 = nI f → s'.1 7 = nI r → Q 0 s') (qn : ∀ s', rRules s' R → frW s0 s' → s'.1 6 = 0 → s'.1 7 = 0 → (∀ x ∈ R, ¬ flt R fk x) → h_isWell_34 (d + 4) (nI (fk + 1)) s' Q) : ∀ (m r : Nat) (s : mS), r + m = R.length → rRules s R → frW s0 s → s.1 6 = 0 → s.1 7 = 0 → (∀ (i : Nat) x, i < r → R[i]? = some x → ¬ flt R fk x) → h_isWell_42 (d + 4) (nI fk) (nI r) s Q := by
  intro m
  induction m with
  | zero =>
    intro r s hr hR hfr h6 h7 hno
    refine T_isWell_42 ?_
    rw [hR.1, if_pos (nI_le (by omega) (by have := hR.2.1; omega)), nI_1]
    refine qn s hR hfr h6 h7 (fun x hx => ?_)
    obtain ⟨i, hi, er⟩ := List.getElem_of_mem hx
    exact hno i x (by omega) (by rw [List.getElem?_eq_getElem hi, er])
  | succ m ih =>
    intro r s hr hR hfr h6 h7 hno
    have hr' : r < R.length := by omega
    have h24 := hR.2.1
    have hrx : R[r]? = some R[r] := List.getElem?_eq_getElem hr'
    have hwx := hw _ (List.getElem_mem hr')
    refine T_isWell_42 ?_
    rw [hR.1, if_neg (nI_ge (by omega) (by omega)), nI_1]
    have bad : ∀ s', frW s0 s' → flt R fk R[r] → Q 0 (mI (mI s' 6 (nI fk)) 7 (nI r)) := by
      intro s' hfr' hb
      exact qf _ fk r ⟨hf, hf6, ⟨_, hrx, hb⟩, hno, hprev⟩ ((hfr'.i (Or.inl rfl)).i (Or.inr rfl)) rfl rfl
    have good : ∀ s', rRules s' R → frW s0 s' → s'.1 6 = 0 → s'.1 7 = 0 → ¬ flt R fk R[r] → h_isWell_42 (d + 4) (nI fk) (nI (r + 1)) s' Q := by
      intro s' a1 a2 a3 a4 a5
      refine ih (r + 1) s' (by omega) a1 a2 a3 a4 (fun i x hi hx => ?_)
      by_cases ei : i = r
      · subst ei
        rw [hrx] at hx
        cases hx
        exact a5
      · exact hno i x (by omega) hx
    by_cases e2 : fk = 2
    · have ef : flt R fk R[r] = flt2 R[r] := by
        unfold flt
        rw [if_pos e2]
      rw [if_pos (by rw [e2]; rfl)]
      refine rq_isHeadWrong (by omega) (hR.2.2 r _ hrx) hwx (fun z => ?_) (fun z => ?_)
      · rw [if_neg (by decide)]
        exact bad s hfr (by rw [ef]; exact z)
      · rw [if_pos rfl]
        exact good s hR hfr h6 h7 (by rw [ef]; exact z)
    · rw [if_neg (by rw [n_2, nI_eq (by omega) (by decide)]; exact e2)]
      by_cases e3 : fk = 3
      · have ef : flt R fk R[r] = flt3 R[r] := by
          unfold flt
          rw [if_neg e2, if_pos e3]
        rw [if_pos (by rw [e3]; rfl)]
        refine rq_isLoose (by omega) (hR.2.2 r _ hrx) hwx (fun z => ?_) (fun z => ?_)
        · rw [if_neg (by decide)]
          exact bad s hfr (by rw [ef]; exact z)
        · rw [if_pos rfl]
          exact good s hR hfr h6 h7 (by rw [ef]; exact z)
      · rw [if_neg (by rw [n_3, nI_eq (by omega) (by decide)]; exact e3)]
        by_cases e4 : fk = 4
        · have ef : flt R fk R[r] = flt4 R R[r] := by
            unfold flt
            rw [if_neg e2, if_neg e3, if_pos e4]
          rw [if_pos (by rw [e4]; rfl)]
          refine rq_isCircular hR hw hrx (fun g z => ?_) (fun g z => ?_)
          · rw [if_neg (by decide)]
            exact bad _ (hfr.m (by decide)) (by rw [ef]; exact z)
          · rw [if_pos rfl]
            exact good _ hR.m18 (hfr.m (by decide)) h6 h7 (by rw [ef]; exact z)
        · have ef : flt R fk R[r] = flt5 R R[r] := by
            unfold flt
            rw [if_neg e2, if_neg e3, if_neg e4]
          rw [if_neg (by rw [n_4, nI_eq (by omega) (by decide)]; exact e4)]
          refine rq_isMixed hR hw hrx (fun g z => ?_) (fun g z => ?_)
          · rw [if_neg (by decide)]
            exact bad _ (hfr.m (by decide)) (by rw [ef]; exact z)
          · rw [if_pos rfl]
            exact good _ hR.m18 (hfr.m (by decide)) h6 h7 (by rw [ef]; exact z)
theorem rs_well_34 {d : Nat} {R : List Rl} {s0 : mS} {Q : Int32 → mS → Prop} (hw : ∀ r ∈ R, wfR r) (qf : ∀ s' f r, flFirst R f r → frW s0 s' → s'.1 6 = nI f → s'.1 7 = nI r → Q 0 s') (qw : ∀ s' n, flNone R → frW s0 s' → s'.1 6 = 0 → s'.1 7 = 0 → rRules s' R → lyOk R (s'.2.1 19) n → Q 1 s') : ∀ (m fk : Nat) (s : mS), fk + m = 6 → 2 ≤ fk → rRules s R → frW s0 s → s.1 6 = 0 → s.1 7 = 0 → (∀ f', 2 ≤ f' → f' < fk → ∀ x ∈ R, ¬ flt R f' x) → h_isWell_34 (d + 4) (nI fk) s Q := by
  intro m
  induction m with
  | zero =>
    intro fk s hm h2 hR hfr h6 h7 hno
    refine T_isWell_34 ?_
    rw [if_pos (by rw [n_6]; exact nI_le (by omega) (by omega))]
    refine rq_layers hR hw (fun x hx => ?_) (fun f n hl => ?_)
    · have := hno 4 (by decide) (by omega) x hx
      unfold flt at this
      rw [if_neg (by decide), if_neg (by decide), if_pos rfl] at this
      exact this
    · exact qw _ n (fun f a1 a2 x hx => hno f a1 (by omega) x hx) (hfr.m (by decide)) h6 h7 hR hl
  | succ m ih =>
    intro fk s hm h2 hR hfr h6 h7 hno
    refine T_isWell_34 ?_
    rw [if_neg (by rw [n_6]; exact nI_ge (by omega) (by decide))]
    refine rs_well_42 (s0 := s0) hw h2 (by omega) hno qf (fun s' a1 a2 a3 a4 a5 => ?_) R.length 0 s (by omega) hR hfr h6 h7 (fun i x hi => absurd hi (by omega))
    refine ih (fk + 1) s' (by omega) (by omega) a1 a2 a3 a4 (fun f' b1 b2 x hx => ?_)
    by_cases e : f' = fk
    · rw [e]
      exact a5 x hx
    · exact hno f' b1 (by omega) x hx
theorem rq_isWell {d : Nat} {T : List Int32} {s : mS} {Q : Int32 → mS → Prop} (hT : T.length ≤ 240) (h9 : s.1 9 = nI T.length) (h8 : ∀ k, k < T.length → s.2.1 8 k = T.getD k 0) (qp : ∀ s' l', ps_all 24 [] T = (none, l') → frW s s' → s'.1 6 = 1 → s'.1 7 = nI (T.length - l'.length) → Q 0 s') (qf : ∀ s' R l' f r, ps_all 24 [] T = (some R, l') → flFirst R f r → frW s s' → s'.1 6 = nI f → s'.1 7 = nI r → Q 0 s') (qw : ∀ s' R l' n, ps_all 24 [] T = (some R, l') → flNone R → frW s s' → s'.1 6 = 0 → s'.1 7 = 0 → rRules s' R → lyOk R (s'.2.1 19) n → Q 1 s') : m_isWell (d + 8) s Q := by
  refine m_isWell.of (T_isWell_0 ?_)
  refine rq_read (T := T) hT h9 h8 ?_
  intro s3 l3 f3 r3
  have f3' : frW s s3 := by
    obtain ⟨a1, a2, a3⟩ := f3
    refine ⟨fun i h1 h2 h3 h4 => ?_, fun i hi => a2 i (by omega), a3⟩
    rw [a1 i h3 h4]
    show (if i = 7 then (0 : Int32) else if i = 6 then 0 else s.1 i) = s.1 i
    rw [if_neg h2, if_neg h1]
  have h6 : s3.1 6 = 0 := (f3.1 6 (by decide) (by decide)).trans rfl
  have h7 : s3.1 7 = 0 := (f3.1 7 (by decide) (by decide)).trans rfl
  refine ⟨fun R eR hR => ?_, fun eR => ?_⟩
  · rw [if_neg (by decide)]
    have hw := (ps_all_wf 24 [] T rfl (fun r hr => absurd hr (by simp)) R l3 eR).1
    exact rs_well_34 (s0 := s) hw (fun s' f r a1 a2 a3 a4 => qf s' R l3 f r eR a1 a2 a3 a4) (fun s' n a1 a2 a3 a4 a5 a6 => qw s' R l3 n eR a1 a2 a3 a4 a5 a6) 4 2 s3 rfl (by decide) hR f3' h6 h7 (fun f' b1 b2 => absurd b2 (by omega))
  · rw [if_pos rfl]
    refine qp _ l3 eR ((f3'.i (Or.inl rfl)).i (Or.inr rfl)) rfl ?_
    show s3.1 10 = _
    obtain ⟨k, h4, h5, _⟩ := r3.get
    rw [h5, show k = T.length - l3.length by omega]
