/-! the reference's reader: literals, rules, the sheet -/
theorem rel_and : ∀ m, m < 128 → ∀ n, n < 4 → ((4 : Int32) * nI m + nI n) &&& 3 = nI n ∧ ((4 : Int32) * nI m + nI n) / 4 = nI m := by decide +kernel
theorem wfA_nat {c : Int32} {ts : List Tm} (h : wfA c ts) : ∃ m, 65 ≤ m ∧ m < 128 ∧ c = nI m := by
  rcases h.1 with h1 | h1
  · obtain ⟨m, h2, h3⟩ := nI_of2 (x := c) (M := 122) (n := 122) rfl (Int32.not_lt.mpr (Int32.le_trans (by decide) h1.1)) h1.2
    subst h3
    have := (nI_leI (a := 97) (b := m) (by decide) (by omega)).mp h1.1
    exact ⟨m, by omega, by omega, rfl⟩
  · have h2 := h1.1
    unfold chK at h2
    repeat' split at h2
    all_goals first | exact ⟨82, by decide, by decide, by assumption⟩ | exact ⟨73, by decide, by decide, by assumption⟩ | exact ⟨84, by decide, by decide, by assumption⟩ | exact ⟨78, by decide, by decide, by assumption⟩ | exact ⟨68, by decide, by decide, by assumption⟩ | exact ⟨76, by decide, by decide, by assumption⟩ | exact ⟨71, by decide, by decide, by assumption⟩ | exact ⟨69, by decide, by decide, by assumption⟩ | exact absurd h2 (by decide)
theorem rs_bt_51 {d a : Nat} {x2 c : Int32} {Q : Int32 → mS → Prop} (ha : a < 144) : ∀ (k : Nat) (s : mS), k ≤ 3 → (∀ s', fr 24 144 144 (3 * a) s s' → s'.2.1 15 = s.2.1 15 → s'.2.1 16 = s.2.1 16 → s'.1 = s.1 → (∀ j, 9 * a + k ≤ j → s'.2.1 17 j = s.2.1 17 j) → (∀ i, i < k → s'.2.1 17 (9 * a + i) = s.2.1 17 (9 * a + 3 * i)) → h_becomesTerm_51 d (nI a) x2 c (-1) s' Q) → h_becomesTerm_51 d (nI a) x2 c (nI k - 1) s Q := by
  intro k
  induction k with
  | zero =>
    intro s _ q
    rw [show nI 0 - 1 = (-1 : Int32) from by decide]
    exact q s (fr.refl _ _ _ _ s) rfl rfl rfl (fun _ _ => rfl) (fun i hi => absurd hi (by omega))
  | succ k ih =>
    intro s hk q
    rw [nI_pred]
    refine T_becomesTerm_51 ?_
    rw [if_neg (nI_pos (by omega))]
    refine ⟨9 * a + 3 * k, by rw [n_9, n_3, nI_mul, nI_mul, nI_add], by omega, 9 * a + k, by rw [n_9, nI_mul, nI_add], by omega, ?_⟩
    rw [← i_sub1]
    refine ih _ (by omega) ?_
    intro s' g1 g2 g3 g4 g5 g6
    refine q s' (((fr.refl 24 144 144 (3 * a) s).a17 (x := 9 * a + k) (by omega) _).trans g1) g2 g3 g4 ?_ ?_
    · intro j hj
      rw [g5 j (by omega)]
      exact upd_ne (by omega)
    · intro i hi
      by_cases e : i = k
      · subst e
        rw [g5 _ (Nat.le_refl _)]
        exact upd_eq
      · rw [g6 i (by omega)]
        exact upd_ne (by omega)
theorem rs_bt_11 {d a : Nat} {ts : List Tm} {s : mS} {Q : Int32 → mS → Prop} (ha : a < 144) (hn : ts.length ≤ 3) (hts : rTms s.2.1 (3 * a) ts) (q1 : ps_flat ts = true → h_becomesTerm_51 d (nI a) (nI ts.length) (s.2.1 14 a / 4) (nI ts.length - 1) s Q) (q0 : ps_flat ts = false → Q 0 s) : ∀ (m k : Nat), k + m = ts.length → (∀ i x, i < k → ts[i]? = some x → x.1 = 0) → h_becomesTerm_11 d (nI a) (nI ts.length) (nI k) s Q := by
  intro m
  induction m with
  | zero =>
    intro k hk h
    refine T_becomesTerm_11 ?_
    rw [if_pos (nI_le (by omega) (by omega))]
    refine ⟨a, rfl, ha, q1 ?_⟩
    refine List.all_eq_true.mpr (fun x hx => ?_)
    obtain ⟨i, hi, e⟩ := List.getElem_of_mem hx
    have := h i x (by omega) (by rw [List.getElem?_eq_getElem hi, e])
    rw [this]
    rfl
  | succ m ih =>
    intro k hk h
    refine T_becomesTerm_11 ?_
    rw [if_neg (nI_ge (by omega) (by omega))]
    refine ⟨3 * a + k, by rw [n_3, nI_mul, nI_add], by omega, ?_⟩
    have hk' : k < ts.length := by omega
    have e := hts k ts[k] (List.getElem?_eq_getElem hk')
    rw [e.1]
    by_cases h0 : ts[k].1 = 0
    · rw [if_pos h0, nI_1]
      refine ih (k + 1) (by omega) ?_
      intro i x hi hx
      by_cases ei : i = k
      · subst ei
        rw [List.getElem?_eq_getElem hk'] at hx
        cases hx
        exact h0
      · exact h i x (by omega) hx
    · rw [if_neg h0]
      refine q0 ?_
      cases ef : ps_flat ts with
      | false => rfl
      | true =>
        have := List.all_eq_true.mp ef ts[k] (List.getElem_mem hk')
        exact absurd (by simpa using this) h0
theorem rq_becomesTerm {d a : Nat} {c : Int32} {ts : List Tm} {s : mS} {Q : Int32 → mS → Prop} (ha : a < 144) (hw : wfA c ts) (hrel : s.2.1 14 a = 4 * c + nI ts.length) (hts : rTms s.2.1 (3 * a) ts) (q1 : ∀ s', ps_flat ts = true → fr 24 144 144 (3 * a) s s' → s'.1 = s.1 → rTm s'.2.1 (3 * a) (ps_asT c ts) → Q 1 s') (q0 : ps_flat ts = false → Q 0 s) : m_becomesTerm (d + 1) (nI a) s Q := by
  obtain ⟨m, _, hm, rfl⟩ := wfA_nat hw
  have hn := hw.2.1
  refine m_becomesTerm.of (T_becomesTerm_0 ⟨a, rfl, ha, ?_⟩)
  rw [hrel, (rel_and m hm ts.length (by omega)).1]
  refine rs_bt_11 ha hn hts (fun hf => ?_) q0 ts.length 0 (by omega) (fun i x hi => absurd hi (by omega))
  rw [hrel, (rel_and m hm ts.length (by omega)).2]
  refine rs_bt_51 ha ts.length s hn ?_
  intro s' g1 g2 g3 g4 g5 g6
  refine T_becomesTerm_51 ?_
  rw [if_pos (by decide)]
  by_cases h0 : ts.length = 0
  · rw [if_pos (by rw [h0]; rfl)]
    refine ⟨3 * a, by rw [n_3, nI_mul], by omega, 9 * a, by rw [n_9, nI_mul], by omega, ?_⟩
    refine q1 _ hf (((g1.a15 (x := 3 * a) (by omega) _).a16 (x := 3 * a) (by omega) _).a17 (x := 9 * a) (by omega) _) g4 ?_
    unfold ps_asT
    rw [if_pos h0]
    refine ⟨upd_eq, upd_eq, by simp, ?_⟩
    intro k hk
    simp only [List.length_cons, List.length_nil] at hk
    show upd (s'.2.1 17) (9 * a) (nI m) (3 * (3 * a) + k) = _
    rw [show 3 * (3 * a) + k = 9 * a by omega, upd_eq, show k = 0 by omega]
    rfl
  · rw [if_neg (nI_ne0 (by omega) (by omega))]
    refine ⟨3 * a, by rw [n_3, nI_mul], by omega, 9 * a, by rw [n_9, nI_mul], by omega, ?_⟩
    refine q1 _ hf (((g1.a15 (x := 3 * a) (by omega) _).a16 (x := 3 * a) (by omega) _).a17 (x := 9 * a) (by omega) _) g4 ?_
    unfold ps_asT
    rw [if_neg h0]
    refine ⟨upd_eq, ?_, by rw [List.length_map]; exact hn, ?_⟩
    · show upd (s'.2.1 16) (3 * a) (nI ts.length) (3 * a) = _
      rw [upd_eq, List.length_map]
    · intro k hk
      rw [List.length_map] at hk
      show upd (s'.2.1 17) (9 * a) (s'.2.1 17 (9 * a)) (3 * (3 * a) + k) = _
      have e1 : upd (s'.2.1 17) (9 * a) (s'.2.1 17 (9 * a)) (3 * (3 * a) + k) = s'.2.1 17 (9 * a + k) := by
        by_cases ek : k = 0
        · rw [ek, show 3 * (3 * a) + 0 = 9 * a by omega, upd_eq]
          rfl
        · rw [upd_ne (by omega), show 3 * (3 * a) + k = 9 * a + k by omega]
      rw [e1, g6 k hk]
      have e2 := hts k ts[k] (List.getElem?_eq_getElem hk)
      have e3 : ts[k].1 = 0 := by
        have := List.all_eq_true.mp hf ts[k] (List.getElem_mem hk)
        simpa using this
      have e4 := hw.2.2 ts[k] (List.getElem_mem hk)
      rcases e4 with ⟨_, z, _, ez⟩ | ⟨e4, _⟩
      · have e5 := e2.2.2.2 0 (by rw [ez]; simp)
        rw [show 9 * a + 3 * k = 3 * (3 * a + k) + 0 by omega, e5, ez]
        show z = (ts.map (fun t => ps_hc t.2)).getD k 0
        rw [List.getD_eq_getElem?_getD, List.getElem?_map, List.getElem?_eq_getElem hk]
        show z = ps_hc ts[k].2
        rw [ez]
        rfl
      · rw [e3] at e4
        exact absurd e4 (by decide)
/-- the literal a of the rules' rows -/
def rLit (A : Nat → Nat → Int32) (a : Nat) (x : Lt) : Prop := A 13 a = x.1 ∧ (x.1 ≠ 2 → A 14 a = 4 * x.2.1 + nI x.2.2.length) ∧ x.2.2.length ≤ 3 ∧ rTms A (3 * a) x.2.2
theorem rLit.fr {b k a t j : Nat} {s s' : mS} {x : Lt} (h : rLit s.2.1 j x) (f : fr b k a t s s') (h1 : j < k) (h2 : j < a) (h3 : 3 * j + 3 ≤ t) : rLit s'.2.1 j x := by
  obtain ⟨g1, g2, g3, g4⟩ := h
  have f' := f
  obtain ⟨_, _, _, _, f5, f6, _, _⟩ := f
  exact ⟨(f5 j h1).trans g1, fun z => (f6 j h2).trans (g2 z), g3, g4.fr f' (by omega)⟩
theorem rs_un {d a : Nat} {T l : List Int32} {s s0 : mS} {t0 : Tm} {Q : Int32 → mS → Prop} (ha : a < 144) (hr : rLs s T l) (hf : fr 24 a a (3 * a) s0 s) (h0 : rTm s.2.1 (3 * a) t0) (q : ∀ s' l', fr 24 a a (3 * a) s0 s' → rLs s' T l' → (∀ x, ps_un t0 l = (some x, l') → rLit s'.2.1 a x → Q 1 s') ∧ (ps_un t0 l = (none, l') → Q 0 s')) : m_takes (d + 4) 35 (mA s 13 (upd (s.2.1 13) a 2)) (fun r s' => if r = 0 then Q 0 s' else m_term (d + 4) (3 * nI a + 1) s' (fun r s'' => if r = 0 then Q 0 s'' else Q 1 s'')) := by
  have f1 := hf.a13 (x := a) (by omega) 2
  refine rq_takes (by decide) hr (fun e r1 => ?_) (fun e => ?_)
  · rw [if_neg (by decide), show (3 : Int32) * nI a + 1 = nI (3 * a + 1) by rw [n_3, nI_mul, nI_1]]
    refine rq_term (by omega) r1 ?_
    intro s' l' g1 g2
    have f2 := (f1.p (s.1 10 + 1)).trans (g1.le (b' := 24) (k' := a) (a' := a) (t' := 3 * a) (by omega) (by omega) (by omega) (by omega))
    refine ⟨fun x hx hy => ?_, fun hx => ?_⟩
    · rw [if_neg (by decide)]
      refine (q _ _ f2 g2).1 (2, 0, [t0, x]) ?_ ⟨?_, fun z => absurd rfl z, by simp, ?_⟩
      · rw [ps_un, if_pos e, hx]
      · obtain ⟨_, _, _, _, g5, _⟩ := g1
        rw [g5 a ha]
        exact upd_eq
      · have h0' : rTm s'.2.1 (3 * a) t0 := rTm.fr (s := mI (mA s 13 (upd (s.2.1 13) a 2)) 10 (s.1 10 + 1)) h0 g1 (by omega)
        intro i y hy2
        match i, hy2 with
        | 0, hy2 => cases hy2; exact h0'
        | 1, hy2 => cases hy2; exact hy
    · rw [if_pos rfl]
      refine (q _ _ f2 g2).2 ?_
      rw [ps_un, if_pos e, hx]
  · rw [if_pos rfl]
    refine (q _ _ f1 hr).2 ?_
    rw [ps_un, if_neg e]
theorem rs_lit_atom {d a : Nat} {T l : List Int32} {s s0 : mS} {Q : Int32 → mS → Prop} (ha : a < 144) (hr : rLs s T l) (hf : fr 24 a a (3 * a) s0 s) (hk : s.2.1 13 a = 0) (e0 : ¬ ps_hc l = 126) (hc : chL (ps_hc l) ∨ 0 ≤ chK (ps_hc l)) (q : ∀ s' l', fr 24 a a (3 * a) s0 s' → rLs s' T l' → (∀ x, ps_lit l = (some x, l') → rLit s'.2.1 a x → Q 1 s') ∧ (ps_lit l = (none, l') → Q 0 s')) : m_atom (d + 4) (nI a) s (fun r11 s13 => if r11 = 0 then Q 0 s13 else q_here (d + 4) s13 (fun r15 => if r15 = (35 : Int32) then q_isLetter (d + 4) (ps_hc l) s13 (fun r18 => if r18 = 0 then Q 1 s13 else m_becomesTerm (d + 4) (nI a) s13 (fun r21 s23 => if r21 = 0 then Q 1 s23 else m_takes (d + 4) 35 (mA s23 13 (upd (s23.2.1 13) a 2)) (fun r26 s28 => if r26 = 0 then Q 0 s28 else m_term (d + 4) (3 * nI a + 1) s28 (fun r30 s32 => if r30 = 0 then Q 0 s32 else Q 1 s32)))) else Q 1 s13)) := by
  refine rq_atom ha hr ?_
  intro s' l' g1 g2
  have f1 := hf.trans (g1.le (b' := 24) (k' := a) (a' := a) (t' := 3 * a) (by omega) (by omega) (by omega) (by omega))
  refine ⟨fun x hx hrel hts => ?_, fun hx => ?_⟩
  · rw [if_neg (by decide)]
    obtain ⟨w1, w2⟩ := ps_atom_wf hx
    have hk' : s'.2.1 13 a = 0 := by
      obtain ⟨_, _, _, _, g5, _⟩ := g1
      rw [g5 a ha]; exact hk
    have fin : ¬ (ps_hc l' = 35 ∧ chL (ps_hc l) ∧ ps_flat x.2 = true) → Q 1 s' := by
      intro hno
      refine (q _ _ f1 g2).1 (0, x.1, x.2) ?_ ⟨hk', fun _ => hrel, w2.2.1, hts⟩
      rw [ps_lit, if_neg e0, if_pos hc, hx]
      simp only
      rw [if_neg hno]
    refine rq_here g2 ?_
    by_cases e1 : ps_hc l' = 35
    · rw [if_pos e1]
      refine rq_isLetter ?_
      by_cases e2 : chL (ps_hc l)
      · rw [if_neg (zb_ne.mpr e2)]
        refine rq_becomesTerm ha w2 hrel hts ?_ ?_
        · intro s'' b1 b2 b3 b4
          rw [if_neg (by decide)]
          have r2 : rLs s'' T l' := by
            obtain ⟨_, c2, _⟩ := b2
            show rL (s''.1 9) (s''.1 10) (s''.2.1 8) T l'
            rw [b3, c2 8 (Or.inl (by decide))]
            exact g2
          refine rs_un ha r2 (f1.trans (b2.le (by omega) (by omega) (by omega) (by omega))) b4 ?_
          intro s9 l9 k1 k2
          have := q s9 l9 k1 k2
          have e : ps_lit l = ps_un (ps_asT x.1 x.2) l' := by
            rw [ps_lit, if_neg e0, if_pos hc, hx]
            simp only
            rw [if_pos ⟨e1, e2, b1⟩]
          rw [← e]
          exact this
        · intro b1
          rw [if_pos rfl]
          exact fin (fun z => by rw [b1] at z; exact absurd z.2.2 (by decide))
      · rw [if_pos (zb_eq.mpr e2)]
        exact fin (fun z => e2 z.2.1)
    · rw [if_neg e1]
      exact fin (fun z => e1 z.1)
  · rw [if_pos rfl]
    refine (q _ _ f1 g2).2 ?_
    rw [ps_lit, if_neg e0, if_pos hc, hx]
theorem rq_literal {d a : Nat} {T l : List Int32} {s : mS} {Q : Int32 → mS → Prop} (ha : a < 144) (hr : rLs s T l) (q : ∀ s' l', fr 24 a a (3 * a) s s' → rLs s' T l' → (∀ x, ps_lit l = (some x, l') → rLit s'.2.1 a x → Q 1 s') ∧ (ps_lit l = (none, l') → Q 0 s')) : m_literal (d + 5) (nI a) s Q := by
  refine m_literal.of (T_literal_0 ⟨a, rfl, ha, ?_⟩)
  have f0 := (fr.refl 24 a a (3 * a) s).a13 (x := a) (by omega) 0
  refine rq_takes (by decide) hr (fun e r1 => ?_) (fun e => ?_)
  · rw [if_neg (by decide)]
    have f1 := (f0.p (s.1 10 + 1)).a13 (x := a) (by omega) 1
    refine rq_atom (T := T) (l := l.tail) ha r1 ?_
    intro s' l' g1 g2
    have f2 := f1.trans (g1.le (b' := 24) (k' := a) (a' := a) (t' := 3 * a) (by omega) (by omega) (by omega) (by omega))
    refine ⟨fun x hx hrel hts => ⟨Or.inr rfl, ?_⟩, fun hx => ⟨Or.inl rfl, ?_⟩⟩
    · refine (q _ _ f2 g2).1 (1, x.1, x.2) ?_ ⟨?_, fun _ => hrel, (ps_atom_wf hx).2.2.1, hts⟩
      · rw [ps_lit, if_pos e, hx]
      · obtain ⟨_, _, _, _, g5, _⟩ := g1
        rw [g5 a ha]
        exact upd_eq
    · refine (q _ _ f2 g2).2 ?_
      rw [ps_lit, if_pos e, hx]
  · rw [if_pos rfl]
    have hk : (mA s 13 (upd (s.2.1 13) a 0)).2.1 13 a = 0 := upd_eq
    refine rq_here (T := T) (l := l) hr (rq_isLetter ?_)
    by_cases hL : chL (ps_hc l)
    · rw [if_neg (zb_ne.mpr hL)]
      exact rs_lit_atom ha hr f0 hk e (Or.inl hL) q
    · rw [if_pos (zb_eq.mpr hL)]
      refine rq_terms ?_
      by_cases hk2 : chK (ps_hc l) < 0
      · rw [if_pos hk2, show (3 : Int32) * nI a = nI (3 * a) by rw [n_3, nI_mul]]
        have hc : ¬ (chL (ps_hc l) ∨ 0 ≤ chK (ps_hc l)) := fun z => z.elim hL (fun y => absurd y (Int32.not_le.mpr hk2))
        refine rq_term (T := T) (l := l) (by omega) hr ?_
        intro s' l' g1 g2
        have f1 := f0.trans (g1.le (b' := 24) (k' := a) (a' := a) (t' := 3 * a) (by omega) (by omega) (by omega) (by omega))
        refine ⟨fun x hx hy => ?_, fun hx => ?_⟩
        · rw [if_neg (by decide), show nI (3 * a) + 1 = (3 : Int32) * nI a + 1 by rw [n_3, nI_mul]]
          refine rs_un ha g2 f1 hy ?_
          intro s9 l9 k1 k2
          have := q s9 l9 k1 k2
          have e9 : ps_lit l = ps_un x l' := by rw [ps_lit, if_neg e, if_neg hc, hx]
          rw [← e9]
          exact this
        · rw [if_pos rfl]
          refine (q _ _ f1 g2).2 ?_
          rw [ps_lit, if_neg e, if_neg hc, hx]
      · rw [if_neg hk2]
        exact rs_lit_atom ha hr f0 hk e (Or.inr (Int32.not_lt.mp hk2)) q
/-- rule r of the rules' rows -/
def rRule (A : Nat → Nat → Int32) (r : Nat) (x : Rl) : Prop := A 12 r = nI x.2.length ∧ x.2.length ≤ 5 ∧ rLit A (6 * r) x.1 ∧ ∀ j y, x.2[j]? = some y → rLit A (6 * r + 1 + j) y
theorem rRule.fr {b k a t r : Nat} {s s' : mS} {x : Rl} (h : rRule s.2.1 r x) (f : fr b k a t s s') (h0 : r < b) (h1 : 6 * r + 6 ≤ k) (h2 : 6 * r + 6 ≤ a) (h3 : 18 * r + 18 ≤ t) : rRule s'.2.1 r x := by
  obtain ⟨g1, g2, g3, g4⟩ := h
  have f' := f
  obtain ⟨_, _, _, f4, _⟩ := f
  refine ⟨(f4 r h0).trans g1, g2, g3.fr f' (by omega) (by omega) (by omega), fun j y hy => ?_⟩
  have := (List.getElem?_eq_some_iff.mp hy).1
  exact (g4 j y hy).fr f' (by omega) (by omega) (by omega)
theorem rs_rule_54 {d r : Nat} {T : List Int32} {hd : Lt} {s0 : mS} (hr24 : r < 24) : ∀ (n : Nat) (acc : List Lt) (l : List Int32) (s : mS) (Q : Int32 → mS → Prop), n + acc.length = 5 → fr r (6 * r) (6 * r) (18 * r) s0 s → rLit s.2.1 (6 * r) hd → (∀ j y, acc[j]? = some y → rLit s.2.1 (6 * r + 1 + j) y) → rLs s T l → (∀ s' l', fr r (6 * r) (6 * r) (18 * r) s0 s' → rLs s' T l' → (∀ x, ps_body hd n acc l = (some x, l') → rRule s'.2.1 r x → Q 1 s') ∧ (ps_body hd n acc l = (none, l') → Q 0 s')) → h_rule_54 (d + 5) (nI r) (nI (acc.length + 1)) s Q := by
  intro n
  induction n with
  | zero =>
    intro acc l s Q hn hf hh ha hr q
    refine T_rule_54 ?_
    rw [if_pos (by rw [n_6]; exact nI_le (by omega) (by omega))]
    exact (q _ _ hf hr).2 rfl
  | succ n ih =>
    intro acc l s Q hn hf hh ha hr q
    refine T_rule_54 ?_
    rw [if_neg (by rw [n_6]; exact nI_ge (by omega) (by decide)), show (6 : Int32) * nI r + nI (acc.length + 1) = nI (6 * r + 1 + acc.length) by rw [n_6, nI_mul, nI_add, Nat.add_assoc, Nat.add_comm 1]]
    refine rq_literal (by omega) hr ?_
    intro s4 l4 f4 r4
    have f4' := hf.trans (f4.le (b' := r) (k' := 6 * r) (a' := 6 * r) (t' := 18 * r) (by omega) (by omega) (by omega) (by omega))
    refine ⟨fun x ex hx => ?_, fun ex => ?_⟩
    · rw [if_neg (by decide)]
      refine ⟨r, rfl, hr24, ?_⟩
      have f5 := f4'.a12 (x := r) (by omega) (nI (acc.length + 1))
      have hl : (acc ++ [x]).length = acc.length + 1 := by simp
      have hh' : rLit s4.2.1 (6 * r) hd := hh.fr f4 (by omega) (by omega) (by omega)
      have ha' : ∀ j y, (acc ++ [x])[j]? = some y → rLit s4.2.1 (6 * r + 1 + j) y := by
        intro j y hy
        by_cases hj : j < acc.length
        · rw [List.getElem?_append_left hj] at hy
          exact (ha j y hy).fr f4 (by omega) (by omega) (by omega)
        · have := (List.getElem?_eq_some_iff.mp hy).1
          rw [hl] at this
          have e : j = acc.length := by omega
          subst e
          simp at hy
          subst hy
          exact hx
      refine rq_takes (by decide) r4 (fun e r5 => ?_) (fun e => ?_)
      · rw [if_neg (by decide)]
        refine (q _ _ (f5.p _) r5).1 (hd, acc ++ [x]) ?_ ⟨?_, by rw [hl]; omega, hh', ha'⟩
        · rw [ps_body, ex]
          simp only
          rw [if_pos e]
        · show upd (s4.2.1 12) r (nI (acc.length + 1)) r = _
          rw [upd_eq, hl]
      · rw [if_pos rfl]
        refine rq_takes (by decide) r4 (fun e2 r5 => ?_) (fun e2 => ?_)
        · rw [if_neg (by decide), nI_1, show nI (acc.length + 1 + 1) = nI ((acc ++ [x]).length + 1) by rw [hl]]
          refine ih _ _ _ Q (by rw [hl]; omega) (f5.p _) hh' ha' r5 ?_
          intro s9 l9 k1 k2
          have := q s9 l9 k1 k2
          have e9 : ps_body hd (n + 1) acc l = ps_body hd n (acc ++ [x]) l4.tail := by
            rw [ps_body, ex]
            simp only
            rw [if_neg e, if_pos e2]
          rw [← e9]
          exact this
        · rw [if_pos rfl]
          refine (q _ _ f5 r4).2 ?_
          rw [ps_body, ex]
          simp only
          rw [if_neg e, if_neg e2]
    · rw [if_pos rfl]
      refine (q _ _ f4' r4).2 ?_
      rw [ps_body, ex]
theorem rq_rule {d r : Nat} {T l : List Int32} {s : mS} {Q : Int32 → mS → Prop} (hr24 : r < 24) (hr : rLs s T l) (q : ∀ s' l', fr r (6 * r) (6 * r) (18 * r) s s' → rLs s' T l' → (∀ x, ps_rule l = (some x, l') → rRule s'.2.1 r x → Q 1 s') ∧ (ps_rule l = (none, l') → Q 0 s')) : m_rule (d + 6) (nI r) s Q := by
  refine m_rule.of (T_rule_0 ⟨r, rfl, hr24, 6 * r, by rw [n_6, nI_mul], by omega, ?_⟩)
  have f0 := ((fr.refl r (6 * r) (6 * r) (18 * r) s).a12 (x := r) (by omega) 0).a13 (x := 6 * r) (by omega) 0
  rw [show (6 : Int32) * nI r = nI (6 * r) by rw [n_6, nI_mul]]
  refine rq_atom (T := T) (l := l) (by omega) hr ?_
  intro s5 l5 f5 r5
  have f5' := f0.trans (f5.le (b' := r) (k' := 6 * r) (a' := 6 * r) (t' := 18 * r) (by omega) (by omega) (by omega) (by omega))
  refine ⟨fun x ex hrel hts => ?_, fun ex => ?_⟩
  · rw [if_neg (by decide)]
    have hk : s5.2.1 13 (6 * r) = 0 := by
      obtain ⟨_, _, _, _, g5, _⟩ := f5
      rw [g5 _ (by omega)]
      exact upd_eq
    have hb : s5.2.1 12 r = 0 := by
      obtain ⟨_, _, _, g4, _⟩ := f5
      rw [g4 r hr24]
      exact upd_eq
    have hh : rLit s5.2.1 (6 * r) (0, x.1, x.2) := ⟨hk, fun _ => hrel, (ps_atom_wf ex).2.2.1, hts⟩
    refine rq_takes (by decide) r5 (fun e r6 => ?_) (fun e => ?_)
    · rw [if_neg (by decide)]
      refine (q _ _ (f5'.p _) r6).1 ((0, x.1, x.2), []) ?_ ⟨hb, by simp, hh, fun j y hy => absurd hy (by simp)⟩
      rw [ps_rule, ex]
      simp only
      rw [if_pos e]
    · rw [if_pos rfl]
      refine rq_takes (by decide) r5 (fun e2 r6 => ?_) (fun e2 => ?_)
      · rw [if_neg (by decide)]
        refine rs_rule_54 (s0 := s) hr24 5 [] _ _ Q rfl (f5'.p _) hh (fun j y hy => absurd hy (by simp)) r6 ?_
        intro s9 l9 k1 k2
        have := q s9 l9 k1 k2
        have e9 : ps_rule l = ps_body (0, x.1, x.2) 5 [] l5.tail := by
          rw [ps_rule, ex]
          simp only
          rw [if_neg e, if_pos e2]
        rw [← e9]
        exact this
      · rw [if_pos rfl]
        refine (q _ _ f5' r5).2 ?_
        rw [ps_rule, ex]
        simp only
        rw [if_neg e, if_neg e2]
  · rw [if_pos rfl]
    refine (q _ _ f5' r5).2 ?_
    rw [ps_rule, ex]
/-- the rules that stand in the rows -/
def rRules (s : mS) (R : List Rl) : Prop := s.1 11 = nI R.length ∧ R.length ≤ 24 ∧ ∀ r x, R[r]? = some x → rRule s.2.1 r x
/-- all as it was but the reader's place and the rules -/
def fq (s s' : mS) : Prop := (∀ i, i ≠ 10 → i ≠ 11 → s'.1 i = s.1 i) ∧ (∀ i, (i < 12 ∨ 17 < i) → s'.2.1 i = s.2.1 i) ∧ s'.2.2 = s.2.2
theorem rs_read_10 {d : Nat} {T : List Int32} {s0 : mS} : ∀ (n : Nat) (acc : List Rl) (l : List Int32) (s : mS) (Q : Int32 → mS → Prop), n + acc.length = 24 → (l = [] → acc = []) → fq s0 s → s.1 11 = nI acc.length → (∀ r x, acc[r]? = some x → rRule s.2.1 r x) → rLs s T l → (∀ s' l', fq s0 s' → rLs s' T l' → (∀ R, ps_all n acc l = (some R, l') → rRules s' R → Q 1 s') ∧ (ps_all n acc l = (none, l') → Q 0 s')) → h_read_10 (d + 6) s Q := by
  intro n
  induction n with
  | zero =>
    intro acc l s Q hn hne hf h11 ha hr q
    refine T_read_10 ?_
    obtain ⟨k, h4, h5, _⟩ := hr.get
    obtain ⟨h1, h2⟩ := hr.len
    have hl : l ≠ [] := fun z => by rw [hne z] at hn; simp at hn
    have hp : 0 < l.length := List.length_pos_iff.mpr hl
    rw [if_pos (by rw [h1, h5]; exact nI_lt (by omega) (by omega)), if_pos (by rw [h11, show acc.length = 24 by omega]; rfl)]
    exact (q _ _ hf hr).2 rfl
  | succ n ih =>
    intro acc l s Q hn hne hf h11 ha hr q
    have key : m_rule (d + 6) (s.1 11) s (fun r3 s5 => if r3 = 0 then Q 0 s5 else h_read_10 (d + 6) (mI s5 11 (s5.1 11 + 1)) Q) := by
      rw [h11]
      refine rq_rule (by omega) hr ?_
      intro s5 l5 f5 r5
      have f5' : fq s0 s5 := by
        obtain ⟨a1, a2, a3⟩ := hf
        obtain ⟨b1, b2, b3, _⟩ := f5
        exact ⟨fun i hi hj => (b1 i hi).trans (a1 i hi hj), fun i hi => (b2 i hi).trans (a2 i hi), b3.trans a3⟩
      refine ⟨fun x ex hx => ?_, fun ex => ?_⟩
      · rw [if_neg (by decide)]
        have h11' : s5.1 11 = nI acc.length := by
          obtain ⟨b1, _⟩ := f5
          rw [b1 11 (by decide)]; exact h11
        have hl : (acc ++ [x]).length = acc.length + 1 := by simp
        have ha' : ∀ r y, (acc ++ [x])[r]? = some y → rRule s5.2.1 r y := by
          intro j y hy
          by_cases hj : j < acc.length
          · rw [List.getElem?_append_left hj] at hy
            exact (ha j y hy).fr f5 (by omega) (by omega) (by omega) (by omega)
          · have := (List.getElem?_eq_some_iff.mp hy).1
            rw [hl] at this
            have e : j = acc.length := by omega
            subst e
            simp at hy
            subst hy
            exact hx
        have f6 : fq s0 (mI s5 11 (s5.1 11 + 1)) := by
          obtain ⟨a1, a2, a3⟩ := f5'
          refine ⟨fun i hi hj => ?_, a2, a3⟩
          show (if i = 11 then s5.1 11 + 1 else s5.1 i) = _
          rw [if_neg hj]; exact a1 i hi hj
        have h11'' : (mI s5 11 (s5.1 11 + 1)).1 11 = nI (acc ++ [x]).length := by
          show s5.1 11 + 1 = _
          rw [h11', nI_1, hl]
        by_cases hz : l5.length = 0
        · have hz' : l5 = [] := List.length_eq_zero_iff.mp hz
          refine T_read_10 ?_
          obtain ⟨k, h4, h5, _⟩ := r5.get
          obtain ⟨h1, h2⟩ := r5.len
          rw [if_neg (by
            show ¬ s5.1 10 < s5.1 9
            rw [h1, h5]; exact nI_nlt (by omega) (by omega)), if_neg (by rw [h11'', hl]; exact nI_ne0 (by omega) (by omega))]
          refine (q _ _ f6 r5).1 (acc ++ [x]) ?_ ⟨h11'', by rw [hl]; omega, ha'⟩
          rw [ps_all, ex]
          simp only
          rw [if_pos hz]
        · refine ih _ l5 _ Q (by rw [hl]; omega) (fun z => absurd (by rw [z]; rfl) hz) f6 h11'' ha' r5 ?_
          intro s9 l9 k1 k2
          have := q s9 l9 k1 k2
          have e9 : ps_all (n + 1) acc l = ps_all n (acc ++ [x]) l5 := by
            rw [ps_all, ex]
            simp only
            rw [if_neg hz]
          rw [← e9]
          exact this
      · rw [if_pos rfl]
        refine (q _ _ f5' r5).2 ?_
        rw [ps_all, ex]
    refine T_read_10 ?_
    have h24 : ¬ s.1 11 = 24 := by
      rw [h11, n_24, nI_eq (by omega) (by decide)]
      omega
    by_cases hlt : s.1 10 < s.1 9
    · rw [if_pos hlt, if_neg h24]
      exact key
    · rw [if_neg hlt]
      have h0 : acc = [] := by
        refine hne ?_
        obtain ⟨k, h4, h5, _⟩ := hr.get
        obtain ⟨h1, h2⟩ := hr.len
        rw [h1, h5, nI_ltI (by omega) (by omega)] at hlt
        exact List.length_eq_zero_iff.mp (by omega)
      rw [if_pos (by rw [h11, h0]; rfl), if_neg h24]
      exact key
theorem rq_read {d : Nat} {T : List Int32} {s : mS} {Q : Int32 → mS → Prop} (hT : T.length ≤ 240) (h9 : s.1 9 = nI T.length) (h8 : ∀ k, k < T.length → s.2.1 8 k = T.getD k 0) (q : ∀ s' l', fq s s' → rLs s' T l' → (∀ R, ps_all 24 [] T = (some R, l') → rRules s' R → Q 1 s') ∧ (ps_all 24 [] T = (none, l') → Q 0 s')) : m_read (d + 7) s Q := by
  refine m_read.of (T_read_0 ?_)
  refine rs_read_10 (s0 := s) 24 [] T _ Q rfl (fun _ => rfl) ⟨fun i hi hj => ?_, fun _ _ => rfl, rfl⟩ rfl (fun r x hx => absurd hx (by simp)) ⟨h9, hT, h8, 0, by simp, rfl, rfl⟩ q
  show (if i = 11 then (0 : Int32) else if i = 10 then 0 else s.1 i) = s.1 i
  rw [if_neg hj, if_neg hi]
