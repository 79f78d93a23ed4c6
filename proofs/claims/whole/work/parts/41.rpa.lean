/-! the reference's reader comes to what ps_* says -/
theorem rq_isLetter {d : Nat} {c : Int32} {s : mS} {Q : Int32 → Prop} (q : Q (zb (chL c))) : q_isLetter (d + 1) c s Q := ⟨_, fun N0 K B G sz hN => gm_to.up (rs_isLetter c N0 K B s G sz hN) (by omega), q⟩
theorem rq_isVariable {d : Nat} {c : Int32} {s : mS} {Q : Int32 → Prop} (q : Q (zb (chV c))) : q_isVariable (d + 1) c s Q := ⟨_, fun N0 K B G sz hN => gm_to.up (rs_isVariable c N0 K B s G sz hN) (by omega), q⟩
theorem rq_isPlain {d : Nat} {c : Int32} {s : mS} {Q : Int32 → Prop} (q : Q (zb (chP c))) : q_isPlain (d + 2) c s Q := ⟨_, fun N0 K B G sz hN => gm_to.up (rs_isPlain c N0 K B s G sz hN) (by omega), q⟩
theorem rq_terms {d : Nat} {c : Int32} {s : mS} {Q : Int32 → Prop} (q : Q (chK c)) : q_terms (d + 1) c s Q := ⟨_, fun N0 K B G sz hN => gm_to.up (rs_terms c N0 K B s G sz hN) (by omega), q⟩
/-- the reader's place in the state s -/
abbrev rLs (s : mS) (T l : List Int32) : Prop := rL (s.1 9) (s.1 10) (s.2.1 8) T l
theorem rq_here {d : Nat} {s : mS} {Q : Int32 → Prop} {T l : List Int32} (h : rLs s T l) (q : Q (ps_hc l)) : q_here (d + 1) s Q := by
  refine q_here.of (T_here_0 ?_)
  obtain ⟨k, h4, h5, h6⟩ := h.get
  obtain ⟨h1, h2⟩ := h.len
  by_cases hl : l = []
  · subst hl
    rw [if_pos (by rw [h1, h5]; exact (nI_leI (by omega) (by omega)).mpr (by simp only [List.length_nil] at h4; omega))]
    exact ⟨rfl, q⟩
  · have hp : 0 < l.length := List.length_pos_iff.mpr hl
    rw [if_neg (by rw [h1, h5]; exact fun z => absurd ((nI_leI (by omega) (by omega)).mp z) (by omega))]
    exact ⟨k, h5, by omega, rfl, by rw [h6 hl]; exact q⟩
theorem rq_takes {d : Nat} {s : mS} {Q : Int32 → mS → Prop} {T l : List Int32} {c : Int32} (h0 : c ≠ 0) (h : rLs s T l) (q1 : ps_hc l = c → rLs (mI s 10 (s.1 10 + 1)) T l.tail → Q 1 (mI s 10 (s.1 10 + 1))) (q0 : ¬ ps_hc l = c → Q 0 s) : m_takes (d + 2) c s Q := by
  refine m_takes.of (T_takes_0 (rq_here h ?_))
  by_cases e : ps_hc l = c
  · rw [if_pos e]
    exact q1 e (h.step (ps_hc_ne h0 e))
  · rw [if_neg e]
    exact q0 e
/-- all as it was but the reader's place, and, of the rules' rows, what stands behind the bounds -/
def fr (b k a t : Nat) (s s' : mS) : Prop := (∀ i, i ≠ 10 → s'.1 i = s.1 i) ∧ (∀ i, (i < 12 ∨ 17 < i) → s'.2.1 i = s.2.1 i) ∧ s'.2.2 = s.2.2 ∧ (∀ j, j < b → s'.2.1 12 j = s.2.1 12 j) ∧ (∀ j, j < k → s'.2.1 13 j = s.2.1 13 j) ∧ (∀ j, j < a → s'.2.1 14 j = s.2.1 14 j) ∧ (∀ j, j < t → s'.2.1 15 j = s.2.1 15 j ∧ s'.2.1 16 j = s.2.1 16 j) ∧ (∀ j, j < 3 * t → s'.2.1 17 j = s.2.1 17 j)
theorem fr.refl (b k a t : Nat) (s : mS) : fr b k a t s s := ⟨fun _ _ => rfl, fun _ _ => rfl, rfl, fun _ _ => rfl, fun _ _ => rfl, fun _ _ => rfl, fun _ _ => ⟨rfl, rfl⟩, fun _ _ => rfl⟩
theorem fr.trans {b k a t : Nat} {s s' s'' : mS} (h : fr b k a t s s') (g : fr b k a t s' s'') : fr b k a t s s'' := by
  obtain ⟨h1, h2, h3, h4, h5, h6, h7, h8⟩ := h
  obtain ⟨g1, g2, g3, g4, g5, g6, g7, g8⟩ := g
  exact ⟨fun i hi => (g1 i hi).trans (h1 i hi), fun i hi => (g2 i hi).trans (h2 i hi), g3.trans h3, fun i hi => (g4 i hi).trans (h4 i hi), fun i hi => (g5 i hi).trans (h5 i hi), fun i hi => (g6 i hi).trans (h6 i hi), fun i hi => ⟨(g7 i hi).1.trans (h7 i hi).1, (g7 i hi).2.trans (h7 i hi).2⟩, fun i hi => (g8 i hi).trans (h8 i hi)⟩
theorem fr.le {b k a t b' k' a' t' : Nat} {s s' : mS} (h : fr b k a t s s') (e1 : b' ≤ b) (e2 : k' ≤ k) (e3 : a' ≤ a) (e4 : t' ≤ t) : fr b' k' a' t' s s' := by
  obtain ⟨h1, h2, h3, h4, h5, h6, h7, h8⟩ := h
  exact ⟨h1, h2, h3, fun i hi => h4 i (by omega), fun i hi => h5 i (by omega), fun i hi => h6 i (by omega), fun i hi => h7 i (by omega), fun i hi => h8 i (by omega)⟩
theorem fr.p {b k a t : Nat} {s s' : mS} (h : fr b k a t s s') (v : Int32) : fr b k a t s (mI s' 10 v) := by
  obtain ⟨h1, h2, h3, h4, h5, h6, h7, h8⟩ := h
  refine ⟨fun i hi => ?_, h2, h3, h4, h5, h6, h7, h8⟩
  show (if i = 10 then v else s'.1 i) = s.1 i
  rw [if_neg hi]; exact h1 i hi
theorem upd_ne {f : Nat → Int32} {k j : Nat} {v : Int32} (h : j ≠ k) : upd f k v j = f j := if_neg h
theorem upd_eq {f : Nat → Int32} {k : Nat} {v : Int32} : upd f k v k = v := if_pos rfl
theorem mA_eq {s : mS} {k : Nat} {f : Nat → Int32} : (mA s k f).2.1 k = f := if_pos rfl
theorem mA_ne {s : mS} {k i : Nat} {f : Nat → Int32} (h : i ≠ k) : (mA s k f).2.1 i = s.2.1 i := if_neg h
theorem fr.a12 {b k a t : Nat} {s s' : mS} (h : fr b k a t s s') {x : Nat} (hx : b ≤ x) (v : Int32) : fr b k a t s (mA s' 12 (upd (s'.2.1 12) x v)) := by
  obtain ⟨h1, h2, h3, h4, h5, h6, h7, h8⟩ := h
  refine ⟨h1, fun i hi => (mA_ne (by omega)).trans (h2 i hi), h3, fun j hj => ?_, h5, h6, h7, h8⟩
  rw [mA_eq, upd_ne (by omega)]; exact h4 j hj
theorem fr.a13 {b k a t : Nat} {s s' : mS} (h : fr b k a t s s') {x : Nat} (hx : k ≤ x) (v : Int32) : fr b k a t s (mA s' 13 (upd (s'.2.1 13) x v)) := by
  obtain ⟨h1, h2, h3, h4, h5, h6, h7, h8⟩ := h
  refine ⟨h1, fun i hi => (mA_ne (by omega)).trans (h2 i hi), h3, h4, fun j hj => ?_, h6, h7, h8⟩
  rw [mA_eq, upd_ne (by omega)]; exact h5 j hj
theorem fr.a14 {b k a t : Nat} {s s' : mS} (h : fr b k a t s s') {x : Nat} (hx : a ≤ x) (v : Int32) : fr b k a t s (mA s' 14 (upd (s'.2.1 14) x v)) := by
  obtain ⟨h1, h2, h3, h4, h5, h6, h7, h8⟩ := h
  refine ⟨h1, fun i hi => (mA_ne (by omega)).trans (h2 i hi), h3, h4, h5, fun j hj => ?_, h7, h8⟩
  rw [mA_eq, upd_ne (by omega)]; exact h6 j hj
theorem fr.a15 {b k a t : Nat} {s s' : mS} (h : fr b k a t s s') {x : Nat} (hx : t ≤ x) (v : Int32) : fr b k a t s (mA s' 15 (upd (s'.2.1 15) x v)) := by
  obtain ⟨h1, h2, h3, h4, h5, h6, h7, h8⟩ := h
  refine ⟨h1, fun i hi => (mA_ne (by omega)).trans (h2 i hi), h3, h4, h5, h6, fun j hj => ⟨?_, (h7 j hj).2⟩, h8⟩
  rw [mA_eq, upd_ne (by omega)]; exact (h7 j hj).1
theorem fr.a16 {b k a t : Nat} {s s' : mS} (h : fr b k a t s s') {x : Nat} (hx : t ≤ x) (v : Int32) : fr b k a t s (mA s' 16 (upd (s'.2.1 16) x v)) := by
  obtain ⟨h1, h2, h3, h4, h5, h6, h7, h8⟩ := h
  refine ⟨h1, fun i hi => (mA_ne (by omega)).trans (h2 i hi), h3, h4, h5, h6, fun j hj => ⟨(h7 j hj).1, ?_⟩, h8⟩
  rw [mA_eq, upd_ne (by omega)]; exact (h7 j hj).2
theorem fr.a17 {b k a t : Nat} {s s' : mS} (h : fr b k a t s s') {x : Nat} (hx : 3 * t ≤ x) (v : Int32) : fr b k a t s (mA s' 17 (upd (s'.2.1 17) x v)) := by
  obtain ⟨h1, h2, h3, h4, h5, h6, h7, h8⟩ := h
  refine ⟨h1, fun i hi => (mA_ne (by omega)).trans (h2 i hi), h3, h4, h5, h6, h7, fun j hj => ?_⟩
  rw [mA_eq, upd_ne (by omega)]; exact h8 j hj
/-- the term t of the rules' rows -/
def rTm (A : Nat → Nat → Int32) (t : Nat) (x : Tm) : Prop := A 15 t = x.1 ∧ A 16 t = nI x.2.length ∧ x.2.length ≤ 3 ∧ ∀ k, k < x.2.length → A 17 (3 * t + k) = x.2.getD k 0
theorem rTm.fr {b k a t j : Nat} {s s' : mS} {x : Tm} (h : rTm s.2.1 j x) (f : fr b k a t s s') (hj : j < t) : rTm s'.2.1 j x := by
  obtain ⟨h1, h2, h3, h4⟩ := h
  obtain ⟨_, _, _, _, _, _, f7, f8⟩ := f
  refine ⟨(f7 j hj).1.trans h1, (f7 j hj).2.trans h2, h3, fun i hi => ?_⟩
  rw [f8 _ (by omega)]; exact h4 i hi
theorem rs_term_81 {d : Nat} {T : List Int32} {t : Nat} {o : Int32} {s0 : mS} (ht : t < 432) : ∀ (n : Nat) (acc l : List Int32) (s : mS) (Q : Int32 → mS → Prop), n + acc.length = 2 → fr 24 144 144 t s0 s → s.2.1 15 t = o → s.2.1 16 t = nI acc.length → (∀ k, k < acc.length → s.2.1 17 (3 * t + k) = acc.getD k 0) → rLs s T l → (∀ s' l', fr 24 144 144 t s0 s' → rLs s' T l' → (∀ x, ps_parts o n acc l = (some x, l') → rTm s'.2.1 t x → Q 1 s') ∧ (ps_parts o n acc l = (none, l') → Q 0 s')) → h_term_81 (d + 2) (nI t) (nI acc.length) s Q := by
  intro n
  induction n with
  | zero =>
    intro acc l s Q hn hf ho hcn hi hr q
    refine T_term_81 ?_
    rw [if_neg (by rw [n_3]; exact nI_ge (by omega) (by decide))]
    refine rq_here hr (rq_isPlain ?_)
    by_cases hp : chP (ps_hc l)
    · rw [if_neg (zb_ne.mpr hp)]
      refine rq_here hr ⟨3 * t + acc.length, by rw [n_3, nI_mul, nI_add], by omega, t, rfl, ht, ?_⟩
      have hr1 := hr.step (ps_hc_ne (chP_ne hp) rfl)
      have hf1 := ((hf.a17 (x := 3 * t + acc.length) (by omega) (ps_hc l)).a16 (x := t) (by omega) (s.2.1 16 t + 1)).p (s.1 10 + 1)
      refine rq_takes (by decide) hr1 (fun e hr2 => ?_) (fun e => ?_)
      · rw [if_neg (by decide)]
        refine (q _ _ (hf1.p _) hr2).1 (o, acc ++ [ps_hc l]) ?_ ⟨ho, ?_, ?_, ?_⟩
        · rw [ps_parts, if_pos hp, if_pos e]
        · show upd (s.2.1 16) t (s.2.1 16 t + 1) t = _
          rw [upd_eq, hcn, nI_1]
          simp
        · simp only [List.length_append, List.length_cons, List.length_nil]
          omega
        · intro k hk
          simp only [List.length_append, List.length_cons, List.length_nil] at hk
          show upd (s.2.1 17) (3 * t + acc.length) (ps_hc l) (3 * t + k) = _
          by_cases ek : k = acc.length
          · subst ek
            rw [upd_eq]
            simp
          · rw [upd_ne (by omega), hi k (by omega)]
            simp only [List.getD_eq_getElem?_getD]
            rw [List.getElem?_append_left (by omega)]
      · rw [if_pos rfl, if_pos (by rw [show acc.length = 2 by omega]; rfl)]
        refine (q _ _ hf1 hr1).2 ?_
        rw [ps_parts, if_pos hp, if_neg e]
    · rw [if_pos (zb_eq.mpr hp)]
      refine (q _ _ hf hr).2 ?_
      rw [ps_parts, if_neg hp]
  | succ n ih =>
    intro acc l s Q hn hf ho hcn hi hr q
    refine T_term_81 ?_
    rw [if_neg (by rw [n_3]; exact nI_ge (by omega) (by decide))]
    refine rq_here hr (rq_isPlain ?_)
    by_cases hp : chP (ps_hc l)
    · rw [if_neg (zb_ne.mpr hp)]
      refine rq_here hr ⟨3 * t + acc.length, by rw [n_3, nI_mul, nI_add], by omega, t, rfl, ht, ?_⟩
      have hr1 := hr.step (ps_hc_ne (chP_ne hp) rfl)
      have hf1 := ((hf.a17 (x := 3 * t + acc.length) (by omega) (ps_hc l)).a16 (x := t) (by omega) (s.2.1 16 t + 1)).p (s.1 10 + 1)
      have hi' : ∀ k, k < (acc ++ [ps_hc l]).length → upd (s.2.1 17) (3 * t + acc.length) (ps_hc l) (3 * t + k) = (acc ++ [ps_hc l]).getD k 0 := by
        intro k hk
        simp only [List.length_append, List.length_cons, List.length_nil] at hk
        by_cases ek : k = acc.length
        · subst ek
          rw [upd_eq]
          simp
        · rw [upd_ne (by omega), hi k (by omega)]
          simp only [List.getD_eq_getElem?_getD]
          rw [List.getElem?_append_left (by omega)]
      have hc' : upd (s.2.1 16) t (s.2.1 16 t + 1) t = nI (acc ++ [ps_hc l]).length := by
        rw [upd_eq, hcn, nI_1]
        simp
      have hl' : (acc ++ [ps_hc l]).length = acc.length + 1 := by simp
      refine rq_takes (by decide) hr1 (fun e hr2 => ?_) (fun e => ?_)
      · rw [if_neg (by decide)]
        refine (q _ _ (hf1.p _) hr2).1 (o, acc ++ [ps_hc l]) ?_ ⟨ho, hc', by rw [hl']; omega, hi'⟩
        rw [ps_parts, if_pos hp, if_pos e]
      · rw [if_pos rfl, if_neg (by rw [n_2, nI_eq (by omega) (by decide)]; omega)]
        refine rq_takes (by decide) hr1 (fun e2 hr2 => ?_) (fun e2 => ?_)
        · rw [if_neg (by decide), nI_1, ← hl']
          refine ih _ _ _ Q (by rw [hl']; omega) (hf1.p _) ho hc' hi' hr2 ?_
          intro s' l' g1 g2
          have eq : ps_parts o (n + 1) acc l = ps_parts o n (acc ++ [ps_hc l]) l.tail.tail := by rw [ps_parts, if_pos hp, if_neg e, if_pos e2]
          rw [← eq]
          exact q s' l' g1 g2
        · rw [if_pos rfl]
          refine (q _ _ hf1 hr1).2 ?_
          rw [ps_parts, if_pos hp, if_neg e, if_neg e2]
    · rw [if_pos (zb_eq.mpr hp)]
      refine (q _ _ hf hr).2 ?_
      rw [ps_parts, if_neg hp]
theorem rq_term {d : Nat} {T l : List Int32} {t : Nat} {s : mS} {Q : Int32 → mS → Prop} (ht : t < 432) (hr : rLs s T l) (q : ∀ s' l', fr 24 144 144 t s s' → rLs s' T l' → (∀ x, ps_term l = (some x, l') → rTm s'.2.1 t x → Q 1 s') ∧ (ps_term l = (none, l') → Q 0 s')) : m_term (d + 3) (nI t) s Q := by
  refine m_term.of (T_term_0 (rq_here hr (rq_isPlain ?_)))
  by_cases hp : chP (ps_hc l)
  · rw [if_neg (zb_ne.mpr hp)]
    refine ⟨t, rfl, ht, 3 * t, by rw [n_3, nI_mul], by omega, rq_isLetter ?_⟩
    have hr1 := hr.step (ps_hc_ne (chP_ne hp) rfl)
    have hf1 := ((((fr.refl 24 144 144 t s).p (s.1 10 + 1)).a15 (x := t) (by omega) 0).a16 (x := t) (by omega) 1).a17 (x := 3 * t) (by omega) (ps_hc l)
    have h1 : rTm (mA (mA (mA (mI s 10 (s.1 10 + 1)) 15 (upd (s.2.1 15) t 0)) 16 (upd (s.2.1 16) t 1)) 17 (upd (s.2.1 17) (3 * t) (ps_hc l))).2.1 t (0, [ps_hc l]) := by
      refine ⟨upd_eq, upd_eq, by simp, ?_⟩
      intro k hk
      simp only [List.length_cons, List.length_nil] at hk
      rw [show k = 0 by omega]
      exact upd_eq
    by_cases hL : chL (ps_hc l)
    · rw [if_neg (zb_ne.mpr hL)]
      refine rq_takes (by decide) hr1 (fun e hr2 => ?_) (fun e => ?_)
      · rw [if_neg (by decide)]
        refine rs_term_81 ht 2 [] l.tail.tail _ Q rfl ((hf1.p _).a15 (x := t) (by omega) _ |>.a16 (x := t) (by omega) _) upd_eq upd_eq (fun k hk => absurd hk (by simp)) hr2 ?_
        intro s' l' g1 g2
        have eq : ps_term l = ps_parts (ps_hc l) 2 [] l.tail.tail := by rw [ps_term, if_pos hp, if_pos ⟨hL, e⟩]
        rw [← eq]
        exact q s' l' g1 g2
      · rw [if_pos rfl]
        refine (q _ _ hf1 hr1).1 (0, [ps_hc l]) ?_ h1
        rw [ps_term, if_pos hp, if_neg (fun z => e z.2)]
    · rw [if_pos (zb_eq.mpr hL)]
      refine (q _ _ hf1 hr1).1 (0, [ps_hc l]) ?_ h1
      rw [ps_term, if_pos hp, if_neg (fun z => hL z.1)]
  · rw [if_pos (zb_eq.mpr hp)]
    refine (q _ _ (fr.refl _ _ _ _ s) hr).2 ?_
    rw [ps_term, if_neg hp]
/-- the terms from t on -/
def rTms (A : Nat → Nat → Int32) (t : Nat) (ts : List Tm) : Prop := ∀ i x, ts[i]? = some x → rTm A (t + i) x
theorem rTms.fr {b k a t j : Nat} {s s' : mS} {ts : List Tm} (h : rTms s.2.1 j ts) (f : fr b k a t s s') (hj : j + ts.length ≤ t) : rTms s'.2.1 j ts := by
  intro i x hx
  have := (List.getElem?_eq_some_iff.mp hx).1
  exact (h i x hx).fr f (by omega)
theorem rTms.add {j : Nat} {A : Nat → Nat → Int32} {ts : List Tm} {x : Tm} (h : rTms A j ts) (hx : rTm A (j + ts.length) x) : rTms A j (ts ++ [x]) := by
  intro i y hy
  by_cases hi : i < ts.length
  · rw [List.getElem?_append_left hi] at hy
    exact h i y hy
  · have := (List.getElem?_eq_some_iff.mp hy).1
    simp only [List.length_append, List.length_cons, List.length_nil] at this
    have e : i = ts.length := by omega
    subst e
    simp at hy
    subst hy
    exact hx
