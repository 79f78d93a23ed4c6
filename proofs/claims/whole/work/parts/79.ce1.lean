/-! the reference: rows, what follows in a state -/
def rfw (s s' : mS) : Prop := (∀ i, i ≠ 20 → i ≠ 23 → i ≠ 24 → i ≠ 28 → s'.1 i = s.1 i) ∧ (∀ i, i ≠ 21 → i ≠ 26 → i ≠ 27 → s'.2.1 i = s.2.1 i) ∧ (∀ i, i ≠ 22 → i ≠ 25 → s'.2.2 i = s.2.2 i)
theorem rfw.refl (s : mS) : rfw s s := ⟨fun _ _ _ _ _ => rfl, fun _ _ _ _ => rfl, fun _ _ _ => rfl⟩
theorem rfw.trans {s s' s'' : mS} (h : rfw s s') (g : rfw s' s'') : rfw s s'' := ⟨fun i a b c e => (g.1 i a b c e).trans (h.1 i a b c e), fun i a b c => (g.2.1 i a b c).trans (h.2.1 i a b c), fun i a b => (g.2.2 i a b).trans (h.2.2 i a b)⟩
theorem fpp.w {s s' : mS} (h : fpp s s') : rfw s s' := ⟨fun i a b _ e => h.1 i a b e, h.2.1, h.2.2⟩
theorem ff.w {s s' : mS} (h : ff s s') : rfw s s' := ⟨fun i a _ _ _ => h.1 i a, fun i a _ _ => h.2.1 i a, fun i a _ => h.2.2 i a⟩
/-- the rules in the reference, and their layers -/
def RC (R : List Rl) (s : mS) : Prop := ∃ n : Nat → Nat, fCtx R n ∧ rRules s R ∧ ∀ y, y < 512 → s.2.1 19 y = nI (n y)
theorem RC.A {R : List Rl} {s s' : mS} (h : RC R s) (h1 : s'.1 11 = s.1 11) (h2 : ∀ i, 12 ≤ i → i ≤ 19 → s'.2.1 i = s.2.1 i) : RC R s' := by
  obtain ⟨n, a, b, c⟩ := h
  exact ⟨n, a, b.A h1 (fun i x y => h2 i (by omega) (by omega)), fun y hy => by rw [h2 19 (by decide) (by decide)]; exact c y hy⟩
theorem RC.w {R : List Rl} {s s' : mS} (h : RC R s) (g : rfw s s') : RC R s' := h.A (g.1 11 (by decide) (by decide) (by decide) (by decide)) (fun i a b => g.2.1 i (by omega) (by omega) (by omega))
theorem RC.fl {R : List Rl} {s : mS} (h : RC R s) : flNone R ∧ (∀ x ∈ R, wfR x) ∧ R.length ≤ 24 := by
  obtain ⟨n, a, _⟩ := h
  exact ⟨a.2.2.1, a.1, a.2.1⟩
/-- a row of terms among the longs -/
def rT (s : mS) (k off : Nat) (T : List Tm) : Prop := ∀ (i : Nat) t, T[i]? = some t → s.2.2 k (off + i) = lN (tL t)
theorem rT.fr {s s' : mS} {k off : Nat} {T : List Tm} (h : rT s k off T) (g : s'.2.2 k = s.2.2 k) : rT s' k off T := fun i t ht => by rw [g]; exact h i t ht
theorem rq_nothing {d : Nat} {s : mS} {Q : Unit → mS → Prop} (q : ∀ s', rfw s s' → rFacts s' [] → s'.1 23 = 0 → s'.1 24 = 0 → Q () s') : m_nothing (d + 1) s Q := by
  refine m_nothing.of (T_nothing_0 (q _ ⟨fun i a b c _ => ?_, fun _ _ _ _ => rfl, fun _ _ _ => rfl⟩ ⟨rfl, by decide, fun i f h => absurd h (by simp)⟩ rfl rfl))
  show (if i = 24 then (0 : Int32) else if i = 23 then 0 else if i = 20 then 0 else s.1 i) = s.1 i
  rw [if_neg c, if_neg b, if_neg a]
theorem wfF_T {t : Tm} (h : gT t) : wfF (337, [t]) := (wfC_T h).1
theorem wfF_D {a b : Tm} (ha : gT a) (hb : gT b) : wfF (274, [a, b]) := (wfC_D ha hb).1
theorem bT_take {T : List Tm} {i : Nat} {t : Tm} (h : T[i]? = some t) : bT (T.take (i + 1)) = bT (T.take i) ++ [(337, [t])] := by
  unfold bT
  rw [List.take_succ, h, List.map_append]
  rfl
theorem bT_nodup {T : List Tm} (h : okT T) : (bT T).Nodup := by
  unfold bT
  refine List.Pairwise.map _ ?_ h.nodup
  intro x y hxy e
  simp only [Prod.mk.injEq, List.cons.injEq, and_true, true_and] at e
  exact hxy e
/-- the terms of a state are given, one after the other -/
theorem ra_loop {d : Nat} {s0 : mS} {T : List Tm} {H : Int32 → mS → Prop} (ho : okT T) (h24 : T.length ≤ 24) (step : ∀ (i : Nat) t s, T[i]? = some t → rfw s0 s → m_add (d + 2) (337 : Int32) (lN (tL t)) (0 : Int64) (0 : Int64) s (fun _ s4 => H (nI i + (1 : Int32)) s4) → H (nI i) s) (q : ∀ s, rfw s0 s → rFacts s (bT T) → s.1 23 = 0 → H (nI T.length) s) : ∀ (m i : Nat) (s : mS), i + m = T.length → rfw s0 s → rFacts s (bT (T.take i)) → s.1 23 = 0 → H (nI i) s := by
  intro m
  induction m with
  | zero =>
    intro i s hi hf hL hb
    have e : i = T.length := by omega
    subst e
    rw [List.take_length] at hL
    exact q s hf hL hb
  | succ m ih =>
    intro i s hi hf hL hb
    have ht : T[i]? = some (T[i]'(by omega)) := List.getElem?_eq_getElem (by omega)
    have hg := ho.2 _ (List.mem_of_getElem? ht)
    have hni : ¬ ((337, [T[i]'(by omega)]) : Fct) ∈ bT (T.take i) := by
      intro z
      obtain ⟨t', ht', e⟩ := bT_mem.mp z
      have e2 : T[i]'(by omega) = t' := by simpa using e
      obtain ⟨j, hj⟩ := List.getElem?_of_mem ht'
      have hji := (List.getElem?_eq_some_iff.mp hj).1
      rw [List.length_take] at hji
      rw [List.getElem?_take, if_pos (by omega)] at hj
      have := ho.1.get hj ht (by omega)
      rw [← e2] at this
      omega
    have hlen : (bT (T.take i)).length ≤ 24 := by
      unfold bT
      rw [List.length_map, List.length_take]
      omega
    refine step i _ s ht hf ?_
    refine rq_add (F := (337, [T[i]'(by omega)])) hL (wfF_T hg) (Or.inl hb) (fun z => ?_) (fun _ z => absurd z hni) (fun _ _ z => by omega) (fun s4 _ _ _ f4 L4 => ?_)
    · rw [hb] at z
      exact absurd z (by decide)
    · rw [nI_1]
      rw [← bT_take ht] at L4
      exact ih (i + 1) s4 (by omega) (hf.trans f4.w) L4 (by rw [f4.1 23 (by decide)]; exact hb)
theorem rq_inState_now {d off : Nat} {R : List Rl} {T : List Tm} {s : mS} {Q : Unit → mS → Prop} (hc : RC R s) (hT : rT s 29 off T) (ho : okT T) (h24 : T.length ≤ 24) (hoff : off + T.length ≤ 24) (q0 : ∀ s' L, rfw s s' → rFacts s' L → s'.1 23 = 0 → Mdl R (bT T) L → Small R L → Q () s') (q1 : ∀ s' L, rfw s s' → rFacts s' L → s'.1 23 = 1 → Bad R (isB (bT T)) → Q () s') : m_inState_now (d + 8) (nI off) (nI T.length) s Q := by
  refine m_inState_now.of (T_inState_now_0 ?_)
  refine rq_nothing (d := d + 6) (fun s2 f2 L2 b2 _ => ?_)
  rw [← nI_0]
  refine ra_loop (d := d + 5) (s0 := s) (H := fun u s' => h_inState_now_7 (d + 7) (nI off) (nI T.length) u s' Q) ho h24 (fun i t s' ht hf k => ?_) (fun s' hf hL hb => ?_) T.length 0 s2 (by omega) f2 L2 b2
  · have hi := (List.getElem?_eq_some_iff.mp ht).1
    refine T_inState_now_7 ?_
    rw [if_neg (nI_ge (by omega) (by omega))]
    refine ⟨off + i, by rw [nI_add], by omega, ?_⟩
    rw [hf.2.2 29 (by decide) (by decide), hT i t ht]
    exact k
  · refine T_inState_now_7 ?_
    rw [if_pos (Int32.le_refl _)]
    obtain ⟨n, c1, c2, c3⟩ := hc.w hf
    exact rq_follow c1 c2 c3 hL (bT_nodup ho) hb (fun s9 L9 f9 g9 b9 m9 k9 => q0 s9 L9 (hf.trans f9.w) g9 b9 m9 k9) (fun s9 L9 f9 g9 b9 m9 => q1 s9 L9 (hf.trans f9.w) g9 b9 m9)
theorem rq_inState_next {d off : Nat} {R : List Rl} {T : List Tm} {s : mS} {Q : Unit → mS → Prop} (hc : RC R s) (hT : rT s 33 off T) (ho : okT T) (h24 : T.length ≤ 24) (hoff : off + T.length ≤ 24) (q0 : ∀ s' L, rfw s s' → rFacts s' L → s'.1 23 = 0 → Mdl R (bT T) L → Small R L → Q () s') (q1 : ∀ s' L, rfw s s' → rFacts s' L → s'.1 23 = 1 → Bad R (isB (bT T)) → Q () s') : m_inState_next (d + 8) (nI off) (nI T.length) s Q := by
  refine m_inState_next.of (T_inState_next_0 ?_)
  refine rq_nothing (d := d + 6) (fun s2 f2 L2 b2 _ => ?_)
  rw [← nI_0]
  refine ra_loop (d := d + 5) (s0 := s) (H := fun u s' => h_inState_next_7 (d + 7) (nI off) (nI T.length) u s' Q) ho h24 (fun i t s' ht hf k => ?_) (fun s' hf hL hb => ?_) T.length 0 s2 (by omega) f2 L2 b2
  · have hi := (List.getElem?_eq_some_iff.mp ht).1
    refine T_inState_next_7 ?_
    rw [if_neg (nI_ge (by omega) (by omega))]
    refine ⟨off + i, by rw [nI_add], by omega, ?_⟩
    rw [hf.2.2 33 (by decide) (by decide), hT i t ht]
    exact k
  · refine T_inState_next_7 ?_
    rw [if_pos (Int32.le_refl _)]
    obtain ⟨n, c1, c2, c3⟩ := hc.w hf
    exact rq_follow c1 c2 c3 hL (bT_nodup ho) hb (fun s9 L9 f9 g9 b9 m9 k9 => q0 s9 L9 (hf.trans f9.w) g9 b9 m9 k9) (fun s9 L9 f9 g9 b9 m9 => q1 s9 L9 (hf.trans f9.w) g9 b9 m9)
theorem rq_inState_stateTerm {d off : Nat} {R : List Rl} {T : List Tm} {s : mS} {Q : Unit → mS → Prop} (hc : RC R s) (hT : rT s 44 off T) (ho : okT T) (h24 : T.length ≤ 24) (hoff : off + T.length ≤ 1440) (q0 : ∀ s' L, rfw s s' → rFacts s' L → s'.1 23 = 0 → Mdl R (bT T) L → Small R L → Q () s') (q1 : ∀ s' L, rfw s s' → rFacts s' L → s'.1 23 = 1 → Bad R (isB (bT T)) → Q () s') : m_inState_stateTerm (d + 8) (nI off) (nI T.length) s Q := by
  refine m_inState_stateTerm.of (T_inState_stateTerm_0 ?_)
  refine rq_nothing (d := d + 6) (fun s2 f2 L2 b2 _ => ?_)
  rw [← nI_0]
  refine ra_loop (d := d + 5) (s0 := s) (H := fun u s' => h_inState_stateTerm_7 (d + 7) (nI off) (nI T.length) u s' Q) ho h24 (fun i t s' ht hf k => ?_) (fun s' hf hL hb => ?_) T.length 0 s2 (by omega) f2 L2 b2
  · have hi := (List.getElem?_eq_some_iff.mp ht).1
    refine T_inState_stateTerm_7 ?_
    rw [if_neg (nI_ge (by omega) (by omega))]
    refine ⟨off + i, by rw [nI_add], by omega, ?_⟩
    rw [hf.2.2 44 (by decide) (by decide), hT i t ht]
    exact k
  · refine T_inState_stateTerm_7 ?_
    rw [if_pos (Int32.le_refl _)]
    obtain ⟨n, c1, c2, c3⟩ := hc.w hf
    exact rq_follow c1 c2 c3 hL (bT_nodup ho) hb (fun s9 L9 f9 g9 b9 m9 k9 => q0 s9 L9 (hf.trans f9.w) g9 b9 m9 k9) (fun s9 L9 f9 g9 b9 m9 => q1 s9 L9 (hf.trans f9.w) g9 b9 m9)
theorem rFacts.fr {s s' : mS} {L : List Fct} (h : rFacts s L) (h1 : s'.1 20 = s.1 20) (h2 : s'.2.1 21 = s.2.1 21) (h3 : s'.2.2 22 = s.2.2 22) : rFacts s' L := by
  unfold rFacts at h ⊢
  rw [h1, h2, h3]
  exact h
/-- now is looked at: L is what follows there, if it is fresh -/
def rNow (R : List Rl) (T : List Tm) (s : mS) : Prop := (rT s 29 0 T ∧ s.1 30 = nI T.length) ∧ (s.1 24 = 0 ∨ (s.1 24 = 1 ∧ s.1 23 = 0 ∧ ∃ L, rFacts s L ∧ Mdl R (bT T) L ∧ Small R L))
theorem rq_look {d : Nat} {R : List Rl} {T : List Tm} {s : mS} {Q : Unit → mS → Prop} (hc : RC R s) (hT : rNow R T s) (ho : okT T) (h24 : T.length ≤ 24) (hg : ∃ L, Mdl R (bT T) L ∧ Small R L) (q : ∀ s' L, rfw s s' → rFacts s' L → s'.1 23 = 0 → s'.1 24 = 1 → Mdl R (bT T) L → Small R L → Q () s') : m_look (d + 9) s Q := by
  obtain ⟨Lg, g1, g2⟩ := hg
  refine m_look.of (T_look_0 ?_)
  by_cases h : s.1 24 = 0
  · rw [if_pos h, hT.1.2, ← nI_0]
    refine rq_inState_now hc hT.1.1 ho h24 (by omega) (fun s' L f g b m k => ?_) (fun s' L f g b m => absurd m (good_not g1 g2))
    refine q (mI s' 24 1) L ?_ (g.fr rfl rfl rfl) b rfl m k
    exact f.trans ⟨fun i _ _ c _ => if_neg c, fun _ _ _ _ => rfl, fun _ _ _ => rfl⟩
  · rw [if_neg h]
    rcases hT.2 with z | ⟨z1, z2, L, z3, z4, z5⟩
    · exact absurd z h
    · exact q (mI s 24 1) L ⟨fun i _ _ c _ => if_neg c, fun _ _ _ _ => rfl, fun _ _ _ => rfl⟩ (z3.fr rfl rfl rfl) z2 rfl z4 z5
