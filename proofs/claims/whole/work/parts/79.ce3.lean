/-! the reference: where moves lead, how a game begins, ends and goals -/
/-- beyond: how many there are is all that counts -/
theorem rs_coll68x {d i n : Nat} {x1 x4 : Int32} {y2 y6 : Int64} {s0 : mS} {Q : Unit → mS → Prop} (hl : n ≤ 199) (q : ∀ s', cfw s0 s' → s'.1 38 = nI (n + 1) → h_collect_8 d x1 y2 x4 (nI (i + 1)) s' Q) : ∀ (c : Nat) (s : mS), c ≤ n → cfw s0 s → s.1 38 = nI n → h_collect_68 d x1 y2 x4 (nI i) y6 (nI c) s Q := by
  have fin : ∀ (c : Nat) (s : mS), cfw s0 s → s.1 38 = nI n → h_collect_8 d x1 y2 x4 (nI i + (1 : Int32)) (mI (mL s 37 (vp_updL (s.2.2 37) c y6)) 38 ((s.1 38) + (1 : Int32))) Q := by
    intro c s hf h38
    rw [nI_1]
    refine q _ (hf.trans ⟨fun j hj => if_neg hj, rfl, fun j hj => if_neg hj⟩) ?_
    show s.1 38 + 1 = _
    rw [h38, nI_1]
  intro c
  induction c with
  | zero =>
    intro s hc hf h38
    refine T_collect_68 ?_
    rw [if_pos (by decide)]
    exact ⟨0, rfl, by decide, fin 0 s hf h38⟩
  | succ c ih =>
    intro s hc hf h38
    refine T_collect_68 ?_
    rw [if_neg (by rw [← nI_0]; exact nI_ge (by omega) (by omega))]
    refine ⟨c, by rw [n_1, nI_sub (by omega), show c + 1 - 1 = c by omega], by omega, ?_⟩
    split
    · exact ⟨c + 1, rfl, by omega, fin (c + 1) s hf h38⟩
    · refine ⟨c + 1, rfl, by omega, ?_⟩
      rw [nI_sub1]
      exact ih _ (by omega) (hf.trans ⟨fun _ _ => rfl, rfl, fun j hj => if_neg hj⟩) h38
theorem rs_coll8x {d k : Nat} {L : List Fct} {s0 : mS} {Q : Unit → mS → Prop} (hL : rFacts s0 L) (q : ∀ s' n, cfw s0 s' → s'.1 38 = nI n → n ≤ 200 → Q () s') : ∀ (m i n : Nat) (s : mS), i + m = L.length → n ≤ i → cfw s0 s → s.1 38 = nI n → h_collect_8 d (nI k) (0 : Int64) (0 : Int32) (nI i) s Q := by
  have hl200 := hL.2.1
  intro m
  induction m with
  | zero =>
    intro i n s hi hn hf h38
    refine T_collect_8 ?_
    rw [hf.1 20 (by decide), hL.1, if_pos (nI_le (by omega) (by omega))]
    exact q s n hf h38 (by omega)
  | succ m ih =>
    intro i n s hi hn hf h38
    refine T_collect_8 ?_
    rw [hf.1 20 (by decide), hL.1, if_neg (nI_ge (by omega) (by omega))]
    refine ⟨i, rfl, by omega, ?_⟩
    split
    · rw [if_pos ((lg_eq _ _).mpr rfl)]
      refine ⟨3 * i, by rw [n_3, nI_mul, ← nI_0, nI_add, Nat.add_zero], by omega, ?_⟩
      rw [h38]
      exact rs_coll68x (s0 := s) (by omega) (fun s' f' h' => ih (i + 1) (n + 1) s' (by omega) (by omega) (hf.trans f') h') n s (Nat.le_refl _) ⟨fun _ _ => rfl, rfl, fun _ _ => rfl⟩ h38
    · rw [nI_1]
      exact ih (i + 1) n s (by omega) (by omega) hf h38
theorem rq_coll1x {d k : Nat} {L : List Fct} {s : mS} {Q : Unit → mS → Prop} (hL : rFacts s L) (q : ∀ s' n, cfw s s' → s'.1 38 = nI n → n ≤ 200 → Q () s') : m_collect (d + 1) (nI k) (0 : Int64) (0 : Int32) s Q := by
  refine m_collect.of (T_collect_0 ?_)
  have f0 : cfw s (mI s 38 0) := ⟨fun i hi => if_neg hi, rfl, fun _ _ => rfl⟩
  exact rs_coll8x (s0 := mI s 38 0) (hL.fr rfl rfl rfl) (fun s' n f => q s' n (f0.trans f)) L.length 0 0 _ (by omega) (by omega) ⟨fun _ _ => rfl, rfl, fun _ _ => rfl⟩ rfl
theorem rs_isState10x {d n : Nat} {s0 : mS} {Q : Int32 → mS → Prop} (h38 : s0.1 38 = nI n) (hl : n ≤ 200) (hb : s0.1 23 = 1) (q0 : ∀ s', sfw s0 s' → Q 0 s') : ∀ (m k : Nat) (s : mS), k + m = n → sfw s0 s → h_isState_10 d (nI k) s Q := by
  intro m
  induction m with
  | zero =>
    intro k s hk hf
    refine T_isState_10 ?_
    rw [hf.1 38 (by decide), h38, if_pos (nI_le (by omega) (by omega)), hf.1 23 (by decide), hb, if_neg (by decide)]
    exact q0 s hf
  | succ m ih =>
    intro k s hk hf
    refine T_isState_10 ?_
    rw [hf.1 38 (by decide), h38, if_neg (nI_ge (by omega) (by omega))]
    by_cases h24 : 24 < n
    · rw [if_pos (by
        have : ¬ nI n ≤ nI 24 := nI_ge h24 (by omega)
        exact Int32.not_le.mp this), ite_self]
      exact q0 s hf
    · rw [if_neg (by
        have : nI n ≤ nI 24 := nI_le (by omega) (by decide)
        exact Int32.not_lt.mpr this)]
      refine ⟨k, rfl, by omega, k, rfl, by omega, ?_⟩
      rw [nI_1]
      exact ih (k + 1) _ (by omega) (hf.trans ⟨fun _ _ => rfl, rfl, fun i hi => if_neg hi⟩)
theorem rq_isStatex {d n : Nat} {s : mS} {Q : Int32 → mS → Prop} (h38 : s.1 38 = nI n) (hl : n ≤ 200) (hb : s.1 23 = 1) (q0 : ∀ s', sfw s s' → Q 0 s') : m_isState (d + 1) s Q := by
  have f0 : sfw s (mI s 34 (s.1 38)) := ⟨fun i hi => if_neg hi, rfl, fun _ _ => rfl⟩
  refine m_isState.of (T_isState_0 ?_)
  rw [← nI_0]
  exact rs_isState10x (s0 := mI s 34 (s.1 38)) h38 hl hb (fun s' b => q0 s' (f0.trans b)) n 0 _ (by omega) ⟨fun _ _ => rfl, rfl, fun _ _ => rfl⟩
def lfw (s s' : mS) : Prop := (∀ i, i ≠ 20 → i ≠ 23 → i ≠ 24 → i ≠ 28 → i ≠ 34 → i ≠ 38 → s'.1 i = s.1 i) ∧ (∀ i, i ≠ 21 → i ≠ 26 → i ≠ 27 → s'.2.1 i = s.2.1 i) ∧ (∀ i, i ≠ 22 → i ≠ 25 → i ≠ 33 → i ≠ 37 → s'.2.2 i = s.2.2 i)
theorem lfw.refl (s : mS) : lfw s s := ⟨fun _ _ _ _ _ _ _ => rfl, fun _ _ _ _ => rfl, fun _ _ _ _ _ => rfl⟩
theorem lfw.trans {s s' s'' : mS} (h : lfw s s') (g : lfw s' s'') : lfw s s'' := ⟨fun i a b c e f k => (g.1 i a b c e f k).trans (h.1 i a b c e f k), fun i a b c => (g.2.1 i a b c).trans (h.2.1 i a b c), fun i a b c e => (g.2.2 i a b c e).trans (h.2.2 i a b c e)⟩
theorem rfw.l {s s' : mS} (h : rfw s s') : lfw s s' := ⟨fun i a b c e _ _ => h.1 i a b c e, h.2.1, fun i a b _ _ => h.2.2 i a b⟩
theorem cfw.l {s s' : mS} (h : cfw s s') : lfw s s' := ⟨fun i _ _ _ _ _ k => h.1 i k, fun i _ _ _ => by rw [h.2.1], fun i _ _ _ e => h.2.2 i e⟩
theorem sfw.l {s s' : mS} (h : sfw s s') : lfw s s' := ⟨fun i _ _ _ _ f _ => h.1 i f, fun i _ _ _ => by rw [h.2.1], fun i _ _ e _ => h.2.2 i e⟩
theorem RC.l {R : List Rl} {s s' : mS} (h : RC R s) (g : lfw s s') : RC R s' := h.A (g.1 11 (by decide) (by decide) (by decide) (by decide) (by decide) (by decide)) (fun i a b => g.2.1 i (by omega) (by omega) (by omega))
theorem bD_nodup {T : List Tm} {r0 m0 r1 m1 : Tm} (ho : okT T) (hne : r0 ≠ r1) : (bT T ++ bD r0 m0 r1 m1).Nodup ∧ (¬ ((274, [r0, m0]) : Fct) ∈ bT T) ∧ ¬ ((274, [r1, m1]) : Fct) ∈ bT T ++ [(274, [r0, m0])] := by
  have hT : ∀ f ∈ bT T, f.1 = 337 := fun f hf => by obtain ⟨t, _, e⟩ := bT_mem.mp hf; rw [e]
  have n0 : ¬ ((274, [r0, m0]) : Fct) ∈ bT T := fun z => absurd (show (274 : Nat) = 337 from hT _ z) (by decide)
  have n1 : ¬ ((274, [r1, m1]) : Fct) ∈ bT T := fun z => absurd (show (274 : Nat) = 337 from hT _ z) (by decide)
  have n2 : ((274, [r0, m0]) : Fct) ≠ (274, [r1, m1]) := by
    intro e
    simp only [Prod.mk.injEq, List.cons.injEq, true_and] at e
    exact hne e.1
  refine ⟨?_, n0, fun z => ?_⟩
  · refine List.nodup_append.mpr ⟨bT_nodup ho, ?_, fun a ha b hb e => ?_⟩
    · unfold bD
      refine List.nodup_cons.mpr ⟨fun z => n2 (by simpa using z), List.nodup_cons.mpr ⟨by simp, List.nodup_nil⟩⟩
    · subst e
      unfold bD at hb
      simp only [List.mem_cons, List.not_mem_nil, or_false] at hb
      rcases hb with e | e
      · exact n0 (e ▸ ha)
      · exact n1 (e ▸ ha)
  · rcases List.mem_append.mp z with z | z
    · exact n1 z
    · exact n2 (List.mem_singleton.mp z).symm
theorem rq_lead {d : Nat} {R : List Rl} {T : List Tm} {r0 m0 r1 m1 : Tm} {s : mS} {Q : Int32 → mS → Prop} (hc : RC R s) (hr : rT s 35 0 [r0, r1]) (ho : okT T) (h24 : T.length ≤ 24) (g0 : gT r0) (g1 : gT m0) (g2 : gT r1) (g3 : gT m1) (hne : r0 ≠ r1) (hL : rFacts s (bT T)) (hb : s.1 23 = 0) (q1 : ∀ s' T', lfw s s' → aNx R T r0 m0 r1 m1 = some T' → okT T' → T'.length ≤ 24 → rT s' 33 0 T' → s'.1 34 = nI T'.length → Q 1 s') (q0 : ∀ s', lfw s s' → aNx R T r0 m0 r1 m1 = none → Q 0 s') : m_add (d + 7) (274 : Int32) (s.2.2 35 0) (lN (tL m0)) (0 : Int64) s (fun _ s4 => m_add (d + 7) (274 : Int32) (s4.2.2 35 1) (lN (tL m1)) (0 : Int64) s4 (fun _ s7 => m_follow (d + 7) s7 (fun _ s9 => m_collect (d + 7) (313 : Int32) (0 : Int64) (0 : Int32) s9 (fun _ s11 => m_isState (d + 7) s11 (fun r12 s14 => (r12 = 0 ∨ r12 = 1) ∧ (Q r12 s14)))))) := by
  obtain ⟨nd, n0, n1⟩ := bD_nodup (m0 := m0) (m1 := m1) ho hne
  have hlen : (bT T).length ≤ 24 := by unfold bT; rw [List.length_map]; exact h24
  have e0 : s.2.2 35 0 = lN (tL r0) := hr 0 r0 rfl
  have e1 : s.2.2 35 1 = lN (tL r1) := hr 1 r1 rfl
  rw [e0]
  refine rq_add (d := d + 5) (F := (274, [r0, m0])) hL (wfF_D g0 g1) (Or.inl hb) (fun z => ?_) (fun _ z => absurd z n0) (fun _ _ z => by omega) (fun s4 _ _ _ f4 L4 => ?_)
  · rw [hb] at z
    exact absurd z (by decide)
  · have hb4 : s4.1 23 = 0 := by rw [f4.1 23 (by decide)]; exact hb
    rw [f4.2.2 35 (by decide), e1]
    refine rq_add (d := d + 5) (F := (274, [r1, m1])) L4 (wfF_D g2 g3) (Or.inl hb4) (fun z => ?_) (fun _ z => absurd z n1) (fun _ _ z => by rw [List.length_append] at z; simp only [List.length_singleton] at z; omega) (fun s7 _ _ _ f7 L7 => ?_)
    · rw [hb4] at z
      exact absurd z (by decide)
    · have hb7 : s7.1 23 = 0 := by rw [f7.1 23 (by decide)]; exact hb4
      rw [List.append_assoc] at L7
      have f07 : rfw s s7 := f4.w.trans f7.w
      obtain ⟨n, c1, c2, c3⟩ := hc.w f07
      refine rq_follow c1 c2 c3 (B := bT T ++ bD r0 m0 r1 m1) L7 nd hb7 (fun s9 L9 f9 g9 b9 m9 k9 => ?_) (fun s9 L9 f9 g9 b9 m9 => ?_)
      · obtain ⟨Lv, v1, v2⟩ := vw_some hc.fl.1 m9 k9
        refine rq_coll1 (k := 313) (d := d + 6) g9 m9.2.2.2 (by decide) (by decide) (fun s11 T11 a1 a2 a3 a4 a5 a6 => ?_)
        have f011 : lfw s s11 := (f07.trans f9.w).l.trans a1.l
        have b11 : s11.1 23 = 0 := by rw [a1.1 23 (by decide)]; exact b9
        refine rq_isState (d := d + 6) a2 a3 a5 (Or.inl b11) (fun s14 _ x1 x2 x3 x4 => ⟨Or.inr rfl, ?_⟩) (fun s14 x1 x2 => ⟨Or.inl rfl, ?_⟩)
        · refine q1 s14 T11 (f011.trans x2.l) ?_ a4 x1 x3 x4
          unfold aNx
          rw [v1]
          show aSt 313 Lv = some T11
          rw [← aSt_same v2]
          exact aSt_some a4 x1 a6
        · refine q0 s14 (f011.trans x2.l) ?_
          unfold aNx
          rw [v1]
          show aSt 313 Lv = none
          rw [← aSt_same v2]
          refine aSt_none ?_
          rintro ⟨T', y1, y2, y3⟩
          have : T' = T11 := okT.uniq y1 a4 (fun t => (y3 t).trans (a6 t).symm)
          rcases x1 with z | z
          · rw [b11] at z
            exact absurd z (by decide)
          · rw [this] at y2
            omega
      · refine rq_coll1x (k := 313) (d := d + 6) g9 (fun s11 n11 a1 a3 a5 => ?_)
        have f011 : lfw s s11 := (f07.trans f9.w).l.trans a1.l
        have b11 : s11.1 23 = 1 := by rw [a1.1 23 (by decide)]; exact b9
        refine rq_isStatex (d := d + 6) a3 a5 b11 (fun s14 x2 => ⟨Or.inl rfl, ?_⟩)
        refine q0 s14 (f011.trans x2.l) ?_
        unfold aNx
        rw [vw_none m9]
        rfl
theorem rq_leadsOn_now {d off : Nat} {R : List Rl} {T : List Tm} {r0 m0 r1 m1 : Tm} {s : mS} {Q : Int32 → mS → Prop} (hc : RC R s) (hT : rT s 29 off T) (hr : rT s 35 0 [r0, r1]) (ho : okT T) (h24 : T.length ≤ 24) (hoff : off + T.length ≤ 24) (g0 : gT r0) (g1 : gT m0) (g2 : gT r1) (g3 : gT m1) (hne : r0 ≠ r1) (q1 : ∀ s' T', lfw s s' → aNx R T r0 m0 r1 m1 = some T' → okT T' → T'.length ≤ 24 → rT s' 33 0 T' → s'.1 34 = nI T'.length → Q 1 s') (q0 : ∀ s', lfw s s' → aNx R T r0 m0 r1 m1 = none → Q 0 s') : m_leadsOn_now (d + 8) (nI off) (nI T.length) (lN (tL m0)) (lN (tL m1)) s Q := by
  refine m_leadsOn_now.of (T_leadsOn_now_0 ?_)
  refine rq_nothing (d := d + 6) (fun s2 f2 L2 b2 _ => ?_)
  rw [← nI_0]
  refine ra_loop (d := d + 5) (s0 := s) (H := fun u s' => h_leadsOn_now_7 (d + 7) (nI off) (nI T.length) (lN (tL m0)) (lN (tL m1)) u s' Q) ho h24 (fun i t s' ht hf k => ?_) (fun s' hf hL hb => ?_) T.length 0 s2 (by omega) f2 L2 b2
  · have hi := (List.getElem?_eq_some_iff.mp ht).1
    refine T_leadsOn_now_7 ?_
    rw [if_neg (nI_ge (by omega) (by omega))]
    refine ⟨off + i, by rw [nI_add], by omega, ?_⟩
    rw [hf.2.2 29 (by decide) (by decide), hT i t ht]
    exact k
  · refine T_leadsOn_now_7 ?_
    rw [if_pos (Int32.le_refl _)]
    exact rq_lead (d := d) (hc.w hf) (hr.fr (hf.2.2 35 (by decide) (by decide))) ho h24 g0 g1 g2 g3 hne hL hb (fun s9 T9 f9 => q1 s9 T9 (hf.l.trans f9)) (fun s9 f9 => q0 s9 (hf.l.trans f9))
theorem rq_leadsOn_stateTerm {d off : Nat} {R : List Rl} {T : List Tm} {r0 m0 r1 m1 : Tm} {s : mS} {Q : Int32 → mS → Prop} (hc : RC R s) (hT : rT s 44 off T) (hr : rT s 35 0 [r0, r1]) (ho : okT T) (h24 : T.length ≤ 24) (hoff : off + T.length ≤ 1440) (g0 : gT r0) (g1 : gT m0) (g2 : gT r1) (g3 : gT m1) (hne : r0 ≠ r1) (q1 : ∀ s' T', lfw s s' → aNx R T r0 m0 r1 m1 = some T' → okT T' → T'.length ≤ 24 → rT s' 33 0 T' → s'.1 34 = nI T'.length → Q 1 s') (q0 : ∀ s', lfw s s' → aNx R T r0 m0 r1 m1 = none → Q 0 s') : m_leadsOn_stateTerm (d + 8) (nI off) (nI T.length) (lN (tL m0)) (lN (tL m1)) s Q := by
  refine m_leadsOn_stateTerm.of (T_leadsOn_stateTerm_0 ?_)
  refine rq_nothing (d := d + 6) (fun s2 f2 L2 b2 _ => ?_)
  rw [← nI_0]
  refine ra_loop (d := d + 5) (s0 := s) (H := fun u s' => h_leadsOn_stateTerm_7 (d + 7) (nI off) (nI T.length) (lN (tL m0)) (lN (tL m1)) u s' Q) ho h24 (fun i t s' ht hf k => ?_) (fun s' hf hL hb => ?_) T.length 0 s2 (by omega) f2 L2 b2
  · have hi := (List.getElem?_eq_some_iff.mp ht).1
    refine T_leadsOn_stateTerm_7 ?_
    rw [if_neg (nI_ge (by omega) (by omega))]
    refine ⟨off + i, by rw [nI_add], by omega, ?_⟩
    rw [hf.2.2 44 (by decide) (by decide), hT i t ht]
    exact k
  · refine T_leadsOn_stateTerm_7 ?_
    rw [if_pos (Int32.le_refl _)]
    exact rq_lead (d := d) (hc.w hf) (hr.fr (hf.2.2 35 (by decide) (by decide))) ho h24 g0 g1 g2 g3 hne hL hb (fun s9 T9 f9 => q1 s9 T9 (hf.l.trans f9)) (fun s9 f9 => q0 s9 (hf.l.trans f9))
theorem rq_begins {d : Nat} {R : List Rl} {s : mS} {Q : Int32 → mS → Prop} (hc : RC R s) (q1 : ∀ s' T1 L, lfw s s' → aBg R = some T1 → okT T1 → T1.length ≤ 24 → rT s' 33 0 T1 → s'.1 34 = nI T1.length → Mdl R (bT T1) L → Small R L → Q 1 s') (q0 : ∀ s', lfw s s' → aBad R → Q 0 s') : m_begins (d + 9) s Q := by
  refine m_begins.of (T_begins_0 ?_)
  refine rq_nothing (d := d + 7) (fun s2 f2 L2 b2 _ => ?_)
  obtain ⟨n, c1, c2, c3⟩ := hc.w f2
  refine rq_follow (d := d + 1) c1 c2 c3 L2 List.nodup_nil b2 (fun s9 L9 f9 g9 b9 m9 k9 => ?_) (fun s9 L9 f9 g9 b9 m9 => ?_)
  · obtain ⟨Lv, v1, v2⟩ := vw_some hc.fl.1 m9 k9
    refine rq_coll1 (k := 293) (d := d + 7) g9 m9.2.2.2 (by decide) (by decide) (fun s11 T11 a1 a2 a3 a4 a5 a6 => ?_)
    have f011 : lfw s s11 := (f2.trans f9.w).l.trans a1.l
    have b11 : s11.1 23 = 0 := by rw [a1.1 23 (by decide)]; exact b9
    refine rq_isState (d := d + 7) a2 a3 a5 (Or.inl b11) (fun s14 _ x1 x2 x3 x4 => ?_) (fun s14 x1 x2 => ?_)
    · rw [if_neg (by decide), x4]
      have f014 := f011.trans x2.l
      have ebg : aBg R = some T11 := by
        unfold aBg
        rw [v1]
        show aSt 293 Lv = some T11
        rw [← aSt_same v2]
        exact aSt_some a4 x1 a6
      refine rq_inState_next (d := d) (off := 0) (hc.l f014) x3 a4 x1 (by omega) (fun s12 L12 f12 g12 b12 m12 k12 => ?_) (fun s12 L12 f12 g12 b12 m12 => ?_)
      · rw [if_pos b12]
        exact q1 s12 T11 L12 (f014.trans f12.l) ebg a4 x1 (x3.fr (f12.2.2 33 (by decide) (by decide))) (by rw [f12.1 34 (by decide) (by decide) (by decide) (by decide)]; exact x4) m12 k12
      · rw [b12, if_neg (by decide)]
        exact q0 s12 (f014.trans f12.l) (Or.inr ⟨T11, ebg, vw_none m12⟩)
    · rw [if_pos rfl]
      refine q0 s14 (f011.trans x2.l) (Or.inl ?_)
      unfold aBg
      rw [v1]
      show aSt 293 Lv = none
      rw [← aSt_same v2]
      refine aSt_none ?_
      rintro ⟨T', y1, y2, y3⟩
      have : T' = T11 := okT.uniq y1 a4 (fun t => (y3 t).trans (a6 t).symm)
      rcases x1 with z | z
      · rw [b11] at z
        exact absurd z (by decide)
      · rw [this] at y2
        omega
  · refine rq_coll1x (k := 293) (d := d + 7) g9 (fun s11 n11 a1 a3 a5 => ?_)
    have f011 : lfw s s11 := (f2.trans f9.w).l.trans a1.l
    have b11 : s11.1 23 = 1 := by rw [a1.1 23 (by decide)]; exact b9
    refine rq_isStatex (d := d + 7) a3 a5 b11 (fun s14 x2 => ?_)
    rw [if_pos rfl]
    refine q0 s14 (f011.trans x2.l) (Or.inl ?_)
    unfold aBg
    rw [vw_none m9]
    rfl
