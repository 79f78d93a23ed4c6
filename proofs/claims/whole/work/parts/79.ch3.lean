/-! the reference's audit: a state looked at -/
theorem rs_look113 {d : Nat} {x1 : Int32} {M0 : List Tm} {s0 : mS} {Q : Int32 → mS → Prop} (h37 : rT s0 37 0 M0) (hl : M0.length ≤ 200) (q : ∀ s', (s'.1 = s0.1 ∧ s'.2.1 = s0.2.1 ∧ ∀ i, i ≠ 39 → s'.2.2 i = s0.2.2 i) → rT s' 39 0 M0 → m_legal d (1 : Int32) s' (fun _ s3 => h_looksAt_149 d x1 (nI M0.length) (s3.1 38) (0 : Int32) s3 Q)) : ∀ (m k : Nat) (s : mS), k + m = M0.length → (s.1 = s0.1 ∧ s.2.1 = s0.2.1 ∧ ∀ i, i ≠ 39 → s.2.2 i = s0.2.2 i) → (∀ (j : Nat) t, j < k → M0[j]? = some t → s.2.2 39 j = lN (tL t)) → h_looksAt_113 d x1 (nI M0.length) (nI k) s Q := by
  intro m
  induction m with
  | zero =>
    intro k s hk hf hv
    refine T_looksAt_113 ?_
    rw [if_pos (nI_le (by omega) (by omega))]
    refine q s hf (fun j t ht => ?_)
    rw [Nat.zero_add]
    have := (List.getElem?_eq_some_iff.mp ht).1
    exact hv j t (by omega) ht
  | succ m ih =>
    intro k s hk hf hv
    refine T_looksAt_113 ?_
    rw [if_neg (nI_ge (by omega) (by omega))]
    refine ⟨k, rfl, by omega, ?_⟩
    rw [nI_1]
    refine ih (k + 1) _ (by omega) ⟨hf.1, hf.2.1, fun i hi => (if_neg hi).trans (hf.2.2 i hi)⟩ (fun j t hj ht => ?_)
    show vp_updL (s.2.2 39) k (s.2.2 37 k) j = lN (tL t)
    by_cases e : j = k
    · subst e
      rw [vl_eq, hf.2.2 37 (by decide)]
      have := h37 j t ht
      rw [Nat.zero_add] at this
      exact this
    · rw [vl_ne e]
      exact hv j t (by omega) ht
theorem rs_look149 {d i m0 : Nat} {M1 : List Tm} {s0 : mS} {Q : Int32 → mS → Prop} (hi : i < 60) (hm0 : m0 ≤ 200) (h37 : rT s0 37 0 M1) (hl : M1.length ≤ 200) (q2 : ∀ s', (s'.1 = s0.1 ∧ s'.2.1 = s0.2.1 ∧ ∀ i, i ≠ 40 → s'.2.2 i = s0.2.2 i) → m0 = 0 ∨ M1.length = 0 → Q 2 s') (q3 : ∀ s', (s'.1 = s0.1 ∧ s'.2.1 = s0.2.1 ∧ ∀ i, i ≠ 40 → s'.2.2 i = s0.2.2 i) → ¬ (m0 = 0 ∨ M1.length = 0) → 1 < m0 ∧ 1 < M1.length → Q 3 s') (q : ∀ s', (s'.1 = s0.1 ∧ s'.2.1 = s0.2.1 ∧ ∀ i, i ≠ 40 → s'.2.2 i = s0.2.2 i) → ¬ (m0 = 0 ∨ M1.length = 0) → ¬ (1 < m0 ∧ 1 < M1.length) → rT s' 40 0 M1 → h_looksAt_207 d (nI i) (nI m0) (nI M1.length) (0 : Int32) (mA s' 48 (upd (s'.2.1 48) i (nI M1.length))) Q) : ∀ (m k : Nat) (s : mS), k + m = M1.length → (s.1 = s0.1 ∧ s.2.1 = s0.2.1 ∧ ∀ i, i ≠ 40 → s.2.2 i = s0.2.2 i) → (∀ (j : Nat) t, j < k → M1[j]? = some t → s.2.2 40 j = lN (tL t)) → h_looksAt_149 d (nI i) (nI m0) (nI M1.length) (nI k) s Q := by
  have nz : ∀ {n : Nat}, n ≤ 200 → (nI n = 0 ↔ n = 0) := fun {n} hn => by rw [← nI_0, nI_eq (by omega) (by decide)]
  intro m
  induction m with
  | zero =>
    intro k s hk hf hv
    refine T_looksAt_149 ?_
    rw [if_pos (nI_le (by omega) (by omega))]
    by_cases h0 : m0 = 0
    · rw [if_pos ((nz hm0).mpr h0)]
      exact q2 s hf (Or.inl h0)
    · rw [if_neg (fun z => h0 ((nz hm0).mp z))]
      by_cases h1 : M1.length = 0
      · rw [if_pos ((nz hl).mpr h1)]
        exact q2 s hf (Or.inr h1)
      · rw [if_neg (fun z => h1 ((nz hl).mp z))]
        have hv' : rT s 40 0 M1 := fun j t ht => by
          rw [Nat.zero_add]
          have := (List.getElem?_eq_some_iff.mp ht).1
          exact hv j t (by omega) ht
        by_cases h2 : m0 ≤ 1
        · rw [if_pos (by rw [n_1]; exact nI_le h2 (by decide))]
          exact ⟨i, rfl, hi, q s hf (fun z => z.elim h0 h1) (fun z => by omega) hv'⟩
        · rw [if_neg (by rw [n_1]; exact nI_ge (by omega) (by omega))]
          by_cases h3 : M1.length ≤ 1
          · rw [if_pos (by rw [n_1]; exact nI_le h3 (by decide))]
            exact ⟨i, rfl, hi, q s hf (fun z => z.elim h0 h1) (fun z => by omega) hv'⟩
          · rw [if_neg (by rw [n_1]; exact nI_ge (by omega) (by omega))]
            exact q3 s hf (fun z => z.elim h0 h1) (by omega)
  | succ m ih =>
    intro k s hk hf hv
    refine T_looksAt_149 ?_
    rw [if_neg (nI_ge (by omega) (by omega))]
    refine ⟨k, rfl, by omega, ?_⟩
    rw [nI_1]
    refine ih (k + 1) _ (by omega) ⟨hf.1, hf.2.1, fun i hi => (if_neg hi).trans (hf.2.2 i hi)⟩ (fun j t hj ht => ?_)
    show vp_updL (s.2.2 40) k (s.2.2 37 k) j = lN (tL t)
    by_cases e : j = k
    · subst e
      rw [vl_eq, hf.2.2 37 (by decide)]
      have := h37 j t ht
      rw [Nat.zero_add] at this
      exact this
    · rw [vl_ne e]
      exact hv j t (by omega) ht
theorem visL_2 {R : List Rl} {r0 r1 : Tm} {T : List Tm} {S : List (List Tm)} {L : List Fct} (he : ¬ aEn L) (h : (aMv L [r0, r1] 0).length = 0 ∨ (aMv L [r0, r1] 1).length = 0) : visL R r0 r1 T S L = (2, S, (-1, 0, [])) := by
  unfold visL
  rw [if_neg he, if_pos h]
theorem visL_3 {R : List Rl} {r0 r1 : Tm} {T : List Tm} {S : List (List Tm)} {L : List Fct} (he : ¬ aEn L) (h : ¬ ((aMv L [r0, r1] 0).length = 0 ∨ (aMv L [r0, r1] 1).length = 0)) (h3 : 1 < (aMv L [r0, r1] 0).length ∧ 1 < (aMv L [r0, r1] 1).length) : visL R r0 r1 T S L = (3, S, (-1, 0, [])) := by
  unfold visL
  rw [if_neg he, if_neg h, if_pos h3]
theorem visL_0 {R : List Rl} {r0 r1 : Tm} {T : List Tm} {S : List (List Tm)} {L : List Fct} (he : ¬ aEn L) (h : ¬ ((aMv L [r0, r1] 0).length = 0 ∨ (aMv L [r0, r1] 1).length = 0)) (h3 : ¬ (1 < (aMv L [r0, r1] 0).length ∧ 1 < (aMv L [r0, r1] 1).length)) : visL R r0 r1 T S L = (if (exK R T r0 r1 (aMv L [r0, r1] 0) (aMv L [r0, r1] 1) S ((aMv L [r0, r1] 0).length * (aMv L [r0, r1] 1).length)).1 = true then 0 else 7, (exK R T r0 r1 (aMv L [r0, r1] 0) (aMv L [r0, r1] 1) S ((aMv L [r0, r1] 0).length * (aMv L [r0, r1] 1).length)).2.1, (-1, (aMv L [r0, r1] 1).length, (exK R T r0 r1 (aMv L [r0, r1] 0) (aMv L [r0, r1] 1) S ((aMv L [r0, r1] 0).length * (aMv L [r0, r1] 1).length)).2.2)) := by
  unfold visL
  rw [if_neg he, if_neg h, if_neg h3]
theorem rq_looksAt {d : Nat} {R : List Rl} {r0 r1 : Tm} {T : List Tm} {S : List (List Tm)} {D : List DT} {s : mS} {Q : Int32 → mS → Prop} (hc : RC R s) (hr : rT s 35 0 [r0, r1]) (hok : okP [r0, r1]) (hS : rSt S s) (hoS : okS S) (hi : S[D.length]? = some T) (hD : rD D s) (hD2 : ∀ d ∈ D, d.2.2.length ≤ 200) (q : ∀ s', xfw s s' → rSt (visS R r0 r1 T S).2.1 s' → ((visS R r0 r1 T S).1 = 0 → rD (D ++ [(visS R r0 r1 T S).2.2]) s') → Q (visS R r0 r1 T S).1 s') : m_looksAt (d + 9) (nI D.length) s Q := by
  have hil := (List.getElem?_eq_some_iff.mp hi).1
  have h60 := hoS.1
  have hTo := hoS.2 T (List.mem_of_getElem? hi)
  refine m_looksAt.of (T_looksAt_0 ⟨D.length, rfl, by omega, D.length + 1, by rw [nI_1], by omega, D.length, rfl, by omega, ?_⟩)
  have x1 : xfw s (mA (mA s 46 (upd (s.2.1 46) (D.length + 1) (s.2.1 46 D.length))) 48 (upd (s.2.1 48) D.length 0)) := (xfw.w s _ (by decide)).trans (xfw.w _ _ (by decide))
  have st1 : rSt S (mA (mA s 46 (upd (s.2.1 46) (D.length + 1) (s.2.1 46 D.length))) 48 (upd (s.2.1 48) D.length 0)) := hS.fr rfl rfl rfl
  have d1 : rD D (mA (mA s 46 (upd (s.2.1 46) (D.length + 1) (s.2.1 46 D.length))) 48 (upd (s.2.1 48) D.length 0)) := hD.fr (fun j hj => if_neg (by omega)) (fun x _ => rfl) (fun j hj => if_neg (by omega)) (fun j _ => rfl)
  have e46 : (mA (mA s 46 (upd (s.2.1 46) (D.length + 1) (s.2.1 46 D.length))) 48 (upd (s.2.1 48) D.length 0)).2.1 46 (D.length + 1) = nI (bo D D.length) := (if_pos rfl).trans hD.at
  have e48 : (mA (mA s 46 (upd (s.2.1 46) (D.length + 1) (s.2.1 46 D.length))) 48 (upd (s.2.1 48) D.length 0)).2.1 48 D.length = 0 := if_pos rfl
  revert x1 st1 d1 e46 e48
  generalize mA (mA s 46 (upd (s.2.1 46) (D.length + 1) (s.2.1 46 D.length))) 48 (upd (s.2.1 48) D.length 0) = s1
  intro x1 st1 d1 e46 e48
  rw [(hS.2 D.length T hi).1, n_24, nI_mul]
  refine rq_inState_stateTerm (d := d) (hc.x x1) (st1.2 D.length T hi).2 hTo.1 hTo.2 (by have := hTo.2; omega) (fun s6 L f6 g6 b6 m6 k6 => ?_) (fun s6 L f6 g6 b6 m6 => ?_)
  · rw [if_pos b6]
    have eV := visS_L (r0 := r0) (r1 := r1) (S := S) hc.fl.1 m6 k6
    rw [eV] at q
    have x6 : xfw s s6 := x1.trans f6.l.x
    have hr6 : rT s6 35 0 [r0, r1] := hr.fr (x6.2.2 35 (by decide) (by decide) (by decide) (by decide) (by decide) (by decide) (by decide))
    have st6 := st1.l f6.l
    have d6 := d1.l f6.l
    have e46' : s6.2.1 46 (D.length + 1) = nI (bo D D.length) := by rw [f6.2.1 46 (by decide) (by decide) (by decide)]; exact e46
    have e48' : s6.2.1 48 D.length = 0 := by rw [f6.2.1 48 (by decide) (by decide) (by decide)]; exact e48
    refine rq_isEnd (d := d + 6) g6 (fun he => ?_) (fun he => ?_)
    · rw [if_neg (by decide)]
      refine rq_goalOf (d := d + 6) (i := 0) (r := r0) g6 m6.2.2.2 hr6 rfl hok.2 (hok.1.2 r0 (by simp)) (fun s13 f13 => ?_)
      have hr13 : rT s13 35 0 [r0, r1] := hr6.fr (f13.2.2 35 (by decide))
      have g13 : rFacts s13 L := g6.fr (f13.1 20 (by decide)) (by rw [f13.2.1]) (f13.2.2 22 (by decide))
      refine rq_goalOf (d := d + 6) (i := 1) (r := r1) g13 m6.2.2.2 hr13 rfl hok.2 (hok.1.2 r1 (by simp)) (fun s16 f16 => ?_)
      have f616 : cfw s6 s16 := f13.trans f16
      have x16 : xfw s (mA s16 49 (upd (s16.2.1 49) D.length (goalV (aGs L [r0, r1] 0)))) := (x6.trans f616.l.x).trans (xfw.w s16 _ (by decide))
      have st16 : rSt S (mA s16 49 (upd (s16.2.1 49) D.length (goalV (aGs L [r0, r1] 0)))) := (st6.l f616.l).fr rfl rfl rfl
      have eVe : visL R r0 r1 T S L = (if goalV (aGs L [r0, r1] 0) = -1 ∨ goalV (aGs L [r0, r1] 1) = -1 then 4 else if goalV (aGs L [r0, r1] 0) + goalV (aGs L [r0, r1] 1) = 8 then 0 else 5, S, (goalV (aGs L [r0, r1] 0), 0, [])) := by
        unfold visL
        rw [if_pos he]
      rw [eVe] at q
      have qq := q (mA s16 49 (upd (s16.2.1 49) D.length (goalV (aGs L [r0, r1] 0)))) x16 st16
      simp only at qq
      have hrd : rD (D ++ [(goalV (aGs L [r0, r1] 0), 0, [])]) (mA s16 49 (upd (s16.2.1 49) D.length (goalV (aGs L [r0, r1] 0)))) := by
        have d16 : rD D (mA s16 49 (upd (s16.2.1 49) D.length (goalV (aGs L [r0, r1] 0)))) := (d6.l f616.l).fr (fun j _ => rfl) (fun x _ => rfl) (fun j _ => rfl) (fun j hj => if_neg (by omega))
        refine ⟨d16.1, fun j dd hdd => ?_⟩
        by_cases hjl : j < D.length
        · rw [List.getElem?_append_left hjl] at hdd
          obtain ⟨a, b, c, e⟩ := d16.2 j dd hdd
          exact ⟨a, by rw [bo_app _ _ _ (by omega)]; exact b, fun k t ht => by rw [bo_app _ _ _ (by omega)]; exact c k t ht, e⟩
        · have hj2 := (List.getElem?_eq_some_iff.mp hdd).1
          rw [List.length_append, List.length_singleton] at hj2
          have ej : j = D.length := by omega
          subst ej
          rw [List.getElem?_append_right (Nat.le_refl _), Nat.sub_self] at hdd
          have ed : (goalV (aGs L [r0, r1] 0), 0, []) = dd := Option.some.inj hdd
          subst ed
          refine ⟨?_, ?_, fun k t ht => absurd ht (by simp), fun _ => if_pos rfl⟩
          · show s16.2.1 48 D.length = 0
            rw [f616.2.1]
            exact e48'
          · show s16.2.1 46 (D.length + 1) = _
            rw [bo_last, f616.2.1]
            exact e46'
      rcases goalV_ge (aGs L [r0, r1] 0) with g0 | g0
      · rw [if_pos (by rw [g0]; decide)]
        rw [if_pos (Or.inl g0)] at qq
        exact qq (fun z => absurd z (by decide))
      · have g0n : goalV (aGs L [r0, r1] 0) ≠ -1 := fun z => by rw [z] at g0; exact absurd g0 (by decide)
        rw [if_neg (Int32.not_lt.mpr g0)]
        rcases goalV_ge (aGs L [r0, r1] 1) with g1 | g1
        · rw [if_neg (by rw [g1]; decide)]
          rw [if_pos (Or.inr g1)] at qq
          exact qq (fun z => absurd z (by decide))
        · have g1n : goalV (aGs L [r0, r1] 1) ≠ -1 := fun z => by rw [z] at g1; exact absurd g1 (by decide)
          rw [if_pos g1]
          rw [if_neg (fun z => z.elim g0n g1n)] at qq
          by_cases h8 : goalV (aGs L [r0, r1] 0) + goalV (aGs L [r0, r1] 1) = 8
          · rw [if_pos h8] at qq ⊢
            exact qq (fun _ => hrd)
          · rw [if_neg h8] at qq ⊢
            exact qq (fun z => absurd z (by decide))
    · rw [if_pos rfl]
      refine rq_legal (d := d + 6) (i := 0) (r := r0) g6 m6.2.2.2 hr6 rfl hok.2 (hok.1.2 r0 (by simp)) (fun s12 f12 l12 n12 k12 => ?_)
      rw [n12, ← nI_0]
      refine rs_look113 (d := d + 8) (s0 := s12) l12 k12.2.1 (fun s2 g2 t2 => ?_) (aMv L [r0, r1] 0).length 0 s12 (by omega) ⟨rfl, rfl, fun _ _ => rfl⟩ (fun j t hj => by omega)
      have gA : rFacts s12 L := g6.fr (f12.1 20 (by decide)) (by rw [f12.2.1]) (f12.2.2 22 (by decide))
      have gB : rFacts s2 L := gA.fr (by rw [g2.1]) (by rw [g2.2.1]) (g2.2.2 22 (by decide))
      have hr2 : rT s2 35 0 [r0, r1] := (hr6.fr (f12.2.2 35 (by decide))).fr (g2.2.2 35 (by decide))
      refine rq_legal (d := d + 6) (i := 1) (r := r1) gB m6.2.2.2 hr2 rfl hok.2 (hok.1.2 r1 (by simp)) (fun s3 f3 l3 n3 k3 => ?_)
      rw [n3]
      have x2 : xfw s s2 := (x6.trans f12.l.x).trans ⟨fun _ _ _ _ _ _ _ _ => by rw [g2.1], fun _ _ _ _ _ => by rw [g2.2.1], fun i _ _ _ _ a _ _ => g2.2.2 i a⟩
      have x3 : xfw s s3 := x2.trans f3.l.x
      have st2 : rSt S s2 := (st6.l f12.l).fr (by rw [g2.1]) (by rw [g2.2.1]) (g2.2.2 44 (by decide))
      have st3 := st2.l f3.l
      have a3 : s3.2.1 = s6.2.1 := f3.2.1.trans (g2.2.1.trans f12.2.1)
      have d3 : rD D s3 := d6.fr (fun j _ => by rw [a3]) (fun j _ => by rw [a3]) (fun j _ => by rw [a3]) (fun j _ => by rw [a3])
      have x4 : ∀ s4 : mS, (s4.1 = s3.1 ∧ s4.2.1 = s3.2.1 ∧ ∀ i, i ≠ 40 → s4.2.2 i = s3.2.2 i) → xfw s s4 ∧ rSt S s4 ∧ rD D s4 := fun s4 h4 => ⟨x3.trans ⟨fun _ _ _ _ _ _ _ _ => by rw [h4.1], fun _ _ _ _ _ => by rw [h4.2.1], fun i _ _ _ _ _ a _ => h4.2.2 i a⟩, st3.fr (by rw [h4.1]) (by rw [h4.2.1]) (h4.2.2 44 (by decide)), d3.fr (fun j _ => by rw [h4.2.1]) (fun j _ => by rw [h4.2.1]) (fun j _ => by rw [h4.2.1]) (fun j _ => by rw [h4.2.1])⟩
      refine rs_look149 (d := d + 8) (i := D.length) (s0 := s3) (by omega) k12.2.1 l3 k3.2.1 (fun s4 h4 hz => ?_) (fun s4 h4 hz h3 => ?_) (fun s4 h4 hz h3 t4 => ?_) (aMv L [r0, r1] 1).length 0 s3 (by omega) ⟨rfl, rfl, fun _ _ => rfl⟩ (fun j t hj => by omega)
      · rw [visL_2 he hz] at q
        exact q s4 (x4 s4 h4).1 (x4 s4 h4).2.1 (fun z => absurd (show (2 : Int32) = 0 from z) (by decide))
      · rw [visL_3 he hz h3] at q
        exact q s4 (x4 s4 h4).1 (x4 s4 h4).2.1 (fun z => absurd (show (3 : Int32) = 0 from z) (by decide))
      · rw [visL_0 he hz h3] at q
        obtain ⟨y1, y2, y3⟩ := x4 s4 h4
        have hmn : (aMv L [r0, r1] 0).length * (aMv L [r0, r1] 1).length ≤ 200 := by
          by_cases h4' : (aMv L [r0, r1] 0).length = 1
          · rw [h4', Nat.one_mul]; exact k3.2.1
          · have h5 : (aMv L [r0, r1] 1).length = 1 := by omega
            rw [h5, Nat.mul_one]; exact k12.2.1
        have y5 : xfw s (mA s4 48 (upd (s4.2.1 48) D.length (nI (aMv L [r0, r1] 1).length))) := y1.trans (xfw.w s4 _ (by decide))
        refine rs_look207 (d := d) (s0 := mA s4 48 (upd (s4.2.1 48) D.length (nI (aMv L [r0, r1] 1).length))) (hc.x y5) (hr.fr (y5.2.2 35 (by decide) (by decide) (by decide) (by decide) (by decide) (by decide) (by decide))) hok hoS hi hD2 k12.1 k3.1 k12.2.1 k3.2.1 hmn (by omega) (fun s' hok' hY => ?_) (fun s' hf' hx' hst' => ?_) ((aMv L [r0, r1] 0).length * (aMv L [r0, r1] 1).length) 0 _ (by omega) rfl ⟨xfw.refl _, y2.fr rfl rfl rfl, ?_, if_pos rfl, ?_, fun j t ht => absurd ht (by simp [exK]), ?_, t4⟩
        · obtain ⟨w1, w2, w3, w4, w5, w6, w7, w8⟩ := hY
          have qq := q s' (y5.trans w1) w2
          simp only at qq
          rw [if_pos hok'] at qq
          refine qq (fun _ => ⟨w3.1, fun j dd hdd => ?_⟩)
          by_cases hjl : j < D.length
          · rw [List.getElem?_append_left hjl] at hdd
            obtain ⟨a, b, c, e⟩ := w3.2 j dd hdd
            exact ⟨a, by rw [bo_app _ _ _ (by omega)]; exact b, fun k t ht => by rw [bo_app _ _ _ (by omega)]; exact c k t ht, e⟩
          · have hj2 := (List.getElem?_eq_some_iff.mp hdd).1
            rw [List.length_append, List.length_singleton] at hj2
            have ej : j = D.length := by omega
            subst ej
            rw [List.getElem?_append_right (Nat.le_refl _), Nat.sub_self] at hdd
            have ed := Option.some.inj (show some _ = some dd from hdd)
            have hlenE := (exK_ok (R := R) (T := T) (r0 := r0) (r1 := r1) (M0 := aMv L [r0, r1] 0) (M1 := aMv L [r0, r1] 1) hoS ((aMv L [r0, r1] 0).length * (aMv L [r0, r1] 1).length)).2.2.2 hok'
            rw [← ed]
            refine ⟨w4, ?_, fun k t ht => ?_, fun z => ?_⟩
            · rw [bo_last, w5]
              show nI (bo D D.length + _) = nI (bo D D.length + (exK R T r0 r1 (aMv L [r0, r1] 0) (aMv L [r0, r1] 1) S ((aMv L [r0, r1] 0).length * (aMv L [r0, r1] 1).length)).2.2.length)
              rw [hlenE]
            · rw [bo_app _ _ _ (Nat.le_refl _)]
              exact w6 k t ht
            · exact absurd (Or.inr z) hz
        · have qq := q s' (y5.trans hx') hst'
          simp only at qq
          rw [if_neg (by rw [hf']; decide)] at qq
          exact qq (fun z => absurd z (by decide))
        · exact y3.fr (fun j _ => rfl) (fun x _ => rfl) (fun j hj => if_neg (by omega)) (fun j _ => rfl)
        · show s4.2.1 46 (D.length + 1) = _
          rw [h4.2.1, a3, Nat.add_zero]
          exact e46'
        · exact (t2.fr (f3.2.2 39 (by decide))).fr (h4.2.2 39 (by decide))
  · rw [b6, if_neg (by decide)]
    rw [visS_7 (vw_none m6)] at q
    exact q s6 (x1.trans f6.l.x) (st1.l f6.l) (fun z => absurd (show (7 : Int32) = 0 from z) (by decide))
