/-! load: the reference, taking the rules -/
theorem rs_load123 {d : Nat} {X : List Int32} {s0 : mS} {Q : Int32 → mS → Prop} (hX : xC X) (h9 : s0.1 9 = nI X.length) (hx : ∀ k, k < X.length → s0.2.1 8 k = X.getD k 0) (q : ∀ s', s'.1 = s0.1 → (∀ i, i ≠ 3 → s'.2.1 i = s0.2.1 i) → s'.2.2 = s0.2.2 → (∀ k, k < X.length → s'.2.1 3 k = X.getD k 0) → h_load_182 d (0 : Int32) (mI (mI (mI (mI (mI s' 4 (s'.1 9)) 5 (1 : Int32)) 41 (0 : Int32)) 43 (0 : Int32)) 32 (s'.1 34)) Q) : ∀ (n k : Nat) (s : mS), k + n = X.length → s.1 = s0.1 → (∀ i, i ≠ 3 → s.2.1 i = s0.2.1 i) → s.2.2 = s0.2.2 → (∀ j, j < k → s.2.1 3 j = X.getD j 0) → h_load_123 d (nI k) s Q := by
  have h240 := hX.1
  intro n
  induction n with
  | zero =>
    intro k s hk f1 f2 f3 hv
    refine T_load_123 ?_
    rw [if_pos (by rw [f1, h9]; exact nI_le (by omega) (by omega))]
    exact q s f1 f2 f3 (fun j hj => hv j (by omega))
  | succ n ih =>
    intro k s hk f1 f2 f3 hv
    refine T_load_123 ?_
    rw [if_neg (by rw [f1, h9]; exact nI_ge (by omega) (by omega))]
    refine ⟨k, rfl, by omega, ?_⟩
    rw [nI_1]
    refine ih (k + 1) _ (by omega) f1 (fun i hi => (if_neg hi).trans (f2 i hi)) f3 (fun j hj => ?_)
    show upd (s.2.1 3) k (vp_nar .char (s.2.1 8 k)) j = X.getD j 0
    unfold upd
    by_cases e : j = k
    · rw [if_pos e, f2 8 (by decide), hx k (by omega), e, xC_nar hX (by omega)]
    · rw [if_neg e]
      exact hv j (by omega)
theorem rs_load182 {d : Nat} {T : List Tm} {s0 : mS} {Q : Int32 → mS → Prop} (hT : rT s0 33 0 T) (h34 : s0.1 34 = nI T.length) (hl : T.length ≤ 24) (q : ∀ s', s'.1 = s0.1 → s'.2.1 = s0.2.1 → (∀ i, i ≠ 31 → s'.2.2 i = s0.2.2 i) → rT s' 31 0 T → m_begin d s' (fun _ s3 => m_look d s3 (fun _ s5 => m_collect d (329 : Int32) (0 : Int64) (0 : Int32) s5 (fun _ s7 => h_load_235 d (0 : Int32) (mI s7 36 (s7.1 38)) Q)))) : ∀ (n k : Nat) (s : mS), k + n = T.length → s.1 = s0.1 → s.2.1 = s0.2.1 → (∀ i, i ≠ 31 → s.2.2 i = s0.2.2 i) → (∀ (i : Nat) t, i < k → T[i]? = some t → s.2.2 31 i = lN (tL t)) → h_load_182 d (nI k) s Q := by
  intro n
  induction n with
  | zero =>
    intro k s hk f1 f2 f3 hv
    refine T_load_182 ?_
    rw [if_pos (by rw [f1, h34]; exact nI_le (by omega) (by omega))]
    refine q s f1 f2 f3 (fun i t ht => ?_)
    rw [Nat.zero_add]
    have := (List.getElem?_eq_some_iff.mp ht).1
    exact hv i t (by omega) ht
  | succ n ih =>
    intro k s hk f1 f2 f3 hv
    refine T_load_182 ?_
    rw [if_neg (by rw [f1, h34]; exact nI_ge (by omega) (by omega))]
    refine ⟨k, rfl, by omega, ?_⟩
    rw [nI_1]
    refine ih (k + 1) _ (by omega) f1 f2 (fun i hi => (if_neg hi).trans (f3 i hi)) (fun i t hi ht => ?_)
    show vp_updL (s.2.2 31) k (s.2.2 33 k) i = lN (tL t)
    by_cases e : i = k
    · subst e
      rw [vl_eq, f3 33 (by decide)]
      have := hT i t ht
      rw [Nat.zero_add] at this
      exact this
    · rw [vl_ne e]
      exact hv i t (by omega) ht
theorem rs_load235 {d : Nat} {T : List Tm} {s0 : mS} {Q : Int32 → mS → Prop} (hT : rT s0 37 0 T) (h36 : s0.1 36 = nI T.length) (hl : T.length ≤ 24) (q : ∀ s', s'.1 = s0.1 → s'.2.1 = s0.2.1 → (∀ i, i ≠ 35 → s'.2.2 i = s0.2.2 i) → rT s' 35 0 T → Q (s0.1 11) s') : ∀ (n k : Nat) (s : mS), k + n = T.length → s.1 = s0.1 → s.2.1 = s0.2.1 → (∀ i, i ≠ 35 → s.2.2 i = s0.2.2 i) → (∀ (i : Nat) t, i < k → T[i]? = some t → s.2.2 35 i = lN (tL t)) → h_load_235 d (nI k) s Q := by
  intro n
  induction n with
  | zero =>
    intro k s hk f1 f2 f3 hv
    refine T_load_235 ?_
    rw [if_pos (by rw [f1, h36]; exact nI_le (by omega) (by omega)), f1]
    refine q s f1 f2 f3 (fun i t ht => ?_)
    rw [Nat.zero_add]
    have := (List.getElem?_eq_some_iff.mp ht).1
    exact hv i t (by omega) ht
  | succ n ih =>
    intro k s hk f1 f2 f3 hv
    refine T_load_235 ?_
    rw [if_neg (by rw [f1, h36]; exact nI_ge (by omega) (by omega))]
    refine ⟨k, rfl, by omega, k, rfl, by omega, ?_⟩
    rw [nI_1]
    refine ih (k + 1) _ (by omega) f1 f2 (fun i hi => (if_neg hi).trans (f3 i hi)) (fun i t hi ht => ?_)
    show vp_updL (s.2.2 35) k (s.2.2 37 k) i = lN (tL t)
    by_cases e : i = k
    · subst e
      rw [vl_eq, f3 37 (by decide)]
      have := hT i t ht
      rw [Nat.zero_add] at this
      exact this
    · rw [vl_ne e]
      exact hv i t (by omega) ht
theorem rq_loaded {d : Nat} {R : List Rl} {X : List Int32} {T1 : List Tm} {L0 : List Fct} {s9 : mS} {Q : Int32 → mS → Prop} (hc : RC R s9) (hX : xC X) (h9 : s9.1 9 = nI X.length) (h8 : ∀ k, k < X.length → s9.2.1 8 k = X.getD k 0) (ho : okT T1) (h24 : T1.length ≤ 24) (t33 : rT s9 33 0 T1) (e34 : s9.1 34 = nI T1.length) (hm : Mdl R (bT T1) L0) (hs : Small R L0) (hP : okP (aRw 329 L0)) (q : ∀ m', (∀ i, i = 0 ∨ i = 2 ∨ i = 6 ∨ i = 7 → m'.1 i = s9.1 i) → RC R m' → (rT m' 29 0 T1 ∧ m'.1 30 = nI T1.length) → (rT m' 31 0 T1 ∧ m'.1 32 = nI T1.length) → (rT m' 35 0 (aRw 329 L0) ∧ m'.1 36 = nI (aRw 329 L0).length) → m'.1 4 = nI X.length → (∀ k, k < X.length → m'.2.1 3 k = X.getD k 0) → m'.1 5 = 1 → m'.1 41 = 0 → m'.1 43 = 0 → fz R T1 m' → Q (nI R.length) m') : h_load_123 (d + 9) (0 : Int32) s9 Q := by
  refine rs_load123 hX h9 h8 (fun s1 a1 a2 a3 a4 => ?_) X.length 0 s9 (by omega) rfl (fun _ _ => rfl) rfl (fun j hj => by omega)
  obtain ⟨s2, hs2⟩ : ∃ s2, s2 = mI (mI (mI (mI (mI s1 4 (s1.1 9)) 5 (1 : Int32)) 41 (0 : Int32)) 43 (0 : Int32)) 32 (s1.1 34) := ⟨_, rfl⟩
  rw [← hs2]
  have i2 : ∀ i, i ≠ 4 → i ≠ 5 → i ≠ 41 → i ≠ 43 → i ≠ 32 → s2.1 i = s9.1 i := by
    intro i x1 x2 x3 x4 x5
    rw [hs2, ← a1]
    exact (if_neg x5).trans ((if_neg x4).trans ((if_neg x3).trans ((if_neg x2).trans (if_neg x1))))
  have j2 : s2.2.1 = s1.2.1 := by rw [hs2]; rfl
  have k2 : s2.2.2 = s9.2.2 := by rw [hs2, ← a3]; rfl
  have e4 : s2.1 4 = nI X.length := by rw [hs2, ← h9, ← a1]; rfl
  have e5 : s2.1 5 = 1 := by rw [hs2]; rfl
  have e41 : s2.1 41 = 0 := by rw [hs2]; rfl
  have e43 : s2.1 43 = 0 := by rw [hs2]; rfl
  have e32 : s2.1 32 = nI T1.length := by rw [hs2, ← e34, ← a1]; rfl
  refine rs_load182 (T := T1) (s0 := s2) (t33.fr (by rw [k2])) ((i2 34 (by decide) (by decide) (by decide) (by decide) (by decide)).trans e34) h24 (fun s3 b1 b2 b3 t31 => ?_) T1.length 0 s2 (by omega) rfl rfl (fun _ _ => rfl) (fun i t hi => by omega)
  have c3 : RC R s3 := hc.A (by rw [b1]; exact i2 11 (by decide) (by decide) (by decide) (by decide) (by decide)) (fun i x y => by rw [b2, j2]; exact a2 i (by omega))
  refine rq_begin (d := d + 8) (R := R) t31 (by rw [b1]; exact e32) h24 (fun s4 f4 n4 z4 => ?_)
  have c4 : RC R s4 := c3.A (f4.1 11 (by decide) (by decide)) (fun i x y => by rw [f4.2.1])
  refine rq_look (d := d) c4 n4 ho h24 ⟨L0, hm, hs⟩ (fun s5 L5 f5 g5 b5 z5 m5 k5 => ?_)
  refine rq_coll1 (k := 329) (d := d + 8) g5 m5.2.2.2 (by decide) (by decide) (fun s7 P7 f7 t7 n7 o7 l7 a7 => ?_)
  have eP : P7 = aRw 329 L0 := by
    rw [aRw_same (mdl_same hc.fl.1 hm m5) 329]
    exact (rowS_eq o7 a7).symm
  subst eP
  refine rs_load235 (T := aRw 329 L0) (s0 := mI s7 36 (s7.1 38)) t7 n7 hP.2 (fun s8 d1 d2 d3 t35 => ?_) (aRw 329 L0).length 0 _ (by omega) rfl rfl (fun _ _ => rfl) (fun i t hi => by omega)
  have c7 : RC R s7 := (c4.w f5).A (f7.1 11 (by decide)) (fun i x y => by rw [f7.2.1])
  have c8 : RC R s8 := c7.A (by rw [d1]; rfl) (fun i x y => by rw [d2]; rfl)
  have J : ∀ i, i ≠ 24 → i ≠ 30 → i ≠ 20 → i ≠ 23 → i ≠ 28 → i ≠ 38 → i ≠ 36 → s8.1 i = s2.1 i := by
    intro i x1 x2 x3 x4 x5 x6 x7
    rw [d1, ← b1]
    exact (if_neg x7).trans ((f7.1 i x6).trans ((f5.1 i x3 x4 x1 x5).trans (f4.1 i x1 x2)))
  have K5 : ∀ i, i ≠ 38 → i ≠ 36 → s8.1 i = s5.1 i := by
    intro i x6 x7
    rw [d1]
    exact (if_neg x7).trans (f7.1 i x6)
  have A8 : ∀ i, i ≠ 21 → i ≠ 26 → i ≠ 27 → s8.2.1 i = s1.2.1 i := by
    intro i x1 x2 x3
    rw [d2, ← j2, ← b2, ← f4.2.1]
    show s7.2.1 i = _
    rw [f7.2.1]
    exact f5.2.1 i x1 x2 x3
  have W : ∀ i, i ≠ 22 → i ≠ 25 → i ≠ 37 → i ≠ 35 → s8.2.2 i = s4.2.2 i := by
    intro i x1 x2 x3 x4
    rw [d3 i x4]
    exact (f7.2.2 i x3).trans (f5.2.2 i x1 x2)
  have e11 : (mI s7 36 (s7.1 38)).1 11 = nI R.length := by
    obtain ⟨n, _, rr, _⟩ := c7
    exact rr.1
  rw [e11]
  refine q s8 (fun i hi => (J i (by omega) (by omega) (by omega) (by omega) (by omega) (by omega) (by omega)).trans (i2 i (by omega) (by omega) (by omega) (by omega) (by omega))) c8 ⟨n4.1.1.fr (W 29 (by decide) (by decide) (by decide) (by decide)), ?_⟩ ⟨t31.fr ((W 31 (by decide) (by decide) (by decide) (by decide)).trans (f4.2.2 31 (by decide))), ?_⟩ ⟨t35, ?_⟩ ?_ (fun k hk => ?_) ?_ ?_ ?_ (Or.inr ⟨?_, ?_, L5, ?_, m5, k5⟩)
  · exact (K5 30 (by decide) (by decide)).trans ((f5.1 30 (by decide) (by decide) (by decide) (by decide)).trans n4.1.2)
  · exact (J 32 (by decide) (by decide) (by decide) (by decide) (by decide) (by decide) (by decide)).trans e32
  · rw [d1]
    exact n7
  · exact (J 4 (by decide) (by decide) (by decide) (by decide) (by decide) (by decide) (by decide)).trans e4
  · rw [A8 3 (by decide) (by decide) (by decide)]
    exact a4 k hk
  · exact (J 5 (by decide) (by decide) (by decide) (by decide) (by decide) (by decide) (by decide)).trans e5
  · exact (J 41 (by decide) (by decide) (by decide) (by decide) (by decide) (by decide) (by decide)).trans e41
  · exact (J 43 (by decide) (by decide) (by decide) (by decide) (by decide) (by decide) (by decide)).trans e43
  · exact (K5 24 (by decide) (by decide)).trans z5
  · exact (K5 23 (by decide) (by decide)).trans b5
  · refine g5.fr (K5 20 (by decide) (by decide)) ?_ ?_
    · rw [d2]
      show s7.2.1 21 = _
      rw [f7.2.1]
    · rw [d3 22 (by decide)]
      exact f7.2.2 22 (by decide)
