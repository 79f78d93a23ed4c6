/-! class and reference side by side: play, whole -/
theorem pm_play {N0 : Nat} {K : Nat → Nat} {d d2 C : Nat} {p0 p1 : Int32} {s : cS} {G : gm_H} {sz : Nat} {m : mS} (hN : N0 ≤ C) (h : IV K C s G sz m) : hX11_play_0 N0 K (d + 17) C p0 p1 s G sz 0 (fun o s' sz' dd => m_play (d2 + 10) p0 p1 m (fun r2 m' => oR [(2, 1), (3, 2)] o r2 m' ∧ IV K C s' G sz' m' ∧ sz' ≤ sz + 1 ∧ dd ≤ 6)) := by
  have i0 := h.r0 0
  refine TX11_play_0 hN ?_
  have out : ∀ (e : Nat) (k : Int32) (s' : cS) (m' : mS), (e, k) ∈ ([(2, 1), (3, 2)] : List (Nat × Int32)) → IV K C s' G sz m' → ∀ j, m_fail (j + 1) k m' (fun r2 m' => oR [(2, 1), (3, 2)] (.threw e) r2 m' ∧ IV K C s' G (sz + 1) m' ∧ sz + 1 ≤ sz + 1 ∧ 0 + 6 ≤ 6) := by
    intro e k s' m' hm hi j
    exact m_fail.of (T_fail_0 ⟨Or.inr ⟨e, k, hm, rfl, rfl⟩, (hi.r0 k).z (Nat.le_succ _), Nat.le_refl _, by decide⟩)
  rcases i0.2 with ⟨a, b⟩ | ⟨a, z, R, P, T1, T, L, X, b⟩
  · refine cq_isIdle (d := d + 16) hN (fun _ => ?_) (fun z hz => by rw [b.1] at hz; cases hz)
    rw [if_neg (by decide)]
    refine m_play.of (T_play_0 ?_)
    rw [if_pos (show m.1 5 = 0 from a)]
    exact out 2 1 s _ (by simp) i0 _
  refine cq_isIdle (d := d + 16) hN (fun hz => by rw [b.1.1] at hz; cases hz) (fun _ _ => ?_)
  rw [if_pos rfl]
  have h5 : ¬ m.1 5 = 0 := by rw [show m.1 5 = 1 from a]; decide
  obtain ⟨hC, hR, hf, hA, hP, h1, ho, hg, hrc⟩ := id b
  obtain ⟨hz80, hF, hM, hS, hsn, t17, t19, t21⟩ := id hC
  have e36 : m.1 36 = nI P.length := hR.2.2.2.1.2
  have two : (2 : Int32) = nI 2 := rfl
  rcases Classical.em (P.length = 2) |>.symm with hl2 | hl2
  · have hne : ¬ nI P.length = (2 : Int32) := by
      intro e
      have := congrArg Int32.toNatClampNeg e
      rw [two, nI_clamp (by have := hP.2; omega), nI_clamp (by decide)] at this
      exact hl2 this
    rw [t17.1, if_neg hne]
    refine m_play.of (T_play_0 ?_)
    rw [if_neg h5, e36, if_neg hne]
    exact out 2 1 s _ (by simp) i0 _
  rw [t17.1, if_pos (by rw [hl2]; rfl)]
  have r36 : m.1 36 = (2 : Int32) := by rw [e36, hl2]; rfl
  obtain ⟨r0, r1, rfl⟩ : ∃ r0 r1, P = [r0, r1] := two_of hl2
  -- the reference's first steps
  have start : ∀ (o : Outcome) (s' : cS) (sz' dd : Nat), (∀ m' L', rfw (mI m 0 0) m' → BV K C s G sz m' → m'.1 5 = 1 → GX G C z R [r0, r1] T1 T L X s m' → rFacts m' L' → Mdl R (bT T) L' → Small R L' → lsame L L' → q_isEnd (d2 + 9) m' (fun r5 => if r5 = 0 then (m_legal (d2 + 9) (0 : Int32) m' (fun _ s9 => if p0 < 0 then (m_fail (d2 + 9) (2 : Int32) s9 (fun r11 s13 => oR [(2, 1), (3, 2)] o r11 s13 ∧ IV K C s' G sz' s13 ∧ sz' ≤ sz + 1 ∧ dd ≤ 6)) else (if p0 < (s9.1 38) then (∃ k12 : Nat, p0 = nI k12 ∧ k12 < 201 ∧ (m_legal (d2 + 9) (1 : Int32) s9 (fun _ s14 => if p1 < 0 then (m_fail (d2 + 9) (2 : Int32) s14 (fun r16 s18 => oR [(2, 1), (3, 2)] o r16 s18 ∧ IV K C s' G sz' s18 ∧ sz' ≤ sz + 1 ∧ dd ≤ 6)) else (if p1 < (s14.1 38) then (∃ k17 : Nat, p1 = nI k17 ∧ k17 < 201 ∧ (m_leadsOn_now (d2 + 9) (0 : Int32) (s14.1 30) (s9.2.2 37 k12) (s14.2.2 37 k17) s14 (fun r18 s20 => if r18 = 0 then (m_fail (d2 + 9) (1 : Int32) (mI s20 24 (0 : Int32)) (fun r23 s25 => oR [(2, 1), (3, 2)] o r23 s25 ∧ IV K C s' G sz' s25 ∧ sz' ≤ sz + 1 ∧ dd ≤ 6)) else (m_inState_next (d2 + 9) (0 : Int32) (s20.1 34) s20 (fun _ s23 => if (s23.1 23) = 0 then (h_play_170 (d2 + 9) (0 : Int32) (mI (mI s23 24 (0 : Int32)) 30 (s23.1 34)) (fun r2 m' => oR [(2, 1), (3, 2)] o r2 m' ∧ IV K C s' G sz' m' ∧ sz' ≤ sz + 1 ∧ dd ≤ 6)) else (m_fail (d2 + 9) (1 : Int32) (mI s23 24 (0 : Int32)) (fun r26 s28 => oR [(2, 1), (3, 2)] o r26 s28 ∧ IV K C s' G sz' s28 ∧ sz' ≤ sz + 1 ∧ dd ≤ 6))))))) else (m_fail (d2 + 9) (2 : Int32) s14 (fun r17 s19 => oR [(2, 1), (3, 2)] o r17 s19 ∧ IV K C s' G sz' s19 ∧ sz' ≤ sz + 1 ∧ dd ≤ 6)))))) else (m_fail (d2 + 9) (2 : Int32) s9 (fun r12 s14 => oR [(2, 1), (3, 2)] o r12 s14 ∧ IV K C s' G sz' s14 ∧ sz' ≤ sz + 1 ∧ dd ≤ 6))))) else (m_fail (d2 + 9) (1 : Int32) m' (fun r8 s10 => oR [(2, 1), (3, 2)] o r8 s10 ∧ IV K C s' G sz' s10 ∧ sz' ≤ sz + 1 ∧ dd ≤ 6)))) → m_play (d2 + 10) p0 p1 m (fun r2 m' => oR [(2, 1), (3, 2)] o r2 m' ∧ IV K C s' G sz' m' ∧ sz' ≤ sz + 1 ∧ dd ≤ 6) := by
    intro o s' sz' dd hq
    refine m_play.of (T_play_0 ?_)
    rw [if_neg h5, if_pos r36]
    exact rq_lookG (d := d2) i0.1 a b (fun m' L' f B' a' X' g' _ _ e' k' hs => hq m' L' f B' a' X' g' e' k' hs)
  by_cases hen : aEn L
  · rw [hsn.2.2.1 hen, if_neg (by decide : ¬ (1 : Int32) = 0)]
    refine start _ _ _ _ (fun m' L' f B' a' X' g' e' k' hs => ?_)
    refine rq_isEnd (d := d2 + 7) g' (fun _ => ?_) (fun hn => absurd ((hs _).mp hen) hn)
    rw [if_neg (by decide)]
    exact out 2 1 s _ (by simp) ⟨B', Or.inr ⟨a', z, R, [r0, r1], T1, T, L, X, X'⟩⟩ _
  rw [hsn.2.2.2 hen, if_pos rfl]
  obtain ⟨⟨t25, t27⟩, ⟨mv0, mv1⟩, _, _⟩ := id hsn
  rw [show (0 : Int32) = nI 0 from rfl]
  refine cq_movesOf (d := d + 16) hN (by decide) (fun _ => ⟨_, (pos25.2.2 C s G).1, ?_⟩) (fun z => by omega)
  refine kq_at (d := d + 16) pos25 t25 mv0.2.1 ?_
  have g0 : gT r0 := hP.1.2 _ (by simp)
  have g1 : gT r1 := hP.1.2 _ (by simp)
  -- the reference's first list
  have legal0 : ∀ (m' : mS) (L' : List Fct) {Q : Unit → mS → Prop}, BV K C s G sz m' → m'.1 5 = 1 → GX G C z R [r0, r1] T1 T L X s m' → rFacts m' L' → Mdl R (bT T) L' → lsame L L' → (∀ m2, cfw m' m2 → BV K C s G sz m2 → m2.1 5 = 1 → GX G C z R [r0, r1] T1 T L X s m2 → rFacts m2 L' → rT m2 37 0 (aMv L [r0, r1] 0) → m2.1 38 = nI (aMv L [r0, r1] 0).length → Q () m2) → m_legal (d2 + 9) (nI 0) m' Q := by
    intro m' L' Q B' a' X' g' e' hs hq
    refine rq_legal (d := d2 + 7) (i := 0) g' e'.2.2.2 X'.2.1.2.2.2.1.1 rfl hP.2 g0 (fun m2 f2 t2 n2 k2 => ?_)
    have gg : rgf m' m2 := f2.l.g
    exact hq m2 f2 (B'.r gg) ((gg.1 5 (by decide)).trans a') (X'.r gg (X'.2.2.1.c f2)) (g'.fr (f2.1 20 (by decide)) (by rw [f2.2.1]) (f2.2.2 22 (by decide))) (by rw [aMv_same hs]; exact t2) (by rw [aMv_same hs]; exact n2)
  have legal1 : ∀ (m' : mS) (L' : List Fct) {Q : Unit → mS → Prop}, BV K C s G sz m' → m'.1 5 = 1 → GX G C z R [r0, r1] T1 T L X s m' → rFacts m' L' → Mdl R (bT T) L' → lsame L L' → (∀ m2, cfw m' m2 → BV K C s G sz m2 → m2.1 5 = 1 → GX G C z R [r0, r1] T1 T L X s m2 → rFacts m2 L' → rT m2 37 0 (aMv L [r0, r1] 1) → m2.1 38 = nI (aMv L [r0, r1] 1).length → Q () m2) → m_legal (d2 + 9) (nI 1) m' Q := by
    intro m' L' Q B' a' X' g' e' hs hq
    refine rq_legal (d := d2 + 7) (i := 1) g' e'.2.2.2 X'.2.1.2.2.2.1.1 rfl hP.2 g1 (fun m2 f2 t2 n2 k2 => ?_)
    have gg : rgf m' m2 := f2.l.g
    exact hq m2 f2 (B'.r gg) ((gg.1 5 (by decide)).trans a') (X'.r gg (X'.2.2.1.c f2)) (g'.fr (f2.1 20 (by decide)) (by rw [f2.2.1]) (f2.2.2 22 (by decide))) (by rw [aMv_same hs]; exact t2) (by rw [aMv_same hs]; exact n2)
  rcases atT_cases (p := p0) mv0.1.2 mv0.2.1 with ⟨z0, hout0⟩ | ⟨z0, x0, m0, ex0, hx0, hm0, gm0⟩
  · rw [show (nI 0) = (0 : Int32) from rfl, if_pos z0]
    refine start _ _ _ _ (fun m' L' f B' a' X' g' e' k' hs => ?_)
    refine rq_isEnd (d := d2 + 7) g' (fun hn => absurd ((hs _).mpr hn) hen) (fun _ => ?_)
    rw [if_pos rfl]
    refine legal0 m' L' B' a' X' g' e' hs (fun m2 f2 B2 a2 X2 g2 t2 n2 => ?_)
    rcases hout0 with z1 | ⟨z1, z2⟩
    · rw [if_pos z1]
      exact out 3 2 s _ (by simp) ⟨B2, Or.inr ⟨a2, z, R, [r0, r1], T1, T, L, X, X2⟩⟩ _
    · rw [if_neg z1, n2, if_neg z2]
      exact out 3 2 s _ (by simp) ⟨B2, Or.inr ⟨a2, z, R, [r0, r1], T1, T, L, X, X2⟩⟩ _
  subst ex0
  rw [show (nI 0) = (0 : Int32) from rfl, if_neg z0, show (1 : Int32) = nI 1 from rfl]
  refine cq_movesOf (d := d + 16) hN (by decide) (fun z => by omega) (fun _ => ⟨_, (pos27.2.2 C s G).1, ?_⟩)
  refine kq_at (d := d + 16) pos27 t27 mv1.2.1 ?_
  have l0 := mv0.2.1
  have l1 := mv1.2.1
  rcases atT_cases (p := p1) mv1.1.2 mv1.2.1 with ⟨z1, hout1⟩ | ⟨z1, x1, m1, ex1, hx1, hm1, gm1⟩
  · rw [if_pos z1]
    refine start _ _ _ _ (fun m' L' f B' a' X' g' e' k' hs => ?_)
    refine rq_isEnd (d := d2 + 7) g' (fun hn => absurd ((hs _).mpr hn) hen) (fun _ => ?_)
    rw [if_pos rfl]
    refine legal0 m' L' B' a' X' g' e' hs (fun m2 f2 B2 a2 X2 g2 t2 n2 => ?_)
    rw [if_neg (nI_pos (by omega)), n2, if_pos (Int32.not_le.mp (nI_ge hx0 (by omega)))]
    refine ⟨x0, rfl, by omega, ?_⟩
    refine legal1 m2 L' B2 a2 X2 g2 e' hs (fun m3 f3 B3 a3 X3 g3 t3 n3 => ?_)
    rcases hout1 with y1 | ⟨y1, y2⟩
    · rw [if_pos y1]
      exact out 3 2 s _ (by simp) ⟨B3, Or.inr ⟨a3, z, R, [r0, r1], T1, T, L, X, X3⟩⟩ _
    · rw [if_neg y1, n3, if_neg y2]
      exact out 3 2 s _ (by simp) ⟨B3, Or.inr ⟨a3, z, R, [r0, r1], T1, T, L, X, X3⟩⟩ _
  subst ex1
  rw [if_neg z1]
  -- the reference up to where the moves lead
  have both : ∀ (o : Outcome) (s' : cS) (sz' dd : Nat), (∀ m4 T', lfw (mI m 0 0) m4 → RC R m4 → aNx R T r0 m0 r1 m1 = some T' → okT T' → T'.length ≤ 24 → rT m4 33 0 T' → m4.1 34 = nI T'.length → m_inState_next (d2 + 9) (0 : Int32) (m4.1 34) m4 (fun _ s23 => if (s23.1 23) = 0 then (h_play_170 (d2 + 9) (0 : Int32) (mI (mI s23 24 (0 : Int32)) 30 (s23.1 34)) (fun r2 m' => oR [(2, 1), (3, 2)] o r2 m' ∧ IV K C s' G sz' m' ∧ sz' ≤ sz + 1 ∧ dd ≤ 6)) else (m_fail (d2 + 9) (1 : Int32) (mI s23 24 (0 : Int32)) (fun r26 s28 => oR [(2, 1), (3, 2)] o r26 s28 ∧ IV K C s' G sz' s28 ∧ sz' ≤ sz + 1 ∧ dd ≤ 6)))) → (∀ m4, lfw (mI m 0 0) m4 → aNx R T r0 m0 r1 m1 = none → m_fail (d2 + 9) (1 : Int32) (mI m4 24 (0 : Int32)) (fun r23 s25 => oR [(2, 1), (3, 2)] o r23 s25 ∧ IV K C s' G sz' s25 ∧ sz' ≤ sz + 1 ∧ dd ≤ 6)) → m_play (d2 + 10) (nI x0) (nI x1) m (fun r2 m' => oR [(2, 1), (3, 2)] o r2 m' ∧ IV K C s' G sz' m' ∧ sz' ≤ sz + 1 ∧ dd ≤ 6) := by
    intro o s' sz' dd hq1 hq0
    refine start _ _ _ _ (fun m' L' f B' a' X' g' e' k' hs => ?_)
    refine rq_isEnd (d := d2 + 7) g' (fun hn => absurd ((hs _).mpr hn) hen) (fun _ => ?_)
    rw [if_pos rfl]
    refine legal0 m' L' B' a' X' g' e' hs (fun m2 f2 B2 a2 X2 g2 t2 n2 => ?_)
    rw [if_neg (nI_pos (by omega)), n2, if_pos (Int32.not_le.mp (nI_ge hx0 (by omega)))]
    refine ⟨x0, rfl, by omega, ?_⟩
    refine legal1 m2 L' B2 a2 X2 g2 e' hs (fun m3 f3 B3 a3 X3 g3 t3 n3 => ?_)
    rw [if_neg (nI_pos (by omega)), n3, if_pos (Int32.not_le.mp (nI_ge hx1 (by omega)))]
    refine ⟨x1, rfl, by omega, ?_⟩
    have v0 := t2 x0 _ hm0
    have v1 := t3 x1 _ hm1
    rw [Nat.zero_add] at v0 v1
    rw [v0, v1, X3.2.1.2.1.2]
    have ff : lfw (mI m 0 0) m3 := (f.l.trans f2.l).trans f3.l
    have hne : r0 ≠ r1 := by
      intro e
      have := (List.pairwise_cons.mp hP.1.1).1 r1 (by simp)
      rw [e] at this
      omega
    refine rq_leadsOn_now (d := d2 + 1) (off := 0) X3.2.1.1 X3.2.1.2.1.1 X3.2.1.2.2.2.1.1 ho.1 ho.2 (by have := ho.2; omega) g0 gm0 g1 gm1 hne (fun m4 T' f4 n4 o4 l4 t4 k4 => ?_) (fun m4 f4 n4 => ?_)
    · rw [if_neg (by decide)]
      exact hq1 m4 T' (ff.trans f4) (X3.2.1.1.A (f4.1 11 (by decide) (by decide) (by decide) (by decide) (by decide) (by decide)) (fun i x y => f4.2.1 i (by omega) (by omega) (by omega))) n4 o4 l4 t4 k4
    · rw [if_pos rfl]
      exact hq0 m4 (ff.trans f4) n4
  refine cq_advance (d := d) hN hR.1.fl.1 hF t17 hP t25 t27 mv0.1 mv1.1 mv0.2.1 mv1.2.1 hm0 hm1 t21 ho.1 ho.2 ⟨L, hM, hS⟩ (fun s' T' L' f F' n' o' l' M' k' sn' t' => ?_) (fun s' L' f F' n' M' k' sn' => ?_)
  · -- both go on
    rw [if_neg (by decide)]
    refine both _ _ _ _ (fun m4 T2 f4 rc4 n4 o4 l4 t4 k4 => ?_) (fun m4 f4 n4 => by rw [n'] at n4; cases n4)
    rw [n'] at n4
    injection n4 with n4
    subst n4
    rw [k4, show (0 : Int32) = nI 0 from rfl]
    refine rq_inState_next (d := d2 + 1) (off := 0) rc4 t4 o' l' (by omega) (fun m5 L5 f5 g5 b5 e5 s5 => ?_) (fun m5 L5 f5 g5 b5 e5 => absurd k' (e5 _ _ (fun f => Iff.rfl) M'))
    rw [show (nI 0) = (0 : Int32) from rfl, if_pos b5]
    have e34 : m5.1 34 = nI T'.length := (f5.1 34 (by decide) (by decide) (by decide) (by decide)).trans k4
    have t5 : rT m5 33 0 T' := t4.fr (f5.2.2 33 (by decide) (by decide))
    have ff : lfw (mI m 0 0) m5 := f4.trans f5.l
    rw [show (0 : Int32) = nI 0 from rfl]
    refine rs_play170 (s0 := mI (mI m5 24 (nI 0)) 30 (m5.1 34)) (T := T') t5 e34 l' (fun m6 f6 t6 => ?_) T'.length 0 _ (by omega) ⟨rfl, rfl, fun _ _ => rfl⟩ (fun i t hi => by omega)
    -- the reference's end
    have i6 : ∀ i, i ≠ 20 → i ≠ 23 → i ≠ 24 → i ≠ 28 → i ≠ 34 → i ≠ 38 → i ≠ 30 → m6.1 i = (mI m 0 0).1 i := by
      intro i a1 a2 a3 a4 a5 a6 a7
      rw [f6.1]
      show (if i = 30 then _ else if i = 24 then _ else m5.1 i) = _
      rw [if_neg a7, if_neg a3]
      exact ff.1 i a1 a2 a3 a4 a5 a6
    have j6 : ∀ i, i ≠ 21 → i ≠ 26 → i ≠ 27 → m6.2.1 i = (mI m 0 0).2.1 i := by
      intro i a1 a2 a3
      rw [f6.2.1]
      exact ff.2.1 i a1 a2 a3
    have k6 : ∀ i, i ≠ 22 → i ≠ 25 → i ≠ 33 → i ≠ 37 → i ≠ 29 → m6.2.2 i = (mI m 0 0).2.2 i := by
      intro i a1 a2 a3 a4 a5
      rw [f6.2.2 i a5]
      exact ff.2.2 i a1 a2 a3 a4
    have e30 : m6.1 30 = nI T'.length := by
      rw [f6.1]
      exact e34
    have e24 : m6.1 24 = 0 := by
      rw [f6.1]
      rfl
    obtain ⟨hC', hA'⟩ := b.g f (fun p hq => hq) F' M' k' sn' t'
    have B1 := i0.1.c f (fun p hq => by omega)
    have B' : BV K C s' G sz m6 := by
      obtain ⟨x1, ⟨Xx, y1, y2, y3, y4⟩, ⟨x3, x4⟩, x5⟩ := B1
      exact ⟨x1, ⟨Xx, y1, (i6 2 (by decide) (by decide) (by decide) (by decide) (by decide) (by decide) (by decide)).trans y2, y3, fun k hk => ⟨by rw [j6 1 (by decide) (by decide) (by decide)]; exact (y4 k hk).1, (y4 k hk).2⟩⟩, ⟨(i6 6 (by decide) (by decide) (by decide) (by decide) (by decide) (by decide) (by decide)).trans x3, (i6 7 (by decide) (by decide) (by decide) (by decide) (by decide) (by decide) (by decide)).trans x4⟩, x5.1, x5.2.fr (i6 5 (by decide) (by decide) (by decide) (by decide) (by decide) (by decide) (by decide)) (i6 4 (by decide) (by decide) (by decide) (by decide) (by decide) (by decide) (by decide))⟩
    have e5' : m6.1 5 = 1 := (i6 5 (by decide) (by decide) (by decide) (by decide) (by decide) (by decide) (by decide)).trans a
    refine ⟨Or.inl ⟨?_, i6 0 (by decide) (by decide) (by decide) (by decide) (by decide) (by decide) (by decide)⟩, ⟨B', Or.inr ⟨e5', z, R, [r0, r1], T1, T', L', X, hC', ?_, Or.inl e24, ?_, hP, h1, ⟨o', l'⟩, hg, hrc.step hR.1.fl.1 hM hS hen (List.mem_of_getElem? hm0) (List.mem_of_getElem? hm1) n'⟩⟩, Nat.le_succ _, Nat.zero_le _⟩
    · rw [t'.1]
      show _ = Outcome.returned (some (.int ((mI (mI m5 24 (nI 0)) 30 (m5.1 34)).1 30)))
      rw [show (mI (mI m5 24 (nI 0)) 30 (m5.1 34)).1 30 = m5.1 34 from rfl, e34]
    · obtain ⟨c1, c2, ⟨c3, c4⟩, ⟨c5, c6⟩, c7, c8, c9, c10⟩ := hR
      exact ⟨c1.A (i6 11 (by decide) (by decide) (by decide) (by decide) (by decide) (by decide) (by decide)) (fun i x y => j6 i (by omega) (by omega) (by omega)), ⟨t6, e30⟩, ⟨c3.fr (k6 31 (by decide) (by decide) (by decide) (by decide) (by decide)), (i6 32 (by decide) (by decide) (by decide) (by decide) (by decide) (by decide) (by decide)).trans c4⟩, ⟨c5.fr (k6 35 (by decide) (by decide) (by decide) (by decide) (by decide)), (i6 36 (by decide) (by decide) (by decide) (by decide) (by decide) (by decide) (by decide)).trans c6⟩, c7, (i6 4 (by decide) (by decide) (by decide) (by decide) (by decide) (by decide) (by decide)).trans c8, fun k hk => by rw [j6 3 (by decide) (by decide) (by decide)]; exact c9 k hk, c10⟩
    · rcases hA' with ⟨y1, y2, y3, y4⟩ | ⟨y1, y2, y3, y4, y5⟩
      · exact Or.inl ⟨y1, (i6 41 (by decide) (by decide) (by decide) (by decide) (by decide) (by decide) (by decide)).trans y2, y3, (i6 43 (by decide) (by decide) (by decide) (by decide) (by decide) (by decide) (by decide)).trans y4⟩
      · exact Or.inr ⟨y1, (i6 41 (by decide) (by decide) (by decide) (by decide) (by decide) (by decide) (by decide)).trans y2, y3, (i6 42 (by decide) (by decide) (by decide) (by decide) (by decide) (by decide) (by decide)).trans y4, y5.fr (i6 43 (by decide) (by decide) (by decide) (by decide) (by decide) (by decide) (by decide)) (fun i hi => j6 i (by omega) (by omega) (by omega)) (k6 44 (by decide) (by decide) (by decide) (by decide) (by decide))⟩
  · -- neither does
    rw [if_pos rfl]
    have t21' : tS s' 21 T := t21.fr f (by decide) (fun q hq => by omega)
    obtain ⟨hC', hA'⟩ := b.g f (fun p hq => Or.inr hq) F' M' k' sn' t21'
    have B1 := i0.1.c f (fun p hq => by omega)
    have inv : ∀ m4, rgf (mI m 0 0) m4 → IV K C s' G sz (mI m4 24 0) := by
      intro m4 gg
      have g2 : rgf (mI m 0 0) (mI m4 24 0) := gg.trans (rgf.i m4 0 (Or.inr rfl))
      exact ⟨B1.r g2, Or.inr ⟨(g2.1 5 (by decide)).trans a, z, R, [r0, r1], T1, T, L', X, hC', hR.fr g2, Or.inl rfl, hA'.r g2, hP, h1, ho, hg, hrc⟩⟩
    refine both _ _ _ _ (fun m4 T2 f4 rc4 n4 o4 l4 t4 k4 => ?_) (fun m4 f4 n4 => out 2 1 s' _ (by simp) (inv m4 f4.g) _)
    rw [k4, show (0 : Int32) = nI 0 from rfl]
    refine rq_inState_next (d := d2 + 1) (off := 0) rc4 t4 o4 l4 (by omega) (fun m5 L5 f5 g5 b5 e5 s5 => ?_) (fun m5 L5 f5 g5 b5 e5 => ?_)
    · exfalso
      rcases n' with n' | ⟨T3, n', nv⟩
      · rw [n'] at n4
        cases n4
      · rw [n'] at n4
        injection n4 with n4
        subst n4
        obtain ⟨L0, v1, _⟩ := vw_some hR.1.fl.1 e5 s5
        rw [nv] at v1
        cases v1
    · rw [show (nI 0) = (0 : Int32) from rfl, if_neg (by rw [b5]; decide)]
      exact out 2 1 s' _ (by simp) (inv m5 (f4.trans f5.l).g) _
