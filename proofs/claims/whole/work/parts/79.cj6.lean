/-! class and reference side by side: load -/
theorem gy.ext {C : Nat} {G G' : gm_H} {sz sz' : Nat} (g : gy C G sz G' sz') (hbd : gm_bd G sz) : ∀ a y, C + 185 ≤ a → G a = some y → G' a = some y := fun a y h hy => (g.1 a (hbd a y hy) (by omega)).trans hy
theorem cSt.y {C : Nat} {G G' : gm_H} {sz sz' : Nat} {S : List (List Tm)} (h : cSt G C S) (g : gy C G sz G' sz') (hs : C + 185 ≤ sz) : cSt G' C S := fun j hj => by
  obtain ⟨v, f, a, b, c⟩ := h j hj
  exact ⟨v, f, (g.1 _ (by omega) (by omega)).trans a, (g.1 _ (by omega) (by omega)).trans b, c⟩
theorem AD.y {C : Nat} {G G' : gm_H} {sz sz' : Nat} {R : List Rl} {P T1 : List Tm} {s : cS} (h : AD G C R P T1 s) (g : gy C G sz G' sz') (hs : C + 185 ≤ sz) : AD G' C R P T1 s := ⟨h.1, h.2.1, fun z => ⟨(h.2.2 z).1.y g hs, (h.2.2 z).2⟩⟩
theorem CG.y {C z : Nat} {G G' : gm_H} {R : List Rl} {P T1 T : List Tm} {L : List Fct} {s : cS} (h : CG G C z R P T1 T L s) (hg : ∀ a y, C + 185 ≤ a → G a = some y → G' a = some y) : CG G' C z R P T1 T L s := ⟨h.1, h.2.1.ext hg, h.2.2⟩
theorem BV.ref {K : Nat → Nat} {C : Nat} {s s' : cS} {G G' : gm_H} {sz sz' : Nat} {m m' : mS} (h : BV K C s G sz m) (g : gy C G sz G' sz') (h1 : s'.1 1 = 0) (e2 : m'.1 2 = 0) (e6 : m'.1 6 = s'.1 2) (e7 : m'.1 7 = s'.1 3) (hk : kp m') : BV K C s' G' sz' m' := by
  obtain ⟨⟨a1, a2, a3, a4⟩, _, _, ⟨S, hS⟩, _⟩ := h
  exact ⟨⟨a1, (g.1 (K 0) (by omega) (by omega)).trans a2, g.2.1, by have := g.2.2.1; omega⟩, ⟨[], ⟨by decide, fun x hx => by simp at hx⟩, e2, h1, fun k hk => absurd hk (Nat.not_lt_zero _)⟩, ⟨e6, e7⟩, ⟨S, hS.y g a4⟩, hk⟩
theorem GX.ref {C z : Nat} {G G' : gm_H} {sz sz' : Nat} {R : List Rl} {P T1 T : List Tm} {L L' : List Fct} {X : List Int32} {s s' : cS} {m m' : mS} (h : GX G C z R P T1 T L X s m) (hb : bkf m m') (h24 : m'.1 24 = 0) (hc : RC R m') (g : gy C G sz G' sz') (hs : C + 185 ≤ sz) (hC : CG G' C z R P T1 T L' s') (e584 : s'.1 584 = s.1 584) (e585 : s'.1 585 = s.1 585) (e586 : s'.1 586 = s.1 586) (e31 : s'.2.1 31 = s.2.1 31) (e32 : s'.2.1 32 = s.2.1 32) : GX G' C z R P T1 T L' X s' m' := by
  obtain ⟨_, ⟨_, ⟨b1, b2⟩, ⟨c1, c2⟩, ⟨f1, f2⟩, x1, x2, x3, x4⟩, _, hA, rest⟩ := h
  refine ⟨hC, ⟨hc, ⟨b1.fr (hb.2.2 29 (by decide)), (hb.1 30 (by decide)).trans b2⟩, ⟨c1.fr (hb.2.2 31 (by decide)), (hb.1 32 (by decide)).trans c2⟩, ⟨f1.fr (hb.2.2 35 (by decide)), (hb.1 36 (by decide)).trans f2⟩, x1, (hb.1 4 (by decide)).trans x2, fun k hk => by rw [hb.2.1 3 (by decide)]; exact x3 k hk, x4⟩, Or.inl h24, ?_, rest⟩
  rcases hA with ⟨a, b, c, e⟩ | ⟨a, b, c, e, f⟩
  · exact Or.inl ⟨e585.trans a, (hb.1 41 (by decide)).trans b, e584.trans c, (hb.1 43 (by decide)).trans e⟩
  · exact Or.inr ⟨e585.trans a, (hb.1 41 (by decide)).trans b, (c.fr e586 e584 e31 e32).y g hs, (hb.1 42 (by decide)).trans e, f.fr (hb.1 43 (by decide)) (fun i hi => hb.2.1 i (by omega)) (hb.2.2 44 (by decide))⟩
theorem kp.b {m m' : mS} (h : kp m) (hb : bkf m m') : kp m' := h.fr (hb.1 5 (by decide)) (hb.1 4 (by decide))
theorem bad_no {R : List Rl} {T1 : List Tm} {L0 : List Fct} (hf : flNone R) (hb : aBad R) (bg : aBg R = some T1) (M : Mdl R (bT T1) L0) (S : Small R L0) : False := by
  obtain ⟨Lv, v1, _⟩ := vw_some hf M S
  rcases hb with z | ⟨T2, z1, z2⟩
  · rw [bg] at z
    cases z
  · rw [bg] at z1
    injection z1 with z1
    subst z1
    rw [v1] at z2
    cases z2
theorem ps_same {X : List Int32} {R R' : List Rl} {l l' : List Int32} (h : ps_all 24 [] X = (some R, l)) (g : ps_all 24 [] X = (some R', l')) : R' = R := by
  rw [h] at g
  injection g with e1 e2
  injection e1 with e1
  exact e1.symm
theorem ps_clash {X : List Int32} {R : List Rl} {l l' : List Int32} (h : ps_all 24 [] X = (some R, l)) (g : ps_all 24 [] X = (none, l')) : False := by
  rw [h] at g
  injection g with e1 e2
  cases e1
theorem fl_clash {R : List Rl} {f r : Nat} (h : flFirst R f r) (g : flNone R) : False := by
  obtain ⟨x1, x2, ⟨x, x3, x4⟩, _⟩ := h
  exact g f x1 x2 x (List.mem_of_getElem? x3) x4
theorem fl_lt {R : List Rl} {f r f' r' : Nat} (h : flFirst R f r) (g : flFirst R f' r') : ¬ f < f' := by
  intro z
  obtain ⟨x1, x2, ⟨x, x3, x4⟩, _⟩ := h
  exact g.2.2.2.2 f x1 z x (List.mem_of_getElem? x3) x4
theorem fl_same {R : List Rl} {f r f' r' : Nat} (h : flFirst R f r) (g : flFirst R f' r') : f' = f ∧ r' = r := by
  have e : f' = f := by
    have a := fl_lt h g
    have b := fl_lt g h
    omega
  subst e
  refine ⟨rfl, ?_⟩
  obtain ⟨_, _, ⟨x, x3, x4⟩, x5, _⟩ := h
  obtain ⟨_, _, ⟨y, y3, y4⟩, y5, _⟩ := g
  have a : ¬ r < r' := fun z => y5 r x z x3 x4
  have b : ¬ r' < r := fun z => x5 r' y z y3 y4
  omega
/-- what a load finds, and how it is left if it is refused -/
theorem IV.keep {K : Nat → Nat} {C : Nat} {s : cS} {G : gm_H} {sz : Nat} {m : mS} (h : IV K C s G sz m) : ∃ R0 P0 T0 L, kpd m R0 ∧ cFacts s L ∧ s.2.1 16 0 = 0 ∧ (s.2.2 80 = none ∨ ∃ z', s.2.2 80 = some z' ∧ LYX G C z' R0 ∧ tS s 17 P0 ∧ okP P0 ∧ tS s 21 T0 ∧ okT T0 ∧ T0.length ≤ 24 ∧ ∃ L, Mdl R0 (bT T0) L ∧ Small R0 L) ∧ (∀ s' G' sz' m' k f a, gy C G sz G' sz' → ofr s s' → s'.1 1 = 0 → s'.1 2 = f → s'.1 3 = a → rfd m R0 k f a m' → IV K C s' G' sz' m') ∧ (∀ s1 s2 G' sz' m', gy C G sz G' sz' → ofr s s1 → s1.1 1 = 0 → s1.1 2 = 0 → s1.1 3 = 0 → ((s1.2.2 80 = none ∧ gfr (fun p => p = 23) s1 s2 ∧ (∃ L, cFacts s2 L) ∧ s2.2.1 16 0 = 0) ∨ (∃ z' L', s1.2.2 80 = some z' ∧ gfr (fun p => p = 23 ∨ p = 25 ∨ p = 27) s1 s2 ∧ FS G' C z' R0 T0 s2 L' ∧ Mdl R0 (bT T0) L' ∧ Small R0 L' ∧ SN s2 L' P0)) → rfd m R0 3 0 0 m' → IV K C s2 G' sz' m') := by
  obtain ⟨hB, hgame⟩ := h
  have hkp := hB.2.2.2.2
  have hbd := hB.1.2.2.1
  have hsz := hB.1.2.2.2
  rcases hgame with ⟨h5, hI⟩ | ⟨h5, z, R, P, T1, T, L, X, hX⟩
  · obtain ⟨i1, i2, i3, i4, i5, i6, ⟨L, i7⟩, i8⟩ := id hI
    refine ⟨[], [], [], L, Or.inl ⟨h5, hkp h5⟩, i7, i8, Or.inl i1, fun s' G' sz' m' k f a g o h1 h2 h3 hr => ?_, fun s1 s2 G' sz' m' g o h1 h2 h3 alt hr => ?_⟩
    · obtain ⟨r1, r2, r3, r4, r5, r6, r7⟩ := hr
      exact ⟨hB.ref g h1 r3 (r4.trans h2.symm) (r5.trans h3.symm) (hkp.b r1), Or.inl ⟨(r1.1 5 (by decide)).trans h5, hI.o o⟩⟩
    · obtain ⟨r1, r2, r3, r4, r5, r6, r7⟩ := hr
      have J := hI.o o
      rcases alt with ⟨a1, f, a2, a3⟩ | ⟨z', L', a1, _⟩
      · have I : ∀ i, fIn i → i ≠ 461 → s2.1 i = s1.1 i := fun i a b => f.1 i a (fun p hp => by omega)
        refine ⟨hB.ref g ((I 1 (by unfold fIn; omega) (by decide)).trans h1) r3 (r4.trans (h2.symm.trans (I 2 (by unfold fIn; omega) (by decide)).symm)) (r5.trans (h3.symm.trans (I 3 (by unfold fIn; omega) (by decide)).symm)) (hkp.b r1), Or.inl ⟨(r1.1 5 (by decide)).trans h5, ?_⟩⟩
        exact ⟨(f.2.2 80 (by decide)).trans a1, (I 341 (by unfold fIn; omega) (by decide)).trans J.2.1, (I 421 (by unfold fIn; omega) (by decide)).trans J.2.2.1, (I 501 (by unfold fIn; omega) (by decide)).trans J.2.2.2.1, (I 541 (by unfold fIn; omega) (by decide)).trans J.2.2.2.2.1, (I 584 (by unfold fIn; omega) (by decide)).trans J.2.2.2.2.2.1, a2, a3⟩
      · rw [J.1] at a1
        cases a1
  · obtain ⟨hC, hR, hf, hA, hP, h1T, ho, hg, hrc⟩ := id hX
    obtain ⟨hz80, hF, hM, hS, hsn, t17, t19, t21⟩ := id hC
    have hFB := hF.b.c
    have hly : LYX G C z R := by
      obtain ⟨O, ly, e0, e1, L0, L1, lyr, fi⟩ := id hF
      exact ⟨O, ly, e0, e1, lyr⟩
    refine ⟨R, P, T, L, Or.inr ⟨h5, hR.1.fl.1, X, hR.2.2.2.2⟩, hF.f, hFB.2, Or.inr ⟨z, hz80, hly, t17, hP, t21, ho.1, ho.2, L, hM, hS⟩, fun s' G' sz' m' k f a g o h1 h2 h3 hr => ?_, fun s1 s2 G' sz' m' g o h1 h2 h3 alt hr => ?_⟩
    · obtain ⟨r1, r2, r3, r4, r5, r6, r7⟩ := hr
      exact ⟨hB.ref g h1 r3 (r4.trans h2.symm) (r5.trans h3.symm) (hkp.b r1), Or.inr ⟨(r1.1 5 (by decide)).trans h5, z, R, P, T1, T, L, X, hX.ref r1 r6 (r7 h5) g hsz ((hC.o o).y (g.ext hbd)) (o.1 584 (by decide) (by decide) (by decide) (by decide)) (o.1 585 (by decide) (by decide) (by decide) (by decide)) (o.1 586 (by decide) (by decide) (by decide) (by decide)) (o.2.1 31 (by decide) (by decide)) (o.2.1 32 (by decide) (by decide))⟩⟩
    · obtain ⟨r1, r2, r3, r4, r5, r6, r7⟩ := hr
      have e80 : s1.2.2 80 = some z := (o.2.2 80 (by decide)).trans hz80
      rcases alt with ⟨a1, _⟩ | ⟨z', L', a1, f, F', M', S', n'⟩
      · rw [e80] at a1
        cases a1
      · rw [e80] at a1
        injection a1 with a1
        subst a1
        have I : ∀ i, fIn i → i ≠ 461 → i ≠ 501 → i ≠ 541 → s2.1 i = s1.1 i := fun i a b c e => f.1 i a (fun p hp => by omega)
        have A : ∀ i, i = 31 ∨ i = 32 → s2.2.1 i = s1.2.1 i := fun i hi => f.2.1 i (by omega) (fun p hp => by omega)
        refine ⟨hB.ref g ((I 1 (by unfold fIn; omega) (by decide) (by decide) (by decide)).trans h1) r3 (r4.trans (h2.symm.trans (I 2 (by unfold fIn; omega) (by decide) (by decide) (by decide)).symm)) (r5.trans (h3.symm.trans (I 3 (by unfold fIn; omega) (by decide) (by decide) (by decide)).symm)) (hkp.b r1), Or.inr ⟨(r1.1 5 (by decide)).trans h5, z, R, P, T1, T, L', X, hX.ref r1 r6 (r7 h5) g hsz ?_ ?_ ?_ ?_ ?_ ?_⟩⟩
        · exact ⟨(f.2.2 80 (by decide)).trans e80, F', M', S', n', (t17.o o (by decide)).fr f (by decide) (fun q hq => by omega), (t19.o o (by decide)).fr f (by decide) (fun q hq => by omega), (t21.o o (by decide)).fr f (by decide) (fun q hq => by omega)⟩
        · exact (I 584 (by unfold fIn; omega) (by decide) (by decide) (by decide)).trans (o.1 584 (by decide) (by decide) (by decide) (by decide))
        · exact (I 585 (by unfold fIn; omega) (by decide) (by decide) (by decide)).trans (o.1 585 (by decide) (by decide) (by decide) (by decide))
        · exact (I 586 (by unfold fIn; omega) (by decide) (by decide) (by decide)).trans (o.1 586 (by decide) (by decide) (by decide) (by decide))
        · exact (A 31 (by decide)).trans (o.2.1 31 (by decide) (by decide))
        · exact (A 32 (by decide)).trans (o.2.1 32 (by decide) (by decide))
theorem pm_load {N0 : Nat} {K : Nat → Nat} {d d2 C : Nat} {s : cS} {G : gm_H} {sz : Nat} {m : mS} (hN : N0 ≤ C) (h : IV K C s G sz m) : hX11_load_0 N0 K (d + 17) C s G sz 0 (fun o s' G' sz' dd => m_load (d2 + 10) m (fun r2 m' => oR [(0, 1), (1, 2), (2, 3)] o r2 m' ∧ gB C G G' ∧ IV K C s' G' sz' m' ∧ sz' ≤ sz + 400 ∧ dd ≤ 3000)) := by
  obtain ⟨R0, P0, T0, L, hkd, hL, h16, hold, no, nob⟩ := h.keep
  obtain ⟨⟨hK, hG, hbd, hsz⟩, ⟨X, hX, x2, x3, x4⟩, _, _, _⟩ := id h.1
  have gb : ∀ G' sz', gy C G sz G' sz' → gB C G G' := fun G' sz' g a ha => g.1 a (by omega) (by omega)
  refine cq_load (d := d) (X := X) (R' := R0) (P' := P0) (T' := T0) (L := L) hN hK hG hbd hsz hX.1 x3 (fun k hk => (x4 k hk).2) hL h16 hold ?_ ?_ ?_ ?_
  · intro s' G' sz' dd l' e o v1 v2 v3 g hd
    refine rq_load (d := d2) hX x2 (fun k hk => (x4 k hk).1) hkd (fun R l T1 L0 e' => (ps_clash e' e).elim) (fun l e' m' hr => ?_) (fun R l f r e' => (ps_clash e' e).elim) (fun R l e' => (ps_clash e' e).elim) (fun R l T1 L0 e' => (ps_clash e' e).elim)
    rw [e] at e'
    injection e' with _ e'
    subst e'
    exact ⟨Or.inr ⟨0, 1, by simp, rfl, hr.2.1⟩, gb _ _ g, no s' G' sz' m' _ _ _ g o v1 v2 v3 hr, g.2.2.2, hd⟩
  · intro s' G' sz' dd R l' f r e hfl o v1 v2 v3 g hd
    refine rq_load (d := d2) hX x2 (fun k hk => (x4 k hk).1) hkd (fun R' l T1 L0 e' hfn => ?_) (fun l e' => (ps_clash e e').elim) (fun R' l f' r' e' hfl' m' hr => ?_) (fun R' l e' hfn => ?_) (fun R' l T1 L0 e' hfn => ?_)
    · have := ps_same e e'
      subst this
      exact (fl_clash hfl hfn).elim
    · have := ps_same e e'
      subst this
      obtain ⟨ef, er⟩ := fl_same hfl hfl'
      subst ef
      subst er
      exact ⟨Or.inr ⟨1, 2, by simp, rfl, hr.2.1⟩, gb _ _ g, no s' G' sz' m' _ _ _ g o v1 v2 v3 hr, g.2.2.2, hd⟩
    · have := ps_same e e'
      subst this
      exact (fl_clash hfl hfn).elim
    · have := ps_same e e'
      subst this
      exact (fl_clash hfl hfn).elim
  · intro s1 s2 G' sz' dd R l' e hfn o v1 v2 v3 g hd bad alt
    refine rq_load (d := d2) hX x2 (fun k hk => (x4 k hk).1) hkd (fun R' l T1 L0 e' hfn' bg M S => ?_) (fun l e' => (ps_clash e e').elim) (fun R' l f' r' e' hfl' => ?_) (fun R' l e' hfn' bad' m' hr => ?_) (fun R' l T1 L0 e' hfn' bg _ _ M S => ?_)
    · have := ps_same e e'
      subst this
      exact (bad_no hfn bad bg M S).elim
    · have := ps_same e e'
      subst this
      exact (fl_clash hfl' hfn).elim
    · exact ⟨Or.inr ⟨2, 3, by simp, rfl, hr.2.1⟩, gb _ _ g, nob s1 s2 G' sz' m' g o v1 v2 v3 alt hr, g.2.2.2, hd⟩
    · have := ps_same e e'
      subst this
      exact (bad_no hfn bad bg M S).elim
  · intro s1 s2 G' sz' dd z R l' T1 L' e hfn o v1 v2 v3 g hd f bg oT lT F M S okp t17 t19 t21 sn
    have sameT : ∀ R' l T2, ps_all 24 [] X = (some R', l) → aBg R' = some T2 → R' = R ∧ T2 = T1 := by
      intro R' l T2 e' bg'
      have := ps_same e e'
      subst this
      rw [bg] at bg'
      injection bg' with bg'
      exact ⟨rfl, bg'.symm⟩
    refine rq_load (d := d2) hX x2 (fun k hk => (x4 k hk).1) hkd (fun R' l T2 L0 e' hfn' bg' M' S' => ?_) (fun l e' => (ps_clash e e').elim) (fun R' l f' r' e' hfl' => ?_) (fun R' l e' hfn' bad' => ?_) (fun R' l T2 L0 e' hfn' bg' _ _ M' S' m' e0 e2 e6 e7 c t29 t31 t35 e4 e3 e5 e41 e43 hz => ?_)
    · obtain ⟨eR, eT⟩ := sameT R' l T2 e' bg'
      subst eR
      subst eT
      rw [← aRw_same (mdl_same hfn M M') 329]
      exact okp
    · have := ps_same e e'
      subst this
      exact (fl_clash hfl' hfn).elim
    · have := ps_same e e'
      subst this
      exact (bad_no hfn bad' bg M S).elim
    · obtain ⟨eR, eT⟩ := sameT R' l T2 e' bg'
      subst eR
      subst eT
      rw [← aRw_same (mdl_same hfn M M') 329] at t35
      have I : ∀ i, i = 1 ∨ i = 2 ∨ i = 3 → s2.1 i = s1.1 i := fun i hi => f.1 i (by unfold fIn; omega) (fun p hp => by omega)
      refine ⟨Or.inl ⟨rfl, e0⟩, gb _ _ g, ⟨h.1.ref g ((I 1 (by decide)).trans v1) e2 (e6.trans (v2.symm.trans (I 2 (by decide)).symm)) (e7.trans (v3.symm.trans (I 3 (by decide)).symm)) (fun z0 => by rw [e5] at z0; exact absurd z0 (by decide)), Or.inr ⟨e5, z, R', aRw 329 L', T2, T2, L', X, ?_, ⟨c, t29, t31, t35, hX, e4, e3, l, e'⟩, hz, Or.inl ⟨rfl, e41, rfl, e43⟩, okp, ⟨oT, lT⟩, ⟨oT, lT⟩, ⟨L', M, S⟩, Or.inl rfl⟩⟩, g.2.2.2, hd⟩
      obtain ⟨⟨n1, n2⟩, n3, n4, n5⟩ := sn
      exact ⟨f.2.2 80 (by decide), F.n ⟨rfl, rfl, rfl, fun _ _ _ => rfl, rfl⟩, M, S, ⟨⟨n1.same rfl rfl, n2.same rfl rfl⟩, n3, n4, n5⟩, t17.same rfl rfl, t19.same rfl rfl, t21.same rfl rfl⟩
