/-! class and reference side by side: audit, worth -/
def eF (m m' : mS) : Prop := (∀ i, i = 2 ∨ i = 4 ∨ i = 5 ∨ i = 6 ∨ i = 7 ∨ i = 11 ∨ i = 30 ∨ i = 32 ∨ i = 36 → m'.1 i = m.1 i) ∧ (∀ i, i = 1 ∨ i = 3 ∨ (12 ≤ i ∧ i ≤ 19) → m'.2.1 i = m.2.1 i) ∧ ∀ i, i = 29 ∨ i = 31 ∨ i = 35 → m'.2.2 i = m.2.2 i
theorem eF.refl (m : mS) : eF m m := ⟨fun _ _ => rfl, fun _ _ => rfl, fun _ _ => rfl⟩
theorem eF.trans {m m' m'' : mS} (h : eF m m') (g : eF m' m'') : eF m m'' := ⟨fun i a => (g.1 i a).trans (h.1 i a), fun i a => (g.2.1 i a).trans (h.2.1 i a), fun i a => (g.2.2 i a).trans (h.2.2 i a)⟩
theorem eF.i (m : mS) {k : Nat} (v : Int32) (hk : k = 0 ∨ k = 24 ∨ k = 42) : eF m (mI m k v) := ⟨fun i a => if_neg (by omega), fun _ _ => rfl, fun _ _ => rfl⟩
theorem efw.e {m m' : mS} (h : efw m m') : eF m m' := ⟨fun i a => h.1 i (by omega) (by omega) (by omega) (by omega) (by omega) (by omega) (by omega) (by omega), fun i a => h.2.1 i (by omega) (by omega) (by omega) (by omega), fun i a => h.2.2 i (by omega) (by omega) (by omega) (by omega) (by omega) (by omega) (by omega)⟩
theorem RG.e {R : List Rl} {P T1 T X0 : List Tm} {X : List Int32} {m m' : mS} (h : RG R P T1 T X0 X m) (g : eF m m') : RG R P T1 T X0 X m' := by
  obtain ⟨a, ⟨b1, b2⟩, ⟨c1, c2⟩, ⟨e1, e2⟩, f1, f2, f3, f4⟩ := h
  refine ⟨a.A (g.1 11 (by decide)) (fun i x y => g.2.1 i (by omega)), ⟨b1.fr (g.2.2 29 (by decide)), (g.1 30 (by decide)).trans b2⟩, ⟨c1.fr (g.2.2 31 (by decide)), (g.1 32 (by decide)).trans c2⟩, ⟨e1.fr (g.2.2 35 (by decide)), (g.1 36 (by decide)).trans e2⟩, f1, (g.1 4 (by decide)).trans f2, fun k hk => by rw [g.2.1 3 (by decide)]; exact f3 k hk, f4⟩
theorem BV.e {K : Nat → Nat} {C : Nat} {s : cS} {G : gm_H} {sz : Nat} {m m' : mS} (h : BV K C s G sz m) (g : eF m m') : BV K C s G sz m' := by
  obtain ⟨a, ⟨X, b, c, e, f⟩, k, l⟩ := h
  exact ⟨a, ⟨X, b, (g.1 2 (by decide)).trans c, e, fun k hk => ⟨by rw [g.2.1 1 (by decide)]; exact (f k hk).1, (f k hk).2⟩⟩, ⟨(g.1 6 (by decide)).trans k.1, (g.1 7 (by decide)).trans k.2⟩, l.1, l.2.fr (g.1 5 (by decide)) (g.1 4 (by decide))⟩
/-- the class is idle: the reference's marks matter not -/
theorem IV.idle {K : Nat → Nat} {C : Nat} {s : cS} {G : gm_H} {sz : Nat} {m m' : mS} (hB : BV K C s G sz m) (h5 : m.1 5 = 0) (hI : IDL s) (g : eF m m') : IV K C s G sz m' := ⟨hB.e g, Or.inl ⟨(g.1 5 (by decide)).trans h5, hI⟩⟩
/-- both after an audit -/
theorem IV.aud {K : Nat → Nat} {C z : Nat} {s s' : cS} {G G' : gm_H} {sz : Nat} {m m' : mS} {R : List Rl} {P T1 T : List Tm} {L L' : List Fct} {X : List Int32} (h5 : m.1 5 = 1) (b : GX G C z R P T1 T L X s m) (hB : BV K C s' G' sz m) (hC : CG G' C z R P T1 T L' s') (h585 : s'.1 585 = 1) (hA : AD G' C R P T1 s') (g : eF m m') (h41 : m'.1 41 = 1) (h42 : m'.1 42 = (aOut R P T1).1) (h24 : m'.1 24 = 0) (hR : AR R P T1 m') : IV K C s' G' sz m' := by
  obtain ⟨_, hR0, _, _, hP, h1, ho, hg, hrc⟩ := b
  exact ⟨hB.e g, Or.inr ⟨(g.1 5 (by decide)).trans h5, z, R, P, T1, T, L', X, hC, hR0.e g, Or.inl h24, Or.inr ⟨h585, h41, hA, h42, hR⟩, hP, h1, ho, hg, hrc⟩⟩
/-- what lies below the class, and the reference's cells, stay -/
def gB (C : Nat) (G G' : gm_H) : Prop := ∀ a, a < C ∨ (C + 154 ≤ a ∧ a < C + 185) → G' a = G a
theorem gB.refl (C : Nat) (G : gm_H) : gB C G G := fun _ _ => rfl
/-- the class's audit of a game that both have -/
theorem cq_runG {N0 : Nat} {K : Nat → Nat} {d C z : Nat} {R : List Rl} {P T1 T : List Tm} {L : List Fct} {X : List Int32} {s : cS} {G : gm_H} {sz : Nat} {m : mS} {Q : Int32 → cS → gm_H → Prop} (hN : N0 ≤ C) (hB : BV K C s G sz m) (b : GX G C z R P T1 T L X s m) (q : ∀ s' G' L', gB C G G' → BV K C s' G' sz m → CG G' C z R P T1 T L' s' → s'.1 585 = 1 → AD G' C R P T1 s' → Q (aOut R P T1).1 s' G') : kX0_run N0 K (d + 17) C s G sz Q := by
  obtain ⟨hC, hR, hf, hA, hP, h1, ho, hg, hrc⟩ := b
  obtain ⟨hz80, hF, hM, hS, hsn, t17, t19, t21⟩ := hC
  refine cq_run (d := d) hN hR.1.fl.1 h1 ho t17 hP t19 t21 hF hM hS hsn hB.2.2.2.1 ?_ (fun s' G' L' gF f e585 A' F' M' k' sn' cs' => ?_)
  · rcases hA with ⟨x, _⟩ | ⟨x, _, y, _⟩
    · exact Or.inl x
    · exact Or.inr ⟨x, y⟩
  · have ti : ∀ p T0, p = 17 ∨ p = 19 ∨ p = 21 → tS s p T0 → tS s' p T0 := fun p T0 hp ht => ht.same (f.1 _ (by unfold fIn; omega) (by omega) (by omega) (by omega) (by omega) (by omega) (by omega)) (f.2.1 _ (by omega) (by omega) (by omega) (by omega) (by omega) (by omega) (by omega))
    obtain ⟨⟨k0, kG, bd, cz⟩, ⟨Y, y1, y2, y3, y4⟩, ⟨e6, e7⟩, _, kk⟩ := hB
    refine q s' G' L' (fun a ha => gF a (by omega)) ⟨⟨k0, (gF (K 0) (by omega)).trans kG, fun a x ha => ?_, cz⟩, ⟨Y, y1, y2, (f.1 1 (by unfold fIn; omega) (by decide) (by decide) (by decide) (by decide) (by decide) (by decide)).trans y3, fun k hk => ⟨(y4 k hk).1, by rw [f.2.1 1 (by decide) (by decide) (by decide) (by decide) (by decide) (by decide) (by decide)]; exact (y4 k hk).2⟩⟩, ⟨e6.trans (f.1 2 (by unfold fIn; omega) (by decide) (by decide) (by decide) (by decide) (by decide) (by decide)).symm, e7.trans (f.1 3 (by unfold fIn; omega) (by decide) (by decide) (by decide) (by decide) (by decide) (by decide)).symm⟩, cs', kk⟩ ⟨(f.2.2 80 (by decide)).trans hz80, F', M', k', sn', ti 17 _ (by decide) t17, ti 19 _ (by decide) t19, ti 21 _ (by decide) t21⟩ e585 A'
    by_cases hr : C + 34 ≤ a ∧ a < C + 154
    · omega
    · rw [gF a hr] at ha
      exact bd a x ha
/-- the reference's -/
theorem rq_examG {d C z : Nat} {R : List Rl} {P T1 T : List Tm} {L : List Fct} {X : List Int32} {s : cS} {G : gm_H} {m : mS} {Q : Int32 → mS → Prop} (b : GX G C z R P T1 T L X s m) (q : ∀ m', eF m m' → m'.1 0 = m.1 0 → m'.1 41 = 1 → AR R P T1 m' → Q (aOut R P T1).1 m') : m_examine (d + 10) m Q := by
  obtain ⟨hC, hR, hf, hA, hP, h1, ho, hg, hrc⟩ := b
  exact rq_examine (d := d) h1 hR.1 hR.2.2.2.1.1 hR.2.2.2.1.2 hP hR.2.2.1.1 hR.2.2.1.2 (fun m' f e A => q m' f.e (f.1 0 (by decide) (by decide) (by decide) (by decide) (by decide) (by decide) (by decide) (by decide)) e A)
theorem AR.i {R : List Rl} {P T1 : List Tm} {m : mS} (h : AR R P T1 m) {k : Nat} (v : Int32) (hk : k ≠ 43) : AR R P T1 (mI m k v) := h.fr (if_neg (fun z => hk z.symm)) (fun _ _ => rfl) rfl
theorem rq_refuses {d C z : Nat} {R : List Rl} {P T1 T : List Tm} {L : List Fct} {X : List Int32} {s : cS} {G : gm_H} {m : mS} {Q : Int32 → mS → Prop} (h5 : m.1 5 = 1) (b : GX G C z R P T1 T L X s m) (q : ∀ m', eF m m' → m'.1 41 = 1 → m'.1 42 = (aOut R P T1).1 → AR R P T1 m' → Q (if (aOut R P T1).1 = 0 then 0 else 2) m') : m_refuses (d + 11) m Q := by
  refine m_refuses.of (T_refuses_0 ?_)
  rw [if_neg (by rw [h5]; decide)]
  rcases b.2.2.2.1 with ⟨_, e, _⟩ | ⟨_, e, _, e2, A⟩
  · rw [if_pos e]
    refine rq_examG (d := d) b (fun m' f e0 e41 A => ?_)
    have q' := q (mI m' 42 (aOut R P T1).1) (f.trans (eF.i m' _ (Or.inr (Or.inr rfl)))) e41 rfl (A.i _ (by decide))
    by_cases h0 : (aOut R P T1).1 = 0
    · rw [if_pos h0] at q' ⊢
      exact q'
    · rw [if_neg h0] at q' ⊢
      exact q'
  · rw [if_neg (by rw [e]; decide), e2]
    have q' := q m (eF.refl m) e e2 A
    by_cases h0 : (aOut R P T1).1 = 0
    · rw [if_pos h0] at q' ⊢
      exact q'
    · rw [if_neg h0] at q' ⊢
      exact q'
theorem pm_audit {N0 : Nat} {K : Nat → Nat} {d d2 C : Nat} {s : cS} {G : gm_H} {sz : Nat} {m : mS} (hN : N0 ≤ C) (h : IV K C s G sz m) : hX11_audit_0 N0 K (d + 17) C s G sz 0 (fun o s' G' sz' dd => m_audit (d2 + 11) m (fun r2 m' => oR [(2, 1)] o r2 m' ∧ gB C G G' ∧ IV K C s' G' sz' m' ∧ sz' ≤ sz + 1 ∧ dd ≤ 6)) := by
  have i0 := h.r0 0
  refine TX11_audit_0 hN ?_
  rcases i0.2 with ⟨a, b⟩ | ⟨a, z, R, P, T1, T, L, X, b⟩
  · refine cq_isIdle (d := d + 16) hN (fun _ => ?_) (fun z hz => by rw [b.1] at hz; cases hz)
    rw [if_neg (by decide)]
    refine m_audit.of (T_audit_0 ?_)
    rw [if_pos (show m.1 5 = 0 from a)]
    exact m_fail.of (T_fail_0 ⟨Or.inr ⟨2, 1, by simp, rfl, rfl⟩, gB.refl C G, (i0.r0 1).z (Nat.le_succ _), Nat.le_refl _, by decide⟩)
  · refine cq_isIdle (d := d + 16) hN (fun hz => by rw [b.1.1] at hz; cases hz) (fun _ _ => ?_)
    rw [if_pos rfl]
    refine cq_runG (d := d) hN i0.1 b (fun s' G' L' gb B' C' e585 A' => ?_)
    refine m_audit.of (T_audit_0 ?_)
    rw [if_neg (by rw [show m.1 5 = 1 from a]; decide)]
    refine rq_examG (d := d2) b (fun m' f e0 e41 A => ?_)
    refine ⟨Or.inl ⟨rfl, e0⟩, gb, ?_, Nat.le_succ _, Nat.zero_le _⟩
    exact IV.aud a b B' C' e585 A' ((f.trans (eF.i m' _ (Or.inr (Or.inr rfl)))).trans (eF.i _ _ (Or.inr (Or.inl rfl)))) e41 rfl rfl ((A.i _ (by decide)).i _ (by decide))
/-- a state that was reached has its place -/
theorem aud_zero {R : List Rl} {P T1 : List Tm} (h : (aOut R P T1).1 = 0) : ∃ r0 r1, P = [r0, r1] ∧ (audK R r0 r1 T1 60).1 = 0 ∧ (aOut R P T1).2 = (audK R r0 r1 T1 60).2 := by
  by_cases hl : P.length = 2
  · obtain ⟨r0, r1, rfl⟩ := two_of hl
    obtain ⟨a, b, c⟩ := aOut_2 (R := R) (r0 := r0) (r1 := r1) (T1 := T1)
    refine ⟨r0, r1, rfl, ?_, a⟩
    by_cases h0 : (audK R r0 r1 T1 60).1 = 0
    · exact h0
    · rw [b h0] at h
      exact h
  · rw [aOut_1 hl] at h
    exact absurd (show (1 : Int32) = 0 from h) (by decide)
theorem aud_place {R : List Rl} {P T1 T : List Tm} (h1 : okT T1 ∧ T1.length ≤ 24) (h : (aOut R P T1).1 = 0) (hr : Reach R P T1 T) : ∃ i, fnd (aOut R P T1).2.1 T = some i := by
  obtain ⟨r0, r1, rfl, h0, e⟩ := aud_zero h
  rw [e]
  refine fnd_mem ?_
  rcases hr with rfl | ⟨x0, x1, ee, n, c⟩
  · exact Rch_mem h1 h0 0 T rfl
  · injection ee with e1 e2
    injection e2 with e2 e3
    subst e1
    subst e2
    exact Rch_mem h1 h0 n T c
/-- both have the same values -/
theorem val_same {D : List DT} {f g : Nat → Int32} (hf : vOk D f) (hg : vOk D g) (nf : ∀ i, i < D.length → f i ≠ -1) (ng : ∀ i, i < D.length → g i ≠ -1) {i : Nat} (hi : i < D.length) : Val D i (f i) ∧ f i = g i := by
  have hd : D[i]? = some (D[i]'hi) := List.getElem?_eq_getElem hi
  have a : Val D i (f i) := by
    rcases hf i _ hd with ⟨z, _⟩ | ⟨_, z⟩
    · exact absurd z (nf i hi)
    · exact z
  have b : Val D i (g i) := by
    rcases hg i _ hd with ⟨z, _⟩ | ⟨_, z⟩
    · exact absurd z (ng i hi)
    · exact z
  exact ⟨a, a.uniq b⟩
