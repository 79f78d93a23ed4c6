/-! the class: a game looked at, moves, a step on -/
theorem atT_iff {P : List Tm} {i : Nat} (hi : i < 2 ^ 31) (hP : ∀ t ∈ P, gT t) {S : Tm → Prop} : (∃ a, gT a ∧ atT P (nI i) = nI (tE a) ∧ S a) ↔ ∃ r, P[i]? = some r ∧ S r := by
  unfold atT
  rw [if_neg (nI_pos hi), nI_clamp hi]
  cases e : P[i]? with
  | none =>
    constructor
    · rintro ⟨a, ha, hb, _⟩
      have := tE_lt ha.1
      rw [← nI_0, nI_eq (by decide) (by omega)] at hb
      omega
    · rintro ⟨r, hr, _⟩
      cases hr
  | some r =>
    have hr := hP r (List.mem_of_getElem? e)
    constructor
    · rintro ⟨a, ha, hb, hs⟩
      have : tE r = tE a := (nI_eq (tE_31 hr) (tE_31 ha)).mp hb
      rw [tE_inj hr.1 ha.1 this]
      exact ⟨a, rfl, hs⟩
    · rintro ⟨r', hr', hs⟩
      cases hr'
      exact ⟨r, hr, rfl, hs⟩
theorem atT_get {P : List Tm} {i : Nat} {r : Tm} (hi : i < 2 ^ 31) (h : P[i]? = some r) : atT P (nI i) = nI (tE r) := by
  unfold atT
  rw [if_neg (nI_pos hi), nI_clamp hi, h]
def mvOk (L : List Fct) (P : List Tm) (i : Nat) : Prop := okT (aMv L P i) ∧ (aMv L P i).length ≤ 200 ∧ ∀ x, x ∈ aMv L P i ↔ ∃ r, P[i]? = some r ∧ ((306, [r, x]) : Fct) ∈ L
/-- what was seen of the facts L -/
def SN (s : cS) (L : List Fct) (P : List Tm) : Prop := (tS s 25 (aMv L P 0) ∧ tS s 27 (aMv L P 1)) ∧ (mvOk L P 0 ∧ mvOk L P 1) ∧ (aEn L → s.1 88 = 1) ∧ (¬ aEn L → s.1 88 = 0)
def okP (P : List Tm) : Prop := okT P ∧ P.length ≤ 24
theorem cK_end {s : cS} {L : List Fct} (hL : cFacts s L) : (s.2.1 13 7 ≤ 0 ↔ ¬ aEn L) := by
  have h2 : cK L 7 ≤ 200 := Nat.le_trans (List.length_filter_le _ _) hL.2.1
  rw [(hL.2.2.2.1 7 (by decide)).2, ← nI_0, nI_leI (by omega) (by decide)]
  have hx : cK L 7 ≤ 0 ↔ ∀ f ∈ L, ¬ cr f.1 = 7 := by
    unfold cK
    rw [Nat.le_zero, List.length_eq_zero_iff, List.filter_eq_nil_iff]
    constructor
    · intro h f hf z
      exact h f hf (by rw [z]; rfl)
    · intro h f hf z
      exact h f hf (by simpa using z)
  rw [hx]
  constructor
  · intro h z
    exact h _ z vr_E.2
  · intro h f hf z
    have hw := hL.wf f hf
    have e : f.1 = 276 := cr_inj hw.2 vr_E.1 (by rw [z, vr_E.2])
    have hl := hw.1.2.1
    rw [e] at hl
    refine h ?_
    have : f = (276, []) := by
      obtain ⟨f1, f2⟩ := f
      simp only at e hl
      subst e
      rw [List.length_eq_zero_iff.mp hl]
    unfold aEn
    rw [← this]
    exact hf
theorem see2 {N0 : Nat} {K : Nat → Nat} {d C : Nat} {v : Int32} {P : List Tm} {L : List Fct} {s : cS} {G : gm_H} {sz : Nat} {Q : Unit → cS → Prop} (hN : N0 ≤ C) (hP : tS s 17 P) (hok : okP P) (hL : cFacts s L) (hv : (aEn L → v = 1) ∧ (¬ aEn L → v = 0)) (q : ∀ s', gfr (fun p => p = 25 ∨ p = 27) s s' → nfr s s' → SN s' L P → Q () s') : kX10_at N0 K (d + 3) C (C + 17) (0 : Int32) (cI s 88 v) G sz (fun r4 => kX10_collectMoves_s N0 K (d + 3) C (C + 25) (C + 6) r4 (cI s 88 v) G sz (fun _ s5 => kX10_at N0 K (d + 3) C (C + 17) (1 : Int32) s5 G sz (fun r8 => kX10_collectMoves_s N0 K (d + 3) C (C + 27) (C + 6) r8 s5 G sz (fun _ s9 => Q () s9)))) := by
  have hwf := hL.wf
  have ex := cf2_ex hwf vr_L (by decide)
  have f0 : gfr (fun p => p = 25 ∨ p = 27) s (cI s 88 v) := gfr.e _ s v
  have n0 := nfr.e s v
  have hP0 := hP.fr f0 (by decide) (fun q hq => by omega)
  refine kq_at (d := d + 2) pos17 hP0 hok.2 ?_
  refine kq_moves hN pos25 (n0.facts hL) ex (fun s5 T5 a1 a2 a3 a4 a5 => ?_)
  have f5 : gfr (fun p => p = 25 ∨ p = 27) s s5 := f0.trans (a1.g (Or.inl rfl))
  have n5 := n0.trans (a1.n (by decide))
  refine kq_at (d := d + 2) pos17 (hP.fr f5 (by decide) (fun q hq => by omega)) hok.2 ?_
  refine kq_moves hN pos27 (n5.facts hL) ex (fun s9 T9 b1 b2 b3 b4 b5 => ?_)
  have f9 : gfr (fun p => p = 25 ∨ p = 27) s s9 := f5.trans (b1.g (Or.inr rfl))
  have m5 : ∀ x, x ∈ T5 ↔ ∃ r, P[0]? = some r ∧ ((306, [r, x]) : Fct) ∈ L := fun x => ((a5 x).trans (cf2 hwf vr_L (by decide) x _)).trans (atT_iff (i := 0) (by decide) hok.1.2)
  have m9 : ∀ x, x ∈ T9 ↔ ∃ r, P[1]? = some r ∧ ((306, [r, x]) : Fct) ∈ L := fun x => ((b5 x).trans (cf2 hwf vr_L (by decide) x _)).trans (atT_iff (i := 1) (by decide) hok.1.2)
  have e5 : aMv L P 0 = T5 := rowS_eq a3 m5
  have e9 : aMv L P 1 = T9 := rowS_eq b3 m9
  have h88 : s9.1 88 = v := by
    rw [b1.1 88 (by decide), a1.1 88 (by decide)]
    rfl
  refine q s9 f9 (n5.trans (b1.n (by decide))) ⟨⟨?_, ?_⟩, ⟨?_, ?_⟩, fun z => h88.trans (hv.1 z), fun z => h88.trans (hv.2 z)⟩
  · rw [e5]
    exact a2.fr (b1.g (ps := fun p => p = 27) rfl) (by decide) (fun q hq => by omega)
  · rw [e9]
    exact b2
  · unfold mvOk
    rw [e5]
    exact ⟨a3, a4, m5⟩
  · unfold mvOk
    rw [e9]
    exact ⟨b3, b4, m9⟩
theorem cq_seeMoves {N0 : Nat} {K : Nat → Nat} {d C : Nat} {P : List Tm} {L : List Fct} {s : cS} {G : gm_H} {sz : Nat} {Q : Unit → cS → Prop} (hN : N0 ≤ C) (hP : tS s 17 P) (hok : okP P) (hL : cFacts s L) (q : ∀ s', gfr (fun p => p = 25 ∨ p = 27) s s' → nfr s s' → SN s' L P → Q () s') : kX3_seeMoves N0 K (d + 4) C s G sz Q := by
  refine kX3_seeMoves.of (TX3_seeMoves_0 hN ?_)
  have hc := cK_end hL
  by_cases he : s.2.1 13 7 ≤ 0
  · rw [if_pos he]
    exact see2 hN hP hok hL ⟨fun z => absurd z (hc.mp he), fun _ => rfl⟩ q
  · rw [if_neg he]
    exact see2 hN hP hok hL ⟨fun _ => rfl, fun z => absurd (hc.mpr z) he⟩ q
theorem cq_look {N0 : Nat} {K : Nat → Nat} {d C p z : Nat} {R : List Rl} {T P : List Tm} {s : cS} {G : gm_H} {sz : Nat} {Q : Int32 → cS → Prop} (hN : N0 ≤ C) (hF : FB G C z R s) (hT : cTs C s G p T) (hoT : okT T) (h24 : T.length ≤ 200) (hP : tS s 17 P) (hok : okP P) (q1 : ∀ s' L, gfr (fun p => p = 25 ∨ p = 27) s s' → FS G C z R T s' L → Mdl R (bT T) L → Small R L → SN s' L P → Q 1 s') (q0 : ∀ s', ffr s s' → FB G C z R s' → Bad R (isB (bT T)) → Q 0 s') : kX3_look N0 K (d + 16) C p s G sz Q := by
  refine kX3_look.of (TX3_look_0 hN ?_)
  refine kq_inState hN hF hT hoT.nodup h24 (fun s2 L f2 g2 m2 k2 => ?_) (fun s2 f2 g2 b2 => ?_)
  · rw [if_neg (by decide)]
    refine cq_seeMoves (d := d + 11) hN (hP.fr (f2.g (ps := fun _ => False)) (by decide) (fun q hq => hq.elim)) hok g2.f (fun s5 f5 n5 k5 => ?_)
    exact q1 s5 L (f2.g.trans f5) (g2.n n5) m2 k2 k5
  · rw [if_pos rfl]
    exact q0 s2 f2 g2 b2
/-- where a joint move leads -/
noncomputable def aNx (R : List Rl) (T : List Tm) (r0 m0 r1 m1 : Tm) : Option (List Tm) := (vw R (bT T ++ bD r0 m0 r1 m1)).bind (aSt 313)
theorem cq_lead {N0 : Nat} {K : Nat → Nat} {d C z a b : Nat} {R : List Rl} {T M0 M1 : List Tm} {r0 m0 r1 m1 : Tm} {L : List Fct} {s : cS} {G : gm_H} {sz : Nat} {Q : Int32 → cS → Prop} (hN : N0 ≤ C) (hf : flNone R) (hF : FS G C z R T s L) (hP : tS s 17 [r0, r1]) (hok : okP [r0, r1]) (hM0 : tS s 25 M0) (hM1 : tS s 27 M1) (ho0 : okT M0) (ho1 : okT M1) (hl0 : M0.length ≤ 200) (hl1 : M1.length ≤ 200) (ha : M0[a]? = some m0) (hb : M1[b]? = some m1) (q1 : ∀ s' L' T', gfr (fun p => p = 23) s s' → FS G C z R T s' L' → tS s' 23 T' → okT T' → T'.length ≤ 24 → aNx R T r0 m0 r1 m1 = some T' → Q 1 s') (q0 : ∀ s' L', gfr (fun p => p = 23) s s' → FS G C z R T s' L' → aNx R T r0 m0 r1 m1 = none → Q 0 s') : kX3_lead N0 K (d + 16) C (nI a) (nI b) s G sz Q := by
  have hal := (List.getElem?_eq_some_iff.mp ha).1
  have hbl := (List.getElem?_eq_some_iff.mp hb).1
  refine kX3_lead.of (TX3_lead_0 hN ?_)
  refine kq_at (d := d + 14) pos17 hP hok.2 ?_
  refine kq_at (d := d + 14) pos25 hM0 hl0 ?_
  refine kq_at (d := d + 14) pos17 hP hok.2 ?_
  refine kq_at (d := d + 14) pos27 hM1 hl1 ?_
  have e0 : atT [r0, r1] (0 : Int32) = nI (tE r0) := atT_get (i := 0) (by decide) rfl
  have e1 : atT [r0, r1] (1 : Int32) = nI (tE r1) := atT_get (i := 1) (by decide) rfl
  rw [e0, e1, atT_get (by omega) ha, atT_get (by omega) hb]
  have hne : r0 ≠ r1 := by
    intro e
    have := (List.pairwise_cons.mp hok.1.1).1 r1 (by simp)
    rw [e] at this
    omega
  refine kq_byMove hN (hok.1.2 r0 (by simp)) (ho0.2 m0 (List.mem_of_getElem? ha)) (hok.1.2 r1 (by simp)) (ho1.2 m1 (List.mem_of_getElem? hb)) hne hF (fun s' L' f g m k => ?_) (fun s' L' f g bd => ?_)
  · rw [if_neg (by decide)]
    obtain ⟨Lv, v1, v2⟩ := vw_some hf m k
    have hwf := g.f.wf
    refine kq_collect (d := d + 12) (rel := 3) hN pos23 g.f (by decide) (cf1_ex hwf vr_N (by decide)) (fun s2 T2 a1 a2 a3 a4 a5 => ?_) (fun s2 T2 a1 a2 a3 a4 a5 a6 => ?_)
    · rw [if_neg (by decide)]
      refine q1 s2 L' T2 (f.g.trans (a1.g rfl)) (g.n (a1.n (by decide))) a2 a3 a4 ?_
      unfold aNx
      rw [v1]
      show aSt 313 Lv = some T2
      rw [← aSt_same v2]
      exact aSt_some a3 a4 (fun x => (a5 x).trans (cf1 hwf vr_N (by decide) x))
    · rw [if_pos rfl]
      refine q0 s2 L' (f.g.trans (a1.g rfl)) (g.n (a1.n (by decide))) ?_
      unfold aNx
      rw [v1]
      show aSt 313 Lv = none
      rw [← aSt_same v2]
      refine aSt_none ?_
      obtain ⟨t, t1, t2, t3⟩ := a6
      refine row_over a3 (fun x hx => ?_) t1 t2 ((cf1 hwf vr_N (by decide) t).mp t3)
      exact (cf1 hwf vr_N (by decide) x).mp (a5 x hx)
  · rw [if_pos rfl]
    refine q0 s' L' f.g g ?_
    unfold aNx
    rw [vw_none bd]
    rfl
theorem good_not {R : List Rl} {B L : List Fct} (h : Mdl R B L) (k : Small R L) : ¬ Bad R (isB B) := fun z => z B L (fun _ => Iff.rfl) h k
theorem cq_advance {N0 : Nat} {K : Nat → Nat} {d C z a b : Nat} {R : List Rl} {T M0 M1 : List Tm} {r0 m0 r1 m1 : Tm} {L : List Fct} {s : cS} {G : gm_H} {sz : Nat} {Q : Int32 → cS → Prop} (hN : N0 ≤ C) (hf : flNone R) (hF : FS G C z R T s L) (hP : tS s 17 [r0, r1]) (hok : okP [r0, r1]) (hM0 : tS s 25 M0) (hM1 : tS s 27 M1) (ho0 : okT M0) (ho1 : okT M1) (hl0 : M0.length ≤ 200) (hl1 : M1.length ≤ 200) (ha : M0[a]? = some m0) (hb : M1[b]? = some m1) (hT : tS s 21 T) (hoT : okT T) (h24 : T.length ≤ 24) (hgd : ∃ L, Mdl R (bT T) L ∧ Small R L) (q1 : ∀ s' T' L', gfr (fun p => p = 21 ∨ p = 23 ∨ p = 25 ∨ p = 27) s s' → FS G C z R T' s' L' → aNx R T r0 m0 r1 m1 = some T' → okT T' → T'.length ≤ 24 → Mdl R (bT T') L' → Small R L' → SN s' L' [r0, r1] → tS s' 21 T' → Q 1 s') (q0 : ∀ s' L', gfr (fun p => p = 23 ∨ p = 25 ∨ p = 27) s s' → FS G C z R T s' L' → (aNx R T r0 m0 r1 m1 = none ∨ ∃ T', aNx R T r0 m0 r1 m1 = some T' ∧ vw R (bT T') = none) → Mdl R (bT T) L' → Small R L' → SN s' L' [r0, r1] → Q 0 s') : kX3_advance N0 K (d + 17) C (nI a) (nI b) s G sz Q := by
  obtain ⟨Lg, g1, g2⟩ := hgd
  -- the look back at the state
  have back : ∀ s6 : cS, gfr (fun p => p = 23 ∨ p = 25 ∨ p = 27) s s6 → FB G C z R s6 → (aNx R T r0 m0 r1 m1 = none ∨ ∃ T', aNx R T r0 m0 r1 m1 = some T' ∧ vw R (bT T') = none) → kX3_look N0 K (d + 16) C (C + 21) s6 G sz (fun r10 s10 => Q (0 : Int32) s10) := by
    intro s6 f6 b6 hno
    have t21 := hT.fr f6 (by decide) (fun q hq => by omega)
    refine cq_look hN b6 (t21.cTs pos21 h24 hoT.2) hoT (by omega) (hP.fr f6 (by decide) (fun q hq => by omega)) hok (fun s' L' f g m k n => ?_) (fun s' f g bd => absurd bd (good_not g1 g2))
    exact q0 s' L' (f6.trans (f.mono (fun p hp => by omega))) g hno m k n
  refine kX3_advance.of (TX3_advance_0 hN ?_)
  refine cq_lead (d := d) hN hf hF hP hok hM0 hM1 ho0 ho1 hl0 hl1 ha hb (fun s2 L2 T2 f2 g2 t2 o2 l2 x2 => ?_) (fun s2 L2 f2 g2 x2 => ?_)
  · rw [if_neg (by decide)]
    refine cq_look hN g2.b (t2.cTs pos23 l2 o2.2) o2 (by omega) (hP.fr f2 (by decide) (fun q hq => by omega)) hok (fun s6 L6 f6 g6 m6 k6 n6 => ?_) (fun s6 f6 g6 bd => ?_)
    · rw [if_neg (by decide)]
      have t23 := t2.fr f6 (by decide) (fun q hq => by omega)
      refine kq_copy (d := d + 14) hN pos21 pos23 (by decide) (by decide) t23 l2 l2 (fun s9 f9 t9 => ?_)
      have n9 := f9.n (by decide)
      have g9 := f9.g (ps := fun p => p = 21) rfl
      refine q1 s9 T2 L6 ((f2.mono (fun p hp => by omega)).trans ((f6.mono (fun p hp => by omega)).trans (g9.mono (fun p hp => by omega)))) (g6.n n9) x2 o2 l2 m6 k6 ⟨⟨n6.1.1.fr g9 (by decide) (fun q hq => by omega), n6.1.2.fr g9 (by decide) (fun q hq => by omega)⟩, n6.2.1, fun z => ?_, fun z => ?_⟩ t9
      · rw [f9.1 88 (by decide)]
        exact n6.2.2.1 z
      · rw [f9.1 88 (by decide)]
        exact n6.2.2.2 z
    · rw [if_pos rfl]
      exact back s6 ((f2.mono (fun p hp => by omega)).trans f6.g) g6 (Or.inr ⟨T2, x2, vw_none bd⟩)
  · rw [if_pos rfl]
    exact back s2 (f2.mono (fun p hp => by omega)) g2.b (Or.inl x2)
theorem cq_goBack {N0 : Nat} {K : Nat → Nat} {d C z : Nat} {R : List Rl} {T1 P : List Tm} {s : cS} {G : gm_H} {sz : Nat} {Q : Unit → cS → Prop} (hN : N0 ≤ C) (hF : FB G C z R s) (hP : tS s 17 P) (hok : okP P) (hT : tS s 19 T1) (hoT : okT T1) (h24 : T1.length ≤ 24) (hgd : ∃ L, Mdl R (bT T1) L ∧ Small R L) (q : ∀ s' L', gfr (fun p => p = 21 ∨ p = 25 ∨ p = 27) s s' → FS G C z R T1 s' L' → Mdl R (bT T1) L' → Small R L' → SN s' L' P → tS s' 21 T1 → Q () s') : kX3_goBack N0 K (d + 17) C s G sz Q := by
  obtain ⟨Lg, g1, g2⟩ := hgd
  refine kX3_goBack.of (TX3_goBack_0 hN ?_)
  refine kq_copy (d := d + 14) hN pos21 pos19 (by decide) (by decide) hT h24 h24 (fun s1 f1 t1 => ?_)
  have g1' := f1.g (ps := fun p => p = 21) rfl
  refine cq_look hN (hF.n (f1.n (by decide))) (t1.cTs pos21 h24 hoT.2) hoT (by omega) (hP.fr g1' (by decide) (fun q hq => by omega)) hok (fun s' L' f g m k n => ?_) (fun s' f g bd => absurd bd (good_not g1 g2))
  exact q s' L' ((g1'.mono (fun p hp => by omega)).trans (f.mono (fun p hp => by omega))) g m k n (t1.fr f (by decide) (fun q hq => by omega))
/-- roles are told by rules alone -/
theorem role_fact {R : List Rl} (hw : ∀ x ∈ R, wfR x) (hf : flNone R) {B L : List Fct} {Q : Nat → Prop} (hM : Sup R B Q L) (hB : ∀ f ∈ B, f.1 ≠ 329) : ∀ f ∈ L, f.1 = 329 → f ∈ R.map (fun r => sL (fun _ => (0, [97])) r.1) := by
  intro f hfL he
  obtain ⟨i, hi⟩ := List.getElem?_of_mem hfL
  rcases hM i f hi with z | ⟨r, hr, σ, a, b, c⟩
  · exact absurd he (hB f z)
  · refine List.mem_map.mpr ⟨r, hr, ?_⟩
    have hwr := hw r hr
    have hlk : lk r.1 = 329 := by rw [← he, b]; rfl
    obtain ⟨m, m1, m2, m3⟩ := wfA_nat hwr.1.2
    have h3 := hwr.1.2.2.1
    have ecn : cn r.1.2.1 = m := by rw [m3, cn_nI m2]
    have e82 : r.1.2.1 = 82 := by
      unfold lk at hlk
      rw [ecn] at hlk
      rw [m3, show m = 82 by omega]
      decide
    have hvm : vm r.1.2.2 = 0 := by
      refine Classical.not_not.mp (fun z => hf.n2 hr ?_)
      exact Or.inl (Or.inr (Or.inr ⟨e82, Or.inr z⟩))
    rw [b]
    unfold sL
    congr 1
    refine List.map_congr_left (fun t ht => ?_)
    refine sT_congr (hwr.1.2.2.2 t ht) (fun c' hc' hv => ?_)
    obtain ⟨v1, v2, v3⟩ := chV_cn hv
    have := vm_bit.mpr ⟨t, ht, c', hc', hv, (show cn c' = 85 + (cn c' - 85) by omega)⟩
    rw [hvm, Nat.zero_testBit] at this
    cases this
theorem roles_fit {R : List Rl} (hw : ∀ x ∈ R, wfR x) (hf : flNone R) (h24 : R.length ≤ 24) {B L : List Fct} {Q : Nat → Prop} (hM : Sup R B Q L) (hB : ∀ f ∈ B, f.1 ≠ 329) {T : List Tm} {t : Tm} (ho : okT T) (hs : ∀ x ∈ T, ((329, [x]) : Fct) ∈ L) (ht : ¬ t ∈ T) (hl : T.length = 24) (hS : ((329, [t]) : Fct) ∈ L) : False := by
  have hnd : (((t :: T).map (fun x => ((329, [x]) : Fct))) : List Fct).Nodup := by
    have h1 : (t :: T).Nodup := List.nodup_cons.mpr ⟨ht, ho.nodup⟩
    refine List.Pairwise.map _ ?_ h1
    intro x y hxy e
    simp only [Prod.mk.injEq, List.cons.injEq, and_true, true_and] at e
    exact hxy e
  have := nodup_sub_len (M := R.map (fun r => sL (fun _ => (0, [97])) r.1)) hnd (fun f hf2 => by
    obtain ⟨x, hx, rfl⟩ := List.mem_map.mp hf2
    refine role_fact hw hf hM hB _ ?_ rfl
    rcases List.mem_cons.mp hx with z | z
    · rw [z]; exact hS
    · exact hs x z)
  simp only [List.length_map, List.length_cons] at this
  omega
