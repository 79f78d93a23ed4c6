/-! the class: byMove -/
def bD (r0 m0 r1 m1 : Tm) : List Fct := [(274, [r0, m0]), (274, [r1, m1])]
theorem isB_D {T : List Tm} {r0 m0 r1 m1 : Tm} {B' : List Fct} (h : isB (bT T ++ bD r0 m0 r1 m1) B') : PT T B' ∧ ((274, [r0, m0]) : Fct) ∈ B' ∧ ((274, [r1, m1]) : Fct) ∈ B' ∧ ∀ f ∈ B', f.1 = 274 → f = (274, [r0, m0]) ∨ f = (274, [r1, m1]) := by
  have hc : ∀ f ∈ B', (∃ t ∈ T, f = (337, [t])) ∨ f = (274, [r0, m0]) ∨ f = (274, [r1, m1]) := by
    intro f hf
    rcases List.mem_append.mp ((h f).mp hf) with y | y
    · exact Or.inl (bT_mem.mp y)
    · unfold bD at y
      simp only [List.mem_cons, List.not_mem_nil, or_false] at y
      exact Or.inr y
  refine ⟨⟨fun f hf => ?_, fun f e => ⟨fun hf => ?_, fun hf => (h f).mpr (List.mem_append_left _ hf)⟩⟩, (h _).mpr (List.mem_append_right _ (by simp [bD])), (h _).mpr (List.mem_append_right _ (by simp [bD])), fun f hf e => ?_⟩
  · rcases hc f hf with ⟨t, _, y⟩ | y | y
    · exact Or.inl (by rw [y])
    · exact Or.inr (by rw [y])
    · exact Or.inr (by rw [y])
  · rcases hc f hf with y | y | y
    · exact bT_mem.mpr y
    · rw [y] at e
      exact absurd (show (274 : Nat) = 337 from e) (by decide)
    · rw [y] at e
      exact absurd (show (274 : Nat) = 337 from e) (by decide)
  · rcases hc f hf with ⟨t, _, y⟩ | y
    · rw [y] at e
      exact absurd (show (337 : Nat) = 274 from e) (by decide)
    · exact y
/-- one given fact of D more -/
theorem cq_addD {N0 : Nat} {K : Nat → Nat} {d C : Nat} {G : gm_H} {sz : Nat} {O : List Rl} {P : List Fct → Prop} {Qs : Nat → Prop} {B : List Fct} {a b : Tm} {s : cS} {L : List Fct} {Q : Unit → cS → Prop} (hN : N0 ≤ C) (ha : gT a) (hb : gT b) (hL : cFacts s L) (hq : ¬ Qs 274) (hP : ∀ B', P B' → ((274, [a, b]) : Fct) ∈ B') (hS : (s.1 130 = 1 ∧ Bad O P) ∨ (s.1 130 = 0 ∧ St O P Qs B L ∧ ¬ ((274, [a, b]) : Fct) ∈ L)) (q : ∀ s' L', fcx s s' → cFacts s' L' → (∃ K, L' = L ++ K ∧ ∀ f ∈ K, f = (274, [a, b])) → ((s'.1 130 = 1 ∧ Bad O P) ∨ (s'.1 130 = 0 ∧ L' = L ++ [(274, [a, b])] ∧ St O P Qs (B ++ [(274, [a, b])]) L')) → Q () s') : kX1_add N0 K (d + 2) C 4 (nI (tE a)) (nI (tE b)) 0 s G sz Q := by
  have hcr : nI (cr ((274, [a, b]) : Fct).1) = 4 := by show nI (cr 274) = 4; rw [cr_D]; rfl
  have hadd := cq_add (N0 := N0) (K := K) (d := d) (C := C) (s := s) (G := G) (sz := sz) (F := ((274, [a, b]) : Fct)) (Q := Q) hN hL (wfC_D ha hb)
  rw [hcr] at hadd
  refine hadd (fun hin => ?_) (fun hni h200 => ?_) (fun s' hni _ hf h130 hL' => ?_)
  · rcases hS with y | ⟨_, _, y⟩
    · exact q s L (fcx.refl s) hL ⟨[], by simp, fun f hf => absurd hf (by simp)⟩ (Or.inl y)
    · exact absurd hin y
  · refine q _ L ⟨fun i _ b => if_neg b, fun _ _ => rfl, rfl⟩ (hL.fr rfl (fun _ _ _ => rfl)) ⟨[], by simp, fun f hf => absurd hf (by simp)⟩ (Or.inl ⟨rfl, ?_⟩)
    rcases hS with y | ⟨_, y, _⟩
    · exact y.2
    · exact y.bad_len hni h200 (fun B' M hP' hM => hM.1 _ (hP B' hP'))
  · refine q s' _ hf hL' ⟨[(274, [a, b])], rfl, fun f hf => by simpa using hf⟩ ?_
    rcases hS with y | ⟨y1, y2, y3⟩
    · exact Or.inl ⟨by rw [h130]; exact y.1, y.2⟩
    · exact Or.inr ⟨by rw [h130]; exact y1, rfl, y2.give hq hni (fun B' h => ⟨h, hP B' h⟩)⟩
theorem cq_byMove {N0 : Nat} {K : Nat → Nat} {d C : Nat} {G : gm_H} {sz : Nat} {O : List Rl} {ly st : Nat → Nat} {e0 e1 e2 : Nat} {rc : Nat → Prop} {z : Nat} {T : List Tm} {r0 m0 r1 m1 : Tm} {s : cS} {L0 L1 L : List Fct} {Q : Int32 → cS → Prop} (hN : N0 ≤ C) (hly : LyC O ly st e0 e1 e2 rc) (hpl : pLay G C z O st e0 e1 e2 rc) (g0 : gT r0) (g1 : gT m0) (g2 : gT r1) (g3 : gT m1) (hne : r0 ≠ r1) (hF : FI1 O ly e0 e1 z T s L0 L1 L) (q1 : ∀ s' L', ffr s s' → FI1 O ly e0 e1 z T s' L0 L1 L' → Mdl O (bT T ++ bD r0 m0 r1 m1) L' → Small O L' → Q 1 s') (q0 : ∀ s' L', ffr s s' → FI1 O ly e0 e1 z T s' L0 L1 L' → Bad O (isB (bT T ++ bD r0 m0 r1 m1)) → Q 0 s') : kX2_byMove N0 K (d + 15) C (nI (tE r0)) (nI (tE m0)) (nI (tE r1)) (nI (tE m1)) s G sz Q := by
  obtain ⟨h1, ⟨h2, h2a, h2b, h2c, h2d⟩, h3, h4⟩ := id hly
  obtain ⟨o, t, g, fo, ft, fe, v, ⟨cz, co, ct, cg⟩, gz, go, gt, gg, hbs, hO, hft, fe0, fe1, fe2⟩ := id hpl
  obtain ⟨⟨_, i2, i3, i4, i5, i6, i7⟩, ⟨K1, eK1⟩, ⟨K2, eK2⟩, j4, j5, j6⟩ := hF
  have hnoT : ∀ r ∈ O, lk r.1 ≠ 274 := fun r hr => (hly.1 r hr).2.2.2.2.1
  have hlen : L1.length ≤ L.length := by rw [eK2, List.length_append]; omega
  have hq : ¬ qC O ly gv1 e1 274 := by
    rintro (y | ⟨⟨r, hr, e⟩, _⟩)
    · exact y.2 rfl
    · exact hnoT r hr e
  have hn1 : ∀ a b, ¬ ((274, [a, b]) : Fct) ∈ L1 := by
    intro a b hin
    rcases j5.mem _ hin with y | ⟨r, hr, e⟩
    · obtain ⟨t', _, e⟩ := bT_mem.mp y
      exact absurd (show (274 : Nat) = 337 from congrArg Prod.fst e) (by decide)
    · exact hnoT r hr e
  refine kX2_byMove.of (TX2_byMove_0 hN ?_)
  rw [j4]
  refine cq_cut (d := d + 12) hN i2 hlen (fun s1 f1 b1 c1 => ?_)
  rw [show L.take L1.length = L1 by rw [eK2, List.take_left']; rfl] at c1
  refine cq_addD (d := d + 12) (O := O) (P := isB (bT T ++ bD r0 m0 r1 m1)) (Qs := qC O ly gv1 e1) (B := bT T) hN g0 g1 c1 hq (fun B' h => (isB_D h).2.1) (Or.inr ⟨b1, j5.weak (fun B' h => (isB_D h).1), hn1 _ _⟩) (fun s2 L2 f2 c2 hK2 hS2 => ?_)
  obtain ⟨K3, eK3, hK3⟩ := hK2
  refine cq_addD (d := d + 12) (O := O) (P := isB (bT T ++ bD r0 m0 r1 m1)) (Qs := qC O ly gv1 e1) (B := bT T ++ [(274, [r0, m0])]) hN g2 g3 c2 hq (fun B' h => (isB_D h).2.2.1) ?_ (fun s3 L3 f3 c3 hK3' hS3 => ?_)
  · rcases hS2 with y | ⟨y1, y2, y3⟩
    · exact Or.inl y
    · refine Or.inr ⟨y1, y3, fun hin => ?_⟩
      rw [y2] at hin
      rcases List.mem_append.mp hin with w | w
      · exact hn1 _ _ w
      · simp only [List.mem_singleton, Prod.mk.injEq, List.cons.injEq, and_true, true_and] at w
        exact hne w.1.symm
  · obtain ⟨K4, eK4, hK4⟩ := hK3'
    have f13 : fcx s1 s3 := f2.trans f3
    have hz3 : s3.2.2 101 = some z := by rw [f13.2.2, f1.2.2]; exact i7
    have hL3 : L3 = L1 ++ (K3 ++ K4) := by rw [eK4, eK3, List.append_assoc]
    have hKD : ∀ f ∈ K3 ++ K4, f.1 = 274 := by
      intro f hf
      rcases List.mem_append.mp hf with y | y
      · rw [hK3 f y]
      · rw [hK4 f y]
    have hS4 : cyS O (isB (bT T ++ bD r0 m0 r1 m1)) ly gv2 e1 (bT T ++ bD r0 m0 r1 m1) s3 L3 := by
      refine ⟨c3, by rw [f13.2.1 16 (by decide), f1.2.1 16 (by decide)]; exact i6, ?_⟩
      rcases hS3 with y | ⟨y1, y2, y3⟩
      · exact Or.inl y
      · have eB : bT T ++ [(274, [r0, m0])] ++ [(274, [r1, m1])] = bT T ++ bD r0 m0 r1 m1 := by rw [List.append_assoc]; rfl
        rw [eB] at y3
        refine Or.inr ⟨y1, St.to2 hly y3 (fun B' hP f hf e => y3.2.2.1 f ((hP f).mp hf)), fun x hx hlt => ?_⟩
        rw [wy_same (M := L1) (fun l hl k0 => by
          rw [hL3]
          refine cnt_app (fun f hf e => ?_)
          exact (h4 x hx l hl (by rw [k0]; decide)).2.2 hlt (by rw [← e]; exact hKD f hf))]
        exact j6 x hx hlt
    refine ⟨z, hz3, _, gz, g, rfl, cz, 3, fe, gg, by decide, cg, by decide, ?_⟩
    rw [fe1]
    refine ly_loop (K := K) (d := d) (sz := sz) (P := isB (bT T ++ bD r0 m0 r1 m1)) (gv := gv2) (B := bT T ++ bD r0 m0 r1 m1) (s0 := s3) (L0 := L3) (H := fun u s' => hX2_byMove_45 N0 K (d + 14) C u s' G sz 0 Q) hN hly (Nat.le_refl e2) (fun x hx hlt l hl k2 _ => trivial) (fun _ h => (isB_D h).1.1) hpl hz3 (fun j s' hj hz' hc => ?_) (fun s4 L4 f4 hK4 hS5 => ?_) (e2 - e1) e1 s3 L3 (by omega) (cfr.refl _) ⟨[], by simp⟩ hS4
    · refine TX2_byMove_45 hN ⟨z, hz', _, gz, g, rfl, cz, 3, fe, gg, by decide, cg, by decide, ?_⟩
      rw [fe2, if_neg (nI_ge (by omega) (by omega))]
      exact hc
    · have hz4 : s4.2.2 101 = some z := by rw [f4.2.2]; exact hz3
      refine TX2_byMove_45 hN ⟨z, hz4, _, gz, g, rfl, cz, 3, fe, gg, by decide, cg, by decide, ?_⟩
      rw [fe2, if_pos (Int32.le_refl _)]
      obtain ⟨K5, eK5⟩ := hK4
      have f04 : cfr s s4 := (f1.c.trans f13.c).trans f4
      have hL4 : L4 = L1 ++ (K3 ++ K4 ++ K5) := by rw [eK5, hL3, List.append_assoc]
      have hfi : FI1 O ly e0 e1 z T s4 L0 L1 L4 := by
        refine ⟨⟨⟨K1 ++ (K3 ++ K4 ++ K5), by rw [hL4, eK1, List.append_assoc]⟩, hS5.1, ?_, i4, i5, hS5.2.1, hz4⟩, ⟨K1, eK1⟩, ⟨_, hL4⟩, ?_, j5, j6⟩
        · rw [f04.1 102 (by decide) (by decide) (by decide) (by decide) (by decide)]
          exact i3
        · rw [f04.1 103 (by decide) (by decide) (by decide) (by decide) (by decide)]
          exact j4
      by_cases hb : s4.1 130 = 0
      · rw [if_pos hb]
        have hfin := hS5.fin hly hb
        exact q1 s4 L4 f04.f hfi hfin.1 hfin.2
      · rw [if_neg hb]
        rcases hS5.2.2 with ⟨_, y⟩ | ⟨y, _⟩
        · exact q0 s4 L4 f04.f hfi y
        · exact absurd y hb
