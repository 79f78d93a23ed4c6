/-! the class: inState, byMove -/
def bT (T : List Tm) : List Fct := T.map (fun t => ((337, [t]) : Fct))
/-- the given facts: those of T are told, those of D are not yet -/
def PT (T : List Tm) (B' : List Fct) : Prop := TD B' ∧ ∀ f : Fct, f.1 = 337 → (f ∈ B' ↔ f ∈ bT T)
theorem bT_mem {T : List Tm} {f : Fct} : f ∈ bT T ↔ ∃ t ∈ T, f = (337, [t]) := by
  unfold bT
  rw [List.mem_map]
  exact ⟨fun ⟨t, h, e⟩ => ⟨t, h, e.symm⟩, fun ⟨t, h, e⟩ => ⟨t, h, e.symm⟩⟩
theorem isB_PT {T : List Tm} {B' : List Fct} (h : isB (bT T) B') : PT T B' := by
  refine ⟨fun f hf => Or.inl ?_, fun f _ => h f⟩
  obtain ⟨t, _, e⟩ := bT_mem.mp ((h f).mp hf)
  rw [e]
theorem wfC_T {t : Tm} (h : gT t) : wfC (337, [t]) := by
  refine ⟨⟨(by decide : 337 < 512), (show 1 = 337 % 4 by decide), fun x hx => ?_⟩, 84, [t], ⟨Or.inr ⟨(by decide), (show nI 1 = chK 84 by decide)⟩, (by simp), fun x hx => ?_⟩, (show 337 = 4 * cn 84 + 1 by decide)⟩
  · simp only [List.mem_singleton] at hx
    rw [hx]
    exact h
  · simp only [List.mem_singleton] at hx
    rw [hx]
    exact h.1
theorem wfC_D {a b : Tm} (ha : gT a) (hb : gT b) : wfC (274, [a, b]) := by
  refine ⟨⟨(by decide : 274 < 512), (show 2 = 274 % 4 by decide), fun x hx => ?_⟩, 68, [a, b], ⟨Or.inr ⟨(by decide), (show nI 2 = chK 68 by decide)⟩, (by simp), fun x hx => ?_⟩, (show 274 = 4 * cn 68 + 2 by decide)⟩
  · simp only [List.mem_cons, List.not_mem_nil, or_false] at hx
    rcases hx with z | z
    · rw [z]; exact ha
    · rw [z]; exact hb
  · simp only [List.mem_cons, List.not_mem_nil, or_false] at hx
    rcases hx with z | z
    · rw [z]; exact ha.1
    · rw [z]; exact hb.1
theorem cr_T : cr 337 = 2 := by decide
theorem cr_D : cr 274 = 4 := by decide
theorem St.mem {R : List Rl} {P : List Fct → Prop} {Q : Nat → Prop} {B L : List Fct} (h : St R P Q B L) : ∀ f ∈ L, f ∈ B ∨ ∃ r ∈ R, lk r.1 = f.1 := by
  intro f hf
  obtain ⟨i, hi, e⟩ := List.getElem_of_mem hf
  rcases h.2.1 i f (by rw [List.getElem?_eq_getElem hi, e]) with z | ⟨r, hr, σ, _, e', _⟩
  · exact Or.inl z
  · exact Or.inr ⟨r, hr, by rw [e']; rfl⟩
theorem Bad.weak {R : List Rl} {P P' : List Fct → Prop} (h : Bad R P) (g : ∀ B', P' B' → P B') : Bad R P' := fun B' M hP hM => h B' M (g B' hP) hM
/-- a Terms object, as long as the facts alone change -/
def cTs (C : Nat) (s0 : cS) (G : gm_H) (p : Nat) (T : List Tm) : Prop := ∃ row n f, (∀ s', ffr s0 s' → bM C (cH C s') G p = some (.inr (9, [.ref row, .int (nI T.length)])) ∧ bM C (cH C s') G row = some (.inl (.int, n, .inl f))) ∧ T.length ≤ n ∧ n < 2 ^ 31 ∧ ∀ (i : Nat) t, T[i]? = some t → gT t ∧ f i = nI (tE t)
theorem is_13 {N0 : Nat} {K : Nat → Nat} {d C p : Nat} {G : gm_H} {sz sl : Nat} {O : List Rl} {ly st : Nat → Nat} {e0 e1 e2 : Nat} {rc : Nat → Prop} {z : Nat} {T : List Tm} {s0 : cS} {L0 : List Fct} {Q : Int32 → cS → Prop} (hN : N0 ≤ C) (hly : LyC O ly st e0 e1 e2 rc) (hpl : pLay G C z O st e0 e1 e2 rc) (hz : s0.2.2 101 = some z) (hT : cTs C s0 G p T) (hnd : T.Nodup) (h24 : T.length ≤ 200) (hst0 : St O TD (qC O ly gv0 e0) [] L0) (q : ∀ s L, fcx s0 s → (∃ K, L = L0 ++ K) → cFacts s L → ((s.1 130 = 1 ∧ Bad O (PT T)) ∨ (s.1 130 = 0 ∧ L = L0 ++ bT T ∧ St O (PT T) (qC O ly gv0 e0) (bT T) L)) → hX2_inState_53 N0 K (d + 2) C (nI e0) s G sz sl Q) : ∀ (m k : Nat) (s : cS) (L : List Fct), k + m = T.length → fcx s0 s → cFacts s L → (∃ K, L = L0 ++ K) → ((s.1 130 = 1 ∧ Bad O (PT T)) ∨ (s.1 130 = 0 ∧ L = L0 ++ bT (T.take k) ∧ St O (PT T) (qC O ly gv0 e0) (bT (T.take k)) L)) → hX2_inState_13 N0 K (d + 2) C p (nI k) s G sz sl Q := by
  obtain ⟨row, n, f, hr, hTn, hn, hTf⟩ := hT
  obtain ⟨o, t, g, fo, ft, fe, v, ⟨cz, co, ct, cg⟩, gz, go, gt, gg, hbs, hO, hft, fe0, fe1, fe2⟩ := id hpl
  have hnoT : ∀ r ∈ O, lk r.1 ≠ 337 := fun r hr => (hly.1 r hr).2.2.2.1
  intro m
  induction m with
  | zero =>
    intro k s L hk hf hL hK hS
    have hf' : ffr s0 s := hf.c.f
    refine TX2_inState_13 hN ⟨_, (hr s hf').1, nI T.length, rfl, ?_⟩
    rw [if_pos (nI_le (by omega) (by omega))]
    refine ⟨z, by rw [hf.2.2]; exact hz, _, gz, g, rfl, cz, 3, fe, gg, by decide, cg, by decide, ?_⟩
    rw [fe0]
    rw [List.take_of_length_le (by omega)] at hS
    exact q s L hf hK hL hS
  | succ m ih =>
    intro k s L hk hf hL hK hS
    have hkT : k < T.length := by omega
    have hf' : ffr s0 s := hf.c.f
    obtain ⟨hg, hfk⟩ := hTf k _ (List.getElem?_eq_getElem hkT)
    refine TX2_inState_13 hN ⟨_, (hr s hf').1, nI T.length, rfl, ?_⟩
    rw [if_neg (nI_ge (by omega) (by omega))]
    refine ⟨row, rfl, k, rfl, n, f, (hr s hf').2, hn, by omega, ?_⟩
    rw [hfk, nI_1]
    have hF := wfC_T hg
    have etk : bT (T.take (k + 1)) = bT (T.take k) ++ [(337, [T[k]])] := by
      unfold bT
      rw [List.take_succ, List.getElem?_eq_getElem hkT, List.map_append]
      rfl
    have hadd := cq_add (N0 := N0) (K := K) (d := d) (C := C) (s := s) (G := G) (sz := sz) (F := ((337, [T[k]]) : Fct)) (Q := fun _ s' => hX2_inState_13 N0 K (d + 2) C p (nI (k + 1)) s' G sz sl Q) hN hL hF
    have hcr : nI (cr ((337, [T[k]]) : Fct).1) = 2 := by show nI (cr 337) = 2; rw [cr_T]; rfl
    rw [hcr] at hadd
    obtain ⟨K0, eK0⟩ := hK
    rcases hS with ⟨b1, b2⟩ | ⟨b1, b2, b3⟩
    · refine hadd (fun _ => ?_) (fun _ _ => ?_) (fun s' _ _ hf2 h130 hL' => ?_)
      · exact ih (k + 1) s L (by omega) hf hL ⟨K0, eK0⟩ (Or.inl ⟨b1, b2⟩)
      · exact ih (k + 1) _ L (by omega) (hf.trans ⟨fun i _ b => if_neg b, fun _ _ => rfl, rfl⟩) (hL.fr rfl (fun _ _ _ => rfl)) ⟨K0, eK0⟩ (Or.inl ⟨rfl, b2⟩)
      · exact ih (k + 1) s' _ (by omega) (hf.trans hf2) hL' ⟨K0 ++ [(337, [T[k]])], by rw [eK0, List.append_assoc]⟩ (Or.inl ⟨by rw [h130]; exact b1, b2⟩)
    · have hni : ¬ ((337, [T[k]]) : Fct) ∈ L := by
        rw [b2]
        intro hin
        rcases List.mem_append.mp hin with y | y
        · rcases hst0.mem _ y with w | ⟨r, hr1, e⟩
          · exact absurd w (by simp)
          · exact hnoT r hr1 e
        · obtain ⟨t', ht', e⟩ := bT_mem.mp y
          have e2 : T[k] = t' := by
            have := congrArg Prod.snd e
            simpa using this
          obtain ⟨i, hi, ei⟩ := List.getElem_of_mem ht'
          rw [List.getElem_take] at ei
          rw [List.length_take] at hi
          have := (List.getElem_inj (i := i) (j := k) (h₀ := by omega) (h₁ := hkT) hnd).mp (by rw [ei, e2])
          omega
      have hPm : ∀ B' M, PT T B' → Mdl O B' M → ((337, [T[k]]) : Fct) ∈ M := by
        intro B' M hP hM
        exact hM.1 _ ((hP.2 _ rfl).mpr (bT_mem.mpr ⟨_, List.getElem_mem hkT, rfl⟩))
      refine hadd (fun hin => absurd hin hni) (fun _ h200 => ?_) (fun s' _ _ hf2 h130 hL' => ?_)
      · exact ih (k + 1) _ L (by omega) (hf.trans ⟨fun i _ b => if_neg b, fun _ _ => rfl, rfl⟩) (hL.fr rfl (fun _ _ _ => rfl)) ⟨K0, eK0⟩ (Or.inl ⟨rfl, b3.bad_len hni h200 hPm⟩)
      · refine ih (k + 1) s' _ (by omega) (hf.trans hf2) hL' ⟨K0 ++ [(337, [T[k]])], by rw [eK0, List.append_assoc]⟩ (Or.inr ⟨by rw [h130]; exact b1, by rw [etk, b2, List.append_assoc], ?_⟩)
        rw [etk]
        refine b3.give ?_ hni (fun B' hP => ⟨hP, (hP.2 _ rfl).mpr (bT_mem.mpr ⟨_, List.getElem_mem hkT, rfl⟩)⟩)
        rintro (y | ⟨⟨r, hr1, e⟩, _⟩)
        · exact y.2.1 rfl
        · exact hnoT r hr1 e
/-- what is known when a state was looked at -/
def FI1 (O : List Rl) (ly : Nat → Nat) (e0 e1 : Nat) (z : Nat) (T : List Tm) (s : cS) (L0 L1 L : List Fct) : Prop := FI0 O ly e0 z s L0 L ∧ (∃ K, L1 = L0 ++ K) ∧ (∃ K, L = L1 ++ K) ∧ s.1 103 = nI L1.length ∧ St O (PT T) (qC O ly gv1 e1) (bT T) L1 ∧ ∀ x ∈ O, ly (lk x.1) < e1 → wy L1 x ≤ 100000
theorem St.to1 {O : List Rl} {ly st : Nat → Nat} {e0 e1 e2 : Nat} {rc : Nat → Prop} {T : List Tm} {L : List Fct} (hly : LyC O ly st e0 e1 e2 rc) (h : St O (PT T) (qC O ly gv0 e0) (bT T) L) : St O (PT T) (qC O ly gv1 e0) (bT T) L := by
  have hnoT : ∀ r ∈ O, lk r.1 ≠ 337 := fun r hr => (hly.1 r hr).2.2.2.1
  have := h.close (HS := fun x => x = 337) (fun r hr hS => absurd hS (hnoT r hr)) (fun r hr hS => absurd hS (hnoT r hr)) (fun B' hP f hf hS => h.2.2.1 f ((hP.2 f hS).mp hf))
  refine this.iff (fun x => ?_)
  unfold qC gv0 gv1
  constructor
  · rintro ((y | y) | y)
    · exact Or.inl ⟨y.1, y.2.2⟩
    · exact Or.inr y
    · exact Or.inl ⟨fun r hr => by rw [y]; exact hnoT r hr, by rw [y]; decide⟩
  · rintro (y | y)
    · by_cases e : x = 337
      · exact Or.inr e
      · exact Or.inl (Or.inl ⟨y.1, e, y.2⟩)
    · exact Or.inl (Or.inr y)
theorem St.to2 {O : List Rl} {ly st : Nat → Nat} {e0 e1 e2 : Nat} {rc : Nat → Prop} {k : Nat} {P : List Fct → Prop} {B L : List Fct} (hly : LyC O ly st e0 e1 e2 rc) (h : St O P (qC O ly gv1 k) B L) (hP : ∀ B', P B' → ∀ f ∈ B', f.1 = 274 → f ∈ L) : St O P (qC O ly gv2 k) B L := by
  have hnoD : ∀ r ∈ O, lk r.1 ≠ 274 := fun r hr => (hly.1 r hr).2.2.2.2.1
  have := h.close (HS := fun x => x = 274) (fun r hr hS => absurd hS (hnoD r hr)) (fun r hr hS => absurd hS (hnoD r hr)) hP
  refine this.iff (fun x => ?_)
  unfold qC gv1 gv2
  constructor
  · rintro ((y | y) | y)
    · exact Or.inl ⟨y.1, trivial⟩
    · exact Or.inr y
    · exact Or.inl ⟨fun r hr => by rw [y]; exact hnoD r hr, trivial⟩
  · rintro (y | y)
    · by_cases e : x = 274
      · exact Or.inr e
      · exact Or.inl (Or.inl ⟨y.1, e⟩)
    · exact Or.inl (Or.inr y)
theorem cyS.fin {O : List Rl} {ly st : Nat → Nat} {e0 e1 e2 : Nat} {rc : Nat → Prop} {P : List Fct → Prop} {B : List Fct} {s : cS} {L : List Fct} (hly : LyC O ly st e0 e1 e2 rc) (h : cyS O P ly gv2 e2 B s L) (hb : s.1 130 = 0) : Mdl O B L ∧ Small O L := by
  obtain ⟨c1, c2, c3⟩ := h
  rcases c3 with ⟨c3, _⟩ | ⟨_, c4, c5⟩
  · rw [hb] at c3
    exact absurd c3 (by decide)
  · have hlt : ∀ r ∈ O, ly (lk r.1) < e2 := fun r hr => (hly.1 r hr).2.2.2.2.2
    exact ⟨c4.model (fun r hr => Or.inr ⟨⟨r, hr, rfl⟩, hlt r hr⟩), c1.2.1, fun r hr => c5 r hr (hlt r hr)⟩
theorem cq_inState {N0 : Nat} {K : Nat → Nat} {d C p : Nat} {G : gm_H} {sz : Nat} {O : List Rl} {ly st : Nat → Nat} {e0 e1 e2 : Nat} {rc : Nat → Prop} {z : Nat} {T : List Tm} {s : cS} {L0 L : List Fct} {Q : Int32 → cS → Prop} (hN : N0 ≤ C) (hly : LyC O ly st e0 e1 e2 rc) (hpl : pLay G C z O st e0 e1 e2 rc) (hT : cTs C s G p T) (hnd : T.Nodup) (h24 : T.length ≤ 200) (hF : FI0 O ly e0 z s L0 L) (q1 : ∀ s' L1 L', ffr s s' → FI1 O ly e0 e1 z T s' L0 L1 L' → Mdl O (bT T) L' → Small O L' → Q 1 s') (q0 : ∀ s' L', ffr s s' → FI0 O ly e0 z s' L0 L' → Bad O (isB (bT T)) → Q 0 s') : kX2_inState N0 K (d + 15) C p s G sz Q := by
  obtain ⟨h1, ⟨h2, h2a, h2b, h2c, h2d⟩, h3, h4⟩ := id hly
  obtain ⟨o, t, g, fo, ft, fe, v, ⟨cz, co, ct, cg⟩, gz, go, gt, gg, hbs, hO, hft, fe0, fe1, fe2⟩ := id hpl
  obtain ⟨⟨K0, eK0⟩, i2, i3, i4, i5, i6, i7⟩ := hF
  have hlen : L0.length ≤ L.length := by rw [eK0, List.length_append]; omega
  refine kX2_inState.of (TX2_inState_0 hN ?_)
  rw [i3]
  refine cq_cut (d := d + 12) hN i2 hlen (fun s1 f1 b1 L1 => ?_)
  rw [show L.take L0.length = L0 by rw [eK0, List.take_left']; rfl] at L1
  have hz1 : s1.2.2 101 = some z := by rw [f1.2.2]; exact i7
  have hT1 : cTs C s1 G p T := by
    obtain ⟨row, n, f, hr, hrest⟩ := hT
    exact ⟨row, n, f, fun s' h => hr s' (f1.c.f.trans h), hrest⟩
  have h16 : ∀ s', fcx s1 s' → s'.2.1 16 0 = 0 := fun s' h => by rw [h.2.1 16 (by decide), f1.2.1 16 (by decide)]; exact i6
  have h102 : ∀ s' : cS, (s'.1 102 = s1.1 102) → s'.1 102 = nI L0.length := fun s' h => by rw [h, f1.1 102 (by decide) (by decide)]; exact i3
  have fi : ∀ s' L', cfr s1 s' → (∃ K, L' = L0 ++ K) → cFacts s' L' → s'.2.1 16 0 = 0 → FI0 O ly e0 z s' L0 L' := fun s' L' a b c e => ⟨b, c, h102 s' (a.1 102 (by decide) (by decide) (by decide) (by decide) (by decide)), i4, i5, e, by rw [a.2.2]; exact hz1⟩
  rw [← nI_0]
  refine is_13 (d := d + 12) (s0 := s1) (L0 := L0) hN hly hpl hz1 hT1 hnd h24 i4 (fun s2 L2 f2 hK2 c2 hS2 => ?_) T.length 0 s1 L0 (by omega) (fcx.refl s1) L1 ⟨[], by simp⟩ (Or.inr ⟨b1, by simp [bT], i4.weak (fun B' h => h.1)⟩)
  -- the layers of stage 1
  have hS1 : cyS O (PT T) ly gv1 e0 (bT T) s2 L2 := by
    refine ⟨c2, h16 s2 f2, ?_⟩
    rcases hS2 with y | ⟨y1, y2, y3⟩
    · exact Or.inl y
    · refine Or.inr ⟨y1, St.to1 hly y3, fun x hx hlt => ?_⟩
      rw [wy_same (M := L0) (fun l hl k0 => by
        rw [y2]
        refine cnt_app (fun f hf e => ?_)
        obtain ⟨t', _, e'⟩ := bT_mem.mp hf
        exact ((h4 x hx l hl (by rw [k0]; decide)).2.1 hlt).1 (by rw [← e, e']))]
      exact i5 x hx hlt
  have hz2 : s2.2.2 101 = some z := by rw [f2.2.2]; exact hz1
  refine ly_loop (K := K) (d := d) (sz := sz) (P := PT T) (gv := gv1) (B := bT T) (s0 := s2) (L0 := L2) (H := fun u s' => hX2_inState_53 N0 K (d + 14) C u s' G sz 0 Q) hN hly (by omega : e1 ≤ e2) (fun x hx hlt l hl k2 _ => (h4 x hx l hl k2).2.2 hlt) (fun _ h => h.1) hpl hz2 (fun j s' hj hz' hc => ?_) (fun s3 L3 f3 hK3 hS3 => ?_) (e1 - e0) e0 s2 L2 (by omega) (cfr.refl s2) ⟨[], by simp⟩ hS1
  · refine TX2_inState_53 hN ⟨z, hz', _, gz, g, rfl, cz, 3, fe, gg, by decide, cg, by decide, ?_⟩
    rw [fe1, if_neg (nI_ge (by omega) (by omega))]
    exact hc
  · have hz3 : s3.2.2 101 = some z := by rw [f3.2.2]; exact hz2
    refine TX2_inState_53 hN ⟨z, hz3, _, gz, g, rfl, cz, 3, fe, gg, by decide, cg, by decide, ?_⟩
    rw [fe1, if_pos (Int32.le_refl _)]
    obtain ⟨K2, eK2⟩ := hK2
    obtain ⟨K3, eK3⟩ := hK3
    have hLK3 : ∃ K, L3 = L0 ++ K := ⟨K2 ++ K3, by rw [eK3, eK2, List.append_assoc]⟩
    obtain ⟨c31, c32, c33⟩ := id hS3
    -- the layers of stage 2
    have hS4 : cyS O (isB (bT T)) ly gv2 e1 (bT T) (cI s3 103 (s3.1 129)) L3 := by
      refine ⟨c31.fr rfl (fun _ _ _ => rfl), c32, ?_⟩
      rcases c33 with ⟨y1, y2⟩ | ⟨y1, y2, y3⟩
      · exact Or.inl ⟨y1, y2.weak (fun B' h => isB_PT h)⟩
      · refine Or.inr ⟨y1, St.to2 hly (y2.weak (fun B' h => isB_PT h)) (fun B' hP f hf e => ?_), y3⟩
        obtain ⟨t', _, e'⟩ := bT_mem.mp ((hP f).mp hf)
        rw [e'] at e
        exact absurd (show (337 : Nat) = 274 from e) (by decide)
    have f13 : cfr s1 s3 := f2.c.trans f3
    have f0 : ffr s s3 := f1.c.f.trans f13.f
    refine ly_loop (K := K) (d := d) (sz := sz) (P := isB (bT T)) (gv := gv2) (B := bT T) (s0 := cI s3 103 (s3.1 129)) (L0 := L3) (H := fun u s' => hX2_inState_98 N0 K (d + 14) C u s' G sz 0 Q) hN hly (Nat.le_refl e2) (fun x hx hlt l hl k2 _ => trivial) (fun _ h => (isB_PT h).1) hpl hz3 (fun j s' hj hz' hc => ?_) (fun s4 L4 f4 hK4 hS5 => ?_) (e2 - e1) e1 (cI s3 103 (s3.1 129)) L3 (by omega) (cfr.refl _) ⟨[], by simp⟩ hS4
    · refine TX2_inState_98 hN ⟨z, hz', _, gz, g, rfl, cz, 3, fe, gg, by decide, cg, by decide, ?_⟩
      rw [fe2, if_neg (nI_ge (by omega) (by omega))]
      exact hc
    · have hz4 : s4.2.2 101 = some z := by rw [f4.2.2]; exact hz3
      refine TX2_inState_98 hN ⟨z, hz4, _, gz, g, rfl, cz, 3, fe, gg, by decide, cg, by decide, ?_⟩
      rw [fe2, if_pos (Int32.le_refl _)]
      obtain ⟨K4, eK4⟩ := hK4
      obtain ⟨K5, eK5⟩ := hLK3
      have h102' : s4.1 102 = nI L0.length := by
        rw [f4.1 102 (by decide) (by decide) (by decide) (by decide) (by decide)]
        exact h102 s3 (f13.1 102 (by decide) (by decide) (by decide) (by decide) (by decide))
      have hfi : FI0 O ly e0 z s4 L0 L4 := ⟨⟨K5 ++ K4, by rw [eK4, eK5, List.append_assoc]⟩, hS5.1, h102', i4, i5, hS5.2.1, hz4⟩
      have hff : ffr s s4 := (f0.trans (ffr.i s3 _ (by simp))).trans f4.f
      by_cases hb : s4.1 130 = 0
      · rw [if_pos hb]
        have hfin := hS5.fin hly hb
        have hb3 : s3.1 130 = 0 := by
          rcases c33 with ⟨y1, y2⟩ | ⟨y1, _⟩
          · exfalso
            exact (y2.weak (fun B' h => isB_PT h)) (bT T) L4 (fun f => Iff.rfl) hfin.1 hfin.2
          · exact y1
        rcases c33 with ⟨y1, _⟩ | ⟨y1, y2, y3⟩
        · rw [hb3] at y1
          exact absurd y1 (by decide)
        · refine q1 s4 L3 L4 hff ⟨hfi, ⟨K5, eK5⟩, ⟨K4, eK4⟩, ?_, y2, y3⟩ hfin.1 hfin.2
          rw [f4.1 103 (by decide) (by decide) (by decide) (by decide) (by decide)]
          exact c31.1
      · rw [if_neg hb]
        rcases hS5.2.2 with ⟨_, y⟩ | ⟨y, _⟩
        · exact q0 s4 L4 hff hfi y
        · exact absurd y hb
