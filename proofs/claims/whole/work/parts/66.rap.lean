/-! the reference: apply -/
/-- all as it was but facts, bindings, tries, and whether it is beyond -/
def fap (s s' : mS) : Prop := (∀ i, i ≠ 20 → i ≠ 23 → s'.1 i = s.1 i) ∧ (∀ i, i ≠ 21 → i ≠ 26 → i ≠ 27 → s'.2.1 i = s.2.1 i) ∧ (∀ i, i ≠ 22 → i ≠ 25 → s'.2.2 i = s.2.2 i)
theorem fap.refl (s : mS) : fap s s := ⟨fun _ _ _ => rfl, fun _ _ _ _ => rfl, fun _ _ _ => rfl⟩
theorem fap.trans {s s' s'' : mS} (h : fap s s') (g : fap s' s'') : fap s s'' := ⟨fun i a b => (g.1 i a b).trans (h.1 i a b), fun i a b c => (g.2.1 i a b c).trans (h.2.1 i a b c), fun i a b => (g.2.2 i a b).trans (h.2.2 i a b)⟩
theorem ff.ap {s s' : mS} (h : ff s s') : fap s s' := ⟨fun i a _ => h.1 i a, fun i a _ _ => h.2.1 i a, fun i a _ => h.2.2 i a⟩
theorem mfr.ap {s s' : mS} (h : mfr s s') : fap s s' := ⟨fun i _ _ => by rw [h.1], fun i _ a _ => h.2.1 i a, fun i _ a => h.2.2 i a⟩
theorem fap.b (s : mS) (v : Int32) : fap s (mI s 23 v) := ⟨fun i _ a => if_neg a, fun _ _ _ _ => rfl, fun _ _ _ => rfl⟩
theorem fap.t (s : mS) (f : Nat → Int32) : fap s (mA s 27 f) := ⟨fun _ _ _ => rfl, fun i _ _ a => if_neg a, fun _ _ _ => rfl⟩
theorem fap.u (s : mS) (f : Nat → Int32) : fap s (mA s 26 f) := ⟨fun _ _ _ => rfl, fun i _ a _ => if_neg a, fun _ _ _ => rfl⟩
theorem fap.rule {s s' : mS} {r : Nat} {x : Rl} (h : fap s s') (g : rRule s.2.1 r x) : rRule s'.2.1 r x := g.A (h.2.1 12 (by decide) (by decide) (by decide)) (h.2.1 13 (by decide) (by decide) (by decide)) (h.2.1 14 (by decide) (by decide) (by decide)) (h.2.1 15 (by decide) (by decide) (by decide)) (h.2.1 16 (by decide) (by decide) (by decide)) (h.2.1 17 (by decide) (by decide) (by decide))
theorem rFacts.same {s s' : mS} {L : List Fct} (h : rFacts s L) (h1 : s'.1 20 = s.1 20) (h2 : s'.2.1 21 = s.2.1 21) (h3 : s'.2.2 22 = s.2.2 22) : rFacts s' L := by
  unfold rFacts at h ⊢
  rw [h1, h2, h3]
  exact h
/-- the same values -/
theorem sC_congr {σ τ : Int32 → Tm} {c : Int32} (h : chV c → σ c = τ c) : sC σ c = sC τ c := by
  unfold sC
  by_cases hv : chV c
  · rw [if_pos hv, if_pos hv, h hv]
  · rw [if_neg hv, if_neg hv]
theorem sT_congr {σ τ : Int32 → Tm} {t : Tm} (hw : wfT t) (h : ∀ c ∈ t.2, chV c → σ c = τ c) : sT σ t = sT τ t := by
  unfold sT
  by_cases h0 : t.1 = 0
  · rw [if_pos h0, if_pos h0]
    rcases hw with ⟨_, c, _, ec⟩ | ⟨z, _⟩
    · rw [ec]
      exact sC_congr (h c (by rw [ec]; simp))
    · rw [h0] at z
      exact absurd z (by decide)
  · rw [if_neg h0, if_neg h0]
    congr 1
    apply List.map_congr_left
    intro c hc
    rw [sC_congr (h c hc)]
theorem sL_congr {σ τ : Int32 → Tm} {l : Lt} (hw : wfL l) (h : ∀ c, inL l c → chV c → σ c = τ c) : sL σ l = sL τ l := by
  unfold sL
  congr 1
  apply List.map_congr_left
  intro t ht
  exact sT_congr ((wfL_len hw).2 t ht) (fun c hc => h c ⟨t, ht, hc⟩)
theorem unl_congr {σ τ : Int32 → Tm} {l : Lt} (hw : wfL l) (h2 : l.1 = 2) (h : ∀ c, inL l c → chV c → σ c = τ c) : unl σ l ↔ unl τ l := by
  rcases hw with ⟨y, _⟩ | ⟨_, a, b, e, wa, wb⟩
  · rw [h2] at y
    exact absurd y (by decide)
  · unfold unl
    rw [e]
    show sT σ a ≠ sT σ b ↔ sT τ a ≠ sT τ b
    rw [sT_congr wa (fun c hc => h c ⟨a, by rw [e]; simp, hc⟩), sT_congr wb (fun c hc => h c ⟨b, by rw [e]; simp, hc⟩)]
/-- what is known of a rule when it is run -/
def aCtx (R : List Rl) (r : Nat) (x : Rl) (Qs : Nat → Prop) (fl : Int32 → Bool) : Prop := R[r]? = some x ∧ r < 24 ∧ wfR x ∧ (∀ l ∈ x.2, l.1 = 1 → Qs (lk l)) ∧ ¬ Qs (lk x.1) ∧ (∀ c, chV c → (fl c = true ↔ rF x c)) ∧ ∀ c, chV c → rV x c → ∃ l ∈ x.2, l.1 = 0 ∧ inL l c
def aInv (R : List Rl) (P : List Fct → Prop) (Qs : Nat → Prop) (B : List Fct) (x : Rl) (LA : List Fct) (sA s : mS) (L : List Fct) : Prop := fap sA s ∧ rFacts s L ∧ St R P Qs B L ∧ ∃ K, L = LA ++ K ∧ ∀ f ∈ K, f.1 = lk x.1
/-- the same bindings -/
def rst (z s : mS) : Prop := ∀ v, v < 6 → s.2.1 26 v = z.2.1 26 v ∧ (z.2.1 26 v ≠ -1 → s.2.2 25 v = z.2.2 25 v)
theorem rst.core {z s s' : mS} {D : Nat} (h : rCore z s D) (g : rst s s') : rCore z s' D := by
  intro v hv
  obtain ⟨h1, h2⟩ := h v hv
  obtain ⟨g1, g2⟩ := g v hv
  refine ⟨fun hz => ?_, fun hz => by rw [g1]; exact h2 hz⟩
  obtain ⟨a, b⟩ := h1 hz
  exact ⟨g1.trans a, (g2 (by rw [a]; exact hz)).trans b⟩
theorem rst.env {z s : mS} {D : Nat} {e : Env} (hD : D ≤ 6) (h : rEnv z D e) (g : rst z s) : rEnv s D e := by
  intro v hv
  obtain ⟨h1, h2⟩ := h v hv
  obtain ⟨g1, g2⟩ := g v hv
  refine ⟨fun t ht => ?_, fun hn => by rw [g1]; exact h2 hn⟩
  obtain ⟨a, b, k, c1, c2⟩ := h1 t ht
  refine ⟨a, (g2 ?_).trans b, k, c1, g1.trans c2⟩
  rw [c2]
  intro y
  exact absurd (by rw [y]; decide : nI k < 0) (nI_pos (by omega))
theorem agr_stable {Qs : Nat → Prop} {x : Rl} {LA K : List Fct} {σ : Int32 → Tm} (hq : ∀ l ∈ x.2, l.1 = 1 → Qs (lk l)) (hh : ¬ Qs (lk x.1)) (hK : ∀ f ∈ K, f.1 = lk x.1) : agr (LA ++ K) x σ ↔ agr LA x σ := by
  constructor
  · intro h l hl
    exact ⟨fun k1 z => (h l hl).1 k1 (List.mem_append_left _ z), (h l hl).2⟩
  · intro h l hl
    refine ⟨fun k1 z => ?_, (h l hl).2⟩
    rcases List.mem_append.mp z with z | z
    · exact (h l hl).1 k1 z
    · have := hK _ z
      have e : (sL σ l).1 = lk l := rfl
      rw [e] at this
      rw [← this] at hh
      exact hh (hq l hl k1)
/-- what the tries from the step D on have given: all that they could, of the facts LA -/
def Cmp (x : Rl) (LA : List Fct) (D : Nat) (e : Env) (L : List Fct) : Prop := ∀ σ, adm x σ → eA σ e → (∀ (j : Nat) l, D ≤ j → x.2[j]? = some l → l.1 = 0 → sL σ l ∈ LA) → agr LA x σ → sL σ x.1 ∈ L
/-- the variables of the literals that must hold, ahead of D, have values -/
def eDom (x : Rl) (D : Nat) (e : Env) : Prop := ∀ c, chV c → (∃ (j : Nat) (l : Lt), j < D ∧ x.2[j]? = some l ∧ l.1 = 0 ∧ inL l c) → ∃ t, e c = some t
def sge (e : Env) : Int32 → Tm := fun c => match e c with
  | some t => t
  | none => (0, [c])
theorem ap_stop {d : Nat} {x1 x2 x3 : Int32} {s : mS} {Q : Unit → mS → Prop} (h : s.1 23 = 1) (q : Q () s) : h_apply_74 d x1 x2 x3 s Q := by
  refine T_apply_74 ?_
  by_cases z : x3 < 0
  · rw [if_pos z]
    exact q
  · rw [if_neg z, if_neg (by rw [h]; decide)]
    exact q
/-- the literals that must hold, ahead of D, do so with the values of e -/
def eSat (x : Rl) (D : Nat) (e : Env) (L : List Fct) : Prop := ∀ (j : Nat) l, j < D → x.2[j]? = some l → l.1 = 0 → ∀ σ, eA σ e → sL σ l ∈ L
theorem ap_leaf {d r : Nat} {R : List Rl} {P : List Fct → Prop} {Qs : Nat → Prop} {B LA L : List Fct} {x : Rl} {fl : Int32 → Bool} {sA s : mS} {e : Env} {Q : Unit → mS → Prop} (hc : aCtx R r x Qs fl) (hrA : rRule sA.2.1 r x) (hI : aInv R P Qs B x LA sA s L) (hb : s.1 23 = 0) (he : rEnv s x.2.length e) (hG : eG fl e) (hd : eDom x x.2.length e) (hsat : eSat x x.2.length e L) (c1 : ∀ s' L', aInv R P Qs B x LA sA s' L' → s'.1 23 = 0 → rst s s' → s'.2.1 27 = s.2.1 27 → (∃ K, L' = L ++ K) → Cmp x LA x.2.length e L' → h_apply_74 (d + 5) (nI r) (nI x.2.length) (nI x.2.length + (-1 : Int32)) s' Q) (c2 : ∀ s' L', aInv R P Qs B x LA sA s' L' → s'.1 23 = 1 → Bad R P → Q () s') : h_apply_74 (d + 5) (nI r) (nI x.2.length) (nI x.2.length) s Q := by
  obtain ⟨hrx, hr, hw, hq, hh, hfl, hsafe⟩ := hc
  obtain ⟨i1, i2, i3, K, i4, i5⟩ := id hI
  have hrs := i1.rule hrA
  have hmem : x ∈ R := List.mem_of_getElem? hrx
  have h5 := hw.2.1
  obtain ⟨w1, w2, w3⟩ := wfR_head hw
  have hall : eAll e (sge e) x := by
    intro c hv hrv
    obtain ⟨l, hl, k0, hin⟩ := hsafe c hv hrv
    obtain ⟨j, hj, el⟩ := List.getElem_of_mem hl
    obtain ⟨t, ht⟩ := hd c hv ⟨j, l, hj, by rw [List.getElem?_eq_getElem hj, el], k0, hin⟩
    unfold sge
    rw [ht]
  have hadm : adm x (sge e) := by
    intro c hv hrv
    have := hG c _ hv (hall c hv hrv)
    exact ⟨this.1, fun hf => this.2 ((hfl c hv).mpr hf)⟩
  have hsame : ∀ σ, eA σ e → ∀ c, chV c → rV x c → σ c = sge e c := fun σ hσ c hv hrv => hσ c _ hv (hall c hv hrv)
  have hhead : ∀ σ, eA σ e → sL σ x.1 = sL (sge e) x.1 := fun σ hσ => sL_congr w1 (fun c hin hv => hsame σ hσ c hv (Or.inl hin))
  have hagr : ∀ σ, eA σ e → agr LA x σ → agr LA x (sge e) := by
    intro σ hσ h l hl
    have hwl := hw.2.2 l hl
    have hcc : ∀ c, inL l c → chV c → σ c = sge e c := fun c hin hv => hsame σ hσ c hv (Or.inr ⟨l, hl, hin⟩)
    exact ⟨fun k1 => by rw [← sL_congr hwl hcc]; exact (h l hl).1 k1, fun k2 => (unl_congr hwl k2 hcc).mp ((h l hl).2 k2)⟩
  have hF := wfF_sL (l := x.1) w1 w3 he hall hadm (Or.inl rfl)
  have hst : agr L x (sge e) ↔ agr LA x (sge e) := by
    rw [i4]
    exact agr_stable hq hh i5
  refine T_apply_74 ?_
  rw [if_neg (nI_pos (by omega)), if_pos hb, if_pos rfl]
  refine rq_agrees hr i2 hrs hw he hall hadm (fun ha => ?_) (fun ha => ?_)
  · rw [if_neg (by decide)]
    refine ⟨6 * r, by rw [n_6, nI_mul], by omega, ?_⟩
    rw [show (6 : Int32) * nI r = nI (6 * r) by rw [n_6, nI_mul]]
    have hlit := hall.lit hadm (l := x.1) (Or.inl rfl)
    refine rq_part (k := 0) (by omega) (by decide) hrs.2.2.1 w1 w3 he hlit (rq_part (k := 1) (by omega) (by decide) hrs.2.2.1 w1 w3 he hlit (rq_part (k := 2) (by omega) (by decide) hrs.2.2.1 w1 w3 he hlit ?_))
    rw [(hrs.2.2.1.rel w1 w3).1]
    have heA : eA (sge e) e := by
      intro c t _ ht
      unfold sge
      rw [ht]
    have hbody : bSat L x (sge e) := by
      intro l hl
      refine ⟨fun k0 => ?_, (ha l hl).1, (ha l hl).2⟩
      obtain ⟨j, hj, el⟩ := List.getElem_of_mem hl
      exact hsat j l hj (by rw [List.getElem?_eq_getElem hj, el]) k0 _ heA
    have good : ∀ s' L', aInv R P Qs B x LA sA s' L' → s'.1 23 = 0 → rst s s' → s'.2.1 27 = s.2.1 27 → (∃ K, L' = L ++ K) → sL (sge e) x.1 ∈ L' → h_apply_74 (d + 5) (nI r) (nI x.2.length) (nI x.2.length + (-1 : Int32)) s' Q := by
      intro s' L' a1 a2 a3 a4 a5 a6
      refine c1 s' L' a1 a2 a3 a4 a5 (fun σ _ hσ _ _ => ?_)
      rw [hhead σ hσ]
      exact a6
    have done1 : ∀ s' L', aInv R P Qs B x LA sA s' L' → s'.1 23 = 1 → Bad R P → h_apply_74 (d + 5) (nI r) (nI x.2.length) (nI x.2.length + (-1 : Int32)) s' Q := by
      intro s' L' a1 a2 a3
      exact ap_stop a2 (c2 s' L' a1 a2 a3)
    have hi0 : aInv R P Qs B x LA sA (mI s 23 0) L := ⟨i1.trans (fap.b s 0), i2.same rfl rfl rfl, i3, K, i4, i5⟩
    have hi1 : aInv R P Qs B x LA sA (mI s 23 1) L := ⟨i1.trans (fap.b s 1), i2.same rfl rfl rfl, i3, K, i4, i5⟩
    refine rq_add (F := sL (sge e) x.1) i2 hF (Or.inl hb) (fun z => ?_) (fun _ hin => ?_) (fun _ hni h200 => ?_) (fun s' _ hni hlt hff hfx => ?_)
    · rw [hb] at z
      exact absurd z (by decide)
    · rw [if_pos hb, if_pos (Int32.le_refl _)]
      exact good _ L hi0 rfl (fun v hv => ⟨rfl, fun _ => rfl⟩) rfl ⟨[], by simp⟩ hin
    · rw [if_neg (show ¬ (mI s 23 1).1 23 = 0 from (by decide : ¬ (1 : Int32) = 0))]
      have hbad : Bad R P := i3.bad_len hni h200 (i3.follows hmem hadm hbody hq)
      refine done1 (mI (mI s 23 1) 23 1) L ⟨hi1.1.trans (fap.b _ 1), hi1.2.1.same rfl rfl rfl, i3, K, i4, i5⟩ rfl hbad
    · have hb' : s'.1 23 = 0 := (hff.1 23 (by decide)).trans hb
      have hst' := i3.push hmem hadm hbody hq hh hni
      have hK' : ∃ K', L ++ [sL (sge e) x.1] = LA ++ K' ∧ ∀ f ∈ K', f.1 = lk x.1 := by
        refine ⟨K ++ [sL (sge e) x.1], by rw [i4, List.append_assoc], fun f hf => ?_⟩
        rcases List.mem_append.mp hf with y | y
        · exact i5 f y
        · simp only [List.mem_singleton] at y
          rw [y]
          rfl
      have hr' : rst s s' := fun v hv => ⟨by rw [hff.2.1 26 (by decide)], fun _ => by rw [hff.2.2 25 (by decide)]⟩
      have hg : sL (sge e) x.1 ∈ L ++ [sL (sge e) x.1] := List.mem_append_right _ (by simp)
      have hl200 : (L ++ [sL (sge e) x.1]).length ≤ 200 := hfx.2.1
      rw [if_pos hb', if_neg (by
        rw [hfx.1, i2.1, List.length_append]
        exact nI_ge (by simp) (by simp only [List.length_append] at hl200; omega))]
      refine rq_ways hr hfx ((i1.trans hff.ap).rule hrA) hw ?_
      rcases Nat.lt_or_ge 100000 (wy (L ++ [sL (sge e) x.1]) x) with hwy | hwy
      · rw [if_neg (fun z => absurd ((wy_cmp hl200 h5).mp z) (by omega))]
        exact done1 _ (L ++ [sL (sge e) x.1]) ⟨(i1.trans hff.ap).trans (fap.b _ 1), hfx.same rfl rfl rfl, hst', hK'⟩ rfl (hst'.bad_wy hmem hwy)
      · rw [if_pos ((wy_cmp hl200 h5).mpr hwy)]
        exact good _ (L ++ [sL (sge e) x.1]) ⟨(i1.trans hff.ap).trans (fap.b _ 0), hfx.same rfl rfl rfl, hst', hK'⟩ rfl (fun v hv => hr' v hv) (hff.2.1 27 (by decide)) ⟨_, rfl⟩ hg
  · rw [if_pos rfl]
    have hi0 : aInv R P Qs B x LA sA (mI s 23 0) L := ⟨i1.trans (fap.b s 0), i2.same rfl rfl rfl, i3, K, i4, i5⟩
    refine c1 _ L hi0 rfl (fun v hv => ⟨rfl, fun _ => rfl⟩) rfl ⟨[], by simp⟩ (fun σ _ hσ _ hg => ?_)
    exact absurd (hst.mpr (hagr σ hσ hg)) ha
