/-! the reference: apply, whole -/
theorem ap_190 {d D : Nat} {x1 x2 : Int32} {s : mS} {Q : Unit → mS → Prop} (q : ∀ f : Nat → Int32, (∀ v, v < 6 → f v = if s.2.1 26 v = nI D then -1 else s.2.1 26 v) → h_apply_190 d x1 x2 (nI D) 6 (mA s 26 f) Q) : ∀ (m k : Nat) (f : Nat → Int32), k + m = 6 → (∀ v, v < k → f v = if s.2.1 26 v = nI D then -1 else s.2.1 26 v) → (∀ v, k ≤ v → f v = s.2.1 26 v) → h_apply_190 d x1 x2 (nI D) (nI k) (mA s 26 f) Q := by
  intro m
  induction m with
  | zero =>
    intro k f hk h1 h2
    rw [show k = 6 by omega]
    exact q f (fun v hv => h1 v (by omega))
  | succ m ih =>
    intro k f hk h1 h2
    refine T_apply_190 ?_
    rw [if_neg (by rw [n_6]; exact nI_ge (by omega) (by decide))]
    refine ⟨k, rfl, by omega, ?_⟩
    rw [nI_1, mA_eq, mA_mA, mA_mA, h2 k (Nat.le_refl _)]
    have key : ∀ w, w = (if s.2.1 26 k = nI D then (-1 : Int32) else s.2.1 26 k) → h_apply_190 d x1 x2 (nI D) (nI (k + 1)) (mA s 26 (upd f k w)) Q := by
      intro w hw
      refine ih (k + 1) _ (by omega) (fun v hv => ?_) (fun v hv => ?_)
      · by_cases e : v = k
        · rw [e, upd_eq]
          exact hw
        · rw [upd_ne e]
          exact h1 v (by omega)
      · rw [upd_ne (by omega)]
        exact h2 v (by omega)
    by_cases hc : s.2.1 26 k = nI D
    · rw [if_pos hc]
      exact key _ (by rw [if_pos hc])
    · rw [if_neg hc]
      exact key _ (by rw [if_neg hc])
/-- from the step D on, entered anew -/
def EXP (d r : Nat) (R : List Rl) (P : List Fct → Prop) (Qs : Nat → Prop) (B LA : List Fct) (x : Rl) (fl : Int32 → Bool) (sA : mS) (Q : Unit → mS → Prop) (D : Nat) : Prop := ∀ (e : Env) (s0 : mS) (L : List Fct), aInv R P Qs B x LA sA s0 L → s0.1 23 = 0 → rEnv s0 D e → eG fl e → eDom x D e → eSat x D e L → (D < x.2.length → s0.2.1 27 D = -1) → (∀ s' L', aInv R P Qs B x LA sA s' L' → s'.1 23 = 0 → rst s0 s' → (∀ j, j < D → s'.2.1 27 j = s0.2.1 27 j) → (∃ K, L' = L ++ K) → Cmp x LA D e L' → h_apply_74 (d + 5) (nI r) (nI x.2.length) (nI D + (-1 : Int32)) s' Q) → (∀ s' L', aInv R P Qs B x LA sA s' L' → s'.1 23 = 1 → Bad R P → Q () s') → h_apply_74 (d + 5) (nI r) (nI x.2.length) (nI D) s0 Q
/-- the tries of the step D below u are done -/
def DNE (x : Rl) (LA : List Fct) (D : Nat) (e : Env) (l : Lt) (u : Nat) (L : List Fct) : Prop := ∀ σ, adm x σ → eA σ e → ((l.1 = 0 → ∃ i, i < u ∧ LA[i]? = some (sL σ l)) ∧ (l.1 ≠ 0 → 0 < u)) → (∀ (j : Nat) l, D < j → x.2[j]? = some l → l.1 = 0 → sL σ l ∈ LA) → agr LA x σ → sL σ x.1 ∈ L
theorem eSat.up {x : Rl} {D : Nat} {e : Env} {L K : List Fct} (h : eSat x D e L) : eSat x D e (L ++ K) := fun j l hj hl k0 σ hσ => List.mem_append_left _ (h j l hj hl k0 σ hσ)
theorem ap_step {d r D : Nat} {R : List Rl} {P : List Fct → Prop} {Qs : Nat → Prop} {B LA L : List Fct} {x : Rl} {fl : Int32 → Bool} {sA s0 s : mS} {e : Env} {l : Lt} {u : Nat} {L1 : List Fct} {Q : Unit → mS → Prop} (hc : aCtx R r x Qs fl) (hrA : rRule sA.2.1 r x) (hflA : vbs (sA.1 28) (fun c => fl c = true)) (hD : D < x.2.length) (hl : x.2[D]? = some l) (hnext : EXP d r R P Qs B LA x fl sA Q (D + 1)) (he0 : rEnv s0 D e) (hG : eG fl e) (hdom : eDom x D e) (hsat : eSat x D e L) (hu : u ≤ 202) (hI : aInv R P Qs B x LA sA s L1) (hb : s.1 23 = 0) (hcore : rCore s0 s D) (ht : s.2.1 27 D + 1 = nI u) (htj : ∀ j, j < D → s.2.1 27 j = s0.2.1 27 j) (hpre : ∃ K, L1 = L ++ K) (hdn : DNE x LA D e l u L1) (c1 : ∀ s' L', aInv R P Qs B x LA sA s' L' → s'.1 23 = 0 → rst s0 s' → (∀ j, j < D → s'.2.1 27 j = s0.2.1 27 j) → (∃ K, L' = L ++ K) → Cmp x LA D e L' → h_apply_74 (d + 5) (nI r) (nI x.2.length) (nI D + (-1 : Int32)) s' Q) (c2 : ∀ s' L', aInv R P Qs B x LA sA s' L' → s'.1 23 = 1 → Bad R P → Q () s') (H : ¬ ((l.1 = 0 ∧ L1.length ≤ u) ∨ (l.1 ≠ 0 ∧ 0 < u)) → ∀ s' L', aInv R P Qs B x LA sA s' L' → s'.1 23 = 0 → rCore s0 s' D → s'.2.1 27 D + 1 = nI (u + 1) → (∀ j, j < D → s'.2.1 27 j = s0.2.1 27 j) → (∃ K, L' = L ++ K) → DNE x LA D e l (u + 1) L' → h_apply_74 (d + 5) (nI r) (nI x.2.length) (nI D) s' Q) : h_apply_74 (d + 5) (nI r) (nI x.2.length) (nI D) s Q := by
  obtain ⟨hrx, hr, hw, hq, hh, hfl, hsafe⟩ := hc
  have h5 := hw.2.1
  have hmem : x ∈ R := List.mem_of_getElem? hrx
  have hlm : l ∈ x.2 := List.mem_of_getElem? hl
  have hwl := hw.2.2 l hlm
  refine T_apply_74 ?_
  rw [if_neg (nI_pos (by omega)), if_pos hb, if_neg (by rw [nI_eq (by omega) (by omega)]; omega)]
  have go := ap_190 (d := d + 5) (D := D) (x1 := nI r) (x2 := nI x.2.length) (s := s) (Q := Q) (fun f hf => ?_) 6 0 (s.2.1 26) rfl (fun v hv => absurd hv (by omega)) (fun v _ => rfl)
  · rw [mA_self] at go
    exact go
  · have hI1 : aInv R P Qs B x LA sA (mA s 26 f) L1 := ⟨hI.1.trans (fap.u s f), hI.2.1.same rfl rfl rfl, hI.2.2⟩
    have hrst : rst s0 (mA s 26 f) := by
      intro v hv
      show f v = _ ∧ _
      rw [hf v hv]
      obtain ⟨a1, a2⟩ := hcore v hv
      obtain ⟨b1, b2⟩ := he0 v hv
      by_cases hz : s0.2.1 26 v = -1
      · refine ⟨?_, fun y => absurd hz y⟩
        rcases a2 hz with y | y
        · by_cases y2 : s.2.1 26 v = nI D
          · rw [if_pos y2, hz]
          · rw [if_neg y2, y, hz]
        · rw [if_pos y, hz]
      · obtain ⟨c1, c2⟩ := a1 hz
        refine ⟨?_, fun _ => c2⟩
        have : ¬ s.2.1 26 v = nI D := by
          intro y
          cases hev : e (nI (85 + v)) with
          | none => exact hz (b2 hev)
          | some t =>
            obtain ⟨_, _, b, b3, b4⟩ := b1 t hev
            rw [c1, b4, nI_eq (by omega) (by omega)] at y
            omega
        rw [if_neg this]
        exact c1
    have hcore1 : ∀ {s2 : mS}, rst (mA s 26 f) s2 → rCore s0 s2 D := by
      intro s2 h2 v hv
      obtain ⟨a1, a2⟩ := hrst v hv
      obtain ⟨b1, b2⟩ := h2 v hv
      exact ⟨fun hz => ⟨b1.trans a1, (b2 (by rw [a1]; exact hz)).trans (a2 hz)⟩, fun hz => Or.inl ((b1.trans a1).trans hz)⟩
    have hrs := hI1.1.rule hrA
    have hlit := hrs.2.2.2 D l hl
    refine T_apply_190 ?_
    rw [if_pos (by decide)]
    refine ⟨D, rfl, by omega, 6 * r + 1 + D, by rw [n_6, nI_mul, nI_1, nI_add], by omega, ?_⟩
    have ht' : (mA s 26 f).2.1 27 D + 1 = nI u := ht
    rw [ht', upd_eq, hlit.1]
    have htj1 : ∀ j, j < D → (mA (mA s 26 f) 27 (upd ((mA s 26 f).2.1 27) D (nI u))).2.1 27 j = s0.2.1 27 j := by
      intro j hj
      rw [mA_eq, upd_ne (by omega)]
      exact htj j hj
    have hI2 : aInv R P Qs B x LA sA (mA (mA s 26 f) 27 (upd ((mA s 26 f).2.1 27) D (nI u))) L1 := ⟨hI1.1.trans (fap.t _ _), hI1.2.1.same rfl rfl rfl, hI1.2.2⟩
    have exit : (l.1 = 0 ∧ L1.length ≤ u) ∨ (l.1 ≠ 0 ∧ 0 < u) → h_apply_74 (d + 5) (nI r) (nI x.2.length) (nI D + (-1 : Int32)) (mA (mA s 26 f) 27 (upd ((mA s 26 f).2.1 27) D (nI u))) Q := by
      intro hx
      refine c1 _ L1 hI2 hb hrst htj1 hpre (fun σ ha hA hp hg => hdn σ ha hA ⟨fun k0 => ?_, fun k0 => ?_⟩ (fun j l' hj hl' k0 => hp j l' (by omega) hl' k0) hg)
      · obtain ⟨i, hi, ei⟩ := List.getElem_of_mem (hp D l (Nat.le_refl _) hl k0)
        refine ⟨i, ?_, by rw [List.getElem?_eq_getElem hi, ei]⟩
        obtain ⟨K, hK, _⟩ := hI.2.2.2
        rcases hx with hx | hx
        · rw [hK, List.length_append] at hx
          omega
        · exact absurd k0 hx.1
      · rcases hx with hx | hx
        · exact absurd hx.1 k0
        · exact hx.2
    by_cases hk : l.1 = 0
    · rw [if_pos hk]
      have h200 := hI.2.1.2.1
      rw [show (mA s 26 f).1 20 = nI L1.length from hI.2.1.1]
      by_cases hex : L1.length ≤ u
      · rw [if_pos (nI_le hex (by omega))]
        exact exit (Or.inl ⟨hk, hex⟩)
      · rw [if_neg (nI_ge (by omega) (by omega)), show ((6 : Int32) * nI r + 1) + nI D = nI (6 * r + 1 + D) by rw [n_6, nI_mul, nI_1, nI_add]]
        have hk2 : l.1 ≠ 2 := by rw [hk]; decide
        have hul : u < L1.length := by omega
        have hfu : L1[u]? = some L1[u] := List.getElem?_eq_getElem hul
        have henv1 : rEnv (mA (mA s 26 f) 27 (upd ((mA s 26 f).2.1 27) D (nI u))) D e := rst.env (z := s0) (by omega) he0 hrst
        have henv2 : rEnv (mA (mA s 26 f) 27 (upd ((mA s 26 f).2.1 27) D (nI u))) (D + 1) e := fun v hv => ⟨fun t ht => by obtain ⟨a, b, k, c, d⟩ := (henv1 v hv).1 t ht; exact ⟨a, b, k, by omega, d⟩, (henv1 v hv).2⟩
        have hcore2 : rCore s0 (mA (mA s 26 f) 27 (upd ((mA s 26 f).2.1 27) D (nI u))) D := hcore1 (fun v hv => ⟨rfl, fun _ => rfl⟩)
        have hnex : ¬ ((l.1 = 0 ∧ L1.length ≤ u) ∨ (l.1 ≠ 0 ∧ 0 < u)) := fun z => z.elim (fun z => hex z.2) (fun z => z.1 hk)
        have hLA : ∀ σ, LA[u]? = some (sL σ l) → sL σ l = L1[u] := by
          intro σ hz
          obtain ⟨K, hK, _⟩ := hI.2.2.2
          have hlt := (List.getElem?_eq_some_iff.mp hz).1
          have : L1[u]? = LA[u]? := by rw [hK, List.getElem?_append_left hlt]
          rw [hfu, hz] at this
          exact (Option.some.inj this).symm
        refine rq_meetsFact (z := s0) (by omega) (by omega) hwl hk2 hlit hI2.2.1 hfu henv2 hcore2 (by rw [hI2.1.1 28 (by decide) (by decide)]; exact hflA) (fun e' s2 m1 m2 m3 m4 => ?_) (fun s2 m1 m2 m3 => ?_)
        · rw [if_neg (by decide), nI_1]
          refine ⟨D + 1, rfl, by omega, ?_⟩
          obtain ⟨x1, x2⟩ := mF1_sound hwl (hI.2.1.2.2 u _ hfu).1.2.2 m1
          have hI3 : aInv R P Qs B x LA sA (mA s2 27 (upd (s2.2.1 27) (D + 1) (-1))) L1 := ⟨(hI2.1.trans m2.ap).trans (fap.t _ _), (m2.facts hI2.2.1).same rfl rfl rfl, hI2.2.2⟩
          have hb3 : s2.1 23 = 0 := by rw [m2.1]; exact hb
          have t27 : s2.2.1 27 = upd ((mA s 26 f).2.1 27) D (nI u) := (m2.2.1 27 (by decide)).trans mA_eq
          obtain ⟨K1, hK1⟩ := hpre
          refine hnext e' _ L1 hI3 hb3 (fun v hv => m3 v hv) (x1.eG hG) ?_ ?_ (fun _ => by rw [mA_eq, upd_eq]) ?_ c2
          · intro c hv hcx
            obtain ⟨j, l', hj, hl', k0, hin⟩ := hcx
            by_cases ej : j = D
            · subst ej
              rw [hl] at hl'
              cases hl'
              cases hec : e c with
              | some t => exact ⟨t, (x1 c hv).1 t hec⟩
              | none =>
                obtain ⟨t, t1, _⟩ := ((x1 c hv).2 hec).1 hin
                exact ⟨t, t1⟩
            · obtain ⟨t, t1⟩ := hdom c hv ⟨j, l', by omega, hl', k0, hin⟩
              exact ⟨t, (x1 c hv).1 t t1⟩
          · intro j l' hj hl' k0 σ hσ
            by_cases ej : j = D
            · subst ej
              rw [hl] at hl'
              cases hl'
              rw [x2 σ hσ]
              exact List.getElem_mem hul
            · rw [hK1]
              exact List.mem_append_left _ (hsat j l' (by omega) hl' k0 σ (hσ.of x1))
          · intro s' L' n1 n2 n3 n4 n5 n6
            rw [nI_sub1]
            obtain ⟨K2, hK2⟩ := n5
            refine H hnex s' L' n1 n2 (rst.core (s := s2) m4 (fun v hv => n3 v hv)) ?_ (fun j hj => ?_) ⟨K1 ++ K2, by rw [hK2, hK1, List.append_assoc]⟩ ?_
            · rw [n4 D (by omega), mA_eq, upd_ne (by omega), t27, upd_eq, nI_1]
            · rw [n4 j (by omega), mA_eq, upd_ne (by omega), t27, upd_ne (by omega)]
              exact htj j hj
            · intro σ ha hA hd hp hg
              obtain ⟨i, hi, ei⟩ := hd.1 hk
              by_cases e1 : i = u
              · subst e1
                obtain ⟨e'', y1, y2⟩ := mF1_complete (fl := fl) (r := x) hA hwl ha (fun c hc => Or.inr ⟨l, hlm, hc⟩) (fun c hc => Or.inr ⟨l, hlm, hc⟩) (fun c hv hf => (hfl c hv).mp hf) (hLA σ ei)
                rw [m1] at y1
                cases y1
                exact n6 σ ha y2 (fun j l' hj hl' k0 => hp j l' (by omega) hl' k0) hg
              · rw [hK2]
                exact List.mem_append_left _ (hdn σ ha hA ⟨fun _ => ⟨i, by omega, ei⟩, fun z => absurd hk z⟩ hp hg)
        · rw [if_pos rfl]
          have t27 : s2.2.1 27 = upd ((mA s 26 f).2.1 27) D (nI u) := (m2.2.1 27 (by decide)).trans mA_eq
          refine H hnex s2 L1 ⟨hI2.1.trans m2.ap, m2.facts hI2.2.1, hI2.2.2⟩ (by rw [m2.1]; exact hb) m3 (by rw [t27, upd_eq, nI_1]) (fun j hj => by rw [t27, upd_ne (by omega)]; exact htj j hj) hpre ?_
          intro σ ha hA hd hp hg
          obtain ⟨i, hi, ei⟩ := hd.1 hk
          by_cases e1 : i = u
          · subst e1
            obtain ⟨e'', y1, _⟩ := mF1_complete (fl := fl) (r := x) hA hwl ha (fun c hc => Or.inr ⟨l, hlm, hc⟩) (fun c hc => Or.inr ⟨l, hlm, hc⟩) (fun c hv hf => (hfl c hv).mp hf) (hLA σ ei)
            rw [m1] at y1
            cases y1
          · exact hdn σ ha hA ⟨fun _ => ⟨i, by omega, ei⟩, fun z => absurd hk z⟩ hp hg
    · rw [if_neg hk]
      by_cases h0 : u = 0
      · rw [if_pos (by rw [h0]; rfl)]
        refine ⟨D + 1, by rw [nI_1], by omega, ?_⟩
        rw [mA_mA, nI_1]
        have hnex : ¬ ((l.1 = 0 ∧ L1.length ≤ u) ∨ (l.1 ≠ 0 ∧ 0 < u)) := fun z => z.elim (fun z => hk z.1) (fun z => by omega)
        obtain ⟨K1, hK1⟩ := hpre
        have hI3 : aInv R P Qs B x LA sA (mA (mA s 26 f) 27 (upd (upd ((mA s 26 f).2.1 27) D (nI u)) (D + 1) (-1))) L1 := ⟨hI1.1.trans (fap.t _ _), hI1.2.1.same rfl rfl rfl, hI1.2.2⟩
        have henv3 : rEnv (mA (mA s 26 f) 27 (upd (upd ((mA s 26 f).2.1 27) D (nI u)) (D + 1) (-1))) (D + 1) e := by
          have h1 : rEnv (mA (mA s 26 f) 27 (upd (upd ((mA s 26 f).2.1 27) D (nI u)) (D + 1) (-1))) D e := rst.env (z := s0) (by omega) he0 hrst
          exact fun v hv => ⟨fun t ht => by obtain ⟨a, b, k, c, d⟩ := (h1 v hv).1 t ht; exact ⟨a, b, k, by omega, d⟩, (h1 v hv).2⟩
        refine hnext e _ L1 hI3 hb henv3 hG ?_ ?_ (fun _ => by rw [mA_eq, upd_eq]) ?_ c2
        · intro c hv hcx
          obtain ⟨j, l', hj, hl', k0, hin⟩ := hcx
          by_cases ej : j = D
          · subst ej
            rw [hl] at hl'
            cases hl'
            exact absurd k0 hk
          · exact hdom c hv ⟨j, l', by omega, hl', k0, hin⟩
        · intro j l' hj hl' k0 σ hσ
          by_cases ej : j = D
          · subst ej
            rw [hl] at hl'
            cases hl'
            exact absurd k0 hk
          · rw [hK1]
            exact List.mem_append_left _ (hsat j l' (by omega) hl' k0 σ hσ)
        · intro s' L' n1 n2 n3 n4 n5 n6
          rw [nI_sub1]
          obtain ⟨K2, hK2⟩ := n5
          refine H hnex s' L' n1 n2 (hcore1 (fun v hv => n3 v hv)) ?_ (fun j hj => ?_) ⟨K1 ++ K2, by rw [hK2, hK1, List.append_assoc]⟩ ?_
          · rw [n4 D (by omega), mA_eq, upd_ne (by omega), upd_eq, nI_1]
          · rw [n4 j (by omega), mA_eq, upd_ne (by omega), upd_ne (by omega)]
            exact htj j hj
          · intro σ ha hA hd hp hg
            exact n6 σ ha hA (fun j l' hj hl' k0 => hp j l' (by omega) hl' k0) hg
      · rw [if_neg (fun z => h0 (by rw [← nI_0, nI_eq (by omega) (by decide)] at z; exact z))]
        exact exit (Or.inr ⟨hk, by omega⟩)
theorem ap_exp {d r : Nat} {R : List Rl} {P : List Fct → Prop} {Qs : Nat → Prop} {B LA : List Fct} {x : Rl} {fl : Int32 → Bool} {sA : mS} {Q : Unit → mS → Prop} (hc : aCtx R r x Qs fl) (hrA : rRule sA.2.1 r x) (hflA : vbs (sA.1 28) (fun c => fl c = true)) : ∀ (k D : Nat), D + k = x.2.length → EXP d r R P Qs B LA x fl sA Q D := by
  intro k
  induction k with
  | zero =>
    intro D hD e s0 L hI hb he hG hdom hsat _ c1 c2
    have e0 : D = x.2.length := by omega
    subst e0
    exact ap_leaf hc hrA hI hb he hG hdom hsat (fun s' L' a1 a2 a3 a4 a5 a6 => c1 s' L' a1 a2 a3 (fun j _ => by rw [a4]) a5 a6) c2
  | succ k ih =>
    intro D hD e s0 L hI hb he hG hdom hsat ht c1 c2
    have hD' : D < x.2.length := by omega
    have hl : x.2[D]? = some x.2[D] := List.getElem?_eq_getElem hD'
    have inner : ∀ (m u : Nat) (s : mS) (L1 : List Fct), u + m = 202 → aInv R P Qs B x LA sA s L1 → s.1 23 = 0 → rCore s0 s D → s.2.1 27 D + 1 = nI u → (∀ j, j < D → s.2.1 27 j = s0.2.1 27 j) → (∃ K, L1 = L ++ K) → DNE x LA D e x.2[D] u L1 → h_apply_74 (d + 5) (nI r) (nI x.2.length) (nI D) s Q := by
      intro m
      induction m with
      | zero =>
        intro u s L1 hu a1 a2 a3 a4 a5 a6 a7
        refine ap_step (s0 := s0) (e := e) hc hrA hflA hD' hl (ih (D + 1) (by omega)) he hG hdom hsat (by omega) a1 a2 a3 a4 a5 a6 a7 c1 c2 (fun hn => ?_)
        exfalso
        have := a1.2.1.2.1
        by_cases hk : x.2[D].1 = 0
        · exact hn (Or.inl ⟨hk, by omega⟩)
        · exact hn (Or.inr ⟨hk, by omega⟩)
      | succ m ihm =>
        intro u s L1 hu a1 a2 a3 a4 a5 a6 a7
        exact ap_step (s0 := s0) (e := e) hc hrA hflA hD' hl (ih (D + 1) (by omega)) he hG hdom hsat (by omega) a1 a2 a3 a4 a5 a6 a7 c1 c2 (fun _ s' L' b1 b2 b3 b4 b5 b6 b7 => ihm (u + 1) s' L' (by omega) b1 b2 b3 b4 b5 b6 b7)
    refine inner 202 0 s0 L rfl hI hb (fun v hv => ⟨fun _ => ⟨rfl, rfl⟩, fun hz => Or.inl hz⟩) (by rw [ht hD']; decide) (fun _ _ => rfl) ⟨[], by simp⟩ (fun σ _ _ hd _ _ => ?_)
    exfalso
    by_cases hk : x.2[D].1 = 0
    · obtain ⟨i, hi, _⟩ := hd.1 hk
      omega
    · have := hd.2 hk
      omega
