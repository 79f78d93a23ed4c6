/-! matching a rule's terms with ground ones -/
abbrev Env : Type := Int32 → Option Tm
def eUp (e : Env) (c : Int32) (t : Tm) : Env := fun v => if v = c then some t else e v
/-- a character of a rule and a ground term; fl: the variables that constants alone may stand for -/
def mC1 (fl : Int32 → Bool) (e : Env) (c : Int32) (t : Tm) : Option Env := if chV c then (if fl c = true ∧ ¬ t.1 = 0 then none else match e c with
    | some u => if u = t then some e else none
    | none => some (eUp e c t)) else (if t = (0, [c]) then some e else none)
def mCs (fl : Int32 → Bool) (e : Env) : List Int32 → List Int32 → Option Env
  | [], [] => some e
  | c :: cs, x :: xs => match mC1 fl e c (0, [x]) with
    | some e' => mCs fl e' cs xs
    | none => none
  | _, _ => none
def mT1 (fl : Int32 → Bool) (e : Env) (p t : Tm) : Option Env := if p.1 = 0 then mC1 fl e (ps_hc p.2) t else (if t.1 = p.1 then mCs fl e p.2 t.2 else none)
def mTs (fl : Int32 → Bool) (e : Env) : List Tm → List Tm → Option Env
  | [], [] => some e
  | p :: ps, t :: ts => match mT1 fl e p t with
    | some e' => mTs fl e' ps ts
    | none => none
  | _, _ => none
def mF1 (fl : Int32 → Bool) (e : Env) (l : Lt) (f : Fct) : Option Env := if lk l = f.1 then mTs fl e l.2.2 f.2 else none
/-- σ gives what e says -/
def eA (σ : Int32 → Tm) (e : Env) : Prop := ∀ c t, chV c → e c = some t → σ c = t
/-- e' says more than e, of the variables of V, with ground terms, constants where fl says -/
def eX (fl : Int32 → Bool) (V : Int32 → Prop) (e e' : Env) : Prop := ∀ c, chV c → (∀ t, e c = some t → e' c = some t) ∧ (e c = none → (V c → ∃ t, e' c = some t ∧ gT t ∧ (fl c = true → t.1 = 0)) ∧ (¬ V c → e' c = none))
/-- e is ground, and constant where fl says -/
def eG (fl : Int32 → Bool) (e : Env) : Prop := ∀ c t, chV c → e c = some t → gT t ∧ (fl c = true → t.1 = 0)
theorem eX.trans {fl : Int32 → Bool} {V W : Int32 → Prop} {e e' e'' : Env} (h : eX fl V e e') (g : eX fl W e' e'') : eX fl (fun c => V c ∨ W c) e e'' := by
  intro c hc
  obtain ⟨h1, h2⟩ := h c hc
  obtain ⟨g1, g2⟩ := g c hc
  refine ⟨fun t ht => g1 t (h1 t ht), fun hn => ⟨fun hv => ?_, fun hv => ?_⟩⟩
  · by_cases hV : V c
    · obtain ⟨t, t1, t2⟩ := (h2 hn).1 hV
      exact ⟨t, g1 t t1, t2⟩
    · exact (g2 ((h2 hn).2 hV)).1 (hv.resolve_left hV)
  · exact (g2 ((h2 hn).2 (fun z => hv (Or.inl z)))).2 (fun z => hv (Or.inr z))
theorem eX.iff {fl : Int32 → Bool} {V W : Int32 → Prop} {e e' : Env} (h : eX fl V e e') (g : ∀ c, chV c → (V c ↔ W c)) : eX fl W e e' := by
  intro c hc
  obtain ⟨h1, h2⟩ := h c hc
  exact ⟨h1, fun hn => ⟨fun hv => (h2 hn).1 ((g c hc).mpr hv), fun hv => (h2 hn).2 (fun z => hv ((g c hc).mp z))⟩⟩
theorem eX.eG {fl : Int32 → Bool} {V : Int32 → Prop} {e e' : Env} (h : eX fl V e e') (g : eG fl e) : eG fl e' := by
  intro c t hc ht
  obtain ⟨h1, h2⟩ := h c hc
  cases he : e c with
  | some u =>
    rw [h1 u he] at ht
    cases ht
    exact g c _ hc he
  | none =>
    by_cases hV : V c
    · obtain ⟨u, u1, u2⟩ := (h2 he).1 hV
      rw [u1] at ht
      cases ht
      exact u2
    · rw [(h2 he).2 hV] at ht
      cases ht
theorem eA.of {fl : Int32 → Bool} {V : Int32 → Prop} {σ : Int32 → Tm} {e e' : Env} (h : eA σ e') (g : eX fl V e e') : eA σ e := fun c t hc ht => h c t hc ((g c hc).1 t ht)
theorem mC1_sound {fl : Int32 → Bool} {e e' : Env} {c : Int32} {t : Tm} (ht : gT t) (h : mC1 fl e c t = some e') : eX fl (fun v => v = c) e e' ∧ ∀ σ, eA σ e' → sC σ c = t := by
  unfold mC1 at h
  by_cases hv : chV c
  · rw [if_pos hv] at h
    by_cases hf : fl c = true ∧ ¬ t.1 = 0
    · rw [if_pos hf] at h
      cases h
    · rw [if_neg hf] at h
      cases he : e c with
      | some u =>
        rw [he] at h
        simp only at h
        by_cases hu : u = t
        · rw [if_pos hu] at h
          cases h
          refine ⟨fun v hv' => ⟨fun t ht => ht, fun hn => ⟨fun z => ?_, fun _ => hn⟩⟩, fun σ hσ => ?_⟩
          · rw [z, he] at hn
            cases hn
          · unfold sC
            rw [if_pos hv, hσ c u hv he, hu]
        · rw [if_neg hu] at h
          cases h
      | none =>
        rw [he] at h
        simp only at h
        cases h
        refine ⟨fun v hv' => ⟨fun u hu => ?_, fun hn => ⟨fun z => ?_, fun z => ?_⟩⟩, fun σ hσ => ?_⟩
        · unfold eUp
          by_cases z : v = c
          · rw [z, he] at hu
            cases hu
          · rw [if_neg z]
            exact hu
        · unfold eUp
          rw [if_pos z]
          refine ⟨t, rfl, ht, fun hfl => ?_⟩
          rw [z] at hfl
          exact Classical.byContradiction (fun y => hf ⟨hfl, y⟩)
        · unfold eUp
          rw [if_neg z]
          exact hn
        · unfold sC
          rw [if_pos hv]
          exact hσ c t hv (by unfold eUp; rw [if_pos rfl])
  · rw [if_neg hv] at h
    by_cases hc : t = (0, [c])
    · rw [if_pos hc] at h
      cases h
      refine ⟨fun v hv' => ⟨fun t ht => ht, fun hn => ⟨fun z => ?_, fun _ => hn⟩⟩, fun σ hσ => ?_⟩
      · rw [z] at hv'
        exact absurd hv' hv
      · unfold sC
        rw [if_neg hv, hc]
    · rw [if_neg hc] at h
      cases h
theorem mC1_complete {fl : Int32 → Bool} {e : Env} {c : Int32} {t : Tm} {σ : Int32 → Tm} (hA : eA σ e) (hf : chV c → fl c = true → (σ c).1 = 0) (h : sC σ c = t) : ∃ e', mC1 fl e c t = some e' ∧ eA σ e' := by
  unfold mC1
  unfold sC at h
  by_cases hv : chV c
  · rw [if_pos hv] at h ⊢
    rw [if_neg (fun z => z.2 (by rw [← h]; exact hf hv z.1))]
    cases he : e c with
    | some u =>
      simp only
      have := hA c u hv he
      rw [if_pos (by rw [← this, h])]
      exact ⟨e, rfl, hA⟩
    | none =>
      refine ⟨_, rfl, fun v u hv' hu => ?_⟩
      unfold eUp at hu
      by_cases z : v = c
      · rw [if_pos z] at hu
        cases hu
        rw [z]
        exact h
      · rw [if_neg z] at hu
        exact hA v u hv' hu
  · rw [if_neg hv] at h ⊢
    rw [if_pos h.symm]
    exact ⟨e, rfl, hA⟩
theorem mCs_sound {fl : Int32 → Bool} : ∀ (cs xs : List Int32) (e e' : Env), (∀ x ∈ xs, chP x ∧ ¬ chV x) → mCs fl e cs xs = some e' → eX fl (fun v => v ∈ cs) e e' ∧ ∀ σ, eA σ e' → cs.map (fun c => ps_hc (sC σ c).2) = xs := by
  intro cs
  induction cs with
  | nil =>
    intro xs e e' hx h
    cases xs with
    | nil =>
      rw [mCs] at h
      cases h
      exact ⟨fun c hc => ⟨fun t ht => ht, fun hn => ⟨fun z => absurd z (by simp), fun _ => hn⟩⟩, fun _ _ => rfl⟩
    | cons x xs =>
      simp [mCs] at h
  | cons c cs ih =>
    intro xs e e' hx h
    cases xs with
    | nil =>
      simp [mCs] at h
    | cons x xs =>
      rw [mCs] at h
      obtain ⟨hx1, hx2⟩ := hx x (by simp)
      have hg : gT (0, [x]) := ⟨Or.inl ⟨rfl, x, hx1, rfl⟩, fun c hc => by simp only [List.mem_singleton] at hc; rw [hc]; exact hx2⟩
      cases h1 : mC1 fl e c (0, [x]) with
      | none =>
        rw [h1] at h
        cases h
      | some e1 =>
        rw [h1] at h
        simp only at h
        obtain ⟨a1, a2⟩ := mC1_sound hg h1
        obtain ⟨b1, b2⟩ := ih xs e1 e' (fun y hy => hx y (by simp [hy])) h
        refine ⟨(a1.trans b1).iff (fun v _ => by simp only [List.mem_cons]), fun σ hσ => ?_⟩
        rw [List.map_cons, b2 σ hσ, a2 σ (hσ.of b1)]
        rfl
theorem mCs_complete {fl : Int32 → Bool} {σ : Int32 → Tm} : ∀ (cs xs : List Int32) (e : Env), eA σ e → (∀ c ∈ cs, chV c → (σ c).1 = 0 ∧ ∃ x, (σ c).2 = [x]) → cs.map (fun c => ps_hc (sC σ c).2) = xs → ∃ e', mCs fl e cs xs = some e' ∧ eA σ e' := by
  intro cs
  induction cs with
  | nil =>
    intro xs e hA hc h
    rw [← h]
    exact ⟨e, by rw [List.map_nil, mCs], hA⟩
  | cons c cs ih =>
    intro xs e hA hc h
    rw [← h, List.map_cons, mCs]
    have hs : sC σ c = (0, [ps_hc (sC σ c).2]) := by
      unfold sC
      by_cases hv : chV c
      · rw [if_pos hv]
        obtain ⟨z1, x, z2⟩ := hc c (by simp) hv
        refine Prod.ext z1 ?_
        simp only
        rw [z2]
        rfl
      · rw [if_neg hv]
        rfl
    obtain ⟨e1, a1, a2⟩ := mC1_complete (fl := fl) hA (fun hv _ => (hc c (by simp) hv).1) hs
    rw [a1]
    simp only
    exact ih _ e1 a2 (fun v hv => hc v (by simp [hv])) rfl
theorem mT1_sound {fl : Int32 → Bool} {e e' : Env} {p t : Tm} (hp : wfT p) (ht : gT t) (h : mT1 fl e p t = some e') : eX fl (fun v => v ∈ p.2) e e' ∧ ∀ σ, eA σ e' → sT σ p = t := by
  unfold mT1 at h
  by_cases h0 : p.1 = 0
  · rw [if_pos h0] at h
    obtain ⟨a1, a2⟩ := mC1_sound ht h
    rcases hp with ⟨_, c, hc, ec⟩ | ⟨hp, _⟩
    · rw [ec] at a1 a2
      refine ⟨a1.iff (fun v _ => by rw [ec]; simp [ps_hc]), fun σ hσ => ?_⟩
      unfold sT
      rw [if_pos h0, ec]
      exact a2 σ hσ
    · rw [h0] at hp
      exact absurd hp (by decide)
  · rw [if_neg h0] at h
    by_cases h1 : t.1 = p.1
    · rw [if_pos h1] at h
      have hx : ∀ x ∈ t.2, chP x ∧ ¬ chV x := by
        intro x hx
        refine ⟨?_, ht.2 x hx⟩
        rcases ht.1 with ⟨z, _⟩ | ⟨_, _, _, z⟩
        · rw [z] at h1
          exact absurd h1.symm h0
        · exact z x hx
      obtain ⟨a1, a2⟩ := mCs_sound _ _ _ _ hx h
      refine ⟨a1, fun σ hσ => ?_⟩
      unfold sT
      rw [if_neg h0, a2 σ hσ, ← h1]
    · rw [if_neg h1] at h
      cases h
theorem mT1_complete {fl : Int32 → Bool} {σ : Int32 → Tm} {e : Env} {p t : Tm} (hA : eA σ e) (hf : ∀ c ∈ p.2, chV c → gT (σ c) ∧ (fl c = true → (σ c).1 = 0)) (hc : ¬ p.1 = 0 → ∀ c ∈ p.2, chV c → (σ c).1 = 0) (hp : wfT p) (h : sT σ p = t) : ∃ e', mT1 fl e p t = some e' ∧ eA σ e' := by
  unfold mT1
  unfold sT at h
  by_cases h0 : p.1 = 0
  · rw [if_pos h0] at h ⊢
    rcases hp with ⟨_, c, _, ec⟩ | ⟨hp, _⟩
    · rw [ec] at h ⊢
      exact mC1_complete hA (fun hv hfl => (hf c (by rw [ec]; simp) hv).2 hfl) h
    · rw [h0] at hp
      exact absurd hp (by decide)
  · rw [if_neg h0] at h ⊢
    rw [← h, if_pos rfl]
    refine mCs_complete _ _ e hA (fun c hc' hv => ?_) rfl
    have z := hc h0 c hc' hv
    refine ⟨z, ?_⟩
    rcases (hf c hc' hv).1.1 with ⟨_, x, _, ex⟩ | ⟨y, _⟩
    · exact ⟨x, ex⟩
    · rw [z] at y
      exact absurd y (by decide)
theorem mTs_sound {fl : Int32 → Bool} : ∀ (ps ts : List Tm) (e e' : Env), (∀ p ∈ ps, wfT p) → (∀ t ∈ ts, gT t) → mTs fl e ps ts = some e' → eX fl (fun v => ∃ p ∈ ps, v ∈ p.2) e e' ∧ ∀ σ, eA σ e' → ps.map (sT σ) = ts := by
  intro ps
  induction ps with
  | nil =>
    intro ts e e' hp ht h
    cases ts with
    | nil =>
      rw [mTs] at h
      cases h
      exact ⟨fun c hc => ⟨fun t ht => ht, fun hn => ⟨fun z => by obtain ⟨p, hp, _⟩ := z; exact absurd hp (by simp), fun _ => hn⟩⟩, fun _ _ => rfl⟩
    | cons t ts =>
      simp [mTs] at h
  | cons p ps ih =>
    intro ts e e' hp ht h
    cases ts with
    | nil =>
      simp [mTs] at h
    | cons t ts =>
      rw [mTs] at h
      cases h1 : mT1 fl e p t with
      | none =>
        rw [h1] at h
        cases h
      | some e1 =>
        rw [h1] at h
        simp only at h
        obtain ⟨a1, a2⟩ := mT1_sound (hp p (by simp)) (ht t (by simp)) h1
        obtain ⟨b1, b2⟩ := ih ts e1 e' (fun y hy => hp y (by simp [hy])) (fun y hy => ht y (by simp [hy])) h
        refine ⟨(a1.trans b1).iff (fun v _ => by simp only [List.mem_cons, exists_eq_or_imp]), fun σ hσ => ?_⟩
        rw [List.map_cons, b2 σ hσ, a2 σ (hσ.of b1)]
theorem mTs_complete {fl : Int32 → Bool} {σ : Int32 → Tm} : ∀ (ps ts : List Tm) (e : Env), eA σ e → (∀ p ∈ ps, wfT p) → (∀ p ∈ ps, ∀ c ∈ p.2, chV c → gT (σ c) ∧ (fl c = true → (σ c).1 = 0) ∧ (¬ p.1 = 0 → (σ c).1 = 0)) → ps.map (sT σ) = ts → ∃ e', mTs fl e ps ts = some e' ∧ eA σ e' := by
  intro ps
  induction ps with
  | nil =>
    intro ts e hA hp hc h
    rw [← h]
    exact ⟨e, by rw [List.map_nil, mTs], hA⟩
  | cons p ps ih =>
    intro ts e hA hp hc h
    rw [← h, List.map_cons, mTs]
    obtain ⟨e1, a1, a2⟩ := mT1_complete (fl := fl) hA (fun c hc' hv => ⟨(hc p (by simp) c hc' hv).1, (hc p (by simp) c hc' hv).2.1⟩) (fun h0 c hc' hv => (hc p (by simp) c hc' hv).2.2 h0) (hp p (by simp)) rfl
    rw [a1]
    simp only
    exact ih _ e1 a2 (fun y hy => hp y (by simp [hy])) (fun y hy => hc y (by simp [hy])) rfl
theorem mF1_sound {fl : Int32 → Bool} {e e' : Env} {l : Lt} {f : Fct} (hl : wfL l) (hf : ∀ t ∈ f.2, gT t) (h : mF1 fl e l f = some e') : eX fl (inL l) e e' ∧ ∀ σ, eA σ e' → sL σ l = f := by
  unfold mF1 at h
  by_cases h0 : lk l = f.1
  · rw [if_pos h0] at h
    obtain ⟨a1, a2⟩ := mTs_sound _ _ _ _ (wfL_len hl).2 hf h
    exact ⟨a1, fun σ hσ => Prod.ext h0 (a2 σ hσ)⟩
  · rw [if_neg h0] at h
    cases h
theorem mF1_complete {fl : Int32 → Bool} {σ : Int32 → Tm} {e : Env} {l : Lt} {f : Fct} {r : Rl} (hA : eA σ e) (hl : wfL l) (ha : adm r σ) (hr : ∀ c, inL l c → rV r c) (hc : ∀ c, inC l c → rF r c) (hfl : ∀ c, chV c → fl c = true → rF r c) (h : sL σ l = f) : ∃ e', mF1 fl e l f = some e' ∧ eA σ e' := by
  unfold mF1
  rw [← h, if_pos (show lk l = (sL σ l).1 from rfl)]
  refine mTs_complete _ _ e hA (wfL_len hl).2 (fun p hp c hc' hv => ?_) rfl
  have h1 := ha c hv (hr c ⟨p, hp, hc'⟩)
  exact ⟨h1.1, fun z => h1.2 (hfl c hv z), fun z => h1.2 (hc c ⟨p, hp, z, hc'⟩)⟩
