/-! the reference: follow, whole -/
theorem fo_138b {d : Nat} {R : List Rl} {s0 : mS} {Q : Unit → mS → Prop} (hR0 : rRules s0 R) (q : ∀ s L, fpp s0 s → rFacts s L → s.1 23 = 1 → Q () s) : ∀ (m r : Nat) (s : mS) (L : List Fct), r + m = R.length → fpp s0 s → rFacts s L → s.1 23 = 1 → h_follow_138 d (nI r) s Q := by
  have h24 := hR0.2.1
  intro m
  induction m with
  | zero =>
    intro r s L hr hf hL hb
    refine T_follow_138 ?_
    rw [(hf.rules hR0).1, if_pos (nI_le (by omega) (by omega))]
    exact q s L hf hL hb
  | succ m ih =>
    intro r s L hr hf hL hb
    refine T_follow_138 ?_
    rw [(hf.rules hR0).1, if_neg (nI_ge (by omega) (by omega)), if_neg (by rw [hb]; decide), nI_1]
    exact ih (r + 1) _ L (by omega) (hf.trans (fap.b s 1).pp) (hL.same rfl rfl rfl) rfl
theorem fo_138 {d : Nat} {R : List Rl} {P : List Fct → Prop} {Qs : Nat → Prop} {B L : List Fct} {s0 : mS} {Q : Unit → mS → Prop} (hw : ∀ x ∈ R, wfR x) (hR0 : rRules s0 R) (hst : St R P Qs B L) (q0 : ∀ s, fpp s0 s → rFacts s L → s.1 23 = 0 → (∀ x ∈ R, wy L x ≤ 100000) → Q () s) (q1 : ∀ s L, fpp s0 s → rFacts s L → s.1 23 = 1 → Bad R P → Q () s) : ∀ (m r : Nat) (s : mS), r + m = R.length → fpp s0 s → rFacts s L → s.1 23 = 0 → (∀ (i : Nat) x, i < r → R[i]? = some x → wy L x ≤ 100000) → h_follow_138 (d + 1) (nI r) s Q := by
  have h24 := hR0.2.1
  intro m
  induction m with
  | zero =>
    intro r s hr hf hL hb hd
    refine T_follow_138 ?_
    rw [(hf.rules hR0).1, if_pos (nI_le (by omega) (by omega))]
    refine q0 s hf hL hb (fun x hx => ?_)
    obtain ⟨i, hi, e⟩ := List.getElem_of_mem hx
    exact hd i x (by omega) (by rw [List.getElem?_eq_getElem hi, e])
  | succ m ih =>
    intro r s hr hf hL hb hd
    have hr' : r < R.length := by omega
    have hrx : R[r]? = some R[r] := List.getElem?_eq_getElem hr'
    have hR := hf.rules hR0
    have hwx := hw _ (List.getElem_mem hr')
    refine T_follow_138 ?_
    rw [hR.1, if_neg (nI_ge (by omega) (by omega)), if_pos hb, nI_1]
    refine rq_ways (by omega) hL (hR.2.2 r _ hrx) hwx ?_
    rcases Nat.lt_or_ge 100000 (wy L R[r]) with hwy | hwy
    · rw [if_neg (fun z => absurd ((wy_cmp hL.2.1 hwx.2.1).mp z) (by omega))]
      have hbad := hst.bad_wy (List.getElem_mem hr') hwy
      exact fo_138b (s0 := s0) hR0 (fun s' L' a1 a2 a3 => q1 s' L' a1 a2 a3 hbad) m (r + 1) _ L (by omega) (hf.trans (fap.b s 1).pp) (hL.same rfl rfl rfl) rfl
    · rw [if_pos ((wy_cmp hL.2.1 hwx.2.1).mpr hwy)]
      refine ih (r + 1) _ (by omega) (hf.trans (fap.b s 0).pp) (hL.same rfl rfl rfl) rfl (fun i x hi hx => ?_)
      by_cases ei : i = r
      · subst ei
        rw [hrx] at hx
        cases hx
        exact hwy
      · exact hd i x (by omega) hx
theorem fo_57b {d top : Nat} {R : List Rl} {s0 : mS} {Q : Unit → mS → Prop} (htop : top ≤ 24) (hR0 : rRules s0 R) (q : ∀ s L, fpp s0 s → rFacts s L → s.1 23 = 1 → Q () s) : ∀ (m k : Nat) (s : mS) (L : List Fct), k + m = top + 1 → fpp s0 s → rFacts s L → s.1 23 = 1 → h_follow_57 d (nI top) (nI k) s Q := by
  intro m
  induction m with
  | zero =>
    intro k s L hk hf hL hb
    refine T_follow_57 ?_
    rw [if_pos (nI_lt (by omega) (by omega))]
    exact fo_138b hR0 q R.length 0 s L (by omega) hf hL hb
  | succ m ih =>
    intro k s L hk hf hL hb
    refine T_follow_57 ?_
    rw [if_neg (nI_nlt (by omega) (by omega))]
    refine T_follow_64 ?_
    have h200 := hL.2.1
    rw [hL.1, if_neg (fun z => absurd (by rw [← z]; decide : nI L.length < 0) (nI_pos (by omega))), if_neg (by rw [hb]; decide), nI_1]
    exact ih (k + 1) s L (by omega) hf hL hb
theorem fo_57 {d top : Nat} {R : List Rl} {n : Nat → Nat} {P : List Fct → Prop} {B : List Fct} {s0 : mS} {Q : Unit → mS → Prop} (hc : fCtx R n) (hR0 : rRules s0 R) (hly0 : ∀ y, y < 512 → s0.2.1 19 y = nI (n y)) (htop : top ≤ 24) (hmax : ∀ x ∈ R, n (lk x.1) ≤ top) (hPB : ∀ B', P B' → ∀ f ∈ B', f ∈ B) (q0 : ∀ s L, fpp s0 s → rFacts s L → s.1 23 = 0 → Mdl R B L → Small R L → Q () s) (q1 : ∀ s L, fpp s0 s → rFacts s L → s.1 23 = 1 → Bad R P → Q () s) : ∀ (m k : Nat) (s : mS) (L : List Fct), k + m = top + 1 → fInv R P (qS R n k) B s0 s L → s.1 23 = 0 → h_follow_57 (d + 6) (nI top) (nI k) s Q := by
  intro m
  induction m with
  | zero =>
    intro k s L hk hI hb
    refine T_follow_57 ?_
    rw [if_pos (nI_lt (by omega) (by omega))]
    refine fo_138 hc.1 hR0 hI.2.2.1 (fun s' a1 a2 a3 a4 => ?_) q1 R.length 0 s (by omega) hI.1 hI.2.1 hb (fun i x hi => absurd hi (by omega))
    refine q0 s' L a1 a2 a3 (hI.2.2.1.model (fun x hx => Or.inr ?_)) ⟨a2.2.1, a4⟩
    have := hmax x hx
    omega
  | succ m ih =>
    intro k s L hk hI hb
    have h200 := hI.2.1.2.1
    refine T_follow_57 ?_
    rw [if_neg (nI_nlt (by omega) (by omega))]
    obtain ⟨m', hm'⟩ : ∃ m', L.length + m' = 201 := ⟨201 - L.length, by omega⟩
    refine fo_64 hc hR0 hly0 (by omega) (fun s' L' a1 a2 => ?_) m' s L (-1) hm' hI (fun z => absurd (by rw [← z]; decide : nI L.length < 0) (nI_pos (by omega)))
    rcases a1.2.2.2 with b | ⟨b, hbad⟩
    · refine ih (k + 1) s' L' (by omega) ⟨a1.1, a1.2.1, ?_, Or.inl b⟩ b
      refine (a1.2.2.1.close (HS := fun x => (∃ r ∈ R, lk r.1 = x) ∧ n x = k) (fun r hr hS l hl hk2 => ?_) (fun r hr hS σ ha hbs => ?_) (fun B' hP f hf _ => a1.2.2.1.2.2.1 f (hPB B' hP f hf))).iff (fun x => ?_)
      · have h5 := hc.2.2.2.2 r hr l hl hk2
        by_cases hno : ∀ r ∈ R, lk r.1 ≠ lk l
        · exact Or.inl (Or.inl hno)
        · by_cases hlt : n (lk l) < k
          · exact Or.inl (Or.inr hlt)
          · refine Or.inr ⟨?_, ?_⟩
            · refine Classical.byContradiction (fun z => hno (fun r' hr' e => z ⟨r', hr', e⟩))
            · have e : n (lk r.1) = k := hS.2
              omega
      · obtain ⟨i, hi, e⟩ := List.getElem_of_mem hr
        exact a2 b i r (by rw [List.getElem?_eq_getElem hi, e]) hS.2 σ ha hbs
      · unfold qS
        constructor
        · intro z
          rcases z with (z | z) | z
          · exact Or.inl z
          · exact Or.inr (by omega)
          · exact Or.inr (by have := z.2; omega)
        · intro z
          rcases z with z | z
          · exact Or.inl (Or.inl z)
          · by_cases hlt : n x < k
            · exact Or.inl (Or.inr hlt)
            · by_cases hno : ∀ r ∈ R, lk r.1 ≠ x
              · exact Or.inl (Or.inl hno)
              · exact Or.inr ⟨Classical.byContradiction (fun y => hno (fun r' hr' e => y ⟨r', hr', e⟩)), by omega⟩
    · exact fo_57b (s0 := s0) htop hR0 (fun s9 L9 b1 b2 b3 => q1 s9 L9 b1 b2 b3 hbad) m (k + 1) s' L' (by omega) a1.1 a1.2.1 b
theorem fo_4 {d : Nat} {R : List Rl} {n : Nat → Nat} {s : mS} {Q : Unit → mS → Prop} (hc : fCtx R n) (hR : rRules s R) (hly : ∀ y, y < 512 → s.2.1 19 y = nI (n y)) (q : ∀ top, top ≤ 24 → (∀ x ∈ R, n (lk x.1) ≤ top) → h_follow_57 d (nI top) 0 s Q) : ∀ (m r top : Nat), r + m = R.length → top ≤ 24 → (∀ (i : Nat) x, i < r → R[i]? = some x → n (lk x.1) ≤ top) → h_follow_4 d (nI top) (nI r) s Q := by
  have h24 := hR.2.1
  intro m
  induction m with
  | zero =>
    intro r top hr ht hd
    refine T_follow_4 ?_
    rw [hR.1, if_pos (nI_le (by omega) (by omega))]
    refine q top ht (fun x hx => ?_)
    obtain ⟨i, hi, e⟩ := List.getElem_of_mem hx
    exact hd i x (by omega) (by rw [List.getElem?_eq_getElem hi, e])
  | succ m ih =>
    intro r top hr ht hd
    have hr' : r < R.length := by omega
    have hrx : R[r]? = some R[r] := List.getElem?_eq_getElem hr'
    obtain ⟨w1, w2, w3⟩ := wfR_head (hc.1 R[r] (List.getElem_mem hr'))
    obtain ⟨g1, g2, _⟩ := (hR.2.2 r _ hrx).2.2.1.rel w1 w3
    have hn := hc.2.2.2.1 (lk R[r].1)
    refine T_follow_4 ?_
    rw [hR.1, if_neg (nI_ge (by omega) (by omega)), nI_1]
    refine ⟨6 * r, by rw [n_6, nI_mul], by omega, lk R[r].1, g1, g2, ?_⟩
    rw [hly _ g2]
    by_cases hle : n (lk R[r].1) ≤ top
    · rw [if_pos (nI_le hle (by omega))]
      refine ih (r + 1) top (by omega) ht (fun i x hi hx => ?_)
      by_cases ei : i = r
      · subst ei
        rw [hrx] at hx
        cases hx
        exact hle
      · exact hd i x (by omega) hx
    · rw [if_neg (nI_ge (by omega) (by omega))]
      refine ih (r + 1) _ (by omega) hn (fun i x hi hx => ?_)
      by_cases ei : i = r
      · subst ei
        rw [hrx] at hx
        cases hx
        exact Nat.le_refl _
      · have := hd i x (by omega) hx
        omega
/-- the given facts B are the same -/
def isB (B B' : List Fct) : Prop := ∀ f, f ∈ B' ↔ f ∈ B
theorem St.base (R : List Rl) (n : Nat → Nat) {B : List Fct} (hB : B.Nodup) : St R (isB B) (qS R n 0) B B := by
  have no : ∀ r ∈ R, ¬ qS R n 0 (lk r.1) := fun r hr z => z.elim (fun y => y r hr rfl) (fun y => by omega)
  refine ⟨hB, fun i f hf => Or.inl (List.mem_of_getElem? hf), fun f hf => hf, fun r hr hq => absurd hq (no r hr), fun r hr hq => absurd hq (no r hr), fun B' M hP hM => ⟨fun f hf => hM.1 f ((hP f).mpr hf), fun f hf hq => ?_⟩⟩
  obtain ⟨i, hi, e⟩ := List.getElem_of_mem hf
  rcases hM.2.2.1 i f (by rw [List.getElem?_eq_getElem hi, e]) with z | ⟨r, hr, σ, ha, e, _⟩
  · exact (hP f).mp z
  · exact absurd (by rw [e] at hq; exact hq) (no r hr)
theorem rq_follow {d : Nat} {R : List Rl} {n : Nat → Nat} {B : List Fct} {s : mS} {Q : Unit → mS → Prop} (hc : fCtx R n) (hR : rRules s R) (hly : ∀ y, y < 512 → s.2.1 19 y = nI (n y)) (hL : rFacts s B) (hB : B.Nodup) (hb : s.1 23 = 0) (q0 : ∀ s' L, fpp s s' → rFacts s' L → s'.1 23 = 0 → Mdl R B L → Small R L → Q () s') (q1 : ∀ s' L, fpp s s' → rFacts s' L → s'.1 23 = 1 → Bad R (isB B) → Q () s') : m_follow (d + 7) s Q := by
  refine m_follow.of (T_follow_0 ?_)
  refine fo_4 hc hR hly (fun top ht hm => ?_) R.length 0 0 (by omega) (by decide) (fun i x hi => absurd hi (by omega))
  exact fo_57 (P := isB B) (B := B) (s0 := s) hc hR hly ht hm (fun B' hP f hf => (hP f).mp hf) q0 q1 (top + 1) 0 s B (by omega) ⟨fpp.refl s, hL, St.base R n hB, Or.inl hb⟩ hb
/-- what follows from B, if it is not beyond -/
def Fol (R : List Rl) (B L : List Fct) : Prop := Mdl R B L ∧ Small R L
