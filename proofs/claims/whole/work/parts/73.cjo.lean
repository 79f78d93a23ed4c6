/-! the class: planned literals and rules; one term more -/
def uS (u : Int32 → Bool) (cs : List Int32) : Int32 → Bool := fun v => u v && !(cs.contains v)
def ua (u : Int32 → Bool) (ts : List Tm) (i : Nat) : Int32 → Bool := (ts.take i).foldl (fun u t => uS u t.2) u
def pt (u : Int32 → Bool) (ts : List Tm) (i : Nat) : Int32 := match ts[i]? with
  | some t => nI (pE (ua u ts i) t)
  | none => 0
def uL (u : Int32 → Bool) (l : Lt) : Int32 → Bool := fun v => u v && !(l.2.2.any (fun t => t.2.contains v))
/-- the variables that the first k literals have left unbound -/
def ub (b : List Lt) (k : Nat) : Int32 → Bool := (b.take k).foldl uL (fun _ => true)
/-- a planned literal's fields -/
def plc (u : Int32 → Bool) (kn on : Int32) (l : Lt) : List Value := [.int l.1, .int (lr l), .int (pt u l.2.2 0), .int (pt u l.2.2 1), .int (pt u l.2.2 2), .int kn, .int on]
theorem foldl_uS (ts : List Tm) : ∀ (u : Int32 → Bool) (v : Int32), ts.foldl (fun u t => uS u t.2) u v = (u v && !(ts.any (fun t => t.2.contains v))) := by
  induction ts with
  | nil => intro u v; simp
  | cons t ts ih =>
    intro u v
    rw [List.foldl_cons, ih]
    unfold uS
    rw [List.any_cons]
    cases u v <;> cases t.2.contains v <;> simp
theorem foldl_uL (ls : List Lt) : ∀ (u : Int32 → Bool) (v : Int32), ls.foldl uL u v = (u v && !(ls.any (fun l => l.2.2.any (fun t => t.2.contains v)))) := by
  induction ls with
  | nil => intro u v; simp
  | cons l ls ih =>
    intro u v
    rw [List.foldl_cons, ih]
    unfold uL
    rw [List.any_cons]
    cases u v <;> cases (l.2.2.any fun t => t.2.contains v) <;> simp
theorem ua_false {u : Int32 → Bool} {ts : List Tm} {i : Nat} {c : Int32} (h : u c = false) : ua u ts i c = false := by
  unfold ua
  rw [foldl_uS, h]
  rfl
theorem ua_succ {u : Int32 → Bool} {ts : List Tm} {i : Nat} {t : Tm} (h : ts[i]? = some t) : ua u ts (i + 1) = uS (ua u ts i) t.2 := by
  unfold ua
  rw [List.take_succ, h, List.foldl_append]
  rfl
theorem ua_none {u : Int32 → Bool} {ts : List Tm} {i : Nat} (h : ts[i]? = none) : ua u ts (i + 1) = ua u ts i := by
  unfold ua
  rw [List.take_succ, h]
  simp
theorem ua_all {u : Int32 → Bool} {l : Lt} {i : Nat} (h : l.2.2.length ≤ i) : ua u l.2.2 i = uL u l := by
  funext v
  unfold ua uL
  rw [List.take_of_length_le h, foldl_uS]
theorem ub_succ {b : List Lt} {k : Nat} {l : Lt} (h : b[k]? = some l) : ub b (k + 1) = uL (ub b k) l := by
  unfold ub
  rw [List.take_succ, h, List.foldl_append]
  rfl
theorem inL_any {l : Lt} {c : Int32} : l.2.2.any (fun t => t.2.contains c) = true ↔ inL l c := by
  unfold inL
  simp [List.any_eq_true, List.contains_iff_mem]
theorem ub_dom {b : List Lt} {k : Nat} {c : Int32} : ub b k c = false ↔ ∃ l ∈ b.take k, inL l c := by
  unfold ub
  rw [foldl_uL]
  simp only [Bool.true_and, Bool.not_eq_false', List.any_eq_true]
  constructor
  · rintro ⟨l, h1, h2⟩
    exact ⟨l, h1, inL_any.mp (by simpa [List.any_eq_true] using h2)⟩
  · rintro ⟨l, h1, h2⟩
    exact ⟨l, h1, by simpa [List.any_eq_true] using inL_any.mpr h2⟩
/-- the i-th terms -/
def mAt (fl : Int32 → Bool) (e : Env) (ts gs : List Tm) (i : Nat) : Option Env := match ts[i]?, gs[i]? with
  | some p, some g => mT1 fl e p g
  | _, _ => some e
theorem mTs_at {fl : Int32 → Bool} {e : Env} {ts gs : List Tm} (hl : ts.length = gs.length) (h3 : ts.length ≤ 3) : mTs fl e ts gs = (mAt fl e ts gs 0).bind (fun e1 => (mAt fl e1 ts gs 1).bind (fun e2 => mAt fl e2 ts gs 2)) := by
  match ts, gs, hl, h3 with
  | [], [], _, _ => rfl
  | [a], [x], _, _ =>
    show (match mT1 fl e a x with | some e' => mTs fl e' [] [] | none => none) = (mT1 fl e a x).bind _
    cases mT1 fl e a x <;> rfl
  | [a, b], [x, y], _, _ =>
    show (match mT1 fl e a x with | some e' => mTs fl e' [b] [y] | none => none) = (mT1 fl e a x).bind _
    cases mT1 fl e a x with
    | none => rfl
    | some e1 =>
      show (match mT1 fl e1 b y with | some e' => mTs fl e' [] [] | none => none) = (mT1 fl e1 b y).bind _
      cases mT1 fl e1 b y <;> rfl
  | [a, b, c], [x, y, z], _, _ =>
    show (match mT1 fl e a x with | some e' => mTs fl e' [b, c] [y, z] | none => none) = (mT1 fl e a x).bind _
    cases mT1 fl e a x with
    | none => rfl
    | some e1 =>
      show (match mT1 fl e1 b y with | some e' => mTs fl e' [c] [z] | none => none) = (mT1 fl e1 b y).bind _
      cases mT1 fl e1 b y with
      | none => rfl
      | some e2 =>
        show (match mT1 fl e2 c z with | some e' => mTs fl e' [] [] | none => none) = mT1 fl e2 c z
        cases mT1 fl e2 c z <;> rfl
theorem uE.ext {fl : Int32 → Bool} {u : Int32 → Bool} {e e' : Env} {cs : List Int32} (h : uE u e) (g : eX fl (fun v => v ∈ cs) e e') : uE (uS u cs) e' := by
  intro c hc
  unfold uS
  obtain ⟨g1, g2⟩ := g c hc
  rw [h c hc]
  cases e1 : e c with
  | some t => simp [g1 t e1]
  | none =>
    by_cases hin : c ∈ cs
    · obtain ⟨t, ht, _⟩ := (g2 e1).1 hin
      simp [ht, hin]
    · simp [(g2 e1).2 hin, hin]
theorem cq_fit1 {N0 : Nat} {K : Nat → Nat} {d C i : Nat} {ts gs : List Tm} {u : Int32 → Bool} {fl : Int32 → Bool} {e : Env} {v : Int32} {s : cS} {G : gm_H} {sz : Nat} {Q : Int32 → cS → Prop} (hN : N0 ≤ C) (hp : ∀ t ∈ ts, wfT t) (hg : ∀ t ∈ gs, gT t) (hlen : ts.length = gs.length) (hu : uE (ua u ts i) e) (hE : cEnv s e) (hG : eG fl e) (hfl : flM v fl) (q1 : ∀ s' e', mAt fl e ts gs i = some e' → frB s s' → cEnv s' e' → uE (ua u ts (i + 1)) e' → eG fl e' → (∀ c t, chV c → e c = some t → e' c = some t) → Q 1 s') (q0 : ∀ s', mAt fl e ts gs i = none → frB s s' → cEnv s' e → Q 0 s') : kX2_fits N0 K (d + 1) C (pt u ts i) (te gs i) v s G sz Q := by
  unfold pt te
  unfold mAt at q1 q0
  cases e1 : ts[i]? with
  | none =>
    have e2 : gs[i]? = none := by
      rw [List.getElem?_eq_none_iff] at e1 ⊢
      omega
    rw [e1, e2] at q1 q0
    rw [e2]
    simp only at q1 q0 ⊢
    refine kX2_fits.of (TX2_fits_0 hN ?_)
    rw [if_pos rfl]
    exact q1 s e rfl (frB.refl s) hE (by rw [ua_none e1]; exact hu) hG (fun c t _ h => h)
  | some p =>
    have hi := (List.getElem?_eq_some_iff.mp e1).1
    have e2 : gs[i]? = some gs[i] := List.getElem?_eq_getElem (by omega)
    rw [e1, e2] at q1 q0
    rw [e2]
    simp only at q1 q0 ⊢
    have hpp := hp p (List.mem_of_getElem? e1)
    have hgg := hg _ (List.mem_of_getElem? e2)
    refine cq_fits hN hpp hgg hu hE hG hfl (fun s' e' h a b => ?_) (fun s' h a b => q0 s' h a b)
    have hx := (mT1_sound hpp hgg h).1
    exact q1 s' e' h a b (by rw [ua_succ e1]; exact hu.ext hx) (hx.eG hG) (fun c t hc ht => (hx c hc).1 t ht)
theorem cq_fillI {N0 : Nat} {K : Nat → Nat} {d C i : Nat} {ts : List Tm} {u : Int32 → Bool} {e : Env} {σ : Int32 → Tm} {s : cS} {G : gm_H} {sz : Nat} {Q : Int32 → Prop} (hN : N0 ≤ C) (hp : ∀ t ∈ ts, wfT t) (hE : cEnv s e) (hv : ∀ t ∈ ts, ∀ c ∈ t.2, chV c → u c = false ∧ e c = some (σ c) ∧ (t.1 ≠ 0 → (σ c).1 = 0)) (q : Q (te (ts.map (sT σ)) i)) : kX2_fill N0 K (d + 1) C (pt u ts i) s G sz Q := by
  unfold pt
  unfold te at q
  rw [List.getElem?_map] at q
  cases e1 : ts[i]? with
  | none =>
    rw [e1] at q
    exact cq_fill0 hN hE q
  | some t =>
    rw [e1] at q
    have ht := List.mem_of_getElem? e1
    exact cq_fill hN (hp t ht) hE (fun c hc hvc => ⟨ua_false (hv t ht c hc hvc).1, (hv t ht c hc hvc).2⟩) q
theorem gT_sT2 {σ : Int32 → Tm} {p : Tm} (hp : wfT p) (hσ : ∀ c ∈ p.2, chV c → gT (σ c)) (h0 : p.1 ≠ 0 → ∀ c ∈ p.2, chV c → (σ c).1 = 0) : gT (sT σ p) := by
  obtain ⟨p1, p2, p3, p4, p5⟩ := hp.par
  by_cases hz : p.1 = 0
  · have ep := p4 hz
    have e2 : p.2 = [tTop p] := congrArg Prod.snd ep
    unfold sT
    rw [if_pos hz, e2]
    show gT (sC σ (tTop p))
    unfold sC
    by_cases hv : chV (tTop p)
    · rw [if_pos hv]
      exact hσ _ (by rw [e2]; simp) hv
    · rw [if_neg hv]
      exact gC_x p3 hv
  · obtain ⟨ep, hl, hlen⟩ := p5 hz
    have epar : tPar p = p.2 := if_neg hz
    rw [epar] at p1 p2 hlen
    have hc : ∀ c ∈ p.2, chP (ps_hc (sC σ c).2) ∧ ¬ chV (ps_hc (sC σ c).2) := by
      intro c hc
      unfold sC
      by_cases hv : chV c
      · rw [if_pos hv]
        have hg := hσ c hc hv
        have hsz := h0 hz c hc hv
        have this := congrArg Prod.snd (hg.1.par.2.2.2.1 hsz)
        have hmem : tTop (σ c) ∈ (σ c).2 := by
          rw [this]
          simp
        have e1 : ps_hc (σ c).2 = tTop (σ c) := (if_pos hsz).symm
        rw [e1]
        exact ⟨hg.1.par.2.2.1, hg.2 _ hmem⟩
      · rw [if_neg hv]
        exact ⟨p1 c hc, hv⟩
    unfold sT
    rw [if_neg hz]
    have etp : tTop p = p.1 := if_neg hz
    refine ⟨Or.inr ⟨by rw [← etp]; exact hl, by simpa using hlen, by simpa using p2, fun x hx => ?_⟩, fun x hx => ?_⟩
    · obtain ⟨c, hc1, rfl⟩ := List.mem_map.mp hx
      exact (hc c hc1).1
    · obtain ⟨c, hc1, rfl⟩ := List.mem_map.mp hx
      exact (hc c hc1).2
theorem wfC_sL {σ : Int32 → Tm} {l : Lt} (hl : wfL l) (h2 : l.1 ≠ 2) (hσ : ∀ c, inL l c → chV c → gT (σ c)) (h0 : ∀ c, inC l c → chV c → (σ c).1 = 0) : wfC (sL σ l) := by
  obtain ⟨w1, w2⟩ := wfL_len hl
  obtain ⟨e1, _⟩ := wfA_lk (k := l.1) (wfL_atom hl h2).1
  refine ⟨⟨e1, ?_, fun t ht => ?_⟩, (cr_lk hl h2).1⟩
  · show (l.2.2.map (sT σ)).length = lk l % 4
    rw [List.length_map, lk_mod w1]
  · obtain ⟨p, hp, rfl⟩ := List.mem_map.mp ht
    exact gT_sT2 (w2 p hp) (fun c hc hv => hσ c ⟨p, hp, hc⟩ hv) (fun hz c hc hv => h0 c ⟨p, hp, hz, hc⟩ hv)
/-- a planned rule among the objects -/
def pRule (G : gm_H) (C a : Nat) (x : Rl) (fl : Int32 → Bool) : Prop := ∃ h b fa v kh oh, (C + 34 ≤ a ∧ C + 34 ≤ h ∧ C + 34 ≤ b) ∧ G a = some (.inr (7, [.ref h, .ref b, .int (nI x.2.length), .int v])) ∧ flM v fl ∧ G h = some (.inr (5, plc (fun _ => false) kh oh x.1)) ∧ G b = some (larr fa) ∧ ∀ (j : Nat) l, x.2[j]? = some l → ∃ p kn on, fa j = some p ∧ C + 34 ≤ p ∧ G p = some (.inr (5, plc (ub x.2 j) kn on l)) ∧ (kn = 0 → l.1 = 0) ∧ (kn ≠ 0 → ∀ c, chV c → inL l c → ub x.2 j c = false) ∧ (on ≠ 0 → ∀ c, chV c → inL x.1 c → ub x.2 j c = false)
/-- what is known of a rule when it is run -/
def cCtx (R : List Rl) (x : Rl) (Qs : Nat → Prop) (fl : Int32 → Bool) : Prop := x ∈ R ∧ wfR x ∧ (∀ l ∈ x.2, l.1 = 1 → Qs (lk l)) ∧ ¬ Qs (lk x.1) ∧ (∀ c, chV c → (fl c = true ↔ rF x c)) ∧ (∀ c, chV c → rV x c → ∃ l ∈ x.2, l.1 = 0 ∧ inL l c) ∧ ∀ (j : Nat) l, x.2[j]? = some l → l.1 ≠ 0 → ∀ c, chV c → inL l c → ub x.2 j c = false
/-- the literals ahead of k are so with the values of e -/
def jSat (x : Rl) (k : Nat) (e : Env) (L : List Fct) : Prop := ∀ (j : Nat) l, j < k → x.2[j]? = some l → ∀ σ, eA σ e → (l.1 = 0 → sL σ l ∈ L) ∧ (l.1 = 1 → ¬ sL σ l ∈ L) ∧ (l.1 = 2 → unl σ l)
def jE (x : Rl) (fl : Int32 → Bool) (k : Nat) (L : List Fct) (s : cS) (e : Env) : Prop := uE (ub x.2 k) e ∧ cEnv s e ∧ eG fl e ∧ jSat x k e L
def jI (R : List Rl) (P : List Fct → Prop) (Qs : Nat → Prop) (B : List Fct) (s : cS) (L : List Fct) : Prop := cFacts s L ∧ St R P Qs B L ∧ (s.1 130 = 0 ∨ (s.1 130 = 1 ∧ Bad R P))
def jfr (s s' : cS) : Prop := (∀ i, i ≠ 129 → i ≠ 130 → s'.1 i = s.1 i) ∧ (∀ i, i < 7 ∨ 16 < i → s'.2.1 i = s.2.1 i) ∧ s'.2.2 = s.2.2
theorem jfr.refl (s : cS) : jfr s s := ⟨fun _ _ _ => rfl, fun _ _ => rfl, rfl⟩
theorem jfr.trans {s s' s'' : cS} (h : jfr s s') (g : jfr s' s'') : jfr s s'' := ⟨fun i a b => (g.1 i a b).trans (h.1 i a b), fun i a => (g.2.1 i a).trans (h.2.1 i a), g.2.2.trans h.2.2⟩
theorem fcx.j {s s' : cS} (h : fcx s s') : jfr s s' := ⟨h.1, fun i a => h.2.1 i (by omega), h.2.2⟩
theorem frB.j {s s' : cS} (h : frB s s') : jfr s s' := ⟨fun i _ _ => by rw [h.1], fun i a => h.2.1 i (by omega), h.2.2⟩
/-- the facts that count in each step: from lo to hi, counted from 1 -/
def rngs (s : cS) (lo hi : Nat → Nat) (n : Nat) : Prop := ∀ j, j < 5 → (if nI j = s.1 105 then s.1 106 else 1) = nI (lo j) ∧ (if s.1 105 ≤ nI j then s.1 107 else s.1 106 - 1) = nI (hi j) ∧ 1 ≤ lo j ∧ lo j ≤ 201 ∧ hi j ≤ n
theorem rngs.fr {s s' : cS} {lo hi : Nat → Nat} {n : Nat} (h : rngs s lo hi n) (g : jfr s s') : rngs s' lo hi n := by
  intro j hj
  rw [g.1 105 (by decide) (by decide), g.1 106 (by decide) (by decide), g.1 107 (by decide) (by decide)]
  exact h j hj
/-- all that the literals from k on could give is there -/
def jC (x : Rl) (LH : List Fct) (lo hi : Nat → Nat) (k : Nat) (e : Env) (L : List Fct) : Prop := ∀ σ, adm x σ → eA σ e → (∀ (j : Nat) l, k ≤ j → x.2[j]? = some l → (l.1 = 0 → ∃ i, lo j ≤ i + 1 ∧ i + 1 ≤ hi j ∧ LH[i]? = some (sL σ l)) ∧ (l.1 = 1 → ¬ sL σ l ∈ LH) ∧ (l.1 = 2 → unl σ l)) → sL σ x.1 ∈ L
def jP (R : List Rl) (P : List Fct → Prop) (Qs : Nat → Prop) (B : List Fct) (x : Rl) (LH : List Fct) (lo hi : Nat → Nat) (k : Nat) (e : Env) (s : cS) (L : List Fct) (r : Int32) (s' : cS) (L' : List Fct) : Prop := jfr s s' ∧ jI R P Qs B s' L' ∧ (∃ K, L' = L ++ K ∧ ∀ f ∈ K, f.1 = lk x.1) ∧ cEnv s' e ∧ (r = 0 ∨ r = 1) ∧ (s.1 130 ≠ 0 → s'.1 130 ≠ 0) ∧ (s'.1 130 = 0 → jC x LH lo hi k e L') ∧ (r ≠ 0 → s'.1 130 = 0 → ∃ σ, eA σ e ∧ sL σ x.1 ∈ L')
def JN (N0 : Nat) (K : Nat → Nat) (d C a : Nat) (G : gm_H) (sz : Nat) (R : List Rl) (P : List Fct → Prop) (Qs : Nat → Prop) (B : List Fct) (x : Rl) (fl : Int32 → Bool) (LH : List Fct) (lo hi : Nat → Nat) (k : Nat) : Prop := ∀ (e : Env) (s : cS) (L : List Fct) (Q : Int32 → cS → Prop), jI R P Qs B s L → (∃ K, L = LH ++ K ∧ ∀ f ∈ K, ¬ Qs f.1) → rngs s lo hi LH.length → jE x fl k L s e → (∀ r s' L', jP R P Qs B x LH lo hi k e s L r s' L' → Q r s') → kX2_join N0 K d C a (nI k) s G sz Q
theorem sge_eA (e : Env) : eA (sge e) e := by
  intro c t _ ht
  unfold sge
  rw [ht]
theorem sge_some {e : Env} {c : Int32} (h : e c ≠ none) : e c = some (sge e c) := by
  unfold sge
  cases e1 : e c with
  | none => exact absurd e1 h
  | some t => rfl
theorem uE.bound {u : Int32 → Bool} {e : Env} (h : uE u e) {c : Int32} (hc : chV c) (hu : u c = false) : e c = some (sge e c) := by
  refine sge_some (fun z => ?_)
  have := h c hc
  rw [hu, z] at this
  cases this
theorem cFacts.fr {s s' : cS} {L : List Fct} (h : cFacts s L) (h1 : s'.1 129 = s.1 129) (h2 : ∀ i, 7 ≤ i → i ≤ 15 → s'.2.1 i = s.2.1 i) : cFacts s' L := by
  unfold cFacts cFac at h ⊢
  rw [h1, h2 7 (by decide) (by decide), h2 8 (by decide) (by decide), h2 9 (by decide) (by decide), h2 10 (by decide) (by decide), h2 11 (by decide) (by decide), h2 12 (by decide) (by decide), h2 13 (by decide) (by decide), h2 14 (by decide) (by decide), h2 15 (by decide) (by decide)]
  exact h
theorem jI.fr {R : List Rl} {P : List Fct → Prop} {Qs : Nat → Prop} {B : List Fct} {s s' : cS} {L : List Fct} (h : jI R P Qs B s L) (g : frB s s') : jI R P Qs B s' L := ⟨h.1.fr (by rw [g.1]) (fun i a b => g.2.1 i (by omega)), h.2.1, by rw [g.1]; exact h.2.2⟩
theorem cEnv.fr {s s' : cS} {e : Env} (h : cEnv s e) (g : s'.2.1 16 = s.2.1 16) : cEnv s' e := by
  unfold cEnv at h ⊢
  rw [g]
  exact h
