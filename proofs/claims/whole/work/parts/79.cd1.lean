/-! what a game is, of its rules: rows, views -/
def lsame (L L' : List Fct) : Prop := ∀ f, f ∈ L ↔ f ∈ L'
theorem mdl_same {R : List Rl} (hf : flNone R) {B L L' : List Fct} (h : Mdl R B L) (g : Mdl R B L') : lsame L L' := by
  refine Mdl.uniq (ly := cReach R) (fun r hr l hl h2 => ?_) h g
  have := cReach_dep (fun x hx => hf.n4 hx) hr hl h2
  unfold kd
  by_cases k1 : l.1 = 1
  · rw [if_pos k1]
    exact this.2 k1
  · rw [if_neg k1]
    exact this.1
noncomputable def vw (R : List Rl) (B : List Fct) : Option (List Fct) := by
  classical
  exact if h : ∃ L, Mdl R B L ∧ Small R L then some (Classical.choose h) else none
theorem vw_some {R : List Rl} (hf : flNone R) {B L : List Fct} (h : Mdl R B L) (hs : Small R L) : ∃ L0, vw R B = some L0 ∧ lsame L L0 := by
  unfold vw
  have he : ∃ L, Mdl R B L ∧ Small R L := ⟨L, h, hs⟩
  rw [dif_pos he]
  exact ⟨_, rfl, mdl_same hf h (Classical.choose_spec he).1⟩
theorem vw_none {R : List Rl} {B : List Fct} (h : Bad R (isB B)) : vw R B = none := by
  unfold vw
  rw [dif_neg]
  rintro ⟨L, h1, h2⟩
  exact h B L (fun f => Iff.rfl) h1 h2
theorem vw_get {R : List Rl} {B L : List Fct} (h : vw R B = some L) : Mdl R B L ∧ Small R L := by
  unfold vw at h
  by_cases he : ∃ L, Mdl R B L ∧ Small R L
  · rw [dif_pos he] at h
    rw [← Option.some.inj h]
    exact Classical.choose_spec he
  · rw [dif_neg he] at h
    cases h
noncomputable def rowS (S : Tm → Prop) : List Tm := by
  classical
  exact if h : ∃ T, okT T ∧ ∀ x, x ∈ T ↔ S x then Classical.choose h else []
theorem rowS_eq {S : Tm → Prop} {T : List Tm} (h : okT T) (hm : ∀ x, x ∈ T ↔ S x) : rowS S = T := by
  unfold rowS
  have he : ∃ T, okT T ∧ ∀ x, x ∈ T ↔ S x := ⟨T, h, hm⟩
  rw [dif_pos he]
  have := Classical.choose_spec he
  exact okT.uniq this.1 h (fun t => (this.2 t).trans (hm t).symm)
theorem rowS_congr {S S' : Tm → Prop} (h : ∀ x, S x ↔ S' x) : rowS S = rowS S' := by
  have : S = S' := funext (fun x => propext (h x))
  rw [this]
/-- moves of a player, goals, an end, the states that rules tell -/
noncomputable def aMv (L : List Fct) (P : List Tm) (i : Nat) : List Tm := rowS (fun x => ∃ r, P[i]? = some r ∧ ((306, [r, x]) : Fct) ∈ L)
noncomputable def aGs (L : List Fct) (P : List Tm) (i : Nat) : List Tm := rowS (fun x => ∃ r, P[i]? = some r ∧ ((286, [r, x]) : Fct) ∈ L)
noncomputable def aRw (k : Nat) (L : List Fct) : List Tm := rowS (fun x => ((k, [x]) : Fct) ∈ L)
def aEn (L : List Fct) : Prop := ((276, []) : Fct) ∈ L
noncomputable def aSt (k : Nat) (L : List Fct) : Option (List Tm) := by
  classical
  exact if ∃ T, okT T ∧ T.length ≤ 24 ∧ ∀ x, x ∈ T ↔ ((k, [x]) : Fct) ∈ L then some (aRw k L) else none
def goalV (T : List Tm) : Int32 := match T with
  | [t] => if t.1 = 0 ∧ 48 ≤ cn (ps_hc t.2) ∧ cn (ps_hc t.2) ≤ 56 then nI (cn (ps_hc t.2) - 48) else -1
  | _ => -1
theorem aMv_same {L L' : List Fct} (h : lsame L L') (P : List Tm) (i : Nat) : aMv L P i = aMv L' P i := rowS_congr (fun x => ⟨fun ⟨r, a, b⟩ => ⟨r, a, (h _).mp b⟩, fun ⟨r, a, b⟩ => ⟨r, a, (h _).mpr b⟩⟩)
theorem aGs_same {L L' : List Fct} (h : lsame L L') (P : List Tm) (i : Nat) : aGs L P i = aGs L' P i := rowS_congr (fun x => ⟨fun ⟨r, a, b⟩ => ⟨r, a, (h _).mp b⟩, fun ⟨r, a, b⟩ => ⟨r, a, (h _).mpr b⟩⟩)
theorem aRw_same {L L' : List Fct} (h : lsame L L') (k : Nat) : aRw k L = aRw k L' := rowS_congr (fun x => h _)
theorem aSt_same {L L' : List Fct} (h : lsame L L') (k : Nat) : aSt k L = aSt k L' := by
  unfold aSt
  rw [aRw_same h k]
  have : (∃ T, okT T ∧ T.length ≤ 24 ∧ ∀ x, x ∈ T ↔ ((k, [x]) : Fct) ∈ L) ↔ (∃ T, okT T ∧ T.length ≤ 24 ∧ ∀ x, x ∈ T ↔ ((k, [x]) : Fct) ∈ L') := ⟨fun ⟨T, a, b, c⟩ => ⟨T, a, b, fun x => (c x).trans (h _)⟩, fun ⟨T, a, b, c⟩ => ⟨T, a, b, fun x => (c x).trans (h _).symm⟩⟩
  by_cases he : ∃ T, okT T ∧ T.length ≤ 24 ∧ ∀ x, x ∈ T ↔ ((k, [x]) : Fct) ∈ L
  · rw [if_pos he, if_pos (this.mp he)]
  · rw [if_neg he, if_neg (fun z => he (this.mpr z))]
theorem aSt_some {k : Nat} {L : List Fct} {T : List Tm} (h : okT T) (hl : T.length ≤ 24) (hm : ∀ x, x ∈ T ↔ ((k, [x]) : Fct) ∈ L) : aSt k L = some T := by
  unfold aSt
  rw [if_pos ⟨T, h, hl, hm⟩]
  exact congrArg some (rowS_eq h hm)
theorem aSt_none {k : Nat} {L : List Fct} (h : ¬ ∃ T, okT T ∧ T.length ≤ 24 ∧ ∀ x, x ∈ T ↔ ((k, [x]) : Fct) ∈ L) : aSt k L = none := by
  unfold aSt
  rw [if_neg h]
theorem aSt_get {k : Nat} {L : List Fct} {T : List Tm} (h : aSt k L = some T) : okT T ∧ T.length ≤ 24 ∧ ∀ x, x ∈ T ↔ ((k, [x]) : Fct) ∈ L := by
  unfold aSt at h
  by_cases he : ∃ T, okT T ∧ T.length ≤ 24 ∧ ∀ x, x ∈ T ↔ ((k, [x]) : Fct) ∈ L
  · rw [if_pos he] at h
    obtain ⟨T', a, b, c⟩ := he
    have : aRw k L = T' := rowS_eq a c
    rw [← Option.some.inj h, this]
    exact ⟨a, b, c⟩
  · rw [if_neg he] at h
    cases h
/-- more terms than the row holds -/
theorem row_over {S : Tm → Prop} {T : List Tm} {n : Nat} {t : Tm} (ho : okT T) (hs : ∀ x ∈ T, S x) (ht : ¬ t ∈ T) (hl : T.length = n) (hS : S t) : ¬ ∃ T', okT T' ∧ T'.length ≤ n ∧ ∀ x, x ∈ T' ↔ S x := by
  rintro ⟨T', a, b, c⟩
  have hnd : (((t :: T).map (fun x => ((0, [x]) : Fct))) : List Fct).Nodup := by
    have h1 : (t :: T).Nodup := List.nodup_cons.mpr ⟨ht, ho.nodup⟩
    refine List.Pairwise.map _ ?_ h1
    intro x y hxy e
    simp only [Prod.mk.injEq, List.cons.injEq, and_true, true_and] at e
    exact hxy e
  have := nodup_sub_len (M := T'.map (fun x => ((0, [x]) : Fct))) hnd (fun f hf => by
    obtain ⟨x, hx, rfl⟩ := List.mem_map.mp hf
    refine List.mem_map.mpr ⟨x, (c x).mpr ?_, rfl⟩
    rcases List.mem_cons.mp hx with z | z
    · rw [z]; exact hS
    · exact hs x z)
  simp only [List.length_map, List.length_cons] at this
  omega
/-- the relations of keywords -/
theorem vr_R : vr 329 ∧ cr 329 = 0 := ⟨⟨82, [(0, [97])], ⟨Or.inr ⟨by decide, by decide⟩, by decide, fun x hx => by
  simp only [List.mem_singleton] at hx
  rw [hx]
  exact Or.inl ⟨rfl, 97, Or.inl (by decide), rfl⟩⟩, by decide⟩, by decide⟩
theorem vr_I : vr 293 ∧ cr 293 = 1 := ⟨⟨73, [(0, [97])], ⟨Or.inr ⟨by decide, by decide⟩, by decide, fun x hx => by
  simp only [List.mem_singleton] at hx
  rw [hx]
  exact Or.inl ⟨rfl, 97, Or.inl (by decide), rfl⟩⟩, by decide⟩, by decide⟩
theorem vr_N : vr 313 ∧ cr 313 = 3 := ⟨⟨78, [(0, [97])], ⟨Or.inr ⟨by decide, by decide⟩, by decide, fun x hx => by
  simp only [List.mem_singleton] at hx
  rw [hx]
  exact Or.inl ⟨rfl, 97, Or.inl (by decide), rfl⟩⟩, by decide⟩, by decide⟩
theorem vr_L : vr 306 ∧ cr 306 = 5 := ⟨⟨76, [(0, [97]), (0, [97])], ⟨Or.inr ⟨by decide, by decide⟩, by decide, fun x hx => by
  simp only [List.mem_cons, List.not_mem_nil, or_false, or_self] at hx
  rw [hx]
  exact Or.inl ⟨rfl, 97, Or.inl (by decide), rfl⟩⟩, by decide⟩, by decide⟩
theorem vr_G : vr 286 ∧ cr 286 = 6 := ⟨⟨71, [(0, [97]), (0, [97])], ⟨Or.inr ⟨by decide, by decide⟩, by decide, fun x hx => by
  simp only [List.mem_cons, List.not_mem_nil, or_false, or_self] at hx
  rw [hx]
  exact Or.inl ⟨rfl, 97, Or.inl (by decide), rfl⟩⟩, by decide⟩, by decide⟩
theorem vr_E : vr 276 ∧ cr 276 = 7 := ⟨⟨69, [], ⟨Or.inr ⟨by decide, by decide⟩, by decide, fun x hx => absurd hx (by simp)⟩, by decide⟩, by decide⟩
theorem cf1 {L : List Fct} (hL : ∀ f ∈ L, wfC f) {k r : Nat} (hk : vr k ∧ cr k = r) (h1 : k % 4 = 1) (x : Tm) : (∃ f ∈ L, cr f.1 = r ∧ f.2[0]? = some x) ↔ ((k, [x]) : Fct) ∈ L := by
  constructor
  · rintro ⟨f, hf, a, b⟩
    have hw := hL f hf
    have e : f.1 = k := cr_inj hw.2 hk.1 (by rw [a, hk.2])
    have hl := hw.1.2.1
    rw [e, h1] at hl
    have : f = (k, [x]) := by
      obtain ⟨f1, f2⟩ := f
      simp only at e hl b
      subst e
      match f2, hl, b with
      | [y], _, b =>
        simp only [List.getElem?_cons_zero, Option.some.injEq] at b
        rw [b]
    rw [← this]
    exact hf
  · intro h
    exact ⟨_, h, hk.2, rfl⟩
theorem cf1_ex {L : List Fct} (hL : ∀ f ∈ L, wfC f) {k r : Nat} (hk : vr k ∧ cr k = r) (h1 : k % 4 = 1) : ∀ f ∈ L, cr f.1 = r → ∃ t, f.2[0]? = some t := by
  intro f hf a
  have hw := hL f hf
  have e : f.1 = k := cr_inj hw.2 hk.1 (by rw [a, hk.2])
  have hl := hw.1.2.1
  rw [e, h1] at hl
  exact ⟨_, List.getElem?_eq_getElem (by omega)⟩
theorem cf2 {L : List Fct} (hL : ∀ f ∈ L, wfC f) {k r : Nat} (hk : vr k ∧ cr k = r) (h1 : k % 4 = 2) (x : Tm) (u : Int32) : (∃ f ∈ L, cr f.1 = r ∧ te f.2 0 = u ∧ f.2[1]? = some x) ↔ ∃ a, gT a ∧ u = nI (tE a) ∧ ((k, [a, x]) : Fct) ∈ L := by
  constructor
  · rintro ⟨f, hf, a, b, c⟩
    have hw := hL f hf
    have e : f.1 = k := cr_inj hw.2 hk.1 (by rw [a, hk.2])
    have hl := hw.1.2.1
    rw [e, h1] at hl
    obtain ⟨f1, f2⟩ := f
    simp only at e hl b c
    subst e
    match f2, hl, b, c, hw, hf with
    | [y, z], _, b, c, hw, hf =>
      simp only [List.getElem?_cons_succ, List.getElem?_cons_zero, Option.some.injEq] at c
      subst c
      exact ⟨y, hw.1.2.2 y (by simp), b.symm, hf⟩
  · rintro ⟨a, _, b, c⟩
    exact ⟨_, c, hk.2, b.symm, rfl⟩
theorem cf2_ex {L : List Fct} (hL : ∀ f ∈ L, wfC f) {k r : Nat} (hk : vr k ∧ cr k = r) (h1 : k % 4 = 2) : ∀ f ∈ L, cr f.1 = r → ∃ t, f.2[1]? = some t := by
  intro f hf a
  have hw := hL f hf
  have e : f.1 = k := cr_inj hw.2 hk.1 (by rw [a, hk.2])
  have hl := hw.1.2.1
  rw [e, h1] at hl
  exact ⟨_, List.getElem?_eq_getElem (by omega)⟩
theorem cFacts.wf {s : cS} {L : List Fct} (h : cFacts s L) : ∀ f ∈ L, wfC f := by
  intro f hf
  obtain ⟨i, hi⟩ := List.getElem?_of_mem hf
  exact (h.2.2.1 i f hi).1
/-- the ints that what follows is worked out with -/
def fIn (i : Nat) : Prop := i ≠ 88 ∧ i ≠ 102 ∧ i ≠ 103 ∧ i ≠ 105 ∧ i ≠ 106 ∧ i ≠ 107 ∧ i ≠ 129 ∧ i ≠ 130
/-- all but the facts and the rows at ps stays -/
def gfr (ps : Nat → Prop) (s s' : cS) : Prop := (∀ i, fIn i → (∀ p, ps p → i ≠ 20 * p + 1) → s'.1 i = s.1 i) ∧ (∀ i, i < 7 ∨ 16 < i → (∀ p, ps p → i ≠ p + 1) → s'.2.1 i = s.2.1 i) ∧ ∀ i, i ≠ 101 → s'.2.2 i = s.2.2 i
theorem gfr.refl (ps : Nat → Prop) (s : cS) : gfr ps s s := ⟨fun _ _ _ => rfl, fun _ _ _ => rfl, fun _ _ => rfl⟩
theorem gfr.trans {ps : Nat → Prop} {s s' s'' : cS} (h : gfr ps s s') (g : gfr ps s' s'') : gfr ps s s'' := ⟨fun i a b => (g.1 i a b).trans (h.1 i a b), fun i a b => (g.2.1 i a b).trans (h.2.1 i a b), fun i a => (g.2.2 i a).trans (h.2.2 i a)⟩
theorem gfr.mono {ps qs : Nat → Prop} {s s' : cS} (h : gfr ps s s') (g : ∀ p, ps p → qs p) : gfr qs s s' := ⟨fun i a b => h.1 i a (fun p hp => b p (g p hp)), fun i a b => h.2.1 i a (fun p hp => b p (g p hp)), h.2.2⟩
theorem ffr.g {ps : Nat → Prop} {s s' : cS} (h : ffr s s') : gfr ps s s' := ⟨fun i a _ => h.1 i a.2.2.2.2.2.2.1 a.2.2.2.2.2.2.2 a.2.1 a.2.2.1 a.2.2.2.1 a.2.2.2.2.1 a.2.2.2.2.2.1, fun i a _ => h.2.1 i a, h.2.2⟩
theorem tfr.g {ps : Nat → Prop} {p : Nat} {s s' : cS} (h : tfr p s s') (hp : ps p) : gfr ps s s' := ⟨fun i _ b => h.1 i (b p hp), fun i _ b => h.2.1 i (b p hp), fun i _ => by rw [h.2.2]⟩
theorem gfr.e (ps : Nat → Prop) (s : cS) (v : Int32) : gfr ps s (cI s 88 v) := ⟨fun i a _ => if_neg a.1, fun _ _ _ => rfl, fun _ _ => rfl⟩
theorem tS.fr {ps : Nat → Prop} {s s' : cS} {p : Nat} {T : List Tm} (h : tS s p T) (g : gfr ps s s') (hp : 16 < p) (hn : ∀ q, ps q → q ≠ p) : tS s' p T := by
  refine ⟨?_, fun i t ht => ?_⟩
  · rw [g.1 (20 * p + 1) (by unfold fIn; omega) (fun q hq => by have := hn q hq; omega)]
    exact h.1
  · rw [g.2.1 (p + 1) (by omega) (fun q hq => by have := hn q hq; omega)]
    exact h.2 i t ht
theorem tS.cTs {C p n : Nat} {s : cS} {G : gm_H} {T : List Tm} (hp : posT p n) (h : tS s p T) (hl : T.length ≤ n) (hg : ∀ t ∈ T, gT t) : cTs C s G (C + p) T := by
  have hp1 := hp.1
  have hn := hp.2.1
  refine ⟨C + (p + 1), n, s.2.1 (p + 1), fun s' hf => ?_, hl, by omega, fun i t ht => ⟨hg t (List.mem_of_getElem? ht), h.2 i t ht⟩⟩
  have h0 := hp.2.2 C s' G
  rw [h0.1, h0.2.1, hf.1 (20 * p + 1) (by omega) (by omega) (by omega) (by omega) (by omega) (by omega) (by omega), h.1, hf.2.1 (p + 1) (by omega)]
  exact ⟨rfl, rfl⟩
/-- what the follower's rows hold stays, if these do -/
def nfr (s s' : cS) : Prop := s'.1 102 = s.1 102 ∧ s'.1 103 = s.1 103 ∧ s'.1 129 = s.1 129 ∧ (∀ i, 7 ≤ i → i ≤ 16 → s'.2.1 i = s.2.1 i) ∧ s'.2.2 101 = s.2.2 101
theorem nfr.trans {s s' s'' : cS} (h : nfr s s') (g : nfr s' s'') : nfr s s'' := ⟨g.1.trans h.1, g.2.1.trans h.2.1, g.2.2.1.trans h.2.2.1, fun i a b => (g.2.2.2.1 i a b).trans (h.2.2.2.1 i a b), g.2.2.2.2.trans h.2.2.2.2⟩
theorem tfr.n {p : Nat} {s s' : cS} (h : tfr p s s') (hp : 16 < p) : nfr s s' := ⟨h.1 102 (by omega), h.1 103 (by omega), h.1 129 (by omega), fun i _ b => h.2.1 i (by omega), by rw [h.2.2]⟩
theorem nfr.e (s : cS) (v : Int32) : nfr s (cI s 88 v) := ⟨rfl, rfl, rfl, fun _ _ _ => rfl, rfl⟩
theorem nfr.facts {s s' : cS} {L : List Fct} (h : nfr s s') (g : cFacts s L) : cFacts s' L := g.fr h.2.2.1 (fun i a b => h.2.2.2.1 i a (by omega))
theorem FI0.n {O : List Rl} {ly : Nat → Nat} {e0 z : Nat} {s s' : cS} {L0 L : List Fct} (h : FI0 O ly e0 z s L0 L) (g : nfr s s') : FI0 O ly e0 z s' L0 L := ⟨h.1, g.facts h.2.1, by rw [g.1]; exact h.2.2.1, h.2.2.2.1, h.2.2.2.2.1, by rw [g.2.2.2.1 16 (by decide) (by decide)]; exact h.2.2.2.2.2.1, by rw [g.2.2.2.2]; exact h.2.2.2.2.2.2⟩
theorem FI1.n {O : List Rl} {ly : Nat → Nat} {e0 e1 z : Nat} {T : List Tm} {s s' : cS} {L0 L1 L : List Fct} (h : FI1 O ly e0 e1 z T s L0 L1 L) (g : nfr s s') : FI1 O ly e0 e1 z T s' L0 L1 L := ⟨h.1.n g, h.2.1, h.2.2.1, by rw [g.2.1]; exact h.2.2.2.1, h.2.2.2.2⟩
/-- layers in the heap, of the rules R -/
def LYR (G : gm_H) (C z : Nat) (R O : List Rl) (ly : Nat → Nat) (e0 e1 : Nat) : Prop := ∃ st e2 rc p0, LyC O ly st e0 e1 e2 rc ∧ (C + 185 ≤ p0 ∧ p0 ≤ z ∧ lyG G p0 z O st e0 e1 e2 rc) ∧ pmR R O ∧ pmR O R
theorem LYR.ext {G G' : gm_H} {C z : Nat} {R O : List Rl} {ly : Nat → Nat} {e0 e1 : Nat} (h : LYR G C z R O ly e0 e1) (hg : ∀ a y, C + 185 ≤ a → G a = some y → G' a = some y) : LYR G' C z R O ly e0 e1 := by
  obtain ⟨st, e2, rc, p0, a, ⟨b1, b2, b3⟩, c⟩ := h
  exact ⟨st, e2, rc, p0, a, ⟨b1, b2, b3.ext b2 (fun x y hx => hg x y (by omega))⟩, c⟩
def LYX (G : gm_H) (C z : Nat) (R : List Rl) : Prop := ∃ O ly e0 e1, LYR G C z R O ly e0 e1
theorem LYX.ext {G G' : gm_H} {C z : Nat} {R : List Rl} (h : LYX G C z R) (hg : ∀ a y, C + 185 ≤ a → G a = some y → G' a = some y) : LYX G' C z R := by
  obtain ⟨O, ly, e0, e1, a⟩ := h
  exact ⟨O, ly, e0, e1, a.ext hg⟩
/-- the follower is ready for a state; is in the state T and holds L -/
def FB (G : gm_H) (C z : Nat) (R : List Rl) (s : cS) : Prop := ∃ O ly e0 e1 L0 L, LYR G C z R O ly e0 e1 ∧ FI0 O ly e0 z s L0 L
def FS (G : gm_H) (C z : Nat) (R : List Rl) (T : List Tm) (s : cS) (L : List Fct) : Prop := ∃ O ly e0 e1 L0 L1, LYR G C z R O ly e0 e1 ∧ FI1 O ly e0 e1 z T s L0 L1 L
theorem FS.ext {G G' : gm_H} {C z : Nat} {R : List Rl} {T : List Tm} {s : cS} {L : List Fct} (h : FS G C z R T s L) (hg : ∀ a y, C + 185 ≤ a → G a = some y → G' a = some y) : FS G' C z R T s L := by
  obtain ⟨O, ly, e0, e1, L0, L1, a, b⟩ := h
  exact ⟨O, ly, e0, e1, L0, L1, a.ext hg, b⟩
theorem FB.ext {G G' : gm_H} {C z : Nat} {R : List Rl} {s : cS} (h : FB G C z R s) (hg : ∀ a y, C + 185 ≤ a → G a = some y → G' a = some y) : FB G' C z R s := by
  obtain ⟨O, ly, e0, e1, L0, L, a, b⟩ := h
  exact ⟨O, ly, e0, e1, L0, L, a.ext hg, b⟩
theorem FS.b {G : gm_H} {C z : Nat} {R : List Rl} {T : List Tm} {s : cS} {L : List Fct} (h : FS G C z R T s L) : FB G C z R s := by
  obtain ⟨O, ly, e0, e1, L0, L1, a, b⟩ := h
  exact ⟨O, ly, e0, e1, L0, L, a, b.1⟩
theorem FS.f {G : gm_H} {C z : Nat} {R : List Rl} {T : List Tm} {s : cS} {L : List Fct} (h : FS G C z R T s L) : cFacts s L := by
  obtain ⟨O, ly, e0, e1, L0, L1, a, b⟩ := h
  exact b.1.2.1
theorem FS.n {G : gm_H} {C z : Nat} {R : List Rl} {T : List Tm} {s s' : cS} {L : List Fct} (h : FS G C z R T s L) (g : nfr s s') : FS G C z R T s' L := by
  obtain ⟨O, ly, e0, e1, L0, L1, a, b⟩ := h
  exact ⟨O, ly, e0, e1, L0, L1, a, b.n g⟩
theorem FB.n {G : gm_H} {C z : Nat} {R : List Rl} {s s' : cS} (h : FB G C z R s) (g : nfr s s') : FB G C z R s' := by
  obtain ⟨O, ly, e0, e1, L0, L1, a, b⟩ := h
  exact ⟨O, ly, e0, e1, L0, L1, a, b.n g⟩
theorem FB.c {G : gm_H} {C z : Nat} {R : List Rl} {s : cS} (h : FB G C z R s) : (∃ L, cFacts s L) ∧ s.2.1 16 0 = 0 := by
  obtain ⟨O, ly, e0, e1, L0, L1, a, b⟩ := h
  exact ⟨⟨L1, b.2.1⟩, b.2.2.2.2.2.1⟩
theorem kq_begin {N0 : Nat} {K : Nat → Nat} {d C z : Nat} {G : gm_H} {sz : Nat} {R : List Rl} {s : cS} {L : List Fct} {Q : Int32 → cS → Prop} (hN : N0 ≤ C) (hl : LYX G C z R) (hL : cFacts s L) (h16 : s.2.1 16 0 = 0) (q1 : ∀ s', ffr s s' → FB G C z R s' → Q 1 s') (q0 : ∀ s' L', ffr s s' → cFacts s' L' → s'.2.1 16 0 = 0 → Bad R TD → Q 0 s') : kX2_begin N0 K (d + 15) C z s G sz Q := by
  obtain ⟨O, ly, e0, e1, st, e2, rc, p0, a, ⟨b1, b2, b⟩, c, e⟩ := hl
  exact cq_begin hN a (b.lay (by omega) (by omega)) hL h16 (fun s' L' f g => q1 s' f ⟨O, ly, e0, e1, L', L', ⟨st, e2, rc, p0, a, ⟨b1, b2, b⟩, c, e⟩, g⟩) (fun s' L' f g h _ i => q0 s' L' f g h (c.bad e i))
theorem kq_inState {N0 : Nat} {K : Nat → Nat} {d C p z : Nat} {G : gm_H} {sz : Nat} {R : List Rl} {T : List Tm} {s : cS} {Q : Int32 → cS → Prop} (hN : N0 ≤ C) (hF : FB G C z R s) (hT : cTs C s G p T) (hnd : T.Nodup) (h24 : T.length ≤ 200) (q1 : ∀ s' L, ffr s s' → FS G C z R T s' L → Mdl R (bT T) L → Small R L → Q 1 s') (q0 : ∀ s', ffr s s' → FB G C z R s' → Bad R (isB (bT T)) → Q 0 s') : kX2_inState N0 K (d + 15) C p s G sz Q := by
  obtain ⟨O, ly, e0, e1, L0, L, ⟨st, e2, rc, p0, a, ⟨b1, b2, b⟩, c, e⟩, h⟩ := hF
  exact cq_inState hN a (b.lay (by omega) (by omega)) hT hnd h24 h (fun s' L1 L' f g i j => q1 s' L' f ⟨O, ly, e0, e1, L0, L1, ⟨st, e2, rc, p0, a, ⟨b1, b2, b⟩, c, e⟩, g⟩ (c.mdl e i) (c.small j)) (fun s' L' f g i => q0 s' f ⟨O, ly, e0, e1, L0, L', ⟨st, e2, rc, p0, a, ⟨b1, b2, b⟩, c, e⟩, g⟩ (c.bad e i))
theorem kq_byMove {N0 : Nat} {K : Nat → Nat} {d C z : Nat} {G : gm_H} {sz : Nat} {R : List Rl} {T : List Tm} {r0 m0 r1 m1 : Tm} {s : cS} {L : List Fct} {Q : Int32 → cS → Prop} (hN : N0 ≤ C) (g0 : gT r0) (g1 : gT m0) (g2 : gT r1) (g3 : gT m1) (hne : r0 ≠ r1) (hF : FS G C z R T s L) (q1 : ∀ s' L', ffr s s' → FS G C z R T s' L' → Mdl R (bT T ++ bD r0 m0 r1 m1) L' → Small R L' → Q 1 s') (q0 : ∀ s' L', ffr s s' → FS G C z R T s' L' → Bad R (isB (bT T ++ bD r0 m0 r1 m1)) → Q 0 s') : kX2_byMove N0 K (d + 15) C (nI (tE r0)) (nI (tE m0)) (nI (tE r1)) (nI (tE m1)) s G sz Q := by
  obtain ⟨O, ly, e0, e1, L0, L1, ⟨st, e2, rc, p0, a, ⟨b1, b2, b⟩, c, e⟩, h⟩ := hF
  exact cq_byMove hN a (b.lay (by omega) (by omega)) g0 g1 g2 g3 hne h (fun s' L' f g i j => q1 s' L' f ⟨O, ly, e0, e1, L0, L1, ⟨st, e2, rc, p0, a, ⟨b1, b2, b⟩, c, e⟩, g⟩ (c.mdl e i) (c.small j)) (fun s' L' f g i => q0 s' L' f ⟨O, ly, e0, e1, L0, L1, ⟨st, e2, rc, p0, a, ⟨b1, b2, b⟩, c, e⟩, g⟩ (c.bad e i))
