/-! the reference: collecting terms, states, ends and goals -/
def cfw (s s' : mS) : Prop := (∀ i, i ≠ 38 → s'.1 i = s.1 i) ∧ s'.2.1 = s.2.1 ∧ ∀ i, i ≠ 37 → s'.2.2 i = s.2.2 i
theorem cfw.trans {s s' s'' : mS} (h : cfw s s') (g : cfw s' s'') : cfw s s'' := ⟨fun i a => (g.1 i a).trans (h.1 i a), g.2.1.trans h.2.1, fun i a => (g.2.2 i a).trans (h.2.2 i a)⟩
def selP (k : Nat) (w : Option Tm) (a : Nat) (f : Fct) (x : Tm) : Prop := f.1 = k ∧ (∀ r, w = some r → f.2[0]? = some r) ∧ f.2[a]? = some x
def wT (w : Option Tm) : Int64 := match w with
  | some r => lN (tL r)
  | none => 0
theorem tl_get {ts : List Tm} {i : Nat} {t : Tm} (h : ts[i]? = some t) : tl ts i = lN (tL t) := by
  unfold tl
  rw [h]
theorem rs_coll68 {d k i : Nat} {w : Option Tm} {a : Nat} {t : Tm} {T : List Tm} {s0 : mS} {Q : Unit → mS → Prop} (ho : okT T) (ht : gT t) (hn : ¬ t ∈ T) (hl : T.length ≤ 199) (hi : i < 200) (q : ∀ s' T', cfw s0 s' → rT s' 37 0 T' → s'.1 38 = nI T'.length → okT T' → T'.length = T.length + 1 → (∀ x, x ∈ T' ↔ x = t ∨ x ∈ T) → h_collect_8 d (nI k) (wT w) (nI a) (nI (i + 1)) s' Q) : ∀ (c : Nat) (s : mS), c ≤ T.length → cfw s0 s → s.1 38 = nI T.length → (∀ (j : Nat) x, j < c → T[j]? = some x → s.2.2 37 j = lN (tL x)) → (∀ (j : Nat) x, c ≤ j → T[j]? = some x → s.2.2 37 (j + 1) = lN (tL x) ∧ tE t < tE x) → (c = T.length ∨ True) → h_collect_68 d (nI k) (wT w) (nI a) (nI i) (lN (tL t)) (nI c) s Q := by
  have htl := (tL_lt ht.1).1
  have fin : ∀ (c : Nat) (s : mS), c ≤ T.length → cfw s0 s → s.1 38 = nI T.length → (∀ (j : Nat) x, j < c → T[j]? = some x → s.2.2 37 j = lN (tL x)) → (∀ (j : Nat) x, c ≤ j → T[j]? = some x → s.2.2 37 (j + 1) = lN (tL x) ∧ tE t < tE x) → (∀ (j : Nat) x, j < c → T[j]? = some x → tE x < tE t) → h_collect_8 d (nI k) (wT w) (nI a) (nI i + (1 : Int32)) (mI (mL s 37 (vp_updL (s.2.2 37) c (lN (tL t)))) 38 ((s.1 38) + (1 : Int32))) Q := by
    intro c s hc hf h38 h1 h2 h3
    obtain ⟨b1, b2, b3, b4⟩ := ins_at ho ht hc h3 (fun j x hj hx => (h2 j x hj hx).2)
    rw [nI_1]
    refine q _ (T.take c ++ t :: T.drop c) (hf.trans ⟨fun j hj => if_neg hj, rfl, fun j hj => if_neg hj⟩) (fun j x hx => ?_) ?_ b1 b3 b2
    · rw [Nat.zero_add]
      show vp_updL (s.2.2 37) c (lN (tL t)) j = lN (tL x)
      rw [b4 j] at hx
      by_cases e1 : j < c
      · rw [if_pos e1] at hx
        rw [vl_ne (by omega)]
        exact h1 j x e1 hx
      · rw [if_neg e1] at hx
        by_cases e2 : j = c
        · rw [if_pos e2] at hx
          rw [e2, vl_eq, Option.some.inj hx]
        · rw [if_neg e2] at hx
          rw [vl_ne e2]
          have := (h2 (j - 1) x (by omega) hx).1
          rw [show j - 1 + 1 = j by omega] at this
          exact this
    · show s.1 38 + 1 = _
      rw [h38, nI_1, b3]
  intro c
  induction c with
  | zero =>
    intro s hc hf h38 h1 h2 _
    refine T_collect_68 ?_
    rw [if_pos (by decide)]
    exact ⟨0, rfl, by decide, fin 0 s hc hf h38 h1 h2 (fun j x hj => by omega)⟩
  | succ c ih =>
    intro s hc hf h38 h1 h2 _
    have hx : T[c]? = some (T[c]'(by omega)) := List.getElem?_eq_getElem (by omega)
    have hgx := ho.2 _ (List.mem_of_getElem? hx)
    have hxl := (tL_lt hgx.1).1
    refine T_collect_68 ?_
    rw [if_neg (by rw [← nI_0]; exact nI_ge (by omega) (by omega))]
    refine ⟨c, by rw [n_1, nI_sub (by omega), show c + 1 - 1 = c by omega], by omega, ?_⟩
    rw [h1 c _ (by omega) hx]
    by_cases hle : tL (T[c]'(by omega)) ≤ tL t
    · rw [if_pos ((lg_le hxl htl).mpr hle)]
      refine ⟨c + 1, rfl, by omega, fin (c + 1) s hc hf h38 h1 h2 (fun j x hj hxj => ?_)⟩
      have hlt : tE (T[c]'(by omega)) < tE t := by
        refine (tL_tE hgx.1 ht.1).mpr (Nat.lt_of_le_of_ne hle (fun e => hn ?_))
        rw [← tL_inj hgx.1 ht.1 e]
        exact List.mem_of_getElem? hx
      by_cases e : j = c
      · subst e
        rw [hx] at hxj
        rw [← Option.some.inj hxj]
        exact hlt
      · have := ho.1.get hxj hx (by omega)
        omega
    · rw [if_neg (fun z => hle ((lg_le hxl htl).mp z))]
      refine ⟨c + 1, rfl, by omega, ?_⟩
      rw [nI_sub1]
      refine ih _ (by omega) (hf.trans ⟨fun _ _ => rfl, rfl, fun j hj => if_neg hj⟩) h38 (fun j x hj hxj => ?_) (fun j x hj hxj => ?_) (Or.inr trivial)
      · show vp_updL (s.2.2 37) (c + 1) _ j = _
        rw [vl_ne (by omega)]
        exact h1 j x (by omega) hxj
      · show vp_updL (s.2.2 37) (c + 1) _ (j + 1) = _ ∧ _
        by_cases e : j = c
        · subst e
          rw [hx] at hxj
          rw [vl_eq, ← Option.some.inj hxj]
          refine ⟨rfl, (tL_tE ht.1 hgx.1).mpr (by omega)⟩
        · rw [vl_ne (by omega)]
          exact h2 j x (by omega) hxj
theorem rs_coll8 {d k : Nat} {w : Option Tm} {a : Nat} {L : List Fct} {s0 : mS} {Q : Unit → mS → Prop} (hL : rFacts s0 L) (hk : k < 512) (ha : a < 2) (hw : ∀ r, w = some r → gT r) (hex : ∀ f ∈ L, f.1 = k → ∃ x, f.2[a]? = some x) (hin : ∀ (i j : Nat) f g x, L[i]? = some f → L[j]? = some g → selP k w a f x → selP k w a g x → i = j) (q : ∀ s' T, cfw s0 s' → rT s' 37 0 T → s'.1 38 = nI T.length → okT T → T.length ≤ 200 → (∀ x, x ∈ T ↔ ∃ f ∈ L, selP k w a f x) → Q () s') : ∀ (m i : Nat) (s : mS) (T : List Tm), i + m = L.length → cfw s0 s → rT s 37 0 T → s.1 38 = nI T.length → okT T → T.length ≤ i → (∀ x, x ∈ T ↔ ∃ (j : Nat) (f : Fct), j < i ∧ L[j]? = some f ∧ selP k w a f x) → h_collect_8 d (nI k) (wT w) (nI a) (nI i) s Q := by
  have hl200 := hL.2.1
  intro m
  induction m with
  | zero =>
    intro i s T hi hf hT h38 ho hTi hm
    refine T_collect_8 ?_
    rw [hf.1 20 (by decide), hL.1, if_pos (nI_le (by omega) (by omega))]
    refine q s T hf hT h38 ho (by omega) (fun x => (hm x).trans ?_)
    constructor
    · rintro ⟨j, f, _, b, c⟩
      exact ⟨f, List.mem_of_getElem? b, c⟩
    · rintro ⟨f, b, c⟩
      obtain ⟨j, hj⟩ := List.getElem?_of_mem b
      have := (List.getElem?_eq_some_iff.mp hj).1
      exact ⟨j, f, by omega, hj, c⟩
  | succ m ih =>
    intro i s T hi hf hT h38 ho hTi hm
    have hfi : L[i]? = some (L[i]'(by omega)) := List.getElem?_eq_getElem (by omega)
    obtain ⟨w1, w2, w3, w4, w5⟩ := hL.2.2 i _ hfi
    refine T_collect_8 ?_
    rw [hf.1 20 (by decide), hL.1, if_neg (nI_ge (by omega) (by omega))]
    refine ⟨i, rfl, by omega, ?_⟩
    rw [hf.2.1, w2]
    have h22 : s.2.2 22 = s0.2.2 22 := hf.2.2 22 (by decide)
    have skip : ¬ (∃ x, selP k w a (L[i]'(by omega)) x) → h_collect_8 d (nI k) (wT w) (nI a) (nI i + (1 : Int32)) s Q := by
      intro hno
      rw [nI_1]
      refine ih (i + 1) s T (by omega) hf hT h38 ho (by omega) (fun x => (hm x).trans ?_)
      constructor
      · rintro ⟨j, f, b, c⟩
        exact ⟨j, f, by omega, c⟩
      · rintro ⟨j, f, b, c, e⟩
        by_cases ej : j = i
        · subst ej
          rw [hfi] at c
          rw [← Option.some.inj c] at e
          exact absurd ⟨x, e⟩ hno
        · exact ⟨j, f, by omega, c, e⟩
    by_cases hk1 : (L[i]'(by omega)).1 = k
    · rw [if_pos (by rw [hk1])]
      obtain ⟨x, hx⟩ := hex _ (List.mem_of_getElem? hfi) hk1
      have hgx : gT x := w1.2.2 x (List.mem_of_getElem? hx)
      have hix : (((3 : Int32) * nI i) + nI a) = nI (3 * i + a) := by rw [n_3, nI_mul, nI_add]
      have hi3 : (3 : Int32) * nI i = nI (3 * i) := by rw [n_3, nI_mul]
      have hval : s.2.2 22 (3 * i + a) = lN (tL x) := by
        rw [h22, ← tl_get hx]
        have : a = 0 ∨ a = 1 := by omega
        rcases this with e | e
        · subst e
          exact w3
        · subst e
          exact w4
      have go : (∀ r, w = some r → (L[i]'(by omega)).2[0]? = some r) → h_collect_68 d (nI k) (wT w) (nI a) (nI i) (s.2.2 22 (3 * i + a)) (s.1 38) s Q := by
        intro hr
        have hsel : selP k w a (L[i]'(by omega)) x := ⟨hk1, hr, hx⟩
        have hnx : ¬ x ∈ T := by
          intro z
          obtain ⟨j, f, b, c, e⟩ := (hm x).mp z
          have := hin j i f _ x c hfi e hsel
          omega
        rw [hval, h38]
        refine rs_coll68 (s0 := s) ho hgx hnx (by omega) (by omega) (fun s' T' f1 t1 t2 t3 t4 t5 => ?_) T.length s (Nat.le_refl _) ⟨fun _ _ => rfl, rfl, fun _ _ => rfl⟩ h38 (fun j y hj hy => by have := hT j y hy; rw [Nat.zero_add] at this; exact this) (fun j y hj hy => by have := (List.getElem?_eq_some_iff.mp hy).1; omega) (Or.inl rfl)
        refine ih (i + 1) s' T' (by omega) (hf.trans f1) t1 t2 t3 (by omega) (fun y => ?_)
        rw [t5 y, hm y]
        constructor
        · rintro (z | ⟨j, f, b, c⟩)
          · exact ⟨i, _, by omega, hfi, by rw [z]; exact hsel⟩
          · exact ⟨j, f, by omega, c⟩
        · rintro ⟨j, f, b, c, e⟩
          by_cases ej : j = i
          · subst ej
            rw [hfi] at c
            rw [← Option.some.inj c] at e
            exact Or.inl (Option.some.inj (e.2.2.symm.trans hx))
          · exact Or.inr ⟨j, f, by omega, c, e⟩
      have hlen : a < (L[i]'(by omega)).2.length := (List.getElem?_eq_some_iff.mp hx).1
      cases hww : w with
      | none =>
        subst hww
        rw [if_pos ((lg_eq (wT none) 0).mpr rfl)]
        exact ⟨3 * i + a, hix, by omega, go (fun r z => by cases z)⟩
      | some r =>
        have hgr := hw r hww
        have hrl := tL_lt hgr.1
        subst hww
        rw [if_neg (fun z => by
          have := (lg_eq _ _).mp z
          have e : lN (tL r) = lN 0 := this
          rw [lN_inj (by omega) (by decide)] at e
          omega)]
        refine ⟨3 * i, hi3, by omega, ?_⟩
        rw [h22, w3]
        have h0 : (L[i]'(by omega)).2[0]? = some ((L[i]'(by omega)).2[0]'(by omega)) := List.getElem?_eq_getElem (by omega)
        have hg0 : gT ((L[i]'(by omega)).2[0]'(by omega)) := w1.2.2 _ (List.mem_of_getElem? h0)
        have hl0 := tL_lt hg0.1
        rw [tl_get h0]
        by_cases e : tL ((L[i]'(by omega)).2[0]'(by omega)) = tL r
        · rw [if_pos ((lg_eq _ _).mpr (by rw [e]; rfl))]
          refine ⟨3 * i + a, hix, by omega, ?_⟩
          rw [← h22]
          exact go (fun r' z => by cases z; rw [h0, tL_inj hg0.1 hgr.1 e])
        · rw [if_neg (fun z => by
            have := (lg_eq _ _).mp z
            have e2 : lN (tL ((L[i]'(by omega)).2[0]'(by omega))) = lN (tL r) := this
            rw [lN_inj (by omega) (by omega)] at e2
            exact e e2)]
          refine skip (fun ⟨y, hy⟩ => e ?_)
          have := hy.2.1 r rfl
          rw [h0] at this
          rw [Option.some.inj this]
    · rw [if_neg (fun z => hk1 ((nI_eq (by have := w1.1; omega) (by omega)).mp z))]
      exact skip (fun ⟨y, hy⟩ => hk1 hy.1)
theorem rq_collect {d k : Nat} {w : Option Tm} {a : Nat} {L : List Fct} {s : mS} {Q : Unit → mS → Prop} (hL : rFacts s L) (hk : k < 512) (ha : a < 2) (hw : ∀ r, w = some r → gT r) (hex : ∀ f ∈ L, f.1 = k → ∃ x, f.2[a]? = some x) (hin : ∀ (i j : Nat) f g x, L[i]? = some f → L[j]? = some g → selP k w a f x → selP k w a g x → i = j) (q : ∀ s' T, cfw s s' → rT s' 37 0 T → s'.1 38 = nI T.length → okT T → T.length ≤ 200 → (∀ x, x ∈ T ↔ ∃ f ∈ L, selP k w a f x) → Q () s') : m_collect (d + 1) (nI k) (wT w) (nI a) s Q := by
  refine m_collect.of (T_collect_0 ?_)
  rw [← nI_0]
  have f0 : cfw s (mI s 38 (nI 0)) := ⟨fun i hi => if_neg hi, rfl, fun _ _ => rfl⟩
  refine rs_coll8 (s0 := mI s 38 (nI 0)) (hL.fr rfl rfl rfl) hk ha hw hex hin (fun s' T f => q s' T (f0.trans f)) L.length 0 _ [] (by omega) ⟨fun _ _ => rfl, rfl, fun _ _ => rfl⟩ (fun i t h => absurd h (by simp)) rfl ⟨List.Pairwise.nil, fun t h => absurd h (by simp)⟩ (Nat.le_refl _) (fun x => ?_)
  constructor
  · intro z
    exact absurd z (by simp)
  · rintro ⟨j, f, z, _⟩
    omega
theorem rFacts.wf {s : mS} {L : List Fct} (h : rFacts s L) : ∀ f ∈ L, wfF f := by
  intro f hf
  obtain ⟨i, hi⟩ := List.getElem?_of_mem hf
  exact (h.2.2 i f hi).1
/-- of one term; of the second of two -/
theorem rq_coll1 {d k : Nat} {L : List Fct} {s : mS} {Q : Unit → mS → Prop} (hL : rFacts s L) (hnd : L.Nodup) (hk : k < 512) (h1 : k % 4 = 1) (q : ∀ s' T, cfw s s' → rT s' 37 0 T → s'.1 38 = nI T.length → okT T → T.length ≤ 200 → (∀ x, x ∈ T ↔ ((k, [x]) : Fct) ∈ L) → Q () s') : m_collect (d + 1) (nI k) (0 : Int64) (0 : Int32) s Q := by
  have hwf := hL.wf
  have one : ∀ f ∈ L, ∀ x, selP k none 0 f x → f = (k, [x]) := by
    intro f hf x hx
    obtain ⟨f1, f2⟩ := f
    have hl := (hwf _ hf).2.1
    have e1 : f1 = k := hx.1
    have e2 : f2[0]? = some x := hx.2.2
    subst e1
    simp only [h1] at hl
    match f2, hl, e2 with
    | [y], _, e2 =>
      simp only [List.getElem?_cons_zero, Option.some.injEq] at e2
      rw [e2]
  refine rq_collect (w := none) (a := 0) hL hk (by decide) (fun r z => by cases z) (fun f hf e => ?_) (fun i j f g x hi hj hf hg => ?_) (fun s' T a b c e f g => q s' T a b c e f (fun x => (g x).trans ?_))
  · have hl := (hwf _ hf).2.1
    rw [e, h1] at hl
    exact ⟨_, List.getElem?_eq_getElem (by omega)⟩
  · have e1 := one f (List.mem_of_getElem? hi) x hf
    have e2 := one g (List.mem_of_getElem? hj) x hg
    have hlt := (List.getElem?_eq_some_iff.mp hi).1
    exact (List.getElem?_inj hlt hnd).mp (by rw [hi, hj, e1, e2])
  · constructor
    · rintro ⟨f, hf, hs⟩
      rw [← one f hf x hs]
      exact hf
    · intro z
      exact ⟨_, z, rfl, fun r z => (by cases z), rfl⟩
theorem rq_coll2 {d k : Nat} {r : Tm} {L : List Fct} {s : mS} {Q : Unit → mS → Prop} (hL : rFacts s L) (hnd : L.Nodup) (hk : k < 512) (h1 : k % 4 = 2) (hr : gT r) (q : ∀ s' T, cfw s s' → rT s' 37 0 T → s'.1 38 = nI T.length → okT T → T.length ≤ 200 → (∀ x, x ∈ T ↔ ((k, [r, x]) : Fct) ∈ L) → Q () s') : m_collect (d + 1) (nI k) (lN (tL r)) (1 : Int32) s Q := by
  have hwf := hL.wf
  have one : ∀ f ∈ L, ∀ x, selP k (some r) 1 f x → f = (k, [r, x]) := by
    intro f hf x hx
    obtain ⟨f1, f2⟩ := f
    have hl := (hwf _ hf).2.1
    have e1 : f1 = k := hx.1
    have e2 : f2[1]? = some x := hx.2.2
    have e3 : f2[0]? = some r := hx.2.1 r rfl
    subst e1
    simp only [h1] at hl
    match f2, hl, e2, e3 with
    | [y, z], _, e2, e3 =>
      simp only [List.getElem?_cons_zero, List.getElem?_cons_succ, Option.some.injEq] at e2 e3
      rw [e2, e3]
  refine rq_collect (w := some r) (a := 1) hL hk (by decide) (fun r' z => by cases z; exact hr) (fun f hf e => ?_) (fun i j f g x hi hj hf hg => ?_) (fun s' T a b c e f g => q s' T a b c e f (fun x => (g x).trans ?_))
  · have hl := (hwf _ hf).2.1
    rw [e, h1] at hl
    exact ⟨_, List.getElem?_eq_getElem (by omega)⟩
  · have e1 := one f (List.mem_of_getElem? hi) x hf
    have e2 := one g (List.mem_of_getElem? hj) x hg
    have hlt := (List.getElem?_eq_some_iff.mp hi).1
    exact (List.getElem?_inj hlt hnd).mp (by rw [hi, hj, e1, e2])
  · constructor
    · rintro ⟨f, hf, hs⟩
      rw [← one f hf x hs]
      exact hf
    · intro z
      exact ⟨_, z, rfl, fun r' z => (by cases z; rfl), rfl⟩
/-- isState -/
def sfw (s s' : mS) : Prop := (∀ i, i ≠ 34 → s'.1 i = s.1 i) ∧ s'.2.1 = s.2.1 ∧ ∀ i, i ≠ 33 → s'.2.2 i = s.2.2 i
theorem sfw.trans {s s' s'' : mS} (h : sfw s s') (g : sfw s' s'') : sfw s s'' := ⟨fun i a => (g.1 i a).trans (h.1 i a), g.2.1.trans h.2.1, fun i a => (g.2.2 i a).trans (h.2.2 i a)⟩
theorem rs_isState10 {d : Nat} {T : List Tm} {s0 : mS} {Q : Int32 → mS → Prop} (hT : rT s0 37 0 T) (h38 : s0.1 38 = nI T.length) (hl : T.length ≤ 200) (hb : s0.1 23 = 0 ∨ s0.1 23 = 1) (q1 : ∀ s', s0.1 23 = 0 → T.length ≤ 24 → sfw s0 s' → rT s' 33 0 T → s'.1 34 = s0.1 34 → Q 1 s') (q0 : ∀ s', (s0.1 23 = 1 ∨ 24 < T.length) → sfw s0 s' → Q 0 s') : ∀ (m k : Nat) (s : mS), k + m = T.length → sfw s0 s → s.1 34 = s0.1 34 → (∀ (i : Nat) t, i < k → T[i]? = some t → s.2.2 33 i = lN (tL t)) → h_isState_10 d (nI k) s Q := by
  intro m
  induction m with
  | zero =>
    intro k s hk hf h34 hv
    refine T_isState_10 ?_
    rw [hf.1 38 (by decide), h38, if_pos (nI_le (by omega) (by omega)), hf.1 23 (by decide)]
    by_cases hz : s0.1 23 = 0
    · rw [if_pos hz]
      by_cases h24 : 24 < T.length
      · rw [if_pos (by
          have : ¬ nI T.length ≤ nI 24 := nI_ge h24 (by omega)
          exact Int32.not_le.mp this)]
        exact q0 s (Or.inr h24) hf
      · rw [if_neg (by
          have : nI T.length ≤ nI 24 := nI_le (by omega) (by decide)
          exact Int32.not_lt.mpr this)]
        refine q1 s hz (by omega) hf (fun i t ht => ?_) h34
        rw [Nat.zero_add]
        have := (List.getElem?_eq_some_iff.mp ht).1
        exact hv i t (by omega) ht
    · rw [if_neg hz]
      exact q0 s (Or.inl (hb.resolve_left hz)) hf
  | succ m ih =>
    intro k s hk hf h34 hv
    refine T_isState_10 ?_
    rw [hf.1 38 (by decide), h38, if_neg (nI_ge (by omega) (by omega)), hf.1 23 (by decide)]
    by_cases h24 : 24 < T.length
    · rw [if_pos (by
        have : ¬ nI T.length ≤ nI 24 := nI_ge h24 (by omega)
        exact Int32.not_le.mp this), ite_self]
      exact q0 s (Or.inr h24) hf
    · rw [if_neg (by
        have : nI T.length ≤ nI 24 := nI_le (by omega) (by decide)
        exact Int32.not_lt.mpr this)]
      refine ⟨k, rfl, by omega, k, rfl, by omega, ?_⟩
      rw [nI_1]
      have ht : T[k]? = some (T[k]'(by omega)) := List.getElem?_eq_getElem (by omega)
      refine ih (k + 1) _ (by omega) (hf.trans ⟨fun _ _ => rfl, rfl, fun i hi => if_neg hi⟩) h34 (fun i t hi hti => ?_)
      show vp_updL (s.2.2 33) k (s.2.2 37 k) i = lN (tL t)
      by_cases e : i = k
      · subst e
        rw [vl_eq, hf.2.2 37 (by decide)]
        have := hT i t hti
        rw [Nat.zero_add] at this
        exact this
      · rw [vl_ne e]
        exact hv i t (by omega) hti
theorem rq_isState {d : Nat} {T : List Tm} {s : mS} {Q : Int32 → mS → Prop} (hT : rT s 37 0 T) (h38 : s.1 38 = nI T.length) (hl : T.length ≤ 200) (hb : s.1 23 = 0 ∨ s.1 23 = 1) (q1 : ∀ s', s.1 23 = 0 → T.length ≤ 24 → sfw s s' → rT s' 33 0 T → s'.1 34 = nI T.length → Q 1 s') (q0 : ∀ s', (s.1 23 = 1 ∨ 24 < T.length) → sfw s s' → Q 0 s') : m_isState (d + 1) s Q := by
  have f0 : sfw s (mI s 34 (s.1 38)) := ⟨fun i hi => if_neg hi, rfl, fun _ _ => rfl⟩
  refine m_isState.of (T_isState_0 ?_)
  rw [← nI_0]
  exact rs_isState10 (s0 := mI s 34 (s.1 38)) hT h38 hl hb (fun s' a b c e f => q1 s' a b (f0.trans c) e (f.trans h38)) (fun s' a b => q0 s' a (f0.trans b)) T.length 0 _ (by omega) ⟨fun _ _ => rfl, rfl, fun _ _ => rfl⟩ rfl (fun i t hi => by omega)
