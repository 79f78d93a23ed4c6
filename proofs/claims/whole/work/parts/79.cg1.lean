/-! the class's audit: states, noting where moves lead -/
def fnN : List Nat → Nat → Option Nat
  | [], _ => none
  | x :: xs, t => if x = t then some 0 else (fnN xs t).map (fun n => n + 1)
theorem fnN_app (E : List Nat) (t t' : Nat) : fnN (E ++ [t]) t' = match fnN E t' with
    | some k => some k
    | none => if t = t' then some E.length else none := by
  induction E with
  | nil =>
    show (if t = t' then some 0 else (fnN [] t').map (fun n => n + 1)) = (if t = t' then some 0 else none)
    rfl
  | cons x E ih =>
    rw [List.cons_append, fnN, fnN]
    by_cases e : x = t'
    · rw [if_pos e, if_pos e]
    · rw [if_neg e, if_neg e, ih]
      cases fnN E t' with
      | some k => rfl
      | none =>
        simp only [Option.map_none]
        by_cases e2 : t = t'
        · rw [if_pos e2, if_pos e2]
          rfl
        · rw [if_neg e2, if_neg e2]
          rfl
theorem fnN_some : ∀ {E : List Nat} {t k : Nat}, fnN E t = some k → E[k]? = some t ∧ ∀ j, j < k → E[j]? ≠ some t := by
  intro E
  induction E with
  | nil => intro t k h; cases h
  | cons x xs ih =>
    intro t k h
    rw [fnN] at h
    by_cases e : x = t
    · rw [if_pos e] at h
      cases h
      exact ⟨by rw [e]; rfl, fun j hj => by omega⟩
    · rw [if_neg e] at h
      cases h2 : fnN xs t with
      | none => rw [h2] at h; cases h
      | some j =>
        rw [h2] at h
        have : j + 1 = k := Option.some.inj h
        subst this
        obtain ⟨a, b⟩ := ih h2
        refine ⟨by rw [List.getElem?_cons_succ]; exact a, fun i hi => ?_⟩
        cases i with
        | zero =>
          intro z
          exact e (by simpa using z)
        | succ i =>
          rw [List.getElem?_cons_succ]
          exact b i (by omega)
theorem fnN_none : ∀ {E : List Nat} {t : Nat}, fnN E t = none → ¬ t ∈ E := by
  intro E
  induction E with
  | nil => intro t _ h; simp at h
  | cons x xs ih =>
    intro t h hm
    rw [fnN] at h
    by_cases e : x = t
    · rw [if_pos e] at h
      cases h
    · rw [if_neg e] at h
      rcases List.mem_cons.mp hm with z | z
      · exact e z.symm
      · cases h2 : fnN xs t with
        | none => exact ih h2 z
        | some j => rw [h2] at h; cases h
/-- the first joint move to t -/
def mvc (n k : Nat) : Nat := 256 * (k / n) + k % n
def wyC (n : Nat) (E : List Nat) (t : Nat) : Int32 := match fnN E t with
  | some k => nI (mvc n k)
  | none => -1
def wOk (n : Nat) (f : Nat → Int32) (i : Nat) (E : List Nat) : Prop := ∀ t, t < 60 → f (i * 60 + t) = wyC n E t
theorem mvc_lt {n k : Nat} (hn : n ≤ 200) (hk : k < 40000) : mvc n k < 2 ^ 31 := by
  unfold mvc
  have : k / n ≤ k := Nat.div_le_self _ _
  have : k % n ≤ k := Nat.mod_le _ _
  omega
theorem nI_n1 {m : Nat} (h : m < 2 ^ 31) : nI m ≠ -1 := by
  intro e
  have := nI_pos h
  rw [e] at this
  exact this (by decide)
theorem wyC_m1 {n : Nat} {E : List Nat} {t : Nat} (hn : n ≤ 200) (hE : E.length ≤ 200) : wyC n E t = -1 ↔ fnN E t = none := by
  unfold wyC
  cases e : fnN E t with
  | none => exact ⟨fun _ => rfl, fun _ => rfl⟩
  | some k =>
    have := (List.getElem?_eq_some_iff.mp (fnN_some e).1).1
    exact ⟨fun z => absurd z (nI_n1 (mvc_lt hn (by omega))), fun z => by cases z⟩
theorem wOk.add {n : Nat} {f : Nat → Int32} {i : Nat} {E : List Nat} {t : Nat} (h : wOk n f i E) (ht : t < 60) (hn : n ≤ 200) (hE : E.length ≤ 200) : wOk n (if f (i * 60 + t) = -1 then upd f (i * 60 + t) (nI (mvc n E.length)) else f) i (E ++ [t]) := by
  intro t' ht'
  have hb := wyC_m1 (n := n) (E := E) (t := t) hn hE
  rw [← h t ht] at hb
  unfold wyC
  rw [fnN_app]
  have h' := h t' ht'
  unfold wyC at h'
  by_cases e : f (i * 60 + t) = -1
  · rw [if_pos e]
    have en := hb.mp e
    by_cases ett : t' = t
    · subst ett
      rw [en]
      simp only
      rw [if_pos trivial]
      exact if_pos rfl
    · rw [show upd f (i * 60 + t) (nI (mvc n E.length)) (i * 60 + t') = f (i * 60 + t') from if_neg (by omega), h']
      cases fnN E t' with
      | some k => rfl
      | none =>
        simp only
        rw [if_neg (fun z => ett z.symm)]
  · rw [if_neg e]
    rw [h']
    cases ef : fnN E t' with
    | some k => rfl
    | none =>
      simp only
      by_cases ett : t = t'
      · subst ett
        exact absurd (hb.mpr ef) e
      · rw [if_neg ett]
/-- the rows of the states that came, among the objects -/
def cSt (G : gm_H) (C : Nat) (S : List (List Tm)) : Prop := ∀ j, j < 60 → ∃ v f, G (C + 34 + 2 * j) = some (.inr (9, [.ref (C + 35 + 2 * j), .int v])) ∧ G (C + 35 + 2 * j) = some (iarr 24 f) ∧ ∀ T, S[j]? = some T → v = nI T.length ∧ ∀ (i : Nat) t, T[i]? = some t → f i = nI (tE t)
theorem cSt.g {G : gm_H} {C : Nat} {S : List (List Tm)} (h : cSt G C S) {s : cS} {j : Nat} {T : List Tm} (hj : j < 60) (hT : S[j]? = some T) : gTs (bM C (cH C s) G) (C + 34 + 2 * j) (C + 35 + 2 * j) 24 T := by
  obtain ⟨v, f, a, b, c⟩ := h j hj
  obtain ⟨c1, c2⟩ := c T hT
  exact ⟨by rw [cG_get (by omega) a, c1], f, cG_get (by omega) b, c2⟩
theorem cSt.cTs {G : gm_H} {C : Nat} {S : List (List Tm)} (h : cSt G C S) {s : cS} {j : Nat} {T : List Tm} (hj : j < 60) (hT : S[j]? = some T) (ho : okT T) (hl : T.length ≤ 24) : cTs C s G (C + 34 + 2 * j) T := by
  obtain ⟨v, f, a, b, c⟩ := h j hj
  obtain ⟨c1, c2⟩ := c T hT
  refine ⟨C + 35 + 2 * j, 24, f, fun s' _ => ⟨?_, cG_get (by omega) b⟩, hl, by decide, fun i t ht => ⟨ho.2 t (List.mem_of_getElem? ht), c2 i t ht⟩⟩
  rw [cG_get (by omega) a, c1]
theorem kq_copyG {N0 : Nat} {K : Nat → Nat} {d C k p' n' : Nat} {S : List (List Tm)} {T' : List Tm} {s : cS} {G : gm_H} {sz : Nat} {Q : Unit → gm_H → Prop} (hN : N0 ≤ C) (hS : cSt G C S) (hk : k < 60) (hp' : posT p' n') (hT' : tS s p' T') (hn' : T'.length ≤ n') (hl : T'.length ≤ 24) (q : ∀ G', (∀ a, a ≠ C + 34 + 2 * k → a ≠ C + 35 + 2 * k → G' a = G a) → (∀ S', S'[k]? = some T' → (∀ j : Nat, j ≠ k → ∀ T, S'[j]? = some T → S[j]? = some T) → cSt G' C S') → Q () G') : kX10_copy_g N0 K (d + 2) C (C + 34 + 2 * k) (C + p') s G sz Q := by
  obtain ⟨v, f, a, b, c⟩ := hS k hk
  have hp1 := hp'.1
  refine gC.mono (gq_copy (q := C + 34 + 2 * k) (r := C + 35 + 2 * k) (n := 24) (q' := C + p') (r' := C + (p' + 1)) (n' := n') (T' := T') (fs0 := v) (f0 := f) (Q := fun _ M' sz' dd => ∃ f', (∀ (i : Nat) t, T'[i]? = some t → f' i = nI (tE t)) ∧ M' = bM C (cH C s) (gm_set (gm_set G (C + 34 + 2 * k) (.inr (9, [.ref (C + 35 + 2 * k), .int (nI T'.length)]))) (C + 35 + 2 * k) (iarr 24 f')) ∧ sz' = sz ∧ dd = 0) (by omega) (by omega) (by omega) (by omega) (by omega) (cG_get (by omega) a) (cG_get (by omega) b) (by decide) (hT'.g hp') hn' hp'.2.1 hl (fun f' hf' => ⟨f', hf', ?_, rfl, rfl⟩)) ?_
  · rw [cG_set (by omega), cG_set (by omega)]
  · rintro r M' sz' dd ⟨f', hf', rfl, rfl, rfl⟩
    refine ⟨s, _, rfl, rfl, rfl, rfl, q _ (fun a a1 a2 => by rw [gm_set_ne a2, gm_set_ne a1]) (fun S' e1 e2 j hj => ?_)⟩
    by_cases ej : j = k
    · subst ej
      refine ⟨nI T'.length, f', (gm_set_ne (by omega)).trans gm_set_eq, gm_set_eq, fun T hT => ?_⟩
      rw [e1] at hT
      cases hT
      exact ⟨rfl, hf'⟩
    · obtain ⟨v2, f2, a2, b2, c2⟩ := hS j hj
      exact ⟨v2, f2, by rw [gm_set_ne (by omega), gm_set_ne (by omega)]; exact a2, by rw [gm_set_ne (by omega), gm_set_ne (by omega)]; exact b2, fun T hT => c2 T (e2 j ej T hT)⟩
def plN (o : Option Nat) : Int32 := match o with
  | some i => nI i
  | none => -1
theorem cs_place2 {N0 : Nat} {K : Nat → Nat} {d C p n : Nat} {S : List (List Tm)} {T : List Tm} {s : cS} {G : gm_H} {sz sl : Nat} {Q : Int32 → Prop} (hN : N0 ≤ C) (hS : cSt G C S) (hok : okS S) (h584 : s.1 584 = nI S.length) (hp : posT p n) (hT : tS s p T) (hl : T.length ≤ n) (ho : okT T) (q : Q (plN (fnd S T))) : ∀ (m k : Nat), k + m = S.length → (∀ j, j < k → S[j]? ≠ some T) → hX0_placeOf_2 N0 K (d + 1) C (C + p) (nI k) s G sz sl Q := by
  have h60 := hok.1
  intro m
  induction m with
  | zero =>
    intro k hk hno
    refine TX0_placeOf_2 hN ?_
    rw [h584, if_pos (nI_le (by omega) (by omega))]
    rw [fnd_none (fun j hj => hno j (by omega))] at q
    exact q
  | succ m ih =>
    intro k hk hno
    refine TX0_placeOf_2 hN ?_
    rw [h584, if_neg (nI_ge (by omega) (by omega))]
    have hx : S[k]? = some (S[k]'(by omega)) := List.getElem?_eq_getElem (by omega)
    have hxo := hok.2 _ (List.mem_of_getElem? hx)
    obtain ⟨v, f, a, b, c⟩ := hS k (by omega)
    refine ⟨k, rfl, by omega, _, a, ?_⟩
    refine gC.kpure (gX10_isSame.of (gs_same (hS.g (by omega) hx) hxo.2 (by decide) (hT.g hp) hl hp.2.1 hxo.1.2 ho.2 (fun e => ?_) (fun e => ?_)))
    · rw [if_neg (by decide)]
      rw [fnd_first (by rw [hx, e]) hno] at q
      exact q
    · rw [if_pos rfl, nI_1]
      refine ih (k + 1) (by omega) (fun j hj => ?_)
      by_cases ej : j = k
      · rw [ej, hx]
        exact fun z => e (Option.some.inj z)
      · exact hno j (by omega)
theorem cq_placeOf {N0 : Nat} {K : Nat → Nat} {d C p n : Nat} {S : List (List Tm)} {T : List Tm} {s : cS} {G : gm_H} {sz : Nat} {Q : Int32 → Prop} (hN : N0 ≤ C) (hS : cSt G C S) (hok : okS S) (h584 : s.1 584 = nI S.length) (hp : posT p n) (hT : tS s p T) (hl : T.length ≤ n) (ho : okT T) (q : Q (plN (fnd S T))) : kX0_placeOf N0 K (d + 2) C (C + p) s G sz Q := kX0_placeOf.of (TX0_placeOf_0 hN (cs_place2 hN hS hok h584 hp hT hl ho q S.length 0 (by omega) (fun j hj => by omega)))
/-- where a joint move leads is noted -/
theorem cq_note {N0 : Nat} {K : Nat → Nat} {d C i nn : Nat} {S : List (List Tm)} {E : List Nat} {T' : List Tm} {s : cS} {G : gm_H} {sz : Nat} {mv : Int32} {Q : Int32 → cS → gm_H → Prop} (hN : N0 ≤ C) (hS : cSt G C S) (hok : okS S) (h584 : s.1 584 = nI S.length) (hT : tS s 23 T') (hl : T'.length ≤ 24) (ho : okT T') (hi : i < 60) (hn : nn ≤ 200) (hE : E.length ≤ 200) (hmv : mv = nI (mvc nn E.length)) (hw : wOk nn (s.2.1 31) i E) (q0 : fnd S T' = none → S.length = 60 → Q 0 s G) (q1 : ∀ t, fnd S T' = some t → ∀ f, wOk nn f i (E ++ [t]) → (∀ x, ¬ (i * 60 ≤ x ∧ x < i * 60 + 60) → f x = s.2.1 31 x) → Q 1 (cA s 31 f) G) (q2 : fnd S T' = none → S.length < 60 → ∀ f G', wOk nn f i (E ++ [S.length]) → (∀ x, ¬ (i * 60 ≤ x ∧ x < i * 60 + 60) → f x = s.2.1 31 x) → (∀ a, ¬ (C + 34 ≤ a ∧ a < C + 154) → G' a = G a) → cSt G' C (S ++ [T']) → Q 1 (cA (cI s 584 (nI (S.length + 1))) 31 f) G') : kX0_note N0 K (d + 3) C (nI i) mv (C + 23) s G sz Q := by
  have h60 := hok.1
  have self31 : ∀ s' : cS, cA s' 31 (s'.2.1 31) = s' := by
    intro s'
    unfold cA
    refine Prod.ext rfl (Prod.ext (funext fun j => ?_) rfl)
    show (if j = 31 then s'.2.1 31 else s'.2.1 j) = s'.2.1 j
    by_cases e : j = 31
    · rw [if_pos e, e]
    · rw [if_neg e]
  refine kX0_note.of (TX0_note_0 hN ?_)
  refine cq_placeOf (d := d) hN hS hok h584 pos23 hT hl ho ?_
  cases ef : fnd S T' with
  | none =>
    show (if (-1 : Int32) = (-1 : Int32) then _ else _)
    rw [if_pos rfl, h584]
    by_cases h : S.length = 60
    · rw [if_pos (by rw [h]; rfl)]
      exact q0 ef h
    · rw [if_neg (fun z : nI S.length = (60 : Int32) => h ((nI_eq (a := S.length) (b := 60) (by omega) (by decide)).mp z))]
      obtain ⟨v, f, a, b, c⟩ := hS S.length (by omega)
      refine ⟨S.length, rfl, by omega, _, a, ?_⟩
      refine kq_copyG (d := d) hN hS (by omega) pos23 hT hl hl (fun G' g1 g2 => ?_)
      have ek : (nI i * (60 : Int32)) + nI S.length = nI (i * 60 + S.length) := by rw [show (60 : Int32) = nI 60 from rfl, nI_mul, nI_add]
      refine ⟨i * 60 + S.length, ek, by omega, ?_⟩
      have hw' := hw.add (t := S.length) (by omega) hn hE
      have hst : cSt G' C (S ++ [T']) := g2 _ (by rw [List.getElem?_append_right (Nat.le_refl _), Nat.sub_self]; rfl) (fun j hj T hT => by
        have hjl := (List.getElem?_eq_some_iff.mp hT).1
        simp only [List.length_append, List.length_singleton] at hjl
        rw [List.getElem?_append_left (by omega)] at hT
        exact hT)
      have hfr : ∀ a, ¬ (C + 34 ≤ a ∧ a < C + 154) → G' a = G a := fun a ha => g1 a (by omega) (by omega)
      rw [nI_1, hmv]
      by_cases e : s.2.1 31 (i * 60 + S.length) = -1
      · rw [if_pos e]
        rw [if_pos e] at hw'
        exact q2 ef (by omega) _ G' hw' (fun x hx => if_neg (by omega)) hfr hst
      · rw [if_neg e]
        rw [if_neg e] at hw'
        have := q2 ef (by omega) (s.2.1 31) G' hw' (fun x hx => rfl) hfr hst
        rw [show cA (cI s 584 (nI (S.length + 1))) 31 (s.2.1 31) = cI s 584 (nI (S.length + 1)) from self31 _] at this
        exact this
  | some t =>
    have htl := (List.getElem?_eq_some_iff.mp (fnd_some ef)).1
    show (if nI t = (-1 : Int32) then _ else _)
    rw [if_neg (nI_n1 (by omega))]
    have ek : (nI i * (60 : Int32)) + nI t = nI (i * 60 + t) := by rw [show (60 : Int32) = nI 60 from rfl, nI_mul, nI_add]
    refine ⟨i * 60 + t, ek, by omega, ?_⟩
    have hw' := hw.add (t := t) (by omega) hn hE
    rw [hmv]
    by_cases e : s.2.1 31 (i * 60 + t) = -1
    · rw [if_pos e]
      rw [if_pos e] at hw'
      exact q1 t ef _ hw' (fun x hx => if_neg (by omega))
    · rw [if_neg e]
      rw [if_neg e] at hw'
      have := q1 t ef (s.2.1 31) hw' (fun x hx => rfl)
      rw [self31 s] at this
      exact this
