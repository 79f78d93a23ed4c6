/-! what states are worth; states that come up: mathematics -/
def Vn (D : List DT) : Nat → Nat → Int32 → Prop
  | 0, _, _ => False
  | n + 1, i, v => ∃ d, D[i]? = some d ∧ ((d.2.1 = 0 ∧ v = d.1) ∨ (d.2.1 ≠ 0 ∧ (∀ t ∈ d.2.2, ∃ w, Vn D n t w) ∧ (∃ t ∈ d.2.2, Vn D n t v) ∧ ∀ t ∈ d.2.2, ∀ w, Vn D n t w → (d.2.1 = 1 → w ≤ v) ∧ (d.2.1 ≠ 1 → v ≤ w)))
def Val (D : List DT) (i : Nat) (v : Int32) : Prop := ∃ n, Vn D n i v
theorem Vn.uniq {D : List DT} {n i : Nat} {v v' : Int32} (h : Vn D n i v) (g : Vn D n i v') : v = v' := by
  cases n with
  | zero => exact h.elim
  | succ n =>
    obtain ⟨d, hd, h⟩ := h
    obtain ⟨d', hd', g⟩ := g
    rw [hd] at hd'
    cases hd'
    rcases h with ⟨h1, h2⟩ | ⟨h1, _, ⟨t, h3, h4⟩, h5⟩
    · rcases g with ⟨_, g2⟩ | ⟨g1, _⟩
      · rw [h2, g2]
      · exact absurd h1 g1
    · rcases g with ⟨g1, _⟩ | ⟨_, _, ⟨t', g3, g4⟩, g5⟩
      · exact absurd g1 h1
      · have a := g5 t h3 v h4
        have b := h5 t' g3 v' g4
        by_cases e : d.2.1 = 1
        · exact Int32.le_antisymm (a.1 e) (b.1 e)
        · exact Int32.le_antisymm (b.2 e) (a.2 e)
theorem Vn.up {D : List DT} : ∀ {n i : Nat} {v : Int32}, Vn D n i v → Vn D (n + 1) i v := by
  intro n
  induction n with
  | zero => intro i v h; exact h.elim
  | succ n ih =>
    intro i v h
    obtain ⟨d, hd, h⟩ := h
    refine ⟨d, hd, ?_⟩
    rcases h with h | ⟨h1, h2, ⟨t, h3, h4⟩, h5⟩
    · exact Or.inl h
    · refine Or.inr ⟨h1, fun t ht => ?_, ⟨t, h3, ih h4⟩, fun t ht w hw => ?_⟩
      · obtain ⟨w, hw⟩ := h2 t ht
        exact ⟨w, ih hw⟩
      · obtain ⟨w0, hw0⟩ := h2 t ht
        have : w = w0 := hw.uniq (ih hw0)
        rw [this]
        exact h5 t ht w0 hw0
theorem Vn.le {D : List DT} {n i : Nat} {v : Int32} (h : Vn D n i v) : ∀ m, Vn D (n + m) i v := by
  intro m
  induction m with
  | zero => exact h
  | succ m ih => exact ih.up
theorem Val.uniq {D : List DT} {i : Nat} {v v' : Int32} (h : Val D i v) (g : Val D i v') : v = v' := by
  obtain ⟨n, h⟩ := h
  obtain ⟨m, g⟩ := g
  have a := h.le m
  have b := g.le n
  rw [Nat.add_comm m n] at b
  exact a.uniq b
theorem Val.ge {D : List DT} (hD : ∀ d ∈ D, d.2.1 = 0 → 0 ≤ d.1) {i : Nat} {v : Int32} (h : Val D i v) : 0 ≤ v := by
  obtain ⟨n, h⟩ := h
  induction n generalizing i v with
  | zero => exact h.elim
  | succ n ih =>
    obtain ⟨d, hd, h⟩ := h
    rcases h with ⟨h1, h2⟩ | ⟨_, _, ⟨t, _, h4⟩, _⟩
    · rw [h2]
      exact hD d (List.mem_of_getElem? hd) h1
    · exact ih h4
theorem Val.ne {D : List DT} (hD : ∀ d ∈ D, d.2.1 = 0 → 0 ≤ d.1) {i : Nat} {v : Int32} (h : Val D i v) : v ≠ -1 := by
  intro e
  have := h.ge hD
  rw [e] at this
  exact absurd this (by decide)
/-- all at one level -/
theorem Vn_all {D : List DT} {f : Nat → Int32} : ∀ (E : List Nat), (∀ t ∈ E, Val D t (f t)) → ∃ n, ∀ t ∈ E, Vn D n t (f t) := by
  intro E
  induction E with
  | nil => intro _; exact ⟨0, fun t h => absurd h (by simp)⟩
  | cons t E ih =>
    intro h
    obtain ⟨n, hn⟩ := ih (fun t' h' => h t' (List.mem_cons_of_mem _ h'))
    obtain ⟨m, hm⟩ := h t (by simp)
    refine ⟨n + m, fun t' h' => ?_⟩
    rcases List.mem_cons.mp h' with e | e
    · rw [e, Nat.add_comm]
      exact hm.le n
    · exact (hn t' e).le m
theorem Val.step {D : List DT} {i : Nat} {d : DT} {f : Nat → Int32} {v : Int32} (hd : D[i]? = some d) (h0 : d.2.1 ≠ 0) (h : ∀ t ∈ d.2.2, Val D t (f t)) (hv : ∃ t ∈ d.2.2, v = f t) (hb : ∀ t ∈ d.2.2, (d.2.1 = 1 → f t ≤ v) ∧ (d.2.1 ≠ 1 → v ≤ f t)) : Val D i v := by
  obtain ⟨n, hn⟩ := Vn_all d.2.2 h
  obtain ⟨t, ht, e⟩ := hv
  refine ⟨n + 1, d, hd, Or.inr ⟨h0, fun t ht => ⟨_, hn t ht⟩, ⟨t, ht, by rw [e]; exact hn t ht⟩, fun t ht w hw => ?_⟩⟩
  rw [hw.uniq (hn t ht)]
  exact hb t ht
theorem Val.end {D : List DT} {i : Nat} {d : DT} (hd : D[i]? = some d) (h0 : d.2.1 = 0) : Val D i d.1 := ⟨1, d, hd, Or.inl ⟨h0, rfl⟩⟩
/-- no more can be worked out -/
theorem Val.stuck {D : List DT} {f : Nat → Int32} (hs : ∀ i, i < D.length → f i = -1 → ∃ d, D[i]? = some d ∧ d.2.1 ≠ 0 ∧ ∃ t ∈ d.2.2, t < D.length ∧ f t = -1) : ∀ i, i < D.length → f i = -1 → ∀ v, ¬ Val D i v := by
  have : ∀ n i v, i < D.length → f i = -1 → ¬ Vn D n i v := by
    intro n
    induction n with
    | zero => intro i v _ _ h; exact h
    | succ n ih =>
      intro i v hi hf h
      obtain ⟨d, hd, h0, t, t1, t2, t3⟩ := hs i hi hf
      obtain ⟨d', hd', h⟩ := h
      rw [hd] at hd'
      cases hd'
      rcases h with ⟨h1, _⟩ | ⟨_, h2, _⟩
      · exact h0 h1
      · obtain ⟨w, hw⟩ := h2 t t1
        exact ih t w t2 t3 hw
  rintro i hi hf v ⟨n, h⟩
  exact this n i v hi hf h
/-- the value of one that has a value: of a best move -/
theorem Val.best {D : List DT} {i : Nat} {d : DT} {v : Int32} (h : Val D i v) (hd : D[i]? = some d) (h0 : d.2.1 ≠ 0) : ∃ t ∈ d.2.2, Val D t v := by
  obtain ⟨n, h⟩ := h
  cases n with
  | zero => exact h.elim
  | succ n =>
    obtain ⟨d', hd', h⟩ := h
    rw [hd] at hd'
    cases hd'
    rcases h with ⟨h1, _⟩ | ⟨_, _, ⟨t, h3, h4⟩, _⟩
    · exact absurd h1 h0
    · exact ⟨t, h3, n, h4⟩
def allV (D : List DT) : Prop := ∀ i, i < D.length → ∃ v, Val D i v
/-- the audit as a whole -/
noncomputable def aFin (X : Int32 × List (List Tm) × List DT) : Int32 × List (List Tm) × List DT := by
  classical
  exact (if X.1 = 0 then (if allV X.2.2 then 0 else 6) else X.1, X.2)
noncomputable def aOut (R : List Rl) (P T1 : List Tm) : Int32 × List (List Tm) × List DT := match P with
  | [r0, r1] => aFin (audK R r0 r1 T1 60)
  | _ => (1, [T1], [])
theorem aFin_ok (X : Int32 × List (List Tm) × List DT) : (aFin X).2 = X.2 ∧ (X.1 ≠ 0 → (aFin X).1 = X.1) ∧ (X.1 = 0 → (allV X.2.2 → (aFin X).1 = 0) ∧ (¬ allV X.2.2 → (aFin X).1 = 6)) := by
  unfold aFin
  refine ⟨rfl, fun h => ?_, fun h => ⟨fun g => ?_, fun g => ?_⟩⟩
  · simp only
    rw [if_neg h]
  · simp only
    rw [if_pos h, if_pos g]
  · simp only
    rw [if_pos h, if_neg g]
theorem aOut_2 {R : List Rl} {r0 r1 : Tm} {T1 : List Tm} : (aOut R [r0, r1] T1).2 = (audK R r0 r1 T1 60).2 ∧ ((audK R r0 r1 T1 60).1 ≠ 0 → (aOut R [r0, r1] T1).1 = (audK R r0 r1 T1 60).1) ∧ ((audK R r0 r1 T1 60).1 = 0 → (allV (audK R r0 r1 T1 60).2.2 → (aOut R [r0, r1] T1).1 = 0) ∧ (¬ allV (audK R r0 r1 T1 60).2.2 → (aOut R [r0, r1] T1).1 = 6)) := by
  rw [aOut]
  exact aFin_ok _
theorem aOut_1 {R : List Rl} {P T1 : List Tm} (h : P.length ≠ 2) : aOut R P T1 = (1, [T1], []) := by
  unfold aOut
  split
  · rename_i r0 r1
    exact absurd rfl h
  · rfl
/-- where the first k joint moves led -/
theorem exK_get {R : List Rl} {T : List Tm} {r0 r1 : Tm} {M0 M1 : List Tm} {S : List (List Tm)} (hS : okS S) : ∀ k, (exK R T r0 r1 M0 M1 S k).1 = true → ∀ j, j < k → ∃ T' t, exN R T r0 r1 M0 M1 j = some T' ∧ (exK R T r0 r1 M0 M1 S k).2.2[j]? = some t ∧ (exK R T r0 r1 M0 M1 S k).2.1[t]? = some T' := by
  intro k
  induction k with
  | zero => intro _ j hj; omega
  | succ k ih =>
    intro h j hj
    have hk : (exK R T r0 r1 M0 M1 S k).1 = true := by
      refine Classical.not_not.mp (fun z => ?_)
      rw [exK, if_neg z] at h
      exact z h
    have hlen := (exK_ok (R := R) (T := T) (r0 := r0) (r1 := r1) (M0 := M0) (M1 := M1) hS k).2.2.2 hk
    rw [exK, if_pos hk] at h ⊢
    have ih' := ih hk
    revert h
    generalize exK R T r0 r1 M0 M1 S k = X at *
    intro h
    unfold exS at h ⊢
    cases eo : exN R T r0 r1 M0 M1 k with
    | none => rw [eo] at h; cases h
    | some T' =>
      rw [eo] at h
      simp only at h ⊢
      cases ef : fnd X.2.1 T' with
      | some t =>
        rw [ef] at h
        simp only at h ⊢
        by_cases e : j = k
        · subst e
          exact ⟨T', t, eo, by rw [List.getElem?_append_right (by omega), hlen, Nat.sub_self]; rfl, fnd_some ef⟩
        · obtain ⟨T2, t2, a, b, c⟩ := ih' j (by omega)
          exact ⟨T2, t2, a, by rw [List.getElem?_append_left (by omega)]; exact b, c⟩
      | none =>
        rw [ef] at h
        simp only at h ⊢
        by_cases h60 : X.2.1.length = 60
        · rw [if_pos h60] at h
          cases h
        · rw [if_neg h60] at h ⊢
          simp only
          by_cases e : j = k
          · subst e
            exact ⟨T', X.2.1.length, eo, by rw [List.getElem?_append_right (by omega), hlen, Nat.sub_self]; rfl, by rw [List.getElem?_append_right (Nat.le_refl _), Nat.sub_self]; rfl⟩
          · obtain ⟨T2, t2, a, b, c⟩ := ih' j (by omega)
            exact ⟨T2, t2, a, by rw [List.getElem?_append_left (by omega)]; exact b, by rw [List.getElem?_append_left (List.getElem?_eq_some_iff.mp c).1]; exact c⟩
/-- a state without a fault -/
theorem visS_zero {R : List Rl} {r0 r1 : Tm} {T : List Tm} {S : List (List Tm)} (h : (visS R r0 r1 T S).1 = 0) : ∃ L, vw R (bT T) = some L ∧ ((aEn L ∧ visS R r0 r1 T S = (0, S, (goalV (aGs L [r0, r1] 0), 0, []))) ∨ (¬ aEn L ∧ (exK R T r0 r1 (aMv L [r0, r1] 0) (aMv L [r0, r1] 1) S ((aMv L [r0, r1] 0).length * (aMv L [r0, r1] 1).length)).1 = true ∧ 0 < (aMv L [r0, r1] 0).length ∧ 0 < (aMv L [r0, r1] 1).length ∧ visS R r0 r1 T S = (0, (exK R T r0 r1 (aMv L [r0, r1] 0) (aMv L [r0, r1] 1) S ((aMv L [r0, r1] 0).length * (aMv L [r0, r1] 1).length)).2.1, (-1, (aMv L [r0, r1] 1).length, (exK R T r0 r1 (aMv L [r0, r1] 0) (aMv L [r0, r1] 1) S ((aMv L [r0, r1] 0).length * (aMv L [r0, r1] 1).length)).2.2)))) := by
  unfold visS at h ⊢
  cases hL : vw R (bT T) with
  | none =>
    rw [hL] at h
    exact absurd (show (7 : Int32) = 0 from h) (by decide)
  | some L =>
    refine ⟨L, rfl, ?_⟩
    rw [hL] at h
    simp only at h ⊢
    by_cases he : aEn L
    · rw [if_pos he] at h ⊢
      refine Or.inl ⟨he, ?_⟩
      simp only at h
      rw [h]
    · rw [if_neg he] at h ⊢
      by_cases h1 : (aMv L [r0, r1] 0).length = 0 ∨ (aMv L [r0, r1] 1).length = 0
      · rw [if_pos h1] at h
        exact absurd (show (2 : Int32) = 0 from h) (by decide)
      · rw [if_neg h1] at h ⊢
        by_cases h2 : 1 < (aMv L [r0, r1] 0).length ∧ 1 < (aMv L [r0, r1] 1).length
        · rw [if_pos h2] at h
          exact absurd (show (3 : Int32) = 0 from h) (by decide)
        · rw [if_neg h2] at h ⊢
          have hok : (exK R T r0 r1 (aMv L [r0, r1] 0) (aMv L [r0, r1] 1) S ((aMv L [r0, r1] 0).length * (aMv L [r0, r1] 1).length)).1 = true := by
            refine Classical.not_not.mp (fun zz => ?_)
            simp only at h
            rw [if_neg zz] at h
            exact absurd h (by decide)
          refine Or.inr ⟨he, hok, by omega, by omega, ?_⟩
          rw [if_pos hok]
theorem audK_mono {R : List Rl} {r0 r1 : Tm} {T1 : List Tm} (h1 : okT T1 ∧ T1.length ≤ 24) (i : Nat) : ∀ m, (∃ K, (audK R r0 r1 T1 (i + m)).2.1 = (audK R r0 r1 T1 i).2.1 ++ K) ∧ ∃ K, (audK R r0 r1 T1 (i + m)).2.2 = (audK R r0 r1 T1 i).2.2 ++ K := by
  intro m
  induction m with
  | zero => exact ⟨⟨[], by simp⟩, ⟨[], by simp⟩⟩
  | succ m ih =>
    obtain ⟨⟨K, a⟩, ⟨K', b⟩⟩ := ih
    rw [← Nat.add_assoc]
    by_cases h0 : (audK R r0 r1 T1 (i + m)).1 = 0
    · cases hT : (audK R r0 r1 T1 (i + m)).2.1[i + m]? with
      | none =>
        rw [audK_stop (Or.inr (List.getElem?_eq_none_iff.mp hT)) 1]
        exact ⟨⟨K, a⟩, ⟨K', b⟩⟩
      | some T =>
        rw [audK_go h0 hT]
        obtain ⟨_, ⟨K2, c⟩, _⟩ := visS_ok (R := R) (r0 := r0) (r1 := r1) (T := T) (audK_ok (R := R) (r0 := r0) (r1 := r1) h1 (i + m)).1
        exact ⟨⟨K ++ K2, by simp only; rw [c, a, List.append_assoc]⟩, ⟨K' ++ [_], by simp only; rw [b, List.append_assoc]⟩⟩
    · rw [audK_stop (Or.inl h0) 1]
      exact ⟨⟨K, a⟩, ⟨K', b⟩⟩
/-- each state of a sound game was gone through -/
theorem audK_at {R : List Rl} {r0 r1 : Tm} {T1 : List Tm} (h1 : okT T1 ∧ T1.length ≤ 24) (h : (audK R r0 r1 T1 60).1 = 0) {i : Nat} {T : List Tm} (hT : (audK R r0 r1 T1 60).2.1[i]? = some T) : (audK R r0 r1 T1 i).1 = 0 ∧ (audK R r0 r1 T1 i).2.1[i]? = some T ∧ (visS R r0 r1 T (audK R r0 r1 T1 i).2.1).1 = 0 ∧ (audK R r0 r1 T1 60).2.2[i]? = some (visS R r0 r1 T (audK R r0 r1 T1 i).2.1).2.2 ∧ ∃ K, (audK R r0 r1 T1 60).2.1 = (visS R r0 r1 T (audK R r0 r1 T1 i).2.1).2.1 ++ K := by
  have hil := (List.getElem?_eq_some_iff.mp hT).1
  have h60 := (audK_ok (R := R) (r0 := r0) (r1 := r1) h1 60).1.1
  have ei : ∃ m, 60 = i + (m + 1) := ⟨60 - i - 1, by omega⟩
  obtain ⟨m, em⟩ := ei
  have c0 : (audK R r0 r1 T1 i).1 = 0 := by
    refine Classical.not_not.mp (fun z => ?_)
    have := audK_stop (Or.inl z) (m + 1)
    rw [← em] at this
    rw [this] at h
    exact z h
  have cl : i < (audK R r0 r1 T1 i).2.1.length := by
    refine Nat.lt_of_not_le (fun z => ?_)
    have := audK_stop (Or.inr z) (m + 1)
    rw [← em] at this
    rw [this] at hil
    omega
  obtain ⟨⟨K, k1⟩, _⟩ := audK_mono (R := R) (r0 := r0) (r1 := r1) h1 i (m + 1)
  rw [← em] at k1
  have cT : (audK R r0 r1 T1 i).2.1[i]? = some T := by
    rw [k1, List.getElem?_append_left cl] at hT
    exact hT
  have go := audK_go c0 cT
  have cdl : (audK R r0 r1 T1 i).2.2.length = i := ((audK_ok (R := R) (r0 := r0) (r1 := r1) h1 i).2.2 c0).2.1 (by omega)
  obtain ⟨⟨K1, k2⟩, ⟨K2, k3⟩⟩ := audK_mono (R := R) (r0 := r0) (r1 := r1) h1 (i + 1) m
  rw [show i + 1 + m = 60 by omega, go] at k2 k3
  refine ⟨c0, cT, ?_, ?_, ⟨K1, k2⟩⟩
  · refine Classical.not_not.mp (fun z => ?_)
    have z' : (audK R r0 r1 T1 (i + 1)).1 ≠ 0 := by rw [go]; exact z
    have := audK_stop (Or.inl z') m
    rw [show i + 1 + m = 60 by omega] at this
    rw [this] at h
    exact z' h
  · rw [k3, List.append_assoc, List.getElem?_append_right (by omega), cdl, Nat.sub_self]
    rfl
/-- a joint move from a state that is no end -/
def Stq (R : List Rl) (r0 r1 : Tm) (T T' : List Tm) : Prop := ∃ L x y, vw R (bT T) = some L ∧ ¬ aEn L ∧ x ∈ aMv L [r0, r1] 0 ∧ y ∈ aMv L [r0, r1] 1 ∧ aNx R T r0 x r1 y = some T'
def RchN (R : List Rl) (r0 r1 : Tm) (T1 : List Tm) : Nat → List Tm → Prop
  | 0, T => T = T1
  | n + 1, T => ∃ T', RchN R r0 r1 T1 n T' ∧ Stq R r0 r1 T' T
theorem aud_closed {R : List Rl} {r0 r1 : Tm} {T1 : List Tm} (h1 : okT T1 ∧ T1.length ≤ 24) (h : (audK R r0 r1 T1 60).1 = 0) {T T' : List Tm} (hT : T ∈ (audK R r0 r1 T1 60).2.1) (hs : Stq R r0 r1 T T') : T' ∈ (audK R r0 r1 T1 60).2.1 := by
  obtain ⟨i, hi⟩ := List.getElem?_of_mem hT
  obtain ⟨a, b, c, e, ⟨K, f⟩⟩ := audK_at h1 h hi
  obtain ⟨L, x, y, s1, s2, s3, s4, s5⟩ := hs
  obtain ⟨L', v1, v2⟩ := visS_zero c
  rw [s1] at v1
  cases v1
  rcases v2 with ⟨z, _⟩ | ⟨_, v3, v4, v5, v6⟩
  · exact absurd z s2
  · obtain ⟨ia, ha⟩ := List.getElem?_of_mem s3
    obtain ⟨ib, hb⟩ := List.getElem?_of_mem s4
    have la := (List.getElem?_eq_some_iff.mp ha).1
    have lb := (List.getElem?_eq_some_iff.mp hb).1
    have hS := (audK_ok (R := R) (r0 := r0) (r1 := r1) h1 i).1
    have hk : ia * (aMv L [r0, r1] 1).length + ib < (aMv L [r0, r1] 0).length * (aMv L [r0, r1] 1).length := by
      have : (ia + 1) * (aMv L [r0, r1] 1).length ≤ (aMv L [r0, r1] 0).length * (aMv L [r0, r1] 1).length := Nat.mul_le_mul_right _ la
      rw [Nat.add_mul, Nat.one_mul] at this
      omega
    obtain ⟨T2, t, g1, g2, g3⟩ := exK_get (R := R) (T := T) (r0 := r0) (r1 := r1) (M0 := aMv L [r0, r1] 0) (M1 := aMv L [r0, r1] 1) hS _ v3 _ hk
    have d1 : (ia * (aMv L [r0, r1] 1).length + ib) / (aMv L [r0, r1] 1).length = ia := by
      rw [Nat.mul_comm, Nat.mul_add_div (by omega), Nat.div_eq_of_lt lb, Nat.add_zero]
    have d2 : (ia * (aMv L [r0, r1] 1).length + ib) % (aMv L [r0, r1] 1).length = ib := by
      rw [Nat.mul_comm, Nat.mul_add_mod, Nat.mod_eq_of_lt lb]
    unfold exN at g1
    rw [d1, d2, ha, hb] at g1
    simp only at g1
    rw [s5] at g1
    cases g1
    rw [f, v6]
    exact List.mem_append_left _ (List.mem_of_getElem? g3)
theorem Rch_mem {R : List Rl} {r0 r1 : Tm} {T1 : List Tm} (h1 : okT T1 ∧ T1.length ≤ 24) (h : (audK R r0 r1 T1 60).1 = 0) : ∀ n T, RchN R r0 r1 T1 n T → T ∈ (audK R r0 r1 T1 60).2.1 := by
  intro n
  induction n with
  | zero =>
    intro T hT
    obtain ⟨_, ⟨K, b⟩, _⟩ := audK_ok (R := R) (r0 := r0) (r1 := r1) h1 60
    rw [b]
    have : T = T1 := hT
    rw [this]
    simp
  | succ n ih =>
    rintro T ⟨T', a, b⟩
    exact aud_closed h1 h (ih T' a) b
