/-! all states of a game, gone through: mathematics -/
def fnd : List (List Tm) → List Tm → Option Nat
  | [], _ => none
  | x :: xs, T => if x = T then some 0 else (fnd xs T).map (fun n => n + 1)
theorem fnd_some : ∀ {S : List (List Tm)} {T : List Tm} {i : Nat}, fnd S T = some i → S[i]? = some T := by
  intro S
  induction S with
  | nil => intro T i h; cases h
  | cons x xs ih =>
    intro T i h
    rw [fnd] at h
    by_cases e : x = T
    · rw [if_pos e] at h
      cases h
      rw [e]
      rfl
    · rw [if_neg e] at h
      cases h2 : fnd xs T with
      | none => rw [h2] at h; cases h
      | some j =>
        rw [h2] at h
        have : j + 1 = i := Option.some.inj h
        rw [← this, List.getElem?_cons_succ]
        exact ih h2
theorem fnd_first : ∀ {S : List (List Tm)} {T : List Tm} {i : Nat}, S[i]? = some T → (∀ j, j < i → S[j]? ≠ some T) → fnd S T = some i := by
  intro S
  induction S with
  | nil => intro T i h; simp at h
  | cons x xs ih =>
    intro T i h hn
    rw [fnd]
    cases i with
    | zero =>
      rw [if_pos (by simpa using h)]
    | succ i =>
      rw [if_neg (fun e => hn 0 (by omega) (by rw [e]; rfl))]
      rw [List.getElem?_cons_succ] at h
      rw [ih h (fun j hj => by have := hn (j + 1) (by omega); rw [List.getElem?_cons_succ] at this; exact this)]
      rfl
theorem fnd_none : ∀ {S : List (List Tm)} {T : List Tm}, (∀ j : Nat, j < S.length → S[j]? ≠ some T) → fnd S T = none := by
  intro S
  induction S with
  | nil => intro T _; rfl
  | cons x xs ih =>
    intro T hn
    rw [fnd, if_neg (fun e => hn 0 (by simp) (by rw [e]; rfl)), ih (fun j hj => by have := hn (j + 1) (by simp; omega); rw [List.getElem?_cons_succ] at this; exact this)]
    rfl
theorem fnd_mem {S : List (List Tm)} {T : List Tm} (h : T ∈ S) : ∃ i, fnd S T = some i := by
  cases e : fnd S T with
  | some i => exact ⟨i, rfl⟩
  | none =>
    exfalso
    have : ∀ {S : List (List Tm)}, fnd S T = none → T ∈ S → False := by
      intro S
      induction S with
      | nil => intro _ h; simp at h
      | cons x xs ih =>
        intro e h
        rw [fnd] at e
        by_cases e2 : x = T
        · rw [if_pos e2] at e
          cases e
        · rw [if_neg e2] at e
          rcases List.mem_cons.mp h with z | z
          · exact e2 z.symm
          · cases e3 : fnd xs T with
            | none => exact ih e3 z
            | some j => rw [e3] at e; cases e
    exact this e h
/-- the joint move k, and where it leads -/
noncomputable def exN (R : List Rl) (T : List Tm) (r0 r1 : Tm) (M0 M1 : List Tm) (k : Nat) : Option (List Tm) := match M0[k / M1.length]?, M1[k % M1.length]? with
  | some x, some y => aNx R T r0 x r1 y
  | _, _ => none
def exS (o : Option (List Tm)) (X : List (List Tm) × List Nat) : Bool × List (List Tm) × List Nat := match o with
  | none => (false, X)
  | some T' => match fnd X.1 T' with
    | some t => (true, X.1, X.2 ++ [t])
    | none => if X.1.length = 60 then (false, X) else (true, X.1 ++ [T'], X.2 ++ [X.1.length])
/-- the first k joint moves: whether all went well, the states, where they lead -/
noncomputable def exK (R : List Rl) (T : List Tm) (r0 r1 : Tm) (M0 M1 : List Tm) (S : List (List Tm)) : Nat → Bool × List (List Tm) × List Nat
  | 0 => (true, S, [])
  | k + 1 => if (exK R T r0 r1 M0 M1 S k).1 = true then exS (exN R T r0 r1 M0 M1 k) (exK R T r0 r1 M0 M1 S k).2 else exK R T r0 r1 M0 M1 S k
/-- of a state: its goal where it is an end, how many moves the other has (0 at an end), where it leads -/
abbrev DT : Type := Int32 × Nat × List Nat
def okS (S : List (List Tm)) : Prop := S.length ≤ 60 ∧ ∀ T ∈ S, okT T ∧ T.length ≤ 24
theorem aNx_ok {R : List Rl} {T T' : List Tm} {r0 m0 r1 m1 : Tm} (h : aNx R T r0 m0 r1 m1 = some T') : okT T' ∧ T'.length ≤ 24 := by
  unfold aNx at h
  cases e : vw R (bT T ++ bD r0 m0 r1 m1) with
  | none => rw [e] at h; cases h
  | some L =>
    rw [e] at h
    have := aSt_get (show aSt 313 L = some T' from h)
    exact ⟨this.1, this.2.1⟩
theorem exN_ok {R : List Rl} {T T' : List Tm} {r0 r1 : Tm} {M0 M1 : List Tm} {k : Nat} (h : exN R T r0 r1 M0 M1 k = some T') : okT T' ∧ T'.length ≤ 24 := by
  unfold exN at h
  split at h
  · exact aNx_ok h
  · cases h
/-- the states only grow; where moves lead stays below them -/
theorem exS_ok {o : Option (List Tm)} {X : List (List Tm) × List Nat} (ho : ∀ T', o = some T' → okT T' ∧ T'.length ≤ 24) (h1 : okS X.1) (h2 : ∀ t ∈ X.2, t < X.1.length) : okS (exS o X).2.1 ∧ (∃ K, (exS o X).2.1 = X.1 ++ K) ∧ (∀ t ∈ (exS o X).2.2, t < (exS o X).2.1.length) ∧ ((exS o X).1 = true → (exS o X).2.2.length = X.2.length + 1) := by
  unfold exS
  cases o with
  | none => exact ⟨h1, ⟨[], by simp⟩, h2, fun z => by cases z⟩
  | some T' =>
    simp only
    cases e : fnd X.1 T' with
    | some t =>
      refine ⟨h1, ⟨[], by simp⟩, fun t' ht' => ?_, fun _ => by simp⟩
      rcases List.mem_append.mp ht' with z | z
      · exact h2 t' z
      · rw [List.mem_singleton.mp z]
        exact (List.getElem?_eq_some_iff.mp (fnd_some e)).1
    | none =>
      simp only
      by_cases h60 : X.1.length = 60
      · rw [if_pos h60]
        exact ⟨h1, ⟨[], by simp⟩, h2, fun z => by cases z⟩
      · rw [if_neg h60]
        have h1a := h1.1
        refine ⟨⟨by simp only [List.length_append, List.length_singleton]; omega, fun T ht => ?_⟩, ⟨[T'], rfl⟩, fun t' ht' => ?_, fun _ => by simp⟩
        · rcases List.mem_append.mp ht with z | z
          · exact h1.2 T z
          · rw [List.mem_singleton.mp z]
            exact ho T' rfl
        · simp only [List.length_append, List.length_singleton]
          rcases List.mem_append.mp ht' with z | z
          · have := h2 t' z
            omega
          · rw [List.mem_singleton.mp z]
            omega
theorem exK_ok {R : List Rl} {T : List Tm} {r0 r1 : Tm} {M0 M1 : List Tm} {S : List (List Tm)} (hS : okS S) : ∀ k, okS (exK R T r0 r1 M0 M1 S k).2.1 ∧ (∃ K, (exK R T r0 r1 M0 M1 S k).2.1 = S ++ K) ∧ (∀ t ∈ (exK R T r0 r1 M0 M1 S k).2.2, t < (exK R T r0 r1 M0 M1 S k).2.1.length) ∧ ((exK R T r0 r1 M0 M1 S k).1 = true → (exK R T r0 r1 M0 M1 S k).2.2.length = k) := by
  intro k
  induction k with
  | zero => exact ⟨hS, ⟨[], by simp [exK]⟩, fun t h => absurd h (by simp [exK]), fun _ => rfl⟩
  | succ k ih =>
    rw [exK]
    by_cases h : (exK R T r0 r1 M0 M1 S k).1 = true
    · rw [if_pos h]
      obtain ⟨a, ⟨K, b⟩, c, e⟩ := ih
      obtain ⟨a', ⟨K', b'⟩, c', e'⟩ := exS_ok (o := exN R T r0 r1 M0 M1 k) (fun T' h => exN_ok h) a c
      exact ⟨a', ⟨K ++ K', by rw [b', b, List.append_assoc]⟩, c', fun z => by rw [e' z, e h]⟩
    · rw [if_neg h]
      exact ⟨ih.1, ih.2.1, ih.2.2.1, fun z => absurd z h⟩
theorem exK_stop {R : List Rl} {T : List Tm} {r0 r1 : Tm} {M0 M1 : List Tm} {S : List (List Tm)} {k : Nat} (h : (exK R T r0 r1 M0 M1 S k).1 = false) : ∀ m, exK R T r0 r1 M0 M1 S (k + m) = exK R T r0 r1 M0 M1 S k := by
  intro m
  induction m with
  | zero => rfl
  | succ m ih =>
    rw [← Nat.add_assoc, exK, ih, if_neg (by rw [h]; decide)]
/-- the faults of a state, and where it leads -/
noncomputable def visS (R : List Rl) (r0 r1 : Tm) (T : List Tm) (S : List (List Tm)) : Int32 × List (List Tm) × DT := by
  classical
  exact match vw R (bT T) with
  | none => (7, S, (-1, 0, []))
  | some L => if aEn L then (if goalV (aGs L [r0, r1] 0) = -1 ∨ goalV (aGs L [r0, r1] 1) = -1 then 4 else if goalV (aGs L [r0, r1] 0) + goalV (aGs L [r0, r1] 1) = 8 then 0 else 5, S, (goalV (aGs L [r0, r1] 0), 0, []))
    else if (aMv L [r0, r1] 0).length = 0 ∨ (aMv L [r0, r1] 1).length = 0 then (2, S, (-1, 0, []))
    else if 1 < (aMv L [r0, r1] 0).length ∧ 1 < (aMv L [r0, r1] 1).length then (3, S, (-1, 0, []))
    else (if (exK R T r0 r1 (aMv L [r0, r1] 0) (aMv L [r0, r1] 1) S ((aMv L [r0, r1] 0).length * (aMv L [r0, r1] 1).length)).1 = true then 0 else 7, (exK R T r0 r1 (aMv L [r0, r1] 0) (aMv L [r0, r1] 1) S ((aMv L [r0, r1] 0).length * (aMv L [r0, r1] 1).length)).2.1, (-1, (aMv L [r0, r1] 1).length, (exK R T r0 r1 (aMv L [r0, r1] 0) (aMv L [r0, r1] 1) S ((aMv L [r0, r1] 0).length * (aMv L [r0, r1] 1).length)).2.2))
/-- the first i states gone through: what came, the states, what is known of each -/
noncomputable def audK (R : List Rl) (r0 r1 : Tm) (T1 : List Tm) : Nat → Int32 × List (List Tm) × List DT
  | 0 => (0, [T1], [])
  | i + 1 => if (audK R r0 r1 T1 i).1 = 0 then (match (audK R r0 r1 T1 i).2.1[i]? with
      | none => audK R r0 r1 T1 i
      | some T => ((visS R r0 r1 T (audK R r0 r1 T1 i).2.1).1, (visS R r0 r1 T (audK R r0 r1 T1 i).2.1).2.1, (audK R r0 r1 T1 i).2.2 ++ [(visS R r0 r1 T (audK R r0 r1 T1 i).2.1).2.2]))
    else audK R r0 r1 T1 i
theorem audK_go {R : List Rl} {r0 r1 : Tm} {T1 T : List Tm} {i : Nat} (h0 : (audK R r0 r1 T1 i).1 = 0) (hT : (audK R r0 r1 T1 i).2.1[i]? = some T) : audK R r0 r1 T1 (i + 1) = ((visS R r0 r1 T (audK R r0 r1 T1 i).2.1).1, (visS R r0 r1 T (audK R r0 r1 T1 i).2.1).2.1, (audK R r0 r1 T1 i).2.2 ++ [(visS R r0 r1 T (audK R r0 r1 T1 i).2.1).2.2]) := by
  rw [audK, if_pos h0, hT]
theorem audK_stop {R : List Rl} {r0 r1 : Tm} {T1 : List Tm} {i : Nat} (h : (audK R r0 r1 T1 i).1 ≠ 0 ∨ (audK R r0 r1 T1 i).2.1.length ≤ i) : ∀ m, audK R r0 r1 T1 (i + m) = audK R r0 r1 T1 i := by
  intro m
  induction m with
  | zero => rfl
  | succ m ih =>
    rw [← Nat.add_assoc, audK, ih]
    by_cases h0 : (audK R r0 r1 T1 i).1 = 0
    · rw [if_pos h0]
      rcases h with z | z
      · exact absurd h0 z
      · rw [List.getElem?_eq_none (by omega)]
    · rw [if_neg h0]
/-- a state's own count of moves and where they lead -/
def okD (S : List (List Tm)) (d : DT) : Prop := d.2.1 ≤ 200 ∧ d.2.2.length ≤ 200 ∧ (∀ t ∈ d.2.2, t < S.length) ∧ (d.2.1 = 0 → d.2.2 = [] ∧ 0 ≤ d.1) ∧ (d.2.1 ≠ 0 → d.2.2 ≠ [] ∧ d.1 = -1 ∧ (1 < d.2.1 → d.2.2.length = d.2.1))
theorem okD.mono {S S' : List (List Tm)} {d : DT} (h : okD S d) (hl : S.length ≤ S'.length) : okD S' d := ⟨h.1, h.2.1, fun t ht => by have := h.2.2.1 t ht; omega, h.2.2.2⟩
theorem goalV_ge (T : List Tm) : goalV T = -1 ∨ 0 ≤ goalV T := by
  unfold goalV
  split
  · split
    · right
      exact nI_pos' (by rename_i h; omega)
    · left; rfl
  · left; rfl
theorem mv_len {R : List Rl} {B L : List Fct} (h : vw R B = some L) (P : List Tm) (i : Nat) : (aMv L P i).length ≤ 200 := by
  have hs := (vw_get h).2
  unfold aMv rowS
  split
  · rename_i he
    obtain ⟨a, b⟩ := Classical.choose_spec he
    revert a b
    generalize Classical.choose he = T
    intro a b
    refine Nat.le_trans ?_ hs.1
    have hnd : ((T.map (fun x => ((306, [(P.getD i (0, [])), x]) : Fct))) : List Fct).Nodup := by
      refine List.Pairwise.map _ ?_ a.nodup
      intro x y hxy e
      simp only [Prod.mk.injEq, List.cons.injEq, and_true, true_and] at e
      exact hxy e
    have := nodup_sub_len (M := L) hnd (fun f hf => by
      obtain ⟨x, hx, rfl⟩ := List.mem_map.mp hf
      obtain ⟨r, hr, hm⟩ := (b x).mp hx
      rw [List.getD_eq_getElem?_getD, hr]
      exact hm)
    rw [List.length_map] at this
    exact this
  · simp
theorem visS_ok {R : List Rl} {r0 r1 : Tm} {T : List Tm} {S : List (List Tm)} (hS : okS S) : okS (visS R r0 r1 T S).2.1 ∧ (∃ K, (visS R r0 r1 T S).2.1 = S ++ K) ∧ ((visS R r0 r1 T S).1 = 0 → okD (visS R r0 r1 T S).2.1 (visS R r0 r1 T S).2.2) := by
  unfold visS
  split
  · exact ⟨hS, ⟨[], by simp⟩, fun z => absurd (show (7 : Int32) = 0 from z) (by decide)⟩
  · rename_i L hL
    by_cases he : aEn L
    · rw [if_pos he]
      refine ⟨hS, ⟨[], by simp⟩, fun z => ⟨Nat.zero_le _, Nat.zero_le _, fun t h => absurd h (by simp), fun _ => ⟨rfl, ?_⟩, fun z => absurd rfl z⟩⟩
      rcases goalV_ge (aGs L [r0, r1] 0) with g | g
      · simp only at z
        rw [if_pos (Or.inl g)] at z
        exact absurd z (by decide)
      · exact g
    · rw [if_neg he]
      by_cases h1 : (aMv L [r0, r1] 0).length = 0 ∨ (aMv L [r0, r1] 1).length = 0
      · rw [if_pos h1]
        exact ⟨hS, ⟨[], by simp⟩, fun z => absurd (show (2 : Int32) = 0 from z) (by decide)⟩
      · rw [if_neg h1]
        by_cases h2 : 1 < (aMv L [r0, r1] 0).length ∧ 1 < (aMv L [r0, r1] 1).length
        · rw [if_pos h2]
          exact ⟨hS, ⟨[], by simp⟩, fun z => absurd (show (3 : Int32) = 0 from z) (by decide)⟩
        · rw [if_neg h2]
          obtain ⟨a, b, c, e⟩ := exK_ok (R := R) (T := T) (r0 := r0) (r1 := r1) (M0 := aMv L [r0, r1] 0) (M1 := aMv L [r0, r1] 1) hS ((aMv L [r0, r1] 0).length * (aMv L [r0, r1] 1).length)
          refine ⟨a, b, fun z => ?_⟩
          have l0 := mv_len hL [r0, r1] 0
          have l1 := mv_len hL [r0, r1] 1
          have hok : (exK R T r0 r1 (aMv L [r0, r1] 0) (aMv L [r0, r1] 1) S ((aMv L [r0, r1] 0).length * (aMv L [r0, r1] 1).length)).1 = true := by
            refine Classical.not_not.mp (fun zz => ?_)
            simp only at z
            rw [if_neg zz] at z
            exact absurd z (by decide)
          have hlen := e hok
          have hprod : (aMv L [r0, r1] 0).length * (aMv L [r0, r1] 1).length ≤ 200 ∧ 0 < (aMv L [r0, r1] 0).length * (aMv L [r0, r1] 1).length ∧ (1 < (aMv L [r0, r1] 1).length → (aMv L [r0, r1] 0).length * (aMv L [r0, r1] 1).length = (aMv L [r0, r1] 1).length) := by
            by_cases h3 : (aMv L [r0, r1] 0).length = 1
            · rw [h3, Nat.one_mul]
              exact ⟨l1, by omega, fun _ => rfl⟩
            · have h4 : (aMv L [r0, r1] 1).length = 1 := by omega
              rw [h4, Nat.mul_one]
              exact ⟨l0, by omega, fun z => by omega⟩
          refine ⟨l1, by rw [hlen]; exact hprod.1, c, fun z => absurd (Or.inr z) h1, fun _ => ⟨fun z2 => ?_, rfl, fun z2 => by rw [hlen]; exact hprod.2.2 z2⟩⟩
          simp only at z2
          rw [z2] at hlen
          simp only [List.length_nil] at hlen
          omega
theorem audK_ok {R : List Rl} {r0 r1 : Tm} {T1 : List Tm} (h1 : okT T1 ∧ T1.length ≤ 24) : ∀ i, okS (audK R r0 r1 T1 i).2.1 ∧ (∃ K, (audK R r0 r1 T1 i).2.1 = [T1] ++ K) ∧ ((audK R r0 r1 T1 i).1 = 0 → (∀ d ∈ (audK R r0 r1 T1 i).2.2, okD (audK R r0 r1 T1 i).2.1 d) ∧ (i ≤ (audK R r0 r1 T1 i).2.1.length → (audK R r0 r1 T1 i).2.2.length = i) ∧ ((audK R r0 r1 T1 i).2.1.length ≤ i → (audK R r0 r1 T1 i).2.2.length = (audK R r0 r1 T1 i).2.1.length)) := by
  intro i
  induction i with
  | zero => exact ⟨⟨by simp [audK], fun T hT => by simp only [audK, List.mem_singleton] at hT; rw [hT]; exact h1⟩, ⟨[], rfl⟩, fun _ => ⟨fun d h => absurd h (by simp [audK]), fun _ => rfl, fun z => absurd z (by simp [audK])⟩⟩
  | succ i ih =>
    obtain ⟨a, ⟨K, b⟩, c⟩ := ih
    by_cases h0 : (audK R r0 r1 T1 i).1 = 0
    · cases hT : (audK R r0 r1 T1 i).2.1[i]? with
      | none =>
        have hl := List.getElem?_eq_none_iff.mp hT
        rw [audK_stop (Or.inr hl) 1]
        refine ⟨a, ⟨K, b⟩, fun z => ⟨(c z).1, fun hle => by omega, fun _ => (c z).2.2 hl⟩⟩
      | some T =>
        have hil := (List.getElem?_eq_some_iff.mp hT).1
        rw [audK_go h0 hT]
        obtain ⟨a', ⟨K', b'⟩, c'⟩ := visS_ok (R := R) (r0 := r0) (r1 := r1) (T := T) a
        have hlen : (audK R r0 r1 T1 i).2.1.length ≤ (visS R r0 r1 T (audK R r0 r1 T1 i).2.1).2.1.length := by rw [b', List.length_append]; omega
        have cc := c h0
        have hdl : (audK R r0 r1 T1 i).2.2.length = i := cc.2.1 (by omega)
        refine ⟨a', ⟨K ++ K', by rw [b', b, List.append_assoc]⟩, fun z => ⟨fun d hd => ?_, fun _ => by simp only [List.length_append, List.length_singleton]; omega, fun hle => ?_⟩⟩
        · rcases List.mem_append.mp hd with y | y
          · exact (cc.1 d y).mono hlen
          · rw [List.mem_singleton.mp y]
            exact c' z
        · simp only [List.length_append, List.length_singleton] at hle ⊢
          omega
    · rw [audK_stop (Or.inl h0) 1]
      exact ⟨a, ⟨K, b⟩, fun z => absurd z h0⟩
