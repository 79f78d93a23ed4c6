/-! the reader as a function of the text that is left; numbers -/
theorem nI_mul (a b : Nat) : nI a * nI b = nI (a * b) := (Int32.ofNat_mul a b).symm
theorem n_1 : (1 : Int32) = nI 1 := rfl
theorem n_2 : (2 : Int32) = nI 2 := rfl
theorem n_3 : (3 : Int32) = nI 3 := rfl
theorem n_4 : (4 : Int32) = nI 4 := rfl
theorem n_5 : (5 : Int32) = nI 5 := rfl
theorem n_6 : (6 : Int32) = nI 6 := rfl
theorem n_9 : (9 : Int32) = nI 9 := rfl
theorem n_24 : (24 : Int32) = nI 24 := rfl
theorem nI_sub1 (n : Nat) : nI (n + 1) + (-1 : Int32) = nI n := by
  rw [nI_succ, Int32.add_assoc, show (1 : Int32) + -1 = 0 from by decide, Int32.add_zero]
theorem i_sub1 (x : Int32) : x - 1 = x + (-1 : Int32) := Int32.sub_eq_add_neg x 1
abbrev Tm : Type := Int32 × List Int32
abbrev Lt : Type := Int32 × Int32 × List Tm
abbrev Rl : Type := Lt × List Lt
def ps_hc (l : List Int32) : Int32 := l.headD 0
def ps_parts (o : Int32) : Nat → List Int32 → List Int32 → Option Tm × List Int32
  | 0, acc, l => if chP (ps_hc l) then (if ps_hc l.tail = 41 then (some (o, acc ++ [ps_hc l]), l.tail.tail) else (none, l.tail)) else (none, l)
  | n + 1, acc, l => if chP (ps_hc l) then (if ps_hc l.tail = 41 then (some (o, acc ++ [ps_hc l]), l.tail.tail) else if ps_hc l.tail = 44 then ps_parts o n (acc ++ [ps_hc l]) l.tail.tail else (none, l.tail)) else (none, l)
def ps_term (l : List Int32) : Option Tm × List Int32 := if chP (ps_hc l) then (if chL (ps_hc l) ∧ ps_hc l.tail = 40 then ps_parts (ps_hc l) 2 [] l.tail.tail else (some (0, [ps_hc l]), l.tail)) else (none, l)
def ps_args (c due : Int32) : Nat → List Tm → List Int32 → Option (Int32 × List Tm) × List Int32
  | 0, acc, l => match ps_term l with
    | (none, l') => (none, l')
    | (some t, l') => if (due < 0 ∨ nI (acc.length + 1) = due) ∧ ps_hc l' = 41 then (some (c, acc ++ [t]), l'.tail) else (none, l')
  | n + 1, acc, l => match ps_term l with
    | (none, l') => (none, l')
    | (some t, l') => if (due < 0 ∨ nI (acc.length + 1) = due) ∧ ps_hc l' = 41 then (some (c, acc ++ [t]), l'.tail) else if nI (acc.length + 1) = due ∨ ¬ ps_hc l' = 44 then (none, l') else ps_args c due n (acc ++ [t]) l'.tail
def ps_atom (l : List Int32) : Option (Int32 × List Tm) × List Int32 :=
  if chL (ps_hc l) ∨ 0 ≤ chK (ps_hc l) then
    (if chK (ps_hc l) = 0 then (some (ps_hc l, []), l.tail)
    else if ps_hc l.tail = 40 then ps_args (ps_hc l) (chK (ps_hc l)) 2 [] l.tail.tail
    else if 0 ≤ chK (ps_hc l) then (none, l.tail) else (some (ps_hc l, []), l.tail))
  else (none, l)
def ps_un (a : Tm) (l : List Int32) : Option Lt × List Int32 := if ps_hc l = 35 then (match ps_term l.tail with
    | (some t, l') => (some (2, 0, [a, t]), l')
    | (none, l') => (none, l')) else (none, l)
def ps_asT (c : Int32) (ts : List Tm) : Tm := if ts.length = 0 then (0, [c]) else (c, ts.map (fun t => ps_hc t.2))
def ps_flat (ts : List Tm) : Bool := ts.all (fun t => t.1 == 0)
def ps_lit (l : List Int32) : Option Lt × List Int32 :=
  if ps_hc l = 126 then (match ps_atom l.tail with
    | (some x, l') => (some (1, x.1, x.2), l')
    | (none, l') => (none, l'))
  else if chL (ps_hc l) ∨ 0 ≤ chK (ps_hc l) then (match ps_atom l with
    | (none, l') => (none, l')
    | (some x, l') => if ps_hc l' = 35 ∧ chL (ps_hc l) ∧ ps_flat x.2 = true then ps_un (ps_asT x.1 x.2) l' else (some (0, x.1, x.2), l'))
  else (match ps_term l with
    | (none, l') => (none, l')
    | (some t, l') => ps_un t l')
def ps_body (h : Lt) : Nat → List Lt → List Int32 → Option Rl × List Int32
  | 0, _, l => (none, l)
  | n + 1, acc, l => match ps_lit l with
    | (none, l') => (none, l')
    | (some x, l') => if ps_hc l' = 46 then (some (h, acc ++ [x]), l'.tail) else if ps_hc l' = 44 then ps_body h n (acc ++ [x]) l'.tail else (none, l')
def ps_rule (l : List Int32) : Option Rl × List Int32 := match ps_atom l with
  | (none, l') => (none, l')
  | (some x, l') => if ps_hc l' = 46 then (some ((0, x.1, x.2), []), l'.tail) else if ps_hc l' = 58 then ps_body (0, x.1, x.2) 5 [] l'.tail else (none, l')
def ps_all : Nat → List Rl → List Int32 → Option (List Rl) × List Int32
  | 0, _, l => (none, l)
  | n + 1, acc, l => match ps_rule l with
    | (none, l') => (none, l')
    | (some r, l') => if l'.length = 0 then (some (acc ++ [r]), l') else ps_all n (acc ++ [r]) l'
theorem ps_hc_ne {l : List Int32} {c : Int32} (h0 : c ≠ 0) (h : ps_hc l = c) : l ≠ [] := by
  intro e
  subst e
  exact h0 h.symm
theorem chP_ne {c : Int32} (h : chP c) : c ≠ 0 := by
  intro e
  subst e
  revert h
  decide
/-- the text T, of which l is left: the reader's place and length say so -/
def rL (n p : Int32) (f : Nat → Int32) (T l : List Int32) : Prop := n = nI T.length ∧ T.length ≤ 240 ∧ (∀ k, k < T.length → f k = T.getD k 0) ∧ ∃ q, q + l.length = T.length ∧ p = nI q ∧ T.drop q = l
theorem rL.step {n p : Int32} {f : Nat → Int32} {T l : List Int32} (h : rL n p f T l) (hl : l ≠ []) : rL n (p + 1) f T l.tail := by
  obtain ⟨h1, h2, h3, q, h4, h5, h6⟩ := h
  cases l with
  | nil => exact absurd rfl hl
  | cons x l =>
    refine ⟨h1, h2, h3, q + 1, ?_, ?_, ?_⟩
    · simp only [List.length_cons] at h4
      simp only [List.tail_cons]
      omega
    · rw [h5, nI_1]
    · rw [← List.drop_drop, h6]
      rfl
theorem rL.get {n p : Int32} {f : Nat → Int32} {T l : List Int32} (h : rL n p f T l) : ∃ q, q + l.length = T.length ∧ p = nI q ∧ (l ≠ [] → f q = ps_hc l) := by
  obtain ⟨h1, h2, h3, q, h4, h5, h6⟩ := h
  refine ⟨q, h4, h5, fun hl => ?_⟩
  cases l with
  | nil => exact absurd rfl hl
  | cons x l =>
    simp only [List.length_cons] at h4
    have e : T[q]? = some x := by
      have := congrArg (fun z : List Int32 => z[0]?) h6
      simpa [List.getElem?_drop] using this
    rw [h3 q (by omega), List.getD_eq_getElem?_getD, e]
    rfl
theorem rL.len {n p : Int32} {f : Nat → Int32} {T l : List Int32} (h : rL n p f T l) : n = nI T.length ∧ T.length ≤ 240 := ⟨h.1, h.2.1⟩
/-! well formed: what the reader makes -/
def wfT (x : Tm) : Prop := (x.1 = 0 ∧ ∃ c, chP c ∧ x.2 = [c]) ∨ (chL x.1 ∧ 1 ≤ x.2.length ∧ x.2.length ≤ 3 ∧ ∀ c ∈ x.2, chP c)
def wfA (c : Int32) (ts : List Tm) : Prop := (chL c ∨ (0 ≤ chK c ∧ nI ts.length = chK c)) ∧ ts.length ≤ 3 ∧ ∀ t ∈ ts, wfT t
def wfL (x : Lt) : Prop := ((x.1 = 0 ∨ x.1 = 1) ∧ wfA x.2.1 x.2.2) ∨ (x.1 = 2 ∧ ∃ a b, x.2.2 = [a, b] ∧ wfT a ∧ wfT b)
def wfR (r : Rl) : Prop := (r.1.1 = 0 ∧ wfA r.1.2.1 r.1.2.2) ∧ r.2.length ≤ 5 ∧ ∀ x ∈ r.2, wfL x
theorem ps_parts_wf {o : Int32} (ho : chL o) : ∀ (n : Nat) (acc l : List Int32), n + acc.length = 2 → (∀ c ∈ acc, chP c) → ∀ x l', ps_parts o n acc l = (some x, l') → wfT x := by
  intro n
  induction n with
  | zero =>
    intro acc l hn ha x l' h
    rw [ps_parts] at h
    by_cases h1 : chP (ps_hc l)
    · rw [if_pos h1] at h
      by_cases h2 : ps_hc l.tail = 41
      · rw [if_pos h2] at h
        cases h
        refine Or.inr ⟨ho, ?_, ?_, ?_⟩
        · simp
        · simp only [List.length_append, List.length_cons, List.length_nil]
          omega
        · intro c hc
          simp only [List.mem_append, List.mem_singleton] at hc
          rcases hc with hc | hc
          · exact ha c hc
          · rw [hc]; exact h1
      · rw [if_neg h2] at h
        cases h
    · rw [if_neg h1] at h
      cases h
  | succ n ih =>
    intro acc l hn ha x l' h
    rw [ps_parts] at h
    by_cases h1 : chP (ps_hc l)
    · rw [if_pos h1] at h
      have ha' : ∀ c ∈ acc ++ [ps_hc l], chP c := by
        intro c hc
        simp only [List.mem_append, List.mem_singleton] at hc
        rcases hc with hc | hc
        · exact ha c hc
        · rw [hc]; exact h1
      by_cases h2 : ps_hc l.tail = 41
      · rw [if_pos h2] at h
        cases h
        refine Or.inr ⟨ho, ?_, ?_, ha'⟩
        · simp
        · simp only [List.length_append, List.length_cons, List.length_nil]
          omega
      · rw [if_neg h2] at h
        by_cases h3 : ps_hc l.tail = 44
        · rw [if_pos h3] at h
          refine ih _ _ ?_ ha' x l' h
          simp only [List.length_append, List.length_cons, List.length_nil]
          omega
        · rw [if_neg h3] at h
          cases h
    · rw [if_neg h1] at h
      cases h
theorem ps_term_wf {l l' : List Int32} {x : Tm} (h : ps_term l = (some x, l')) : wfT x := by
  unfold ps_term at h
  by_cases h1 : chP (ps_hc l)
  · rw [if_pos h1] at h
    by_cases h2 : chL (ps_hc l) ∧ ps_hc l.tail = 40
    · rw [if_pos h2] at h
      exact ps_parts_wf h2.1 2 [] _ rfl (fun c hc => absurd hc (by simp)) x l' h
    · rw [if_neg h2] at h
      cases h
      exact Or.inl ⟨rfl, _, h1, rfl⟩
  · rw [if_neg h1] at h
    cases h
theorem chK_cases (c : Int32) : chK c = -1 ∨ chK c = 0 ∨ chK c = 1 ∨ chK c = 2 := by
  unfold chK
  repeat' split
  all_goals decide
theorem ps_args_wf {c due : Int32} (hd : (chL c ∧ due < 0) ∨ (chK c = due ∧ 0 < due)) : ∀ (n : Nat) (acc : List Tm) (l : List Int32), n + acc.length = 2 → (∀ t ∈ acc, wfT t) → ∀ x l', ps_args c due n acc l = (some x, l') → x.1 = c ∧ wfA c x.2 := by
  have fin : ∀ (acc : List Tm) (t : Tm), acc.length ≤ 2 → (∀ t ∈ acc, wfT t) → wfT t → (due < 0 ∨ nI (acc.length + 1) = due) → wfA c (acc ++ [t]) := by
    intro acc t hn ha ht h
    refine ⟨?_, ?_, ?_⟩
    · have e : (acc ++ [t]).length = acc.length + 1 := by simp
      rw [e]
      rcases hd with ⟨h1, h2⟩ | ⟨h1, h2⟩
      · exact Or.inl h1
      · refine Or.inr ⟨?_, ?_⟩
        · rw [h1]; exact Int32.le_of_lt h2
        · rcases h with h | h
          · exact (Int32.lt_irrefl (Int32.lt_trans h h2)).elim
          · rw [h, h1]
    · simp only [List.length_append, List.length_cons, List.length_nil]
      omega
    · intro y hy
      simp only [List.mem_append, List.mem_singleton] at hy
      rcases hy with hy | hy
      · exact ha y hy
      · rw [hy]; exact ht
  intro n
  induction n with
  | zero =>
    intro acc l hn ha x l' h
    rw [ps_args] at h
    cases e : ps_term l with
    | mk o l1 =>
      rw [e] at h
      cases o with
      | none => cases h
      | some t =>
        simp only at h
        by_cases h1 : (due < 0 ∨ nI (acc.length + 1) = due) ∧ ps_hc l1 = 41
        · rw [if_pos h1] at h
          cases h
          exact ⟨rfl, fin acc t (by omega) ha (ps_term_wf e) h1.1⟩
        · rw [if_neg h1] at h
          cases h
  | succ n ih =>
    intro acc l hn ha x l' h
    rw [ps_args] at h
    cases e : ps_term l with
    | mk o l1 =>
      rw [e] at h
      cases o with
      | none => cases h
      | some t =>
        simp only at h
        by_cases h1 : (due < 0 ∨ nI (acc.length + 1) = due) ∧ ps_hc l1 = 41
        · rw [if_pos h1] at h
          cases h
          exact ⟨rfl, fin acc t (by omega) ha (ps_term_wf e) h1.1⟩
        · rw [if_neg h1] at h
          by_cases h2 : nI (acc.length + 1) = due ∨ ¬ ps_hc l1 = 44
          · rw [if_pos h2] at h
            cases h
          · rw [if_neg h2] at h
            refine ih _ _ ?_ ?_ x l' h
            · simp only [List.length_append, List.length_cons, List.length_nil]
              omega
            · intro y hy
              simp only [List.mem_append, List.mem_singleton] at hy
              rcases hy with hy | hy
              · exact ha y hy
              · rw [hy]; exact ps_term_wf e
theorem ps_atom_wf {l l' : List Int32} {x : Int32 × List Tm} (h : ps_atom l = (some x, l')) : x.1 = ps_hc l ∧ wfA x.1 x.2 := by
  unfold ps_atom at h
  by_cases h1 : chL (ps_hc l) ∨ 0 ≤ chK (ps_hc l)
  · rw [if_pos h1] at h
    by_cases h2 : chK (ps_hc l) = 0
    · rw [if_pos h2] at h
      cases h
      exact ⟨rfl, Or.inr ⟨by rw [h2]; exact Int32.le_refl _, by rw [h2]; rfl⟩, Nat.zero_le _, fun t ht => absurd ht (by simp)⟩
    · rw [if_neg h2] at h
      by_cases h3 : ps_hc l.tail = 40
      · rw [if_pos h3] at h
        have hd : (chL (ps_hc l) ∧ chK (ps_hc l) < 0) ∨ (chK (ps_hc l) = chK (ps_hc l) ∧ 0 < chK (ps_hc l)) := by
          rcases chK_cases (ps_hc l) with e | e | e | e
          · rw [e] at h1 ⊢
            rcases h1 with h1 | h1
            · exact Or.inl ⟨h1, by decide⟩
            · exact absurd h1 (by decide)
          · exact absurd e h2
          · rw [e]; exact Or.inr ⟨rfl, by decide⟩
          · rw [e]; exact Or.inr ⟨rfl, by decide⟩
        have := ps_args_wf hd 2 [] _ rfl (fun t ht => absurd ht (by simp)) x l' h
        exact ⟨this.1, by rw [this.1]; exact this.2⟩
      · rw [if_neg h3] at h
        by_cases h4 : 0 ≤ chK (ps_hc l)
        · rw [if_pos h4] at h
          cases h
        · rw [if_neg h4] at h
          cases h
          exact ⟨rfl, Or.inl (h1.resolve_right h4), Nat.zero_le _, fun t ht => absurd ht (by simp)⟩
  · rw [if_neg h1] at h
    cases h
theorem ps_un_wf {a : Tm} (ha : wfT a) {l l' : List Int32} {x : Lt} (h : ps_un a l = (some x, l')) : wfL x := by
  unfold ps_un at h
  by_cases h1 : ps_hc l = 35
  · rw [if_pos h1] at h
    cases e : ps_term l.tail with
    | mk o l1 =>
      rw [e] at h
      cases o with
      | none => cases h
      | some t =>
        cases h
        exact Or.inr ⟨rfl, a, t, rfl, ha, ps_term_wf e⟩
  · rw [if_neg h1] at h
    cases h
theorem ps_asT_wf {c : Int32} {ts : List Tm} (hc : chL c) (h : wfA c ts) (hf : ps_flat ts = true) : wfT (ps_asT c ts) := by
  unfold ps_asT
  by_cases h0 : ts.length = 0
  · rw [if_pos h0]
    exact Or.inl ⟨rfl, c, Or.inl hc, rfl⟩
  · rw [if_neg h0]
    refine Or.inr ⟨hc, ?_, ?_, ?_⟩
    · rw [List.length_map]; omega
    · rw [List.length_map]; exact h.2.1
    · intro y hy
      obtain ⟨t, ht, rfl⟩ := List.mem_map.mp hy
      have hf' : t.1 = 0 := by
        have := List.all_eq_true.mp hf t ht
        simpa using this
      rcases h.2.2 t ht with ⟨_, z, hz, e⟩ | ⟨h1, _⟩
      · rw [e]; exact hz
      · rw [hf'] at h1
        exact absurd h1 (by decide)
theorem ps_lit_wf {l l' : List Int32} {x : Lt} (h : ps_lit l = (some x, l')) : wfL x := by
  unfold ps_lit at h
  by_cases h1 : ps_hc l = 126
  · rw [if_pos h1] at h
    cases e : ps_atom l.tail with
    | mk o l1 =>
      rw [e] at h
      cases o with
      | none => cases h
      | some y =>
        cases h
        exact Or.inl ⟨Or.inr rfl, (ps_atom_wf e).2⟩
  · rw [if_neg h1] at h
    by_cases h2 : chL (ps_hc l) ∨ 0 ≤ chK (ps_hc l)
    · rw [if_pos h2] at h
      cases e : ps_atom l with
      | mk o l1 =>
        rw [e] at h
        cases o with
        | none => cases h
        | some y =>
          simp only at h
          by_cases h3 : ps_hc l1 = 35 ∧ chL (ps_hc l) ∧ ps_flat y.2 = true
          · rw [if_pos h3] at h
            have := ps_atom_wf e
            exact ps_un_wf (ps_asT_wf (by rw [this.1]; exact h3.2.1) this.2 h3.2.2) h
          · rw [if_neg h3] at h
            cases h
            exact Or.inl ⟨Or.inl rfl, (ps_atom_wf e).2⟩
    · rw [if_neg h2] at h
      cases e : ps_term l with
      | mk o l1 =>
        rw [e] at h
        cases o with
        | none => cases h
        | some y => exact ps_un_wf (ps_term_wf e) h
theorem ps_body_wf {hd : Lt} (hh : hd.1 = 0 ∧ wfA hd.2.1 hd.2.2) : ∀ (n : Nat) (acc : List Lt) (l : List Int32), n + acc.length = 5 → (∀ x ∈ acc, wfL x) → ∀ r l', ps_body hd n acc l = (some r, l') → wfR r := by
  intro n
  induction n with
  | zero =>
    intro acc l hn ha r l' h
    rw [ps_body] at h
    cases h
  | succ n ih =>
    intro acc l hn ha r l' h
    rw [ps_body] at h
    cases e : ps_lit l with
    | mk o l1 =>
      rw [e] at h
      cases o with
      | none => cases h
      | some x =>
        simp only at h
        have ha' : ∀ y ∈ acc ++ [x], wfL y := by
          intro y hy
          simp only [List.mem_append, List.mem_singleton] at hy
          rcases hy with hy | hy
          · exact ha y hy
          · rw [hy]; exact ps_lit_wf e
        have hl : (acc ++ [x]).length = acc.length + 1 := by simp
        by_cases h1 : ps_hc l1 = 46
        · rw [if_pos h1] at h
          cases h
          exact ⟨hh, by rw [hl]; omega, ha'⟩
        · rw [if_neg h1] at h
          by_cases h2 : ps_hc l1 = 44
          · rw [if_pos h2] at h
            exact ih _ _ (by rw [hl]; omega) ha' r l' h
          · rw [if_neg h2] at h
            cases h
theorem ps_rule_wf {l l' : List Int32} {r : Rl} (h : ps_rule l = (some r, l')) : wfR r := by
  unfold ps_rule at h
  cases e : ps_atom l with
  | mk o l1 =>
    rw [e] at h
    cases o with
    | none => cases h
    | some x =>
      simp only at h
      by_cases h1 : ps_hc l1 = 46
      · rw [if_pos h1] at h
        cases h
        exact ⟨⟨rfl, (ps_atom_wf e).2⟩, Nat.zero_le _, fun x hx => absurd hx (by simp)⟩
      · rw [if_neg h1] at h
        by_cases h2 : ps_hc l1 = 58
        · rw [if_pos h2] at h
          exact ps_body_wf ⟨rfl, (ps_atom_wf e).2⟩ 5 [] _ rfl (fun x hx => absurd hx (by simp)) r l' h
        · rw [if_neg h2] at h
          cases h
theorem ps_all_wf : ∀ (n : Nat) (acc : List Rl) (l : List Int32), n + acc.length = 24 → (∀ r ∈ acc, wfR r) → ∀ R l', ps_all n acc l = (some R, l') → (∀ r ∈ R, wfR r) ∧ 0 < R.length ∧ R.length ≤ 24 := by
  intro n
  induction n with
  | zero =>
    intro acc l hn ha R l' h
    rw [ps_all] at h
    cases h
  | succ n ih =>
    intro acc l hn ha R l' h
    rw [ps_all] at h
    cases e : ps_rule l with
    | mk o l1 =>
      rw [e] at h
      cases o with
      | none => cases h
      | some x =>
        simp only at h
        have ha' : ∀ y ∈ acc ++ [x], wfR y := by
          intro y hy
          simp only [List.mem_append, List.mem_singleton] at hy
          rcases hy with hy | hy
          · exact ha y hy
          · rw [hy]; exact ps_rule_wf e
        have hl : (acc ++ [x]).length = acc.length + 1 := by simp
        by_cases h1 : l1.length = 0
        · rw [if_pos h1] at h
          cases h
          exact ⟨ha', by rw [hl]; omega, by rw [hl]; omega⟩
        · rw [if_neg h1] at h
          exact ih _ _ (by rw [hl]; omega) ha' R l' h
