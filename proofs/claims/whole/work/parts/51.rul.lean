/-! rules: relations, variables, what depends on what, faults -/
/-- the number of a literal's relation, as the reference has it -/
def lk (x : Lt) : Nat := 4 * cn x.2.1 + x.2.2.length
theorem wfA_lk {k : Int32} {c : Int32} {ts : List Tm} (h : wfA c ts) : lk (k, c, ts) < 512 ∧ 260 ≤ lk (k, c, ts) ∧ 4 * c + nI ts.length = nI (lk (k, c, ts)) ∧ (4 * c + nI ts.length) / 4 = c ∧ (4 * c + nI ts.length) &&& 3 = nI ts.length := by
  obtain ⟨m, h1, h2, rfl⟩ := wfA_nat h
  have h3 := h.2.1
  have h4 := rel_and m h2 ts.length (by omega)
  have e : cn (nI m) = m := cn_nI h2
  unfold lk
  simp only [e]
  refine ⟨by omega, by omega, by rw [n_4, nI_mul, nI_add], h4.2, h4.1⟩
/-- the variables of a term, of terms: a bit each -/
def vb (c : Int32) : Nat := if chV c then 2 ^ (cn c - 85) else 0
def vt (cs : List Int32) : Nat := cs.foldl (fun m c => m ||| vb c) 0
def vm (ts : List Tm) : Nat := ts.foldl (fun m t => m ||| vt t.2) 0
theorem foldl_or {α : Type} (f : α → Nat) (l : List α) : ∀ a : Nat, l.foldl (fun m c => m ||| f c) a = a ||| l.foldl (fun m c => m ||| f c) 0 := by
  induction l with
  | nil => intro a; simp
  | cons x l ih =>
    intro a
    simp only [List.foldl_cons]
    rw [ih (a ||| f x), ih (0 ||| f x), Nat.zero_or, Nat.or_assoc]
theorem chV_cn {c : Int32} (h : chV c) : 85 ≤ cn c ∧ cn c ≤ 90 ∧ c = nI (cn c) := by
  obtain ⟨h1, h2, h3⟩ := chP_cn (Or.inr (Or.inl h))
  rw [h3] at h
  have a := (nI_leI (a := 85) (b := cn c) (by decide) (by omega)).mp h.1
  have b := (nI_leI (a := cn c) (b := 90) (by omega) (by decide)).mp h.2
  exact ⟨a, b, h3⟩
theorem vb_lt (c : Int32) : vb c < 64 := by
  unfold vb
  by_cases h : chV c
  · rw [if_pos h]
    obtain ⟨h1, h2, _⟩ := chV_cn h
    have : cn c - 85 ≤ 5 := by omega
    exact Nat.lt_of_le_of_lt (Nat.pow_le_pow_right (by decide) this) (by decide)
  · rw [if_neg h]
    decide
theorem vb_eq {c : Int32} (h : chV c) : (1 : Int32) <<< ((c - 85) &&& 31) = nI (vb c) := by
  obtain ⟨h1, h2, h3⟩ := chV_cn h
  have : ∀ m, m < 91 → 85 ≤ m → (1 : Int32) <<< ((nI m - 85) &&& 31) = nI (2 ^ (m - 85)) := by decide +kernel
  unfold vb
  rw [if_pos h, h3, this (cn c) (by omega) h1, cn_nI (by omega)]
theorem or_lt64 {a b : Nat} (h : a < 64) (g : b < 64) : a ||| b < 64 := Nat.or_lt_two_pow (n := 6) h g
theorem vt_lt (cs : List Int32) : vt cs < 64 := by
  have : ∀ a, a < 64 → cs.foldl (fun m c => m ||| vb c) a < 64 := by
    induction cs with
    | nil => intro a h; exact h
    | cons x l ih => intro a h; exact ih _ (or_lt64 h (vb_lt x))
  exact this 0 (by decide)
theorem vm_lt (ts : List Tm) : vm ts < 64 := by
  have : ∀ a, a < 64 → ts.foldl (fun m t => m ||| vt t.2) a < 64 := by
    induction ts with
    | nil => intro a h; exact h
    | cons x l ih => intro a h; exact ih _ (or_lt64 h (vt_lt x.2))
  exact this 0 (by decide)
/-- the head's relation depends on that of a literal of the body -/
def dep1 (R : List Rl) (x y : Nat) : Prop := ∃ r ∈ R, lk r.1 = x ∧ ∃ l ∈ r.2, l.1 ≠ 2 ∧ lk l = y
def dpn (R : List Rl) : Nat → Nat → Nat → Prop
  | 0, x, y => dep1 R x y
  | n + 1, x, y => ∃ z, dep1 R x z ∧ dpn R n z y
def Dep (R : List Rl) (x y : Nat) : Prop := ∃ n, dpn R n x y
theorem Dep.one {R : List Rl} {x y : Nat} (h : dep1 R x y) : Dep R x y := ⟨0, h⟩
theorem Dep.head {R : List Rl} {x y z : Nat} (h : dep1 R x z) (g : Dep R z y) : Dep R x y := by
  obtain ⟨n, g⟩ := g
  exact ⟨n + 1, z, h, g⟩
theorem Dep.trans {R : List Rl} {x y z : Nat} (h : Dep R x z) (g : Dep R z y) : Dep R x y := by
  obtain ⟨n, h⟩ := h
  induction n generalizing x with
  | zero => exact Dep.head h g
  | succ n ih =>
    obtain ⟨w, h1, h2⟩ := h
    exact Dep.head h1 (ih h2)
theorem Dep.tail {R : List Rl} {x y z : Nat} (h : Dep R x z) (g : dep1 R z y) : Dep R x y := h.trans (Dep.one g)
theorem Dep.ind {R : List Rl} {x : Nat} {S : Nat → Prop} (h : ∀ z y, z = x ∨ S z → dep1 R z y → S y) {y : Nat} (g : Dep R x y) : S y := by
  obtain ⟨n, g⟩ := g
  have : ∀ n z, z = x ∨ S z → dpn R n z y → S y := by
    intro n
    induction n with
    | zero => intro z hz g; exact h z y hz g
    | succ n ih =>
      intro z hz g
      obtain ⟨w, g1, g2⟩ := g
      exact ih w (Or.inr (h z w hz g1)) g2
  exact this n x (Or.inl rfl) g
/-- the variables that must be held, and those that are: of a rule -/
def vNeed (r : Rl) : Nat := (r.2.filter (fun l => l.1 != 0)).foldl (fun m l => m ||| vm l.2.2) (vm r.1.2.2)
def vHeld (r : Rl) : Nat := (r.2.filter (fun l => l.1 == 0)).foldl (fun m l => m ||| vm l.2.2) 0
/-- fault f of the rule r -/
def flt2 (x : Rl) : Prop := (x.1.2.1 = 84 ∨ x.1.2.1 = 68 ∨ (x.1.2.1 = 82 ∧ (x.2 ≠ [] ∨ vm x.1.2.2 ≠ 0))) ∨ ∃ l ∈ x.2, l.1 ≠ 2 ∧ (l.2.1 = 73 ∨ l.2.1 = 78)
def flt3 (x : Rl) : Prop := ¬ nI (vNeed x) &&& (nI (vHeld x) ^^^ (-1 : Int32)) = 0
def flt4 (R : List Rl) (x : Rl) : Prop := ∃ l ∈ x.2, l.1 = 1 ∧ (lk l = lk x.1 ∨ Dep R (lk l) (lk x.1))
def flt5 (R : List Rl) (x : Rl) : Prop := (x.1.2.1 = 73 ∧ (Dep R (lk x.1) 274 ∨ Dep R (lk x.1) 337 ∨ Dep R (lk x.1) 306 ∨ Dep R (lk x.1) 286 ∨ Dep R (lk x.1) 276)) ∨ ((x.1.2.1 = 76 ∨ x.1.2.1 = 71 ∨ x.1.2.1 = 69) ∧ Dep R (lk x.1) 274)
def flt (R : List Rl) (f : Nat) (x : Rl) : Prop := if f = 2 then flt2 x else if f = 3 then flt3 x else if f = 4 then flt4 R x else flt5 R x
/-- the fault that is told: the least kind, its first rule -/
def flFirst (R : List Rl) (f r : Nat) : Prop := 2 ≤ f ∧ f < 6 ∧ (∃ x, R[r]? = some x ∧ flt R f x) ∧ (∀ i x, i < r → R[i]? = some x → ¬ flt R f x) ∧ (∀ f', 2 ≤ f' → f' < f → ∀ x ∈ R, ¬ flt R f' x)
def flNone (R : List Rl) : Prop := ∀ f, 2 ≤ f → f < 6 → ∀ x ∈ R, ¬ flt R f x
theorem flFirst.uniq {R : List Rl} {f r f' r' : Nat} (h : flFirst R f r) (g : flFirst R f' r') : f = f' ∧ r = r' := by
  obtain ⟨h1, h2, ⟨x, h3, h4⟩, h5, h6⟩ := h
  obtain ⟨g1, g2, ⟨y, g3, g4⟩, g5, g6⟩ := g
  have e : f = f' := by
    rcases Nat.lt_trichotomy f f' with z | z | z
    · exact absurd h4 (g6 f h1 z x (List.mem_of_getElem? h3))
    · exact z
    · exact absurd g4 (h6 f' g1 z y (List.mem_of_getElem? g3))
  subst e
  refine ⟨rfl, ?_⟩
  rcases Nat.lt_trichotomy r r' with z | z | z
  · exact absurd h4 (g5 r x z h3)
  · exact z
  · exact absurd g4 (h5 r' y z g3)
theorem flFirst.none {R : List Rl} {f r : Nat} (h : flFirst R f r) (g : flNone R) : False := by
  obtain ⟨h1, h2, ⟨x, h3, h4⟩, _⟩ := h
  exact g f h1 h2 x (List.mem_of_getElem? h3) h4
/-- the rules that a relation reaches -/
def reach (R : List Rl) (x : Nat) (r : Rl) : Prop := lk r.1 = x ∨ Dep R x (lk r.1)
/-- how many -/
noncomputable def cReach (R : List Rl) (x : Nat) : Nat := by
  classical
  exact (R.filter (fun r => decide (reach R x r))).length
theorem cReach_le (R : List Rl) (x : Nat) : cReach R x ≤ R.length := by
  unfold cReach
  exact List.length_filter_le _ _
theorem filter_len_le {α : Type} {p q : α → Bool} (l : List α) (h : ∀ a ∈ l, p a = true → q a = true) : (l.filter p).length ≤ (l.filter q).length := by
  induction l with
  | nil => simp
  | cons x l ih =>
    have ih' := ih (fun a ha => h a (List.mem_cons_of_mem _ ha))
    by_cases hp : p x = true
    · rw [List.filter_cons_of_pos hp, List.filter_cons_of_pos (h x (by simp) hp)]
      simp only [List.length_cons]
      omega
    · rw [List.filter_cons_of_neg hp]
      by_cases hq : q x = true
      · rw [List.filter_cons_of_pos hq]
        simp only [List.length_cons]
        omega
      · rw [List.filter_cons_of_neg hq]
        exact ih'
theorem filter_len_lt {α : Type} {p q : α → Bool} (l : List α) (h : ∀ a ∈ l, p a = true → q a = true) (y : α) (hy : y ∈ l) (h1 : q y = true) (h2 : ¬ p y = true) : (l.filter p).length < (l.filter q).length := by
  induction l with
  | nil => exact absurd hy (by simp)
  | cons x l ih =>
    have hs := fun a ha => h a (List.mem_cons_of_mem x ha)
    have le := filter_len_le l hs
    rcases List.mem_cons.mp hy with e | e
    · subst e
      rw [List.filter_cons_of_neg h2, List.filter_cons_of_pos h1]
      simp only [List.length_cons]
      omega
    · have ih' := ih hs e
      by_cases hp : p x = true
      · rw [List.filter_cons_of_pos hp, List.filter_cons_of_pos (h x (by simp) hp)]
        simp only [List.length_cons]
        omega
      · rw [List.filter_cons_of_neg hp]
        by_cases hq : q x = true
        · rw [List.filter_cons_of_pos hq]
          simp only [List.length_cons]
          omega
        · rw [List.filter_cons_of_neg hq]
          exact ih'
/-- no fault 4: a rule's literals reach no more than its head, those with ~ less -/
theorem cReach_dep {R : List Rl} (h4 : ∀ x ∈ R, ¬ flt4 R x) {r : Rl} (hr : r ∈ R) {l : Lt} (hl : l ∈ r.2) (hk : l.1 ≠ 2) : cReach R (lk l) ≤ cReach R (lk r.1) ∧ (l.1 = 1 → cReach R (lk l) < cReach R (lk r.1)) := by
  have d1 : dep1 R (lk r.1) (lk l) := ⟨r, hr, rfl, l, hl, hk, rfl⟩
  have sub : ∀ a ∈ R, reach R (lk l) a → reach R (lk r.1) a := by
    intro a _ ha
    rcases ha with ha | ha
    · exact Or.inr (by rw [ha]; exact Dep.one d1)
    · exact Or.inr (Dep.head d1 ha)
  unfold cReach
  constructor
  · exact filter_len_le R (fun a ha hp => by simp only [decide_eq_true_eq] at hp ⊢; exact sub a ha hp)
  · intro h1
    refine filter_len_lt R (fun a ha hp => by simp only [decide_eq_true_eq] at hp ⊢; exact sub a ha hp) r hr (by simp only [decide_eq_true_eq]; exact Or.inl rfl) ?_
    intro z
    simp only [decide_eq_true_eq] at z
    refine h4 r hr ⟨l, hl, h1, ?_⟩
    rcases z with z | z
    · exact Or.inl z.symm
    · exact Or.inr z
