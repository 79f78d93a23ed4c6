/-! gm: a small machine over an abstract heap (an address holds an array's type and contents, or an object's class and fields). It is run by a program (gm_exec); gm_sim says that the JVM does what it does. -/
abbrev gm_E : Type := (FieldType × vp_A) ⊕ (Nat × List Value)
abbrev gm_H : Type := Nat → Option gm_E
def gm_set (M : gm_H) (a : Nat) (x : gm_E) : gm_H := fun q => if q = a then some x else M q
theorem gm_set_eq {M : gm_H} {a : Nat} {x : gm_E} : gm_set M a x a = some x := by simp [gm_set]
theorem gm_set_ne {M : gm_H} {a q : Nat} {x : gm_E} (h : q ≠ a) : gm_set M a x q = M q := by simp [gm_set, h]
abbrev gm_Ls : Type := List (Option Value)
def gm_lget (ls : gm_Ls) (i : Nat) : Option Value := ls.getD i none
/-- a long whose second half is written over is gone -/
def gm_inv (ls : gm_Ls) : Nat → gm_Ls
  | 0 => ls
  | j + 1 => match gm_lget ls j with
    | some w => if w.category = 2 then ls.set j none else ls
    | none => ls
def gm_l1 (ls : gm_Ls) (i : Nat) (v : Value) : gm_Ls := (gm_inv ls i).set i (some v)
def gm_l2 (ls : gm_Ls) (i : Nat) (v : Value) : gm_Ls := ((gm_inv ls i).set (i + 1) none).set i (some v)
/-- the locals of the JVM hold what the list says -/
def gm_lok (ls : gm_Ls) (arr : Array Slot) (nL : Nat) : Prop := arr.size = nL ∧ ls.length = nL ∧ lv_wf arr ∧ ∀ i v, gm_lget ls i = some v → arr[i]? = some (.val v)
def gm_al (ls : gm_Ls) : List (Nat × Value) := (List.range ls.length).filterMap (fun i => (gm_lget ls i).map (fun v => (i, v)))
theorem gm_lget_lt {ls : gm_Ls} {i : Nat} {v : Value} (h : gm_lget ls i = some v) : i < ls.length := by
  rcases Nat.lt_or_ge i ls.length with q | q
  · exact q
  · simp [gm_lget, List.getD_eq_getElem?_getD, List.getElem?_eq_none q] at h
theorem gm_al_mem {ls : gm_Ls} {i : Nat} {v : Value} : (i, v) ∈ gm_al ls ↔ gm_lget ls i = some v := by
  unfold gm_al
  rw [List.mem_filterMap]
  constructor
  · rintro ⟨j, -, hj⟩
    cases hg : gm_lget ls j with
    | none => simp [hg] at hj
    | some w =>
      simp [hg] at hj
      obtain ⟨rfl, rfl⟩ := hj
      exact hg
  · intro h
    exact ⟨i, List.mem_range.mpr (gm_lget_lt h), by simp [h]⟩
theorem gm_lok_has {ls : gm_Ls} {arr : Array Slot} {nL : Nat} (h : gm_lok ls arr nL) : lv_has arr nL (gm_al ls) :=
  ⟨h.1, h.2.2.1, fun q hq => h.2.2.2 q.1 q.2 (gm_al_mem.mp hq)⟩
theorem gm_lget_set {ls : gm_Ls} {i j : Nat} {o : Option Value} : gm_lget (ls.set i o) j = if i = j ∧ j < ls.length then o else gm_lget ls j := by
  unfold gm_lget
  rw [List.getD_eq_getElem?_getD, List.getD_eq_getElem?_getD, List.getElem?_set]
  by_cases h : i = j
  · subst h
    by_cases h2 : i < ls.length
    · simp [h2]
    · simp [h2, List.getElem?_eq_none (Nat.not_lt.mp h2)]
  · simp [h]
theorem gm_inv_len (ls : gm_Ls) (i : Nat) : (gm_inv ls i).length = ls.length := by
  cases i with
  | zero => rfl
  | succ j =>
    simp only [gm_inv]
    split
    · split <;> simp
    · rfl
theorem gm_inv_get {ls : gm_Ls} {i j : Nat} {v : Value} (h : gm_lget (gm_inv ls i) j = some v) : gm_lget ls j = some v ∧ ¬ (j + 1 = i ∧ v.category = 2) := by
  cases i with
  | zero => exact ⟨h, fun q => by omega⟩
  | succ k =>
    simp only [gm_inv] at h
    cases hk : gm_lget ls k with
    | none =>
      simp only [hk] at h
      refine ⟨h, fun q => ?_⟩
      have : j = k := by omega
      subst this
      rw [hk] at h
      cases h
    | some w =>
      simp only [hk] at h
      by_cases hc : w.category = 2
      · simp only [hc, if_true, gm_lget_set] at h
        by_cases hjk : k = j ∧ j < ls.length
        · simp [hjk] at h
        · simp only [hjk, if_false] at h
          refine ⟨h, fun q => ?_⟩
          exact hjk ⟨by omega, gm_lget_lt h⟩
      · simp only [hc, if_false] at h
        refine ⟨h, fun q => ?_⟩
        have : j = k := by omega
        subst this
        rw [hk] at h
        cases h
        exact hc q.2
theorem gm_store1 {ls : gm_Ls} {arr : Array Slot} {nL i : Nat} {v : Value} (h : gm_lok ls arr nL) (hi : i < nL) (hc : v.category = 1) :
    ∃ arr', storeLocals arr i v = some arr' ∧ gm_lok (gm_l1 ls i v) arr' nL := by
  obtain ⟨arr', e', h'⟩ := lv_store1 (v := v) (gm_lok_has h) hi hc
  refine ⟨arr', e', h'.1, by simp [gm_l1, gm_inv_len, h.2.1], h'.2.1, fun j w hw => ?_⟩
  unfold gm_l1 at hw
  rw [gm_lget_set] at hw
  by_cases hij : i = j ∧ j < (gm_inv ls i).length
  · rw [if_pos hij] at hw
    obtain rfl := Option.some.inj hw
    obtain ⟨rfl, -⟩ := hij
    exact h'.2.2 (i, v) List.mem_cons_self
  · rw [if_neg hij] at hw
    obtain ⟨h1, h2⟩ := gm_inv_get hw
    have hne : j ≠ i := fun z => hij ⟨z.symm, by rw [gm_inv_len]; exact gm_lget_lt h1⟩
    refine h'.2.2 (j, w) (List.mem_cons_of_mem _ (List.mem_filter.mpr ⟨gm_al_mem.mpr h1, ?_⟩))
    simp only [Bool.and_eq_true, Bool.not_eq_true', beq_eq_false_iff_ne, Bool.and_eq_false_iff]
    refine ⟨hne, ?_⟩
    by_cases h3 : j + 1 = i
    · exact Or.inr (fun z => h2 ⟨h3, z⟩)
    · exact Or.inl h3
theorem gm_store2 {ls : gm_Ls} {arr : Array Slot} {nL i : Nat} {v : Value} (h : gm_lok ls arr nL) (hi : i + 1 < nL) (hc : v.category = 2) :
    ∃ arr', storeLocals arr i v = some arr' ∧ gm_lok (gm_l2 ls i v) arr' nL := by
  obtain ⟨arr', e', h'⟩ := lv_store2 (v := v) (gm_lok_has h) hi hc
  refine ⟨arr', e', h'.1, by simp [gm_l2, gm_inv_len, h.2.1], h'.2.1, fun j w hw => ?_⟩
  unfold gm_l2 at hw
  rw [gm_lget_set] at hw
  by_cases hij : i = j ∧ j < ((gm_inv ls i).set (i + 1) none).length
  · rw [if_pos hij] at hw
    obtain rfl := Option.some.inj hw
    obtain ⟨rfl, -⟩ := hij
    exact h'.2.2 (i, v) List.mem_cons_self
  · rw [if_neg hij] at hw
    rw [gm_lget_set] at hw
    by_cases hij2 : i + 1 = j ∧ j < (gm_inv ls i).length
    · rw [if_pos hij2] at hw
      cases hw
    · rw [if_neg hij2] at hw
      obtain ⟨h1, h2⟩ := gm_inv_get hw
      have hlt := gm_lget_lt h1
      have hne : j ≠ i := fun z => hij ⟨z.symm, by simpa [gm_inv_len] using hlt⟩
      have hne2 : j ≠ i + 1 := fun z => hij2 ⟨z.symm, by rw [gm_inv_len]; exact hlt⟩
      refine h'.2.2 (j, w) (List.mem_cons_of_mem _ (List.mem_filter.mpr ⟨gm_al_mem.mpr h1, ?_⟩))
      simp only [Bool.and_eq_true, Bool.not_eq_true', beq_eq_false_iff_ne, Bool.and_eq_false_iff]
      refine ⟨hne, hne2, ?_⟩
      by_cases h3 : j + 1 = i
      · exact Or.inr (fun z => h2 ⟨h3, z⟩)
      · exact Or.inl h3
