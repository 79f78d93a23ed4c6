/-! Terms: collecting; over the typed block -/
theorem lst_none {p : Nat → Bool} {m : Nat} (h : ∀ i, i < m → p i = false) : lst p m = 0 := by
  cases e : lst p m with
  | zero => rfl
  | succ j =>
    obtain ⟨h1, h2, _⟩ := lst_s e
    rw [h j h1] at h2
    cases h2
/-- the facts' object and its rows, where terms are not -/
def gFc (M : gm_H) (p0 ra rb ro rn : Nat) (fa fb fo fn : Nat → Int32) : Prop := (∃ fs, M p0 = some (.inr (1, fs)) ∧ fs[1]? = some (.ref ra) ∧ fs[2]? = some (.ref rb) ∧ fs[4]? = some (.ref ro) ∧ fs[5]? = some (.ref rn)) ∧ M ra = some (iarr 201 fa) ∧ M rb = some (iarr 201 fb) ∧ M ro = some (iarr 201 fo) ∧ M rn = some (iarr 112 fn)
def gNe (q r p0 ra rb ro rn : Nat) : Prop := (p0 ≠ q ∧ ra ≠ q ∧ rb ≠ q ∧ ro ≠ q ∧ rn ≠ q) ∧ p0 ≠ r ∧ ra ≠ r ∧ rb ≠ r ∧ ro ≠ r ∧ rn ≠ r
theorem gFc.fr {M M' : gm_H} {q r p0 ra rb ro rn : Nat} {fa fb fo fn : Nat → Int32} (h : gFc M p0 ra rb ro rn fa fb fo fn) (hn : gNe q r p0 ra rb ro rn) (g : ∀ a, a ≠ q → a ≠ r → M' a = M a) : gFc M' p0 ra rb ro rn fa fb fo fn := by
  obtain ⟨⟨fs, h1, h2⟩, h3, h4, h5, h6⟩ := h
  obtain ⟨⟨a1, a2, a3, a4, a5⟩, b1, b2, b3, b4, b5⟩ := hn
  exact ⟨⟨fs, (g _ a1 b1).trans h1, h2⟩, (g _ a2 b2).trans h3, (g _ a3 b3).trans h4, (g _ a4 b4).trans h5, (g _ a5 b5).trans h6⟩
/-- the chains of the facts -/
def fCh (L : List Fct) (fa fb fo fn : Nat → Int32) : Prop := L.length ≤ 200 ∧ (∀ (i : Nat) f, L[i]? = some f → wfC f ∧ fa (i + 1) = te f.2 0 ∧ fb (i + 1) = te f.2 1 ∧ fo (i + 1) = nI (lst (pR L (cr f.1)) i)) ∧ ∀ r, r < 112 → fn r = nI (lst (pR L r) L.length)
theorem gs_collect12 {N0 : Nat} {K : Nat → Nat} {d q r n p0 ra rb ro rn rel : Nat} {fa fb fo fn : Nat → Int32} {L : List Fct} {M0 : gm_H} {sz sl : Nat} {Q : Int32 → gm_H → Nat → Nat → Prop} (hN : N0 ≤ q) (hr : N0 ≤ r) (hqr : q ≠ r) (hn : n ≤ 201) (hne : gNe q r p0 ra rb ro rn) (hL : fCh L fa fb fo fn) (hF : gFc M0 p0 ra rb ro rn fa fb fo fn) (hg : ∀ f ∈ L, cr f.1 = rel → ∃ t, f.2[0]? = some t) (q1 : ∀ M' T, gTs M' q r n T → okT T → T.length ≤ n → (∀ x, x ∈ T ↔ ∃ f ∈ L, cr f.1 = rel ∧ f.2[0]? = some x) → (∀ a, a ≠ q → a ≠ r → M' a = M0 a) → Q 1 M' sz sl) (q0 : ∀ M' T, gTs M' q r n T → okT T → T.length ≤ n → (∀ x ∈ T, ∃ f ∈ L, cr f.1 = rel ∧ f.2[0]? = some x) → (∃ t, ¬ t ∈ T ∧ T.length = n ∧ ∃ f ∈ L, cr f.1 = rel ∧ f.2[0]? = some t) → (∀ a, a ≠ q → a ≠ r → M' a = M0 a) → Q 0 M' sz sl) : ∀ (i : Nat) (M : gm_H) (T : List Tm), i ≤ L.length → gTs M q r n T → okT T → T.length ≤ n → (∀ x, x ∈ T ↔ ∃ (j : Nat) (f : Fct), i ≤ j ∧ L[j]? = some f ∧ cr f.1 = rel ∧ f.2[0]? = some x) → (∀ a, a ≠ q → a ≠ r → M a = M0 a) → hX10_collect_12 N0 K (d + 2) q p0 (nI (lst (pR L rel) i)) M sz sl Q := by
  intro i
  induction i using Nat.strongRecOn with
  | _ i ih =>
    intro M T hi hT ho hTn hm hM
    refine TX10_collect_12 ?_
    cases e : lst (pR L rel) i with
    | zero =>
      rw [if_pos (by decide)]
      refine q1 M T hT ho hTn (fun x => (hm x).trans ?_) hM
      constructor
      · rintro ⟨j, f, _, b, c⟩
        exact ⟨f, List.mem_of_getElem? b, c⟩
      · rintro ⟨f, b, c, c2⟩
        obtain ⟨j, hj⟩ := List.getElem?_of_mem b
        refine ⟨j, f, Nat.le_of_not_lt (fun z => ?_), hj, c, c2⟩
        have := lst_0 e j z
        rw [pR_get hj] at this
        simp [c] at this
    | succ j =>
      obtain ⟨j1, j2, j3⟩ := lst_s e
      have hl200 := hL.1
      rw [if_neg (by rw [← nI_0]; exact nI_ge (by omega) (by omega))]
      have hf : L[j]? = some (L[j]'(by omega)) := List.getElem?_eq_getElem (by omega)
      obtain ⟨w1, w2, w3, w4⟩ := hL.2.1 j _ hf
      rw [pR_get hf] at j2
      have hcr : cr (L[j]'(by omega)).1 = rel := by simpa using j2
      obtain ⟨t, ht⟩ := hg _ (List.mem_of_getElem? hf) hcr
      have hgt : gT t := w1.1.2.2 t (List.mem_of_getElem? ht)
      obtain ⟨⟨fs, f1, f2, f3, f4, f5⟩, g1, g2, g3, g4⟩ := hF.fr hne hM
      refine ⟨fs, f1, ra, f2, 201, fa, g1, by decide, j + 1, rfl, by omega, _, hT.1, ?_⟩
      have et : te (L[j]'(by omega)).2 0 = nI (tE t) := by
        unfold te
        rw [ht]
      have nxt : ∀ T' : List Tm, (∀ x, x ∈ T' ↔ x = t ∨ x ∈ T) → ∀ x, x ∈ T' ↔ ∃ (k : Nat) (f : Fct), j ≤ k ∧ L[k]? = some f ∧ cr f.1 = rel ∧ f.2[0]? = some x := by
        intro T' h x
        rw [h x, hm x]
        constructor
        · rintro (z | ⟨k, f, a, b⟩)
          · exact ⟨j, _, Nat.le_refl _, hf, hcr, by rw [ht, z]⟩
          · exact ⟨k, f, by omega, b⟩
        · rintro ⟨k, f, a, b, c, c2⟩
          by_cases ek : k = j
          · subst ek
            rw [hf] at b
            rw [← Option.some.inj b, ht] at c2
            exact Or.inl (Option.some.inj c2).symm
          · refine Or.inr ⟨k, f, Nat.le_of_not_lt (fun z => ?_), b, c, c2⟩
            have := j3 k (by omega) z
            rw [pR_get b] at this
            simp [c] at this
      rw [w2, et]
      refine gq_insert hN hr hqr hT hTn hn ho hgt (fun hin => ?_) (fun hin hlen => ?_) (fun hin hlt M' T' t1 t2 t3 t4 t5 => ?_)
      · rw [if_neg (by decide)]
        refine ⟨fs, f1, ro, f4, 201, fo, g3, by decide, by omega, ?_⟩
        rw [w4, hcr]
        refine ih j j1 M T (by omega) hT ho hTn (nxt T (fun x => ⟨Or.inr, fun z => z.elim (fun e => by rw [e]; exact hin) id⟩)) hM
      · rw [if_pos rfl]
        refine q0 M T hT ho hTn (fun x hx => ?_) ⟨t, hin, hlen, _, List.mem_of_getElem? hf, hcr, ht⟩ hM
        obtain ⟨k, f, _, b, c⟩ := (hm x).mp hx
        exact ⟨f, List.mem_of_getElem? b, c⟩
      · rw [if_neg (by decide)]
        have hM' : ∀ a, a ≠ q → a ≠ r → M' a = M0 a := fun a a1 a2 => (t5 a a1 a2).trans (hM a a1 a2)
        obtain ⟨⟨fs', f1', f2', f3', f4', f5'⟩, g1', g2', g3', g4'⟩ := hF.fr hne hM'
        refine ⟨fs', f1', ro, f4', 201, fo, g3', by decide, by omega, ?_⟩
        rw [w4, hcr]
        exact ih j j1 M' T' (by omega) t1 t2 (by omega) (nxt T' t4) hM'
theorem gq_collect {N0 : Nat} {K : Nat → Nat} {d q r n p0 ra rb ro rn rel : Nat} {v : Int32} {f0 fa fb fo fn : Nat → Int32} {L : List Fct} {M : gm_H} {sz : Nat} {Q : Int32 → gm_H → Nat → Nat → Prop} (hN : N0 ≤ q) (hr : N0 ≤ r) (hqr : q ≠ r) (hn : n ≤ 201) (hne : gNe q r p0 ra rb ro rn) (hL : fCh L fa fb fo fn) (hF : gFc M p0 ra rb ro rn fa fb fo fn) (hrel : rel < 112) (hq : M q = some (.inr (9, [.ref r, .int v]))) (hf0 : M r = some (iarr n f0)) (hg : ∀ f ∈ L, cr f.1 = rel → ∃ t, f.2[0]? = some t) (q1 : ∀ M' T, gTs M' q r n T → okT T → T.length ≤ n → (∀ x, x ∈ T ↔ ∃ f ∈ L, cr f.1 = rel ∧ f.2[0]? = some x) → (∀ a, a ≠ q → a ≠ r → M' a = M a) → Q 1 M' sz 0) (q0 : ∀ M' T, gTs M' q r n T → okT T → T.length ≤ n → (∀ x ∈ T, ∃ f ∈ L, cr f.1 = rel ∧ f.2[0]? = some x) → (∃ t, ¬ t ∈ T ∧ T.length = n ∧ ∃ f ∈ L, cr f.1 = rel ∧ f.2[0]? = some t) → (∀ a, a ≠ q → a ≠ r → M' a = M a) → Q 0 M' sz 0) : gX10_collect N0 K (d + 3) q p0 (nI rel) M sz Q := by
  have hfr : ∀ a, a ≠ q → a ≠ r → gm_set M q (.inr (9, [.ref r, .int 0])) a = M a := fun a a1 _ => gm_set_ne a1
  obtain ⟨⟨fs, f1, f2, f3, f4, f5⟩, g1, g2, g3, g4⟩ := hF.fr hne hfr
  refine gX10_collect.of (TX10_collect_0 ⟨_, hq, hN, Nat.le_of_ble_eq_true rfl, fs, f1, rn, f5, 112, fn, g4, by decide, rel, rfl, hrel, ?_⟩)
  rw [hL.2.2 rel hrel]
  refine gs_collect12 (M0 := M) hN hr hqr hn hne hL hF hg q1 q0 L.length _ [] (Nat.le_refl _) ⟨gm_set_eq, f0, (gm_set_ne (Ne.symm hqr)).trans hf0, fun i t h => absurd h (by simp)⟩ ⟨List.Pairwise.nil, fun t h => absurd h (by simp)⟩ (Nat.zero_le _) (fun x => ?_) hfr
  constructor
  · intro z
    exact absurd z (by simp)
  · rintro ⟨j, f, a, b, _⟩
    have := (List.getElem?_eq_some_iff.mp b).1
    omega
theorem gs_moves12 {N0 : Nat} {K : Nat → Nat} {d q r n p0 ra rb ro rn : Nat} {u : Int32} {fa fb fo fn : Nat → Int32} {L : List Fct} {M0 : gm_H} {sz sl : Nat} {Q : Unit → gm_H → Nat → Nat → Prop} (hN : N0 ≤ q) (hr : N0 ≤ r) (hqr : q ≠ r) (hn : n = 200) (hne : gNe q r p0 ra rb ro rn) (hL : fCh L fa fb fo fn) (hF : gFc M0 p0 ra rb ro rn fa fb fo fn) (hg : ∀ f ∈ L, cr f.1 = 5 → ∃ t, f.2[1]? = some t) (q1 : ∀ M' T, gTs M' q r n T → okT T → T.length ≤ n → (∀ x, x ∈ T ↔ ∃ f ∈ L, cr f.1 = 5 ∧ te f.2 0 = u ∧ f.2[1]? = some x) → (∀ a, a ≠ q → a ≠ r → M' a = M0 a) → Q () M' sz sl) : ∀ (i : Nat) (M : gm_H) (T : List Tm), i ≤ L.length → gTs M q r n T → okT T → T.length + i ≤ L.length → (∀ x, x ∈ T ↔ ∃ (j : Nat) (f : Fct), i ≤ j ∧ L[j]? = some f ∧ cr f.1 = 5 ∧ te f.2 0 = u ∧ f.2[1]? = some x) → (∀ a, a ≠ q → a ≠ r → M a = M0 a) → hX10_collectMoves_12 N0 K (d + 2) q p0 u (nI (lst (pR L 5) i)) M sz sl Q := by
  have hl200 := hL.1
  intro i
  induction i using Nat.strongRecOn with
  | _ i ih =>
    intro M T hi hT ho hTn hm hM
    refine TX10_collectMoves_12 ?_
    cases e : lst (pR L 5) i with
    | zero =>
      rw [if_pos (by decide)]
      refine q1 M T hT ho (by omega) (fun x => (hm x).trans ?_) hM
      constructor
      · rintro ⟨j, f, _, b, c⟩
        exact ⟨f, List.mem_of_getElem? b, c⟩
      · rintro ⟨f, b, c, c2⟩
        obtain ⟨j, hj⟩ := List.getElem?_of_mem b
        refine ⟨j, f, Nat.le_of_not_lt (fun z => ?_), hj, c, c2⟩
        have := lst_0 e j z
        rw [pR_get hj] at this
        simp [c] at this
    | succ j =>
      obtain ⟨j1, j2, j3⟩ := lst_s e
      rw [if_neg (by rw [← nI_0]; exact nI_ge (by omega) (by omega))]
      have hf : L[j]? = some (L[j]'(by omega)) := List.getElem?_eq_getElem (by omega)
      obtain ⟨w1, w2, w3, w4⟩ := hL.2.1 j _ hf
      rw [pR_get hf] at j2
      have hcr : cr (L[j]'(by omega)).1 = 5 := by simpa using j2
      obtain ⟨⟨fs, f1, f2, f3, f4, f5⟩, g1, g2, g3, g4⟩ := hF.fr hne hM
      refine ⟨fs, f1, ra, f2, 201, fa, g1, by decide, j + 1, rfl, by omega, ?_⟩
      have btw : ∀ k f, j < k → k < i → L[k]? = some f → ¬ cr f.1 = 5 := by
        intro k f a b c z
        have := j3 k a b
        rw [pR_get c] at this
        simp [z] at this
      rw [w2]
      by_cases hu : te (L[j]'(by omega)).2 0 = u
      · rw [if_pos hu]
        obtain ⟨t, ht⟩ := hg _ (List.mem_of_getElem? hf) hcr
        have hgt : gT t := w1.1.2.2 t (List.mem_of_getElem? ht)
        refine ⟨rb, f3, 201, fb, g2, by decide, by omega, _, hT.1, ?_⟩
        have et : te (L[j]'(by omega)).2 1 = nI (tE t) := by
          unfold te
          rw [ht]
        have nxt : ∀ T' : List Tm, (∀ x, x ∈ T' ↔ x = t ∨ x ∈ T) → ∀ x, x ∈ T' ↔ ∃ (k : Nat) (f : Fct), j ≤ k ∧ L[k]? = some f ∧ cr f.1 = 5 ∧ te f.2 0 = u ∧ f.2[1]? = some x := by
          intro T' h x
          rw [h x, hm x]
          constructor
          · rintro (z | ⟨k, f, a, b⟩)
            · exact ⟨j, _, Nat.le_refl _, hf, hcr, hu, by rw [ht, z]⟩
            · exact ⟨k, f, by omega, b⟩
          · rintro ⟨k, f, a, b, c, c2, c3⟩
            by_cases ek : k = j
            · subst ek
              rw [hf] at b
              rw [← Option.some.inj b, ht] at c3
              exact Or.inl (Option.some.inj c3).symm
            · exact Or.inr ⟨k, f, Nat.le_of_not_lt (fun z => btw k f (by omega) z b c), b, c, c2, c3⟩
        rw [w3, et]
        refine gq_insert hN hr hqr hT (by omega) (by omega) ho hgt (fun hin => ?_) (fun hin hlen => ?_) (fun hin hlt M' T' t1 t2 t3 t4 t5 => ?_)
        · refine ⟨fs, f1, ro, f4, 201, fo, g3, by decide, by omega, ?_⟩
          rw [w4, hcr]
          exact ih j j1 M T (by omega) hT ho (by omega) (nxt T (fun x => ⟨Or.inr, fun z => z.elim (fun e => by rw [e]; exact hin) id⟩)) hM
        · omega
        · have hM' : ∀ a, a ≠ q → a ≠ r → M' a = M0 a := fun a a1 a2 => (t5 a a1 a2).trans (hM a a1 a2)
          obtain ⟨⟨fs', f1', f2', f3', f4', f5'⟩, g1', g2', g3', g4'⟩ := hF.fr hne hM'
          refine ⟨fs', f1', ro, f4', 201, fo, g3', by decide, by omega, ?_⟩
          rw [w4, hcr]
          exact ih j j1 M' T' (by omega) t1 t2 (by omega) (nxt T' t4) hM'
      · rw [if_neg hu]
        refine ⟨ro, f4, 201, fo, g3, by decide, by omega, ?_⟩
        rw [w4, hcr]
        refine ih j j1 M T (by omega) hT ho (by omega) (fun x => ?_) hM
        rw [hm x]
        constructor
        · rintro ⟨k, f, a, b⟩
          exact ⟨k, f, by omega, b⟩
        · rintro ⟨k, f, a, b, c, c2, c3⟩
          by_cases ek : k = j
          · subst ek
            rw [hf] at b
            rw [← Option.some.inj b] at c2
            exact absurd c2 hu
          · exact ⟨k, f, Nat.le_of_not_lt (fun z => btw k f (by omega) z b c), b, c, c2, c3⟩
theorem gq_moves {N0 : Nat} {K : Nat → Nat} {d q r n p0 ra rb ro rn : Nat} {u v : Int32} {f0 fa fb fo fn : Nat → Int32} {L : List Fct} {M : gm_H} {sz : Nat} {Q : Unit → gm_H → Nat → Nat → Prop} (hN : N0 ≤ q) (hr : N0 ≤ r) (hqr : q ≠ r) (hn : n = 200) (hne : gNe q r p0 ra rb ro rn) (hL : fCh L fa fb fo fn) (hF : gFc M p0 ra rb ro rn fa fb fo fn) (hq : M q = some (.inr (9, [.ref r, .int v]))) (hf0 : M r = some (iarr n f0)) (hg : ∀ f ∈ L, cr f.1 = 5 → ∃ t, f.2[1]? = some t) (q1 : ∀ M' T, gTs M' q r n T → okT T → T.length ≤ n → (∀ x, x ∈ T ↔ ∃ f ∈ L, cr f.1 = 5 ∧ te f.2 0 = u ∧ f.2[1]? = some x) → (∀ a, a ≠ q → a ≠ r → M' a = M a) → Q () M' sz 0) : gX10_collectMoves N0 K (d + 3) q p0 u M sz Q := by
  have hfr : ∀ a, a ≠ q → a ≠ r → gm_set M q (.inr (9, [.ref r, .int 0])) a = M a := fun a a1 _ => gm_set_ne a1
  obtain ⟨⟨fs, f1, f2, f3, f4, f5⟩, g1, g2, g3, g4⟩ := hF.fr hne hfr
  refine gX10_collectMoves.of (TX10_collectMoves_0 ⟨_, hq, hN, Nat.le_of_ble_eq_true rfl, fs, f1, rn, f5, 112, fn, g4, by decide, by decide, ?_⟩)
  rw [hL.2.2 5 (by decide)]
  refine gs_moves12 (M0 := M) hN hr hqr hn hne hL hF hg q1 L.length _ [] (Nat.le_refl _) ⟨gm_set_eq, f0, (gm_set_ne (Ne.symm hqr)).trans hf0, fun i t h => absurd h (by simp)⟩ ⟨List.Pairwise.nil, fun t h => absurd h (by simp)⟩ (by simp) (fun x => ?_) hfr
  constructor
  · intro z
    exact absurd z (by simp)
  · rintro ⟨j, f, a, b, _⟩
    have := (List.getElem?_eq_some_iff.mp b).1
    omega
/-- where rows of terms lie in the block -/
def posT (p n : Nat) : Prop := (16 < p ∧ p < 29) ∧ n ≤ 201 ∧ ∀ (C : Nat) (s : cS) (G : gm_H), bM C (cH C s) G (C + p) = some (.inr (9, [.ref (C + (p + 1)), .int (s.1 (20 * p + 1))])) ∧ bM C (cH C s) G (C + (p + 1)) = some (iarr n (s.2.1 (p + 1))) ∧ ∀ f v, gm_set (gm_set (bM C (cH C s) G) (C + (p + 1)) (iarr n f)) (C + p) (.inr (9, [.ref (C + (p + 1)), .int v])) = bM C (cH C (cI (cA s (p + 1) f) (20 * p + 1) v)) G
theorem pos17 : posT 17 24 := ⟨by decide, by decide, fun C s G => ⟨bM_get (j := 17) rfl, bM_get (j := 18) rfl, fun f v => by
  show gm_set (gm_set (bM C (cH C s) G) (C + 18) (iarr 24 f)) (C + 17) _ = _
  rw [bM_set (j := 18) rfl, bM_set (j := 17) rfl]
  rfl⟩⟩
theorem pos19 : posT 19 24 := ⟨by decide, by decide, fun C s G => ⟨bM_get (j := 19) rfl, bM_get (j := 20) rfl, fun f v => by
  show gm_set (gm_set (bM C (cH C s) G) (C + 20) (iarr 24 f)) (C + 19) _ = _
  rw [bM_set (j := 20) rfl, bM_set (j := 19) rfl]
  rfl⟩⟩
theorem pos21 : posT 21 24 := ⟨by decide, by decide, fun C s G => ⟨bM_get (j := 21) rfl, bM_get (j := 22) rfl, fun f v => by
  show gm_set (gm_set (bM C (cH C s) G) (C + 22) (iarr 24 f)) (C + 21) _ = _
  rw [bM_set (j := 22) rfl, bM_set (j := 21) rfl]
  rfl⟩⟩
theorem pos23 : posT 23 24 := ⟨by decide, by decide, fun C s G => ⟨bM_get (j := 23) rfl, bM_get (j := 24) rfl, fun f v => by
  show gm_set (gm_set (bM C (cH C s) G) (C + 24) (iarr 24 f)) (C + 23) _ = _
  rw [bM_set (j := 24) rfl, bM_set (j := 23) rfl]
  rfl⟩⟩
theorem pos25 : posT 25 200 := ⟨by decide, by decide, fun C s G => ⟨bM_get (j := 25) rfl, bM_get (j := 26) rfl, fun f v => by
  show gm_set (gm_set (bM C (cH C s) G) (C + 26) (iarr 200 f)) (C + 25) _ = _
  rw [bM_set (j := 26) rfl, bM_set (j := 25) rfl]
  rfl⟩⟩
theorem pos27 : posT 27 200 := ⟨by decide, by decide, fun C s G => ⟨bM_get (j := 27) rfl, bM_get (j := 28) rfl, fun f v => by
  show gm_set (gm_set (bM C (cH C s) G) (C + 28) (iarr 200 f)) (C + 27) _ = _
  rw [bM_set (j := 28) rfl, bM_set (j := 27) rfl]
  rfl⟩⟩
/-- a row of terms in the typed state -/
def tS (s : cS) (p : Nat) (T : List Tm) : Prop := s.1 (20 * p + 1) = nI T.length ∧ ∀ (i : Nat) t, T[i]? = some t → s.2.1 (p + 1) i = nI (tE t)
def tfr (p : Nat) (s s' : cS) : Prop := (∀ i, i ≠ 20 * p + 1 → s'.1 i = s.1 i) ∧ (∀ i, i ≠ p + 1 → s'.2.1 i = s.2.1 i) ∧ s'.2.2 = s.2.2
theorem tS.g {C p n : Nat} {s : cS} {G : gm_H} {T : List Tm} (hp : posT p n) (h : tS s p T) : gTs (bM C (cH C s) G) (C + p) (C + (p + 1)) n T := ⟨by rw [(hp.2.2 C s G).1, h.1], s.2.1 (p + 1), (hp.2.2 C s G).2.1, h.2⟩
theorem tsPut {C p n : Nat} {s : cS} {G M' : gm_H} {T : List Tm} (hp : posT p n) (hT : gTs M' (C + p) (C + (p + 1)) n T) (hfr : ∀ a, a ≠ C + p → a ≠ C + (p + 1) → M' a = bM C (cH C s) G a) : ∃ s', M' = bM C (cH C s') G ∧ tfr p s s' ∧ tS s' p T := by
  obtain ⟨hq, f, hf, hv⟩ := hT
  refine ⟨cI (cA s (p + 1) f) (20 * p + 1) (nI T.length), ?_, ⟨fun i hi => if_neg hi, fun i hi => if_neg hi, rfl⟩, if_pos rfl, fun i t ht => ?_⟩
  · rw [gs_put (by omega) hq hf hfr]
    exact (hp.2.2 C s G).2.2 f (nI T.length)
  · rw [← hv i t ht]
    exact congrFun (if_pos rfl) i
theorem kq_at {N0 : Nat} {K : Nat → Nat} {d C p n : Nat} {k : Int32} {T : List Tm} {s : cS} {G : gm_H} {sz : Nat} {Q : Int32 → Prop} (hp : posT p n) (hT : tS s p T) (hn : T.length ≤ n) (q : Q (atT T k)) : kX10_at N0 K (d + 1) C (C + p) k s G sz Q := gC.kpure (gX10_at.of (gs_at (hT.g hp) hn hp.2.1 q))
theorem kq_clear {N0 : Nat} {K : Nat → Nat} {d C p n : Nat} {s : cS} {G : gm_H} {sz : Nat} {Q : Unit → cS → Prop} (hN : N0 ≤ C) (hp : posT p n) (q : ∀ s', tfr p s s' → tS s' p [] → Q () s') : kX10_clear_s N0 K (d + 1) C (C + p) s G sz Q := by
  have h0 := hp.2.2 C s G
  refine gC.mono (gX10_clear.of (Q := fun _ M' sz' dd => M' = gm_set (bM C (cH C s) G) (C + p) (.inr (9, [.ref (C + (p + 1)), .int 0])) ∧ sz' = sz ∧ dd = 0) (TX10_clear_0 ⟨_, h0.1, by omega, Nat.le_of_ble_eq_true rfl, rfl, rfl, rfl⟩)) ?_
  rintro r M' sz' dd ⟨rfl, rfl, rfl⟩
  obtain ⟨s', a, b, c⟩ := tsPut (T := []) (M' := gm_set (bM C (cH C s) G) (C + p) (.inr (9, [.ref (C + (p + 1)), .int 0]))) hp ⟨gm_set_eq, _, (gm_set_ne (by omega)).trans h0.2.1, fun i t h => absurd h (by simp)⟩ (fun a a1 _ => gm_set_ne a1)
  exact ⟨s', G, a, rfl, rfl, rfl, q s' b c⟩
theorem kq_copy {N0 : Nat} {K : Nat → Nat} {d C p n p' n' : Nat} {T' : List Tm} {s : cS} {G : gm_H} {sz : Nat} {Q : Unit → cS → Prop} (hN : N0 ≤ C) (hp : posT p n) (hp' : posT p' n') (hpp : p' ≠ p) (hpp2 : p' + 1 ≠ p) (hT' : tS s p' T') (hn' : T'.length ≤ n') (hn : T'.length ≤ n) (q : ∀ s', tfr p s s' → tS s' p T' → Q () s') : kX10_copy_s N0 K (d + 2) C (C + p) (C + p') s G sz Q := by
  have h0 := hp.2.2 C s G
  refine gC.mono (gq_copy (Q := fun _ M' sz' dd => (∃ f, (∀ (i : Nat) t, T'[i]? = some t → f i = nI (tE t)) ∧ M' = gm_set (gm_set (bM C (cH C s) G) (C + p) (.inr (9, [.ref (C + (p + 1)), .int (nI T'.length)]))) (C + (p + 1)) (iarr n f)) ∧ sz' = sz ∧ dd = 0) (by omega) (by omega) (by omega) (by omega) (by omega) h0.1 h0.2.1 hp.2.1 (hT'.g hp') hn' hp'.2.1 hn (fun f hf => ⟨⟨f, hf, rfl⟩, rfl, rfl⟩)) ?_
  rintro r M' sz' dd ⟨⟨f, hf, rfl⟩, rfl, rfl⟩
  obtain ⟨s', a, b, c⟩ := tsPut (T := T') (M' := gm_set (gm_set (bM C (cH C s) G) (C + p) (.inr (9, [.ref (C + (p + 1)), .int (nI T'.length)]))) (C + (p + 1)) (iarr n f)) hp ⟨(gm_set_ne (by omega)).trans gm_set_eq, f, gm_set_eq, hf⟩ (fun a a1 a2 => (gm_set_ne a2).trans (gm_set_ne a1))
  exact ⟨s', G, a, rfl, rfl, rfl, q s' b c⟩
theorem cFacts.ch {s : cS} {L : List Fct} (h : cFacts s L) : fCh L (s.2.1 8) (s.2.1 9) (s.2.1 11) (s.2.1 12) := ⟨h.2.1, fun i f hf => by
  obtain ⟨a, _, b, c, _, e, _⟩ := h.2.2.1 i f hf
  exact ⟨a, b, c, e⟩, fun r hr => (h.2.2.2.1 r hr).1⟩
theorem cFc {C : Nat} {s : cS} {G : gm_H} : gFc (bM C (cH C s) G) (C + 6) (C + 8) (C + 9) (C + 11) (C + 12) (s.2.1 8) (s.2.1 9) (s.2.1 11) (s.2.1 12) := ⟨⟨_, bM_get (j := 6) rfl, rfl, rfl, rfl, rfl⟩, bM_get (j := 8) rfl, bM_get (j := 9) rfl, bM_get (j := 11) rfl, bM_get (j := 12) rfl⟩
theorem kq_collect {N0 : Nat} {K : Nat → Nat} {d C p n rel : Nat} {L : List Fct} {s : cS} {G : gm_H} {sz : Nat} {Q : Int32 → cS → Prop} (hN : N0 ≤ C) (hp : posT p n) (hL : cFacts s L) (hrel : rel < 112) (hg : ∀ f ∈ L, cr f.1 = rel → ∃ t, f.2[0]? = some t) (q1 : ∀ s' T, tfr p s s' → tS s' p T → okT T → T.length ≤ n → (∀ x, x ∈ T ↔ ∃ f ∈ L, cr f.1 = rel ∧ f.2[0]? = some x) → Q 1 s') (q0 : ∀ s' T, tfr p s s' → tS s' p T → okT T → T.length ≤ n → (∀ x ∈ T, ∃ f ∈ L, cr f.1 = rel ∧ f.2[0]? = some x) → (∃ t, ¬ t ∈ T ∧ T.length = n ∧ ∃ f ∈ L, cr f.1 = rel ∧ f.2[0]? = some t) → Q 0 s') : kX10_collect_s N0 K (d + 3) C (C + p) (C + 6) (nI rel) s G sz Q := by
  have h0 := hp.2.2 C s G
  have hp1 := hp.1
  refine gC.mono (gq_collect (Q := fun r M' sz' dd => ∃ s', M' = bM C (cH C s') G ∧ G = G ∧ sz' = sz ∧ dd = 0 ∧ Q r s') (by omega) (by omega) (by omega) hp.2.1 (by unfold gNe; omega) hL.ch cFc hrel h0.1 h0.2.1 hg (fun M' T a b c e f => ?_) (fun M' T a b c e f g => ?_)) ?_
  · obtain ⟨s', x1, x2, x3⟩ := tsPut hp a f
    exact ⟨s', x1, rfl, rfl, rfl, q1 s' T x2 x3 b c e⟩
  · obtain ⟨s', x1, x2, x3⟩ := tsPut hp a g
    exact ⟨s', x1, rfl, rfl, rfl, q0 s' T x2 x3 b c e f⟩
  · rintro r M' sz' dd ⟨s', x1, x2⟩
    exact ⟨s', G, x1, x2⟩
theorem kq_moves {N0 : Nat} {K : Nat → Nat} {d C p : Nat} {u : Int32} {L : List Fct} {s : cS} {G : gm_H} {sz : Nat} {Q : Unit → cS → Prop} (hN : N0 ≤ C) (hp : posT p 200) (hL : cFacts s L) (hg : ∀ f ∈ L, cr f.1 = 5 → ∃ t, f.2[1]? = some t) (q1 : ∀ s' T, tfr p s s' → tS s' p T → okT T → T.length ≤ 200 → (∀ x, x ∈ T ↔ ∃ f ∈ L, cr f.1 = 5 ∧ te f.2 0 = u ∧ f.2[1]? = some x) → Q () s') : kX10_collectMoves_s N0 K (d + 3) C (C + p) (C + 6) u s G sz Q := by
  have h0 := hp.2.2 C s G
  have hp1 := hp.1
  refine gC.mono (gq_moves (Q := fun r M' sz' dd => ∃ s', M' = bM C (cH C s') G ∧ G = G ∧ sz' = sz ∧ dd = 0 ∧ Q r s') (by omega) (by omega) (by omega) rfl (by unfold gNe; omega) hL.ch cFc h0.1 h0.2.1 hg (fun M' T a b c e f => ?_)) ?_
  · obtain ⟨s', x1, x2, x3⟩ := tsPut hp a f
    exact ⟨s', x1, rfl, rfl, rfl, q1 s' T x2 x3 b c e⟩
  · rintro r M' sz' dd ⟨s', x1, x2⟩
    exact ⟨s', G, x1, x2⟩
