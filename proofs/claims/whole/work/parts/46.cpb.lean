/-! the class's reader: atoms -/
theorem gs_set {M : gm_H} {q : Nat} {x y : gm_E} : gm_set (gm_set M q x) q y = gm_set M q y := by
  funext r
  unfold gm_set
  by_cases h : r = q
  · rw [if_pos h, if_pos h]
  · rw [if_neg h, if_neg h, if_neg h]
theorem gs_self {M : gm_H} {q : Nat} {x : gm_E} (h : M q = some x) : gm_set M q x = M := by
  funext r
  unfold gm_set
  by_cases e : r = q
  · rw [if_pos e, e, h]
  · rw [if_neg e]
/-- Arrays.fill -/
theorem gq_fill_5 {N0 : Nat} {K : Nat → Nat} {d p : Nat} {v : Int32} {na : Nat} {sz sl : Nat} {Q : Unit → gm_H → Nat → Nat → Prop} (hna : na < 2 ^ 31) (hN : N0 ≤ p) : ∀ (m i : Nat) (M : gm_H) (fa : Nat → Int32), i + m = na → M p = some (.inl (.int, na, .inl fa)) → Q () (gm_set M p (.inl (.int, na, .inl (fun k => if i ≤ k ∧ k < na then v else fa k)))) sz sl → hJ7_fill_53178_5 N0 K d p v (nI i) (nI na) M sz sl Q := by
  intro m
  induction m with
  | zero =>
    intro i M fa hi hM q
    refine TJ7_fill_53178_5 ?_
    rw [if_pos (nI_le (by omega) (by omega))]
    have e : (fun k => if i ≤ k ∧ k < na then v else fa k) = fa := by
      funext k
      rw [if_neg (by omega)]
    rw [e, gs_self hM] at q
    exact q
  | succ m ih =>
    intro i M fa hi hM q
    refine TJ7_fill_53178_5 ?_
    rw [if_neg (nI_ge (by omega) (by omega))]
    refine ⟨na, fa, hM, hna, hN, i, rfl, by omega, ?_⟩
    rw [nI_1]
    refine ih (i + 1) _ (upd fa i v) (by omega) gm_set_eq ?_
    rw [gs_set]
    have e : (fun k => if i + 1 ≤ k ∧ k < na then v else upd fa i v k) = (fun k => if i ≤ k ∧ k < na then v else fa k) := by
      funext k
      by_cases h1 : k = i
      · subst h1
        rw [if_neg (by omega), upd_eq, if_pos (by omega)]
      · rw [upd_ne h1]
        by_cases h2 : i ≤ k ∧ k < na
        · rw [if_pos h2, if_pos (by omega)]
        · rw [if_neg h2, if_neg (by omega)]
    rw [e]
    exact q
theorem gq_fill {N0 : Nat} {K : Nat → Nat} {d p : Nat} {v : Int32} {na : Nat} {sz : Nat} {M : gm_H} {fa : Nat → Int32} {Q : Unit → gm_H → Nat → Nat → Prop} (hna : na < 2 ^ 31) (hN : N0 ≤ p) (hM : M p = some (.inl (.int, na, .inl fa))) (q : Q () (gm_set M p (.inl (.int, na, .inl (fun k => if k < na then v else fa k)))) sz 0) : gJ7_fill_53178 N0 K (d + 1) p v M sz Q := by
  refine gJ7_fill_53178.of (TJ7_fill_53178_0 ⟨na, fa, hM, hna, ?_⟩)
  refine gq_fill_5 hna hN na 0 M fa (by omega) hM ?_
  have e : (fun k => if 0 ≤ k ∧ k < na then v else fa k) = (fun k => if k < na then v else fa k) := by
    funext k
    by_cases h : k < na
    · rw [if_pos h, if_pos ⟨Nat.zero_le _, h⟩]
    · rw [if_neg h, if_neg (fun z => h z.2)]
  rw [e]
  exact q
theorem kq_fill3 {N0 : Nat} {K : Nat → Nat} {d C : Nat} {v : Int32} {s : cS} {G : gm_H} {sz : Nat} {Q : Unit → cS → Prop} (hN : N0 ≤ C) (q : ∀ s', s'.1 = s.1 → (∀ i, i ≠ 3 → s'.2.1 i = s.2.1 i) → s'.2.2 = s.2.2 → (∀ i, i < 3 → s'.2.1 3 i = v) → Q () s') : kJ7_fill_53178_s N0 K (d + 1) C (C + 3) v s G sz Q := by
  refine gC.mono (gq_fill (N0 := N0) (K := K) (d := d) (p := C + 3) (v := v) (na := 3) (sz := sz) (M := bM C (cH C s) G) (fa := s.2.1 3) (Q := fun _ M' sz' dd => M' = bM C (cH C (cA s 3 (fun k => if k < 3 then v else s.2.1 3 k))) G ∧ sz' = sz ∧ dd = 0) (by decide) (by omega) (bM_get (j := 3) rfl) ⟨(bM_set (j := 3) rfl).trans rfl, rfl, rfl⟩) ?_
  intro r M' sz' dd h
  obtain ⟨rfl, rfl, rfl⟩ := h
  exact ⟨_, G, rfl, rfl, rfl, rfl, q _ rfl (fun i hi => if_neg hi) rfl (fun i hi => if_pos hi)⟩
/-- KEYWORD_TERMS -/
def c_kt : Nat → Int32 := fun j => ([1, 1, 1, 1, 2, 2, 2, 0] : List Int32).getD j 0
/-- the number of a relation in the class -/
def rn (c : Int32) (n : Nat) : Int32 := if gm_ix c < 0 then ((8 : Int32) + (c - 97) * 4) + nI n else gm_ix c
theorem ix_K (c : Int32) : (gm_ix c < 0 ∧ chK c = -1) ∨ ∃ k, k < 8 ∧ gm_ix c = nI k ∧ c_kt k = chK c ∧ 0 ≤ chK c := by
  unfold gm_ix chK
  by_cases h1 : c = 82
  · rw [if_pos h1, if_pos h1]; exact Or.inr ⟨0, by decide, rfl, rfl, by decide⟩
  rw [if_neg h1, if_neg h1]
  by_cases h2 : c = 73
  · rw [if_pos h2, if_pos h2]; exact Or.inr ⟨1, by decide, rfl, rfl, by decide⟩
  rw [if_neg h2, if_neg h2]
  by_cases h3 : c = 84
  · rw [if_pos h3, if_pos h3]; exact Or.inr ⟨2, by decide, rfl, rfl, by decide⟩
  rw [if_neg h3, if_neg h3]
  by_cases h4 : c = 78
  · rw [if_pos h4, if_pos h4]; exact Or.inr ⟨3, by decide, rfl, rfl, by decide⟩
  rw [if_neg h4, if_neg h4]
  by_cases h5 : c = 68
  · rw [if_pos h5, if_pos h5]; exact Or.inr ⟨4, by decide, rfl, rfl, by decide⟩
  rw [if_neg h5, if_neg h5]
  by_cases h6 : c = 76
  · rw [if_pos h6, if_pos h6]; exact Or.inr ⟨5, by decide, rfl, rfl, by decide⟩
  rw [if_neg h6, if_neg h6]
  by_cases h7 : c = 71
  · rw [if_pos h7, if_pos h7]; exact Or.inr ⟨6, by decide, rfl, rfl, by decide⟩
  rw [if_neg h7, if_neg h7]
  by_cases h8 : c = 69
  · rw [if_pos h8, if_pos h8]; exact Or.inr ⟨7, by decide, rfl, rfl, by decide⟩
  rw [if_neg h8, if_neg h8]
  exact Or.inl ⟨by decide, rfl⟩
/-- what a letter and a number of terms name: NONE of what is no relation -/
def rnF (c n : Int32) : Int32 := if gm_ix c < 0 then (if chL c ∧ 0 ≤ n ∧ n ≤ 3 then ((8 : Int32) + (c - 97) * 4) + n else -1) else (if chK c = n then gm_ix c else -1)
theorem gq_relationOf {N0 : Nat} {K : Nat → Nat} {d : Nat} {c n : Int32} {M : gm_H} {sz : Nat} {Q : Int32 → gm_H → Nat → Nat → Prop} (hK : M (K 0) = some (.inl (gm_scr, 8, .inl c_kt))) (q : Q (rnF c n) M sz 0) : gX5_relationOf N0 K (d + 2) c n M sz Q := by
  refine gX5_relationOf.of (TX5_relationOf_0 ⟨by omega, ?_⟩)
  unfold rnF at q
  by_cases h1 : gm_ix c < 0
  · rw [if_pos h1] at q ⊢
    refine gq_isLetter ?_
    by_cases h2 : chL c
    · rw [if_neg (zb_ne.mpr h2)]
      by_cases h3 : n < 0
      · rw [if_pos h3]
        rw [if_neg (fun z => absurd z.2.1 (Int32.not_le.mpr h3))] at q
        exact q
      · rw [if_neg h3]
        by_cases h4 : n ≤ 3
        · rw [if_pos h4]
          rw [if_pos ⟨h2, Int32.not_lt.mp h3, h4⟩] at q
          exact q
        · rw [if_neg h4]
          rw [if_neg (fun z => h4 z.2.2)] at q
          exact q
    · rw [if_pos (zb_eq.mpr h2)]
      rw [if_neg (fun z => h2 z.1)] at q
      exact q
  · rw [if_neg h1] at q ⊢
    rcases ix_K c with ⟨h2, _⟩ | ⟨k, h2, h3, h4, h5⟩
    · exact absurd h2 h1
    · refine ⟨8, c_kt, hK, by decide, k, h3, h2, ?_⟩
      rw [h4]
      by_cases h6 : chK c = n
      · rw [if_pos h6] at q ⊢
        exact q
      · rw [if_neg h6] at q ⊢
        exact q
theorem rnF_wf {c : Int32} {ts : List Tm} (h : wfA c ts) : rnF c (nI ts.length) = rn c ts.length := by
  unfold rnF rn
  by_cases h1 : gm_ix c < 0
  · rw [if_pos h1, if_pos h1]
    rcases ix_K c with ⟨_, h2⟩ | ⟨k, h2, h3, h4, h5⟩
    · rcases h.1 with h3 | h3
      · rw [if_pos ⟨h3, nI_pos' (by have := h.2.1; omega), by rw [n_3]; exact nI_le h.2.1 (by decide)⟩]
      · rw [h2] at h3
        exact absurd h3.1 (by decide)
    · rw [h3] at h1
      exact absurd h1 (nI_pos (by omega))
  · rw [if_neg h1, if_neg h1]
    rcases ix_K c with ⟨h2, _⟩ | ⟨k, h2, h3, h4, h5⟩
    · exact absurd h2 h1
    · rcases h.1 with h6 | h6
      · exfalso
        have : ∀ k : Fin 8, ∀ c : Int32, gm_ix c = nI k.1 → c = 82 ∨ c = 73 ∨ c = 84 ∨ c = 78 ∨ c = 68 ∨ c = 76 ∨ c = 71 ∨ c = 69 := by
          intro k c e
          unfold gm_ix at e
          repeat' split at e
          all_goals first | (simp only [*, true_or, or_true]; done) | (exfalso; revert e; revert k; decide)
        rcases this ⟨k, h2⟩ c h3 with e | e | e | e | e | e | e | e <;> (rw [e] at h6; exact absurd h6 (by decide))
      · rw [if_pos h6.2.symm]
theorem kq_relationOf {N0 : Nat} {K : Nat → Nat} {d C : Nat} {c n : Int32} {s : cS} {G : gm_H} {sz : Nat} {Q : Int32 → Prop} (hK : K 0 < C) (hG : G (K 0) = some (.inl (gm_scr, 8, .inl c_kt))) (q : Q (rnF c n)) : kX5_relationOf N0 K (d + 2) C c n s G sz Q := by
  refine gC.kpure (gq_relationOf ?_ ⟨rfl, rfl, rfl, q⟩)
  rw [bM_out (by omega)]
  exact hG
/-- a literal's number of terms, its cell -/
def te (ts : List Tm) (i : Nat) : Int32 := match ts[i]? with
  | some t => nI (tE t)
  | none => 0
def lcell (x : Lt) : List Value := [.int x.1, .int (if x.1 = 2 then -1 else rn x.2.1 x.2.2.length), .int (te x.2.2 0), .int (te x.2.2 1), .int (te x.2.2 2), .int 0, .int 0]
theorem kq_init5 {N0 : Nat} {K : Nat → Nat} {d C sz : Nat} {p0 p1 p2 p3 p4 : Int32} {s : cS} {G : gm_H} {Q : Unit → gm_H → Prop} (hN : N0 ≤ C) (hsz : C + 34 ≤ sz) (q : Q () (gm_new G sz (.inr (5, [.int p0, .int p1, .int p2, .int p3, .int p4, .int 0, .int 0])))) : kX5_init_g N0 K (d + 2) C sz p0 p1 p2 p3 p4 s (gm_new G sz (.inr (5, [.int 0, .int 0, .int 0, .int 0, .int 0, .int 0, .int 0]))) (sz + 1) Q := by
  refine gC.mono (gX5_init.of (Q := fun _ M' sz' dd => M' = bM C (cH C s) (gm_new G sz (.inr (5, [.int p0, .int p1, .int p2, .int p3, .int p4, .int 0, .int 0]))) ∧ sz' = sz + 1 ∧ dd = 0) (TX5_init_0 ⟨by omega, [.int 0, .int 0, .int 0, .int 0, .int 0, .int 0, .int 0], cG_get hsz gm_set_eq, by omega, Nat.le_of_ble_eq_true rfl, Nat.le_of_ble_eq_true rfl, Nat.le_of_ble_eq_true rfl, Nat.le_of_ble_eq_true rfl, Nat.le_of_ble_eq_true rfl, ?_⟩)) ?_
  · refine ⟨?_, rfl, rfl⟩
    rw [gs_set, gs_set, gs_set, gs_set, cG_set hsz]
    unfold gm_new
    rw [gs_set]
    rfl
  · intro r M' sz' dd h
    obtain ⟨rfl, rfl, rfl⟩ := h
    exact ⟨s, _, rfl, rfl, rfl, rfl, q⟩
