/-! the class: sets of bits; variables; faults 2 and 3 -/
/-- a number as a set of bits -/
def bs (x : Int32) (S : Nat → Prop) : Prop := ∃ m : Nat, x = nI m ∧ m < 2 ^ 24 ∧ ∀ k, m.testBit k = true ↔ S k
theorem bs_0 : bs 0 (fun _ => False) := ⟨0, rfl, by decide, fun k => by simp⟩
theorem bs.iff {x : Int32} {S T : Nat → Prop} (h : bs x S) (e : ∀ k, S k ↔ T k) : bs x T := by
  obtain ⟨m, h1, h2, h3⟩ := h
  exact ⟨m, h1, h2, fun k => (h3 k).trans (e k)⟩
theorem bs.or {x y : Int32} {S T : Nat → Prop} (h : bs x S) (g : bs y T) : bs (x ||| y) (fun k => S k ∨ T k) := by
  obtain ⟨m, rfl, h2, h3⟩ := h
  obtain ⟨n, rfl, g2, g3⟩ := g
  refine ⟨m ||| n, nI_or m n, Nat.or_lt_two_pow h2 g2, fun k => ?_⟩
  rw [Nat.testBit_or, Bool.or_eq_true, h3, g3]
theorem bs_one {k : Nat} (hk : k < 24) : bs ((1 : Int32) <<< (nI k &&& 31)) (fun j => j = k) := by
  refine ⟨1 * 2 ^ k, nI_shl 1 (by omega), ?_, fun j => ?_⟩
  · rw [Nat.one_mul]
    exact Nat.pow_lt_pow_right (by decide) hk
  · rw [Nat.one_mul, Nat.testBit_two_pow]
    simp only [decide_eq_true_eq]
    exact ⟨fun z => z.symm, fun z => z.symm⟩
theorem bs.test {x : Int32} {S : Nat → Prop} {k : Nat} (h : bs x S) (hk : k < 24) : ((x.toUInt32 >>> ((nI k).toUInt32 &&& Int32.toUInt32 31)).toInt32) &&& (1 : Int32) = 0 ↔ ¬ S k := by
  obtain ⟨m, rfl, h2, h3⟩ := h
  rw [nI_ush (by omega) (by omega), n_1, nI_and, Nat.and_one_is_mod, ← h3 k, Nat.testBit_eq_decide_div_mod_eq, ← nI_0, nI_eq (by omega) (by decide)]
  simp only [decide_eq_true_eq]
  omega
theorem bs.mask {x : Int32} {S : Nat → Prop} {w : Nat} (h : bs x S) (hw : w < 256) : x &&& nI w = 0 ↔ ∀ k, ¬ (S k ∧ w.testBit k = true) := by
  obtain ⟨m, rfl, h2, h3⟩ := h
  have hb : m &&& w < 2 ^ 24 := Nat.and_lt_two_pow m (by omega)
  rw [nI_and, ← nI_0, nI_eq (by omega) (by decide)]
  constructor
  · intro e k hk
    have := congrArg (fun z => Nat.testBit z k) e
    simp only [Nat.testBit_and, Nat.zero_testBit] at this
    rw [(h3 k).mpr hk.1, hk.2] at this
    exact absurd this (by decide)
  · intro hno
    apply Nat.eq_of_testBit_eq
    intro k
    rw [Nat.testBit_and, Nat.zero_testBit]
    cases e1 : m.testBit k with
    | false => rfl
    | true =>
      cases e2 : w.testBit k with
      | false => rfl
      | true => exact absurd ⟨(h3 k).mp e1, e2⟩ (hno k)
/-- the variables among the digits of a term's number -/
def vN (n : Nat) : Nat := ((vb (nI (n / 2 ^ 21 % 128)) ||| vb (nI (n / 2 ^ 14 % 128))) ||| vb (nI (n / 2 ^ 7 % 128))) ||| vb (nI (n / 2 ^ 0 % 128))
theorem gs_var5 {N0 : Nat} {K : Nat → Nat} {d n acc k : Nat} {M : gm_H} {sz sl : Nat} {Q : Int32 → gm_H → Nat → Nat → Prop} (hn : n < 2 ^ 28) (hk : k < 32) (q : hX9_variables_5 N0 K (d + 1) (nI n) (nI (acc ||| vb (nI (n / 2 ^ k % 128)))) (nI k + (-7 : Int32)) M sz sl Q) : hX9_variables_5 N0 K (d + 1) (nI n) (nI acc) (nI k) M sz sl Q := by
  refine TX9_variables_5 ?_
  rw [if_neg (nI_pos (by omega)), dig hn hk]
  refine gq_isVariable ?_
  by_cases hv : chV (nI (n / 2 ^ k % 128))
  · rw [if_neg (zb_ne.mpr hv), vb_eq hv, nI_or]
    exact q
  · rw [if_pos (zb_eq.mpr hv)]
    have e : vb (nI (n / 2 ^ k % 128)) = 0 := by
      unfold vb
      rw [if_neg hv]
    rw [e, Nat.or_zero] at q
    exact q
theorem gq_variables {N0 : Nat} {K : Nat → Nat} {d n : Nat} {M : gm_H} {sz : Nat} {Q : Int32 → gm_H → Nat → Nat → Prop} (hn : n < 2 ^ 28) (q : Q (nI (vN n)) M sz 0) : gX9_variables N0 K (d + 2) (nI n) M sz Q := by
  refine gX9_variables.of (TX9_variables_0 ?_)
  refine gs_var5 (acc := 0) (k := 21) hn (by decide) ?_
  rw [show nI 21 + (-7 : Int32) = nI 14 by decide]
  refine gs_var5 (k := 14) hn (by decide) ?_
  rw [show nI 14 + (-7 : Int32) = nI 7 by decide]
  refine gs_var5 (k := 7) hn (by decide) ?_
  rw [show nI 7 + (-7 : Int32) = nI 0 by decide]
  refine gs_var5 (k := 0) hn (by decide) ?_
  refine TX9_variables_5 ?_
  rw [if_pos (by decide), Nat.zero_or]
  exact q
theorem vb_0 : vb 0 = 0 := by decide
theorem vb_chL {c : Int32} (h : chL c) : vb c = 0 := by
  unfold vb
  rw [if_neg (fun z => absurd (Int32.le_trans h.1 z.2) (by decide))]
theorem vb_cn {c : Int32} (h : c = 0 ∨ chP c) : nI (cn c) = c := by
  rcases h with h | h
  · rw [h]; rfl
  · exact (chP_cn h).2.2.symm
theorem vN_q {a b c d : Nat} (ha : a < 128) (hb : b < 128) (hc : c < 128) (hd : d < 128) : vN (a * 2097152 + b * 16384 + c * 128 + d) = ((vb (nI a) ||| vb (nI b)) ||| vb (nI c)) ||| vb (nI d) := by
  unfold vN
  rw [show (a * 2097152 + b * 16384 + c * 128 + d) / 2 ^ 21 % 128 = a by omega, show (a * 2097152 + b * 16384 + c * 128 + d) / 2 ^ 14 % 128 = b by omega, show (a * 2097152 + b * 16384 + c * 128 + d) / 2 ^ 7 % 128 = c by omega, show (a * 2097152 + b * 16384 + c * 128 + d) / 2 ^ 0 % 128 = d by omega]
theorem vN_tE {t : Tm} (h : wfT t) : vN (tE t) = vt t.2 := by
  have hh := h
  rcases h with ⟨h0, c, hc, e⟩ | ⟨h0, h1, h2, h3⟩
  · have et : t = (0, [c]) := Prod.ext h0 e
    subst et
    have h4 := (chP_cn hc).2.1
    rw [tE_k, show cn c * 2097152 = cn c * 2097152 + 0 * 16384 + 0 * 128 + 0 by omega, vN_q h4 (by decide) (by decide) (by decide), show nI 0 = 0 from rfl, vb_0, Nat.or_zero, Nat.or_zero, Nat.or_zero, vb_cn (Or.inr hc)]
    show vb c = 0 ||| vb c
    rw [Nat.zero_or]
  · obtain ⟨o, ps⟩ := t
    have h4 := (chP_cn (Or.inl h0)).2.1
    have hz : ¬ o = 0 := chL_ne h0
    rw [tE_c hz]
    match ps, h1, h2, h3 with
    | [x], _, _, h3 =>
      have hx := h3 x (by simp)
      show vN (cn o * 2097152 + cn x * 16384 + 0 * 128 + 0) = 0 ||| vb x
      rw [vN_q h4 (chP_cn hx).2.1 (by decide) (by decide), show nI 0 = 0 from rfl, vb_0, vb_cn (Or.inr (Or.inl h0)), vb_chL h0, vb_cn (Or.inr hx), Nat.or_zero, Nat.or_zero]
    | [x, y], _, _, h3 =>
      have hx := h3 x (by simp)
      have hy := h3 y (by simp)
      show vN (cn o * 2097152 + cn x * 16384 + cn y * 128 + 0) = 0 ||| vb x ||| vb y
      rw [vN_q h4 (chP_cn hx).2.1 (chP_cn hy).2.1 (by decide), show nI 0 = 0 from rfl, vb_0, vb_cn (Or.inr (Or.inl h0)), vb_chL h0, vb_cn (Or.inr hx), vb_cn (Or.inr hy), Nat.or_zero]
    | [x, y, z], _, _, h3 =>
      have hx := h3 x (by simp)
      have hy := h3 y (by simp)
      have hz := h3 z (by simp)
      show vN (cn o * 2097152 + cn x * 16384 + cn y * 128 + cn z) = 0 ||| vb x ||| vb y ||| vb z
      rw [vN_q h4 (chP_cn hx).2.1 (chP_cn hy).2.1 (chP_cn hz).2.1, vb_cn (Or.inr (Or.inl h0)), vb_chL h0, vb_cn (Or.inr hx), vb_cn (Or.inr hy), vb_cn (Or.inr hz)]
theorem vN_0 : vN 0 = 0 := by decide
theorem vN_ts {ts : List Tm} (h : ∀ t ∈ ts, wfT t) (hl : ts.length ≤ 3) : (vN (teN ts 0) ||| vN (teN ts 1)) ||| vN (teN ts 2) = vm ts := by
  match ts, h, hl with
  | [], _, _ => decide
  | [x], h, _ =>
    show (vN (tE x) ||| vN 0) ||| vN 0 = 0 ||| vt x.2
    rw [vN_0, vN_tE (h x (by simp)), Nat.or_zero, Nat.or_zero, Nat.zero_or]
  | [x, y], h, _ =>
    show (vN (tE x) ||| vN (tE y)) ||| vN 0 = 0 ||| vt x.2 ||| vt y.2
    rw [vN_0, vN_tE (h x (by simp)), vN_tE (h y (by simp)), Nat.or_zero, Nat.zero_or]
  | [x, y, z], h, _ =>
    show (vN (tE x) ||| vN (tE y)) ||| vN (tE z) = 0 ||| vt x.2 ||| vt y.2 ||| vt z.2
    rw [vN_tE (h x (by simp)), vN_tE (h y (by simp)), vN_tE (h z (by simp)), Nat.zero_or]
theorem gq_lvars {N0 : Nat} {K : Nat → Nat} {d a : Nat} {M : gm_H} {sz : Nat} {x : Lt} {Q : Int32 → gm_H → Nat → Nat → Prop} (hM : M a = some (.inr (5, lcell x))) (hw : wfL x) (q : Q (nI (vm x.2.2)) M sz 0) : gX5_variables N0 K (d + 3) a M sz Q := by
  obtain ⟨h1, h2⟩ := wfL_len hw
  refine gX5_variables.of (TX5_variables_0 ⟨_, hM, te x.2.2 0, rfl, ?_⟩)
  rw [te_nI]
  refine gq_variables (teN_lt h2 0) ⟨_, hM, te x.2.2 1, rfl, ?_⟩
  rw [te_nI]
  refine gq_variables (teN_lt h2 1) ⟨_, hM, te x.2.2 2, rfl, ?_⟩
  rw [te_nI]
  refine gq_variables (teN_lt h2 2) ?_
  rw [nI_or, nI_or, vN_ts h2 h1]
  exact q
/-- a rule in a heap, as it was read -/
def gRule (M : gm_H) (r : Nat) (x : Rl) : Prop := ∃ h b fa, M h = some (.inr (5, lcell x.1)) ∧ M r = some (.inr (7, rcell h b x.2.length)) ∧ M b = some (larr fa) ∧ x.2.length ≤ 5 ∧ ∀ j y, x.2[j]? = some y → ∃ a, fa j = some a ∧ M a = some (.inr (5, lcell y))
theorem lcell_rel {x : Lt} : (lcell x)[1]? = some (.int (if x.1 = 2 then -1 else rn x.2.1 x.2.2.length)) := rfl
theorem rn_cases {c : Int32} {ts : List Tm} (h : wfA c ts) : (∃ k, k < 8 ∧ rn c ts.length = nI k ∧ gm_ix c = nI k) ∨ (∃ m, 97 ≤ m ∧ m ≤ 122 ∧ c = nI m ∧ rn c ts.length = nI (8 + (m - 97) * 4 + ts.length) ∧ gm_ix c < 0) := by
  rcases ix_K c with ⟨h1, h2⟩ | ⟨k, h1, h2, h3, h4⟩
  · rcases h.1 with hL | hK
    · obtain ⟨m, g2, g3⟩ := nI_of2 (x := c) (M := 122) (n := 122) rfl (Int32.not_lt.mpr (Int32.le_trans (by decide) hL.1)) hL.2
      subst g3
      have h97 := (nI_leI (a := 97) (b := m) (by decide) (by omega)).mp hL.1
      refine Or.inr ⟨m, h97, g2, rfl, ?_, h1⟩
      unfold rn
      rw [if_pos h1, rn_name h97 g2 h.2.1]
    · rw [h2] at hK
      exact absurd hK.1 (by decide)
  · refine Or.inl ⟨k, h1, ?_, h2⟩
    unfold rn
    rw [h2, if_neg (nI_pos (by omega))]
/-- the place of a keyword -/
theorem ix_kw {c : Int32} {k : Nat} (hk : k < 8) : gm_ix c = nI k ↔ c = ([82, 73, 84, 78, 68, 76, 71, 69] : List Int32).getD k 0 := by
  constructor
  · intro e
    unfold gm_ix at e
    have hj : ∀ j : Nat, j < 8 → nI j = nI k → j = k := fun j hj z => (nI_eq (by omega) (by omega)).mp z
    repeat' split at e
    · have := hj 0 (by decide) e; subst this; assumption
    · have := hj 1 (by decide) e; subst this; assumption
    · have := hj 2 (by decide) e; subst this; assumption
    · have := hj 3 (by decide) e; subst this; assumption
    · have := hj 4 (by decide) e; subst this; assumption
    · have := hj 5 (by decide) e; subst this; assumption
    · have := hj 6 (by decide) e; subst this; assumption
    · have := hj 7 (by decide) e; subst this; assumption
    · exact absurd (by rw [← e]; decide : nI k < 0) (nI_pos (by omega))
  · intro e
    subst e
    revert k
    decide
theorem rn_kw {c : Int32} {ts : List Tm} {k : Nat} (h : wfA c ts) (hk : k < 8) : rn c ts.length = nI k ↔ c = ([82, 73, 84, 78, 68, 76, 71, 69] : List Int32).getD k 0 := by
  rw [← ix_kw hk]
  rcases rn_cases h with ⟨j, h1, h2, h3⟩ | ⟨m, h1, h2, h3, h4, h5⟩
  · rw [h2, h3]
  · rw [h4]
    have := h.2.1
    constructor
    · intro e
      rw [nI_eq (by omega) (by omega)] at e
      omega
    · intro e
      rw [e] at h5
      exact absurd h5 (nI_pos (by omega))
theorem lrel_kw {x : Lt} {k : Nat} (h : wfL x) (hk : k < 8) : (if x.1 = 2 then (-1 : Int32) else rn x.2.1 x.2.2.length) = nI k ↔ x.1 ≠ 2 ∧ x.2.1 = ([82, 73, 84, 78, 68, 76, 71, 69] : List Int32).getD k 0 := by
  by_cases h2 : x.1 = 2
  · rw [if_pos h2]
    constructor
    · intro e
      exact absurd (by rw [← e]; decide : nI k < 0) (nI_pos (by omega))
    · intro e
      exact absurd h2 e.1
  · rw [if_neg h2, rn_kw (wfL_atom h h2).1 hk]
    exact ⟨fun z => ⟨h2, z⟩, fun z => z.2⟩
theorem lrel_kv {x : Lt} {k : Nat} {v : Int32} (h : wfL x) (hk : k < 8) (hv : v = nI k) : (if x.1 = 2 then (-1 : Int32) else rn x.2.1 x.2.2.length) = v ↔ x.1 ≠ 2 ∧ x.2.1 = ([82, 73, 84, 78, 68, 76, 71, 69] : List Int32).getD k 0 := by
  rw [hv]
  exact lrel_kw h hk
theorem gs_mis_2 {N0 : Nat} {K : Nat → Nat} {d r : Nat} {M : gm_H} {sz sl : Nat} {x : Rl} {Q : Int32 → gm_H → Nat → Nat → Prop} (hx : gRule M r x) (hw : wfR x) (q1 : flt2 x → Q 1 M sz sl) (q0 : ¬ flt2 x → Q 0 M sz sl) : ∀ (m j : Nat), j + m = x.2.length → (∀ i l, i < j → x.2[i]? = some l → l.1 ≠ 2 → ¬ (l.2.1 = 73 ∨ l.2.1 = 78)) → hX7_isMisplaced_2 N0 K (d + 3) r (nI j) M sz sl Q := by
  obtain ⟨h, b, fa, e1, e2, e3, e4, e5⟩ := hx
  obtain ⟨w1, w2, w3⟩ := wfR_head hw
  intro m
  induction m with
  | zero =>
    intro j hj hno
    refine TX7_isMisplaced_2 ⟨_, e2, nI x.2.length, rfl, ?_⟩
    rw [if_pos (nI_le (by omega) (by omega))]
    refine ⟨h, rfl, _, e1, _, lcell_rel, ?_⟩
    have hn : ¬ ∃ l ∈ x.2, l.1 ≠ 2 ∧ (l.2.1 = 73 ∨ l.2.1 = 78) := by
      intro z
      obtain ⟨l, hl, z1, z2⟩ := z
      obtain ⟨i, hi, el⟩ := List.getElem_of_mem hl
      exact hno i l (by omega) (by rw [List.getElem?_eq_getElem hi, el]) z1 z2
    by_cases c0 : x.1.2.1 = 82
    · have n84 : ¬ x.1.2.1 = 84 := by rw [c0]; decide
      have n68 : ¬ x.1.2.1 = 68 := by rw [c0]; decide
      rw [if_pos ((lrel_kv (k := 0) (v := 0) w1 (by decide) rfl).mpr ⟨w3, c0⟩)]
      by_cases c1 : x.2 = []
      · rw [if_neg (by rw [c1]; decide)]
        refine gq_lvars e1 w1 ?_
        have := vm_lt x.1.2.2
        by_cases c2 : vm x.1.2.2 = 0
        · rw [if_pos (by rw [c2]; rfl)]
          refine q0 (fun z => ?_)
          rcases z with z | z
          · exact z.elim n84 (fun z => z.elim n68 (fun z => z.2.elim (fun y => y c1) (fun y => y c2)))
          · exact hn z
        · rw [if_neg (nI_ne0 (by omega) (by omega))]
          exact q1 (Or.inl (Or.inr (Or.inr ⟨c0, Or.inr c2⟩)))
      · have : 0 < x.2.length := List.length_pos_iff.mpr c1
        rw [if_pos (by rw [← nI_0]; exact nI_lt this (by omega))]
        exact q1 (Or.inl (Or.inr (Or.inr ⟨c0, Or.inl c1⟩)))
    · rw [if_neg (fun z => c0 ((lrel_kv (k := 0) (v := 0) w1 (by decide) rfl).mp z).2)]
      by_cases c2 : x.1.2.1 = 84
      · rw [if_pos ((lrel_kv (k := 2) (v := 2) w1 (by decide) rfl).mpr ⟨w3, c2⟩)]
        exact q1 (Or.inl (Or.inl c2))
      · rw [if_neg (fun z => c2 ((lrel_kv (k := 2) (v := 2) w1 (by decide) rfl).mp z).2)]
        by_cases c4 : x.1.2.1 = 68
        · rw [if_pos ((lrel_kv (k := 4) (v := 4) w1 (by decide) rfl).mpr ⟨w3, c4⟩)]
          exact q1 (Or.inl (Or.inr (Or.inl c4)))
        · rw [if_neg (fun z => c4 ((lrel_kv (k := 4) (v := 4) w1 (by decide) rfl).mp z).2)]
          refine q0 (fun z => ?_)
          rcases z with z | z
          · exact z.elim c2 (fun z => z.elim c4 (fun z => c0 z.1))
          · exact hn z
  | succ m ih =>
    intro j hj hno
    have hj' : j < x.2.length := by omega
    refine TX7_isMisplaced_2 ⟨_, e2, nI x.2.length, rfl, ?_⟩
    rw [if_neg (nI_ge (by omega) (by omega))]
    obtain ⟨a, f1, f2⟩ := e5 j x.2[j] (List.getElem?_eq_getElem hj')
    have hm : x.2[j] ∈ x.2 := List.getElem_mem hj'
    have hwl := hw.2.2 _ hm
    refine ⟨b, rfl, 5, fa, e3, by decide, j, rfl, by omega, a, f1, _, f2, _, lcell_rel, ?_⟩
    by_cases c1 : x.2[j].1 ≠ 2 ∧ x.2[j].2.1 = 73
    · rw [if_pos ((lrel_kv (k := 1) (v := 1) hwl (by decide) rfl).mpr c1)]
      exact q1 (Or.inr ⟨_, hm, c1.1, Or.inl c1.2⟩)
    · rw [if_neg (fun z => c1 ((lrel_kv (k := 1) (v := 1) hwl (by decide) rfl).mp z))]
      refine ⟨a, f1, _, f2, _, lcell_rel, ?_⟩
      by_cases c3 : x.2[j].1 ≠ 2 ∧ x.2[j].2.1 = 78
      · rw [if_pos ((lrel_kv (k := 3) (v := 3) hwl (by decide) rfl).mpr c3)]
        exact q1 (Or.inr ⟨_, hm, c3.1, Or.inr c3.2⟩)
      · rw [if_neg (fun z => c3 ((lrel_kv (k := 3) (v := 3) hwl (by decide) rfl).mp z)), nI_1]
        refine ih (j + 1) (by omega) (fun i l hi hl hk z => ?_)
        by_cases ei : i = j
        · subst ei
          rw [List.getElem?_eq_getElem hj'] at hl
          cases hl
          exact z.elim (fun z => c1 ⟨hk, z⟩) (fun z => c3 ⟨hk, z⟩)
        · exact hno i l (by omega) hl hk z
theorem gs_lo_12 {N0 : Nat} {K : Nat → Nat} {d r : Nat} {M : gm_H} {sz sl : Nat} {x : Rl} {Q : Int32 → gm_H → Nat → Nat → Prop} (hx : gRule M r x) (hw : wfR x) : ∀ (m j na ha : Nat), j + m = x.2.length → (if nI (((x.2.drop j).filter (fun l => l.1 != 0)).foldl (fun m l => m ||| vm l.2.2) na) &&& (nI (((x.2.drop j).filter (fun l => l.1 == 0)).foldl (fun m l => m ||| vm l.2.2) ha) ^^^ (-1 : Int32)) = 0 then Q 0 M sz sl else Q 1 M sz sl) → hX7_isLoose_12 N0 K (d + 3) r (nI ha) (nI na) (nI j) M sz sl Q := by
  obtain ⟨h, b, fa, e1, e2, e3, e4, e5⟩ := hx
  intro m
  induction m with
  | zero =>
    intro j na ha hj q
    refine TX7_isLoose_12 ⟨_, e2, nI x.2.length, rfl, ?_⟩
    rw [if_pos (nI_le (by omega) (by omega))]
    rw [List.drop_eq_nil_of_le (by omega)] at q
    exact q
  | succ m ih =>
    intro j na ha hj q
    have hj' : j < x.2.length := by omega
    refine TX7_isLoose_12 ⟨_, e2, nI x.2.length, rfl, ?_⟩
    rw [if_neg (nI_ge (by omega) (by omega)), nI_1]
    obtain ⟨a, f1, f2⟩ := e5 j x.2[j] (List.getElem?_eq_getElem hj')
    have hm : x.2[j] ∈ x.2 := List.getElem_mem hj'
    have hwl := hw.2.2 _ hm
    refine ⟨b, rfl, 5, fa, e3, by decide, j, rfl, by omega, a, f1, _, f2, x.2[j].1, rfl, ?_⟩
    rw [List.drop_eq_getElem_cons hj'] at q
    by_cases hk : x.2[j].1 = 0
    · rw [if_pos hk]
      refine ⟨a, f1, _, f2, gq_lvars f2 hwl ?_⟩
      rw [nI_or]
      refine ih (j + 1) _ _ (by omega) ?_
      rw [List.filter_cons_of_neg (by simp [hk]), List.filter_cons_of_pos (by simp [hk]), List.foldl_cons] at q
      exact q
    · rw [if_neg hk]
      refine ⟨a, f1, _, f2, gq_lvars f2 hwl ?_⟩
      rw [nI_or]
      refine ih (j + 1) _ _ (by omega) ?_
      rw [List.filter_cons_of_pos (by simp [hk]), List.filter_cons_of_neg (by simp [hk]), List.foldl_cons] at q
      exact q
theorem gq_isLoose {N0 : Nat} {K : Nat → Nat} {d r : Nat} {M : gm_H} {sz : Nat} {x : Rl} {Q : Int32 → gm_H → Nat → Nat → Prop} (hx : gRule M r x) (hw : wfR x) (q1 : flt3 x → Q 1 M sz 0) (q0 : ¬ flt3 x → Q 0 M sz 0) : gX7_isLoose N0 K (d + 4) r M sz Q := by
  obtain ⟨w1, w2, w3⟩ := wfR_head hw
  have hx' := hx
  obtain ⟨h, b, fa, e1, e2, e3, e4, e5⟩ := hx
  refine gX7_isLoose.of (TX7_isLoose_0 ⟨_, e2, h, rfl, _, e1, gq_lvars e1 w1 ?_⟩)
  refine gs_lo_12 hx' hw x.2.length 0 _ 0 (by omega) ?_
  rw [List.drop_zero]
  change (if nI (vNeed x) &&& (nI (vHeld x) ^^^ (-1 : Int32)) = 0 then _ else _)
  by_cases h : nI (vNeed x) &&& (nI (vHeld x) ^^^ (-1 : Int32)) = 0
  · rw [if_pos h]
    exact q0 (fun z => z h)
  · rw [if_neg h]
    exact q1 h
theorem gq_isMisplaced {N0 : Nat} {K : Nat → Nat} {d r : Nat} {M : gm_H} {sz : Nat} {x : Rl} {Q : Int32 → gm_H → Nat → Nat → Prop} (hx : gRule M r x) (hw : wfR x) (q1 : flt2 x → Q 1 M sz 0) (q0 : ¬ flt2 x → Q 0 M sz 0) : gX7_isMisplaced N0 K (d + 4) r M sz Q := gX7_isMisplaced.of (TX7_isMisplaced_0 (gs_mis_2 hx hw q1 q0 x.2.length 0 (by omega) (fun i l hi => absurd hi (by omega))))
