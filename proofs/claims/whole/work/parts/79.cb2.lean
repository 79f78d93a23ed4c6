/-! the class: planning literals -/
/-- a literal as read, with its two marks -/
def lcq (kn on : Int32) (x : Lt) : List Value := [.int x.1, .int (lr x), .int (te x.2.2 0), .int (te x.2.2 1), .int (te x.2.2 2), .int kn, .int on]
theorem lcq_0 (x : Lt) : lcell x = lcq 0 0 x := rfl
theorem vt_bit {cs : List Int32} {k : Nat} (hk : k < 6) : (vt cs).testBit k = cs.contains (nI (85 + k)) := by
  rw [Bool.eq_iff_iff]
  unfold vt
  rw [tb_fold vb, List.contains_iff_mem]
  simp only [Nat.zero_testBit, Bool.false_eq_true, false_or, vb_bit]
  constructor
  · rintro ⟨c, h1, h2, h3⟩
    rw [← h3, ← (chV_cn h2).2.2]
    exact h1
  · intro h
    exact ⟨_, h, chV_of hk, cn_nI (by omega)⟩
theorem vm_bitL {l : Lt} {k : Nat} (hk : k < 6) : (vm l.2.2).testBit k = l.2.2.any (fun t => t.2.contains (nI (85 + k))) := by
  rw [Bool.eq_iff_iff, vm_bit, inL_any]
  constructor
  · rintro ⟨t, h1, c, h2, h3, h4⟩
    refine ⟨t, h1, ?_⟩
    rw [← h4, ← (chV_cn h3).2.2]
    exact h2
  · rintro ⟨t, h1, h2⟩
    exact ⟨t, h1, _, h2, chV_of hk, cn_nI (by omega)⟩
theorem vN_i {ts : List Tm} (h : ∀ t ∈ ts, wfT t) (i : Nat) : vN (teN ts i) = (match ts[i]? with | some t => vt t.2 | none => 0) := by
  unfold teN
  cases e : ts[i]? with
  | none => exact vN_0
  | some t => exact vN_tE (h t (List.mem_of_getElem? e))
theorem vN_lt {ts : List Tm} (h : ∀ t ∈ ts, wfT t) (i : Nat) : vN (teN ts i) < 64 := by
  rw [vN_i h]
  cases ts[i]? with
  | none => exact (by decide : (0 : Nat) < 64)
  | some t => exact vt_lt t.2
theorem mk.uaS {U : Nat} {u : Int32 → Bool} {ts : List Tm} {i : Nat} (h : ∀ t ∈ ts, wfT t) (hm : mk U (ua u ts i)) : mk (U &&& (63 ^^^ vN (teN ts i))) (ua u ts (i + 1)) := by
  refine hm.clr (fun k hk => ?_)
  rw [vN_i h]
  cases e : ts[i]? with
  | none =>
    rw [ua_none e]
    simp
  | some t =>
    rw [ua_succ e]
    unfold uS
    simp only
    rw [vt_bit hk]
theorem gq_tplanI {N0 : Nat} {K : Nat → Nat} {d U i : Nat} {ts : List Tm} {u : Int32 → Bool} {M : gm_H} {sz : Nat} {Q : Int32 → gm_H → Nat → Nat → Prop} (h : ∀ t ∈ ts, wfT t) (hm : mk U (ua u ts i)) (q : Q (pt u ts i) M sz 0) : gX9_plan N0 K (d + 2) (te ts i) (nI U) M sz Q := by
  unfold pt at q
  unfold te
  cases e : ts[i]? with
  | none =>
    rw [e] at q
    exact gq_tplan0 hm q
  | some t =>
    rw [e] at q
    exact gq_tplan (h t (List.mem_of_getElem? e)) hm q
theorem gq_lplan {N0 : Nat} {K : Nat → Nat} {d U a : Nat} {x : Lt} {kn on : Int32} {u : Int32 → Bool} {M : gm_H} {sz : Nat} {Q : Unit → gm_H → Nat → Nat → Prop} (hN : N0 ≤ a) (hM : M a = some (.inr (5, lcq kn on x))) (hw : wfL x) (hm : mk U u) (q : Q () (gm_set M a (.inr (5, plc u kn on x))) sz 0) : gX5_plan N0 K (d + 3) a (nI U) M sz Q := by
  obtain ⟨h1, h2⟩ := wfL_len hw
  have m0 : mk U (ua u x.2.2 0) := hm
  have m1 := m0.uaS h2
  have m2 := m1.uaS h2
  refine gX5_plan.of (TX5_plan_0 ⟨_, hM, te x.2.2 0, rfl, ?_⟩)
  rw [te_nI]
  refine gq_variables (teN_lt h2 0) ⟨_, hM, te x.2.2 1, rfl, ?_⟩
  rw [te_nI x.2.2 1]
  refine gq_variables (teN_lt h2 1) ⟨_, hM, te x.2.2 0, rfl, ?_⟩
  rw [nI_clr U hm.1 _ (vN_lt h2 0), nI_clr _ m1.1 _ (vN_lt h2 1)]
  refine gq_tplanI h2 m0 ⟨_, hM, hN, by show (2 : Nat) < 7; decide, te x.2.2 1, rfl, ?_⟩
  refine gq_tplanI h2 m1 ⟨_, gm_set_eq, by show (3 : Nat) < 7; decide, te x.2.2 2, rfl, ?_⟩
  refine gq_tplanI h2 m2 ⟨_, gm_set_eq, by show (4 : Nat) < 7; decide, ?_⟩
  rw [gs_set, gs_set]
  exact q
/-- none of the literal's variables is unbound -/
def lB (u : Int32 → Bool) (l : Lt) : Prop := ∀ c, chV c → inL l c → u c = false
theorem and64 {U V : Nat} (hU : U < 64) : nI V &&& nI U = 0 ↔ ∀ k, k < 6 → ¬ (V.testBit k = true ∧ U.testBit k = true) := by
  have hb : V &&& U < 2 ^ 6 := Nat.and_lt_two_pow V (by omega)
  rw [nI_and, ← nI_0, nI_eq (by omega) (by decide)]
  constructor
  · intro e k _ hk
    have := congrArg (fun z => Nat.testBit z k) e
    simp only [Nat.testBit_and, Nat.zero_testBit] at this
    rw [hk.1, hk.2] at this
    exact absurd this (by decide)
  · intro hno
    apply Nat.eq_of_testBit_eq
    intro k
    rw [Nat.testBit_and, Nat.zero_testBit]
    by_cases hk : k < 6
    · cases e1 : V.testBit k with
      | false => rfl
      | true =>
        cases e2 : U.testBit k with
        | false => rfl
        | true => exact absurd ⟨e1, e2⟩ (hno k hk)
    · have : U.testBit k = false := Nat.testBit_lt_two_pow (Nat.lt_of_lt_of_le hU (Nat.pow_le_pow_right (n := 2) (by decide) (by omega : 6 ≤ k)))
      rw [this, Bool.and_false]
theorem lB_iff {U : Nat} {u : Int32 → Bool} {l : Lt} (hm : mk U u) : nI (vm l.2.2) &&& nI U = 0 ↔ lB u l := by
  rw [and64 hm.1]
  constructor
  · intro h c hc hin
    obtain ⟨c1, c2, c3⟩ := chV_cn hc
    have := h (cn c - 85) (by omega)
    rw [vm_bitL (by omega), show 85 + (cn c - 85) = cn c by omega, ← c3, inL_any, hm.var hc] at this
    cases e : u c with
    | false => rfl
    | true => exact absurd ⟨hin, e⟩ this
  · intro h k hk
    rw [vm_bitL hk, inL_any, hm.2 k hk]
    rintro ⟨h1, h2⟩
    rw [h _ (chV_of hk) h1] at h2
    cases h2
theorem mk.lit {U : Nat} {u : Int32 → Bool} (hm : mk U u) (l : Lt) : nI U &&& ((nI (vm l.2.2) &&& nI U) ^^^ (-1 : Int32)) = nI (U &&& (63 ^^^ (vm l.2.2 &&& U))) ∧ mk (U &&& (63 ^^^ (vm l.2.2 &&& U))) (uL u l) := by
  have hb : vm l.2.2 &&& U < 64 := Nat.lt_of_le_of_lt Nat.and_le_right hm.1
  refine ⟨by rw [nI_and, nI_clr U hm.1 _ hb], hm.clr (fun k hk => ?_)⟩
  unfold uL
  rw [Nat.testBit_and, vm_bitL hk, hm.2 k hk]
  cases u (nI (85 + k)) <;> simp
/-- the variables in compounds -/
def pv (ts : List Tm) : Nat := (vN (teN ts 0 % 2097152) ||| vN (teN ts 1 % 2097152)) ||| vN (teN ts 2 % 2097152)
theorem vN_par {t : Tm} (h : wfT t) : vN (tE t % 2097152) = if t.1 = 0 then 0 else vt t.2 := by
  have h0 := (dg_lt h 0).1
  have h1 := (dg_lt h 1).1
  have h2 := (dg_lt h 2).1
  have h3 := (dg_lt h 3).1
  have e : tE t % 2097152 = 0 * 2097152 + dg t 1 * 16384 + dg t 2 * 128 + dg t 3 := by
    unfold tE
    omega
  rw [e, vN_q (by decide) h1 h2 h3, ← vN_tE h]
  unfold tE
  rw [vN_q h0 h1 h2 h3]
  by_cases hz : t.1 = 0
  · have d : ∀ i, i ≠ 0 → dg t i = 0 := fun i hi => by unfold dg; rw [if_neg hi, if_pos hz]
    rw [if_pos hz, d 1 (by decide), d 2 (by decide), d 3 (by decide)]
    decide
  · rw [if_neg hz]
    have hl : chL t.1 := by
      rcases h with ⟨z, _⟩ | ⟨z, _⟩
      · exact absurd z hz
      · exact z
    have d : dg t 0 = cn t.1 := by unfold dg; rw [if_pos rfl, if_neg hz]
    rw [d, vb_cn (Or.inr (Or.inl hl)), vb_chL hl, show vb (nI 0) = 0 from vb_0]
theorem pv_i {ts : List Tm} (h : ∀ t ∈ ts, wfT t) (i k : Nat) (hk : k < 6) : (vN (teN ts i % 2097152)).testBit k = true ↔ ∃ t, ts[i]? = some t ∧ t.1 ≠ 0 ∧ nI (85 + k) ∈ t.2 := by
  unfold teN
  cases e : ts[i]? with
  | none =>
    constructor
    · intro z
      have : vN (0 % 2097152) = 0 := by decide
      simp only [this] at z
      rw [Nat.zero_testBit] at z
      cases z
    · rintro ⟨t, ht, _⟩
      cases ht
  | some t =>
    simp only
    rw [vN_par (h t (List.mem_of_getElem? e))]
    by_cases hz : t.1 = 0
    · rw [if_pos hz, Nat.zero_testBit]
      exact ⟨fun z => absurd z (by decide), fun ⟨t', z1, z2, _⟩ => by cases z1; exact absurd hz z2⟩
    · rw [if_neg hz, vt_bit hk, List.contains_iff_mem]
      exact ⟨fun z => ⟨t, rfl, hz, z⟩, fun ⟨t', z1, _, z3⟩ => by cases z1; exact z3⟩
theorem vN_pl {ts : List Tm} (h : ∀ t ∈ ts, wfT t) (i : Nat) : vN (teN ts i % 2097152) < 64 := by
  unfold teN
  cases e : ts[i]? with
  | none => exact (by decide : vN (0 % 2097152) < 64)
  | some t =>
    simp only
    rw [vN_par (h t (List.mem_of_getElem? e))]
    split
    · decide
    · exact vt_lt _
theorem pv_lt {ts : List Tm} (h : ∀ t ∈ ts, wfT t) : pv ts < 64 := or_lt64 (or_lt64 (vN_pl h 0) (vN_pl h 1)) (vN_pl h 2)
theorem pv_bit {l : Lt} (hw : wfL l) {k : Nat} (hk : k < 6) : (pv l.2.2).testBit k = true ↔ inC l (nI (85 + k)) := by
  obtain ⟨h1, h2⟩ := wfL_len hw
  unfold pv
  rw [Nat.testBit_or, Nat.testBit_or, Bool.or_eq_true, Bool.or_eq_true, pv_i h2 0 k hk, pv_i h2 1 k hk, pv_i h2 2 k hk]
  constructor
  · rintro ((⟨t, a, b, c⟩ | ⟨t, a, b, c⟩) | ⟨t, a, b, c⟩) <;> exact ⟨t, List.mem_of_getElem? a, b, c⟩
  · rintro ⟨t, a, b, c⟩
    obtain ⟨i, hi⟩ := List.getElem?_of_mem a
    have := (List.getElem?_eq_some_iff.mp hi).1
    have : i = 0 ∨ i = 1 ∨ i = 2 := by omega
    rcases this with rfl | rfl | rfl
    · exact Or.inl (Or.inl ⟨t, hi, b, c⟩)
    · exact Or.inl (Or.inr ⟨t, hi, b, c⟩)
    · exact Or.inr ⟨t, hi, b, c⟩
theorem gq_lparts {N0 : Nat} {K : Nat → Nat} {d a : Nat} {M : gm_H} {sz : Nat} {x : Lt} {Q : Int32 → gm_H → Nat → Nat → Prop} (hM : M a = some (.inr (5, lcell x))) (hw : wfL x) (q : Q (nI (pv x.2.2)) M sz 0) : gX5_partVariables N0 K (d + 3) a M sz Q := by
  obtain ⟨h1, h2⟩ := wfL_len hw
  have hp : ∀ i, nI (teN x.2.2 i) &&& (2097151 : Int32) = nI (teN x.2.2 i % 2097152) := fun i => by
    rw [show (2097151 : Int32) = nI 2097151 from rfl, nI_and, n_andPart]
  have hl : ∀ i, teN x.2.2 i % 2097152 < 2 ^ 28 := fun i => by
    have := Nat.mod_lt (teN x.2.2 i) (by decide : 0 < 2097152)
    omega
  refine gX5_partVariables.of (TX5_partVariables_0 ⟨_, hM, te x.2.2 0, rfl, ?_⟩)
  rw [te_nI, hp]
  refine gq_variables (hl 0) ⟨_, hM, te x.2.2 1, rfl, ?_⟩
  rw [te_nI, hp]
  refine gq_variables (hl 1) ⟨_, hM, te x.2.2 2, rfl, ?_⟩
  rw [te_nI, hp]
  refine gq_variables (hl 2) ?_
  rw [nI_or, nI_or]
  exact q
theorem gq_tMerit {N0 : Nat} {K : Nat → Nat} {d n : Nat} {U : Int32} {M : gm_H} {sz : Nat} {Q : Int32 → gm_H → Nat → Nat → Prop} (hn : n < 2 ^ 28) (q : ∀ m, m ≤ 10 → Q (nI m) M sz 0) : gX7_termMerit N0 K (d + 3) (nI n) U M sz Q := by
  refine gX7_termMerit.of (TX7_termMerit_0 ?_)
  split
  · exact q 0 (by decide)
  · refine gq_variables hn ?_
    split
    · exact q 10 (by decide)
    · split
      · exact q 0 (by decide)
      · exact q 4 (by decide)
def lG (u : Int32 → Bool) (l : Lt) : Prop := lB u l ∨ l.1 = 0
theorem gq_merit {N0 : Nat} {K : Nat → Nat} {d U a : Nat} {W : Int32} {x : Lt} {u : Int32 → Bool} {M : gm_H} {sz : Nat} {Q : Int32 → gm_H → Nat → Nat → Prop} (hM : M a = some (.inr (5, lcell x))) (hw : wfL x) (hm : mk U u) (q1 : lG u x → ∀ m, m ≤ 100 → Q (nI m) M sz 0) (q0 : ¬ lG u x → Q (-1) M sz 0) : gX7_meritOf N0 K (d + 4) a (nI U) W M sz Q := by
  obtain ⟨h1, h2⟩ := wfL_len hw
  refine gX7_meritOf.of (TX7_meritOf_0 ⟨_, hM, gq_lvars hM hw ?_⟩)
  by_cases hb : lB u x
  · rw [if_pos ((lB_iff hm).mpr hb)]
    exact q1 (Or.inl hb) 100 (by decide)
  · rw [if_neg (fun z => hb ((lB_iff hm).mp z))]
    refine ⟨_, hM, x.1, rfl, ?_⟩
    by_cases hk : x.1 = 0
    · rw [if_pos hk]
      refine ⟨te x.2.2 0, rfl, ?_⟩
      rw [te_nI]
      refine gq_tMerit (teN_lt h2 0) (fun m1 l1 => ⟨_, hM, te x.2.2 1, rfl, ?_⟩)
      rw [te_nI]
      refine gq_tMerit (teN_lt h2 1) (fun m2 l2 => ⟨_, hM, te x.2.2 2, rfl, ?_⟩)
      rw [te_nI]
      refine gq_tMerit (teN_lt h2 2) (fun m3 l3 => ?_)
      rw [nI_add, nI_add, show (5 : Int32) = nI 5 from rfl, nI_add]
      split
      · exact q1 (Or.inr hk) _ (by omega)
      · exact q1 (Or.inr hk) _ (by omega)
    · rw [if_neg hk]
      exact q0 (fun z => z.elim hb hk)
