/-! the class: planning terms and literals -/
/-- a mask and the variables that it has -/
def mk (U : Nat) (u : Int32 → Bool) : Prop := U < 64 ∧ ∀ k, k < 6 → U.testBit k = u (nI (85 + k))
theorem mk.var {U : Nat} {u : Int32 → Bool} (h : mk U u) {c : Int32} (hc : chV c) : U.testBit (cn c - 85) = u c := by
  obtain ⟨h1, h2, h3⟩ := chV_cn hc
  have := h.2 (cn c - 85) (by omega)
  rw [show 85 + (cn c - 85) = cn c by omega, ← h3] at this
  exact this
theorem nI_clr : ∀ U, U < 64 → ∀ V, V < 64 → nI U &&& (nI V ^^^ (-1 : Int32)) = nI (U &&& (63 ^^^ V)) := by decide +kernel
theorem clr_bit {U V k : Nat} (hk : k < 6) : (U &&& (63 ^^^ V)).testBit k = (U.testBit k && !V.testBit k) := by
  rw [Nat.testBit_and, Nat.testBit_xor]
  have : ∀ k, k < 6 → Nat.testBit 63 k = true := by decide
  rw [this k hk]
  cases V.testBit k <;> rfl
theorem clr_lt {U V : Nat} (h : U < 64) : U &&& (63 ^^^ V) < 64 := Nat.lt_of_le_of_lt Nat.and_le_left h
theorem mk.clr {U V : Nat} {u u' : Int32 → Bool} (h : mk U u) (g : ∀ k, k < 6 → u' (nI (85 + k)) = (u (nI (85 + k)) && !V.testBit k)) : mk (U &&& (63 ^^^ V)) u' := by
  refine ⟨clr_lt h.1, fun k hk => ?_⟩
  rw [clr_bit hk, h.2 k hk, g k hk]
theorem bit_one : ∀ U, U < 64 → ∀ b, b < 6 → (nI U &&& nI (2 ^ b) = 0 ↔ U.testBit b = false) := by decide +kernel
theorem vb_test {c : Int32} (hc : chV c) {k : Nat} (hk : k < 6) : (vb c).testBit k = (nI (85 + k) == c) := by
  obtain ⟨h1, h2, h3⟩ := chV_cn hc
  rw [Bool.eq_iff_iff, vb_bit]
  simp only [beq_iff_eq]
  constructor
  · rintro ⟨_, e⟩
    rw [← e]
    exact h3.symm
  · intro e
    refine ⟨hc, ?_⟩
    rw [← e, cn_nI (by omega)]
/-- the digit's change -/
theorem pl_neg : ∀ e, e < 6 → ∀ k, k < 4 → (((nI (85 + e) - (85 : Int32)) + (1 : Int32)) - nI (85 + e)) <<< (nI (7 * k) &&& 31) = 0 - nI (84 * 2 ^ (7 * k)) ∧ ((((nI (85 + e) - (85 : Int32)) + (1 : Int32)) + (6 : Int32)) - nI (85 + e)) <<< (nI (7 * k) &&& 31) = 0 - nI (78 * 2 ^ (7 * k)) := by decide +kernel
theorem nI_sub0 {a b : Nat} (h : b ≤ a) : nI a + (0 - nI b) = nI (a - b) := by
  rw [← nI_sub h, Int32.zero_sub, ← Int32.sub_eq_add_neg]
def dlp (u : Int32 → Bool) : Nat → List Int32 → Nat
  | 0, _ => 0
  | _ + 1, [] => 0
  | n + 1, c :: cs => (if chV c then (if u c = true then 84 else 78) else 0) * 2 ^ (7 * n) + dlp (uM u c) n cs
theorem dlp_nil (u : Int32 → Bool) (n : Nat) : dlp u n [] = 0 := by cases n <;> rfl
theorem gs_plan_8 {N0 : Nat} {K : Nat → Nat} {d P : Nat} {M : gm_H} {sz sl : Nat} {Q : Int32 → gm_H → Nat → Nat → Prop} (hP : P < 2 ^ 28) : ∀ (n : Nat) (cs : List Int32) (u : Int32 → Bool) (U A : Nat), n ≤ 4 → cs.length ≤ n → (∀ c ∈ cs, chP c) → (∀ j, j < n → P / 2 ^ (7 * (n - 1 - j)) % 128 = cn (cs.getD j 0)) → mk U u → dlp u n cs ≤ A → Q (nI (A - dlp u n cs)) M sz sl → hX9_plan_8 N0 K (d + 1) (nI P) (nI A) (nI U) (nI (7 * n) + (-7 : Int32)) M sz sl Q := by
  intro n
  induction n with
  | zero =>
    intro cs u U A _ _ _ _ _ _ q
    refine TX9_plan_8 ?_
    rw [if_pos m7_neg]
    exact q
  | succ n ih =>
    intro cs u U A hn h1 hc d1 hm hA q
    have hd1 := d1 0 (by omega)
    rw [show 7 * (n + 1 - 1 - 0) = 7 * n by omega] at hd1
    have tl1 : ∀ cs' : List Int32, (∀ j, cs.getD (j + 1) 0 = cs'.getD j 0) → ∀ j, j < n → P / 2 ^ (7 * (n - 1 - j)) % 128 = cn (cs'.getD j 0) := by
      intro cs' h j hj
      have := d1 (j + 1) (by omega)
      rw [show n + 1 - 1 - (j + 1) = n - 1 - j by omega, h j] at this
      exact this
    refine TX9_plan_8 ?_
    rw [nI_m7b n, dig hP (by omega : 7 * n < 32), if_neg (nI_pos (by omega)), hd1]
    cases cs with
    | nil =>
      have eg : cn (([] : List Int32).getD 0 0) = 0 := rfl
      rw [eg]
      refine gq_isVariable ?_
      rw [if_pos (by decide)]
      rw [dlp_nil] at q hA
      exact ih [] u U A (by omega) (by simp) hc (tl1 [] (fun j => by simp)) hm (by rw [dlp_nil]; exact hA) (by rw [dlp_nil]; exact q)
    | cons c cs =>
      have hcc := hc c (by simp)
      obtain ⟨c1, c2, c3⟩ := chP_cn hcc
      have eg : cn ((c :: cs).getD 0 0) = cn c := rfl
      rw [eg, ← c3]
      simp only [List.length_cons] at h1
      have hc' : ∀ x ∈ cs, chP x := fun x h => hc x (List.mem_cons_of_mem _ h)
      have tlx : ∀ j, (c :: cs).getD (j + 1) 0 = cs.getD j 0 := fun j => by simp
      rw [dlp] at q hA
      refine gq_isVariable ?_
      by_cases hv : chV c
      · obtain ⟨v1, v2, _⟩ := chV_cn hv
        rw [if_pos hv] at q hA
        rw [if_neg (zb_ne.mpr hv)]
        have hU := hm.1
        have evb : vb c = 2 ^ (cn c - 85) := by unfold vb; rw [if_pos hv]
        have hmm : mk (U &&& (63 ^^^ vb c)) (uM u c) := by
          refine hm.clr (fun k hk => ?_)
          unfold uM
          rw [vb_test hv hk]
        rw [vb_eq hv, nI_clr U hU (vb c) (vb_lt c)]
        have hneg := pl_neg (cn c - 85) (by omega) n (by omega)
        rw [show 85 + (cn c - 85) = cn c by omega, ← c3] at hneg
        have hb := bit_one U hU (cn c - 85) (by omega)
        rw [← evb, hm.var hv] at hb
        by_cases hu : u c = true
        · rw [if_pos hu] at q hA
          rw [if_neg (fun z => by rw [hb.mp z] at hu; cases hu), hneg.1, nI_sub0 (by omega)]
          exact ih cs (uM u c) _ _ (by omega) (by omega) hc' (tl1 _ tlx) hmm (by omega) (by rw [Nat.sub_sub]; exact q)
        · rw [if_neg hu] at q hA
          rw [if_pos (hb.mpr (by simpa using hu)), hneg.2, nI_sub0 (by omega)]
          exact ih cs (uM u c) _ _ (by omega) (by omega) hc' (tl1 _ tlx) hmm (by omega) (by rw [Nat.sub_sub]; exact q)
      · rw [if_neg hv, Nat.zero_mul, Nat.zero_add] at q hA
        rw [if_pos (zb_eq.mpr hv)]
        refine ih cs (uM u c) U A (by omega) (by omega) hc' (tl1 _ tlx) ⟨hm.1, fun k hk => ?_⟩ hA q
        rw [hm.2 k hk]
        unfold uM
        have : ¬ nI (85 + k) = c := fun z => hv (by rw [← z]; exact chV_of hk)
        simp [this]
theorem pl_congr : ∀ (cs : List Int32) (u u' : Int32 → Bool), (∀ c, chV c → u c = u' c) → pl u cs = pl u' cs := by
  intro cs
  induction cs with
  | nil => intro u u' _; rfl
  | cons c cs ih =>
    intro u u' h
    rw [pl, pl]
    have e1 : pD u c = pD u' c := by
      unfold pD
      by_cases hv : chV c
      · rw [if_pos hv, if_pos hv, h c hv]
      · rw [if_neg hv, if_neg hv]
    rw [e1, ih (uM u c) (uM u' c) (fun v hv => by unfold uM; rw [h v hv])]
theorem pD_sub {u : Int32 → Bool} {c : Int32} (hc : chP c) : cn c = pD u c + (if chV c then (if u c = true then 84 else 78) else 0) := by
  unfold pD
  by_cases hv : chV c
  · obtain ⟨a, b, _⟩ := chV_cn hv
    rw [if_pos hv, if_pos hv]
    by_cases hu : u c = true
    · rw [if_pos hu, if_pos hu]; omega
    · rw [if_neg hu, if_neg hu]; omega
  · rw [if_neg hv, if_neg hv]
    rfl
theorem pE_dlp {u : Int32 → Bool} {t : Tm} (h : wfT t) : dlp u 4 (tTop t :: tPar t) ≤ tE t ∧ tE t - dlp u 4 (tTop t :: tPar t) = pE u t := by
  obtain ⟨p1, p2, p3, p4, p5⟩ := h.par
  have ht := pD_sub (u := u) p3
  have etop : (if t.1 = 0 then pD u (ps_hc t.2) else cn t.1) = pD u (tTop t) := by
    by_cases hz : t.1 = 0
    · rw [if_pos hz]
      unfold tTop
      rw [if_pos hz]
    · rw [if_neg hz]
      have hl := (p5 hz).2.1
      have hnv : ¬ chV (tTop t) := by
        intro hv
        obtain ⟨a, b, _⟩ := chV_cn hv
        obtain ⟨x1, x2, x3⟩ := chP_cn p3
        rw [x3] at hl
        have := (nI_leI (a := 97) (b := cn (tTop t)) (by decide) (by omega)).mp hl.1
        omega
      unfold pD
      rw [if_neg hnv]
      unfold tTop
      rw [if_neg hz]
  have epl : pl u (tPar t) = pl (uM u (tTop t)) (tPar t) := by
    by_cases hz : t.1 = 0
    · have : tPar t = [] := if_pos hz
      rw [this]
      rfl
    · refine pl_congr _ _ _ (fun v hv => ?_)
      unfold uM
      have hl := (p5 hz).2.1
      have : ¬ v = tTop t := by
        intro e
        rw [e] at hv
        obtain ⟨a, b, _⟩ := chV_cn hv
        obtain ⟨x1, x2, x3⟩ := chP_cn p3
        rw [x3] at hl
        have := (nI_leI (a := 97) (b := cn (tTop t)) (by decide) (by omega)).mp hl.1
        omega
      simp [this]
  have key : tE t = pE u t + dlp u 4 (tTop t :: tPar t) := by
    rw [tE_top]
    unfold pE
    rw [etop, epl, dlp]
    match hcs : tPar t, p2, p1 with
    | [], _, p1 =>
      show cn (tTop t) * 2097152 + 0 * 16384 + 0 * 128 + 0 = pD u (tTop t) * 2097152 + 0 * 16384 + 0 * 128 + 0 + ((if chV (tTop t) then (if u (tTop t) = true then 84 else 78) else 0) * 2097152 + 0)
      omega
    | [a], _, p1 =>
      have da := pD_sub (u := (uM u (tTop t))) (p1 a (by simp))
      show cn (tTop t) * 2097152 + cn a * 16384 + 0 * 128 + 0 = pD u (tTop t) * 2097152 + pD (uM u (tTop t)) a * 16384 + 0 * 128 + 0 + ((if chV (tTop t) then (if u (tTop t) = true then 84 else 78) else 0) * 2097152 + ((if chV a then (if (uM u (tTop t)) a = true then 84 else 78) else 0) * 16384 + 0))
      omega
    | [a, b], _, p1 =>
      have da := pD_sub (u := (uM u (tTop t))) (p1 a (by simp))
      have db := pD_sub (u := (uM (uM u (tTop t)) a)) (p1 b (by simp))
      show cn (tTop t) * 2097152 + cn a * 16384 + cn b * 128 + 0 = pD u (tTop t) * 2097152 + pD (uM u (tTop t)) a * 16384 + pD (uM (uM u (tTop t)) a) b * 128 + 0 + ((if chV (tTop t) then (if u (tTop t) = true then 84 else 78) else 0) * 2097152 + ((if chV a then (if (uM u (tTop t)) a = true then 84 else 78) else 0) * 16384 + ((if chV b then (if (uM (uM u (tTop t)) a) b = true then 84 else 78) else 0) * 128 + 0)))
      omega
    | [a, b, c], _, p1 =>
      have da := pD_sub (u := (uM u (tTop t))) (p1 a (by simp))
      have db := pD_sub (u := (uM (uM u (tTop t)) a)) (p1 b (by simp))
      have dc := pD_sub (u := (uM (uM (uM u (tTop t)) a) b)) (p1 c (by simp))
      show cn (tTop t) * 2097152 + cn a * 16384 + cn b * 128 + cn c = pD u (tTop t) * 2097152 + pD (uM u (tTop t)) a * 16384 + pD (uM (uM u (tTop t)) a) b * 128 + pD (uM (uM (uM u (tTop t)) a) b) c + ((if chV (tTop t) then (if u (tTop t) = true then 84 else 78) else 0) * 2097152 + ((if chV a then (if (uM u (tTop t)) a = true then 84 else 78) else 0) * 16384 + ((if chV b then (if (uM (uM u (tTop t)) a) b = true then 84 else 78) else 0) * 128 + ((if chV c then (if (uM (uM (uM u (tTop t)) a) b) c = true then 84 else 78) else 0) * 1 + 0))))
      omega
  omega
theorem gq_tplan {N0 : Nat} {K : Nat → Nat} {d U : Nat} {t : Tm} {u : Int32 → Bool} {M : gm_H} {sz : Nat} {Q : Int32 → gm_H → Nat → Nat → Prop} (ht : wfT t) (hm : mk U u) (q : Q (nI (pE u t)) M sz 0) : gX9_plan N0 K (d + 2) (nI (tE t)) (nI U) M sz Q := by
  obtain ⟨p1, p2, p3, p4, p5⟩ := ht.par
  have hl := (tE_lt ht).1
  have c0 := cn_getD_lt p1 0
  have c1 := cn_getD_lt p1 1
  have c2 := cn_getD_lt p1 2
  have ctop := (chP_cn p3).2.1
  have hp := pE_dlp (u := u) ht
  refine gX9_plan.of (TX9_plan_0 ?_)
  rw [show (21 : Int32) = nI (7 * 4) + (-7 : Int32) by decide]
  refine gs_plan_8 hl 4 (tTop t :: tPar t) u U (tE t) (by omega) (by simpa using p2) (fun c hc => ?_) (fun j hj => ?_) hm hp.1 (by rw [hp.2]; exact q)
  · rcases List.mem_cons.mp hc with z | z
    · rw [z]; exact p3
    · exact p1 c z
  · obtain ⟨z1, z2, z3, z4⟩ := dg4 (a := cn (tTop t)) c0 c1 c2
    rw [← tE_top] at z1 z2 z3 z4
    have : j = 0 ∨ j = 1 ∨ j = 2 ∨ j = 3 := by omega
    rcases this with rfl | rfl | rfl | rfl
    · show tE t / 2 ^ 21 % 128 = cn (tTop t)
      rw [z1]
      omega
    · exact z2
    · exact z3
    · exact z4
theorem gq_tplan0 {N0 : Nat} {K : Nat → Nat} {d U : Nat} {u : Int32 → Bool} {M : gm_H} {sz : Nat} {Q : Int32 → gm_H → Nat → Nat → Prop} (hm : mk U u) (q : Q 0 M sz 0) : gX9_plan N0 K (d + 2) 0 (nI U) M sz Q := by
  refine gX9_plan.of (TX9_plan_0 ?_)
  rw [show (21 : Int32) = nI (7 * 4) + (-7 : Int32) by decide, ← nI_0]
  refine gs_plan_8 (by decide) 4 [] u U 0 (by omega) (by simp) (fun c hc => absurd hc (by simp)) (fun j hj => by simp; rfl) hm (by rw [dlp_nil]; exact Nat.le_refl _) (by rw [dlp_nil]; exact q)
