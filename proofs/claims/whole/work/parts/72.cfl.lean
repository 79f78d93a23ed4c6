/-! the class: fill; planned literals -/
theorem nI_sub {a b : Nat} (h : b ≤ a) : nI a - nI b = nI (a - b) := by
  have : nI a = nI (a - b) + nI b := by rw [nI_add, Nat.sub_add_cancel h]
  rw [this, Int32.add_sub_cancel]
/-- what filling a variable adds to its digit -/
def dlc (w : Int32 → Nat) (c : Int32) : Nat := if chV c then w c - (cn c - 78) else 0
def dlt (w : Int32 → Nat) : Nat → List Int32 → Nat
  | 0, _ => 0
  | _ + 1, [] => 0
  | n + 1, c :: cs => dlc w c * 2 ^ (7 * n) + dlt w n cs
theorem dlt_nil (w : Int32 → Nat) (n : Nat) : dlt w n [] = 0 := by cases n <;> rfl
theorem cs_fill_24 {N0 : Nat} {K : Nat → Nat} {d C P : Nat} {w : Int32 → Nat} {e : Env} {s : cS} {G : gm_H} {sz sl : Nat} {Q : Int32 → Prop} (hN : N0 ≤ C) (hP : P < 2 ^ 28) (hE : cEnv s e) : ∀ (n : Nat) (cs : List Int32) (u : Int32 → Bool) (A : Nat), n ≤ 3 → cs.length ≤ n → (∀ c ∈ cs, chP c) → (∀ c ∈ cs, chV c → u c = false ∧ ∃ x, chP x ∧ e c = some (0, [x]) ∧ w c = cn x) → (∀ j, j < n → P / 2 ^ (7 * (n - 1 - j)) % 128 = (pl u cs).getD j 0) → Q (nI (A + dlt w n cs)) → hX2_fill_24 N0 K d C (nI P) (nI A) (nI (7 * n) + (-7 : Int32)) s G sz sl Q := by
  intro n
  induction n with
  | zero =>
    intro cs u A _ _ _ _ _ q
    refine TX2_fill_24 hN ?_
    rw [if_pos m7_neg]
    exact q
  | succ n ih =>
    intro cs u A hn h1 hc hv d1 q
    have hd1 := d1 0 (by omega)
    rw [show 7 * (n + 1 - 1 - 0) = 7 * n by omega] at hd1
    have tl1 : ∀ u' cs', (∀ j, (pl u cs).getD (j + 1) 0 = (pl u' cs').getD j 0) → ∀ j, j < n → P / 2 ^ (7 * (n - 1 - j)) % 128 = (pl u' cs').getD j 0 := by
      intro u' cs' h j hj
      have := d1 (j + 1) (by omega)
      rw [show n + 1 - 1 - (j + 1) = n - 1 - j by omega, h j] at this
      exact this
    refine TX2_fill_24 hN ?_
    rw [nI_m7b n, dig hP (by omega : 7 * n < 32), if_neg (nI_pos (by omega)), hd1, show (2097151 : Int32) = nI 2097151 from rfl, nI_and, n_andPart]
    have h12 : (12 : Int32) = nI 12 := rfl
    cases cs with
    | nil =>
      have ep : (pl u []).getD 0 0 = 0 := rfl
      rw [dlt_nil] at q
      rw [ep]
      by_cases hz : nI (P % 2097152) = 0
      · rw [if_pos hz]
        exact q
      · rw [if_neg hz, if_neg (by decide)]
        refine ⟨0, rfl, by decide, ?_⟩
        rw [hE.1, show (0 : Int32) = nI 0 from rfl, show (21 : Int32) = nI 21 from rfl, nI_ush (by decide) (by decide), nI_sub (by omega), nI_shl _ (by omega), nI_add]
        have := ih [] u A (by omega) (by simp) hc hv (tl1 u [] (fun j => by rw [pl]; simp)) (by rw [dlt_nil]; exact q)
        simpa using this
    | cons c cs =>
      have hcc := hc c (by simp)
      have hpd := pD_lt (u := u) hcc
      have ep : (pl u (c :: cs)).getD 0 0 = pD u c := rfl
      rw [ep] at hd1 ⊢
      have tlp : ∀ j, (pl u (c :: cs)).getD (j + 1) 0 = (pl (uM u c) cs).getD j 0 := fun j => by rw [pl]; simp
      simp only [List.length_cons] at h1
      have hnz : ¬ nI (P % 2097152) = 0 := by
        intro z
        have z' : P % 2097152 = 0 := by
          rw [← nI_0] at z
          exact (nI_eq (by omega) (by decide)).mp z
        have : n = 0 ∨ n = 1 ∨ n = 2 := by omega
        rcases this with rfl | rfl | rfl
        · simp only [Nat.mul_zero, Nat.pow_zero, Nat.div_one] at hd1; omega
        · have e : (2 : Nat) ^ (7 * 1) = 128 := rfl
          rw [e] at hd1; omega
        · have e : (2 : Nat) ^ (7 * 2) = 16384 := rfl
          rw [e] at hd1; omega
      have hv' : ∀ c' ∈ cs, chV c' → uM u c c' = false ∧ ∃ x, chP x ∧ e c' = some (0, [x]) ∧ w c' = cn x := by
        intro c' h1 h2
        obtain ⟨a, b⟩ := hv c' (List.mem_cons_of_mem _ h1) h2
        refine ⟨?_, b⟩
        unfold uM
        rw [a]
        rfl
      rw [if_neg hnz]
      rw [dlt] at q
      by_cases hvc : chV c
      · obtain ⟨c1, c2, c3⟩ := chV_cn hvc
        obtain ⟨huc, x, hx, hex, hw⟩ := hv c (by simp) hvc
        obtain ⟨x1, x2, _⟩ := chP_cn hx
        have epd : pD u c = cn c - 78 := by unfold pD; rw [if_pos hvc, if_neg (by rw [huc]; decide)]
        rw [epd, if_neg (by rw [h12]; exact nI_nlt (by omega) (by decide))]
        refine ⟨cn c - 78, rfl, by omega, ?_⟩
        rw [(hE.var hvc hex).2, tE_k, show (21 : Int32) = nI 21 from rfl, nI_ush (by omega) (by decide), show cn x * 2097152 / 2 ^ 21 = cn x by omega, nI_sub (by omega), nI_shl _ (by omega), nI_add]
        refine ih cs (uM u c) _ (by omega) (by omega) (fun c' h => hc c' (List.mem_cons_of_mem _ h)) hv' (tl1 _ _ tlp) ?_
        have ed : dlc w c = cn x - (cn c - 78) := by unfold dlc; rw [if_pos hvc, hw]
        rw [ed] at q
        rw [Nat.add_assoc]
        exact q
      · obtain ⟨c1, c2, _⟩ := chP_cn hcc
        have epd : pD u c = cn c := by unfold pD; rw [if_neg hvc]
        rw [epd, if_pos (by rw [h12]; exact nI_lt (by omega) (by omega))]
        refine ih cs (uM u c) A (by omega) (by omega) (fun c' h => hc c' (List.mem_cons_of_mem _ h)) hv' (tl1 _ _ tlp) ?_
        have ed : dlc w c = 0 := by unfold dlc; rw [if_neg hvc]
        rw [ed, Nat.zero_mul, Nat.zero_add] at q
        exact q
theorem cq_fill0 {N0 : Nat} {K : Nat → Nat} {d C : Nat} {e : Env} {s : cS} {G : gm_H} {sz : Nat} {Q : Int32 → Prop} (hN : N0 ≤ C) (hE : cEnv s e) (q : Q 0) : kX2_fill N0 K (d + 1) C 0 s G sz Q := by
  refine kX2_fill.of (TX2_fill_0 hN ?_)
  rw [if_neg (by decide)]
  exact ⟨0, by decide, by decide, by rw [hE.1]; exact q⟩
/-- a digit of a bound term, and what fills it -/
theorem fill_digit {u : Int32 → Bool} {w : Int32 → Nat} {σ : Int32 → Tm} {c : Int32} (hc : chP c) (hu : chV c → u c = false ∧ w c = cn (ps_hc (σ c).2) ∧ 48 ≤ w c) : pD u c + dlc w c = cn (ps_hc (sC σ c).2) := by
  unfold pD dlc sC
  by_cases hv : chV c
  · obtain ⟨h1, h2, h3⟩ := hu hv
    obtain ⟨a, b, _⟩ := chV_cn hv
    rw [if_pos hv, if_neg (by rw [h1]; decide), if_pos hv, if_pos hv, ← h2]
    omega
  · rw [if_neg hv, if_neg hv, if_neg hv]
    show _ + 0 = cn (ps_hc [c])
    rfl
theorem cq_fill {N0 : Nat} {K : Nat → Nat} {d C : Nat} {p : Tm} {u : Int32 → Bool} {e : Env} {σ : Int32 → Tm} {s : cS} {G : gm_H} {sz : Nat} {Q : Int32 → Prop} (hN : N0 ≤ C) (hp : wfT p) (hE : cEnv s e) (hv : ∀ c ∈ p.2, chV c → u c = false ∧ e c = some (σ c) ∧ (p.1 ≠ 0 → (σ c).1 = 0)) (q : Q (nI (tE (sT σ p)))) : kX2_fill N0 K (d + 1) C (nI (pE u p)) s G sz Q := by
  obtain ⟨p1, p2, p3, p4, p5⟩ := hp.par
  have h12 : (12 : Int32) = nI 12 := rfl
  have h21 : (21 : Int32) = nI 21 := rfl
  have hsh : (14 : Int32) = nI (7 * 3) + (-7 : Int32) := by decide
  refine kX2_fill.of (TX2_fill_0 hN ?_)
  have b0 := pl_lt (tPar p) u 0 p1
  have b1 := pl_lt (tPar p) u 1 p1
  have b2 := pl_lt (tPar p) u 2 p1
  have etop : ∀ a, pE u p = a * 2097152 + (pl u (tPar p)).getD 0 0 * 16384 + (pl u (tPar p)).getD 1 0 * 128 + (pl u (tPar p)).getD 2 0 → a < 128 → pE u p < 2 ^ 28 ∧ pE u p / 2 ^ 21 = a ∧ (∀ j, j < 3 → pE u p / 2 ^ (7 * (3 - 1 - j)) % 128 = (pl u (tPar p)).getD j 0) := by
    intro a ea ha
    obtain ⟨z1, z2, z3, z4⟩ := dg4 (a := a) b0 b1 b2
    rw [← ea] at z1 z2 z3 z4
    refine ⟨by rw [ea]; omega, z1, fun j hj => ?_⟩
    have : j = 0 ∨ j = 1 ∨ j = 2 := by omega
    rcases this with rfl | rfl | rfl
    · exact z2
    · exact z3
    · exact z4
  by_cases h0 : p.1 = 0
  · have ep := p4 h0
    have epar : tPar p = [] := if_pos h0
    have ehc : ps_hc p.2 = tTop p := (if_pos h0).symm
    have esT : sT σ p = sC σ (tTop p) := by unfold sT; rw [if_pos h0, ehc]
    have epE : pE u p = pD u (tTop p) * 2097152 := by
      unfold pE
      rw [if_pos h0, ehc, epar]
      show _ + 0 * 16384 + 0 * 128 + 0 = _
      omega
    have hpd := pD_lt (u := u) p3
    obtain ⟨e1, e2, e3⟩ := etop (pD u (tTop p)) (by rw [epE, epar]; show _ = _ + 0 * 16384 + 0 * 128 + 0; omega) hpd.2
    rw [h21, nI_ush (by omega) (by decide), e2]
    have hmem : tTop p ∈ p.2 := by
      have : p.2 = [tTop p] := congrArg Prod.snd ep
      rw [this]
      simp
    rw [esT] at q
    by_cases hvc : chV (tTop p)
    · obtain ⟨a, b, _⟩ := chV_cn hvc
      obtain ⟨k1, k2, k3⟩ := hv _ hmem hvc
      have epd : pD u (tTop p) = cn (tTop p) - 78 := by unfold pD; rw [if_pos hvc, if_neg (by rw [k1]; decide)]
      rw [epd, if_neg (by rw [h12]; exact nI_nlt (by omega) (by decide))]
      refine ⟨cn (tTop p) - 78, rfl, by omega, ?_⟩
      rw [(hE.var hvc k2).2]
      unfold sC at q
      rw [if_pos hvc] at q
      exact q
    · obtain ⟨a, b, _⟩ := chP_cn p3
      have epd : pD u (tTop p) = cn (tTop p) := by unfold pD; rw [if_neg hvc]
      rw [epd, if_pos (by rw [h12]; exact nI_lt (by omega) (by omega)), hsh]
      unfold sC at q
      rw [if_neg hvc, tE_k] at q
      refine cs_fill_24 (w := fun _ => 0) hN e1 hE 3 (tPar p) u _ (by omega) p2 p1 (by rw [epar]; exact fun c hc => absurd hc (by simp)) e3 ?_
      rw [epar, dlt_nil, epE, epd, Nat.add_zero]
      exact q
  · obtain ⟨ep, hl, hlen⟩ := p5 h0
    have etp : tTop p = p.1 := if_neg h0
    have epar : tPar p = p.2 := if_neg h0
    obtain ⟨w1, w2, w4⟩ := chP_cn p3
    have w3 : 97 ≤ cn (tTop p) := by
      rw [w4] at hl
      exact (nI_leI (a := 97) (b := cn (tTop p)) (by decide) (by omega)).mp hl.1
    have epE : pE u p = cn (tTop p) * 2097152 + (pl u (tPar p)).getD 0 0 * 16384 + (pl u (tPar p)).getD 1 0 * 128 + (pl u (tPar p)).getD 2 0 := by
      unfold pE
      rw [if_neg h0, etp]
    obtain ⟨e1, e2, e3⟩ := etop (cn (tTop p)) epE w2
    rw [h21, nI_ush (by omega) (by decide), e2, if_pos (by rw [h12]; exact nI_lt (by omega) (by omega)), hsh]
    have hx : ∀ c ∈ tPar p, chV c → ∃ x, chP x ∧ σ c = (0, [x]) := by
      intro c hc hvc
      rw [epar] at hc
      obtain ⟨k1, k2, k3⟩ := hv c hc hvc
      have := (hE.var hvc k2).1.1.par
      exact ⟨_, this.2.2.1, this.2.2.2.1 (k3 h0)⟩
    refine cs_fill_24 (w := fun c => cn (ps_hc (σ c).2)) hN e1 hE 3 (tPar p) u _ (by omega) p2 p1 (fun c hc hvc => ?_) e3 ?_
    · obtain ⟨x, hx1, hx2⟩ := hx c hc hvc
      rw [epar] at hc
      obtain ⟨k1, k2, k3⟩ := hv c hc hvc
      refine ⟨k1, x, hx1, by rw [k2, hx2], ?_⟩
      rw [hx2]
      rfl
    · have hdig : ∀ c ∈ tPar p, ∀ u' : Int32 → Bool, (u c = false → u' c = false) → pD u' c + dlc (fun c => cn (ps_hc (σ c).2)) c = cn (ps_hc (sC σ c).2) := by
        intro c hc u' hu'
        refine fill_digit (p1 c hc) (fun hvc => ?_)
        obtain ⟨x, hx1, hx2⟩ := hx c hc hvc
        have hc' := hc
        rw [epar] at hc'
        refine ⟨hu' (hv c hc' hvc).1, rfl, ?_⟩
        rw [hx2]
        exact (chP_cn hx1).1
      have hM : ∀ (u' : Int32 → Bool) a c, u' c = false → uM u' a c = false := by
        intro u' a c h
        unfold uM
        rw [h]
        rfl
      have es : sT σ p = (p.1, p.2.map (fun c => ps_hc (sC σ c).2)) := by unfold sT; rw [if_neg h0]
      have : pE u p + dlt (fun c => cn (ps_hc (σ c).2)) 3 (tPar p) = tE (sT σ p) := by
        rw [es, tE_c h0, epE, ← epar, etp]
        match hcs : tPar p, hlen, p2 with
        | [a], _, _ =>
          have da := hdig a (by rw [hcs]; simp) u (fun z => z)
          show cn p.1 * 2097152 + pD u a * 16384 + 0 * 128 + 0 + (dlc _ a * 2 ^ 14 + 0) = cn p.1 * 2097152 + cn (ps_hc (sC σ a).2) * 16384 + 0 * 128 + 0
          omega
        | [a, b], _, _ =>
          have da := hdig a (by rw [hcs]; simp) u (fun z => z)
          have db := hdig b (by rw [hcs]; simp) (uM u a) (fun z => hM _ _ _ z)
          show cn p.1 * 2097152 + pD u a * 16384 + pD (uM u a) b * 128 + 0 + (dlc _ a * 2 ^ 14 + (dlc _ b * 2 ^ 7 + 0)) = cn p.1 * 2097152 + cn (ps_hc (sC σ a).2) * 16384 + cn (ps_hc (sC σ b).2) * 128 + 0
          omega
        | [a, b, c], _, _ =>
          have da := hdig a (by rw [hcs]; simp) u (fun z => z)
          have db := hdig b (by rw [hcs]; simp) (uM u a) (fun z => hM _ _ _ z)
          have dc := hdig c (by rw [hcs]; simp) (uM (uM u a) b) (fun z => hM _ _ _ (hM _ _ _ z))
          show cn p.1 * 2097152 + pD u a * 16384 + pD (uM u a) b * 128 + pD (uM (uM u a) b) c + (dlc _ a * 2 ^ 14 + (dlc _ b * 2 ^ 7 + (dlc _ c * 2 ^ 0 + 0))) = cn p.1 * 2097152 + cn (ps_hc (sC σ a).2) * 16384 + cn (ps_hc (sC σ b).2) * 128 + cn (ps_hc (sC σ c).2)
          omega
      rw [this]
      exact q
