/-! constructors: Audit's loop, RuleArena -/
def cS0 : cS := (fun _ => 0, fun _ _ => 0, fun _ => none)
def fTq (B k : Nat) : Nat → Option Nat := fun j => if j < k then some (B + 34 + 2 * j) else none
theorem fTq_0 (B : Nat) : fTq B 0 = fun _ => none := funext (fun _ => if_neg (Nat.not_lt_zero _))
theorem fTq_up (B k : Nat) : va_up (fTq B k) k (some (B + 34 + 2 * k)) = fTq B (k + 1) := by
  funext j
  unfold va_up fTq
  by_cases h : j = k
  · rw [if_pos h, if_pos (by omega), h]
  · rw [if_neg h]
    by_cases h2 : j < k
    · rw [if_pos h2, if_pos (by omega)]
    · rw [if_neg h2, if_neg (by omega)]
def aTs (G : gm_H) (B k : Nat) : Prop := ∀ j, j < k → G (B + 34 + 2 * j) = some (.inr (9, [.ref (B + 35 + 2 * j), .int 0])) ∧ G (B + 35 + 2 * j) = some (iarr 24 (fun _ => 0))
theorem bd_bM {B : Nat} {E : List gm_E} {G : gm_H} {sz : Nat} (h : gm_bd G sz) (hl : B + E.length ≤ sz) : gm_bd (bM B E G) sz := fun a x ha => by
  by_cases hb : B ≤ a ∧ a < B + E.length
  · omega
  · rw [bM_out hb] at ha
    exact h a x ha
theorem bM_newG {B : Nat} {E : List gm_E} {G : gm_H} {q : Nat} {x : gm_E} (h : B + E.length ≤ q) : gm_new (bM B E G) q x = bM B E (gm_new G q x) := bM_setG (by omega)
theorem cE0_len (B : Nat) (f : Nat → Option Nat) : (cE0 B f).length = 34 := rfl
theorem ct_init {N0 : Nat} {K : Nat → Nat} {d S : Nat} {M : gm_H} (hN : N0 ≤ S) (hbd : gm_bd M (S + 1)) (hS : M S = some (.inr (9, [.null, .int 0]))) : gm_to N0 K ra_nm (ra_mt K) (d + 2) 94 [.ref S, .int 24] M (S + 1) (.returned none, gm_set (gm_new M (S + 1) (iarr 24 (fun _ => 0))) S (.inr (9, [.ref (S + 1), .int 0])), S + 2, 24) := by
  refine gm_to.of (ls := [some (.ref S), some (.int 24)]) rfl (by decide) (Nat.le_of_ble_eq_true rfl) rfl ?_
  have h := c_X10_init_0_ (N0 := N0) (K := K) (d := d + 1) (M := M) (sz := S + 1) (sl := 0) (q := S) (p0 := 24) (m2 := 24) (fso9 := [.null, .int 0]) (by omega) rfl (by decide) hbd ((gm_set_ne (by omega)).trans hS) hN (by decide)
  exact h
theorem ca_loop {N0 : Nat} {K : Nat → Nat} {d B : Nat} {G0 : gm_H} (hN : N0 ≤ B) : ∀ (n k : Nat) (G : gm_H) (sl : Nat), k + n = 60 → gm_bd G (B + 34 + 2 * k) → (∀ a, a < B + 34 → G a = G0 a) → aTs G B k → ∃ G', gm_bd G' (B + 154) ∧ (∀ a, a < B + 34 → G' a = G0 a) ∧ aTs G' B 60 ∧ gm_ev N0 K ra_nm (ra_mt K) (d + 2) none (gm_I cX0_init) (gm_lkf (lkX0 true K)) 40 [some (.ref (B + 29)), some (.int (nI k))] [] (bM B (cE0 B (fTq B k)) G) (B + 34 + 2 * k) sl (.returned none, bM B (cE0 B (fTq B 60)) G', B + 154, sl + 26 * n) := by
  intro n
  induction n with
  | zero =>
    intro k G sl hk hbd hlo ha
    have e : k = 60 := by omega
    subst e
    have e2 : B + 34 + 2 * 60 = B + 154 := by omega
    rw [e2] at hbd ⊢
    refine ⟨G, hbd, hlo, ha, ?_⟩
    refine gm_ev.iload_n i10_40 rfl ?_
    refine gm_ev.bipush (v := 60) i10_41 (by decide) ?_
    refine gm_ev.icmp_ge_t (tgt := 67) i10_43 (by decide) (by decide) ?_
    exact gm_ev.vret i10_67 rfl
  | succ n ih =>
    intro k G sl hk hbd hlo ha
    obtain ⟨S, hS⟩ : ∃ S, S = B + 34 + 2 * k := ⟨_, rfl⟩
    obtain ⟨G1, h1⟩ : ∃ G1, G1 = gm_new G S (.inr (9, [.null, .int 0])) := ⟨_, rfl⟩
    obtain ⟨G2, h2⟩ : ∃ G2, G2 = gm_set (gm_new G1 (S + 1) (iarr 24 (fun _ => 0))) S (.inr (9, [.ref (S + 1), .int 0])) := ⟨_, rfl⟩
    rw [← hS] at hbd
    have b1 : gm_bd G1 (S + 1) := by rw [h1]; exact hbd.new
    have g1S : G1 S = some (.inr (9, [.null, .int 0])) := by rw [h1]; exact gm_set_eq
    have g2S : G2 S = some (.inr (9, [.ref (S + 1), .int 0])) := by rw [h2]; exact gm_set_eq
    have g2T : G2 (S + 1) = some (iarr 24 (fun _ => 0)) := by
      rw [h2]
      exact (gm_set_ne (by omega)).trans gm_set_eq
    have g2o : ∀ a, a ≠ S → a ≠ S + 1 → G2 a = G a := by
      intro a x y
      rw [h2]
      refine (gm_set_ne x).trans ((gm_set_ne y).trans ?_)
      rw [h1]
      exact gm_set_ne x
    have b2 : gm_bd G2 (S + 2) := by
      rw [h2]
      exact (b1.new).set ((gm_set_ne (by omega)).trans g1S)
    have eS : B + 34 + 2 * (k + 1) = S + 2 := by omega
    obtain ⟨G', c1, c2, c3, c4⟩ := ih (k + 1) G2 (sl + 26) (by omega) (by rw [eS]; exact b2) (fun a h => (g2o a (by omega) (by omega)).trans (hlo a h)) (fun j hj => by
      by_cases e : j = k
      · subst e
        rw [← hS, show B + 35 + 2 * j = S + 1 by omega]
        exact ⟨g2S, g2T⟩
      · obtain ⟨x, y⟩ := ha j (by omega)
        exact ⟨(g2o _ (by omega) (by omega)).trans x, (g2o _ (by omega) (by omega)).trans y⟩)
    refine ⟨G', c1, c2, c3, ?_⟩
    rw [← hS]
    refine gm_ev.iload_n i10_40 rfl ?_
    refine gm_ev.bipush (v := 60) i10_41 (by decide) ?_
    refine gm_ev.icmp_ge_f i10_43 (show ¬ nI 60 ≤ nI k from nI_ge (by omega) (by omega)) ?_
    refine gm_ev.aload_n i10_46 rfl ?_
    refine gm_ev.getfield (v := .ref (B + 30)) i10_47 rfl (bM_fld (j := 29) rfl rfl) ?_
    refine gm_ev.iload_n i10_50 rfl ?_
    refine gm_ev.new i10_51 rfl ?_
    rw [bM_newG (by rw [cE0_len]; omega), ← h1]
    refine gm_ev.dup i10_54 rfl ?_
    refine gm_ev.bipush (v := 24) i10_55 (by decide) ?_
    have ct := ct_init (N0 := N0) (K := K) (d := d) (S := S) (M := bM B (cE0 B (fTq B k)) G1) (by omega) (bd_bM b1 (by rw [cE0_len]; omega)) ((bM_out (by rw [cE0_len]; omega)).trans g1S)
    rw [bM_newG (by rw [cE0_len]; omega), bM_setG (by rw [cE0_len]; omega), ← h2] at ct
    refine gm_ev.callI gm_mono_run (av := [.int 24]) (r := [.ref S, .int (nI k), .ref (B + 30)]) i10_57 rfl rfl rfl (Nat.le_of_ble_eq_true rfl) ct ?_
    refine gm_ev.aastore (M' := bM B (cE0 B (fTq B (k + 1))) G2) (a := B + 30) (b := S) (j := nI k) i10_60 ?_ ?_
    · rw [gm_astq_of (C := "RuleArena$Terms") (n := 60) (k := k) (f := fTq B k) (ci := 9) (fs := [.ref (S + 1), .int 0]) (bM_get (j := 30) rfl) rfl (by omega) (by decide) (by omega) ((bM_out (by rw [cE0_len]; omega)).trans g2S) rfl, bM_set (j := 30) rfl, hS, fTq_up]
      rfl
    refine gm_ev.iinc (v := nI (k + 1)) (ls' := [some (.ref (B + 29)), some (.int (nI (k + 1)))]) i10_61 rfl (nI_1 k) rfl ?_
    refine gm_ev.goto (tgt := 40) i10_64 (by decide) ?_
    rw [eS, show sl + 26 + 26 * n = sl + 26 * (n + 1) by omega] at c4
    exact c4
theorem cn_audit {N0 : Nat} {K : Nat → Nat} {d B : Nat} {G : gm_H} (hN : N0 ≤ B) (hbd : gm_bd G B) : ∃ G', gm_bd G' (B + 154) ∧ (∀ a, a < B + 34 → G' a = G a) ∧ aTs G' B 60 ∧ gm_to N0 K ra_nm (ra_mt K) (d + 3) 10 [.ref (B + 29)] (bM B (cE1 B) G) (B + 30) (.returned none, bM B (cE0 B (fTq B 60)) G', B + 154, 5340) := by
  obtain ⟨G', c1, c2, c3, c4⟩ := ca_loop (N0 := N0) (K := K) (d := d) (B := B) (G0 := G) hN 60 0 G 3780 rfl (bd_le hbd (by omega)) (fun _ _ => rfl) (fun j hj => absurd hj (Nat.not_lt_zero _))
  refine ⟨G', c1, c2, c3, gm_to.of (ls := [some (.ref (B + 29)), none]) rfl (by decide) (Nat.le_of_ble_eq_true rfl) rfl (ca_first (by omega) hN ?_)⟩
  rw [fTq_0] at c4
  exact c4
theorem cn_new {N0 : Nat} {K : Nat → Nat} {d B : Nat} {G : gm_H} (hN : N0 ≤ B) (hbd : gm_bd G B) : ∃ G', gm_bd G' (B + 154) ∧ (∀ a, a < B + 34 → G' a = G a) ∧ aTs G' B 60 ∧ gm_to N0 K ra_nm (ra_mt K) (d + 5) 102 [.ref B] (gm_new G B (.inr (10, [.null, .int 0, .int 0, .int 0, .null, .null, .null]))) (B + 1) (.returned none, bM B (cH B cS0) G', B + 154, 7829) := by
  obtain ⟨G', c1, c2, c3, c4⟩ := cn_audit (N0 := N0) (K := K) (d := d + 1) (B := B) (G := G) hN hbd
  refine ⟨G', c1, c2, c3, ?_⟩
  rw [bM_one]
  refine gm_to.of (ls := [some (.ref B)]) rfl (by decide) (Nat.le_of_ble_eq_true rfl) rfl (cn_first (by omega) hN ?_)
  refine gm_ev.callI gm_mono_run (av := []) (r := [.ref (B + 29), .ref B]) i102_40 rfl rfl rfl (Nat.le_of_ble_eq_true rfl) c4 ?_
  refine gm_ev.putfield (M' := bM B (cH B cS0) G') i102_43 rfl (bM_put (j := 0) rfl (Nat.le_of_ble_eq_true rfl) hN (gm_fit_l _ _) rfl) ?_
  refine gm_ev.aload_n i102_46 rfl ?_
  refine gm_ev.iconst (v := 0) i102_47 (by decide) ?_
  refine gm_ev.putfield (M' := bM B (cH B cS0) G') i102_48 rfl (bM_put (j := 0) rfl (Nat.le_of_ble_eq_true rfl) hN (gm_fit_i _) rfl) ?_
  exact gm_ev.vret i102_51 rfl
