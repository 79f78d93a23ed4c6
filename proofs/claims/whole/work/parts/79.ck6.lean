/-! the law, whole -/
theorem v15 {v : Int32} (h0 : v ≠ 0) (h1 : v ≠ 1) (h2 : v ≠ 2) (h3 : v ≠ 3) (h4 : v ≠ 4) (h5 : v ≠ 5) (h6 : v ≠ 6) (h7 : v ≠ 7) (h8 : v ≠ 8) (h9 : v ≠ 9) (h10 : v ≠ 10) (h11 : v ≠ 11) (h12 : v ≠ 12) (h13 : v ≠ 13) (h14 : v ≠ 14) : v.toInt < 0 ∨ 14 < v.toInt := by
  by_cases hp : v < 0
  · left
    exact Int32.lt_iff_toInt_lt.mp hp
  · by_cases hp2 : v ≤ 14
    · exfalso
      obtain ⟨j, hj, e⟩ := nI_of2 (M := 14) (n := 14) rfl hp hp2
      have : j = 0 ∨ j = 1 ∨ j = 2 ∨ j = 3 ∨ j = 4 ∨ j = 5 ∨ j = 6 ∨ j = 7 ∨ j = 8 ∨ j = 9 ∨ j = 10 ∨ j = 11 ∨ j = 12 ∨ j = 13 ∨ j = 14 := by omega
      rcases this with rfl | rfl | rfl | rfl | rfl | rfl | rfl | rfl | rfl | rfl | rfl | rfl | rfl | rfl | rfl
      · exact h0 e
      · exact h1 e
      · exact h2 e
      · exact h3 e
      · exact h4 e
      · exact h5 e
      · exact h6 e
      · exact h7 e
      · exact h8 e
      · exact h9 e
      · exact h10 e
      · exact h11 e
      · exact h12 e
      · exact h13 e
      · exact h14 e
    · right
      exact Int32.lt_iff_toInt_lt.mp (Int32.not_le.mp hp2)
theorem lw_step {N0 : Nat} {K : Nat → Nat} {C b L i : Nat} {xs : Nat → Int32} {s : cS} {G : gm_H} {sz : Nat} {m : mS} (hN : N0 ≤ C) (hL : L ≤ 2048) (h : LV K C b L xs s G sz m) (hi : 4 * i + 4 ≤ L) : stp N0 K C b L i xs s G sz := by
  by_cases c0 : (xs (4 * i) &&& (15 : Int32)) = 0
  · exact ls_write hN hL h hi c0
  by_cases c1 : (xs (4 * i) &&& (15 : Int32)) = 1
  · exact ls_wipe hN hL h hi c1
  by_cases c2 : (xs (4 * i) &&& (15 : Int32)) = 2
  · exact ls_load hN hL h hi c2
  by_cases c3 : (xs (4 * i) &&& (15 : Int32)) = 3
  · exact ls_fault hN hL h hi c3
  by_cases c4 : (xs (4 * i) &&& (15 : Int32)) = 4
  · exact ls_many hN hL h hi c4
  by_cases c5 : (xs (4 * i) &&& (15 : Int32)) = 5
  · exact ls_facts hN hL h hi c5
  by_cases c6 : (xs (4 * i) &&& (15 : Int32)) = 6
  · exact ls_moves hN hL h hi c6
  by_cases c7 : (xs (4 * i) &&& (15 : Int32)) = 7
  · exact ls_over hN hL h hi c7
  by_cases c8 : (xs (4 * i) &&& (15 : Int32)) = 8
  · exact ls_goal hN hL h hi c8
  by_cases c9 : (xs (4 * i) &&& (15 : Int32)) = 9
  · exact ls_letter hN hL h hi c9
  by_cases c10 : (xs (4 * i) &&& (15 : Int32)) = 10
  · exact ls_play hN hL h hi c10
  by_cases c11 : (xs (4 * i) &&& (15 : Int32)) = 11
  · exact ls_restart hN hL h hi c11
  by_cases c12 : (xs (4 * i) &&& (15 : Int32)) = 12
  · exact ls_audit hN hL h hi c12
  by_cases c13 : (xs (4 * i) &&& (15 : Int32)) = 13
  · exact ls_worth hN hL h hi c13
  by_cases c14 : (xs (4 * i) &&& (15 : Int32)) = 14
  · exact ls_best hN hL h hi c14
  exact ls_none hN hL h hi (v15 c0 c1 c2 c3 c4 c5 c6 c7 c8 c9 c10 c11 c12 c13 c14)
theorem lw_end {L i : Nat} (hL : L ≤ 2048) (h4 : 4 * i ≤ L) (hi : L < 4 * i + 4) : ((nI L) - (4 : Int32)) < nI (4 * i) := by
  by_cases h : 4 ≤ L
  · rw [show (4 : Int32) = nI 4 from rfl, nI_sub h]
    exact Int32.not_le.mp (nI_ge (by omega) (by omega))
  · have e : i = 0 := by omega
    subst e
    have : L = 0 ∨ L = 1 ∨ L = 2 ∨ L = 3 := by omega
    rcases this with rfl | rfl | rfl | rfl <;> decide
theorem lw_loop {N0 : Nat} {K : Nat → Nat} {C b L : Nat} {xs : Nat → Int32} (hN : N0 ≤ C) (hL : L ≤ 2048) : ∀ (n i : Nat) (s : cS) (G : gm_H) (sz : Nat) (m : mS) (sl : Nat), L < 4 * i + 4 + 4 * n → 4 * i ≤ L → LV K C b L xs s G sz m → ∃ M' sz' dd, lwEV N0 K b C (4 * i) (bM C (cH C s) G) sz sl (.returned (some (.int 1)), M', sz', dd) ∧ sz' ≤ sz + 400 * n ∧ dd ≤ sl + 3000 * n := by
  intro n
  induction n with
  | zero =>
    intro i s G sz m sl hn h4 h
    exact ⟨_, _, _, w_L_law_23_t h.scr (by omega) (lw_end hL h4 (by omega)), Nat.le_refl _, Nat.le_refl _⟩
  | succ n ih =>
    intro i s G sz m sl hn h4 h
    by_cases hi : 4 * i + 4 ≤ L
    · obtain ⟨s', G', m', sz', dd, v, hz, hd, k⟩ := lw_step hN hL h hi
      obtain ⟨M', sz2, dd2, e, a1, a2⟩ := ih (i + 1) s' G' sz' m' (sl + dd) (by omega) (by omega) v
      exact ⟨M', sz2, dd2, k sl _ e, by omega, by omega⟩
    · exact ⟨_, _, _, w_L_law_23_t h.scr (by omega) (lw_end hL h4 (by omega)), Nat.le_add_right _ _, Nat.le_add_right _ _⟩
theorem cF_nil : cFacts cS0 [] := ⟨rfl, by decide, fun i f h => by simp at h, fun r _ => ⟨rfl, rfl⟩, fun h _ => rfl⟩
theorem IV.new {K : Nat → Nat} {C : Nat} {G : gm_H} (hK : K 0 < C) (hG : G (K 0) = some (.inl (gm_scr, 8, .inl c_kt))) (hbd : gm_bd G (C + 185)) (ha : aTs G C 60) : IV K C cS0 G (C + 185) mS0 := by
  refine ⟨⟨⟨hK, hG, hbd, Nat.le_refl _⟩, ⟨[], ⟨by decide, fun x hx => by simp at hx⟩, rfl, rfl, fun k hk => absurd hk (Nat.not_lt_zero _)⟩, ⟨rfl, rfl⟩, ⟨[], fun j hj => ?_⟩, fun _ => rfl⟩, Or.inl ⟨rfl, rfl, rfl, rfl, rfl, rfl, rfl, ⟨[], cF_nil⟩, rfl⟩⟩
  obtain ⟨x, y⟩ := ha j hj
  exact ⟨0, fun _ => 0, x, y, fun T hT => by simp at hT⟩
theorem ra_is : ra_pure := by
  intro N0 b L xs K M hL hb hK hbd
  have hbN := hbd b _ hb
  have hKN := hbd (K 0) _ hK
  obtain ⟨G1, b1, l1, a1, t1⟩ := cn_new (N0 := N0) (K := K) (d := 0) (B := N0) (G := M) (Nat.le_refl _) hbd
  have t2 := ri_init (N0 := N0) (K := K) (d := 0) (B := N0 + 154) (G := bM N0 (cH N0 cS0) G1) (by omega)
  rw [bM_comm (by rw [cH_len]; omega), show N0 + 154 + 30 = N0 + 184 by omega] at t2
  obtain ⟨G2, h2⟩ : ∃ G2, G2 = bM (N0 + 154) (mH (N0 + 154) mS0) G1 := ⟨_, rfl⟩
  rw [← h2] at t2
  obtain ⟨G3, h3⟩ : ∃ G3, G3 = gm_new G2 (N0 + 184) (.inl (.long, 1, .inr (.inl (fun _ => 0)))) := ⟨_, rfl⟩
  have b2 : gm_bd G2 (N0 + 184) := by
    rw [h2]
    exact bd_bM (bd_le b1 (by omega)) (by rw [mH_len]; omega)
  have g3 : ∀ a, a ≠ N0 + 184 → G3 a = G2 a := by
    intro a ha
    rw [h3]
    exact gm_set_ne ha
  have g2 : ∀ a, ¬ (N0 + 154 ≤ a ∧ a < N0 + 184) → G2 a = G1 a := by
    intro a ha
    rw [h2]
    exact bM_out (by rw [mH_len]; omega)
  have lo : ∀ a, a < N0 → G3 a = M a := fun a ha => (g3 a (by omega)).trans ((g2 a (by omega)).trans (l1 a (by omega)))
  have iv : IV K N0 cS0 G3 (N0 + 185) mS0 := by
    refine IV.new hKN ((lo _ hKN).trans hK) (by rw [h3]; exact b2.new) (fun j hj => ?_)
    obtain ⟨x, y⟩ := a1 j hj
    exact ⟨(g3 _ (by omega)).trans ((g2 _ (by omega)).trans x), (g3 _ (by omega)).trans ((g2 _ (by omega)).trans y)⟩
  have lv : LV K N0 b L xs cS0 G3 (N0 + 185) mS0 := by
    refine ⟨fun j hj => ?_, ⟨fun _ => 0, by rw [h3]; exact gm_set_eq⟩, ⟨hbN, (lo b hbN).trans hb⟩, iv⟩
    rw [g3 _ (by omega), h2]
    unfold bM
    rw [if_pos (by rw [mH_len]; omega), show N0 + 154 + j - (N0 + 154) = j by omega]
  obtain ⟨M', sz', dd, e, q1, q2⟩ := lw_loop (N0 := N0) (Nat.le_refl N0) hL 512 0 cS0 G3 (N0 + 185) mS0 27806 (by omega) (by omega) lv
  refine ⟨M', sz', dd, ?_, by omega, by omega⟩
  rw [h3] at e
  have e' := e
  unfold lwEV at e'
  rw [show nI (4 * 0) = (0 : Int32) from rfl, ← bM_newG (by rw [cH_len]; omega)] at e'
  exact w_L_law_0__at23 hbd (toL t1 (by decide) rfl) (bd_bM b1 (by rw [cH_len]; omega)) (toL t2 (by decide) rfl) (bd_bM b2 (by rw [cH_len]; omega)) e'
theorem i_vc : Claimed_1_1 ∧ Claimed_1_2 := ra_vc ra_is
