/-! the class's write -/
theorem nI_m8 {j : Nat} (h : j < 8) : nI (8 * (j + 1)) + (-8 : Int32) = nI (8 * j) := by
  have : ∀ j : Fin 8, nI (8 * (j.1 + 1)) + (-8 : Int32) = nI (8 * j.1) := by decide +kernel
  exact this ⟨j, h⟩
theorem wbC_R {y : Int64} {j : Nat} (h : j < 8) : wbC y (nI (8 * j)) = wbR y (nI j) := (wb_eq y ⟨j, h⟩).symm
theorem cw_l1 {N0 : Nat} {K : Nat → Nat} {d C : Nat} {s : cS} {G : gm_H} {sz sl : Nat} {R : gm_R} {y : Int64} (hN : N0 ≤ C) : ∀ (j c : Nat), j ≤ 8 →
    ((∃ k, k < j ∧ ¬ wGood (wbR y (nI k))) → R = (.returned (some (.int 0)), bM C (cH C s) G, sz, sl)) →
    ((∀ k, k < j → wGood (wbR y (nI k))) → gm_ev N0 K ra_nm (ra_mt K) d (some .boolean) (gm_I cX11_write) (gm_lkf (lkX11 false K)) 6 [some (.ref C), some (.long y), none, some (.int (nI (c + wCnt y j))), some (.int (-8 : Int32)), none] [] (bM C (cH C s) G) sz sl R) →
    gm_ev N0 K ra_nm (ra_mt K) d (some .boolean) (gm_I cX11_write) (gm_lkf (lkX11 false K)) 6 [some (.ref C), some (.long y), none, some (.int (nI c)), some (.int (nI (8 * j) + (-8 : Int32))), none] [] (bM C (cH C s) G) sz sl R := by
  intro j
  induction j with
  | zero =>
    intro c _ _ h2
    have h := h2 (fun k hk => absurd hk (Nat.not_lt_zero k))
    rw [show nI (8 * 0) + (-8 : Int32) = -8 by decide +kernel]
    exact h
  | succ j ih =>
    intro c hj h1 h2
    rw [nI_m8 (by omega)]
    have hp : ¬ nI (8 * j) < 0 := nI_pos (by omega)
    have hbb := wbC_R (y := y) (show j < 8 by omega)
    by_cases hb : wbR y (nI j) = 0
    · have hb2 := hbb.trans hb
      refine t_X11_write_6_ftt_at6 hN hp hb2 hb2 ?_
      have h4 := ih c (by omega) (fun ⟨k, hk, hg⟩ => h1 ⟨k, by omega, hg⟩) (fun hg => by
        have h3 := h2 (fun k hk => by
          rcases Nat.lt_succ_iff_lt_or_eq.mp hk with q | q
          · exact hg k q
          · rw [q]; exact Or.inl hb)
        rw [wCnt, if_pos hb, Nat.add_zero] at h3
        exact h3)
      rw [show nI c + (0 : Int32) = nI c from Int32.add_zero _]
      exact h4
    · have hb2 : ¬ wbC y (nI (8 * j)) = 0 := fun q => hb (hbb.symm.trans q)
      by_cases hl : wbR y (nI j) < 32
      · rw [h1 ⟨j, by omega, fun q => q.elim hb (fun q => absurd q.1 (Int32.not_le.mpr hl))⟩]
        exact t_X11_write_6_fft hN hp hb2 (by rw [← hbb] at hl; exact hl)
      · have hl2 : ¬ wbC y (nI (8 * j)) < 32 := by rw [hbb]; exact hl
        by_cases hu : wbR y (nI j) ≤ 126
        · refine t_X11_write_6_ffftf_at6 hN hp hb2 hl2 (by rw [← hbb] at hu; exact hu) hb2 ?_
          have h4 := ih (c + 1) (by omega) (fun ⟨k, hk, hg⟩ => h1 ⟨k, by omega, hg⟩) (fun hg => by
            have h3 := h2 (fun k hk => by
              rcases Nat.lt_succ_iff_lt_or_eq.mp hk with q | q
              · exact hg k q
              · rw [q]; exact Or.inr ⟨Int32.not_lt.mp hl, hu⟩)
            rw [wCnt, if_neg hb, Nat.add_comm (wCnt y j) 1, ← Nat.add_assoc] at h3
            exact h3)
          rw [← nI_1] at h4
          exact h4
        · rw [h1 ⟨j, by omega, fun q => q.elim hb (fun q => hu q.2)⟩]
          exact t_X11_write_6_ffff hN hp hb2 hl2 (by rw [← hbb] at hu; exact hu)
