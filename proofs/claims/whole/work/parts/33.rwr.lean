/-! the reference's write: the bytes are looked through -/
abbrev wGood (b : Int32) : Prop := b = 0 ∨ (32 ≤ b ∧ b ≤ 126)
/-- how many of the bytes below j are not 0 -/
def wCnt (y : Int64) : Nat → Nat
  | 0 => 0
  | j + 1 => wCnt y j + (if wbR y (nI j) = 0 then 0 else 1)
theorem nI_m1 {j : Nat} (h : j < 8) : nI (j + 1) + (-1 : Int32) = nI j := by
  have : ∀ j : Fin 8, nI (j.1 + 1) + (-1 : Int32) = nI j.1 := by decide +kernel
  exact this ⟨j, h⟩
theorem rw_l1 {N0 : Nat} {K : Nat → Nat} {d B : Nat} {s : mS} {G : gm_H} {sz sl : Nat} {R : gm_R} {y : Int64} (hN : N0 ≤ B) : ∀ (j c : Nat), j ≤ 8 →
    ((∃ k, k < j ∧ ¬ wGood (wbR y (nI k))) → R = (.returned (some (.int 0)), bM B (mH B s) G, sz, sl)) →
    ((∀ k, k < j → wGood (wbR y (nI k))) → gm_ev N0 K ra_nm (ra_mt K) d (some .boolean) (gm_I cX12_write) (gm_lkf (lkX12 false K)) 11 [some (.ref B), some (.long y), none, some (.int (nI (c + wCnt y j))), some (.int (-1 : Int32)), none] [] (bM B (mH B s) G) sz sl R) →
    gm_ev N0 K ra_nm (ra_mt K) d (some .boolean) (gm_I cX12_write) (gm_lkf (lkX12 false K)) 11 [some (.ref B), some (.long y), none, some (.int (nI c)), some (.int (nI j + (-1 : Int32))), none] [] (bM B (mH B s) G) sz sl R := by
  intro j
  induction j with
  | zero =>
    intro c _ _ h2
    have h := h2 (fun k hk => absurd hk (Nat.not_lt_zero k))
    rw [show nI 0 + (-1 : Int32) = -1 by decide +kernel]
    exact h
  | succ j ih =>
    intro c hj h1 h2
    rw [nI_m1 (by omega)]
    have hp : ¬ nI j < 0 := nI_pos (by omega)
    by_cases hb : wbR y (nI j) = 0
    · refine r_write_11_ftf_at11 hN hp hb hb (ih c (by omega) (fun ⟨k, hk, hg⟩ => h1 ⟨k, by omega, hg⟩) (fun hg => ?_))
      have h3 := h2 (fun k hk => by
        rcases Nat.lt_succ_iff_lt_or_eq.mp hk with q | q
        · exact hg k q
        · rw [q]; exact Or.inl hb)
      rw [wCnt, if_pos hb, Nat.add_zero] at h3
      exact h3
    · by_cases hl : wbR y (nI j) < 32
      · rw [h1 ⟨j, by omega, fun q => q.elim hb (fun q => absurd q.1 (Int32.not_le.mpr hl))⟩]
        exact r_write_11_fft hN hp hb hl
      · by_cases hu : wbR y (nI j) ≤ 126
        · refine r_write_11_ffftt_at11 hN hp hb hl hu hb ?_
          have h4 := ih (c + 1) (by omega) (fun ⟨k, hk, hg⟩ => h1 ⟨k, by omega, hg⟩) (fun hg => by
            have h3 := h2 (fun k hk => by
              rcases Nat.lt_succ_iff_lt_or_eq.mp hk with q | q
              · exact hg k q
              · rw [q]; exact Or.inr ⟨Int32.not_lt.mp hl, hu⟩)
            rw [wCnt, if_neg hb, Nat.add_comm (wCnt y j) 1, ← Nat.add_assoc] at h3
            exact h3)
          rw [← nI_1] at h4
          exact h4
        · rw [h1 ⟨j, by omega, fun q => q.elim hb (fun q => hu q.2)⟩]
          exact r_write_11_ffff hN hp hb hl hu
