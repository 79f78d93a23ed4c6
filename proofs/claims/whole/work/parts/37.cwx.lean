/-! the class's write, whole -/
theorem cs_write_no {s : cS} {G : gm_H} {C t : Nat} {y : Int64} (ht : s.1 1 = nI t) (ht2 : t ≤ 240) (h : (∃ k, k < 8 ∧ ¬ wGood (wbR y (nI k))) ∨ 240 < t + wCnt y 8) (hc8 : wCnt y 8 ≤ 8) {N0 : Nat} {K : Nat → Nat} {sz : Nat} (hN : N0 ≤ C) : gm_ev N0 K ra_nm (ra_mt K) 0 (some .boolean) (gm_I cX11_write) (gm_lkf (lkX11 false K)) 0 [some (.ref C), some (.long y), none, none, none, none] [] (bM C (cH C s) G) sz 0 (.returned (some (.int 0)), bM C (cH C s) G, sz, 0) := by
  refine t_X11_write_0__at6 hN ?_
  exact cw_l1 (N0 := N0) (K := K) (d := 0) (C := C) (s := s) (G := G) (sz := sz) (sl := 0) (R := (.returned (some (.int 0)), bM C (cH C s) G, sz, 0)) (y := y) hN 8 0 (Nat.le_refl 8) (fun _ => rfl) (fun hg => by
    rcases h with ⟨k, hk, hn⟩ | h
    · exact absurd (hg k hk) hn
    · refine t_X11_write_6_tf hN (by decide) ?_
      show ¬ s.1 1 + nI (0 + wCnt y 8) ≤ 240
      rw [ht, Nat.zero_add, nI_add, show (240 : Int32) = nI 240 by decide +kernel]
      exact nI_ge h (by omega))
theorem cs_write_yes {s : cS} {G : gm_H} {C t : Nat} {y : Int64} (ht : s.1 1 = nI t) (h : ∀ k, k < 8 → wGood (wbR y (nI k))) (h2 : t + wCnt y 8 ≤ 240) {N0 : Nat} {K : Nat → Nat} {sz : Nat} (hN : N0 ≤ C) : gm_ev N0 K ra_nm (ra_mt K) 0 (some .boolean) (gm_I cX11_write) (gm_lkf (lkX11 false K)) 0 [some (.ref C), some (.long y), none, none, none, none] [] (bM C (cH C s) G) sz 0 (.returned (some (.int 1)), bM C (cH C (cI (cA s 1 (wApp y 8 (s.2.1 1) t).1) 1 (nI (wApp y 8 (s.2.1 1) t).2))) G, sz, 0) := by
  refine t_X11_write_0__at6 hN ?_
  refine cw_l1 (N0 := N0) (K := K) (d := 0) (C := C) (s := s) (G := G) (sz := sz) (sl := 0) (y := y) hN 8 0 (Nat.le_refl 8) (fun ⟨k, hk, hn⟩ => absurd (h k hk) hn) (fun _ => ?_)
  refine t_X11_write_6_tt_at80 hN (by decide) ?_ ?_
  · show s.1 1 + nI (0 + wCnt y 8) ≤ 240
    rw [ht, Nat.zero_add, nI_add, show (240 : Int32) = nI 240 by decide +kernel]
    exact nI_le h2 (by decide)
  · have e : s = cI (cA s 1 (s.2.1 1)) 1 (nI t) := cIA_id ht
    have key := cw_l2 (N0 := N0) (K := K) (d := 0) (C := C) (s := s) (G := G) (sz := sz) (sl := 0) hN h 8 (s.2.1 1) t (Nat.le_refl 8) h2
    rw [← e] at key
    exact key
