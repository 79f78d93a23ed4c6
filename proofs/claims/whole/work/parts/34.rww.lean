/-! .. and appended -/
theorem mIA_norm {s : mS} {f g : Nat → Int32} {a b : Int32} {k l : Nat} : mI (mA (mI (mA s k f) l a) k g) l b = mI (mA s k g) l b := by
  unfold mI mA
  refine Prod.ext (funext fun j => ?_) (Prod.ext (funext fun j => ?_) rfl)
  · dsimp only
    by_cases h : j = l
    · rw [if_pos h, if_pos h]
    · rw [if_neg h, if_neg h, if_neg h]
  · dsimp only
    by_cases h : j = k
    · rw [if_pos h, if_pos h]
    · rw [if_neg h, if_neg h, if_neg h]
theorem wGood_nar {b : Int32} (h : wGood b) : vp_nar .char ((b.toUInt32 % 65536).toInt32) = b := by
  have key : ∀ n : Fin 127, vp_nar .char (((Int32.ofNat n.1).toUInt32 % 65536).toInt32) = Int32.ofNat n.1 := by decide +kernel
  have hz : (0 : Int) ≤ b.toInt ∧ b.toInt ≤ 126 := by
    rcases h with rfl | ⟨h1, h2⟩
    · decide
    · have a1 := Int32.le_iff_toInt_le.mp h1
      have a2 := Int32.le_iff_toInt_le.mp h2
      have e1 : (32 : Int32).toInt = 32 := by decide
      have e2 : (126 : Int32).toInt = 126 := by decide
      omega
  have he : b = Int32.ofNat b.toInt.toNat := by
    apply Int32.toInt_inj.mp
    rw [Int32.toInt_ofNat_of_lt (by omega)]
    omega
  rw [he]
  exact key ⟨b.toInt.toNat, by omega⟩
/-- the bytes below j, the highest first, behind t characters -/
def wApp (y : Int64) : Nat → (Nat → Int32) → Nat → (Nat → Int32) × Nat
  | 0, f, t => (f, t)
  | j + 1, f, t => if wbR y (nI j) = 0 then wApp y j f t else wApp y j (upd f t (wbR y (nI j))) (t + 1)
theorem rw_l2 {N0 : Nat} {K : Nat → Nat} {d B : Nat} {s : mS} {G : gm_H} {sz sl : Nat} {y : Int64} (hN : N0 ≤ B) (hg : ∀ k, k < 8 → wGood (wbR y (nI k))) : ∀ (j : Nat) (f : Nat → Int32) (t : Nat), j ≤ 8 → t + wCnt y j ≤ 240 →
    gm_ev N0 K ra_nm (ra_mt K) d (some .boolean) (gm_I cX12_write) (gm_lkf (lkX12 false K)) 88 [some (.ref B), some (.long y), none, none, some (.int (nI j + (-1 : Int32))), none] [] (bM B (mH B (mI (mA s 1 f) 2 (nI t))) G) sz sl
      (.returned (some (.int 1)), bM B (mH B (mI (mA s 1 (wApp y j f t).1) 2 (nI (wApp y j f t).2))) G, sz, sl) := by
  intro j
  induction j with
  | zero =>
    intro f t _ _
    rw [show nI 0 + (-1 : Int32) = -1 by decide +kernel]
    exact r_write_88_t hN (by decide)
  | succ j ih =>
    intro f t hj ht
    rw [nI_m1 (by omega)]
    have hp : ¬ nI j < 0 := nI_pos (by omega)
    by_cases hb : wbR y (nI j) = 0
    · rw [wCnt, if_pos hb] at ht
      rw [wApp, if_pos hb]
      exact r_write_88_ft_at88 hN hp hb (ih f t (by omega) (by omega))
    · rw [wCnt, if_neg hb] at ht
      rw [wApp, if_neg hb]
      refine r_write_88_ff_at88 (k3 := t) hN hp hb rfl (by omega) ?_
      have h4 := ih (upd f t (wbR y (nI j))) (t + 1) (by omega) (by omega)
      rw [← nI_1] at h4
      have hn := wGood_nar (hg j (by omega))
      rw [mIA_norm]
      have e : vp_nar .char ((((y >>> (((8 : Int32) * nI j).toInt64 &&& 63)) &&& (255 : Int64)).toInt32.toUInt32 % 65536).toInt32) = wbR y (nI j) := hn
      rw [e]
      exact h4
theorem mIA_id {s : mS} {k l : Nat} {a : Int32} (h : s.1 l = a) : s = mI (mA s k (s.2.1 k)) l a := by
  unfold mI mA
  refine Prod.ext (funext fun j => ?_) (Prod.ext (funext fun j => ?_) rfl)
  · dsimp only
    by_cases hj : j = l
    · rw [if_pos hj, hj, h]
    · rw [if_neg hj]
  · dsimp only
    by_cases hj : j = k
    · rw [if_pos hj, hj]
    · rw [if_neg hj]
/-- the reference's write, refused -/
theorem rs_write_no {s : mS} {t : Nat} {y : Int64} (ht : s.1 2 = nI t) (ht2 : t ≤ 240) (h : (∃ k, k < 8 ∧ ¬ wGood (wbR y (nI k))) ∨ 240 < t + wCnt y 8) (hc8 : wCnt y 8 ≤ 8) : rTo 1 121 [.long y] s (some (.int 0)) (mI s 0 0) := by
  intro N0 K B G sz hN
  refine gm_to.of (d := 0) rfl (by decide) (Nat.le_of_ble_eq_true rfl) rfl ?_
  refine r_write_0__at11 hN ?_
  have key := rw_l1 (N0 := N0) (K := K) (d := 0) (B := B) (s := mI s 0 0) (G := G) (sz := sz) (sl := 0) (R := (.returned (some (.int 0)), bM B (mH B (mI s 0 0)) G, sz, 0)) (y := y) hN 8 0 (Nat.le_refl 8) (fun _ => rfl) (fun hg => by
    rcases h with ⟨k, hk, hn⟩ | h
    · exact absurd (hg k hk) hn
    · refine r_write_11_tf hN (by decide) ?_
      show ¬ s.1 2 + nI (0 + wCnt y 8) ≤ 240
      rw [ht, Nat.zero_add, nI_add, show (240 : Int32) = nI 240 by decide +kernel]
      exact nI_ge h (by omega))
  exact key
/-- .. taken -/
theorem rs_write_yes {s : mS} {t : Nat} {y : Int64} (ht : s.1 2 = nI t) (h : ∀ k, k < 8 → wGood (wbR y (nI k))) (h2 : t + wCnt y 8 ≤ 240) : rTo 1 121 [.long y] s (some (.int 1)) (mI (mA (mI s 0 0) 1 (wApp y 8 (s.2.1 1) t).1) 2 (nI (wApp y 8 (s.2.1 1) t).2)) := by
  intro N0 K B G sz hN
  refine gm_to.of (d := 0) rfl (by decide) (Nat.le_of_ble_eq_true rfl) rfl ?_
  refine r_write_0__at11 hN ?_
  refine rw_l1 (N0 := N0) (K := K) (d := 0) (B := B) (s := mI s 0 0) (G := G) (sz := sz) (sl := 0) (y := y) hN 8 0 (Nat.le_refl 8) (fun ⟨k, hk, hn⟩ => absurd (h k hk) hn) (fun _ => ?_)
  refine r_write_11_tt_at88 hN (by decide) ?_ ?_
  · show s.1 2 + nI (0 + wCnt y 8) ≤ 240
    rw [ht, Nat.zero_add, nI_add, show (240 : Int32) = nI 240 by decide +kernel]
    exact nI_le h2 (by decide)
  · have e : mI s 0 0 = mI (mA (mI s 0 0) 1 (s.2.1 1)) 2 (nI t) := mIA_id (s := mI s 0 0) (k := 1) (l := 2) ht
    have key := rw_l2 (N0 := N0) (K := K) (d := 0) (B := B) (s := mI s 0 0) (G := G) (sz := sz) (sl := 0) hN h 8 (s.2.1 1) t (Nat.le_refl 8) h2
    rw [← e] at key
    exact key
