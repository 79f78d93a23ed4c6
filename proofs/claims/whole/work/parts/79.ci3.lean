/-! class and reference side by side: letters -/
def cB (n i : Nat) : Nat := if i < 8 then n / 2 ^ (56 - 8 * i) % 256 else 0
/-- character i of a term's text -/
def ltr (t : Tm) (i : Int32) : Int32 := if i < 0 then -1 else if cB (tL t) i.toNatClampNeg = 0 then -1 else nI (cB (tL t) i.toNatClampNeg)
theorem ltr_neg {t : Tm} {i : Int32} (h : i < 0) : ltr t i = -1 := if_pos h
theorem ltr_nat {t : Tm} {k : Nat} (hk : k < 2 ^ 31) : ltr t (nI k) = if cB (tL t) k = 0 then -1 else nI (cB (tL t) k) := by
  unfold ltr
  rw [if_neg (nI_pos hk), nI_clamp hk]
theorem ltr_0 {t : Tm} {k : Nat} (hk : k < 2 ^ 31) (h : cB (tL t) k = 0) : ltr t (nI k) = -1 := by rw [ltr_nat hk, if_pos h]
theorem ltr_b {t : Tm} {k b : Nat} (hk : k < 2 ^ 31) (h : cB (tL t) k = b) (hb : b ≠ 0) : ltr t (nI k) = nI b := by rw [ltr_nat hk, h, if_neg hb]
theorem ch_step {N0 : Nat} {K : Nat → Nat} {d E c k : Nat} {u : Int32} {M : gm_H} {sz sl : Nat} {Q : Int32 → Prop} (hE : E < 2 ^ 28) (hk : k < 32) (q : hX9_character_5 N0 K d (nI E) u (nI (c + (if E / 2 ^ k % 128 = 0 then 0 else 1))) (nI k + (-7 : Int32)) M sz sl Q) : hX9_character_5 N0 K d (nI E) u (nI c) (nI k) M sz sl Q := by
  refine TX9_character_5 ?_
  rw [if_neg (nI_pos (by omega)), dig hE hk]
  by_cases h : E / 2 ^ k % 128 = 0
  · rw [if_pos (by rw [h]; rfl), ← nI_0, nI_add]
    rw [if_pos h] at q
    exact q
  · rw [if_neg (nI_ne0 (by omega) (by omega)), nI_1]
    rw [if_neg h] at q
    exact q
theorem ch_go {N0 : Nat} {K : Nat → Nat} {d E : Nat} {u : Int32} {M : gm_H} {sz sl : Nat} {Q : Int32 → Prop} (hE : E < 2 ^ 28) (q : hX9_character_5 N0 K d (nI E) u (nI ((if E / 2 ^ 14 % 128 = 0 then 0 else 1) + (if E / 2 ^ 7 % 128 = 0 then 0 else 1) + (if E / 2 ^ 0 % 128 = 0 then 0 else 1))) (-7 : Int32) M sz sl Q) : hX9_character_0 N0 K d (nI E) u M sz sl Q := by
  refine TX9_character_0 ?_
  refine ch_step (c := 0) (k := 14) hE (by decide) ?_
  rw [show nI 14 + (-7 : Int32) = nI 7 by decide]
  refine ch_step (k := 7) hE (by decide) ?_
  rw [show nI 7 + (-7 : Int32) = nI 0 by decide]
  refine ch_step (k := 0) hE (by decide) ?_
  rw [show nI 0 + (-7 : Int32) = (-7 : Int32) by decide, Nat.zero_add]
  exact q
theorem ch_dig {E k s : Nat} (hE : E < 2 ^ 28) (hs : s < 32) (he : (21 : Int32) - ((7 : Int32) * (nI k / (2 : Int32))) = nI s) : ((((nI E).toUInt32 >>> ((((21 : Int32) - ((7 : Int32) * (nI k / (2 : Int32))))).toUInt32 &&& Int32.toUInt32 31)).toInt32) &&& (127 : Int32)) = nI (E / 2 ^ s % 128) := by
  rw [he]
  exact dig hE hs
theorem ch_0 {N0 : Nat} {K : Nat → Nat} {d a : Nat} {t : Tm} {u : Int32} {M : gm_H} {sz sl : Nat} {Q : Int32 → Prop} (a1 : 48 ≤ a) (a2 : a < 128) (hL : tL t = a * 2 ^ 56) (q : Q (ltr t u)) : hX9_character_0 N0 K d (nI (a * 2097152)) u M sz sl Q := by
  have hE : a * 2097152 < 2 ^ 28 := by omega
  refine ch_go hE ?_
  rw [if_pos (show (a * 2097152) / 2 ^ 14 % 128 = 0 by omega)]
  rw [if_pos (show (a * 2097152) / 2 ^ 7 % 128 = 0 by omega)]
  rw [if_pos (show (a * 2097152) / 2 ^ 0 % 128 = 0 by omega)]
  refine TX9_character_5 ?_
  rw [if_pos (by decide)]
  rw [if_pos (by decide)]
  rw [if_neg (nI_ne0 (by omega) (by omega))]
  by_cases hu : u < 0
  · rw [if_pos hu]
    rw [ltr_neg hu] at q
    exact q
  · rw [if_neg hu]
    obtain ⟨k, hk, e⟩ := nI_of hu
    subst e
    have elast : (0 : Int32) = nI 0 := rfl
    by_cases hl : k ≤ 0
    · rw [if_pos (by rw [elast]; exact nI_le hl (by decide))]
      have hc : k = 0 := by omega
      have hc0 : k = 0 := by omega
      subst hc0
      rw [ltr_b (b := a) (by decide) (show cB (tL t) 0 = a by unfold cB; rw [if_pos (by decide), hL]; omega) (by omega)] at q
      rw [if_pos (by decide), ch_dig (k := 0) (s := 21) hE (by decide) (by decide), show (a * 2097152) / 2 ^ 21 % 128 = a by omega]
      exact q
    · rw [if_neg (by rw [elast]; exact nI_ge (by omega) hk)]
      rw [ltr_0 hk ?_] at q
      · exact q
      · unfold cB
        by_cases h8 : k < 8
        · rw [if_pos h8, hL]
          have hc : k = 1 ∨ k = 2 ∨ k = 3 ∨ k = 4 ∨ k = 5 ∨ k = 6 ∨ k = 7 := by omega
          rcases hc with rfl | rfl | rfl | rfl | rfl | rfl | rfl <;> omega
        · rw [if_neg h8]
theorem ch_1 {N0 : Nat} {K : Nat → Nat} {d a x : Nat} {t : Tm} {u : Int32} {M : gm_H} {sz sl : Nat} {Q : Int32 → Prop} (a1 : 48 ≤ a) (a2 : a < 128) (x1 : 48 ≤ x) (x2 : x < 128) (hL : tL t = a * 2 ^ 56 + 40 * 2 ^ 48 + x * 2 ^ 40 + 41 * 2 ^ 32) (q : Q (ltr t u)) : hX9_character_0 N0 K d (nI (a * 2097152 + x * 16384)) u M sz sl Q := by
  have hE : a * 2097152 + x * 16384 < 2 ^ 28 := by omega
  refine ch_go hE ?_
  rw [if_neg (show ¬ (a * 2097152 + x * 16384) / 2 ^ 14 % 128 = 0 by omega)]
  rw [if_pos (show (a * 2097152 + x * 16384) / 2 ^ 7 % 128 = 0 by omega)]
  rw [if_pos (show (a * 2097152 + x * 16384) / 2 ^ 0 % 128 = 0 by omega)]
  refine TX9_character_5 ?_
  rw [if_pos (by decide)]
  rw [if_neg (by decide)]
  rw [if_neg (nI_ne0 (by omega) (by omega))]
  by_cases hu : u < 0
  · rw [if_pos hu]
    rw [ltr_neg hu] at q
    exact q
  · rw [if_neg hu]
    obtain ⟨k, hk, e⟩ := nI_of hu
    subst e
    have elast : ((2 : Int32) * nI (1 + 0 + 0)) + (1 : Int32) = nI 3 := by decide
    rw [elast]
    by_cases hl : k ≤ 3
    · rw [if_pos (nI_le hl (by decide))]
      have hc : k = 0 ∨ k = 1 ∨ k = 2 ∨ k = 3 := by omega
      rcases hc with rfl | rfl | rfl | rfl
      · rw [ltr_b (b := a) (by decide) (show cB (tL t) 0 = a by unfold cB; rw [if_pos (by decide), hL]; omega) (by omega)] at q
        rw [if_pos (by decide), ch_dig (k := 0) (s := 21) hE (by decide) (by decide), show (a * 2097152 + x * 16384) / 2 ^ 21 % 128 = a by omega]
        exact q
      · rw [ltr_b (b := 40) (by decide) (show cB (tL t) 1 = 40 by unfold cB; rw [if_pos (by decide), hL]; omega) (by decide)] at q
        rw [if_neg (by decide)]
        rw [if_pos (by decide)]
        exact q
      · rw [ltr_b (b := x) (by decide) (show cB (tL t) 2 = x by unfold cB; rw [if_pos (by decide), hL]; omega) (by omega)] at q
        rw [if_pos (by decide), ch_dig (k := 2) (s := 14) hE (by decide) (by decide), show (a * 2097152 + x * 16384) / 2 ^ 14 % 128 = x by omega]
        exact q
      · rw [ltr_b (b := 41) (by decide) (show cB (tL t) 3 = 41 by unfold cB; rw [if_pos (by decide), hL]; omega) (by decide)] at q
        rw [if_neg (by decide)]
        rw [if_neg (by decide), if_pos rfl]
        exact q
    · rw [if_neg (nI_ge (by omega) hk)]
      rw [ltr_0 hk ?_] at q
      · exact q
      · unfold cB
        by_cases h8 : k < 8
        · rw [if_pos h8, hL]
          have hc : k = 4 ∨ k = 5 ∨ k = 6 ∨ k = 7 := by omega
          rcases hc with rfl | rfl | rfl | rfl <;> omega
        · rw [if_neg h8]
theorem ch_2 {N0 : Nat} {K : Nat → Nat} {d a x y : Nat} {t : Tm} {u : Int32} {M : gm_H} {sz sl : Nat} {Q : Int32 → Prop} (a1 : 48 ≤ a) (a2 : a < 128) (x1 : 48 ≤ x) (x2 : x < 128) (y1 : 48 ≤ y) (y2 : y < 128) (hL : tL t = a * 2 ^ 56 + 40 * 2 ^ 48 + x * 2 ^ 40 + 44 * 2 ^ 32 + y * 2 ^ 24 + 41 * 2 ^ 16) (q : Q (ltr t u)) : hX9_character_0 N0 K d (nI (a * 2097152 + x * 16384 + y * 128)) u M sz sl Q := by
  have hE : a * 2097152 + x * 16384 + y * 128 < 2 ^ 28 := by omega
  refine ch_go hE ?_
  rw [if_neg (show ¬ (a * 2097152 + x * 16384 + y * 128) / 2 ^ 14 % 128 = 0 by omega)]
  rw [if_neg (show ¬ (a * 2097152 + x * 16384 + y * 128) / 2 ^ 7 % 128 = 0 by omega)]
  rw [if_pos (show (a * 2097152 + x * 16384 + y * 128) / 2 ^ 0 % 128 = 0 by omega)]
  refine TX9_character_5 ?_
  rw [if_pos (by decide)]
  rw [if_neg (by decide)]
  rw [if_neg (nI_ne0 (by omega) (by omega))]
  by_cases hu : u < 0
  · rw [if_pos hu]
    rw [ltr_neg hu] at q
    exact q
  · rw [if_neg hu]
    obtain ⟨k, hk, e⟩ := nI_of hu
    subst e
    have elast : ((2 : Int32) * nI (1 + 1 + 0)) + (1 : Int32) = nI 5 := by decide
    rw [elast]
    by_cases hl : k ≤ 5
    · rw [if_pos (nI_le hl (by decide))]
      have hc : k = 0 ∨ k = 1 ∨ k = 2 ∨ k = 3 ∨ k = 4 ∨ k = 5 := by omega
      rcases hc with rfl | rfl | rfl | rfl | rfl | rfl
      · rw [ltr_b (b := a) (by decide) (show cB (tL t) 0 = a by unfold cB; rw [if_pos (by decide), hL]; omega) (by omega)] at q
        rw [if_pos (by decide), ch_dig (k := 0) (s := 21) hE (by decide) (by decide), show (a * 2097152 + x * 16384 + y * 128) / 2 ^ 21 % 128 = a by omega]
        exact q
      · rw [ltr_b (b := 40) (by decide) (show cB (tL t) 1 = 40 by unfold cB; rw [if_pos (by decide), hL]; omega) (by decide)] at q
        rw [if_neg (by decide)]
        rw [if_pos (by decide)]
        exact q
      · rw [ltr_b (b := x) (by decide) (show cB (tL t) 2 = x by unfold cB; rw [if_pos (by decide), hL]; omega) (by omega)] at q
        rw [if_pos (by decide), ch_dig (k := 2) (s := 14) hE (by decide) (by decide), show (a * 2097152 + x * 16384 + y * 128) / 2 ^ 14 % 128 = x by omega]
        exact q
      · rw [ltr_b (b := 44) (by decide) (show cB (tL t) 3 = 44 by unfold cB; rw [if_pos (by decide), hL]; omega) (by decide)] at q
        rw [if_neg (by decide)]
        rw [if_neg (by decide), if_neg (by decide)]
        exact q
      · rw [ltr_b (b := y) (by decide) (show cB (tL t) 4 = y by unfold cB; rw [if_pos (by decide), hL]; omega) (by omega)] at q
        rw [if_pos (by decide), ch_dig (k := 4) (s := 7) hE (by decide) (by decide), show (a * 2097152 + x * 16384 + y * 128) / 2 ^ 7 % 128 = y by omega]
        exact q
      · rw [ltr_b (b := 41) (by decide) (show cB (tL t) 5 = 41 by unfold cB; rw [if_pos (by decide), hL]; omega) (by decide)] at q
        rw [if_neg (by decide)]
        rw [if_neg (by decide), if_pos rfl]
        exact q
    · rw [if_neg (nI_ge (by omega) hk)]
      rw [ltr_0 hk ?_] at q
      · exact q
      · unfold cB
        by_cases h8 : k < 8
        · rw [if_pos h8, hL]
          have hc : k = 6 ∨ k = 7 := by omega
          rcases hc with rfl | rfl <;> omega
        · rw [if_neg h8]
theorem ch_3 {N0 : Nat} {K : Nat → Nat} {d a x y z : Nat} {t : Tm} {u : Int32} {M : gm_H} {sz sl : Nat} {Q : Int32 → Prop} (a1 : 48 ≤ a) (a2 : a < 128) (x1 : 48 ≤ x) (x2 : x < 128) (y1 : 48 ≤ y) (y2 : y < 128) (z1 : 48 ≤ z) (z2 : z < 128) (hL : tL t = a * 2 ^ 56 + 40 * 2 ^ 48 + x * 2 ^ 40 + 44 * 2 ^ 32 + y * 2 ^ 24 + 44 * 2 ^ 16 + z * 2 ^ 8 + 41) (q : Q (ltr t u)) : hX9_character_0 N0 K d (nI (a * 2097152 + x * 16384 + y * 128 + z)) u M sz sl Q := by
  have hE : a * 2097152 + x * 16384 + y * 128 + z < 2 ^ 28 := by omega
  refine ch_go hE ?_
  rw [if_neg (show ¬ (a * 2097152 + x * 16384 + y * 128 + z) / 2 ^ 14 % 128 = 0 by omega)]
  rw [if_neg (show ¬ (a * 2097152 + x * 16384 + y * 128 + z) / 2 ^ 7 % 128 = 0 by omega)]
  rw [if_neg (show ¬ (a * 2097152 + x * 16384 + y * 128 + z) / 2 ^ 0 % 128 = 0 by omega)]
  refine TX9_character_5 ?_
  rw [if_pos (by decide)]
  rw [if_neg (by decide)]
  rw [if_neg (nI_ne0 (by omega) (by omega))]
  by_cases hu : u < 0
  · rw [if_pos hu]
    rw [ltr_neg hu] at q
    exact q
  · rw [if_neg hu]
    obtain ⟨k, hk, e⟩ := nI_of hu
    subst e
    have elast : ((2 : Int32) * nI (1 + 1 + 1)) + (1 : Int32) = nI 7 := by decide
    rw [elast]
    by_cases hl : k ≤ 7
    · rw [if_pos (nI_le hl (by decide))]
      have hc : k = 0 ∨ k = 1 ∨ k = 2 ∨ k = 3 ∨ k = 4 ∨ k = 5 ∨ k = 6 ∨ k = 7 := by omega
      rcases hc with rfl | rfl | rfl | rfl | rfl | rfl | rfl | rfl
      · rw [ltr_b (b := a) (by decide) (show cB (tL t) 0 = a by unfold cB; rw [if_pos (by decide), hL]; omega) (by omega)] at q
        rw [if_pos (by decide), ch_dig (k := 0) (s := 21) hE (by decide) (by decide), show (a * 2097152 + x * 16384 + y * 128 + z) / 2 ^ 21 % 128 = a by omega]
        exact q
      · rw [ltr_b (b := 40) (by decide) (show cB (tL t) 1 = 40 by unfold cB; rw [if_pos (by decide), hL]; omega) (by decide)] at q
        rw [if_neg (by decide)]
        rw [if_pos (by decide)]
        exact q
      · rw [ltr_b (b := x) (by decide) (show cB (tL t) 2 = x by unfold cB; rw [if_pos (by decide), hL]; omega) (by omega)] at q
        rw [if_pos (by decide), ch_dig (k := 2) (s := 14) hE (by decide) (by decide), show (a * 2097152 + x * 16384 + y * 128 + z) / 2 ^ 14 % 128 = x by omega]
        exact q
      · rw [ltr_b (b := 44) (by decide) (show cB (tL t) 3 = 44 by unfold cB; rw [if_pos (by decide), hL]; omega) (by decide)] at q
        rw [if_neg (by decide)]
        rw [if_neg (by decide), if_neg (by decide)]
        exact q
      · rw [ltr_b (b := y) (by decide) (show cB (tL t) 4 = y by unfold cB; rw [if_pos (by decide), hL]; omega) (by omega)] at q
        rw [if_pos (by decide), ch_dig (k := 4) (s := 7) hE (by decide) (by decide), show (a * 2097152 + x * 16384 + y * 128 + z) / 2 ^ 7 % 128 = y by omega]
        exact q
      · rw [ltr_b (b := 44) (by decide) (show cB (tL t) 5 = 44 by unfold cB; rw [if_pos (by decide), hL]; omega) (by decide)] at q
        rw [if_neg (by decide)]
        rw [if_neg (by decide), if_neg (by decide)]
        exact q
      · rw [ltr_b (b := z) (by decide) (show cB (tL t) 6 = z by unfold cB; rw [if_pos (by decide), hL]; omega) (by omega)] at q
        rw [if_pos (by decide), ch_dig (k := 6) (s := 0) hE (by decide) (by decide), show (a * 2097152 + x * 16384 + y * 128 + z) / 2 ^ 0 % 128 = z by omega]
        exact q
      · rw [ltr_b (b := 41) (by decide) (show cB (tL t) 7 = 41 by unfold cB; rw [if_pos (by decide), hL]; omega) (by decide)] at q
        rw [if_neg (by decide)]
        rw [if_neg (by decide), if_pos rfl]
        exact q
    · rw [if_neg (nI_ge (by omega) hk)]
      rw [ltr_0 hk ?_] at q
      · exact q
      · unfold cB
        by_cases h8 : k < 8
        · rw [if_pos h8, hL]
          omega
        · rw [if_neg h8]
theorem kq_char {N0 : Nat} {K : Nat → Nat} {d C : Nat} {t : Tm} {u : Int32} {s : cS} {G : gm_H} {sz : Nat} {Q : Int32 → Prop} (ht : gT t) (q : Q (ltr t u)) : kX9_character N0 K (d + 1) C (nI (tE t)) u s G sz Q := by
  refine gC.kpure (gX9_character.of ?_)
  rcases ht.1.shape with ⟨a, a1, a2, _, e1, e2⟩ | ⟨a, x, a1, a2, x1, x2, _, _, e1, e2⟩ | ⟨a, x, y, a1, a2, x1, x2, y1, y2, _, _, e1, e2⟩ | ⟨a, x, y, z, a1, a2, x1, x2, y1, y2, z1, z2, _, _, e1, e2⟩
  · rw [e1]
    exact ch_0 a1 a2 e2 q
  · rw [e1]
    exact ch_1 a1 a2 x1 x2 e2 q
  · rw [e1]
    exact ch_2 a1 a2 x1 x2 y1 y2 e2 q
  · rw [e1]
    exact ch_3 a1 a2 x1 x2 y1 y2 z1 z2 e2 q
theorem kq_char0 {N0 : Nat} {K : Nat → Nat} {d C : Nat} {u : Int32} {s : cS} {G : gm_H} {sz : Nat} {Q : Int32 → Prop} (q : Q (-1)) : kX9_character N0 K (d + 1) C 0 u s G sz Q := by
  refine gC.kpure (gX9_character.of ?_)
  rw [← nI_0]
  refine ch_go (E := 0) (by decide) ?_
  refine TX9_character_5 ?_
  rw [if_pos (by decide), if_pos (by decide), if_pos (by decide)]
  exact q
