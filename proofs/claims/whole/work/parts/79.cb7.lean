/-! the class: keyOf and sort -/
theorem gq_stageOf {N0 : Nat} {K : Nat → Nat} {d q n i : Nat} {f4 : Nat → Int32} {M : gm_H} {sz : Nat} {Q : Int32 → gm_H → Nat → Nat → Prop} (h8 : M q = some (.inr (8, qcell q n))) (h4 : M (q + 4) = some (iarr 24 f4)) (hi : i < 24) (qq : Q (nI (sgF f4 i)) M sz 0) : gX4_stageOf N0 K (d + 1) q (nI i) M sz Q := by
  refine gC.pure (gX4_stageOf.of (TX4_stageOf_0 (Q := fun r => Q r M sz 0) ⟨_, h8, q + 4, rfl, 24, f4, h4, by decide, i, rfl, hi, ?_⟩))
  unfold sgF at qq
  by_cases h1 : f4 i &&& (16 : Int32) = 0
  · rw [if_pos h1] at qq ⊢
    by_cases h2 : f4 i &&& (4 : Int32) = 0
    · rw [if_pos h2] at qq ⊢
      exact qq
    · rw [if_neg h2] at qq ⊢
      exact qq
  · rw [if_neg h1] at qq ⊢
    exact qq
theorem gq_keyOf {N0 : Nat} {K : Nat → Nat} {d q n i : Nat} {f2 f3 f4 : Nat → Int32} {M : gm_H} {sz : Nat} {Q : Int64 → gm_H → Nat → Nat → Prop} (h8 : M q = some (.inr (8, qcell q n))) (h2 : M (q + 2) = some (iarr 24 f2)) (h3 : M (q + 3) = some (iarr 24 f3)) (h4 : M (q + 4) = some (iarr 24 f4)) (hi : i < 24) (hm : f2 i ||| f3 i = nI (mSF f2 f3 i)) (hm2 : mSF f2 f3 i < 2 ^ 24) (qq : Q (lN (kyF f2 f3 f4 i)) M sz 0) : gX4_keyOf N0 K (d + 2) q (nI i) M sz Q := by
  refine gX4_keyOf.of (TX4_keyOf_0 ⟨_, h8, q + 2, rfl, 24, f2, h2, by decide, i, rfl, hi, q + 3, rfl, 24, f3, h3, by decide, hi, ?_⟩)
  refine gq_stageOf h8 h4 hi ?_
  rw [hm]
  refine gq_bitCount hm2 ?_
  have hb := bcn_le hm2
  have hs := sgF_le f4 i
  have e40 : (nI (sgF f4 i)).toInt64 <<< (((40 : Int32)).toInt64 &&& 63) = lN (sgF f4 i * 2 ^ 40) := by
    rw [nI_l (by omega)]
    exact lN_shl _ (by decide)
  have e32 : (nI (bcn (mSF f2 f3 i))).toInt64 <<< (((32 : Int32)).toInt64 &&& 63) = lN (bcn (mSF f2 f3 i) * 2 ^ 32) := by
    rw [nI_l (by omega)]
    exact lN_shl _ (by decide)
  rw [e40, e32, nI_l (by omega), lN_or, n_or (by omega), lN_or]
  rw [show sgF f4 i * 2 ^ 40 + bcn (mSF f2 f3 i) * 2 ^ 32 = (sgF f4 i * 256 + bcn (mSF f2 f3 i)) * 2 ^ 32 by omega, n_or (by omega)]
  rw [show (sgF f4 i * 256 + bcn (mSF f2 f3 i)) * 2 ^ 32 + mSF f2 f3 i = kyF f2 f3 f4 i by unfold kyF; omega]
  exact qq
theorem lg_le {a b : Nat} (ha : a < 2 ^ 63) (hb : b < 2 ^ 63) : lg_cmp (lN a) (lN b) ≤ 0 ↔ a ≤ b := by
  have hl : lN a > lN b ↔ b < a := by
    show lN b < lN a ↔ _
    rw [Int64.lt_iff_toInt_lt, pk_lT ha, pk_lT hb]
    omega
  unfold lg_cmp
  by_cases h : lN a > lN b
  · rw [if_pos h]
    have := hl.mp h
    exact ⟨fun z => absurd z (by decide), fun z => by omega⟩
  · rw [if_neg h]
    have h2 : a ≤ b := Nat.le_of_not_lt (fun z => h (hl.mpr z))
    split
    · exact ⟨fun _ => h2, fun _ => by decide⟩
    · exact ⟨fun _ => h2, fun _ => by decide⟩
theorem kyF_lt {f2 f3 f4 : Nat → Int32} {i : Nat} (hm2 : mSF f2 f3 i < 2 ^ 24) : kyF f2 f3 f4 i < 2 ^ 63 := by
  have := bcn_le hm2
  have := sgF_le f4 i
  unfold kyF
  omega
abbrev jarr (n : Nat) (f : Nat → Int64) : gm_E := .inl (.long, n, .inr (.inl f))
/-- the first m rules are sorted -/
def srt (ky : Nat → Nat) (p1 p2 : Nat) (M0 M : gm_H) (m : Nat) (num : Nat → Nat) : Prop := (∃ fk fn, M p1 = some (jarr 24 fk) ∧ M p2 = some (iarr 24 fn) ∧ ∀ p, p < m → fk p = lN (ky (num p)) ∧ fn p = nI (num p)) ∧ (∀ p, p < m → num p < m) ∧ (∀ p q, p < m → q < m → num p = num q → p = q) ∧ (∀ i, i < m → ∃ p, p < m ∧ num p = i) ∧ (∀ p q, p ≤ q → q < m → ky (num p) ≤ ky (num q)) ∧ ∀ a, a ≠ p1 → a ≠ p2 → M a = M0 a
theorem srt.put {ky : Nat → Nat} {p1 p2 : Nat} {M0 M : gm_H} {m c : Nat} {num : Nat → Nat} {fk : Nat → Int64} {fn : Nat → Int32} (h : ∃ M1, srt ky p1 p2 M0 M1 m num) (hM : ∀ a, a ≠ p1 → a ≠ p2 → M a = M0 a) (hp : p1 ≠ p2) (hc : c ≤ m) (h1 : ∀ p, p < c → fk p = lN (ky (num p)) ∧ fn p = nI (num p) ∧ ky (num p) ≤ ky m) (h2 : ∀ p, c < p → p ≤ m → fk p = lN (ky (num (p - 1))) ∧ fn p = nI (num (p - 1)) ∧ ky m ≤ ky (num (p - 1))) : srt ky p1 p2 M0 (gm_set (gm_set M p1 (jarr 24 (vp_updL fk c (lN (ky m))))) p2 (iarr 24 (upd fn c (nI m)))) (m + 1) (fun p => if p < c then num p else if p = c then m else num (p - 1)) := by
  obtain ⟨M1, _, i2, i3, i4, i5, _⟩ := h
  refine ⟨⟨vp_updL fk c (lN (ky m)), upd fn c (nI m), (gm_set_ne hp).trans gm_set_eq, gm_set_eq, fun p hpm => ?_⟩, fun p hpm => ?_, fun p q hpm hqm e => ?_, fun i hi => ?_, fun p q hpq hqm => ?_, fun a a1 a2 => ?_⟩
  · dsimp only
    by_cases e1 : p < c
    · rw [if_pos e1, pk_uLn (by omega)]
      refine ⟨(h1 p e1).1, ?_⟩
      rw [show upd fn c (nI m) p = fn p from if_neg (by omega)]
      exact (h1 p e1).2.1
    · rw [if_neg e1]
      by_cases e2 : p = c
      · rw [if_pos e2, e2]
        exact ⟨pk_uLs, if_pos rfl⟩
      · rw [if_neg e2, pk_uLn (by omega)]
        refine ⟨(h2 p (by omega) (by omega)).1, ?_⟩
        rw [show upd fn c (nI m) p = fn p from if_neg (by omega)]
        exact (h2 p (by omega) (by omega)).2.1
  · dsimp only
    split
    · have := i2 p (by omega)
      omega
    · split
      · omega
      · have := i2 (p - 1) (by omega)
        omega
  · dsimp only at e
    have lt1 : ∀ p, p < m → num p < m := i2
    by_cases a1 : p < c
    · rw [if_pos a1] at e
      by_cases b1 : q < c
      · rw [if_pos b1] at e
        exact i3 p q (by omega) (by omega) e
      · rw [if_neg b1] at e
        by_cases b2 : q = c
        · rw [if_pos b2] at e
          have := lt1 p (by omega)
          omega
        · rw [if_neg b2] at e
          have := i3 p (q - 1) (by omega) (by omega) e
          omega
    · rw [if_neg a1] at e
      by_cases a2 : p = c
      · rw [if_pos a2] at e
        by_cases b1 : q < c
        · rw [if_pos b1] at e
          have := lt1 q (by omega)
          omega
        · rw [if_neg b1] at e
          by_cases b2 : q = c
          · omega
          · rw [if_neg b2] at e
            have := lt1 (q - 1) (by omega)
            omega
      · rw [if_neg a2] at e
        by_cases b1 : q < c
        · rw [if_pos b1] at e
          have := i3 (p - 1) q (by omega) (by omega) e
          omega
        · rw [if_neg b1] at e
          by_cases b2 : q = c
          · rw [if_pos b2] at e
            have := lt1 (p - 1) (by omega)
            omega
          · rw [if_neg b2] at e
            have := i3 (p - 1) (q - 1) (by omega) (by omega) e
            omega
  · by_cases e : i = m
    · exact ⟨c, by omega, by dsimp only; rw [if_neg (by omega), if_pos rfl, e]⟩
    · obtain ⟨p, g1, g2⟩ := i4 i (by omega)
      by_cases e1 : p < c
      · exact ⟨p, by omega, by dsimp only; rw [if_pos e1]; exact g2⟩
      · exact ⟨p + 1, by omega, by dsimp only; rw [if_neg (by omega), if_neg (by omega)]; exact g2⟩
  · dsimp only
    by_cases a1 : p < c
    · rw [if_pos a1]
      by_cases b1 : q < c
      · rw [if_pos b1]
        exact i5 p q hpq (by omega)
      · rw [if_neg b1]
        by_cases b2 : q = c
        · rw [if_pos b2]
          exact (h1 p a1).2.2
        · rw [if_neg b2]
          exact i5 p (q - 1) (by omega) (by omega)
    · rw [if_neg a1]
      by_cases a2 : p = c
      · rw [if_pos a2]
        by_cases b2 : q = c
        · rw [if_neg (by omega), if_pos b2]
          exact Nat.le_refl _
        · rw [if_neg (by omega), if_neg b2]
          exact (h2 q (by omega) (by omega)).2.2
      · rw [if_neg a2, if_neg (by omega), if_neg (by omega)]
        exact i5 (p - 1) (q - 1) (by omega) (by omega)
  · rw [gm_set_ne a2, gm_set_ne a1]
    exact hM a a1 a2
theorem gs_sort20 {N0 : Nat} {K : Nat → Nat} {d p0 p1 p2 m : Nat} {ky num : Nat → Nat} {M0 : gm_H} {sz sl : Nat} {Q : Unit → gm_H → Nat → Nat → Prop} (hN1 : N0 ≤ p1) (hN2 : N0 ≤ p2) (hp : p1 ≠ p2) (hm : m < 24) (hk : ∀ i, i ≤ m → ky i < 2 ^ 63) (h0 : ∃ M1, srt ky p1 p2 M0 M1 m num) (q : ∀ M' num', srt ky p1 p2 M0 M' (m + 1) num' → hX4_sort_2 N0 K d p0 p1 p2 (nI (m + 1)) M' sz sl Q) : ∀ (c : Nat) (M : gm_H) (fk : Nat → Int64) (fn : Nat → Int32), c ≤ m → M p1 = some (jarr 24 fk) → M p2 = some (iarr 24 fn) → (∀ a, a ≠ p1 → a ≠ p2 → M a = M0 a) → (∀ p, p < c → fk p = lN (ky (num p)) ∧ fn p = nI (num p)) → (∀ p, c < p → p ≤ m → fk p = lN (ky (num (p - 1))) ∧ fn p = nI (num (p - 1)) ∧ ky m ≤ ky (num (p - 1))) → hX4_sort_20 N0 K d p0 p1 p2 (nI m) (lN (ky m)) (nI c) M sz sl Q := by
  have hnl : ∀ p, p < m → num p ≤ m := fun p hpm => by
    obtain ⟨M1, _, i2, _⟩ := h0
    have := i2 p hpm
    omega
  intro c
  induction c with
  | zero =>
    intro M fk fn hc h1 h2 hM ha hb
    refine TX4_sort_20 ?_
    rw [if_pos (by decide)]
    refine ⟨24, fk, h1, by decide, hN1, 0, rfl, by decide, 24, fn, (gm_set_ne (Ne.symm hp)).trans h2, by decide, hN2, by decide, ?_⟩
    rw [nI_1]
    exact q _ _ (srt.put h0 hM hp hc (fun p z => by omega) hb)
  | succ c ih =>
    intro M fk fn hc h1 h2 hM ha hb
    refine TX4_sort_20 ?_
    have ec : nI (c + 1) - (1 : Int32) = nI c := by rw [n_1, nI_sub (by omega), show c + 1 - 1 = c by omega]
    rw [if_neg (by rw [← nI_0]; exact nI_ge (by omega) (by omega))]
    refine ⟨24, fk, h1, by decide, c, ec, by omega, ?_⟩
    have hfc := ha c (by omega)
    rw [hfc.1]
    by_cases hle : ky (num c) ≤ ky m
    · rw [if_pos ((lg_le (hk _ (hnl c (by omega))) (hk m (Nat.le_refl _))).mpr hle)]
      refine ⟨hN1, c + 1, rfl, by omega, 24, fn, (gm_set_ne (Ne.symm hp)).trans h2, by decide, hN2, by omega, ?_⟩
      rw [nI_1]
      refine q _ _ (srt.put h0 hM hp hc (fun p z => ⟨(ha p z).1, (ha p z).2, ?_⟩) hb)
      obtain ⟨M1, _, _, _, _, i5, _⟩ := h0
      exact Nat.le_trans (i5 p c (by omega) (by omega)) hle
    · rw [if_neg (fun z => hle ((lg_le (hk _ (hnl c (by omega))) (hk m (Nat.le_refl _))).mp z))]
      refine ⟨hN1, c + 1, rfl, by omega, 24, fn, (gm_set_ne (Ne.symm hp)).trans h2, by decide, by omega, hN2, by omega, ?_⟩
      rw [nI_sub1]
      refine ih _ _ _ (by omega) ((gm_set_ne hp).trans gm_set_eq) gm_set_eq (fun a a1 a2 => by rw [gm_set_ne a2, gm_set_ne a1]; exact hM a a1 a2) (fun p z => ?_) (fun p z1 z2 => ?_)
      · rw [pk_uLn (by omega), show upd fn (c + 1) (fn c) p = fn p from if_neg (by omega)]
        exact ha p (by omega)
      · by_cases e : p = c + 1
        · rw [e, pk_uLs, show upd fn (c + 1) (fn c) (c + 1) = fn c from if_pos rfl, show c + 1 - 1 = c by omega]
          exact ⟨rfl, hfc.2, by omega⟩
        · rw [pk_uLn (by omega), show upd fn (c + 1) (fn c) p = fn p from if_neg (by omega)]
          exact hb p (by omega) z2
theorem gs_sort2 {N0 : Nat} {K : Nat → Nat} {d p0 p1 p2 n : Nat} {f2 f3 f4 : Nat → Int32} {M0 : gm_H} {sz sl : Nat} {Q : Unit → gm_H → Nat → Nat → Prop} (hN1 : N0 ≤ p1) (hN2 : N0 ≤ p2) (hp : p1 ≠ p2) (hn : n ≤ 24) (hne : ∀ a, p0 ≤ a → a ≤ p0 + 4 → a ≠ p1 ∧ a ≠ p2) (h8 : M0 p0 = some (.inr (8, qcell p0 n))) (h2 : M0 (p0 + 2) = some (iarr 24 f2)) (h3 : M0 (p0 + 3) = some (iarr 24 f3)) (h4 : M0 (p0 + 4) = some (iarr 24 f4)) (hm : ∀ i, i < n → f2 i ||| f3 i = nI (mSF f2 f3 i) ∧ mSF f2 f3 i < 2 ^ 24) (q : ∀ M' num', srt (kyF f2 f3 f4) p1 p2 M0 M' n num' → Q () M' sz sl) : ∀ (r m : Nat) (M : gm_H) (num : Nat → Nat), m + r = n → srt (kyF f2 f3 f4) p1 p2 M0 M m num → hX4_sort_2 N0 K (d + 2) p0 p1 p2 (nI m) M sz sl Q := by
  intro r
  induction r with
  | zero =>
    intro m M num hr hS
    have hfr := hS.2.2.2.2.2
    have n0 := hne p0 (by omega) (by omega)
    refine TX4_sort_2 ⟨_, (hfr p0 n0.1 n0.2).trans h8, nI n, rfl, ?_⟩
    rw [if_pos (nI_le (by omega) (by omega))]
    have : m = n := by omega
    subst this
    exact q M num hS
  | succ r ih =>
    intro m M num hr hS
    have hfr := hS.2.2.2.2.2
    have n0 := hne p0 (by omega) (by omega)
    have n2 := hne (p0 + 2) (by omega) (by omega)
    have n3 := hne (p0 + 3) (by omega) (by omega)
    have n4 := hne (p0 + 4) (by omega) (by omega)
    refine TX4_sort_2 ⟨_, (hfr p0 n0.1 n0.2).trans h8, nI n, rfl, ?_⟩
    rw [if_neg (nI_ge (by omega) (by omega))]
    refine gq_keyOf ((hfr p0 n0.1 n0.2).trans h8) ((hfr _ n2.1 n2.2).trans h2) ((hfr _ n3.1 n3.2).trans h3) ((hfr _ n4.1 n4.2).trans h4) (by omega) (hm m (by omega)).1 (hm m (by omega)).2 ?_
    obtain ⟨fk, fn, a1, a2, a3⟩ := hS.1
    refine gs_sort20 hN1 hN2 hp (by omega) (fun i hi => kyF_lt (hm i (by omega)).2) ⟨M, hS⟩ (fun M' num' hS' => ih (m + 1) M' num' (by omega) hS') m M fk fn (Nat.le_refl _) a1 a2 hfr a3 (fun p z1 z2 => by omega)
theorem gq_sort {N0 : Nat} {K : Nat → Nat} {d p0 p1 p2 n : Nat} {f2 f3 f4 : Nat → Int32} {fk : Nat → Int64} {fn : Nat → Int32} {M : gm_H} {sz : Nat} {Q : Unit → gm_H → Nat → Nat → Prop} (hN1 : N0 ≤ p1) (hN2 : N0 ≤ p2) (hp : p1 ≠ p2) (hn : n ≤ 24) (hne : ∀ a, p0 ≤ a → a ≤ p0 + 4 → a ≠ p1 ∧ a ≠ p2) (h8 : M p0 = some (.inr (8, qcell p0 n))) (h2 : M (p0 + 2) = some (iarr 24 f2)) (h3 : M (p0 + 3) = some (iarr 24 f3)) (h4 : M (p0 + 4) = some (iarr 24 f4)) (hm : ∀ i, i < n → f2 i ||| f3 i = nI (mSF f2 f3 i) ∧ mSF f2 f3 i < 2 ^ 24) (hk1 : M p1 = some (jarr 24 fk)) (hk2 : M p2 = some (iarr 24 fn)) (q : ∀ M' num', srt (kyF f2 f3 f4) p1 p2 M M' n num' → Q () M' sz 0) : gX4_sort N0 K (d + 3) p0 p1 p2 M sz Q := by
  refine gX4_sort.of (TX4_sort_0 ?_)
  rw [← nI_0]
  refine gs_sort2 hN1 hN2 hp hn hne h8 h2 h3 h4 hm q n 0 M (fun p => p) (by omega) ⟨⟨fk, fn, hk1, hk2, fun p z => by omega⟩, fun p z => by omega, fun p q z => by omega, fun i z => by omega, fun p q _ z => by omega, fun _ _ _ => rfl⟩
