/-! class and reference side by side: letter -/
def lt2 (T : List Tm) (k i : Int32) : Int32 := if k < 0 then -1 else match T[k.toNatClampNeg]? with
  | some t => ltr t i
  | none => -1
theorem lt2_neg {T : List Tm} {k i : Int32} (h : k < 0) : lt2 T k i = -1 := if_pos h
theorem lt2_nil {k i : Int32} : lt2 [] k i = -1 := by
  unfold lt2
  split <;> rfl
theorem lt2_neg2 {T : List Tm} {k i : Int32} (h : i < 0) : lt2 T k i = -1 := by
  unfold lt2
  split
  · rfl
  · split
    · exact ltr_neg h
    · rfl
theorem lt2_some {T : List Tm} {k : Nat} {i : Int32} {t : Tm} (hk : k < 2 ^ 31) (h : T[k]? = some t) : lt2 T (nI k) i = ltr t i := by
  unfold lt2
  rw [if_neg (nI_pos hk), nI_clamp hk, h]
theorem lt2_none {T : List Tm} {k : Nat} {i : Int32} (hk : k < 2 ^ 31) (h : T.length ≤ k) : lt2 T (nI k) i = -1 := by
  unfold lt2
  rw [if_neg (nI_pos hk), nI_clamp hk, List.getElem?_eq_none h]
theorem kq_letter {N0 : Nat} {K : Nat → Nat} {d C p n : Nat} {k i : Int32} {T : List Tm} {s : cS} {G : gm_H} {sz : Nat} {Q : Int32 → Prop} (hp : posT p n) (hT : tS s p T) (hn : T.length ≤ n) (hg : ∀ t ∈ T, gT t) (q : Q (lt2 T k i)) : kX10_at N0 K (d + 1) C (C + p) k s G sz (fun r => kX9_character N0 K (d + 1) C r i s G sz (fun r5 => Q r5)) := by
  refine kq_at hp hT hn ?_
  unfold atT
  unfold lt2 at q
  by_cases hk : k < 0
  · rw [if_pos hk]
    rw [if_pos hk] at q
    exact kq_char0 q
  · rw [if_neg hk]
    rw [if_neg hk] at q
    cases e : T[k.toNatClampNeg]? with
    | none =>
      rw [e] at q
      exact kq_char0 q
    | some t =>
      rw [e] at q
      exact kq_char (hg t (List.mem_of_getElem? e)) q
theorem rq_let {d W k : Nat} {p1 p2 n : Int32} {T : List Tm} {m : mS} {Q : Int32 → mS → Prop} (hT : rT m k 0 T) (hn : n = nI T.length) (hl : T.length ≤ W) (hW : W ≤ 201) (hg : ∀ t ∈ T, gT t) (h1 : ¬ p1 < 0) (h2 : ¬ p2 < 0) (q : Q (lt2 T p1 p2) m) : if p1 < n then (∃ k13 : Nat, p1 = nI k13 ∧ k13 < W ∧ (if p2 ≤ (8 : Int32) then (q_letterOf (d + 1) (m.2.2 k k13) p2 m (fun r15 => if r15 = 0 then (Q (-1 : Int32) m) else (Q r15 m))) else (q_letterOf (d + 1) (m.2.2 k k13) (8 : Int32) m (fun r15 => if r15 = 0 then (Q (-1 : Int32) m) else (Q r15 m))))) else (Q (-1 : Int32) m) := by
  obtain ⟨a, ha, e⟩ := nI_of h1
  obtain ⟨b, hb, e2⟩ := nI_of h2
  subst e
  subst e2
  subst hn
  by_cases hc : a < T.length
  · rw [if_pos (Int32.not_le.mp (nI_ge hc (by omega)))]
    have ht : T[a]? = some (T[a]'hc) := List.getElem?_eq_getElem hc
    have hgt := hg _ (List.mem_of_getElem? ht)
    rw [lt2_some ha ht, ltr_nat hb] at q
    have hm : m.2.2 k a = lN (tL (T[a]'hc)) := by
      have := hT a _ ht
      rw [Nat.zero_add] at this
      exact this
    refine ⟨a, rfl, by omega, ?_⟩
    rw [hm]
    have eight : (8 : Int32) = nI 8 := rfl
    have fin : ∀ c, c < 9 → cB (tL (T[a]'hc)) c = cB (tL (T[a]'hc)) b → q_letterOf (d + 1) (lN (tL (T[a]'hc))) (nI c) m (fun r15 => if r15 = 0 then (Q (-1 : Int32) m) else (Q r15 m)) := by
      intro c c9 ec
      refine rq_letterOf (tL_lt hgt.1).1 c9 ?_
      show if nI (cB (tL (T[a]'hc)) c) = 0 then _ else Q (nI (cB (tL (T[a]'hc)) c)) m
      rw [ec]
      have hlt : cB (tL (T[a]'hc)) b < 256 := by
        unfold cB
        split <;> omega
      by_cases h0 : cB (tL (T[a]'hc)) b = 0
      · rw [if_pos h0] at q
        rw [if_pos (by rw [h0]; rfl)]
        exact q
      · rw [if_neg h0] at q
        rw [if_neg (nI_ne0 (Nat.pos_of_ne_zero h0) (by omega))]
        exact q
    by_cases h8 : b ≤ 8
    · rw [if_pos (by rw [eight]; exact nI_le h8 (by decide))]
      exact fin b (by omega) rfl
    · rw [if_neg (by rw [eight]; exact nI_ge (by omega) hb), eight]
      refine fin 8 (by decide) ?_
      unfold cB
      rw [if_neg (by decide), if_neg (by omega)]
  · rw [if_neg (Int32.not_lt.mpr (nI_le (by omega) ha))]
    rw [lt2_none ha (by omega)] at q
    exact q
theorem aMv_none {L : List Fct} {P : List Tm} {i : Nat} (h : P.length ≤ i) (hm : mvOk L P i) : aMv L P i = [] := by
  rw [List.eq_nil_iff_forall_not_mem]
  intro x hx
  obtain ⟨r, hr, _⟩ := (hm.2.2 x).mp hx
  rw [List.getElem?_eq_none h] at hr
  cases hr
theorem pm_letter {N0 : Nat} {K : Nat → Nat} {d d2 C : Nat} {p0 p1 p2 : Int32} {s : cS} {G : gm_H} {sz : Nat} {m : mS} (hN : N0 ≤ C) (h : IV K C s G sz m) : kX11_letter N0 K (d + 2) C p0 p1 p2 s G sz (fun r => m_letter (d2 + 10) p0 p1 p2 m (fun r2 m' => r2 = r ∧ IV K C s G sz m')) := by
  have i0 := h.r0 0
  refine kX11_letter.of (TX11_letter_0 hN ?_)
  -- -1 for both
  have neg : ∀ v, v = -1 → ((mI m 0 0).1 5 = 0 ∨ p0 < 0 ∨ (3 : Int32) < p0 ∨ p1 < 0 ∨ p2 < 0) → m_letter (d2 + 10) p0 p1 p2 m (fun r2 m' => r2 = v ∧ IV K C s G sz m') := by
    intro v hv hz
    subst hv
    refine m_letter.of (T_letter_0 ?_)
    by_cases c1 : p0 < 0
    · rw [if_pos c1]
      exact ⟨rfl, i0⟩
    rw [if_neg c1]
    by_cases c2 : (3 : Int32) < p0
    · rw [if_pos c2]
      exact ⟨rfl, i0⟩
    rw [if_neg c2]
    by_cases c3 : p1 < 0
    · rw [if_pos c3]
      exact ⟨rfl, i0⟩
    rw [if_neg c3]
    by_cases c4 : p2 < 0
    · rw [if_pos c4]
      exact ⟨rfl, i0⟩
    rw [if_neg c4]
    have c5 : m.1 5 = 0 := by
      rcases hz with z | z | z | z | z
      · exact z
      · exact absurd z c1
      · exact absurd z c2
      · exact absurd z c3
      · exact absurd z c4
    rw [if_pos c5]
    exact ⟨rfl, i0⟩
  have neg2 : ∀ T : List Tm, (p1 < 0 ∨ p2 < 0) → m_letter (d2 + 10) p0 p1 p2 m (fun r2 m' => r2 = lt2 T p1 p2 ∧ IV K C s G sz m') := by
    intro T hz
    refine neg _ ?_ (Or.inr (Or.inr (Or.inr hz)))
    rcases hz with z | z
    · exact lt2_neg z
    · exact lt2_neg2 z
  rcases i0.2 with ⟨a, b⟩ | ⟨a, z, R, P, T1, T, L, X, b⟩
  · -- idle
    have row : ∀ (p n : Nat), posT p n → s.1 (20 * p + 1) = 0 → kX10_at N0 K (d + 1) C (C + p) p1 s G sz (fun r => kX9_character N0 K (d + 1) C r p2 s G sz (fun r5 => m_letter (d2 + 10) p0 p1 p2 m (fun r2 m' => r2 = r5 ∧ IV K C s G sz m'))) := by
      intro p n hp hz
      refine kq_letter (T := []) hp ⟨hz, fun i t ht => by simp at ht⟩ (Nat.zero_le _) (fun t ht => by simp at ht) ?_
      exact neg _ lt2_nil (Or.inl a)
    by_cases e0 : p0 = 0
    · exact Or.inl ⟨e0, row 17 24 pos17 b.2.1⟩
    by_cases e1 : p0 = 1
    · exact Or.inr (Or.inl ⟨e1, row 21 24 pos21 b.2.2.1⟩)
    by_cases e2 : p0 = 2
    · refine Or.inr (Or.inr (Or.inl ⟨e2, ?_⟩))
      rw [show p0 - (2 : Int32) = nI 0 by rw [e2]; decide]
      exact cq_movesOf (d := d) hN (by decide) (fun _ => ⟨_, (pos25.2.2 C s G).1, row 25 200 pos25 b.2.2.2.1⟩) (fun z => by omega)
    by_cases e3 : p0 = 3
    · refine Or.inr (Or.inr (Or.inr (Or.inl ⟨e3, ?_⟩)))
      rw [show p0 - (2 : Int32) = nI 1 by rw [e3]; decide]
      exact cq_movesOf (d := d) hN (by decide) (fun z => by omega) (fun _ => ⟨_, (pos27.2.2 C s G).1, row 27 200 pos27 b.2.2.2.2.1⟩)
    refine Or.inr (Or.inr (Or.inr (Or.inr ⟨?_, neg _ rfl (Or.inl a)⟩)))
    by_cases hp : p0 < 0
    · left
      exact Int32.lt_iff_toInt_lt.mp hp
    · right
      have hgt : (3 : Int32) < p0 → 3 < p0.toInt := fun z => Int32.lt_iff_toInt_lt.mp z
      refine hgt (Int32.not_le.mp (fun hp2 => ?_))
      obtain ⟨j, hj, e⟩ := nI_of2 (M := 3) (n := 3) rfl hp hp2
      have : j = 0 ∨ j = 1 ∨ j = 2 ∨ j = 3 := by omega
      rcases this with rfl | rfl | rfl | rfl
      · exact e0 e
      · exact e1 e
      · exact e2 e
      · exact e3 e
  · have hP := b.2.2.2.2.1
    have hC := b.1
    have sn := hC.2.2.2.2.1
    have hoT := b.2.2.2.2.2.2.1
    have h5 : ¬ m.1 5 = 0 := by rw [show m.1 5 = 1 from a]; decide
    have rowm : ∀ (i : Nat), i < 2 → p0 - (2 : Int32) = nI i → ¬ p0 < 0 → ¬ (3 : Int32) < p0 → ¬ p0 ≤ (1 : Int32) → p0 ≠ 0 → p0 ≠ (1 : Int32) → mvOk L P i → m_letter (d2 + 10) p0 p1 p2 m (fun r2 m' => r2 = lt2 (aMv L P i) p1 p2 ∧ IV K C s G sz m') := by
      intro i i2 e f1 f2 f3 f4 f5 hm
      by_cases c3 : p1 < 0
      · exact neg2 _ (Or.inl c3)
      by_cases c4 : p2 < 0
      · exact neg2 _ (Or.inr c4)
      refine m_letter.of (T_letter_0 ?_)
      rw [if_neg f1, if_neg f2, if_neg c3, if_neg c4, if_neg h5, if_neg f3, e]
      refine rq_isPlayer (d := d2 + 8) (n := P.length) a b.2.1.2.2.2.1.2 hP.2 (fun j ej j2 jP => ?_) (fun hno => ?_)
      · have eij : i = j := by
          have := congrArg Int32.toNatClampNeg ej
          rw [nI_clamp (by omega), nI_clamp (by omega)] at this
          exact this
        subst eij
        rw [if_neg (by decide)]
        refine rq_lookG (d := d2) i0.1 a b (fun m' L' f B' a' X' g' _ _ e' k' hs => ?_)
        have hr : P[i]? = some (P[i]'jP) := List.getElem?_eq_getElem jP
        refine rq_legal (d := d2 + 7) (i := i) g' e'.2.2.2 X'.2.1.2.2.2.1.1 hr hP.2 (hP.1.2 _ (List.mem_of_getElem? hr)) (fun m2 g2 t2 n2 k2 => ?_)
        rw [if_neg f4, if_neg f5]
        have gg : rgf m' m2 := g2.l.g
        refine rq_let (d := d2 + 8) (Q := fun r2 m' => r2 = lt2 (aMv L P i) p1 p2 ∧ IV K C s G sz m') (T := aMv L' P i) t2 n2 (by have := k2.2.1; omega) (by decide) k2.1.2 c3 c4 ⟨by rw [aMv_same hs], B'.r gg, Or.inr ⟨(gg.1 5 (by decide)).trans a', z, R, P, T1, T, L, X, X'.r gg (X'.2.2.1.c g2)⟩⟩
      · rw [if_pos rfl]
        have : P.length ≤ i := by
          rcases hno with z1 | z1 | z1
          · exact absurd z1 (nI_pos (by omega))
          · exact absurd z1 (nI_ge i2 (by decide))
          · exact Nat.le_of_not_lt (fun z => nI_ge z (by have := hP.2; omega) z1)
        rw [aMv_none this hm, lt2_nil]
        exact ⟨rfl, i0⟩
    by_cases e0 : p0 = 0
    · refine Or.inl ⟨e0, kq_letter pos17 hC.2.2.2.2.2.1 hP.2 hP.1.2 ?_⟩
      by_cases c3 : p1 < 0
      · exact neg2 _ (Or.inl c3)
      by_cases c4 : p2 < 0
      · exact neg2 _ (Or.inr c4)
      refine m_letter.of (T_letter_0 ?_)
      rw [if_neg (by rw [e0]; decide), if_neg (by rw [e0]; decide), if_neg c3, if_neg c4, if_neg h5, if_pos (by rw [e0]; decide)]
      refine rq_lookG (d := d2) i0.1 a b (fun m' L' f B' a' X' g' _ _ e' k' hs => ?_)
      rw [if_pos e0]
      exact rq_let (d := d2 + 8) (Q := fun r2 m' => r2 = lt2 P p1 p2 ∧ IV K C s G sz m') (T := P) X'.2.1.2.2.2.1.1 X'.2.1.2.2.2.1.2 hP.2 (by decide) hP.1.2 c3 c4 ⟨rfl, B', Or.inr ⟨a', z, R, P, T1, T, L, X, X'⟩⟩
    by_cases e1 : p0 = 1
    · refine Or.inr (Or.inl ⟨e1, kq_letter pos21 hC.2.2.2.2.2.2.2 hoT.2 hoT.1.2 ?_⟩)
      by_cases c3 : p1 < 0
      · exact neg2 _ (Or.inl c3)
      by_cases c4 : p2 < 0
      · exact neg2 _ (Or.inr c4)
      refine m_letter.of (T_letter_0 ?_)
      rw [if_neg (by rw [e1]; decide), if_neg (by rw [e1]; decide), if_neg c3, if_neg c4, if_neg h5, if_pos (by rw [e1]; decide)]
      refine rq_lookG (d := d2) i0.1 a b (fun m' L' f B' a' X' g' _ _ e' k' hs => ?_)
      rw [if_neg e0, if_pos e1]
      exact rq_let (d := d2 + 8) (Q := fun r2 m' => r2 = lt2 T p1 p2 ∧ IV K C s G sz m') (T := T) X'.2.1.2.1.1 X'.2.1.2.1.2 hoT.2 (by decide) hoT.1.2 c3 c4 ⟨rfl, B', Or.inr ⟨a', z, R, P, T1, T, L, X, X'⟩⟩
    by_cases e2 : p0 = 2
    · refine Or.inr (Or.inr (Or.inl ⟨e2, ?_⟩))
      have ee : p0 - (2 : Int32) = nI 0 := by rw [e2]; decide
      rw [ee]
      refine cq_movesOf (d := d) hN (by decide) (fun _ => ⟨_, (pos25.2.2 C s G).1, kq_letter pos25 sn.1.1 sn.2.1.1.2.1 sn.2.1.1.1.2 ?_⟩) (fun z => by omega)
      exact rowm 0 (by decide) ee (by rw [e2]; decide) (by rw [e2]; decide) (by rw [e2]; decide) e0 e1 sn.2.1.1
    by_cases e3 : p0 = 3
    · refine Or.inr (Or.inr (Or.inr (Or.inl ⟨e3, ?_⟩)))
      have ee : p0 - (2 : Int32) = nI 1 := by rw [e3]; decide
      rw [ee]
      refine cq_movesOf (d := d) hN (by decide) (fun z => by omega) (fun _ => ⟨_, (pos27.2.2 C s G).1, kq_letter pos27 sn.1.2 sn.2.1.2.2.1 sn.2.1.2.1.2 ?_⟩)
      exact rowm 1 (by decide) ee (by rw [e3]; decide) (by rw [e3]; decide) (by rw [e3]; decide) e0 e1 sn.2.1.2
    have hout : p0 < 0 ∨ (3 : Int32) < p0 := by
      by_cases hp : p0 < 0
      · exact Or.inl hp
      · right
        refine Int32.not_le.mp (fun hp2 => ?_)
        obtain ⟨j, hj, e⟩ := nI_of2 (M := 3) (n := 3) rfl hp hp2
        have : j = 0 ∨ j = 1 ∨ j = 2 ∨ j = 3 := by omega
        rcases this with rfl | rfl | rfl | rfl
        · exact e0 e
        · exact e1 e
        · exact e2 e
        · exact e3 e
    refine Or.inr (Or.inr (Or.inr (Or.inr ⟨?_, neg _ rfl (Or.inr ?_)⟩)))
    · rcases hout with z | z
      · exact Or.inl (Int32.lt_iff_toInt_lt.mp z)
      · exact Or.inr (Int32.lt_iff_toInt_lt.mp z)
    · rcases hout with z | z
      · exact Or.inl z
      · exact Or.inr (Or.inl z)
