/-! class and reference side by side: play -/
/-- an outcome of the class, the reference's answer and its mark -/
def oR (l : List (Nat × Int32)) (o : Outcome) (r : Int32) (m : mS) : Prop := (o = .returned (some (.int r)) ∧ m.1 0 = 0) ∨ ∃ (e : Nat) (k : Int32), (e, k) ∈ l ∧ o = .threw e ∧ m.1 0 = k
theorem BV.z {K : Nat → Nat} {C : Nat} {s : cS} {G : gm_H} {sz sz' : Nat} {m : mS} (h : BV K C s G sz m) (hz : sz ≤ sz') : BV K C s G sz' m := ⟨⟨h.1.1, h.1.2.1, fun a x ha => Nat.lt_of_lt_of_le (h.1.2.2.1 a x ha) hz, Nat.le_trans h.1.2.2.2 hz⟩, h.2⟩
theorem IV.z {K : Nat → Nat} {C : Nat} {s : cS} {G : gm_H} {sz sz' : Nat} {m : mS} (h : IV K C s G sz m) (hz : sz ≤ sz') : IV K C s G sz' m := ⟨h.1.z hz, h.2⟩
theorem GX.g {G : gm_H} {C z : Nat} {R : List Rl} {P T1 T T' : List Tm} {L L' : List Fct} {X : List Int32} {ps : Nat → Prop} {s s' : cS} {m : mS} (h : GX G C z R P T1 T L X s m) (g : gfr ps s s') (hp : ∀ p, ps p → p = 21 ∨ p = 23 ∨ p = 25 ∨ p = 27) (F : FS G C z R T' s' L') (M' : Mdl R (bT T') L') (k' : Small R L') (n' : SN s' L' P) (t' : tS s' 21 T') : CG G C z R P T1 T' L' s' ∧ AA G C R P T1 s' m := by
  obtain ⟨hC, hR, hf, hA, hP, h1, ho, hg, hr⟩ := h
  exact ⟨⟨(g.2.2 80 (by decide)).trans hC.1, F, M', k', n', hC.2.2.2.2.2.1.fr g (by decide) (fun q hq => by have := hp q hq; omega), hC.2.2.2.2.2.2.1.fr g (by decide) (fun q hq => by have := hp q hq; omega), t'⟩, hA.c g (fun q hq => by have := hp q hq; omega)⟩
theorem atT_cases {T : List Tm} {p : Int32} (hg : ∀ t ∈ T, gT t) (hl : T.length ≤ 200) : (atT T p = 0 ∧ (p < 0 ∨ (¬ p < 0 ∧ ¬ p < nI T.length))) ∨ (¬ atT T p = 0 ∧ ∃ (a : Nat) (t : Tm), p = nI a ∧ a < T.length ∧ T[a]? = some t ∧ gT t) := by
  unfold atT
  by_cases h0 : p < 0
  · rw [if_pos h0]
    exact Or.inl ⟨rfl, Or.inl h0⟩
  · obtain ⟨a, ha, e⟩ := nI_of h0
    subst e
    rw [if_neg h0, nI_clamp ha]
    by_cases hc : a < T.length
    · have ht : T[a]? = some (T[a]'hc) := List.getElem?_eq_getElem hc
      have hgt := hg _ (List.mem_of_getElem? ht)
      rw [ht]
      refine Or.inr ⟨?_, a, _, rfl, hc, ht, hgt⟩
      refine nI_ne0 (Nat.pos_of_ne_zero (fun z => ?_)) (tE_31 hgt)
      rcases hgt.1.shape with ⟨a', a1, a2, _, e1, e2⟩ | ⟨a', x, a1, a2, x1, x2, _, _, e1, e2⟩ | ⟨a', x, y, a1, a2, x1, x2, y1, y2, _, _, e1, e2⟩ | ⟨a', x, y, z', a1, a2, x1, x2, y1, y2, z1, z2, _, _, e1, e2⟩ <;> (rw [e1] at z; omega)
    · rw [List.getElem?_eq_none (by omega)]
      exact Or.inl ⟨rfl, Or.inr ⟨h0, Int32.not_lt.mpr (nI_le (by omega) ha)⟩⟩
def pfw (s s' : mS) : Prop := s'.1 = s.1 ∧ s'.2.1 = s.2.1 ∧ ∀ i, i ≠ 29 → s'.2.2 i = s.2.2 i
theorem rs_play170 {d : Nat} {T : List Tm} {s0 : mS} {Q : Int32 → mS → Prop} (hT : rT s0 33 0 T) (h34 : s0.1 34 = nI T.length) (hl : T.length ≤ 24) (q : ∀ s', pfw s0 s' → rT s' 29 0 T → Q (s0.1 30) s') : ∀ (m k : Nat) (s : mS), k + m = T.length → pfw s0 s → (∀ (i : Nat) t, i < k → T[i]? = some t → s.2.2 29 i = lN (tL t)) → h_play_170 d (nI k) s Q := by
  intro m
  induction m with
  | zero =>
    intro k s hk hf hv
    refine T_play_170 ?_
    rw [hf.1, h34, if_pos (nI_le (by omega) (by omega))]
    refine q _ hf (fun i t ht => ?_)
    rw [Nat.zero_add]
    have := (List.getElem?_eq_some_iff.mp ht).1
    exact hv i t (by omega) ht
  | succ m ih =>
    intro k s hk hf hv
    refine T_play_170 ?_
    rw [hf.1, h34, if_neg (nI_ge (by omega) (by omega))]
    refine ⟨k, rfl, by omega, ?_⟩
    rw [nI_1]
    refine ih (k + 1) _ (by omega) ⟨hf.1, hf.2.1, fun i hi => (if_neg hi).trans (hf.2.2 i hi)⟩ (fun i t hi ht => ?_)
    show vp_updL (s.2.2 29) k (s.2.2 33 k) i = lN (tL t)
    by_cases e : i = k
    · subst e
      rw [vl_eq, hf.2.2 33 (by decide)]
      have := hT i t ht
      rw [Nat.zero_add] at this
      exact this
    · rw [vl_ne e]
      exact hv i t (by omega) ht
theorem Reach.step {R : List Rl} {r0 r1 m0 m1 : Tm} {T1 T T' : List Tm} {L : List Fct} (hf : flNone R) (h : Reach R [r0, r1] T1 T) (M : Mdl R (bT T) L) (S : Small R L) (he : ¬ aEn L) (h0 : m0 ∈ aMv L [r0, r1] 0) (h1 : m1 ∈ aMv L [r0, r1] 1) (hn : aNx R T r0 m0 r1 m1 = some T') : Reach R [r0, r1] T1 T' := by
  obtain ⟨L0, a, b⟩ := vw_some hf M S
  have st : Stq R r0 r1 T T' := ⟨L0, m0, m1, a, fun z => he ((b _).mpr z), by rw [← aMv_same b]; exact h0, by rw [← aMv_same b]; exact h1, hn⟩
  rcases h with rfl | ⟨x0, x1, e, n, c⟩
  · exact Or.inr ⟨r0, r1, rfl, 1, T, rfl, st⟩
  · injection e with e1 e2
    injection e2 with e2 e3
    subst e1
    subst e2
    exact Or.inr ⟨r0, r1, rfl, n + 1, T, c, st⟩
