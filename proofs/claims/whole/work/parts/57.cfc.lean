/-! the class: trace -/
theorem gRule.set {M : gm_H} {r z n : Nat} {f g : Nat → Int32} {x : Rl} (h : gRule M r x) (hz : M z = some (iarr n f)) : gRule (gm_set M z (iarr n g)) r x := by
  obtain ⟨ph, pb, pf, p1, p2, p3, p4, p5⟩ := h
  have no : ∀ {a : Nat} {y : Nat × List Value}, M a = some (.inr y) → a ≠ z := by
    intro a y ha e
    rw [e, hz] at ha
    cases ha
  have nb : pb ≠ z := by
    intro e
    rw [e, hz] at p3
    cases p3
  refine ⟨ph, pb, pf, (gm_set_ne (no p1)).trans p1, (gm_set_ne (no p2)).trans p2, (gm_set_ne nb).trans p3, p4, fun j y hy => ?_⟩
  obtain ⟨a, a1, a2⟩ := p5 j y hy
  exact ⟨a, a1, (gm_set_ne (no a2)).trans a2⟩
theorem gRules.set {M : gm_H} {q z n : Nat} {f g : Nat → Int32} {R : List Rl} {fa : Nat → Option Nat} (h : gRules M q R fa) (hz : M z = some (iarr n f)) (h0 : z ≠ q) (h1 : z ≠ q + 1) : gRules (gm_set M z (iarr n g)) q R fa := by
  obtain ⟨a1, a2, a3, a4⟩ := h
  refine ⟨(gm_set_ne (Ne.symm h0)).trans a1, (gm_set_ne (Ne.symm h1)).trans a2, a3, fun r x hx => ?_⟩
  obtain ⟨ad, b1, b2⟩ := a4 r x hx
  exact ⟨ad, b1, b2.set hz⟩
/-- the rules' object and its three rows of sets -/
def TrOk (C : Nat) (s : cS) (q : Nat) (R : List Rl) (fa : Nat → Option Nat) (sz : Nat) (G0 G : gm_H) (f2 f3 f4 : Nat → Int32) : Prop := gRules (bM C (cH C s) G) q R fa ∧ (bM C (cH C s) G (q + 2) = some (iarr 24 f2) ∧ bM C (cH C s) G (q + 3) = some (iarr 24 f3) ∧ bM C (cH C s) G (q + 4) = some (iarr 24 f4)) ∧ gm_bd G sz ∧ ∀ a, a ≠ q + 2 → a ≠ q + 3 → a ≠ q + 4 → G a = G0 a
theorem TrOk.s2 {C : Nat} {s : cS} {q : Nat} {R : List Rl} {fa : Nat → Option Nat} {sz : Nat} {G0 G : gm_H} {f2 f3 f4 g : Nat → Int32} (h : TrOk C s q R fa sz G0 G f2 f3 f4) (hq : C + 34 ≤ q) : TrOk C s q R fa sz G0 (gm_set G (q + 2) (iarr 24 g)) g f3 f4 := by
  obtain ⟨h1, ⟨h2, h3, h4⟩, h5, h6⟩ := h
  have e : bM C (cH C s) (gm_set G (q + 2) (iarr 24 g)) = gm_set (bM C (cH C s) G) (q + 2) (iarr 24 g) := (cG_set (by omega)).symm
  have h2' : G (q + 2) = some (iarr 24 f2) := by
    rw [bM_out (cG_out (by omega))] at h2
    exact h2
  refine ⟨by rw [e]; exact h1.set h2 (by omega) (by omega), ⟨by rw [e]; exact gm_set_eq, by rw [e, gm_set_ne (by omega)]; exact h3, by rw [e, gm_set_ne (by omega)]; exact h4⟩, h5.set h2', fun a a1 a2 a3 => (gm_set_ne a1).trans (h6 a a1 a2 a3)⟩
theorem TrOk.s3 {C : Nat} {s : cS} {q : Nat} {R : List Rl} {fa : Nat → Option Nat} {sz : Nat} {G0 G : gm_H} {f2 f3 f4 g : Nat → Int32} (h : TrOk C s q R fa sz G0 G f2 f3 f4) (hq : C + 34 ≤ q) : TrOk C s q R fa sz G0 (gm_set G (q + 3) (iarr 24 g)) f2 g f4 := by
  obtain ⟨h1, ⟨h2, h3, h4⟩, h5, h6⟩ := h
  have e : bM C (cH C s) (gm_set G (q + 3) (iarr 24 g)) = gm_set (bM C (cH C s) G) (q + 3) (iarr 24 g) := (cG_set (by omega)).symm
  have h3' : G (q + 3) = some (iarr 24 f3) := by
    rw [bM_out (cG_out (by omega))] at h3
    exact h3
  refine ⟨by rw [e]; exact h1.set h3 (by omega) (by omega), ⟨by rw [e, gm_set_ne (by omega)]; exact h2, by rw [e]; exact gm_set_eq, by rw [e, gm_set_ne (by omega)]; exact h4⟩, h5.set h3', fun a a1 a2 a3 => (gm_set_ne a2).trans (h6 a a1 a2 a3)⟩
theorem TrOk.s4 {C : Nat} {s : cS} {q : Nat} {R : List Rl} {fa : Nat → Option Nat} {sz : Nat} {G0 G : gm_H} {f2 f3 f4 g : Nat → Int32} (h : TrOk C s q R fa sz G0 G f2 f3 f4) (hq : C + 34 ≤ q) : TrOk C s q R fa sz G0 (gm_set G (q + 4) (iarr 24 g)) f2 f3 g := by
  obtain ⟨h1, ⟨h2, h3, h4⟩, h5, h6⟩ := h
  have e : bM C (cH C s) (gm_set G (q + 4) (iarr 24 g)) = gm_set (bM C (cH C s) G) (q + 4) (iarr 24 g) := (cG_set (by omega)).symm
  have h4' : G (q + 4) = some (iarr 24 f4) := by
    rw [bM_out (cG_out (by omega))] at h4
    exact h4
  refine ⟨by rw [e]; exact h1.set h4 (by omega) (by omega), ⟨by rw [e, gm_set_ne (by omega)]; exact h2, by rw [e, gm_set_ne (by omega)]; exact h3, by rw [e]; exact gm_set_eq⟩, h5.set h4', fun a a1 a2 a3 => (gm_set_ne a3).trans (h6 a a1 a2 a3)⟩
/-- those with the same head, and the heads in their bodies, as far as rule k and place i -/
def trA (R : List Rl) (k i i' j : Nat) : Prop := (j < k ∨ (j = k ∧ i' < i)) ∧ hd R j = hd R i'
def trU (R : List Rl) (k i i' j : Nat) : Prop := ∃ k', (k' < k ∨ (k' = k ∧ i' < i)) ∧ hd R k' = hd R i' ∧ asksR R k' j
theorem tr_23 {N0 : Nat} {K : Nat → Nat} {d C q k : Nat} {s : cS} {sz sl : Nat} {R : List Rl} {fa : Nat → Option Nat} {G0 : gm_H} {f4 : Nat → Int32} {v : Int32} {Q : Unit → gm_H → Nat → Nat → Prop} (hN : N0 ≤ C) (hq : C + 34 ≤ q) (hw : ∀ x ∈ R, wfR x) (hk : k < R.length) (hv : bs v (asksR R k)) (qq : ∀ G f2 f3, TrOk C s q R fa sz G0 G f2 f3 f4 → (∀ i, i < R.length → bs (f2 i) (trA R (k + 1) 0 i) ∧ bs (f3 i) (trU R (k + 1) 0 i)) → hX8_trace_2 N0 K d q (nI (k + 1)) (bM C (cH C s) G) sz sl Q) : ∀ (m i : Nat) (G : gm_H) (f2 f3 : Nat → Int32), i + m = R.length → TrOk C s q R fa sz G0 G f2 f3 f4 → (∀ i', i' < R.length → bs (f2 i') (trA R k i i') ∧ bs (f3 i') (trU R k i i')) → hX8_trace_23 N0 K d q (nI k) v (nI i) (bM C (cH C s) G) sz sl Q := by
  intro m
  induction m with
  | zero =>
    intro i G f2 f3 hi hT hb
    have h24 := hT.1.2.2.1
    refine TX8_trace_23 ⟨_, hT.1.1, nI R.length, rfl, ?_⟩
    rw [if_pos (nI_le (by omega) (by omega)), nI_1]
    refine qq G f2 f3 hT (fun i' hi' => ⟨(hb i' hi').1.iff (fun j => ?_), (hb i' hi').2.iff (fun j => ?_)⟩)
    · unfold trA
      constructor
      · intro z
        exact ⟨Or.inl (by omega), z.2⟩
      · intro z
        exact ⟨by omega, z.2⟩
    · unfold trU
      constructor
      · intro z
        obtain ⟨k', z1, z2⟩ := z
        exact ⟨k', Or.inl (by omega), z2⟩
      · intro z
        obtain ⟨k', z1, z2⟩ := z
        exact ⟨k', by omega, z2⟩
  | succ m ih =>
    intro i G f2 f3 hi hT hb
    obtain ⟨⟨g1, g2, g3, g4⟩, ⟨t2, t3, t4⟩, t5, t6⟩ := id hT
    have hi' : i < R.length := by omega
    have hxk : R[k]? = some R[k] := List.getElem?_eq_getElem hk
    have hxi : R[i]? = some R[i] := List.getElem?_eq_getElem hi'
    obtain ⟨ad, a1, ah, ab, af, a2, a3, a4⟩ := g4 k _ hxk
    obtain ⟨cd, c1, ch, cb, cf, c2, c3, c4⟩ := g4 i _ hxi
    obtain ⟨w1, w2, w3⟩ := wfR_head (hw _ (List.getElem_mem hk))
    obtain ⟨u1, u2, u3⟩ := wfR_head (hw _ (List.getElem_mem hi'))
    refine TX8_trace_23 ⟨_, g1, nI R.length, rfl, ?_⟩
    rw [if_neg (nI_ge (by omega) (by omega)), nI_1]
    refine ⟨q + 1, rfl, 24, fa, g2, by decide, k, rfl, by omega, ad, a1, _, a3, ah, rfl, _, a2, rn R[k].1.2.1 R[k].1.2.2.length, ?_, i, rfl, by omega, cd, c1, _, c3, ch, rfl, _, c2, rn R[i].1.2.1 R[i].1.2.2.length, ?_, ?_⟩
    · rw [lcell_rel, lr_head w3]
    · rw [lcell_rel, lr_head u3]
    · have hdk := hd_get hxk
      have hdi := hd_get hxi
      have eqv : rn R[k].1.2.1 R[k].1.2.2.length = rn R[i].1.2.1 R[i].1.2.2.length ↔ hd R k = hd R i := by
        rw [hdk, hdi]
        exact rn_inj (wfL_atom w1 w3).1 (wfL_atom u1 u3).1
      by_cases hc : hd R k = hd R i
      · rw [if_pos (eqv.mpr hc)]
        refine ⟨q + 2, rfl, 24, f2, t2, by decide, by omega, by omega, q + 3, rfl, 24, f3, (gm_set_ne (by omega)).trans t3, by decide, by omega, by omega, by omega, ?_⟩
        rw [cG_set (by omega), cG_set (by omega)]
        refine ih (i + 1) _ _ _ (by omega) ((hT.s2 (g := upd f2 i (f2 i ||| (1 : Int32) <<< (nI k &&& 31))) hq).s3 (g := upd f3 i (f3 i ||| v)) hq) ?_
        intro i' hi2
        by_cases e : i' = i
        · subst e
          rw [upd_eq, upd_eq]
          refine ⟨((hb i' hi2).1.or (bs_one (k := k) (by omega))).iff (fun j => ?_), ((hb i' hi2).2.or hv).iff (fun j => ?_)⟩
          · unfold trA
            constructor
            · intro z
              rcases z with z | z
              · exact ⟨by omega, z.2⟩
              · subst z
                exact ⟨Or.inr ⟨rfl, by omega⟩, hc⟩
            · intro z
              by_cases ej : j = k
              · exact Or.inr ej
              · exact Or.inl ⟨by omega, z.2⟩
          · unfold trU
            constructor
            · intro z
              rcases z with ⟨k', z1, z2⟩ | z
              · exact ⟨k', by omega, z2⟩
              · exact ⟨k, Or.inr ⟨rfl, by omega⟩, hc, z⟩
            · intro z
              obtain ⟨k', z1, z2, z3⟩ := z
              by_cases ek : k' = k
              · subst ek
                exact Or.inr z3
              · exact Or.inl ⟨k', by omega, z2, z3⟩
        · rw [upd_ne e, upd_ne e]
          refine ⟨(hb i' hi2).1.iff (fun j => ?_), (hb i' hi2).2.iff (fun j => ?_)⟩
          · unfold trA
            exact ⟨fun z => ⟨by omega, z.2⟩, fun z => ⟨by omega, z.2⟩⟩
          · unfold trU
            exact ⟨fun z => by obtain ⟨k', z1, z2⟩ := z; exact ⟨k', by omega, z2⟩, fun z => by obtain ⟨k', z1, z2⟩ := z; exact ⟨k', by omega, z2⟩⟩
      · rw [if_neg (fun z => hc (eqv.mp z))]
        refine ih (i + 1) G f2 f3 (by omega) hT ?_
        intro i' hi2
        refine ⟨(hb i' hi2).1.iff (fun j => ?_), (hb i' hi2).2.iff (fun j => ?_)⟩
        · unfold trA
          constructor
          · intro z
            exact ⟨by omega, z.2⟩
          · intro z
            refine ⟨?_, z.2⟩
            by_cases e : i' = i
            · by_cases ej : j = k
              · rw [ej, e] at z
                exact absurd z.2 hc
              · omega
            · omega
        · unfold trU
          constructor
          · intro z
            obtain ⟨k', z1, z2⟩ := z
            exact ⟨k', by omega, z2⟩
          · intro z
            obtain ⟨k', z1, z2⟩ := z
            refine ⟨k', ?_, z2⟩
            by_cases e : i' = i
            · by_cases ek : k' = k
              · rw [ek, e] at z2
                exact absurd z2.1 hc
              · omega
            · omega
theorem tr_2 {N0 : Nat} {K : Nat → Nat} {d C q : Nat} {s : cS} {sz sl : Nat} {R : List Rl} {fa : Nat → Option Nat} {G0 : gm_H} {f4 : Nat → Int32} {Q : Unit → gm_H → Nat → Nat → Prop} (hN : N0 ≤ C) (hq : C + 34 ≤ q) (hw : ∀ x ∈ R, wfR x) (qq : ∀ G f2 f3, TrOk C s q R fa sz G0 G f2 f3 f4 → (∀ i, i < R.length → bs (f2 i) (trA R R.length 0 i) ∧ bs (f3 i) (trU R R.length 0 i)) → hX8_trace_94 N0 K (d + 2) q 0 (bM C (cH C s) G) sz sl Q) : ∀ (m k : Nat) (G : gm_H) (f2 f3 : Nat → Int32), k + m = R.length → TrOk C s q R fa sz G0 G f2 f3 f4 → (∀ i', i' < R.length → bs (f2 i') (trA R k 0 i') ∧ bs (f3 i') (trU R k 0 i')) → hX8_trace_2 N0 K (d + 2) q (nI k) (bM C (cH C s) G) sz sl Q := by
  intro m
  induction m with
  | zero =>
    intro k G f2 f3 hk hT hb
    have h24 := hT.1.2.2.1
    refine TX8_trace_2 ⟨_, hT.1.1, nI R.length, rfl, ?_⟩
    rw [if_pos (nI_le (by omega) (by omega))]
    rw [show k = R.length by omega] at hb
    exact qq G f2 f3 hT hb
  | succ m ih =>
    intro k G f2 f3 hk hT hb
    have h24 := hT.1.2.2.1
    have hk' : k < R.length := by omega
    have hxk : R[k]? = some R[k] := List.getElem?_eq_getElem hk'
    refine TX8_trace_2 ⟨_, hT.1.1, nI R.length, rfl, ?_⟩
    rw [if_neg (nI_ge (by omega) (by omega))]
    obtain ⟨ad, a1, a2⟩ := hT.1.2.2.2 k _ hxk
    refine ⟨q + 1, rfl, 24, fa, hT.1.2.1, by decide, k, rfl, by omega, ad, a1, ?_⟩
    refine gq_headsIn hT.1 hw hxk a2 (fun v hv => ?_)
    exact tr_23 hN hq hw hk' hv (fun G f2 f3 b1 b2 => ih (k + 1) G f2 f3 (by omega) b1 b2) R.length 0 G f2 f3 (by omega) hT hb
/-- Warshall: by way of those below m -/
def wp (e : Nat → Nat → Prop) : Nat → Nat → Nat → Prop
  | 0, i, j => e i j
  | m + 1, i, j => wp e m i j ∨ (wp e m i m ∧ wp e m m j)
theorem wp_up {e : Nat → Nat → Prop} {i j : Nat} : ∀ {m n : Nat}, m ≤ n → wp e m i j → wp e n i j := by
  intro m n h
  induction n with
  | zero =>
    intro z
    rw [show m = 0 by omega] at z
    exact z
  | succ n ih =>
    intro z
    by_cases e1 : m = n + 1
    · rw [← e1]
      exact z
    · exact Or.inl (ih (by omega) z)
theorem wp_trans {e : Nat → Nat → Prop} : ∀ (m i j l : Nat), j < m → wp e m i j → wp e m j l → wp e m i l := by
  intro m
  induction m with
  | zero => intro i j l h; omega
  | succ m ih =>
    intro i j l hj h1 h2
    by_cases e1 : j = m
    · subst e1
      have a : wp e j i j := by
        rcases h1 with z | z
        · exact z
        · exact z.1
      have b : wp e j j l := by
        rcases h2 with z | z
        · exact z
        · exact z.2
      exact Or.inr ⟨a, b⟩
    · have hj' : j < m := by omega
      rcases h1 with a | ⟨a1, a2⟩
      · rcases h2 with b | ⟨b1, b2⟩
        · exact Or.inl (ih i j l hj' a b)
        · exact Or.inr ⟨ih i j m hj' a b1, b2⟩
      · rcases h2 with b | ⟨b1, b2⟩
        · exact Or.inr ⟨a1, ih m j l hj' a2 b⟩
        · exact Or.inr ⟨a1, b2⟩
theorem tr_104 {N0 : Nat} {K : Nat → Nat} {d C q k : Nat} {s : cS} {sz sl : Nat} {R : List Rl} {fa : Nat → Option Nat} {G0 : gm_H} {f2 f4 : Nat → Int32} {e : Nat → Nat → Prop} {Q : Unit → gm_H → Nat → Nat → Prop} (hN : N0 ≤ C) (hq : C + 34 ≤ q) (hk : k < R.length) (qq : ∀ G f3, TrOk C s q R fa sz G0 G f2 f3 f4 → (∀ i, i < R.length → bs (f3 i) (wp e (k + 1) i)) → hX8_trace_94 N0 K d q (nI (k + 1)) (bM C (cH C s) G) sz sl Q) : ∀ (m i : Nat) (G : gm_H) (f3 : Nat → Int32), i + m = R.length → TrOk C s q R fa sz G0 G f2 f3 f4 → (∀ i', i' < R.length → bs (f3 i') (wp e (if i' < i then k + 1 else k) i')) → hX8_trace_104 N0 K d q (nI k) (nI i) (bM C (cH C s) G) sz sl Q := by
  intro m
  induction m with
  | zero =>
    intro i G f3 hi hT hb
    have h24 := hT.1.2.2.1
    refine TX8_trace_104 ⟨_, hT.1.1, nI R.length, rfl, ?_⟩
    rw [if_pos (nI_le (by omega) (by omega)), nI_1]
    refine qq G f3 hT (fun i' hi' => ?_)
    have := hb i' hi'
    rw [if_pos (by omega)] at this
    exact this
  | succ m ih =>
    intro i G f3 hi hT hb
    have h24 := hT.1.2.2.1
    have hi' : i < R.length := by omega
    refine TX8_trace_104 ⟨_, hT.1.1, nI R.length, rfl, ?_⟩
    rw [if_neg (nI_ge (by omega) (by omega)), nI_1]
    refine ⟨q + 3, rfl, 24, f3, hT.2.1.2.1, by decide, i, rfl, by omega, ?_⟩
    have hbi := hb i hi'
    rw [if_neg (by omega)] at hbi
    have hbk : bs (f3 k) (wp e k k) := by
      have := hb k hk
      by_cases z : k < i
      · rw [if_pos z] at this
        refine this.iff (fun j => ⟨fun y => ?_, fun y => Or.inl y⟩)
        rcases y with y | y
        · exact y
        · exact y.2
      · rw [if_neg z] at this
        exact this
    have others : ∀ (g : Nat → Int32), bs (g i) (wp e (k + 1) i) → (∀ i', i' ≠ i → g i' = f3 i') → ∀ i', i' < R.length → bs (g i') (wp e (if i' < i + 1 then k + 1 else k) i') := by
      intro g hg hn i' hi2
      by_cases e1 : i' = i
      · subst e1
        rw [if_pos (by omega)]
        exact hg
      · rw [hn i' e1]
        have := hb i' hi2
        by_cases z : i' < i
        · rw [if_pos z] at this
          rw [if_pos (by omega)]
          exact this
        · rw [if_neg z] at this
          rw [if_neg (by omega)]
          exact this
    by_cases hc : wp e k i k
    · rw [if_neg (fun z => (hbi.test (k := k) (by omega)).mp z hc)]
      refine ⟨k, rfl, by omega, by omega, ?_⟩
      rw [cG_set (by omega)]
      refine ih (i + 1) _ _ (by omega) (hT.s3 (g := upd f3 i (f3 i ||| f3 k)) hq) (others _ ?_ (fun i' h => upd_ne h))
      rw [upd_eq]
      refine (hbi.or hbk).iff (fun j => ⟨fun y => ?_, fun y => ?_⟩)
      · rcases y with y | y
        · exact Or.inl y
        · exact Or.inr ⟨hc, y⟩
      · rcases y with y | y
        · exact Or.inl y
        · exact Or.inr y.2
    · rw [if_pos ((hbi.test (k := k) (by omega)).mpr hc)]
      refine ih (i + 1) G f3 (by omega) hT (others f3 ?_ (fun _ _ => rfl))
      refine hbi.iff (fun j => ⟨fun y => Or.inl y, fun y => ?_⟩)
      rcases y with y | y
      · exact y
      · exact absurd y.1 hc
theorem tr_94 {N0 : Nat} {K : Nat → Nat} {d C q : Nat} {s : cS} {sz sl : Nat} {R : List Rl} {fa : Nat → Option Nat} {G0 : gm_H} {f2 f4 : Nat → Int32} {e : Nat → Nat → Prop} {Q : Unit → gm_H → Nat → Nat → Prop} (hN : N0 ≤ C) (hq : C + 34 ≤ q) (qq : ∀ G f3, TrOk C s q R fa sz G0 G f2 f3 f4 → (∀ i, i < R.length → bs (f3 i) (wp e R.length i)) → hX8_trace_154 N0 K d q 0 (bM C (cH C s) G) sz sl Q) : ∀ (m k : Nat) (G : gm_H) (f3 : Nat → Int32), k + m = R.length → TrOk C s q R fa sz G0 G f2 f3 f4 → (∀ i', i' < R.length → bs (f3 i') (wp e k i')) → hX8_trace_94 N0 K d q (nI k) (bM C (cH C s) G) sz sl Q := by
  intro m
  induction m with
  | zero =>
    intro k G f3 hk hT hb
    have h24 := hT.1.2.2.1
    refine TX8_trace_94 ⟨_, hT.1.1, nI R.length, rfl, ?_⟩
    rw [if_pos (nI_le (by omega) (by omega))]
    rw [show k = R.length by omega] at hb
    exact qq G f3 hT hb
  | succ m ih =>
    intro k G f3 hk hT hb
    have h24 := hT.1.2.2.1
    refine TX8_trace_94 ⟨_, hT.1.1, nI R.length, rfl, ?_⟩
    rw [if_neg (nI_ge (by omega) (by omega))]
    refine tr_104 hN hq (by omega) (fun G f3 b1 b2 => ih (k + 1) G f3 (by omega) b1 b2) R.length 0 G f3 (by omega) hT (fun i' hi' => ?_)
    rw [if_neg (by omega)]
    exact hb i' hi'
/-- the keywords in the bodies of a set of rules -/
def trK (R : List Rl) (S : Nat → Prop) (m w : Nat) : Prop := w < 8 ∧ ∃ k x, k < m ∧ S k ∧ R[k]? = some x ∧ ∃ l ∈ x.2, l.1 ≠ 2 ∧ gm_ix l.2.1 = nI w
theorem tr_164 {N0 : Nat} {K : Nat → Nat} {d C q i : Nat} {s : cS} {sz sl : Nat} {R : List Rl} {fa : Nat → Option Nat} {G0 : gm_H} {f2 f3 : Nat → Int32} {S : Nat → Prop} {Q : Unit → gm_H → Nat → Nat → Prop} (hN : N0 ≤ C) (hq : C + 34 ≤ q) (hw : ∀ x ∈ R, wfR x) (hi : i < R.length) (hS : bs (f2 i ||| f3 i) S) {f40 : Nat → Int32} (qq : ∀ G f4, TrOk C s q R fa sz G0 G f2 f3 f4 → (∀ i', i' ≠ i → f4 i' = f40 i') → bs (f4 i) (trK R S R.length) → hX8_trace_154 N0 K (d + 1) q (nI (i + 1)) (bM C (cH C s) G) sz sl Q) : ∀ (m k : Nat) (G : gm_H) (f4 : Nat → Int32), k + m = R.length → TrOk C s q R fa sz G0 G f2 f3 f4 → (∀ i', i' ≠ i → f4 i' = f40 i') → bs (f4 i) (trK R S k) → hX8_trace_164 N0 K (d + 1) q (nI i) (nI k) (bM C (cH C s) G) sz sl Q := by
  intro m
  induction m with
  | zero =>
    intro k G f4 hk hT hn hb
    have h24 := hT.1.2.2.1
    refine TX8_trace_164 ⟨_, hT.1.1, nI R.length, rfl, ?_⟩
    rw [if_pos (nI_le (by omega) (by omega)), nI_1]
    rw [show k = R.length by omega] at hb
    exact qq G f4 hT hn hb
  | succ m ih =>
    intro k G f4 hk hT hn hb
    have h24 := hT.1.2.2.1
    have hk' : k < R.length := by omega
    have hxk : R[k]? = some R[k] := List.getElem?_eq_getElem hk'
    refine TX8_trace_164 ⟨_, hT.1.1, nI R.length, rfl, ?_⟩
    rw [if_neg (nI_ge (by omega) (by omega)), nI_1]
    refine ⟨q + 2, rfl, 24, f2, hT.2.1.1, by decide, i, rfl, by omega, q + 3, rfl, 24, f3, hT.2.1.2.1, by decide, by omega, ?_⟩
    by_cases hc : S k
    · rw [if_neg (fun z => (hS.test (k := k) (by omega)).mp z hc)]
      obtain ⟨ad, a1, ah, ab, af, a2, a3, a4⟩ := hT.1.2.2.2 k _ hxk
      refine ⟨q + 4, rfl, 24, f4, hT.2.1.2.2, by decide, by omega, q + 1, rfl, 24, fa, hT.1.2.1, by decide, k, rfl, by omega, ad, a1, _, a3, ?_⟩
      refine gq_keywords ⟨ah, ab, af, a2, a3, a4⟩ (hw _ (List.getElem_mem hk')) (fun v hv => ?_)
      refine ⟨24, f4, hT.2.1.2.2, by decide, by omega, by omega, ?_⟩
      rw [cG_set (by omega)]
      refine ih (k + 1) _ _ (by omega) (hT.s4 (g := upd f4 i (f4 i ||| v)) hq) (fun i' hi' => (upd_ne hi').trans (hn i' hi')) ?_
      rw [upd_eq]
      refine (hb.or hv).iff (fun w => ⟨fun y => ?_, fun y => ?_⟩)
      · rcases y with ⟨y1, k', x, y2, y3⟩ | ⟨y1, y2⟩
        · exact ⟨y1, k', x, by omega, y3⟩
        · exact ⟨y1, k, _, by omega, hc, hxk, y2⟩
      · obtain ⟨y1, k', x, y2, y3, y4, y5⟩ := y
        by_cases ek : k' = k
        · subst ek
          rw [hxk] at y4
          cases y4
          exact Or.inr ⟨y1, y5⟩
        · exact Or.inl ⟨y1, k', x, by omega, y3, y4, y5⟩
    · rw [if_pos ((hS.test (k := k) (by omega)).mpr hc)]
      refine ih (k + 1) G f4 (by omega) hT hn (hb.iff (fun w => ⟨fun y => ?_, fun y => ?_⟩))
      · obtain ⟨y1, k', x, y2, y3⟩ := y
        exact ⟨y1, k', x, by omega, y3⟩
      · obtain ⟨y1, k', x, y2, y3, y4⟩ := y
        by_cases ek : k' = k
        · subst ek
          exact absurd y3 hc
        · exact ⟨y1, k', x, by omega, y3, y4⟩
theorem tr_154 {N0 : Nat} {K : Nat → Nat} {d C q : Nat} {s : cS} {sz sl : Nat} {R : List Rl} {fa : Nat → Option Nat} {G0 : gm_H} {f2 f3 : Nat → Int32} {S : Nat → Nat → Prop} {Q : Unit → gm_H → Nat → Nat → Prop} (hN : N0 ≤ C) (hq : C + 34 ≤ q) (hw : ∀ x ∈ R, wfR x) (hS : ∀ i, i < R.length → bs (f2 i ||| f3 i) (S i)) (qq : ∀ G f4, TrOk C s q R fa sz G0 G f2 f3 f4 → (∀ i, i < R.length → bs (f4 i) (trK R (S i) R.length)) → Q () (bM C (cH C s) G) sz sl) : ∀ (m i : Nat) (G : gm_H) (f4 : Nat → Int32), i + m = R.length → TrOk C s q R fa sz G0 G f2 f3 f4 → (∀ i', i' < i → bs (f4 i') (trK R (S i') R.length)) → (∀ i', i ≤ i' → i' < R.length → f4 i' = 0) → hX8_trace_154 N0 K (d + 1) q (nI i) (bM C (cH C s) G) sz sl Q := by
  intro m
  induction m with
  | zero =>
    intro i G f4 hi hT hb hz
    have h24 := hT.1.2.2.1
    refine TX8_trace_154 ⟨_, hT.1.1, nI R.length, rfl, ?_⟩
    rw [if_pos (nI_le (by omega) (by omega))]
    exact qq G f4 hT (fun i' hi' => hb i' (by omega))
  | succ m ih =>
    intro i G f4 hi hT hb hz
    have h24 := hT.1.2.2.1
    refine TX8_trace_154 ⟨_, hT.1.1, nI R.length, rfl, ?_⟩
    rw [if_neg (nI_ge (by omega) (by omega))]
    refine tr_164 (S := S i) hN hq hw (by omega) (hS i (by omega)) (f40 := f4) (fun G f6 b1 b2 b3 => ?_) R.length 0 G f4 (by omega) hT (fun _ _ => rfl) ?_
    · refine ih (i + 1) G f6 (by omega) b1 (fun i' hi' => ?_) (fun i' h1 h2 => (b2 i' (by omega)).trans (hz i' (by omega) h2))
      by_cases e : i' = i
      · rw [e]
        exact b3
      · rw [b2 i' e]
        exact hb i' (by omega)
    · rw [hz i (Nat.le_refl _) (by omega)]
      exact bs_0.iff (fun w => ⟨fun z => z.elim, fun z => by obtain ⟨_, k, x, z2, _⟩ := z; omega⟩)
