/-! the class: what trace finds; faults 4 and 5; placeOf -/
theorem trU_dep {R : List Rl} {i j : Nat} (hi : i < R.length) : trU R R.length 0 i j ↔ j < R.length ∧ dep1 R (hd R i) (hd R j) := by
  constructor
  · intro h
    obtain ⟨k', h1, h2, h3, x, h4, l, h5, h6, h7⟩ := h
    refine ⟨h3, x, List.mem_of_getElem? h4, ?_, l, h5, h6, h7⟩
    rw [← h2, hd_get h4]
  · intro h
    obtain ⟨h1, x, hx, h2, l, h5, h6, h7⟩ := h
    obtain ⟨k, hk, e⟩ := List.getElem_of_mem hx
    have e' : R[k]? = some x := by rw [List.getElem?_eq_getElem hk, e]
    exact ⟨k, Or.inl hk, by rw [hd_get e', h2], h1, x, e', l, h5, h6, h7⟩
theorem dep1_rule {R : List Rl} {x y : Nat} (h : dep1 R x y) : ∃ k, k < R.length ∧ hd R k = x := by
  obtain ⟨r, hr, e, _⟩ := h
  obtain ⟨k, hk, ek⟩ := List.getElem_of_mem hr
  exact ⟨k, hk, by rw [hd_get (show R[k]? = some r by rw [List.getElem?_eq_getElem hk, ek]), e]⟩
theorem Dep.rule {R : List Rl} {x y : Nat} (h : Dep R x y) : ∃ k, k < R.length ∧ hd R k = x := by
  obtain ⟨n, h⟩ := h
  cases n with
  | zero => exact dep1_rule h
  | succ n =>
    obtain ⟨z, h1, _⟩ := h
    exact dep1_rule h1
theorem Dep.last {R : List Rl} {x y : Nat} (h : Dep R x y) : ∃ z, (z = x ∨ Dep R x z) ∧ dep1 R z y := by
  obtain ⟨n, h⟩ := h
  induction n generalizing x with
  | zero => exact ⟨x, Or.inl rfl, h⟩
  | succ n ih =>
    obtain ⟨w, h1, h2⟩ := h
    obtain ⟨z, h3, h4⟩ := ih h2
    refine ⟨z, Or.inr ?_, h4⟩
    rcases h3 with h3 | h3
    · rw [h3]
      exact Dep.one h1
    · exact Dep.head h1 h3
theorem wp_Dep {R : List Rl} {i j : Nat} (hi : i < R.length) : wp (trU R R.length 0) R.length i j ↔ j < R.length ∧ Dep R (hd R i) (hd R j) := by
  constructor
  · have : ∀ m i j, i < R.length → wp (trU R R.length 0) m i j → j < R.length ∧ Dep R (hd R i) (hd R j) := by
      intro m
      induction m with
      | zero =>
        intro i j hi h
        have := (trU_dep hi).mp h
        exact ⟨this.1, Dep.one this.2⟩
      | succ m ih =>
        intro i j hi h
        rcases h with h | ⟨h1, h2⟩
        · exact ih i j hi h
        · have a := ih i m hi h1
          have b := ih m j a.1 h2
          exact ⟨b.1, a.2.trans b.2⟩
    exact this _ i j hi
  · intro h
    obtain ⟨hj, n, h⟩ := h
    induction n generalizing i with
    | zero => exact wp_up (Nat.zero_le _) ((trU_dep hi).mpr ⟨hj, h⟩)
    | succ n ih =>
      obtain ⟨z, h1, h2⟩ := h
      obtain ⟨p, hp, e⟩ := Dep.rule ⟨n, h2⟩
      rw [← e] at h1 h2
      have a : wp (trU R R.length 0) R.length i p := wp_up (Nat.zero_le _) ((trU_dep hi).mpr ⟨hp, h1⟩)
      exact wp_trans _ _ _ _ hp a (ih hp h2)
/-- what trace has found -/
def trDone (R : List Rl) (f2 f3 f4 : Nat → Int32) : Prop := ∀ i, i < R.length → bs (f2 i) (fun k => k < R.length ∧ hd R k = hd R i) ∧ bs (f3 i) (fun k => k < R.length ∧ Dep R (hd R i) (hd R k)) ∧ bs (f4 i) (fun w => w < 8 ∧ ∃ r ∈ R, reach R (hd R i) r ∧ ∃ l ∈ r.2, l.1 ≠ 2 ∧ gm_ix l.2.1 = nI w)
theorem kq_trace {N0 : Nat} {K : Nat → Nat} {d C q : Nat} {s : cS} {sz : Nat} {R : List Rl} {fa : Nat → Option Nat} {G : gm_H} {Q : Unit → gm_H → Prop} (hN : N0 ≤ C) (hq : C + 34 ≤ q) (hw : ∀ x ∈ R, wfR x) (hT : TrOk C s q R fa sz G G (fun _ => 0) (fun _ => 0) (fun _ => 0)) (qq : ∀ G' f2 f3 f4, TrOk C s q R fa sz G G' f2 f3 f4 → trDone R f2 f3 f4 → Q () G') : kX8_trace_g N0 K (d + 3) C q s G sz Q := by
  refine gC.mono (gX8_trace.of (Q := fun _ M' sz' dd => ∃ G' f2 f3 f4, M' = bM C (cH C s) G' ∧ sz' = sz ∧ dd = 0 ∧ TrOk C s q R fa sz G G' f2 f3 f4 ∧ trDone R f2 f3 f4) (TX8_trace_0 ?_)) ?_
  · refine tr_2 (G0 := G) (fa := fa) hN hq hw (fun G1 f2 f3 b1 b2 => ?_) R.length 0 G _ _ (by omega) hT (fun i hi => ⟨bs_0.iff (fun j => ⟨fun z => z.elim, fun z => ?_⟩), bs_0.iff (fun j => ⟨fun z => z.elim, fun z => ?_⟩)⟩)
    · refine tr_94 (e := trU R R.length 0) hN hq (fun G2 f3' c1 c2 => ?_) R.length 0 G1 f3 (by omega) b1 (fun i hi => (b2 i hi).2)
      have hS : ∀ i, i < R.length → bs (f2 i ||| f3' i) (fun k => k < R.length ∧ (hd R k = hd R i ∨ Dep R (hd R i) (hd R k))) := by
        intro i hi
        refine ((b2 i hi).1.or (c2 i hi)).iff (fun k => ?_)
        rw [wp_Dep hi]
        unfold trA
        constructor
        · intro z
          rcases z with z | z
          · exact ⟨by omega, Or.inl z.2⟩
          · exact ⟨z.1, Or.inr z.2⟩
        · intro z
          rcases z.2 with y | y
          · exact Or.inl ⟨Or.inl z.1, y⟩
          · exact Or.inr ⟨z.1, y⟩
      refine tr_154 (S := fun i k => k < R.length ∧ (hd R k = hd R i ∨ Dep R (hd R i) (hd R k))) hN hq hw hS (fun G3 f4 d1 d2 => ?_) R.length 0 G2 _ (by omega) c1 (fun i' hi' => absurd hi' (by omega)) (fun _ _ _ => rfl)
      refine ⟨G3, f2, f3', f4, rfl, rfl, rfl, d1, fun i hi => ⟨(b2 i hi).1.iff (fun k => ?_), (c2 i hi).iff (fun k => wp_Dep hi), (d2 i hi).iff (fun w => ?_)⟩⟩
      · unfold trA
        exact ⟨fun z => ⟨by omega, z.2⟩, fun z => ⟨Or.inl z.1, z.2⟩⟩
      · constructor
        · intro z
          obtain ⟨z1, k, x, z2, z3, z4, z5⟩ := z
          refine ⟨z1, x, List.mem_of_getElem? z4, ?_, z5⟩
          rw [hd_get z4] at z3
          exact z3.2
        · intro z
          obtain ⟨z1, x, z2, z3, z5⟩ := z
          obtain ⟨k, hk, ek⟩ := List.getElem_of_mem z2
          have e : R[k]? = some x := by rw [List.getElem?_eq_getElem hk, ek]
          refine ⟨z1, k, x, hk, ⟨hk, ?_⟩, e, z5⟩
          rw [hd_get e]
          exact z3
    · unfold trA at z
      omega
    · obtain ⟨k', z1, _⟩ := z
      omega
  · intro r M' sz' dd h
    obtain ⟨G', f2, f3, f4, rfl, rfl, rfl, h1, h2⟩ := h
    exact ⟨s, G', rfl, rfl, rfl, rfl, qq G' f2 f3 f4 h1 h2⟩
theorem flt4_iff {R : List Rl} {i : Nat} {x : Rl} (hx : R[i]? = some x) : flt4 R x ↔ ∃ l ∈ x.2, l.1 = 1 ∧ ∃ k, k < R.length ∧ hd R k = lk l ∧ Dep R (hd R k) (hd R i) := by
  have hi : i < R.length := (List.getElem?_eq_some_iff.mp hx).1
  unfold flt4
  rw [hd_get hx]
  constructor
  · intro h
    obtain ⟨l, h1, h2, h3⟩ := h
    refine ⟨l, h1, h2, ?_⟩
    rcases h3 with h3 | h3
    · refine ⟨i, hi, by rw [hd_get hx, h3], ?_⟩
      rw [hd_get hx]
      exact Dep.one ⟨x, List.mem_of_getElem? hx, rfl, l, h1, by rw [h2]; decide, h3⟩
    · obtain ⟨k, hk, e⟩ := Dep.rule h3
      exact ⟨k, hk, e, by rw [e]; exact h3⟩
  · intro h
    obtain ⟨l, h1, h2, k, h3, h4, h5⟩ := h
    exact ⟨l, h1, h2, Or.inr (by rw [← h4]; exact h5)⟩
theorem gs_den_30 {N0 : Nat} {K : Nat → Nat} {d q i j a : Nat} {M : gm_H} {sz sl : Nat} {R : List Rl} {fa : Nat → Option Nat} {f2 f3 f4 : Nat → Int32} {y : Lt} {Q : Int32 → Prop} (hR : gRules M q R fa) (h3 : M (q + 3) = some (iarr 24 f3)) (hD : trDone R f2 f3 f4) (hw : ∀ x ∈ R, wfR x) (hi : i < R.length) (ha : M a = some (.inr (5, lcell y))) (hy : wfL y) (q1 : y.1 = 1 → (∃ k, k < R.length ∧ hd R k = lk y ∧ Dep R (hd R k) (hd R i)) → Q 1) (q0 : ¬ (y.1 = 1 ∧ ∃ k, k < R.length ∧ hd R k = lk y ∧ Dep R (hd R k) (hd R i)) → hX8_deniesItself_2 N0 K d q (nI i) (nI (j + 1)) M sz sl Q) : ∀ (m k : Nat), k + m = R.length → (∀ k', k' < k → y.1 = 1 → ¬ (hd R k' = lk y ∧ Dep R (hd R k') (hd R i))) → hX8_deniesItself_30 N0 K d q (nI i) (nI j) a (nI k) M sz sl Q := by
  obtain ⟨g1, g2, g3, g4⟩ := hR
  intro m
  induction m with
  | zero =>
    intro k hk hno
    refine TX8_deniesItself_30 ⟨_, g1, nI R.length, rfl, ?_⟩
    rw [if_pos (nI_le (by omega) (by omega)), nI_1]
    refine q0 (fun z => ?_)
    obtain ⟨z1, k', z2, z3⟩ := z
    exact hno k' (by omega) z1 z3
  | succ m ih =>
    intro k hk hno
    have hk' : k < R.length := by omega
    have hxk : R[k]? = some R[k] := List.getElem?_eq_getElem hk'
    refine TX8_deniesItself_30 ⟨_, g1, nI R.length, rfl, ?_⟩
    rw [if_neg (nI_ge (by omega) (by omega)), nI_1]
    refine ⟨_, ha, y.1, rfl, ?_⟩
    by_cases h1 : y.1 = 1
    · rw [if_pos h1]
      have h2 : y.1 ≠ 2 := by rw [h1]; decide
      obtain ⟨ad, a1, ah, ab, af, a2, a3, a4⟩ := g4 k _ hxk
      obtain ⟨w1, w2, w3⟩ := wfR_head (hw _ (List.getElem_mem hk'))
      refine ⟨q + 1, rfl, 24, fa, g2, by decide, k, rfl, by omega, ad, a1, _, a3, ah, rfl, _, a2, rn R[k].1.2.1 R[k].1.2.2.length, ?_, rn y.2.1 y.2.2.length, ?_, ?_⟩
      · rw [lcell_rel, lr_head w3]
      · rw [lcell_rel, lr_head h2]
      · have eqv : rn R[k].1.2.1 R[k].1.2.2.length = rn y.2.1 y.2.2.length ↔ hd R k = lk y := by
          rw [hd_get hxk]
          exact rn_inj (wfL_atom w1 w3).1 (wfL_atom hy h2).1
        have next : ¬ (hd R k = lk y ∧ Dep R (hd R k) (hd R i)) → hX8_deniesItself_30 N0 K d q (nI i) (nI j) a (nI (k + 1)) M sz sl Q := by
          intro hn
          refine ih (k + 1) (by omega) (fun k' hk2 hy1 => ?_)
          by_cases e : k' = k
          · rw [e]
            exact hn
          · exact hno k' (by omega) hy1
        by_cases hc : hd R k = lk y
        · rw [if_pos (eqv.mpr hc)]
          refine ⟨q + 3, rfl, 24, f3, h3, by decide, by omega, ?_⟩
          have hb := (hD k hk').2.1
          by_cases hd2 : Dep R (hd R k) (hd R i)
          · rw [if_neg (fun z => (hb.test (k := i) (by omega)).mp z ⟨hi, hd2⟩)]
            exact q1 h1 ⟨k, hk', hc, hd2⟩
          · rw [if_pos ((hb.test (k := i) (by omega)).mpr (fun z => hd2 z.2))]
            exact next (fun z => hd2 z.2)
        · rw [if_neg (fun z => hc (eqv.mp z))]
          exact next (fun z => hc z.1)
    · rw [if_neg h1, nI_1]
      exact q0 (fun z => h1 z.1)
theorem gs_den_2 {N0 : Nat} {K : Nat → Nat} {d q i : Nat} {M : gm_H} {sz sl : Nat} {R : List Rl} {fa : Nat → Option Nat} {f2 f3 f4 : Nat → Int32} {x : Rl} {Q : Int32 → Prop} (hR : gRules M q R fa) (h3 : M (q + 3) = some (iarr 24 f3)) (hD : trDone R f2 f3 f4) (hw : ∀ x ∈ R, wfR x) (hx : R[i]? = some x) (q1 : flt4 R x → Q 1) (q0 : ¬ flt4 R x → Q 0) : ∀ (m j : Nat), j + m = x.2.length → (∀ j' l, j' < j → x.2[j']? = some l → ¬ (l.1 = 1 ∧ ∃ k, k < R.length ∧ hd R k = lk l ∧ Dep R (hd R k) (hd R i))) → hX8_deniesItself_2 N0 K d q (nI i) (nI j) M sz sl Q := by
  have hi : i < R.length := (List.getElem?_eq_some_iff.mp hx).1
  have hR' := hR
  obtain ⟨g1, g2, g3, g4⟩ := hR
  obtain ⟨ad, a1, ah, ab, af, a2, a3, a4, a5, a6⟩ := g4 i _ hx
  have hwx := hw x (List.mem_of_getElem? hx)
  intro m
  induction m with
  | zero =>
    intro j hj hno
    refine TX8_deniesItself_2 ⟨_, g1, q + 1, rfl, 24, fa, g2, by decide, i, rfl, by omega, ad, a1, _, a3, nI x.2.length, rfl, ?_⟩
    rw [if_pos (nI_le (by omega) (by omega))]
    refine q0 (fun z => ?_)
    obtain ⟨l, hl, z⟩ := (flt4_iff hx).mp z
    obtain ⟨j', hj', e⟩ := List.getElem_of_mem hl
    exact hno j' l (by omega) (by rw [List.getElem?_eq_getElem hj', e]) z
  | succ m ih =>
    intro j hj hno
    have hj' : j < x.2.length := by omega
    have hxj : x.2[j]? = some x.2[j] := List.getElem?_eq_getElem hj'
    refine TX8_deniesItself_2 ⟨_, g1, q + 1, rfl, 24, fa, g2, by decide, i, rfl, by omega, ad, a1, _, a3, nI x.2.length, rfl, ?_⟩
    rw [if_neg (nI_ge (by omega) (by omega))]
    obtain ⟨la, l1, l2⟩ := a6 j _ hxj
    refine ⟨ad, a1, _, a3, ab, rfl, 5, af, a4, by decide, j, rfl, by omega, la, l1, ?_⟩
    refine gs_den_30 hR' h3 hD hw hi l2 (hwx.2.2 _ (List.getElem_mem hj')) (fun z1 z2 => q1 ((flt4_iff hx).mpr ⟨_, List.getElem_mem hj', z1, z2⟩)) (fun hn => ih (j + 1) (by omega) (fun j' l hl1 hl2 => ?_)) R.length 0 (by omega) (fun k' hk' => absurd hk' (by omega))
    by_cases e : j' = j
    · subst e
      rw [hxj] at hl2
      cases hl2
      exact hn
    · exact hno j' l (by omega) hl2
theorem kw_dep {R : List Rl} (hw : ∀ x ∈ R, wfR x) {x w t : Nat} (hwk : w < 8) (ht : ∀ l : Lt, wfL l → l.1 ≠ 2 → (gm_ix l.2.1 = nI w ↔ lk l = t)) : (w < 8 ∧ ∃ r ∈ R, reach R x r ∧ ∃ l ∈ r.2, l.1 ≠ 2 ∧ gm_ix l.2.1 = nI w) ↔ Dep R x t := by
  constructor
  · intro h
    obtain ⟨_, r, hr, h1, l, h2, h3, h4⟩ := h
    have e := (ht l ((hw r hr).2.2 l h2) h3).mp h4
    have d1 : dep1 R (lk r.1) t := ⟨r, hr, rfl, l, h2, h3, e⟩
    rcases h1 with h1 | h1
    · rw [← h1]
      exact Dep.one d1
    · exact h1.tail d1
  · intro h
    obtain ⟨z, h1, r, hr, h2, l, h3, h4, h5⟩ := h.last
    refine ⟨hwk, r, hr, ?_, l, h3, h4, (ht l ((hw r hr).2.2 l h3) h4).mpr h5⟩
    unfold reach
    rw [h2]
    exact h1
theorem kw_lk {w : Nat} {c : Int32} {t n : Nat} (hwk : w < 8) (hc : ([82, 73, 84, 78, 68, 76, 71, 69] : List Int32).getD w 0 = c) (hk : chK c = nI n) (hn : n ≤ 3) (ht : t = 4 * cn c + n) (l : Lt) (hl : wfL l) (h2 : l.1 ≠ 2) : gm_ix l.2.1 = nI w ↔ lk l = t := by
  have ha := (wfL_atom hl h2).1
  rw [ix_kw hwk, hc, ht]
  have hln := ha.2.1
  obtain ⟨m, m1, m2, m3⟩ := wfA_nat ha
  constructor
  · intro e
    have : gm_ix l.2.1 = nI w := (ix_kw hwk).mpr (e.trans hc.symm)
    have hlen := wf_kw_len ha hwk this
    rw [e, hk, nI_eq (by omega) (by omega)] at hlen
    unfold lk
    rw [e, hlen]
  · intro e
    unfold lk at e
    have hcn : cn c < 128 ∧ c = nI (cn c) := by
      match w, hwk, hc with
      | 0, _, hc => rw [← hc]; decide
      | 1, _, hc => rw [← hc]; decide
      | 2, _, hc => rw [← hc]; decide
      | 3, _, hc => rw [← hc]; decide
      | 4, _, hc => rw [← hc]; decide
      | 5, _, hc => rw [← hc]; decide
      | 6, _, hc => rw [← hc]; decide
      | 7, _, hc => rw [← hc]; decide
    rw [m3, cn_nI m2] at e
    rw [m3, hcn.2]
    rw [show m = cn c by omega]
theorem gq_looksAhead {N0 : Nat} {K : Nat → Nat} {d q i : Nat} {M : gm_H} {sz : Nat} {R : List Rl} {fa : Nat → Option Nat} {f2 f3 f4 : Nat → Int32} {x : Rl} {Q : Int32 → gm_H → Nat → Nat → Prop} (hR : gRules M q R fa) (h4 : M (q + 4) = some (iarr 24 f4)) (hD : trDone R f2 f3 f4) (hw : ∀ x ∈ R, wfR x) (hx : R[i]? = some x) (q1 : flt5 R x → Q 1 M sz 0) (q0 : ¬ flt5 R x → Q 0 M sz 0) : gX8_looksAhead N0 K (d + 1) q (nI i) M sz Q := by
  have hi : i < R.length := (List.getElem?_eq_some_iff.mp hx).1
  obtain ⟨g1, g2, g3, g4⟩ := hR
  obtain ⟨ad, a1, ah, ab, af, a2, a3, a4, a5, a6⟩ := g4 i _ hx
  obtain ⟨w1, w2, w3⟩ := wfR_head (hw x (List.mem_of_getElem? hx))
  have ha := (wfL_atom w1 w3).1
  have hb := (hD i hi).2.2
  rw [hd_get hx] at hb
  have k4 := kw_dep (R := R) (x := lk x.1) (w := 4) (t := 274) hw (by decide) (kw_lk (c := 68) (n := 2) (by decide) rfl rfl (by decide) rfl)
  have k2 := kw_dep (R := R) (x := lk x.1) (w := 2) (t := 337) hw (by decide) (kw_lk (c := 84) (n := 1) (by decide) rfl rfl (by decide) rfl)
  have k5 := kw_dep (R := R) (x := lk x.1) (w := 5) (t := 306) hw (by decide) (kw_lk (c := 76) (n := 2) (by decide) rfl rfl (by decide) rfl)
  have k6 := kw_dep (R := R) (x := lk x.1) (w := 6) (t := 286) hw (by decide) (kw_lk (c := 71) (n := 2) (by decide) rfl rfl (by decide) rfl)
  have k7 := kw_dep (R := R) (x := lk x.1) (w := 7) (t := 276) hw (by decide) (kw_lk (c := 69) (n := 0) (by decide) rfl rfl (by decide) rfl)
  have b16 : f4 i &&& (16 : Int32) = 0 ↔ ¬ Dep R (lk x.1) 274 := by
    rw [show (16 : Int32) = nI 16 from rfl, hb.mask (by decide)]
    constructor
    · intro z y
      exact z 4 ⟨k4.mpr y, by decide⟩
    · intro z k hk
      have h16 : ∀ k : Nat, k < 8 → Nat.testBit 16 k = true → k = 4 := by decide
      have := h16 k hk.1.1 hk.2
      subst this
      exact z (k4.mp hk.1)
  have b244 : f4 i &&& (244 : Int32) = 0 ↔ ¬ (Dep R (lk x.1) 274 ∨ Dep R (lk x.1) 337 ∨ Dep R (lk x.1) 306 ∨ Dep R (lk x.1) 286 ∨ Dep R (lk x.1) 276) := by
    rw [show (244 : Int32) = nI 244 from rfl, hb.mask (by decide)]
    constructor
    · intro z y
      rcases y with y | y | y | y | y
      · exact z 4 ⟨k4.mpr y, by decide⟩
      · exact z 2 ⟨k2.mpr y, by decide⟩
      · exact z 5 ⟨k5.mpr y, by decide⟩
      · exact z 6 ⟨k6.mpr y, by decide⟩
      · exact z 7 ⟨k7.mpr y, by decide⟩
    · intro z k hk
      have h244 : ∀ k : Nat, k < 8 → Nat.testBit 244 k = true → k = 2 ∨ k = 4 ∨ k = 5 ∨ k = 6 ∨ k = 7 := by decide
      have y := hk.1
      rcases h244 k hk.1.1 hk.2 with e | e | e | e | e
      · subst e; exact z (Or.inr (Or.inl (k2.mp y)))
      · subst e; exact z (Or.inl (k4.mp y))
      · subst e; exact z (Or.inr (Or.inr (Or.inl (k5.mp y))))
      · subst e; exact z (Or.inr (Or.inr (Or.inr (Or.inl (k6.mp y)))))
      · subst e; exact z (Or.inr (Or.inr (Or.inr (Or.inr (k7.mp y)))))
  refine gC.pure (gX8_looksAhead.of (Q := fun r => Q r M sz 0) (TX8_looksAhead_0 ⟨_, g1, q + 1, rfl, 24, fa, g2, by decide, i, rfl, by omega, ad, a1, _, a3, ah, rfl, _, a2, rn x.1.2.1 x.1.2.2.length, ?_, ?_⟩))
  · rw [lcell_rel, lr_head w3]
  · have lge : (x.1.2.1 = 76 ∨ x.1.2.1 = 71 ∨ x.1.2.1 = 69) → ¬ x.1.2.1 = 73 → ∃ r14 : Nat, ((qcell q R.length)[4]? = some (Value.ref r14)) ∧ (∃ na16 : Nat, ∃ fa16 : Nat → Int32, (M r14 = some (.inl (.int, na16, .inl fa16))) ∧ ((na16 < 2 ^ 31) ∧ ((i < na16) ∧ (if ((fa16 i) &&& (16 : Int32)) = 0 then (Q 0 M sz 0) else (Q 1 M sz 0))))) := by
      intro hc hn
      refine ⟨q + 4, rfl, 24, f4, h4, by decide, by omega, ?_⟩
      by_cases z : f4 i &&& (16 : Int32) = 0
      · rw [if_pos z]
        refine q0 (fun y => ?_)
        rcases y with y | y
        · exact hn y.1
        · exact b16.mp z y.2
      · rw [if_neg z]
        exact q1 (Or.inr ⟨hc, Classical.byContradiction (fun y => z (b16.mpr y))⟩)
    by_cases c1 : x.1.2.1 = 73
    · refine Or.inl ⟨(rn_kw (k := 1) ha (by decide)).mpr c1, q + 4, rfl, 24, f4, h4, by decide, by omega, ?_⟩
      by_cases z : f4 i &&& (244 : Int32) = 0
      · rw [if_pos z]
        refine q0 (fun y => ?_)
        rcases y with y | y
        · exact b244.mp z y.2
        · exact b244.mp z (Or.inl y.2)
      · rw [if_neg z]
        exact q1 (Or.inl ⟨c1, Classical.byContradiction (fun y => z (b244.mpr y))⟩)
    · by_cases c5 : x.1.2.1 = 76
      · exact Or.inr (Or.inr (Or.inr (Or.inr (Or.inl ⟨(rn_kw (k := 5) ha (by decide)).mpr c5, lge (Or.inl c5) c1⟩))))
      · by_cases c6 : x.1.2.1 = 71
        · exact Or.inr (Or.inr (Or.inr (Or.inr (Or.inr (Or.inl ⟨(rn_kw (k := 6) ha (by decide)).mpr c6, lge (Or.inr (Or.inl c6)) c1⟩)))))
        · by_cases c7 : x.1.2.1 = 69
          · exact Or.inr (Or.inr (Or.inr (Or.inr (Or.inr (Or.inr (Or.inl ⟨(rn_kw (k := 7) ha (by decide)).mpr c7, lge (Or.inr (Or.inr c7)) c1⟩))))))
          · have no : Q 0 M sz 0 := q0 (fun y => y.elim (fun y => c1 y.1) (fun y => y.1.elim c5 (fun y => y.elim c6 c7)))
            have hln := ha.2.1
            rcases rn_cases ha with ⟨k, k1, kk2, k3⟩ | ⟨k, k1, kk2, k3, kk4, kk5⟩
            · rw [kk2]
              have hne : ∀ j, j < 8 → x.1.2.1 ≠ ([82, 73, 84, 78, 68, 76, 71, 69] : List Int32).getD j 0 → k ≠ j := by
                intro j hj hne e
                subst e
                exact hne ((ix_kw k1).mp k3)
              have e1 := hne 1 (by decide) c1
              have e5 := hne 5 (by decide) c5
              have e6 := hne 6 (by decide) c6
              have e7 := hne 7 (by decide) c7
              have hk4 : k = 0 ∨ k = 2 ∨ k = 3 ∨ k = 4 := by omega
              rcases hk4 with e | e | e | e
              · rw [e]; exact Or.inr (Or.inr (Or.inr (Or.inr (Or.inr (Or.inr (Or.inr ⟨by decide, no⟩))))))
              · rw [e]; exact Or.inr (Or.inl ⟨rfl, no⟩)
              · rw [e]; exact Or.inr (Or.inr (Or.inl ⟨rfl, no⟩))
              · rw [e]; exact Or.inr (Or.inr (Or.inr (Or.inl ⟨rfl, no⟩)))
            · rw [kk4]
              exact Or.inr (Or.inr (Or.inr (Or.inr (Or.inr (Or.inr (Or.inr ⟨Or.inr (by rw [nI_toInt (by omega)]; omega), no⟩))))))
theorem gs_place_2 {N0 : Nat} {K : Nat → Nat} {d q fk : Nat} {M : gm_H} {sz sl : Nat} {R : List Rl} {fa : Nat → Option Nat} {f2 f3 f4 : Nat → Int32} {Q : Int32 → gm_H → Nat → Nat → Prop} (hf : 2 ≤ fk) (hf6 : fk < 6) (hR : gRules M q R fa) (h3 : M (q + 3) = some (iarr 24 f3)) (h4 : M (q + 4) = some (iarr 24 f4)) (hD : trDone R f2 f3 f4) (hw : ∀ x ∈ R, wfR x) (q1 : ∀ r x, R[r]? = some x → flt R fk x → (∀ i y, i < r → R[i]? = some y → ¬ flt R fk y) → Q (nI r) M sz sl) (q0 : (∀ x ∈ R, ¬ flt R fk x) → Q (-1) M sz sl) : ∀ (m i : Nat), i + m = R.length → (∀ i' y, i' < i → R[i']? = some y → ¬ flt R fk y) → hX8_placeOf_2 N0 K (d + 5) q (nI fk) (nI i) M sz sl Q := by
  have hR' := hR
  obtain ⟨g1, g2, g3, g4⟩ := hR
  intro m
  induction m with
  | zero =>
    intro i hi hno
    refine TX8_placeOf_2 ⟨_, g1, nI R.length, rfl, ?_⟩
    rw [if_pos (nI_le (by omega) (by omega))]
    refine q0 (fun x hx => ?_)
    obtain ⟨i', hi', e⟩ := List.getElem_of_mem hx
    exact hno i' x (by omega) (by rw [List.getElem?_eq_getElem hi', e])
  | succ m ih =>
    intro i hi hno
    have hi' : i < R.length := by omega
    have hxi : R[i]? = some R[i] := List.getElem?_eq_getElem hi'
    have hwx := hw _ (List.getElem_mem hi')
    refine TX8_placeOf_2 ⟨_, g1, nI R.length, rfl, ?_⟩
    rw [if_neg (nI_ge (by omega) (by omega)), nI_1]
    have yes : flt R fk R[i] → ((1 : Int32) = 0 ∨ (1 : Int32) = 1) ∧ (if (1 : Int32) = 0 then hX8_placeOf_2 N0 K (d + 5) q (nI fk) (nI (i + 1)) M sz (sl + (0 + 0)) Q else Q (nI i) M sz (sl + (0 + 0))) := by
      intro z
      rw [if_neg (by decide)]
      exact ⟨Or.inr rfl, q1 i _ hxi z hno⟩
    have nope : ¬ flt R fk R[i] → ((0 : Int32) = 0 ∨ (0 : Int32) = 1) ∧ (if (0 : Int32) = 0 then hX8_placeOf_2 N0 K (d + 5) q (nI fk) (nI (i + 1)) M sz (sl + (0 + 0)) Q else Q (nI i) M sz (sl + (0 + 0))) := by
      intro z
      rw [if_pos rfl]
      refine ⟨Or.inl rfl, ih (i + 1) (by omega) (fun i' y h1 h2 => ?_)⟩
      by_cases e : i' = i
      · subst e
        rw [hxi] at h2
        cases h2
        exact z
      · exact hno i' y (by omega) h2
    obtain ⟨ad, a1, a2⟩ := g4 i _ hxi
    obtain ⟨ah, ab, af, b1, b2, b3⟩ := id a2
    refine gX8_hasFault.of (TX8_hasFault_0 ?_)
    match fk, hf, hf6 with
    | 2, _, _ =>
      refine Or.inl ⟨rfl, _, g1, q + 1, rfl, 24, fa, g2, by decide, i, rfl, by omega, ad, a1, _, b2, ?_⟩
      exact gq_isMisplaced a2 hwx (fun z => yes z) (fun z => nope z)
    | 3, _, _ =>
      refine Or.inr (Or.inl ⟨rfl, _, g1, q + 1, rfl, 24, fa, g2, by decide, i, rfl, by omega, ad, a1, _, b2, ?_⟩)
      exact gq_isLoose a2 hwx (fun z => yes z) (fun z => nope z)
    | 4, _, _ =>
      refine Or.inr (Or.inr (Or.inl ⟨rfl, _, g1, ?_⟩))
      exact gC.pure (gX8_deniesItself.of (TX8_deniesItself_0 (gs_den_2 (d := d + 3) hR' h3 hD hw hxi (fun z => yes z) (fun z => nope z) _ 0 (Nat.zero_add _) (fun j' l h => absurd h (by omega)))))
    | 5, _, _ =>
      refine Or.inr (Or.inr (Or.inr ⟨Or.inr (by decide), _, g1, ?_⟩))
      exact gq_looksAhead hR' h4 hD hw hxi (fun z => yes z) (fun z => nope z)
theorem kq_placeOf {N0 : Nat} {K : Nat → Nat} {d C q fk : Nat} {s : cS} {G : gm_H} {sz : Nat} {R : List Rl} {fa : Nat → Option Nat} {f2 f3 f4 : Nat → Int32} {Q : Int32 → Prop} (hf : 2 ≤ fk) (hf6 : fk < 6) (hR : gRules (bM C (cH C s) G) q R fa) (h3 : bM C (cH C s) G (q + 3) = some (iarr 24 f3)) (h4 : bM C (cH C s) G (q + 4) = some (iarr 24 f4)) (hD : trDone R f2 f3 f4) (hw : ∀ x ∈ R, wfR x) (q1 : ∀ r x, R[r]? = some x → flt R fk x → (∀ i y, i < r → R[i]? = some y → ¬ flt R fk y) → Q (nI r)) (q0 : (∀ x ∈ R, ¬ flt R fk x) → Q (-1)) : kX8_placeOf N0 K (d + 6) C q (nI fk) s G sz Q := gC.kpure (gX8_placeOf.of (TX8_placeOf_0 (gs_place_2 hf hf6 hR h3 h4 hD hw (fun r x a b c => ⟨rfl, rfl, rfl, q1 r x a b c⟩) (fun a => ⟨rfl, rfl, rfl, q0 a⟩) R.length 0 (by omega) (fun i y h => absurd h (by omega)))))
