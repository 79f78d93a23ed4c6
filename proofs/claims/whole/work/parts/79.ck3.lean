/-! the law: what lies in the heap between its calls -/
/-- the heap of the law: the class's block, and over what else there is the reference's cells, the answer's cell, the script -/
def LV (K : Nat → Nat) (C b L : Nat) (xs : Nat → Int32) (s : cS) (G : gm_H) (sz : Nat) (m : mS) : Prop := (∀ j, j < 30 → G (C + 154 + j) = (mH (C + 154) m)[j]?) ∧ (∃ f, G (C + 184) = some (.inl (.long, 1, .inr (.inl f)))) ∧ (b < C ∧ G b = some (.inl (gm_scr, L, .inl xs))) ∧ IV K C s G sz m
theorem mH_len (B : Nat) (m : mS) : (mH B m).length = 30 := rfl
theorem cH_len (B : Nat) (s : cS) : (cH B s).length = 34 := rfl
/-- what IV reads of the rest of the heap -/
theorem cSt.w {C : Nat} {G G' : gm_H} {S : List (List Tm)} (h : cSt G C S) (g : ∀ a, C + 34 ≤ a → a < C + 154 → G' a = G a) : cSt G' C S := fun j hj => by
  obtain ⟨v, f, a, b, c⟩ := h j hj
  exact ⟨v, f, (g _ (by omega) (by omega)).trans a, (g _ (by omega) (by omega)).trans b, c⟩
theorem IV.G {K : Nat → Nat} {C : Nat} {s : cS} {G G' : gm_H} {sz : Nat} {m : mS} (h : IV K C s G sz m) (hbd : gm_bd G' sz) (g : ∀ a, a < C ∨ (C + 34 ≤ a ∧ a < C + 154) ∨ C + 185 ≤ a → G' a = G a) : IV K C s G' sz m := by
  obtain ⟨⟨⟨a1, a2, a3, a4⟩, b, c, ⟨S, hS⟩, e⟩, hg⟩ := h
  have ext : ∀ a y, C + 185 ≤ a → G a = some y → G' a = some y := fun a y h hy => (g a (by omega)).trans hy
  refine ⟨⟨⟨a1, (g (K 0) (by omega)).trans a2, hbd, a4⟩, b, c, ⟨S, hS.w (fun a x y => g a (by omega))⟩, e⟩, ?_⟩
  rcases hg with z | ⟨z, zz, R, P, T1, T, L, X, hC, hR, hf, hA, rest⟩
  · exact Or.inl z
  · refine Or.inr ⟨z, zz, R, P, T1, T, L, X, hC.y ext, hR, hf, ?_, rest⟩
    rcases hA with x | ⟨x1, x2, x3, x4⟩
    · exact Or.inl x
    · exact Or.inr ⟨x1, x2, ⟨x3.1, x3.2.1, fun z => ⟨(x3.2.2 z).1.w (fun a x y => g a (by omega)), (x3.2.2 z).2⟩⟩, x4⟩
theorem bM_comm {A B : Nat} {E F : List gm_E} {G : gm_H} (h : A + E.length ≤ B) : bM B F (bM A E G) = bM A E (bM B F G) := by
  funext q
  by_cases h1 : A ≤ q ∧ q < A + E.length
  · rw [bM_out (B := B) (by omega)]
    unfold bM
    rw [if_pos h1, if_pos h1]
  · rw [bM_out (B := A) h1]
    by_cases h2 : B ≤ q ∧ q < B + F.length
    · unfold bM
      rw [if_pos h2, if_pos h2]
    · rw [bM_out h2, bM_out h2, bM_out h1]
theorem bM_same {B : Nat} {E : List gm_E} {M : gm_H} (h : ∀ j, j < E.length → M (B + j) = E[j]?) : bM B E M = M := by
  funext q
  by_cases h2 : B ≤ q ∧ q < B + E.length
  · unfold bM
    rw [if_pos h2, ← h (q - B) (by omega)]
    congr 1
    omega
  · exact bM_out h2
section
variable {N0 : Nat} {K : Nat → Nat} {C b L : Nat} {xs : Nat → Int32} {s : cS} {G : gm_H} {sz : Nat} {m : mS}
theorem LV.scr (h : LV K C b L xs s G sz m) : bM C (cH C s) G b = some (.inl (gm_scr, L, .inl xs)) := (bM_out (by rw [cH_len]; have := h.2.2.1.1; omega)).trans h.2.2.1.2
theorem LV.mod (h : LV K C b L xs s G sz m) : ∃ fs, bM C (cH C s) G (C + 154) = some (.inr (11, fs)) := ⟨_, (bM_out (by rw [cH_len]; omega)).trans (h.1 0 (by decide))⟩
theorem LV.cls : ∃ fs, bM C (cH C s) G C = some (.inr (10, fs)) := ⟨_, bM_get (B := C) (j := 0) rfl⟩
theorem LV.out (h : LV K C b L xs s G sz m) : ∃ f, bM C (cH C s) G (C + 184) = some (.inl (.long, 1, .inr (.inl f))) := by
  obtain ⟨f, hf⟩ := h.2.1
  exact ⟨f, (bM_out (by rw [cH_len]; omega)).trans hf⟩
/-- the reference's cells hold another state -/
theorem LV.ref (h : LV K C b L xs s G sz m) {s' : cS} {m' : mS} (hi : IV K C s' G sz m') : LV K C b L xs s' (bM (C + 154) (mH (C + 154) m') G) sz m' := by
  obtain ⟨_, ⟨f, hf⟩, ⟨h1, h2⟩, _⟩ := h
  have hbd := hi.1.1.2.2.1
  have hsz := hi.1.1.2.2.2
  refine ⟨fun j hj => ?_, ⟨f, (bM_out (by rw [mH_len]; omega)).trans hf⟩, ⟨h1, (bM_out (by rw [mH_len]; omega)).trans h2⟩, hi.G (bd_bM hbd (by rw [mH_len]; omega)) (fun a ha => bM_out (by rw [mH_len]; omega))⟩
  unfold bM
  rw [if_pos (by rw [mH_len]; omega), show C + 154 + j - (C + 154) = j by omega]
/-- the class's block, and what it has made, have changed -/
theorem LV.cla (h : LV K C b L xs s G sz m) {s' : cS} {G' : gm_H} {sz' : Nat} {m' : mS} (g : gB C G G') (hi : IV K C s' G' sz' m') : (∀ j, j < 30 → G' (C + 154 + j) = (mH (C + 154) m)[j]?) ∧ (∃ f, G' (C + 184) = some (.inl (.long, 1, .inr (.inl f)))) ∧ (b < C ∧ G' b = some (.inl (gm_scr, L, .inl xs))) := by
  obtain ⟨a, ⟨f, hf⟩, ⟨h1, h2⟩, _⟩ := h
  exact ⟨fun j hj => (g _ (by omega)).trans (a j hj), ⟨f, (g _ (by omega)).trans hf⟩, h1, (g b (by omega)).trans h2⟩
theorem toL {d mi : Nat} {av : List Value} {M : gm_H} {R : gm_R} (h : gm_to N0 K ra_nm (ra_mt K) d mi av M sz R) (hd : d ≤ 101) (hw : ra_wt mi = none) : gm_toC (gm_lawC N0 K ra_nm (ra_mt K) 100 10 ra_wt) mi av M sz R := by
  obtain ⟨n, h⟩ := gm_to.up h hd
  refine ⟨n, ?_⟩
  unfold gm_lawC
  simp only [hw]
  exact h
/-- a call of the reference, in the heap of the law -/
theorem LV.call {α : Type} {w : α → Option Value} {d mi : Nat} {av : Nat → List Value} {Q : α → mS → Prop} {G' : gm_H} {s' : cS} {sz' : Nat} (hN : N0 ≤ C) (hj : ∀ j, j < 30 → G' (C + 154 + j) = (mH (C + 154) m)[j]?) (h : mC w d mi av m Q) (hd : d ≤ 101) (hw : ra_wt mi = none) : ∃ r m', Q r m' ∧ gm_toC (gm_lawC N0 K ra_nm (ra_mt K) 100 10 ra_wt) mi (av (C + 154)) (bM C (cH C s') G') sz' (.returned (w r), bM C (cH C s') (bM (C + 154) (mH (C + 154) m') G'), sz', 0) := by
  obtain ⟨r, m', e, q⟩ := h
  refine ⟨r, m', q, toL ?_ hd hw⟩
  have := e N0 K (C + 154) (bM C (cH C s') G') sz' (by omega)
  rw [bM_same (fun j hj' => ?_), bM_comm (by rw [cH_len]; omega)] at this
  · exact this
  · rw [mH_len] at hj'
    rw [bM_out (by rw [cH_len]; omega)]
    exact hj j hj'
/-- a call of both that makes nothing and does not throw -/
theorem LV.both {α : Type} {wc : α → Outcome} {w : α → Option Value} {d d2 mi mi2 : Nat} {av : List Value} {av2 : Nat → List Value} (hN : N0 ≤ C) (h : LV K C b L xs s G sz m) (hc : gC wc N0 K d mi av (bM C (cH C s) G) sz (kQ C (fun r s' G' sz' dd => G' = G ∧ sz' = sz ∧ dd = 0 ∧ mC w d2 mi2 av2 m (fun r2 m' => r2 = r ∧ IV K C s' G sz m')))) (hd : d ≤ 101) (hd2 : d2 ≤ 101) (hw : ra_wt mi = none) (hw2 : ra_wt mi2 = none) : ∃ r s' m', gm_toC (gm_lawC N0 K ra_nm (ra_mt K) 100 10 ra_wt) mi av (bM C (cH C s) G) sz (wc r, bM C (cH C s') G, sz, 0) ∧ bM C (cH C s') G b = some (.inl (gm_scr, L, .inl xs)) ∧ (∃ fs, bM C (cH C s') G (C + 154) = some (.inr (11, fs))) ∧ gm_toC (gm_lawC N0 K ra_nm (ra_mt K) 100 10 ra_wt) mi2 (av2 (C + 154)) (bM C (cH C s') G) sz (.returned (w r), bM C (cH C s') (bM (C + 154) (mH (C + 154) m') G), sz, 0) ∧ LV K C b L xs s' (bM (C + 154) (mH (C + 154) m') G) sz m' := by
  obtain ⟨r, M', sz', dd, e, s', G', eM, eG, es, ed, hm⟩ := hc
  rw [eM, eG, es, ed] at e
  obtain ⟨r2, m', ⟨q1, q2⟩, t⟩ := LV.call (N0 := N0) (K := K) (C := C) (s' := s') (sz' := sz) hN h.1 hm hd2 hw2
  subst q1
  refine ⟨r2, s', m', toL e hd hw, (bM_out (by rw [cH_len]; have := h.2.2.1.1; omega)).trans h.2.2.1.2, ⟨_, (bM_out (by rw [cH_len]; omega)).trans (h.1 0 (by decide))⟩, t, h.ref q2⟩
end
