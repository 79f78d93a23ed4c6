/-! the class's audit: all states -/
def afr (s s' : cS) : Prop := (∀ i, fIn i → i ≠ 461 → i ≠ 501 → i ≠ 541 → i ≠ 584 → i ≠ 586 → s'.1 i = s.1 i) ∧ (∀ i, i < 7 ∨ 16 < i → i ≠ 24 → i ≠ 26 → i ≠ 28 → i ≠ 31 → i ≠ 32 → i ≠ 33 → s'.2.1 i = s.2.1 i) ∧ ∀ i, i ≠ 101 → s'.2.2 i = s.2.2 i
theorem afr.refl (s : cS) : afr s s := ⟨fun _ _ _ _ _ _ _ => rfl, fun _ _ _ _ _ _ _ _ => rfl, fun _ _ => rfl⟩
theorem afr.trans {s s' s'' : cS} (h : afr s s') (g : afr s' s'') : afr s s'' := ⟨fun i a b c e f k => (g.1 i a b c e f k).trans (h.1 i a b c e f k), fun i a b c e f k l => (g.2.1 i a b c e f k l).trans (h.2.1 i a b c e f k l), fun i a => (g.2.2 i a).trans (h.2.2 i a)⟩
theorem gfr.a {s s' : cS} (h : gfr (fun p => p = 23 ∨ p = 25 ∨ p = 27) s s') : afr s s' := ⟨fun i a b c e _ _ => h.1 i a (fun p hp => by omega), fun i a b c e _ _ _ => h.2.1 i a (fun p hp => by omega), h.2.2⟩
theorem afr.i (s : cS) {k : Nat} (v : Int32) (hk : k = 584 ∨ k = 586) : afr s (cI s k v) := ⟨fun i _ _ _ _ e f => if_neg (by omega), fun _ _ _ _ _ _ _ _ => rfl, fun _ _ => rfl⟩
theorem afr.w (s : cS) {k : Nat} (f : Nat → Int32) (hk : k = 31 ∨ k = 32 ∨ k = 33) : afr s (cA s k f) := ⟨fun _ _ _ _ _ _ _ => rfl, fun i _ _ _ _ a b c => if_neg (by omega), fun _ _ => rfl⟩
theorem tS.af {s s' : cS} {p : Nat} {T : List Tm} (h : tS s p T) (g : afr s s') (hp : p = 17 ∨ p = 19 ∨ p = 21) : tS s' p T := h.same (g.1 _ (by unfold fIn; omega) (by omega) (by omega) (by omega) (by omega) (by omega)) (g.2.1 _ (by omega) (by omega) (by omega) (by omega) (by omega) (by omega) (by omega))
/-- what the arrays hold of the states gone through -/
def dOk (D : List DT) (s : cS) : Prop := (∀ (j : Nat) d, D[j]? = some d → s.2.1 32 j = d.1 ∧ (d.2.1 ≠ 0 → (s.2.1 33 j = 0 ↔ d.2.1 ≤ 1)) ∧ wOk d.2.1 (s.2.1 31) j d.2.2) ∧ ∀ j t, D.length ≤ j → j < 60 → t < 60 → s.2.1 31 (j * 60 + t) = -1
def gFr (C : Nat) (G G' : gm_H) : Prop := ∀ a, ¬ (C + 34 ≤ a ∧ a < C + 154) → G' a = G a
theorem gFr.refl (C : Nat) (G : gm_H) : gFr C G G := fun _ _ => rfl
theorem gFr.trans {C : Nat} {G G' G'' : gm_H} (h : gFr C G G') (g : gFr C G' G'') : gFr C G G'' := fun a ha => (g a ha).trans (h a ha)
theorem gFr.x {C : Nat} {G G' : gm_H} (h : gFr C G G') : ∀ a y, C + 185 ≤ a → G a = some y → G' a = some y := fun a y ha hy => (h a (by omega)).trans hy
/-- i states are gone through -/
def AI (R : List Rl) (r0 r1 : Tm) (T1 : List Tm) (C z : Nat) (s0 : cS) (G0 : gm_H) (i : Nat) (s : cS) (G : gm_H) : Prop := (afr s0 s ∧ gFr C G0 G) ∧ FB G C z R s ∧ s.1 584 = nI (audK R r0 r1 T1 i).2.1.length ∧ s.1 586 = (audK R r0 r1 T1 i).1 ∧ cSt G C (audK R r0 r1 T1 i).2.1 ∧ ((audK R r0 r1 T1 i).1 = 0 → dOk (audK R r0 r1 T1 i).2.2 s)
/-- k joint moves of state i are gone through -/
def XI (R : List Rl) (r0 r1 : Tm) (Ti M0 M1 : List Tm) (S : List (List Tm)) (D : List DT) (i : Nat) (C z : Nat) (s0 : cS) (G0 : gm_H) (k : Nat) (s : cS) (G : gm_H) : Prop := (afr s0 s ∧ gFr C G0 G) ∧ (∃ L, FS G C z R Ti s L) ∧ (tS s 25 M0 ∧ tS s 27 M1) ∧ s.1 584 = nI (exK R Ti r0 r1 M0 M1 S k).2.1.length ∧ s.1 586 = (if (exK R Ti r0 r1 M0 M1 S k).1 = true then 0 else 7) ∧ cSt G C (exK R Ti r0 r1 M0 M1 S k).2.1 ∧ (∀ (j : Nat) d, D[j]? = some d → s.2.1 32 j = d.1 ∧ (d.2.1 ≠ 0 → (s.2.1 33 j = 0 ↔ d.2.1 ≤ 1)) ∧ wOk d.2.1 (s.2.1 31) j d.2.2) ∧ s.2.1 32 i = -1 ∧ (s.2.1 33 i = 0 ↔ M1.length ≤ 1) ∧ wOk M1.length (s.2.1 31) i (exK R Ti r0 r1 M0 M1 S k).2.2 ∧ ∀ j t, i < j → j < 60 → t < 60 → s.2.1 31 (j * 60 + t) = -1
theorem exK_len {R : List Rl} {T : List Tm} {r0 r1 : Tm} {M0 M1 : List Tm} {S : List (List Tm)} : ∀ k, (exK R T r0 r1 M0 M1 S k).2.2.length ≤ k := by
  intro k
  induction k with
  | zero => exact Nat.le_refl _
  | succ k ih =>
    rw [exK]
    by_cases h : (exK R T r0 r1 M0 M1 S k).1 = true
    · rw [if_pos h]
      revert ih
      generalize (exK R T r0 r1 M0 M1 S k).2 = X
      intro ih
      unfold exS
      split
      · simp only
        omega
      · split
        · simp only [List.length_append, List.length_singleton]
          omega
        · split
          · simp only
            omega
          · simp only [List.length_append, List.length_singleton]
            omega
    · rw [if_neg h]
      omega
theorem cs_run146 {N0 : Nat} {K : Nat → Nat} {d C z i : Nat} {R : List Rl} {r0 r1 : Tm} {Ti M0 M1 : List Tm} {S : List (List Tm)} {D : List DT} {s0 : cS} {G0 : gm_H} {sz sl : Nat} {Q : Int32 → cS → gm_H → Prop} (hN : N0 ≤ C) (hf : flNone R) (hi : i < 60) (hD : D.length = i) (hS : okS S) (hP0 : tS s0 17 [r0, r1]) (hok : okP [r0, r1]) (ho0 : okT M0) (ho1 : okT M1) (hl0 : M0.length ≤ 200) (hl1 : M1.length ≤ 200) (hmn : M0.length * M1.length ≤ 200) (hn : 0 < M1.length) (fin : ∀ s G, XI R r0 r1 Ti M0 M1 S D i C z s0 G0 (M0.length * M1.length) s G → hX0_run_65 N0 K (d + 16) C (nI i + (1 : Int32)) s G sz sl Q) : ∀ (ma a : Nat), a + ma = M0.length → ∀ s G, XI R r0 r1 Ti M0 M1 S D i C z s0 G0 (a * M1.length) s G → hX0_run_130 N0 K (d + 16) C (nI i) (nI M0.length) (nI a) s G sz sl Q := by
  -- a failure goes out
  have bail : ∀ k s G u, k ≤ M0.length * M1.length → XI R r0 r1 Ti M0 M1 S D i C z s0 G0 k s G → (exK R Ti r0 r1 M0 M1 S k).1 = false → hX0_run_130 N0 K (d + 16) C (nI i) (nI M0.length) u s G sz sl Q := by
    intro k s G u hk hX hfalse
    have hst := exK_stop hfalse (M0.length * M1.length - k)
    rw [show k + (M0.length * M1.length - k) = M0.length * M1.length by omega] at hst
    have hX' : XI R r0 r1 Ti M0 M1 S D i C z s0 G0 (M0.length * M1.length) s G := by
      unfold XI at hX ⊢
      rw [hst]
      exact hX
    have h586 : s.1 586 = 7 := by
      have := hX.2.2.2.2.1
      rw [hfalse, if_neg (by decide)] at this
      exact this
    refine TX0_run_130 hN ?_
    rw [h586, if_neg (by decide : ¬ (7 : Int32) = 0), ite_self]
    exact fin s G hX'
  intro ma
  induction ma with
  | zero =>
    intro a ha s G hX
    refine TX0_run_130 hN ?_
    rw [if_pos (nI_le (by omega) (by omega))]
    have : a = M0.length := by omega
    subst this
    exact fin s G hX
  | succ ma iha =>
    intro a ha s G hX
    have hak : a * M1.length + M1.length ≤ M0.length * M1.length := by
      have : (a + 1) * M1.length ≤ M0.length * M1.length := Nat.mul_le_mul_right _ (by omega)
      rw [Nat.add_mul, Nat.one_mul] at this
      exact this
    by_cases hok0 : (exK R Ti r0 r1 M0 M1 S (a * M1.length)).1 = true
    · have h586 : s.1 586 = 0 := by
        have := hX.2.2.2.2.1
        rw [hok0, if_pos rfl] at this
        exact this
      refine TX0_run_130 hN ?_
      rw [if_neg (nI_ge (by omega) (by omega)), if_pos h586]
      -- the inner loop
      have inner : ∀ (mb b : Nat), b + mb = M1.length → ∀ s G, XI R r0 r1 Ti M0 M1 S D i C z s0 G0 (a * M1.length + b) s G → hX0_run_146 N0 K (d + 16) C (nI i) (nI M0.length) (nI a) (nI b) s G sz sl Q := by
        intro mb
        induction mb with
        | zero =>
          intro b hb s G hX
          refine TX0_run_146 hN ?_
          rw [hX.2.2.1.2.1, if_pos (nI_le (by omega) (by omega)), nI_1]
          have : b = M1.length := by omega
          subst this
          refine iha (a + 1) (by omega) s G ?_
          rw [Nat.add_mul, Nat.one_mul]
          exact hX
        | succ mb ihb =>
          intro b hb s G hX
          refine TX0_run_146 hN ?_
          rw [hX.2.2.1.2.1, if_neg (nI_ge (by omega) (by omega))]
          by_cases hokk : (exK R Ti r0 r1 M0 M1 S (a * M1.length + b)).1 = true
          · obtain ⟨⟨x1, x2⟩, ⟨L, x3⟩, ⟨x4, x5⟩, x6, x7, x8, x9, x10, x11, x12, x13⟩ := hX
            rw [hokk, if_pos rfl] at x7
            rw [if_pos x7]
            have ha2 : M0[a]? = some (M0[a]'(by omega)) := List.getElem?_eq_getElem (by omega)
            have hb2 : M1[b]? = some (M1[b]'(by omega)) := List.getElem?_eq_getElem (by omega)
            have d1 : (a * M1.length + b) / M1.length = a := by
              rw [Nat.mul_comm, Nat.mul_add_div hn, Nat.div_eq_of_lt (by omega), Nat.add_zero]
            have d2 : (a * M1.length + b) % M1.length = b := by
              rw [Nat.mul_comm, Nat.mul_add_mod, Nat.mod_eq_of_lt (by omega)]
            have en : exN R Ti r0 r1 M0 M1 (a * M1.length + b) = aNx R Ti r0 (M0[a]'(by omega)) r1 (M1[b]'(by omega)) := by
              unfold exN
              rw [d1, d2, ha2, hb2]
            have ek := exK_ok (R := R) (T := Ti) (r0 := r0) (r1 := r1) (M0 := M0) (M1 := M1) hS (a * M1.length + b)
            have eE := ek.2.2.2 hokk
            have estep : exK R Ti r0 r1 M0 M1 S (a * M1.length + b + 1) = exS (exN R Ti r0 r1 M0 M1 (a * M1.length + b)) (exK R Ti r0 r1 M0 M1 S (a * M1.length + b)).2 := by rw [exK, if_pos hokk]
            refine cq_lead (d := d) hN hf x3 (hP0.af x1 (Or.inl rfl)) hok x4 x5 ho0 ho1 hl0 hl1 ha2 hb2 (fun s4 L4 T4 f4 g4 t4 o4 l4 n4 => ?_) (fun s4 L4 f4 g4 n4 => ?_)
            · rw [if_neg (by decide)]
              have af4 : afr s s4 := (f4.mono (fun p hp => by omega)).a
              have a31 : s4.2.1 31 = s.2.1 31 := f4.2.1 31 (by decide) (fun p hp => by omega)
              have a32 : s4.2.1 32 = s.2.1 32 := f4.2.1 32 (by decide) (fun p hp => by omega)
              have a33 : s4.2.1 33 = s.2.1 33 := f4.2.1 33 (by decide) (fun p hp => by omega)
              have i584 : s4.1 584 = s.1 584 := f4.1 584 (by unfold fIn; omega) (fun p hp => by omega)
              have i586 : s4.1 586 = s.1 586 := f4.1 586 (by unfold fIn; omega) (fun p hp => by omega)
              have emv : ((nI a <<< ((8 : Int32) &&& 31)) ||| nI b) = nI (mvc M1.length (exK R Ti r0 r1 M0 M1 S (a * M1.length + b)).2.2.length) := by
                rw [eE]
                unfold mvc
                rw [d1, d2, show (8 : Int32) = nI 8 from rfl, nI_shl a (by decide : 8 < 32), nI_or, n_or (by omega)]
                congr 1
                omega
              refine cq_note (d := d + 13) (nn := M1.length) hN x8 ek.1 (i584.trans x6) t4 l4 o4 hi hl1 (by rw [eE]; omega) emv (by rw [a31]; exact x12) (fun e1 e2 => ?_) (fun t e1 f hw hfx => ?_) (fun e1 e2 f G' hw hfx hgx hst => ?_)
              · rw [if_pos rfl, nI_1]
                refine ihb (b + 1) (by omega) _ G ?_
                rw [← Nat.add_assoc]
                unfold XI
                rw [estep, en, n4]
                have ees : exS (some T4) (exK R Ti r0 r1 M0 M1 S (a * M1.length + b)).2 = (false, (exK R Ti r0 r1 M0 M1 S (a * M1.length + b)).2) := by
                  unfold exS
                  simp only [e1, e2, if_true]
                rw [ees]
                refine ⟨⟨x1.trans (af4.trans (afr.i s4 7 (Or.inr rfl))), x2⟩, ⟨L4, g4.n ⟨rfl, rfl, rfl, fun _ _ _ => rfl, rfl⟩⟩, ⟨(x4.fr f4 (by decide) (fun q hq => by omega)).same rfl rfl, (x5.fr f4 (by decide) (fun q hq => by omega)).same rfl rfl⟩, i584.trans x6, rfl, x8, fun j d' hd => ?_, ?_, ?_, ?_, fun j t h1 h2 h3 => ?_⟩
                · show s4.2.1 32 j = _ ∧ (_ → (s4.2.1 33 j = 0 ↔ _)) ∧ wOk _ (s4.2.1 31) _ _
                  rw [a31, a32, a33]
                  exact x9 j d' hd
                · show s4.2.1 32 i = -1
                  rw [a32]
                  exact x10
                · show s4.2.1 33 i = 0 ↔ _
                  rw [a33]
                  exact x11
                · show wOk _ (s4.2.1 31) _ _
                  rw [a31]
                  exact x12
                · show s4.2.1 31 _ = -1
                  rw [a31]
                  exact x13 j t h1 h2 h3
              · rw [if_neg (by decide), nI_1]
                refine ihb (b + 1) (by omega) _ G ?_
                rw [← Nat.add_assoc]
                unfold XI
                rw [estep, en, n4]
                have ees : exS (some T4) (exK R Ti r0 r1 M0 M1 S (a * M1.length + b)).2 = (true, (exK R Ti r0 r1 M0 M1 S (a * M1.length + b)).2.1, (exK R Ti r0 r1 M0 M1 S (a * M1.length + b)).2.2 ++ [t]) := by
                  unfold exS
                  simp only [e1]
                rw [ees]
                have af5 : afr s4 (cI (cA s4 31 f) 586 0) := (afr.w s4 f (Or.inl rfl)).trans (afr.i _ 0 (Or.inr rfl))
                refine ⟨⟨x1.trans (af4.trans af5), x2⟩, ⟨L4, g4.n ⟨rfl, rfl, rfl, fun j h1 h2 => if_neg (by omega), rfl⟩⟩, ⟨?_, ?_⟩, i584.trans x6, rfl, x8, fun j d' hd => ?_, ?_, ?_, hw, fun j t h1 h2 h3 => ?_⟩
                · exact (x4.fr f4 (by decide) (fun q hq => by omega)).same rfl rfl
                · exact (x5.fr f4 (by decide) (fun q hq => by omega)).same rfl rfl
                · have hjl := (List.getElem?_eq_some_iff.mp hd).1
                  show s4.2.1 32 j = _ ∧ (_ → (s4.2.1 33 j = 0 ↔ _)) ∧ wOk _ f _ _
                  rw [a32, a33]
                  obtain ⟨y1, y2, y3⟩ := x9 j d' hd
                  refine ⟨y1, y2, fun t' ht' => ?_⟩
                  rw [hfx _ (by omega), a31]
                  exact y3 t' ht'
                · show s4.2.1 32 i = -1
                  rw [a32]
                  exact x10
                · show s4.2.1 33 i = 0 ↔ _
                  rw [a33]
                  exact x11
                · show f _ = -1
                  rw [hfx _ (by omega), a31]
                  exact x13 j t h1 h2 h3
              · rw [if_neg (by decide), nI_1]
                refine ihb (b + 1) (by omega) _ G' ?_
                rw [← Nat.add_assoc]
                unfold XI
                rw [estep, en, n4]
                have ees : exS (some T4) (exK R Ti r0 r1 M0 M1 S (a * M1.length + b)).2 = (true, (exK R Ti r0 r1 M0 M1 S (a * M1.length + b)).2.1 ++ [T4], (exK R Ti r0 r1 M0 M1 S (a * M1.length + b)).2.2 ++ [(exK R Ti r0 r1 M0 M1 S (a * M1.length + b)).2.1.length]) := by
                  unfold exS
                  simp only [e1]
                  rw [if_neg (by omega)]
                rw [ees]
                have af5 : afr s4 (cI (cA (cI s4 584 (nI ((exK R Ti r0 r1 M0 M1 S (a * M1.length + b)).2.1.length + 1))) 31 f) 586 0) := ((afr.i s4 _ (Or.inl rfl)).trans (afr.w _ f (Or.inl rfl))).trans (afr.i _ 0 (Or.inr rfl))
                have gx' : gFr C G G' := hgx
                refine ⟨⟨x1.trans (af4.trans af5), x2.trans gx'⟩, ⟨L4, (g4.ext gx'.x).n ⟨rfl, rfl, rfl, fun j h1 h2 => if_neg (by omega), rfl⟩⟩, ⟨?_, ?_⟩, ?_, rfl, hst, fun j d' hd => ?_, ?_, ?_, hw, fun j t h1 h2 h3 => ?_⟩
                · exact (x4.fr f4 (by decide) (fun q hq => by omega)).same rfl rfl
                · exact (x5.fr f4 (by decide) (fun q hq => by omega)).same rfl rfl
                · show nI ((exK R Ti r0 r1 M0 M1 S (a * M1.length + b)).2.1.length + 1) = nI (_ ++ [T4]).length
                  rw [List.length_append, List.length_singleton]
                · have hjl := (List.getElem?_eq_some_iff.mp hd).1
                  show s4.2.1 32 j = _ ∧ (_ → (s4.2.1 33 j = 0 ↔ _)) ∧ wOk _ f _ _
                  rw [a32, a33]
                  obtain ⟨y1, y2, y3⟩ := x9 j d' hd
                  refine ⟨y1, y2, fun t' ht' => ?_⟩
                  rw [hfx _ (by omega), a31]
                  exact y3 t' ht'
                · show s4.2.1 32 i = -1
                  rw [a32]
                  exact x10
                · show s4.2.1 33 i = 0 ↔ _
                  rw [a33]
                  exact x11
                · show f _ = -1
                  rw [hfx _ (by omega), a31]
                  exact x13 j t h1 h2 h3
            · rw [if_pos rfl, nI_1]
              refine ihb (b + 1) (by omega) _ G ?_
              have af4 : afr s s4 := (f4.mono (fun p hp => by omega)).a
              have a31 : s4.2.1 31 = s.2.1 31 := f4.2.1 31 (by decide) (fun p hp => by omega)
              have a32 : s4.2.1 32 = s.2.1 32 := f4.2.1 32 (by decide) (fun p hp => by omega)
              have a33 : s4.2.1 33 = s.2.1 33 := f4.2.1 33 (by decide) (fun p hp => by omega)
              have i584 : s4.1 584 = s.1 584 := f4.1 584 (by unfold fIn; omega) (fun p hp => by omega)
              rw [← Nat.add_assoc]
              unfold XI
              rw [estep, en, n4]
              have ees : exS none (exK R Ti r0 r1 M0 M1 S (a * M1.length + b)).2 = (false, (exK R Ti r0 r1 M0 M1 S (a * M1.length + b)).2) := rfl
              rw [ees]
              refine ⟨⟨x1.trans (af4.trans (afr.i s4 7 (Or.inr rfl))), x2⟩, ⟨L4, g4.n ⟨rfl, rfl, rfl, fun _ _ _ => rfl, rfl⟩⟩, ⟨(x4.fr f4 (by decide) (fun q hq => by omega)).same rfl rfl, (x5.fr f4 (by decide) (fun q hq => by omega)).same rfl rfl⟩, i584.trans x6, rfl, x8, fun j d' hd => ?_, ?_, ?_, ?_, fun j t h1 h2 h3 => ?_⟩
              · show s4.2.1 32 j = _ ∧ (_ → (s4.2.1 33 j = 0 ↔ _)) ∧ wOk _ (s4.2.1 31) _ _
                rw [a31, a32, a33]
                exact x9 j d' hd
              · show s4.2.1 32 i = -1
                rw [a32]
                exact x10
              · show s4.2.1 33 i = 0 ↔ _
                rw [a33]
                exact x11
              · show wOk _ (s4.2.1 31) _ _
                rw [a31]
                exact x12
              · show s4.2.1 31 _ = -1
                rw [a31]
                exact x13 j t h1 h2 h3
          · have hfalse : (exK R Ti r0 r1 M0 M1 S (a * M1.length + b)).1 = false := by simpa using hokk
            have h586 : s.1 586 = 7 := by
              have := hX.2.2.2.2.1
              rw [hfalse, if_neg (by decide)] at this
              exact this
            rw [h586, if_neg (by decide : ¬ (7 : Int32) = 0)]
            exact bail _ s G _ (by omega) hX hfalse
      exact inner M1.length 0 (by omega) s G hX
    · have hfalse : (exK R Ti r0 r1 M0 M1 S (a * M1.length)).1 = false := by simpa using hok0
      exact bail _ s G _ (by omega) hX hfalse
