/-! the class: the constructor of Layers -/
theorem bs.shb {x : Int32} {S : Nat → Prop} {i j : Nat} (h : bs x S) (hi : i < 24) (hj : j < 24) : bs ((((x.toUInt32 >>> ((nI i).toUInt32 &&& Int32.toUInt32 31)).toInt32) &&& (1 : Int32)) <<< (nI j &&& 31)) (fun t => t = j ∧ S i) := by
  obtain ⟨m, rfl, h2, h3⟩ := h
  rw [nI_ush (by omega) (by omega), n_1, nI_and, Nat.and_one_is_mod]
  have hS := h3 i
  rw [Nat.testBit_eq_decide_div_mod_eq] at hS
  simp only [decide_eq_true_eq] at hS
  have : m / 2 ^ i % 2 = 0 ∨ m / 2 ^ i % 2 = 1 := by omega
  rcases this with e | e
  · rw [e, nI_shl 0 (by omega), Nat.zero_mul]
    exact bs_0.iff (fun k => ⟨fun z => z.elim, fun z => by have := hS.mpr z.2; omega⟩)
  · rw [e]
    exact (bs_one hj).iff (fun k => ⟨fun z => ⟨z, hS.mp e⟩, fun z => z.1⟩)
theorem gs_152 {N0 : Nat} {K : Nat → Nat} {d q p0 a2 a3 o t g : Nat} {v u4 u5 : Int32} {M0 : gm_H} {sz sl : Nat} {Q : Unit → gm_H → Nat → Nat → Prop} (hN : N0 ≤ g) (hqg : q ≠ g) (hq : M0 q = some (.inr (4, [.ref o, .ref t, .ref g, .int v]))) {s0 : Nat} {fe0 : Nat → Int32} (qq : ∀ M' fe', M' g = some (iarr 3 fe') → (∀ a, a ≠ g → M' a = M0 a) → (∀ e, e < 3 → fe' e = if s0 ≤ e then u4 else fe0 e) → hX4_init_50 N0 K d q p0 a2 a3 u4 (u5 + 1) M' sz sl Q) : ∀ (m s : Nat) (M : gm_H) (fe : Nat → Int32), s + m = 3 → s0 ≤ s → M g = some (iarr 3 fe) → (∀ a, a ≠ g → M a = M0 a) → (∀ e, e < 3 → fe e = if s0 ≤ e ∧ e < s then u4 else fe0 e) → hX4_init_152 N0 K d q p0 a2 a3 u4 u5 (nI s) M sz sl Q := by
  intro m
  induction m with
  | zero =>
    intro s M fe hs h0 hg hM hf
    refine TX4_init_152 ?_
    rw [if_pos (by rw [show (3 : Int32) = nI 3 from rfl]; exact nI_le (by omega) (by omega))]
    refine qq M fe hg hM (fun e he => ?_)
    rw [hf e he]
    by_cases h : s0 ≤ e
    · rw [if_pos ⟨h, by omega⟩, if_pos h]
    · rw [if_neg (fun z => h z.1), if_neg h]
  | succ m ih =>
    intro s M fe hs h0 hg hM hf
    refine TX4_init_152 ?_
    rw [if_neg (by rw [show (3 : Int32) = nI 3 from rfl]; exact nI_ge (by omega) (by omega))]
    refine ⟨_, (hM q hqg).trans hq, g, rfl, 3, fe, hg, by decide, hN, s, rfl, by omega, ?_⟩
    rw [nI_1]
    refine ih (s + 1) _ _ (by omega) (by omega) gm_set_eq (fun a ha => (gm_set_ne ha).trans (hM a ha)) (fun e he => ?_)
    by_cases h : e = s
    · rw [show upd fe s u4 e = u4 from if_pos h, if_pos (by omega)]
    · rw [show upd fe s u4 e = fe e from if_neg h, hf e he]
      by_cases h1 : s0 ≤ e ∧ e < s
      · rw [if_pos h1, if_pos (by omega)]
      · rw [if_neg h1, if_neg (by omega)]
/-- the layers there are when k rules are put -/
def lc (kk : Nat → Nat) : Nat → Nat
  | 0 => 0
  | k + 1 => lyp kk k + 1
theorem stc_end (kk : Nat → Nat) (n : Nat) : stc kk (lc kk n) n = n := by
  cases n with
  | zero => rfl
  | succ n =>
    have a := stc_iff kk (lc kk (n + 1)) (n + 1) n (by omega)
    have b := stc_le kk (lc kk (n + 1)) (n + 1)
    have c := a.mpr (by show lyp kk n < lyp kk n + 1; omega)
    omega
def lyI (R : List Rl) (ky sg num : Nat → Nat) (f3 f4 : Nat → Int32) (fr : Nat → Option Nat) (iv : Nat → Nat) (p0 q : Nat) (M0 M : gm_H) (k : Nat) (O : List Rl) (fo : Nat → Option Nat) (ft fe : Nat → Int32) (v : Int32) : Prop := ((M p0 = some (.inr (8, qcell p0 R.length)) ∧ M (p0 + 1) = some (rarr fr) ∧ M (p0 + 3) = some (iarr 24 f3) ∧ M (p0 + 4) = some (iarr 24 f4)) ∧ ∃ fk fn, M (q + 4) = some (jarr 24 fk) ∧ M (q + 5) = some (iarr 24 fn) ∧ ∀ p, p < R.length → fk p = lN (ky (num p)) ∧ fn p = nI (num p)) ∧ (M q = some (.inr (4, [.ref (q + 1), .ref (q + 2), .ref (q + 3), .int v])) ∧ M (q + 1) = some (rarr fo) ∧ M (q + 2) = some (iarr 25 ft) ∧ M (q + 3) = some (iarr 3 fe)) ∧ (O.length = k ∧ ∀ (p : Nat) x, O[p]? = some x → ∃ a z, fo p = some a ∧ R[num p]? = some z ∧ x.1 = z.1 ∧ x.2.Perm z.2 ∧ pRl M (iv (num p)) (iv (num p + 1)) a x (flOf x)) ∧ (∀ (i : Nat) z, R[i]? = some z → (∀ p, p < k → num p ≠ i) → ∃ ad, fr i = some ad ∧ cRule M (iv i) (iv (i + 1)) ad z) ∧ (∀ p, p < k → isSt (fun p => ky (num p)) p → ft (lyp (fun p => ky (num p)) p) = nI p) ∧ (∀ e, e < 3 → fe e = nI (eSt (fun p => ky (num p)) (fun p => sg (num p)) e k)) ∧ bs v (rcF R (fun p => ky (num p)) num k) ∧ ∀ a, a < iv 0 ∨ q + 6 ≤ a → M a = M0 a
theorem gs_init50 {N0 : Nat} {K : Nat → Nat} {d p0 q : Nat} {R : List Rl} {ky num : Nat → Nat} {f2 f3 f4 : Nat → Int32} {fr : Nat → Option Nat} {iv : Nat → Nat} {M0 : gm_H} {sz sl : Nat} {Q : Unit → gm_H → Nat → Nat → Prop} (hN : N0 ≤ p0) (hiv0 : p0 + 5 ≤ iv 0) (hiv : ∀ r, r < R.length → iv r ≤ iv (r + 1)) (hivn : iv R.length ≤ q) (hw : ∀ x ∈ R, wfR x) (hf : flNone R) (h24 : R.length ≤ 24) (hD : trDone R f2 f3 f4) (hn1 : ∀ p, p < R.length → num p < R.length) (hn2 : ∀ p p', p < R.length → p' < R.length → num p = num p' → p = p') (qq : ∀ M O fo ft fe v, lyI R ky (sgF f4) num f3 f4 fr iv p0 q M0 M R.length O fo ft fe v → Q () (gm_set M (q + 2) (iarr 25 (upd ft (lc (fun p => ky (num p)) R.length) (nI R.length)))) sz sl) (hky : ∀ i j, i < R.length → j < R.length → (lN (ky i) = lN (ky j) ↔ ky i = ky j)) : ∀ (m k : Nat) (M : gm_H) (O : List Rl) (fo : Nat → Option Nat) (ft fe : Nat → Int32) (v : Int32), k + m = R.length → lyI R ky (sgF f4) num f3 f4 fr iv p0 q M0 M k O fo ft fe v → hX4_init_50 N0 K (d + 6) q p0 (q + 4) (q + 5) (nI (lc (fun p => ky (num p)) k)) (nI k) M sz sl Q := by
  have hlc : ∀ k, lc (fun p => ky (num p)) k ≤ k := by
    intro k
    cases k with
    | zero => exact Nat.le_refl _
    | succ k =>
      have := lyp_le (fun p => ky (num p)) k
      show lyp (fun p => ky (num p)) k + 1 ≤ k + 1
      omega
  intro m
  induction m with
  | zero =>
    intro k M O fo ft fe v hk hI
    have hk' : k = R.length := by omega
    subst hk'
    have hI' := hI
    obtain ⟨⟨⟨i1, i2, i3, i4⟩, fk, fn, i5, i6, i7⟩, ⟨j1, j2, j3, j4⟩, _⟩ := hI
    refine TX4_init_50 ⟨_, i1, nI R.length, rfl, ?_⟩
    rw [if_pos (nI_le (by omega) (by omega))]
    have := hlc R.length
    have := iv_le hiv R.length (Nat.le_refl _) 0 (by omega)
    exact ⟨_, j1, q + 2, rfl, 25, ft, j3, by decide, by omega, _, rfl, by omega, qq M O fo ft fe v hI'⟩
  | succ m ih =>
    intro k M O fo ft fe v hk hI
    obtain ⟨⟨⟨i1, i2, i3, i4⟩, fk, fn, i5, i6, i7⟩, ⟨j1, j2, j3, j4⟩, ⟨o1, o2⟩, hun, hst, hse, hrc, hfr0⟩ := hI
    have hkn : k < R.length := by omega
    have hi := hn1 k hkn
    obtain ⟨z, hz⟩ : ∃ z, R[num k]? = some z := ⟨_, List.getElem?_eq_getElem hi⟩
    have hzm := List.mem_of_getElem? hz
    obtain ⟨ad, had, hcr⟩ := hun (num k) z hz (fun p hp e => by have := hn2 p k (by omega) hkn e; omega)
    have ivl := iv_le hiv
    have v1 : iv 0 ≤ iv (num k) := ivl (num k) (by omega) 0 (by omega)
    have v2 : iv (num k + 1) ≤ iv R.length := ivl R.length (Nat.le_refl _) (num k + 1) (by omega)
    have hcr' := hcr
    obtain ⟨hh, bb, fa', c1, c2, c3, c4, c5, c6, c7, c8⟩ := hcr'
    have hfk := i7 k hkn
    have elN : nI (num k) = fn k := hfk.2.symm
    refine TX4_init_50 ⟨_, i1, nI R.length, rfl, ?_⟩
    rw [if_neg (nI_ge (by omega) (by omega))]
    refine ⟨24, fn, i6, by decide, k, rfl, by omega, _, j1, q + 1, rfl, p0 + 1, rfl, 24, fr, i2, by decide, num k, hfk.2, by omega, ad, had, 24, fo, j2, by decide, by omega, by omega, _, c6, by omega, ad, vu_eq, _, (gm_set_ne (by omega)).trans c6, ?_⟩
    refine gq_rplan (d := d) (lo := iv (num k)) (hi := iv (num k + 1)) (x := z) (by omega) (hcr.mono (fun a a1 a2 => gm_set_ne (by omega))) (hw z hzm) (hf.n3 hzm) ?_
    intro M27 y hy hpl hfr
    have out : ∀ a, a < iv 0 ∨ q ≤ a → a ≠ q + 1 → M27 a = M a := fun a ha ha2 => (hfr a (by omega)).trans (gm_set_ne ha2)
    have outq : M27 (q + 1) = some (rarr (va_up fo k (some ad))) := (hfr _ (by omega)).trans gm_set_eq
    have oth : ∀ j, j < R.length → j ≠ num k → ∀ a, iv j ≤ a → a < iv (j + 1) → M27 a = M a := by
      intro j hj hne a a1 a2
      have w1 : iv (j + 1) ≤ iv R.length := ivl R.length (Nat.le_refl _) (j + 1) (by omega)
      refine (hfr a ?_).trans (gm_set_ne (by omega))
      rcases Nat.lt_or_gt_of_ne hne with g | g
      · have := ivl (num k) (by omega) (j + 1) (by omega)
        omega
      · have := ivl j (by omega) (num k + 1) (by omega)
        omega
    have fin : ∀ (M3 : gm_H) (ft3 : Nat → Int32) (v3 : Int32), M3 q = some (.inr (4, [.ref (q + 1), .ref (q + 2), .ref (q + 3), .int v3])) → M3 (q + 2) = some (iarr 25 ft3) → (∀ a, a ≠ q → a ≠ q + 2 → M3 a = M27 a) → (∀ p, p < k + 1 → isSt (fun p => ky (num p)) p → ft3 (lyp (fun p => ky (num p)) p) = nI p) → bs v3 (rcF R (fun p => ky (num p)) num (k + 1)) → gX4_stageOf N0 K (d + 6) p0 (fn k) M3 sz (fun r53 M53 z53 d53 => hX4_init_152 N0 K (d + 6) q p0 (q + 4) (q + 5) (nI (lyp (fun p => ky (num p)) k + 1)) (nI k) r53 M53 z53 ((sl + 0) + d53) Q) := by
      intro M3 ft3 v3 t1 t2 t3 t4 t5
      have m3 : ∀ a, a < iv 0 ∨ q ≤ a → a ≠ q + 1 → a ≠ q → a ≠ q + 2 → M3 a = M a := fun a h1 h2 h3 h4 => (t3 a h3 h4).trans (out a h1 h2)
      rw [hfk.2]
      refine gq_stageOf (d := d + 5) ((m3 p0 (by omega) (by omega) (by omega) (by omega)).trans i1) ((m3 _ (by omega) (by omega) (by omega) (by omega)).trans i4) (by omega) ?_
      have hs2 := sgF_le f4 (num k)
      refine gs_152 (o := q + 1) (t := q + 2) (g := q + 3) (v := v3) (M0 := M3) (s0 := sgF f4 (num k)) (fe0 := fe) (by omega) (by omega) t1 ?_ (3 - sgF f4 (num k)) (sgF f4 (num k)) M3 fe (by omega) (Nat.le_refl _) ((m3 _ (by omega) (by omega) (by omega) (by omega)).trans j4) (fun _ _ => rfl) (fun e he => by rw [if_neg (by omega)])
      intro M4 fe4 u1 u2 u3
      have m4 : ∀ a, a < iv 0 ∨ q ≤ a → a ≠ q + 1 → a ≠ q → a ≠ q + 2 → a ≠ q + 3 → M4 a = M a := fun a h1 h2 h3 h4 h5 => (u2 a h5).trans (m3 a h1 h2 h3 h4)
      have m4i : ∀ a, iv 0 ≤ a → a < iv R.length → M4 a = M27 a := fun a h1 h2 => (u2 a (by omega)).trans (t3 a (by omega) (by omega))
      rw [nI_1]
      refine ih (k + 1) M4 (O ++ [(z.1, y)]) (va_up fo k (some ad)) ft3 fe4 v3 (by omega) ⟨⟨⟨(m4 _ (by omega) (by omega) (by omega) (by omega) (by omega)).trans i1, (m4 _ (by omega) (by omega) (by omega) (by omega) (by omega)).trans i2, (m4 _ (by omega) (by omega) (by omega) (by omega) (by omega)).trans i3, (m4 _ (by omega) (by omega) (by omega) (by omega) (by omega)).trans i4⟩, fk, fn, (m4 _ (by omega) (by omega) (by omega) (by omega) (by omega)).trans i5, (m4 _ (by omega) (by omega) (by omega) (by omega) (by omega)).trans i6, i7⟩, ⟨(u2 _ (by omega)).trans t1, (u2 _ (by omega)).trans ((t3 _ (by omega) (by omega)).trans outq), (u2 _ (by omega)).trans t2, u1⟩, ⟨by simp [o1], fun p x hx => ?_⟩, fun i w hw' hno => ?_, t4, fun e he => ?_, t5, fun a ha => ?_⟩
      · by_cases hp : p < k
        · rw [List.getElem?_append_left (by omega)] at hx
          obtain ⟨a, w, w1, w2, w3, w4, w5⟩ := o2 p x hx
          have hne : num p ≠ num k := fun e => by have := hn2 p k (by omega) hkn e; omega
          have hpn := hn1 p (by omega)
          have b1 : iv 0 ≤ iv (num p) := ivl (num p) (by omega) 0 (by omega)
          have b2 : iv (num p + 1) ≤ iv R.length := ivl R.length (Nat.le_refl _) (num p + 1) (by omega)
          exact ⟨a, w, (vu_ne (by omega)).trans w1, w2, w3, w4, w5.mono (fun a a1 a2 => (m4i a (by omega) (by omega)).trans (oth (num p) hpn hne a a1 a2))⟩
        · have hl := (List.getElem?_eq_some_iff.mp hx).1
          simp only [List.length_append, List.length_singleton] at hl
          have e : p = k := by omega
          subst e
          rw [List.getElem?_append_right (by omega), o1, Nat.sub_self] at hx
          have ex : (z.1, y) = x := Option.some.inj hx
          subst ex
          refine ⟨ad, z, vu_eq, hz, rfl, hy, ?_⟩
          rw [pm_fl (x := (z.1, y)) (z := z) rfl hy]
          exact hpl.mono (fun a a1 a2 => m4i a (by omega) (by omega))
      · have hil := (List.getElem?_eq_some_iff.mp hw').1
        obtain ⟨ad2, w1, w2⟩ := hun i w hw' (fun p hp => hno p (by omega))
        have hne : i ≠ num k := fun e => hno k (by omega) e.symm
        have b1 : iv 0 ≤ iv i := ivl i (by omega) 0 (by omega)
        have b2 : iv (i + 1) ≤ iv R.length := ivl R.length (Nat.le_refl _) (i + 1) (by omega)
        exact ⟨ad2, w1, w2.mono (fun a a1 a2 => (m4i a (by omega) (by omega)).trans (oth i hil hne a a1 a2))⟩
      · rw [u3 e he, eSt]
        by_cases h : sgF f4 (num k) ≤ e
        · rw [if_pos h, if_pos h]
        · rw [if_neg h, if_neg h]
          exact hse e he
      · rcases ha with ha | ha
        · rw [m4 a (by omega) (by omega) (by omega) (by omega) (by omega)]
          exact hfr0 a (Or.inl ha)
        · rw [m4 a (by omega) (by omega) (by omega) (by omega) (by omega)]
          exact hfr0 a (Or.inr ha)
    have hlk := lyp_le (fun p => ky (num p)) k
    have start : isSt (fun p => ky (num p)) k → lc (fun p => ky (num p)) k = lyp (fun p => ky (num p)) k → gX4_stageOf N0 K (d + 6) p0 (fn k) (gm_set (gm_set M27 (q + 2) (iarr 25 (upd ft (lyp (fun p => ky (num p)) k) (nI k)))) q (.inr (4, [.ref (q + 1), .ref (q + 2), .ref (q + 3), .int (v ||| ((((((f3 (num k))).toUInt32 >>> (((fn k)).toUInt32 &&& Int32.toUInt32 31)).toInt32) &&& (1 : Int32)) <<< (nI (lyp (fun p => ky (num p)) k) &&& 31)))]))) sz (fun r53 M53 z53 d53 => hX4_init_152 N0 K (d + 6) q p0 (q + 4) (q + 5) (nI (lyp (fun p => ky (num p)) k + 1)) (nI k) r53 M53 z53 ((sl + 0) + d53) Q) := by
      intro hS hL
      refine fin _ (upd ft (lyp (fun p => ky (num p)) k) (nI k)) _ gm_set_eq ((gm_set_ne (by omega)).trans gm_set_eq) (fun a a1 a2 => (gm_set_ne a1).trans (gm_set_ne a2)) (fun p hp hsp => ?_) ?_
      · by_cases e : p = k
        · rw [e]
          exact if_pos rfl
        · have hlt : lyp (fun p => ky (num p)) p ≠ lyp (fun p => ky (num p)) k := by
            obtain ⟨k', rfl⟩ : ∃ k', k = k' + 1 := ⟨k - 1, by omega⟩
            have := lyp_st hS
            have := lyp_mono (fun p => ky (num p)) k' p (by omega)
            omega
          rw [show upd ft (lyp (fun p => ky (num p)) k) (nI k) (lyp (fun p => ky (num p)) p) = ft (lyp (fun p => ky (num p)) p) from if_neg hlt]
          exact hst p (by omega) hsp
      · rw [← elN]
        refine (hrc.or ((hD (num k) hi).2.1.shb (by omega) (by omega))).iff (fun j => ?_)
        constructor
        · rintro (⟨p, a, b, c, e⟩ | ⟨e, _, a⟩)
          · exact ⟨p, by omega, b, c, e⟩
          · exact ⟨k, by omega, hS, e.symm, a⟩
        · rintro ⟨p, a, b, c, e⟩
          by_cases g : p = k
          · subst g
            exact Or.inr ⟨c.symm, hi, e⟩
          · exact Or.inl ⟨p, by omega, b, c, e⟩
    have g3 : ∀ x : gm_E, gm_set M27 (q + 2) x (p0 + 3) = some (iarr 24 f3) := fun x => (gm_set_ne (by omega)).trans ((out _ (by omega) (by omega)).trans i3)
    have g0 : ∀ x : gm_E, gm_set M27 (q + 2) x p0 = some (.inr (8, qcell p0 R.length)) := fun x => (gm_set_ne (by omega)).trans ((out _ (by omega) (by omega)).trans i1)
    have gq : M27 q = some (.inr (4, [.ref (q + 1), .ref (q + 2), .ref (q + 3), .int v])) := (out _ (by omega) (by omega)).trans j1
    have gt : M27 (q + 2) = some (iarr 25 ft) := (out _ (by omega) (by omega)).trans j3
    by_cases hk0 : k = 0
    · have hS : isSt (fun p => ky (num p)) k := Or.inl hk0
      have hL : lc (fun p => ky (num p)) k = lyp (fun p => ky (num p)) k := by rw [hk0]; rfl
      rw [if_pos (by rw [hk0]; rfl), hL, nI_1]
      exact ⟨_, gq, q + 2, rfl, 25, ft, gt, by decide, by omega, _, rfl, by omega, v, rfl, _, g0 _, p0 + 3, rfl, 24, f3, g3 _, by decide, by omega, by omega, start hS hL⟩
    · have ek1 : nI k - (1 : Int32) = nI (k - 1) := by rw [n_1, nI_sub (by omega)]
      obtain ⟨k', hk'⟩ : ∃ k', k = k' + 1 := ⟨k - 1, by omega⟩
      rw [if_neg (nI_ne0 (by omega) (by omega))]
      refine ⟨24, fk, (out _ (by omega) (by omega)).trans i5, by decide, by omega, k - 1, ek1, by omega, ?_⟩
      have hcmp : lg_cmp (fk k) (fk (k - 1)) = 0 ↔ ky (num k) = ky (num (k - 1)) := by
        rw [lg_eq, hfk.1, (i7 (k - 1) (by omega)).1]
        exact hky _ _ hi (hn1 _ (by omega))
      by_cases he : ky (num k) = ky (num (k - 1))
      · rw [if_pos (hcmp.mpr he)]
        have hS : ¬ isSt (fun p => ky (num p)) k := fun z => z.elim hk0 (fun g => g he)
        have hL : lc (fun p => ky (num p)) k = lyp (fun p => ky (num p)) k + 1 := by
          subst hk'
          rw [lyp_ns hS]
          rfl
        rw [hL]
        refine fin M27 ft v gq gt (fun _ _ _ => rfl) (fun p hp hsp => ?_) (hrc.iff (fun j => ?_))
        · by_cases e : p = k
          · rw [e] at hsp
            exact absurd hsp hS
          · exact hst p (by omega) hsp
        · constructor
          · rintro ⟨p, a, b, c, e⟩
            exact ⟨p, by omega, b, c, e⟩
          · rintro ⟨p, a, b, c, e⟩
            by_cases g : p = k
            · rw [g] at b
              exact absurd b hS
            · exact ⟨p, by omega, b, c, e⟩
      · rw [if_neg (fun z => he (hcmp.mp z))]
        have hS : isSt (fun p => ky (num p)) k := Or.inr he
        have hL : lc (fun p => ky (num p)) k = lyp (fun p => ky (num p)) k := by
          subst hk'
          rw [lyp_st hS]
          rfl
        rw [hL, nI_1]
        exact ⟨_, gq, q + 2, rfl, 25, ft, gt, by decide, by omega, _, rfl, by omega, v, rfl, _, g0 _, p0 + 3, rfl, 24, f3, g3 _, by decide, by omega, by omega, start hS hL⟩
/-- what stands in the heap: layers at q -/
def lyG (M : gm_H) (p0 q : Nat) (O : List Rl) (st : Nat → Nat) (e0 e1 e2 : Nat) (rc : Nat → Prop) : Prop := ∃ fo ft fe v, M q = some (.inr (4, [.ref (q + 1), .ref (q + 2), .ref (q + 3), .int v])) ∧ M (q + 1) = some (rarr fo) ∧ M (q + 2) = some (iarr 25 ft) ∧ M (q + 3) = some (iarr 3 fe) ∧ bs v rc ∧ (∀ (p : Nat) x, O[p]? = some x → ∃ a lo hi, fo p = some a ∧ p0 ≤ lo ∧ hi ≤ q ∧ pRl M lo hi a x (flOf x)) ∧ (∀ j, j ≤ e2 → ft j = nI (st j)) ∧ fe 0 = nI e0 ∧ fe 1 = nI e1 ∧ fe 2 = nI e2
theorem lyG.lay {G : gm_H} {C p0 q : Nat} {O : List Rl} {st : Nat → Nat} {e0 e1 e2 : Nat} {rc : Nat → Prop} (h : lyG G p0 q O st e0 e1 e2 rc) (hp : C + 34 ≤ p0) (hq : C + 34 ≤ q) : pLay G C q O st e0 e1 e2 rc := by
  obtain ⟨fo, ft, fe, v, h1, h2, h3, h4, h5, h6, h7, h8⟩ := h
  refine ⟨q + 1, q + 2, q + 3, fo, ft, fe, v, ⟨hq, by omega, by omega, by omega⟩, h1, h2, h3, h4, h5, fun p x hx => ?_, h7, h8⟩
  obtain ⟨a, lo, hi, a1, a2, a3, a4⟩ := h6 p x hx
  exact ⟨a, a1, a4.rule (by omega)⟩
theorem gq_init4 {N0 : Nat} {K : Nat → Nat} {d p0 q : Nat} {R : List Rl} {f2 f3 f4 : Nat → Int32} {fr : Nat → Option Nat} {iv : Nat → Nat} {M : gm_H} {Q : Unit → gm_H → Nat → Nat → Prop} (hN : N0 ≤ p0) (hiv0 : p0 + 5 ≤ iv 0) (hiv : ∀ r, r < R.length → iv r ≤ iv (r + 1)) (hivn : iv R.length ≤ q) (hw : ∀ x ∈ R, wfR x) (hf : flNone R) (h24 : R.length ≤ 24) (hD : trDone R f2 f3 f4) (hbd : gm_bd M (q + 1)) (hq : M q = some (.inr (4, [.null, .null, .null, .int 0]))) (h8 : M p0 = some (.inr (8, qcell p0 R.length))) (h1 : M (p0 + 1) = some (rarr fr)) (h2 : M (p0 + 2) = some (iarr 24 f2)) (h3 : M (p0 + 3) = some (iarr 24 f3)) (h4 : M (p0 + 4) = some (iarr 24 f4)) (hR : ∀ (r : Nat) x, R[r]? = some x → ∃ ad, fr r = some ad ∧ cRule M (iv r) (iv (r + 1)) ad x) (qq : ∀ M' O ly st e0 e1 e2 rc, LyC O ly st e0 e1 e2 rc → pmR R O → pmR O R → lyG M' p0 q O st e0 e1 e2 rc → (∀ a, a < iv 0 → M' a = M a) → gm_bd M' (q + 6) → Q () M' (q + 6) 100) : gX4_init N0 K (d + 7) q p0 M (q + 1) Q := by
  have hpq : p0 + 5 ≤ q := by
    have := iv_le hiv R.length (Nat.le_refl _) 0 (by omega)
    omega
  have hm : ∀ i, i < R.length → f2 i ||| f3 i = nI (mSF f2 f3 i) ∧ mSF f2 f3 i < 2 ^ 24 := fun i hi => ⟨(hD.m hi).1, (hD.m hi).2.1⟩
  refine gX4_init.of (TX4_init_0 ⟨by omega, hbd, [.null, .null, .null, .int 0], (gm_set_ne (by omega)).trans hq, by omega, Nat.le_of_ble_eq_true rfl, Nat.le_of_ble_eq_true rfl, Nat.le_of_ble_eq_true rfl, ?_⟩)
  -- the heap ahead of the sorting
  obtain ⟨H, hH⟩ : ∃ H, H = (gm_new (gm_new (gm_set (gm_new (gm_set (gm_new (gm_set (gm_new M (q + 1) (.inl (.object "RuleArena$Rule", 24, .inr (.inr (.inr (.inr (fun _ => none))))))) q (.inr (4, (([.null, .null, .null, .int 0] : List Value).set 0 (.ref (q + 1)))))) ((q + 1) + 1) (.inl (.int, 25, .inl (fun _ => 0)))) q (.inr (4, ((([.null, .null, .null, .int 0] : List Value).set 0 (.ref (q + 1))).set 1 (.ref ((q + 1) + 1)))))) (((q + 1) + 1) + 1) (.inl (.int, 3, .inl (fun _ => 0)))) q (.inr (4, (((([.null, .null, .null, .int 0] : List Value).set 0 (.ref (q + 1))).set 1 (.ref ((q + 1) + 1))).set 2 (.ref (((q + 1) + 1) + 1)))))) ((((q + 1) + 1) + 1) + 1) (.inl (.long, 24, .inr (.inl (fun _ => 0))))) (((((q + 1) + 1) + 1) + 1) + 1) (.inl (.int, 24, .inl (fun _ => 0))) : gm_H) := ⟨_, rfl⟩
  rw [← hH]
  have H0 : ∀ a, a ≠ q → a < q + 1 ∨ q + 6 ≤ a → H a = M a := by
    intro a h1 h2
    rw [hH]
    unfold gm_new
    rw [gm_set_ne (by omega), gm_set_ne (by omega), gm_set_ne (by omega), gm_set_ne (by omega), gm_set_ne (by omega), gm_set_ne (by omega), gm_set_ne (by omega), gm_set_ne (by omega)]
  have Hq : H q = some (.inr (4, [.ref (q + 1), .ref (q + 2), .ref (q + 3), .int 0])) := by
    rw [hH]
    unfold gm_new
    rw [gm_set_ne (by omega), gm_set_ne (by omega), gm_set_eq]
    rfl
  have H1 : H (q + 1) = some (rarr (fun _ => none)) := by
    rw [hH]
    unfold gm_new
    rw [gm_set_ne (by omega), gm_set_ne (by omega), gm_set_ne (by omega), gm_set_ne (by omega), gm_set_ne (by omega), gm_set_ne (by omega), gm_set_ne (by omega), gm_set_eq]
  have H2 : H (q + 2) = some (iarr 25 (fun _ => 0)) := by
    rw [hH]
    unfold gm_new
    rw [gm_set_ne (by omega), gm_set_ne (by omega), gm_set_ne (by omega), gm_set_ne (by omega), gm_set_ne (by omega), gm_set_eq]
  have H3 : H (q + 3) = some (iarr 3 (fun _ => 0)) := by
    rw [hH]
    unfold gm_new
    rw [gm_set_ne (by omega), gm_set_ne (by omega), gm_set_ne (by omega), gm_set_eq]
  have H4 : H (q + 4) = some (jarr 24 (fun _ => 0)) := by
    rw [hH]
    unfold gm_new
    rw [gm_set_ne (by omega), gm_set_eq]
  have H5 : H (q + 5) = some (iarr 24 (fun _ => 0)) := by
    rw [hH]
    unfold gm_new
    rw [gm_set_eq]
  refine gq_sort (d := d + 3) (n := R.length) (p1 := q + 4) (p2 := q + 5) (by omega) (by omega) (by omega) h24 (fun a h1 h2 => ⟨by omega, by omega⟩) ((H0 p0 (by omega) (by omega)).trans h8) ((H0 _ (by omega) (by omega)).trans h2) ((H0 _ (by omega) (by omega)).trans h3) ((H0 _ (by omega) (by omega)).trans h4) hm H4 H5 ?_
  intro M1 num ⟨⟨fk, fn, s1, s2, s3⟩, n1, n2, n3, n4, s4⟩
  have hk := hD.key hw
  have m1 : ∀ a, a ≠ q → a < q + 1 → M1 a = M a := fun a a1 a2 => (s4 a (by omega) (by omega)).trans (H0 a a1 (by omega))
  rw [← nI_0]
  refine gs_init50 (d := d) (R := R) (ky := kyF f2 f3 f4) (num := num) (f2 := f2) (f3 := f3) (f4 := f4) (fr := fr) (iv := iv) (M0 := M1) hN hiv0 hiv hivn hw hf h24 hD n1 n2 ?_ (fun i j hi hj => ?_) R.length 0 M1 [] (fun _ => none) (fun _ => 0) (fun _ => 0) 0 (by omega) ⟨⟨⟨(m1 _ (by omega) (by omega)).trans h8, (m1 _ (by omega) (by omega)).trans h1, (m1 _ (by omega) (by omega)).trans h3, (m1 _ (by omega) (by omega)).trans h4⟩, fk, fn, s1, s2, s3⟩, ⟨(s4 _ (by omega) (by omega)).trans Hq, (s4 _ (by omega) (by omega)).trans H1, (s4 _ (by omega) (by omega)).trans H2, (s4 _ (by omega) (by omega)).trans H3⟩, ⟨rfl, fun p x hx => absurd hx (by simp)⟩, fun i z hz _ => ?_, fun p hp => absurd hp (by omega), fun e _ => rfl, bs_0.iff (fun k => ⟨fun z => z.elim, fun ⟨p, z, _⟩ => by omega⟩), fun _ _ => rfl⟩
  · intro M2 O fo ft fe v ⟨⟨⟨i1, i2, i3, i4⟩, fk, fn, i5, i6, i7⟩, ⟨j1, j2, j3, j4⟩, ⟨o1, o2⟩, hun, hst, hse, hrc, hfr0⟩
    have hO : ordO R O num := by
      refine ⟨o1, n1, n3, fun p x hx => ?_⟩
      obtain ⟨a, z, a1, a2, a3, a4, a5⟩ := o2 p x hx
      refine ⟨z, a2, a3, a4, fun j l hl h0 => ?_⟩
      obtain ⟨h', b', fa', v', kh, oh, _, _, _, _, _, b5⟩ := a5
      obtain ⟨pp, kn, on, _, _, _, _, p5, p6, _⟩ := b5 j l hl
      exact p6 (fun z => h0 (p5 z))
    have hL := LyC_of hw hf h24 hO hk n4
    refine qq _ O _ _ _ _ _ _ hL hO.pm.1 hO.pm.2 ⟨fo, upd ft (lc (fun p => kyF f2 f3 f4 (num p)) R.length) (nI R.length), fe, v, (gm_set_ne (by omega)).trans j1, (gm_set_ne (by omega)).trans j2, gm_set_eq, (gm_set_ne (by omega)).trans j4, hrc, fun p x hx => ?_, fun j hj => ?_, hse 0 (by decide), hse 1 (by decide), hse 2 (by decide)⟩ (fun a ha => ?_) (fun a x ha => ?_)
    · obtain ⟨a, z, a1, a2, a3, a4, a5⟩ := o2 p x hx
      have hi := (List.getElem?_eq_some_iff.mp a2).1
      have b1 : iv 0 ≤ iv (num p) := iv_le hiv (num p) (by omega) 0 (by omega)
      have b2 : iv (num p + 1) ≤ iv R.length := iv_le hiv R.length (Nat.le_refl _) (num p + 1) (by omega)
      exact ⟨a, iv (num p), iv (num p + 1), a1, by omega, by omega, a5.mono (fun a a1 a2 => gm_set_ne (by omega))⟩
    · have e2 : eSt (fun p => kyF f2 f3 f4 (num p)) (fun p => sgF f4 (num p)) 2 R.length = lc (fun p => kyF f2 f3 f4 (num p)) R.length := by
        cases hn : R.length with
        | zero => rfl
        | succ n' => rw [eSt, if_pos (sgF_le f4 _)]; rfl
      rw [e2] at hj
      by_cases hjl : j = lc (fun p => kyF f2 f3 f4 (num p)) R.length
      · rw [show upd ft (lc (fun p => kyF f2 f3 f4 (num p)) R.length) (nI R.length) j = nI R.length from if_pos hjl, hjl]
        exact congrArg nI (stc_end _ _).symm
      · rw [show upd ft (lc (fun p => kyF f2 f3 f4 (num p)) R.length) (nI R.length) j = ft j from if_neg hjl]
        obtain ⟨n', hn'⟩ : ∃ n', R.length = n' + 1 := by
          cases hn : R.length with
          | zero =>
            rw [hn] at hj hjl
            have : lc (fun p => kyF f2 f3 f4 (num p)) 0 = 0 := rfl
            omega
          | succ n' => exact ⟨n', rfl⟩
        have hj2 : j ≤ lyp (fun p => kyF f2 f3 f4 (num p)) n' := by
          rw [hn'] at hj hjl
          have : lc (fun p => kyF f2 f3 f4 (num p)) (n' + 1) = lyp (fun p => kyF f2 f3 f4 (num p)) n' + 1 := rfl
          omega
        obtain ⟨p, p1, p2, p3⟩ := lyp_first _ n' j hj2
        have := hst p (by omega) p2
        rw [p3] at this
        rw [this, ← p3]
        exact congrArg nI (stc_st (by omega) p2).symm
    · rw [gm_set_ne (by have := iv_le hiv R.length (Nat.le_refl _) 0 (by omega); omega), hfr0 a (Or.inl ha)]
      have := iv_le hiv R.length (Nat.le_refl _) 0 (by omega)
      exact m1 a (by omega) (by omega)
    · refine Nat.lt_of_not_le (fun hge => ?_)
      rw [gm_set_ne (by omega), hfr0 a (Or.inr hge), s4 a (by omega) (by omega), H0 a (by omega) (Or.inr hge)] at ha
      have := hbd a x ha
      omega
  · have a := hm i hi
    have b := hm j hj
    exact lN_inj (Nat.lt_trans (kyF_lt a.2) (by decide)) (Nat.lt_trans (kyF_lt b.2) (by decide))
  · obtain ⟨ad, w1, w2⟩ := hR i z hz
    have hi := (List.getElem?_eq_some_iff.mp hz).1
    have b2 : iv (i + 1) ≤ iv R.length := iv_le hiv R.length (Nat.le_refl _) (i + 1) (by omega)
    exact ⟨ad, w1, w2.mono (fun a a1 a2 => m1 a (by omega) (by omega))⟩
theorem kq_init4 {N0 : Nat} {K : Nat → Nat} {d C p0 q : Nat} {s : cS} {R : List Rl} {f2 f3 f4 : Nat → Int32} {fr : Nat → Option Nat} {iv : Nat → Nat} {G : gm_H} {Q : Unit → gm_H → Nat → Nat → Prop} (hN : N0 ≤ C) (hC : C + 34 ≤ p0) (hiv0 : p0 + 5 ≤ iv 0) (hiv : ∀ r, r < R.length → iv r ≤ iv (r + 1)) (hivn : iv R.length ≤ q) (hw : ∀ x ∈ R, wfR x) (hf : flNone R) (h24 : R.length ≤ 24) (hD : trDone R f2 f3 f4) (hbd : gm_bd G q) (h8 : G p0 = some (.inr (8, qcell p0 R.length))) (h1 : G (p0 + 1) = some (rarr fr)) (h2 : G (p0 + 2) = some (iarr 24 f2)) (h3 : G (p0 + 3) = some (iarr 24 f3)) (h4 : G (p0 + 4) = some (iarr 24 f4)) (hR : ∀ (r : Nat) x, R[r]? = some x → ∃ ad, fr r = some ad ∧ cRule G (iv r) (iv (r + 1)) ad x) (qq : ∀ G' O ly st e0 e1 e2 rc, LyC O ly st e0 e1 e2 rc → pmR R O → pmR O R → lyG G' p0 q O st e0 e1 e2 rc → (∀ a, a < iv 0 → ¬ (C ≤ a ∧ a < C + 34) → G' a = G a) → gm_bd G' (q + 6) → Q () G' (q + 6) 100) : kX4_init_gz N0 K (d + 7) C q p0 s (gm_new G q (.inr (4, [.null, .null, .null, .int 0]))) (q + 1) Q := by
  have hpq : p0 + 5 ≤ q := by
    have := iv_le hiv R.length (Nat.le_refl _) 0 (by omega)
    omega
  have hup : ∀ a, C + 34 ≤ a → a ≠ q → bM C (cH C s) (gm_new G q (.inr (4, [.null, .null, .null, .int 0]))) a = G a := by
    intro a ha hne
    rw [bM_out (show ¬ (C ≤ a ∧ a < C + (cH C s).length) from fun z => by have : a < C + 34 := z.2; omega), gm_new, gm_set_ne hne]
  refine gC.mono (gq_init4 (Q := fun _ M' sz' dd => sz' = q + 6 ∧ dd = 100 ∧ ∃ s', s' = s ∧ M' = bM C (cH C s') M' ∧ Q () M' (q + 6) 100) (d := d) (by omega) hiv0 hiv hivn hw hf h24 hD (kb_bd hbd.new (by omega)) ?_ ((hup _ (by omega) (by omega)).trans h8) ((hup _ (by omega) (by omega)).trans h1) ((hup _ (by omega) (by omega)).trans h2) ((hup _ (by omega) (by omega)).trans h3) ((hup _ (by omega) (by omega)).trans h4) (fun r x hx => ?_) ?_) ?_
  · rw [bM_out (show ¬ (C ≤ q ∧ q < C + (cH C s).length) from fun z => by have : q < C + 34 := z.2; omega)]
    exact gm_set_eq
  · obtain ⟨ad, w1, w2⟩ := hR r x hx
    have hi := (List.getElem?_eq_some_iff.mp hx).1
    have b1 : iv 0 ≤ iv r := iv_le hiv r (by omega) 0 (by omega)
    have b2 : iv (r + 1) ≤ iv R.length := iv_le hiv R.length (Nat.le_refl _) (r + 1) (by omega)
    exact ⟨ad, w1, w2.mono (fun a a1 a2 => hup a (by omega) (by omega))⟩
  · intro M' O ly st e0 e1 e2 rc l1 l2 l3 l4 l5 l6
    refine ⟨rfl, rfl, s, rfl, ?_, qq M' O ly st e0 e1 e2 rc l1 l2 l3 l4 (fun a ha hb => ?_) l6⟩
    · funext a
      by_cases hb : C ≤ a ∧ a < C + 34
      · rw [l5 a (by omega)]
        unfold bM
        rw [if_pos (show C ≤ a ∧ a < C + (cH C s).length from hb), if_pos (show C ≤ a ∧ a < C + (cH C s).length from hb)]
      · rw [bM_out (show ¬ (C ≤ a ∧ a < C + (cH C s).length) from hb)]
    · have : iv 0 ≤ iv R.length := iv_le hiv R.length (Nat.le_refl _) 0 (by omega)
      rw [l5 a ha, bM_out (show ¬ (C ≤ a ∧ a < C + (cH C s).length) from hb), gm_new, gm_set_ne (by omega)]
  · rintro r M' sz' dd ⟨rfl, rfl, s', e1, e2, e3⟩
    exact ⟨s', M', e2, e1, e3⟩
theorem pRl.ext {M M' : gm_H} {lo hi a : Nat} {x : Rl} {fl : Int32 → Bool} (hx : pRl M lo hi a x fl) (hg : ∀ a y, lo ≤ a → M a = some y → M' a = some y) : pRl M' lo hi a x fl := by
  obtain ⟨h, b, fa, v, kh, oh, ⟨a1, a2, a3, a4, a5, a6⟩, b1, b2, b3, b4, b5⟩ := hx
  refine ⟨h, b, fa, v, kh, oh, ⟨a1, a2, a3, a4, a5, a6⟩, hg _ _ a1 b1, b2, hg _ _ a2 b3, hg _ _ a3 b4, fun j l hl => ?_⟩
  obtain ⟨p, kn, on, p1, p2, p3, p4, p5⟩ := b5 j l hl
  exact ⟨p, kn, on, p1, p2, p3, hg _ _ p2 p4, p5⟩
theorem lyG.ext {M M' : gm_H} {p0 q : Nat} {O : List Rl} {st : Nat → Nat} {e0 e1 e2 : Nat} {rc : Nat → Prop} (h : lyG M p0 q O st e0 e1 e2 rc) (hq : p0 ≤ q) (hg : ∀ a y, p0 ≤ a → M a = some y → M' a = some y) : lyG M' p0 q O st e0 e1 e2 rc := by
  obtain ⟨fo, ft, fe, v, h1, h2, h3, h4, h5, h6, h7, h8⟩ := h
  refine ⟨fo, ft, fe, v, hg _ _ hq h1, hg _ _ (by omega) h2, hg _ _ (by omega) h3, hg _ _ (by omega) h4, h5, fun p x hx => ?_, h7, h8⟩
  obtain ⟨a, lo, hi, a1, a2, a3, a4⟩ := h6 p x hx
  exact ⟨a, lo, hi, a1, a2, a3, a4.ext (fun b y hb => hg b y (by omega))⟩
