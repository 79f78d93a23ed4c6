/-! the class: planned terms, fill, fits -/
/-- one variable less -/
def uM (u : Int32 → Bool) (c : Int32) : Int32 → Bool := fun v => u v && !(v == c)
/-- the digit of a character in a planned term; u: not bound yet -/
def pD (u : Int32 → Bool) (c : Int32) : Nat := if chV c then (if u c = true then cn c - 84 else cn c - 78) else cn c
def pl (u : Int32 → Bool) : List Int32 → List Nat
  | [] => []
  | c :: cs => pD u c :: pl (uM u c) cs
/-- the top of a term, its parts -/
def tTop (t : Tm) : Int32 := if t.1 = 0 then ps_hc t.2 else t.1
def tPar (t : Tm) : List Int32 := if t.1 = 0 then [] else t.2
def pE (u : Int32 → Bool) (t : Tm) : Nat := (if t.1 = 0 then pD u (ps_hc t.2) else cn t.1) * 2097152 + (pl u (tPar t)).getD 0 0 * 16384 + (pl u (tPar t)).getD 1 0 * 128 + (pl u (tPar t)).getD 2 0
theorem tE_top {t : Tm} : tE t = cn (tTop t) * 2097152 + cn ((tPar t).getD 0 0) * 16384 + cn ((tPar t).getD 1 0) * 128 + cn ((tPar t).getD 2 0) := by
  unfold tE dg tTop tPar
  by_cases h : t.1 = 0
  · simp only [h, if_true]
    have : t.2.getD 0 0 = ps_hc t.2 := by cases t.2 <;> rfl
    rw [this]
    rfl
  · simp [h]
theorem pD_lt {u : Int32 → Bool} {c : Int32} (h : chP c) : 0 < pD u c ∧ pD u c < 128 := by
  obtain ⟨h1, h2, _⟩ := chP_cn h
  unfold pD
  by_cases hv : chV c
  · obtain ⟨a, b, _⟩ := chV_cn hv
    rw [if_pos hv]
    by_cases hu : u c = true
    · rw [if_pos hu]; omega
    · rw [if_neg hu]; omega
  · rw [if_neg hv]; omega
theorem pl_lt : ∀ (cs : List Int32) (u : Int32 → Bool) (j : Nat), (∀ c ∈ cs, chP c) → (pl u cs).getD j 0 < 128 := by
  intro cs
  induction cs with
  | nil => intro u j _; rw [pl]; simp
  | cons c cs ih =>
    intro u j h
    rw [pl]
    cases j with
    | zero => exact (pD_lt (h c (by simp))).2
    | succ j => exact ih _ j (fun x hx => h x (List.mem_cons_of_mem _ hx))
theorem cn_getD_lt {cs : List Int32} (h : ∀ c ∈ cs, chP c) (j : Nat) : cn (cs.getD j 0) < 128 := by
  rw [List.getD_eq_getElem?_getD]
  cases e : cs[j]? with
  | none => exact (by decide : cn 0 < 128)
  | some c => exact (chP_cn (h c (List.mem_of_getElem? e))).2.1
theorem wfT.par {t : Tm} (h : wfT t) : (∀ c ∈ tPar t, chP c) ∧ (tPar t).length ≤ 3 ∧ chP (tTop t) ∧ (t.1 = 0 → t = (0, [tTop t])) ∧ (t.1 ≠ 0 → t = (tTop t, tPar t) ∧ chL (tTop t) ∧ 1 ≤ (tPar t).length) := by
  obtain ⟨o, cs⟩ := t
  unfold tPar tTop
  rcases h with ⟨h0, c, hc, e⟩ | ⟨h0, h1, h2, h3⟩
  · simp only at h0 e
    subst h0
    subst e
    exact ⟨fun c hc => absurd hc (by simp), by simp, hc, fun _ => rfl, fun z => absurd rfl z⟩
  · simp only at h0 h1 h2 h3
    have hz := chL_ne h0
    simp only [hz, if_false]
    exact ⟨h3, h2, Or.inl h0, fun z => z.elim, fun _ => ⟨trivial, h0, h1⟩⟩
/-- the digits of four -/
theorem dg4 {a b c d : Nat} (hb : b < 128) (hc : c < 128) (hd : d < 128) : (a * 2097152 + b * 16384 + c * 128 + d) / 2 ^ 21 = a ∧ (a * 2097152 + b * 16384 + c * 128 + d) / 2 ^ 14 % 128 = b ∧ (a * 2097152 + b * 16384 + c * 128 + d) / 2 ^ 7 % 128 = c ∧ (a * 2097152 + b * 16384 + c * 128 + d) / 2 ^ 0 % 128 = d := by
  refine ⟨?_, ?_, ?_, ?_⟩ <;> omega
/-- what the class's row of bound terms says -/
def cEnv (s : cS) (e : Env) : Prop := s.2.1 16 0 = 0 ∧ ∀ v, v < 6 → ∀ t, e (nI (85 + v)) = some t → gT t ∧ s.2.1 16 (7 + v) = nI (tE t)
/-- all as it was but the bound terms -/
def frB (s s' : cS) : Prop := s'.1 = s.1 ∧ (∀ i, i ≠ 16 → s'.2.1 i = s.2.1 i) ∧ s'.2.2 = s.2.2
theorem frB.refl (s : cS) : frB s s := ⟨rfl, fun _ _ => rfl, rfl⟩
theorem frB.trans {s s' s'' : cS} (h : frB s s') (g : frB s' s'') : frB s s'' := ⟨g.1.trans h.1, fun i hi => (g.2.1 i hi).trans (h.2.1 i hi), g.2.2.trans h.2.2⟩
theorem frB.set (s : cS) (f : Nat → Int32) : frB s (cA s 16 f) := ⟨rfl, fun i hi => if_neg hi, rfl⟩
theorem cEnv.var {s : cS} {e : Env} (h : cEnv s e) {c : Int32} {t : Tm} (hc : chV c) (ht : e c = some t) : gT t ∧ s.2.1 16 (cn c - 78) = nI (tE t) := by
  obtain ⟨h1, h2, h3⟩ := chV_cn hc
  have := h.2 (cn c - 85) (by omega) t (by rw [show 85 + (cn c - 85) = cn c by omega, ← h3]; exact ht)
  rw [show 7 + (cn c - 85) = cn c - 78 by omega] at this
  exact this
theorem cEnv.down {s : cS} {e e' : Env} (h : cEnv s e') (g : ∀ c t, e c = some t → e' c = some t) : cEnv s e := ⟨h.1, fun v hv t ht => h.2 v hv t (g _ t ht)⟩
theorem cEnv.up {s : cS} {e : Env} (h : cEnv s e) {c : Int32} {t : Tm} (hc : chV c) (ht : gT t) (hn : e c = none) {k : Nat} (hk : k = cn c - 78) {v : Int32} (hv : v = nI (tE t)) : cEnv (cA s 16 (upd (s.2.1 16) k v)) (eUp e c t) := by
  obtain ⟨h1, h2, h3⟩ := chV_cn hc
  subst hk
  refine ⟨?_, fun v' hv' t' ht' => ?_⟩
  · show upd (s.2.1 16) (cn c - 78) v 0 = 0
    rw [upd_ne (by omega)]
    exact h.1
  · show _ ∧ upd (s.2.1 16) (cn c - 78) v (7 + v') = _
    unfold eUp at ht'
    by_cases e1 : nI (85 + v') = c
    · rw [if_pos e1] at ht'
      cases ht'
      have : 85 + v' = cn c := by rw [← e1, cn_nI (by omega)]
      rw [show 7 + v' = cn c - 78 by omega, upd_eq]
      exact ⟨ht, hv⟩
    · rw [if_neg e1] at ht'
      rw [upd_ne (fun z => e1 (by rw [show 85 + v' = cn c by omega]; exact h3.symm))]
      exact h.2 v' hv' t' ht'
/-- garbage in a cell that e does not know -/
theorem cEnv.junk {s : cS} {e : Env} (h : cEnv s e) {c : Int32} (hc : chV c) (hn : e c = none) {k : Nat} (hk : k = cn c - 78) {v : Int32} : cEnv (cA s 16 (upd (s.2.1 16) k v)) e := by
  obtain ⟨h1, h2, h3⟩ := chV_cn hc
  subst hk
  refine ⟨?_, fun v' hv' t' ht' => ?_⟩
  · show upd (s.2.1 16) (cn c - 78) v 0 = 0
    rw [upd_ne (by omega)]
    exact h.1
  · show _ ∧ upd (s.2.1 16) (cn c - 78) v (7 + v') = _
    have hne : 7 + v' ≠ cn c - 78 := by
      intro z
      have : nI (85 + v') = c := by rw [show 85 + v' = cn c by omega]; exact h3.symm
      rw [this, hn] at ht'
      cases ht'
    rw [upd_ne hne]
    exact h.2 v' hv' t' ht'
theorem eUp_ext {e : Env} {c : Int32} {t : Tm} (hn : e c = none) : ∀ v w, e v = some w → eUp e c t v = some w := by
  intro v w h
  unfold eUp
  by_cases z : v = c
  · rw [z, hn] at h
    cases h
  · rw [if_neg z]
    exact h
/-- u says what e does not know -/
def uE (u : Int32 → Bool) (e : Env) : Prop := ∀ c, chV c → u c = (e c).isNone
theorem uE.up {u : Int32 → Bool} {e : Env} (h : uE u e) {c : Int32} {t : Tm} : uE (uM u c) (eUp e c t) := by
  intro v hv
  unfold uM eUp
  by_cases z : v = c
  · simp [z]
  · rw [if_neg z]
    simp [h v hv, z]
theorem uE.same {u : Int32 → Bool} {e : Env} (h : uE u e) {c : Int32} (hc : chV c → e c ≠ none) : uE (uM u c) e := by
  intro v hv
  unfold uM
  by_cases z : v = c
  · subst z
    have := hc hv
    cases e1 : e v with
    | none => exact absurd e1 this
    | some t => simp
  · simp [h v hv, z]
theorem nI_m7b (n : Nat) : nI (7 * (n + 1)) + (-7 : Int32) = nI (7 * n) := by
  rw [show 7 * (n + 1) = 7 * n + 7 by omega, ← nI_add, Int32.add_assoc, show nI 7 + (-7 : Int32) = 0 from by decide, Int32.add_zero]
theorem m7_neg : (nI (7 * 0) + (-7 : Int32)) < 0 := by decide
theorem fits0 {N0 : Nat} {K : Nat → Nat} {d C : Nat} {a b k : Int32} {s : cS} {G : gm_H} {sz sl : Nat} {Q : Int32 → cS → Prop} (hN : N0 ≤ C) (q : Q 0 s) : hX2_fits_99 N0 K d C a b 0 k s G sz sl Q := by
  refine TX2_fits_99 hN ?_
  by_cases h : k < 0
  · rw [if_pos h]
    exact ⟨Or.inl rfl, q⟩
  · rw [if_neg h, if_pos rfl]
    exact ⟨Or.inl rfl, q⟩
theorem chP_cn_inj {c x : Int32} (hc : chP c) (hx : chP x) : cn c = cn x ↔ c = x := by
  obtain ⟨_, _, h⟩ := chP_cn hc
  obtain ⟨_, _, g⟩ := chP_cn hx
  exact ⟨fun z => by rw [h, g, z], fun z => by rw [z]⟩
theorem gC_x {x : Int32} (hx : chP x) (hv : ¬ chV x) : gT (0, [x]) := ⟨Or.inl ⟨rfl, x, hx, rfl⟩, fun c hc => by simp only [List.mem_singleton] at hc; rw [hc]; exact hv⟩
theorem tE_x {x : Int32} : tE (0, [x]) = cn x * 2 ^ 21 := by rw [tE_k]
theorem cs_fits_99 {N0 : Nat} {K : Nat → Nat} {d C P g : Nat} {fl : Int32 → Bool} {G : gm_H} {sz sl : Nat} {Q : Int32 → cS → Prop} (hN : N0 ≤ C) (hP : P < 2 ^ 28) (hg : g < 2 ^ 28) : ∀ (n : Nat) (cs xs : List Int32) (u : Int32 → Bool) (e : Env) (s : cS), n ≤ 3 → cs.length ≤ n → xs.length ≤ n → (∀ c ∈ cs, chP c) → (∀ x ∈ xs, chP x ∧ ¬ chV x) → (∀ j, j < n → P / 2 ^ (7 * (n - 1 - j)) % 128 = (pl u cs).getD j 0) → (∀ j, j < n → g / 2 ^ (7 * (n - 1 - j)) % 128 = cn (xs.getD j 0)) → uE u e → cEnv s e → (∀ s' e', mCs fl e cs xs = some e' → frB s s' → cEnv s' e' → Q 1 s') → (∀ s', mCs fl e cs xs = none → frB s s' → cEnv s' e → Q 0 s') → hX2_fits_99 N0 K d C (nI P) (nI g) 1 (nI (7 * n) + (-7 : Int32)) s G sz sl Q := by
  intro n
  induction n with
  | zero =>
    intro cs xs u e s _ h1 h2 _ _ _ _ _ hE q1 _
    refine TX2_fits_99 hN ?_
    rw [if_pos m7_neg]
    have e1 : cs = [] := List.length_eq_zero_iff.mp (by omega)
    have e2 : xs = [] := List.length_eq_zero_iff.mp (by omega)
    subst e1
    subst e2
    exact ⟨Or.inr rfl, q1 s e rfl (frB.refl s) hE⟩
  | succ n ih =>
    intro cs xs u e s hn h1 h2 hc hx d1 d2 hu hE q1 q0
    have hd1 := d1 0 (by omega)
    have hd2 := d2 0 (by omega)
    rw [show 7 * (n + 1 - 1 - 0) = 7 * n by omega] at hd1 hd2
    refine TX2_fits_99 hN ?_
    rw [nI_m7b n, dig hP (by omega : 7 * n < 32), dig hg (by omega : 7 * n < 32), if_neg (nI_pos (by omega)), if_neg (by decide : ¬ (1 : Int32) = 0), hd1, hd2]
    have tl1 : ∀ u' cs', (∀ j, (pl u cs).getD (j + 1) 0 = (pl u' cs').getD j 0) → ∀ j, j < n → P / 2 ^ (7 * (n - 1 - j)) % 128 = (pl u' cs').getD j 0 := by
      intro u' cs' h j hj
      have := d1 (j + 1) (by omega)
      rw [show n + 1 - 1 - (j + 1) = n - 1 - j by omega, h j] at this
      exact this
    have tl2 : ∀ xs' : List Int32, (∀ j, xs.getD (j + 1) 0 = xs'.getD j 0) → ∀ j, j < n → g / 2 ^ (7 * (n - 1 - j)) % 128 = cn (xs'.getD j 0) := by
      intro xs' h j hj
      have := d2 (j + 1) (by omega)
      rw [show n + 1 - 1 - (j + 1) = n - 1 - j by omega, h j] at this
      exact this
    cases cs with
    | nil =>
      have ep : (pl u []).getD 0 0 = 0 := rfl
      rw [ep, if_pos nI_0]
      cases xs with
      | nil =>
        have eg : cn (([] : List Int32).getD 0 0) = 0 := rfl
        rw [eg, if_pos rfl]
        exact ih [] [] u e s (by omega) (by simp) (by simp) hc hx (tl1 u [] (fun j => by rw [pl]; simp)) (tl2 [] (fun j => by simp)) hu hE q1 q0
      | cons x xs =>
        have hxx := (hx x (by simp)).1
        obtain ⟨x1, x2, _⟩ := chP_cn hxx
        rw [if_neg (fun z => by have := (nI_eq (by decide) (by show cn x < _; omega)).mp z; have e : cn ((x :: xs).getD 0 0) = cn x := rfl; omega)]
        exact fits0 hN (q0 s rfl (frB.refl s) hE)
    | cons c cs =>
      have hcc := hc c (by simp)
      have hpd := pD_lt (u := u) hcc
      have ep : (pl u (c :: cs)).getD 0 0 = pD u c := rfl
      rw [ep, if_neg (nI_ne0 hpd.1 (by omega))]
      have tlp : ∀ j, (pl u (c :: cs)).getD (j + 1) 0 = (pl (uM u c) cs).getD j 0 := fun j => by rw [pl]; simp
      have hc' : ∀ c' ∈ cs, chP c' := fun c' h => hc c' (List.mem_cons_of_mem _ h)
      simp only [List.length_cons] at h1
      cases xs with
      | nil =>
        have eg : cn (([] : List Int32).getD 0 0) = 0 := rfl
        rw [eg, if_pos nI_0, if_neg (fun z => by have := (nI_eq (by omega) (by decide)).mp z; omega)]
        exact fits0 hN (q0 s rfl (frB.refl s) hE)
      | cons x xs =>
        obtain ⟨hxx, hxv⟩ := hx x (by simp)
        obtain ⟨x1, x2, x3⟩ := chP_cn hxx
        have eg : cn ((x :: xs).getD 0 0) = cn x := rfl
        simp only [List.length_cons] at h2
        have hx' : ∀ x' ∈ xs, chP x' ∧ ¬ chV x' := fun x' h => hx x' (List.mem_cons_of_mem _ h)
        have tlx : ∀ j, (x :: xs).getD (j + 1) 0 = xs.getD j 0 := fun j => by simp
        rw [eg, if_neg (nI_ne0 (by omega) (by omega))]
        have hm : ∀ e', mC1 fl e c (0, [x]) = some e' → mCs fl e (c :: cs) (x :: xs) = mCs fl e' cs xs := by
          intro e' h
          rw [mCs, h]
        have hm0 : mC1 fl e c (0, [x]) = none → mCs fl e (c :: cs) (x :: xs) = none := by
          intro h
          rw [mCs, h]
        have next : ∀ e' s1, mC1 fl e c (0, [x]) = some e' → uE (uM u c) e' → cEnv s1 e' → frB s s1 → (∀ v w, e v = some w → e' v = some w) → hX2_fits_99 N0 K d C (nI P) (nI g) 1 (nI (7 * n) + (-7 : Int32)) s1 G sz sl Q := by
          intro e' s1 he hu' hE' hf hext
          refine ih cs xs (uM u c) e' s1 (by omega) (by omega) (by omega) hc' hx' (tl1 _ _ tlp) (tl2 _ tlx) hu' hE' (fun s' e2 h g1 g2 => ?_) (fun s' h g1 g2 => ?_)
          · exact q1 s' e2 (by rw [hm e' he]; exact h) (hf.trans g1) g2
          · exact q0 s' (by rw [hm e' he]; exact h) (hf.trans g1) (g2.down hext)
        have h13 : (12 : Int32) = nI 12 := rfl
        have h6 : (6 : Int32) = nI 6 := rfl
        by_cases hv : chV c
        · obtain ⟨c1, c2, c3⟩ := chV_cn hv
          by_cases huc : u c = true
          · have epd : pD u c = cn c - 84 := by unfold pD; rw [if_pos hv, if_pos huc]
            have hnone : e c = none := by
              have := hu c hv
              rw [huc] at this
              simpa using this.symm
            rw [epd, if_pos (by rw [h13]; exact nI_le (by omega) (by decide)), if_neg (by rw [h6]; exact nI_nlt (by omega) (by decide))]
            refine ⟨cn c - 84 + 6, by rw [h6, nI_add], by omega, ?_⟩
            have em : mC1 fl e c (0, [x]) = some (eUp e c (0, [x])) := by
              unfold mC1
              rw [if_pos hv, if_neg (fun z => z.2 rfl), hnone]
            refine next _ _ em hu.up (hE.up hv (gC_x hxx hxv) hnone (by omega) ?_) (frB.set _ _) (eUp_ext hnone)
            rw [show (21 : Int32) = nI 21 from rfl, nI_shl _ (by decide), tE_x]
          · have epd : pD u c = cn c - 78 := by unfold pD; rw [if_pos hv, if_neg huc]
            have hsome : ∃ t, e c = some t := by
              have := hu c hv
              cases e1 : e c with
              | some t => exact ⟨t, rfl⟩
              | none => rw [e1] at this; exact absurd this huc
            obtain ⟨t, ht⟩ := hsome
            have hct := hE.var hv ht
            rw [epd, if_pos (by rw [h13]; exact nI_le (by omega) (by decide)), if_pos (by rw [h6]; exact nI_lt (by omega) (by omega))]
            refine ⟨cn c - 78, rfl, by omega, ?_⟩
            rw [hct.2, show (21 : Int32) = nI 21 from rfl, nI_shl _ (by decide), ← tE_x]
            have tl := (tE_lt hct.1.1).1
            have xl := (tE_lt (gC_x hxx hxv).1).1
            by_cases het : t = (0, [x])
            · rw [if_pos (by rw [het])]
              have em : mC1 fl e c (0, [x]) = some e := by
                unfold mC1
                rw [if_pos hv, if_neg (fun z => z.2 rfl), ht]
                simp only
                rw [if_pos het]
              exact next e s em (hu.same (fun _ => by rw [ht]; simp)) hE (frB.refl s) (fun v w h => h)
            · rw [if_neg (fun z => het (tE_inj hct.1.1 (gC_x hxx hxv).1 ((nI_eq (by omega) (by omega)).mp z)))]
              refine fits0 hN (q0 s (hm0 ?_) (frB.refl s) hE)
              unfold mC1
              rw [if_pos hv, if_neg (fun z => z.2 rfl), ht]
              simp only
              rw [if_neg het]
        · have epd : pD u c = cn c := by unfold pD; rw [if_neg hv]
          obtain ⟨c1, c2, c3⟩ := chP_cn hcc
          rw [epd, if_neg (by rw [h13]; exact nI_ge (by omega) (by omega))]
          by_cases hcx : c = x
          · rw [if_pos (by rw [hcx])]
            have em : mC1 fl e c (0, [x]) = some e := by
              unfold mC1
              rw [if_neg hv, if_pos (by rw [hcx])]
            exact next e s em (hu.same (fun z => absurd z hv)) hE (frB.refl s) (fun v w h => h)
          · rw [if_neg (fun z => hcx ((chP_cn_inj hcc hxx).mp ((nI_eq (by omega) (by omega)).mp z)))]
            refine fits0 hN (q0 s (hm0 ?_) (frB.refl s) hE)
            unfold mC1
            rw [if_neg hv, if_neg (fun z => hcx (by cases z; rfl))]
theorem mCs_same {fl : Int32 → Bool} {e : Env} : ∀ (cs xs : List Int32) (u : Int32 → Bool) (n : Nat), cs.length ≤ n → xs.length ≤ n → (∀ c ∈ cs, chP c) → (∀ x ∈ xs, chP x) → (∀ j, j < n → (pl u cs).getD j 0 = cn (xs.getD j 0)) → mCs fl e cs xs = some e := by
  intro cs
  induction cs with
  | nil =>
    intro xs u n _ h2 _ hx h
    cases xs with
    | nil => rfl
    | cons x xs =>
      have := h 0 (by simp at h2; omega)
      have a := (chP_cn (hx x (by simp))).1
      have e1 : (pl u []).getD 0 0 = 0 := rfl
      have e2 : cn ((x :: xs).getD 0 0) = cn x := rfl
      omega
  | cons c cs ih =>
    intro xs u n h1 h2 hc hx h
    simp only [List.length_cons] at h1
    have h0 := h 0 (by omega)
    have e1 : (pl u (c :: cs)).getD 0 0 = pD u c := rfl
    have hp := (pD_lt (u := u) (hc c (by simp))).1
    cases xs with
    | nil =>
      have e2 : cn (([] : List Int32).getD 0 0) = 0 := rfl
      omega
    | cons x xs =>
      have e2 : cn ((x :: xs).getD 0 0) = cn x := rfl
      have hxx := hx x (by simp)
      obtain ⟨x1, x2, _⟩ := chP_cn hxx
      rw [e1, e2] at h0
      have hv : ¬ chV c := by
        intro hv
        obtain ⟨a, b, _⟩ := chV_cn hv
        unfold pD at h0
        rw [if_pos hv] at h0
        by_cases hu : u c = true
        · rw [if_pos hu] at h0; omega
        · rw [if_neg hu] at h0; omega
      have ecx : c = x := by
        unfold pD at h0
        rw [if_neg hv] at h0
        exact (chP_cn_inj (hc c (by simp)) hxx).mp h0
      have em : mC1 fl e c (0, [x]) = some e := by
        unfold mC1
        rw [if_neg hv, if_pos (by rw [ecx])]
      rw [mCs, em]
      simp only [List.length_cons] at h2
      refine ih xs (uM u c) (n - 1) (by omega) (by omega) (fun y hy => hc y (List.mem_cons_of_mem _ hy)) (fun y hy => hx y (List.mem_cons_of_mem _ hy)) (fun j hj => ?_)
      have := h (j + 1) (by omega)
      rw [pl] at this
      simpa using this
/-- the mask of the variables that constants alone may stand for -/
def flM (v : Int32) (fl : Int32 → Bool) : Prop := ∀ b, b < 6 → (v &&& ((1 : Int32) <<< (nI b &&& 31)) = 0 ↔ fl (nI (85 + b)) = false)
theorem gT.par {t : Tm} (h : gT t) : ∀ x ∈ tPar t, chP x ∧ ¬ chV x := by
  intro x hx
  refine ⟨h.1.par.1 x hx, ?_⟩
  unfold tPar at hx
  by_cases z : t.1 = 0
  · rw [if_pos z] at hx
    exact absurd hx (by simp)
  · rw [if_neg z] at hx
    exact h.2 x hx
theorem cq_fits {N0 : Nat} {K : Nat → Nat} {d C : Nat} {p g : Tm} {u : Int32 → Bool} {fl : Int32 → Bool} {e : Env} {v : Int32} {s : cS} {G : gm_H} {sz : Nat} {Q : Int32 → cS → Prop} (hN : N0 ≤ C) (hp : wfT p) (hg : gT g) (hu : uE u e) (hE : cEnv s e) (hG : eG fl e) (hfl : flM v fl) (q1 : ∀ s' e', mT1 fl e p g = some e' → frB s s' → cEnv s' e' → Q 1 s') (q0 : ∀ s', mT1 fl e p g = none → frB s s' → cEnv s' e → Q 0 s') : kX2_fits N0 K (d + 1) C (nI (pE u p)) (nI (tE g)) v s G sz Q := by
  obtain ⟨p1, p2, p3, p4, p5⟩ := hp.par
  obtain ⟨g1, g2, g3, g4, g5⟩ := hg.1.par
  have hgl := (tE_lt hg.1).1
  have b0 := pl_lt (tPar p) u 0 p1
  have b1 := pl_lt (tPar p) u 1 p1
  have b2 := pl_lt (tPar p) u 2 p1
  have c0 := cn_getD_lt g1 0
  have c1 := cn_getD_lt g1 1
  have c2 := cn_getD_lt g1 2
  obtain ⟨t1, t2, _⟩ := chP_cn g3
  have etop : ∀ a, pE u p = a * 2097152 + (pl u (tPar p)).getD 0 0 * 16384 + (pl u (tPar p)).getD 1 0 * 128 + (pl u (tPar p)).getD 2 0 → a < 128 → pE u p < 2 ^ 28 ∧ pE u p / 2 ^ 21 = a ∧ (∀ j, j < 3 → pE u p / 2 ^ (7 * (3 - 1 - j)) % 128 = (pl u (tPar p)).getD j 0) := by
    intro a ea ha
    obtain ⟨z1, z2, z3, z4⟩ := dg4 (a := a) b0 b1 b2
    rw [← ea] at z1 z2 z3 z4
    refine ⟨by rw [ea]; omega, z1, fun j hj => ?_⟩
    have : j = 0 ∨ j = 1 ∨ j = 2 := by omega
    rcases this with rfl | rfl | rfl
    · exact z2
    · exact z3
    · exact z4
  have gtop : tE g / 2 ^ 21 = cn (tTop g) ∧ (∀ j, j < 3 → tE g / 2 ^ (7 * (3 - 1 - j)) % 128 = cn ((tPar g).getD j 0)) := by
    obtain ⟨z1, z2, z3, z4⟩ := dg4 (a := cn (tTop g)) c0 c1 c2
    rw [← tE_top] at z1 z2 z3 z4
    refine ⟨z1, fun j hj => ?_⟩
    have : j = 0 ∨ j = 1 ∨ j = 2 := by omega
    rcases this with rfl | rfl | rfl
    · exact z2
    · exact z3
    · exact z4
  have h12 : (12 : Int32) = nI 12 := rfl
  have h6 : (6 : Int32) = nI 6 := rfl
  have h21 : (21 : Int32) = nI 21 := rfl
  have hsh : (14 : Int32) = nI (7 * 3) + (-7 : Int32) := by decide
  refine kX2_fits.of (TX2_fits_0 hN ?_)
  by_cases h0 : p.1 = 0
  · have ep := p4 h0
    have em : mT1 fl e p g = mC1 fl e (tTop p) g := by
      unfold mT1 tTop
      rw [if_pos h0, if_pos h0]
    have epar : tPar p = [] := if_pos h0
    have epE : pE u p = pD u (tTop p) * 2097152 := by
      unfold pE tTop
      rw [if_pos h0, if_pos h0, epar]
      show _ + 0 * 16384 + 0 * 128 + 0 = _
      omega
    have hpd := pD_lt (u := u) p3
    obtain ⟨e1, e2, e3⟩ := etop (pD u (tTop p)) (by rw [epE, epar]; show _ = _ + 0 * 16384 + 0 * 128 + 0; omega) hpd.2
    rw [h21, nI_ush (by omega) (by decide), e2, nI_ush (by omega) (by decide), gtop.1]
    rw [em] at q1 q0
    by_cases hv : chV (tTop p)
    · obtain ⟨v1, v2, v3⟩ := chV_cn hv
      have hne : ¬ nI (pE u p) = nI (tE g) := by
        intro z
        have z' := (nI_eq (by omega) (by omega)).mp z
        have : pD u (tTop p) = cn (tTop g) := by rw [← e2, z', gtop.1]
        unfold pD at this
        rw [if_pos hv] at this
        by_cases huc : u (tTop p) = true
        · rw [if_pos huc] at this; omega
        · rw [if_neg huc] at this; omega
      rw [if_neg hne]
      by_cases huc : u (tTop p) = true
      · have epd : pD u (tTop p) = cn (tTop p) - 84 := by unfold pD; rw [if_pos hv, if_pos huc]
        have hnone : e (tTop p) = none := by
          have := hu _ hv
          rw [huc] at this
          simpa using this.symm
        rw [epd, if_neg (by rw [h6]; exact nI_nlt (by omega) (by decide))]
        refine ⟨cn (tTop p) - 84 + 6, by rw [h6, nI_add], by omega, ?_⟩
        have esub : nI (cn (tTop p) - 84) - 1 = nI (cn (tTop p) - 85) := by
          rw [show cn (tTop p) - 84 = (cn (tTop p) - 85) + 1 by omega, nI_pred]
        rw [esub]
        have hb := hfl (cn (tTop p) - 85) (by omega)
        rw [show 85 + (cn (tTop p) - 85) = cn (tTop p) by omega, ← v3] at hb
        have hup := hE.up hv hg hnone (k := cn (tTop p) - 84 + 6) (by omega) (v := nI (tE g)) rfl
        have hjunk := hE.junk hv hnone (k := cn (tTop p) - 84 + 6) (by omega) (v := nI (tE g))
        have e07 : (2097151 : Int32) = nI 2097151 := rfl
        have hz : nI (tE g) &&& (2097151 : Int32) = 0 ↔ g.1 = 0 := by
          rw [e07, nI_and, n_andPart, ← tE_part hg.1, ← nI_0, nI_eq (by omega) (by decide)]
        have hs : ¬ (fl (tTop p) = true ∧ ¬ g.1 = 0) → mC1 fl e (tTop p) g = some (eUp e (tTop p) g) := by
          intro z
          unfold mC1
          rw [if_pos hv, if_neg z, hnone]
        by_cases hf : fl (tTop p) = true
        · rw [if_neg (fun z => by rw [hb.mp z] at hf; cases hf)]
          by_cases hgz : g.1 = 0
          · rw [if_pos (hz.mpr hgz)]
            exact q1 _ _ (hs (fun z => z.2 hgz)) (frB.set _ _) hup
          · rw [if_neg (fun z => hgz (hz.mp z))]
            refine q0 _ ?_ (frB.set _ _) hjunk
            unfold mC1
            rw [if_pos hv, if_pos ⟨hf, hgz⟩]
        · rw [if_pos (hb.mpr (by simpa using hf))]
          exact q1 _ _ (hs (fun z => hf z.1)) (frB.set _ _) hup
      · have epd : pD u (tTop p) = cn (tTop p) - 78 := by unfold pD; rw [if_pos hv, if_neg huc]
        have hsome : ∃ t, e (tTop p) = some t := by
          have := hu _ hv
          cases e1 : e (tTop p) with
          | some t => exact ⟨t, rfl⟩
          | none => rw [e1] at this; exact absurd this huc
        obtain ⟨t, ht⟩ := hsome
        have hct := hE.var hv ht
        have tl := (tE_lt hct.1.1).1
        rw [epd, if_pos (by rw [h6]; exact nI_lt (by omega) (by omega)), if_neg (by rw [h12]; exact nI_nlt (by omega) (by decide))]
        refine ⟨cn (tTop p) - 78, rfl, by omega, ?_⟩
        rw [hct.2]
        have gg := (hG _ t hv ht).2
        by_cases het : t = g
        · rw [if_pos (by rw [het])]
          refine q1 s e ?_ (frB.refl s) hE
          unfold mC1
          rw [if_pos hv, if_neg (fun z => z.2 (by rw [← het]; exact gg z.1)), ht]
          simp only
          rw [if_pos het]
        · rw [if_neg (fun z => het (tE_inj hct.1.1 hg.1 ((nI_eq (by omega) (by omega)).mp z)))]
          refine q0 s ?_ (frB.refl s) hE
          unfold mC1
          rw [if_pos hv, ht]
          simp only
          rw [if_neg het]
          split <;> rfl
    · have epd : pD u (tTop p) = cn (tTop p) := by unfold pD; rw [if_neg hv]
      have epg : pE u p = tE p := by rw [epE, epd, ep, tE_k]; rfl
      have em2 : mC1 fl e (tTop p) g = if g = p then some e else none := by
        unfold mC1
        rw [if_neg hv, ← ep]
      obtain ⟨w1, w2, _⟩ := chP_cn p3
      by_cases hpg : g = p
      · rw [if_pos (by rw [epg, hpg])]
        exact q1 s e (by rw [em2, if_pos hpg]) (frB.refl s) hE
      · rw [if_neg (fun z => hpg (tE_inj hg.1 hp (by rw [← epg]; exact ((nI_eq (by omega) (by omega)).mp z).symm)))]
        rw [epd, if_pos (by rw [h6]; exact nI_lt (by omega) (by omega)), if_pos (by rw [h12]; exact nI_lt (by omega) (by omega))]
        have hno : ∀ s', frB s s' → cEnv s' e → Q 0 s' := fun s' a b => q0 s' (by rw [em2, if_neg hpg]) a b
        by_cases htt : tTop p = tTop g
        · rw [if_pos (by rw [htt]), hsh]
          have hgz : g.1 ≠ 0 := fun z => hpg (by rw [g4 z, ep, htt])
          refine cs_fits_99 (fl := fl) hN e1 hgl 3 (tPar p) (tPar g) u e s (by omega) p2 g2 p1 hg.par e3 gtop.2 hu hE (fun s' e' h _ _ => ?_) (fun s' _ a b => hno s' a b)
          exfalso
          rw [epar] at h
          have := (g5 hgz).2.2
          cases e5 : tPar g with
          | nil => rw [e5] at this; simp at this
          | cons x xs => rw [e5] at h; simp [mCs] at h
        · rw [if_neg (fun z => htt ((chP_cn_inj p3 g3).mp ((nI_eq (by omega) (by omega)).mp z)))]
          exact fits0 hN (hno s (frB.refl s) hE)
  · obtain ⟨ep, hl, hlen⟩ := p5 h0
    have etp : tTop p = p.1 := if_neg h0
    have em : mT1 fl e p g = if g.1 = tTop p then mCs fl e (tPar p) g.2 else none := by
      unfold mT1
      rw [if_neg h0, etp, show tPar p = p.2 from if_neg h0]
    obtain ⟨w1, w2, _⟩ := chP_cn p3
    have w3 : 97 ≤ cn (tTop p) := by
      obtain ⟨_, _, zz⟩ := chP_cn p3
      rw [zz] at hl
      exact (nI_leI (a := 97) (b := cn (tTop p)) (by decide) (by omega)).mp hl.1
    have epE : pE u p = cn (tTop p) * 2097152 + (pl u (tPar p)).getD 0 0 * 16384 + (pl u (tPar p)).getD 1 0 * 128 + (pl u (tPar p)).getD 2 0 := by
      unfold pE
      rw [if_neg h0, etp]
    obtain ⟨e1, e2, e3⟩ := etop (cn (tTop p)) epE w2
    rw [h21, nI_ush (by omega) (by decide), e2, nI_ush (by omega) (by decide), gtop.1]
    have hgn : tTop p = tTop g → g.1 = 0 → mT1 fl e p g = none := by
      intro _ z
      rw [em, if_neg (fun y => by rw [z] at y; exact absurd y.symm (chL_ne hl))]
    by_cases hpg : nI (pE u p) = nI (tE g)
    · rw [if_pos hpg]
      have z' := (nI_eq (by omega) (by omega)).mp hpg
      have htt : tTop p = tTop g := (chP_cn_inj p3 g3).mp (by rw [← e2, z', gtop.1])
      have hs : mCs fl e (tPar p) (tPar g) = some e := mCs_same (tPar p) (tPar g) u 3 p2 g2 p1 g1 (fun j hj => by rw [← e3 j hj, z', gtop.2 j hj])
      have hgz : g.1 ≠ 0 := by
        intro z
        have : tPar g = [] := if_pos z
        rw [this] at hs
        cases e5 : tPar p with
        | nil => rw [e5] at hlen; simp at hlen
        | cons x xs => rw [e5] at hs; simp [mCs] at hs
      refine q1 s e ?_ (frB.refl s) hE
      rw [em, if_pos (by rw [htt]; exact (if_neg hgz).symm)]
      rw [show tPar g = g.2 from if_neg hgz] at hs
      exact hs
    · rw [if_neg hpg, if_pos (by rw [h6]; exact nI_lt (by omega) (by omega)), if_pos (by rw [h12]; exact nI_lt (by omega) (by omega))]
      by_cases htt : tTop p = tTop g
      · rw [if_pos (by rw [htt]), hsh]
        refine cs_fits_99 (fl := fl) hN e1 hgl 3 (tPar p) (tPar g) u e s (by omega) p2 g2 p1 hg.par e3 gtop.2 hu hE (fun s' e' h a b => ?_) (fun s' h a b => ?_)
        · have hgz : g.1 ≠ 0 := by
            intro z
            rw [show tPar g = [] from if_pos z] at h
            cases e5 : tPar p with
            | nil => rw [e5] at hlen; simp at hlen
            | cons x xs => rw [e5] at h; simp [mCs] at h
          refine q1 s' e' ?_ a b
          rw [em, if_pos (by rw [htt]; exact (if_neg hgz).symm)]
          rw [show tPar g = g.2 from if_neg hgz] at h
          exact h
        · by_cases hgz : g.1 = 0
          · exact q0 s' (hgn htt hgz) a b
          · refine q0 s' ?_ a b
            rw [em, if_pos (by rw [htt]; exact (if_neg hgz).symm)]
            rw [show tPar g = g.2 from if_neg hgz] at h
            exact h
      · rw [if_neg (fun z => htt ((chP_cn_inj p3 g3).mp ((nI_eq (by omega) (by omega)).mp z)))]
        refine fits0 hN (q0 s ?_ (frB.refl s) hE)
        rw [em]
        by_cases y : g.1 = tTop p
        · exfalso
          have hgz : g.1 ≠ 0 := by rw [y]; exact chL_ne hl
          exact htt (by rw [← y]; exact (if_neg hgz).symm)
        · rw [if_neg y]
