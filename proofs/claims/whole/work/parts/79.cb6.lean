/-! the class: keys of rules, layers of them -/
def rS (R : List Rl) (i k : Nat) : Prop := k < R.length ∧ (hd R k = hd R i ∨ Dep R (hd R i) (hd R k))
def kwS (R : List Rl) (i w : Nat) : Prop := ∃ r ∈ R, reach R (hd R i) r ∧ ∃ l ∈ r.2, l.1 ≠ 2 ∧ gm_ix l.2.1 = nI w
def sgF (f4 : Nat → Int32) (i : Nat) : Nat := if f4 i &&& (16 : Int32) = 0 then (if f4 i &&& (4 : Int32) = 0 then 0 else 1) else 2
def mSF (f2 f3 : Nat → Int32) (i : Nat) : Nat := (f2 i ||| f3 i).toNatClampNeg
def kyF (f2 f3 f4 : Nat → Int32) (i : Nat) : Nat := sgF f4 i * 2 ^ 40 + bcn (mSF f2 f3 i) * 2 ^ 32 + mSF f2 f3 i
theorem trDone.m {R : List Rl} {f2 f3 f4 : Nat → Int32} (h : trDone R f2 f3 f4) {i : Nat} (hi : i < R.length) : f2 i ||| f3 i = nI (mSF f2 f3 i) ∧ mSF f2 f3 i < 2 ^ 24 ∧ ∀ k, (mSF f2 f3 i).testBit k = true ↔ rS R i k := by
  obtain ⟨h1, h2, _⟩ := h i hi
  obtain ⟨m, e1, e2, e3⟩ := h1.or h2
  have e : mSF f2 f3 i = m := by
    unfold mSF
    rw [e1, nI_clamp (by omega)]
  rw [e]
  refine ⟨e1, e2, fun k => (e3 k).trans ?_⟩
  unfold rS
  constructor
  · rintro (⟨a, b⟩ | ⟨a, b⟩)
    · exact ⟨a, Or.inl b⟩
    · exact ⟨a, Or.inr b⟩
  · rintro ⟨a, b | b⟩
    · exact Or.inl ⟨a, b⟩
    · exact Or.inr ⟨a, b⟩
theorem trDone.s {R : List Rl} {f2 f3 f4 : Nat → Int32} (h : trDone R f2 f3 f4) {i : Nat} (hi : i < R.length) : (f4 i &&& (16 : Int32) = 0 ↔ ¬ kwS R i 4) ∧ (f4 i &&& (4 : Int32) = 0 ↔ ¬ kwS R i 2) := by
  obtain ⟨_, _, h3⟩ := h i hi
  have t16 : ∀ k, Nat.testBit 16 k = true ↔ k = 4 := by
    intro k
    rw [show (16 : Nat) = 2 ^ 4 from rfl, Nat.testBit_two_pow]
    simp only [decide_eq_true_eq]
    exact ⟨fun z => z.symm, fun z => z.symm⟩
  have t4 : ∀ k, Nat.testBit 4 k = true ↔ k = 2 := by
    intro k
    rw [show (4 : Nat) = 2 ^ 2 from rfl, Nat.testBit_two_pow]
    simp only [decide_eq_true_eq]
    exact ⟨fun z => z.symm, fun z => z.symm⟩
  constructor
  · rw [show (16 : Int32) = nI 16 from rfl, h3.mask (by decide)]
    constructor
    · intro z g
      exact z 4 ⟨⟨by decide, g⟩, (t16 4).mpr rfl⟩
    · rintro z k ⟨⟨_, g⟩, e⟩
      rw [(t16 k).mp e] at g
      exact z g
  · rw [show (4 : Int32) = nI 4 from rfl, h3.mask (by decide)]
    constructor
    · intro z g
      exact z 2 ⟨⟨by decide, g⟩, (t4 2).mpr rfl⟩
    · rintro z k ⟨⟨_, g⟩, e⟩
      rw [(t4 k).mp e] at g
      exact z g
theorem rS_reach {R : List Rl} {i k : Nat} {r : Rl} (h : R[k]? = some r) : rS R i k ↔ reach R (hd R i) r := by
  unfold rS reach
  rw [hd_get h]
  exact ⟨fun z => z.2, fun z => ⟨(List.getElem?_eq_some_iff.mp h).1, z⟩⟩
theorem kwS_sub {R : List Rl} {i j w : Nat} (h : ∀ k, rS R j k → rS R i k) (g : kwS R j w) : kwS R i w := by
  obtain ⟨r, hr, a, b⟩ := g
  obtain ⟨k, hk⟩ := List.getElem?_of_mem hr
  exact ⟨r, hr, (rS_reach hk).mp (h k ((rS_reach hk).mpr a)), b⟩
theorem sgF_le (f4 : Nat → Int32) (i : Nat) : sgF f4 i ≤ 2 := by
  unfold sgF
  split
  · split <;> decide
  · decide
theorem sg_sub {R : List Rl} {f2 f3 f4 : Nat → Int32} (h : trDone R f2 f3 f4) {i j : Nat} (hi : i < R.length) (hj : j < R.length) (hs : ∀ k, rS R j k → rS R i k) : sgF f4 j ≤ sgF f4 i := by
  have a := h.s hi
  have b := h.s hj
  unfold sgF
  by_cases d : kwS R i 4
  · rw [if_neg (show ¬ f4 i &&& (16 : Int32) = 0 from fun z => a.1.mp z d)]
    exact sgF_le f4 j
  · rw [if_pos (a.1.mpr d), if_pos (b.1.mpr (fun z => d (kwS_sub hs z)))]
    by_cases t : kwS R i 2
    · rw [if_neg (show ¬ f4 i &&& (4 : Int32) = 0 from fun z => a.2.mp z t)]
      split <;> decide
    · rw [if_pos (a.2.mpr t), if_pos (b.2.mpr (fun z => t (kwS_sub hs z)))]
      exact Nat.le_refl _
/-- what keys promise -/
def keyP (R : List Rl) (ky sg : Nat → Nat) : Prop := (∀ i j, i < R.length → j < R.length → (ky i = ky j ↔ ∀ k, rS R i k ↔ rS R j k)) ∧ (∀ i j, i < R.length → j < R.length → Dep R (hd R i) (hd R j) → ky j ≤ ky i) ∧ (∀ i j, i < R.length → j < R.length → ky i ≤ ky j → sg i ≤ sg j) ∧ (∀ i, i < R.length → sg i ≤ 2 ∧ ∀ z, R[i]? = some z → ∀ l ∈ z.2, l.1 ≠ 2 → (lk l = 337 → 1 ≤ sg i) ∧ (lk l = 274 → sg i = 2))
theorem kw_T {l : Lt} (hw : wfL l) (h2 : l.1 ≠ 2) : (lk l = 337 → gm_ix l.2.1 = nI 2) ∧ (lk l = 274 → gm_ix l.2.1 = nI 4) := by
  have hA := (wfL_atom hw h2).1
  obtain ⟨m, m1, m2, m3⟩ := wfA_nat hA
  have h3 := hA.2.1
  have e : cn l.2.1 = m := by rw [m3, cn_nI m2]
  unfold lk
  rw [e]
  constructor
  · intro z
    rw [m3, show m = 84 by omega]
    decide
  · intro z
    rw [m3, show m = 68 by omega]
    decide
theorem trDone.key {R : List Rl} {f2 f3 f4 : Nat → Int32} (h : trDone R f2 f3 f4) (hw : ∀ x ∈ R, wfR x) : keyP R (kyF f2 f3 f4) (sgF f4) := by
  have eqs : ∀ i j, i < R.length → j < R.length → (∀ k, rS R i k ↔ rS R j k) → mSF f2 f3 i = mSF f2 f3 j := by
    intro i j hi hj hs
    apply Nat.eq_of_testBit_eq
    intro k
    rw [Bool.eq_iff_iff, (h.m hi).2.2 k, (h.m hj).2.2 k]
    exact hs k
  have K1 : ∀ i j, i < R.length → j < R.length → (∀ k, rS R i k ↔ rS R j k) → kyF f2 f3 f4 i = kyF f2 f3 f4 j := by
    intro i j hi hj hs
    have e1 := eqs i j hi hj hs
    have e2 := sg_sub h hi hj (fun k => (hs k).mpr)
    have e3 := sg_sub h hj hi (fun k => (hs k).mp)
    unfold kyF
    rw [e1, show sgF f4 i = sgF f4 j by omega]
  refine ⟨fun i j hi hj => ⟨fun e k => ?_, K1 i j hi hj⟩, fun i j hi hj hd' => ?_, fun i j hi hj e => ?_, fun i hi => ⟨sgF_le f4 i, fun z hz l hl h2 => ?_⟩⟩
  · have a := h.m hi
    have b := h.m hj
    have c1 := bcn_le a.2.1
    have c2 := bcn_le b.2.1
    unfold kyF at e
    have : mSF f2 f3 i = mSF f2 f3 j := by omega
    rw [← a.2.2 k, ← b.2.2 k, this]
  · have sub : ∀ k, rS R j k → rS R i k := by
      rintro k ⟨a, b | b⟩
      · exact ⟨a, Or.inr (by rw [b]; exact hd')⟩
      · exact ⟨a, Or.inr (hd'.trans b)⟩
    have a := h.m hi
    have b := h.m hj
    have hand : mSF f2 f3 j &&& mSF f2 f3 i = mSF f2 f3 j := by
      apply Nat.eq_of_testBit_eq
      intro k
      rw [Nat.testBit_and]
      cases e1 : (mSF f2 f3 j).testBit k with
      | false => rfl
      | true => rw [(a.2.2 k).mpr (sub k ((b.2.2 k).mp e1))]; rfl
    have mo := bcn_mono b.2.1 a.2.1 hand
    have sg := sg_sub h hi hj sub
    have c1 := bcn_le a.2.1
    have c2 := bcn_le b.2.1
    have a2 := a.2.1
    have b2 := b.2.1
    unfold kyF
    by_cases e : mSF f2 f3 j = mSF f2 f3 i
    · rw [e]
      omega
    · have := mo.2 e
      omega
  · have a := (h.m hi).2.1
    have b := (h.m hj).2.1
    have c1 := bcn_le a
    have c2 := bcn_le b
    unfold kyF at e
    omega
  · have hm := List.mem_of_getElem? hz
    have a := h.s hi
    have hr : reach R (hd R i) z := Or.inl (hd_get hz).symm
    obtain ⟨k1, k2⟩ := kw_T ((hw z hm).2.2 l hl) h2
    unfold sgF
    constructor
    · intro e
      have : kwS R i 2 := ⟨z, hm, hr, l, hl, h2, k1 e⟩
      rw [if_neg (show ¬ f4 i &&& (4 : Int32) = 0 from fun z => a.2.mp z this)]
      split <;> decide
    · intro e
      have : kwS R i 4 := ⟨z, hm, hr, l, hl, h2, k2 e⟩
      rw [if_neg (show ¬ f4 i &&& (16 : Int32) = 0 from fun z => a.1.mp z this)]
theorem flNone.n4 {R : List Rl} (h : flNone R) {x : Rl} (hx : x ∈ R) : ¬ flt4 R x := by
  have := h 4 (by decide) (by decide) x hx
  unfold flt at this
  rw [if_neg (by decide), if_neg (by decide), if_pos rfl] at this
  exact this
theorem head_TD {x : Rl} (hw : wfR x) (h : ¬ flt2 x) : lk x.1 ≠ 337 ∧ lk x.1 ≠ 274 := by
  obtain ⟨m, m1, m2, m3⟩ := wfA_nat hw.1.2
  have h3 := hw.1.2.2.1
  have e : cn x.1.2.1 = m := by rw [m3, cn_nI m2]
  unfold lk
  rw [e]
  constructor
  · intro z
    refine h (Or.inl (Or.inl ?_))
    rw [m3, show m = 84 by omega]
    decide
  · intro z
    refine h (Or.inl (Or.inr (Or.inl ?_)))
    rw [m3, show m = 68 by omega]
    decide
/-- the rules in the order in which they are run -/
def ordO (R O : List Rl) (num : Nat → Nat) : Prop := O.length = R.length ∧ (∀ p, p < R.length → num p < R.length) ∧ (∀ i, i < R.length → ∃ p, p < R.length ∧ num p = i) ∧ ∀ (p : Nat) x, O[p]? = some x → ∃ z, R[num p]? = some z ∧ x.1 = z.1 ∧ x.2.Perm z.2 ∧ ∀ (j : Nat) l, x.2[j]? = some l → l.1 ≠ 0 → lB (ub x.2 j) l
theorem ordO.pm {R O : List Rl} {num : Nat → Nat} (h : ordO R O num) : pmR R O ∧ pmR O R := by
  obtain ⟨h1, h2, h3, h4⟩ := h
  constructor
  · intro z hz
    obtain ⟨i, hi⟩ := List.getElem?_of_mem hz
    obtain ⟨p, p1, p2⟩ := h3 i (List.getElem?_eq_some_iff.mp hi).1
    have hx : O[p]? = some (O[p]'(by omega)) := List.getElem?_eq_getElem (by omega)
    obtain ⟨z', e1, e2, e3, _⟩ := h4 p _ hx
    rw [p2, hi] at e1
    cases e1
    exact ⟨_, List.mem_of_getElem? hx, e2, e3⟩
  · intro x hx
    obtain ⟨p, hp⟩ := List.getElem?_of_mem hx
    obtain ⟨z, e1, e2, e3, _⟩ := h4 p x hp
    exact ⟨z, List.mem_of_getElem? e1, e2.symm, e3.symm⟩
noncomputable def lyF (kk H : Nat → Nat) (n : Nat) (y : Nat) : Nat := by
  classical
  exact if h : ∃ p, p < n ∧ H p = y then lyp kk (Classical.choose h) else 0
theorem lyF_eq {kk H : Nat → Nat} {n p : Nat} (hp : p < n) (hk : ∀ q, q < n → H q = H p → lyp kk q = lyp kk p) : lyF kk H n (H p) = lyp kk p := by
  unfold lyF
  have h : ∃ q, q < n ∧ H q = H p := ⟨p, hp, rfl⟩
  rw [dif_pos h]
  have := Classical.choose_spec h
  exact hk _ this.1 this.2
/-- the layers that are recursive -/
def rcF (R : List Rl) (kk num : Nat → Nat) (n j : Nat) : Prop := ∃ p, p < n ∧ isSt kk p ∧ lyp kk p = j ∧ Dep R (hd R (num p)) (hd R (num p))
theorem LyC_of {R O : List Rl} {num ky sg : Nat → Nat} (hw : ∀ x ∈ R, wfR x) (hf : flNone R) (h24 : R.length ≤ 24) (hO : ordO R O num) (hk : keyP R ky sg) (hs : ∀ p q, p ≤ q → q < R.length → ky (num p) ≤ ky (num q)) : LyC O (lyF (fun p => ky (num p)) (hd O) R.length) (fun j => stc (fun p => ky (num p)) j R.length) (eSt (fun p => ky (num p)) (fun p => sg (num p)) 0 R.length) (eSt (fun p => ky (num p)) (fun p => sg (num p)) 1 R.length) (eSt (fun p => ky (num p)) (fun p => sg (num p)) 2 R.length) (rcF R (fun p => ky (num p)) num R.length) := by
  obtain ⟨K1, K2, K3, K4⟩ := hk
  obtain ⟨o1, o2, o3, o4⟩ := hO
  have hdO : ∀ p, p < R.length → ∃ x z, O[p]? = some x ∧ R[num p]? = some z ∧ x.1 = z.1 ∧ x.2.Perm z.2 ∧ (∀ (j : Nat) l, x.2[j]? = some l → l.1 ≠ 0 → lB (ub x.2 j) l) ∧ hd O p = lk x.1 ∧ hd R (num p) = lk z.1 := by
    intro p hp
    have hx : O[p]? = some (O[p]'(by omega)) := List.getElem?_eq_getElem (by omega)
    obtain ⟨z, e1, e2, e3, e4⟩ := o4 p _ hx
    exact ⟨_, z, hx, e1, e2, e3, e4, hd_get hx, hd_get e1⟩
  have hdE : ∀ p, p < R.length → hd O p = hd R (num p) := by
    intro p hp
    obtain ⟨x, z, _, _, a, _, _, b, c⟩ := hdO p hp
    rw [b, c, a]
  have hly : ∀ p, p < R.length → lyF (fun p => ky (num p)) (hd O) R.length (hd O p) = lyp (fun p => ky (num p)) p := by
    intro p hp
    refine lyF_eq hp (fun q hq e => ?_)
    rw [hdE q hq, hdE p hp] at e
    refine (lyp_eq' hs hq hp).mpr ((K1 _ _ (o2 q hq) (o2 p hp)).mpr (fun k => ?_))
    unfold rS
    rw [e]
  have he2 : ∀ p, p < R.length → lyp (fun p => ky (num p)) p < eSt (fun p => ky (num p)) (fun p => sg (num p)) 2 R.length := by
    intro p hp
    obtain ⟨m, hm⟩ : ∃ m, R.length = m + 1 := ⟨R.length - 1, by omega⟩
    rw [hm, eSt, if_pos (K4 _ (o2 m (by omega))).1]
    have := lyp_mono (fun p => ky (num p)) m p (by omega)
    omega
  have key : ∀ x ∈ O, ∃ p z, p < R.length ∧ O[p]? = some x ∧ R[num p]? = some z ∧ x.1 = z.1 ∧ x.2.Perm z.2 ∧ (∀ (j : Nat) l, x.2[j]? = some l → l.1 ≠ 0 → lB (ub x.2 j) l) ∧ hd R (num p) = lk z.1 ∧ lyF (fun p => ky (num p)) (hd O) R.length (lk x.1) = lyp (fun p => ky (num p)) p := by
    intro x hx
    obtain ⟨p, hp⟩ := List.getElem?_of_mem hx
    have hpl : p < R.length := by
      have := (List.getElem?_eq_some_iff.mp hp).1
      omega
    obtain ⟨x', z, a, b, c, d, e, f, g⟩ := hdO p hpl
    rw [hp] at a
    cases a
    exact ⟨p, z, hpl, hp, b, c, d, e, g, by rw [← f]; exact hly p hpl⟩
  refine ⟨fun x hx => ?_, ⟨by omega, eSt_mono _ _ (by decide) _, eSt_mono _ _ (by decide) _, ?_, fun j _ => by rw [o1]; exact stc_le _ _ _⟩, fun j p x hj hx => ?_, fun x hx l hl h2 => ?_⟩
  · obtain ⟨p, z, p1, p2, p3, p4, p5, p6, p7, p8⟩ := key x hx
    have hz := List.mem_of_getElem? p3
    have hwz := hw z hz
    refine ⟨⟨by rw [p4]; exact hwz.1, by rw [p5.length_eq]; exact hwz.2.1, fun l hl => hwz.2.2 l (p5.mem_iff.mp hl)⟩, fun c hc hv => ?_, p6, by rw [p4]; exact (head_TD hwz (hf.n2 hz)).1, by rw [p4]; exact (head_TD hwz (hf.n2 hz)).2, by rw [p8]; exact he2 p p1⟩
    obtain ⟨l, a, b, c⟩ := flt3_safe (hf.n3 hz) c hc ((pm_rV p4 p5 c).1.mp hv)
    exact ⟨l, p5.mem_iff.mpr a, b, c⟩
  · cases hn : R.length with
    | zero => exact Nat.zero_le _
    | succ m =>
      have := eSt_le (fun p => ky (num p)) (fun p => sg (num p)) 2 m
      have := lyp_le (fun p => ky (num p)) m
      omega
  · have hpl : p < R.length := by
      have := (List.getElem?_eq_some_iff.mp hx).1
      omega
    have e : lyF (fun p => ky (num p)) (hd O) R.length (lk x.1) = lyp (fun p => ky (num p)) p := by rw [← hd_get hx]; exact hly p hpl
    rw [e]
    have a := stc_iff (fun p => ky (num p)) j R.length p hpl
    have b := stc_iff (fun p => ky (num p)) (j + 1) R.length p hpl
    constructor
    · rintro ⟨z1, z2⟩
      have := b.mp z2
      have : ¬ lyp (fun p => ky (num p)) p < j := fun z => absurd (a.mpr z) (Nat.not_lt.mpr z1)
      omega
    · intro z
      refine ⟨Nat.le_of_not_lt (fun g => ?_), b.mpr (by omega)⟩
      have := a.mp g
      omega
  · obtain ⟨p, z, p1, p2, p3, p4, p5, p6, p7, p8⟩ := key x hx
    have hz := List.mem_of_getElem? p3
    have hlz := p5.mem_iff.mp hl
    have hd1 : dep1 R (lk z.1) (lk l) := ⟨z, hz, rfl, l, hlz, h2, rfl⟩
    rw [p8]
    have sgp := fun e => eSt_sg (kk := fun p => ky (num p)) (sg := fun p => sg (num p)) (n := R.length) hs (fun p q hp hq => K3 _ _ (o2 p hp) (o2 q hq)) e R.length (Nat.le_refl _) p p1
    have k4 := (K4 _ (o2 p p1)).2 z p3 l hlz h2
    refine ⟨fun ⟨y, hy, ey⟩ => ?_, fun g => ⟨fun e => ?_, fun e => ?_⟩, fun g e => ?_⟩
    · obtain ⟨q, w, q1, q2, q3, q4, q5, q6, q7, q8⟩ := key y hy
      rw [← ey, q8]
      have e7 : hd R (num q) = lk l := by rw [q7, ← q4, ey]
      have hdep : Dep R (hd R (num p)) (hd R (num q)) := by rw [p7, e7]; exact Dep.one hd1
      have hle := K2 _ _ (o2 p p1) (o2 q q1) hdep
      have hlt := lyp_lt (kk := fun p => ky (num p)) hs p1 q1
      have hlt2 := lyp_lt (kk := fun p => ky (num p)) hs q1 p1
      have hle2 : lyp (fun p => ky (num p)) q ≤ lyp (fun p => ky (num p)) p := Nat.le_of_not_lt (fun z => by have := hlt.mp z; omega)
      have hself : ∀ i, i < R.length → rS R i i := fun i hi => ⟨hi, Or.inl rfl⟩
      refine ⟨?_, fun hrc => hlt2.mpr ?_⟩
      · unfold kd
        by_cases k1 : l.1 = 1
        · rw [if_pos k1]
          refine Nat.lt_iff_add_one_le.mp (hlt2.mpr ?_)
          rcases Nat.lt_or_eq_of_le hle with g | g
          · exact g
          · have g2 := ((K1 _ _ (o2 q q1) (o2 p p1)).mp g (num p)).mpr (hself _ (o2 p p1))
            refine absurd ?_ (hf.n4 hz)
            refine ⟨l, hlz, k1, ?_⟩
            rcases g2.2 with g3 | g3
            · left
              rw [← e7, ← g3, p7]
            · right
              rw [← e7, ← p7]
              exact g3
        · rw [if_neg k1]
          exact hle2
      · rcases Nat.lt_or_eq_of_le hle with g | g
        · exact g
        · refine absurd ?_ hrc
          obtain ⟨s, s1, s2, s3⟩ := lyp_first (fun p => ky (num p)) p _ (Nat.le_refl _)
          have sl : s < R.length := by omega
          refine ⟨s, sl, s2, s3, ?_⟩
          have kps : ky (num s) = ky (num p) := (lyp_eq' (kk := fun p => ky (num p)) hs sl p1).mp s3
          have a1 := ((K1 _ _ (o2 s sl) (o2 p p1)).mp kps (num p)).mpr (hself _ (o2 p p1))
          have a2 := ((K1 _ _ (o2 s sl) (o2 q q1)).mp (kps.trans g.symm) (num q)).mpr (hself _ (o2 q q1))
          have a3 := ((K1 _ _ (o2 s sl) (o2 q q1)).mp (kps.trans g.symm) (num s)).mp (hself _ (o2 s sl))
          rcases a2.2 with b2 | b2
          · rw [b2] at hdep
            rcases a1.2 with b1 | b1
            · rw [b1] at hdep
              exact hdep
            · exact b1.trans hdep
          · rcases a3.2 with b3 | b3
            · rw [← b3] at b2
              exact b2
            · exact b2.trans b3
    · have := sgp 0 g
      have := k4.1 e
      omega
    · have := sgp 0 g
      have := k4.2 e
      omega
    · have := sgp 1 g
      have := k4.2 e
      omega
