/-! the reference: apply as a call; follow -/
def fpp (s s' : mS) : Prop := (∀ i, i ≠ 20 → i ≠ 23 → i ≠ 28 → s'.1 i = s.1 i) ∧ (∀ i, i ≠ 21 → i ≠ 26 → i ≠ 27 → s'.2.1 i = s.2.1 i) ∧ (∀ i, i ≠ 22 → i ≠ 25 → s'.2.2 i = s.2.2 i)
theorem fpp.refl (s : mS) : fpp s s := ⟨fun _ _ _ _ => rfl, fun _ _ _ _ => rfl, fun _ _ _ => rfl⟩
theorem fpp.trans {s s' s'' : mS} (h : fpp s s') (g : fpp s' s'') : fpp s s'' := ⟨fun i a b c => (g.1 i a b c).trans (h.1 i a b c), fun i a b c => (g.2.1 i a b c).trans (h.2.1 i a b c), fun i a b => (g.2.2 i a b).trans (h.2.2 i a b)⟩
theorem fap.pp {s s' : mS} (h : fap s s') : fpp s s' := ⟨fun i a b _ => h.1 i a b, h.2.1, h.2.2⟩
theorem fpp.rules {s s' : mS} {R : List Rl} (h : fpp s s') (g : rRules s R) : rRules s' R := g.A (h.1 11 (by decide) (by decide) (by decide)) (fun i h1 h2 => h.2.1 i (by omega) (by omega) (by omega))
theorem ap_11 {d r : Nat} {s : mS} {Q : Unit → mS → Prop} (q : ∀ f : Nat → Int32, (∀ v, v < 6 → f v = -1) → h_apply_11 d (nI r) 6 (mA s 26 f) Q) : ∀ (m k : Nat) (f : Nat → Int32), k + m = 6 → (∀ v, v < k → f v = -1) → h_apply_11 d (nI r) (nI k) (mA s 26 f) Q := by
  intro m
  induction m with
  | zero =>
    intro k f hk h1
    rw [show k = 6 by omega] at h1 ⊢
    exact q f h1
  | succ m ih =>
    intro k f hk h1
    refine T_apply_11 ?_
    rw [if_neg (by rw [n_6]; exact nI_ge (by omega) (by decide))]
    refine ⟨k, rfl, by omega, ?_⟩
    rw [nI_1, mA_eq, mA_mA]
    refine ih (k + 1) _ (by omega) (fun v hv => ?_)
    by_cases e : v = k
    · rw [e, upd_eq]
    · rw [upd_ne e]
      exact h1 v (by omega)
theorem rq_apply {d r : Nat} {R : List Rl} {P : List Fct → Prop} {Qs : Nat → Prop} {B L : List Fct} {x : Rl} {fl : Int32 → Bool} {s : mS} {Q : Unit → mS → Prop} (hc : aCtx R r x Qs fl) (hrs : rRule s.2.1 r x) (hL : rFacts s L) (hst : St R P Qs B L) (hb : s.1 23 = 0 ∨ (s.1 23 = 1 ∧ Bad R P)) (q : ∀ s' L', fpp s s' → rFacts s' L' → St R P Qs B L' → (∃ K, L' = L ++ K ∧ ∀ f ∈ K, f.1 = lk x.1) → (s'.1 23 = 0 ∨ (s'.1 23 = 1 ∧ Bad R P)) → (s'.1 23 = 0 → s.1 23 = 0 ∧ ∀ σ, adm x σ → bSat L x σ → sL σ x.1 ∈ L') → Q () s') : m_apply (d + 6) (nI r) s Q := by
  obtain ⟨hrx, hr, hw, _⟩ := id hc
  have hfl := hc.2.2.2.2.2.1
  have h5 := hw.2.1
  have hmem : x ∈ R := List.mem_of_getElem? hrx
  refine m_apply.of (T_apply_0 (rq_held hr hrs hw (fun v hv => ?_)))
  have go := ap_11 (d := d + 5) (r := r) (s := mI s 28 v) (Q := Q) (fun f hf => ?_) 6 0 ((mI s 28 v).2.1 26) rfl (fun v hv => absurd hv (by omega))
  · rw [mA_self] at go
    exact go
  · refine T_apply_11 ?_
    rw [if_pos (by decide)]
    refine ⟨r, rfl, hr, ?_⟩
    have hnb : (mA (mI s 28 v) 26 f).2.1 12 r = nI x.2.length := hrs.1
    rw [hnb]
    have f0 : fpp s (mA (mA (mI s 28 v) 26 f) 27 (upd ((mA (mI s 28 v) 26 f).2.1 27) 0 (-1))) := ⟨fun i _ _ a => if_neg a, fun i _ a b => (mA_ne b).trans (mA_ne a), fun _ _ _ => rfl⟩
    generalize hs1 : mA (mA (mI s 28 v) 26 f) 27 (upd ((mA (mI s 28 v) 26 f).2.1 27) 0 (-1)) = s1 at *
    have hL1 : rFacts s1 L := by
      rw [← hs1]
      exact hL.same rfl rfl rfl
    have hr1 : rRule s1.2.1 r x := by
      rw [← hs1]
      exact hrs
    have h26 : ∀ v, v < 6 → s1.2.1 26 v = -1 := by
      intro w hw
      rw [← hs1]
      exact hf w hw
    have h27 : s1.2.1 27 0 = -1 := by
      rw [← hs1, mA_eq, upd_eq]
    have h28 : s1.1 28 = v := by
      rw [← hs1]
      rfl
    have h23 : (mA (mI s 28 v) 26 f).1 23 = s.1 23 := rfl
    rw [h23]
    have stop1 : Bad R P → h_apply_74 (d + 5) (nI r) (nI x.2.length) 0 (mI s1 23 1) Q := by
      intro hbad
      refine ap_stop rfl (q _ L (f0.trans (fap.b s1 1).pp) (hL1.same rfl rfl rfl) hst ⟨[], by simp, fun f hf => absurd hf (by simp)⟩ (Or.inr ⟨rfl, hbad⟩) (fun z => absurd z (by decide : ¬ (1 : Int32) = 0)))
    rcases hb with hb | ⟨hb, hbad⟩
    · rw [if_pos hb]
      refine rq_ways hr hL1 hr1 hw ?_
      rcases Nat.lt_or_ge 100000 (wy L x) with hwy | hwy
      · rw [if_neg (fun z => absurd ((wy_cmp hL.2.1 h5).mp z) (by omega))]
        exact stop1 (hst.bad_wy hmem hwy)
      · rw [if_pos ((wy_cmp hL.2.1 h5).mpr hwy)]
        have hex := ap_exp (d := d) (P := P) (B := B) (LA := L) (sA := mI s1 23 0) (Q := Q) hc hr1 (by
          show vbs (s1.1 28) _
          rw [h28]
          exact hv.iff (fun c hcv => (hfl c hcv).symm)) x.2.length 0 (by omega)
        refine hex (fun _ => none) (mI s1 23 0) L ⟨fap.refl _, hL1.same rfl rfl rfl, hst, [], by simp, fun f hf => absurd hf (by simp)⟩ rfl (fun w hw => ⟨fun t ht => (by cases ht), fun _ => h26 w hw⟩) (fun c t _ ht => (by cases ht)) (fun c _ hx => (by obtain ⟨j, l, hj, _⟩ := hx; omega)) (fun j l hj => absurd hj (by omega)) (fun _ => h27) (fun s' L' a1 a2 _ _ a5 a6 => ?_) (fun s' L' a1 a2 a3 => ?_)
        · refine T_apply_74 ?_
          rw [if_pos (by decide)]
          refine q s' L' ((f0.trans (fap.b s1 0).pp).trans a1.1.pp) a1.2.1 a1.2.2.1 a1.2.2.2 (Or.inl a2) (fun _ => ⟨hb, fun σ ha hbs => ?_⟩)
          exact a6 σ ha (fun c t _ ht => (by cases ht)) (fun j l _ hl k0 => (hbs l (List.mem_of_getElem? hl)).1 k0) (fun l hl => (hbs l hl).2)
        · exact q s' L' ((f0.trans (fap.b s1 0).pp).trans a1.1.pp) a1.2.1 a1.2.2.1 a1.2.2.2 (Or.inr ⟨a2, a3⟩) (fun z => by rw [a2] at z; exact absurd z (by decide))
    · rw [if_neg (by rw [hb]; decide)]
      exact stop1 hbad
/-- what is known of the rules when what follows is worked out -/
def fCtx (R : List Rl) (n : Nat → Nat) : Prop := (∀ x ∈ R, wfR x) ∧ R.length ≤ 24 ∧ flNone R ∧ (∀ y, n y ≤ 24) ∧ ∀ x ∈ R, ∀ l ∈ x.2, l.1 ≠ 2 → n (lk l) + kd l ≤ n (lk x.1)
/-- the relations whose layers are done -/
def qS (R : List Rl) (n : Nat → Nat) (k : Nat) (x : Nat) : Prop := (∀ r ∈ R, lk r.1 ≠ x) ∨ n x < k
theorem tb_fold {α : Type} (f : α → Nat) (k : Nat) (l : List α) : ∀ a : Nat, (l.foldl (fun m c => m ||| f c) a).testBit k = true ↔ a.testBit k = true ∨ ∃ c ∈ l, (f c).testBit k = true := by
  induction l with
  | nil => intro a; simp
  | cons x l ih =>
    intro a
    rw [List.foldl_cons, ih, Nat.testBit_or, Bool.or_eq_true]
    simp only [List.mem_cons, exists_eq_or_imp]
    exact or_assoc
theorem vb_bit {c : Int32} {k : Nat} : (vb c).testBit k = true ↔ chV c ∧ cn c = 85 + k := by
  unfold vb
  by_cases h : chV c
  · obtain ⟨h1, h2, _⟩ := chV_cn h
    rw [if_pos h, Nat.testBit_two_pow]
    simp only [decide_eq_true_eq]
    exact ⟨fun z => ⟨h, by omega⟩, fun z => by omega⟩
  · rw [if_neg h, Nat.zero_testBit]
    exact ⟨fun z => absurd z (by decide), fun z => absurd z.1 h⟩
theorem vm_bit {ts : List Tm} {k : Nat} : (vm ts).testBit k = true ↔ ∃ t ∈ ts, ∃ c ∈ t.2, chV c ∧ cn c = 85 + k := by
  unfold vm
  rw [tb_fold (fun t : Tm => vt t.2)]
  simp only [Nat.zero_testBit, Bool.false_eq_true, false_or]
  have : ∀ t : Tm, (vt t.2).testBit k = true ↔ ∃ c ∈ t.2, chV c ∧ cn c = 85 + k := by
    intro t
    unfold vt
    rw [tb_fold vb]
    simp only [Nat.zero_testBit, Bool.false_eq_true, false_or, vb_bit]
  simp only [this]
theorem need_held : ∀ a, a < 64 → ∀ b, b < 64 → nI a &&& (nI b ^^^ (-1 : Int32)) = 0 → a &&& b = a := by decide +kernel
theorem vfold_lt (ls : List Lt) : ∀ a, a < 64 → ls.foldl (fun m l => m ||| vm l.2.2) a < 64 := by
  induction ls with
  | nil => intro a h; exact h
  | cons x l ih => intro a h; exact ih _ (or_lt64 h (vm_lt x.2.2))
theorem flt3_safe {x : Rl} (h : ¬ flt3 x) : ∀ c, chV c → rV x c → ∃ l ∈ x.2, l.1 = 0 ∧ inL l c := by
  have h1 : nI (vNeed x) &&& (nI (vHeld x) ^^^ (-1 : Int32)) = 0 := Classical.not_not.mp h
  have h2 := need_held _ (vfold_lt _ _ (vm_lt x.1.2.2)) _ (vfold_lt _ 0 (by decide)) h1
  intro c hv hc
  obtain ⟨c1, c2, c3⟩ := chV_cn hv
  have bit : (vNeed x).testBit (cn c - 85) = true → ∃ l ∈ x.2, l.1 = 0 ∧ inL l c := by
    intro hb
    have hb2 : (vHeld x).testBit (cn c - 85) = true := by
      have e : vNeed x &&& vHeld x = vNeed x := h2
      rw [← e, Nat.testBit_and, Bool.and_eq_true] at hb
      exact hb.2
    unfold vHeld at hb2
    rw [tb_fold (fun l : Lt => vm l.2.2)] at hb2
    simp only [Nat.zero_testBit, Bool.false_eq_true, false_or] at hb2
    obtain ⟨l, hl, hl2⟩ := hb2
    obtain ⟨hl3, hl4⟩ := List.mem_filter.mp hl
    obtain ⟨t, ht, c', hc', hv', e'⟩ := vm_bit.mp hl2
    refine ⟨l, hl3, by simpa using hl4, t, ht, ?_⟩
    have : c' = c := by
      rw [(chV_cn hv').2.2, c3]
      rw [show cn c' = cn c by omega]
    rw [← this]
    exact hc'
  rcases hc with ⟨t, ht, hct⟩ | ⟨l, hl, hin⟩
  · refine bit ?_
    unfold vNeed
    rw [tb_fold (fun l : Lt => vm l.2.2)]
    exact Or.inl (vm_bit.mpr ⟨t, ht, c, hct, hv, by omega⟩)
  · by_cases hk : l.1 = 0
    · exact ⟨l, hl, hk, hin⟩
    · refine bit ?_
      unfold vNeed
      rw [tb_fold (fun l : Lt => vm l.2.2)]
      obtain ⟨t, ht, hct⟩ := hin
      exact Or.inr ⟨l, List.mem_filter.mpr ⟨hl, by simpa using hk⟩, vm_bit.mpr ⟨t, ht, c, hct, hv, by omega⟩⟩
theorem flNone.n3 {R : List Rl} (h : flNone R) {x : Rl} (hx : x ∈ R) : ¬ flt3 x := by
  have := h 3 (by decide) (by decide) x hx
  unfold flt at this
  rw [if_neg (by decide), if_pos rfl] at this
  exact this
theorem flNone.n2 {R : List Rl} (h : flNone R) {x : Rl} (hx : x ∈ R) : ¬ flt2 x := by
  have := h 2 (by decide) (by decide) x hx
  unfold flt at this
  rw [if_pos rfl] at this
  exact this
noncomputable def flOf (x : Rl) : Int32 → Bool := by
  classical
  exact fun c => decide (rF x c)
theorem flOf_iff (x : Rl) (c : Int32) : flOf x c = true ↔ rF x c := by
  unfold flOf
  simp only [decide_eq_true_eq]
theorem fCtx.a {R : List Rl} {n : Nat → Nat} (h : fCtx R n) {r k : Nat} {x : Rl} (hx : R[r]? = some x) (hk : n (lk x.1) = k) : aCtx R r x (qS R n k) (flOf x) := by
  obtain ⟨h1, h2, h3, h4, h5⟩ := h
  have hm : x ∈ R := List.mem_of_getElem? hx
  have hr : r < R.length := (List.getElem?_eq_some_iff.mp hx).1
  refine ⟨hx, by omega, h1 x hm, fun l hl k1 => Or.inr ?_, fun z => ?_, fun c _ => flOf_iff x c, flt3_safe (h3.n3 hm)⟩
  · have := h5 x hm l hl (by rw [k1]; decide)
    have e : kd l = 1 := by
      unfold kd
      rw [if_pos k1]
    omega
  · rcases z with z | z
    · exact z x hm rfl
    · omega
/-- the state of the reference while what follows is worked out -/
def fInv (R : List Rl) (P : List Fct → Prop) (Qs : Nat → Prop) (B : List Fct) (s0 s : mS) (L : List Fct) : Prop := fpp s0 s ∧ rFacts s L ∧ St R P Qs B L ∧ (s.1 23 = 0 ∨ (s.1 23 = 1 ∧ Bad R P))
/-- L0, and facts of relations that are not done -/
def pX (R : List Rl) (n : Nat → Nat) (k : Nat) (L0 L : List Fct) : Prop := ∃ K, L = L0 ++ K ∧ ∀ f ∈ K, ¬ qS R n k f.1
theorem fo_87 {d k top : Nat} {R : List Rl} {n : Nat → Nat} {P : List Fct → Prop} {B : List Fct} {s0 : mS} {x3 : Int32} {Q : Unit → mS → Prop} (hc : fCtx R n) (hR0 : rRules s0 R) (hly0 : ∀ y, y < 512 → s0.2.1 19 y = nI (n y)) (hk : k ≤ 24) (L0 : List Fct) (q : ∀ s L, fInv R P (qS R n k) B s0 s L → pX R n k L0 L → (s.1 23 = 0 → ∀ (r : Nat) x, R[r]? = some x → n (lk x.1) = k → ∀ σ, adm x σ → bSat L0 x σ → sL σ x.1 ∈ L) → h_follow_64 (d + 6) (nI top) (nI k) x3 s Q) : ∀ (m r : Nat) (s : mS) (L : List Fct), r + m = R.length → fInv R P (qS R n k) B s0 s L → pX R n k L0 L → (s.1 23 = 0 → ∀ (i : Nat) x, i < r → R[i]? = some x → n (lk x.1) = k → ∀ σ, adm x σ → bSat L0 x σ → sL σ x.1 ∈ L) → h_follow_87 (d + 6) (nI top) (nI k) x3 (nI r) s Q := by
  have h24 := hR0.2.1
  intro m
  induction m with
  | zero =>
    intro r s L hr hI hp hd
    have hR := hI.1.rules hR0
    refine T_follow_87 ?_
    rw [hR.1, if_pos (nI_le (by omega) (by omega))]
    exact q s L hI hp (fun hz i x hx => hd hz i x (by have := (List.getElem?_eq_some_iff.mp hx).1; omega) hx)
  | succ m ih =>
    intro r s L hr hI hp hd
    have hr' : r < R.length := by omega
    have hrx : R[r]? = some R[r] := List.getElem?_eq_getElem hr'
    have hR := hI.1.rules hR0
    obtain ⟨w1, w2, w3⟩ := wfR_head (hc.1 R[r] (List.getElem_mem hr'))
    have hrule := hR.2.2 r _ hrx
    obtain ⟨g1, g2, _⟩ := hrule.2.2.1.rel w1 w3
    have hn := hc.2.2.2.1 (lk R[r].1)
    refine T_follow_87 ?_
    rw [hR.1, if_neg (nI_ge (by omega) (by omega)), nI_1]
    refine ⟨6 * r, by rw [n_6, nI_mul], by omega, lk R[r].1, g1, g2, ?_⟩
    rw [hI.1.2.1 19 (by decide) (by decide) (by decide), hly0 _ g2]
    by_cases hnk : n (lk R[r].1) = k
    · rw [if_pos (by rw [hnk])]
      obtain ⟨K, hK, hKq⟩ := hp
      refine rq_apply (hc.a hrx hnk) hrule hI.2.1 hI.2.2.1 hI.2.2.2 (fun s' L' a1 a2 a3 a4 a5 a6 => ?_)
      obtain ⟨K2, hK2, hK2q⟩ := a4
      have hnq := (hc.a hrx hnk).2.2.2.2.1
      refine ih (r + 1) s' L' (by omega) ⟨hI.1.trans a1, a2, a3, a5⟩ ⟨K ++ K2, by rw [hK2, hK, List.append_assoc], fun f hf => (List.mem_append.mp hf).elim (hKq f) (fun y => by rw [hK2q f y]; exact hnq)⟩ (fun hz i x hi hx hkx σ ha hb => ?_)
      obtain ⟨b1, b2⟩ := a6 hz
      by_cases ei : i = r
      · subst ei
        rw [hrx] at hx
        cases hx
        by_cases hin : sL σ R[i].1 ∈ L
        · rw [hK2]
          exact List.mem_append_left _ hin
        · refine b2 σ ha (fun l hl => ⟨fun k0 => by rw [hK]; exact List.mem_append_left _ ((hb l hl).1 k0), fun k1 z => ?_, (hb l hl).2.2⟩)
          rw [hK] at z
          rcases List.mem_append.mp z with y | y
          · exact (hb l hl).2.1 k1 y
          · exact hKq _ y ((hc.a hrx hnk).2.2.2.1 l hl k1)
      · rw [hK2]
        exact List.mem_append_left _ (hd b1 i x (by omega) hx hkx σ ha hb)
    · rw [if_neg (fun z => hnk ((nI_eq (by omega) (by omega)).mp z))]
      refine ih (r + 1) s L (by omega) hI hp (fun hz i x hi hx hkx σ ha hb => ?_)
      by_cases ei : i = r
      · subst ei
        rw [hrx] at hx
        cases hx
        exact absurd hkx hnk
      · exact hd hz i x (by omega) hx hkx σ ha hb
theorem fo_64 {d k top : Nat} {R : List Rl} {n : Nat → Nat} {P : List Fct → Prop} {B : List Fct} {s0 : mS} {Q : Unit → mS → Prop} (hc : fCtx R n) (hR0 : rRules s0 R) (hly0 : ∀ y, y < 512 → s0.2.1 19 y = nI (n y)) (hk : k ≤ 24) (q : ∀ s L, fInv R P (qS R n k) B s0 s L → (s.1 23 = 0 → ∀ (r : Nat) x, R[r]? = some x → n (lk x.1) = k → ∀ σ, adm x σ → bSat L x σ → sL σ x.1 ∈ L) → h_follow_57 (d + 6) (nI top) (nI (k + 1)) s Q) : ∀ (m : Nat) (s : mS) (L : List Fct) (x3 : Int32), L.length + m = 201 → fInv R P (qS R n k) B s0 s L → (x3 = nI L.length → s.1 23 = 0 → ∀ (r : Nat) x, R[r]? = some x → n (lk x.1) = k → ∀ σ, adm x σ → bSat L x σ → sL σ x.1 ∈ L) → h_follow_64 (d + 6) (nI top) (nI k) x3 s Q := by
  intro m
  induction m using Nat.strongRecOn with
  | _ m ih2 =>
    intro s L x3 hm hI hx
    have h200 := hI.2.1.2.1
    refine T_follow_64 ?_
    rw [hI.2.1.1, nI_1]
    by_cases e3 : x3 = nI L.length
    · rw [if_pos e3]
      exact q s L hI (fun hz => hx e3 hz)
    · rw [if_neg e3]
      rcases hI.2.2.2 with hb | ⟨hb, hbad⟩
      · rw [if_pos hb]
        refine fo_87 hc hR0 hly0 hk L (fun s' L' a1 a2 a3 => ?_) R.length 0 s L (by omega) hI ⟨[], by simp, fun f hf => absurd hf (by simp)⟩ (fun _ i x hi => absurd hi (by omega))
        obtain ⟨K, hK, hKq⟩ := a2
        have h200' := a1.2.1.2.1
        by_cases hK0 : K = []
        · rw [hK0, List.append_nil] at hK
          subst hK
          refine T_follow_64 ?_
          rw [a1.2.1.1, nI_1, if_pos rfl]
          exact q s' L' a1 a3
        · have hpos : 0 < K.length := List.length_pos_iff.mpr hK0
          have hlen : L'.length = L.length + K.length := by rw [hK, List.length_append]
          obtain ⟨m', hm'⟩ : ∃ m', L'.length + m' = 201 := ⟨201 - L'.length, by omega⟩
          exact ih2 m' (by omega) s' L' (nI L.length) hm' a1 (fun z => absurd ((nI_eq (by omega) (by omega)).mp z) (by omega))
      · rw [if_neg (by rw [hb]; decide)]
        exact q s L hI (fun hz => by rw [hb] at hz; exact absurd hz (by decide))
