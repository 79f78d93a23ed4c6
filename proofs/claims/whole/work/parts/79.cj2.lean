/-! load: the reference -/
theorem xC_nar {X : List Int32} (h : xC X) {k : Nat} (hk : k < X.length) : vp_nar .char (X.getD k 0) = X.getD k 0 := by
  refine h.2 _ ?_
  rw [List.getD_eq_getElem?_getD, List.getElem?_eq_getElem hk]
  exact List.getElem_mem hk
def ftf (s s' : mS) : Prop := (∀ i, i ≠ 9 → s'.1 i = s.1 i) ∧ (∀ i, i ≠ 8 → s'.2.1 i = s.2.1 i) ∧ s'.2.2 = s.2.2
theorem rs_fetch_sheet2 {d : Nat} {X : List Int32} {s0 : mS} {Q : Unit → mS → Prop} (hX : xC X) (hx : ∀ k, k < X.length → s0.2.1 1 k = X.getD k 0) (q : ∀ s', ftf s0 s' → s'.1 9 = nI X.length → (∀ k, k < X.length → s'.2.1 8 k = X.getD k 0) → Q () s') : ∀ (n k : Nat) (s : mS), k + n = X.length → (s.1 = s0.1 ∧ (∀ i, i ≠ 8 → s.2.1 i = s0.2.1 i) ∧ s.2.2 = s0.2.2) → (∀ j, j < k → s.2.1 8 j = X.getD j 0) → h_fetch_sheet_2 d (nI X.length) (nI k) s Q := by
  have h240 := hX.1
  intro n
  induction n with
  | zero =>
    intro k s hk hf hv
    refine T_fetch_sheet_2 ?_
    rw [if_pos (nI_le (by omega) (by omega))]
    exact q _ ⟨fun i hi => (if_neg hi).trans (congrFun hf.1 i), fun i hi => hf.2.1 i hi, hf.2.2⟩ rfl (fun j hj => hv j (by omega))
  | succ n ih =>
    intro k s hk hf hv
    refine T_fetch_sheet_2 ?_
    rw [if_neg (nI_ge (by omega) (by omega))]
    refine ⟨k, rfl, by omega, ?_⟩
    rw [nI_1]
    refine ih (k + 1) _ (by omega) ⟨hf.1, fun i hi => (if_neg hi).trans (hf.2.1 i hi), hf.2.2⟩ (fun j hj => ?_)
    show upd (s.2.1 8) k (vp_nar .char (s.2.1 1 k)) j = X.getD j 0
    unfold upd
    by_cases e : j = k
    · rw [if_pos e, hf.2.1 1 (by decide), hx k (by omega), e, xC_nar hX (by omega)]
    · rw [if_neg e]
      exact hv j (by omega)
theorem rq_fetch_sheet {d : Nat} {X : List Int32} {s : mS} {Q : Unit → mS → Prop} (hX : xC X) (hx : ∀ k, k < X.length → s.2.1 1 k = X.getD k 0) (q : ∀ s', ftf s s' → s'.1 9 = nI X.length → (∀ k, k < X.length → s'.2.1 8 k = X.getD k 0) → Q () s') : m_fetch_sheet (d + 1) (nI X.length) s Q := m_fetch_sheet.of (T_fetch_sheet_0 (rs_fetch_sheet2 hX hx q X.length 0 s (by omega) ⟨rfl, fun _ _ => rfl, rfl⟩ (fun j hj => by omega)))
theorem rs_fetch_kept2 {d : Nat} {X : List Int32} {s0 : mS} {Q : Unit → mS → Prop} (hX : xC X) (hx : ∀ k, k < X.length → s0.2.1 3 k = X.getD k 0) (q : ∀ s', ftf s0 s' → s'.1 9 = nI X.length → (∀ k, k < X.length → s'.2.1 8 k = X.getD k 0) → Q () s') : ∀ (n k : Nat) (s : mS), k + n = X.length → (s.1 = s0.1 ∧ (∀ i, i ≠ 8 → s.2.1 i = s0.2.1 i) ∧ s.2.2 = s0.2.2) → (∀ j, j < k → s.2.1 8 j = X.getD j 0) → h_fetch_kept_2 d (nI X.length) (nI k) s Q := by
  have h240 := hX.1
  intro n
  induction n with
  | zero =>
    intro k s hk hf hv
    refine T_fetch_kept_2 ?_
    rw [if_pos (nI_le (by omega) (by omega))]
    exact q _ ⟨fun i hi => (if_neg hi).trans (congrFun hf.1 i), fun i hi => hf.2.1 i hi, hf.2.2⟩ rfl (fun j hj => hv j (by omega))
  | succ n ih =>
    intro k s hk hf hv
    refine T_fetch_kept_2 ?_
    rw [if_neg (nI_ge (by omega) (by omega))]
    refine ⟨k, rfl, by omega, ?_⟩
    rw [nI_1]
    refine ih (k + 1) _ (by omega) ⟨hf.1, fun i hi => (if_neg hi).trans (hf.2.1 i hi), hf.2.2⟩ (fun j hj => ?_)
    show upd (s.2.1 8) k (vp_nar .char (s.2.1 3 k)) j = X.getD j 0
    unfold upd
    by_cases e : j = k
    · rw [if_pos e, hf.2.1 3 (by decide), hx k (by omega), e, xC_nar hX (by omega)]
    · rw [if_neg e]
      exact hv j (by omega)
theorem rq_fetch_kept {d : Nat} {X : List Int32} {s : mS} {Q : Unit → mS → Prop} (hX : xC X) (hx : ∀ k, k < X.length → s.2.1 3 k = X.getD k 0) (q : ∀ s', ftf s s' → s'.1 9 = nI X.length → (∀ k, k < X.length → s'.2.1 8 k = X.getD k 0) → Q () s') : m_fetch_kept (d + 1) (nI X.length) s Q := m_fetch_kept.of (T_fetch_kept_0 (rs_fetch_kept2 hX hx q X.length 0 s (by omega) ⟨rfl, fun _ _ => rfl, rfl⟩ (fun j hj => by omega)))
/-- what a refused load leaves -/
def bkf (m s : mS) : Prop := (∀ i, i = 4 ∨ i = 5 ∨ i = 30 ∨ i = 32 ∨ i = 36 ∨ i = 41 ∨ i = 42 ∨ i = 43 → s.1 i = m.1 i) ∧ (∀ i, i = 3 ∨ 45 ≤ i → s.2.1 i = m.2.1 i) ∧ ∀ i, i = 29 ∨ i = 31 ∨ i = 35 ∨ i = 44 → s.2.2 i = m.2.2 i
theorem bkf.trans {m m' m'' : mS} (h : bkf m m') (g : bkf m' m'') : bkf m m'' := ⟨fun i a => (g.1 i a).trans (h.1 i a), fun i a => (g.2.1 i a).trans (h.2.1 i a), fun i a => (g.2.2 i a).trans (h.2.2 i a)⟩
theorem bkf.i (m : mS) {k : Nat} (v : Int32) (hk : k = 0 ∨ k = 2 ∨ k = 6 ∨ k = 7 ∨ k = 24) : bkf m (mI m k v) := ⟨fun i a => if_neg (by omega), fun _ _ => rfl, fun _ _ => rfl⟩
theorem ftf.b {m m' : mS} (h : ftf m m') : bkf m m' := ⟨fun i a => h.1 i (by omega), fun i a => h.2.1 i (by omega), fun i _ => by rw [h.2.2]⟩
theorem frW.b {m m' : mS} (h : frW m m') : bkf m m' := ⟨fun i a => h.1 i (by omega) (by omega) (by omega) (by omega), fun i a => h.2.1 i (by omega), fun i _ => by rw [h.2.2]⟩
theorem lfw.b {m m' : mS} (h : lfw m m') : bkf m m' := ⟨fun i a => h.1 i (by omega) (by omega) (by omega) (by omega) (by omega) (by omega), fun i a => h.2.1 i (by omega) (by omega) (by omega), fun i a => h.2.2 i (by omega) (by omega) (by omega) (by omega)⟩
theorem RC.of {R : List Rl} {s : mS} {n : Nat → Nat} (hw : ∀ x ∈ R, wfR x) (h24 : R.length ≤ 24) (hf : flNone R) (hr : rRules s R) (hl : lyOk R (s.2.1 19) n) : RC R s := by
  refine ⟨fun y => if y < 512 then n y else 0, ⟨hw, h24, hf, fun y => ?_, fun x hx l hll h2 => ?_⟩, hr, fun y hy => ?_⟩
  · show (if y < 512 then n y else 0) ≤ 24
    by_cases h : y < 512
    · rw [if_pos h]
      exact (hl.1 y h).2
    · rw [if_neg h]
      omega
  · show (if lk l < 512 then n (lk l) else 0) + kd l ≤ (if lk x.1 < 512 then n (lk x.1) else 0)
    have a : lk x.1 < 512 := (wfA_lk (k := x.1.1) (hw x hx).1.2).1
    have b : lk l < 512 := by
      rcases (hw x hx).2.2 l hll with ⟨_, z⟩ | ⟨z, _⟩
      · exact (wfA_lk (k := l.1) z).1
      · exact absurd z h2
    rw [if_pos a, if_pos b]
    exact hl.2 x hx l hll h2
  · show s.2.1 19 y = nI (if y < 512 then n y else 0)
    rw [if_pos hy]
    exact (hl.1 y hy).1
/-- back to what was kept: nothing -/
theorem rq_back0 {d : Nat} {k f a : Int32} {m s5 : mS} {Q : Int32 → mS → Prop} (hb : bkf m s5) (h5 : m.1 5 = 0) (h4 : m.1 4 = 0) (q : ∀ m', bkf m m' → m'.1 0 = k → m'.1 2 = s5.1 2 → m'.1 6 = f → m'.1 7 = a → m'.1 24 = 0 → Q 0 m') : m_fetch_kept (d + 9) (s5.1 4) (mI s5 0 k) (fun _ s10 => if (s10.1 5) = 0 then (Q (0 : Int32) (mI (mI (mI s10 6 f) 7 a) 24 (0 : Int32))) else (m_isWell (d + 9) s10 (fun _ s14 => Q (0 : Int32) (mI (mI (mI s14 6 f) 7 a) 24 (0 : Int32))))) := by
  have e4 : s5.1 4 = nI ([] : List Int32).length := (hb.1 4 (by decide)).trans h4
  rw [e4]
  refine rq_fetch_kept (d := d + 8) (X := []) ⟨by decide, fun x hx => by simp at hx⟩ (fun j hj => absurd hj (Nat.not_lt_zero _)) (fun s10 f10 _ _ => ?_)
  have b10 : bkf m s10 := (hb.trans (bkf.i s5 k (Or.inl rfl))).trans f10.b
  rw [if_pos ((b10.1 5 (by decide)).trans h5)]
  exact q _ (((b10.trans (bkf.i _ f (by decide))).trans (bkf.i _ a (by decide))).trans (bkf.i _ 0 (by decide))) (f10.1 0 (by decide)) (f10.1 2 (by decide)) rfl rfl rfl
/-- back to the rules that were kept -/
theorem rq_back1 {d : Nat} {k f a : Int32} {R : List Rl} {X : List Int32} {m s5 : mS} {Q : Int32 → mS → Prop} (hb : bkf m s5) (h5 : m.1 5 = 1) (hf : flNone R) (hX : xC X) (h4 : m.1 4 = nI X.length) (hx : ∀ j, j < X.length → m.2.1 3 j = X.getD j 0) (hps : ∃ l, ps_all 24 [] X = (some R, l)) (q : ∀ m', bkf m m' → m'.1 0 = k → m'.1 2 = s5.1 2 → m'.1 6 = f → m'.1 7 = a → m'.1 24 = 0 → RC R m' → Q 0 m') : m_fetch_kept (d + 9) (s5.1 4) (mI s5 0 k) (fun _ s10 => if (s10.1 5) = 0 then (Q (0 : Int32) (mI (mI (mI s10 6 f) 7 a) 24 (0 : Int32))) else (m_isWell (d + 9) s10 (fun _ s14 => Q (0 : Int32) (mI (mI (mI s14 6 f) 7 a) 24 (0 : Int32))))) := by
  have e4 : s5.1 4 = nI X.length := (hb.1 4 (by decide)).trans h4
  rw [e4]
  refine rq_fetch_kept (d := d + 8) hX (fun j hj => ?_) (fun s10 f10 e9 e8 => ?_)
  · show s5.2.1 3 j = _
    rw [hb.2.1 3 (by decide)]
    exact hx j hj
  have b10 : bkf m s10 := (hb.trans (bkf.i s5 k (Or.inl rfl))).trans f10.b
  rw [if_neg (by rw [b10.1 5 (by decide), h5]; decide)]
  obtain ⟨l, hl⟩ := hps
  have same : ∀ R' l', ps_all 24 [] X = (some R', l') → R' = R := by
    intro R' l' e
    rw [hl] at e
    injection e with e1 e2
    injection e1 with e1
    exact e1.symm
  refine rq_isWell (d := d + 1) hX.1 e9 e8 (fun s' l' e => ?_) (fun s' R' l' f' r' e hfl => ?_) (fun s' R' l' n e hfn fr e6 e7 rr ly => ?_)
  · rw [hl] at e
    injection e with e1 e2
    cases e1
  · have := same R' l' e
    subst this
    obtain ⟨x1, x2, ⟨x, x3, x4⟩, _⟩ := hfl
    exact absurd x4 (hf f' x1 x2 x (List.mem_of_getElem? x3))
  · have := same R' l' e
    subst this
    obtain ⟨w1, _, w2⟩ := ps_all_wf 24 [] X rfl (fun r hr => by simp at hr) R' l' e
    refine q _ ((((b10.trans fr.b).trans (bkf.i _ f (by decide))).trans (bkf.i _ a (by decide))).trans (bkf.i _ 0 (by decide))) ((fr.1 0 (by decide) (by decide) (by decide) (by decide)).trans (f10.1 0 (by decide))) ((fr.1 2 (by decide) (by decide) (by decide) (by decide)).trans (f10.1 2 (by decide))) rfl rfl rfl ?_
    exact (RC.of w1 w2 hf rr ly).A rfl (fun _ _ _ => rfl)
