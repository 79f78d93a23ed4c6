/-! the class: Facts -/
/-- a relation that a literal may have, and its number in the class -/
def vr (x : Nat) : Prop := ∃ c ts, wfA c ts ∧ x = 4 * cn c + ts.length
def cr (x : Nat) : Nat := (rn (nI (x / 4)) (x % 4)).toNatClampNeg
theorem vr_cr {x : Nat} (h : vr x) : cr x < 112 ∧ rn (nI (x / 4)) (x % 4) = nI (cr x) := by
  obtain ⟨c, ts, hw, e⟩ := h
  obtain ⟨m, _, hm, ec⟩ := wfA_nat hw
  have hl := hw.2.1
  have e1 : x / 4 = m := by rw [e, ec, cn_nI hm]; omega
  have e2 : x % 4 = ts.length := by rw [e]; omega
  unfold cr
  rw [e1, e2, ← ec]
  obtain ⟨k, hk, ek⟩ := rn_pos hw
  rw [ek, nI_clamp (by omega)]
  exact ⟨hk, rfl⟩
theorem cr_lk {l : Lt} (h : wfL l) (h2 : l.1 ≠ 2) : vr (lk l) ∧ rn l.2.1 l.2.2.length = nI (cr (lk l)) := by
  have ha := (wfL_atom h h2).1
  obtain ⟨m, _, hm, ec⟩ := wfA_nat ha
  have hl := ha.2.1
  have hv : vr (lk l) := ⟨l.2.1, l.2.2, ha, rfl⟩
  refine ⟨hv, ?_⟩
  rw [← (vr_cr hv).2]
  unfold lk
  rw [ec, cn_nI hm, show (4 * m + l.2.2.length) / 4 = m by omega, show (4 * m + l.2.2.length) % 4 = l.2.2.length by omega]
theorem cr_inj {x y : Nat} (hx : vr x) (hy : vr y) (e : cr x = cr y) : x = y := by
  have a := (vr_cr hx).2
  have b := (vr_cr hy).2
  obtain ⟨c, ts, hw, ex⟩ := hx
  obtain ⟨c', ts', hw', ey⟩ := hy
  have h1 : rn c ts.length = nI (cr x) := by
    have := cr_lk (l := (0, c, ts)) (Or.inl ⟨Or.inl rfl, hw⟩) (by show (0 : Int32) ≠ 2; decide)
    rw [show lk (0, c, ts) = x from ex.symm] at this
    exact this.2
  have h2 : rn c' ts'.length = nI (cr y) := by
    have := cr_lk (l := (0, c', ts')) (Or.inl ⟨Or.inl rfl, hw'⟩) (by show (0 : Int32) ≠ 2; decide)
    rw [show lk (0, c', ts') = y from ey.symm] at this
    exact this.2
  have := (rn_inj (k := 0) (k' := 0) hw hw').mp (by rw [h1, h2, e])
  rw [ex, ey]
  exact this
/-- the last place below m, counted from 1; 0 if there is none -/
def lst (p : Nat → Bool) : Nat → Nat
  | 0 => 0
  | m + 1 => if p m = true then m + 1 else lst p m
theorem lst_le (p : Nat → Bool) : ∀ m, lst p m ≤ m := by
  intro m
  induction m with
  | zero => exact Nat.le_refl _
  | succ m ih =>
    rw [lst]
    by_cases h : p m = true
    · rw [if_pos h]
      exact Nat.le_refl _
    · rw [if_neg h]
      omega
theorem lst_0 {p : Nat → Bool} : ∀ {m : Nat}, lst p m = 0 → ∀ i, i < m → p i = false := by
  intro m
  induction m with
  | zero => intro _ i hi; omega
  | succ m ih =>
    intro h i hi
    rw [lst] at h
    by_cases hp : p m = true
    · rw [if_pos hp] at h
      omega
    · rw [if_neg hp] at h
      by_cases e : i = m
      · rw [e]
        simpa using hp
      · exact ih h i (by omega)
theorem lst_s {p : Nat → Bool} : ∀ {m j : Nat}, lst p m = j + 1 → j < m ∧ p j = true ∧ ∀ i, j < i → i < m → p i = false := by
  intro m
  induction m with
  | zero => intro j h; rw [lst] at h; omega
  | succ m ih =>
    intro j h
    rw [lst] at h
    by_cases hp : p m = true
    · rw [if_pos hp] at h
      have e : j = m := by omega
      subst e
      exact ⟨by omega, hp, fun i h1 h2 => by omega⟩
    · rw [if_neg hp] at h
      obtain ⟨h1, h2, h3⟩ := ih h
      refine ⟨by omega, h2, fun i a b => ?_⟩
      by_cases e : i = m
      · rw [e]
        simpa using hp
      · exact h3 i a (by omega)
theorem lst_congr {p q : Nat → Bool} : ∀ {m : Nat}, (∀ i, i < m → p i = q i) → lst p m = lst q m := by
  intro m
  induction m with
  | zero => intro _; rfl
  | succ m ih =>
    intro h
    rw [lst, lst, h m (by omega), ih (fun i hi => h i (by omega))]
/-- the slot of a fact -/
def hsI (a b c d : Int32) : Int32 := (((((((a * 31) + b) * 31) + c) * 31) + d) * (-1640531535 : Int32)).toUInt32 >>> (((24 : Int32)).toUInt32 &&& Int32.toUInt32 31) |>.toInt32
theorem i32_nI (z : Int32) : ∃ n, n < 2 ^ 32 ∧ z = nI n := by
  refine ⟨z.toBitVec.toNat, z.toBitVec.isLt, ?_⟩
  apply Int32.toBitVec_inj.mp
  show z.toBitVec = BitVec.ofNat 32 z.toBitVec.toNat
  rw [BitVec.ofNat_toNat, BitVec.setWidth_eq]
theorem hsI_lt (a b c d : Int32) : ∃ k, k < 256 ∧ hsI a b c d = nI k := by
  unfold hsI
  obtain ⟨n, hn, e⟩ := i32_nI (((((((a * 31) + b) * 31) + c) * 31) + d) * (-1640531535 : Int32))
  refine ⟨n / 2 ^ 24, by omega, ?_⟩
  show ((((((((a * 31) + b) * 31) + c) * 31) + d) * (-1640531535 : Int32)).toUInt32 >>> (((24 : Int32)).toUInt32 &&& Int32.toUInt32 31)).toInt32 = _
  rw [e]
  exact nI_ush (k := 24) hn (by decide)
def hs (f : Fct) : Nat := (hsI (nI (cr f.1)) (te f.2 0) (te f.2 1) (te f.2 2)).toNatClampNeg
theorem hs_lt (f : Fct) : hs f < 256 ∧ hsI (nI (cr f.1)) (te f.2 0) (te f.2 1) (te f.2 2) = nI (hs f) := by
  obtain ⟨k, hk, e⟩ := hsI_lt (nI (cr f.1)) (te f.2 0) (te f.2 1) (te f.2 2)
  unfold hs
  rw [e, nI_clamp (by omega)]
  exact ⟨hk, rfl⟩
def wfC (f : Fct) : Prop := wfF f ∧ vr f.1
theorem te_inj {ts ts' : List Tm} (h : ∀ t ∈ ts, wfT t) (g : ∀ t ∈ ts', wfT t) (hl : ts.length = ts'.length) (h3 : ts.length ≤ 3) (e0 : te ts 0 = te ts' 0) (e1 : te ts 1 = te ts' 1) (e2 : te ts 2 = te ts' 2) : ts = ts' := by
  apply List.ext_getElem?
  intro i
  by_cases hi : i < ts.length
  · have key : te ts i = te ts' i → ts[i]? = ts'[i]? := by
      intro e
      unfold te at e
      rw [List.getElem?_eq_getElem hi, List.getElem?_eq_getElem (by omega : i < ts'.length)] at e ⊢
      simp only at e
      have a := (tE_lt (h _ (List.getElem_mem hi))).1
      have b := (tE_lt (g _ (List.getElem_mem (by omega : i < ts'.length)))).1
      rw [nI_eq (by omega) (by omega)] at e
      rw [tE_inj (h _ (List.getElem_mem hi)) (g _ (List.getElem_mem (by omega))) e]
    have : i = 0 ∨ i = 1 ∨ i = 2 := by omega
    rcases this with rfl | rfl | rfl
    · exact key e0
    · exact key e1
    · exact key e2
  · rw [List.getElem?_eq_none (by omega), List.getElem?_eq_none (by omega)]
def pR (L : List Fct) (r i : Nat) : Bool := match L[i]? with
  | some f => cr f.1 == r
  | none => false
def pH (L : List Fct) (h i : Nat) : Bool := match L[i]? with
  | some f => hs f == h
  | none => false
theorem pR_get {L : List Fct} {r i : Nat} {f : Fct} (h : L[i]? = some f) : pR L r i = (cr f.1 == r) := by
  unfold pR
  rw [h]
theorem pH_get {L : List Fct} {r i : Nat} {f : Fct} (h : L[i]? = some f) : pH L r i = (hs f == r) := by
  unfold pH
  rw [h]
def cK (L : List Fct) (r : Nat) : Nat := (L.filter (fun f => cr f.1 == r)).length
/-- one fact in its rows -/
def cFac (s : cS) (L : List Fct) (i : Nat) (f : Fct) : Prop := wfC f ∧ s.2.1 7 (i + 1) = nI (cr f.1) ∧ s.2.1 8 (i + 1) = te f.2 0 ∧ s.2.1 9 (i + 1) = te f.2 1 ∧ s.2.1 10 (i + 1) = te f.2 2 ∧ s.2.1 11 (i + 1) = nI (lst (pR L (cr f.1)) i) ∧ s.2.1 15 (i + 1) = nI (lst (pH L (hs f)) i)
/-- the facts in the class's rows, with their chains -/
def cFacts (s : cS) (L : List Fct) : Prop := s.1 129 = nI L.length ∧ L.length ≤ 200 ∧ (∀ (i : Nat) f, L[i]? = some f → cFac s L i f) ∧ (∀ r, r < 112 → s.2.1 12 r = nI (lst (pR L r) L.length) ∧ s.2.1 13 r = nI (cK L r)) ∧ ∀ h, h < 256 → s.2.1 14 h = nI (lst (pH L h) L.length)
theorem kq_slotOf {N0 : Nat} {K : Nat → Nat} {d C : Nat} {a b c e : Int32} {s : cS} {G : gm_H} {sz : Nat} {Q : Int32 → Prop} (hN : N0 ≤ C) (q : Q (hsI a b c e)) : kX1_slotOf N0 K (d + 1) C a b c e s G sz Q := kX1_slotOf.of (TX1_slotOf_0 hN q)
theorem cs_search_8 {N0 : Nat} {K : Nat → Nat} {d C : Nat} {s : cS} {G : gm_H} {sz sl : Nat} {L : List Fct} {F : Fct} {Q : Int32 → Prop} (hN : N0 ≤ C) (hL : cFacts s L) (hF : wfC F) (q1 : ∀ i, L[i]? = some F → Q (nI (i + 1))) (q0 : ¬ F ∈ L → Q 0) : ∀ (m : Nat), m ≤ L.length → (∀ i f, m ≤ i → L[i]? = some f → f ≠ F) → hX1_search_8 N0 K d C (nI (cr F.1)) (te F.2 0) (te F.2 1) (te F.2 2) (nI (lst (pH L (hs F)) m)) s G sz sl Q := by
  obtain ⟨h1, h2, h3, h4, h5⟩ := hL
  intro m
  induction m using Nat.strongRecOn with
  | _ m ih =>
    intro hm hno
    refine TX1_search_8 hN ?_
    have hle := lst_le (pH L (hs F)) m
    cases e : lst (pH L (hs F)) m with
    | zero =>
      rw [if_pos (by decide)]
      refine q0 (fun z => ?_)
      obtain ⟨i, hi, ei⟩ := List.getElem_of_mem z
      have hi' : L[i]? = some F := by rw [List.getElem?_eq_getElem hi, ei]
      by_cases him : i < m
      · have := lst_0 e i him
        rw [pH_get hi'] at this
        simp at this
      · exact hno i F (by omega) hi' rfl
    | succ j =>
      obtain ⟨j1, j2, j3⟩ := lst_s e
      have hjl : j < L.length := by omega
      have hj : L[j]? = some L[j] := List.getElem?_eq_getElem hjl
      obtain ⟨w, b1, b2, b3, b4, b5, b6⟩ := h3 j _ hj
      rw [if_neg (nI_nle (by omega) (by omega))]
      refine ⟨j + 1, rfl, by omega, ?_⟩
      have hhs : hs L[j] = hs F := by
        rw [pH_get hj] at j2
        simpa using j2
      have next : L[j] ≠ F → hX1_search_8 N0 K d C (nI (cr F.1)) (te F.2 0) (te F.2 1) (te F.2 2) (s.2.1 15 (j + 1)) s G sz sl Q := by
        intro hne
        rw [b6, hhs]
        refine ih j j1 (by omega) (fun i f hi hf e2 => ?_)
        by_cases eij : i = j
        · subst eij
          rw [hj] at hf
          cases hf
          exact hne e2
        · by_cases him : i < m
          · have := j3 i (by omega) him
            rw [pH_get hf, e2] at this
            simp at this
          · exact hno i f (by omega) hf e2
      rw [b2, b3, b1, b4]
      by_cases c1 : te L[j].2 0 = te F.2 0
      · rw [if_pos c1]
        by_cases c2 : te L[j].2 1 = te F.2 1
        · rw [if_pos c2]
          by_cases c3 : cr L[j].1 = cr F.1
          · rw [if_pos (by rw [c3])]
            by_cases c4 : te L[j].2 2 = te F.2 2
            · rw [if_pos c4]
              have er : L[j].1 = F.1 := cr_inj w.2 hF.2 c3
              have ef : L[j] = F := Prod.ext er (te_inj w.1.wf hF.1.wf (by rw [w.1.2.1, hF.1.2.1, er]) w.1.len c1 c2 c4)
              exact q1 j (by rw [hj, ef])
            · rw [if_neg c4]
              exact next (fun z => c4 (by rw [z]))
          · rw [if_neg (fun z => c3 ((nI_eq (by have := (vr_cr w.2).1; omega) (by have := (vr_cr hF.2).1; omega)).mp z))]
            exact next (fun z => c3 (by rw [z]))
        · rw [if_neg c2]
          exact next (fun z => c2 (by rw [z]))
      · rw [if_neg c1]
        exact next (fun z => c1 (by rw [z]))
theorem cq_search {N0 : Nat} {K : Nat → Nat} {d C : Nat} {s : cS} {G : gm_H} {sz : Nat} {L : List Fct} {F : Fct} {Q : Int32 → Prop} (hN : N0 ≤ C) (hL : cFacts s L) (hF : wfC F) (q1 : ∀ i, L[i]? = some F → Q (nI (i + 1))) (q0 : ¬ F ∈ L → Q 0) : kX1_search N0 K (d + 1) C (nI (hs F)) (nI (cr F.1)) (te F.2 0) (te F.2 1) (te F.2 2) s G sz Q := by
  refine kX1_search.of (TX1_search_0 hN ⟨hs F, rfl, (hs_lt F).1, ?_⟩)
  rw [hL.2.2.2.2 _ (hs_lt F).1]
  exact cs_search_8 hN hL hF q1 q0 L.length (Nat.le_refl _) (fun i f hi hf => absurd (List.getElem?_eq_some_iff.mp hf).1 (by omega))
theorem cq_find {N0 : Nat} {K : Nat → Nat} {d C : Nat} {s : cS} {G : gm_H} {sz : Nat} {L : List Fct} {F : Fct} {Q : Int32 → Prop} (hN : N0 ≤ C) (hL : cFacts s L) (hF : wfC F) (q1 : ∀ i, L[i]? = some F → Q (nI (i + 1))) (q0 : ¬ F ∈ L → Q 0) : kX1_find N0 K (d + 2) C (nI (cr F.1)) (te F.2 0) (te F.2 1) (te F.2 2) s G sz Q := by
  refine kX1_find.of (TX1_find_0 hN (kq_slotOf hN ?_))
  rw [(hs_lt F).2]
  exact cq_search hN hL hF q1 q0
/-- all as it was but the facts -/
def fcx (s s' : cS) : Prop := (∀ i, i ≠ 129 → i ≠ 130 → s'.1 i = s.1 i) ∧ (∀ i, i < 7 ∨ 15 < i → s'.2.1 i = s.2.1 i) ∧ s'.2.2 = s.2.2
theorem fcx.refl (s : cS) : fcx s s := ⟨fun _ _ _ => rfl, fun _ _ => rfl, rfl⟩
theorem fcx.trans {s s' s'' : cS} (h : fcx s s') (g : fcx s' s'') : fcx s s'' := ⟨fun i a b => (g.1 i a b).trans (h.1 i a b), fun i a => (g.2.1 i a).trans (h.2.1 i a), g.2.2.trans h.2.2⟩
theorem pR_app {L : List Fct} {F : Fct} {r i : Nat} (h : i < L.length) : pR (L ++ [F]) r i = pR L r i := by
  unfold pR
  rw [List.getElem?_append_left h]
theorem pH_app {L : List Fct} {F : Fct} {r i : Nat} (h : i < L.length) : pH (L ++ [F]) r i = pH L r i := by
  unfold pH
  rw [List.getElem?_append_left h]
theorem get_app {L : List Fct} {F : Fct} : (L ++ [F])[L.length]? = some F := by simp
theorem cq_add {N0 : Nat} {K : Nat → Nat} {d C : Nat} {s : cS} {G : gm_H} {sz : Nat} {L : List Fct} {F : Fct} {Q : Unit → cS → Prop} (hN : N0 ≤ C) (hL : cFacts s L) (hF : wfC F) (q1 : F ∈ L → Q () s) (q2 : ¬ F ∈ L → L.length = 200 → Q () (cI s 130 1)) (q3 : ∀ s', ¬ F ∈ L → L.length < 200 → fcx s s' → s'.1 130 = s.1 130 → cFacts s' (L ++ [F]) → Q () s') : kX1_add N0 K (d + 2) C (nI (cr F.1)) (te F.2 0) (te F.2 1) (te F.2 2) s G sz Q := by
  refine kX1_add.of (TX1_add_0 hN (kq_slotOf hN ?_))
  rw [(hs_lt F).2]
  refine cq_search hN hL hF (fun i hi => ?_) (fun hn => ?_)
  · have hi' := (List.getElem?_eq_some_iff.mp hi).1
    have h200 := hL.2.1
    rw [if_neg (nI_ne0 (by omega) (by omega))]
    exact q1 (List.mem_of_getElem? hi)
  · obtain ⟨h1, h2, h3, h4, h5⟩ := hL
    rw [if_pos rfl]
    by_cases h200 : L.length = 200
    · rw [if_pos (by rw [h1, h200]; rfl)]
      exact q2 hn h200
    · rw [if_neg (by rw [h1, show (200 : Int32) = nI 200 from rfl, nI_eq (by omega) (by decide)]; exact h200)]
      have hcr := (vr_cr hF.2).1
      refine ⟨L.length + 1, by rw [h1, nI_1], by omega, cr F.1, rfl, hcr, hs F, rfl, (hs_lt F).1, ?_⟩
      have hlen : (L ++ [F]).length = L.length + 1 := by simp
      refine q3 _ hn (by omega) ⟨fun i a b => if_neg a, fun i a => ?_, rfl⟩ rfl ⟨?_, by rw [hlen]; omega, fun i f hf => ?_, fun r hr => ?_, fun h hh => ?_⟩
      · show (if i = 14 then _ else if i = 15 then _ else if i = 13 then _ else if i = 12 then _ else if i = 11 then _ else if i = 10 then _ else if i = 9 then _ else if i = 8 then _ else if i = 7 then _ else s.2.1 i) = s.2.1 i
        rw [if_neg (by omega), if_neg (by omega), if_neg (by omega), if_neg (by omega), if_neg (by omega), if_neg (by omega), if_neg (by omega), if_neg (by omega), if_neg (by omega)]
      · show s.1 129 + 1 = _
        rw [h1, nI_1, hlen]
      · show wfC f ∧ upd (s.2.1 7) (L.length + 1) (nI (cr F.1)) (i + 1) = _ ∧ upd (s.2.1 8) (L.length + 1) (te F.2 0) (i + 1) = _ ∧ upd (s.2.1 9) (L.length + 1) (te F.2 1) (i + 1) = _ ∧ upd (s.2.1 10) (L.length + 1) (te F.2 2) (i + 1) = _ ∧ upd (s.2.1 11) (L.length + 1) (s.2.1 12 (cr F.1)) (i + 1) = _ ∧ upd (s.2.1 15) (L.length + 1) (s.2.1 14 (hs F)) (i + 1) = _
        by_cases hi : i < L.length
        · rw [List.getElem?_append_left hi] at hf
          obtain ⟨w, b1, b2, b3, b4, b5, b6⟩ := h3 i f hf
          rw [upd_ne (by omega), upd_ne (by omega), upd_ne (by omega), upd_ne (by omega), upd_ne (by omega), upd_ne (by omega)]
          rw [lst_congr (p := pR (L ++ [F]) (cr f.1)) (q := pR L (cr f.1)) (fun j hj => pR_app (by omega)), lst_congr (p := pH (L ++ [F]) (hs f)) (q := pH L (hs f)) (fun j hj => pH_app (by omega))]
          exact ⟨w, b1, b2, b3, b4, b5, b6⟩
        · have := (List.getElem?_eq_some_iff.mp hf).1
          have ei : i = L.length := by omega
          subst ei
          rw [get_app] at hf
          cases hf
          rw [upd_eq, upd_eq, upd_eq, upd_eq, upd_eq, upd_eq]
          rw [lst_congr (p := pR (L ++ [F]) (cr F.1)) (q := pR L (cr F.1)) (fun j hj => pR_app hj), lst_congr (p := pH (L ++ [F]) (hs F)) (q := pH L (hs F)) (fun j hj => pH_app hj)]
          exact ⟨hF, rfl, rfl, rfl, rfl, (h4 _ hcr).1, h5 _ (hs_lt F).1⟩
      · show upd (s.2.1 12) (cr F.1) (s.1 129 + 1) r = _ ∧ upd (s.2.1 13) (cr F.1) (s.2.1 13 (cr F.1) + 1) r = _
        rw [hlen, lst, pR_get get_app]
        have ec : cK (L ++ [F]) r = cK L r + (if cr F.1 = r then 1 else 0) := by
          unfold cK
          rw [List.filter_append, List.length_append]
          by_cases z : cr F.1 = r
          · rw [if_pos z, List.filter_cons_of_pos (by simp [z])]
            simp
          · rw [if_neg z, List.filter_cons_of_neg (by simp [z])]
            simp
        by_cases z : cr F.1 = r
        · subst z
          rw [upd_eq, upd_eq, h1, nI_1, (h4 _ hr).2, nI_1, ec, if_pos rfl, if_pos (by simp)]
          exact ⟨rfl, rfl⟩
        · rw [upd_ne (fun y => z y.symm), upd_ne (fun y => z y.symm), ec, if_neg z, if_neg (by simpa using z), lst_congr (p := pR (L ++ [F]) r) (q := pR L r) (fun j hj => pR_app hj)]
          exact h4 r hr
      · show upd (s.2.1 14) (hs F) (s.1 129 + 1) h = _
        rw [hlen, lst, pH_get get_app]
        by_cases z : hs F = h
        · subst z
          rw [upd_eq, h1, nI_1, if_pos (by simp)]
        · rw [upd_ne (fun y => z y.symm), if_neg (by simpa using z), lst_congr (p := pH (L ++ [F]) h) (q := pH L h) (fun j hj => pH_app hj)]
          exact h5 h hh
