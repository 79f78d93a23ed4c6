/-! the class: planning a rule -/
def rcl (h b n : Nat) (v : Int32) : List Value := [.ref h, .ref b, .int (nI n), .int v]
theorem gs_bring66 {N0 : Nat} {K : Nat → Nat} {d r h b n k p a : Nat} {v : Int32} {M0 : gm_H} {fa : Nat → Option Nat} {sz sl : Nat} {Q : Nat → gm_H → Nat → Nat → Prop} (hr : M0 r = some (.inr (7, rcl h b n v))) (hbr : r ≠ b) (hNb : N0 ≤ b) (hn : n ≤ 5) (hp : p < n) (hk : k ≤ p) (hc : ∀ j, j < n → ∃ e fs, fa j = some e ∧ e ≠ b ∧ M0 e = some (.inr (5, fs))) (ha : fa p = some a) (q : ∀ M' fr, M' b = some (larr fr) → (∀ e, e ≠ b → M' e = M0 e) → (∀ j, fr j = if j = k then fa p else if k < j ∧ j ≤ p then fa (j - 1) else fa j) → Q a M' sz sl) : ∀ (m c : Nat) (M : gm_H) (fc : Nat → Option Nat), c = k + m → c ≤ p → M b = some (larr fc) → (∀ e, e ≠ b → M e = M0 e) → (∀ j, fc j = if c < j ∧ j ≤ p then fa (j - 1) else fa j) → hX7_bring_66 N0 K d r (nI k) a (nI c) M sz sl Q := by
  intro m
  induction m with
  | zero =>
    intro c M fc e hcp hb hM hf
    have ec : c = k := by omega
    subst ec
    refine TX7_bring_66 ?_
    rw [if_pos (nI_le (Nat.le_refl _) (by omega))]
    obtain ⟨e0, fs, z1, z2, z3⟩ := hc p hp
    have : a = e0 := Option.some.inj (ha.symm.trans z1)
    subst this
    refine ⟨_, (hM r hbr).trans hr, b, rfl, 5, fc, hb, by decide, hNb, c, rfl, by omega, fs, (hM a z2).trans z3, ?_⟩
    refine q _ (va_up fc c (some a)) gm_set_eq (fun e he => (gm_set_ne he).trans (hM e he)) (fun j => ?_)
    by_cases hj : j = c
    · rw [if_pos hj, hj, vu_eq, ha]
    · rw [if_neg hj, vu_ne hj, hf j]
  | succ m ih =>
    intro c M fc e hcp hb hM hf
    refine TX7_bring_66 ?_
    rw [if_neg (nI_ge (by omega) (by omega))]
    obtain ⟨e0, fs, z1, z2, z3⟩ := hc (c - 1) (by omega)
    have ec1 : nI c - (1 : Int32) = nI (c - 1) := by rw [n_1, nI_sub (by omega)]
    refine ⟨_, (hM r hbr).trans hr, b, rfl, 5, fc, hb, by decide, c - 1, ec1, by omega, e0, ?_, hNb, c, rfl, by omega, fs, (hM e0 z2).trans z3, ?_⟩
    · rw [hf, if_neg (by omega), z1]
    · rw [show nI c + (-1 : Int32) = nI (c - 1) by rw [← nI_sub1 (c - 1), show c - 1 + 1 = c by omega]]
      refine ih (c - 1) _ (va_up fc c (some e0)) (by omega) (by omega) gm_set_eq (fun e he => (gm_set_ne he).trans (hM e he)) (fun j => ?_)
      by_cases hj : j = c
      · rw [hj, vu_eq, if_pos (by omega), z1]
      · rw [vu_ne hj, hf j]
        by_cases h1 : c < j ∧ j ≤ p
        · rw [if_pos h1, if_pos (by omega)]
        · rw [if_neg h1, if_neg (by omega)]
theorem gs_bring9 {N0 : Nat} {K : Nat → Nat} {d r h b k U : Nat} {v W : Int32} {y : List Lt} {u : Int32 → Bool} {M : gm_H} {fa : Nat → Option Nat} {sz sl : Nat} {Q : Nat → gm_H → Nat → Nat → Prop} (hr : M r = some (.inr (7, rcl h b y.length v))) (hb : M b = some (larr fa)) (hn : y.length ≤ 5) (hc : ∀ (j : Nat) l, k ≤ j → y[j]? = some l → ∃ e, fa j = some e ∧ M e = some (.inr (5, lcell l)) ∧ wfL l) (hm : mk U u) (hg : ∃ (j : Nat) (l : Lt), k ≤ j ∧ y[j]? = some l ∧ lG u l) (q : ∀ (p : Nat) l a, k ≤ p → y[p]? = some l → lG u l → fa p = some a → hX7_bring_66 N0 K (d + 4) r (nI k) a (nI p) M sz sl Q) : ∀ (m i p : Nat) (most : Int32), i + m = y.length → k ≤ i → k ≤ p → p < y.length → ((most = -1 ∧ p = k ∧ ∀ (j : Nat) l, k ≤ j → j < i → y[j]? = some l → ¬ lG u l) ∨ ((∃ w, w ≤ 100 ∧ most = nI w) ∧ ∃ l, y[p]? = some l ∧ lG u l)) → hX7_bring_9 N0 K (d + 4) r (nI k) (nI U) W (nI p) most (nI i) M sz sl Q := by
  intro m
  induction m with
  | zero =>
    intro i p most hi hki hkp hp hI
    refine TX7_bring_9 ⟨_, hr, nI y.length, rfl, ?_⟩
    rw [if_pos (nI_le (by omega) (by omega))]
    rcases hI with ⟨_, _, hno⟩ | ⟨_, l, hl, hgl⟩
    · obtain ⟨j, l, j1, j2, j3⟩ := hg
      have := (List.getElem?_eq_some_iff.mp j2).1
      exact absurd j3 (hno j l j1 (by omega) j2)
    · obtain ⟨e, e1, e2, e3⟩ := hc p l hkp hl
      exact ⟨b, rfl, 5, fa, hb, by decide, p, rfl, by omega, e, e1, q p l e hkp hl hgl e1⟩
  | succ m ih =>
    intro i p most hi hki hkp hp hI
    have hl : y[i]? = some (y[i]'(by omega)) := List.getElem?_eq_getElem (by omega)
    obtain ⟨e, e1, e2, e3⟩ := hc i _ hki hl
    refine TX7_bring_9 ⟨_, hr, nI y.length, rfl, ?_⟩
    rw [if_neg (nI_ge (by omega) (by omega))]
    refine ⟨b, rfl, 5, fa, hb, by decide, i, rfl, by omega, e, e1, ?_⟩
    refine gq_merit e2 e3 hm (fun hgl w hw => ?_) (fun hgl => ?_)
    · rw [nI_1]
      split
      · rename_i hle
        refine ih (i + 1) p most (by omega) (by omega) hkp hp ?_
        rcases hI with ⟨z, _, _⟩ | z
        · rw [z] at hle
          exact absurd hle (fun z2 => absurd (Int32.le_trans (nI_pos' (n := w) (by omega)) z2) (by decide))
        · exact Or.inr z
      · exact ih (i + 1) i _ (by omega) (by omega) hki (by omega) (Or.inr ⟨⟨w, hw, rfl⟩, _, hl, hgl⟩)
    · rw [nI_1]
      have hle : (-1 : Int32) ≤ most := by
        rcases hI with ⟨z, _, _⟩ | ⟨⟨w, _, z⟩, _⟩
        · rw [z]; decide
        · rw [z]; exact Int32.le_trans (by decide) (nI_pos' (n := w) (by omega))
      rw [if_pos hle]
      refine ih (i + 1) p most (by omega) (by omega) hkp hp ?_
      rcases hI with ⟨z1, z2, z3⟩ | z
      · refine Or.inl ⟨z1, z2, fun j l hj1 hj2 hj3 => ?_⟩
        by_cases hji : j = i
        · subst hji
          rw [hl] at hj3
          rw [← Option.some.inj hj3]
          exact hgl
        · exact z3 j l hj1 (by omega) hj3
      · exact Or.inr z
/-- a literal is taken ahead -/
theorem rot {α : Type} {y : List α} {k p : Nat} {l : α} (hk : k ≤ p) (hl : y[p]? = some l) : ∃ y' : List α, y'.Perm y ∧ y'.take k = y.take k ∧ ∀ j : Nat, y'[j]? = if j = k then some l else if k < j ∧ j ≤ p then y[j - 1]? else y[j]? := by
  have hp := (List.getElem?_eq_some_iff.mp hl).1
  obtain ⟨A, B, D, e, hA, hB⟩ : ∃ A B D : List α, y = A ++ (B ++ l :: D) ∧ A.length = k ∧ B.length = p - k := by
    refine ⟨y.take k, (y.drop k).take (p - k), y.drop (p + 1), ?_, by rw [List.length_take]; omega, by rw [List.length_take, List.length_drop]; omega⟩
    have h1 : y.drop p = l :: y.drop (p + 1) := by
      rw [List.drop_eq_getElem_cons hp, (List.getElem?_eq_some_iff.mp hl).2]
    have h2 : (y.drop k).drop (p - k) = y.drop p := by rw [List.drop_drop, show k + (p - k) = p by omega]
    rw [← h1, ← h2, List.take_append_drop, List.take_append_drop]
  subst e
  refine ⟨A ++ (l :: (B ++ D)), List.Perm.append_left A List.perm_middle.symm, by rw [← hA, List.take_left, List.take_left], fun j => ?_⟩
  by_cases h1 : j < k
  · rw [if_neg (by omega), if_neg (by omega), List.getElem?_append_left (by omega), List.getElem?_append_left (by omega)]
  · by_cases h2 : j = k
    · rw [if_pos h2, List.getElem?_append_right (by omega), h2, hA, Nat.sub_self]
      rfl
    · rw [if_neg h2]
      obtain ⟨t, rfl⟩ : ∃ t, j = k + 1 + t := ⟨j - (k + 1), by omega⟩
      rw [List.getElem?_append_right (by omega), hA, show k + 1 + t - k = t + 1 by omega, List.getElem?_cons_succ]
      by_cases h3 : k + 1 + t ≤ p
      · rw [if_pos (by omega), List.getElem?_append_left (l₁ := B) (l₂ := D) (by omega), List.getElem?_append_right (l₁ := A) (by omega), hA, show k + 1 + t - 1 - k = t by omega, List.getElem?_append_left (l₁ := B) (by omega)]
      · rw [if_neg (by omega), List.getElem?_append_right (l₁ := B) (l₂ := D) (by omega), List.getElem?_append_right (l₁ := A) (by omega), hA, show k + 1 + t - k = t + 1 by omega, List.getElem?_append_right (l₁ := B) (by omega), hB]
        rw [show t + 1 - (p - k) = (t - (p - k)) + 1 by omega, List.getElem?_cons_succ]
/-- a rule while it is planned: the first k literals are -/
def plI (M0 M : gm_H) (lo hi r h b : Nat) (v : Int32) (x : Rl) (y : List Lt) (fa : Nat → Option Nat) (k : Nat) : Prop := (lo ≤ h ∧ h < r ∧ r < b ∧ b < hi) ∧ M r = some (.inr (7, rcl h b x.2.length v)) ∧ M h = some (.inr (5, lcell x.1)) ∧ M b = some (larr fa) ∧ y.Perm x.2 ∧ (∀ (j : Nat) l, y[j]? = some l → ∃ e, fa j = some e ∧ b < e ∧ e < hi ∧ (k ≤ j → M e = some (.inr (5, lcell l))) ∧ (j < k → ∃ kn on, M e = some (.inr (5, plc (ub y j) kn on l)) ∧ (kn = 0 → l.1 = 0) ∧ (kn ≠ 0 → lB (ub y j) l) ∧ (on ≠ 0 → lB (ub y j) x.1))) ∧ (∀ i j e, i < y.length → j < y.length → fa i = some e → fa j = some e → i = j) ∧ (∀ a, ¬ (lo ≤ a ∧ a < hi) → M a = M0 a)
theorem ub_take {y y' : List Lt} {k j : Nat} (h : y'.take k = y.take k) (hj : j ≤ k) : ub y' j = ub y j := by
  have e : y'.take j = y.take j := by
    have := congrArg (List.take j) h
    rwa [List.take_take, List.take_take, Nat.min_eq_left hj] at this
  unfold ub
  rw [e]
theorem lG_ex {x : Rl} {y : List Lt} {k : Nat} (hs : ∀ c, chV c → rV x c → ∃ l ∈ x.2, l.1 = 0 ∧ inL l c) (hp : y.Perm x.2) (hk : k < y.length) : ∃ (j : Nat) (l : Lt), k ≤ j ∧ y[j]? = some l ∧ lG (ub y k) l := by
  have hl : y[k]? = some (y[k]'hk) := List.getElem?_eq_getElem hk
  by_cases hb : lB (ub y k) (y[k]'hk)
  · exact ⟨k, _, Nat.le_refl _, hl, Or.inl hb⟩
  · obtain ⟨c, hc⟩ := Classical.not_forall.mp hb
    obtain ⟨hv, hc⟩ := Classical.not_imp.mp hc
    obtain ⟨hin, hu⟩ := Classical.not_imp.mp hc
    obtain ⟨l, l1, l2, l3⟩ := hs c hv (Or.inr ⟨_, hp.mem_iff.mp (List.mem_of_getElem? hl), hin⟩)
    obtain ⟨j, hj⟩ := List.getElem?_of_mem (hp.mem_iff.mpr l1)
    refine ⟨j, l, ?_, hj, Or.inr l2⟩
    refine Nat.le_of_not_lt (fun z => hu (ub_dom.mpr ⟨l, ?_, l3⟩))
    refine List.mem_of_getElem? (i := j) ?_
    rw [List.getElem?_take, if_pos z]
    exact hj
theorem gs_plan58 {N0 : Nat} {K : Nat → Nat} {d lo hi r h b : Nat} {v : Int32} {x : Rl} {M0 : gm_H} {sz sl : Nat} {Q : Unit → gm_H → Nat → Nat → Prop} (hN : N0 ≤ lo) (hw : wfR x) (hs : ∀ c, chV c → rV x c → ∃ l ∈ x.2, l.1 = 0 ∧ inL l c) (q : ∀ M y fa, plI M0 M lo hi r h b v x y fa x.2.length → Q () (gm_set M h (.inr (5, plc (fun _ => false) 0 0 x.1))) sz sl) : ∀ (m k U : Nat) (M : gm_H) (y : List Lt) (fa : Nat → Option Nat), k + m = x.2.length → mk U (ub y k) → plI M0 M lo hi r h b v x y fa k → hX7_plan_58 N0 K (d + 5) r (nI U) (nI (vm x.1.2.2)) (nI k) M sz sl Q := by
  have hx5 := hw.2.1
  have hwh : wfL x.1 := Or.inl ⟨Or.inl hw.1.1, hw.1.2⟩
  intro m
  induction m with
  | zero =>
    intro k U M y fa hk hm hI
    obtain ⟨⟨a1, a2, a3, a4⟩, b1, b2, b3, b4, b5, b6, b7⟩ := hI
    refine TX7_plan_58 ⟨_, b1, nI x.2.length, rfl, ?_⟩
    rw [if_pos (nI_le (by omega) (by omega))]
    refine ⟨h, rfl, _, b2, ?_⟩
    have ek : k = x.2.length := by omega
    subst ek
    rw [← nI_0]
    refine gq_lplan (u := fun _ => false) (kn := 0) (on := 0) (by omega) b2 hwh ⟨by decide, fun k hk => by simp⟩ ?_
    exact q M y fa ⟨⟨a1, a2, a3, a4⟩, b1, b2, b3, b4, b5, b6, b7⟩
  | succ m ih =>
    intro k U M y fa hk hm hI
    obtain ⟨⟨a1, a2, a3, a4⟩, b1, b2, b3, b4, b5, b6, b7⟩ := hI
    have hlen : y.length = x.2.length := b4.length_eq
    have hwy : ∀ (j : Nat) l, y[j]? = some l → wfL l := fun j l hl => hw.2.2 l (b4.mem_iff.mp (List.mem_of_getElem? hl))
    refine TX7_plan_58 ⟨_, b1, nI x.2.length, rfl, ?_⟩
    rw [if_neg (nI_ge (by omega) (by omega))]
    refine gX7_bring.of (TX7_bring_0 ?_)
    refine gs_bring9 (y := y) (fa := fa) (h := h) (v := v) (u := ub y k) (by rw [hlen]; exact b1) b3 (by omega) (fun j l hj hl => ?_) hm (lG_ex hs b4 (by omega)) ?_ (m + 1) k k (-1) (by omega) (Nat.le_refl _) (Nat.le_refl _) (by omega) (Or.inl ⟨rfl, rfl, fun j l h1 h2 => by omega⟩)
    · obtain ⟨e, e1, e2, e3, e4, _⟩ := b5 j l hl
      exact ⟨e, e1, e4 hj, hwy j l hl⟩
    · intro p l a hkp hl hgl hfa
      have hpl := (List.getElem?_eq_some_iff.mp hl).1
      refine gs_bring66 (M0 := M) (fa := fa) (n := x.2.length) (v := v) (h := h) b1 (by omega) (by omega) (by omega) (by omega) hkp (fun j hj => ?_) hfa ?_ (p - k) p M fa (by omega) (Nat.le_refl _) b3 (fun _ _ => rfl) (fun j => by rw [if_neg (by omega)])
      · have hj2 : y[j]? = some (y[j]'(by omega)) := List.getElem?_eq_getElem (by omega)
        obtain ⟨e, e1, e2, e3, e4, e5⟩ := b5 j _ hj2
        by_cases hjk : k ≤ j
        · exact ⟨e, _, e1, by omega, e4 hjk⟩
        · obtain ⟨kn, on, e6, _⟩ := e5 (by omega)
          exact ⟨e, _, e1, by omega, e6⟩
      · intro M' fr c1 c2 c3
        obtain ⟨a', f1, f2, f3, f4, _⟩ := b5 p l hl
        have ea : a' = a := Option.some.inj (f1.symm.trans hfa)
        subst ea
        have g1 : M' a' = some (.inr (5, lcell l)) := (c2 a' (by omega)).trans (f4 hkp)
        have hwl := hwy p l hl
        refine ⟨_, g1, gq_lvars g1 hwl ?_⟩
        obtain ⟨y', y1, y2, y3⟩ := rot hkp hl
        have eub : ub y' k = ub y k := ub_take y2 (Nat.le_refl _)
        have y3k : y'[k]? = some l := by rw [y3 k, if_pos rfl]
        obtain ⟨m1, m2⟩ := hm.lit l
        have frk : fr k = some a' := by rw [c3 k, if_pos rfl, hfa]
        have hlen' : y'.length = y.length := y1.length_eq
        -- the index in y of what stands at j in y'
        have src : ∀ j : Nat, j < y.length → ∃ i, i < y.length ∧ y'[j]? = y[i]? ∧ fr j = fa i ∧ (k ≤ j → k ≤ i) ∧ (j < k → i = j) ∧ (j = k → i = p) ∧ (j ≠ k → i ≠ p) ∧ (i = if j = k then p else if k < j ∧ j ≤ p then j - 1 else j) := by
          intro j hj
          by_cases h1 : j = k
          · exact ⟨p, hpl, by rw [y3, if_pos h1, hl], by rw [c3, if_pos h1], fun _ => hkp, fun _ => by omega, fun _ => rfl, fun z => absurd h1 z, by rw [if_pos h1]⟩
          · by_cases h2 : k < j ∧ j ≤ p
            · exact ⟨j - 1, by omega, by rw [y3, if_neg h1, if_pos h2], by rw [c3, if_neg h1, if_pos h2], fun _ => by omega, fun _ => by omega, fun z => absurd z h1, fun _ => by omega, by rw [if_neg h1, if_pos h2]⟩
            · exact ⟨j, hj, by rw [y3, if_neg h1, if_neg h2], by rw [c3, if_neg h1, if_neg h2], fun z => z, fun _ => rfl, fun z => absurd z h1, fun _ => by omega, by rw [if_neg h1, if_neg h2]⟩
        have key : ∀ kn on : Int32, (kn = 0 → l.1 = 0) → (kn ≠ 0 → lB (ub y k) l) → (on ≠ 0 → lB (ub y k) x.1) → gX5_plan N0 K (d + 5) a' (nI U) (gm_set (gm_set M' a' (.inr (5, (lcell l).set 5 (.int kn)))) a' (.inr (5, ((lcell l).set 5 (.int kn)).set 6 (.int on)))) sz (fun _ M26 z26 d26 => hX7_plan_58 N0 K (d + 5) r (nI U &&& ((nI (vm l.2.2) &&& nI U) ^^^ (-1 : Int32))) (nI (vm x.1.2.2)) (nI k + (1 : Int32)) M26 z26 (((sl + 0) + 0) + d26) Q) := by
          intro kn on k1 k2 k3
          refine gq_lplan (u := ub y k) (kn := kn) (on := on) (x := l) (d := d + 2) (by omega) gm_set_eq hwl hm ?_
          rw [gs_set, gs_set, m1, nI_1]
          have eu : ub y' (k + 1) = uL (ub y k) l := by rw [ub_succ y3k, eub]
          refine ih (k + 1) _ _ y' fr (by omega) (by rw [eu]; exact m2) ⟨⟨a1, a2, a3, a4⟩, ?_, ?_, ?_, y1.trans b4, fun j l2 hl2 => ?_, fun i j e hi2 hj2 he1 he2 => ?_, fun a ha => ?_⟩
          · rw [gm_set_ne (by omega), c2 r (by omega)]
            exact b1
          · rw [gm_set_ne (by omega), c2 h (by omega)]
            exact b2
          · rw [gm_set_ne (by omega)]
            exact c1
          · have hj := (List.getElem?_eq_some_iff.mp hl2).1
            rw [hlen'] at hj
            obtain ⟨i, i1, i2, i3, i4, i5, i6, i7, _⟩ := src j hj
            have hyi : y[i]? = some l2 := by rw [← i2, hl2]
            obtain ⟨e, e1, e2, e3, e4, e5⟩ := b5 i l2 hyi
            refine ⟨e, by rw [i3, e1], e2, e3, fun hkj => ?_, fun hjk => ?_⟩
            · have hne : e ≠ a' := by
                intro z
                rw [z] at e1
                have := b6 i p a' i1 hpl e1 hfa
                exact i7 (by omega) this
              rw [gm_set_ne hne, c2 e (by omega)]
              exact e4 (i4 (by omega))
            · by_cases hjk2 : j = k
              · subst hjk2
                have := i6 rfl
                subst this
                have : l2 = l := Option.some.inj (hyi.symm.trans hl)
                subst this
                have : e = a' := Option.some.inj (e1.symm.trans hfa)
                subst this
                rw [eub]
                exact ⟨kn, on, gm_set_eq, k1, k2, k3⟩
              · have := i5 (by omega)
                subst this
                have hne : e ≠ a' := by
                  intro z
                  rw [z] at e1
                  have := b6 i p a' i1 hpl e1 hfa
                  exact i7 (by omega) this
                rw [gm_set_ne hne, c2 e (by omega), ub_take y2 (by omega)]
                exact e5 (by omega)
          · rw [hlen'] at hi2 hj2
            obtain ⟨i', q1, _, q3, _, _, _, _, q8⟩ := src i hi2
            obtain ⟨j', p1, _, p3, _, _, _, _, p8⟩ := src j hj2
            have := b6 i' j' e q1 p1 (by rw [← q3]; exact he1) (by rw [← p3]; exact he2)
            rw [q8, p8] at this
            by_cases z1 : i = k
            · rw [if_pos z1] at this
              by_cases z2 : j = k
              · omega
              · rw [if_neg z2] at this
                split at this <;> omega
            · rw [if_neg z1] at this
              by_cases z2 : j = k
              · rw [if_pos z2] at this
                split at this <;> omega
              · rw [if_neg z2] at this
                split at this <;> split at this <;> omega
          · rw [gm_set_ne (by omega), c2 a (by omega)]
            exact b7 a ha
        by_cases hb : lB (ub y k) l
        · rw [if_pos ((lB_iff hm).mpr hb)]
          refine ⟨_, g1, by omega, by show (5 : Nat) < 7; decide, ?_⟩
          by_cases hb2 : lB (ub y k) x.1
          · rw [if_pos ((lB_iff hm).mpr hb2)]
            exact ⟨by show (6 : Nat) < 7; decide, key 1 1 (fun z => absurd z (by decide)) (fun _ => hb) (fun _ => hb2)⟩
          · rw [if_neg (fun z => hb2 ((lB_iff hm).mp z))]
            exact ⟨by show (6 : Nat) < 7; decide, key 1 0 (fun z => absurd z (by decide)) (fun _ => hb) (fun z => absurd rfl z)⟩
        · have hk0 : l.1 = 0 := hgl.resolve_left hb
          rw [if_neg (fun z => hb ((lB_iff hm).mp z))]
          refine ⟨_, g1, by omega, by show (5 : Nat) < 7; decide, ?_⟩
          by_cases hb2 : lB (ub y k) x.1
          · rw [if_pos ((lB_iff hm).mpr hb2)]
            exact ⟨by show (6 : Nat) < 7; decide, key 0 1 (fun _ => hk0) (fun z => absurd rfl z) (fun _ => hb2)⟩
          · rw [if_neg (fun z => hb2 ((lB_iff hm).mp z))]
            exact ⟨by show (6 : Nat) < 7; decide, key 0 0 (fun _ => hk0) (fun z => absurd rfl z) (fun z => absurd rfl z)⟩
theorem flM_of {F : Nat} {fl : Int32 → Bool} (hF : F < 64) (h : ∀ k, k < 6 → (F.testBit k = true ↔ fl (nI (85 + k)) = true)) : flM (nI F) fl := by
  intro k hk
  rw [n_1, nI_shl 1 (by omega), Nat.one_mul, bit_one F hF k hk]
  have := h k hk
  cases e1 : F.testBit k <;> cases e2 : fl (nI (85 + k)) <;> simp_all
/-- a planned rule whose cells lie between lo and hi -/
def pRl (M : gm_H) (lo hi a : Nat) (x : Rl) (fl : Int32 → Bool) : Prop := ∃ h b fa v kh oh, (lo ≤ a ∧ lo ≤ h ∧ lo ≤ b ∧ a < hi ∧ h < hi ∧ b < hi) ∧ M a = some (.inr (7, [.ref h, .ref b, .int (nI x.2.length), .int v])) ∧ flM v fl ∧ M h = some (.inr (5, plc (fun _ => false) kh oh x.1)) ∧ M b = some (larr fa) ∧ ∀ (j : Nat) l, x.2[j]? = some l → ∃ p kn on, fa j = some p ∧ lo ≤ p ∧ p < hi ∧ M p = some (.inr (5, plc (ub x.2 j) kn on l)) ∧ (kn = 0 → l.1 = 0) ∧ (kn ≠ 0 → lB (ub x.2 j) l) ∧ (on ≠ 0 → lB (ub x.2 j) x.1)
theorem pRl.mono {M M' : gm_H} {lo hi a : Nat} {x : Rl} {fl : Int32 → Bool} (hx : pRl M lo hi a x fl) (hg : ∀ a, lo ≤ a → a < hi → M' a = M a) : pRl M' lo hi a x fl := by
  obtain ⟨h, b, fa, v, kh, oh, ⟨a1, a2, a3, a4, a5, a6⟩, b1, b2, b3, b4, b5⟩ := hx
  refine ⟨h, b, fa, v, kh, oh, ⟨a1, a2, a3, a4, a5, a6⟩, (hg _ a1 a4).trans b1, b2, (hg _ a2 a5).trans b3, (hg _ a3 a6).trans b4, fun j l hl => ?_⟩
  obtain ⟨p, kn, on, p1, p2, p3, p4, p5⟩ := b5 j l hl
  exact ⟨p, kn, on, p1, p2, p3, (hg _ p2 p3).trans p4, p5⟩
theorem pRl.rule {G : gm_H} {C lo hi a : Nat} {x : Rl} {fl : Int32 → Bool} (hx : pRl G lo hi a x fl) (hC : C + 34 ≤ lo) : pRule G C a x fl := by
  obtain ⟨h, b, fa, v, kh, oh, ⟨a1, a2, a3, a4, a5, a6⟩, b1, b2, b3, b4, b5⟩ := hx
  refine ⟨h, b, fa, v, kh, oh, ⟨by omega, by omega, by omega⟩, b1, b2, b3, b4, fun j l hl => ?_⟩
  obtain ⟨p, kn, on, p1, p2, p3, p4, p5⟩ := b5 j l hl
  exact ⟨p, kn, on, p1, by omega, p4, p5⟩
theorem gs_plan24 {N0 : Nat} {K : Nat → Nat} {d lo hi r h b : Nat} {x : Rl} {M0 : gm_H} {W : Int32} {fa : Nat → Option Nat} {sz sl : Nat} {Q : Unit → gm_H → Nat → Nat → Prop} (hN : N0 ≤ lo) (hw : wfR x) (q : ∀ M F, F < 64 → (∀ k, k < 6 → (F.testBit k = true ↔ rF x (nI (85 + k)))) → plI M0 M lo hi r h b (nI F) x x.2 fa 0 → hX7_plan_58 N0 K (d + 5) r 63 W 0 M sz sl Q) : ∀ (m i F : Nat) (M : gm_H), i + m = x.2.length → F < 64 → (∀ k, k < 6 → (F.testBit k = true ↔ inC x.1 (nI (85 + k)) ∨ ∃ (j : Nat) (l : Lt), j < i ∧ x.2[j]? = some l ∧ inC l (nI (85 + k)))) → plI M0 M lo hi r h b (nI F) x x.2 fa 0 → hX7_plan_24 N0 K (d + 5) r 63 W (nI i) M sz sl Q := by
  have hx5 := hw.2.1
  intro m
  induction m with
  | zero =>
    intro i F M hi hF hb hI
    refine TX7_plan_24 ⟨_, hI.2.1, nI x.2.length, rfl, ?_⟩
    rw [if_pos (nI_le (by omega) (by omega))]
    refine q M F hF (fun k hk => (hb k hk).trans ?_) hI
    constructor
    · rintro (z | ⟨j, l, _, z1, z2⟩)
      · exact Or.inl z
      · exact Or.inr ⟨l, List.mem_of_getElem? z1, z2⟩
    · rintro (z | ⟨l, z1, z2⟩)
      · exact Or.inl z
      · obtain ⟨j, hj⟩ := List.getElem?_of_mem z1
        have := (List.getElem?_eq_some_iff.mp hj).1
        exact Or.inr ⟨j, l, by omega, hj, z2⟩
  | succ m ih =>
    intro i F M hi hF hb hI
    obtain ⟨⟨a1, a2, a3, a4⟩, b1, b2, b3, b4, b5, b6, b7⟩ := hI
    have hl : x.2[i]? = some (x.2[i]'(by omega)) := List.getElem?_eq_getElem (by omega)
    obtain ⟨e, e1, e2, e3, e4, _⟩ := b5 i _ hl
    have hwl := hw.2.2 _ (List.mem_of_getElem? hl)
    refine TX7_plan_24 ⟨_, b1, nI x.2.length, rfl, ?_⟩
    rw [if_neg (nI_ge (by omega) (by omega))]
    refine ⟨nI F, rfl, b, rfl, 5, fa, b3, by decide, i, rfl, by omega, e, e1, _, e4 (by omega), ?_⟩
    refine gq_lparts (d := d + 2) (e4 (by omega)) hwl ⟨_, b1, by omega, by show (3 : Nat) < 4; decide, ?_⟩
    rw [nI_1, nI_or]
    refine ih (i + 1) (F ||| pv (x.2[i]'(by omega)).2.2) _ (by omega) (or_lt64 hF (pv_lt (wfL_len hwl).2)) (fun k hk => ?_) ⟨⟨a1, a2, a3, a4⟩, gm_set_eq, ?_, ?_, b4, fun j l hl2 => ?_, b6, fun a ha => ?_⟩
    · rw [Nat.testBit_or, Bool.or_eq_true, hb k hk, pv_bit hwl hk]
      constructor
      · rintro ((z | ⟨j, l, z1, z2, z3⟩) | z)
        · exact Or.inl z
        · exact Or.inr ⟨j, l, by omega, z2, z3⟩
        · exact Or.inr ⟨i, _, by omega, hl, z⟩
      · rintro (z | ⟨j, l, z1, z2, z3⟩)
        · exact Or.inl (Or.inl z)
        · by_cases hji : j = i
          · subst hji
            rw [hl] at z2
            rw [← Option.some.inj z2] at z3
            exact Or.inr z3
          · exact Or.inl (Or.inr ⟨j, l, by omega, z2, z3⟩)
    · rw [gm_set_ne (by omega)]
      exact b2
    · rw [gm_set_ne (by omega)]
      exact b3
    · obtain ⟨e, e1, e2, e3, e4, _⟩ := b5 j l hl2
      refine ⟨e, e1, e2, e3, fun _ => ?_, fun z => by omega⟩
      rw [gm_set_ne (by omega)]
      exact e4 (by omega)
    · rw [gm_set_ne (by omega)]
      exact b7 a ha
theorem gq_rplan {N0 : Nat} {K : Nat → Nat} {d lo hi r : Nat} {x : Rl} {M : gm_H} {sz : Nat} {Q : Unit → gm_H → Nat → Nat → Prop} (hN : N0 ≤ lo) (hx : cRule M lo hi r x) (hw : wfR x) (h3 : ¬ flt3 x) (q : ∀ M' y, y.Perm x.2 → pRl M' lo hi r (x.1, y) (flOf x) → (∀ a, ¬ (lo ≤ a ∧ a < hi) → M' a = M a) → Q () M' sz 0) : gX7_plan N0 K (d + 6) r M sz Q := by
  obtain ⟨h, b, fa, e1, e2, e3, e4, e5, e6, e7, e8, e9⟩ := hx
  have hwh : wfL x.1 := Or.inl ⟨Or.inl hw.1.1, hw.1.2⟩
  have hx5 := hw.2.1
  refine gX7_plan.of (TX7_plan_0 ⟨_, e6, h, rfl, _, e5, ?_⟩)
  refine gq_lvars (d := d + 2) e5 hwh ⟨_, e6, h, rfl, _, e5, ?_⟩
  refine gq_lparts (d := d + 2) e5 hwh ⟨_, e6, by omega, by show (3 : Nat) < 4; decide, ?_⟩
  rw [← nI_0]
  refine gs_plan24 (d := d) (lo := lo) (hi := hi) (h := h) (b := b) (x := x) (M0 := M) (fa := fa) hN hw ?_ x.2.length 0 (pv x.1.2.2) _ (by omega) (pv_lt (wfL_len hwh).2) (fun k hk => ?_) ⟨⟨e1, e2, e3, e4⟩, gm_set_eq, ?_, ?_, List.Perm.refl _, fun j l hl => ?_, e9, fun a ha => ?_⟩
  · intro M1 F hF hb hI
    rw [show (63 : Int32) = nI 63 from rfl, ← nI_0]
    refine gs_plan58 (d := d) (M0 := M) hN hw (flt3_safe h3) ?_ x.2.length 0 63 M1 x.2 fa (by omega) ⟨by decide, fun k hk => ?_⟩ hI
    · intro M2 y fa2 ⟨⟨a1, a2, a3, a4⟩, b1, b2, b3, b4, b5, b6, b7⟩
      have hlen : y.length = x.2.length := b4.length_eq
      refine q _ y b4 ⟨h, b, fa2, nI F, 0, 0, ⟨by omega, by omega, by omega, by omega, by omega, by omega⟩, ?_, flM_of hF (fun k hk => (hb k hk).trans (flOf_iff x _).symm), gm_set_eq, ?_, fun j l hl => ?_⟩ (fun a ha => ?_)
      · rw [gm_set_ne (by omega)]
        show M2 r = some (.inr (7, [.ref h, .ref b, .int (nI y.length), .int (nI F)]))
        rw [hlen]
        exact b1
      · rw [gm_set_ne (by omega)]
        exact b3
      · obtain ⟨e, z1, z2, z3, _, z5⟩ := b5 j l hl
        have hj := (List.getElem?_eq_some_iff.mp hl).1
        obtain ⟨kn, on, w1, w2, w3, w4⟩ := z5 (by
          have : j < y.length := hj
          omega)
        exact ⟨e, kn, on, z1, by omega, z3, (gm_set_ne (by omega)).trans w1, w2, w3, w4⟩
      · rw [gm_set_ne (by omega)]
        exact b7 a ha
    · have : ∀ k, k < 6 → Nat.testBit 63 k = true := by decide
      rw [this k hk]
      rfl
  · rw [pv_bit hwh hk]
    exact ⟨Or.inl, fun z => z.resolve_right (fun ⟨j, _, z, _⟩ => by omega)⟩
  · rw [gm_set_ne (by omega)]
    exact e5
  · rw [gm_set_ne (by omega)]
    exact e7
  · obtain ⟨a, z1, z2, z3, z4⟩ := e8 j l hl
    exact ⟨a, z1, by omega, z3, fun _ => (gm_set_ne (by omega)).trans z4, fun z => by omega⟩
  · rw [gm_set_ne (by omega)]
