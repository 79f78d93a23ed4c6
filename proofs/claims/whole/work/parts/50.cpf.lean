/-! the class's reader: the sheet -/
abbrev rarr (fa : Nat → Option Nat) : gm_E := .inl (.object "RuleArena$Rule", 24, .inr (.inr (.inr (.inr fa))))
abbrev iarr (n : Nat) (f : Nat → Int32) : gm_E := .inl (.int, n, .inl f)
def qcell (q n : Nat) : List Value := [.ref (q + 1), .int (nI n), .ref (q + 2), .ref (q + 3), .ref (q + 4)]
theorem kq_init8 {N0 : Nat} {K : Nat → Nat} {d C z : Nat} {s : cS} {G : gm_H} {Q : Unit → gm_H → Nat → Nat → Prop} (hN : N0 ≤ C) (hz : C + 34 ≤ z) (hbd : gm_bd G z) (q : ∀ G', gx G z G' (z + 5) → G' z = some (.inr (8, qcell z 0)) → G' (z + 1) = some (rarr (fun _ => none)) → G' (z + 2) = some (iarr 24 (fun _ => 0)) → G' (z + 3) = some (iarr 24 (fun _ => 0)) → G' (z + 4) = some (iarr 24 (fun _ => 0)) → Q () G' (z + 5) 96) : kX8_init_gz N0 K (d + 2) C z s (gm_new G z (.inr (8, [.null, .int 0, .null, .null, .null]))) (z + 1) Q := by
  have b1 := hbd.new (x := (.inr (8, [.null, .int 0, .null, .null, .null]) : gm_E))
  refine gC.mono (gX8_init.of (Q := fun _ M' sz' dd => M' = bM C (cH C s) (gm_set (gm_new (gm_new (gm_new (gm_new (gm_new G z (.inr (8, [.null, .int 0, .null, .null, .null]))) (z + 1) (rarr (fun _ => none))) (z + 2) (iarr 24 (fun _ => 0))) (z + 3) (iarr 24 (fun _ => 0))) (z + 4) (iarr 24 (fun _ => 0))) z (.inr (8, qcell z 0))) ∧ sz' = z + 5 ∧ dd = 96) (TX8_init_0 ⟨by omega, kb_bd b1 (by omega), [.null, .int 0, .null, .null, .null], ?_, by omega, Nat.le_of_ble_eq_true rfl, Nat.le_of_ble_eq_true rfl, Nat.le_of_ble_eq_true rfl, Nat.le_of_ble_eq_true rfl, Nat.le_of_ble_eq_true rfl, ?_⟩)) ?_
  · rw [cG_new (by omega)]
    exact cG_get hz ((gm_set_ne (by omega)).trans gm_set_eq)
  · refine ⟨?_, rfl, rfl⟩
    rw [gs_set]
    funext a
    by_cases ha : C ≤ a ∧ a < C + 34
    · have e0 : ∀ {x : Nat} {y : gm_E} {M : gm_H}, C + 34 ≤ x → gm_set M x y a = M a := fun h => gm_set_ne (by omega)
      unfold gm_new
      rw [e0 (by omega), e0 (by omega), e0 (by omega), e0 (by omega), e0 (by omega), e0 (by omega), e0 (by omega), e0 (by omega)]
      unfold bM
      rw [if_pos (show C ≤ a ∧ a < C + (cH C s).length from ha), if_pos (show C ≤ a ∧ a < C + (cH C s).length from ha)]
    · rw [bM_out (show ¬ (C ≤ a ∧ a < C + (cH C s).length) from ha)]
      unfold gm_new gm_set
      by_cases h0 : a = z
      · rw [if_pos h0, if_pos h0]
        rfl
      · rw [if_neg h0, if_neg h0]
        by_cases h4 : a = z + 4
        · rw [if_pos (show a = z + 1 + 1 + 1 + 1 from h4), if_pos h4, if_neg h0]
        · rw [if_neg (show ¬ a = z + 1 + 1 + 1 + 1 from h4), if_neg h4, if_neg h0]
          by_cases h3 : a = z + 3
          · rw [if_pos (show a = z + 1 + 1 + 1 from h3), if_pos h3, if_neg h0]
          · rw [if_neg (show ¬ a = z + 1 + 1 + 1 from h3), if_neg h3, if_neg h0]
            by_cases h2 : a = z + 2
            · rw [if_pos (show a = z + 1 + 1 from h2), if_pos h2, if_neg h0]
            · rw [if_neg (show ¬ a = z + 1 + 1 from h2), if_neg h2, if_neg h0]
              by_cases h1 : a = z + 1
              · rw [if_pos h1, if_pos h1]
              · rw [if_neg h1, if_neg h1, bM_out (show ¬ (C ≤ a ∧ a < C + (cH C s).length) from ha)]
  · intro r M' sz' dd h
    obtain ⟨rfl, rfl, rfl⟩ := h
    have g1 := ((((gx.new (x := (.inr (8, [.null, .int 0, .null, .null, .null]) : gm_E)) hbd).trans (gx.new (x := rarr (fun _ => none)) b1)).trans (gx.new (x := iarr 24 (fun _ => 0)) b1.new)).trans (gx.new (x := iarr 24 (fun _ => 0)) b1.new.new)).trans (gx.new (x := iarr 24 (fun _ => 0)) b1.new.new.new)
    refine ⟨s, _, rfl, rfl, q _ (g1.set (Nat.le_refl _) (y := .inr (8, [.null, .int 0, .null, .null, .null])) ?_) gm_set_eq ?_ ?_ ?_ ?_⟩
    · rw [gm_new, gm_set_ne (by omega), gm_new, gm_set_ne (by omega), gm_new, gm_set_ne (by omega), gm_new, gm_set_ne (by omega), gm_new, gm_set_eq]
    · rw [gm_set_ne (by omega), gm_new, gm_set_ne (by omega), gm_new, gm_set_ne (by omega), gm_new, gm_set_ne (by omega), gm_new, gm_set_eq]
    · rw [gm_set_ne (by omega), gm_new, gm_set_ne (by omega), gm_new, gm_set_ne (by omega), gm_new, gm_set_eq]
    · rw [gm_set_ne (by omega), gm_new, gm_set_ne (by omega), gm_new, gm_set_eq]
    · rw [gm_set_ne (by omega), gm_new, gm_set_eq]
theorem kq_append8 {N0 : Nat} {K : Nat → Nat} {d C r p n sz : Nat} {s : cS} {G : gm_H} {fa : Nat → Option Nat} {fs : List Value} {Q : Unit → gm_H → Prop} (hN : N0 ≤ C) (hr : C + 34 ≤ r) (hp : C + 34 ≤ p) (hG : G r = some (.inr (8, qcell r n))) (hB : G (r + 1) = some (rarr fa)) (hP : G p = some (.inr (7, fs))) (hn : n < 24) (q : Q () (gm_set (gm_set G (r + 1) (rarr (va_up fa n (some p)))) r (.inr (8, qcell r (n + 1))))) : kX8_append_g N0 K (d + 1) C r p s G sz Q := by
  refine gC.mono (gX8_append.of (Q := fun _ M' sz' dd => M' = bM C (cH C s) (gm_set (gm_set G (r + 1) (rarr (va_up fa n (some p)))) r (.inr (8, qcell r (n + 1)))) ∧ sz' = sz ∧ dd = 0) (TX8_append_0 ⟨_, cG_get hr hG, nI n, rfl, ?_⟩)) ?_
  · rw [if_neg (by rw [n_24]; exact nI_ge (by omega) (by decide))]
    refine ⟨r + 1, rfl, 24, fa, cG_get (by omega) hB, by decide, by omega, n, rfl, hn, fs, cG_get hp hP, by omega, ?_, rfl, rfl⟩
    rw [cG_set (by omega), cG_set hr, nI_1]
    rfl
  · intro r M' sz' dd h
    obtain ⟨rfl, rfl, rfl⟩ := h
    exact ⟨s, _, rfl, rfl, rfl, rfl, q⟩
/-- the rules as the class has read them: rule r in cells from iv r on, below iv (r + 1) -/
def cRs (G : gm_H) (q hi : Nat) (R : List Rl) (fa : Nat → Option Nat) (iv : Nat → Nat) : Prop := q + 5 ≤ iv 0 ∧ (∀ r, r < R.length → iv r ≤ iv (r + 1)) ∧ iv R.length ≤ hi ∧ ∀ r x, R[r]? = some x → ∃ ad, fa r = some ad ∧ cRule G (iv r) (iv (r + 1)) ad x
theorem iv_le {iv : Nat → Nat} {n : Nat} (h : ∀ r, r < n → iv r ≤ iv (r + 1)) : ∀ j, j ≤ n → ∀ i, i ≤ j → iv i ≤ iv j := by
  intro j
  induction j with
  | zero =>
    intro _ i hi
    rw [show i = 0 by omega]
    exact Nat.le_refl _
  | succ j ih =>
    intro hj i hi
    by_cases e : i = j + 1
    · rw [e]
      exact Nat.le_refl _
    · exact Nat.le_trans (ih (by omega) i (by omega)) (h j (by omega))
theorem cRule.lt {G : gm_H} {lo hi r : Nat} {x : Rl} (h : cRule G lo hi r x) : lo < r ∧ r < hi ∧ ∃ fs, G r = some (.inr (7, fs)) := by
  obtain ⟨h1, b, fa, e1, e2, e3, e4, e5, e6, e7, e8⟩ := h
  exact ⟨by omega, by omega, _, e6⟩
theorem cq_read_28 {N0 : Nat} {K : Nat → Nat} {d C : Nat} {T : List Int32} {z : Nat} {s0 : cS} {G0 : gm_H} (hN : N0 ≤ C) (hK : K 0 < C) (hz : C + 34 ≤ z) (hG0 : G0 (K 0) = some (.inl (gm_scr, 8, .inl c_kt))) : ∀ (n : Nat) (acc : List Rl) (l : List Int32) (s : cS) (G : gm_H) (sz sl : Nat) (fa : Nat → Option Nat) (iv : Nat → Nat) (Q : Option Nat → cS → gm_H → Nat → Nat → Prop), n + acc.length = 24 → gm_bd G sz → z + 5 ≤ sz → (∀ q, q < z → G q = G0 q) → G z = some (.inr (8, qcell z acc.length)) → G (z + 1) = some (rarr fa) → G (z + 2) = some (iarr 24 (fun _ => 0)) → G (z + 3) = some (iarr 24 (fun _ => 0)) → G (z + 4) = some (iarr 24 (fun _ => 0)) → cRs G z sz acc fa iv → fPa s0 s → cL C s T l → (∀ s' l' G' sz' sl', fPa s0 s' → cL C s' T l' → (∀ q, q < z → G' q = G0 q) → gm_bd G' sz' → sz ≤ sz' → sz' ≤ sz + 13 * n → sl' ≤ sl + 86 * n → (∀ R, ps_all n acc l = (some R, l') → (∃ fa' iv', G' z = some (.inr (8, qcell z R.length)) ∧ G' (z + 1) = some (rarr fa') ∧ G' (z + 2) = some (iarr 24 (fun _ => 0)) ∧ G' (z + 3) = some (iarr 24 (fun _ => 0)) ∧ G' (z + 4) = some (iarr 24 (fun _ => 0)) ∧ cRs G' z sz' R fa' iv') → Q (some z) s' G' sz' sl') ∧ (ps_all n acc l = (none, l') → Q none s' G' sz' sl')) → hX6_read_28 N0 K (d + 6) C (nI T.length) z (nI acc.length) s G sz sl Q := by
  intro n
  induction n with
  | zero =>
    intro acc l s G sz sl fa iv Q hn hbd hzs hlow h0 h1 h2 h3 h4 hR hf hr q
    refine TX6_read_28 hN ?_
    rw [if_pos (by rw [n_24]; exact nI_le (by omega) (by omega))]
    exact (q s l G sz sl hf hr hlow hbd (Nat.le_refl _) (by omega) (by omega)).2 rfl
  | succ n ih =>
    intro acc l s G sz sl fa iv Q hn hbd hzs hlow h0 h1 h2 h3 h4 hR hf hr q
    refine TX6_read_28 hN ?_
    rw [if_neg (by rw [n_24]; exact nI_ge (by omega) (by decide))]
    refine cq_readRule hN (by omega) hbd hK ((hlow _ (by omega)).trans hG0) hr ?_
    intro s2 l2 f2 r2
    refine ⟨fun x ex a G2 z2 d2 g2 hz2 hd2 hx => Or.inr ⟨a, rfl, ?_⟩, fun ex G2 z2 d2 g2 hz2 hd2 => Or.inl ⟨rfl, ?_⟩⟩
    · have e0 : G2 z = some (.inr (8, qcell z acc.length)) := (g2.2.2 _ (by omega)).trans h0
      have e1 : G2 (z + 1) = some (rarr fa) := (g2.2.2 _ (by omega)).trans h1
      have e2 : G2 (z + 2) = some (iarr 24 (fun _ => 0)) := (g2.2.2 _ (by omega)).trans h2
      have e3 : G2 (z + 3) = some (iarr 24 (fun _ => 0)) := (g2.2.2 _ (by omega)).trans h3
      have e4 : G2 (z + 4) = some (iarr 24 (fun _ => 0)) := (g2.2.2 _ (by omega)).trans h4
      refine ⟨_, e0, hz, ?_⟩
      obtain ⟨xa, xb, fs, xc⟩ := hx.lt
      have hl : (acc ++ [x]).length = acc.length + 1 := by simp
      have k0 : gm_set (gm_set G2 (z + 1) (rarr (va_up fa acc.length (some a)))) z (.inr (8, qcell z (acc.length + 1))) z = some (.inr (8, qcell z (acc ++ [x]).length)) := by rw [gm_set_eq, hl]
      have kn : ∀ y, y ≠ z → y ≠ z + 1 → gm_set (gm_set G2 (z + 1) (rarr (va_up fa acc.length (some a)))) z (.inr (8, qcell z (acc.length + 1))) y = G2 y := fun y y1 y2 => (gm_set_ne y1).trans (gm_set_ne y2)
      have k1 : gm_set (gm_set G2 (z + 1) (rarr (va_up fa acc.length (some a)))) z (.inr (8, qcell z (acc.length + 1))) (z + 1) = some (rarr (va_up fa acc.length (some a))) := (gm_set_ne (by omega)).trans gm_set_eq
      have kb : gm_bd (gm_set (gm_set G2 (z + 1) (rarr (va_up fa acc.length (some a)))) z (.inr (8, qcell z (acc.length + 1)))) z2 := (g2.2.1.set e1).set ((gm_set_ne (by omega)).trans e0)
      have kl : ∀ y, y < z → gm_set (gm_set G2 (z + 1) (rarr (va_up fa acc.length (some a)))) z (.inr (8, qcell z (acc.length + 1))) y = G0 y := by
        intro y hy
        rw [kn y (by omega) (by omega), g2.2.2 y (by omega)]
        exact hlow y hy
      obtain ⟨c1, c2, c3, c4⟩ := hR
      have kR : cRs (gm_set (gm_set G2 (z + 1) (rarr (va_up fa acc.length (some a)))) z (.inr (8, qcell z (acc.length + 1)))) z z2 (acc ++ [x]) (va_up fa acc.length (some a)) (fun r => if r = acc.length then sz else if r = acc.length + 1 then z2 else iv r) := by
        have hiv : ∀ r, r < acc.length → (if r + 1 = acc.length then sz else if r + 1 = acc.length + 1 then z2 else iv (r + 1)) ≥ iv (r + 1) ∧ (r + 1 < acc.length → (if r + 1 = acc.length then sz else if r + 1 = acc.length + 1 then z2 else iv (r + 1)) = iv (r + 1)) := by
          intro r hr
          by_cases er : r + 1 = acc.length
          · rw [if_pos er, er]
            exact ⟨c3, fun z => by omega⟩
          · rw [if_neg er, if_neg (by omega)]
            exact ⟨Nat.le_refl _, fun _ => rfl⟩
        refine ⟨?_, ?_, ?_, ?_⟩
        · show z + 5 ≤ (if 0 = acc.length then sz else if 0 = acc.length + 1 then z2 else iv 0)
          by_cases ez : 0 = acc.length
          · rw [if_pos ez]; exact hzs
          · rw [if_neg ez, if_neg (by omega)]; exact c1
        · intro r hr
          rw [hl] at hr
          show (if r = acc.length then sz else if r = acc.length + 1 then z2 else iv r) ≤ (if r + 1 = acc.length then sz else if r + 1 = acc.length + 1 then z2 else iv (r + 1))
          by_cases er : r = acc.length
          · rw [if_pos er, if_neg (by omega), if_pos (by omega)]
            exact g2.1
          · rw [if_neg er, if_neg (by omega)]
            exact Nat.le_trans (c2 r (by omega)) (hiv r (by omega)).1
        · show (if (acc ++ [x]).length = acc.length then sz else if (acc ++ [x]).length = acc.length + 1 then z2 else iv (acc ++ [x]).length) ≤ z2
          rw [if_neg (by omega), if_pos hl]
          exact Nat.le_refl _
        · intro r y hy
          show ∃ ad, va_up fa acc.length (some a) r = some ad ∧ cRule _ (if r = acc.length then sz else if r = acc.length + 1 then z2 else iv r) (if r + 1 = acc.length then sz else if r + 1 = acc.length + 1 then z2 else iv (r + 1)) ad y
          by_cases er : r < acc.length
          · rw [List.getElem?_append_left er] at hy
            obtain ⟨ad, d1, d2⟩ := c4 r y hy
            refine ⟨ad, (vu_ne (by omega)).trans d1, ?_⟩
            rw [if_neg (by omega), if_neg (by omega)]
            have le1 := iv_le c2 acc.length (Nat.le_refl _) (r + 1) (by omega)
            have le0 := iv_le c2 r (by omega) 0 (by omega)
            have d3 : cRule (gm_set (gm_set G2 (z + 1) (rarr (va_up fa acc.length (some a)))) z (.inr (8, qcell z (acc.length + 1)))) (iv r) (iv (r + 1)) ad y := by
              refine d2.mono (fun q hq1 hq2 => ?_)
              rw [kn q (by omega) (by omega), g2.2.2 q (by omega)]
            by_cases e : r + 1 = acc.length
            · rw [if_pos e]
              obtain ⟨p1, b, fb, b1, b2, b3, b4, b5, b6, b7, b8⟩ := d3
              exact ⟨p1, b, fb, b1, b2, b3, by omega, b5, b6, b7, b8.mono (by omega) (fun _ _ _ => rfl)⟩
            · rw [if_neg e, if_neg (by omega)]
              exact d3
          · have := (List.getElem?_eq_some_iff.mp hy).1
            have e : r = acc.length := by omega
            subst e
            simp at hy
            subst hy
            refine ⟨a, vu_eq, ?_⟩
            rw [if_pos rfl, if_neg (by omega), if_pos rfl]
            exact hx.mono (fun q hq1 hq2 => kn q (by omega) (by omega))
      refine kq_append8 hN hz (by omega) e0 e1 xc (by omega) ?_
      obtain ⟨k, m1, m2, m3, m4, m5⟩ := r2.get
      rw [m1]
      have hT : T.length ≤ 240 := r2.2.1
      by_cases hlen : l2.length = 0
      · rw [if_pos (by rw [show k = T.length by omega])]
        have eq : ps_all (n + 1) acc l = (some (acc ++ [x]), l2) := by
          rw [ps_all, ex]
          simp only
          rw [if_pos hlen]
        exact (q s2 l2 _ _ _ (hf.trans f2) r2 kl kb g2.1 (by omega) (by omega)).1 _ eq ⟨_, _, k0, k1, (kn _ (by omega) (by omega)).trans e2, (kn _ (by omega) (by omega)).trans e3, (kn _ (by omega) (by omega)).trans e4, kR⟩
      · rw [if_neg (by rw [nI_eq (by omega) (by omega)]; omega), nI_1, show nI (acc.length + 1) = nI (acc ++ [x]).length by rw [hl]]
        have eq : ps_all (n + 1) acc l = ps_all n (acc ++ [x]) l2 := by
          rw [ps_all, ex]
          simp only
          rw [if_neg hlen]
        refine ih _ _ _ _ _ _ _ _ Q (by rw [hl]; omega) kb (by have := g2.1; omega) kl k0 k1 ((kn _ (by omega) (by omega)).trans e2) ((kn _ (by omega) (by omega)).trans e3) ((kn _ (by omega) (by omega)).trans e4) kR (hf.trans f2) r2 ?_
        intro s9 l9 G9 z9 d9 j1 j2 j3 j4 j5 j6 j7
        rw [← eq]
        exact q s9 l9 G9 z9 d9 j1 j2 j3 j4 (by have := g2.1; omega) (by omega) (by omega)
    · have hlow2 : ∀ q, q < z → G2 q = G0 q := fun q hq => (g2.2.2 q (by omega)).trans (hlow q hq)
      refine (q s2 l2 _ _ _ (hf.trans f2) r2 hlow2 g2.2.1 g2.1 (by omega) (by omega)).2 ?_
      rw [ps_all, ex]
/-- the rules on the sheet, the object at z -/
def cRules (G : gm_H) (z hi : Nat) (R : List Rl) : Prop := ∃ fa iv, G z = some (.inr (8, qcell z R.length)) ∧ G (z + 1) = some (rarr fa) ∧ G (z + 2) = some (iarr 24 (fun _ => 0)) ∧ G (z + 3) = some (iarr 24 (fun _ => 0)) ∧ G (z + 4) = some (iarr 24 (fun _ => 0)) ∧ cRs G z hi R fa iv
theorem cq_read {N0 : Nat} {K : Nat → Nat} {d C : Nat} {G : gm_H} {sz : Nat} {T : List Int32} {s : cS} {Q : Option Nat → cS → gm_H → Nat → Nat → Prop} (hN : N0 ≤ C) (hsz : C + 34 ≤ sz) (hbd : gm_bd G sz) (hK : K 0 < C) (hG : G (K 0) = some (.inl (gm_scr, 8, .inl c_kt))) (hT : T.length ≤ 240) (h1 : ∀ k, k < T.length → s.2.1 1 k = T.getD k 0) (q : ∀ s' l', (∀ i, i ≠ 41 → s'.1 i = s.1 i) → (∀ i, i ≠ 1 → i ≠ 3 → s'.2.1 i = s.2.1 i) → (∀ i, i ≠ 40 → s'.2.2 i = s.2.2 i) → cL C s' T l' → (∀ R, ps_all 24 [] T = (some R, l') → ∀ G' sz' dd, gx G sz G' sz' → sz' ≤ sz + 317 → dd ≤ 2165 → cRules G' sz sz' R → Q (some sz) s' G' sz' dd) ∧ (ps_all 24 [] T = (none, l') → ∀ G' sz' dd, gx G sz G' sz' → sz' ≤ sz + 317 → dd ≤ 2165 → Q none s' G' sz' dd)) : kX6_read N0 K (d + 7) C (nI T.length) s G sz Q := by
  refine kX6_read.of (TX6_read_0 hN ⟨T.length, rfl, by omega, hsz, hbd, ?_⟩)
  refine kq_init8 hN hsz hbd ?_
  intro G5 g5 e0 e1 e2 e3 e4
  generalize hs1 : cI (cA (cR s 40 (some (C + 1))) 1 (upd (s.2.1 1) T.length (vp_nar .char (0 : Int32)))) 41 (0 : Int32) = s1
  have hcl : cL C s1 T T := by
    subst hs1
    refine ⟨rfl, hT, fun k hk => ?_, ?_, 0, by simp, rfl, rfl⟩
    · show upd (s.2.1 1) T.length (vp_nar .char 0) k = _
      rw [upd_ne (by omega)]
      exact h1 k hk
    · show upd (s.2.1 1) T.length (vp_nar .char 0) T.length = 0
      rw [upd_eq]
      decide
  refine cq_read_28 (s0 := s1) (G0 := G5) (z := sz) hN hK hsz ((g5.2.2 _ (by omega)).trans hG) 24 [] T s1 G5 (sz + 5) _ (fun _ => none) (fun _ => sz + 5) Q rfl g5.2.1 (Nat.le_refl _) (fun _ _ => rfl) e0 e1 e2 e3 e4 ⟨Nat.le_refl _, fun r hr => absurd hr (by simp), Nat.le_refl _, fun r x hx => absurd hx (by simp)⟩ (fPa.refl s1) hcl ?_
  intro s' l' G' sz' sl' j1 j2 j3 j4 j5 j6 j7
  obtain ⟨f1, f2, f3⟩ := j1
  have gx9 : gx G sz G' sz' := ⟨by omega, j4, fun q hq => (j3 q hq).trans (g5.2.2 q hq)⟩
  have q9 := q s' l' (fun i hi => by rw [f1 i hi, ← hs1]; exact if_neg hi) (fun i hi hj => by rw [f2 i hj, ← hs1]; exact if_neg hi) (fun i hi => by rw [f3, ← hs1]; exact if_neg hi) j2
  refine ⟨fun R eR hR => ?_, fun eR => ?_⟩
  · obtain ⟨fa', iv', k0, k1, k2, k3, k4, k5⟩ := hR
    exact q9.1 R eR G' sz' _ gx9 (by omega) (by omega) ⟨fa', iv', k0, k1, k2, k3, k4, k5⟩
  · exact q9.2 eR G' sz' _ gx9 (by omega) (by omega)
