/-! the class's reader: rules -/
theorem kb_bd {C sz : Nat} {s : cS} {G : gm_H} (h : gm_bd G sz) (hs : C + 34 ≤ sz) : gm_bd (bM C (cH C s) G) sz := by
  intro a x ha
  by_cases hb : C ≤ a ∧ a < C + 34
  · omega
  · rw [bM_out (show ¬ (C ≤ a ∧ a < C + (cH C s).length) from hb)] at ha
    exact h a x ha
def rcell (h b n : Nat) : List Value := [.ref h, .ref b, .int (nI n), .int 0]
abbrev larr (fa : Nat → Option Nat) : gm_E := .inl (.object "RuleArena$Literal", 5, .inr (.inr (.inr (.inr fa))))
theorem kq_init7 {N0 : Nat} {K : Nat → Nat} {d C z a : Nat} {s : cS} {G : gm_H} {Q : Unit → gm_H → Nat → Nat → Prop} (hN : N0 ≤ C) (hz : C + 34 ≤ z) (hbd : gm_bd G z) (q : ∀ G', gx G z G' (z + 2) → G' z = some (.inr (7, rcell a (z + 1) 0)) → G' (z + 1) = some (larr (fun _ => none)) → Q () G' (z + 2) 5) : kX7_init_gz N0 K (d + 2) C z a s (gm_new G z (.inr (7, [.null, .null, .int 0, .int 0]))) (z + 1) Q := by
  refine gC.mono (gX7_init.of (Q := fun _ M' sz' dd => M' = bM C (cH C s) (gm_set (gm_new (gm_new G z (.inr (7, [.null, .null, .int 0, .int 0]))) (z + 1) (larr (fun _ => none))) z (.inr (7, rcell a (z + 1) 0))) ∧ sz' = z + 2 ∧ dd = 5) (TX7_init_0 ⟨by omega, kb_bd hbd.new (by omega), [.null, .null, .int 0, .int 0], ?_, by omega, Nat.le_of_ble_eq_true rfl, Nat.le_of_ble_eq_true rfl, ?_⟩)) ?_
  · rw [cG_new (by omega)]
    exact cG_get hz ((gm_set_ne (by omega)).trans gm_set_eq)
  · refine ⟨?_, rfl, rfl⟩
    rw [cG_new (by omega), gs_set, cG_set hz]
    rfl
  · intro r M' sz' dd h
    obtain ⟨rfl, rfl, rfl⟩ := h
    have g1 : gx G z (gm_new (gm_new G z (.inr (7, [.null, .null, .int 0, .int 0]))) (z + 1) (larr (fun _ => none))) (z + 2) := (gx.new hbd).trans (gx.new hbd.new)
    refine ⟨s, _, rfl, rfl, q _ (g1.set (Nat.le_refl _) ((gm_set_ne (by omega)).trans gm_set_eq)) gm_set_eq ?_⟩
    exact (gm_set_ne (by omega)).trans gm_set_eq
theorem kq_append7 {N0 : Nat} {K : Nat → Nat} {d C r p h b n sz : Nat} {s : cS} {G : gm_H} {fa : Nat → Option Nat} {fs : List Value} {Q : Unit → gm_H → Prop} (hN : N0 ≤ C) (hr : C + 34 ≤ r) (hb : C + 34 ≤ b) (hp : C + 34 ≤ p) (hG : G r = some (.inr (7, rcell h b n))) (hB : G b = some (larr fa)) (hP : G p = some (.inr (5, fs))) (hn : n < 5) (q : Q () (gm_set (gm_set G b (larr (va_up fa n (some p)))) r (.inr (7, rcell h b (n + 1))))) : kX7_append_g N0 K (d + 1) C r p s G sz Q := by
  refine gC.mono (gX7_append.of (Q := fun _ M' sz' dd => M' = bM C (cH C s) (gm_set (gm_set G b (larr (va_up fa n (some p)))) r (.inr (7, rcell h b (n + 1)))) ∧ sz' = sz ∧ dd = 0) (TX7_append_0 ⟨_, cG_get hr hG, nI n, rfl, ?_⟩)) ?_
  · rw [if_neg (by rw [n_5]; exact nI_ge (by omega) (by decide))]
    refine ⟨b, rfl, 5, fa, cG_get hb hB, by decide, by omega, n, rfl, hn, fs, cG_get hp hP, by omega, ?_, rfl, rfl⟩
    rw [cG_set hb, cG_set hr, nI_1]
    rfl
  · intro r M' sz' dd h
    obtain ⟨rfl, rfl, rfl⟩ := h
    exact ⟨s, _, rfl, rfl, rfl, rfl, q⟩
/-- the literals of a body, each a cell of its own -/
def cBody (G : gm_H) (lo hi : Nat) (fa : Nat → Option Nat) (ls : List Lt) : Prop := (∀ j y, ls[j]? = some y → ∃ a, fa j = some a ∧ lo ≤ a ∧ a < hi ∧ G a = some (.inr (5, lcell y))) ∧ (∀ i j a, i < ls.length → j < ls.length → fa i = some a → fa j = some a → i = j)
theorem cBody.mono {G G' : gm_H} {lo hi hi' : Nat} {fa : Nat → Option Nat} {ls : List Lt} (h : cBody G lo hi fa ls) (hh : hi ≤ hi') (hg : ∀ a, lo ≤ a → a < hi → G' a = G a) : cBody G' lo hi' fa ls := by
  refine ⟨fun j y hy => ?_, h.2⟩
  obtain ⟨a, h1, h2, h3, h4⟩ := h.1 j y hy
  exact ⟨a, h1, h2, by omega, (hg a h2 h3).trans h4⟩
theorem vu_eq {f : Nat → Option Nat} {k : Nat} {x : Option Nat} : va_up f k x k = x := if_pos rfl
theorem vu_ne {f : Nat → Option Nat} {k j : Nat} {x : Option Nat} (h : j ≠ k) : va_up f k x j = f j := if_neg h
theorem cBody.add {G : gm_H} {lo hi hi' p : Nat} {fa : Nat → Option Nat} {ls : List Lt} {y : Lt} (h : cBody G lo hi fa ls) (h1 : hi ≤ p) (h2 : p < hi') (h0 : lo ≤ p) (hp : G p = some (.inr (5, lcell y))) : cBody G lo hi' (va_up fa ls.length (some p)) (ls ++ [y]) := by
  have hl : (ls ++ [y]).length = ls.length + 1 := by simp
  have hold : ∀ i a, i < ls.length → fa i = some a → a < hi := by
    intro i a hi' ha
    obtain ⟨a', e1, _, e3, _⟩ := h.1 i ls[i] (List.getElem?_eq_getElem hi')
    rw [ha] at e1
    cases e1
    exact e3
  refine ⟨fun j z hz => ?_, fun i j a hi2 hj2 ha hb => ?_⟩
  · by_cases hj : j < ls.length
    · rw [List.getElem?_append_left hj] at hz
      obtain ⟨a, e1, e2, e3, e4⟩ := h.1 j z hz
      exact ⟨a, (vu_ne (by omega)).trans e1, e2, by omega, e4⟩
    · have := (List.getElem?_eq_some_iff.mp hz).1
      have e : j = ls.length := by omega
      subst e
      simp at hz
      subst hz
      exact ⟨p, vu_eq, h0, h2, hp⟩
  · rw [hl] at hi2 hj2
    by_cases e1 : i = ls.length
    · by_cases e2 : j = ls.length
      · omega
      · rw [e1, vu_eq] at ha
        cases ha
        rw [vu_ne e2] at hb
        have := hold j p (by omega) hb
        omega
    · by_cases e2 : j = ls.length
      · rw [e2, vu_eq] at hb
        cases hb
        rw [vu_ne e1] at ha
        have := hold i p (by omega) ha
        omega
      · rw [vu_ne e1] at ha
        rw [vu_ne e2] at hb
        exact h.2 i j a (by omega) (by omega) ha hb
/-- the body as the class reads it: up to what is no comma -/
def bodyC : Nat → List Lt → List Int32 → Option (List Lt) × List Int32
  | 0, _, l => (none, l)
  | n + 1, acc, l => match ps_lit l with
    | (none, l') => (none, l')
    | (some x, l') => if ps_hc l' = 44 then bodyC n (acc ++ [x]) l'.tail else (some (acc ++ [x]), l')
theorem ps_body_C {hd : Lt} : ∀ (n : Nat) (acc : List Lt) (l : List Int32), ps_body hd n acc l = (match bodyC n acc l with
    | (none, l') => (none, l')
    | (some b, l') => if ps_hc l' = 46 then (some (hd, b), l'.tail) else (none, l')) := by
  intro n
  induction n with
  | zero =>
    intro acc l
    rw [ps_body, bodyC]
  | succ n ih =>
    intro acc l
    rw [ps_body, bodyC]
    cases e : ps_lit l with
    | mk o l1 =>
      cases o with
      | none => rfl
      | some x =>
        simp only
        by_cases h : ps_hc l1 = 44
        · rw [if_pos h, if_neg (by rw [h]; decide), if_pos h]
          exact ih _ _
        · simp only [if_neg h]
theorem cq_readBody_2 {N0 : Nat} {K : Nat → Nat} {d C : Nat} {T : List Int32} {r h b : Nat} {s0 : cS} {G0 : gm_H} (hN : N0 ≤ C) (hK : K 0 < C) (hr0 : C + 34 ≤ r) (hrb : r < b) (hG0 : G0 (K 0) = some (.inl (gm_scr, 8, .inl c_kt))) : ∀ (n : Nat) (acc : List Lt) (l : List Int32) (s : cS) (G : gm_H) (sz sl : Nat) (fa : Nat → Option Nat) (Q : Int32 → cS → gm_H → Nat → Nat → Prop), n + acc.length = 5 → b < sz → gm_bd G sz → (∀ q, q < r → G q = G0 q) → G r = some (.inr (7, rcell h b acc.length)) → G b = some (larr fa) → cBody G (b + 1) sz fa acc → fPa s0 s → cL C s T l → (∀ s' l' G' sz' sl', fPa s0 s' → cL C s' T l' → (∀ q, q < r → G' q = G0 q) → gm_bd G' sz' → sz ≤ sz' → sz' ≤ sz + 2 * n → sl' ≤ sl + 14 * n → (∀ bd, bodyC n acc l = (some bd, l') → (∃ fa', G' r = some (.inr (7, rcell h b bd.length)) ∧ G' b = some (larr fa') ∧ cBody G' (b + 1) sz' fa' bd) → Q 1 s' G' sz' sl') ∧ (bodyC n acc l = (none, l') → Q 0 s' G' sz' sl')) → hX6_readBody_2 N0 K (d + 4) C r (nI acc.length) s G sz sl Q := by
  intro n
  induction n with
  | zero =>
    intro acc l s G sz sl fa Q hn hbs hbd hlow hGr hGb hB hf hr q
    refine TX6_readBody_2 hN ?_
    rw [if_pos (by rw [n_5]; exact nI_le (by omega) (by omega))]
    exact (q s l G sz sl hf hr hlow hbd (Nat.le_refl _) (by omega) (by omega)).2 rfl
  | succ n ih =>
    intro acc l s G sz sl fa Q hn hbs hbd hlow hGr hGb hB hf hr q
    refine TX6_readBody_2 hN ?_
    rw [if_neg (by rw [n_5]; exact nI_ge (by omega) (by decide))]
    refine cq_readLiteral hN (by omega) hbd hK ((hlow _ (by omega)).trans hG0) hr ?_
    intro s2 l2 f2 r2
    refine ⟨fun x ex a G2 z2 d2 g2 hz hd ha1 ha2 hGa => Or.inr ⟨a, rfl, ?_⟩, fun ex G2 z2 d2 g2 hz hd => Or.inl ⟨rfl, ?_⟩⟩
    · have hGr2 : G2 r = some (.inr (7, rcell h b acc.length)) := (g2.2.2 r (by omega)).trans hGr
      have hGb2 : G2 b = some (larr fa) := (g2.2.2 b (by omega)).trans hGb
      refine ⟨_, hGr2, hr0, ?_⟩
      have hl : (acc ++ [x]).length = acc.length + 1 := by simp
      have hB2 : cBody (gm_set (gm_set G2 b (larr (va_up fa acc.length (some a)))) r (.inr (7, rcell h b (acc.length + 1)))) (b + 1) z2 (va_up fa acc.length (some a)) (acc ++ [x]) := by
        refine cBody.mono (G := G2) (hi := z2) ?_ (Nat.le_refl _) (fun q hq1 hq2 => ?_)
        · refine cBody.add (hi := sz) ?_ ha1 ha2 (by omega) hGa
          exact hB.mono (Nat.le_refl _) (fun q hq1 hq2 => g2.2.2 q hq2)
        · rw [gm_set_ne (by omega), gm_set_ne (by omega)]
      have hbd2 : gm_bd (gm_set (gm_set G2 b (larr (va_up fa acc.length (some a)))) r (.inr (7, rcell h b (acc.length + 1)))) z2 := (g2.2.1.set hGb2).set ((gm_set_ne (by omega)).trans hGr2)
      have hlow2 : ∀ q, q < r → gm_set (gm_set G2 b (larr (va_up fa acc.length (some a)))) r (.inr (7, rcell h b (acc.length + 1))) q = G0 q := by
        intro q hq
        rw [gm_set_ne (by omega), gm_set_ne (by omega), g2.2.2 q (by omega)]
        exact hlow q hq
      have hgr3 : gm_set (gm_set G2 b (larr (va_up fa acc.length (some a)))) r (.inr (7, rcell h b (acc.length + 1))) r = some (.inr (7, rcell h b (acc ++ [x]).length)) := by rw [gm_set_eq, hl]
      have hgb3 : gm_set (gm_set G2 b (larr (va_up fa acc.length (some a)))) r (.inr (7, rcell h b (acc.length + 1))) b = some (larr (va_up fa acc.length (some a))) := (gm_set_ne (by omega)).trans gm_set_eq
      refine kq_append7 hN hr0 (by omega) (by omega) hGr2 hGb2 hGa (by omega) ?_
      refine cq_take hN (by decide) r2 (fun e r3 => ?_) (fun e => ?_)
      · rw [if_neg (by decide), nI_1, show nI (acc.length + 1) = nI (acc ++ [x]).length by rw [hl]]
        have eq : bodyC (n + 1) acc l = bodyC n (acc ++ [x]) l2.tail := by
          rw [bodyC, ex]
          simp only
          rw [if_pos e]
        refine ih _ _ _ _ _ _ _ Q (by rw [hl]; omega) (by have := g2.1; omega) hbd2 hlow2 hgr3 hgb3 hB2 ((hf.trans f2).p _) r3 ?_
        intro s9 l9 G9 z9 d9 k1 k2 k3 k4 k5 k6 k7
        rw [← eq]
        exact q s9 l9 G9 z9 d9 k1 k2 k3 k4 (by have := g2.1; omega) (by omega) (by omega)
      · rw [if_pos rfl]
        have eq : bodyC (n + 1) acc l = (some (acc ++ [x]), l2) := by
          rw [bodyC, ex]
          simp only
          rw [if_neg e]
        exact (q s2 l2 _ _ _ (hf.trans f2) r2 hlow2 hbd2 g2.1 (by omega) (by omega)).1 _ eq ⟨_, hgr3, hgb3, hB2⟩
    · have hlow2 : ∀ q, q < r → G2 q = G0 q := fun q hq => (g2.2.2 q (by omega)).trans (hlow q hq)
      refine (q s2 l2 _ _ _ (hf.trans f2) r2 hlow2 g2.2.1 g2.1 (by omega) (by omega)).2 ?_
      rw [bodyC, ex]
/-- a rule as the class has read it: cells from lo on, below hi -/
def cRule (G : gm_H) (lo hi r : Nat) (x : Rl) : Prop := ∃ h b fa, lo ≤ h ∧ h < r ∧ r < b ∧ b < hi ∧ G h = some (.inr (5, lcell x.1)) ∧ G r = some (.inr (7, rcell h b x.2.length)) ∧ G b = some (larr fa) ∧ cBody G (b + 1) hi fa x.2
theorem cRule.mono {G G' : gm_H} {lo hi r : Nat} {x : Rl} (h : cRule G lo hi r x) (hg : ∀ a, lo ≤ a → a < hi → G' a = G a) : cRule G' lo hi r x := by
  obtain ⟨h1, b, fa, e1, e2, e3, e4, e5, e6, e7, e8⟩ := h
  exact ⟨h1, b, fa, e1, e2, e3, e4, (hg _ (by omega) (by omega)).trans e5, (hg _ (by omega) (by omega)).trans e6, (hg _ (by omega) (by omega)).trans e7, e8.mono (Nat.le_refl _) (fun a h1 h2 => hg a (by omega) h2)⟩
theorem cq_readRule {N0 : Nat} {K : Nat → Nat} {d C : Nat} {G : gm_H} {sz : Nat} {T l : List Int32} {s : cS} {Q : Option Nat → cS → gm_H → Nat → Nat → Prop} (hN : N0 ≤ C) (hsz : C + 34 ≤ sz) (hbd : gm_bd G sz) (hK : K 0 < C) (hG : G (K 0) = some (.inl (gm_scr, 8, .inl c_kt))) (hr : cL C s T l) (q : ∀ s' l', fPa s s' → cL C s' T l' → (∀ x, ps_rule l = (some x, l') → ∀ r G' sz' dd, gx G sz G' sz' → sz' ≤ sz + 13 → dd ≤ 86 → cRule G' sz sz' r x → Q (some r) s' G' sz' dd) ∧ (ps_rule l = (none, l') → ∀ G' sz' dd, gx G sz G' sz' → sz' ≤ sz + 13 → dd ≤ 86 → Q none s' G' sz' dd)) : kX6_readRule N0 K (d + 6) C s G sz Q := by
  refine kX6_readRule.of (TX6_readRule_0 hN ?_)
  refine cq_readAtom hN hsz hbd hK hG (by decide) hr ?_
  intro s1 l1 f1 r1
  refine ⟨fun x ex => Or.inr ⟨sz, rfl, by omega, hbd.new, ?_⟩, fun ex => Or.inl ⟨rfl, ?_⟩⟩
  · refine kq_init7 hN (by omega) hbd.new ?_
    intro G10 g10 hr10 hb10
    have g10' := (gx.new hbd).trans g10
    have hh10 : G10 sz = some (.inr (5, lcell (0, x.1, x.2))) := (g10.2.2 sz (by omega)).trans gm_set_eq
    refine cq_take hN (by decide) r1 (fun e r2 => ?_) (fun e => ?_)
    · rw [if_neg (by decide)]
      refine kX6_readBody.of (TX6_readBody_0 hN ?_)
      refine cq_readBody_2 (s0 := s) (G0 := G10) (h := sz) (b := sz + 1 + 1) (r := sz + 1) hN hK (by omega) (by omega) ((g10'.2.2 _ (by omega)).trans hG) 5 [] l1.tail _ G10 _ 0 (fun _ => none) _ rfl (by omega) g10.2.1 (fun _ _ => rfl) hr10 hb10 ⟨fun j y hy => absurd hy (by simp), fun i j a hi => absurd hi (by simp)⟩ (f1.p _) r2 ?_
      intro s19 l19 G19 z19 d19 k1 k2 k3 k4 k5 k6 k7
      have eqb : ps_rule l = ps_body (0, x.1, x.2) 5 [] l1.tail := by
        rw [ps_rule, ex]
        simp only
        rw [if_neg (by rw [e]; decide), if_pos e]
      have gx9 : gx G sz G19 z19 := ⟨by omega, k4, fun q hq => (k3 q (by omega)).trans (g10'.2.2 q hq)⟩
      refine ⟨fun bd eb hbd9 => ?_, fun eb => ?_⟩
      · rw [if_neg (by decide)]
        obtain ⟨fa', a1, a2, a3⟩ := hbd9
        refine cq_take hN (by decide) k2 (fun e2 r3 => ?_) (fun e2 => ?_)
        · rw [if_neg (by decide)]
          refine (q _ _ (k1.p _) r3).1 ((0, x.1, x.2), bd) ?_ _ _ _ _ gx9 (by omega) (by omega) ?_
          · rw [eqb, ps_body_C, eb]
            simp only
            rw [if_pos e2]
          · exact ⟨sz, sz + 1 + 1, fa', Nat.le_refl _, by omega, by omega, by omega, (k3 sz (by omega)).trans hh10, a1, a2, a3⟩
        · rw [if_pos rfl]
          refine (q _ _ k1 k2).2 ?_ _ _ _ gx9 (by omega) (by omega)
          rw [eqb, ps_body_C, eb]
          simp only
          rw [if_neg e2]
      · rw [if_pos rfl]
        refine (q _ _ k1 k2).2 ?_ _ _ _ gx9 (by omega) (by omega)
        rw [eqb, ps_body_C, eb]
    · rw [if_pos rfl]
      refine cq_take hN (by decide) r1 (fun e2 r2 => ?_) (fun e2 => ?_)
      · rw [if_neg (by decide)]
        refine (q _ _ (f1.p _) r2).1 ((0, x.1, x.2), []) ?_ _ _ _ _ g10' (by omega) (by omega) ?_
        · rw [ps_rule, ex]
          simp only
          rw [if_pos e2]
        · exact ⟨sz, sz + 1 + 1, fun _ => none, Nat.le_refl _, by omega, by omega, by omega, hh10, hr10, hb10, fun j y hy => absurd hy (by simp), fun i j a hi => absurd hi (by simp)⟩
      · rw [if_pos rfl]
        refine (q _ _ f1 r1).2 ?_ _ _ _ g10' (by omega) (by omega)
        rw [ps_rule, ex]
        simp only
        rw [if_neg e2, if_neg e]
  · refine (q _ _ f1 r1).2 ?_ _ _ _ (gx.refl hbd) (by omega) (by omega)
    rw [ps_rule, ex]
