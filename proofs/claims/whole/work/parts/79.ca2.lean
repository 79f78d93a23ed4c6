/-! the class: cut; a loop over layers; begin -/
theorem cFacts.pop {s : cS} {L : List Fct} {F : Fct} (h : cFacts (cI s 129 (nI (L.length + 1))) (L ++ [F])) : cFacts (cI (cA (cA (cA s 12 (upd (s.2.1 12) (cr F.1) (s.2.1 11 (L.length + 1)))) 13 (upd (s.2.1 13) (cr F.1) ((s.2.1 13 (cr F.1)) - (1 : Int32)))) 14 (upd (s.2.1 14) (hs F) (s.2.1 15 (L.length + 1)))) 129 (nI L.length)) L := by
  obtain ⟨h1, h2, h3, h4, h5⟩ := h
  have hlen : (L ++ [F]).length = L.length + 1 := by simp
  obtain ⟨wF, f1, f2, f3, f4, f5, f6⟩ := h3 L.length F get_app
  refine ⟨rfl, by omega, fun i f hf => ?_, fun r hr => ?_, fun h hh => ?_⟩
  · have hi := (List.getElem?_eq_some_iff.mp hf).1
    obtain ⟨w, b1, b2, b3, b4, b5, b6⟩ := h3 i f (by rw [List.getElem?_append_left hi]; exact hf)
    rw [lst_congr (p := pR (L ++ [F]) (cr f.1)) (q := pR L (cr f.1)) (fun j hj => pR_app (by omega))] at b5
    rw [lst_congr (p := pH (L ++ [F]) (hs f)) (q := pH L (hs f)) (fun j hj => pH_app (by omega))] at b6
    exact ⟨w, b1, b2, b3, b4, b5, b6⟩
  · show upd (s.2.1 12) (cr F.1) (s.2.1 11 (L.length + 1)) r = _ ∧ upd (s.2.1 13) (cr F.1) ((s.2.1 13 (cr F.1)) - (1 : Int32)) r = _
    obtain ⟨c1, c2⟩ := h4 r hr
    have ec : cK (L ++ [F]) r = cK L r + (if cr F.1 = r then 1 else 0) := by
      unfold cK
      rw [List.filter_append, List.length_append]
      by_cases z : cr F.1 = r
      · rw [if_pos z, List.filter_cons_of_pos (by simp [z])]
        simp
      · rw [if_neg z, List.filter_cons_of_neg (by simp [z])]
        simp
    have c1' : s.2.1 12 r = nI (lst (pR (L ++ [F]) r) (L.length + 1)) := by rw [← hlen]; exact c1
    have c2' : s.2.1 13 r = nI (cK (L ++ [F]) r) := c2
    have f5' : s.2.1 11 (L.length + 1) = nI (lst (pR (L ++ [F]) (cr F.1)) L.length) := f5
    rw [lst_congr (p := pR (L ++ [F]) (cr F.1)) (q := pR L (cr F.1)) (fun j hj => pR_app hj)] at f5'
    by_cases z : cr F.1 = r
    · subst z
      rw [upd_eq, upd_eq, f5', c2', ec, if_pos rfl, nI_pred]
      exact ⟨rfl, rfl⟩
    · rw [upd_ne (fun y => z y.symm), upd_ne (fun y => z y.symm), c1', c2', ec, if_neg z, lst, pR_get get_app, if_neg (by simpa using z), lst_congr (p := pR (L ++ [F]) r) (q := pR L r) (fun j hj => pR_app hj)]
      exact ⟨rfl, rfl⟩
  · show upd (s.2.1 14) (hs F) (s.2.1 15 (L.length + 1)) h = _
    have c1' : s.2.1 14 h = nI (lst (pH (L ++ [F]) h) (L.length + 1)) := by rw [← hlen]; exact h5 h hh
    have f6' : s.2.1 15 (L.length + 1) = nI (lst (pH (L ++ [F]) (hs F)) L.length) := f6
    rw [lst_congr (p := pH (L ++ [F]) (hs F)) (q := pH L (hs F)) (fun j hj => pH_app hj)] at f6'
    by_cases z : hs F = h
    · subst z
      rw [upd_eq, f6']
    · rw [upd_ne (fun y => z y.symm), c1', lst, pH_get get_app, if_neg (by simpa using z), lst_congr (p := pH (L ++ [F]) h) (q := pH L h) (fun j hj => pH_app hj)]
theorem cs_cut_5 {N0 : Nat} {K : Nat → Nat} {d C n : Nat} {s0 : cS} {G : gm_H} {sz sl : Nat} {L : List Fct} {Q : Unit → cS → Prop} (hN : N0 ≤ C) (hn : n ≤ L.length) (hl : L.length ≤ 200) (q : ∀ s', fcx s0 s' → s'.1 130 = 0 → cFacts s' (L.take n) → Q () s') : ∀ (k : Nat) (s : cS), n + k ≤ L.length → s.1 129 = nI L.length → fcx s0 s → cFacts (cI s 129 (nI (n + k))) (L.take (n + k)) → hX1_cut_5 N0 K (d + 1) C (nI n) (nI (n + k)) s G sz sl Q := by
  intro k
  induction k with
  | zero =>
    intro s hk h129 hf hL
    refine TX1_cut_5 hN ?_
    rw [if_pos (nI_le (by omega) (by omega))]
    refine ⟨by omega, q _ (hf.trans ⟨fun i a b => ?_, fun _ _ => rfl, rfl⟩) rfl ?_⟩
    · show (if i = 130 then _ else if i = 129 then _ else s.1 i) = s.1 i
      rw [if_neg b, if_neg a]
    · refine hL.fr ?_ (fun _ _ _ => rfl)
      show (if nI n < s.1 129 then nI n else s.1 129) = nI (n + 0)
      rw [h129]
      by_cases h : n < L.length
      · rw [if_pos (nI_lt h (by omega))]
        rfl
      · rw [if_neg (nI_nlt (by omega) (by omega)), show L.length = n by omega]
        rfl
  | succ k ih =>
    intro s hk h129 hf hL
    have hlt : n + k < L.length := by omega
    have etk : L.take (n + (k + 1)) = L.take (n + k) ++ [L[n + k]] := by
      rw [show n + (k + 1) = n + k + 1 by omega, List.take_succ, List.getElem?_eq_getElem hlt]
      rfl
    have elen : (L.take (n + k)).length = n + k := by rw [List.length_take]; omega
    rw [etk] at hL
    have hL' : cFacts (cI s 129 (nI ((L.take (n + k)).length + 1))) (L.take (n + k) ++ [L[n + k]]) := by rw [elen]; exact hL
    obtain ⟨wF, f1, f2, f3, f4, f5, f6⟩ := hL'.2.2.1 (n + k) L[n + k] (by rw [List.getElem?_append_right (by omega), elen]; simp)
    have hpop := hL'.pop
    rw [elen] at hpop
    refine TX1_cut_5 hN ?_
    rw [if_neg (nI_ge (by omega) (by omega))]
    have hcr := (vr_cr wF.2).1
    refine ⟨n + k + 1, rfl, by omega, cr L[n + k].1, f1, hcr, kq_slotOf hN ?_⟩
    have g1 : s.2.1 7 (n + k + 1) = nI (cr L[n + k].1) := f1
    have g2 : s.2.1 8 (n + k + 1) = te L[n + k].2 0 := f2
    have g3 : s.2.1 9 (n + k + 1) = te L[n + k].2 1 := f3
    have g4 : s.2.1 10 (n + k + 1) = te L[n + k].2 2 := f4
    rw [g1, g2, g3, g4]
    refine ⟨hs L[n + k], (hs_lt _).2, (hs_lt _).1, ?_⟩
    rw [show n + (k + 1) = (n + k) + 1 by omega, nI_sub1]
    refine ih _ (by omega) h129 (hf.trans ⟨fun _ _ _ => rfl, fun i a => ?_, rfl⟩) hpop
    show (if i = 14 then _ else if i = 13 then _ else if i = 12 then _ else s.2.1 i) = s.2.1 i
    rw [if_neg (by omega), if_neg (by omega), if_neg (by omega)]
theorem cq_cut {N0 : Nat} {K : Nat → Nat} {d C n : Nat} {s : cS} {G : gm_H} {sz : Nat} {L : List Fct} {Q : Unit → cS → Prop} (hN : N0 ≤ C) (hL : cFacts s L) (hn : n ≤ L.length) (q : ∀ s', fcx s s' → s'.1 130 = 0 → cFacts s' (L.take n) → Q () s') : kX1_cut N0 K (d + 2) C (nI n) s G sz Q := by
  refine kX1_cut.of (TX1_cut_0 hN ?_)
  have := cs_cut_5 (s0 := s) (N0 := N0) (K := K) (d := d) (G := G) (sz := sz) (sl := 0) hN hn hL.2.1 q (L.length - n) s (by omega) hL.1 (fcx.refl s) (by rw [show n + (L.length - n) = L.length by omega, List.take_length, cI_same hL.1]; exact hL)
  rw [show n + (L.length - n) = L.length by omega, ← hL.1] at this
  exact this
theorem fcx.c {s s' : cS} (h : fcx s s') : cfr s s' := ⟨fun i a b _ _ _ => h.1 i a b, fun i a => h.2.1 i (by omega), h.2.2⟩
/-- the state between layers: j is next -/
def cyS (O : List Rl) (P : List Fct → Prop) (ly : Nat → Nat) (gv : Nat → Prop) (j : Nat) (B : List Fct) (s : cS) (L : List Fct) : Prop := cFacts s L ∧ s.2.1 16 0 = 0 ∧ ((s.1 130 = 1 ∧ Bad O P) ∨ (s.1 130 = 0 ∧ St O P (qC O ly gv j) B L ∧ ∀ x ∈ O, ly (lk x.1) < j → wy L x ≤ 100000))
theorem ly_loop {N0 : Nat} {K : Nat → Nat} {d C z b : Nat} {G : gm_H} {sz : Nat} {O : List Rl} {P : List Fct → Prop} {ly st : Nat → Nat} {e0 e1 e2 : Nat} {rc gv : Nat → Prop} {B : List Fct} {s0 : cS} {L0 : List Fct} {H : Int32 → cS → Prop} (hN : N0 ≤ C) (hly : LyC O ly st e0 e1 e2 rc) (hb : b ≤ e2) (hgv : ∀ x ∈ O, ly (lk x.1) < b → ∀ l ∈ x.2, l.1 ≠ 2 → (∀ r ∈ O, lk r.1 ≠ lk l) → gv (lk l)) (hPT : ∀ B', P B' → TD B') (hpl : pLay G C z O st e0 e1 e2 rc) (hz : s0.2.2 101 = some z) (hstep : ∀ j s, j < b → s.2.2 101 = some z → kX2_close N0 K (d + 14) C (nI j) s G sz (fun _ s' => H (nI j + 1) s') → H (nI j) s) (q : ∀ s' L', cfr s0 s' → (∃ K, L' = L0 ++ K) → cyS O P ly gv b B s' L' → H (nI b) s') : ∀ (m j : Nat) (s : cS) (L : List Fct), j + m = b → cfr s0 s → (∃ K, L = L0 ++ K) → cyS O P ly gv j B s L → H (nI j) s := by
  intro m
  induction m with
  | zero =>
    intro j s L hj hf hK hS
    have e : j = b := by omega
    subst e
    exact q s L hf hK hS
  | succ m ih =>
    intro j s L hj hf hK hS
    have hz' : s.2.2 101 = some z := by rw [hf.2.2]; exact hz
    refine hstep j s (by omega) hz' ?_
    obtain ⟨c1, c2, c3⟩ := hS
    rcases c3 with ⟨c3, c4⟩ | ⟨c3, c4, c5⟩
    · refine cq_closeb hN hly hpl hz' (by omega) (by rw [c3]; decide) (fun s' a1 a2 a3 a4 => ?_)
      rw [nI_1]
      exact ih (j + 1) s' L (by omega) (hf.trans a1) hK ⟨c1.fr a2 (fun i _ _ => by rw [a4]), by rw [a4]; exact c2, Or.inl ⟨by rw [a3]; exact c3, c4⟩⟩
    · refine cq_close hN hly (fun x hx hxj => hgv x hx (by omega)) hPT hpl hz' (by omega) c1 c4 c3 c2 (fun s' L' hR => ?_)
      obtain ⟨r1, r2, ⟨K1, r3, r4⟩, r5, r6⟩ := hR
      rw [nI_1]
      obtain ⟨K0, eK0⟩ := hK
      refine ih (j + 1) s' L' (by omega) (hf.trans r1) ⟨K0 ++ K1, by rw [r3, eK0, List.append_assoc]⟩ ⟨r2, r5, ?_⟩
      rcases r6 with y | ⟨y1, y2, y3⟩
      · exact Or.inl y
      · refine Or.inr ⟨y1, y2, fun x hx hxj => ?_⟩
        by_cases e : ly (lk x.1) = j
        · exact y3 x hx e
        · rw [wy_same (M := L) (fun l hl k0 => ?_)]
          · exact c5 x hx (by omega)
          · rw [r3]
            refine cnt_app (fun f hf' e' => ?_)
            obtain ⟨t1, t2⟩ := r4 f hf'
            rw [e'] at t1 t2
            have := (((hly.2.2.2 x hx l hl (by rw [k0]; decide)).1) t1).1
            omega
/-- given relations that are done: in the three stages -/
def gv0 (x : Nat) : Prop := x ≠ 337 ∧ x ≠ 274
def gv1 (x : Nat) : Prop := x ≠ 274
def gv2 (_ : Nat) : Prop := True
/-- what holds in every state -/
def FI0 (O : List Rl) (ly : Nat → Nat) (e0 : Nat) (z : Nat) (s : cS) (L0 L : List Fct) : Prop := (∃ K, L = L0 ++ K) ∧ cFacts s L ∧ s.1 102 = nI L0.length ∧ St O TD (qC O ly gv0 e0) [] L0 ∧ (∀ x ∈ O, ly (lk x.1) < e0 → wy L0 x ≤ 100000) ∧ s.2.1 16 0 = 0 ∧ s.2.2 101 = some z
/-- all as it was but what Follows has -/
def ffr (s s' : cS) : Prop := (∀ i, i ≠ 129 → i ≠ 130 → i ≠ 102 → i ≠ 103 → i ≠ 105 → i ≠ 106 → i ≠ 107 → s'.1 i = s.1 i) ∧ (∀ i, i < 7 ∨ 16 < i → s'.2.1 i = s.2.1 i) ∧ (∀ i, i ≠ 101 → s'.2.2 i = s.2.2 i)
theorem ffr.refl (s : cS) : ffr s s := ⟨fun _ _ _ _ _ _ _ _ => rfl, fun _ _ => rfl, fun _ _ => rfl⟩
theorem ffr.trans {s s' s'' : cS} (h : ffr s s') (g : ffr s' s'') : ffr s s'' := ⟨fun i a b c d e f k => (g.1 i a b c d e f k).trans (h.1 i a b c d e f k), fun i a => (g.2.1 i a).trans (h.2.1 i a), fun i a => (g.2.2 i a).trans (h.2.2 i a)⟩
theorem cfr.f {s s' : cS} (h : cfr s s') : ffr s s' := ⟨fun i a b _ _ e f k => h.1 i a b e f k, h.2.1, fun i _ => by rw [h.2.2]⟩
theorem ffr.i (s : cS) {k : Nat} (v : Int32) (hk : k = 102 ∨ k = 103) : ffr s (cI s k v) := ⟨fun i a b c d e f g => if_neg (by omega), fun _ _ => rfl, fun _ _ => rfl⟩
theorem cq_begin {N0 : Nat} {K : Nat → Nat} {d C z : Nat} {G : gm_H} {sz : Nat} {O : List Rl} {ly st : Nat → Nat} {e0 e1 e2 : Nat} {rc : Nat → Prop} {s : cS} {L : List Fct} {Q : Int32 → cS → Prop} (hN : N0 ≤ C) (hly : LyC O ly st e0 e1 e2 rc) (hpl : pLay G C z O st e0 e1 e2 rc) (hL : cFacts s L) (h16 : s.2.1 16 0 = 0) (q1 : ∀ s' L', ffr s s' → FI0 O ly e0 z s' L' L' → Q 1 s') (q0 : ∀ s' L', ffr s s' → cFacts s' L' → s'.2.1 16 0 = 0 → s'.2.2 101 = some z → Bad O TD → Q 0 s') : kX2_begin N0 K (d + 15) C z s G sz Q := by
  obtain ⟨h1, ⟨h2, h2a, h2b, h2c, h2d⟩, h3, h4⟩ := id hly
  refine kX2_begin.of (TX2_begin_0 hN (cq_cut (n := 0) (d := d + 12) (L := L) hN (hL.fr rfl (fun _ _ _ => rfl)) (by omega) (fun s1 f1 b1 L1 => ?_)))
  have hz1 : s1.2.2 101 = some z := by
    rw [f1.2.2]
    rfl
  have hf1 : ffr s s1 := by
    refine ⟨fun i a b _ _ _ _ _ => f1.1 i a b, fun i a => f1.2.1 i (by omega), fun i a => ?_⟩
    rw [f1.2.2]
    exact if_neg a
  obtain ⟨o, t, g, fo, ft, fe, v, ⟨cz, co, ct, cg⟩, gz, go, gt, gg, hbs, hO, hft, fe0, fe1, fe2⟩ := id hpl
  rw [← nI_0]
  refine ly_loop (K := K) (d := d) (sz := sz) (P := TD) (gv := gv0) (B := []) (s0 := s1) (L0 := []) (H := fun u s' => hX2_begin_15 N0 K (d + 14) C u s' G sz 0 Q) hN hly (by omega : e0 ≤ e2) (fun x hx hlt l hl k2 _ => (h4 x hx l hl k2).2.1 hlt) (fun _ h => h) hpl hz1 (fun j s' hj hz' hc => ?_) (fun s' L' hf hK hS => ?_) e0 0 s1 [] (by omega) (cfr.refl s1) ⟨[], rfl⟩ ⟨by simpa using L1, ?_, Or.inr ⟨b1, (St.init O).iff (fun x => ?_), fun x _ hx => by omega⟩⟩
  · refine TX2_begin_15 hN ⟨z, hz', _, gz, g, rfl, cz, 3, fe, gg, by decide, cg, by decide, ?_⟩
    rw [fe0, if_neg (nI_ge (by omega) (by omega))]
    exact hc
  · have hz' : s'.2.2 101 = some z := by rw [hf.2.2]; exact hz1
    refine TX2_begin_15 hN ⟨z, hz', _, gz, g, rfl, cz, 3, fe, gg, by decide, cg, by decide, ?_⟩
    rw [fe0, if_pos (Int32.le_refl _)]
    obtain ⟨c1, c2, c3⟩ := hS
    have hff : ffr s (cI s' 102 (s'.1 129)) := (hf1.trans hf.f).trans (ffr.i s' _ (by simp))
    rcases c3 with ⟨c3, c4⟩ | ⟨c3, c4, c5⟩
    · rw [if_neg (by rw [c3]; decide)]
      exact q0 _ L' hff (c1.fr rfl (fun _ _ _ => rfl)) c2 hz' c4
    · rw [if_pos c3]
      exact q1 _ L' hff ⟨⟨[], by simp⟩, c1.fr rfl (fun _ _ _ => rfl), c1.1, c4, c5, c2, hz'⟩
  · rw [f1.2.1 16 (by decide)]
    exact h16
  · unfold Q0 qC gv0
    constructor
    · exact fun z => Or.inl z
    · rintro (z | z)
      · exact z
      · omega
