/-! the class: close, whole -/
theorem cl_40 {N0 : Nat} {K : Nat → Nat} {d C z bf : Nat} {u3 : Int32} {G : gm_H} {sz sl : Nat} {O : List Rl} {P : List Fct → Prop} {ly st : Nat → Nat} {e0 e1 e2 : Nat} {rc gv : Nat → Prop} {j : Nat} {B : List Fct} {s0 : cS} {LH : List Fct} {Q : Unit → cS → Prop} (hN : N0 ≤ C) (hly : LyC O ly st e0 e1 e2 rc) (hgv : ∀ x ∈ O, ly (lk x.1) = j → ∀ l ∈ x.2, l.1 ≠ 2 → (∀ r ∈ O, lk r.1 ≠ lk l) → gv (lk l)) (hpl : pLay G C z O st e0 e1 e2 rc) (hz : s0.2.2 101 = some z) (hj : j < e2) (hbf : bf ≤ LH.length) (hpre : u3 ≠ 0 → ∀ x ∈ O, ly (lk x.1) = j → rG x (LH.take bf) LH) (qe : ∀ s L, cW O P ly gv j (bf + 1) B s0 LH s L → (s.1 130 = 0 → ∀ x ∈ O, ly (lk x.1) = j → rG x LH L) → (if (s.1 130) = 0 then (if (s.1 129) = (s.1 107) then (Q () s) else (kX4_isRecursive N0 K (d + 13) C z (nI j) s G sz (fun r12 => if r12 = 0 then (Q () s) else (hX2_close_4 N0 K (d + 13) C (nI j) (s.1 107) (u3 + (1 : Int32)) s G sz sl Q)))) else (Q () s))) : ∀ (m p : Nat) (s : cS) (L : List Fct), p + m = st (j + 1) ∨ (st (j + 1) ≤ p ∧ m = 0) → st j ≤ p → cW O P ly gv j (bf + 1) B s0 LH s L → (s.1 130 = 0 → ∀ (p' : Nat) x, p' < p → O[p']? = some x → ly (lk x.1) = j → rG x LH L) → p ≤ 24 → hX2_close_40 N0 K (d + 13) C (nI j) u3 (nI p) s G sz sl Q := by
  obtain ⟨o, t, g, fo, ft, fe, v, ⟨cz, co, ct, cg⟩, gz, go, gt, gg, hbs, hO, hft, _⟩ := hpl
  obtain ⟨h1, ⟨h2, h2a, h2b, h2c, h2d⟩, h3, h4⟩ := id hly
  have hst := h2d (j + 1) (by omega)
  intro m
  induction m with
  | zero =>
    intro p s L hp hsp hW hd hp24
    have hge : st (j + 1) ≤ p := by omega
    refine TX2_close_40 hN ⟨z, by rw [hW.1.2.2]; exact hz, _, gz, t, rfl, cz, j + 1, by rw [nI_1], 25, ft, gt, by decide, ct, by omega, ?_⟩
    rw [hft (j + 1) (by omega), if_pos (nI_le hge (by omega))]
    refine qe s L hW (fun hb x hx hxj => ?_)
    obtain ⟨p', hp', e⟩ := List.getElem_of_mem hx
    have hg : O[p']? = some x := by rw [List.getElem?_eq_getElem hp', e]
    have := (h3 j p' x hj hg).mpr hxj
    exact hd hb p' x (by omega) hg hxj
  | succ m ih =>
    intro p s L hp hsp hW hd hp24
    have hp1 : p + (m + 1) = st (j + 1) := by omega
    have hpO : p < O.length := by omega
    have hg : O[p]? = some O[p] := List.getElem?_eq_getElem hpO
    have hxj : ly (lk O[p].1) = j := (h3 j p _ hj hg).mp ⟨hsp, by omega⟩
    have hx : O[p] ∈ O := List.getElem_mem hpO
    obtain ⟨a, ha, hpr⟩ := hO p _ hg
    refine TX2_close_40 hN ⟨z, by rw [hW.1.2.2]; exact hz, _, gz, t, rfl, cz, j + 1, by rw [nI_1], 25, ft, gt, by decide, ct, by omega, ?_⟩
    rw [hft (j + 1) (by omega), if_neg (nI_ge (by omega) (by omega))]
    refine ⟨o, rfl, p, rfl, 24, fo, go, by decide, co, by omega, a, ha, ?_⟩
    have hnext : ∀ s' L', cW O P ly gv j (bf + 1) B s0 LH s' L' → (∀ f, f ∈ L → f ∈ L') → (s.1 130 ≠ 0 → s'.1 130 ≠ 0) → (s'.1 130 = 0 → rG O[p] LH L') → hX2_close_40 N0 K (d + 13) C (nI j) u3 (nI p + 1) s' G sz sl Q := by
      intro s' L' a1 a2 a3 a4
      rw [nI_1]
      refine ih (p + 1) s' L' (by omega) (by omega) a1 (fun hb p' x hp' hx' hj' => ?_) (by omega)
      by_cases e : p' = p
      · subst e
        rw [hg] at hx'
        cases hx'
        exact a4 hb
      · have hb' : s.1 130 = 0 := by
          rcases hW.2.1.2.2 with y | ⟨y, _⟩
          · exact y
          · exact absurd hb (a3 (by rw [y]; decide))
        exact (hd hb' p' x (by omega) hx' hj').up a2
    by_cases hu : u3 = 0
    · rw [if_pos hu]
      exact cl_rule0 hN hly hgv hx hxj hpr hW hnext
    · rw [if_neg hu]
      obtain ⟨h, b, fa, v', kh, oh, ⟨ca, ch, cb⟩, ga, hrest⟩ := id hpr
      refine ⟨_, ga, nI O[p].2.length, rfl, ca, ?_⟩
      exact cl_steps (sS := s) (LS := L) hN hly hgv hx hxj hpr hbf (hpre hu _ hx hxj) hnext O[p].2.length 0 s L (by omega) hW (fun f hf => hf) (fun z => z) (fun _ => ⟨fun σ _ _ _ hex => by obtain ⟨k', _, hk', _⟩ := hex; omega, Or.inr (fun k' hk' => by omega)⟩)
/-- the end of a layer: its rules give nothing more -/
theorem cl_done {O : List Rl} {P : List Fct → Prop} {ly st : Nat → Nat} {e0 e1 e2 : Nat} {rc gv : Nat → Prop} {j : Nat} {B LH L K : List Fct} (hly : LyC O ly st e0 e1 e2 rc) (hgv : ∀ x ∈ O, ly (lk x.1) = j → ∀ l ∈ x.2, l.1 ≠ 2 → (∀ r ∈ O, lk r.1 ≠ lk l) → gv (lk l)) (hPT : ∀ B', P B' → TD B') (hst : St O P (qC O ly gv j) B L) (eK : L = LH ++ K) (hK : ∀ f ∈ K, (∃ y ∈ O, lk y.1 = f.1) ∧ ly f.1 = j) (hr : ∀ x ∈ O, ly (lk x.1) = j → rG x LH L) (hnr : K = [] ∨ ¬ rc j) : St O P (qC O ly gv (j + 1)) B L ∧ ∀ x ∈ O, ly (lk x.1) = j → wy L x ≤ 100000 := by
  obtain ⟨h1, h2, h3, h4⟩ := hly
  have hno : ∀ x ∈ O, ly (lk x.1) = j → ∀ l ∈ x.2, l.1 ≠ 2 → ∀ f ∈ K, f.1 ≠ lk l := by
    intro x hx hxj l hl k2 f hf e
    rcases hnr with z | z
    · rw [z] at hf
      exact absurd hf (by simp)
    · obtain ⟨a, b⟩ := hK f hf
      rw [e] at a b
      have := ((h4 x hx l hl k2).1 a).2 (by rw [hxj]; exact z)
      omega
  refine ⟨?_, fun x hx hxj => ?_⟩
  · have := hst.close (HS := fun y => (∃ r ∈ O, lk r.1 = y) ∧ ly y = j) (fun r hr1 hS l hl k2 => ?_) (fun r hr1 hS σ ha hb => ?_) (fun B' hP f hf hS => ?_)
    · refine this.iff (fun y => ?_)
      unfold qC
      constructor
      · rintro ((z | z) | z)
        · exact Or.inl z
        · exact Or.inr ⟨z.1, by omega⟩
        · exact Or.inr ⟨z.1, by omega⟩
      · rintro (z | z)
        · exact Or.inl (Or.inl z)
        · by_cases e : ly y = j
          · exact Or.inr ⟨z.1, e⟩
          · exact Or.inl (Or.inr ⟨z.1, by omega⟩)
    · by_cases hh : ∃ y ∈ O, lk y.1 = lk l
      · have hle := ((h4 r hr1 l hl k2).1 hh).1
        rw [hS.2] at hle
        by_cases e : ly (lk l) = j
        · exact Or.inr ⟨hh, e⟩
        · exact Or.inl (Or.inr ⟨hh, by omega⟩)
      · have hh' : ∀ y ∈ O, lk y.1 ≠ lk l := fun y hy e => hh ⟨y, hy, e⟩
        exact Or.inl (Or.inl ⟨hh', hgv r hr1 hS.2 l hl k2 hh'⟩)
    · refine (hr r hr1 hS.2).2 σ ha (fun l hl k0 => ?_) (fun l hl => ⟨fun k1 z => (hb l hl).2.1 k1 (by rw [eK]; exact List.mem_append_left _ z), (hb l hl).2.2⟩)
      have hin := (hb l hl).1 k0
      rw [eK] at hin
      rcases List.mem_append.mp hin with z | z
      · exact z
      · exact absurd rfl (hno r hr1 hS.2 l hl (by rw [k0]; decide) _ z)
    · exfalso
      obtain ⟨⟨y, hy, e⟩, _⟩ := hS
      obtain ⟨_, _, _, n1, n2, _⟩ := h1 y hy
      rcases hPT B' hP f hf with z | z
      · exact n1 (by rw [e, z])
      · exact n2 (by rw [e, z])
  · rw [wy_same (M := LH) (fun l hl k0 => by rw [eK]; exact cnt_app (hno x hx hxj l hl (by rw [k0]; decide)))]
    exact (hr x hx hxj).1
/-- what close comes to -/
def clR (O : List Rl) (P : List Fct → Prop) (ly : Nat → Nat) (gv : Nat → Prop) (j : Nat) (B : List Fct) (s0 : cS) (L0 : List Fct) (s' : cS) (L' : List Fct) : Prop := cfr s0 s' ∧ cFacts s' L' ∧ (∃ K, L' = L0 ++ K ∧ ∀ f ∈ K, (∃ y ∈ O, lk y.1 = f.1) ∧ ly f.1 = j) ∧ s'.2.1 16 0 = 0 ∧ ((s'.1 130 = 1 ∧ Bad O P) ∨ (s'.1 130 = 0 ∧ St O P (qC O ly gv (j + 1)) B L' ∧ ∀ x ∈ O, ly (lk x.1) = j → wy L' x ≤ 100000))
theorem cl_round {N0 : Nat} {K : Nat → Nat} {d C z n bf : Nat} {G : gm_H} {sz sl : Nat} {O : List Rl} {P : List Fct → Prop} {ly st : Nat → Nat} {e0 e1 e2 : Nat} {rc gv : Nat → Prop} {j : Nat} {B : List Fct} {s0 : cS} {L0 : List Fct} {s : cS} {L : List Fct} {Q : Unit → cS → Prop} (hN : N0 ≤ C) (hly : LyC O ly st e0 e1 e2 rc) (hgv : ∀ x ∈ O, ly (lk x.1) = j → ∀ l ∈ x.2, l.1 ≠ 2 → (∀ r ∈ O, lk r.1 ≠ lk l) → gv (lk l)) (hPT : ∀ B', P B' → TD B') (hpl : pLay G C z O st e0 e1 e2 rc) (hz : s0.2.2 101 = some z) (hj : j < e2) (q : ∀ s' L', clR O P ly gv j B s0 L0 s' L' → Q () s') (hn : n ≤ 200) (hbf : bf ≤ L.length) (hfr : cfr s0 s) (hI : jI O P (qC O ly gv j) B s L) (hL : ∃ K, L = L0 ++ K ∧ ∀ f ∈ K, (∃ y ∈ O, lk y.1 = f.1) ∧ ly f.1 = j) (h16 : s.2.1 16 0 = 0) (hpre : n ≠ 0 → ∀ x ∈ O, ly (lk x.1) = j → rG x (L.take bf) L) (hnx : ∀ s2 L2, L.length < L2.length → cfr s0 s2 → jI O P (qC O ly gv j) B s2 L2 → (∃ K, L2 = L0 ++ K ∧ ∀ f ∈ K, (∃ y ∈ O, lk y.1 = f.1) ∧ ly f.1 = j) → s2.2.1 16 0 = 0 → (∀ x ∈ O, ly (lk x.1) = j → rG x (L2.take L.length) L2) → hX2_close_4 N0 K (d + 13) C (nI j) (nI L.length) (nI (n + 1)) s2 G sz sl Q) : hX2_close_4 N0 K (d + 13) C (nI j) (nI bf) (nI n) s G sz sl Q := by
  obtain ⟨o, t, g, fo, ft, fe, v, ⟨cz, co, ct, cg⟩, gz, go, gt, gg, hbs, hO, hft, _⟩ := id hpl
  obtain ⟨h1, ⟨h2, h2a, h2b, h2c, h2d⟩, h3, h4⟩ := id hly
  have hst := h2d (j + 1) (by omega)
  have hst0 := h2d j (by omega)
  have h200 := hI.1.2.1
  refine TX2_close_4 hN ?_
  rw [if_neg (by rw [show (200 : Int32) = nI 200 from rfl]; exact nI_nlt hn (by decide))]
  refine ⟨z, by rw [hfr.2.2]; exact hz, _, gz, t, rfl, cz, j, rfl, 25, ft, gt, by decide, ct, by omega, ?_⟩
  rw [hft j (by omega)]
  have hW0 : cW O P ly gv j (bf + 1) B s0 L (cI (cI s 106 (nI bf + 1)) 107 (s.1 129)) L := by
    refine ⟨hfr.trans ((cfr.i s _ (by simp)).trans (cfr.i _ _ (by simp))), ⟨hI.1.fr rfl (fun _ _ _ => rfl), hI.2.1, hI.2.2⟩, ⟨[], by simp, fun f hf => absurd hf (by simp)⟩, h16, ?_, ?_⟩
    · show nI bf + 1 = _
      rw [nI_1]
    · exact hI.1.1
  obtain ⟨K0, eK0, hK0⟩ := hL
  have hu3 : nI n ≠ 0 → n ≠ 0 := fun z y => z (by rw [y]; rfl)
  refine cl_40 (LH := L) hN hly hgv hpl hz hj hbf (fun z => hpre (hu3 z)) (fun s2 L2 hW2 hd2 => ?_) (st (j + 1) - st j) (st j) _ L (by omega) (Nat.le_refl _) hW0 (fun hb p' x hp' hx' hj' => ?_) (by omega)
  · obtain ⟨w1, w2, ⟨K1, w3, w4⟩, w5, w6, w7⟩ := id hW2
    have hK2 : ∃ K, L2 = L0 ++ K ∧ ∀ f ∈ K, (∃ y ∈ O, lk y.1 = f.1) ∧ ly f.1 = j := by
      refine ⟨K0 ++ K1, by rw [w3, eK0, List.append_assoc], fun f hf => ?_⟩
      rcases List.mem_append.mp hf with y | y
      · exact hK0 f y
      · exact w4 f y
    have hl2 : L2.length = L.length + K1.length := by rw [w3, List.length_append]
    have h2200 := w2.1.2.1
    by_cases hb : s2.1 130 = 0
    · rw [if_pos hb]
      have fin : (K1 = [] ∨ ¬ rc j) → Q () s2 := by
        intro hnr
        have := cl_done hly hgv hPT w2.2.1 w3 w4 (hd2 hb) hnr
        exact q s2 L2 ⟨w1, w2.1, hK2, w5, Or.inr ⟨hb, this⟩⟩
      rw [w2.1.1, w7]
      by_cases heq : L2.length = L.length
      · rw [if_pos (by rw [heq])]
        exact fin (Or.inl (List.length_eq_zero_iff.mp (by omega)))
      · rw [if_neg (fun y => heq ((nI_eq (by omega) (by omega)).mp y))]
        refine kq_isRecursive cz gz hbs (by omega) (fun hrc => ?_) (fun hrc => ?_)
        · rw [if_neg (by decide), nI_1]
          refine hnx s2 L2 (by omega) w1 w2 hK2 w5 (fun x hx hxj => ?_)
          rw [show L2.take L.length = L by rw [w3, List.take_left']; rfl]
          exact hd2 hb x hx hxj
        · rw [if_pos rfl]
          exact fin (Or.inr hrc)
    · rw [if_neg hb]
      rcases w2.2.2 with y | y
      · exact absurd y hb
      · exact q s2 L2 ⟨w1, w2.1, hK2, w5, Or.inl y⟩
  · exfalso
    have hp24 : p' < O.length := (List.getElem?_eq_some_iff.mp hx').1
    have := (h3 j p' x hj hx').mpr hj'
    omega
theorem cl_4 {N0 : Nat} {K : Nat → Nat} {d C z : Nat} {G : gm_H} {sz sl : Nat} {O : List Rl} {P : List Fct → Prop} {ly st : Nat → Nat} {e0 e1 e2 : Nat} {rc gv : Nat → Prop} {j : Nat} {B : List Fct} {s0 : cS} {L0 : List Fct} {Q : Unit → cS → Prop} (hN : N0 ≤ C) (hly : LyC O ly st e0 e1 e2 rc) (hgv : ∀ x ∈ O, ly (lk x.1) = j → ∀ l ∈ x.2, l.1 ≠ 2 → (∀ r ∈ O, lk r.1 ≠ lk l) → gv (lk l)) (hPT : ∀ B', P B' → TD B') (hpl : pLay G C z O st e0 e1 e2 rc) (hz : s0.2.2 101 = some z) (hj : j < e2) (q : ∀ s' L', clR O P ly gv j B s0 L0 s' L' → Q () s') : ∀ (m n bf : Nat) (s : cS) (L : List Fct), n + m = 200 → n ≤ L.length → bf ≤ L.length → cfr s0 s → jI O P (qC O ly gv j) B s L → (∃ K, L = L0 ++ K ∧ ∀ f ∈ K, (∃ y ∈ O, lk y.1 = f.1) ∧ ly f.1 = j) → s.2.1 16 0 = 0 → (n ≠ 0 → ∀ x ∈ O, ly (lk x.1) = j → rG x (L.take bf) L) → hX2_close_4 N0 K (d + 13) C (nI j) (nI bf) (nI n) s G sz sl Q := by
  intro m
  induction m with
  | zero =>
    intro n bf s L hn hnL hbf hfr hI hL h16 hpre
    refine cl_round hN hly hgv hPT hpl hz hj q (by omega) hbf hfr hI hL h16 hpre (fun s2 L2 hlt _ hI2 _ _ _ => ?_)
    have := hI2.1.2.1
    omega
  | succ m ih =>
    intro n bf s L hn hnL hbf hfr hI hL h16 hpre
    exact cl_round hN hly hgv hPT hpl hz hj q (by omega) hbf hfr hI hL h16 hpre (fun s2 L2 hlt a1 a2 a3 a4 a5 => ih (n + 1) L.length s2 L2 (by omega) (by omega) (by omega) a1 a2 a3 a4 (fun _ => a5))
theorem cq_close {N0 : Nat} {K : Nat → Nat} {d C z : Nat} {G : gm_H} {sz : Nat} {O : List Rl} {P : List Fct → Prop} {ly st : Nat → Nat} {e0 e1 e2 : Nat} {rc gv : Nat → Prop} {j : Nat} {B : List Fct} {s : cS} {L : List Fct} {Q : Unit → cS → Prop} (hN : N0 ≤ C) (hly : LyC O ly st e0 e1 e2 rc) (hgv : ∀ x ∈ O, ly (lk x.1) = j → ∀ l ∈ x.2, l.1 ≠ 2 → (∀ r ∈ O, lk r.1 ≠ lk l) → gv (lk l)) (hPT : ∀ B', P B' → TD B') (hpl : pLay G C z O st e0 e1 e2 rc) (hz : s.2.2 101 = some z) (hj : j < e2) (hL : cFacts s L) (hst : St O P (qC O ly gv j) B L) (hb : s.1 130 = 0) (h16 : s.2.1 16 0 = 0) (q : ∀ s' L', clR O P ly gv j B s L s' L' → Q () s') : kX2_close N0 K (d + 14) C (nI j) s G sz Q := by
  refine kX2_close.of (TX2_close_0 hN ?_)
  exact cl_4 hN hly hgv hPT hpl hz hj q 200 0 0 s L (by omega) (by omega) (by omega) (cfr.refl s) ⟨hL, hst, Or.inl hb⟩ ⟨[], by simp, fun f hf => absurd hf (by simp)⟩ h16 (fun y => absurd rfl y)
/-- beyond: nothing more is done -/
theorem cl_96b {N0 : Nat} {K : Nat → Nat} {d C a : Nat} {x1 x3 x4 : Int32} {G : gm_H} {sz sl : Nat} {s : cS} {Q : Unit → cS → Prop} (hN : N0 ≤ C) (hb : s.1 130 ≠ 0) (q : hX2_close_40 N0 K (d + 1) C x1 x3 (x4 + 1) s G sz sl Q) : hX2_close_96 N0 K (d + 1) C x1 x3 x4 a (-1) (-1) s G sz sl Q := by
  refine TX2_close_96 hN ?_
  rw [if_neg (by decide)]
  refine kX2_isDue.of (TX2_isDue_0 hN ?_)
  rw [if_neg hb, if_pos rfl]
  refine TX2_close_96 hN ?_
  rw [if_pos (by decide)]
  exact q
theorem cq_closeb {N0 : Nat} {K : Nat → Nat} {d C z : Nat} {G : gm_H} {sz : Nat} {O : List Rl} {ly st : Nat → Nat} {e0 e1 e2 : Nat} {rc : Nat → Prop} {j : Nat} {s : cS} {Q : Unit → cS → Prop} (hN : N0 ≤ C) (hly : LyC O ly st e0 e1 e2 rc) (hpl : pLay G C z O st e0 e1 e2 rc) (hz : s.2.2 101 = some z) (hj : j < e2) (hb : s.1 130 ≠ 0) (q : ∀ s', cfr s s' → s'.1 129 = s.1 129 → s'.1 130 = s.1 130 → s'.2.1 = s.2.1 → Q () s') : kX2_close N0 K (d + 14) C (nI j) s G sz Q := by
  obtain ⟨o, t, g, fo, ft, fe, v, ⟨cz, co, ct, cg⟩, gz, go, gt, gg, hbs, hO, hft, _⟩ := id hpl
  obtain ⟨h1, ⟨h2, h2a, h2b, h2c, h2d⟩, h3, h4⟩ := id hly
  have hst := h2d (j + 1) (by omega)
  have hst0 := h2d j (by omega)
  refine kX2_close.of (TX2_close_0 hN (TX2_close_4 hN ?_))
  rw [if_neg (by decide)]
  refine ⟨z, hz, _, gz, t, rfl, cz, j, rfl, 25, ft, gt, by decide, ct, by omega, ?_⟩
  rw [hft j (by omega)]
  have key : ∀ (m p : Nat), p + m = st (j + 1) ∨ (st (j + 1) ≤ p ∧ m = 0) → p ≤ 24 → hX2_close_40 N0 K (d + 13) C (nI j) 0 (nI p) (cI (cI s 106 (0 + 1)) 107 (s.1 129)) G sz 0 Q := by
    intro m
    induction m with
    | zero =>
      intro p hp hp24
      refine TX2_close_40 hN ⟨z, hz, _, gz, t, rfl, cz, j + 1, by rw [nI_1], 25, ft, gt, by decide, ct, by omega, ?_⟩
      rw [hft (j + 1) (by omega), if_pos (nI_le (by omega) (by omega)), if_neg (show ¬ (cI (cI s 106 (0 + 1)) 107 (s.1 129)).1 130 = 0 from hb)]
      exact q _ ((cfr.i s _ (by simp)).trans (cfr.i _ _ (by simp))) rfl rfl rfl
    | succ m ih =>
      intro p hp hp24
      have hpO : p < O.length := by omega
      obtain ⟨a, ha, _⟩ := hO p _ (List.getElem?_eq_getElem hpO)
      refine TX2_close_40 hN ⟨z, hz, _, gz, t, rfl, cz, j + 1, by rw [nI_1], 25, ft, gt, by decide, ct, by omega, ?_⟩
      rw [hft (j + 1) (by omega), if_neg (nI_ge (by omega) (by omega))]
      refine ⟨o, rfl, p, rfl, 24, fo, go, by decide, co, by omega, a, ha, ?_⟩
      rw [if_pos rfl]
      refine cl_96b (d := d + 12) hN hb ?_
      rw [nI_1]
      exact ih (p + 1) (by omega) (by omega)
  exact key (st (j + 1) - st j) (st j) (by omega) (by omega)
