/-! the class: close, a rule in a later round -/
/-- what the steps below k have given: all whose first new fact stands there -/
def cov (x : Rl) (LH : List Fct) (bf k : Nat) (L : List Fct) : Prop := ∀ σ, adm x σ → (∀ l ∈ x.2, l.1 = 0 → sL σ l ∈ LH) → agr LH x σ → (∃ k' l', k' < k ∧ x.2[k']? = some l' ∧ l'.1 = 0 ∧ ¬ sL σ l' ∈ LH.take bf ∧ ∀ (j : Nat) l, j < k' → x.2[j]? = some l → l.1 = 0 → sL σ l ∈ LH.take bf) → sL σ x.1 ∈ L
theorem cov.up {x : Rl} {LH : List Fct} {bf k : Nat} {L L' : List Fct} (h : cov x LH bf k L) (g : ∀ f, f ∈ L → f ∈ L') : cov x LH bf k L' := fun σ a b c e => g _ (h σ a b c e)
theorem isNew.up {x : Rl} {LH L K : List Fct} {low k : Nat} (e : L = LH ++ K) (h : isNew x LH low k) : isNew x L low k := by
  obtain ⟨l, h1, h2, i, f, h3, h4, h5⟩ := h
  exact ⟨l, h1, h2, i, f, h3, by rw [e, List.getElem?_append_left (List.getElem?_eq_some_iff.mp h4).1]; exact h4, h5⟩
theorem mem_take_get {L : List Fct} {n i : Nat} {f : Fct} (h : L[i]? = some f) (hi : i < n) : f ∈ L.take n := by
  refine List.mem_of_getElem? (i := i) ?_
  rw [List.getElem?_take, if_pos hi]
  exact h
theorem get_take_mem {L : List Fct} {n : Nat} {f : Fct} (h : f ∈ L.take n) : ∃ i, i < n ∧ L[i]? = some f := by
  obtain ⟨i, hi, e⟩ := List.getElem_of_mem h
  have hi' : i < n := by rw [List.length_take] at hi; omega
  refine ⟨i, hi', ?_⟩
  have : (L.take n)[i]? = some f := by rw [List.getElem?_eq_getElem hi, e]
  rw [List.getElem?_take, if_pos hi'] at this
  exact this
theorem cl_steps {N0 : Nat} {K : Nat → Nat} {d C a bf : Nat} {u1 u3 u4 : Int32} {G : gm_H} {sz sl : Nat} {O : List Rl} {P : List Fct → Prop} {ly st : Nat → Nat} {e0 e1 e2 : Nat} {rc gv : Nat → Prop} {j : Nat} {B : List Fct} {x : Rl} {s0 : cS} {LH : List Fct} {sS : cS} {LS : List Fct} {Q : Unit → cS → Prop} (hN : N0 ≤ C) (hly : LyC O ly st e0 e1 e2 rc) (hgv : ∀ x ∈ O, ly (lk x.1) = j → ∀ l ∈ x.2, l.1 ≠ 2 → (∀ r ∈ O, lk r.1 ≠ lk l) → gv (lk l)) (hx : x ∈ O) (hj : ly (lk x.1) = j) (hp : pRule G C a x (flOf x)) (hbf : bf ≤ LH.length) (hpre : rG x (LH.take bf) LH) (q : ∀ s' L', cW O P ly gv j (bf + 1) B s0 LH s' L' → (∀ f, f ∈ LS → f ∈ L') → (sS.1 130 ≠ 0 → s'.1 130 ≠ 0) → (s'.1 130 = 0 → rG x LH L') → hX2_close_40 N0 K (d + 13) C u1 u3 (u4 + 1) s' G sz sl Q) : ∀ (m k : Nat) (s : cS) (L : List Fct), k + m = x.2.length → cW O P ly gv j (bf + 1) B s0 LH s L → (∀ f, f ∈ LS → f ∈ L) → (sS.1 130 ≠ 0 → s.1 130 ≠ 0) → (s.1 130 = 0 → cov x LH bf k L ∧ (wy LH x ≤ 100000 ∨ ∀ k', k' < k → ¬ isNew x LH (bf + 1) k')) → hX2_close_96 N0 K (d + 13) C u1 u3 u4 a (nI x.2.length - 1) (nI k) s G sz sl Q := by
  have hc := hly.ctx hgv hx hj
  have h5 := hc.2.1.2.1
  have hpos : ∀ σ, (∀ l ∈ x.2, l.1 = 0 → sL σ l ∈ LH) → 0 < wy LH x := fun σ hσ => wy_pos (fun l hl k0 => ⟨_, hσ l hl k0, rfl⟩)
  intro m
  induction m with
  | zero =>
    intro k s L hk hW hLS hmono hcov
    have hlt : nI x.2.length - 1 < nI k := by
      rw [show k = x.2.length by omega]
      have : ∀ n, n < 6 → nI n - 1 < nI n := by decide
      exact this _ (by omega)
    refine TX2_close_96 hN ?_
    rw [if_pos hlt]
    refine q s L hW hLS hmono (fun z => ?_)
    obtain ⟨hc1, hc2⟩ := hcov z
    have hsub := hW.sub
    refine ⟨?_, fun σ ha hσ hag => ?_⟩
    · rcases hc2 with y | y
      · exact y
      · rw [wy_same (L := LH) (M := LH.take bf) (fun l hl k0 => ?_)]
        · exact hpre.1
        · obtain ⟨k', hk', el⟩ := List.getElem_of_mem hl
          have hny := y k' (by omega)
          have hd : LH = LH.take bf ++ LH.drop bf := (List.take_append_drop bf LH).symm
          rw (occs := .pos [1]) [hd]
          refine cnt_app (fun f hf e => hny ?_)
          obtain ⟨i, hi, ei⟩ := List.getElem_of_mem hf
          refine ⟨l, by rw [List.getElem?_eq_getElem hk', el], k0, bf + i, f, by omega, ?_, e⟩
          rw [← List.getElem?_drop, List.getElem?_eq_getElem hi, ei]
    · by_cases hall : ∀ l ∈ x.2, l.1 = 0 → sL σ l ∈ LH.take bf
      · exact hsub.2.1 _ (hpre.2 σ ha hall (fun l hl => ⟨fun k1 z => (hag l hl).1 k1 (List.mem_of_mem_take z), (hag l hl).2⟩))
      · refine hc1 σ ha hσ hag ?_
        have hex : ∃ k' : Nat, ∃ l', x.2[k']? = some l' ∧ l'.1 = 0 ∧ ¬ sL σ l' ∈ LH.take bf := by
          simp only [Classical.not_forall] at hall
          obtain ⟨l, hl, k0, hn⟩ := hall
          obtain ⟨k', hk', el⟩ := List.getElem_of_mem hl
          exact ⟨k', l, by rw [List.getElem?_eq_getElem hk', el], k0, hn⟩
        have hmin : ∀ n : Nat, (∃ k' : Nat, k' < n ∧ ∃ l', x.2[k']? = some l' ∧ l'.1 = 0 ∧ ¬ sL σ l' ∈ LH.take bf) → ∃ k' : Nat, k' < n ∧ (∃ l', x.2[k']? = some l' ∧ l'.1 = 0 ∧ ¬ sL σ l' ∈ LH.take bf) ∧ ∀ i : Nat, i < k' → ¬ ∃ l', x.2[i]? = some l' ∧ l'.1 = 0 ∧ ¬ sL σ l' ∈ LH.take bf := by
          intro n
          induction n with
          | zero => rintro ⟨k', z, _⟩; omega
          | succ n ih =>
            intro hh
            by_cases h1 : ∃ k' : Nat, k' < n ∧ ∃ l', x.2[k']? = some l' ∧ l'.1 = 0 ∧ ¬ sL σ l' ∈ LH.take bf
            · obtain ⟨k', a1, a2, a3⟩ := ih h1
              exact ⟨k', by omega, a2, a3⟩
            · obtain ⟨k', a1, a2⟩ := hh
              refine ⟨k', a1, a2, fun i hi z => h1 ⟨i, by omega, z⟩⟩
        obtain ⟨k1, hk1⟩ := hex
        obtain ⟨k', _, ⟨l', b1, b2, b3⟩, b4⟩ := hmin (k1 + 1) ⟨k1, by omega, hk1⟩
        have := (List.getElem?_eq_some_iff.mp b1).1
        refine ⟨k', l', by omega, b1, b2, b3, fun i l hi hl k0 => ?_⟩
        apply Classical.byContradiction
        intro hn
        exact b4 i hi ⟨l, hl, k0, hn⟩
  | succ m ih =>
    intro k s L hk hW hLS hmono hcov
    have hkl : k < x.2.length := by omega
    have hsub := hW.sub
    obtain ⟨w1, w2, ⟨K1, w3, w4⟩, w5, w6, w7⟩ := id hW
    have h200 := w2.1.2.1
    have hlL : LH.length ≤ L.length := by rw [w3, List.length_append]; omega
    have hnlt : ¬ nI x.2.length - 1 < nI k := by
      have e : nI x.2.length - 1 = nI (x.2.length - 1) := by
        rw [show x.2.length = (x.2.length - 1) + 1 by omega, nI_pred]
        rfl
      rw [e]
      exact nI_nlt (by omega) (by omega)
    refine TX2_close_96 hN ?_
    rw [if_neg hnlt, nI_1]
    have next : ∀ s' L', cW O P ly gv j (bf + 1) B s0 LH s' L' → (∀ f, f ∈ L → f ∈ L') → (s.1 130 ≠ 0 → s'.1 130 ≠ 0) → (s'.1 130 = 0 → cov x LH bf (k + 1) L' ∧ (wy LH x ≤ 100000 ∨ ∀ k', k' < k + 1 → ¬ isNew x LH (bf + 1) k')) → hX2_close_96 N0 K (d + 13) C u1 u3 u4 a (nI x.2.length - 1) (nI (k + 1)) s' G sz sl Q := fun s' L' h1 h2 h3 h4 => ih (k + 1) s' L' (by omega) h1 (fun f hf => h2 f (hLS f hf)) (fun z => h3 (hmono z)) h4
    have cov1 : s.1 130 = 0 → (∀ σ, adm x σ → (∀ l ∈ x.2, l.1 = 0 → sL σ l ∈ LH) → agr LH x σ → ∀ l', x.2[k]? = some l' → l'.1 = 0 → ¬ sL σ l' ∈ LH.take bf → (∀ (i : Nat) l, i < k → x.2[i]? = some l → l.1 = 0 → sL σ l ∈ LH.take bf) → sL σ x.1 ∈ L) → cov x LH bf (k + 1) L := by
      intro hz h σ ha hσ hag hex
      obtain ⟨k', l', b1, b2, b3, b4, b5⟩ := hex
      by_cases e : k' = k
      · subst e
        exact h σ ha hσ hag l' b2 b3 b4 b5
      · exact (hcov hz).1 σ ha hσ hag ⟨k', l', by omega, b2, b3, b4, b5⟩
    refine cq_due hN hp hc.2.1 w2.1 hkl w6 (by omega) (by omega) (fun hb => ?_) (fun hb hnn => ?_) (fun hb _ hz => ?_) (fun hb _ hle _ => ?_) (fun hb hx' => ?_)
    · rw [if_pos rfl]
      exact next s L hW (fun f hf => hf) (fun z => z) (fun z => absurd z hb)
    · rw [if_pos rfl]
      refine next s L hW (fun f hf => hf) (fun z => z) (fun _ => ⟨cov1 hb (fun σ ha hσ hag l' b2 b3 b4 _ => ?_), ?_⟩)
      · exfalso
        obtain ⟨i, hi, ei⟩ := List.getElem_of_mem (hσ l' (List.mem_of_getElem? b2) b3)
        have hge : bf ≤ i := by
          apply Classical.byContradiction
          intro hlt
          exact b4 (mem_take_get (by rw [List.getElem?_eq_getElem hi, ei]) (by omega))
        exact hnn ⟨l', b2, b3, i, sL σ l', by omega, by rw [w3, List.getElem?_append_left hi, List.getElem?_eq_getElem hi, ei], rfl⟩
      · rcases (hcov hb).2 with y | y
        · exact Or.inl y
        · refine Or.inr (fun k' hk' z => ?_)
          by_cases e : k' = k
          · subst e
            exact hnn (isNew.up w3 z)
          · exact y k' (by omega) z
    · rw [if_pos rfl]
      have hw0 := hsub.2.2 x
      refine next s L hW (fun f hf => hf) (fun z => z) (fun _ => ⟨cov1 hb (fun σ ha hσ _ _ _ _ _ _ => ?_), Or.inl (by omega)⟩)
      have := hpos σ hσ
      omega
    · rw [if_neg (by decide)]
      have hw0 := hsub.2.2 x
      refine cl_join (lo := fun i => if i = k then bf + 1 else 1) (hi := fun i => if k ≤ i then LH.length else bf) hN hly hgv hx hj hp hW (fun j' hj' => ?_) (fun r s' L' h1 h2 h3 h4 => next s' L' h1 h2 h3 (fun z => ⟨fun σ ha hσ hag hex => ?_, Or.inl (by omega)⟩))
      · refine ⟨?_, ?_, ?_, ?_, ?_⟩
        · show (if nI j' = nI k then s.1 106 else 1) = nI (if j' = k then bf + 1 else 1)
          by_cases e : j' = k
          · rw [if_pos (by rw [e]), if_pos e]
            exact w6
          · rw [if_neg (fun z => e ((nI_eq (by omega) (by omega)).mp z)), if_neg e]
            rfl
        · show (if nI k ≤ nI j' then s.1 107 else s.1 106 - 1) = nI (if k ≤ j' then LH.length else bf)
          by_cases e : k ≤ j'
          · rw [if_pos (nI_le e (by omega)), if_pos e]
            exact w7
          · rw [if_neg (nI_ge (by omega) (by omega)), if_neg e, w6, nI_pred]
        · show 1 ≤ (if j' = k then bf + 1 else 1)
          split <;> omega
        · show (if j' = k then bf + 1 else 1) ≤ 201
          split <;> omega
        · show (if k ≤ j' then LH.length else bf) ≤ LH.length
          split <;> omega
      · obtain ⟨k', l', b1, b2, b3, b4, b5⟩ := hex
        by_cases e : k' = k
        · subst e
          refine h4 z σ ha (fun c t _ ht => absurd ht (by simp)) (fun i l _ hl => ?_)
          have hlx := List.mem_of_getElem? hl
          refine ⟨fun k0 => ?_, (hag l hlx).1, (hag l hlx).2⟩
          by_cases c1 : i < k'
          · obtain ⟨w, hw1, hw2⟩ := get_take_mem (b5 i l c1 hl k0)
            refine ⟨w, ?_, ?_, hw2⟩
            · show (if i = k' then bf + 1 else 1) ≤ w + 1
              rw [if_neg (by omega)]
              omega
            · show w + 1 ≤ (if k' ≤ i then LH.length else bf)
              rw [if_neg (by omega)]
              omega
          · obtain ⟨w, hw1, hw2⟩ := List.getElem_of_mem (hσ l hlx k0)
            have hw3 : LH[w]? = some (sL σ l) := by rw [List.getElem?_eq_getElem hw1, hw2]
            refine ⟨w, ?_, ?_, hw3⟩
            · show (if i = k' then bf + 1 else 1) ≤ w + 1
              by_cases c2 : i = k'
              · subst c2
                rw [if_pos rfl]
                rw [b2] at hl
                cases hl
                apply Classical.byContradiction
                intro hlt
                exact b4 (mem_take_get hw3 (by omega))
              · rw [if_neg c2]
                omega
            · show w + 1 ≤ (if k' ≤ i then LH.length else bf)
              rw [if_pos (by omega)]
              exact hw1
        · have hz : s.1 130 = 0 := by
            rcases w2.2.2 with y | ⟨y, _⟩
            · exact y
            · exact absurd z (h3 (by rw [y]; decide))
          exact h2 _ ((hcov hz).1 σ ha hσ hag ⟨k', l', by omega, b2, b3, b4, b5⟩)
    · rw [if_pos rfl]
      refine next (cI s 130 1) L ⟨w1.trans (cfr.i s 1 (by simp)), ⟨w2.1.fr rfl (fun _ _ _ => rfl), w2.2.1, Or.inr ⟨rfl, w2.2.1.bad_wy hx hx'⟩⟩, ⟨K1, w3, w4⟩, w5, w6, w7⟩ (fun f hf => hf) (fun _ => (by decide : ¬ (1 : Int32) = 0)) (fun z => absurd z (by decide : ¬ (1 : Int32) = 0))
