/-! the class: close, one rule in one round -/
def pLay (G : gm_H) (C z : Nat) (O : List Rl) (st : Nat → Nat) (e0 e1 e2 : Nat) (rc : Nat → Prop) : Prop := ∃ o t g fo ft fe v, (C + 34 ≤ z ∧ C + 34 ≤ o ∧ C + 34 ≤ t ∧ C + 34 ≤ g) ∧ G z = some (.inr (4, [.ref o, .ref t, .ref g, .int v])) ∧ G o = some (rarr fo) ∧ G t = some (iarr 25 ft) ∧ G g = some (iarr 3 fe) ∧ bs v rc ∧ (∀ (p : Nat) x, O[p]? = some x → ∃ a, fo p = some a ∧ pRule G C a x (flOf x)) ∧ (∀ j, j ≤ e2 → ft j = nI (st j)) ∧ fe 0 = nI e0 ∧ fe 1 = nI e1 ∧ fe 2 = nI e2
def LyC (O : List Rl) (ly st : Nat → Nat) (e0 e1 e2 : Nat) (rc : Nat → Prop) : Prop := (∀ x ∈ O, wfR x ∧ (∀ c, chV c → rV x c → ∃ l ∈ x.2, l.1 = 0 ∧ inL l c) ∧ (∀ (j : Nat) l, x.2[j]? = some l → l.1 ≠ 0 → ∀ c, chV c → inL l c → ub x.2 j c = false) ∧ lk x.1 ≠ 337 ∧ lk x.1 ≠ 274 ∧ ly (lk x.1) < e2) ∧ (O.length ≤ 24 ∧ e0 ≤ e1 ∧ e1 ≤ e2 ∧ e2 ≤ 24 ∧ ∀ j, j ≤ e2 → st j ≤ O.length) ∧ (∀ j (p : Nat) x, j < e2 → O[p]? = some x → ((st j ≤ p ∧ p < st (j + 1)) ↔ ly (lk x.1) = j)) ∧ (∀ x ∈ O, ∀ l ∈ x.2, l.1 ≠ 2 → ((∃ y ∈ O, lk y.1 = lk l) → ly (lk l) + kd l ≤ ly (lk x.1) ∧ (¬ rc (ly (lk x.1)) → ly (lk l) < ly (lk x.1))) ∧ (ly (lk x.1) < e0 → lk l ≠ 337 ∧ lk l ≠ 274) ∧ (ly (lk x.1) < e1 → lk l ≠ 274))
/-- what is done: relations without rules, as gv says, and the layers below k -/
def qC (O : List Rl) (ly : Nat → Nat) (gv : Nat → Prop) (k x : Nat) : Prop := ((∀ r ∈ O, lk r.1 ≠ x) ∧ gv x) ∨ ((∃ r ∈ O, lk r.1 = x) ∧ ly x < k)
theorem LyC.ctx {O : List Rl} {ly st : Nat → Nat} {e0 e1 e2 : Nat} {rc : Nat → Prop} (h : LyC O ly st e0 e1 e2 rc) {gv : Nat → Prop} {j : Nat} (hgv : ∀ x ∈ O, ly (lk x.1) = j → ∀ l ∈ x.2, l.1 ≠ 2 → (∀ r ∈ O, lk r.1 ≠ lk l) → gv (lk l)) {x : Rl} (hx : x ∈ O) (hj : ly (lk x.1) = j) : cCtx O x (qC O ly gv j) (flOf x) := by
  obtain ⟨h1, h2, h3, h4⟩ := h
  obtain ⟨a1, a2, a3, _⟩ := h1 x hx
  refine ⟨hx, a1, fun l hl k1 => ?_, fun z => ?_, fun c _ => flOf_iff x c, a2, a3⟩
  · have k2 : l.1 ≠ 2 := by rw [k1]; decide
    by_cases hr : ∃ y ∈ O, lk y.1 = lk l
    · have := ((h4 x hx l hl k2).1 hr).1
      have kk : kd l = 1 := by unfold kd; rw [if_pos k1]
      exact Or.inr ⟨hr, by omega⟩
    · have hr' : ∀ r ∈ O, lk r.1 ≠ lk l := fun r hr1 e => hr ⟨r, hr1, e⟩
      exact Or.inl ⟨hr', hgv x hx hj l hl k2 hr'⟩
  · rcases z with z | z
    · exact z.1 x hx rfl
    · omega
/-- all as it was but the facts, the bound terms and the numbers of a round -/
def cfr (s s' : cS) : Prop := (∀ i, i ≠ 129 → i ≠ 130 → i ≠ 105 → i ≠ 106 → i ≠ 107 → s'.1 i = s.1 i) ∧ (∀ i, i < 7 ∨ 16 < i → s'.2.1 i = s.2.1 i) ∧ s'.2.2 = s.2.2
theorem cfr.refl (s : cS) : cfr s s := ⟨fun _ _ _ _ _ _ => rfl, fun _ _ => rfl, rfl⟩
theorem cfr.trans {s s' s'' : cS} (h : cfr s s') (g : cfr s' s'') : cfr s s'' := ⟨fun i a b c d e => (g.1 i a b c d e).trans (h.1 i a b c d e), fun i a => (g.2.1 i a).trans (h.2.1 i a), g.2.2.trans h.2.2⟩
theorem jfr.c {s s' : cS} (h : jfr s s') : cfr s s' := ⟨fun i a b _ _ _ => h.1 i a b, h.2.1, h.2.2⟩
theorem cfr.i (s : cS) {k : Nat} (v : Int32) (hk : k = 129 ∨ k = 130 ∨ k = 105 ∨ k = 106 ∨ k = 107) : cfr s (cI s k v) := ⟨fun i a b c d e => if_neg (by omega), fun _ _ => rfl, rfl⟩
/-- a rule has given all that it can of the facts LH -/
def rG (x : Rl) (LH L : List Fct) : Prop := wy LH x ≤ 100000 ∧ ∀ σ, adm x σ → (∀ l ∈ x.2, l.1 = 0 → sL σ l ∈ LH) → agr LH x σ → sL σ x.1 ∈ L
theorem rG.up {x : Rl} {LH L L' : List Fct} (h : rG x LH L) (g : ∀ f, f ∈ L → f ∈ L') : rG x LH L' := ⟨h.1, fun σ a b c => g _ (h.2 σ a b c)⟩
/-- the state within a round -/
def cW (O : List Rl) (P : List Fct → Prop) (ly : Nat → Nat) (gv : Nat → Prop) (j low : Nat) (B : List Fct) (s0 : cS) (LH : List Fct) (s : cS) (L : List Fct) : Prop := cfr s0 s ∧ jI O P (qC O ly gv j) B s L ∧ (∃ K, L = LH ++ K ∧ ∀ f ∈ K, (∃ y ∈ O, lk y.1 = f.1) ∧ ly f.1 = j) ∧ s.2.1 16 0 = 0 ∧ s.1 106 = nI low ∧ s.1 107 = nI LH.length
theorem qC.not {O : List Rl} {ly : Nat → Nat} {gv : Nat → Prop} {j x : Nat} (h : (∃ y ∈ O, lk y.1 = x) ∧ ly x = j) : ¬ qC O ly gv j x := by
  rintro (z | z)
  · obtain ⟨y, hy, e⟩ := h.1
    exact z.1 y hy e
  · omega
theorem cnt_pos {L : List Fct} {f : Fct} {x : Nat} (h : f ∈ L) (e : f.1 = x) : 0 < cnt L x := by
  unfold cnt
  exact List.length_pos_of_mem (List.mem_filter.mpr ⟨h, by simp [e]⟩)
theorem wy_pos {L : List Fct} {x : Rl} (h : ∀ l ∈ x.2, l.1 = 0 → ∃ f ∈ L, f.1 = lk l) : 0 < wy L x := by
  unfold wy
  have : ∀ (ls : List Lt) (a : Nat), 0 < a → (∀ l ∈ ls, 0 < cnt L (lk l)) → 0 < ls.foldl (fun p l => p * cnt L (lk l)) a := by
    intro ls
    induction ls with
    | nil => intro a ha _; exact ha
    | cons y ls ih =>
      intro a ha hl
      exact ih _ (Nat.mul_pos ha (hl y (by simp))) (fun l h => hl l (List.mem_cons_of_mem _ h))
  refine this _ 1 (by decide) (fun l hl => ?_)
  obtain ⟨h1, h2⟩ := List.mem_filter.mp hl
  obtain ⟨f, hf, e⟩ := h l h1 (by simpa using h2)
  exact cnt_pos hf e
theorem wy_same {L M : List Fct} {x : Rl} (h : ∀ l ∈ x.2, l.1 = 0 → cnt L (lk l) = cnt M (lk l)) : wy L x = wy M x := by
  unfold wy
  have : ∀ (ls : List Lt) (a : Nat), (∀ l ∈ ls, cnt L (lk l) = cnt M (lk l)) → ls.foldl (fun p l => p * cnt L (lk l)) a = ls.foldl (fun p l => p * cnt M (lk l)) a := by
    intro ls
    induction ls with
    | nil => intro a _; rfl
    | cons y ls ih =>
      intro a hl
      rw [List.foldl_cons, List.foldl_cons, hl y (by simp)]
      exact ih _ (fun l h => hl l (List.mem_cons_of_mem _ h))
  refine this _ 1 (fun l hl => ?_)
  obtain ⟨h1, h2⟩ := List.mem_filter.mp hl
  exact h l h1 (by simpa using h2)
theorem cnt_app {L K : List Fct} {x : Nat} (h : ∀ f ∈ K, f.1 ≠ x) : cnt (L ++ K) x = cnt L x := by
  unfold cnt
  rw [List.filter_append]
  have : K.filter (fun f => f.1 == x) = [] := by
    rw [List.filter_eq_nil_iff]
    intro f hf
    simpa using h f hf
  rw [this, List.append_nil]
theorem cW.sub {O : List Rl} {P : List Fct → Prop} {ly : Nat → Nat} {gv : Nat → Prop} {j low : Nat} {B : List Fct} {s0 : cS} {LH : List Fct} {s : cS} {L : List Fct} (h : cW O P ly gv j low B s0 LH s L) : LH.Nodup ∧ (∀ f, f ∈ LH → f ∈ L) ∧ ∀ x, wy LH x ≤ wy L x := by
  obtain ⟨_, ⟨_, h2, _⟩, ⟨K, e, _⟩, _⟩ := h
  have hn := h2.1
  rw [e] at hn
  have hs : ∀ f, f ∈ LH → f ∈ L := fun f hf => by rw [e]; exact List.mem_append_left _ hf
  have hn' := (List.nodup_append.mp hn).1
  exact ⟨hn', hs, fun x => wy_le hn' hs x⟩
/-- a join from the first literal on, in a round -/
theorem cl_join {N0 : Nat} {K : Nat → Nat} {d C a : Nat} {G : gm_H} {sz : Nat} {O : List Rl} {P : List Fct → Prop} {ly st : Nat → Nat} {e0 e1 e2 : Nat} {rc gv : Nat → Prop} {j low : Nat} {B : List Fct} {x : Rl} {ns : Int32} {lo hi : Nat → Nat} {s0 : cS} {LH : List Fct} {s : cS} {L : List Fct} {Q : Int32 → cS → Prop} (hN : N0 ≤ C) (hly : LyC O ly st e0 e1 e2 rc) (hgv : ∀ x ∈ O, ly (lk x.1) = j → ∀ l ∈ x.2, l.1 ≠ 2 → (∀ r ∈ O, lk r.1 ≠ lk l) → gv (lk l)) (hx : x ∈ O) (hj : ly (lk x.1) = j) (hp : pRule G C a x (flOf x)) (hW : cW O P ly gv j low B s0 LH s L) (hr : rngs (cI s 105 ns) lo hi LH.length) (q : ∀ r s' L', cW O P ly gv j low B s0 LH s' L' → (∀ f, f ∈ L → f ∈ L') → (s.1 130 ≠ 0 → s'.1 130 ≠ 0) → (s'.1 130 = 0 → jC x LH lo hi 0 (fun _ => none) L') → Q r s') : kX2_join N0 K (d + 13) C a 0 (cI s 105 ns) G sz Q := by
  have hc := hly.ctx hgv hx hj
  obtain ⟨w1, w2, ⟨K1, w3, w4⟩, w5, w6, w7⟩ := hW
  have h5 := hc.2.1.2.1
  have hJ := jn_all (N0 := N0) (K := K) (sz := sz) (P := P) (B := B) (LH := LH) (lo := lo) (hi := hi) hN hc hp x.2.length 0 (by omega) (d + (10 - 2 * x.2.length))
  rw [show d + (10 - 2 * x.2.length) + 2 * x.2.length + 3 = d + 13 by omega] at hJ
  refine hJ (fun _ => none) (cI s 105 ns) L Q ⟨w2.1.fr rfl (fun _ _ _ => rfl), w2.2.1, w2.2.2⟩ ⟨K1, w3, fun f hf => qC.not (w4 f hf)⟩ hr ⟨fun c _ => rfl, ⟨w5, fun v _ t ht => absurd ht (by simp)⟩, fun c t _ ht => absurd ht (by simp), fun j' l hj' => absurd hj' (by omega)⟩ (fun r s' L' hP => ?_)
  obtain ⟨p1, p2, ⟨K2, p3, p4⟩, p5, p6, p7, p8, p9⟩ := hP
  refine q r s' L' ⟨w1.trans ((cfr.i s ns (by simp)).trans p1.c), p2, ⟨K1 ++ K2, by rw [p3, w3, List.append_assoc], fun f hf => ?_⟩, p5.1, (p1.1 106 (by decide) (by decide)).trans w6, (p1.1 107 (by decide) (by decide)).trans w7⟩ (fun f hf => by rw [p3]; exact List.mem_append_left _ hf) (fun z => p7 z) p8
  rcases List.mem_append.mp hf with y | y
  · exact w4 f y
  · rw [p4 f y]
    exact ⟨⟨x, hx, rfl⟩, hj⟩
theorem cl_rule0 {N0 : Nat} {K : Nat → Nat} {d C a : Nat} {u1 u3 u4 : Int32} {G : gm_H} {sz sl : Nat} {O : List Rl} {P : List Fct → Prop} {ly st : Nat → Nat} {e0 e1 e2 : Nat} {rc gv : Nat → Prop} {j low : Nat} {B : List Fct} {x : Rl} {s0 : cS} {LH : List Fct} {s : cS} {L : List Fct} {Q : Unit → cS → Prop} (hN : N0 ≤ C) (hly : LyC O ly st e0 e1 e2 rc) (hgv : ∀ x ∈ O, ly (lk x.1) = j → ∀ l ∈ x.2, l.1 ≠ 2 → (∀ r ∈ O, lk r.1 ≠ lk l) → gv (lk l)) (hx : x ∈ O) (hj : ly (lk x.1) = j) (hp : pRule G C a x (flOf x)) (hW : cW O P ly gv j low B s0 LH s L) (q : ∀ s' L', cW O P ly gv j low B s0 LH s' L' → (∀ f, f ∈ L → f ∈ L') → (s.1 130 ≠ 0 → s'.1 130 ≠ 0) → (s'.1 130 = 0 → rG x LH L') → hX2_close_40 N0 K (d + 13) C u1 u3 (u4 + 1) s' G sz sl Q) : hX2_close_96 N0 K (d + 13) C u1 u3 u4 a (-1) (-1) s G sz sl Q := by
  have hc := hly.ctx hgv hx hj
  have hsub := hW.sub
  obtain ⟨w1, w2, ⟨K1, w3, w4⟩, w5, w6, w7⟩ := id hW
  have hend : ∀ s' L', cW O P ly gv j low B s0 LH s' L' → (∀ f, f ∈ L → f ∈ L') → (s.1 130 ≠ 0 → s'.1 130 ≠ 0) → (s'.1 130 = 0 → rG x LH L') → hX2_close_96 N0 K (d + 13) C u1 u3 u4 a (-1) ((-1 : Int32) + 1) s' G sz sl Q := by
    intro s' L' h1 h2 h3 h4
    refine TX2_close_96 hN ?_
    rw [if_pos (by decide)]
    exact q s' L' h1 h2 h3 h4
  have hpos : ∀ σ, (∀ l ∈ x.2, l.1 = 0 → sL σ l ∈ LH) → 0 < wy LH x := fun σ hσ => wy_pos (fun l hl k0 => ⟨_, hσ l hl k0, rfl⟩)
  refine TX2_close_96 hN ?_
  rw [if_neg (by decide)]
  refine cq_due0 hN hp hc.2.1 w2.1 (fun hb => ?_) (fun hb hz => ?_) (fun hb hle _ => ?_) (fun hb hx' => ?_)
  · rw [if_pos rfl]
    exact hend s L hW (fun f hf => hf) (fun z => z) (fun z => absurd z hb)
  · rw [if_pos rfl]
    refine hend s L hW (fun f hf => hf) (fun z => z) (fun _ => ⟨by have := hsub.2.2 x; omega, fun σ _ hσ _ => ?_⟩)
    have := hpos σ hσ
    have := hsub.2.2 x
    omega
  · rw [if_neg (by decide)]
    refine cl_join (lo := fun _ => 1) (hi := fun _ => LH.length) hN hly hgv hx hj hp hW (fun j' hj' => ?_) (fun r s' L' h1 h2 h3 h4 => hend s' L' h1 h2 h3 (fun z => ⟨Nat.le_trans (hsub.2.2 x) hle, fun σ ha hσ hag => ?_⟩))
    · have hne : ¬ nI j' = (-1 : Int32) := fun z => by
        have : nI j' < 0 := by rw [z]; decide
        exact nI_pos (n := j') (by omega) this
      refine ⟨?_, ?_, Nat.le_refl 1, (by decide : 1 ≤ 201), Nat.le_refl _⟩
      · show (if nI j' = (-1 : Int32) then s.1 106 else 1) = nI 1
        rw [if_neg hne]
        rfl
      · show (if (-1 : Int32) ≤ nI j' then s.1 107 else s.1 106 - 1) = nI LH.length
        rw [if_pos (Int32.le_trans (by decide : (-1 : Int32) ≤ 0) (nI_pos' (by omega)))]
        exact w7
    · refine h4 z σ ha (fun c t _ ht => absurd ht (by simp)) (fun j' l _ hl => ?_)
      have hlx := List.mem_of_getElem? hl
      refine ⟨fun k0 => ?_, (hag l hlx).1, (hag l hlx).2⟩
      obtain ⟨i, hi, e⟩ := List.getElem_of_mem (hσ l hlx k0)
      exact ⟨i, Nat.succ_le_succ (Nat.zero_le i), hi, by rw [List.getElem?_eq_getElem hi, e]⟩
  · rw [if_pos rfl]
    refine hend (cI s 130 1) L ⟨w1.trans (cfr.i s 1 (by simp)), ⟨w2.1.fr rfl (fun _ _ _ => rfl), w2.2.1, Or.inr ⟨rfl, w2.2.1.bad_wy hx hx'⟩⟩, ⟨K1, w3, w4⟩, w5, w6, w7⟩ (fun f hf => hf) (fun _ => (by decide : ¬ (1 : Int32) = 0)) (fun z => absurd z (by decide : ¬ (1 : Int32) = 0))
