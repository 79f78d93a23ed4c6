/-! the class: join, its leaf and its steps -/
theorem kq_lowest {N0 : Nat} {K : Nat → Nat} {d C : Nat} {p : Int32} {s : cS} {G : gm_H} {sz : Nat} {Q : Int32 → Prop} (hN : N0 ≤ C) (q : Q (if p = s.1 105 then s.1 106 else 1)) : kX2_lowest N0 K (d + 1) C p s G sz Q := by
  refine kX2_lowest.of (TX2_lowest_0 hN ?_)
  by_cases h : p = s.1 105
  · rw [if_pos h] at q ⊢
    exact q
  · rw [if_neg h] at q ⊢
    exact q
theorem kq_highest {N0 : Nat} {K : Nat → Nat} {d C : Nat} {p : Int32} {s : cS} {G : gm_H} {sz : Nat} {Q : Int32 → Prop} (hN : N0 ≤ C) (q : Q (if s.1 105 ≤ p then s.1 107 else s.1 106 - 1)) : kX2_highest N0 K (d + 1) C p s G sz Q := by
  refine kX2_highest.of (TX2_highest_0 hN ?_)
  by_cases h : s.1 105 ≤ p
  · rw [if_pos h] at q ⊢
    exact q
  · rw [if_neg h] at q ⊢
    exact q
theorem lr_cr {l : Lt} (h : wfL l) (h2 : l.1 ≠ 2) : lr l = nI (cr (lk l)) := by
  unfold lr
  rw [if_neg h2]
  exact (cr_lk h h2).2
theorem uE.lit {u : Int32 → Bool} {e : Env} {l : Lt} (h : uE u e) (g : ∀ c, chV c → inL l c → u c = false) : uE (uL u l) e := by
  intro c hc
  unfold uL
  by_cases hin : inL l c
  · rw [← h c hc, g c hc hin]
    rfl
  · have : l.2.2.any (fun t => t.2.contains c) = false := by
      rw [← Bool.not_eq_true]
      exact fun z => hin (inL_any.mp z)
    rw [this, ← h c hc]
    simp
theorem jC.up {x : Rl} {LH : List Fct} {lo hi : Nat → Nat} {k : Nat} {e : Env} {L : List Fct} (h : jC x LH lo hi (k + 1) e L) : jC x LH lo hi k e L := fun σ a b c => h σ a b (fun j l hj => c j l (by omega))
theorem jP.up {R : List Rl} {P : List Fct → Prop} {Qs : Nat → Prop} {B : List Fct} {x : Rl} {LH : List Fct} {lo hi : Nat → Nat} {k : Nat} {e : Env} {s : cS} {L : List Fct} {r : Int32} {s' : cS} {L' : List Fct} (h : jP R P Qs B x LH lo hi (k + 1) e s L r s' L') : jP R P Qs B x LH lo hi k e s L r s' L' := by
  obtain ⟨h1, h2, h3, h4, h5, h6, h7, h8⟩ := h
  exact ⟨h1, h2, h3, h4, h5, h6, fun z => (h7 z).up, h8⟩
/-- nothing is done, nothing was to be done -/
theorem jP.no {R : List Rl} {P : List Fct → Prop} {Qs : Nat → Prop} {B : List Fct} {x : Rl} {LH : List Fct} {lo hi : Nat → Nat} {k : Nat} {e : Env} {s : cS} {L : List Fct} (h : jI R P Qs B s L) (hE : cEnv s e) (hc : jC x LH lo hi k e L) : jP R P Qs B x LH lo hi k e s L 0 s L := ⟨jfr.refl s, h, ⟨[], by simp, fun f hf => absurd hf (by simp)⟩, hE, Or.inl rfl, fun z => z, fun _ => hc, fun z => absurd rfl z⟩
theorem ub_len {b : List Lt} {c : Int32} {l : Lt} (hl : l ∈ b) (hc : inL l c) : ub b b.length c = false := ub_dom.mpr ⟨l, by rw [List.take_length]; exact hl, hc⟩
theorem jn_leaf {N0 : Nat} {K : Nat → Nat} {C a : Nat} {G : gm_H} {sz : Nat} {R : List Rl} {P : List Fct → Prop} {Qs : Nat → Prop} {B : List Fct} {x : Rl} {fl : Int32 → Bool} {LH : List Fct} {lo hi : Nat → Nat} (hN : N0 ≤ C) (hc : cCtx R x Qs fl) (hp : pRule G C a x fl) (d : Nat) : JN N0 K (d + 3) C a G sz R P Qs B x fl LH lo hi x.2.length := by
  intro e s L Q hI hK hr hE q
  obtain ⟨hmem, hw, hq, hh, hfl, hsafe, hord⟩ := hc
  obtain ⟨h, b, fa, v, kh, oh, ⟨ca, ch, cb⟩, ga, hflm, gh, gb, hb⟩ := hp
  obtain ⟨e1, e2, e3, e4⟩ := hE
  obtain ⟨i1, i2, i3⟩ := id hI
  obtain ⟨w1, w2, w3⟩ := wfR_head hw
  have hall : eAll e (sge e) x := by
    intro c hv hrv
    obtain ⟨l, hl, _, hin⟩ := hsafe c hv hrv
    exact e1.bound hv (ub_len hl hin)
  have hadm : adm x (sge e) := by
    intro c hv hrv
    have := e3 c _ hv (hall c hv hrv)
    exact ⟨this.1, fun hf => this.2 ((hfl c hv).mpr hf)⟩
  have hhead : ∀ σ, eA σ e → sL σ x.1 = sL (sge e) x.1 := fun σ hσ => sL_congr w1 (fun c hin hv => hσ c _ hv (hall c hv (Or.inl hin)))
  have hF : wfC (sL (sge e) x.1) := wfC_sL w1 w3 (fun c hin hv => (hadm c hv (Or.inl hin)).1) (fun c hin hv => (hadm c hv (by obtain ⟨t, a1, a2, a3⟩ := hin; exact Or.inl ⟨t, a1, a3⟩)).2 (Or.inl hin))
  have hbody : bSat L x (sge e) := by
    intro l hl
    obtain ⟨j, hj, el⟩ := List.getElem_of_mem hl
    exact e4 j l hj (by rw [List.getElem?_eq_getElem hj, el]) _ (sge_eA e)
  have hv : ∀ t ∈ x.1.2.2, ∀ c ∈ t.2, chV c → (fun _ : Int32 => false) c = false ∧ e c = some (sge e c) ∧ (t.1 ≠ 0 → (sge e c).1 = 0) := by
    intro t ht c hc hvc
    have hrv : rV x c := Or.inl ⟨t, ht, hc⟩
    exact ⟨rfl, hall c hvc hrv, fun h0 => (hadm c hvc hrv).2 (Or.inl ⟨t, ht, h0, hc⟩)⟩
  have hcomp : ∀ L', sL (sge e) x.1 ∈ L' → jC x LH lo hi x.2.length e L' := fun L' h σ _ hσ _ => by rw [hhead σ hσ]; exact h
  refine kX2_join.of (TX2_join_0 hN ⟨_, ga, nI x.2.length, rfl, ca, ?_⟩)
  rw [if_neg (Int32.lt_irrefl)]
  refine ⟨h, rfl, _, gh, lr x.1, rfl, ch, pt (fun _ => false) x.1.2.2 0, rfl, cq_fillI hN (wfL_len w1).2 e2 hv ⟨pt (fun _ => false) x.1.2.2 1, rfl, cq_fillI hN (wfL_len w1).2 e2 hv ⟨pt (fun _ => false) x.1.2.2 2, rfl, cq_fillI hN (wfL_len w1).2 e2 hv ?_⟩⟩⟩
  rw [lr_cr w1 w3]
  refine cq_add (F := sL (sge e) x.1) hN i1 hF (fun hin => ?_) (fun hni h200 => ?_) (fun s' hni hlt hf h130 hL' => ?_)
  · exact q 1 s L ⟨jfr.refl s, hI, ⟨[], by simp, fun f hf => absurd hf (by simp)⟩, e2, Or.inr rfl, fun z => z, fun _ => hcomp L hin, fun _ _ => ⟨sge e, sge_eA e, hin⟩⟩
  · have hbad : Bad R P := i2.bad_len hni h200 (i2.follows hmem hadm hbody hq)
    refine q 1 _ L ⟨⟨fun i _ h2 => if_neg h2, fun _ _ => rfl, rfl⟩, ⟨i1.fr rfl (fun _ _ _ => rfl), i2, Or.inr ⟨rfl, hbad⟩⟩, ⟨[], by simp, fun f hf => absurd hf (by simp)⟩, e2.fr rfl, Or.inr rfl, fun _ => (by decide : ¬ (1 : Int32) = 0), fun z => ?_, fun _ z => ?_⟩
    · exact absurd z (by decide : ¬ (1 : Int32) = 0)
    · exact absurd z (by decide : ¬ (1 : Int32) = 0)
  · have hg : sL (sge e) x.1 ∈ L ++ [sL (sge e) x.1] := List.mem_append_right _ (by simp)
    refine q 1 s' _ ⟨hf.j, ⟨hL', i2.push hmem hadm hbody hq hh hni, by rw [h130]; exact i3⟩, ⟨[sL (sge e) x.1], rfl, fun f hf => by simp only [List.mem_singleton] at hf; rw [hf]; rfl⟩, e2.fr (hf.2.1 16 (by decide)), Or.inr rfl, fun z => by rw [h130]; exact z, fun _ => hcomp _ hg, fun _ _ => ⟨sge e, sge_eA e, hg⟩⟩
theorem jSat.up {R : List Rl} {Qs : Nat → Prop} {fl : Int32 → Bool} {x : Rl} {k : Nat} {e : Env} {L K : List Fct} (hc : cCtx R x Qs fl) (h : jSat x k e L) (hK : ∀ f ∈ K, f.1 = lk x.1) : jSat x k e (L ++ K) := by
  obtain ⟨_, _, hq, hh, _⟩ := hc
  intro j l hj hl σ hσ
  obtain ⟨h1, h2, h3⟩ := h j l hj hl σ hσ
  refine ⟨fun z => List.mem_append_left _ (h1 z), fun z y => ?_, h3⟩
  rcases List.mem_append.mp y with y | y
  · exact h2 z y
  · have : lk l = lk x.1 := hK _ y
    exact hh (by rw [← this]; exact hq l (List.mem_of_getElem? hl) z)
/-- a literal whose variables are all bound -/
theorem jn_known {N0 : Nat} {K : Nat → Nat} {C a n k p : Nat} {kn on : Int32} {G : gm_H} {sz : Nat} {R : List Rl} {P : List Fct → Prop} {Qs : Nat → Prop} {B : List Fct} {x : Rl} {l : Lt} {fl : Int32 → Bool} {LH : List Fct} {lo hi : Nat → Nat} {e : Env} {s : cS} {L : List Fct} {Q : Int32 → cS → Prop} (hN : N0 ≤ C) (hc : cCtx R x Qs fl) (hl : x.2[k]? = some l) (hnext : ∀ d, JN N0 K (d + n + 3) C a G sz R P Qs B x fl LH lo hi (k + 1)) (d : Nat) (hI : jI R P Qs B s L) (hK : ∃ K, L = LH ++ K ∧ ∀ f ∈ K, ¬ Qs f.1) (hr : rngs s lo hi LH.length) (hE : jE x fl k L s e) (q : ∀ r s' L', jP R P Qs B x LH lo hi k e s L r s' L' → Q r s') (hkn : kn ≠ 0) (hb : ∀ c, chV c → inL l c → ub x.2 k c = false) (gp : G p = some (.inr (5, plc (ub x.2 k) kn on l))) (cp : C + 34 ≤ p) : if l.1 = (2 : Int32) then (∃ x14 : Int32, ((plc (ub x.2 k) kn on l)[2]? = some (.int x14)) ∧ (kX2_fill N0 K (d + n + 4) C x14 s G sz (fun r17 => ∃ x18 : Int32, ((plc (ub x.2 k) kn on l)[3]? = some (.int x18)) ∧ (kX2_fill N0 K (d + n + 4) C x18 s G sz (fun r21 => if r17 = r21 then (Q (0 : Int32) s) else (kX2_join N0 K (d + n + 4) C a (nI k + (1 : Int32)) s G sz (fun r24 s24 => if r24 = 0 then (Q (0 : Int32) s24) else (Q (1 : Int32) s24)))))))) else (∃ x17 : Int32, ((plc (ub x.2 k) kn on l)[1]? = some (.int x17)) ∧ (∃ x19 : Int32, ((plc (ub x.2 k) kn on l)[2]? = some (.int x19)) ∧ (kX2_fill N0 K (d + n + 4) C x19 s G sz (fun r22 => ∃ x23 : Int32, ((plc (ub x.2 k) kn on l)[3]? = some (.int x23)) ∧ (kX2_fill N0 K (d + n + 4) C x23 s G sz (fun r26 => ∃ x27 : Int32, ((plc (ub x.2 k) kn on l)[4]? = some (.int x27)) ∧ (kX2_fill N0 K (d + n + 4) C x27 s G sz (fun r30 => kX1_find N0 K (d + n + 4) C x17 r22 r26 r30 s G sz (fun r32 => if l.1 = (1 : Int32) then (if r32 = 0 then (kX2_join N0 K (d + n + 4) C a (nI k + (1 : Int32)) s G sz (fun r36 s36 => if r36 = 0 then (Q (0 : Int32) s36) else (Q (1 : Int32) s36))) else (Q (0 : Int32) s)) else (kX2_lowest N0 K (d + n + 4) C (nI k) s G sz (fun r35 => if r32 < r35 then (Q (0 : Int32) s) else (kX2_highest N0 K (d + n + 4) C (nI k) s G sz (fun r38 => if r38 < r32 then (Q (0 : Int32) s) else (kX2_join N0 K (d + n + 4) C a (nI k + (1 : Int32)) s G sz (fun r41 s41 => if r41 = 0 then (Q (0 : Int32) s41) else (Q (1 : Int32) s41)))))))))))))))) := by
  obtain ⟨hmem, hw, hq, hh, hfl, hsafe, hord⟩ := id hc
  obtain ⟨e1, e2, e3, e4⟩ := hE
  obtain ⟨i1, i2, i3⟩ := id hI
  have hlx : l ∈ x.2 := List.mem_of_getElem? hl
  have hwl := hw.2.2 l hlx
  have hk5 : k < 5 := by
    have := (List.getElem?_eq_some_iff.mp hl).1
    have := hw.2.1
    omega
  have hbd : ∀ c, inL l c → chV c → e c = some (sge e c) := fun c hin hv => e1.bound hv (hb c hv hin)
  have hgg : ∀ c, inL l c → chV c → gT (sge e c) := fun c hin hv => (e3 c _ hv (hbd c hin hv)).1
  have hg0 : ∀ c, inC l c → chV c → (sge e c).1 = 0 := by
    intro c hin hv
    have hin' : inL l c := by obtain ⟨t, a1, a2, a3⟩ := hin; exact ⟨t, a1, a3⟩
    exact (e3 c _ hv (hbd c hin' hv)).2 ((hfl c hv).mpr (Or.inr ⟨l, hlx, hin⟩))
  have hv : ∀ t ∈ l.2.2, ∀ c ∈ t.2, chV c → ub x.2 k c = false ∧ e c = some (sge e c) ∧ (t.1 ≠ 0 → (sge e c).1 = 0) := fun t ht c hc hvc => ⟨hb c hvc ⟨t, ht, hc⟩, hbd c ⟨t, ht, hc⟩ hvc, fun h0 => hg0 c ⟨t, ht, h0, hc⟩ hvc⟩
  have hsame : ∀ σ, eA σ e → ∀ c, inL l c → chV c → σ c = sge e c := fun σ hσ c hin hv => hσ c _ hv (hbd c hin hv)
  have hnx : ((l.1 = 0 → sL (sge e) l ∈ L) ∧ (l.1 = 1 → ¬ sL (sge e) l ∈ L) ∧ (l.1 = 2 → unl (sge e) l)) → kX2_join N0 K (d + n + 4) C a (nI k + (1 : Int32)) s G sz (fun r s' => if r = 0 then (Q (0 : Int32) s') else (Q (1 : Int32) s')) := by
    intro hs
    have hj := hnext (d + 1)
    rw [show d + 1 + n + 3 = d + n + 4 by omega] at hj
    rw [nI_1]
    refine hj e s L _ hI hK hr ⟨?_, e2, e3, fun j l' hj' hl' σ hσ => ?_⟩ (fun r s' L' hP => ?_)
    · rw [ub_succ hl]
      exact e1.lit hb
    · by_cases ej : j = k
      · subst ej
        rw [hl] at hl'
        cases hl'
        rw [sL_congr hwl (hsame σ hσ)]
        exact ⟨hs.1, hs.2.1, fun k2 => (unl_congr hwl k2 (hsame σ hσ)).mpr (hs.2.2 k2)⟩
      · exact e4 j l' (by omega) hl' σ hσ
    · have hP' := hP.up
      rcases hP.2.2.2.2.1 with z | z
      · subst z
        rw [if_pos rfl]
        exact q 0 s' L' hP'
      · subst z
        rw [if_neg (by decide)]
        exact q 1 s' L' hP'
  have hno : (∀ σ, eA σ e → ((l.1 = 0 → ∃ i, lo k ≤ i + 1 ∧ i + 1 ≤ hi k ∧ LH[i]? = some (sL (sge e) l)) ∧ (l.1 = 1 → ¬ sL (sge e) l ∈ LH) ∧ (l.1 = 2 → unl (sge e) l)) → False) → Q 0 s := by
    intro hf
    refine q 0 s L (jP.no hI e2 (fun σ _ hσ hcond => ?_))
    exfalso
    have hck := hcond k l (Nat.le_refl _) hl
    rw [sL_congr hwl (hsame σ hσ)] at hck
    exact hf σ hσ ⟨hck.1, hck.2.1, fun k2 => (unl_congr hwl k2 (hsame σ hσ)).mp (hck.2.2 k2)⟩
  by_cases k2 : l.1 = 2
  · rw [if_pos k2]
    have hun : ∃ ta tb, l.2.2 = [ta, tb] ∧ wfT ta ∧ wfT tb := by
      rcases hwl with ⟨y, _⟩ | ⟨_, y⟩
      · rw [k2] at y
        exact absurd y (by decide)
      · exact y
    obtain ⟨ta, tb, el, wa, wb⟩ := hun
    refine ⟨_, rfl, cq_fillI hN (wfL_len hwl).2 e2 hv ⟨_, rfl, cq_fillI hN (wfL_len hwl).2 e2 hv ?_⟩⟩
    have t0 : te (l.2.2.map (sT (sge e))) 0 = nI (tE (sT (sge e) ta)) := by rw [el]; rfl
    have t1 : te (l.2.2.map (sT (sge e))) 1 = nI (tE (sT (sge e) tb)) := by rw [el]; rfl
    have hma : ta ∈ l.2.2 := by rw [el]; simp
    have hmb : tb ∈ l.2.2 := by rw [el]; simp
    have gta : gT (sT (sge e) ta) := gT_sT2 wa (fun c hc hv => hgg c ⟨ta, hma, hc⟩ hv) (fun h0 c hc hv => hg0 c ⟨ta, hma, h0, hc⟩ hv)
    have gtb : gT (sT (sge e) tb) := gT_sT2 wb (fun c hc hv => hgg c ⟨tb, hmb, hc⟩ hv) (fun h0 c hc hv => hg0 c ⟨tb, hmb, h0, hc⟩ hv)
    have la := (tE_lt gta.1).1
    have lb := (tE_lt gtb.1).1
    have hunl : unl (sge e) l ↔ sT (sge e) ta ≠ sT (sge e) tb := by
      unfold unl
      rw [el]
      exact Iff.rfl
    rw [t0, t1]
    by_cases heq : sT (sge e) ta = sT (sge e) tb
    · rw [if_pos (by rw [heq])]
      exact hno (fun σ _ hs => (hunl.mp (hs.2.2 k2)) heq)
    · rw [if_neg (fun z => heq (tE_inj gta.1 gtb.1 ((nI_eq (by omega) (by omega)).mp z)))]
      exact hnx ⟨fun z => by rw [k2] at z; exact absurd z (by decide), fun z => by rw [k2] at z; exact absurd z (by decide), fun _ => hunl.mpr heq⟩
  · rw [if_neg k2]
    have hF : wfC (sL (sge e) l) := wfC_sL hwl k2 hgg hg0
    refine ⟨_, rfl, _, rfl, cq_fillI hN (wfL_len hwl).2 e2 hv ⟨_, rfl, cq_fillI hN (wfL_len hwl).2 e2 hv ⟨_, rfl, cq_fillI hN (wfL_len hwl).2 e2 hv ?_⟩⟩⟩
    rw [lr_cr hwl k2]
    have hrk := hr k hk5
    obtain ⟨K1, eK, hK1⟩ := hK
    have hl200 := i1.2.1
    refine cq_find (F := sL (sge e) l) hN i1 hF (fun i hi' => ?_) (fun hni => ?_)
    · have hil := (List.getElem?_eq_some_iff.mp hi').1
      by_cases k1 : l.1 = 1
      · rw [if_pos k1, if_neg (nI_ne0 (by omega) (by omega))]
        refine hno (fun σ _ hs => ?_)
        have hin : sL (sge e) l ∈ L := List.mem_of_getElem? hi'
        rw [eK] at hin
        rcases List.mem_append.mp hin with z | z
        · exact hs.2.1 k1 z
        · exact hK1 _ z (hq l hlx k1)
      · rw [if_neg k1]
        have k0 : l.1 = 0 := by
          rcases hwl with ⟨y | y, _⟩ | ⟨y, _⟩
          · exact y
          · exact absurd y k1
          · exact absurd y k2
        have huniq : ∀ i', LH[i']? = some (sL (sge e) l) → i' = i := by
          intro i' h'
          have hl' := (List.getElem?_eq_some_iff.mp h').1
          have h2 : L[i']? = some (sL (sge e) l) := by rw [eK, List.getElem?_append_left hl']; exact h'
          exact ((List.getElem?_inj hil i2.1).mp (by rw [h2, hi'])).symm
        refine kq_lowest hN ?_
        rw [hrk.1]
        have hlo := hrk.2.2.1
        have hlo2 := hrk.2.2.2.1
        have hhi := hrk.2.2.2.2
        by_cases c1 : i + 1 < lo k
        · rw [if_pos (nI_lt c1 (by omega))]
          refine hno (fun σ _ hs => ?_)
          obtain ⟨i', a1, a2, a3⟩ := hs.1 k0
          rw [huniq i' a3] at a1
          omega
        · rw [if_neg (nI_nlt (by omega) (by omega))]
          refine kq_highest hN ?_
          rw [hrk.2.1]
          have hLH : LH.length ≤ L.length := by rw [eK, List.length_append]; omega
          by_cases c2 : hi k < i + 1
          · rw [if_pos (nI_lt c2 (by omega))]
            refine hno (fun σ _ hs => ?_)
            obtain ⟨i', a1, a2, a3⟩ := hs.1 k0
            rw [huniq i' a3] at a2
            omega
          · rw [if_neg (nI_nlt (by omega) (by omega))]
            exact hnx ⟨fun _ => List.mem_of_getElem? hi', fun z => absurd z k1, fun z => absurd z k2⟩
    · by_cases k1 : l.1 = 1
      · rw [if_pos k1, if_pos rfl]
        exact hnx ⟨fun z => by rw [k1] at z; exact absurd z (by decide), fun _ => hni, fun z => absurd z k2⟩
      · rw [if_neg k1]
        have k0 : l.1 = 0 := by
          rcases hwl with ⟨y | y, _⟩ | ⟨y, _⟩
          · exact y
          · exact absurd y k1
          · exact absurd y k2
        refine kq_lowest hN ?_
        rw [hrk.1, if_pos (by rw [← nI_0]; exact nI_lt (by omega) (by omega))]
        refine hno (fun σ _ hs => ?_)
        obtain ⟨i', a1, a2, a3⟩ := hs.1 k0
        exact hni (by rw [eK]; exact List.mem_append_left _ (List.mem_of_getElem? a3))
