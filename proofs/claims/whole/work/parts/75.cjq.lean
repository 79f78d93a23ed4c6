/-! the class: joinEach; join, every step -/
/-- the state of the loop of joinEach -/
def jW (R : List Rl) (P : List Fct → Prop) (Qs : Nat → Prop) (B : List Fct) (x : Rl) (e : Env) (s0 : cS) (L0 : List Fct) (u6 : Int32) (s : cS) (L : List Fct) : Prop := jfr s0 s ∧ jI R P Qs B s L ∧ (∃ K, L = L0 ++ K ∧ ∀ f ∈ K, f.1 = lk x.1) ∧ cEnv s e ∧ (u6 = 0 ∨ u6 = 1) ∧ (s0.1 130 ≠ 0 → s.1 130 ≠ 0) ∧ (u6 ≠ 0 → s.1 130 = 0 → ∃ σ, eA σ e ∧ sL σ x.1 ∈ L)
/-- the conditions behind the step k -/
def jB (x : Rl) (LH : List Fct) (lo hi : Nat → Nat) (k : Nat) (σ : Int32 → Tm) : Prop := ∀ (j : Nat) l, k < j → x.2[j]? = some l → (l.1 = 0 → ∃ i, lo j ≤ i + 1 ∧ i + 1 ≤ hi j ∧ LH[i]? = some (sL σ l)) ∧ (l.1 = 1 → ¬ sL σ l ∈ LH) ∧ (l.1 = 2 → unl σ l)
theorem pR_app2 {L K : List Fct} {r i : Nat} (h : i < L.length) : pR (L ++ K) r i = pR L r i := by
  unfold pR
  rw [List.getElem?_append_left h]
theorem cEnv.down2 {s : cS} {e e' : Env} (h : cEnv s e') (g : ∀ c t, chV c → e c = some t → e' c = some t) : cEnv s e := ⟨h.1, fun v hv t ht => h.2 v hv t (g _ t (chV_of hv) ht)⟩
theorem je_38 {N0 : Nat} {K : Nat → Nat} {C a n k p : Nat} {kn on : Int32} {G : gm_H} {sz sl : Nat} {R : List Rl} {P : List Fct → Prop} {Qs : Nat → Prop} {B : List Fct} {x : Rl} {l : Lt} {fl : Int32 → Bool} {LH : List Fct} {lo hi : Nat → Nat} {e : Env} {s0 : cS} {L0 : List Fct} {Q : Int32 → cS → Prop} (hN : N0 ≤ C) (hc : cCtx R x Qs fl) (hp : pRule G C a x fl) (hl : x.2[k]? = some l) (k0 : l.1 = 0) (hnext : ∀ d, JN N0 K (d + n + 3) C a G sz R P Qs B x fl LH lo hi (k + 1)) (d : Nat) (hK : ∃ K, L0 = LH ++ K ∧ ∀ f ∈ K, ¬ Qs f.1) (hr : rngs s0 lo hi LH.length) (hE : jE x fl k L0 s0 e) (q : ∀ r s' L', jP R P Qs B x LH lo hi k e s0 L0 r s' L' → Q r s') (hon : on ≠ 0 → ∀ c, chV c → inL x.1 c → ub x.2 k c = false) (gp : G p = some (.inr (5, plc (ub x.2 k) kn on l))) (cp : C + 34 ≤ p) : ∀ (m : Nat) (s : cS) (L : List Fct) (u6 : Int32), jW R P Qs B x e s0 L0 u6 s L → m ≤ L0.length → (s.1 130 = 0 → ∀ σ, adm x σ → eA σ e → (∃ i, m ≤ i ∧ i + 1 ≤ hi k ∧ LH[i]? = some (sL σ l)) → jB x LH lo hi k σ → sL σ x.1 ∈ L) → hX2_joinEach_38 N0 K (d + n + 3) C a (nI k) p (nI (lo k)) (nI (hi k)) u6 (nI (lst (pR L0 (cr (lk l))) m)) s G sz sl Q := by
  obtain ⟨hmem, hw, hq, hh, hfl, hsafe, hord⟩ := id hc
  obtain ⟨h, b, fa, v, kh, oh, ⟨ca, ch, cb⟩, ga, hflm, gh, gb, hb⟩ := hp
  obtain ⟨e1, e2, e3, e4⟩ := hE
  have hlx : l ∈ x.2 := List.mem_of_getElem? hl
  have hwl := hw.2.2 l hlx
  have k2 : l.1 ≠ 2 := by rw [k0]; decide
  have hvl := cr_lk hwl k2
  have hk5 : k < 5 := by
    have := (List.getElem?_eq_some_iff.mp hl).1
    have := hw.2.1
    omega
  obtain ⟨_, _, lo1, lo2, hi1⟩ := hr k hk5
  obtain ⟨K0, eK0, hK0⟩ := hK
  obtain ⟨w1, w2, w3⟩ := wfR_head hw
  intro m
  induction m using Nat.strongRecOn with
  | _ m ih =>
    intro s L u6 hW hm hD
    obtain ⟨a1, a2, ⟨K1, a3, a4⟩, a5, a6, a7, a8⟩ := id hW
    have hll : L.length = L0.length + K1.length := by rw [a3, List.length_append]
    have hl200 := a2.1.2.1
    have hLH : LH.length ≤ L0.length := by rw [eK0, List.length_append]; omega
    have hle := lst_le (pR L0 (cr (lk l))) m
    have hrel : ∀ i σ, i < m → LH[i]? = some (sL σ l) → pR L0 (cr (lk l)) i = true := by
      intro i σ hi hLi
      have hil := (List.getElem?_eq_some_iff.mp hLi).1
      have : L0[i]? = some (sL σ l) := by rw [eK0, List.getElem?_append_left hil]; exact hLi
      rw [pR_get this]
      show (cr (lk l) == cr (lk l)) = true
      simp
    refine TX2_joinEach_38 hN ?_
    by_cases c1 : lst (pR L0 (cr (lk l))) m < lo k
    · rw [if_pos (nI_lt c1 (by omega))]
      refine ⟨a6, q u6 s L ⟨a1, a2, ⟨K1, a3, a4⟩, a5, a6, a7, fun hz σ ha hσ hcond => ?_, a8⟩⟩
      obtain ⟨i, b1, b2, b3⟩ := (hcond k l (Nat.le_refl _) hl).1 k0
      by_cases him : m ≤ i
      · exact hD hz σ ha hσ ⟨i, him, b2, b3⟩ (fun j l' hj hl' => hcond j l' (by omega) hl')
      · exfalso
        have hpr := hrel i σ (by omega) b3
        cases ev : lst (pR L0 (cr (lk l))) m with
        | zero =>
          have := lst_0 ev i (by omega)
          rw [hpr] at this
          cases this
        | succ j =>
          have := (lst_s ev).2.2 i (by omega) (by omega)
          rw [hpr] at this
          cases this
    · rw [if_neg (nI_nlt (by omega) (by omega))]
      cases ev : lst (pR L0 (cr (lk l))) m with
      | zero => omega
      | succ j =>
        obtain ⟨j1, j2, j3⟩ := lst_s ev
        have hjl : j < L0.length := by omega
        have hj0 : L0[j]? = some L0[j] := List.getElem?_eq_getElem hjl
        have hj : L[j]? = some L0[j] := by rw [a3, List.getElem?_append_left hjl]; exact hj0
        obtain ⟨wf, b1, b2, b3, b4, b5, b6⟩ := a2.1.2.2.1 j _ hj
        have hcr : cr L0[j].1 = cr (lk l) := by
          rw [pR_get hj0] at j2
          simpa using j2
        have hf1 : L0[j].1 = lk l := cr_inj wf.2 hvl.1 hcr
        have hold : ∀ s1 : cS, s1.2.1 11 = s.2.1 11 → s1.2.1 11 (j + 1) = nI (lst (pR L0 (cr (lk l))) j) := by
          intro s1 h1
          rw [h1, b5, hcr, lst_congr (p := pR L (cr (lk l))) (q := pR L0 (cr (lk l))) (fun i hi => by rw [a3]; exact pR_app2 (by omega))]
        have step : ∀ s1 L1 u6', jW R P Qs B x e s0 L0 u6' s1 L1 → (s1.1 130 = 0 → ∀ σ, adm x σ → eA σ e → (∃ i, m ≤ i ∧ i + 1 ≤ hi k ∧ LH[i]? = some (sL σ l)) → jB x LH lo hi k σ → sL σ x.1 ∈ L1) → (s1.1 130 = 0 → ∀ σ, adm x σ → eA σ e → j + 1 ≤ hi k → sL σ l = L0[j] → jB x LH lo hi k σ → sL σ x.1 ∈ L1) → s1.2.1 11 (j + 1) = nI (lst (pR L0 (cr (lk l))) j) → hX2_joinEach_38 N0 K (d + n + 3) C a (nI k) p (nI (lo k)) (nI (hi k)) u6' (s1.2.1 11 (j + 1)) s1 G sz sl Q := by
          intro s1 L1 u6' hW1 hD1 hD2 he
          rw [he]
          refine ih j j1 s1 L1 u6' hW1 (by omega) (fun hz σ ha hσ hex hB => ?_)
          obtain ⟨i, z1, z2, z3⟩ := hex
          by_cases him : m ≤ i
          · exact hD1 hz σ ha hσ ⟨i, him, z2, z3⟩ hB
          · by_cases hij : i = j
            · subst hij
              have hil := (List.getElem?_eq_some_iff.mp z3).1
              have : L0[i]? = some (sL σ l) := by rw [eK0, List.getElem?_append_left hil]; exact z3
              rw [hj0] at this
              exact hD2 hz σ ha hσ z2 (Option.some.inj this).symm hB
            · exfalso
              have := j3 i (by omega) (by omega)
              rw [hrel i σ (by omega) z3] at this
              cases this
        by_cases c2 : hi k < j + 1
        · rw [if_pos (nI_lt c2 (by omega))]
          refine ⟨j + 1, rfl, by omega, ?_⟩
          exact step s L u6 hW hD (fun _ σ _ _ hz => absurd hz (by omega)) (hold s rfl)
        · rw [if_neg (nI_nlt (by omega) (by omega))]
          refine ⟨_, gp, _, rfl, cp, j + 1, rfl, by omega, _, ga, v, rfl, ca, ?_⟩
          have hgs := wf.1.2.2
          have hlen : l.2.2.length = L0[j].2.length := by
            rw [wf.1.2.1, hf1, lk_mod (wfL_len hwl).1]
          have hl3 := (wfL_len hwl).1
          have hmF : mF1 fl e l L0[j] = mTs fl e l.2.2 L0[j].2 := by
            unfold mF1
            rw [if_pos hf1.symm]
          have hnot : mTs fl e l.2.2 L0[j].2 = none → ∀ σ, adm x σ → eA σ e → sL σ l = L0[j] → False := by
            intro hn σ ha hσ hs
            obtain ⟨e', h1, _⟩ := mF1_complete (fl := fl) (r := x) hσ hwl ha (fun c hin => Or.inr ⟨l, hlx, hin⟩) (fun c hin => Or.inr ⟨l, hlx, hin⟩) (fun c hv hf => (hfl c hv).mp hf) hs
            rw [hmF, hn] at h1
            cases h1
          have hfail : ∀ s1, frB s s1 → cEnv s1 e → mTs fl e l.2.2 L0[j].2 = none → hX2_joinEach_38 N0 K (d + n + 3) C a (nI k) p (nI (lo k)) (nI (hi k)) u6 (s1.2.1 11 (j + 1)) s1 G sz sl Q := by
            intro s1 hf hE1 hn
            refine step s1 L u6 ⟨a1.trans hf.j, a2.fr hf, ⟨K1, a3, a4⟩, hE1, a6, by rw [hf.1]; exact a7, by rw [hf.1]; exact a8⟩ (by rw [hf.1]; exact hD) (fun _ σ ha hσ _ hs _ => (hnot hn σ ha hσ hs).elim) (hold s1 (hf.2.1 11 (by decide)))
          have hat := mTs_at (fl := fl) (e := e) hlen hl3
          rw [b2]
          have hu0 : uE (ua (ub x.2 k) l.2.2 0) e := e1
          refine cq_fit1 (i := 0) hN (wfL_len hwl).2 hgs hlen hu0 a5 e3 hflm (fun s11 e11 m1 f1 E1 U1 G1 X1 => ?_) (fun s11 m1 f1 E1 => ?_)
          · rw [if_neg (by decide)]
            refine ⟨_, rfl, ?_⟩
            rw [f1.2.1 9 (by decide), b3]
            refine cq_fit1 (i := 1) hN (wfL_len hwl).2 hgs hlen U1 E1 G1 hflm (fun s18 e18 m2 f2 E2 U2 G2 X2 => ?_) (fun s18 m2 f2 E2 => ?_)
            · rw [if_neg (by decide)]
              refine ⟨_, rfl, ?_⟩
              rw [f2.2.1 10 (by decide), f1.2.1 10 (by decide), b4]
              have f12 := f1.trans f2
              refine cq_fit1 (i := 2) hN (wfL_len hwl).2 hgs hlen U2 E2 G2 hflm (fun s25 e25 m3 f3 E3 U3 G3 X3 => ?_) (fun s25 m3 f3 E3 => ?_)
              · rw [if_neg (by decide)]
                have f123 := f12.trans f3
                have X : ∀ c t, chV c → e c = some t → e25 c = some t := fun c t hv ht => X3 c t hv (X2 c t hv (X1 c t hv ht))
                have hmt : mTs fl e l.2.2 L0[j].2 = some e25 := by rw [hat, m1]; show (mAt fl e11 l.2.2 L0[j].2 1).bind _ = _; rw [m2]; exact m3
                have hsnd := mF1_sound hwl hgs (by rw [hmF]; exact hmt)
                have hcm : ∀ σ, adm x σ → eA σ e → sL σ l = L0[j] → eA σ e25 := by
                  intro σ ha hσ hs
                  obtain ⟨e', h1, h2⟩ := mF1_complete (fl := fl) (r := x) hσ hwl ha (fun c hin => Or.inr ⟨l, hlx, hin⟩) (fun c hin => Or.inr ⟨l, hlx, hin⟩) (fun c hv hf => (hfl c hv).mp hf) hs
                  rw [hmF, hmt] at h1
                  cases h1
                  exact h2
                have hdown : ∀ σ, eA σ e25 → eA σ e := fun σ hσ c t hv ht => hσ c t hv (X c t hv ht)
                have cdown : ∀ s1, cEnv s1 e25 → cEnv s1 e := fun s1 h1 => ⟨h1.1, fun w hw' t ht => h1.2 w hw' t (X _ t (chV_of hw') ht)⟩
                have hK2 : ∃ K, L = LH ++ K ∧ ∀ f ∈ K, ¬ Qs f.1 := by
                  refine ⟨K0 ++ K1, by rw [a3, eK0, List.append_assoc], fun f hf => ?_⟩
                  rcases List.mem_append.mp hf with y | y
                  · exact hK0 f y
                  · rw [a4 f y]
                    exact hh
                have hsat : jSat x (k + 1) e25 L := by
                  intro j' l' hj' hl' σ hσ
                  by_cases ej : j' = k
                  · subst ej
                    rw [hl] at hl'
                    cases hl'
                    refine ⟨fun _ => ?_, fun z => absurd z (by rw [k0]; decide), fun z => absurd z k2⟩
                    rw [hsnd.2 σ hσ]
                    exact List.mem_of_getElem? hj
                  · have := jSat.up hc e4 a4 j' l' (by omega) hl' σ (hdown σ hσ)
                    rw [← a3] at this
                    exact this
                have hU : uE (ub x.2 (k + 1)) e25 := by
                  rw [ub_succ hl, ← ua_all hl3]
                  exact U3
                rw [nI_1]
                refine hnext d e25 s25 L _ (a2.fr f123) hK2 (hr.fr (a1.trans f123.j)) ⟨hU, E3, G3, hsat⟩ (fun r29 s29 L29 hP => ?_)
                obtain ⟨p1, p2, ⟨K3, p3, p4⟩, p5, p6, p7, p8, p9⟩ := hP
                have hLK : ∃ K, L29 = L0 ++ K ∧ ∀ f ∈ K, f.1 = lk x.1 := by
                  refine ⟨K1 ++ K3, by rw [p3, a3, List.append_assoc], fun f hf => ?_⟩
                  rcases List.mem_append.mp hf with y | y
                  · exact a4 f y
                  · exact p4 f y
                have h130 : s25.1 130 = s.1 130 := by rw [f123.1]
                have hmono : s0.1 130 ≠ 0 → s29.1 130 ≠ 0 := fun z => p7 (by rw [h130]; exact a7 z)
                have hz0 : s29.1 130 = 0 → s.1 130 = 0 := by
                  intro z
                  rcases a2.2.2 with y | ⟨y, _⟩
                  · exact y
                  · exact absurd z (p7 (by rw [h130, y]; decide))
                have hsub : ∀ f, f ∈ L → f ∈ L29 := fun f hf => by rw [p3]; exact List.mem_append_left _ hf
                have hfr : jfr s0 s29 := (a1.trans f123.j).trans p1
                have hD29 : s29.1 130 = 0 → ∀ σ, adm x σ → eA σ e → (∃ i, m ≤ i ∧ i + 1 ≤ hi k ∧ LH[i]? = some (sL σ l)) → jB x LH lo hi k σ → sL σ x.1 ∈ L29 := fun z σ ha hσ hex hB => hsub _ (hD (hz0 z) σ ha hσ hex hB)
                have hDj : s29.1 130 = 0 → ∀ σ, adm x σ → eA σ e → j + 1 ≤ hi k → sL σ l = L0[j] → jB x LH lo hi k σ → sL σ x.1 ∈ L29 := fun z σ ha hσ _ hs hB => p8 z σ ha (hcm σ ha hσ hs) (fun j' l' hj' hl' => hB j' l' (by omega) hl')
                have hnx : ∀ u6', (u6' = 0 ∨ u6' = 1) → (u6' ≠ 0 → s29.1 130 = 0 → ∃ σ, eA σ e ∧ sL σ x.1 ∈ L29) → hX2_joinEach_38 N0 K (d + n + 3) C a (nI k) p (nI (lo k)) (nI (hi k)) u6' (s29.2.1 11 (j + 1)) s29 G sz sl Q := by
                  intro u6' hu hu'
                  refine step s29 L29 u6' ⟨hfr, p2, hLK, cdown _ p5, hu, hmono, hu'⟩ hD29 hDj ?_
                  obtain ⟨K4, q1, q2⟩ := hLK
                  have hj29 : L29[j]? = some L0[j] := by rw [q1, List.getElem?_append_left hjl]; exact hj0
                  rw [(p2.1.2.2.1 j _ hj29).2.2.2.2.2.1, hcr, lst_congr (p := pR L29 (cr (lk l))) (q := pR L0 (cr (lk l))) (fun i hi => by rw [q1]; exact pR_app2 (by omega))]
                rcases p6 with z | z
                · subst z
                  rw [if_pos rfl]
                  exact hnx u6 a6 (fun y z => by
                    obtain ⟨σ, y1, y2⟩ := a8 y (hz0 z)
                    exact ⟨σ, y1, hsub _ y2⟩)
                · subst z
                  rw [if_neg (by decide)]
                  refine ⟨on, rfl, ?_⟩
                  have hreach : s29.1 130 = 0 → ∃ σ, eA σ e ∧ sL σ x.1 ∈ L29 := fun z => by
                    obtain ⟨σ, y1, y2⟩ := p9 (by decide) z
                    exact ⟨σ, hdown σ y1, y2⟩
                  by_cases hon0 : on = 0
                  · rw [if_pos hon0]
                    by_cases hb0 : s29.1 130 = 0
                    · rw [if_pos hb0]
                      exact hnx 1 (Or.inr rfl) (fun _ z => hreach z)
                    · rw [if_neg hb0]
                      exact q 1 s29 L29 ⟨hfr, p2, hLK, cdown _ p5, Or.inr rfl, hmono, fun z => absurd z hb0, fun _ z => absurd z hb0⟩
                  · rw [if_neg hon0]
                    refine q 1 s29 L29 ⟨hfr, p2, hLK, cdown _ p5, Or.inr rfl, hmono, fun z σ ha hσ _ => ?_, fun _ z => hreach z⟩
                    obtain ⟨τ, y1, y2⟩ := hreach z
                    rw [sL_congr (τ := τ) w1 (fun c hin hv => by
                      have hbd := e1.bound hv (hon hon0 c hv hin)
                      rw [hσ c _ hv hbd, y1 c _ hv hbd])]
                    exact y2
              · rw [if_pos rfl]
                exact hfail s25 (f12.trans f3) (E3.down2 X2 |>.down2 X1) (by rw [hat, m1]; show (mAt fl e11 l.2.2 L0[j].2 1).bind _ = _; rw [m2]; exact m3)
            · rw [if_pos rfl]
              exact hfail s18 (f1.trans f2) (E2.down2 X1) (by rw [hat, m1]; show (mAt fl e11 l.2.2 L0[j].2 1).bind _ = _; rw [m2]; rfl)
          · rw [if_pos rfl]
            exact hfail s11 f1 E1 (by rw [hat, m1]; rfl)
theorem jn_step {N0 : Nat} {K : Nat → Nat} {C a n k : Nat} {G : gm_H} {sz : Nat} {R : List Rl} {P : List Fct → Prop} {Qs : Nat → Prop} {B : List Fct} {x : Rl} {l : Lt} {fl : Int32 → Bool} {LH : List Fct} {lo hi : Nat → Nat} (hN : N0 ≤ C) (hc : cCtx R x Qs fl) (hp : pRule G C a x fl) (hl : x.2[k]? = some l) (hnext : ∀ d, JN N0 K (d + n + 3) C a G sz R P Qs B x fl LH lo hi (k + 1)) (d : Nat) : JN N0 K (d + n + 5) C a G sz R P Qs B x fl LH lo hi k := by
  intro e s L Q hI hK hr hE q
  obtain ⟨h, b, fa, v, kh, oh, ⟨ca, ch, cb⟩, ga, hflm, gh, gb, hb⟩ := id hp
  obtain ⟨p, kn, on, b1, b2, b3, b4, b5, b6⟩ := hb k l hl
  have hw := hc.2.1
  have hlx : l ∈ x.2 := List.mem_of_getElem? hl
  have hwl := hw.2.2 l hlx
  have hkl := (List.getElem?_eq_some_iff.mp hl).1
  have h5 := hw.2.1
  refine kX2_join.of (TX2_join_0 hN ⟨_, ga, nI x.2.length, rfl, ca, ?_⟩)
  rw [if_pos (nI_lt hkl (by omega))]
  refine ⟨b, rfl, k, rfl, 5, fa, gb, by decide, cb, by omega, p, b1, _, b3, l.1, rfl, b2, ?_⟩
  by_cases hkn : kn = 0
  · have k0 := b4 hkn
    rw [if_neg (by rw [k0]; decide)]
    refine ⟨kn, rfl, ?_⟩
    rw [if_pos hkn]
    have k2 : l.1 ≠ 2 := by rw [k0]; decide
    refine kX2_joinEach.of (TX2_joinEach_0 hN ⟨_, ga, b, rfl, ca, k, rfl, 5, fa, gb, by decide, cb, by omega, p, b1, kq_lowest hN (kq_highest hN ⟨_, b3, lr l, rfl, b2, cr (lk l), lr_cr hwl k2, (vr_cr (cr_lk hwl k2).1).1, ?_⟩)⟩)
    rw [(hr k (by omega)).1, (hr k (by omega)).2.1, (hI.1.2.2.2.1 _ (vr_cr (cr_lk hwl k2).1).1).1]
    refine je_38 (s0 := s) (L0 := L) hN hc hp hl k0 hnext d hK hr hE (fun r s' L' hP => ⟨hP.2.2.2.2.1, q r s' L' hP⟩) b6 b3 b2 L.length s L 0 ⟨jfr.refl s, hI, ⟨[], by simp, fun f hf => absurd hf (by simp)⟩, hE.2.1, Or.inl rfl, fun z => z, fun z => absurd rfl z⟩ (Nat.le_refl _) (fun _ σ _ _ hex => ?_)
    obtain ⟨i, z1, _, z3⟩ := hex
    obtain ⟨K1, eK, _⟩ := hK
    have := (List.getElem?_eq_some_iff.mp z3).1
    rw [eK, List.length_append] at z1
    omega
  · have hkk := jn_known (on := on) (p := p) hN hc hl hnext d hI hK hr hE q hkn (b5 hkn) b3 b2
    by_cases k2 : l.1 = 2
    · rw [if_pos k2] at hkk ⊢
      exact hkk
    · rw [if_neg k2] at hkk ⊢
      refine ⟨kn, rfl, ?_⟩
      rw [if_neg hkn]
      exact hkk
theorem jn_all {N0 : Nat} {K : Nat → Nat} {C a : Nat} {G : gm_H} {sz : Nat} {R : List Rl} {P : List Fct → Prop} {Qs : Nat → Prop} {B : List Fct} {x : Rl} {fl : Int32 → Bool} {LH : List Fct} {lo hi : Nat → Nat} (hN : N0 ≤ C) (hc : cCtx R x Qs fl) (hp : pRule G C a x fl) : ∀ (m k : Nat), k + m = x.2.length → ∀ d, JN N0 K (d + 2 * m + 3) C a G sz R P Qs B x fl LH lo hi k := by
  intro m
  induction m with
  | zero =>
    intro k hk d
    rw [show k = x.2.length by omega]
    exact jn_leaf hN hc hp d
  | succ m ih =>
    intro k hk d
    have hkl : k < x.2.length := by omega
    have := jn_step (n := 2 * m) hN hc hp (List.getElem?_eq_getElem hkl) (ih (k + 1) (by omega)) d
    rw [show d + 2 * (m + 1) + 3 = d + 2 * m + 5 by omega]
    exact this
