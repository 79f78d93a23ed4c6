/-! the class's audit: the loop over states -/
theorem cs_run65 {N0 : Nat} {K : Nat → Nat} {d C z : Nat} {R : List Rl} {r0 r1 : Tm} {T1 : List Tm} {s0 : cS} {G0 : gm_H} {sz sl : Nat} {Q : Int32 → cS → gm_H → Prop} (hN : N0 ≤ C) (hf : flNone R) (h1 : okT T1 ∧ T1.length ≤ 24) (hP0 : tS s0 17 [r0, r1]) (hok : okP [r0, r1]) (fin : ∀ i s G, i ≤ 60 → AI R r0 r1 T1 C z s0 G0 i s G → ((audK R r0 r1 T1 i).2.1.length ≤ i ∨ (audK R r0 r1 T1 i).1 ≠ 0) → hX0_run_65 N0 K (d + 16) C (nI i) s G sz sl Q) : ∀ (m i : Nat) (s : cS) (G : gm_H), i + m = 60 → AI R r0 r1 T1 C z s0 G0 i s G → hX0_run_65 N0 K (d + 16) C (nI i) s G sz sl Q := by
  intro m
  induction m with
  | zero =>
    intro i s G hi hA
    have := (audK_ok (R := R) (r0 := r0) (r1 := r1) h1 i).1.1
    exact fin i s G (by omega) hA (Or.inl (by omega))
  | succ m ih =>
    intro i s G hi hA
    by_cases hstop : (audK R r0 r1 T1 i).2.1.length ≤ i ∨ (audK R r0 r1 T1 i).1 ≠ 0
    · exact fin i s G (by omega) hA hstop
    · have hil : i < (audK R r0 r1 T1 i).2.1.length := Nat.lt_of_not_le (fun z => hstop (Or.inl z))
      have hc0 : (audK R r0 r1 T1 i).1 = 0 := Classical.not_not.mp (fun z => hstop (Or.inr z))
      obtain ⟨k1, ⟨Kk, k2⟩, k3⟩ := audK_ok (R := R) (r0 := r0) (r1 := r1) h1 i
      obtain ⟨k3a, k3b, k3c⟩ := k3 hc0
      have hDl := k3b (by omega)
      obtain ⟨⟨a1, a2⟩, a3, a4, a5, a6, a7⟩ := hA
      have hT : (audK R r0 r1 T1 i).2.1[i]? = some ((audK R r0 r1 T1 i).2.1[i]'hil) := List.getElem?_eq_getElem hil
      have hTo := k1.2 _ (List.mem_of_getElem? hT)
      have go := audK_go hc0 hT
      have hd7 := a7 hc0
      -- what is to be shown of the next
      have mkA : ∀ (c : Int32) (S' : List (List Tm)) (dd : DT) (s' : cS) (G' : gm_H), visS R r0 r1 ((audK R r0 r1 T1 i).2.1[i]'hil) (audK R r0 r1 T1 i).2.1 = (c, S', dd) → afr s0 s' → gFr C G0 G' → FB G' C z R s' → s'.1 584 = nI S'.length → s'.1 586 = c → cSt G' C S' → (c = 0 → dOk ((audK R r0 r1 T1 i).2.2 ++ [dd]) s') → hX0_run_65 N0 K (d + 16) C (nI i + (1 : Int32)) s' G' sz sl Q := by
        intro c S' dd s' G' e b1 b2 b3 b4 b5 b6 b7
        rw [nI_1]
        refine ih (i + 1) s' G' (by omega) ?_
        unfold AI
        rw [go, e]
        exact ⟨⟨b1, b2⟩, b3, b4, b5, b6, b7⟩
      have bail : ∀ (c : Int32) (S' : List (List Tm)) (dd : DT) (s' : cS) (u : Int32), c ≠ 0 → visS R r0 r1 ((audK R r0 r1 T1 i).2.1[i]'hil) (audK R r0 r1 T1 i).2.1 = (c, S', dd) → S' = (audK R r0 r1 T1 i).2.1 → afr s0 s' → FB G C z R s' → s'.1 584 = s.1 584 → s'.1 586 = c → hX0_run_130 N0 K (d + 16) C (nI i) u (0 : Int32) s' G sz sl Q := by
        intro c S' dd s' u hc e eS b1 b3 b4 b5
        refine TX0_run_130 hN ?_
        rw [b5, if_neg hc, ite_self]
        refine mkA c S' dd s' G e b1 a2 b3 (by rw [b4, a4, eS]) b5 (by rw [eS]; exact a6) (fun z => absurd z hc)
      refine TX0_run_65 hN ?_
      have h60 := k1.1
      rw [a4, if_neg (nI_ge (by omega) (by omega)), a5, if_pos hc0]
      refine ⟨i, rfl, by omega, ?_⟩
      refine cq_look (d := d) hN a3 (a6.cTs (by omega) hT hTo.1 hTo.2) hTo.1 (by omega) (hP0.af a1 (Or.inl rfl)) hok (fun s5 L f5 g5 m5 k5 n5 => ?_) (fun s5 f5 g5 b5 => ?_)
      · rw [if_neg (by decide)]
        have af5 : afr s s5 := (f5.mono (fun p hp => by omega)).a
        have eV := visS_L (r0 := r0) (r1 := r1) (S := (audK R r0 r1 T1 i).2.1) hf m5 k5
        refine cq_judge (d := d + 13) hN (by omega) g5.f m5.2.2.2 ((hP0.af a1 (Or.inl rfl)).fr f5 (by decide) (fun q hq => by omega)) hok n5 (fun s9 c9 j9 => ?_)
        obtain ⟨⟨j1, j2, j3, j4⟩, j5, j6, j7⟩ := j9
        have af9 : afr s5 s9 := ⟨fun _ _ _ _ _ _ _ => by rw [j1], fun k _ _ _ _ _ b c => j3 k b c, fun _ _ => by rw [j2]⟩
        have n9 : nfr s5 (cI s9 586 c9) := ⟨by show s9.1 102 = _; rw [j1], by show s9.1 103 = _; rw [j1], by show s9.1 129 = _; rw [j1], fun k x1 x2 => j3 k (by omega) (by omega), by show s9.2.2 101 = _; rw [j2]⟩
        have afx : afr s0 (cI s9 586 c9) := a1.trans (af5.trans (af9.trans (afr.i s9 c9 (Or.inr rfl))))
        have i584 : (cI s9 586 c9).1 584 = s.1 584 := by
          show s9.1 584 = _
          rw [j1]
          exact f5.1 584 (by unfold fIn; omega) (fun p hp => by omega)
        have e31 : (cI s9 586 c9).2.1 31 = s.2.1 31 := (j3 31 (by decide) (by decide)).trans (f5.2.1 31 (by decide) (fun p hp => by omega))
        have e32 : ∀ j, j ≠ i → s9.2.1 32 j = s.2.1 32 j := fun j hj => (j4 j hj).1.trans (by rw [f5.2.1 32 (by decide) (fun p hp => by omega)])
        have e33 : ∀ j, j ≠ i → s9.2.1 33 j = s.2.1 33 j := fun j hj => (j4 j hj).2.trans (by rw [f5.2.1 33 (by decide) (fun p hp => by omega)])
        by_cases he : aEn L
        · have h88 : s9.1 88 = 1 := by rw [j1]; exact n5.2.2.1 he
          rw [h88, if_neg (by decide : ¬ (1 : Int32) = 0)]
          obtain ⟨p1, p2⟩ := j6 he
          have eVe : visS R r0 r1 ((audK R r0 r1 T1 i).2.1[i]'hil) (audK R r0 r1 T1 i).2.1 = (c9, (audK R r0 r1 T1 i).2.1, (goalV (aGs L [r0, r1] 0), 0, [])) := by
            rw [eV]
            unfold visL
            rw [if_pos he]
            by_cases hg : goalV (aGs L [r0, r1] 0) = -1 ∨ goalV (aGs L [r0, r1] 1) = -1
            · rw [if_pos hg, p1 hg]
            · rw [if_neg hg]
              by_cases h8 : goalV (aGs L [r0, r1] 0) + goalV (aGs L [r0, r1] 1) = 8
              · rw [if_pos h8, (p2 hg).2.1 h8]
              · rw [if_neg h8, (p2 hg).2.2 h8]
          refine TX0_run_130 hN ?_
          rw [if_pos (by decide)]
          refine mkA c9 _ _ _ G eVe afx a2 (g5.b.n n9) (by rw [i584, a4]) rfl a6 (fun hz => ⟨fun j d' hd' => ?_, fun j t x1 x2 x3 => ?_⟩)
          · by_cases hji : j < i
            · rw [List.getElem?_append_left (by omega)] at hd'
              obtain ⟨y1, y2, y3⟩ := hd7.1 j d' hd'
              refine ⟨(e32 j (by omega)).trans y1, fun hn0 => ?_, by rw [e31]; exact y3⟩
              show s9.2.1 33 j = 0 ↔ _
              rw [e33 j (by omega)]
              exact y2 hn0
            · have hjl := (List.getElem?_eq_some_iff.mp hd').1
              simp only [List.length_append, List.length_singleton] at hjl
              have ej : j = i := by omega
              subst ej
              rw [List.getElem?_append_right (by omega), hDl, Nat.sub_self] at hd'
              have ed : (goalV (aGs L [r0, r1] 0), 0, []) = d' := Option.some.inj hd'
              subst ed
              have hng : ¬ (goalV (aGs L [r0, r1] 0) = -1 ∨ goalV (aGs L [r0, r1] 1) = -1) := by
                intro zz
                rw [p1 zz] at hz
                exact absurd hz (by decide)
              refine ⟨(p2 hng).1, fun z => absurd rfl z, fun t ht => ?_⟩
              rw [e31, hd7.2 j t (by omega) (by omega) ht]
              rfl
          · rw [e31]
            simp only [List.length_append, List.length_singleton] at x1
            exact hd7.2 j t (by omega) x2 x3
        · have h88 : s9.1 88 = 0 := by rw [j1]; exact n5.2.2.2 he
          rw [h88, if_pos rfl]
          obtain ⟨p1, p2, p3⟩ := j7 he
          by_cases hz2 : (aMv L [r0, r1] 0).length = 0 ∨ (aMv L [r0, r1] 1).length = 0
          · have ec : c9 = 2 := p2 hz2
            subst ec
            refine bail 2 _ (-1, 0, []) _ _ (by decide) ?_ rfl afx (g5.b.n n9) i584 rfl
            rw [eV]
            unfold visL
            rw [if_neg he, if_pos hz2]
          · obtain ⟨p4, p5⟩ := p3 hz2
            by_cases h3 : 1 < (aMv L [r0, r1] 0).length ∧ 1 < (aMv L [r0, r1] 1).length
            · have ec : c9 = 3 := p4 h3
              subst ec
              refine bail 3 _ (-1, 0, []) _ _ (by decide) ?_ rfl afx (g5.b.n n9) i584 rfl
              rw [eV]
              unfold visL
              rw [if_neg he, if_neg hz2, if_pos h3]
            · have ec : c9 = 0 := p5 h3
              subst ec
              have l0 := n5.2.1.1.2.1
              have l1 := n5.2.1.2.2.1
              have hmn : (aMv L [r0, r1] 0).length * (aMv L [r0, r1] 1).length ≤ 200 := by
                by_cases h4 : (aMv L [r0, r1] 0).length = 1
                · rw [h4, Nat.one_mul]; exact l1
                · have h5 : (aMv L [r0, r1] 1).length = 1 := by omega
                  rw [h5, Nat.mul_one]; exact l0
              have e501 : s9.1 501 = nI (aMv L [r0, r1] 0).length := by rw [j1]; exact n5.1.1.1
              rw [e501]
              refine cs_run146 (d := d) (z := z) (Ti := (audK R r0 r1 T1 i).2.1[i]'hil) (S := (audK R r0 r1 T1 i).2.1) (D := (audK R r0 r1 T1 i).2.2) (s0 := s0) (G0 := G0) hN hf (by omega) hDl k1 hP0 hok n5.2.1.1.1 n5.2.1.2.1 l0 l1 hmn (by omega) (fun s' G' hX => ?_) (aMv L [r0, r1] 0).length 0 (by omega) _ G ?_
              · obtain ⟨⟨x1, x2⟩, ⟨L', x3⟩, _, x6, x7, x8, x9, x10, x11, x12, x13⟩ := hX
                refine mkA _ _ (-1, (aMv L [r0, r1] 1).length, (exK R ((audK R r0 r1 T1 i).2.1[i]'hil) r0 r1 (aMv L [r0, r1] 0) (aMv L [r0, r1] 1) (audK R r0 r1 T1 i).2.1 ((aMv L [r0, r1] 0).length * (aMv L [r0, r1] 1).length)).2.2) s' G' ?_ x1 x2 x3.b x6 x7 x8 (fun hz => ⟨fun j d' hd' => ?_, fun j t y1 y2 y3 => ?_⟩)
                · rw [eV]
                  unfold visL
                  rw [if_neg he, if_neg hz2, if_neg h3]
                · by_cases hji : j < i
                  · rw [List.getElem?_append_left (by omega)] at hd'
                    exact x9 j d' hd'
                  · have hjl := (List.getElem?_eq_some_iff.mp hd').1
                    simp only [List.length_append, List.length_singleton] at hjl
                    have ej : j = i := by omega
                    subst ej
                    rw [List.getElem?_append_right (by omega), hDl, Nat.sub_self] at hd'
                    have ed := Option.some.inj (show some _ = some d' from hd')
                    rw [← ed]
                    exact ⟨x10, fun _ => x11, x12⟩
                · simp only [List.length_append, List.length_singleton] at y1
                  exact x13 j t (by omega) y2 y3
              · rw [Nat.zero_mul]
                refine ⟨⟨afx, a2⟩, ⟨L, g5.n n9⟩, ⟨?_, ?_⟩, by rw [i584, a4]; rfl, rfl, a6, fun j d' hd' => ?_, p1, j5, fun t ht => ?_, fun j t y1 y2 y3 => ?_⟩
                · exact n5.1.1.same (by show s9.1 501 = _; rw [j1]) (j3 26 (by decide) (by decide))
                · exact n5.1.2.same (by show s9.1 541 = _; rw [j1]) (j3 28 (by decide) (by decide))
                · have hjl := (List.getElem?_eq_some_iff.mp hd').1
                  obtain ⟨y1, y2, y3⟩ := hd7.1 j d' hd'
                  refine ⟨(e32 j (by omega)).trans y1, fun hn0 => ?_, by rw [e31]; exact y3⟩
                  show s9.2.1 33 j = 0 ↔ _
                  rw [e33 j (by omega)]
                  exact y2 hn0
                · rw [e31, hd7.2 i t (by omega) (by omega) ht]
                  rfl
                · rw [e31]
                  exact hd7.2 j t (by omega) y2 y3
      · rw [if_pos rfl]
        have af5 : afr s s5 := (f5.g (ps := fun p => p = 23 ∨ p = 25 ∨ p = 27)).a
        have eV : visS R r0 r1 ((audK R r0 r1 T1 i).2.1[i]'hil) (audK R r0 r1 T1 i).2.1 = (7, (audK R r0 r1 T1 i).2.1, (-1, 0, [])) := visS_7 (vw_none b5)
        have i584 : (cI s5 586 7).1 584 = s.1 584 := f5.1 584 (by decide) (by decide) (by decide) (by decide) (by decide) (by decide) (by decide)
        have n5 : nfr s5 (cI s5 586 7) := ⟨rfl, rfl, rfl, fun _ _ _ => rfl, rfl⟩
        split
        · exact bail 7 _ _ _ _ (by decide) eV rfl (a1.trans (af5.trans (afr.i s5 7 (Or.inr rfl)))) (g5.n n5) i584 rfl
        · exact bail 7 _ _ _ _ (by decide) eV rfl (a1.trans (af5.trans (afr.i s5 7 (Or.inr rfl)))) (g5.n n5) i584 rfl
