/-! the class: other rules are taken -/
noncomputable def aBg (R : List Rl) : Option (List Tm) := (vw R []).bind (aSt 293)
def aBad (R : List Rl) : Prop := aBg R = none ∨ ∃ T1, aBg R = some T1 ∧ vw R (bT T1) = none
theorem gfr.r {ps : Nat → Prop} {s s' : cS} (h : gfr ps s s') (v : Option Nat) : gfr ps (cR s 80 v) (cR s' 80 v) := ⟨h.1, h.2.1, fun i hi => by
  show (if i = 80 then v else s'.2.2 i) = (if i = 80 then v else s.2.2 i)
  by_cases e : i = 80
  · rw [if_pos e, if_pos e]
  · rw [if_neg e, if_neg e]
    exact h.2.2 i hi⟩
theorem nfr.r (s : cS) (v : Option Nat) : nfr s (cR s 80 v) := ⟨rfl, rfl, rfl, fun _ _ _ => rfl, rfl⟩
theorem cq_taking {N0 : Nat} {K : Nat → Nat} {d C z : Nat} {R R' : List Rl} {P' T' : List Tm} {L : List Fct} {s : cS} {G : gm_H} {sz : Nat} {Q : Int32 → cS → Prop} (hN : N0 ≤ C) (hw : ∀ x ∈ R, wfR x) (hf : flNone R) (h24 : R.length ≤ 24) (hl : LYX G C z R) (hL : cFacts s L) (h16 : s.2.1 16 0 = 0) (hold : s.2.2 80 = none ∨ ∃ z', s.2.2 80 = some z' ∧ LYX G C z' R' ∧ tS s 17 P' ∧ okP P' ∧ tS s 21 T' ∧ okT T' ∧ T'.length ≤ 24 ∧ ∃ L, Mdl R' (bT T') L ∧ Small R' L) (q1 : ∀ s' T1 P L', gfr (fun p => p = 17 ∨ p = 19 ∨ p = 21 ∨ p = 23 ∨ p = 25 ∨ p = 27) (cR s 80 (some z)) s' → aBg R = some T1 → okT T1 → T1.length ≤ 24 → FS G C z R T1 s' L' → Mdl R (bT T1) L' → Small R L' → P = aRw 329 L' → okP P → tS s' 17 P → tS s' 19 T1 → tS s' 21 T1 → SN s' L' P → Q 1 s') (q0 : ∀ s', aBad R → ((s.2.2 80 = none ∧ gfr (fun p => p = 23) s s' ∧ (∃ L, cFacts s' L) ∧ s'.2.1 16 0 = 0) ∨ (∃ z' L', s.2.2 80 = some z' ∧ gfr (fun p => p = 23 ∨ p = 25 ∨ p = 27) s s' ∧ FS G C z' R' T' s' L' ∧ Mdl R' (bT T') L' ∧ Small R' L' ∧ SN s' L' P')) → Q 0 s') : kX3_take N0 K (d + 17) C z s G sz Q := by
  have back : ∀ (s4 : cS) (L4 : List Fct), gfr (fun p => p = 23) s s4 → cFacts s4 L4 → s4.2.1 16 0 = 0 → aBad R → (((s4.2.2 80 = none) ∧ (Q (0 : Int32) s4)) ∨ (∃ r8 : Nat, (s4.2.2 80 = some r8) ∧ (kX2_begin N0 K (d + 16) C r8 s4 G sz (fun r10 s10 => kX3_look N0 K (d + 16) C (C + 21) s10 G sz (fun r13 s13 => Q (0 : Int32) s13))))) := by
    intro s4 L4 f4 c4 h4 hb
    have e80 : s4.2.2 80 = s.2.2 80 := f4.2.2 80 (by decide)
    rw [e80]
    rcases hold with ho | ⟨z', o1, o2, o3, o4, o5, o6, o7, Lg, o8, o9⟩
    · exact Or.inl ⟨ho, q0 s4 hb (Or.inl ⟨ho, f4, ⟨L4, c4⟩, h4⟩)⟩
    · refine Or.inr ⟨z', o1, ?_⟩
      have hbg : ∀ {X : Prop}, Bad R' TD → X := fun hbad => absurd o9 (hbad (bT T') Lg (fun f hf => Or.inl (by obtain ⟨t, _, e⟩ := bT_mem.mp hf; rw [e])) o8)
      refine kq_begin (d := d + 1) hN o2 c4 h4 (fun s10 f10 g10 => ?_) (fun s10 L10 f10 c10 h10 hbad => hbg hbad)
      have f410 : gfr (fun p => p = 23) s s10 := f4.trans f10.g
      have t21 := o5.fr f410 (by decide) (fun q hq => by omega)
      refine cq_look hN g10 (t21.cTs pos21 o7 o6.2) o6 (by omega) (o3.fr f410 (by decide) (fun q hq => by omega)) o4 (fun s' L' f g m k n => ?_) (fun s' f g bd => absurd bd (good_not o8 o9))
      exact q0 s' hb (Or.inr ⟨z', L', o1, (f410.mono (fun p hp => by omega)).trans (f.mono (fun p hp => by omega)), g, m, k, n⟩)
  refine kX3_take.of (TX3_take_0 hN ?_)
  refine kq_clear (d := d + 15) hN pos23 (fun s1 f1 t1 => ?_)
  have n1 := f1.n (by decide)
  have g1 : gfr (fun p => p = 23) s s1 := f1.g rfl
  refine kq_begin (d := d + 1) hN hl (n1.facts hL) (by rw [n1.2.2.2.1 16 (by decide) (by decide)]; exact h16) (fun s4 f4 g4 => ?_) (fun s4 L4 f4 c4 h4 hbad => ?_)
  · rw [if_neg (by decide)]
    have g14 : gfr (fun p => p = 23) s s4 := g1.trans f4.g
    have t4 := t1.fr (f4.g (ps := fun _ => False)) (by decide) (fun q hq => hq.elim)
    refine kq_inState (d := d + 1) (T := []) hN g4 (t4.cTs pos23 (by decide) (fun t ht => absurd ht (by simp))) List.nodup_nil (by decide) (fun s8 L8 f8 g8 m8 k8 => ?_) (fun s8 f8 g8 bd => ?_)
    · rw [if_neg (by decide)]
      have g18 : gfr (fun p => p = 23) s s8 := g14.trans f8.g
      obtain ⟨Lv, v1, v2⟩ := vw_some hf m8 k8
      have hwf := g8.f.wf
      have evw : vw R [] = some Lv := v1
      refine kq_collect (d := d + 13) (rel := 1) hN pos23 g8.f (by decide) (cf1_ex hwf vr_I (by decide)) (fun s12 T12 a1 a2 a3 a4 a5 => ?_) (fun s12 T12 a1 a2 a3 a4 a5 a6 => ?_)
      · rw [if_neg (by decide)]
        have g12 : gfr (fun p => p = 23) s s12 := g18.trans (a1.g rfl)
        have ebg : aBg R = some T12 := by
          unfold aBg
          rw [evw]
          show aSt 293 Lv = some T12
          rw [← aSt_same v2]
          exact aSt_some a3 a4 (fun x => (a5 x).trans (cf1 hwf vr_I (by decide) x))
        refine kq_inState (d := d + 1) hN (g8.b.n (a1.n (by decide))) (a2.cTs pos23 a4 a3.2) a3.nodup (by omega) (fun s16 L16 f16 g16 m16 k16 => ?_) (fun s16 f16 g16 bd => ?_)
        · rw [if_neg (by decide)]
          have g116 : gfr (fun p => p = 23) s s16 := g12.trans f16.g
          have gr : gfr (fun p => p = 23) (cR s 80 (some z)) (cR s16 80 (some z)) := g116.r _
          have t16' : tS s16 23 T12 := a2.fr (f16.g (ps := fun _ => False)) (by decide) (fun q hq => hq.elim)
          have t16 : tS (cR s16 80 (some z)) 23 T12 := t16'
          refine kq_copy (d := d + 14) hN pos19 pos23 (by decide) (by decide) t16 a4 a4 (fun s19 f19 t19 => ?_)
          have t19' := t16.fr (f19.g (ps := fun p => p = 19) rfl) (by decide) (fun q hq => by omega)
          refine kq_copy (d := d + 14) hN pos21 pos23 (by decide) (by decide) t19' a4 a4 (fun s21 f21 t21 => ?_)
          have n21 : nfr s16 s21 := (nfr.r s16 _).trans ((f19.n (by decide)).trans (f21.n (by decide)))
          have F21 := g16.n n21
          have hwf16 := F21.f.wf
          refine kq_collect (d := d + 13) (rel := 0) hN pos17 F21.f (by decide) (cf1_ex hwf16 vr_R (by decide)) (fun s24 P24 b1 b2 b3 b4 b5 => ?_) (fun s24 P24 b1 b2 b3 b4 b5 b6 => ?_)
          · have eP : P24 = aRw 329 L16 := (rowS_eq b3 (fun x => (b5 x).trans (cf1 hwf16 vr_R (by decide) x))).symm
            refine cq_seeMoves (d := d + 12) hN b2 ⟨b3, b4⟩ ((b1.n (by decide)).facts F21.f) (fun s26 f26 n26 k26 => ?_)
            have f24 : gfr (fun p => p = 17) s21 s24 := b1.g rfl
            refine q1 s26 T12 P24 L16 ?_ ebg a3 a4 ((F21.n (b1.n (by decide))).n n26) m16 k16 eP ⟨b3, b4⟩ (b2.fr f26 (by decide) (fun q hq => by omega)) ?_ ?_ k26
            · refine (gr.mono (fun p hp => by omega)).trans ?_
              refine ((f19.g (ps := fun p => p = 19) rfl).mono (fun p hp => by omega)).trans ?_
              refine ((f21.g (ps := fun p => p = 21) rfl).mono (fun p hp => by omega)).trans ?_
              exact (f24.mono (fun p hp => by omega)).trans (f26.mono (fun p hp => by omega))
            · exact ((t19.fr (f21.g (ps := fun p => p = 21) rfl) (by decide) (fun q hq => by omega)).fr f24 (by decide) (fun q hq => by omega)).fr f26 (by decide) (fun q hq => by omega)
            · exact (t21.fr f24 (by decide) (fun q hq => by omega)).fr f26 (by decide) (fun q hq => by omega)
          · exfalso
            obtain ⟨t, t1', t2', t3'⟩ := b6
            refine roles_fit hw hf h24 m16.2.2.1 (fun f hf2 => ?_) b3 (fun x hx => (cf1 hwf16 vr_R (by decide) x).mp (b5 x hx)) t1' t2' ((cf1 hwf16 vr_R (by decide) t).mp t3')
            obtain ⟨t', _, e⟩ := bT_mem.mp hf2
            rw [e]
            exact (by decide : (337 : Nat) ≠ 329)
        · rw [if_pos rfl]
          obtain ⟨⟨L', c'⟩, h'⟩ := g16.c
          exact back s16 L' (g12.trans f16.g) c' h' (Or.inr ⟨T12, ebg, vw_none bd⟩)
      · rw [if_pos rfl]
        have c12 := (a1.n (by decide)).facts g8.f
        obtain ⟨_, h'⟩ := (g8.b.n (a1.n (by decide))).c
        refine back s12 L8 (g18.trans (a1.g rfl)) c12 h' (Or.inl ?_)
        unfold aBg
        rw [evw]
        show aSt 293 Lv = none
        rw [← aSt_same v2]
        refine aSt_none ?_
        obtain ⟨t, t1', t2', t3'⟩ := a6
        exact row_over a3 (fun x hx => (cf1 hwf vr_I (by decide) x).mp (a5 x hx)) t1' t2' ((cf1 hwf vr_I (by decide) t).mp t3')
    · rw [if_pos rfl]
      obtain ⟨⟨L', c'⟩, h'⟩ := g8.c
      refine back s8 L' (g14.trans f8.g) c' h' (Or.inl ?_)
      unfold aBg
      rw [show vw R [] = none from vw_none bd]
      rfl
  · rw [if_pos rfl]
    refine back s4 L4 (g1.trans f4.g) c4 h4 (Or.inl ?_)
    unfold aBg
    rw [vw_none (hbad.weak (fun B' h f hf2 => absurd ((h f).mp hf2) (by simp)))]
    rfl
/-- goals -/
theorem goalV_nil : goalV [] = -1 := rfl
theorem tE_and {t : Tm} (h : gT t) : (nI (tE t) &&& (2097151 : Int32) = 0 ↔ t.1 = 0) ∧ ((nI (tE t)).toUInt32 >>> (((21 : Int32)).toUInt32 &&& Int32.toUInt32 31)).toInt32 = nI (cn (tTop t)) ∧ cn (tTop t) < 128 := by
  obtain ⟨p1, p2, p3, p4, p5⟩ := h.1.par
  have c0 := cn_getD_lt p1 0
  have c1 := cn_getD_lt p1 1
  have c2 := cn_getD_lt p1 2
  have hl := (tE_lt h.1).1
  obtain ⟨z1, z2, z3, z4⟩ := dg4 (a := cn (tTop t)) c0 c1 c2
  rw [← tE_top] at z1
  refine ⟨?_, ?_, (chP_cn p3).2.1⟩
  · rw [show (2097151 : Int32) = nI 2097151 from rfl, nI_and, n_andPart, ← nI_0, nI_eq (by omega) (by decide)]
    constructor
    · intro e
      refine Classical.not_not.mp (fun hz => ?_)
      obtain ⟨_, _, hlen⟩ := p5 hz
      rw [tE_top] at e
      have hm : tPar t = (tPar t).getD 0 0 :: (tPar t).tail := by
        cases hh : tPar t with
        | nil => rw [hh] at hlen; simp at hlen
        | cons a l => rfl
      have := (chP_cn (p1 ((tPar t).getD 0 0) (by rw [hm]; simp))).1
      omega
    · intro e
      have : tPar t = [] := if_pos e
      rw [tE_top, this]
      show (cn (tTop t) * 2097152 + 0 * 16384 + 0 * 128 + 0) % 2097152 = 0
      omega
  · have := nI_ush (n := tE t) (k := 21) (by omega) (by decide)
    rw [z1] at this
    exact this
theorem goal_term {t : Tm} (h : gT t) : goalV [t] = (if (nI (tE t) &&& (2097151 : Int32)) = 0 then (if ((((nI (tE t)).toUInt32 >>> (((21 : Int32)).toUInt32 &&& Int32.toUInt32 31)).toInt32) - (48 : Int32)) < 0 then (-1 : Int32) else (if (8 : Int32) < ((((nI (tE t)).toUInt32 >>> (((21 : Int32)).toUInt32 &&& Int32.toUInt32 31)).toInt32) - (48 : Int32)) then (-1 : Int32) else ((((nI (tE t)).toUInt32 >>> (((21 : Int32)).toUInt32 &&& Int32.toUInt32 31)).toInt32) - (48 : Int32)))) else (-1 : Int32)) := by
  obtain ⟨a, b, c⟩ := tE_and h
  rw [b]
  show (if t.1 = 0 ∧ 48 ≤ cn (ps_hc t.2) ∧ cn (ps_hc t.2) ≤ 56 then nI (cn (ps_hc t.2) - 48) else -1) = _
  by_cases hz : t.1 = 0
  · rw [if_pos (a.mpr hz)]
    have et : tTop t = ps_hc t.2 := if_pos hz
    rw [et] at c ⊢
    have key : ∀ m, m < 128 → (if 48 ≤ m ∧ m ≤ 56 then nI (m - 48) else -1) = (if nI m - (48 : Int32) < 0 then (-1 : Int32) else if (8 : Int32) < nI m - (48 : Int32) then (-1 : Int32) else nI m - (48 : Int32)) := by decide +kernel
    rw [← key _ c]
    by_cases h2 : 48 ≤ cn (ps_hc t.2) ∧ cn (ps_hc t.2) ≤ 56
    · rw [if_pos ⟨hz, h2⟩, if_pos h2]
    · rw [if_neg (fun z => h2 z.2), if_neg h2]
  · rw [if_neg (fun z => hz (a.mp z)), if_neg (fun z => hz z.1)]
theorem cs_goal19 {N0 : Nat} {K : Nat → Nat} {d C i : Nat} {P : List Tm} {L : List Fct} {s : cS} {G : gm_H} {sz sl : Nat} {Q : Int32 → Prop} (hN : N0 ≤ C) (hi : i < 2 ^ 31) (hP : tS s 17 P) (hok : okP P) (hL : cFacts s L) (hnd : L.Nodup) (hr : ∃ T, okT T ∧ ∀ x, x ∈ T ↔ ∃ r, P[i]? = some r ∧ ((286, [r, x]) : Fct) ∈ L) (q : Q (goalV (aGs L P i))) : ∀ (k : Nat) (T : List Tm), k ≤ L.length → okT T → T.length ≤ 1 → (∀ x, x ∈ T ↔ ∃ (j : Nat) (f : Fct), k ≤ j ∧ L[j]? = some f ∧ cr f.1 = 6 ∧ te f.2 0 = atT P (nI i) ∧ f.2[1]? = some x) → hX3_goalOf_19 N0 K (d + 1) C (nI i) (te T 0) (nI (lst (pR L 6) k)) s G sz sl Q := by
  have hl200 := hL.2.1
  have hch := hL.ch
  have hwf := hL.wf
  intro k
  induction k using Nat.strongRecOn with
  | _ k ih =>
    intro T hk ho hl hm
    refine TX3_goalOf_19 hN ?_
    cases e : lst (pR L 6) k with
    | zero =>
      rw [if_pos (by decide)]
      have hall : ∀ x, x ∈ T ↔ ∃ r, P[i]? = some r ∧ ((286, [r, x]) : Fct) ∈ L := by
        intro x
        refine (hm x).trans (Iff.trans ?_ ((cf2 hwf vr_G (by decide) x (atT P (nI i))).trans (atT_iff hi hok.1.2)))
        constructor
        · rintro ⟨j, f, _, b, c⟩
          exact ⟨f, List.mem_of_getElem? b, c⟩
        · rintro ⟨f, b, c, c2⟩
          obtain ⟨j, hj⟩ := List.getElem?_of_mem b
          refine ⟨j, f, Nat.le_of_not_lt (fun z => ?_), hj, c, c2⟩
          have := lst_0 e j z
          rw [pR_get hj] at this
          simp [c] at this
      have eT : aGs L P i = T := rowS_eq ho hall
      rw [eT] at q
      match T, hl, q with
      | [], _, q =>
        have e0 : te ([] : List Tm) 0 = 0 := rfl
        rw [e0, if_pos (by decide), if_pos (by decide)]
        exact q
      | [t], _, q =>
        have e0 : te [t] 0 = nI (tE t) := rfl
        rw [e0]
        rw [goal_term (ho.2 t (by simp))] at q
        split
        · rename_i h1
          rw [if_pos h1] at q
          split
          · rename_i h2
            rw [if_pos h2] at q
            exact q
          · rename_i h2
            rw [if_neg h2] at q
            split
            · rename_i h3
              rw [if_pos h3] at q
              exact q
            · rename_i h3
              rw [if_neg h3] at q
              exact q
        · rename_i h1
          rw [if_neg h1] at q
          exact q
    | succ j =>
      obtain ⟨j1, j2, j3⟩ := lst_s e
      rw [if_neg (by rw [← nI_0]; exact nI_ge (by omega) (by omega))]
      have hf : L[j]? = some (L[j]'(by omega)) := List.getElem?_eq_getElem (by omega)
      obtain ⟨w1, w2, w3, w4⟩ := hch.2.1 j _ hf
      rw [pR_get hf] at j2
      have hcr : cr (L[j]'(by omega)).1 = 6 := by simpa using j2
      refine ⟨j + 1, rfl, by omega, kq_at (d := d) pos17 hP hok.2 ?_⟩
      rw [w2, w3, w4, hcr]
      have btw : ∀ k' f, j < k' → k' < k → L[k']? = some f → ¬ cr f.1 = 6 := by
        intro k' f a b c z
        have := j3 k' a b
        rw [pR_get c] at this
        simp [z] at this
      by_cases hu : te (L[j]'(by omega)).2 0 = atT P (nI i)
      · rw [if_pos hu]
        obtain ⟨t, ht⟩ := cf2_ex hwf vr_G (by decide) _ (List.mem_of_getElem? hf) hcr
        have hgt : gT t := w1.1.2.2 t (List.mem_of_getElem? ht)
        have et : te (L[j]'(by omega)).2 1 = nI (tE t) := by
          unfold te
          rw [ht]
        rw [et]
        match T, hl, hm, ho with
        | [], _, hm, ho =>
          have e0 : te ([] : List Tm) 0 = 0 := rfl
          rw [e0, if_pos rfl]
          refine ih j j1 [t] (by omega) ⟨List.pairwise_singleton _ _, fun x hx => by simp only [List.mem_singleton] at hx; rw [hx]; exact hgt⟩ (by simp) (fun x => ?_)
          rw [List.mem_singleton]
          constructor
          · intro z
            exact ⟨j, _, Nat.le_refl _, hf, hcr, hu, by rw [ht, z]⟩
          · rintro ⟨k', f, a, b, c, c2, c3⟩
            by_cases ek : k' = j
            · subst ek
              rw [hf] at b
              rw [← Option.some.inj b, ht] at c3
              exact (Option.some.inj c3).symm
            · have := (hm x).mpr ⟨k', f, Nat.le_of_not_lt (fun z => btw k' f (by omega) z b c), b, c, c2, c3⟩
              exact absurd this (by simp)
        | [t0], _, hm, ho =>
          have e0 : te [t0] 0 = nI (tE t0) := rfl
          have hg0 := ho.2 t0 (by simp)
          have := tE_lt hg0.1
          rw [e0, if_neg (nI_ne0 this.2 (by omega))]
          -- two goals: no row of one
          obtain ⟨T', o', m'⟩ := hr
          have eT : aGs L P i = T' := rowS_eq o' m'
          have in0 : t0 ∈ T' := by
            refine (m' t0).mpr ((atT_iff hi hok.1.2).mp ((cf2 hwf vr_G (by decide) t0 (atT P (nI i))).mp ?_))
            obtain ⟨k', f, a, b, c⟩ := (hm t0).mp (by simp)
            exact ⟨f, List.mem_of_getElem? b, c⟩
          have in1 : t ∈ T' := by
            refine (m' t).mpr ((atT_iff hi hok.1.2).mp ((cf2 hwf vr_G (by decide) t (atT P (nI i))).mp ?_))
            exact ⟨_, List.mem_of_getElem? hf, hcr, hu, ht⟩
          have hne : t0 ≠ t := by
            intro z
            obtain ⟨k', f, a, b, c, c2, c3⟩ := (hm t0).mp (by simp)
            obtain ⟨x1, x2, x3, x4⟩ := (hch.2.1 k' f b)
            have hf1 : f.1 = (L[j]'(by omega)).1 := (cr_inj x1.2 w1.2 (by rw [c, hcr]))
            have l1 : f.2.length = 2 := by
              rw [x1.1.2.1, cr_inj x1.2 vr_G.1 (by rw [c, vr_G.2])]
            have l2 : (L[j]'(by omega)).2.length = 2 := by
              rw [w1.1.2.1, cr_inj w1.2 vr_G.1 (by rw [hcr, vr_G.2])]
            have e2 : f.2 = (L[j]'(by omega)).2 := by
              refine te_inj (fun t ht => (x1.1.2.2 t ht).1) (fun t ht => (w1.1.2.2 t ht).1) (by omega) (by omega) (c2.trans hu.symm) ?_ ?_
              · rw [et]
                unfold te
                rw [c3, z]
              · unfold te
                rw [List.getElem?_eq_none (by omega), List.getElem?_eq_none (by omega)]
            have e3 : f = L[j]'(by omega) := Prod.ext hf1 e2
            rw [e3, ← hf] at b
            have := (List.getElem?_inj (by have := (List.getElem?_eq_some_iff.mp (b.trans hf)).1; exact this) hnd).mp b
            omega
          rw [eT] at q
          match T', in0, in1, q with
          | [], in0, _, _ => exact absurd in0 (by simp)
          | [a], in0, in1, _ =>
            simp only [List.mem_singleton] at in0 in1
            exact absurd (in0.trans in1.symm) hne
          | _ :: _ :: _, _, _, q => exact q
      · rw [if_neg hu]
        refine ih j j1 T (by omega) ho hl (fun x => ?_)
        rw [hm x]
        constructor
        · rintro ⟨k', f, a, b⟩
          exact ⟨k', f, by omega, b⟩
        · rintro ⟨k', f, a, b, c, c2, c3⟩
          by_cases ek : k' = j
          · subst ek
            rw [hf] at b
            rw [← Option.some.inj b] at c2
            exact absurd c2 hu
          · exact ⟨k', f, Nat.le_of_not_lt (fun z => btw k' f (by omega) z b c), b, c, c2, c3⟩
theorem cq_goalOf {N0 : Nat} {K : Nat → Nat} {d C i : Nat} {P : List Tm} {L : List Fct} {s : cS} {G : gm_H} {sz : Nat} {Q : Int32 → Prop} (hN : N0 ≤ C) (hi : i < 2 ^ 31) (hP : tS s 17 P) (hok : okP P) (hL : cFacts s L) (hnd : L.Nodup) (hr : ∃ T, okT T ∧ ∀ x, x ∈ T ↔ ∃ r, P[i]? = some r ∧ ((286, [r, x]) : Fct) ∈ L) (q : Q (goalV (aGs L P i))) : kX3_goalOf N0 K (d + 2) C (nI i) s G sz Q := by
  refine kX3_goalOf.of (TX3_goalOf_0 hN ?_)
  rw [(hL.2.2.2.1 6 (by decide)).1, show (0 : Int32) = te ([] : List Tm) 0 from rfl]
  refine cs_goal19 hN hi hP hok hL hnd hr q L.length [] (Nat.le_refl _) ⟨List.Pairwise.nil, fun t h => absurd h (by simp)⟩ (by simp) (fun x => ?_)
  constructor
  · intro z
    exact absurd z (by simp)
  · rintro ⟨j, f, a, b, _⟩
    have := (List.getElem?_eq_some_iff.mp b).1
    omega
