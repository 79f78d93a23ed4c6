/-! load: the class -/
theorem bM_hi {C : Nat} {s : cS} {G : gm_H} {a : Nat} (h : C + 34 ≤ a) : bM C (cH C s) G a = G a := bM_out (fun z => by
  have e : (cH C s).length = 34 := rfl
  rw [e] at z
  omega)
theorem cRule.g {C : Nat} {s : cS} {G : gm_H} {lo hi r : Nat} {x : Rl} (h : cRule G lo hi r x) (hlo : C + 34 ≤ lo) (hw : wfR x) : gRule (bM C (cH C s) G) r x := by
  obtain ⟨hh, b, fa, a1, a2, a3, a4, e1, e2, e3, bd⟩ := h
  refine ⟨hh, b, fa, (bM_hi (by omega)).trans e1, (bM_hi (by omega)).trans e2, (bM_hi (by omega)).trans e3, hw.2.1, fun j y hy => ?_⟩
  obtain ⟨a, b1, b2, b3, b4⟩ := bd.1 j y hy
  exact ⟨a, b1, (bM_hi (by omega)).trans b4⟩
def gy (C : Nat) (G : gm_H) (sz : Nat) (G' : gm_H) (sz' : Nat) : Prop := (∀ a, a < sz → ¬ (C ≤ a ∧ a < C + 34) → G' a = G a) ∧ gm_bd G' sz' ∧ sz ≤ sz' ∧ sz' ≤ sz + 400
theorem bd_le {G : gm_H} {a b : Nat} (h : gm_bd G a) (hl : a ≤ b) : gm_bd G b := fun q x hq => Nat.lt_of_lt_of_le (h q x hq) hl
theorem cs_load67 {N0 : Nat} {K : Nat → Nat} {d C q : Nat} {s : cS} {G : gm_H} {sz sl : Nat} {R : List Rl} {fa : Nat → Option Nat} {f2 f3 f4 : Nat → Int32} {Q : Outcome → cS → gm_H → Nat → Nat → Prop} (hN : N0 ≤ C) (hq : C + 34 ≤ q) (hR : gRules (bM C (cH C s) G) q R fa) (h3 : bM C (cH C s) G (q + 3) = some (iarr 24 f3)) (h4 : bM C (cH C s) G (q + 4) = some (iarr 24 f4)) (hD : trDone R f2 f3 f4) (hw : ∀ x ∈ R, wfR x) (qf : ∀ f r, flFirst R f r → Q (.threw 1) (cI (cI s 2 (nI f)) 3 (nI r)) G (sz + 1) (sl + 6)) (qn : flNone R → (C + 34 ≤ sz) ∧ ((gm_bd G sz) ∧ (kX4_init_gz N0 K (d + 17) C sz q s (gm_new G sz (.inr (4, [.null, .null, .null, .int 0]))) (sz + 1) (fun _ G5 z5 d5 => kX3_take N0 K (d + 17) C sz s G5 z5 (fun r10 s10 => if r10 = 0 then (Q (.threw 2) s10 G5 (z5 + 1) (((sl + 4) + d5) + 6)) else (kX0_forget N0 K (d + 17) C s10 G5 z5 (fun _ s13 => ∃ fso15 : List Value, (G5 q = some (.inr (8, fso15))) ∧ (∃ x16 : Int32, (fso15[1]? = some (.int x16)) ∧ ((C + 34 ≤ q) ∧ (Q (.returned (some (.int x16))) s13 G5 z5 ((sl + 4) + d5))))))))))) : ∀ n k, k + n = 6 → 2 ≤ k → (∀ f', 2 ≤ f' → f' < k → ∀ x ∈ R, ¬ flt R f' x) → hX11_load_67 N0 K (d + 17) C q (nI k) s G sz sl Q := by
  intro n
  induction n with
  | zero =>
    intro k hk h2 hno
    have e6 : k = 6 := by omega
    subst e6
    refine TX11_load_67 hN ?_
    rw [if_pos (by decide)]
    exact qn (fun f a b => hno f a b)
  | succ n ih =>
    intro k hk h2 hno
    refine TX11_load_67 hN ?_
    rw [if_neg (show ¬ (5 : Int32) < nI k from Int32.not_lt.mpr (show nI k ≤ nI 5 from nI_le (by omega) (by decide)))]
    refine ⟨qcell q R.length, ?_, hq, ?_⟩
    · have := hR.1
      rw [bM_hi hq] at this
      exact this
    · refine kq_placeOf (d := d + 11) h2 (by omega) hR h3 h4 hD hw (fun r x a b c => ?_) (fun a => ?_)
      · have hr := (List.getElem?_eq_some_iff.mp a).1
        have h24 := hR.2.2.1
        rw [if_neg (nI_n1 (by omega))]
        exact qf k r ⟨h2, by omega, ⟨x, a, b⟩, c, hno⟩
      · rw [if_pos rfl, nI_1]
        refine ih (k + 1) (by omega) (by omega) (fun f' x1 x2 => ?_)
        by_cases e : f' = k
        · subst e
          exact a
        · exact hno f' x1 (by omega)
theorem cq_load {N0 : Nat} {K : Nat → Nat} {d C : Nat} {X : List Int32} {s : cS} {G : gm_H} {sz : Nat} {R' : List Rl} {P' T' : List Tm} {L : List Fct} {Q : Outcome → cS → gm_H → Nat → Nat → Prop} (hN : N0 ≤ C) (hK : K 0 < C) (hG : G (K 0) = some (.inl (gm_scr, 8, .inl c_kt))) (hbd : gm_bd G sz) (hsz : C + 185 ≤ sz) (hX : X.length ≤ 240) (h1 : s.1 1 = nI X.length) (hx : ∀ k, k < X.length → s.2.1 1 k = X.getD k 0) (hL : cFacts s L) (h16 : s.2.1 16 0 = 0) (hold : s.2.2 80 = none ∨ ∃ z', s.2.2 80 = some z' ∧ LYX G C z' R' ∧ tS s 17 P' ∧ okP P' ∧ tS s 21 T' ∧ okT T' ∧ T'.length ≤ 24 ∧ ∃ L, Mdl R' (bT T') L ∧ Small R' L)
    (qp : ∀ s' G' sz' dd l', ps_all 24 [] X = (none, l') → ofr s s' → s'.1 1 = 0 → s'.1 2 = 1 → s'.1 3 = nI (X.length - l'.length) → gy C G sz G' sz' → dd ≤ 3000 → Q (.threw 0) s' G' sz' dd)
    (qf : ∀ s' G' sz' dd R l' f r, ps_all 24 [] X = (some R, l') → flFirst R f r → ofr s s' → s'.1 1 = 0 → s'.1 2 = nI f → s'.1 3 = nI r → gy C G sz G' sz' → dd ≤ 3000 → Q (.threw 1) s' G' sz' dd)
    (qb : ∀ s1 s2 G' sz' dd R l', ps_all 24 [] X = (some R, l') → flNone R → ofr s s1 → s1.1 1 = 0 → s1.1 2 = 0 → s1.1 3 = 0 → gy C G sz G' sz' → dd ≤ 3000 → aBad R → ((s1.2.2 80 = none ∧ gfr (fun p => p = 23) s1 s2 ∧ (∃ L, cFacts s2 L) ∧ s2.2.1 16 0 = 0) ∨ (∃ z' L', s1.2.2 80 = some z' ∧ gfr (fun p => p = 23 ∨ p = 25 ∨ p = 27) s1 s2 ∧ FS G' C z' R' T' s2 L' ∧ Mdl R' (bT T') L' ∧ Small R' L' ∧ SN s2 L' P')) → Q (.threw 2) s2 G' sz' dd)
    (q1 : ∀ s1 s2 G' sz' dd z R l' T1 L', ps_all 24 [] X = (some R, l') → flNone R → ofr s s1 → s1.1 1 = 0 → s1.1 2 = 0 → s1.1 3 = 0 → gy C G sz G' sz' → dd ≤ 3000 → gfr (fun p => p = 17 ∨ p = 19 ∨ p = 21 ∨ p = 23 ∨ p = 25 ∨ p = 27) (cR s1 80 (some z)) s2 → aBg R = some T1 → okT T1 → T1.length ≤ 24 → FS G' C z R T1 s2 L' → Mdl R (bT T1) L' → Small R L' → okP (aRw 329 L') → tS s2 17 (aRw 329 L') → tS s2 19 T1 → tS s2 21 T1 → SN s2 L' (aRw 329 L') → Q (.returned (some (.int (nI R.length)))) (cI (cI s2 585 (0 : Int32)) 584 (0 : Int32)) G' sz' dd) : hX11_load_0 N0 K (d + 17) C s G sz 0 Q := by
  refine TX11_load_0 hN ?_
  rw [h1]
  refine cq_read (d := d + 10) (T := X) hN (by omega) hbd hK hG hX hx (fun s' l' e1 e2 e3 eL => ?_)
  have o : ofr s s' := ⟨fun i a b c e => (e1 i e).trans ((if_neg c).trans ((if_neg b).trans (if_neg a))), fun i a b => e2 i a b, fun i a => e3 i a⟩
  have v1 : s'.1 1 = 0 := e1 1 (by decide)
  have v2 : s'.1 2 = 0 := e1 2 (by decide)
  have v3 : s'.1 3 = 0 := e1 3 (by decide)
  refine ⟨fun R hR G1 z1 d1 gxx hz hd hc => ?_, fun hR G1 z1 d1 gxx hz hd => ?_⟩
  · obtain ⟨fa, iv, c8, c1, c2, c3, c4, iv0, ivm, ivn, cr⟩ := hc
    obtain ⟨w1, w0, w2⟩ := ps_all_wf 24 [] X rfl (fun r hr => by simp at hr) R l' hR
    have ivge : ∀ r, r ≤ R.length → iv 0 ≤ iv r := by
      intro r
      induction r with
      | zero => intro _; exact Nat.le_refl _
      | succ r ih => intro h; exact Nat.le_trans (ih (by omega)) (ivm r (by omega))
    have ivR := ivge R.length (Nat.le_refl _)
    refine Or.inr ⟨sz, rfl, qcell sz R.length, c8, by omega, ?_⟩
    have hT : TrOk C s' sz R fa z1 G1 G1 (fun _ => 0) (fun _ => 0) (fun _ => 0) := by
      refine ⟨⟨(bM_hi (by omega)).trans c8, (bM_hi (by omega)).trans c1, w2, fun r x hrx => ?_⟩, ⟨(bM_hi (by omega)).trans c2, (bM_hi (by omega)).trans c3, (bM_hi (by omega)).trans c4⟩, gxx.2.1, fun _ _ _ _ => rfl⟩
      obtain ⟨ad, x1, x2⟩ := cr r x hrx
      have hr := (List.getElem?_eq_some_iff.mp hrx).1
      have := ivge r (by omega)
      exact ⟨ad, x1, x2.g (by omega) (w1 x (List.mem_of_getElem? hrx))⟩
    refine kq_trace (d := d + 14) hN (by omega) w1 hT (fun G2 f2 f3 f4 tr td => ?_)
    obtain ⟨tR, ⟨t2, t3, t4⟩, tb, tf⟩ := tr
    have kp2 : ∀ a, a < sz → G2 a = G a := fun a h => (tf a (by omega) (by omega) (by omega)).trans (gxx.2.2 a h)
    refine cs_load67 hN (by omega) tR t3 t4 td w1 (fun f r hfl => ?_) (fun hfn => ⟨by omega, tb, ?_⟩) 4 2 rfl (by decide) (fun f' a b => by omega)
    · refine qf _ G2 (z1 + 1) _ R l' f r hR hfl ⟨fun i a b c e => (if_neg c).trans ((if_neg b).trans (o.1 i a b c e)), fun i a b => o.2.1 i a b, fun i a => o.2.2 i a⟩ v1 rfl rfl ⟨fun a h _ => kp2 a h, bd_le tb (by omega), by omega, by omega⟩ (by omega)
    · refine kq_init4 (d := d + 10) (p0 := sz) (q := z1) (iv := iv) (fr := fa) hN (by omega) iv0 ivm ivn w1 hfn w2 td tb ((tf sz (by omega) (by omega) (by omega)).trans c8) ((tf (sz + 1) (by omega) (by omega) (by omega)).trans c1) ((bM_hi (by omega)).symm.trans t2) ((bM_hi (by omega)).symm.trans t3) ((bM_hi (by omega)).symm.trans t4) (fun r x hrx => ?_) (fun G5 O ly st e0 e1' e2' rc lc p1 p2 lg fr bd5 => ?_)
      · obtain ⟨ad, x1, x2⟩ := cr r x hrx
        have hr := (List.getElem?_eq_some_iff.mp hrx).1
        have := ivge r (by omega)
        exact ⟨ad, x1, x2.mono (fun a lo hi => tf a (by omega) (by omega) (by omega))⟩
      have ly5 : LYX G5 C z1 R := ⟨O, ly, e0, e1', st, e2', rc, sz, lc, ⟨hsz, by omega, lg⟩, p1, p2⟩
      have keep : ∀ a, a < sz → ¬ (C ≤ a ∧ a < C + 34) → G5 a = G a := fun a h h' => (fr a (by omega) h').trans (kp2 a h)
      have ext : ∀ a y, C + 185 ≤ a → G a = some y → G5 a = some y := fun a y h hy => (keep a (hbd a y hy) (by omega)).trans hy
      refine cq_taking (d := d) (R' := R') (P' := P') (T' := T') (L := L) hN w1 hfn w2 ly5 (o.n.facts hL) (by rw [o.2.1 16 (by decide) (by decide)]; exact h16) ?_ (fun s2 T1 P L' f bg oT lT F M S eP okp t17 t19 t21 sn => ?_) (fun s2 bad alt => ?_)
      · rcases hold with hz' | ⟨z', hz', l1, l2, l3, l4, l5, l6, l7⟩
        · exact Or.inl ((o.2.2 80 (by decide)).trans hz')
        · exact Or.inr ⟨z', (o.2.2 80 (by decide)).trans hz', l1.ext ext, l2.o o (by decide), l3, l4.o o (by decide), l5, l6, l7⟩
      · rw [if_neg (by decide)]
        refine kX0_forget.of (TX0_forget_0 hN ?_)
        subst eP
        exact ⟨qcell sz R.length, (fr sz (by omega) (by omega)).trans ((tf sz (by omega) (by omega) (by omega)).trans c8), nI R.length, rfl, by omega, q1 s' s2 G5 (z1 + 6) _ z1 R l' T1 L' hR hfn o v1 v2 v3 ⟨keep, bd5, by omega, by omega⟩ (by omega) f bg oT lT F M S okp t17 t19 t21 sn⟩
      · rw [if_pos rfl]
        exact qb s' s2 G5 (z1 + 6 + 1) _ R l' hR hfn o v1 v2 v3 ⟨keep, bd_le bd5 (by omega), by omega, by omega⟩ (by omega) bad alt
  · refine Or.inl ⟨rfl, kX6_place.of (TX6_place_0 hN ?_)⟩
    obtain ⟨_, _, _, _, qq, y1, y2, y3⟩ := eL
    refine qp _ G1 (z1 + 1) _ l' hR ⟨fun i a b c e => (if_neg c).trans ((if_neg b).trans (o.1 i a b c e)), fun i a b => o.2.1 i a b, fun i a => o.2.2 i a⟩ v1 rfl ?_ ⟨fun a h _ => gxx.2.2 a h, bd_le gxx.2.1 (by omega), by have := gxx.1; omega, by omega⟩ (by omega)
    rw [show X.length - l'.length = qq by omega]
    exact y2
