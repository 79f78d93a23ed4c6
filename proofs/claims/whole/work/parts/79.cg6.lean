/-! the class's audit: run, valueAt, choiceAt -/
/-- the audit was made -/
def AD (G : gm_H) (C : Nat) (R : List Rl) (P T1 : List Tm) (s : cS) : Prop := s.1 586 = (aOut R P T1).1 ∧ s.1 584 = nI (aOut R P T1).2.1.length ∧ ((aOut R P T1).1 = 0 → cSt G C (aOut R P T1).2.1 ∧ vOk (aOut R P T1).2.2 (s.2.1 32) ∧ (∀ i, i < (aOut R P T1).2.2.length → s.2.1 32 i ≠ -1) ∧ ∀ (j : Nat) d, (aOut R P T1).2.2[j]? = some d → wOk d.2.1 (s.2.1 31) j d.2.2)
theorem AD.fr {G : gm_H} {C : Nat} {R : List Rl} {P T1 : List Tm} {s s' : cS} (h : AD G C R P T1 s) (h1 : s'.1 586 = s.1 586) (h2 : s'.1 584 = s.1 584) (h3 : s'.2.1 31 = s.2.1 31) (h4 : s'.2.1 32 = s.2.1 32) : AD G C R P T1 s' := by
  unfold AD at h ⊢
  rw [h1, h2, h3, h4]
  exact h
theorem kq_fill31 {N0 : Nat} {K : Nat → Nat} {d C : Nat} {v : Int32} {s : cS} {G : gm_H} {sz : Nat} {Q : Unit → cS → Prop} (hN : N0 ≤ C) (q : ∀ f, (∀ k, k < 3600 → f k = v) → Q () (cA s 31 f)) : kJ7_fill_53178_s N0 K (d + 1) C (C + 31) v s G sz Q := by
  refine gC.mono (gq_fill (N0 := N0) (K := K) (d := d) (p := C + 31) (v := v) (na := 3600) (sz := sz) (M := bM C (cH C s) G) (fa := s.2.1 31) (Q := fun _ M' sz' dd => M' = bM C (cH C (cA s 31 (fun k => if k < 3600 then v else s.2.1 31 k))) G ∧ sz' = sz ∧ dd = 0) (by decide) (by omega) (bM_get (j := 31) rfl) ⟨(bM_set (j := 31) rfl).trans rfl, rfl, rfl⟩) ?_
  intro r M' sz' dd h
  obtain ⟨rfl, rfl, rfl⟩ := h
  exact ⟨_, G, rfl, rfl, rfl, rfl, q _ (fun k hk => if_pos hk)⟩
theorem cSt.nil {G : gm_H} {C : Nat} {S : List (List Tm)} (h : cSt G C S) : cSt G C [] := fun j hj => by
  obtain ⟨v, f, a, b, _⟩ := h j hj
  exact ⟨v, f, a, b, fun T hT => absurd hT (by simp)⟩
/-- all but what the audit changes -/
def afm (s s' : cS) : Prop := (∀ i, fIn i → i ≠ 461 → i ≠ 501 → i ≠ 541 → i ≠ 584 → i ≠ 585 → i ≠ 586 → s'.1 i = s.1 i) ∧ (∀ i, i < 7 ∨ 16 < i → i ≠ 24 → i ≠ 26 → i ≠ 28 → i ≠ 31 → i ≠ 32 → i ≠ 33 → s'.2.1 i = s.2.1 i) ∧ ∀ i, i ≠ 101 → s'.2.2 i = s.2.2 i
theorem two_of {P : List Tm} (h : P.length = 2) : ∃ r0 r1, P = [r0, r1] := by
  match P, h with
  | [r0, r1], _ => exact ⟨r0, r1, rfl⟩
theorem cq_run {N0 : Nat} {K : Nat → Nat} {d C z : Nat} {R : List Rl} {P T1 T : List Tm} {L : List Fct} {s : cS} {G : gm_H} {sz : Nat} {Q : Int32 → cS → gm_H → Prop} (hN : N0 ≤ C) (hf : flNone R) (h1 : okT T1 ∧ T1.length ≤ 24) (hT : okT T ∧ T.length ≤ 24) (hP : tS s 17 P) (hok : okP P) (h19 : tS s 19 T1) (h21 : tS s 21 T) (hF : FS G C z R T s L) (hm : Mdl R (bT T) L) (hs : Small R L) (hsn : SN s L P) (hcs : ∃ S, cSt G C S) (hmade : s.1 585 = 0 ∨ (s.1 585 = 1 ∧ AD G C R P T1 s)) (q : ∀ s' G' L', gFr C G G' → afm s s' → s'.1 585 = 1 → AD G' C R P T1 s' → FS G' C z R T s' L' → Mdl R (bT T) L' → Small R L' → SN s' L' P → (∃ S, cSt G' C S) → Q (aOut R P T1).1 s' G') : kX0_run N0 K (d + 17) C s G sz Q := by
  refine kX0_run.of (TX0_run_0 hN ?_)
  rcases hmade with h585 | ⟨h585, had⟩
  · rw [if_pos h585]
    obtain ⟨S, hcs⟩ := hcs
    obtain ⟨v, f, a, b, c⟩ := hcs 0 (by decide)
    refine ⟨_, a, ?_⟩
    have t19 : tS (cI (cI s 585 1) 584 1) 19 T1 := h19.same rfl rfl
    refine kq_copyG (d := d + 14) (k := 0) hN hcs (by decide) pos19 t19 h1.2 h1.2 (fun G4 g1 g2 => ?_)
    have gfr4 : gFr C G G4 := fun a ha => g1 a (by omega) (by omega)
    have st4 : cSt G4 C [T1] := g2 [T1] rfl (fun j hj T hT => by
      have := (List.getElem?_eq_some_iff.mp hT).1
      simp only [List.length_singleton] at this
      omega)
    refine kq_fill31 (d := d + 15) hN (fun f6 hf6 => ?_)
    have s6d : ∀ u : cS, u = cI (cA (cI (cI s 585 1) 584 1) 31 f6) 586 0 ∨ u = cI (cA (cI (cI s 585 1) 584 1) 31 f6) 586 1 → afm s u ∧ u.1 585 = 1 ∧ nfr s u ∧ u.1 584 = nI 1 ∧ u.2.1 31 = f6 ∧ tS u 17 P ∧ tS u 21 T := by
      rintro u (rfl | rfl)
      · refine ⟨⟨fun i _ _ _ _ e1 e2 e3 => ?_, fun i _ _ _ _ e1 _ _ => if_neg e1, fun _ _ => rfl⟩, rfl, ⟨rfl, rfl, rfl, fun i x1 x2 => if_neg (by omega), rfl⟩, rfl, rfl, hP.same rfl rfl, h21.same rfl rfl⟩
        show (if i = 586 then (0 : Int32) else if i = 584 then 1 else if i = 585 then 1 else s.1 i) = s.1 i
        rw [if_neg e3, if_neg e1, if_neg e2]
      · refine ⟨⟨fun i _ _ _ _ e1 e2 e3 => ?_, fun i _ _ _ _ e1 _ _ => if_neg e1, fun _ _ => rfl⟩, rfl, ⟨rfl, rfl, rfl, fun i x1 x2 => if_neg (by omega), rfl⟩, rfl, rfl, hP.same rfl rfl, h21.same rfl rfl⟩
        show (if i = 586 then (1 : Int32) else if i = 584 then 1 else if i = 585 then 1 else s.1 i) = s.1 i
        rw [if_neg e3, if_neg e1, if_neg e2]
    have e341 : (cA (cI (cI s 585 1) 584 1) 31 f6).1 341 = nI P.length := hP.1
    rw [e341]
    -- the look at the state closes the audit
    have close : ∀ (s1 : cS) (G1 : gm_H), afm s s1 → gFr C G G1 → s1.1 585 = 1 → FB G1 C z R s1 → AD G1 C R P T1 s1 → (∃ S, cSt G1 C S) → tS s1 17 P → tS s1 21 T → kX3_look N0 K (d + 16) C (C + 21) s1 G1 sz (fun r8 s8 => Q (s8.1 586) s8 G1) := by
      intro s1 G1 c1 c2 c3 c4 c5 c6 c7 c8
      refine cq_look (d := d) hN c4 (c8.cTs pos21 hT.2 hT.1.2) hT.1 (by omega) c7 hok (fun s8 L8 f8 g8 m8 k8 n8 => ?_) (fun s8 f8 g8 b8 => absurd b8 (good_not hm hs))
      have e586 : s8.1 586 = s1.1 586 := f8.1 586 (by unfold fIn; omega) (fun p hp => by omega)
      have e585 : s8.1 585 = s1.1 585 := f8.1 585 (by unfold fIn; omega) (fun p hp => by omega)
      have e584 : s8.1 584 = s1.1 584 := f8.1 584 (by unfold fIn; omega) (fun p hp => by omega)
      have e31 : s8.2.1 31 = s1.2.1 31 := f8.2.1 31 (by decide) (fun p hp => by omega)
      have e32 : s8.2.1 32 = s1.2.1 32 := f8.2.1 32 (by decide) (fun p hp => by omega)
      rw [e586, c5.1]
      refine q s8 G1 L8 c2 ⟨fun i x1 x2 x3 x4 x5 x6 x7 => (f8.1 i x1 (fun p hp => by omega)).trans (c1.1 i x1 x2 x3 x4 x5 x6 x7), fun i x1 x2 x3 x4 x5 x6 x7 => (f8.2.1 i x1 (fun p hp => by omega)).trans (c1.2.1 i x1 x2 x3 x4 x5 x6 x7), fun i x1 => (f8.2.2 i x1).trans (c1.2.2 i x1)⟩ (e585.trans c3) (c5.fr e586 e584 e31 e32) g8 m8 k8 n8 c6
    by_cases hP2 : P.length = 2
    · rw [if_pos (by rw [hP2]; rfl)]
      obtain ⟨r0, r1, eP⟩ := two_of hP2
      subst eP
      obtain ⟨u1, u2, u3, u4, u5, u6, u7⟩ := s6d _ (Or.inl rfl)
      have ao := aOut_2 (R := R) (r0 := r0) (r1 := r1) (T1 := T1)
      rw [← nI_0]
      refine cs_run65 (d := d) (z := z) (T1 := T1) (s0 := cI (cA (cI (cI s 585 1) 584 1) 31 f6) 586 (nI 0)) (G0 := G4) hN hf h1 u6 hok (fun i s1 G1 hi hA hstop => ?_) 60 0 _ G4 (by omega) ⟨⟨afr.refl _, gFr.refl _ _⟩, (hF.ext gfr4.x).b.n u3, u4, rfl, st4, fun _ => ⟨fun j dd hd => absurd hd (by simp [audK]), fun j t x1 x2 x3 => ?_⟩⟩
      · -- the end
        have estop : audK R r0 r1 T1 60 = audK R r0 r1 T1 i := by
          have := audK_stop (R := R) (r0 := r0) (r1 := r1) (T1 := T1) (i := i) (hstop.elim (fun z => Or.inr z) (fun z => Or.inl z)) (60 - i)
          rw [show i + (60 - i) = 60 by omega] at this
          exact this
        obtain ⟨⟨a1, a2⟩, a3, a4, a5, a6, a7⟩ := hA
        obtain ⟨k1, ⟨Kk, k2⟩, k3⟩ := audK_ok (R := R) (r0 := r0) (r1 := r1) h1 i
        have am : afm s s1 := ⟨fun i x1 x2 x3 x4 x5 x6 x7 => (a1.1 i x1 x2 x3 x4 x5 x7).trans (u1.1 i x1 x2 x3 x4 x5 x6 x7), fun i x1 x2 x3 x4 x5 x6 x7 => (a1.2.1 i x1 x2 x3 x4 x5 x6 x7).trans (u1.2.1 i x1 x2 x3 x4 x5 x6 x7), fun i x1 => (a1.2.2 i x1).trans (u1.2.2 i x1)⟩
        have e585 : s1.1 585 = 1 := (a1.1 585 (by unfold fIn; omega) (by decide) (by decide) (by decide) (by decide) (by decide)).trans u2
        have gg : gFr C G G1 := gfr4.trans a2
        have h17 := u6.af a1 (Or.inl rfl)
        have h21' := u7.af a1 (Or.inr (Or.inr rfl))
        have S0 : 0 < (audK R r0 r1 T1 i).2.1.length := by rw [k2]; simp
        by_cases hc0 : (audK R r0 r1 T1 i).1 = 0
        · have hle : (audK R r0 r1 T1 i).2.1.length ≤ i := hstop.elim id (fun z => absurd hc0 z)
          obtain ⟨k4, k5, k6⟩ := k3 hc0
          have hDl := k6 hle
          have hd7 := a7 hc0
          refine TX0_run_65 hN ?_
          have h60 := k1.1
          rw [a4, if_pos (nI_le hle (by omega)), a5, if_pos hc0]
          have hW : WI (audK R r0 r1 T1 i).2.2 s1 := by
            refine ⟨by rw [a4, hDl], by omega, fun dd hdd => ?_, fun j dd hdd => ⟨(hd7.1 j dd hdd).2.1, (hd7.1 j dd hdd).2.2⟩⟩
            obtain ⟨o1, o2, o3, o4, o5⟩ := k4 dd hdd
            exact ⟨o1, o2, fun t ht => by rw [hDl]; exact o3 t ht, fun z => (o4 z).2, fun z => (o5 z).1⟩
          refine cq_weigh (d := d + 13) hN hW (by omega) (fun j dd hdd => ⟨(hd7.1 j dd hdd).1, fun z => ((k4 dd (List.mem_of_getElem? hdd)).2.2.2.2 z).2.1⟩) (fun f hv hall => ?_) (fun f hna => ?_)
          · rw [if_neg (by decide)]
            have hallV : allV (audK R r0 r1 T1 i).2.2 := by
              intro j hj
              have hdj : (audK R r0 r1 T1 i).2.2[j]? = some ((audK R r0 r1 T1 i).2.2[j]'hj) := List.getElem?_eq_getElem hj
              rcases hv j _ hdj with ⟨zz, _⟩ | ⟨_, zz⟩
              · exact absurd zz (hall j hj)
              · exact ⟨_, zz⟩
            have eo : (aOut R [r0, r1] T1).1 = 0 := (ao.2.2 (by rw [estop]; exact hc0)).1 (by rw [estop]; exact hallV)
            have amf : afm s (cA s1 32 f) := ⟨am.1, fun i x1 x2 x3 x4 x5 x6 x7 => (if_neg x6).trans (am.2.1 i x1 x2 x3 x4 x5 x6 x7), am.2.2⟩
            refine close (cA s1 32 f) G1 amf gg e585 (a3.n ⟨rfl, rfl, rfl, fun j x1 x2 => if_neg (by omega), rfl⟩) ?_ ⟨_, a6⟩ (h17.same rfl rfl) (h21'.same rfl rfl)
            unfold AD
            rw [eo, ao.1, estop]
            exact ⟨a5.trans hc0, a4, fun _ => ⟨a6, hv, hall, fun j dd hdd => (hd7.1 j dd hdd).2.2⟩⟩
          · rw [if_pos rfl]
            have eo : (aOut R [r0, r1] T1).1 = 6 := (ao.2.2 (by rw [estop]; exact hc0)).2 (by rw [estop]; exact hna)
            have amf : afm s (cI (cA s1 32 f) 586 6) := ⟨fun i x1 x2 x3 x4 x5 x6 x7 => (if_neg x7).trans (am.1 i x1 x2 x3 x4 x5 x6 x7), fun i x1 x2 x3 x4 x5 x6 x7 => (if_neg x6).trans (am.2.1 i x1 x2 x3 x4 x5 x6 x7), am.2.2⟩
            refine close (cI (cA s1 32 f) 586 6) G1 amf gg e585 (a3.n ⟨rfl, rfl, rfl, fun j x1 x2 => if_neg (by omega), rfl⟩) ?_ ⟨_, a6⟩ (h17.same rfl rfl) (h21'.same rfl rfl)
            unfold AD
            rw [eo, ao.1, estop]
            exact ⟨rfl, a4, fun z => absurd z (by decide)⟩
        · have eo : (aOut R [r0, r1] T1).1 = (audK R r0 r1 T1 i).1 := by
            rw [← estop]
            exact ao.2.1 (by rw [estop]; exact hc0)
          have fin := close s1 G1 am gg e585 a3 (by
            unfold AD
            rw [eo, ao.1, estop]
            exact ⟨a5, a4, fun z => absurd z hc0⟩) ⟨_, a6⟩ h17 h21'
          refine TX0_run_65 hN ?_
          have h586 : ¬ s1.1 586 = 0 := by rw [a5]; exact hc0
          rw [if_neg h586, if_neg h586, ite_self]
          exact fin
      · show f6 (j * 60 + t) = -1
        exact hf6 _ (by omega)
    · rw [if_neg (fun z : nI P.length = (2 : Int32) => hP2 ((nI_eq (a := P.length) (b := 2) (by have := hok.2; omega) (by decide)).mp z))]
      obtain ⟨u1, u2, u3, u4, u5, u6, u7⟩ := s6d _ (Or.inr rfl)
      have eo := aOut_1 (R := R) (T1 := T1) hP2
      refine TX0_run_65 hN ?_
      have u8 : ¬ (cI (cA (cI (cI s 585 1) 584 1) 31 f6) 586 1).1 586 = 0 := fun z => absurd (show (1 : Int32) = 0 from z) (by decide)
      rw [u4, if_neg (by decide), if_neg u8]
      refine close _ G4 u1 gfr4 u2 ((hF.ext gfr4.x).b.n u3) ?_ ⟨_, st4⟩ u6 u7
      unfold AD
      rw [eo]
      exact ⟨rfl, u4, fun z => absurd (show (1 : Int32) = 0 from z) (by decide)⟩
  · rw [if_neg (by rw [h585]; decide), had.1]
    exact q s G L (gFr.refl C G) ⟨fun _ _ _ _ _ _ _ _ => rfl, fun _ _ _ _ _ _ _ _ => rfl, fun _ _ => rfl⟩ h585 had hF hm hs hsn hcs
theorem cq_valueAt {N0 : Nat} {K : Nat → Nat} {d C i : Nat} {R : List Rl} {P T1 T : List Tm} {s : cS} {G : gm_H} {sz : Nat} {Q : Int32 → Prop} (hN : N0 ≤ C) (hA : AD G C R P T1 s) (h0 : (aOut R P T1).1 = 0) (hS : okS (aOut R P T1).2.1) (hT : tS s 21 T) (hl : T.length ≤ 24) (ho : okT T) (hi : fnd (aOut R P T1).2.1 T = some i) (q : Q (s.2.1 32 i)) : kX0_valueAt N0 K (d + 3) C (C + 21) s G sz Q := by
  have hil := (List.getElem?_eq_some_iff.mp (fnd_some hi)).1
  have h60 := hS.1
  refine kX0_valueAt.of (TX0_valueAt_0 hN ?_)
  refine cq_placeOf (d := d) hN (hA.2.2 h0).1 hS hA.2.1 pos21 hT hl ho ?_
  rw [hi]
  show (if nI i = (-1 : Int32) then _ else _)
  rw [if_neg (nI_n1 (by omega))]
  exact ⟨i, rfl, by omega, q⟩
theorem mvc_lt2 {n k k' : Nat} (hn : n ≤ 200) (hn0 : 0 < n) (h : k < k') : mvc n k < mvc n k' := by
  unfold mvc
  have a := Nat.div_add_mod k n
  have b := Nat.div_add_mod k' n
  have c := Nat.mod_lt k hn0
  have e := Nat.mod_lt k' hn0
  have hd : k / n ≤ k' / n := Nat.div_le_div_right (by omega)
  rcases Nat.lt_or_eq_of_le hd with g | g
  · omega
  · rw [g] at a
    omega
theorem cs_choice11 {N0 : Nat} {K : Nat → Nat} {d C i len : Nat} {dd : DT} {s : cS} {G : gm_H} {sz sl : Nat} {Q : Int32 → Prop} (hN : N0 ≤ C) (h584 : s.1 584 = nI len) (hlen : len ≤ 60) (hi : i < len) (c1 : dd.2.1 ≤ 200) (c1' : 0 < dd.2.1) (c2 : dd.2.2.length ≤ 200) (c3 : ∀ t ∈ dd.2.2, t < len) (c7 : wOk dd.2.1 (s.2.1 31) i dd.2.2) (hex : ∃ t ∈ dd.2.2, s.2.1 32 t = s.2.1 32 i) (q : ∀ k t, dd.2.2[k]? = some t → s.2.1 32 t = s.2.1 32 i → (∀ j t', j < k → dd.2.2[j]? = some t' → s.2.1 32 t' ≠ s.2.1 32 i) → Q (nI (mvc dd.2.1 k))) : ∀ (m t : Nat) (u : Int32), t + m = len → ((u = -1 ∧ ∀ t' ∈ dd.2.2, t' < t → s.2.1 32 t' ≠ s.2.1 32 i) ∨ (∃ k t0, u = nI (mvc dd.2.1 k) ∧ dd.2.2[k]? = some t0 ∧ s.2.1 32 t0 = s.2.1 32 i ∧ ∀ t' ∈ dd.2.2, t' < t → s.2.1 32 t' = s.2.1 32 i → ∀ k', fnN dd.2.2 t' = some k' → k ≤ k')) → hX0_choiceAt_11 N0 K d C (nI i) u (nI t) s G sz sl Q := by
  intro m
  induction m with
  | zero =>
    intro t u ht hI
    refine TX0_choiceAt_11 hN ?_
    rw [h584, if_pos (nI_le (by omega) (by omega))]
    rcases hI with ⟨_, hno⟩ | ⟨k, t0, e, a, b, hmin⟩
    · obtain ⟨t', x1, x2⟩ := hex
      exact absurd x2 (hno t' x1 (by have := c3 t' x1; omega))
    · rw [e]
      refine q k t0 a b (fun j t' hj hjt hf => ?_)
      have hmem := List.mem_of_getElem? hjt
      cases e2 : fnN dd.2.2 t' with
      | none => exact fnN_none e2 hmem
      | some k' =>
        have x1 := hmin t' hmem (by have := c3 t' hmem; omega) hf k' e2
        obtain ⟨_, x3⟩ := fnN_some e2
        have : ¬ j < k' := fun z => x3 j z hjt
        omega
  | succ m ih =>
    intro t u ht hI
    refine TX0_choiceAt_11 hN ?_
    rw [h584, if_neg (nI_ge (by omega) (by omega)), if_neg (nI_n1 (by omega))]
    refine ⟨i * 60 + t, by rw [show (60 : Int32) = nI 60 from rfl, nI_mul, nI_add], by omega, ?_⟩
    have hmem := wOk_mem c7 (t := t) (by omega) c1 c2
    by_cases hin : t ∈ dd.2.2
    · rw [if_neg (fun z => hmem.mp z hin)]
      refine ⟨t, rfl, by omega, i, rfl, by omega, ?_⟩
      rw [nI_1]
      have hw := c7 t (by omega)
      obtain ⟨k0, hk0⟩ : ∃ k0, fnN dd.2.2 t = some k0 := by
        cases e2 : fnN dd.2.2 t with
        | none => exact absurd hin (fnN_none e2)
        | some k' => exact ⟨k', rfl⟩
      have hwv : s.2.1 31 (i * 60 + t) = nI (mvc dd.2.1 k0) := by
        rw [hw]
        unfold wyC
        rw [hk0]
      have hk0l := (List.getElem?_eq_some_iff.mp (fnN_some hk0).1).1
      have b0 := mvc_lt (n := dd.2.1) (k := k0) c1 (by omega)
      by_cases hfe : s.2.1 32 t = s.2.1 32 i
      · rw [if_pos hfe, hwv]
        rcases hI with ⟨z, hno⟩ | ⟨k, t0, e, a, b, hmin⟩
        · rw [if_pos z]
          refine ih (t + 1) _ (by omega) (Or.inr ⟨k0, t, rfl, (fnN_some hk0).1, hfe, fun t' x1 x2 x3 k' hk' => ?_⟩)
          by_cases et : t' = t
          · subst et
            rw [hk0] at hk'
            cases hk'
            exact Nat.le_refl _
          · exact absurd x3 (hno t' x1 (by omega))
        · have hkl := (List.getElem?_eq_some_iff.mp a).1
          have b1 := mvc_lt (n := dd.2.1) (k := k) c1 (by omega)
          rw [e, if_neg (nI_n1 b1)]
          by_cases hkk : k ≤ k0
          · rw [if_pos (by
              refine nI_le ?_ b0
              rcases Nat.lt_or_eq_of_le hkk with g | g
              · exact Nat.le_of_lt (mvc_lt2 c1 c1' g)
              · rw [g]; exact Nat.le_refl _)]
            refine ih (t + 1) _ (by omega) (Or.inr ⟨k, t0, rfl, a, b, fun t' x1 x2 x3 k' hk' => ?_⟩)
            by_cases et : t' = t
            · subst et
              rw [hk0] at hk'
              cases hk'
              exact hkk
            · exact hmin t' x1 (by omega) x3 k' hk'
          · rw [if_neg (nI_ge (mvc_lt2 c1 c1' (by omega)) b1)]
            refine ih (t + 1) _ (by omega) (Or.inr ⟨k0, t, rfl, (fnN_some hk0).1, hfe, fun t' x1 x2 x3 k' hk' => ?_⟩)
            by_cases et : t' = t
            · subst et
              rw [hk0] at hk'
              cases hk'
              exact Nat.le_refl _
            · have := hmin t' x1 (by omega) x3 k' hk'
              omega
      · rw [if_neg hfe]
        refine ih (t + 1) u (by omega) ?_
        rcases hI with ⟨z, hno⟩ | ⟨k, t0, e, a, b, hmin⟩
        · refine Or.inl ⟨z, fun t' x1 x2 => ?_⟩
          by_cases et : t' = t
          · rw [et]; exact hfe
          · exact hno t' x1 (by omega)
        · refine Or.inr ⟨k, t0, e, a, b, fun t' x1 x2 x3 k' hk' => ?_⟩
          by_cases et : t' = t
          · rw [et] at x3
            exact absurd x3 hfe
          · exact hmin t' x1 (by omega) x3 k' hk'
    · rw [if_pos (hmem.mpr hin), nI_1]
      have hne : ∀ t' ∈ dd.2.2, t' ≠ t := fun t' h e => hin (e ▸ h)
      refine ih (t + 1) u (by omega) ?_
      rcases hI with ⟨z, hno⟩ | ⟨k, t0, e, a, b, hmin⟩
      · exact Or.inl ⟨z, fun t' x1 x2 => hno t' x1 (by have := hne t' x1; omega)⟩
      · exact Or.inr ⟨k, t0, e, a, b, fun t' x1 x2 => hmin t' x1 (by have := hne t' x1; omega)⟩
