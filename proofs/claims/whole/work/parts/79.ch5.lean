/-! the reference's audit as a whole -/
theorem visS_code (R : List Rl) (r0 r1 : Tm) (T : List Tm) (S : List (List Tm)) : (visS R r0 r1 T S).1 ≤ 0 ↔ (visS R r0 r1 T S).1 = 0 := by
  have key : ∀ c : Int32, c = 0 ∨ c = 2 ∨ c = 3 ∨ c = 4 ∨ c = 5 ∨ c = 7 → (c ≤ 0 ↔ c = 0) := by
    rintro c (rfl | rfl | rfl | rfl | rfl | rfl) <;> decide
  refine key _ ?_
  unfold visS
  split
  · exact Or.inr (Or.inr (Or.inr (Or.inr (Or.inr rfl))))
  · split
    · simp only
      split
      · exact Or.inr (Or.inr (Or.inr (Or.inl rfl)))
      · split
        · exact Or.inl rfl
        · exact Or.inr (Or.inr (Or.inr (Or.inr (Or.inl rfl))))
    · split
      · exact Or.inr (Or.inl rfl)
      · split
        · exact Or.inr (Or.inr (Or.inl rfl))
        · simp only
          split
          · exact Or.inl rfl
          · exact Or.inr (Or.inr (Or.inr (Or.inr (Or.inr rfl))))
/-- the audit was made, in the reference -/
def AR (R : List Rl) (P T1 : List Tm) (s : mS) : Prop := s.1 43 = nI (aOut R P T1).2.1.length ∧ ((aOut R P T1).1 = 0 → rSt (aOut R P T1).2.1 s ∧ okS (aOut R P T1).2.1 ∧ WR (aOut R P T1).2.2 s ∧ vOk (aOut R P T1).2.2 (s.2.1 49) ∧ ∀ i, i < (aOut R P T1).2.2.length → s.2.1 49 i ≠ -1)
theorem AR.fr {R : List Rl} {P T1 : List Tm} {s s' : mS} (h : AR R P T1 s) (h1 : s'.1 43 = s.1 43) (h2 : ∀ i, 45 ≤ i → s'.2.1 i = s.2.1 i) (h3 : s'.2.2 44 = s.2.2 44) : AR R P T1 s' := by
  refine ⟨h1.trans h.1, fun z => ?_⟩
  obtain ⟨a, b, c, e, f⟩ := h.2 z
  refine ⟨a.fr h1 (h2 45 (by decide)) h3, b, ?_, by rw [h2 49 (by decide)]; exact e, by rw [h2 49 (by decide)]; exact f⟩
  unfold WR at c ⊢
  rw [h1, h2 46 (by decide), h2 47 (by decide), h2 48 (by decide)]
  exact c
def efw (s s' : mS) : Prop := (∀ i, i ≠ 20 → i ≠ 23 → i ≠ 24 → i ≠ 28 → i ≠ 34 → i ≠ 38 → i ≠ 41 → i ≠ 43 → s'.1 i = s.1 i) ∧ (∀ i, i ≠ 21 → i ≠ 26 → i ≠ 27 → i < 45 → s'.2.1 i = s.2.1 i) ∧ (∀ i, i ≠ 22 → i ≠ 25 → i ≠ 33 → i ≠ 37 → i ≠ 39 → i ≠ 40 → i ≠ 44 → s'.2.2 i = s.2.2 i)
theorem rs_exam46 {d : Nat} {R : List Rl} {r0 r1 : Tm} {T1 : List Tm} {s0 : mS} {Q : Int32 → mS → Prop} (h1 : okT T1 ∧ T1.length ≤ 24) (hc : RC R s0) (hr : rT s0 35 0 [r0, r1]) (hok : okP [r0, r1]) (q : ∀ s, xfw s0 s → AR R [r0, r1] T1 s → Q (aOut R [r0, r1] T1).1 s) : ∀ (m i : Nat) (s : mS), i + m = 61 → i ≤ (audK R r0 r1 T1 i).2.1.length → (audK R r0 r1 T1 i).1 = 0 → xfw s0 s → rSt (audK R r0 r1 T1 i).2.1 s → rD (audK R r0 r1 T1 i).2.2 s → h_examine_46 (d + 9) (nI i) s Q := by
  have ao := aOut_2 (R := R) (r0 := r0) (r1 := r1) (T1 := T1)
  intro m
  induction m with
  | zero =>
    intro i s hi hle
    have := (audK_ok (R := R) (r0 := r0) (r1 := r1) h1 i).1.1
    omega
  | succ m ih =>
    intro i s hi hle hc0 hx hst hrd
    obtain ⟨k1, ⟨Kk, k2⟩, k3⟩ := audK_ok (R := R) (r0 := r0) (r1 := r1) h1 i
    obtain ⟨k4, k5, k6⟩ := k3 hc0
    have hDl := k5 hle
    have h60 := k1.1
    have stop : (audK R r0 r1 T1 i).2.1.length ≤ i → audK R r0 r1 T1 60 = audK R r0 r1 T1 i := by
      intro z
      have := audK_stop (R := R) (r0 := r0) (r1 := r1) (T1 := T1) (i := i) (Or.inr z) (60 - i)
      rw [show i + (60 - i) = 60 by omega] at this
      exact this
    refine T_examine_46 ?_
    rw [hst.1]
    by_cases hend : (audK R r0 r1 T1 i).2.1.length ≤ i
    · rw [if_pos (nI_le hend (by omega))]
      have es := stop hend
      have eS : (audK R r0 r1 T1 i).2.2.length = (audK R r0 r1 T1 i).2.1.length := by omega
      have hW : WR (audK R r0 r1 T1 i).2.2 s := by
        refine ⟨by rw [hst.1, eS], by omega, fun dd hdd => ?_, fun j dd hdd => ?_⟩
        · obtain ⟨o1, o2, o3, o4, o5⟩ := k4 dd hdd
          exact ⟨o1, o2, fun t ht => by rw [eS]; exact o3 t ht, fun z => ⟨(o4 z).2, (o4 z).1⟩, fun z => (o5 z).1⟩
        · obtain ⟨a, b, c, _⟩ := hrd.2 j dd hdd
          refine ⟨a, ?_, b, c⟩
          cases j with
          | zero => exact hrd.1
          | succ j =>
            have hj := (List.getElem?_eq_some_iff.mp hdd).1
            have hd' : (audK R r0 r1 T1 i).2.2[j]? = some ((audK R r0 r1 T1 i).2.2[j]'(by omega)) := List.getElem?_eq_getElem (by omega)
            exact (hrd.2 j _ hd').2.1
      refine rq_weighs (d := d + 8) hW (fun j dd hdd z => (hrd.2 j dd hdd).2.2.2 z) (fun f hv hall => ?_) (fun f hna => ?_)
      · rw [if_neg (by decide)]
        have hallV : allV (audK R r0 r1 T1 i).2.2 := by
          intro j hj
          have hdj : (audK R r0 r1 T1 i).2.2[j]? = some ((audK R r0 r1 T1 i).2.2[j]'hj) := List.getElem?_eq_getElem hj
          rcases hv j _ hdj with ⟨zz, _⟩ | ⟨_, zz⟩
          · exact absurd zz (hall j hj)
          · exact ⟨_, zz⟩
        have eo : (aOut R [r0, r1] T1).1 = 0 := (ao.2.2 (by rw [es]; exact hc0)).1 (by rw [es]; exact hallV)
        have qq := q (mA s 49 f) (hx.trans (xfw.w s f (by decide)))
        rw [eo] at qq
        refine qq ?_
        unfold AR
        rw [eo, ao.1, es]
        exact ⟨hst.1, fun _ => ⟨hst.fr rfl rfl rfl, k1, hW.v f, hv, hall⟩⟩
      · rw [if_pos rfl]
        have eo : (aOut R [r0, r1] T1).1 = 6 := (ao.2.2 (by rw [es]; exact hc0)).2 (by rw [es]; exact hna)
        have qq := q (mA s 49 f) (hx.trans (xfw.w s f (by decide)))
        rw [eo] at qq
        refine qq ?_
        unfold AR
        rw [eo, ao.1, es]
        exact ⟨hst.1, fun z => absurd z (by decide)⟩
    · rw [if_neg (nI_ge (by omega) (by omega))]
      have hT : (audK R r0 r1 T1 i).2.1[i]? = some ((audK R r0 r1 T1 i).2.1[i]'(by omega)) := List.getElem?_eq_getElem (by omega)
      have go := audK_go hc0 hT
      have eDi : nI i = nI (audK R r0 r1 T1 i).2.2.length := by rw [hDl]
      have hT' : (audK R r0 r1 T1 i).2.1[(audK R r0 r1 T1 i).2.2.length]? = some ((audK R r0 r1 T1 i).2.1[i]'(by omega)) := by rw [hDl]; exact hT
      have vok := visS_ok (R := R) (r0 := r0) (r1 := r1) (T := (audK R r0 r1 T1 i).2.1[i]'(by omega)) k1
      have lk := rq_looksAt (d := d) (Q := fun r2 s4 => if r2 ≤ 0 then (h_examine_46 (d + 9) (nI i + (1 : Int32)) s4 Q) else (Q r2 s4)) (hc.x hx) (hr.fr (hx.2.2 35 (by decide) (by decide) (by decide) (by decide) (by decide) (by decide) (by decide))) hok hst k1 hT' hrd (fun dd hdd => (k4 dd hdd).2.1) (fun s4 x4 st4 d4 => ?_)
      · rw [← eDi] at lk
        exact lk
      · show (if (visS R r0 r1 ((audK R r0 r1 T1 i).2.1[i]'(by omega)) (audK R r0 r1 T1 i).2.1).1 ≤ 0 then _ else _)
        by_cases hz : (visS R r0 r1 ((audK R r0 r1 T1 i).2.1[i]'(by omega)) (audK R r0 r1 T1 i).2.1).1 = 0
        · rw [if_pos ((visS_code _ _ _ _ _).mpr hz), nI_1]
          have hlen : (audK R r0 r1 T1 i).2.1.length ≤ (visS R r0 r1 ((audK R r0 r1 T1 i).2.1[i]'(by omega)) (audK R r0 r1 T1 i).2.1).2.1.length := by
            obtain ⟨K', eK⟩ := vok.2.1
            rw [eK, List.length_append]
            omega
          refine ih (i + 1) s4 (by omega) ?_ ?_ (hx.trans x4) ?_ ?_
          · rw [go]
            simp only
            omega
          · rw [go]
            exact hz
          · rw [go]
            exact st4
          · rw [go]
            exact d4 hz
        · rw [if_neg (fun z => hz ((visS_code _ _ _ _ _).mp z))]
          have hne : (audK R r0 r1 T1 (i + 1)).1 ≠ 0 := by rw [go]; exact hz
          have es : audK R r0 r1 T1 60 = audK R r0 r1 T1 (i + 1) := by
            have := audK_stop (R := R) (r0 := r0) (r1 := r1) (T1 := T1) (i := i + 1) (Or.inl hne) (60 - (i + 1))
            rw [show i + 1 + (60 - (i + 1)) = 60 by omega] at this
            exact this
          have eo : (aOut R [r0, r1] T1).1 = (visS R r0 r1 ((audK R r0 r1 T1 i).2.1[i]'(by omega)) (audK R r0 r1 T1 i).2.1).1 := by
            rw [ao.2.1 (by rw [es]; exact hne), es, go]
          have qq := q s4 (hx.trans x4)
          rw [eo] at qq
          refine qq ?_
          unfold AR
          rw [eo, ao.1, es, go]
          exact ⟨st4.1, fun z => absurd z hz⟩
theorem rq_examine {d : Nat} {R : List Rl} {P T1 : List Tm} {s : mS} {Q : Int32 → mS → Prop} (h1 : okT T1 ∧ T1.length ≤ 24) (hc : RC R s) (hr : rT s 35 0 P) (h36 : s.1 36 = nI P.length) (hok : okP P) (h31 : rT s 31 0 T1) (h32 : s.1 32 = nI T1.length) (q : ∀ s', efw s s' → s'.1 41 = 1 → AR R P T1 s' → Q (aOut R P T1).1 s') : m_examine (d + 10) s Q := by
  refine m_examine.of (T_examine_0 ?_)
  rw [h32]
  have f0 : efw s (mI (mI (mI s 41 1) 24 0) 43 0) := ⟨fun i _ _ a _ _ _ b c => by
    show (if i = 43 then (0 : Int32) else if i = 24 then 0 else if i = 41 then 1 else s.1 i) = s.1 i
    rw [if_neg c, if_neg a, if_neg b], fun _ _ _ _ _ => rfl, fun _ _ _ _ _ _ _ _ => rfl⟩
  refine rq_comes_first (d := d + 8) (S := []) ⟨rfl, fun j T hT => absurd hT (by simp)⟩ ⟨by simp, fun T hT => absurd hT (by simp)⟩ (by simp) h31 h1.2 (fun s2 f2 st2 => ?_)
  have f02 : efw s s2 := ⟨fun i a b c e f g h k => (f2.1 i k).trans (f0.1 i a b c e f g h k), fun i a b c e => (f2.2.1 i (by omega)).trans (f0.2.1 i a b c e), fun i a b c e f g k => (f2.2.2 i k).trans (f0.2.2 i a b c e f g k)⟩
  have e41 : s2.1 41 = 1 := f2.1 41 (by decide)
  have e36 : s2.1 36 = nI P.length := (f2.1 36 (by decide)).trans h36
  have hcc : RC R s2 := hc.A (f2.1 11 (by decide)) (fun i a b => f2.2.1 i (by omega))
  rw [e36]
  by_cases hP2 : P.length = 2
  · rw [if_pos (by rw [hP2]; rfl)]
    obtain ⟨r0, r1, eP⟩ := two_of hP2
    subst eP
    rw [← nI_0]
    refine rs_exam46 (d := d) (s0 := s2) h1 hcc (hr.fr (f2.2.2 35 (by decide))) hok (fun s9 x9 a9 => ?_) 61 0 _ (by omega) (by simp [audK]) rfl (xfw.w s2 _ (by decide)) (st2.fr rfl rfl rfl) ⟨(show upd (s2.2.1 46) 0 (nI 0) 0 = nI 0 from if_pos rfl), fun j dd hdd => absurd hdd (by simp [audK])⟩
    refine q s9 ⟨fun i a b c e f g h k => (x9.1 i a b c e f g k).trans (f02.1 i a b c e f g h k), fun i a b c e => (x9.2.1 i a b c e).trans (f02.2.1 i a b c e), fun i a b c e f g k => (x9.2.2 i a b c e f g k).trans (f02.2.2 i a b c e f g k)⟩ ((x9.1 41 (by decide) (by decide) (by decide) (by decide) (by decide) (by decide) (by decide)).trans e41) a9
  · rw [if_neg (fun z : nI P.length = (2 : Int32) => hP2 ((nI_eq (a := P.length) (b := 2) (by have := hok.2; omega) (by decide)).mp z))]
    have eo := aOut_1 (R := R) (T1 := T1) hP2
    have qq := q s2 f02 e41
    rw [eo] at qq
    refine qq ?_
    unfold AR
    rw [eo]
    exact ⟨st2.1, fun z => absurd (show (1 : Int32) = 0 from z) (by decide)⟩
