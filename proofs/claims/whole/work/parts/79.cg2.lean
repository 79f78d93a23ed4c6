/-! the class's audit: one state is judged -/
/-- the faults of a state of which L follows -/
noncomputable def visL (R : List Rl) (r0 r1 : Tm) (T : List Tm) (S : List (List Tm)) (L : List Fct) : Int32 × List (List Tm) × DT := by
  classical
  exact if aEn L then (if goalV (aGs L [r0, r1] 0) = -1 ∨ goalV (aGs L [r0, r1] 1) = -1 then 4 else if goalV (aGs L [r0, r1] 0) + goalV (aGs L [r0, r1] 1) = 8 then 0 else 5, S, (goalV (aGs L [r0, r1] 0), 0, []))
    else if (aMv L [r0, r1] 0).length = 0 ∨ (aMv L [r0, r1] 1).length = 0 then (2, S, (-1, 0, []))
    else if 1 < (aMv L [r0, r1] 0).length ∧ 1 < (aMv L [r0, r1] 1).length then (3, S, (-1, 0, []))
    else (if (exK R T r0 r1 (aMv L [r0, r1] 0) (aMv L [r0, r1] 1) S ((aMv L [r0, r1] 0).length * (aMv L [r0, r1] 1).length)).1 = true then 0 else 7, (exK R T r0 r1 (aMv L [r0, r1] 0) (aMv L [r0, r1] 1) S ((aMv L [r0, r1] 0).length * (aMv L [r0, r1] 1).length)).2.1, (-1, (aMv L [r0, r1] 1).length, (exK R T r0 r1 (aMv L [r0, r1] 0) (aMv L [r0, r1] 1) S ((aMv L [r0, r1] 0).length * (aMv L [r0, r1] 1).length)).2.2))
theorem visL_same {R : List Rl} {r0 r1 : Tm} {T : List Tm} {S : List (List Tm)} {L L' : List Fct} (h : lsame L L') : visL R r0 r1 T S L = visL R r0 r1 T S L' := by
  unfold visL
  rw [aMv_same h, aMv_same h, aGs_same h, aGs_same h]
  by_cases e : aEn L
  · rw [if_pos e, if_pos (show aEn L' from (h _).mp e)]
  · rw [if_neg e, if_neg (show ¬ aEn L' from fun z => e ((h _).mpr z))]
theorem visS_L {R : List Rl} {r0 r1 : Tm} {T : List Tm} {S : List (List Tm)} {L : List Fct} (hf : flNone R) (m : Mdl R (bT T) L) (k : Small R L) : visS R r0 r1 T S = visL R r0 r1 T S L := by
  obtain ⟨Lv, v1, v2⟩ := vw_some hf m k
  rw [visL_same v2]
  unfold visS visL
  rw [v1]
theorem visS_7 {R : List Rl} {r0 r1 : Tm} {T : List Tm} {S : List (List Tm)} (h : vw R (bT T) = none) : visS R r0 r1 T S = (7, S, (-1, 0, [])) := by
  unfold visS
  rw [h]
/-- what judging leaves -/
def jR (L : List Fct) (r0 r1 : Tm) (i : Nat) (s s' : cS) (c : Int32) : Prop := (s'.1 = s.1 ∧ s'.2.2 = s.2.2 ∧ (∀ k, k ≠ 32 → k ≠ 33 → s'.2.1 k = s.2.1 k) ∧ ∀ j, j ≠ i → s'.2.1 32 j = s.2.1 32 j ∧ s'.2.1 33 j = s.2.1 33 j) ∧ (s'.2.1 33 i = 0 ↔ (aMv L [r0, r1] 1).length ≤ 1) ∧ (aEn L → (goalV (aGs L [r0, r1] 0) = -1 ∨ goalV (aGs L [r0, r1] 1) = -1 → c = 4) ∧ (¬ (goalV (aGs L [r0, r1] 0) = -1 ∨ goalV (aGs L [r0, r1] 1) = -1) → s'.2.1 32 i = goalV (aGs L [r0, r1] 0) ∧ (goalV (aGs L [r0, r1] 0) + goalV (aGs L [r0, r1] 1) = 8 → c = 0) ∧ (goalV (aGs L [r0, r1] 0) + goalV (aGs L [r0, r1] 1) ≠ 8 → c = 5))) ∧ (¬ aEn L → s'.2.1 32 i = -1 ∧ ((aMv L [r0, r1] 0).length = 0 ∨ (aMv L [r0, r1] 1).length = 0 → c = 2) ∧ (¬ ((aMv L [r0, r1] 0).length = 0 ∨ (aMv L [r0, r1] 1).length = 0) → (1 < (aMv L [r0, r1] 0).length ∧ 1 < (aMv L [r0, r1] 1).length → c = 3) ∧ (¬ (1 < (aMv L [r0, r1] 0).length ∧ 1 < (aMv L [r0, r1] 1).length) → c = 0)))
def jS (s : cS) (i : Nat) (v b : Int32) : cS := cA (cA s 32 (upd (s.2.1 32) i v)) 33 (upd (s.2.1 33) i b)
theorem jS_fr (s : cS) (i : Nat) (v b : Int32) : (jS s i v b).1 = s.1 ∧ (jS s i v b).2.2 = s.2.2 ∧ (∀ k, k ≠ 32 → k ≠ 33 → (jS s i v b).2.1 k = s.2.1 k) ∧ (∀ j, j ≠ i → (jS s i v b).2.1 32 j = s.2.1 32 j ∧ (jS s i v b).2.1 33 j = s.2.1 33 j) ∧ (jS s i v b).2.1 32 i = v ∧ (jS s i v b).2.1 33 i = b := by
  refine ⟨rfl, rfl, fun k h1 h2 => ?_, fun j hj => ⟨if_neg hj, if_neg hj⟩, if_pos rfl, if_pos rfl⟩
  show (if k = 33 then _ else if k = 32 then _ else s.2.1 k) = s.2.1 k
  rw [if_neg h2, if_neg h1]
theorem jS_tw (s : cS) (i : Nat) (v w b : Int32) : cA (jS s i v b) 32 (upd (upd (s.2.1 32) i v) i w) = jS s i w b := by
  unfold jS cA
  refine Prod.ext rfl (Prod.ext (funext fun j => ?_) rfl)
  show (if j = 32 then upd (upd (s.2.1 32) i v) i w else if j = 33 then upd (s.2.1 33) i b else if j = 32 then upd (s.2.1 32) i v else s.2.1 j) = (if j = 33 then upd (s.2.1 33) i b else if j = 32 then upd (s.2.1 32) i w else s.2.1 j)
  by_cases e : j = 32
  · rw [if_pos e, if_neg (by omega), if_pos e]
    funext x
    unfold upd
    by_cases e2 : x = i
    · rw [if_pos e2, if_pos e2]
    · rw [if_neg e2, if_neg e2, if_neg e2]
  · rw [if_neg e, if_neg e, if_neg e]
theorem tS.same {s s' : cS} {p : Nat} {T : List Tm} (h : tS s p T) (h1 : s'.1 (20 * p + 1) = s.1 (20 * p + 1)) (h2 : s'.2.1 (p + 1) = s.2.1 (p + 1)) : tS s' p T := ⟨h1.trans h.1, fun i t ht => by rw [h2]; exact h.2 i t ht⟩
theorem cq_judge {N0 : Nat} {K : Nat → Nat} {d C i : Nat} {r0 r1 : Tm} {L : List Fct} {s : cS} {G : gm_H} {sz : Nat} {Q : Int32 → cS → Prop} (hN : N0 ≤ C) (hi : i < 60) (hL : cFacts s L) (hnd : L.Nodup) (hP : tS s 17 [r0, r1]) (hok : okP [r0, r1]) (hsn : SN s L [r0, r1]) (q : ∀ s' c, jR L r0 r1 i s s' c → Q c s') : kX0_judge N0 K (d + 3) C (nI i) s G sz Q := by
  have hwf : ∀ f ∈ L, wfF f := fun f hf => (hL.wf f hf).1
  have g0 := ex_row2 hwf 286 [r0, r1] 0
  have g1 := ex_row2 hwf 286 [r0, r1] 1
  have e541 : s.1 541 = nI (aMv L [r0, r1] 1).length := hsn.1.2.1
  have e501 : s.1 501 = nI (aMv L [r0, r1] 0).length := hsn.1.1.1
  have l0 := hsn.2.1.1.2.1
  have l1 := hsn.2.1.2.2.1
  have hjf : ∀ v b, cFacts (jS s i v b) L ∧ tS (jS s i v b) 17 [r0, r1] := by
    intro v b
    have f := jS_fr s i v b
    exact ⟨hL.fr (by rw [f.1]) (fun k a b => f.2.2.1 k (by omega) (by omega)), hP.same (by rw [f.1]) (f.2.2.1 18 (by decide) (by decide))⟩
  have go : ∀ v b c, (b = 0 ↔ (aMv L [r0, r1] 1).length ≤ 1) → (aEn L → (goalV (aGs L [r0, r1] 0) = -1 ∨ goalV (aGs L [r0, r1] 1) = -1 → c = 4) ∧ (¬ (goalV (aGs L [r0, r1] 0) = -1 ∨ goalV (aGs L [r0, r1] 1) = -1) → v = goalV (aGs L [r0, r1] 0) ∧ (goalV (aGs L [r0, r1] 0) + goalV (aGs L [r0, r1] 1) = 8 → c = 0) ∧ (goalV (aGs L [r0, r1] 0) + goalV (aGs L [r0, r1] 1) ≠ 8 → c = 5))) → (¬ aEn L → v = -1 ∧ ((aMv L [r0, r1] 0).length = 0 ∨ (aMv L [r0, r1] 1).length = 0 → c = 2) ∧ (¬ ((aMv L [r0, r1] 0).length = 0 ∨ (aMv L [r0, r1] 1).length = 0) → (1 < (aMv L [r0, r1] 0).length ∧ 1 < (aMv L [r0, r1] 1).length → c = 3) ∧ (¬ (1 < (aMv L [r0, r1] 0).length ∧ 1 < (aMv L [r0, r1] 1).length) → c = 0))) → Q c (jS s i v b) := by
    intro v b c h1 h2 h3
    obtain ⟨f1, f2, f3, f4, f5, f6⟩ := jS_fr s i v b
    refine q (jS s i v b) c ⟨⟨f1, f2, f3, f4⟩, by rw [f6]; exact h1, ?_, ?_⟩
    · rw [f5]; exact h2
    · rw [f5]; exact h3
  -- the goals of an end
  have goals : ∀ b, (b = 0 ↔ (aMv L [r0, r1] 1).length ≤ 1) → aEn L → kX3_goalOf N0 K (d + 2) C (0 : Int32) (jS s i (-1) b) G sz (fun r6 => kX3_goalOf N0 K (d + 2) C (1 : Int32) (jS s i (-1) b) G sz (fun r8 => if r6 = (-1 : Int32) then (Q (4 : Int32) (jS s i (-1) b)) else (if r8 = (-1 : Int32) then (Q (4 : Int32) (jS s i (-1) b)) else (if (r6 + r8) = (8 : Int32) then (Q (0 : Int32) (cA (jS s i (-1) b) 32 (upd (upd (s.2.1 32) i (-1 : Int32)) i r6))) else (Q (5 : Int32) (cA (jS s i (-1) b) 32 (upd (upd (s.2.1 32) i (-1 : Int32)) i r6))))))) := by
    intro b hb he
    refine cq_goalOf (i := 0) hN (by decide) (hjf _ _).2 hok (hjf _ _).1 hnd g0 ?_
    refine cq_goalOf (i := 1) hN (by decide) (hjf _ _).2 hok (hjf _ _).1 hnd g1 ?_
    by_cases h0 : goalV (aGs L [r0, r1] 0) = -1
    · rw [if_pos h0]
      exact go _ _ _ hb (fun _ => ⟨fun _ => rfl, fun z => absurd (Or.inl h0) z⟩) (fun z => absurd he z)
    · rw [if_neg h0]
      by_cases h1 : goalV (aGs L [r0, r1] 1) = -1
      · rw [if_pos h1]
        exact go _ _ _ hb (fun _ => ⟨fun _ => rfl, fun z => absurd (Or.inr h1) z⟩) (fun z => absurd he z)
      · rw [if_neg h1, jS_tw]
        have hno : ¬ (goalV (aGs L [r0, r1] 0) = -1 ∨ goalV (aGs L [r0, r1] 1) = -1) := fun z => z.elim h0 h1
        by_cases h8 : goalV (aGs L [r0, r1] 0) + goalV (aGs L [r0, r1] 1) = 8
        · rw [if_pos h8]
          exact go _ _ _ hb (fun _ => ⟨fun z => absurd z hno, fun _ => ⟨rfl, fun _ => rfl, fun z => absurd h8 z⟩⟩) (fun z => absurd he z)
        · rw [if_neg h8]
          exact go _ _ _ hb (fun _ => ⟨fun z => absurd z hno, fun _ => ⟨rfl, fun z => absurd z h8, fun _ => rfl⟩⟩) (fun z => absurd he z)
  refine kX0_judge.of (TX0_judge_0 hN ⟨i, rfl, hi, ?_⟩)
  rw [e541, e501]
  have nz : ∀ {n : Nat}, n ≤ 200 → (nI n = 0 ↔ n = 0) := fun {n} hn => by rw [← nI_0, nI_eq (by omega) (by decide)]
  by_cases hb : (aMv L [r0, r1] 1).length ≤ 1
  · rw [if_pos (by rw [n_1]; exact nI_le hb (by decide))]
    by_cases he : aEn L
    · rw [if_neg (by rw [hsn.2.2.1 he]; decide)]
      exact goals 0 ⟨fun _ => hb, fun _ => rfl⟩ he
    · rw [if_pos (hsn.2.2.2 he)]
      have hbb : (0 : Int32) = 0 ↔ (aMv L [r0, r1] 1).length ≤ 1 := ⟨fun _ => hb, fun _ => rfl⟩
      by_cases h0 : (aMv L [r0, r1] 0).length = 0
      · rw [if_pos ((nz l0).mpr h0)]
        exact go (-1) 0 2 hbb (fun z => absurd z he) (fun _ => ⟨rfl, fun _ => rfl, fun z => absurd (Or.inl h0) z⟩)
      · rw [if_neg (fun z => h0 ((nz l0).mp z))]
        by_cases h1 : (aMv L [r0, r1] 1).length = 0
        · rw [if_pos ((nz l1).mpr h1)]
          exact go (-1) 0 2 hbb (fun z => absurd z he) (fun _ => ⟨rfl, fun _ => rfl, fun z => absurd (Or.inr h1) z⟩)
        · rw [if_neg (fun z => h1 ((nz l1).mp z)), ite_self]
          exact go (-1) 0 0 hbb (fun z => absurd z he) (fun _ => ⟨rfl, fun z => by omega, fun _ => ⟨fun z => by omega, fun _ => rfl⟩⟩)
  · rw [if_neg (by rw [n_1]; exact nI_ge (by omega) (by omega))]
    by_cases he : aEn L
    · rw [if_neg (by rw [hsn.2.2.1 he]; decide)]
      exact goals 1 ⟨fun z => absurd z (by decide), fun z => absurd z hb⟩ he
    · rw [if_pos (hsn.2.2.2 he)]
      have hbb : (1 : Int32) = 0 ↔ (aMv L [r0, r1] 1).length ≤ 1 := ⟨fun z => absurd z (by decide), fun z => absurd z hb⟩
      by_cases h0 : (aMv L [r0, r1] 0).length = 0
      · rw [if_pos ((nz l0).mpr h0)]
        exact go (-1) 1 2 hbb (fun z => absurd z he) (fun _ => ⟨rfl, fun _ => rfl, fun z => absurd (Or.inl h0) z⟩)
      · rw [if_neg (fun z => h0 ((nz l0).mp z)), if_neg (fun z => by have := (nz l1).mp z; omega)]
        by_cases h1 : (aMv L [r0, r1] 0).length ≤ 1
        · rw [if_pos (by rw [n_1]; exact nI_le h1 (by decide))]
          exact go (-1) 1 0 hbb (fun z => absurd z he) (fun _ => ⟨rfl, fun z => by omega, fun _ => ⟨fun z => by omega, fun _ => rfl⟩⟩)
        · rw [if_neg (by rw [n_1]; exact nI_ge (by omega) (by omega))]
          exact go (-1) 1 3 hbb (fun z => absurd z he) (fun _ => ⟨rfl, fun z => by omega, fun _ => ⟨fun _ => rfl, fun z => by omega⟩⟩)
