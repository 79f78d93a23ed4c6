/-! class and reference side by side -/
/-- what follows at now, if it is fresh -/
def fz (R : List Rl) (T : List Tm) (m : mS) : Prop := m.1 24 = 0 ∨ (m.1 24 = 1 ∧ m.1 23 = 0 ∧ ∃ L, rFacts m L ∧ Mdl R (bT T) L ∧ Small R L)
/-- a text: characters -/
def xC (X : List Int32) : Prop := X.length ≤ 240 ∧ ∀ x ∈ X, vp_nar .char x = x
/-- the reference's game -/
def RG (R : List Rl) (P T1 T X0 : List Tm) (X : List Int32) (m : mS) : Prop := RC R m ∧ (rT m 29 0 T ∧ m.1 30 = nI T.length) ∧ (rT m 31 0 T1 ∧ m.1 32 = nI T1.length) ∧ (rT m 35 0 P ∧ m.1 36 = nI P.length) ∧ (xC X ∧ m.1 4 = nI X.length ∧ (∀ k, k < X.length → m.2.1 3 k = X.getD k 0) ∧ ∃ l, ps_all 24 [] X = (some R, l))
/-- what the reference's calls leave -/
def rgf (m m' : mS) : Prop := (∀ i, i = 2 ∨ i = 4 ∨ i = 5 ∨ i = 6 ∨ i = 7 ∨ i = 11 ∨ i = 30 ∨ i = 32 ∨ i = 36 ∨ i = 41 ∨ i = 42 ∨ i = 43 → m'.1 i = m.1 i) ∧ (∀ i, i = 1 ∨ i = 3 ∨ (12 ≤ i ∧ i ≤ 19) ∨ 45 ≤ i → m'.2.1 i = m.2.1 i) ∧ ∀ i, i = 29 ∨ i = 31 ∨ i = 35 ∨ i = 44 → m'.2.2 i = m.2.2 i
theorem rgf.refl (m : mS) : rgf m m := ⟨fun _ _ => rfl, fun _ _ => rfl, fun _ _ => rfl⟩
theorem rgf.trans {m m' m'' : mS} (h : rgf m m') (g : rgf m' m'') : rgf m m'' := ⟨fun i a => (g.1 i a).trans (h.1 i a), fun i a => (g.2.1 i a).trans (h.2.1 i a), fun i a => (g.2.2 i a).trans (h.2.2 i a)⟩
theorem lfw.g {m m' : mS} (h : lfw m m') : rgf m m' := ⟨fun i a => h.1 i (by omega) (by omega) (by omega) (by omega) (by omega) (by omega), fun i a => h.2.1 i (by omega) (by omega) (by omega), fun i a => h.2.2 i (by omega) (by omega) (by omega) (by omega)⟩
theorem rgf.i (m : mS) {k : Nat} (v : Int32) (hk : k = 0 ∨ k = 24) : rgf m (mI m k v) := ⟨fun i a => if_neg (by omega), fun _ _ => rfl, fun _ _ => rfl⟩
theorem RG.fr {R : List Rl} {P T1 T X0 : List Tm} {X : List Int32} {m m' : mS} (h : RG R P T1 T X0 X m) (g : rgf m m') : RG R P T1 T X0 X m' := by
  obtain ⟨a, ⟨b1, b2⟩, ⟨c1, c2⟩, ⟨e1, e2⟩, f1, f2, f3, f4⟩ := h
  refine ⟨a.A (g.1 11 (by decide)) (fun i x y => g.2.1 i (by omega)), ⟨b1.fr (g.2.2 29 (by decide)), (g.1 30 (by decide)).trans b2⟩, ⟨c1.fr (g.2.2 31 (by decide)), (g.1 32 (by decide)).trans c2⟩, ⟨e1.fr (g.2.2 35 (by decide)), (g.1 36 (by decide)).trans e2⟩, f1, (g.1 4 (by decide)).trans f2, fun k hk => by rw [g.2.1 3 (by decide)]; exact f3 k hk, f4⟩
/-- the audits of both -/
def AA (G : gm_H) (C : Nat) (R : List Rl) (P T1 : List Tm) (s : cS) (m : mS) : Prop := (s.1 585 = 0 ∧ m.1 41 = 0 ∧ s.1 584 = 0 ∧ m.1 43 = 0) ∨ (s.1 585 = 1 ∧ m.1 41 = 1 ∧ AD G C R P T1 s ∧ m.1 42 = (aOut R P T1).1 ∧ AR R P T1 m)
theorem AA.r {G : gm_H} {C : Nat} {R : List Rl} {P T1 : List Tm} {s : cS} {m m' : mS} (h : AA G C R P T1 s m) (g : rgf m m') : AA G C R P T1 s m' := by
  rcases h with ⟨a, b, c, e⟩ | ⟨a, b, c, e, f⟩
  · exact Or.inl ⟨a, (g.1 41 (by decide)).trans b, c, (g.1 43 (by decide)).trans e⟩
  · exact Or.inr ⟨a, (g.1 41 (by decide)).trans b, c, (g.1 42 (by decide)).trans e, f.fr (g.1 43 (by decide)) (fun i hi => g.2.1 i (by omega)) (g.2.2 44 (by decide))⟩
/-- the class's game -/
def CG (G : gm_H) (C z : Nat) (R : List Rl) (P T1 T : List Tm) (L : List Fct) (s : cS) : Prop := s.2.2 80 = some z ∧ FS G C z R T s L ∧ Mdl R (bT T) L ∧ Small R L ∧ SN s L P ∧ tS s 17 P ∧ tS s 19 T1 ∧ tS s 21 T
def Reach (R : List Rl) (P T1 T : List Tm) : Prop := T = T1 ∨ ∃ r0 r1, P = [r0, r1] ∧ ∃ n, RchN R r0 r1 T1 n T
/-- what both have loaded -/
def GX (G : gm_H) (C z : Nat) (R : List Rl) (P T1 T : List Tm) (L : List Fct) (X : List Int32) (s : cS) (m : mS) : Prop := CG G C z R P T1 T L s ∧ RG R P T1 T [] X m ∧ fz R T m ∧ AA G C R P T1 s m ∧ okP P ∧ (okT T1 ∧ T1.length ≤ 24) ∧ (okT T ∧ T.length ≤ 24) ∧ (∃ L1, Mdl R (bT T1) L1 ∧ Small R L1) ∧ Reach R P T1 T
def IDL (s : cS) : Prop := s.2.2 80 = none ∧ s.1 341 = 0 ∧ s.1 421 = 0 ∧ s.1 501 = 0 ∧ s.1 541 = 0 ∧ s.1 584 = 0 ∧ (∃ L, cFacts s L) ∧ s.2.1 16 0 = 0
/-- the sheets -/
def SH (s : cS) (m : mS) : Prop := ∃ X : List Int32, xC X ∧ m.1 2 = nI X.length ∧ s.1 1 = nI X.length ∧ ∀ k, k < X.length → m.2.1 1 k = X.getD k 0 ∧ s.2.1 1 k = X.getD k 0
/-- no game: nothing kept -/
def kp (m : mS) : Prop := m.1 5 = 0 → m.1 4 = 0
theorem kp.fr {m m' : mS} (h : kp m) (h5 : m'.1 5 = m.1 5) (h4 : m'.1 4 = m.1 4) : kp m' := fun z => h4.trans (h (h5.symm.trans z))
def BV (K : Nat → Nat) (C : Nat) (s : cS) (G : gm_H) (sz : Nat) (m : mS) : Prop := (K 0 < C ∧ G (K 0) = some (.inl (gm_scr, 8, .inl c_kt)) ∧ gm_bd G sz ∧ C + 185 ≤ sz) ∧ SH s m ∧ (m.1 6 = s.1 2 ∧ m.1 7 = s.1 3) ∧ (∃ S, cSt G C S) ∧ kp m
def IV (K : Nat → Nat) (C : Nat) (s : cS) (G : gm_H) (sz : Nat) (m : mS) : Prop := BV K C s G sz m ∧ ((m.1 5 = 0 ∧ IDL s) ∨ (m.1 5 = 1 ∧ ∃ z R P T1 T L X, GX G C z R P T1 T L X s m))
theorem SH.r {s : cS} {m m' : mS} (h : SH s m) (g : rgf m m') : SH s m' := by
  obtain ⟨X, a, b, c, e⟩ := h
  exact ⟨X, a, (g.1 2 (by decide)).trans b, c, fun k hk => ⟨by rw [g.2.1 1 (by decide)]; exact (e k hk).1, (e k hk).2⟩⟩
theorem BV.r {K : Nat → Nat} {C : Nat} {s : cS} {G : gm_H} {sz : Nat} {m m' : mS} (h : BV K C s G sz m) (g : rgf m m') : BV K C s G sz m' := ⟨h.1, h.2.1.r g, ⟨(g.1 6 (by decide)).trans h.2.2.1.1, (g.1 7 (by decide)).trans h.2.2.1.2⟩, h.2.2.2.1, h.2.2.2.2.fr (g.1 5 (by decide)) (g.1 4 (by decide))⟩
theorem GX.r {G : gm_H} {C z : Nat} {R : List Rl} {P T1 T : List Tm} {L : List Fct} {X : List Int32} {s : cS} {m m' : mS} (h : GX G C z R P T1 T L X s m) (g : rgf m m') (hz : fz R T m') : GX G C z R P T1 T L X s m' := ⟨h.1, h.2.1.fr g, hz, h.2.2.2.1.r g, h.2.2.2.2⟩
theorem fz.i {R : List Rl} {T : List Tm} {m : mS} (h : fz R T m) (v : Int32) : fz R T (mI m 0 v) := by
  rcases h with a | ⟨a, b, L, c, e⟩
  · exact Or.inl a
  · exact Or.inr ⟨a, b, L, c.fr rfl rfl rfl, e⟩
theorem fz.c {R : List Rl} {T : List Tm} {m m' : mS} (h : fz R T m) (g : cfw m m') : fz R T m' := by
  rcases h with a | ⟨a, b, L, c, e⟩
  · exact Or.inl ((g.1 24 (by decide)).trans a)
  · exact Or.inr ⟨(g.1 24 (by decide)).trans a, (g.1 23 (by decide)).trans b, L, c.fr (g.1 20 (by decide)) (by rw [g.2.1]) (g.2.2 22 (by decide)), e⟩
/-- the reference's own mark of what it threw -/
theorem IV.r0 {K : Nat → Nat} {C : Nat} {s : cS} {G : gm_H} {sz : Nat} {m : mS} (h : IV K C s G sz m) (v : Int32) : IV K C s G sz (mI m 0 v) := by
  have g : rgf m (mI m 0 v) := rgf.i m v (Or.inl rfl)
  refine ⟨h.1.r g, ?_⟩
  rcases h.2 with a | ⟨a, z, R, P, T1, T, L, X, b⟩
  · exact Or.inl a
  · exact Or.inr ⟨a, z, R, P, T1, T, L, X, b.r g (b.2.2.1.i v)⟩
/-- the class's game is idle, or it is not -/
theorem cq_isIdle {N0 : Nat} {K : Nat → Nat} {d C : Nat} {s : cS} {G : gm_H} {sz : Nat} {Q : Int32 → Prop} (hN : N0 ≤ C) (q1 : s.2.2 80 = none → Q 1) (q0 : ∀ z, s.2.2 80 = some z → Q 0) : kX3_isIdle N0 K (d + 1) C s G sz Q := by
  refine kX3_isIdle.of (TX3_isIdle_0 hN ?_)
  cases e : s.2.2 80 with
  | none => exact Or.inl ⟨rfl, q1 e⟩
  | some z => exact Or.inr ⟨z, rfl, q0 z e⟩
theorem cq_hasPlayer {N0 : Nat} {K : Nat → Nat} {d C n : Nat} {p : Int32} {s : cS} {G : gm_H} {sz : Nat} {Q : Int32 → Prop} (hN : N0 ≤ C) (h : s.1 341 = nI n) (hn : n ≤ 24) (q1 : ∀ i, p = nI i → i < 2 → i < n → Q 1) (q0 : (p < 0 ∨ (2 : Int32) ≤ p ∨ nI n ≤ p) → Q 0) : kX3_hasPlayer N0 K (d + 2) C p s G sz Q := by
  refine kX3_hasPlayer.of (TX3_hasPlayer_0 hN ?_)
  by_cases h0 : p < 0
  · rw [if_pos h0]
    exact q0 (Or.inl h0)
  · rw [if_neg h0]
    obtain ⟨i, hi, e⟩ := nI_of h0
    subst e
    refine ⟨by omega, ?_⟩
    rw [h]
    have two : (2 : Int32) = nI 2 := rfl
    have emin : (if nI n < (2 : Int32) then nI n else (2 : Int32)) = nI (if n < 2 then n else 2) := by
      by_cases h2 : n < 2
      · rw [if_pos h2, if_pos (by rw [two]; exact Int32.not_le.mp (nI_ge h2 (by decide)))]
      · rw [if_neg h2, if_neg (by rw [two]; exact Int32.not_lt.mpr (nI_le (by omega) (by omega)))]
        exact two
    rw [emin]
    by_cases hc : (if n < 2 then n else 2) ≤ i
    · rw [if_pos (nI_le hc hi)]
      refine q0 ?_
      by_cases h2 : n < 2
      · rw [if_pos h2] at hc
        exact Or.inr (Or.inr (nI_le hc hi))
      · rw [if_neg h2] at hc
        exact Or.inr (Or.inl (by rw [two]; exact nI_le hc hi))
    · have hb : (if n < 2 then n else 2) ≤ 2 := by split <;> omega
      rw [if_neg (nI_ge (by omega) (by omega))]
      refine q1 i rfl (by omega) ?_
      by_cases h2 : n < 2
      · rw [if_pos h2] at hc
        omega
      · rw [if_neg h2] at hc
        omega
theorem rq_isPlayer {d n : Nat} {p : Int32} {m : mS} {Q : Int32 → Prop} (h5 : m.1 5 = 1) (h : m.1 36 = nI n) (hn : n ≤ 24) (q1 : ∀ i, p = nI i → i < 2 → i < n → Q 1) (q0 : (p < 0 ∨ (2 : Int32) ≤ p ∨ nI n ≤ p) → Q 0) : q_isPlayer (d + 1) p m Q := by
  refine q_isPlayer.of (T_isPlayer_0 ?_)
  rw [h5, if_neg (by decide), h]
  by_cases h0 : p < 0
  · rw [if_pos h0]
    exact ⟨rfl, q0 (Or.inl h0)⟩
  · rw [if_neg h0]
    by_cases h2 : (2 : Int32) ≤ p
    · rw [if_pos h2]
      exact ⟨rfl, q0 (Or.inr (Or.inl h2))⟩
    · rw [if_neg h2]
      by_cases h3 : nI n ≤ p
      · rw [if_pos h3]
        exact ⟨rfl, q0 (Or.inr (Or.inr h3))⟩
      · rw [if_neg h3]
        obtain ⟨i, hi, e⟩ := nI_of h0
        subst e
        refine ⟨rfl, q1 i rfl (Nat.lt_of_not_le (fun z => h2 (by rw [show (2 : Int32) = nI 2 from rfl]; exact nI_le z hi))) (Nat.lt_of_not_le (fun z => h3 (nI_le z hi)))⟩
theorem player_no {i n : Nat} (h : i < 2) (hn : i < n) (hn2 : n ≤ 24) : ¬ (nI i < 0 ∨ (2 : Int32) ≤ nI i ∨ nI n ≤ nI i) := by
  rintro (z | z | z)
  · exact nI_pos (by omega) z
  · exact nI_ge h (by decide) z
  · exact nI_ge hn (by omega) z
/-- the look of the reference at a game that both have -/
theorem rq_lookG {d : Nat} {K : Nat → Nat} {C : Nat} {s : cS} {G : gm_H} {sz : Nat} {z : Nat} {R : List Rl} {P T1 T : List Tm} {L : List Fct} {X : List Int32} {m : mS} {Q : Unit → mS → Prop} (hB : BV K C s G sz m) (h5 : m.1 5 = 1) (hX : GX G C z R P T1 T L X s m) (q : ∀ m' L', rfw m m' → BV K C s G sz m' → m'.1 5 = 1 → GX G C z R P T1 T L X s m' → rFacts m' L' → m'.1 23 = 0 → m'.1 24 = 1 → Mdl R (bT T) L' → Small R L' → lsame L L' → Q () m') : m_look (d + 9) m Q := by
  obtain ⟨hC, hR, hf, hA, hP, h1, ho, hg, hr⟩ := id hX
  refine rq_look (d := d) hR.1 ⟨hR.2.1, hf⟩ ho.1 ho.2 ⟨L, hC.2.2.1, hC.2.2.2.1⟩ (fun m' L' f g b c e k => ?_)
  have gg : rgf m m' := f.l.g
  have hsame : lsame L L' := mdl_same hR.1.fl.1 hC.2.2.1 e
  exact q m' L' f (hB.r gg) ((gg.1 5 (by decide)).trans h5) (hX.r gg (Or.inr ⟨c, b, L', g, e, k⟩)) g b c e k hsame
/-- fault -/
theorem pm_fault {N0 : Nat} {K : Nat → Nat} {d d2 C : Nat} {p : Int32} {s : cS} {G : gm_H} {sz : Nat} {m : mS} (hN : N0 ≤ C) (h : IV K C s G sz m) : kX11_fault N0 K (d + 1) C p s G sz (fun r => m_fault (d2 + 1) p m (fun r2 m' => r2 = r ∧ IV K C s G sz m')) := by
  refine kX11_fault.of (TX11_fault_0 hN ?_)
  have i0 := h.r0 0
  by_cases h0 : p = 0
  · refine Or.inl ⟨by rw [h0]; decide, m_fault.of (T_fault_0 ?_)⟩
    rw [if_pos h0]
    exact ⟨h.1.2.2.1.1, i0⟩
  · by_cases h1 : p = 1
    · refine Or.inr (Or.inl ⟨by rw [h1]; decide, m_fault.of (T_fault_0 ?_)⟩)
      rw [if_neg h0, if_pos h1]
      exact ⟨h.1.2.2.1.2, i0⟩
    · refine Or.inr (Or.inr ⟨?_, m_fault.of (T_fault_0 ?_)⟩)
      · rw [Op.lookupswitch.offset_cons, if_neg (fun z => h0 (Int32.toInt_inj.mp (by rw [← z]; rfl))), Op.lookupswitch.offset_cons, if_neg (fun z => h1 (Int32.toInt_inj.mp (by rw [← z]; rfl)))]
        rfl
      · rw [if_neg h0, if_neg h1]
        exact ⟨rfl, i0⟩
/-- many -/
theorem pm_many {N0 : Nat} {K : Nat → Nat} {d d2 C : Nat} {p : Int32} {s : cS} {G : gm_H} {sz : Nat} {m : mS} (hN : N0 ≤ C) (h : IV K C s G sz m) : kX11_many N0 K (d + 1) C p s G sz (fun r => m_many (d2 + 1) p m (fun r2 m' => r2 = r ∧ IV K C s G sz m')) := by
  have i0 := h.r0 0
  -- what both tell
  have tell : ∀ v, (m.1 5 = 0 → v = 0) → (m.1 5 = 1 → (p = 0 → m.1 36 = v) ∧ (p ≠ 0 → p = 1 → m.1 30 = v) ∧ (p ≠ 0 → p ≠ 1 → m.1 43 = v)) → ¬ p < 0 → p ≤ 2 → m_many (d2 + 1) p m (fun r2 m' => r2 = v ∧ IV K C s G sz m') := by
    intro v v0 v1 p0 p2
    refine m_many.of (T_many_0 ?_)
    rw [if_neg p0, if_pos p2]
    rcases h.2 with ⟨a, _⟩ | ⟨a, _⟩
    · rw [if_pos a]
      exact ⟨(v0 a).symm, i0⟩
    · rw [if_neg (by rw [a]; decide)]
      obtain ⟨x1, x2, x3⟩ := v1 a
      by_cases e0 : p = 0
      · rw [if_pos e0]
        exact ⟨x1 e0, i0⟩
      · rw [if_neg e0]
        by_cases e1 : p = 1
        · rw [if_pos e1]
          exact ⟨x2 e0 e1, i0⟩
        · rw [if_neg e1]
          exact ⟨x3 e0 e1, i0⟩
  refine kX11_many.of (TX11_many_0 hN ?_)
  by_cases h0 : p = 0
  · refine Or.inl ⟨h0, tell _ (fun a => ?_) (fun a => ⟨fun _ => ?_, fun z => absurd h0 z, fun z => absurd h0 z⟩) (by rw [h0]; decide) (by rw [h0]; decide)⟩
    · rcases h.2 with ⟨_, b⟩ | ⟨b, _⟩
      · exact b.2.1
      · rw [a] at b; exact absurd b (by decide)
    · rcases h.2 with ⟨b, _⟩ | ⟨_, z, R, P, T1, T, L, X, b⟩
      · rw [a] at b; exact absurd b (by decide)
      · rw [b.1.2.2.2.2.2.1.1]
        exact b.2.1.2.2.2.1.2
  · by_cases h1 : p = 1
    · refine Or.inr (Or.inl ⟨h1, tell _ (fun a => ?_) (fun a => ⟨fun z => absurd z h0, fun _ _ => ?_, fun _ z => absurd h1 z⟩) (by rw [h1]; decide) (by rw [h1]; decide)⟩)
      · rcases h.2 with ⟨_, b⟩ | ⟨b, _⟩
        · exact b.2.2.1
        · rw [a] at b; exact absurd b (by decide)
      · rcases h.2 with ⟨b, _⟩ | ⟨_, z, R, P, T1, T, L, X, b⟩
        · rw [a] at b; exact absurd b (by decide)
        · rw [b.1.2.2.2.2.2.2.2.1]
          exact b.2.1.2.1.2
    · by_cases h2 : p = 2
      · refine Or.inr (Or.inr (Or.inl ⟨h2, tell _ (fun a => ?_) (fun a => ⟨fun z => absurd z h0, fun _ z => absurd z h1, fun _ _ => ?_⟩) (by rw [h2]; decide) (by rw [h2]; decide)⟩))
        · rcases h.2 with ⟨_, b⟩ | ⟨b, _⟩
          · exact b.2.2.2.2.2.1
          · rw [a] at b; exact absurd b (by decide)
        · rcases h.2 with ⟨b, _⟩ | ⟨_, z, R, P, T1, T, L, X, b⟩
          · rw [a] at b; exact absurd b (by decide)
          · rcases b.2.2.2.1 with ⟨_, _, y1, y2⟩ | ⟨_, _, y1, _, y2⟩
            · rw [y1, y2]
            · rw [y1.2.1]
              exact y2.1
      · refine Or.inr (Or.inr (Or.inr ?_))
        have hout : p < 0 ∨ ¬ p ≤ 2 := by
          by_cases hp : p < 0
          · exact Or.inl hp
          · right
            intro hp2
            obtain ⟨j, hj, e⟩ := nI_of2 (M := 2) (n := 2) rfl hp hp2
            have : j = 0 ∨ j = 1 ∨ j = 2 := by omega
            rcases this with rfl | rfl | rfl
            · exact h0 e
            · exact h1 e
            · exact h2 e
        refine ⟨?_, m_many.of (T_many_0 ?_)⟩
        · rcases hout with z | z
          · left
            have := Int32.lt_iff_toInt_lt.mp z
            exact this
          · right
            have := Int32.lt_iff_toInt_lt.mp (Int32.not_le.mp z)
            exact this
        · rcases hout with z | z
          · rw [if_pos z]
            exact ⟨rfl, i0⟩
          · by_cases hp : p < 0
            · rw [if_pos hp]
              exact ⟨rfl, i0⟩
            · rw [if_neg hp, if_neg z]
              exact ⟨rfl, i0⟩
/-- over -/
theorem pm_over {N0 : Nat} {K : Nat → Nat} {d d2 C : Nat} {s : cS} {G : gm_H} {sz : Nat} {m : mS} (hN : N0 ≤ C) (h : IV K C s G sz m) : kX11_over N0 K (d + 2) C s G sz (fun r => m_over (d2 + 10) m (fun r2 m' => r2 = r ∧ IV K C s G sz m')) := by
  have i0 := h.r0 0
  refine kX11_over.of (TX11_over_0 hN ?_)
  rcases i0.2 with ⟨a, b⟩ | ⟨a, z, R, P, T1, T, L, X, b⟩
  · refine cq_isIdle hN (fun _ => ?_) (fun z hz => by rw [b.1] at hz; cases hz)
    rw [if_neg (by decide)]
    refine m_over.of (T_over_0 ?_)
    rw [if_pos (show m.1 5 = 0 from a)]
    exact ⟨rfl, i0⟩
  · refine cq_isIdle hN (fun hz => by rw [b.1.1] at hz; cases hz) (fun _ _ => ?_)
    rw [if_pos rfl]
    have fin : ∀ v, (aEn L → v = 1) → (¬ aEn L → v = 0) → m_over (d2 + 10) m (fun r2 m' => r2 = v ∧ IV K C s G sz m') := by
      intro v v1 v0
      refine m_over.of (T_over_0 ?_)
      rw [if_neg (by rw [show m.1 5 = 1 from a]; decide)]
      refine rq_lookG (d := d2) i0.1 a b (fun m' L' f B' a' X' g' _ _ e' k' hs => ?_)
      refine rq_isEnd (d := d2 + 7) g' (fun he => ?_) (fun he => ?_)
      · rw [if_neg (by decide)]
        exact ⟨(v1 ((hs _).mpr he)).symm, B', Or.inr ⟨a', z, R, P, T1, T, L, X, X'⟩⟩
      · rw [if_pos rfl]
        exact ⟨(v0 (fun z => he ((hs _).mp z))).symm, B', Or.inr ⟨a', z, R, P, T1, T, L, X, X'⟩⟩
    have sn := b.1.2.2.2.2.1
    by_cases he : aEn L
    · rw [sn.2.2.1 he, if_neg (by decide : ¬ (1 : Int32) = 0)]
      exact fin 1 (fun _ => rfl) (fun z => absurd he z)
    · rw [sn.2.2.2 he, if_pos rfl]
      exact fin 0 (fun z => absurd z he) (fun _ => rfl)
