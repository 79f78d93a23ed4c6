/-! the reference: meets -/
/-- as in z, but for what was unbound there and is bound in the step D -/
def rCore (z s : mS) (D : Nat) : Prop := ∀ v, v < 6 → (z.2.1 26 v ≠ -1 → s.2.1 26 v = z.2.1 26 v ∧ s.2.2 25 v = z.2.2 25 v) ∧ (z.2.1 26 v = -1 → s.2.1 26 v = -1 ∨ s.2.1 26 v = nI D)
def mfr (s s' : mS) : Prop := s'.1 = s.1 ∧ (∀ i, i ≠ 26 → s'.2.1 i = s.2.1 i) ∧ (∀ i, i ≠ 25 → s'.2.2 i = s.2.2 i)
theorem mfr.refl (s : mS) : mfr s s := ⟨rfl, fun _ _ => rfl, fun _ _ => rfl⟩
theorem mfr.trans {s s' s'' : mS} (h : mfr s s') (g : mfr s' s'') : mfr s s'' := ⟨g.1.trans h.1, fun i hi => (g.2.1 i hi).trans (h.2.1 i hi), fun i hi => (g.2.2 i hi).trans (h.2.2 i hi)⟩
theorem mfr.facts {s s' : mS} {L : List Fct} (h : mfr s s') (g : rFacts s L) : rFacts s' L := by
  obtain ⟨g1, g2, g3⟩ := g
  refine ⟨by rw [h.1]; exact g1, g2, fun i f hf => ?_⟩
  rw [h.2.1 21 (by decide), h.2.2 22 (by decide)]
  exact g3 i f hf
theorem rTm.A {A A' : Nat → Nat → Int32} {t : Nat} {x : Tm} (h : rTm A t x) (h5 : A' 15 = A 15) (h6 : A' 16 = A 16) (h7 : A' 17 = A 17) : rTm A' t x := by
  unfold rTm at h ⊢
  rw [h5, h6, h7]
  exact h
theorem rLit.A {A A' : Nat → Nat → Int32} {a : Nat} {x : Lt} (h : rLit A a x) (h3 : A' 13 = A 13) (h4 : A' 14 = A 14) (h5 : A' 15 = A 15) (h6 : A' 16 = A 16) (h7 : A' 17 = A 17) : rLit A' a x := by
  obtain ⟨g1, g2, g3, g4⟩ := h
  exact ⟨by rw [h3]; exact g1, by rw [h4]; exact g2, g3, fun i y hy => (g4 i y hy).A h5 h6 h7⟩
theorem rRule.A {A A' : Nat → Nat → Int32} {r : Nat} {x : Rl} (h : rRule A r x) (h2 : A' 12 = A 12) (h3 : A' 13 = A 13) (h4 : A' 14 = A 14) (h5 : A' 15 = A 15) (h6 : A' 16 = A 16) (h7 : A' 17 = A 17) : rRule A' r x := by
  obtain ⟨g1, g2, g3, g4⟩ := h
  exact ⟨by rw [h2]; exact g1, g2, g3.A h3 h4 h5 h6 h7, fun j y hy => (g4 j y hy).A h3 h4 h5 h6 h7⟩
theorem rRules.A {s s' : mS} {R : List Rl} (h : rRules s R) (h1 : s'.1 11 = s.1 11) (hA : ∀ i, 12 ≤ i → i ≤ 17 → s'.2.1 i = s.2.1 i) : rRules s' R := by
  obtain ⟨g1, g2, g3⟩ := h
  exact ⟨by rw [h1]; exact g1, g2, fun r x hx => (g3 r x hx).A (hA 12 (by decide) (by decide)) (hA 13 (by decide) (by decide)) (hA 14 (by decide) (by decide)) (hA 15 (by decide) (by decide)) (hA 16 (by decide) (by decide)) (hA 17 (by decide) (by decide))⟩
theorem mfr.lit {s s' : mS} {a : Nat} {l : Lt} (h : mfr s s') (g : rLit s.2.1 a l) : rLit s'.2.1 a l := g.A (h.2.1 13 (by decide)) (h.2.1 14 (by decide)) (h.2.1 15 (by decide)) (h.2.1 16 (by decide)) (h.2.1 17 (by decide))
theorem mfr.tm {s s' : mS} {a : Nat} {t : Tm} (h : mfr s s') (g : rTm s.2.1 a t) : rTm s'.2.1 a t := g.A (h.2.1 15 (by decide)) (h.2.1 16 (by decide)) (h.2.1 17 (by decide))
theorem rq_meets {d D : Nat} {s z : mS} {e : Env} {fl : Int32 → Bool} {c : Int32} {t : Tm} {Q : Int32 → mS → Prop} (hD : D < 6) (hc : chP c) (ht : gT t) (he : rEnv s (D + 1) e) (hb : rCore z s D) (hfl : vbs (s.1 28) (fun c => fl c = true)) (q1 : ∀ e' s', mC1 fl e c t = some e' → mfr s s' → rEnv s' (D + 1) e' → rCore z s' D → Q 1 s') (q0 : mC1 fl e c t = none → Q 0 s) : m_meets (d + 2) c (lN (tL t)) (nI D) s Q := by
  refine m_meets.of (T_meets_0 (rq_isVariable ?_))
  by_cases hv : chV c
  · rw [if_neg (zb_ne.mpr hv)]
    obtain ⟨v, hv6, ec⟩ := chV_ix hv
    have hcase : (∃ k8 : Nat, c - 85 = nI k8 ∧ k8 < 6 ∧ (if s.2.1 26 k8 < 0 then Q 1 (mL (mA s 26 (upd (s.2.1 26) k8 (nI D))) 25 (vp_updL (s.2.2 25) k8 (lN (tL t)))) else if lg_cmp (s.2.2 25 k8) (lN (tL t)) = 0 then Q 1 s else Q 0 s)) ↔ (if s.2.1 26 v < 0 then Q 1 (mL (mA s 26 (upd (s.2.1 26) v (nI D))) 25 (vp_updL (s.2.2 25) v (lN (tL t)))) else if lg_cmp (s.2.2 25 v) (lN (tL t)) = 0 then Q 1 s else Q 0 s) := by
      constructor
      · intro h
        obtain ⟨k, h1, h2, h3⟩ := h
        rw [ec, vc_sub hv6, nI_eq (by omega) (by omega)] at h1
        subst h1
        exact h3
      · intro h
        exact ⟨v, by rw [ec, vc_sub hv6], hv6, h⟩
    have go : ¬ (fl c = true ∧ ¬ t.1 = 0) → (∃ k8 : Nat, c - 85 = nI k8 ∧ k8 < 6 ∧ (if s.2.1 26 k8 < 0 then Q 1 (mL (mA s 26 (upd (s.2.1 26) k8 (nI D))) 25 (vp_updL (s.2.2 25) k8 (lN (tL t)))) else if lg_cmp (s.2.2 25 k8) (lN (tL t)) = 0 then Q 1 s else Q 0 s)) := by
      intro hno
      rw [hcase]
      have em : mC1 fl e c t = (match e c with
          | some u => if u = t then some e else none
          | none => some (eUp e c t)) := by
        unfold mC1
        rw [if_pos hv, if_neg hno]
        rfl
      cases hec : e c with
      | some u =>
        rw [hec] at em
        simp only at em
        have := (he v hv6).1 u (by rw [← ec]; exact hec)
        obtain ⟨g1, g2, b, g3, g4⟩ := this
        rw [g4, if_neg (nI_pos (by omega)), g2]
        by_cases hu : u = t
        · rw [if_pos ((lg_eq _ _).mpr (by rw [hu]))]
          rw [if_pos hu] at em
          exact q1 e s em (mfr.refl s) he hb
        · rw [if_neg (fun z => hu ((lL_eq g1.1 ht.1).mp ((lg_eq _ _).mp z)))]
          rw [if_neg hu] at em
          exact q0 em
      | none =>
        rw [hec] at em
        simp only at em
        have hn := (he v hv6).2 (by rw [← ec]; exact hec)
        rw [hn, if_pos (by decide)]
        refine q1 _ _ em ⟨rfl, fun i hi => if_neg hi, fun i hi => if_neg hi⟩ (fun w hw => ?_) (fun w hw => ?_)
        · show (∀ u, eUp e c t (nI (85 + w)) = some u → gT u ∧ vp_updL (s.2.2 25) v (lN (tL t)) w = _ ∧ ∃ b, b < D + 1 ∧ upd (s.2.1 26) v (nI D) w = nI b) ∧ (eUp e c t (nI (85 + w)) = none → upd (s.2.1 26) v (nI D) w = -1)
          unfold eUp
          by_cases ew : w = v
          · subst ew
            rw [if_pos ec.symm, vl_eq, upd_eq]
            refine ⟨fun u hu => ?_, fun hu => by cases hu⟩
            cases hu
            exact ⟨ht, rfl, D, by omega, rfl⟩
          · have hne : ¬ nI (85 + w) = c := by
              rw [ec, nI_eq (by omega) (by omega)]
              omega
            rw [if_neg hne, vl_ne ew, upd_ne ew]
            exact he w hw
        · show (z.2.1 26 w ≠ -1 → upd (s.2.1 26) v (nI D) w = z.2.1 26 w ∧ vp_updL (s.2.2 25) v (lN (tL t)) w = z.2.2 25 w) ∧ (z.2.1 26 w = -1 → upd (s.2.1 26) v (nI D) w = -1 ∨ upd (s.2.1 26) v (nI D) w = nI D)
          by_cases ew : w = v
          · subst ew
            rw [vl_eq, upd_eq]
            refine ⟨fun hz => ?_, fun _ => Or.inr rfl⟩
            have := ((hb w hw).1 hz).1
            rw [hn] at this
            exact absurd this.symm hz
          · rw [vl_ne ew, upd_ne ew]
            exact hb w hw
    have hbit := bs.tests hfl hv6
    rw [← ec] at hbit
    by_cases hf : fl c = true
    · rw [if_pos (hbit.mpr ⟨hv6, hf⟩)]
      refine rq_isConstant ht.1 (fun z => ?_) (fun z => ?_)
      · rw [if_neg (by decide)]
        exact go (fun y => y.2 z)
      · rw [if_pos rfl]
        refine q0 ?_
        unfold mC1
        rw [if_pos hv, if_pos ⟨hf, z⟩]
    · rw [if_neg (fun y => hf (hbit.mp y).2)]
      exact go (fun y => hf y.1)
  · rw [if_pos (zb_eq.mpr hv)]
    obtain ⟨h1, h2, h3⟩ := chP_cn hc
    have hl := l56 h2
    rw [← h3] at hl
    rw [hl, ← tL_k]
    have hwc : wfT (0, [c]) := Or.inl ⟨rfl, c, hc, rfl⟩
    by_cases hz : t = (0, [c])
    · rw [if_pos ((lg_eq _ _).mpr (by rw [hz]))]
      refine q1 e s ?_ (mfr.refl s) he hb
      unfold mC1
      rw [if_neg hv, if_pos hz]
    · rw [if_neg (fun y => hz ((lL_eq ht.1 hwc).mp ((lg_eq _ _).mp y)))]
      refine q0 ?_
      unfold mC1
      rw [if_neg hv, if_neg hz]
/-- byte k of a ground term's text -/
def byt (t : Tm) (k : Nat) : Nat := tL t / 2 ^ (56 - 8 * k) % 256
theorem byt_const {t : Tm} (h : wfT t) (h0 : t.1 = 0) : byt t 1 = 0 := by
  unfold byt
  rcases h.shape with ⟨a, h1, h2, e0, _, e⟩ | ⟨a, x, h1, h2, h3, h4, e0, hc, _, e⟩ | ⟨a, x, y, h1, h2, h3, h4, h5, h6, e0, hc, _, e⟩ | ⟨a, x, y, z, h1, h2, h3, h4, h5, h6, h7, h8, e0, hc, _, e⟩
  · rw [e]
    omega
  · rw [e0] at h0
    exact absurd h0 (chL_ne hc)
  · rw [e0] at h0
    exact absurd h0 (chL_ne hc)
  · rw [e0] at h0
    exact absurd h0 (chL_ne hc)
theorem byt_comp {t : Tm} (h : wfT t) (h0 : ¬ t.1 = 0) : nI (byt t 0) = t.1 ∧ byt t 1 = 40 ∧ (∀ n, 1 ≤ n → n ≤ 3 → (byt t (2 * n + 1) = 41 ↔ t.2.length = n)) ∧ ∀ k, k < t.2.length → nI (byt t (2 + 2 * k)) = t.2.getD k 0 ∧ byt t (2 + 2 * k) < 128 ∧ 48 ≤ byt t (2 + 2 * k) := by
  have c3 : ∀ {P : Nat → Prop}, P 1 → P 2 → P 3 → ∀ n, 1 ≤ n → n ≤ 3 → P n := by
    intro P p1 p2 p3 n n1 n2
    have : n = 1 ∨ n = 2 ∨ n = 3 := by omega
    rcases this with rfl | rfl | rfl
    · exact p1
    · exact p2
    · exact p3
  unfold byt
  rcases h.shape with ⟨a, h1, h2, e0, _, e⟩ | ⟨a, x, h1, h2, h3, h4, e0, hc, _, e⟩ | ⟨a, x, y, h1, h2, h3, h4, h5, h6, e0, hc, _, e⟩ | ⟨a, x, y, z, h1, h2, h3, h4, h5, h6, h7, h8, e0, hc, _, e⟩
  · rw [e0] at h0
    exact absurd rfl h0
  · rw [e]
    refine ⟨?_, by omega, ?_, ?_⟩
    · rw [e0, show (a * 2 ^ 56 + 40 * 2 ^ 48 + x * 2 ^ 40 + 41 * 2 ^ 32) / 2 ^ (56 - 8 * 0) % 256 = a by omega]
    · rw [e0]
      refine c3 ?_ ?_ ?_
      · exact ⟨fun _ => rfl, fun _ => by omega⟩
      · exact ⟨fun z => by omega, fun z => absurd z (by simp)⟩
      · exact ⟨fun z => by omega, fun z => absurd z (by simp)⟩
    · intro k hk
      rw [e0] at hk ⊢
      simp only [List.length_cons, List.length_nil] at hk
      have : k = 0 := by omega
      subst this
      rw [show (a * 2 ^ 56 + 40 * 2 ^ 48 + x * 2 ^ 40 + 41 * 2 ^ 32) / 2 ^ (56 - 8 * (2 + 2 * 0)) % 256 = x by omega]
      exact ⟨rfl, h4, h3⟩
  · rw [e]
    refine ⟨?_, by omega, ?_, ?_⟩
    · rw [e0, show (a * 2 ^ 56 + 40 * 2 ^ 48 + x * 2 ^ 40 + 44 * 2 ^ 32 + y * 2 ^ 24 + 41 * 2 ^ 16) / 2 ^ (56 - 8 * 0) % 256 = a by omega]
    · rw [e0]
      refine c3 ?_ ?_ ?_
      · exact ⟨fun z => by omega, fun z => absurd z (by simp)⟩
      · exact ⟨fun _ => rfl, fun _ => by omega⟩
      · exact ⟨fun z => by omega, fun z => absurd z (by simp)⟩
    · intro k hk
      rw [e0] at hk ⊢
      simp only [List.length_cons, List.length_nil] at hk
      have : k = 0 ∨ k = 1 := by omega
      rcases this with rfl | rfl
      · rw [show (a * 2 ^ 56 + 40 * 2 ^ 48 + x * 2 ^ 40 + 44 * 2 ^ 32 + y * 2 ^ 24 + 41 * 2 ^ 16) / 2 ^ (56 - 8 * (2 + 2 * 0)) % 256 = x by omega]
        exact ⟨rfl, h4, h3⟩
      · rw [show (a * 2 ^ 56 + 40 * 2 ^ 48 + x * 2 ^ 40 + 44 * 2 ^ 32 + y * 2 ^ 24 + 41 * 2 ^ 16) / 2 ^ (56 - 8 * (2 + 2 * 1)) % 256 = y by omega]
        exact ⟨rfl, h6, h5⟩
  · rw [e]
    refine ⟨?_, by omega, ?_, ?_⟩
    · rw [e0, show (a * 2 ^ 56 + 40 * 2 ^ 48 + x * 2 ^ 40 + 44 * 2 ^ 32 + y * 2 ^ 24 + 44 * 2 ^ 16 + z * 2 ^ 8 + 41) / 2 ^ (56 - 8 * 0) % 256 = a by omega]
    · rw [e0]
      refine c3 ?_ ?_ ?_
      · exact ⟨fun z => by omega, fun z => absurd z (by simp)⟩
      · exact ⟨fun z => by omega, fun z => absurd z (by simp)⟩
      · exact ⟨fun _ => rfl, fun _ => by omega⟩
    · intro k hk
      rw [e0] at hk ⊢
      simp only [List.length_cons, List.length_nil] at hk
      have : k = 0 ∨ k = 1 ∨ k = 2 := by omega
      rcases this with rfl | rfl | rfl
      · rw [show (a * 2 ^ 56 + 40 * 2 ^ 48 + x * 2 ^ 40 + 44 * 2 ^ 32 + y * 2 ^ 24 + 44 * 2 ^ 16 + z * 2 ^ 8 + 41) / 2 ^ (56 - 8 * (2 + 2 * 0)) % 256 = x by omega]
        exact ⟨rfl, h4, h3⟩
      · rw [show (a * 2 ^ 56 + 40 * 2 ^ 48 + x * 2 ^ 40 + 44 * 2 ^ 32 + y * 2 ^ 24 + 44 * 2 ^ 16 + z * 2 ^ 8 + 41) / 2 ^ (56 - 8 * (2 + 2 * 1)) % 256 = y by omega]
        exact ⟨rfl, h6, h5⟩
      · rw [show (a * 2 ^ 56 + 40 * 2 ^ 48 + x * 2 ^ 40 + 44 * 2 ^ 32 + y * 2 ^ 24 + 44 * 2 ^ 16 + z * 2 ^ 8 + 41) / 2 ^ (56 - 8 * (2 + 2 * 2)) % 256 = z by omega]
        exact ⟨rfl, h8, h7⟩
theorem mCs_len {fl : Int32 → Bool} : ∀ (cs xs : List Int32) (e : Env), cs.length ≠ xs.length → mCs fl e cs xs = none := by
  intro cs
  induction cs with
  | nil =>
    intro xs e h
    cases xs with
    | nil => exact absurd rfl h
    | cons x xs => simp [mCs]
  | cons c cs ih =>
    intro xs e h
    cases xs with
    | nil => simp [mCs]
    | cons x xs =>
      rw [mCs]
      cases mC1 fl e c (0, [x]) with
      | none => rfl
      | some e1 => exact ih xs e1 (fun z => h (by simp [z]))
theorem rs_mt_77 {d D tt : Nat} {s0 : mS} {z : mS} {fl : Int32 → Bool} {p t : Tm} {Q : Int32 → mS → Prop} (hD : D < 6) (htt : tt < 432) (hp : wfT p) (hp0 : ¬ p.1 = 0) (ht : gT t) (ht0 : ¬ t.1 = 0) (hlen : t.2.length = p.2.length) (hx0 : rTm s0.2.1 tt p) (hfl0 : vbs (s0.1 28) (fun c => fl c = true)) : ∀ (m k : Nat) (s : mS) (e : Env), k + m = p.2.length → mfr s0 s → rEnv s (D + 1) e → rCore z s D → (∀ e' s', mCs fl e (p.2.drop k) (t.2.drop k) = some e' → mfr s0 s' → rEnv s' (D + 1) e' → rCore z s' D → Q 1 s') → (∀ s', mCs fl e (p.2.drop k) (t.2.drop k) = none → mfr s0 s' → rCore z s' D → Q 0 s') → h_meetsTerm_77 (d + 2) (nI tt) (lN (tL t)) (nI D) (nI p.2.length) (nI k) s Q := by
  have h3 := hx0.2.2.1
  intro m
  induction m with
  | zero =>
    intro k s e hk hf he hb q1 q0
    refine T_meetsTerm_77 ?_
    rw [if_pos (nI_le (by omega) (by omega))]
    refine q1 e s ?_ hf he hb
    rw [List.drop_eq_nil_of_le (by omega), List.drop_eq_nil_of_le (by omega), mCs]
  | succ m ih =>
    intro k s e hk hf he hb q1 q0
    have hk' : k < p.2.length := by omega
    have hkt : k < t.2.length := by omega
    have hx := hf.tm hx0
    have htl := (tL_lt ht.1).1
    obtain ⟨_, _, _, bk⟩ := byt_comp ht.1 ht0
    obtain ⟨bk1, bk2, bk3⟩ := bk k hkt
    refine T_meetsTerm_77 ?_
    rw [if_neg (nI_ge (by omega) (by omega))]
    refine ⟨3 * tt + k, by rw [n_3, nI_mul, nI_add], by omega, ?_⟩
    rw [show (2 : Int32) + 2 * nI k = nI (2 + 2 * k) by rw [n_2, nI_mul, nI_add]]
    refine rq_letterOf htl (by omega) ?_
    rw [if_pos (by omega)]
    have ec : s.2.1 17 (3 * tt + k) = p.2[k] := by
      rw [hx.2.2.2 k hk', List.getD_eq_getElem?_getD, List.getElem?_eq_getElem hk']
      rfl
    have exk : nI (byt t (2 + 2 * k)) = t.2[k] := by
      rw [bk1, List.getD_eq_getElem?_getD, List.getElem?_eq_getElem hkt]
      rfl
    rw [ec, show tL t / 2 ^ (56 - 8 * (2 + 2 * k)) % 256 = byt t (2 + 2 * k) from rfl, l56 bk2]
    have ev : byt t (2 + 2 * k) * 2 ^ 56 = tL (0, [t.2[k]]) := by
      rw [tL_k, ← exk, cn_nI bk2]
    rw [ev]
    have hpk : chP p.2[k] := by
      rcases hp with ⟨z, _⟩ | ⟨_, _, _, z⟩
      · exact absurd z hp0
      · exact z _ (List.getElem_mem hk')
    have htk : chP t.2[k] ∧ ¬ chV t.2[k] := by
      refine ⟨?_, ht.2 _ (List.getElem_mem hkt)⟩
      rcases ht.1 with ⟨z, _⟩ | ⟨_, _, _, z⟩
      · exact absurd z ht0
      · exact z _ (List.getElem_mem hkt)
    have hg : gT (0, [t.2[k]]) := ⟨Or.inl ⟨rfl, _, htk.1, rfl⟩, fun c hc => by simp only [List.mem_singleton] at hc; rw [hc]; exact htk.2⟩
    have eq : mCs fl e (p.2.drop k) (t.2.drop k) = (match mC1 fl e p.2[k] (0, [t.2[k]]) with
        | some e' => mCs fl e' (p.2.drop (k + 1)) (t.2.drop (k + 1))
        | none => none) := by
      rw [List.drop_eq_getElem_cons hk', List.drop_eq_getElem_cons hkt, mCs]
      rfl
    refine rq_meets hD hpk hg he hb (by rw [hf.1]; exact hfl0) (fun e' s' z1 z2 z3 z4 => ?_) (fun z => ?_)
    · rw [if_neg (by decide), nI_1]
      rw [z1] at eq
      simp only at eq
      refine ih (k + 1) s' e' (by omega) (hf.trans z2) z3 z4 ?_ ?_
      · intro e'' s'' y1 y2 y3 y4
        exact q1 e'' s'' (eq.trans y1) y2 y3 y4
      · intro s'' y1 y2 y3
        exact q0 s'' (eq.trans y1) y2 y3
    · rw [if_pos rfl]
      rw [z] at eq
      exact q0 s eq hf hb
theorem rq_meetsTerm {d D tt : Nat} {s : mS} {e : Env} {z : mS} {fl : Int32 → Bool} {p t : Tm} {Q : Int32 → mS → Prop} (hD : D < 6) (htt : tt < 432) (hp : wfT p) (ht : gT t) (hx : rTm s.2.1 tt p) (he : rEnv s (D + 1) e) (hb : rCore z s D) (hfl : vbs (s.1 28) (fun c => fl c = true)) (q1 : ∀ e' s', mT1 fl e p t = some e' → mfr s s' → rEnv s' (D + 1) e' → rCore z s' D → Q 1 s') (q0 : ∀ s', mT1 fl e p t = none → mfr s s' → rCore z s' D → Q 0 s') : m_meetsTerm (d + 3) (nI tt) (lN (tL t)) (nI D) s Q := by
  have htl := (tL_lt ht.1).1
  obtain ⟨x1, x2, x3, x4⟩ := id hx
  refine m_meetsTerm.of (T_meetsTerm_0 ⟨tt, rfl, htt, ?_⟩)
  rw [x1]
  by_cases h0 : p.1 = 0
  · rw [if_pos h0]
    refine ⟨3 * tt, by rw [n_3, nI_mul], by omega, ?_⟩
    rcases id hp with ⟨_, c, hc, ec⟩ | ⟨z, _⟩
    · have e5 : s.2.1 17 (3 * tt) = c := by
        have := x4 0 (by rw [ec]; simp)
        rw [ec] at this
        exact this
      have em : mT1 fl e p t = mC1 fl e c t := by
        unfold mT1
        rw [if_pos h0, ec]
        rfl
      rw [e5]
      refine rq_meets hD hc ht he hb hfl (fun e' s' z1 z2 z3 z4 => ⟨Or.inr rfl, q1 e' s' (em.trans z1) z2 z3 z4⟩) (fun z => ⟨Or.inl rfl, q0 s (em.trans z) (mfr.refl s) hb⟩)
    · rw [h0] at z
      exact absurd z (by decide)
  · rw [if_neg h0]
    have hpl : 1 ≤ p.2.length := by
      rcases hp with ⟨z, _⟩ | ⟨_, z, _⟩
      · exact absurd z h0
      · exact z
    have em : mT1 fl e p t = (if t.1 = p.1 then mCs fl e p.2 t.2 else none) := by
      unfold mT1
      rw [if_neg h0]
    have bad : (¬ t.1 = p.1 ∨ t.2.length ≠ p.2.length) → Q 0 s := by
      intro h
      refine q0 s ?_ (mfr.refl s) hb
      rw [em]
      rcases h with h | h
      · rw [if_neg h]
      · by_cases h1 : t.1 = p.1
        · rw [if_pos h1]
          exact mCs_len _ _ _ (fun z => h z.symm)
        · rw [if_neg h1]
    refine rq_letterOf (k := 0) htl (by decide) ?_
    rw [if_pos (show 0 < 8 by decide), show tL t / 2 ^ (56 - 8 * 0) % 256 = byt t 0 from rfl]
    by_cases ht0 : t.1 = 0
    · have hne : ¬ t.1 = p.1 := fun z => h0 (by rw [← z]; exact ht0)
      by_cases c0 : nI (byt t 0) = p.1
      · rw [if_pos c0]
        refine rq_letterOf (k := 1) htl (by decide) ?_
        rw [if_pos (show 1 < 8 by decide), show tL t / 2 ^ (56 - 8 * 1) % 256 = byt t 1 from rfl, byt_const ht.1 ht0, if_neg (by decide)]
        exact bad (Or.inl hne)
      · rw [if_neg c0]
        exact bad (Or.inl hne)
    · obtain ⟨b0, b1, b2, b3⟩ := byt_comp ht.1 ht0
      rw [b0]
      by_cases c0 : t.1 = p.1
      · rw [if_pos c0]
        refine rq_letterOf (k := 1) htl (by decide) ?_
        rw [if_pos (show 1 < 8 by decide), show tL t / 2 ^ (56 - 8 * 1) % 256 = byt t 1 from rfl, b1, if_pos (by decide), x2, show (2 : Int32) * nI p.2.length + 1 = nI (2 * p.2.length + 1) by rw [n_2, nI_mul, nI_1]]
        refine rq_letterOf htl (by omega) ?_
        rw [if_pos (show 2 * p.2.length + 1 < 8 by omega), show tL t / 2 ^ (56 - 8 * (2 * p.2.length + 1)) % 256 = byt t (2 * p.2.length + 1) from rfl]
        have hb256 : byt t (2 * p.2.length + 1) < 256 := Nat.mod_lt _ (by decide)
        by_cases c1 : t.2.length = p.2.length
        · rw [if_pos (by rw [(b2 _ hpl x3).mpr c1]; rfl)]
          rw [if_pos c0] at em
          refine rs_mt_77 (s0 := s) hD htt hp h0 ht ht0 c1 hx hfl p.2.length 0 s e (by omega) (mfr.refl s) he hb ?_ ?_
          · intro e' s' z1
            rw [List.drop_zero, List.drop_zero] at z1
            exact q1 e' s' (em.trans z1)
          · intro s' z1
            rw [List.drop_zero, List.drop_zero] at z1
            exact q0 s' (em.trans z1)
        · rw [if_neg (show ¬ nI (byt t (2 * p.2.length + 1)) = 41 from fun y => c1 ((b2 _ hpl x3).mp ((nI_eq (by omega) (by decide)).mp (show nI (byt t (2 * p.2.length + 1)) = nI 41 from y))))]
          exact bad (Or.inr c1)
      · rw [if_neg c0]
        exact bad (Or.inl c0)
theorem rs_mf_20 {d D a i : Nat} {s0 : mS} {z : mS} {fl : Int32 → Bool} {l : Lt} {f : Fct} {L : List Fct} {Q : Int32 → mS → Prop} (hD : D < 6) (ha : a < 144) (hl : wfL l) (h2 : l.1 ≠ 2) (hl0 : rLit s0.2.1 a l) (hL0 : rFacts s0 L) (hf0 : L[i]? = some f) (hr : lk l = f.1) (hfl0 : vbs (s0.1 28) (fun c => fl c = true)) : ∀ (m k : Nat) (s : mS) (e : Env), k + m = l.2.2.length → mfr s0 s → rEnv s (D + 1) e → rCore z s D → (∀ e' s', mTs fl e (l.2.2.drop k) (f.2.drop k) = some e' → mfr s0 s' → rEnv s' (D + 1) e' → rCore z s' D → Q 1 s') → (∀ s', mTs fl e (l.2.2.drop k) (f.2.drop k) = none → mfr s0 s' → rCore z s' D → Q 0 s') → h_meetsFact_20 (d + 3) (nI a) (nI i) (nI D) (nI k) s Q := by
  have hn := (wfL_len hl).1
  have hi : i < L.length := (List.getElem?_eq_some_iff.mp hf0).1
  have h200 := hL0.2.1
  have hwf := (hL0.2.2 i f hf0).1
  have hlen : f.2.length = l.2.2.length := by rw [hwf.2.1, ← hr, lk_mod hn]
  intro m
  induction m with
  | zero =>
    intro k s e hk hf he hb q1 q0
    refine T_meetsFact_20 ⟨a, rfl, ha, ?_⟩
    rw [((hf.lit hl0).rel hl h2).2.2.2, if_pos (nI_le (by omega) (by omega))]
    refine q1 e s ?_ hf he hb
    rw [List.drop_eq_nil_of_le (by omega), List.drop_eq_nil_of_le (by omega), mTs]
  | succ m ih =>
    intro k s e hk hf he hb q1 q0
    have hk' : k < l.2.2.length := by omega
    have hkf : k < f.2.length := by omega
    have hlit := hf.lit hl0
    refine T_meetsFact_20 ⟨a, rfl, ha, ?_⟩
    rw [(hlit.rel hl h2).2.2.2, if_neg (nI_ge (by omega) (by omega))]
    refine ⟨3 * i + k, by rw [n_3, nI_mul, nI_add], by omega, ?_⟩
    have ev : s.2.2 22 (3 * i + k) = lN (tL f.2[k]) := by
      obtain ⟨_, _, g0, g1, g2⟩ := (hf.facts hL0).2.2 i f hf0
      have etl : tl f.2 k = lN (tL f.2[k]) := by
        unfold tl
        rw [List.getElem?_eq_getElem hkf]
      have : k = 0 ∨ k = 1 ∨ k = 2 := by omega
      rcases this with rfl | rfl | rfl
      · rw [← etl]; exact g0
      · rw [← etl]; exact g1
      · rw [← etl]; exact g2
    rw [ev, show (3 : Int32) * nI a + nI k = nI (3 * a + k) by rw [n_3, nI_mul, nI_add]]
    have eq : mTs fl e (l.2.2.drop k) (f.2.drop k) = (match mT1 fl e l.2.2[k] f.2[k] with
        | some e' => mTs fl e' (l.2.2.drop (k + 1)) (f.2.drop (k + 1))
        | none => none) := by
      rw [List.drop_eq_getElem_cons hk', List.drop_eq_getElem_cons hkf, mTs]
      rfl
    refine rq_meetsTerm hD (by omega) ((wfL_len hl).2 _ (List.getElem_mem hk')) (hwf.2.2 _ (List.getElem_mem hkf)) (hlit.2.2.2 k _ (List.getElem?_eq_getElem hk')) he hb (by rw [hf.1]; exact hfl0) (fun e' s' z1 z2 z3 z4 => ?_) (fun s' z1 z2 z3 => ?_)
    · rw [if_neg (by decide), nI_1]
      rw [z1] at eq
      simp only at eq
      refine ih (k + 1) s' e' (by omega) (hf.trans z2) z3 z4 ?_ ?_
      · intro e'' s'' y1
        exact q1 e'' s'' (eq.trans y1)
      · intro s'' y1
        exact q0 s'' (eq.trans y1)
    · rw [if_pos rfl]
      rw [z1] at eq
      exact q0 s' eq (hf.trans z2) z3
theorem rq_meetsFact {d D a i : Nat} {s : mS} {e : Env} {z : mS} {fl : Int32 → Bool} {l : Lt} {f : Fct} {L : List Fct} {Q : Int32 → mS → Prop} (hD : D < 6) (ha : a < 144) (hl : wfL l) (h2 : l.1 ≠ 2) (hlit : rLit s.2.1 a l) (hL : rFacts s L) (hf : L[i]? = some f) (he : rEnv s (D + 1) e) (hb : rCore z s D) (hfl : vbs (s.1 28) (fun c => fl c = true)) (q1 : ∀ e' s', mF1 fl e l f = some e' → mfr s s' → rEnv s' (D + 1) e' → rCore z s' D → Q 1 s') (q0 : ∀ s', mF1 fl e l f = none → mfr s s' → rCore z s' D → Q 0 s') : m_meetsFact (d + 4) (nI a) (nI i) (nI D) s Q := by
  have hi : i < L.length := (List.getElem?_eq_some_iff.mp hf).1
  have h200 := hL.2.1
  obtain ⟨w, g1, _⟩ := hL.2.2 i f hf
  obtain ⟨r1, r2, _⟩ := hlit.rel hl h2
  have w1 := w.1
  refine m_meetsFact.of (T_meetsFact_0 ⟨a, rfl, ha, i, rfl, by omega, ?_⟩)
  rw [r1, g1]
  by_cases hr : lk l = f.1
  · rw [if_pos (by rw [hr])]
    have em : mF1 fl e l f = mTs fl e l.2.2 f.2 := by
      unfold mF1
      rw [if_pos hr]
    refine rs_mf_20 (s0 := s) hD ha hl h2 hlit hL hf hr hfl l.2.2.length 0 s e (by omega) (mfr.refl s) he hb ?_ ?_
    · intro e' s' z1
      rw [List.drop_zero, List.drop_zero] at z1
      exact q1 e' s' (em.trans z1)
    · intro s' z1
      rw [List.drop_zero, List.drop_zero] at z1
      exact q0 s' (em.trans z1)
  · rw [if_neg (fun z => hr ((nI_eq (by omega) (by omega)).mp z))]
    refine q0 s ?_ (mfr.refl s) hb
    unfold mF1
    rw [if_neg hr]
