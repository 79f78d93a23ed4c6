/-! class and reference side by side: worth, best -/
theorem pm_worth {N0 : Nat} {K : Nat → Nat} {d d2 C : Nat} {s : cS} {G : gm_H} {sz : Nat} {m : mS} (hN : N0 ≤ C) (h : IV K C s G sz m) : hX11_worth_0 N0 K (d + 17) C s G sz 0 (fun o s' G' sz' dd => m_worth (d2 + 12) m (fun r2 m' => oR [(2, 1), (1, 2)] o r2 m' ∧ gB C G G' ∧ IV K C s' G' sz' m' ∧ sz' ≤ sz + 1 ∧ dd ≤ 6)) := by
  refine TX11_worth_0 hN ?_
  rcases h.2 with ⟨a, b⟩ | ⟨a, z, R, P, T1, T, L, X, b⟩
  · refine cq_isIdle (d := d + 16) hN (fun _ => ?_) (fun z hz => by rw [b.1] at hz; cases hz)
    rw [if_neg (by decide)]
    refine m_worth.of (T_worth_0 (m_refuses.of (T_refuses_0 ?_)))
    rw [if_pos a, if_neg (by decide)]
    exact ⟨Or.inr ⟨2, 1, by simp, rfl, rfl⟩, gB.refl C G, (IV.idle h.1 a b ((eF.i m _ (Or.inl rfl)).trans (eF.i _ _ (Or.inr (Or.inl rfl))))).z (Nat.le_succ _), Nat.le_refl _, by decide⟩
  · refine cq_isIdle (d := d + 16) hN (fun hz => by rw [b.1.1] at hz; cases hz) (fun _ _ => ?_)
    rw [if_pos rfl]
    refine cq_runG (d := d) hN h.1 b (fun s' G' L' gb B' C' e585 A' => ?_)
    obtain ⟨hC, hR, hf, hA, hP, h1, ho, hg, hrc⟩ := id b
    by_cases h0 : (aOut R P T1).1 = 0
    · rw [if_pos h0]
      obtain ⟨i, hi⟩ := aud_place h1 h0 hrc
      have hil := (List.getElem?_eq_some_iff.mp (fnd_some hi)).1
      have fin : ∀ v, okS (aOut R P T1).2.1 → v = s'.2.1 32 i → m_worth (d2 + 12) m (fun r2 m' => oR [(2, 1), (1, 2)] (.returned (some (.int v))) r2 m' ∧ gB C G G' ∧ IV K C s' G' sz m' ∧ sz ≤ sz + 1 ∧ 0 ≤ 6) := by
        intro v hS ev
        refine m_worth.of (T_worth_0 (rq_refuses (d := d2) a b (fun m' g e41 e42 A => ?_)))
        rw [if_pos h0, if_pos (by decide)]
        obtain ⟨st, _, wr, vo, nv⟩ := A.2 h0
        rw [show m'.1 30 = nI T.length from (g.1 30 (by decide)).trans hR.2.1.2]
        refine rq_find_now (S := (aOut R P T1).2.1) (T := T) (st.fr rfl rfl rfl) hS (hR.2.1.1.fr (show (mI (mI m' 0 0) 24 0).2.2 29 = m.2.2 29 from g.2.2 29 (by decide))) ho.2 ho.1.2 ?_
        rw [hi]
        have h60 := hS.1
        refine ⟨i, rfl, by omega, ⟨Or.inl ⟨?_, rfl⟩, gb, IV.aud a b B' C' e585 A' ((g.trans (eF.i m' _ (Or.inl rfl))).trans (eF.i _ _ (Or.inr (Or.inl rfl)))) e41 e42 rfl ((A.i _ (by decide)).i _ (by decide)), Nat.le_succ _, Nat.zero_le _⟩⟩
        have hlen : (aOut R P T1).2.2.length = (aOut R P T1).2.1.length := by
          have := congrArg Int32.toNatClampNeg (wr.1.symm.trans A.1)
          rw [nI_clamp (by have := wr.2.1; omega), nI_clamp (by omega)] at this
          exact this
        obtain ⟨_, vo1, nv1, _⟩ := A'.2.2 h0
        rw [ev, (val_same vo1 vo nv1 nv (i := i) (by omega)).2]
      by_cases hS : okS (aOut R P T1).2.1
      · exact cq_valueAt (d := d + 14) hN A' h0 hS C'.2.2.2.2.2.2.2 ho.2 ho.1 hi (fin _ hS rfl)
      · exfalso
        obtain ⟨r0, r1, rfl, z0, ee⟩ := aud_zero h0
        rw [ee] at hS
        exact hS (audK_ok (R := R) (r0 := r0) (r1 := r1) h1 60).1
    · rw [if_neg h0]
      refine m_worth.of (T_worth_0 (rq_refuses (d := d2) a b (fun m' g e41 e42 A => ?_)))
      rw [if_neg h0, if_neg (by decide)]
      exact ⟨Or.inr ⟨1, 2, by simp, rfl, rfl⟩, gb, (IV.aud a b B' C' e585 A' ((g.trans (eF.i m' _ (Or.inl rfl))).trans (eF.i _ _ (Or.inr (Or.inl rfl)))) e41 e42 rfl ((A.i _ (by decide)).i _ (by decide))).z (Nat.le_succ _), Nat.le_refl _, by decide⟩
/-- the reference's choice -/
theorem nI_quot {a b : Nat} (ha : a < 2 ^ 31) (hb : b < 2 ^ 31) : nI a / nI b = nI (a / b) := (Int32.ofNat_div ha hb).symm
theorem rs_best57 {d i : Nat} {D : List DT} {dd : DT} {m : mS} {Q : Int32 → mS → Prop} (hW : WR D m) (hd : D[i]? = some dd) (h0 : dd.2.1 ≠ 0) {k0 : Nat} (hk0 : ∃ t, dd.2.2[k0]? = some t ∧ m.2.1 49 t = m.2.1 49 i) (hfirst : ∀ (j t : Nat), j < k0 → dd.2.2[j]? = some t → m.2.1 49 t ≠ m.2.1 49 i) (q : Q (nI (mvc dd.2.1 k0)) m) : ∀ (n k : Nat), k + n = k0 → h_best_57 d (nI i) (nI (bo D i + k)) m Q := by
  obtain ⟨w1, w2, w3, w4⟩ := hW
  obtain ⟨t0, ht0, hv0⟩ := hk0
  have hil := (List.getElem?_eq_some_iff.mp hd).1
  have hk0l := (List.getElem?_eq_some_iff.mp ht0).1
  obtain ⟨x1, x2, x3, x4, x5⟩ := w3 dd (List.mem_of_getElem? hd)
  obtain ⟨y1, y2, y3, y4⟩ := w4 i dd hd
  have hbo := bo_le D (fun d hd => (w3 d hd).2.1) i
  have hbi := bo_in hd
  have base : ∀ k t, k < dd.2.2.length → dd.2.2[k]? = some t → (if m.2.1 49 t = m.2.1 49 i then Q (nI (mvc dd.2.1 k)) m else h_best_57 d (nI i) (nI (bo D i + (k + 1))) m Q) → h_best_57 d (nI i) (nI (bo D i + k)) m Q := by
    intro k t hk ht hq
    refine T_best_57 ?_
    refine ⟨i + 1, nI_1 i, by omega, ?_⟩
    rw [y3, hbi, if_neg (nI_ge (by omega) (by omega))]
    refine ⟨i, rfl, by omega, bo D i + k, rfl, by omega, t, y4 k t ht, ?_, i, rfl, by omega, ?_⟩
    · have := x3 t (List.mem_of_getElem? ht)
      omega
    · by_cases e : m.2.1 49 t = m.2.1 49 i
      · rw [if_pos e] at hq ⊢
        have hn0 : ¬ m.2.1 48 i = 0 := by
          rw [y1]
          exact nI_ne0 (Nat.pos_of_ne_zero h0) (by omega)
        refine ⟨hn0, hn0, ?_⟩
        have ex : (nI (bo D i + k)) - (m.2.1 46 i) = nI k := by
          rw [y2, nI_sub (by omega)]
          congr 1
          omega
        rw [ex, y1, nI_quot (by omega) (by omega), nI_mul, nI_sub (Nat.div_mul_le_self _ _), show (256 : Int32) = nI 256 from rfl, nI_mul, nI_add]
        have em : 256 * (k / dd.2.1) + (k - k / dd.2.1 * dd.2.1) = mvc dd.2.1 k := by
          unfold mvc
          have := Nat.div_add_mod k dd.2.1
          rw [Nat.mul_comm dd.2.1 (k / dd.2.1)] at this
          omega
        rw [em]
        exact hq
      · rw [if_neg e] at hq ⊢
        rw [nI_1]
        exact hq
  intro n
  induction n with
  | zero =>
    intro k hk
    have : k = k0 := by omega
    subst this
    refine base k t0 hk0l ht0 ?_
    rw [if_pos hv0]
    exact q
  | succ n ih =>
    intro k hk
    have hkl : k < dd.2.2.length := by omega
    refine base k (dd.2.2[k]'hkl) hkl (List.getElem?_eq_getElem hkl) ?_
    rw [if_neg (hfirst k _ (by omega) (List.getElem?_eq_getElem hkl))]
    exact ih (k + 1) (by omega)
