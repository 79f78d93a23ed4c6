/-! class and reference side by side: best -/
theorem pm_best {N0 : Nat} {K : Nat → Nat} {d d2 C : Nat} {s : cS} {G : gm_H} {sz : Nat} {m : mS} (hN : N0 ≤ C) (h : IV K C s G sz m) : hX11_best_0 N0 K (d + 17) C s G sz 0 (fun o s' G' sz' dd => m_best (d2 + 12) m (fun r2 m' => oR [(2, 1), (1, 2), (4, 3)] o r2 m' ∧ gB C G G' ∧ IV K C s' G' sz' m' ∧ sz' ≤ sz + 1 ∧ dd ≤ 6)) := by
  refine TX11_best_0 hN ?_
  rcases h.2 with ⟨a, b⟩ | ⟨a, z, R, P, T1, T, L, X, b⟩
  · refine cq_isIdle (d := d + 16) hN (fun _ => ?_) (fun z hz => by rw [b.1] at hz; cases hz)
    rw [if_neg (by decide)]
    refine m_best.of (T_best_0 (m_refuses.of (T_refuses_0 ?_)))
    rw [if_pos a, if_neg (by decide)]
    exact ⟨Or.inr ⟨2, 1, by simp, rfl, rfl⟩, gB.refl C G, (IV.idle h.1 a b ((eF.i m _ (Or.inl rfl)).trans (eF.i _ _ (Or.inr (Or.inl rfl))))).z (Nat.le_succ _), Nat.le_refl _, by decide⟩
  refine cq_isIdle (d := d + 16) hN (fun hz => by rw [b.1.1] at hz; cases hz) (fun _ _ => ?_)
  rw [if_pos rfl]
  refine cq_runG (d := d) hN h.1 b (fun s' G' L' gb B' C' e585 A' => ?_)
  obtain ⟨hC, hR, hf, hA, hP, h1, ho, hg, hrc⟩ := id b
  rcases (Classical.em ((aOut R P T1).1 = 0)).symm with h0 | h0
  · rw [if_neg h0]
    refine m_best.of (T_best_0 (rq_refuses (d := d2) a b (fun m' g e41 e42 A => ?_)))
    rw [if_neg h0, if_neg (by decide)]
    exact ⟨Or.inr ⟨1, 2, by simp, rfl, rfl⟩, gb, (IV.aud a b B' C' e585 A' ((g.trans (eF.i m' _ (Or.inl rfl))).trans (eF.i _ _ (Or.inr (Or.inl rfl)))) e41 e42 rfl ((A.i _ (by decide)).i _ (by decide))).z (Nat.le_succ _), Nat.le_refl _, by decide⟩
  rw [if_pos h0]
  obtain ⟨i, hi⟩ := aud_place h1 h0 hrc
  have hST := fnd_some hi
  have hil := (List.getElem?_eq_some_iff.mp hST).1
  -- what the audit noted of this state
  obtain ⟨r0, r1, hPP, z0, ee⟩ := aud_zero h0
  have hS : okS (aOut R P T1).2.1 := by
    rw [ee]
    exact (audK_ok (R := R) (r0 := r0) (r1 := r1) h1 60).1
  have h60 := hS.1
  have note : ∃ dd, (aOut R P T1).2.2[i]? = some dd ∧ ((aEn L' ∧ dd.2.1 = 0) ∨ (¬ aEn L' ∧ dd.2.1 ≠ 0)) := by
    rw [ee] at hST ⊢
    obtain ⟨_, _, v0, dt, _⟩ := audK_at h1 z0 hST
    obtain ⟨Lv, w1, w2⟩ := visS_zero v0
    have hs : lsame L' Lv := mdl_same hR.1.fl.1 C'.2.2.1 (vw_get w1).1
    refine ⟨_, dt, ?_⟩
    rcases w2 with ⟨w3, w4⟩ | ⟨w3, _, _, w5, w4⟩
    · left
      rw [w4]
      exact ⟨(hs _).mpr w3, rfl⟩
    · right
      rw [w4]
      exact ⟨fun z => w3 ((hs _).mp z), Nat.ne_of_gt w5⟩
  obtain ⟨dd, hd, hend⟩ := note
  have sn := C'.2.2.2.2.1
  -- the reference's first steps
  have start : ∀ (o : Outcome) (sz' dd' : Nat), (∀ m', eF m m' → m'.1 41 = 1 → m'.1 42 = (aOut R P T1).1 → AR R P T1 m' → (aOut R P T1).2.2.length = (aOut R P T1).2.1.length → (if (m'.2.1 48 i) = 0 then (m_fail (d2 + 11) (3 : Int32) (mI (mI m' 0 0) 24 (0 : Int32)) (fun r9 s11 => oR [(2, 1), (1, 2), (4, 3)] o r9 s11 ∧ gB C G G' ∧ IV K C s' G' sz' s11 ∧ sz' ≤ sz + 1 ∧ dd' ≤ 6)) else (∃ k9 : Nat, nI i = nI k9 ∧ k9 < 61 ∧ (h_best_57 (d2 + 11) (nI i) (m'.2.1 46 k9) (mI (mI m' 0 0) 24 (0 : Int32)) (fun r2 m' => oR [(2, 1), (1, 2), (4, 3)] o r2 m' ∧ gB C G G' ∧ IV K C s' G' sz' m' ∧ sz' ≤ sz + 1 ∧ dd' ≤ 6))))) → m_best (d2 + 12) m (fun r2 m' => oR [(2, 1), (1, 2), (4, 3)] o r2 m' ∧ gB C G G' ∧ IV K C s' G' sz' m' ∧ sz' ≤ sz + 1 ∧ dd' ≤ 6) := by
    intro o sz' dd' hq
    refine m_best.of (T_best_0 (rq_refuses (d := d2) a b (fun m' g e41 e42 A => ?_)))
    rw [if_pos h0, if_pos (by decide)]
    obtain ⟨st, _, wr, vo, nv⟩ := A.2 h0
    rw [show m'.1 30 = nI T.length from (g.1 30 (by decide)).trans hR.2.1.2]
    refine rq_find_now (S := (aOut R P T1).2.1) (T := T) (st.fr rfl rfl rfl) hS (hR.2.1.1.fr (show (mI (mI m' 0 0) 24 0).2.2 29 = m.2.2 29 from g.2.2 29 (by decide))) ho.2 ho.1.2 ?_
    rw [hi]
    have hlen : (aOut R P T1).2.2.length = (aOut R P T1).2.1.length := by
      have := congrArg Int32.toNatClampNeg (wr.1.symm.trans A.1)
      rw [nI_clamp (by have := wr.2.1; omega), nI_clamp (by omega)] at this
      exact this
    exact ⟨i, rfl, by omega, hq m' g e41 e42 A hlen⟩
  have inv : ∀ m', eF m m' → m'.1 41 = 1 → m'.1 42 = (aOut R P T1).1 → AR R P T1 m' → IV K C s' G' sz (mI (mI m' 0 0) 24 0) := fun m' g e41 e42 A => IV.aud a b B' C' e585 A' ((g.trans (eF.i m' _ (Or.inl rfl))).trans (eF.i _ _ (Or.inr (Or.inl rfl)))) e41 e42 rfl ((A.i _ (by decide)).i _ (by decide))
  rcases hend with ⟨hen, hd0⟩ | ⟨hen, hd0⟩
  · rw [sn.2.2.1 hen, if_neg (by decide : ¬ (1 : Int32) = 0)]
    refine start _ _ _ (fun m' g e41 e42 A hlen => ?_)
    obtain ⟨st, _, wr, vo, nv⟩ := A.2 h0
    rw [(wr.2.2.2 i dd hd).1, hd0, if_pos (show nI 0 = (0 : Int32) from rfl)]
    exact m_fail.of (T_fail_0 ⟨Or.inr ⟨4, 3, by simp, rfl, rfl⟩, gb, ((inv m' g e41 e42 A).r0 3).z (Nat.le_succ _), Nat.le_refl _, by decide⟩)
  · rw [sn.2.2.2 hen, if_pos rfl]
    obtain ⟨cst, vo1, nv1, wo⟩ := A'.2.2 h0
    -- the reference, once the first move is known
    have fin : ∀ k t, dd.2.2[k]? = some t → s'.2.1 32 t = s'.2.1 32 i → (∀ (j t' : Nat), j < k → dd.2.2[j]? = some t' → s'.2.1 32 t' ≠ s'.2.1 32 i) → m_best (d2 + 12) m (fun r2 m' => oR [(2, 1), (1, 2), (4, 3)] (.returned (some (.int (nI (mvc dd.2.1 k))))) r2 m' ∧ gB C G G' ∧ IV K C s' G' sz m' ∧ sz ≤ sz + 1 ∧ 0 ≤ 6) := by
      intro k t ht hv hfirst
      refine start _ _ _ (fun m' g e41 e42 A hlen => ?_)
      obtain ⟨st, _, wr, vo, nv⟩ := A.2 h0
      have wd := wr.2.2.1 dd (List.mem_of_getElem? hd)
      have same : ∀ t, t < (aOut R P T1).2.2.length → s'.2.1 32 t = m'.2.1 49 t := fun t h => (val_same vo1 vo nv1 nv h).2
      rw [(wr.2.2.2 i dd hd).1, if_neg (nI_ne0 (Nat.pos_of_ne_zero hd0) (by omega))]
      refine ⟨i, rfl, by omega, ?_⟩
      rw [(wr.2.2.2 i dd hd).2.1]
      have b0 := rs_best57 (d := d2 + 11) (i := i) (D := (aOut R P T1).2.2) (dd := dd) (m := mI (mI m' 0 0) 24 0) (Q := fun r2 m' => oR [(2, 1), (1, 2), (4, 3)] (.returned (some (.int (nI (mvc dd.2.1 k))))) r2 m' ∧ gB C G G' ∧ IV K C s' G' sz m' ∧ sz ≤ sz + 1 ∧ 0 ≤ 6) wr hd hd0 (k0 := k) ⟨t, ht, ?_⟩ (fun j t' hj ht' => ?_) ⟨Or.inl ⟨rfl, rfl⟩, gb, inv m' g e41 e42 A, Nat.le_succ _, Nat.zero_le _⟩ k 0 (by omega)
      · exact b0
      · show m'.2.1 49 t = m'.2.1 49 i
        rw [← same t (wd.2.2.1 t (List.mem_of_getElem? ht)), ← same i (by omega)]
        exact hv
      · show m'.2.1 49 t' ≠ m'.2.1 49 i
        rw [← same t' (wd.2.2.1 t' (List.mem_of_getElem? ht')), ← same i (by omega)]
        exact hfirst j t' hj ht'
    have aok := (audK_ok (R := R) (r0 := r0) (r1 := r1) h1 60).2.2 z0
    rw [← ee] at aok
    obtain ⟨k1, k2, k3, k4, k5⟩ := aok.1 dd (List.mem_of_getElem? hd)
    have hlen : (aOut R P T1).2.2.length = (aOut R P T1).2.1.length := aok.2.2 h60
    have vi := (val_same vo1 vo1 nv1 nv1 (i := i) (by omega)).1
    obtain ⟨tb, htb, vb⟩ := vi.best hd hd0
    refine kX0_choiceAt.of (TX0_choiceAt_0 hN ?_)
    refine cq_placeOf (d := d + 14) hN cst hS A'.2.1 pos21 C'.2.2.2.2.2.2.2 ho.2 ho.1 ?_
    rw [hi]
    exact cs_choice11 (dd := dd) hN A'.2.1 h60 hil k1 (Nat.pos_of_ne_zero hd0) k2 k3 (wo i dd hd) ⟨tb, htb, (val_same vo1 vo1 nv1 nv1 (i := tb) (by have := k3 tb htb; omega)).1.uniq vb⟩ (fun k t ht hv hfirst => fin k t ht hv hfirst) (aOut R P T1).2.1.length 0 (-1) (by omega) (Or.inl ⟨rfl, fun t' _ h => by omega⟩)
