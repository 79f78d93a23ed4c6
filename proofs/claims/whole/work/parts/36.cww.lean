/-! .. and appended -/
/-- a method of the class that makes nothing: from s to s', whatever lies around it -/
def cTo (d mi o : Nat) (av : List Value) (s : cS) (G : gm_H) (v : Option Value) (s' : cS) (G' : gm_H) (C : Nat) : Prop := ∀ (N0 : Nat) (K : Nat → Nat) (sz : Nat), N0 ≤ C → gm_to N0 K ra_nm (ra_mt K) d mi (.ref (C + o) :: av) (bM C (cH C s) G) sz (.returned v, bM C (cH C s') G', sz, 0)
theorem cIA_norm {s : cS} {f g : Nat → Int32} {a b : Int32} {k l : Nat} : cI (cA (cI (cA s k f) l a) k g) l b = cI (cA s k g) l b := by
  unfold cI cA
  refine Prod.ext (funext fun j => ?_) (Prod.ext (funext fun j => ?_) rfl)
  · dsimp only
    by_cases h : j = l
    · rw [if_pos h, if_pos h]
    · rw [if_neg h, if_neg h, if_neg h]
  · dsimp only
    by_cases h : j = k
    · rw [if_pos h, if_pos h]
    · rw [if_neg h, if_neg h, if_neg h]
theorem cIA_id {s : cS} {k l : Nat} {a : Int32} (h : s.1 l = a) : s = cI (cA s k (s.2.1 k)) l a := by
  unfold cI cA
  refine Prod.ext (funext fun j => ?_) (Prod.ext (funext fun j => ?_) rfl)
  · dsimp only
    by_cases hj : j = l
    · rw [if_pos hj, hj, h]
    · rw [if_neg hj]
  · dsimp only
    by_cases hj : j = k
    · rw [if_pos hj, hj]
    · rw [if_neg hj]
theorem cw_l2 {N0 : Nat} {K : Nat → Nat} {d C : Nat} {s : cS} {G : gm_H} {sz sl : Nat} {y : Int64} (hN : N0 ≤ C) (hg : ∀ k, k < 8 → wGood (wbR y (nI k))) : ∀ (j : Nat) (f : Nat → Int32) (t : Nat), j ≤ 8 → t + wCnt y j ≤ 240 →
    gm_ev N0 K ra_nm (ra_mt K) d (some .boolean) (gm_I cX11_write) (gm_lkf (lkX11 false K)) 80 [some (.ref C), some (.long y), none, none, some (.int (nI (8 * j) + (-8 : Int32))), none] [] (bM C (cH C (cI (cA s 1 f) 1 (nI t))) G) sz sl
      (.returned (some (.int 1)), bM C (cH C (cI (cA s 1 (wApp y j f t).1) 1 (nI (wApp y j f t).2))) G, sz, sl) := by
  intro j
  induction j with
  | zero =>
    intro f t _ _
    rw [show nI (8 * 0) + (-8 : Int32) = -8 by decide +kernel]
    exact t_X11_write_80_t hN (by decide)
  | succ j ih =>
    intro f t hj ht
    rw [nI_m8 (by omega)]
    have hp : ¬ nI (8 * j) < 0 := nI_pos (by omega)
    have hbb := wbC_R (y := y) (show j < 8 by omega)
    by_cases hb : wbR y (nI j) = 0
    · rw [wCnt, if_pos hb] at ht
      rw [wApp, if_pos hb]
      exact t_X11_write_80_ft_at80 hN hp (hbb.trans hb) (ih f t (by omega) (by omega))
    · have hb2 : ¬ wbC y (nI (8 * j)) = 0 := fun q => hb (hbb.symm.trans q)
      rw [wCnt, if_neg hb] at ht
      rw [wApp, if_neg hb]
      refine t_X11_write_80_ff_at80 (k3 := t) hN hp hb2 rfl (by omega) ?_
      have h4 := ih (upd f t (wbR y (nI j))) (t + 1) (by omega) (by omega)
      rw [← nI_1] at h4
      rw [cIA_norm]
      have hn := wGood_nar (hg j (by omega))
      rw [← hbb] at hn h4
      have e : vp_nar .char ((((((y.toUInt64 >>> ((nI (8 * j)).toInt64.toUInt64 &&& Int64.toUInt64 63)).toInt64).toInt32) &&& (255 : Int32)).toUInt32 % 65536).toInt32) = wbC y (nI (8 * j)) := hn
      rw [e]
      rw [← hbb]
      exact h4
