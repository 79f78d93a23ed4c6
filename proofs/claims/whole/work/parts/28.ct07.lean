/-! typed paths through the class, by program -/
theorem t_X11_play_0_fff {N0 : Nat} {K : Nat → Nat} {d C : Nat} {s : cS} {G : gm_H} {sz sl : Nat} {p0 : Int32} {p1 : Int32} {r1 : Int32} (hN : N0 ≤ C) (t2 : gm_to N0 K ra_nm (ra_mt K) d 39 [.ref (C + 4)] (bM C (cH C s) G) sz (.returned (some (.int r1)), (bM C (cH C s) G), sz, 0)) (c3 : r1 = 0) (c4 : (s.1 341) = (2 : Int32)) (c5 : ¬ (s.1 88) = 0) : gm_ev N0 K ra_nm (ra_mt K) d (some .int) (gm_I cX11_play) (gm_lkf (lkX11 false K)) 0 [some (.ref C), some (.int p0), some (.int p1)] [] (bM C (cH C s) G) sz sl (.threw 2, (bM C (cH C s) G), sz + 1, sl + 6) := by
  refine gm_ev.aload_n i113_0 rfl ?_
  refine gm_ev.getfield (v := .ref (C + 4)) i113_1 rfl (bM_fld (j := 0) (fs := cF0 C s) rfl rfl) ?_
  refine gm_ev.callV gm_mono_run (av := []) (r := []) (ci := 3) (fs := cF4 C s) (bM_get (j := 4) rfl) i113_4 rfl rfl rfl (Nat.le_of_ble_eq_true rfl) t2 ?_
  refine gm_ev.if_ne_f i113_7 c3 ?_
  refine gm_ev.aload_n i113_10 rfl ?_
  refine gm_ev.getfield (v := .ref (C + 4)) i113_11 rfl (bM_fld (j := 0) (fs := cF0 C s) rfl rfl) ?_
  refine gm_ev.getfield (v := .ref (C + 17)) i113_14 rfl (bM_fld (j := 4) (fs := cF4 C s) rfl rfl) ?_
  refine gm_ev.getfield (v := .int (s.1 341)) i113_17 rfl (bM_fld (j := 17) (fs := cF17 C s) rfl rfl) ?_
  refine gm_ev.iconst (v := 2) i113_20 (by decide) ?_
  refine gm_ev.icmp_ne_f i113_21 c4 ?_
  refine gm_ev.aload_n i113_24 rfl ?_
  refine gm_ev.getfield (v := .ref (C + 4)) i113_25 rfl (bM_fld (j := 0) (fs := cF0 C s) rfl rfl) ?_
  refine gm_ev.getfield (v := .int (s.1 88)) i113_28 rfl (bM_fld (j := 4) (fs := cF4 C s) rfl rfl) ?_
  refine gm_ev.if_eq_f i113_31 c5 ?_
  exact gm_ev.throw i113_34 rfl (by decide +kernel)
theorem t_X11_restart_0_t {N0 : Nat} {K : Nat → Nat} {d C : Nat} {s : cS} {G : gm_H} {sz sl : Nat} {r1 : Int32} {s5 : cS} (hN : N0 ≤ C) (t2 : gm_to N0 K ra_nm (ra_mt K) d 39 [.ref (C + 4)] (bM C (cH C s) G) sz (.returned (some (.int r1)), (bM C (cH C s) G), sz, 0)) (c3 : r1 = 0) (t4 : gm_to N0 K ra_nm (ra_mt K) d 43 [.ref (C + 4)] (bM C (cH C s) G) sz (.returned none, (bM C (cH C s5) G), sz, 0)) : gm_ev N0 K ra_nm (ra_mt K) d (some .boolean) (gm_I cX11_restart) (gm_lkf (lkX11 false K)) 0 [some (.ref C)] [] (bM C (cH C s) G) sz sl (.returned (some (.int (1 : Int32))), (bM C (cH C s5) G), sz, sl) := by
  refine gm_ev.aload_n i114_0 rfl ?_
  refine gm_ev.getfield (v := .ref (C + 4)) i114_1 rfl (bM_fld (j := 0) (fs := cF0 C s) rfl rfl) ?_
  refine gm_ev.callV gm_mono_run (av := []) (r := []) (ci := 3) (fs := cF4 C s) (bM_get (j := 4) rfl) i114_4 rfl rfl rfl (Nat.le_of_ble_eq_true rfl) t2 ?_
  refine gm_ev.if_eq_t (tgt := 12) i114_7 (by decide) c3 ?_
  refine gm_ev.aload_n i114_12 rfl ?_
  refine gm_ev.getfield (v := .ref (C + 4)) i114_13 rfl (bM_fld (j := 0) (fs := cF0 C s) rfl rfl) ?_
  refine gm_ev.callV gm_mono_run (av := []) (r := []) (ci := 3) (fs := cF4 C s) (bM_get (j := 4) rfl) i114_16 rfl rfl rfl (Nat.le_of_ble_eq_true rfl) t4 ?_
  refine gm_ev.iconst (v := 1) i114_19 (by decide) ?_
  exact gm_ev.zret i114_20 rfl (by decide)
theorem t_X11_restart_0_f {N0 : Nat} {K : Nat → Nat} {d C : Nat} {s : cS} {G : gm_H} {sz sl : Nat} {r1 : Int32} (hN : N0 ≤ C) (t2 : gm_to N0 K ra_nm (ra_mt K) d 39 [.ref (C + 4)] (bM C (cH C s) G) sz (.returned (some (.int r1)), (bM C (cH C s) G), sz, 0)) (c3 : ¬ r1 = 0) : gm_ev N0 K ra_nm (ra_mt K) d (some .boolean) (gm_I cX11_restart) (gm_lkf (lkX11 false K)) 0 [some (.ref C)] [] (bM C (cH C s) G) sz sl (.returned (some (.int (0 : Int32))), (bM C (cH C s) G), sz, sl) := by
  refine gm_ev.aload_n i114_0 rfl ?_
  refine gm_ev.getfield (v := .ref (C + 4)) i114_1 rfl (bM_fld (j := 0) (fs := cF0 C s) rfl rfl) ?_
  refine gm_ev.callV gm_mono_run (av := []) (r := []) (ci := 3) (fs := cF4 C s) (bM_get (j := 4) rfl) i114_4 rfl rfl rfl (Nat.le_of_ble_eq_true rfl) t2 ?_
  refine gm_ev.if_eq_f i114_7 c3 ?_
  refine gm_ev.iconst (v := 0) i114_10 (by decide) ?_
  exact gm_ev.zret i114_11 rfl (by decide)
theorem t_X11_audit_0_t {N0 : Nat} {K : Nat → Nat} {d C : Nat} {s : cS} {G : gm_H} {sz sl : Nat} {r1 : Int32} {r4 : Int32} {s6 : cS} {G7 : gm_H} (hN : N0 ≤ C) (t2 : gm_to N0 K ra_nm (ra_mt K) d 39 [.ref (C + 4)] (bM C (cH C s) G) sz (.returned (some (.int r1)), (bM C (cH C s) G), sz, 0)) (c3 : r1 = 0) (t5 : gm_to N0 K ra_nm (ra_mt K) d 12 [.ref (C + 29), .ref (C + 4)] (bM C (cH C s) G) sz (.returned (some (.int r4)), (bM C (cH C s6) G7), sz, 0)) : gm_ev N0 K ra_nm (ra_mt K) d (some .int) (gm_I cX11_audit) (gm_lkf (lkX11 false K)) 0 [some (.ref C)] [] (bM C (cH C s) G) sz sl (.returned (some (.int r4)), (bM C (cH C s6) G7), sz, sl) := by
  refine gm_ev.aload_n i115_0 rfl ?_
  refine gm_ev.getfield (v := .ref (C + 4)) i115_1 rfl (bM_fld (j := 0) (fs := cF0 C s) rfl rfl) ?_
  refine gm_ev.callV gm_mono_run (av := []) (r := []) (ci := 3) (fs := cF4 C s) (bM_get (j := 4) rfl) i115_4 rfl rfl rfl (Nat.le_of_ble_eq_true rfl) t2 ?_
  refine gm_ev.if_eq_t (tgt := 18) i115_7 (by decide) c3 ?_
  refine gm_ev.aload_n i115_18 rfl ?_
  refine gm_ev.getfield (v := .ref (C + 29)) i115_19 rfl (bM_fld (j := 0) (fs := cF0 C s) rfl rfl) ?_
  refine gm_ev.aload_n i115_22 rfl ?_
  refine gm_ev.getfield (v := .ref (C + 4)) i115_23 rfl (bM_fld (j := 0) (fs := cF0 C s) rfl rfl) ?_
  refine gm_ev.callV gm_mono_run (av := [.ref (C + 4)]) (r := []) (ci := 0) (fs := cF29 C s) (bM_get (j := 29) rfl) i115_26 rfl rfl rfl (Nat.le_of_ble_eq_true rfl) t5 ?_
  exact gm_ev.iret i115_29 rfl
theorem t_X11_audit_0_f {N0 : Nat} {K : Nat → Nat} {d C : Nat} {s : cS} {G : gm_H} {sz sl : Nat} {r1 : Int32} (hN : N0 ≤ C) (t2 : gm_to N0 K ra_nm (ra_mt K) d 39 [.ref (C + 4)] (bM C (cH C s) G) sz (.returned (some (.int r1)), (bM C (cH C s) G), sz, 0)) (c3 : ¬ r1 = 0) : gm_ev N0 K ra_nm (ra_mt K) d (some .int) (gm_I cX11_audit) (gm_lkf (lkX11 false K)) 0 [some (.ref C)] [] (bM C (cH C s) G) sz sl (.threw 2, (bM C (cH C s) G), sz + 1, sl + 6) := by
  refine gm_ev.aload_n i115_0 rfl ?_
  refine gm_ev.getfield (v := .ref (C + 4)) i115_1 rfl (bM_fld (j := 0) (fs := cF0 C s) rfl rfl) ?_
  refine gm_ev.callV gm_mono_run (av := []) (r := []) (ci := 3) (fs := cF4 C s) (bM_get (j := 4) rfl) i115_4 rfl rfl rfl (Nat.le_of_ble_eq_true rfl) t2 ?_
  refine gm_ev.if_eq_f i115_7 c3 ?_
  exact gm_ev.throw i115_10 rfl (by decide +kernel)
theorem t_X11_worth_0_tt {N0 : Nat} {K : Nat → Nat} {d C : Nat} {s : cS} {G : gm_H} {sz sl : Nat} {r1 : Int32} {r4 : Int32} {s6 : cS} {G7 : gm_H} {r9 : Int32} (hN : N0 ≤ C) (t2 : gm_to N0 K ra_nm (ra_mt K) d 39 [.ref (C + 4)] (bM C (cH C s) G) sz (.returned (some (.int r1)), (bM C (cH C s) G), sz, 0)) (c3 : r1 = 0) (t5 : gm_to N0 K ra_nm (ra_mt K) d 12 [.ref (C + 29), .ref (C + 4)] (bM C (cH C s) G) sz (.returned (some (.int r4)), (bM C (cH C s6) G7), sz, 0)) (c8 : r4 = 0) (t10 : gm_to N0 K ra_nm (ra_mt K) d 18 [.ref (C + 29), .ref (C + 21)] (bM C (cH C s6) G7) sz (.returned (some (.int r9)), (bM C (cH C s6) G7), sz, 0)) : gm_ev N0 K ra_nm (ra_mt K) d (some .int) (gm_I cX11_worth) (gm_lkf (lkX11 false K)) 0 [some (.ref C)] [] (bM C (cH C s) G) sz sl (.returned (some (.int r9)), (bM C (cH C s6) G7), sz, sl) := by
  refine gm_ev.aload_n i116_0 rfl ?_
  refine gm_ev.getfield (v := .ref (C + 4)) i116_1 rfl (bM_fld (j := 0) (fs := cF0 C s) rfl rfl) ?_
  refine gm_ev.callV gm_mono_run (av := []) (r := []) (ci := 3) (fs := cF4 C s) (bM_get (j := 4) rfl) i116_4 rfl rfl rfl (Nat.le_of_ble_eq_true rfl) t2 ?_
  refine gm_ev.if_eq_t (tgt := 18) i116_7 (by decide) c3 ?_
  refine gm_ev.aload_n i116_18 rfl ?_
  refine gm_ev.getfield (v := .ref (C + 29)) i116_19 rfl (bM_fld (j := 0) (fs := cF0 C s) rfl rfl) ?_
  refine gm_ev.aload_n i116_22 rfl ?_
  refine gm_ev.getfield (v := .ref (C + 4)) i116_23 rfl (bM_fld (j := 0) (fs := cF0 C s) rfl rfl) ?_
  refine gm_ev.callV gm_mono_run (av := [.ref (C + 4)]) (r := []) (ci := 0) (fs := cF29 C s) (bM_get (j := 29) rfl) i116_26 rfl rfl rfl (Nat.le_of_ble_eq_true rfl) t5 ?_
  refine gm_ev.if_eq_t (tgt := 40) i116_29 (by decide) c8 ?_
  refine gm_ev.aload_n i116_40 rfl ?_
  refine gm_ev.getfield (v := .ref (C + 29)) i116_41 rfl (bM_fld (j := 0) (fs := cF0 C s6) rfl rfl) ?_
  refine gm_ev.aload_n i116_44 rfl ?_
  refine gm_ev.getfield (v := .ref (C + 4)) i116_45 rfl (bM_fld (j := 0) (fs := cF0 C s6) rfl rfl) ?_
  refine gm_ev.getfield (v := .ref (C + 21)) i116_48 rfl (bM_fld (j := 4) (fs := cF4 C s6) rfl rfl) ?_
  refine gm_ev.callV gm_mono_run (av := [.ref (C + 21)]) (r := []) (ci := 0) (fs := cF29 C s6) (bM_get (j := 29) rfl) i116_51 rfl rfl rfl (Nat.le_of_ble_eq_true rfl) t10 ?_
  exact gm_ev.iret i116_54 rfl
theorem t_X11_worth_0_tf {N0 : Nat} {K : Nat → Nat} {d C : Nat} {s : cS} {G : gm_H} {sz sl : Nat} {r1 : Int32} {r4 : Int32} {s6 : cS} {G7 : gm_H} (hN : N0 ≤ C) (t2 : gm_to N0 K ra_nm (ra_mt K) d 39 [.ref (C + 4)] (bM C (cH C s) G) sz (.returned (some (.int r1)), (bM C (cH C s) G), sz, 0)) (c3 : r1 = 0) (t5 : gm_to N0 K ra_nm (ra_mt K) d 12 [.ref (C + 29), .ref (C + 4)] (bM C (cH C s) G) sz (.returned (some (.int r4)), (bM C (cH C s6) G7), sz, 0)) (c8 : ¬ r4 = 0) : gm_ev N0 K ra_nm (ra_mt K) d (some .int) (gm_I cX11_worth) (gm_lkf (lkX11 false K)) 0 [some (.ref C)] [] (bM C (cH C s) G) sz sl (.threw 1, (bM C (cH C s6) G7), sz + 1, sl + 6) := by
  refine gm_ev.aload_n i116_0 rfl ?_
  refine gm_ev.getfield (v := .ref (C + 4)) i116_1 rfl (bM_fld (j := 0) (fs := cF0 C s) rfl rfl) ?_
  refine gm_ev.callV gm_mono_run (av := []) (r := []) (ci := 3) (fs := cF4 C s) (bM_get (j := 4) rfl) i116_4 rfl rfl rfl (Nat.le_of_ble_eq_true rfl) t2 ?_
  refine gm_ev.if_eq_t (tgt := 18) i116_7 (by decide) c3 ?_
  refine gm_ev.aload_n i116_18 rfl ?_
  refine gm_ev.getfield (v := .ref (C + 29)) i116_19 rfl (bM_fld (j := 0) (fs := cF0 C s) rfl rfl) ?_
  refine gm_ev.aload_n i116_22 rfl ?_
  refine gm_ev.getfield (v := .ref (C + 4)) i116_23 rfl (bM_fld (j := 0) (fs := cF0 C s) rfl rfl) ?_
  refine gm_ev.callV gm_mono_run (av := [.ref (C + 4)]) (r := []) (ci := 0) (fs := cF29 C s) (bM_get (j := 29) rfl) i116_26 rfl rfl rfl (Nat.le_of_ble_eq_true rfl) t5 ?_
  refine gm_ev.if_eq_f i116_29 c8 ?_
  exact gm_ev.throw i116_32 rfl (by decide +kernel)
theorem t_X11_worth_0_f {N0 : Nat} {K : Nat → Nat} {d C : Nat} {s : cS} {G : gm_H} {sz sl : Nat} {r1 : Int32} (hN : N0 ≤ C) (t2 : gm_to N0 K ra_nm (ra_mt K) d 39 [.ref (C + 4)] (bM C (cH C s) G) sz (.returned (some (.int r1)), (bM C (cH C s) G), sz, 0)) (c3 : ¬ r1 = 0) : gm_ev N0 K ra_nm (ra_mt K) d (some .int) (gm_I cX11_worth) (gm_lkf (lkX11 false K)) 0 [some (.ref C)] [] (bM C (cH C s) G) sz sl (.threw 2, (bM C (cH C s) G), sz + 1, sl + 6) := by
  refine gm_ev.aload_n i116_0 rfl ?_
  refine gm_ev.getfield (v := .ref (C + 4)) i116_1 rfl (bM_fld (j := 0) (fs := cF0 C s) rfl rfl) ?_
  refine gm_ev.callV gm_mono_run (av := []) (r := []) (ci := 3) (fs := cF4 C s) (bM_get (j := 4) rfl) i116_4 rfl rfl rfl (Nat.le_of_ble_eq_true rfl) t2 ?_
  refine gm_ev.if_eq_f i116_7 c3 ?_
  exact gm_ev.throw i116_10 rfl (by decide +kernel)
theorem t_X11_best_0_ttt {N0 : Nat} {K : Nat → Nat} {d C : Nat} {s : cS} {G : gm_H} {sz sl : Nat} {r1 : Int32} {r4 : Int32} {s6 : cS} {G7 : gm_H} {r10 : Int32} (hN : N0 ≤ C) (t2 : gm_to N0 K ra_nm (ra_mt K) d 39 [.ref (C + 4)] (bM C (cH C s) G) sz (.returned (some (.int r1)), (bM C (cH C s) G), sz, 0)) (c3 : r1 = 0) (t5 : gm_to N0 K ra_nm (ra_mt K) d 12 [.ref (C + 29), .ref (C + 4)] (bM C (cH C s) G) sz (.returned (some (.int r4)), (bM C (cH C s6) G7), sz, 0)) (c8 : r4 = 0) (c9 : (s6.1 88) = 0) (t11 : gm_to N0 K ra_nm (ra_mt K) d 19 [.ref (C + 29), .ref (C + 21)] (bM C (cH C s6) G7) sz (.returned (some (.int r10)), (bM C (cH C s6) G7), sz, 0)) : gm_ev N0 K ra_nm (ra_mt K) d (some .int) (gm_I cX11_best) (gm_lkf (lkX11 false K)) 0 [some (.ref C)] [] (bM C (cH C s) G) sz sl (.returned (some (.int r10)), (bM C (cH C s6) G7), sz, sl) := by
  refine gm_ev.aload_n i117_0 rfl ?_
  refine gm_ev.getfield (v := .ref (C + 4)) i117_1 rfl (bM_fld (j := 0) (fs := cF0 C s) rfl rfl) ?_
  refine gm_ev.callV gm_mono_run (av := []) (r := []) (ci := 3) (fs := cF4 C s) (bM_get (j := 4) rfl) i117_4 rfl rfl rfl (Nat.le_of_ble_eq_true rfl) t2 ?_
  refine gm_ev.if_eq_t (tgt := 18) i117_7 (by decide) c3 ?_
  refine gm_ev.aload_n i117_18 rfl ?_
  refine gm_ev.getfield (v := .ref (C + 29)) i117_19 rfl (bM_fld (j := 0) (fs := cF0 C s) rfl rfl) ?_
  refine gm_ev.aload_n i117_22 rfl ?_
  refine gm_ev.getfield (v := .ref (C + 4)) i117_23 rfl (bM_fld (j := 0) (fs := cF0 C s) rfl rfl) ?_
  refine gm_ev.callV gm_mono_run (av := [.ref (C + 4)]) (r := []) (ci := 0) (fs := cF29 C s) (bM_get (j := 29) rfl) i117_26 rfl rfl rfl (Nat.le_of_ble_eq_true rfl) t5 ?_
  refine gm_ev.if_eq_t (tgt := 40) i117_29 (by decide) c8 ?_
  refine gm_ev.aload_n i117_40 rfl ?_
  refine gm_ev.getfield (v := .ref (C + 4)) i117_41 rfl (bM_fld (j := 0) (fs := cF0 C s6) rfl rfl) ?_
  refine gm_ev.getfield (v := .int (s6.1 88)) i117_44 rfl (bM_fld (j := 4) (fs := cF4 C s6) rfl rfl) ?_
  refine gm_ev.if_eq_t (tgt := 58) i117_47 (by decide) c9 ?_
  refine gm_ev.aload_n i117_58 rfl ?_
  refine gm_ev.getfield (v := .ref (C + 29)) i117_59 rfl (bM_fld (j := 0) (fs := cF0 C s6) rfl rfl) ?_
  refine gm_ev.aload_n i117_62 rfl ?_
  refine gm_ev.getfield (v := .ref (C + 4)) i117_63 rfl (bM_fld (j := 0) (fs := cF0 C s6) rfl rfl) ?_
  refine gm_ev.getfield (v := .ref (C + 21)) i117_66 rfl (bM_fld (j := 4) (fs := cF4 C s6) rfl rfl) ?_
  refine gm_ev.callV gm_mono_run (av := [.ref (C + 21)]) (r := []) (ci := 0) (fs := cF29 C s6) (bM_get (j := 29) rfl) i117_69 rfl rfl rfl (Nat.le_of_ble_eq_true rfl) t11 ?_
  exact gm_ev.iret i117_72 rfl
theorem t_X11_best_0_ttf {N0 : Nat} {K : Nat → Nat} {d C : Nat} {s : cS} {G : gm_H} {sz sl : Nat} {r1 : Int32} {r4 : Int32} {s6 : cS} {G7 : gm_H} (hN : N0 ≤ C) (t2 : gm_to N0 K ra_nm (ra_mt K) d 39 [.ref (C + 4)] (bM C (cH C s) G) sz (.returned (some (.int r1)), (bM C (cH C s) G), sz, 0)) (c3 : r1 = 0) (t5 : gm_to N0 K ra_nm (ra_mt K) d 12 [.ref (C + 29), .ref (C + 4)] (bM C (cH C s) G) sz (.returned (some (.int r4)), (bM C (cH C s6) G7), sz, 0)) (c8 : r4 = 0) (c9 : ¬ (s6.1 88) = 0) : gm_ev N0 K ra_nm (ra_mt K) d (some .int) (gm_I cX11_best) (gm_lkf (lkX11 false K)) 0 [some (.ref C)] [] (bM C (cH C s) G) sz sl (.threw 4, (bM C (cH C s6) G7), sz + 1, sl + 6) := by
  refine gm_ev.aload_n i117_0 rfl ?_
  refine gm_ev.getfield (v := .ref (C + 4)) i117_1 rfl (bM_fld (j := 0) (fs := cF0 C s) rfl rfl) ?_
  refine gm_ev.callV gm_mono_run (av := []) (r := []) (ci := 3) (fs := cF4 C s) (bM_get (j := 4) rfl) i117_4 rfl rfl rfl (Nat.le_of_ble_eq_true rfl) t2 ?_
  refine gm_ev.if_eq_t (tgt := 18) i117_7 (by decide) c3 ?_
  refine gm_ev.aload_n i117_18 rfl ?_
  refine gm_ev.getfield (v := .ref (C + 29)) i117_19 rfl (bM_fld (j := 0) (fs := cF0 C s) rfl rfl) ?_
  refine gm_ev.aload_n i117_22 rfl ?_
  refine gm_ev.getfield (v := .ref (C + 4)) i117_23 rfl (bM_fld (j := 0) (fs := cF0 C s) rfl rfl) ?_
  refine gm_ev.callV gm_mono_run (av := [.ref (C + 4)]) (r := []) (ci := 0) (fs := cF29 C s) (bM_get (j := 29) rfl) i117_26 rfl rfl rfl (Nat.le_of_ble_eq_true rfl) t5 ?_
  refine gm_ev.if_eq_t (tgt := 40) i117_29 (by decide) c8 ?_
  refine gm_ev.aload_n i117_40 rfl ?_
  refine gm_ev.getfield (v := .ref (C + 4)) i117_41 rfl (bM_fld (j := 0) (fs := cF0 C s6) rfl rfl) ?_
  refine gm_ev.getfield (v := .int (s6.1 88)) i117_44 rfl (bM_fld (j := 4) (fs := cF4 C s6) rfl rfl) ?_
  refine gm_ev.if_eq_f i117_47 c9 ?_
  exact gm_ev.throw i117_50 rfl (by decide +kernel)
theorem t_X11_best_0_tf {N0 : Nat} {K : Nat → Nat} {d C : Nat} {s : cS} {G : gm_H} {sz sl : Nat} {r1 : Int32} {r4 : Int32} {s6 : cS} {G7 : gm_H} (hN : N0 ≤ C) (t2 : gm_to N0 K ra_nm (ra_mt K) d 39 [.ref (C + 4)] (bM C (cH C s) G) sz (.returned (some (.int r1)), (bM C (cH C s) G), sz, 0)) (c3 : r1 = 0) (t5 : gm_to N0 K ra_nm (ra_mt K) d 12 [.ref (C + 29), .ref (C + 4)] (bM C (cH C s) G) sz (.returned (some (.int r4)), (bM C (cH C s6) G7), sz, 0)) (c8 : ¬ r4 = 0) : gm_ev N0 K ra_nm (ra_mt K) d (some .int) (gm_I cX11_best) (gm_lkf (lkX11 false K)) 0 [some (.ref C)] [] (bM C (cH C s) G) sz sl (.threw 1, (bM C (cH C s6) G7), sz + 1, sl + 6) := by
  refine gm_ev.aload_n i117_0 rfl ?_
  refine gm_ev.getfield (v := .ref (C + 4)) i117_1 rfl (bM_fld (j := 0) (fs := cF0 C s) rfl rfl) ?_
  refine gm_ev.callV gm_mono_run (av := []) (r := []) (ci := 3) (fs := cF4 C s) (bM_get (j := 4) rfl) i117_4 rfl rfl rfl (Nat.le_of_ble_eq_true rfl) t2 ?_
  refine gm_ev.if_eq_t (tgt := 18) i117_7 (by decide) c3 ?_
  refine gm_ev.aload_n i117_18 rfl ?_
  refine gm_ev.getfield (v := .ref (C + 29)) i117_19 rfl (bM_fld (j := 0) (fs := cF0 C s) rfl rfl) ?_
  refine gm_ev.aload_n i117_22 rfl ?_
  refine gm_ev.getfield (v := .ref (C + 4)) i117_23 rfl (bM_fld (j := 0) (fs := cF0 C s) rfl rfl) ?_
  refine gm_ev.callV gm_mono_run (av := [.ref (C + 4)]) (r := []) (ci := 0) (fs := cF29 C s) (bM_get (j := 29) rfl) i117_26 rfl rfl rfl (Nat.le_of_ble_eq_true rfl) t5 ?_
  refine gm_ev.if_eq_f i117_29 c8 ?_
  exact gm_ev.throw i117_32 rfl (by decide +kernel)
theorem t_X11_best_0_f {N0 : Nat} {K : Nat → Nat} {d C : Nat} {s : cS} {G : gm_H} {sz sl : Nat} {r1 : Int32} (hN : N0 ≤ C) (t2 : gm_to N0 K ra_nm (ra_mt K) d 39 [.ref (C + 4)] (bM C (cH C s) G) sz (.returned (some (.int r1)), (bM C (cH C s) G), sz, 0)) (c3 : ¬ r1 = 0) : gm_ev N0 K ra_nm (ra_mt K) d (some .int) (gm_I cX11_best) (gm_lkf (lkX11 false K)) 0 [some (.ref C)] [] (bM C (cH C s) G) sz sl (.threw 2, (bM C (cH C s) G), sz + 1, sl + 6) := by
  refine gm_ev.aload_n i117_0 rfl ?_
  refine gm_ev.getfield (v := .ref (C + 4)) i117_1 rfl (bM_fld (j := 0) (fs := cF0 C s) rfl rfl) ?_
  refine gm_ev.callV gm_mono_run (av := []) (r := []) (ci := 3) (fs := cF4 C s) (bM_get (j := 4) rfl) i117_4 rfl rfl rfl (Nat.le_of_ble_eq_true rfl) t2 ?_
  refine gm_ev.if_eq_f i117_7 c3 ?_
  exact gm_ev.throw i117_10 rfl (by decide +kernel)
