/-! typed paths through the class, by program -/
theorem t_X0_forget_0_ {N0 : Nat} {K : Nat → Nat} {d C : Nat} {s : cS} {G : gm_H} {sz sl : Nat}  (hN : N0 ≤ C)  : gm_ev N0 K ra_nm (ra_mt K) d none (gm_I cX0_forget) (gm_lkf (lkX0 false K)) 0 [some (.ref (C + 29))] [] (bM C (cH C s) G) sz sl (.returned none, (bM C (cH C (cI (cI s 585 (0 : Int32)) 584 (0 : Int32))) G), sz, sl) := by
  refine gm_ev.aload_n i11_0 rfl ?_
  refine gm_ev.iconst (v := 0) i11_1 (by decide) ?_
  refine gm_ev.putfield (M' := (bM C (cH C (cI s 585 (0 : Int32))) G)) i11_2 rfl (bM_put (j := 29) (fs := cF29 C s) rfl (Nat.le_of_ble_eq_true rfl) hN (gm_fit_z (by decide)) rfl) ?_
  refine gm_ev.aload_n i11_5 rfl ?_
  refine gm_ev.iconst (v := 0) i11_6 (by decide) ?_
  refine gm_ev.putfield (M' := (bM C (cH C (cI (cI s 585 (0 : Int32)) 584 (0 : Int32))) G)) i11_7 rfl (bM_put (j := 29) (fs := cF29 C (cI s 585 (0 : Int32))) rfl (Nat.le_of_ble_eq_true rfl) hN (gm_fit_i _) rfl) ?_
  exact gm_ev.vret i11_10 rfl
theorem t_X0_run_0_tt_at65 {N0 : Nat} {K : Nat → Nat} {d C : Nat} {s : cS} {G : gm_H} {sz sl : Nat} {R : gm_R} {k2 : Nat} {fso3 : List Value} {G5 : gm_H} {s7 : cS} (hN : N0 ≤ C) (c1 : (s.1 585) = 0) (ek2 : (0 : Int32) = nI k2) (lk2 : k2 < 60) (ho3 : G (C + 34 + 2 * k2) = some (.inr (9, fso3))) (t4 : gm_to N0 K ra_nm (ra_mt K) d 97 [.ref (C + 34 + 2 * k2), .ref (C + 19)] (bM C (cH C (cI (cI s 585 (1 : Int32)) 584 (1 : Int32))) G) sz (.returned none, (bM C (cH C (cI (cI s 585 (1 : Int32)) 584 (1 : Int32))) G5), sz, 0)) (t6 : gm_to N0 K ra_nm (ra_mt K) d 192 [.ref (C + 31), .int (-1 : Int32)] (bM C (cH C (cI (cI s 585 (1 : Int32)) 584 (1 : Int32))) G5) sz (.returned none, (bM C (cH C s7) G5), sz, 0)) (c8 : ¬ (s7.1 341) = (2 : Int32)) (k : gm_ev N0 K ra_nm (ra_mt K) d (some .int) (gm_I cX0_run) (gm_lkf (lkX0 false K)) 65 [some (.ref (C + 29)), some (.ref (C + 4)), some (.int (0 : Int32)), none, none, none] [] (bM C (cH C (cI s7 586 (1 : Int32))) G5) sz sl R) : gm_ev N0 K ra_nm (ra_mt K) d (some .int) (gm_I cX0_run) (gm_lkf (lkX0 false K)) 0 [some (.ref (C + 29)), some (.ref (C + 4)), none, none, none, none] [] (bM C (cH C s) G) sz sl R := by
  refine gm_ev.aload_n i12_0 rfl ?_
  refine gm_ev.getfield (v := .int (s.1 585)) i12_1 rfl (bM_fld (j := 29) (fs := cF29 C s) rfl rfl) ?_
  refine gm_ev.if_eq_t (tgt := 12) i12_4 (by decide) c1 ?_
  refine gm_ev.aload_n i12_12 rfl ?_
  refine gm_ev.iconst (v := 1) i12_13 (by decide) ?_
  refine gm_ev.putfield (M' := (bM C (cH C (cI s 585 (1 : Int32))) G)) i12_14 rfl (bM_put (j := 29) (fs := cF29 C s) rfl (Nat.le_of_ble_eq_true rfl) hN (gm_fit_z (by decide)) rfl) ?_
  refine gm_ev.aload_n i12_17 rfl ?_
  refine gm_ev.iconst (v := 1) i12_18 (by decide) ?_
  refine gm_ev.putfield (M' := (bM C (cH C (cI (cI s 585 (1 : Int32)) 584 (1 : Int32))) G)) i12_19 rfl (bM_put (j := 29) (fs := cF29 C (cI s 585 (1 : Int32))) rfl (Nat.le_of_ble_eq_true rfl) hN (gm_fit_i _) rfl) ?_
  refine gm_ev.aload_n i12_22 rfl ?_
  refine gm_ev.getfield (v := .ref (C + 30)) i12_23 rfl (bM_fld (j := 29) (fs := cF29 C (cI (cI s 585 (1 : Int32)) 584 (1 : Int32))) rfl rfl) ?_
  refine gm_ev.iconst (v := 0) i12_26 (by decide) ?_
  refine gm_ev.aaload (x := some (C + 34 + 2 * k2)) i12_27 (gm_aq_of (n := 60) (bM_get (j := 30) rfl) ek2 lk2 (by decide) (cS_states lk2)) ?_
  refine gm_ev.aload_n i12_28 rfl ?_
  refine gm_ev.getfield (v := .ref (C + 19)) i12_29 rfl (bM_fld (j := 4) (fs := cF4 C (cI (cI s 585 (1 : Int32)) 584 (1 : Int32))) rfl rfl) ?_
  refine gm_ev.callV gm_mono_run (av := [.ref (C + 19)]) (r := []) (fs := fso3) (cG_get (by omega) ho3) i12_32 rfl rfl rfl (Nat.le_of_ble_eq_true rfl) t4 ?_
  refine gm_ev.aload_n i12_35 rfl ?_
  refine gm_ev.getfield (v := .ref (C + 31)) i12_36 rfl (bM_fld (j := 29) (fs := cF29 C (cI (cI s 585 (1 : Int32)) 584 (1 : Int32))) rfl rfl) ?_
  refine gm_ev.iconst (v := -1) i12_39 (by decide) ?_
  refine gm_ev.callS gm_mono_run (av := [.ref (C + 31), .int (-1 : Int32)]) (r := []) i12_40 rfl rfl rfl (Nat.le_of_ble_eq_true rfl) t6 ?_
  refine gm_ev.aload_n i12_43 rfl ?_
  refine gm_ev.aload_n i12_44 rfl ?_
  refine gm_ev.getfield (v := .ref (C + 17)) i12_45 rfl (bM_fld (j := 4) (fs := cF4 C s7) rfl rfl) ?_
  refine gm_ev.getfield (v := .int (s7.1 341)) i12_48 rfl (bM_fld (j := 17) (fs := cF17 C s7) rfl rfl) ?_
  refine gm_ev.iconst (v := 2) i12_51 (by decide) ?_
  refine gm_ev.icmp_ne_t (tgt := 59) i12_52 (by decide) c8 ?_
  refine gm_ev.iconst (v := 1) i12_59 (by decide) ?_
  refine gm_ev.putfield (M' := (bM C (cH C (cI s7 586 (1 : Int32))) G5)) i12_60 rfl (bM_put (j := 29) (fs := cF29 C s7) rfl (Nat.le_of_ble_eq_true rfl) hN (gm_fit_i _) rfl) ?_
  refine gm_ev.iconst (v := 0) i12_63 (by decide) ?_
  refine gm_ev.istore_n (ls' := [some (.ref (C + 29)), some (.ref (C + 4)), some (.int (0 : Int32)), none, none, none]) i12_64 (Nat.le_of_ble_eq_true rfl) rfl ?_
  exact k
theorem t_X0_run_0_tf_at65 {N0 : Nat} {K : Nat → Nat} {d C : Nat} {s : cS} {G : gm_H} {sz sl : Nat} {R : gm_R} {k2 : Nat} {fso3 : List Value} {G5 : gm_H} {s7 : cS} (hN : N0 ≤ C) (c1 : (s.1 585) = 0) (ek2 : (0 : Int32) = nI k2) (lk2 : k2 < 60) (ho3 : G (C + 34 + 2 * k2) = some (.inr (9, fso3))) (t4 : gm_to N0 K ra_nm (ra_mt K) d 97 [.ref (C + 34 + 2 * k2), .ref (C + 19)] (bM C (cH C (cI (cI s 585 (1 : Int32)) 584 (1 : Int32))) G) sz (.returned none, (bM C (cH C (cI (cI s 585 (1 : Int32)) 584 (1 : Int32))) G5), sz, 0)) (t6 : gm_to N0 K ra_nm (ra_mt K) d 192 [.ref (C + 31), .int (-1 : Int32)] (bM C (cH C (cI (cI s 585 (1 : Int32)) 584 (1 : Int32))) G5) sz (.returned none, (bM C (cH C s7) G5), sz, 0)) (c8 : (s7.1 341) = (2 : Int32)) (k : gm_ev N0 K ra_nm (ra_mt K) d (some .int) (gm_I cX0_run) (gm_lkf (lkX0 false K)) 65 [some (.ref (C + 29)), some (.ref (C + 4)), some (.int (0 : Int32)), none, none, none] [] (bM C (cH C (cI s7 586 (0 : Int32))) G5) sz sl R) : gm_ev N0 K ra_nm (ra_mt K) d (some .int) (gm_I cX0_run) (gm_lkf (lkX0 false K)) 0 [some (.ref (C + 29)), some (.ref (C + 4)), none, none, none, none] [] (bM C (cH C s) G) sz sl R := by
  refine gm_ev.aload_n i12_0 rfl ?_
  refine gm_ev.getfield (v := .int (s.1 585)) i12_1 rfl (bM_fld (j := 29) (fs := cF29 C s) rfl rfl) ?_
  refine gm_ev.if_eq_t (tgt := 12) i12_4 (by decide) c1 ?_
  refine gm_ev.aload_n i12_12 rfl ?_
  refine gm_ev.iconst (v := 1) i12_13 (by decide) ?_
  refine gm_ev.putfield (M' := (bM C (cH C (cI s 585 (1 : Int32))) G)) i12_14 rfl (bM_put (j := 29) (fs := cF29 C s) rfl (Nat.le_of_ble_eq_true rfl) hN (gm_fit_z (by decide)) rfl) ?_
  refine gm_ev.aload_n i12_17 rfl ?_
  refine gm_ev.iconst (v := 1) i12_18 (by decide) ?_
  refine gm_ev.putfield (M' := (bM C (cH C (cI (cI s 585 (1 : Int32)) 584 (1 : Int32))) G)) i12_19 rfl (bM_put (j := 29) (fs := cF29 C (cI s 585 (1 : Int32))) rfl (Nat.le_of_ble_eq_true rfl) hN (gm_fit_i _) rfl) ?_
  refine gm_ev.aload_n i12_22 rfl ?_
  refine gm_ev.getfield (v := .ref (C + 30)) i12_23 rfl (bM_fld (j := 29) (fs := cF29 C (cI (cI s 585 (1 : Int32)) 584 (1 : Int32))) rfl rfl) ?_
  refine gm_ev.iconst (v := 0) i12_26 (by decide) ?_
  refine gm_ev.aaload (x := some (C + 34 + 2 * k2)) i12_27 (gm_aq_of (n := 60) (bM_get (j := 30) rfl) ek2 lk2 (by decide) (cS_states lk2)) ?_
  refine gm_ev.aload_n i12_28 rfl ?_
  refine gm_ev.getfield (v := .ref (C + 19)) i12_29 rfl (bM_fld (j := 4) (fs := cF4 C (cI (cI s 585 (1 : Int32)) 584 (1 : Int32))) rfl rfl) ?_
  refine gm_ev.callV gm_mono_run (av := [.ref (C + 19)]) (r := []) (fs := fso3) (cG_get (by omega) ho3) i12_32 rfl rfl rfl (Nat.le_of_ble_eq_true rfl) t4 ?_
  refine gm_ev.aload_n i12_35 rfl ?_
  refine gm_ev.getfield (v := .ref (C + 31)) i12_36 rfl (bM_fld (j := 29) (fs := cF29 C (cI (cI s 585 (1 : Int32)) 584 (1 : Int32))) rfl rfl) ?_
  refine gm_ev.iconst (v := -1) i12_39 (by decide) ?_
  refine gm_ev.callS gm_mono_run (av := [.ref (C + 31), .int (-1 : Int32)]) (r := []) i12_40 rfl rfl rfl (Nat.le_of_ble_eq_true rfl) t6 ?_
  refine gm_ev.aload_n i12_43 rfl ?_
  refine gm_ev.aload_n i12_44 rfl ?_
  refine gm_ev.getfield (v := .ref (C + 17)) i12_45 rfl (bM_fld (j := 4) (fs := cF4 C s7) rfl rfl) ?_
  refine gm_ev.getfield (v := .int (s7.1 341)) i12_48 rfl (bM_fld (j := 17) (fs := cF17 C s7) rfl rfl) ?_
  refine gm_ev.iconst (v := 2) i12_51 (by decide) ?_
  refine gm_ev.icmp_ne_f i12_52 c8 ?_
  refine gm_ev.iconst (v := 0) i12_55 (by decide) ?_
  refine gm_ev.goto (tgt := 60) i12_56 (by decide) ?_
  refine gm_ev.putfield (M' := (bM C (cH C (cI s7 586 (0 : Int32))) G5)) i12_60 rfl (bM_put (j := 29) (fs := cF29 C s7) rfl (Nat.le_of_ble_eq_true rfl) hN (gm_fit_i _) rfl) ?_
  refine gm_ev.iconst (v := 0) i12_63 (by decide) ?_
  refine gm_ev.istore_n (ls' := [some (.ref (C + 29)), some (.ref (C + 4)), some (.int (0 : Int32)), none, none, none]) i12_64 (Nat.le_of_ble_eq_true rfl) rfl ?_
  exact k
theorem t_X0_run_0_f {N0 : Nat} {K : Nat → Nat} {d C : Nat} {s : cS} {G : gm_H} {sz sl : Nat}  (hN : N0 ≤ C) (c1 : ¬ (s.1 585) = 0) : gm_ev N0 K ra_nm (ra_mt K) d (some .int) (gm_I cX0_run) (gm_lkf (lkX0 false K)) 0 [some (.ref (C + 29)), some (.ref (C + 4)), none, none, none, none] [] (bM C (cH C s) G) sz sl (.returned (some (.int (s.1 586))), (bM C (cH C s) G), sz, sl) := by
  refine gm_ev.aload_n i12_0 rfl ?_
  refine gm_ev.getfield (v := .int (s.1 585)) i12_1 rfl (bM_fld (j := 29) (fs := cF29 C s) rfl rfl) ?_
  refine gm_ev.if_eq_f i12_4 c1 ?_
  refine gm_ev.aload_n i12_7 rfl ?_
  refine gm_ev.getfield (v := .int (s.1 586)) i12_8 rfl (bM_fld (j := 29) (fs := cF29 C s) rfl rfl) ?_
  exact gm_ev.iret i12_11 rfl
theorem t_X0_run_65_tt {N0 : Nat} {K : Nat → Nat} {d C : Nat} {s : cS} {G : gm_H} {sz sl : Nat} {u2 : Int32} {r3 : Int32} {s5 : cS} (hN : N0 ≤ C) (c1 : (s.1 584) ≤ u2) (c2 : ¬ (s.1 586) = 0) (t4 : gm_to N0 K ra_nm (ra_mt K) d 41 [.ref (C + 4), .ref (C + 21)] (bM C (cH C s) G) sz (.returned (some (.int r3)), (bM C (cH C s5) G), sz, 0)) : gm_ev N0 K ra_nm (ra_mt K) d (some .int) (gm_I cX0_run) (gm_lkf (lkX0 false K)) 65 [some (.ref (C + 29)), some (.ref (C + 4)), some (.int u2), none, none, none] [] (bM C (cH C s) G) sz sl (.returned (some (.int (s5.1 586))), (bM C (cH C s5) G), sz, sl) := by
  refine gm_ev.iload_n i12_65 rfl ?_
  refine gm_ev.aload_n i12_66 rfl ?_
  refine gm_ev.getfield (v := .int (s.1 584)) i12_67 rfl (bM_fld (j := 29) (fs := cF29 C s) rfl rfl) ?_
  refine gm_ev.icmp_ge_t (tgt := 224) i12_70 (by decide) c1 ?_
  refine gm_ev.aload_n i12_224 rfl ?_
  refine gm_ev.getfield (v := .int (s.1 586)) i12_225 rfl (bM_fld (j := 29) (fs := cF29 C s) rfl rfl) ?_
  refine gm_ev.if_ne_t (tgt := 244) i12_228 (by decide) c2 ?_
  refine gm_ev.aload_n i12_244 rfl ?_
  refine gm_ev.aload_n i12_245 rfl ?_
  refine gm_ev.getfield (v := .ref (C + 21)) i12_246 rfl (bM_fld (j := 4) (fs := cF4 C s) rfl rfl) ?_
  refine gm_ev.callV gm_mono_run (av := [.ref (C + 21)]) (r := []) (ci := 3) (fs := cF4 C s) (bM_get (j := 4) rfl) i12_249 rfl rfl rfl (Nat.le_of_ble_eq_true rfl) t4 ?_
  refine gm_ev.pop i12_252 rfl ?_
  refine gm_ev.aload_n i12_253 rfl ?_
  refine gm_ev.getfield (v := .int (s5.1 586)) i12_254 rfl (bM_fld (j := 29) (fs := cF29 C s5) rfl rfl) ?_
  exact gm_ev.iret i12_257 rfl
theorem t_X0_run_65_tft {N0 : Nat} {K : Nat → Nat} {d C : Nat} {s : cS} {G : gm_H} {sz sl : Nat} {u2 : Int32} {r3 : Int32} {s5 : cS} {r7 : Int32} {s9 : cS} (hN : N0 ≤ C) (c1 : (s.1 584) ≤ u2) (c2 : (s.1 586) = 0) (t4 : gm_to N0 K ra_nm (ra_mt K) d 16 [.ref (C + 29)] (bM C (cH C s) G) sz (.returned (some (.int r3)), (bM C (cH C s5) G), sz, 0)) (c6 : ¬ r3 = 0) (t8 : gm_to N0 K ra_nm (ra_mt K) d 41 [.ref (C + 4), .ref (C + 21)] (bM C (cH C s5) G) sz (.returned (some (.int r7)), (bM C (cH C s9) G), sz, 0)) : gm_ev N0 K ra_nm (ra_mt K) d (some .int) (gm_I cX0_run) (gm_lkf (lkX0 false K)) 65 [some (.ref (C + 29)), some (.ref (C + 4)), some (.int u2), none, none, none] [] (bM C (cH C s) G) sz sl (.returned (some (.int (s9.1 586))), (bM C (cH C s9) G), sz, sl) := by
  refine gm_ev.iload_n i12_65 rfl ?_
  refine gm_ev.aload_n i12_66 rfl ?_
  refine gm_ev.getfield (v := .int (s.1 584)) i12_67 rfl (bM_fld (j := 29) (fs := cF29 C s) rfl rfl) ?_
  refine gm_ev.icmp_ge_t (tgt := 224) i12_70 (by decide) c1 ?_
  refine gm_ev.aload_n i12_224 rfl ?_
  refine gm_ev.getfield (v := .int (s.1 586)) i12_225 rfl (bM_fld (j := 29) (fs := cF29 C s) rfl rfl) ?_
  refine gm_ev.if_ne_f i12_228 c2 ?_
  refine gm_ev.aload_n i12_231 rfl ?_
  refine gm_ev.callV gm_mono_run (av := []) (r := []) (ci := 0) (fs := cF29 C s) (bM_get (j := 29) rfl) i12_232 rfl rfl rfl (Nat.le_of_ble_eq_true rfl) t4 ?_
  refine gm_ev.if_ne_t (tgt := 244) i12_235 (by decide) c6 ?_
  refine gm_ev.aload_n i12_244 rfl ?_
  refine gm_ev.aload_n i12_245 rfl ?_
  refine gm_ev.getfield (v := .ref (C + 21)) i12_246 rfl (bM_fld (j := 4) (fs := cF4 C s5) rfl rfl) ?_
  refine gm_ev.callV gm_mono_run (av := [.ref (C + 21)]) (r := []) (ci := 3) (fs := cF4 C s5) (bM_get (j := 4) rfl) i12_249 rfl rfl rfl (Nat.le_of_ble_eq_true rfl) t8 ?_
  refine gm_ev.pop i12_252 rfl ?_
  refine gm_ev.aload_n i12_253 rfl ?_
  refine gm_ev.getfield (v := .int (s9.1 586)) i12_254 rfl (bM_fld (j := 29) (fs := cF29 C s9) rfl rfl) ?_
  exact gm_ev.iret i12_257 rfl
theorem t_X0_run_65_tff {N0 : Nat} {K : Nat → Nat} {d C : Nat} {s : cS} {G : gm_H} {sz sl : Nat} {u2 : Int32} {r3 : Int32} {s5 : cS} {r7 : Int32} {s9 : cS} (hN : N0 ≤ C) (c1 : (s.1 584) ≤ u2) (c2 : (s.1 586) = 0) (t4 : gm_to N0 K ra_nm (ra_mt K) d 16 [.ref (C + 29)] (bM C (cH C s) G) sz (.returned (some (.int r3)), (bM C (cH C s5) G), sz, 0)) (c6 : r3 = 0) (t8 : gm_to N0 K ra_nm (ra_mt K) d 41 [.ref (C + 4), .ref (C + 21)] (bM C (cH C (cI s5 586 (6 : Int32))) G) sz (.returned (some (.int r7)), (bM C (cH C s9) G), sz, 0)) : gm_ev N0 K ra_nm (ra_mt K) d (some .int) (gm_I cX0_run) (gm_lkf (lkX0 false K)) 65 [some (.ref (C + 29)), some (.ref (C + 4)), some (.int u2), none, none, none] [] (bM C (cH C s) G) sz sl (.returned (some (.int (s9.1 586))), (bM C (cH C s9) G), sz, sl) := by
  refine gm_ev.iload_n i12_65 rfl ?_
  refine gm_ev.aload_n i12_66 rfl ?_
  refine gm_ev.getfield (v := .int (s.1 584)) i12_67 rfl (bM_fld (j := 29) (fs := cF29 C s) rfl rfl) ?_
  refine gm_ev.icmp_ge_t (tgt := 224) i12_70 (by decide) c1 ?_
  refine gm_ev.aload_n i12_224 rfl ?_
  refine gm_ev.getfield (v := .int (s.1 586)) i12_225 rfl (bM_fld (j := 29) (fs := cF29 C s) rfl rfl) ?_
  refine gm_ev.if_ne_f i12_228 c2 ?_
  refine gm_ev.aload_n i12_231 rfl ?_
  refine gm_ev.callV gm_mono_run (av := []) (r := []) (ci := 0) (fs := cF29 C s) (bM_get (j := 29) rfl) i12_232 rfl rfl rfl (Nat.le_of_ble_eq_true rfl) t4 ?_
  refine gm_ev.if_ne_f i12_235 c6 ?_
  refine gm_ev.aload_n i12_238 rfl ?_
  refine gm_ev.bipush (v := 6) i12_239 (by decide) ?_
  refine gm_ev.putfield (M' := (bM C (cH C (cI s5 586 (6 : Int32))) G)) i12_241 rfl (bM_put (j := 29) (fs := cF29 C s5) rfl (Nat.le_of_ble_eq_true rfl) hN (gm_fit_i _) rfl) ?_
  refine gm_ev.aload_n i12_244 rfl ?_
  refine gm_ev.aload_n i12_245 rfl ?_
  refine gm_ev.getfield (v := .ref (C + 21)) i12_246 rfl (bM_fld (j := 4) (fs := cF4 C (cI s5 586 (6 : Int32))) rfl rfl) ?_
  refine gm_ev.callV gm_mono_run (av := [.ref (C + 21)]) (r := []) (ci := 3) (fs := cF4 C (cI s5 586 (6 : Int32))) (bM_get (j := 4) rfl) i12_249 rfl rfl rfl (Nat.le_of_ble_eq_true rfl) t8 ?_
  refine gm_ev.pop i12_252 rfl ?_
  refine gm_ev.aload_n i12_253 rfl ?_
  refine gm_ev.getfield (v := .int (s9.1 586)) i12_254 rfl (bM_fld (j := 29) (fs := cF29 C s9) rfl rfl) ?_
  exact gm_ev.iret i12_257 rfl
theorem t_X0_run_65_ftt {N0 : Nat} {K : Nat → Nat} {d C : Nat} {s : cS} {G : gm_H} {sz sl : Nat} {u2 : Int32} {r4 : Int32} {s6 : cS} (hN : N0 ≤ C) (c1 : ¬ (s.1 584) ≤ u2) (c2 : ¬ (s.1 586) = 0) (c3 : ¬ (s.1 586) = 0) (t5 : gm_to N0 K ra_nm (ra_mt K) d 41 [.ref (C + 4), .ref (C + 21)] (bM C (cH C s) G) sz (.returned (some (.int r4)), (bM C (cH C s6) G), sz, 0)) : gm_ev N0 K ra_nm (ra_mt K) d (some .int) (gm_I cX0_run) (gm_lkf (lkX0 false K)) 65 [some (.ref (C + 29)), some (.ref (C + 4)), some (.int u2), none, none, none] [] (bM C (cH C s) G) sz sl (.returned (some (.int (s6.1 586))), (bM C (cH C s6) G), sz, sl) := by
  refine gm_ev.iload_n i12_65 rfl ?_
  refine gm_ev.aload_n i12_66 rfl ?_
  refine gm_ev.getfield (v := .int (s.1 584)) i12_67 rfl (bM_fld (j := 29) (fs := cF29 C s) rfl rfl) ?_
  refine gm_ev.icmp_ge_f i12_70 c1 ?_
  refine gm_ev.aload_n i12_73 rfl ?_
  refine gm_ev.getfield (v := .int (s.1 586)) i12_74 rfl (bM_fld (j := 29) (fs := cF29 C s) rfl rfl) ?_
  refine gm_ev.if_ne_t (tgt := 224) i12_77 (by decide) c2 ?_
  refine gm_ev.aload_n i12_224 rfl ?_
  refine gm_ev.getfield (v := .int (s.1 586)) i12_225 rfl (bM_fld (j := 29) (fs := cF29 C s) rfl rfl) ?_
  refine gm_ev.if_ne_t (tgt := 244) i12_228 (by decide) c3 ?_
  refine gm_ev.aload_n i12_244 rfl ?_
  refine gm_ev.aload_n i12_245 rfl ?_
  refine gm_ev.getfield (v := .ref (C + 21)) i12_246 rfl (bM_fld (j := 4) (fs := cF4 C s) rfl rfl) ?_
  refine gm_ev.callV gm_mono_run (av := [.ref (C + 21)]) (r := []) (ci := 3) (fs := cF4 C s) (bM_get (j := 4) rfl) i12_249 rfl rfl rfl (Nat.le_of_ble_eq_true rfl) t5 ?_
  refine gm_ev.pop i12_252 rfl ?_
  refine gm_ev.aload_n i12_253 rfl ?_
  refine gm_ev.getfield (v := .int (s6.1 586)) i12_254 rfl (bM_fld (j := 29) (fs := cF29 C s6) rfl rfl) ?_
  exact gm_ev.iret i12_257 rfl
theorem t_X0_run_65_ftft {N0 : Nat} {K : Nat → Nat} {d C : Nat} {s : cS} {G : gm_H} {sz sl : Nat} {u2 : Int32} {r4 : Int32} {s6 : cS} {r8 : Int32} {s10 : cS} (hN : N0 ≤ C) (c1 : ¬ (s.1 584) ≤ u2) (c2 : ¬ (s.1 586) = 0) (c3 : (s.1 586) = 0) (t5 : gm_to N0 K ra_nm (ra_mt K) d 16 [.ref (C + 29)] (bM C (cH C s) G) sz (.returned (some (.int r4)), (bM C (cH C s6) G), sz, 0)) (c7 : ¬ r4 = 0) (t9 : gm_to N0 K ra_nm (ra_mt K) d 41 [.ref (C + 4), .ref (C + 21)] (bM C (cH C s6) G) sz (.returned (some (.int r8)), (bM C (cH C s10) G), sz, 0)) : gm_ev N0 K ra_nm (ra_mt K) d (some .int) (gm_I cX0_run) (gm_lkf (lkX0 false K)) 65 [some (.ref (C + 29)), some (.ref (C + 4)), some (.int u2), none, none, none] [] (bM C (cH C s) G) sz sl (.returned (some (.int (s10.1 586))), (bM C (cH C s10) G), sz, sl) := by
  refine gm_ev.iload_n i12_65 rfl ?_
  refine gm_ev.aload_n i12_66 rfl ?_
  refine gm_ev.getfield (v := .int (s.1 584)) i12_67 rfl (bM_fld (j := 29) (fs := cF29 C s) rfl rfl) ?_
  refine gm_ev.icmp_ge_f i12_70 c1 ?_
  refine gm_ev.aload_n i12_73 rfl ?_
  refine gm_ev.getfield (v := .int (s.1 586)) i12_74 rfl (bM_fld (j := 29) (fs := cF29 C s) rfl rfl) ?_
  refine gm_ev.if_ne_t (tgt := 224) i12_77 (by decide) c2 ?_
  refine gm_ev.aload_n i12_224 rfl ?_
  refine gm_ev.getfield (v := .int (s.1 586)) i12_225 rfl (bM_fld (j := 29) (fs := cF29 C s) rfl rfl) ?_
  refine gm_ev.if_ne_f i12_228 c3 ?_
  refine gm_ev.aload_n i12_231 rfl ?_
  refine gm_ev.callV gm_mono_run (av := []) (r := []) (ci := 0) (fs := cF29 C s) (bM_get (j := 29) rfl) i12_232 rfl rfl rfl (Nat.le_of_ble_eq_true rfl) t5 ?_
  refine gm_ev.if_ne_t (tgt := 244) i12_235 (by decide) c7 ?_
  refine gm_ev.aload_n i12_244 rfl ?_
  refine gm_ev.aload_n i12_245 rfl ?_
  refine gm_ev.getfield (v := .ref (C + 21)) i12_246 rfl (bM_fld (j := 4) (fs := cF4 C s6) rfl rfl) ?_
  refine gm_ev.callV gm_mono_run (av := [.ref (C + 21)]) (r := []) (ci := 3) (fs := cF4 C s6) (bM_get (j := 4) rfl) i12_249 rfl rfl rfl (Nat.le_of_ble_eq_true rfl) t9 ?_
  refine gm_ev.pop i12_252 rfl ?_
  refine gm_ev.aload_n i12_253 rfl ?_
  refine gm_ev.getfield (v := .int (s10.1 586)) i12_254 rfl (bM_fld (j := 29) (fs := cF29 C s10) rfl rfl) ?_
  exact gm_ev.iret i12_257 rfl
theorem t_X0_run_65_ftff {N0 : Nat} {K : Nat → Nat} {d C : Nat} {s : cS} {G : gm_H} {sz sl : Nat} {u2 : Int32} {r4 : Int32} {s6 : cS} {r8 : Int32} {s10 : cS} (hN : N0 ≤ C) (c1 : ¬ (s.1 584) ≤ u2) (c2 : ¬ (s.1 586) = 0) (c3 : (s.1 586) = 0) (t5 : gm_to N0 K ra_nm (ra_mt K) d 16 [.ref (C + 29)] (bM C (cH C s) G) sz (.returned (some (.int r4)), (bM C (cH C s6) G), sz, 0)) (c7 : r4 = 0) (t9 : gm_to N0 K ra_nm (ra_mt K) d 41 [.ref (C + 4), .ref (C + 21)] (bM C (cH C (cI s6 586 (6 : Int32))) G) sz (.returned (some (.int r8)), (bM C (cH C s10) G), sz, 0)) : gm_ev N0 K ra_nm (ra_mt K) d (some .int) (gm_I cX0_run) (gm_lkf (lkX0 false K)) 65 [some (.ref (C + 29)), some (.ref (C + 4)), some (.int u2), none, none, none] [] (bM C (cH C s) G) sz sl (.returned (some (.int (s10.1 586))), (bM C (cH C s10) G), sz, sl) := by
  refine gm_ev.iload_n i12_65 rfl ?_
  refine gm_ev.aload_n i12_66 rfl ?_
  refine gm_ev.getfield (v := .int (s.1 584)) i12_67 rfl (bM_fld (j := 29) (fs := cF29 C s) rfl rfl) ?_
  refine gm_ev.icmp_ge_f i12_70 c1 ?_
  refine gm_ev.aload_n i12_73 rfl ?_
  refine gm_ev.getfield (v := .int (s.1 586)) i12_74 rfl (bM_fld (j := 29) (fs := cF29 C s) rfl rfl) ?_
  refine gm_ev.if_ne_t (tgt := 224) i12_77 (by decide) c2 ?_
  refine gm_ev.aload_n i12_224 rfl ?_
  refine gm_ev.getfield (v := .int (s.1 586)) i12_225 rfl (bM_fld (j := 29) (fs := cF29 C s) rfl rfl) ?_
  refine gm_ev.if_ne_f i12_228 c3 ?_
  refine gm_ev.aload_n i12_231 rfl ?_
  refine gm_ev.callV gm_mono_run (av := []) (r := []) (ci := 0) (fs := cF29 C s) (bM_get (j := 29) rfl) i12_232 rfl rfl rfl (Nat.le_of_ble_eq_true rfl) t5 ?_
  refine gm_ev.if_ne_f i12_235 c7 ?_
  refine gm_ev.aload_n i12_238 rfl ?_
  refine gm_ev.bipush (v := 6) i12_239 (by decide) ?_
  refine gm_ev.putfield (M' := (bM C (cH C (cI s6 586 (6 : Int32))) G)) i12_241 rfl (bM_put (j := 29) (fs := cF29 C s6) rfl (Nat.le_of_ble_eq_true rfl) hN (gm_fit_i _) rfl) ?_
  refine gm_ev.aload_n i12_244 rfl ?_
  refine gm_ev.aload_n i12_245 rfl ?_
  refine gm_ev.getfield (v := .ref (C + 21)) i12_246 rfl (bM_fld (j := 4) (fs := cF4 C (cI s6 586 (6 : Int32))) rfl rfl) ?_
  refine gm_ev.callV gm_mono_run (av := [.ref (C + 21)]) (r := []) (ci := 3) (fs := cF4 C (cI s6 586 (6 : Int32))) (bM_get (j := 4) rfl) i12_249 rfl rfl rfl (Nat.le_of_ble_eq_true rfl) t9 ?_
  refine gm_ev.pop i12_252 rfl ?_
  refine gm_ev.aload_n i12_253 rfl ?_
  refine gm_ev.getfield (v := .int (s10.1 586)) i12_254 rfl (bM_fld (j := 29) (fs := cF29 C s10) rfl rfl) ?_
  exact gm_ev.iret i12_257 rfl
theorem t_X0_run_65_fftt_at130 {N0 : Nat} {K : Nat → Nat} {d C : Nat} {s : cS} {G : gm_H} {sz sl : Nat} {R : gm_R} {u2 : Int32} {k3 : Nat} {r4 : Int32} {s6 : cS} (hN : N0 ≤ C) (c1 : ¬ (s.1 584) ≤ u2) (c2 : (s.1 586) = 0) (ek3 : u2 = nI k3) (lk3 : k3 < 60) (t5 : gm_to N0 K ra_nm (ra_mt K) d 41 [.ref (C + 4), .ref (C + 34 + 2 * k3)] (bM C (cH C s) G) sz (.returned (some (.int r4)), (bM C (cH C s6) G), sz, 0)) (c7 : r4 = 0) (c8 : (s6.1 88) = 0) (k : gm_ev N0 K ra_nm (ra_mt K) d (some .int) (gm_I cX0_run) (gm_lkf (lkX0 false K)) 130 [some (.ref (C + 29)), some (.ref (C + 4)), some (.int u2), some (.int (s6.1 501)), some (.int (0 : Int32)), none] [] (bM C (cH C (cI s6 586 (7 : Int32))) G) sz sl R) : gm_ev N0 K ra_nm (ra_mt K) d (some .int) (gm_I cX0_run) (gm_lkf (lkX0 false K)) 65 [some (.ref (C + 29)), some (.ref (C + 4)), some (.int u2), none, none, none] [] (bM C (cH C s) G) sz sl R := by
  refine gm_ev.iload_n i12_65 rfl ?_
  refine gm_ev.aload_n i12_66 rfl ?_
  refine gm_ev.getfield (v := .int (s.1 584)) i12_67 rfl (bM_fld (j := 29) (fs := cF29 C s) rfl rfl) ?_
  refine gm_ev.icmp_ge_f i12_70 c1 ?_
  refine gm_ev.aload_n i12_73 rfl ?_
  refine gm_ev.getfield (v := .int (s.1 586)) i12_74 rfl (bM_fld (j := 29) (fs := cF29 C s) rfl rfl) ?_
  refine gm_ev.if_ne_f i12_77 c2 ?_
  refine gm_ev.aload_n i12_80 rfl ?_
  refine gm_ev.aload_n i12_81 rfl ?_
  refine gm_ev.aload_n i12_82 rfl ?_
  refine gm_ev.getfield (v := .ref (C + 30)) i12_83 rfl (bM_fld (j := 29) (fs := cF29 C s) rfl rfl) ?_
  refine gm_ev.iload_n i12_86 rfl ?_
  refine gm_ev.aaload (x := some (C + 34 + 2 * k3)) i12_87 (gm_aq_of (n := 60) (bM_get (j := 30) rfl) ek3 lk3 (by decide) (cS_states lk3)) ?_
  refine gm_ev.callV gm_mono_run (av := [.ref (C + 34 + 2 * k3)]) (r := [.ref (C + 29)]) (ci := 3) (fs := cF4 C s) (bM_get (j := 4) rfl) i12_88 rfl rfl rfl (Nat.le_of_ble_eq_true rfl) t5 ?_
  refine gm_ev.if_eq_t (tgt := 103) i12_91 (by decide) c7 ?_
  refine gm_ev.bipush (v := 7) i12_103 (by decide) ?_
  refine gm_ev.putfield (M' := (bM C (cH C (cI s6 586 (7 : Int32))) G)) i12_105 rfl (bM_put (j := 29) (fs := cF29 C s6) rfl (Nat.le_of_ble_eq_true rfl) hN (gm_fit_i _) rfl) ?_
  refine gm_ev.aload_n i12_108 rfl ?_
  refine gm_ev.getfield (v := .int (s6.1 88)) i12_109 rfl (bM_fld (j := 4) (fs := cF4 C (cI s6 586 (7 : Int32))) rfl rfl) ?_
  refine gm_ev.if_eq_t (tgt := 119) i12_112 (by decide) c8 ?_
  refine gm_ev.aload_n i12_119 rfl ?_
  refine gm_ev.getfield (v := .ref (C + 25)) i12_120 rfl (bM_fld (j := 4) (fs := cF4 C (cI s6 586 (7 : Int32))) rfl rfl) ?_
  refine gm_ev.getfield (v := .int (s6.1 501)) i12_123 rfl (bM_fld (j := 25) (fs := cF25 C (cI s6 586 (7 : Int32))) rfl rfl) ?_
  refine gm_ev.istore_n (ls' := [some (.ref (C + 29)), some (.ref (C + 4)), some (.int u2), some (.int (s6.1 501)), none, none]) i12_126 (Nat.le_of_ble_eq_true rfl) rfl ?_
  refine gm_ev.iconst (v := 0) i12_127 (by decide) ?_
  refine gm_ev.istore (ls' := [some (.ref (C + 29)), some (.ref (C + 4)), some (.int u2), some (.int (s6.1 501)), some (.int (0 : Int32)), none]) i12_128 (Nat.le_of_ble_eq_true rfl) rfl ?_
  exact k
theorem t_X0_run_65_fftf_at130 {N0 : Nat} {K : Nat → Nat} {d C : Nat} {s : cS} {G : gm_H} {sz sl : Nat} {R : gm_R} {u2 : Int32} {k3 : Nat} {r4 : Int32} {s6 : cS} (hN : N0 ≤ C) (c1 : ¬ (s.1 584) ≤ u2) (c2 : (s.1 586) = 0) (ek3 : u2 = nI k3) (lk3 : k3 < 60) (t5 : gm_to N0 K ra_nm (ra_mt K) d 41 [.ref (C + 4), .ref (C + 34 + 2 * k3)] (bM C (cH C s) G) sz (.returned (some (.int r4)), (bM C (cH C s6) G), sz, 0)) (c7 : r4 = 0) (c8 : ¬ (s6.1 88) = 0) (k : gm_ev N0 K ra_nm (ra_mt K) d (some .int) (gm_I cX0_run) (gm_lkf (lkX0 false K)) 130 [some (.ref (C + 29)), some (.ref (C + 4)), some (.int u2), some (.int (0 : Int32)), some (.int (0 : Int32)), none] [] (bM C (cH C (cI s6 586 (7 : Int32))) G) sz sl R) : gm_ev N0 K ra_nm (ra_mt K) d (some .int) (gm_I cX0_run) (gm_lkf (lkX0 false K)) 65 [some (.ref (C + 29)), some (.ref (C + 4)), some (.int u2), none, none, none] [] (bM C (cH C s) G) sz sl R := by
  refine gm_ev.iload_n i12_65 rfl ?_
  refine gm_ev.aload_n i12_66 rfl ?_
  refine gm_ev.getfield (v := .int (s.1 584)) i12_67 rfl (bM_fld (j := 29) (fs := cF29 C s) rfl rfl) ?_
  refine gm_ev.icmp_ge_f i12_70 c1 ?_
  refine gm_ev.aload_n i12_73 rfl ?_
  refine gm_ev.getfield (v := .int (s.1 586)) i12_74 rfl (bM_fld (j := 29) (fs := cF29 C s) rfl rfl) ?_
  refine gm_ev.if_ne_f i12_77 c2 ?_
  refine gm_ev.aload_n i12_80 rfl ?_
  refine gm_ev.aload_n i12_81 rfl ?_
  refine gm_ev.aload_n i12_82 rfl ?_
  refine gm_ev.getfield (v := .ref (C + 30)) i12_83 rfl (bM_fld (j := 29) (fs := cF29 C s) rfl rfl) ?_
  refine gm_ev.iload_n i12_86 rfl ?_
  refine gm_ev.aaload (x := some (C + 34 + 2 * k3)) i12_87 (gm_aq_of (n := 60) (bM_get (j := 30) rfl) ek3 lk3 (by decide) (cS_states lk3)) ?_
  refine gm_ev.callV gm_mono_run (av := [.ref (C + 34 + 2 * k3)]) (r := [.ref (C + 29)]) (ci := 3) (fs := cF4 C s) (bM_get (j := 4) rfl) i12_88 rfl rfl rfl (Nat.le_of_ble_eq_true rfl) t5 ?_
  refine gm_ev.if_eq_t (tgt := 103) i12_91 (by decide) c7 ?_
  refine gm_ev.bipush (v := 7) i12_103 (by decide) ?_
  refine gm_ev.putfield (M' := (bM C (cH C (cI s6 586 (7 : Int32))) G)) i12_105 rfl (bM_put (j := 29) (fs := cF29 C s6) rfl (Nat.le_of_ble_eq_true rfl) hN (gm_fit_i _) rfl) ?_
  refine gm_ev.aload_n i12_108 rfl ?_
  refine gm_ev.getfield (v := .int (s6.1 88)) i12_109 rfl (bM_fld (j := 4) (fs := cF4 C (cI s6 586 (7 : Int32))) rfl rfl) ?_
  refine gm_ev.if_eq_f i12_112 c8 ?_
  refine gm_ev.iconst (v := 0) i12_115 (by decide) ?_
  refine gm_ev.goto (tgt := 126) i12_116 (by decide) ?_
  refine gm_ev.istore_n (ls' := [some (.ref (C + 29)), some (.ref (C + 4)), some (.int u2), some (.int (0 : Int32)), none, none]) i12_126 (Nat.le_of_ble_eq_true rfl) rfl ?_
  refine gm_ev.iconst (v := 0) i12_127 (by decide) ?_
  refine gm_ev.istore (ls' := [some (.ref (C + 29)), some (.ref (C + 4)), some (.int u2), some (.int (0 : Int32)), some (.int (0 : Int32)), none]) i12_128 (Nat.le_of_ble_eq_true rfl) rfl ?_
  exact k
theorem t_X0_run_65_ffft_at130 {N0 : Nat} {K : Nat → Nat} {d C : Nat} {s : cS} {G : gm_H} {sz sl : Nat} {R : gm_R} {u2 : Int32} {k3 : Nat} {r4 : Int32} {s6 : cS} {r8 : Int32} {s10 : cS} (hN : N0 ≤ C) (c1 : ¬ (s.1 584) ≤ u2) (c2 : (s.1 586) = 0) (ek3 : u2 = nI k3) (lk3 : k3 < 60) (t5 : gm_to N0 K ra_nm (ra_mt K) d 41 [.ref (C + 4), .ref (C + 34 + 2 * k3)] (bM C (cH C s) G) sz (.returned (some (.int r4)), (bM C (cH C s6) G), sz, 0)) (c7 : ¬ r4 = 0) (t9 : gm_to N0 K ra_nm (ra_mt K) d 13 [.ref (C + 29), .ref (C + 4), .int u2] (bM C (cH C s6) G) sz (.returned (some (.int r8)), (bM C (cH C s10) G), sz, 0)) (c11 : (s10.1 88) = 0) (k : gm_ev N0 K ra_nm (ra_mt K) d (some .int) (gm_I cX0_run) (gm_lkf (lkX0 false K)) 130 [some (.ref (C + 29)), some (.ref (C + 4)), some (.int u2), some (.int (s10.1 501)), some (.int (0 : Int32)), none] [] (bM C (cH C (cI s10 586 r8)) G) sz sl R) : gm_ev N0 K ra_nm (ra_mt K) d (some .int) (gm_I cX0_run) (gm_lkf (lkX0 false K)) 65 [some (.ref (C + 29)), some (.ref (C + 4)), some (.int u2), none, none, none] [] (bM C (cH C s) G) sz sl R := by
  refine gm_ev.iload_n i12_65 rfl ?_
  refine gm_ev.aload_n i12_66 rfl ?_
  refine gm_ev.getfield (v := .int (s.1 584)) i12_67 rfl (bM_fld (j := 29) (fs := cF29 C s) rfl rfl) ?_
  refine gm_ev.icmp_ge_f i12_70 c1 ?_
  refine gm_ev.aload_n i12_73 rfl ?_
  refine gm_ev.getfield (v := .int (s.1 586)) i12_74 rfl (bM_fld (j := 29) (fs := cF29 C s) rfl rfl) ?_
  refine gm_ev.if_ne_f i12_77 c2 ?_
  refine gm_ev.aload_n i12_80 rfl ?_
  refine gm_ev.aload_n i12_81 rfl ?_
  refine gm_ev.aload_n i12_82 rfl ?_
  refine gm_ev.getfield (v := .ref (C + 30)) i12_83 rfl (bM_fld (j := 29) (fs := cF29 C s) rfl rfl) ?_
  refine gm_ev.iload_n i12_86 rfl ?_
  refine gm_ev.aaload (x := some (C + 34 + 2 * k3)) i12_87 (gm_aq_of (n := 60) (bM_get (j := 30) rfl) ek3 lk3 (by decide) (cS_states lk3)) ?_
  refine gm_ev.callV gm_mono_run (av := [.ref (C + 34 + 2 * k3)]) (r := [.ref (C + 29)]) (ci := 3) (fs := cF4 C s) (bM_get (j := 4) rfl) i12_88 rfl rfl rfl (Nat.le_of_ble_eq_true rfl) t5 ?_
  refine gm_ev.if_eq_f i12_91 c7 ?_
  refine gm_ev.aload_n i12_94 rfl ?_
  refine gm_ev.aload_n i12_95 rfl ?_
  refine gm_ev.iload_n i12_96 rfl ?_
  refine gm_ev.callV gm_mono_run (av := [.ref (C + 4), .int u2]) (r := [.ref (C + 29)]) (ci := 0) (fs := cF29 C s6) (bM_get (j := 29) rfl) i12_97 rfl rfl rfl (Nat.le_of_ble_eq_true rfl) t9 ?_
  refine gm_ev.goto (tgt := 105) i12_100 (by decide) ?_
  refine gm_ev.putfield (M' := (bM C (cH C (cI s10 586 r8)) G)) i12_105 rfl (bM_put (j := 29) (fs := cF29 C s10) rfl (Nat.le_of_ble_eq_true rfl) hN (gm_fit_i _) rfl) ?_
  refine gm_ev.aload_n i12_108 rfl ?_
  refine gm_ev.getfield (v := .int (s10.1 88)) i12_109 rfl (bM_fld (j := 4) (fs := cF4 C (cI s10 586 r8)) rfl rfl) ?_
  refine gm_ev.if_eq_t (tgt := 119) i12_112 (by decide) c11 ?_
  refine gm_ev.aload_n i12_119 rfl ?_
  refine gm_ev.getfield (v := .ref (C + 25)) i12_120 rfl (bM_fld (j := 4) (fs := cF4 C (cI s10 586 r8)) rfl rfl) ?_
  refine gm_ev.getfield (v := .int (s10.1 501)) i12_123 rfl (bM_fld (j := 25) (fs := cF25 C (cI s10 586 r8)) rfl rfl) ?_
  refine gm_ev.istore_n (ls' := [some (.ref (C + 29)), some (.ref (C + 4)), some (.int u2), some (.int (s10.1 501)), none, none]) i12_126 (Nat.le_of_ble_eq_true rfl) rfl ?_
  refine gm_ev.iconst (v := 0) i12_127 (by decide) ?_
  refine gm_ev.istore (ls' := [some (.ref (C + 29)), some (.ref (C + 4)), some (.int u2), some (.int (s10.1 501)), some (.int (0 : Int32)), none]) i12_128 (Nat.le_of_ble_eq_true rfl) rfl ?_
  exact k
theorem t_X0_run_65_ffff_at130 {N0 : Nat} {K : Nat → Nat} {d C : Nat} {s : cS} {G : gm_H} {sz sl : Nat} {R : gm_R} {u2 : Int32} {k3 : Nat} {r4 : Int32} {s6 : cS} {r8 : Int32} {s10 : cS} (hN : N0 ≤ C) (c1 : ¬ (s.1 584) ≤ u2) (c2 : (s.1 586) = 0) (ek3 : u2 = nI k3) (lk3 : k3 < 60) (t5 : gm_to N0 K ra_nm (ra_mt K) d 41 [.ref (C + 4), .ref (C + 34 + 2 * k3)] (bM C (cH C s) G) sz (.returned (some (.int r4)), (bM C (cH C s6) G), sz, 0)) (c7 : ¬ r4 = 0) (t9 : gm_to N0 K ra_nm (ra_mt K) d 13 [.ref (C + 29), .ref (C + 4), .int u2] (bM C (cH C s6) G) sz (.returned (some (.int r8)), (bM C (cH C s10) G), sz, 0)) (c11 : ¬ (s10.1 88) = 0) (k : gm_ev N0 K ra_nm (ra_mt K) d (some .int) (gm_I cX0_run) (gm_lkf (lkX0 false K)) 130 [some (.ref (C + 29)), some (.ref (C + 4)), some (.int u2), some (.int (0 : Int32)), some (.int (0 : Int32)), none] [] (bM C (cH C (cI s10 586 r8)) G) sz sl R) : gm_ev N0 K ra_nm (ra_mt K) d (some .int) (gm_I cX0_run) (gm_lkf (lkX0 false K)) 65 [some (.ref (C + 29)), some (.ref (C + 4)), some (.int u2), none, none, none] [] (bM C (cH C s) G) sz sl R := by
  refine gm_ev.iload_n i12_65 rfl ?_
  refine gm_ev.aload_n i12_66 rfl ?_
  refine gm_ev.getfield (v := .int (s.1 584)) i12_67 rfl (bM_fld (j := 29) (fs := cF29 C s) rfl rfl) ?_
  refine gm_ev.icmp_ge_f i12_70 c1 ?_
  refine gm_ev.aload_n i12_73 rfl ?_
  refine gm_ev.getfield (v := .int (s.1 586)) i12_74 rfl (bM_fld (j := 29) (fs := cF29 C s) rfl rfl) ?_
  refine gm_ev.if_ne_f i12_77 c2 ?_
  refine gm_ev.aload_n i12_80 rfl ?_
  refine gm_ev.aload_n i12_81 rfl ?_
  refine gm_ev.aload_n i12_82 rfl ?_
  refine gm_ev.getfield (v := .ref (C + 30)) i12_83 rfl (bM_fld (j := 29) (fs := cF29 C s) rfl rfl) ?_
  refine gm_ev.iload_n i12_86 rfl ?_
  refine gm_ev.aaload (x := some (C + 34 + 2 * k3)) i12_87 (gm_aq_of (n := 60) (bM_get (j := 30) rfl) ek3 lk3 (by decide) (cS_states lk3)) ?_
  refine gm_ev.callV gm_mono_run (av := [.ref (C + 34 + 2 * k3)]) (r := [.ref (C + 29)]) (ci := 3) (fs := cF4 C s) (bM_get (j := 4) rfl) i12_88 rfl rfl rfl (Nat.le_of_ble_eq_true rfl) t5 ?_
  refine gm_ev.if_eq_f i12_91 c7 ?_
  refine gm_ev.aload_n i12_94 rfl ?_
  refine gm_ev.aload_n i12_95 rfl ?_
  refine gm_ev.iload_n i12_96 rfl ?_
  refine gm_ev.callV gm_mono_run (av := [.ref (C + 4), .int u2]) (r := [.ref (C + 29)]) (ci := 0) (fs := cF29 C s6) (bM_get (j := 29) rfl) i12_97 rfl rfl rfl (Nat.le_of_ble_eq_true rfl) t9 ?_
  refine gm_ev.goto (tgt := 105) i12_100 (by decide) ?_
  refine gm_ev.putfield (M' := (bM C (cH C (cI s10 586 r8)) G)) i12_105 rfl (bM_put (j := 29) (fs := cF29 C s10) rfl (Nat.le_of_ble_eq_true rfl) hN (gm_fit_i _) rfl) ?_
  refine gm_ev.aload_n i12_108 rfl ?_
  refine gm_ev.getfield (v := .int (s10.1 88)) i12_109 rfl (bM_fld (j := 4) (fs := cF4 C (cI s10 586 r8)) rfl rfl) ?_
  refine gm_ev.if_eq_f i12_112 c11 ?_
  refine gm_ev.iconst (v := 0) i12_115 (by decide) ?_
  refine gm_ev.goto (tgt := 126) i12_116 (by decide) ?_
  refine gm_ev.istore_n (ls' := [some (.ref (C + 29)), some (.ref (C + 4)), some (.int u2), some (.int (0 : Int32)), none, none]) i12_126 (Nat.le_of_ble_eq_true rfl) rfl ?_
  refine gm_ev.iconst (v := 0) i12_127 (by decide) ?_
  refine gm_ev.istore (ls' := [some (.ref (C + 29)), some (.ref (C + 4)), some (.int u2), some (.int (0 : Int32)), some (.int (0 : Int32)), none]) i12_128 (Nat.le_of_ble_eq_true rfl) rfl ?_
  exact k
theorem t_X0_run_130_t_at65 {N0 : Nat} {K : Nat → Nat} {d C : Nat} {s : cS} {G : gm_H} {sz sl : Nat} {R : gm_R} {u2 : Int32} {u3 : Int32} {u4 : Int32} (hN : N0 ≤ C) (c1 : u3 ≤ u4) (k : gm_ev N0 K ra_nm (ra_mt K) d (some .int) (gm_I cX0_run) (gm_lkf (lkX0 false K)) 65 [some (.ref (C + 29)), some (.ref (C + 4)), some (.int (u2 + (1 : Int32))), none, none, none] [] (bM C (cH C s) G) sz sl R) : gm_ev N0 K ra_nm (ra_mt K) d (some .int) (gm_I cX0_run) (gm_lkf (lkX0 false K)) 130 [some (.ref (C + 29)), some (.ref (C + 4)), some (.int u2), some (.int u3), some (.int u4), none] [] (bM C (cH C s) G) sz sl R := by
  refine gm_ev.iload i12_130 rfl ?_
  refine gm_ev.iload_n i12_132 rfl ?_
  refine gm_ev.icmp_ge_t (tgt := 218) i12_133 (by decide) c1 ?_
  refine gm_ev.iinc (v := u2 + (1 : Int32)) (ls' := [some (.ref (C + 29)), some (.ref (C + 4)), some (.int (u2 + (1 : Int32))), some (.int u3), some (.int u4), none]) i12_218 rfl (by rfl) rfl ?_
  refine gm_ev.goto (tgt := 65) i12_221 (by decide) ?_
  refine gm_ev.le (a := [some (.ref (C + 29)), some (.ref (C + 4)), some (.int (u2 + (1 : Int32))), none, none, none]) (gm_leL.le (show gm_leL _ _ from ⟨rfl, ⟨rfl, ⟨rfl, trivial⟩⟩⟩)) ?_
  exact k
theorem t_X0_run_130_ft_at65 {N0 : Nat} {K : Nat → Nat} {d C : Nat} {s : cS} {G : gm_H} {sz sl : Nat} {R : gm_R} {u2 : Int32} {u3 : Int32} {u4 : Int32} (hN : N0 ≤ C) (c1 : ¬ u3 ≤ u4) (c2 : ¬ (s.1 586) = 0) (k : gm_ev N0 K ra_nm (ra_mt K) d (some .int) (gm_I cX0_run) (gm_lkf (lkX0 false K)) 65 [some (.ref (C + 29)), some (.ref (C + 4)), some (.int (u2 + (1 : Int32))), none, none, none] [] (bM C (cH C s) G) sz sl R) : gm_ev N0 K ra_nm (ra_mt K) d (some .int) (gm_I cX0_run) (gm_lkf (lkX0 false K)) 130 [some (.ref (C + 29)), some (.ref (C + 4)), some (.int u2), some (.int u3), some (.int u4), none] [] (bM C (cH C s) G) sz sl R := by
  refine gm_ev.iload i12_130 rfl ?_
  refine gm_ev.iload_n i12_132 rfl ?_
  refine gm_ev.icmp_ge_f i12_133 c1 ?_
  refine gm_ev.aload_n i12_136 rfl ?_
  refine gm_ev.getfield (v := .int (s.1 586)) i12_137 rfl (bM_fld (j := 29) (fs := cF29 C s) rfl rfl) ?_
  refine gm_ev.if_ne_t (tgt := 218) i12_140 (by decide) c2 ?_
  refine gm_ev.iinc (v := u2 + (1 : Int32)) (ls' := [some (.ref (C + 29)), some (.ref (C + 4)), some (.int (u2 + (1 : Int32))), some (.int u3), some (.int u4), none]) i12_218 rfl (by rfl) rfl ?_
  refine gm_ev.goto (tgt := 65) i12_221 (by decide) ?_
  refine gm_ev.le (a := [some (.ref (C + 29)), some (.ref (C + 4)), some (.int (u2 + (1 : Int32))), none, none, none]) (gm_leL.le (show gm_leL _ _ from ⟨rfl, ⟨rfl, ⟨rfl, trivial⟩⟩⟩)) ?_
  exact k
theorem t_X0_run_130_ff_at146 {N0 : Nat} {K : Nat → Nat} {d C : Nat} {s : cS} {G : gm_H} {sz sl : Nat} {R : gm_R} {u2 : Int32} {u3 : Int32} {u4 : Int32} (hN : N0 ≤ C) (c1 : ¬ u3 ≤ u4) (c2 : (s.1 586) = 0) (k : gm_ev N0 K ra_nm (ra_mt K) d (some .int) (gm_I cX0_run) (gm_lkf (lkX0 false K)) 146 [some (.ref (C + 29)), some (.ref (C + 4)), some (.int u2), some (.int u3), some (.int u4), some (.int (0 : Int32))] [] (bM C (cH C s) G) sz sl R) : gm_ev N0 K ra_nm (ra_mt K) d (some .int) (gm_I cX0_run) (gm_lkf (lkX0 false K)) 130 [some (.ref (C + 29)), some (.ref (C + 4)), some (.int u2), some (.int u3), some (.int u4), none] [] (bM C (cH C s) G) sz sl R := by
  refine gm_ev.iload i12_130 rfl ?_
  refine gm_ev.iload_n i12_132 rfl ?_
  refine gm_ev.icmp_ge_f i12_133 c1 ?_
  refine gm_ev.aload_n i12_136 rfl ?_
  refine gm_ev.getfield (v := .int (s.1 586)) i12_137 rfl (bM_fld (j := 29) (fs := cF29 C s) rfl rfl) ?_
  refine gm_ev.if_ne_f i12_140 c2 ?_
  refine gm_ev.iconst (v := 0) i12_143 (by decide) ?_
  refine gm_ev.istore (ls' := [some (.ref (C + 29)), some (.ref (C + 4)), some (.int u2), some (.int u3), some (.int u4), some (.int (0 : Int32))]) i12_144 (Nat.le_of_ble_eq_true rfl) rfl ?_
  exact k
theorem t_X0_run_146_t_at130 {N0 : Nat} {K : Nat → Nat} {d C : Nat} {s : cS} {G : gm_H} {sz sl : Nat} {R : gm_R} {u2 : Int32} {u3 : Int32} {u4 : Int32} {u5 : Int32} (hN : N0 ≤ C) (c1 : (s.1 541) ≤ u5) (k : gm_ev N0 K ra_nm (ra_mt K) d (some .int) (gm_I cX0_run) (gm_lkf (lkX0 false K)) 130 [some (.ref (C + 29)), some (.ref (C + 4)), some (.int u2), some (.int u3), some (.int (u4 + (1 : Int32))), none] [] (bM C (cH C s) G) sz sl R) : gm_ev N0 K ra_nm (ra_mt K) d (some .int) (gm_I cX0_run) (gm_lkf (lkX0 false K)) 146 [some (.ref (C + 29)), some (.ref (C + 4)), some (.int u2), some (.int u3), some (.int u4), some (.int u5)] [] (bM C (cH C s) G) sz sl R := by
  refine gm_ev.iload i12_146 rfl ?_
  refine gm_ev.aload_n i12_148 rfl ?_
  refine gm_ev.getfield (v := .ref (C + 27)) i12_149 rfl (bM_fld (j := 4) (fs := cF4 C s) rfl rfl) ?_
  refine gm_ev.getfield (v := .int (s.1 541)) i12_152 rfl (bM_fld (j := 27) (fs := cF27 C s) rfl rfl) ?_
  refine gm_ev.icmp_ge_t (tgt := 212) i12_155 (by decide) c1 ?_
  refine gm_ev.iinc (v := u4 + (1 : Int32)) (ls' := [some (.ref (C + 29)), some (.ref (C + 4)), some (.int u2), some (.int u3), some (.int (u4 + (1 : Int32))), some (.int u5)]) i12_212 rfl (by rfl) rfl ?_
  refine gm_ev.goto (tgt := 130) i12_215 (by decide) ?_
  refine gm_ev.le (a := [some (.ref (C + 29)), some (.ref (C + 4)), some (.int u2), some (.int u3), some (.int (u4 + (1 : Int32))), none]) (gm_leL.le (show gm_leL _ _ from ⟨rfl, ⟨rfl, ⟨rfl, ⟨rfl, ⟨rfl, trivial⟩⟩⟩⟩⟩)) ?_
  exact k
theorem t_X0_run_146_ft_at130 {N0 : Nat} {K : Nat → Nat} {d C : Nat} {s : cS} {G : gm_H} {sz sl : Nat} {R : gm_R} {u2 : Int32} {u3 : Int32} {u4 : Int32} {u5 : Int32} (hN : N0 ≤ C) (c1 : ¬ (s.1 541) ≤ u5) (c2 : ¬ (s.1 586) = 0) (k : gm_ev N0 K ra_nm (ra_mt K) d (some .int) (gm_I cX0_run) (gm_lkf (lkX0 false K)) 130 [some (.ref (C + 29)), some (.ref (C + 4)), some (.int u2), some (.int u3), some (.int (u4 + (1 : Int32))), none] [] (bM C (cH C s) G) sz sl R) : gm_ev N0 K ra_nm (ra_mt K) d (some .int) (gm_I cX0_run) (gm_lkf (lkX0 false K)) 146 [some (.ref (C + 29)), some (.ref (C + 4)), some (.int u2), some (.int u3), some (.int u4), some (.int u5)] [] (bM C (cH C s) G) sz sl R := by
  refine gm_ev.iload i12_146 rfl ?_
  refine gm_ev.aload_n i12_148 rfl ?_
  refine gm_ev.getfield (v := .ref (C + 27)) i12_149 rfl (bM_fld (j := 4) (fs := cF4 C s) rfl rfl) ?_
  refine gm_ev.getfield (v := .int (s.1 541)) i12_152 rfl (bM_fld (j := 27) (fs := cF27 C s) rfl rfl) ?_
  refine gm_ev.icmp_ge_f i12_155 c1 ?_
  refine gm_ev.aload_n i12_158 rfl ?_
  refine gm_ev.getfield (v := .int (s.1 586)) i12_159 rfl (bM_fld (j := 29) (fs := cF29 C s) rfl rfl) ?_
  refine gm_ev.if_ne_t (tgt := 212) i12_162 (by decide) c2 ?_
  refine gm_ev.iinc (v := u4 + (1 : Int32)) (ls' := [some (.ref (C + 29)), some (.ref (C + 4)), some (.int u2), some (.int u3), some (.int (u4 + (1 : Int32))), some (.int u5)]) i12_212 rfl (by rfl) rfl ?_
  refine gm_ev.goto (tgt := 130) i12_215 (by decide) ?_
  refine gm_ev.le (a := [some (.ref (C + 29)), some (.ref (C + 4)), some (.int u2), some (.int u3), some (.int (u4 + (1 : Int32))), none]) (gm_leL.le (show gm_leL _ _ from ⟨rfl, ⟨rfl, ⟨rfl, ⟨rfl, ⟨rfl, trivial⟩⟩⟩⟩⟩)) ?_
  exact k
theorem t_X0_run_146_fft_at146 {N0 : Nat} {K : Nat → Nat} {d C : Nat} {s : cS} {G : gm_H} {sz sl : Nat} {R : gm_R} {u2 : Int32} {u3 : Int32} {u4 : Int32} {u5 : Int32} {r3 : Int32} {s5 : cS} (hN : N0 ≤ C) (c1 : ¬ (s.1 541) ≤ u5) (c2 : (s.1 586) = 0) (t4 : gm_to N0 K ra_nm (ra_mt K) d 44 [.ref (C + 4), .int u4, .int u5] (bM C (cH C s) G) sz (.returned (some (.int r3)), (bM C (cH C s5) G), sz, 0)) (c6 : r3 = 0) (k : gm_ev N0 K ra_nm (ra_mt K) d (some .int) (gm_I cX0_run) (gm_lkf (lkX0 false K)) 146 [some (.ref (C + 29)), some (.ref (C + 4)), some (.int u2), some (.int u3), some (.int u4), some (.int (u5 + (1 : Int32)))] [] (bM C (cH C (cI s5 586 (7 : Int32))) G) sz sl R) : gm_ev N0 K ra_nm (ra_mt K) d (some .int) (gm_I cX0_run) (gm_lkf (lkX0 false K)) 146 [some (.ref (C + 29)), some (.ref (C + 4)), some (.int u2), some (.int u3), some (.int u4), some (.int u5)] [] (bM C (cH C s) G) sz sl R := by
  refine gm_ev.iload i12_146 rfl ?_
  refine gm_ev.aload_n i12_148 rfl ?_
  refine gm_ev.getfield (v := .ref (C + 27)) i12_149 rfl (bM_fld (j := 4) (fs := cF4 C s) rfl rfl) ?_
  refine gm_ev.getfield (v := .int (s.1 541)) i12_152 rfl (bM_fld (j := 27) (fs := cF27 C s) rfl rfl) ?_
  refine gm_ev.icmp_ge_f i12_155 c1 ?_
  refine gm_ev.aload_n i12_158 rfl ?_
  refine gm_ev.getfield (v := .int (s.1 586)) i12_159 rfl (bM_fld (j := 29) (fs := cF29 C s) rfl rfl) ?_
  refine gm_ev.if_ne_f i12_162 c2 ?_
  refine gm_ev.aload_n i12_165 rfl ?_
  refine gm_ev.aload_n i12_166 rfl ?_
  refine gm_ev.iload i12_167 rfl ?_
  refine gm_ev.iload i12_169 rfl ?_
  refine gm_ev.callV gm_mono_run (av := [.int u4, .int u5]) (r := [.ref (C + 29)]) (ci := 3) (fs := cF4 C s) (bM_get (j := 4) rfl) i12_171 rfl rfl rfl (Nat.le_of_ble_eq_true rfl) t4 ?_
  refine gm_ev.if_eq_t (tgt := 201) i12_174 (by decide) c6 ?_
  refine gm_ev.bipush (v := 7) i12_201 (by decide) ?_
  refine gm_ev.putfield (M' := (bM C (cH C (cI s5 586 (7 : Int32))) G)) i12_203 rfl (bM_put (j := 29) (fs := cF29 C s5) rfl (Nat.le_of_ble_eq_true rfl) hN (gm_fit_i _) rfl) ?_
  refine gm_ev.iinc (v := u5 + (1 : Int32)) (ls' := [some (.ref (C + 29)), some (.ref (C + 4)), some (.int u2), some (.int u3), some (.int u4), some (.int (u5 + (1 : Int32)))]) i12_206 rfl (by rfl) rfl ?_
  refine gm_ev.goto (tgt := 146) i12_209 (by decide) ?_
  exact k
theorem t_X0_run_146_ffft_at146 {N0 : Nat} {K : Nat → Nat} {d C : Nat} {s : cS} {G : gm_H} {sz sl : Nat} {R : gm_R} {u2 : Int32} {u3 : Int32} {u4 : Int32} {u5 : Int32} {r3 : Int32} {s5 : cS} {r7 : Int32} {s9 : cS} {G10 : gm_H} (hN : N0 ≤ C) (c1 : ¬ (s.1 541) ≤ u5) (c2 : (s.1 586) = 0) (t4 : gm_to N0 K ra_nm (ra_mt K) d 44 [.ref (C + 4), .int u4, .int u5] (bM C (cH C s) G) sz (.returned (some (.int r3)), (bM C (cH C s5) G), sz, 0)) (c6 : ¬ r3 = 0) (t8 : gm_to N0 K ra_nm (ra_mt K) d 14 [.ref (C + 29), .int u2, .int ((u4 <<< ((8 : Int32) &&& 31)) ||| u5), .ref (C + 23)] (bM C (cH C s5) G) sz (.returned (some (.int r7)), (bM C (cH C s9) G10), sz, 0)) (c11 : r7 = 0) (k : gm_ev N0 K ra_nm (ra_mt K) d (some .int) (gm_I cX0_run) (gm_lkf (lkX0 false K)) 146 [some (.ref (C + 29)), some (.ref (C + 4)), some (.int u2), some (.int u3), some (.int u4), some (.int (u5 + (1 : Int32)))] [] (bM C (cH C (cI s9 586 (7 : Int32))) G10) sz sl R) : gm_ev N0 K ra_nm (ra_mt K) d (some .int) (gm_I cX0_run) (gm_lkf (lkX0 false K)) 146 [some (.ref (C + 29)), some (.ref (C + 4)), some (.int u2), some (.int u3), some (.int u4), some (.int u5)] [] (bM C (cH C s) G) sz sl R := by
  refine gm_ev.iload i12_146 rfl ?_
  refine gm_ev.aload_n i12_148 rfl ?_
  refine gm_ev.getfield (v := .ref (C + 27)) i12_149 rfl (bM_fld (j := 4) (fs := cF4 C s) rfl rfl) ?_
  refine gm_ev.getfield (v := .int (s.1 541)) i12_152 rfl (bM_fld (j := 27) (fs := cF27 C s) rfl rfl) ?_
  refine gm_ev.icmp_ge_f i12_155 c1 ?_
  refine gm_ev.aload_n i12_158 rfl ?_
  refine gm_ev.getfield (v := .int (s.1 586)) i12_159 rfl (bM_fld (j := 29) (fs := cF29 C s) rfl rfl) ?_
  refine gm_ev.if_ne_f i12_162 c2 ?_
  refine gm_ev.aload_n i12_165 rfl ?_
  refine gm_ev.aload_n i12_166 rfl ?_
  refine gm_ev.iload i12_167 rfl ?_
  refine gm_ev.iload i12_169 rfl ?_
  refine gm_ev.callV gm_mono_run (av := [.int u4, .int u5]) (r := [.ref (C + 29)]) (ci := 3) (fs := cF4 C s) (bM_get (j := 4) rfl) i12_171 rfl rfl rfl (Nat.le_of_ble_eq_true rfl) t4 ?_
  refine gm_ev.if_eq_f i12_174 c6 ?_
  refine gm_ev.aload_n i12_177 rfl ?_
  refine gm_ev.iload_n i12_178 rfl ?_
  refine gm_ev.iload i12_179 rfl ?_
  refine gm_ev.bipush (v := 8) i12_181 (by decide) ?_
  refine gm_ev.ishl i12_183 ?_
  refine gm_ev.iload i12_184 rfl ?_
  refine gm_ev.ior i12_186 ?_
  refine gm_ev.aload_n i12_187 rfl ?_
  refine gm_ev.getfield (v := .ref (C + 23)) i12_188 rfl (bM_fld (j := 4) (fs := cF4 C s5) rfl rfl) ?_
  refine gm_ev.callV gm_mono_run (av := [.int u2, .int ((u4 <<< ((8 : Int32) &&& 31)) ||| u5), .ref (C + 23)]) (r := [.ref (C + 29)]) (ci := 0) (fs := cF29 C s5) (bM_get (j := 29) rfl) i12_191 rfl rfl rfl (Nat.le_of_ble_eq_true rfl) t8 ?_
  refine gm_ev.if_eq_t (tgt := 201) i12_194 (by decide) c11 ?_
  refine gm_ev.bipush (v := 7) i12_201 (by decide) ?_
  refine gm_ev.putfield (M' := (bM C (cH C (cI s9 586 (7 : Int32))) G10)) i12_203 rfl (bM_put (j := 29) (fs := cF29 C s9) rfl (Nat.le_of_ble_eq_true rfl) hN (gm_fit_i _) rfl) ?_
  refine gm_ev.iinc (v := u5 + (1 : Int32)) (ls' := [some (.ref (C + 29)), some (.ref (C + 4)), some (.int u2), some (.int u3), some (.int u4), some (.int (u5 + (1 : Int32)))]) i12_206 rfl (by rfl) rfl ?_
  refine gm_ev.goto (tgt := 146) i12_209 (by decide) ?_
  exact k
theorem t_X0_run_146_ffff_at146 {N0 : Nat} {K : Nat → Nat} {d C : Nat} {s : cS} {G : gm_H} {sz sl : Nat} {R : gm_R} {u2 : Int32} {u3 : Int32} {u4 : Int32} {u5 : Int32} {r3 : Int32} {s5 : cS} {r7 : Int32} {s9 : cS} {G10 : gm_H} (hN : N0 ≤ C) (c1 : ¬ (s.1 541) ≤ u5) (c2 : (s.1 586) = 0) (t4 : gm_to N0 K ra_nm (ra_mt K) d 44 [.ref (C + 4), .int u4, .int u5] (bM C (cH C s) G) sz (.returned (some (.int r3)), (bM C (cH C s5) G), sz, 0)) (c6 : ¬ r3 = 0) (t8 : gm_to N0 K ra_nm (ra_mt K) d 14 [.ref (C + 29), .int u2, .int ((u4 <<< ((8 : Int32) &&& 31)) ||| u5), .ref (C + 23)] (bM C (cH C s5) G) sz (.returned (some (.int r7)), (bM C (cH C s9) G10), sz, 0)) (c11 : ¬ r7 = 0) (k : gm_ev N0 K ra_nm (ra_mt K) d (some .int) (gm_I cX0_run) (gm_lkf (lkX0 false K)) 146 [some (.ref (C + 29)), some (.ref (C + 4)), some (.int u2), some (.int u3), some (.int u4), some (.int (u5 + (1 : Int32)))] [] (bM C (cH C (cI s9 586 (0 : Int32))) G10) sz sl R) : gm_ev N0 K ra_nm (ra_mt K) d (some .int) (gm_I cX0_run) (gm_lkf (lkX0 false K)) 146 [some (.ref (C + 29)), some (.ref (C + 4)), some (.int u2), some (.int u3), some (.int u4), some (.int u5)] [] (bM C (cH C s) G) sz sl R := by
  refine gm_ev.iload i12_146 rfl ?_
  refine gm_ev.aload_n i12_148 rfl ?_
  refine gm_ev.getfield (v := .ref (C + 27)) i12_149 rfl (bM_fld (j := 4) (fs := cF4 C s) rfl rfl) ?_
  refine gm_ev.getfield (v := .int (s.1 541)) i12_152 rfl (bM_fld (j := 27) (fs := cF27 C s) rfl rfl) ?_
  refine gm_ev.icmp_ge_f i12_155 c1 ?_
  refine gm_ev.aload_n i12_158 rfl ?_
  refine gm_ev.getfield (v := .int (s.1 586)) i12_159 rfl (bM_fld (j := 29) (fs := cF29 C s) rfl rfl) ?_
  refine gm_ev.if_ne_f i12_162 c2 ?_
  refine gm_ev.aload_n i12_165 rfl ?_
  refine gm_ev.aload_n i12_166 rfl ?_
  refine gm_ev.iload i12_167 rfl ?_
  refine gm_ev.iload i12_169 rfl ?_
  refine gm_ev.callV gm_mono_run (av := [.int u4, .int u5]) (r := [.ref (C + 29)]) (ci := 3) (fs := cF4 C s) (bM_get (j := 4) rfl) i12_171 rfl rfl rfl (Nat.le_of_ble_eq_true rfl) t4 ?_
  refine gm_ev.if_eq_f i12_174 c6 ?_
  refine gm_ev.aload_n i12_177 rfl ?_
  refine gm_ev.iload_n i12_178 rfl ?_
  refine gm_ev.iload i12_179 rfl ?_
  refine gm_ev.bipush (v := 8) i12_181 (by decide) ?_
  refine gm_ev.ishl i12_183 ?_
  refine gm_ev.iload i12_184 rfl ?_
  refine gm_ev.ior i12_186 ?_
  refine gm_ev.aload_n i12_187 rfl ?_
  refine gm_ev.getfield (v := .ref (C + 23)) i12_188 rfl (bM_fld (j := 4) (fs := cF4 C s5) rfl rfl) ?_
  refine gm_ev.callV gm_mono_run (av := [.int u2, .int ((u4 <<< ((8 : Int32) &&& 31)) ||| u5), .ref (C + 23)]) (r := [.ref (C + 29)]) (ci := 0) (fs := cF29 C s5) (bM_get (j := 29) rfl) i12_191 rfl rfl rfl (Nat.le_of_ble_eq_true rfl) t8 ?_
  refine gm_ev.if_eq_f i12_194 c11 ?_
  refine gm_ev.iconst (v := 0) i12_197 (by decide) ?_
  refine gm_ev.goto (tgt := 203) i12_198 (by decide) ?_
  refine gm_ev.putfield (M' := (bM C (cH C (cI s9 586 (0 : Int32))) G10)) i12_203 rfl (bM_put (j := 29) (fs := cF29 C s9) rfl (Nat.le_of_ble_eq_true rfl) hN (gm_fit_i _) rfl) ?_
  refine gm_ev.iinc (v := u5 + (1 : Int32)) (ls' := [some (.ref (C + 29)), some (.ref (C + 4)), some (.int u2), some (.int u3), some (.int u4), some (.int (u5 + (1 : Int32)))]) i12_206 rfl (by rfl) rfl ?_
  refine gm_ev.goto (tgt := 146) i12_209 (by decide) ?_
  exact k
theorem t_X0_judge_0_ttt {N0 : Nat} {K : Nat → Nat} {d C : Nat} {s : cS} {G : gm_H} {sz sl : Nat} {p1 : Int32} {k1 : Nat} {k3 : Nat} (hN : N0 ≤ C) (ek1 : p1 = nI k1) (lk1 : k1 < 60) (c2 : (s.1 541) ≤ (1 : Int32)) (ek3 : p1 = nI k3) (lk3 : k3 < 60) (c4 : (s.1 88) = 0) (c5 : (s.1 501) = 0) : gm_ev N0 K ra_nm (ra_mt K) d (some .int) (gm_I cX0_judge) (gm_lkf (lkX0 false K)) 0 [some (.ref (C + 29)), some (.ref (C + 4)), some (.int p1), none, none] [] (bM C (cH C s) G) sz sl (.returned (some (.int (2 : Int32))), (bM C (cH C (cA (cA s 32 (upd (s.2.1 32) k1 (-1 : Int32))) 33 (upd (s.2.1 33) k3 (vp_nar .boolean (0 : Int32))))) G), sz, sl) := by
  refine gm_ev.aload_n i13_0 rfl ?_
  refine gm_ev.getfield (v := .ref (C + 32)) i13_1 rfl (bM_fld (j := 29) (fs := cF29 C s) rfl rfl) ?_
  refine gm_ev.iload_n i13_4 rfl ?_
  refine gm_ev.iconst (v := -1) i13_5 (by decide) ?_
  refine gm_ev.iastore (M' := (bM C (cH C (cA s 32 (upd (s.2.1 32) k1 (-1 : Int32)))) G)) i13_6 (bM_asti (j := 32) (n := 60) (f := s.2.1 32) rfl ek1 lk1 (by decide) hN rfl) ?_
  refine gm_ev.aload_n i13_7 rfl ?_
  refine gm_ev.getfield (v := .ref (C + 33)) i13_8 rfl (bM_fld (j := 29) (fs := cF29 C (cA s 32 (upd (s.2.1 32) k1 (-1 : Int32)))) rfl rfl) ?_
  refine gm_ev.iload_n i13_11 rfl ?_
  refine gm_ev.aload_n i13_12 rfl ?_
  refine gm_ev.getfield (v := .ref (C + 27)) i13_13 rfl (bM_fld (j := 4) (fs := cF4 C (cA s 32 (upd (s.2.1 32) k1 (-1 : Int32)))) rfl rfl) ?_
  refine gm_ev.getfield (v := .int (s.1 541)) i13_16 rfl (bM_fld (j := 27) (fs := cF27 C (cA s 32 (upd (s.2.1 32) k1 (-1 : Int32)))) rfl rfl) ?_
  refine gm_ev.iconst (v := 1) i13_19 (by decide) ?_
  refine gm_ev.icmp_le_t (tgt := 27) i13_20 (by decide) c2 ?_
  refine gm_ev.iconst (v := 0) i13_27 (by decide) ?_
  refine gm_ev.zastore (M' := (bM C (cH C (cA (cA s 32 (upd (s.2.1 32) k1 (-1 : Int32))) 33 (upd (s.2.1 33) k3 (vp_nar .boolean (0 : Int32))))) G)) i13_28 (bM_astn (j := 33) (n := 60) (f := s.2.1 33) rfl ek3 lk3 (by decide) hN rfl) ?_
  refine gm_ev.aload_n i13_29 rfl ?_
  refine gm_ev.getfield (v := .int (s.1 88)) i13_30 rfl (bM_fld (j := 4) (fs := cF4 C (cA (cA s 32 (upd (s.2.1 32) k1 (-1 : Int32))) 33 (upd (s.2.1 33) k3 (vp_nar .boolean (0 : Int32))))) rfl rfl) ?_
  refine gm_ev.if_eq_t (tgt := 84) i13_33 (by decide) c4 ?_
  refine gm_ev.aload_n i13_84 rfl ?_
  refine gm_ev.getfield (v := .ref (C + 25)) i13_85 rfl (bM_fld (j := 4) (fs := cF4 C (cA (cA s 32 (upd (s.2.1 32) k1 (-1 : Int32))) 33 (upd (s.2.1 33) k3 (vp_nar .boolean (0 : Int32))))) rfl rfl) ?_
  refine gm_ev.getfield (v := .int (s.1 501)) i13_88 rfl (bM_fld (j := 25) (fs := cF25 C (cA (cA s 32 (upd (s.2.1 32) k1 (-1 : Int32))) 33 (upd (s.2.1 33) k3 (vp_nar .boolean (0 : Int32))))) rfl rfl) ?_
  refine gm_ev.if_eq_t (tgt := 104) i13_91 (by decide) c5 ?_
  refine gm_ev.iconst (v := 2) i13_104 (by decide) ?_
  exact gm_ev.iret i13_105 rfl
theorem t_X0_judge_0_ttftt {N0 : Nat} {K : Nat → Nat} {d C : Nat} {s : cS} {G : gm_H} {sz sl : Nat} {p1 : Int32} {k1 : Nat} {k3 : Nat} (hN : N0 ≤ C) (ek1 : p1 = nI k1) (lk1 : k1 < 60) (c2 : (s.1 541) ≤ (1 : Int32)) (ek3 : p1 = nI k3) (lk3 : k3 < 60) (c4 : (s.1 88) = 0) (c5 : ¬ (s.1 501) = 0) (c6 : ¬ (s.1 541) = 0) (c7 : (s.1 501) ≤ (1 : Int32)) : gm_ev N0 K ra_nm (ra_mt K) d (some .int) (gm_I cX0_judge) (gm_lkf (lkX0 false K)) 0 [some (.ref (C + 29)), some (.ref (C + 4)), some (.int p1), none, none] [] (bM C (cH C s) G) sz sl (.returned (some (.int (0 : Int32))), (bM C (cH C (cA (cA s 32 (upd (s.2.1 32) k1 (-1 : Int32))) 33 (upd (s.2.1 33) k3 (vp_nar .boolean (0 : Int32))))) G), sz, sl) := by
  refine gm_ev.aload_n i13_0 rfl ?_
  refine gm_ev.getfield (v := .ref (C + 32)) i13_1 rfl (bM_fld (j := 29) (fs := cF29 C s) rfl rfl) ?_
  refine gm_ev.iload_n i13_4 rfl ?_
  refine gm_ev.iconst (v := -1) i13_5 (by decide) ?_
  refine gm_ev.iastore (M' := (bM C (cH C (cA s 32 (upd (s.2.1 32) k1 (-1 : Int32)))) G)) i13_6 (bM_asti (j := 32) (n := 60) (f := s.2.1 32) rfl ek1 lk1 (by decide) hN rfl) ?_
  refine gm_ev.aload_n i13_7 rfl ?_
  refine gm_ev.getfield (v := .ref (C + 33)) i13_8 rfl (bM_fld (j := 29) (fs := cF29 C (cA s 32 (upd (s.2.1 32) k1 (-1 : Int32)))) rfl rfl) ?_
  refine gm_ev.iload_n i13_11 rfl ?_
  refine gm_ev.aload_n i13_12 rfl ?_
  refine gm_ev.getfield (v := .ref (C + 27)) i13_13 rfl (bM_fld (j := 4) (fs := cF4 C (cA s 32 (upd (s.2.1 32) k1 (-1 : Int32)))) rfl rfl) ?_
  refine gm_ev.getfield (v := .int (s.1 541)) i13_16 rfl (bM_fld (j := 27) (fs := cF27 C (cA s 32 (upd (s.2.1 32) k1 (-1 : Int32)))) rfl rfl) ?_
  refine gm_ev.iconst (v := 1) i13_19 (by decide) ?_
  refine gm_ev.icmp_le_t (tgt := 27) i13_20 (by decide) c2 ?_
  refine gm_ev.iconst (v := 0) i13_27 (by decide) ?_
  refine gm_ev.zastore (M' := (bM C (cH C (cA (cA s 32 (upd (s.2.1 32) k1 (-1 : Int32))) 33 (upd (s.2.1 33) k3 (vp_nar .boolean (0 : Int32))))) G)) i13_28 (bM_astn (j := 33) (n := 60) (f := s.2.1 33) rfl ek3 lk3 (by decide) hN rfl) ?_
  refine gm_ev.aload_n i13_29 rfl ?_
  refine gm_ev.getfield (v := .int (s.1 88)) i13_30 rfl (bM_fld (j := 4) (fs := cF4 C (cA (cA s 32 (upd (s.2.1 32) k1 (-1 : Int32))) 33 (upd (s.2.1 33) k3 (vp_nar .boolean (0 : Int32))))) rfl rfl) ?_
  refine gm_ev.if_eq_t (tgt := 84) i13_33 (by decide) c4 ?_
  refine gm_ev.aload_n i13_84 rfl ?_
  refine gm_ev.getfield (v := .ref (C + 25)) i13_85 rfl (bM_fld (j := 4) (fs := cF4 C (cA (cA s 32 (upd (s.2.1 32) k1 (-1 : Int32))) 33 (upd (s.2.1 33) k3 (vp_nar .boolean (0 : Int32))))) rfl rfl) ?_
  refine gm_ev.getfield (v := .int (s.1 501)) i13_88 rfl (bM_fld (j := 25) (fs := cF25 C (cA (cA s 32 (upd (s.2.1 32) k1 (-1 : Int32))) 33 (upd (s.2.1 33) k3 (vp_nar .boolean (0 : Int32))))) rfl rfl) ?_
  refine gm_ev.if_eq_f i13_91 c5 ?_
  refine gm_ev.aload_n i13_94 rfl ?_
  refine gm_ev.getfield (v := .ref (C + 27)) i13_95 rfl (bM_fld (j := 4) (fs := cF4 C (cA (cA s 32 (upd (s.2.1 32) k1 (-1 : Int32))) 33 (upd (s.2.1 33) k3 (vp_nar .boolean (0 : Int32))))) rfl rfl) ?_
  refine gm_ev.getfield (v := .int (s.1 541)) i13_98 rfl (bM_fld (j := 27) (fs := cF27 C (cA (cA s 32 (upd (s.2.1 32) k1 (-1 : Int32))) 33 (upd (s.2.1 33) k3 (vp_nar .boolean (0 : Int32))))) rfl rfl) ?_
  refine gm_ev.if_ne_t (tgt := 106) i13_101 (by decide) c6 ?_
  refine gm_ev.aload_n i13_106 rfl ?_
  refine gm_ev.getfield (v := .ref (C + 25)) i13_107 rfl (bM_fld (j := 4) (fs := cF4 C (cA (cA s 32 (upd (s.2.1 32) k1 (-1 : Int32))) 33 (upd (s.2.1 33) k3 (vp_nar .boolean (0 : Int32))))) rfl rfl) ?_
  refine gm_ev.getfield (v := .int (s.1 501)) i13_110 rfl (bM_fld (j := 25) (fs := cF25 C (cA (cA s 32 (upd (s.2.1 32) k1 (-1 : Int32))) 33 (upd (s.2.1 33) k3 (vp_nar .boolean (0 : Int32))))) rfl rfl) ?_
  refine gm_ev.iconst (v := 1) i13_113 (by decide) ?_
  refine gm_ev.icmp_le_t (tgt := 132) i13_114 (by decide) c7 ?_
  refine gm_ev.iconst (v := 0) i13_132 (by decide) ?_
  exact gm_ev.iret i13_133 rfl
theorem t_X0_judge_0_ttftft {N0 : Nat} {K : Nat → Nat} {d C : Nat} {s : cS} {G : gm_H} {sz sl : Nat} {p1 : Int32} {k1 : Nat} {k3 : Nat} (hN : N0 ≤ C) (ek1 : p1 = nI k1) (lk1 : k1 < 60) (c2 : (s.1 541) ≤ (1 : Int32)) (ek3 : p1 = nI k3) (lk3 : k3 < 60) (c4 : (s.1 88) = 0) (c5 : ¬ (s.1 501) = 0) (c6 : ¬ (s.1 541) = 0) (c7 : ¬ (s.1 501) ≤ (1 : Int32)) (c8 : (s.1 541) ≤ (1 : Int32)) : gm_ev N0 K ra_nm (ra_mt K) d (some .int) (gm_I cX0_judge) (gm_lkf (lkX0 false K)) 0 [some (.ref (C + 29)), some (.ref (C + 4)), some (.int p1), none, none] [] (bM C (cH C s) G) sz sl (.returned (some (.int (0 : Int32))), (bM C (cH C (cA (cA s 32 (upd (s.2.1 32) k1 (-1 : Int32))) 33 (upd (s.2.1 33) k3 (vp_nar .boolean (0 : Int32))))) G), sz, sl) := by
  refine gm_ev.aload_n i13_0 rfl ?_
  refine gm_ev.getfield (v := .ref (C + 32)) i13_1 rfl (bM_fld (j := 29) (fs := cF29 C s) rfl rfl) ?_
  refine gm_ev.iload_n i13_4 rfl ?_
  refine gm_ev.iconst (v := -1) i13_5 (by decide) ?_
  refine gm_ev.iastore (M' := (bM C (cH C (cA s 32 (upd (s.2.1 32) k1 (-1 : Int32)))) G)) i13_6 (bM_asti (j := 32) (n := 60) (f := s.2.1 32) rfl ek1 lk1 (by decide) hN rfl) ?_
  refine gm_ev.aload_n i13_7 rfl ?_
  refine gm_ev.getfield (v := .ref (C + 33)) i13_8 rfl (bM_fld (j := 29) (fs := cF29 C (cA s 32 (upd (s.2.1 32) k1 (-1 : Int32)))) rfl rfl) ?_
  refine gm_ev.iload_n i13_11 rfl ?_
  refine gm_ev.aload_n i13_12 rfl ?_
  refine gm_ev.getfield (v := .ref (C + 27)) i13_13 rfl (bM_fld (j := 4) (fs := cF4 C (cA s 32 (upd (s.2.1 32) k1 (-1 : Int32)))) rfl rfl) ?_
  refine gm_ev.getfield (v := .int (s.1 541)) i13_16 rfl (bM_fld (j := 27) (fs := cF27 C (cA s 32 (upd (s.2.1 32) k1 (-1 : Int32)))) rfl rfl) ?_
  refine gm_ev.iconst (v := 1) i13_19 (by decide) ?_
  refine gm_ev.icmp_le_t (tgt := 27) i13_20 (by decide) c2 ?_
  refine gm_ev.iconst (v := 0) i13_27 (by decide) ?_
  refine gm_ev.zastore (M' := (bM C (cH C (cA (cA s 32 (upd (s.2.1 32) k1 (-1 : Int32))) 33 (upd (s.2.1 33) k3 (vp_nar .boolean (0 : Int32))))) G)) i13_28 (bM_astn (j := 33) (n := 60) (f := s.2.1 33) rfl ek3 lk3 (by decide) hN rfl) ?_
  refine gm_ev.aload_n i13_29 rfl ?_
  refine gm_ev.getfield (v := .int (s.1 88)) i13_30 rfl (bM_fld (j := 4) (fs := cF4 C (cA (cA s 32 (upd (s.2.1 32) k1 (-1 : Int32))) 33 (upd (s.2.1 33) k3 (vp_nar .boolean (0 : Int32))))) rfl rfl) ?_
  refine gm_ev.if_eq_t (tgt := 84) i13_33 (by decide) c4 ?_
  refine gm_ev.aload_n i13_84 rfl ?_
  refine gm_ev.getfield (v := .ref (C + 25)) i13_85 rfl (bM_fld (j := 4) (fs := cF4 C (cA (cA s 32 (upd (s.2.1 32) k1 (-1 : Int32))) 33 (upd (s.2.1 33) k3 (vp_nar .boolean (0 : Int32))))) rfl rfl) ?_
  refine gm_ev.getfield (v := .int (s.1 501)) i13_88 rfl (bM_fld (j := 25) (fs := cF25 C (cA (cA s 32 (upd (s.2.1 32) k1 (-1 : Int32))) 33 (upd (s.2.1 33) k3 (vp_nar .boolean (0 : Int32))))) rfl rfl) ?_
  refine gm_ev.if_eq_f i13_91 c5 ?_
  refine gm_ev.aload_n i13_94 rfl ?_
  refine gm_ev.getfield (v := .ref (C + 27)) i13_95 rfl (bM_fld (j := 4) (fs := cF4 C (cA (cA s 32 (upd (s.2.1 32) k1 (-1 : Int32))) 33 (upd (s.2.1 33) k3 (vp_nar .boolean (0 : Int32))))) rfl rfl) ?_
  refine gm_ev.getfield (v := .int (s.1 541)) i13_98 rfl (bM_fld (j := 27) (fs := cF27 C (cA (cA s 32 (upd (s.2.1 32) k1 (-1 : Int32))) 33 (upd (s.2.1 33) k3 (vp_nar .boolean (0 : Int32))))) rfl rfl) ?_
  refine gm_ev.if_ne_t (tgt := 106) i13_101 (by decide) c6 ?_
  refine gm_ev.aload_n i13_106 rfl ?_
  refine gm_ev.getfield (v := .ref (C + 25)) i13_107 rfl (bM_fld (j := 4) (fs := cF4 C (cA (cA s 32 (upd (s.2.1 32) k1 (-1 : Int32))) 33 (upd (s.2.1 33) k3 (vp_nar .boolean (0 : Int32))))) rfl rfl) ?_
  refine gm_ev.getfield (v := .int (s.1 501)) i13_110 rfl (bM_fld (j := 25) (fs := cF25 C (cA (cA s 32 (upd (s.2.1 32) k1 (-1 : Int32))) 33 (upd (s.2.1 33) k3 (vp_nar .boolean (0 : Int32))))) rfl rfl) ?_
  refine gm_ev.iconst (v := 1) i13_113 (by decide) ?_
  refine gm_ev.icmp_le_f i13_114 c7 ?_
  refine gm_ev.aload_n i13_117 rfl ?_
  refine gm_ev.getfield (v := .ref (C + 27)) i13_118 rfl (bM_fld (j := 4) (fs := cF4 C (cA (cA s 32 (upd (s.2.1 32) k1 (-1 : Int32))) 33 (upd (s.2.1 33) k3 (vp_nar .boolean (0 : Int32))))) rfl rfl) ?_
  refine gm_ev.getfield (v := .int (s.1 541)) i13_121 rfl (bM_fld (j := 27) (fs := cF27 C (cA (cA s 32 (upd (s.2.1 32) k1 (-1 : Int32))) 33 (upd (s.2.1 33) k3 (vp_nar .boolean (0 : Int32))))) rfl rfl) ?_
  refine gm_ev.iconst (v := 1) i13_124 (by decide) ?_
  refine gm_ev.icmp_le_t (tgt := 132) i13_125 (by decide) c8 ?_
  refine gm_ev.iconst (v := 0) i13_132 (by decide) ?_
  exact gm_ev.iret i13_133 rfl
theorem t_X0_judge_0_ttftff {N0 : Nat} {K : Nat → Nat} {d C : Nat} {s : cS} {G : gm_H} {sz sl : Nat} {p1 : Int32} {k1 : Nat} {k3 : Nat} (hN : N0 ≤ C) (ek1 : p1 = nI k1) (lk1 : k1 < 60) (c2 : (s.1 541) ≤ (1 : Int32)) (ek3 : p1 = nI k3) (lk3 : k3 < 60) (c4 : (s.1 88) = 0) (c5 : ¬ (s.1 501) = 0) (c6 : ¬ (s.1 541) = 0) (c7 : ¬ (s.1 501) ≤ (1 : Int32)) (c8 : ¬ (s.1 541) ≤ (1 : Int32)) : gm_ev N0 K ra_nm (ra_mt K) d (some .int) (gm_I cX0_judge) (gm_lkf (lkX0 false K)) 0 [some (.ref (C + 29)), some (.ref (C + 4)), some (.int p1), none, none] [] (bM C (cH C s) G) sz sl (.returned (some (.int (3 : Int32))), (bM C (cH C (cA (cA s 32 (upd (s.2.1 32) k1 (-1 : Int32))) 33 (upd (s.2.1 33) k3 (vp_nar .boolean (0 : Int32))))) G), sz, sl) := by
  refine gm_ev.aload_n i13_0 rfl ?_
  refine gm_ev.getfield (v := .ref (C + 32)) i13_1 rfl (bM_fld (j := 29) (fs := cF29 C s) rfl rfl) ?_
  refine gm_ev.iload_n i13_4 rfl ?_
  refine gm_ev.iconst (v := -1) i13_5 (by decide) ?_
  refine gm_ev.iastore (M' := (bM C (cH C (cA s 32 (upd (s.2.1 32) k1 (-1 : Int32)))) G)) i13_6 (bM_asti (j := 32) (n := 60) (f := s.2.1 32) rfl ek1 lk1 (by decide) hN rfl) ?_
  refine gm_ev.aload_n i13_7 rfl ?_
  refine gm_ev.getfield (v := .ref (C + 33)) i13_8 rfl (bM_fld (j := 29) (fs := cF29 C (cA s 32 (upd (s.2.1 32) k1 (-1 : Int32)))) rfl rfl) ?_
  refine gm_ev.iload_n i13_11 rfl ?_
  refine gm_ev.aload_n i13_12 rfl ?_
  refine gm_ev.getfield (v := .ref (C + 27)) i13_13 rfl (bM_fld (j := 4) (fs := cF4 C (cA s 32 (upd (s.2.1 32) k1 (-1 : Int32)))) rfl rfl) ?_
  refine gm_ev.getfield (v := .int (s.1 541)) i13_16 rfl (bM_fld (j := 27) (fs := cF27 C (cA s 32 (upd (s.2.1 32) k1 (-1 : Int32)))) rfl rfl) ?_
  refine gm_ev.iconst (v := 1) i13_19 (by decide) ?_
  refine gm_ev.icmp_le_t (tgt := 27) i13_20 (by decide) c2 ?_
  refine gm_ev.iconst (v := 0) i13_27 (by decide) ?_
  refine gm_ev.zastore (M' := (bM C (cH C (cA (cA s 32 (upd (s.2.1 32) k1 (-1 : Int32))) 33 (upd (s.2.1 33) k3 (vp_nar .boolean (0 : Int32))))) G)) i13_28 (bM_astn (j := 33) (n := 60) (f := s.2.1 33) rfl ek3 lk3 (by decide) hN rfl) ?_
  refine gm_ev.aload_n i13_29 rfl ?_
  refine gm_ev.getfield (v := .int (s.1 88)) i13_30 rfl (bM_fld (j := 4) (fs := cF4 C (cA (cA s 32 (upd (s.2.1 32) k1 (-1 : Int32))) 33 (upd (s.2.1 33) k3 (vp_nar .boolean (0 : Int32))))) rfl rfl) ?_
  refine gm_ev.if_eq_t (tgt := 84) i13_33 (by decide) c4 ?_
  refine gm_ev.aload_n i13_84 rfl ?_
  refine gm_ev.getfield (v := .ref (C + 25)) i13_85 rfl (bM_fld (j := 4) (fs := cF4 C (cA (cA s 32 (upd (s.2.1 32) k1 (-1 : Int32))) 33 (upd (s.2.1 33) k3 (vp_nar .boolean (0 : Int32))))) rfl rfl) ?_
  refine gm_ev.getfield (v := .int (s.1 501)) i13_88 rfl (bM_fld (j := 25) (fs := cF25 C (cA (cA s 32 (upd (s.2.1 32) k1 (-1 : Int32))) 33 (upd (s.2.1 33) k3 (vp_nar .boolean (0 : Int32))))) rfl rfl) ?_
  refine gm_ev.if_eq_f i13_91 c5 ?_
  refine gm_ev.aload_n i13_94 rfl ?_
  refine gm_ev.getfield (v := .ref (C + 27)) i13_95 rfl (bM_fld (j := 4) (fs := cF4 C (cA (cA s 32 (upd (s.2.1 32) k1 (-1 : Int32))) 33 (upd (s.2.1 33) k3 (vp_nar .boolean (0 : Int32))))) rfl rfl) ?_
  refine gm_ev.getfield (v := .int (s.1 541)) i13_98 rfl (bM_fld (j := 27) (fs := cF27 C (cA (cA s 32 (upd (s.2.1 32) k1 (-1 : Int32))) 33 (upd (s.2.1 33) k3 (vp_nar .boolean (0 : Int32))))) rfl rfl) ?_
  refine gm_ev.if_ne_t (tgt := 106) i13_101 (by decide) c6 ?_
  refine gm_ev.aload_n i13_106 rfl ?_
  refine gm_ev.getfield (v := .ref (C + 25)) i13_107 rfl (bM_fld (j := 4) (fs := cF4 C (cA (cA s 32 (upd (s.2.1 32) k1 (-1 : Int32))) 33 (upd (s.2.1 33) k3 (vp_nar .boolean (0 : Int32))))) rfl rfl) ?_
  refine gm_ev.getfield (v := .int (s.1 501)) i13_110 rfl (bM_fld (j := 25) (fs := cF25 C (cA (cA s 32 (upd (s.2.1 32) k1 (-1 : Int32))) 33 (upd (s.2.1 33) k3 (vp_nar .boolean (0 : Int32))))) rfl rfl) ?_
  refine gm_ev.iconst (v := 1) i13_113 (by decide) ?_
  refine gm_ev.icmp_le_f i13_114 c7 ?_
  refine gm_ev.aload_n i13_117 rfl ?_
  refine gm_ev.getfield (v := .ref (C + 27)) i13_118 rfl (bM_fld (j := 4) (fs := cF4 C (cA (cA s 32 (upd (s.2.1 32) k1 (-1 : Int32))) 33 (upd (s.2.1 33) k3 (vp_nar .boolean (0 : Int32))))) rfl rfl) ?_
  refine gm_ev.getfield (v := .int (s.1 541)) i13_121 rfl (bM_fld (j := 27) (fs := cF27 C (cA (cA s 32 (upd (s.2.1 32) k1 (-1 : Int32))) 33 (upd (s.2.1 33) k3 (vp_nar .boolean (0 : Int32))))) rfl rfl) ?_
  refine gm_ev.iconst (v := 1) i13_124 (by decide) ?_
  refine gm_ev.icmp_le_f i13_125 c8 ?_
  refine gm_ev.iconst (v := 3) i13_128 (by decide) ?_
  refine gm_ev.goto (tgt := 133) i13_129 (by decide) ?_
  exact gm_ev.iret i13_133 rfl
theorem t_X0_judge_0_ttff {N0 : Nat} {K : Nat → Nat} {d C : Nat} {s : cS} {G : gm_H} {sz sl : Nat} {p1 : Int32} {k1 : Nat} {k3 : Nat} (hN : N0 ≤ C) (ek1 : p1 = nI k1) (lk1 : k1 < 60) (c2 : (s.1 541) ≤ (1 : Int32)) (ek3 : p1 = nI k3) (lk3 : k3 < 60) (c4 : (s.1 88) = 0) (c5 : ¬ (s.1 501) = 0) (c6 : (s.1 541) = 0) : gm_ev N0 K ra_nm (ra_mt K) d (some .int) (gm_I cX0_judge) (gm_lkf (lkX0 false K)) 0 [some (.ref (C + 29)), some (.ref (C + 4)), some (.int p1), none, none] [] (bM C (cH C s) G) sz sl (.returned (some (.int (2 : Int32))), (bM C (cH C (cA (cA s 32 (upd (s.2.1 32) k1 (-1 : Int32))) 33 (upd (s.2.1 33) k3 (vp_nar .boolean (0 : Int32))))) G), sz, sl) := by
  refine gm_ev.aload_n i13_0 rfl ?_
  refine gm_ev.getfield (v := .ref (C + 32)) i13_1 rfl (bM_fld (j := 29) (fs := cF29 C s) rfl rfl) ?_
  refine gm_ev.iload_n i13_4 rfl ?_
  refine gm_ev.iconst (v := -1) i13_5 (by decide) ?_
  refine gm_ev.iastore (M' := (bM C (cH C (cA s 32 (upd (s.2.1 32) k1 (-1 : Int32)))) G)) i13_6 (bM_asti (j := 32) (n := 60) (f := s.2.1 32) rfl ek1 lk1 (by decide) hN rfl) ?_
  refine gm_ev.aload_n i13_7 rfl ?_
  refine gm_ev.getfield (v := .ref (C + 33)) i13_8 rfl (bM_fld (j := 29) (fs := cF29 C (cA s 32 (upd (s.2.1 32) k1 (-1 : Int32)))) rfl rfl) ?_
  refine gm_ev.iload_n i13_11 rfl ?_
  refine gm_ev.aload_n i13_12 rfl ?_
  refine gm_ev.getfield (v := .ref (C + 27)) i13_13 rfl (bM_fld (j := 4) (fs := cF4 C (cA s 32 (upd (s.2.1 32) k1 (-1 : Int32)))) rfl rfl) ?_
  refine gm_ev.getfield (v := .int (s.1 541)) i13_16 rfl (bM_fld (j := 27) (fs := cF27 C (cA s 32 (upd (s.2.1 32) k1 (-1 : Int32)))) rfl rfl) ?_
  refine gm_ev.iconst (v := 1) i13_19 (by decide) ?_
  refine gm_ev.icmp_le_t (tgt := 27) i13_20 (by decide) c2 ?_
  refine gm_ev.iconst (v := 0) i13_27 (by decide) ?_
  refine gm_ev.zastore (M' := (bM C (cH C (cA (cA s 32 (upd (s.2.1 32) k1 (-1 : Int32))) 33 (upd (s.2.1 33) k3 (vp_nar .boolean (0 : Int32))))) G)) i13_28 (bM_astn (j := 33) (n := 60) (f := s.2.1 33) rfl ek3 lk3 (by decide) hN rfl) ?_
  refine gm_ev.aload_n i13_29 rfl ?_
  refine gm_ev.getfield (v := .int (s.1 88)) i13_30 rfl (bM_fld (j := 4) (fs := cF4 C (cA (cA s 32 (upd (s.2.1 32) k1 (-1 : Int32))) 33 (upd (s.2.1 33) k3 (vp_nar .boolean (0 : Int32))))) rfl rfl) ?_
  refine gm_ev.if_eq_t (tgt := 84) i13_33 (by decide) c4 ?_
  refine gm_ev.aload_n i13_84 rfl ?_
  refine gm_ev.getfield (v := .ref (C + 25)) i13_85 rfl (bM_fld (j := 4) (fs := cF4 C (cA (cA s 32 (upd (s.2.1 32) k1 (-1 : Int32))) 33 (upd (s.2.1 33) k3 (vp_nar .boolean (0 : Int32))))) rfl rfl) ?_
  refine gm_ev.getfield (v := .int (s.1 501)) i13_88 rfl (bM_fld (j := 25) (fs := cF25 C (cA (cA s 32 (upd (s.2.1 32) k1 (-1 : Int32))) 33 (upd (s.2.1 33) k3 (vp_nar .boolean (0 : Int32))))) rfl rfl) ?_
  refine gm_ev.if_eq_f i13_91 c5 ?_
  refine gm_ev.aload_n i13_94 rfl ?_
  refine gm_ev.getfield (v := .ref (C + 27)) i13_95 rfl (bM_fld (j := 4) (fs := cF4 C (cA (cA s 32 (upd (s.2.1 32) k1 (-1 : Int32))) 33 (upd (s.2.1 33) k3 (vp_nar .boolean (0 : Int32))))) rfl rfl) ?_
  refine gm_ev.getfield (v := .int (s.1 541)) i13_98 rfl (bM_fld (j := 27) (fs := cF27 C (cA (cA s 32 (upd (s.2.1 32) k1 (-1 : Int32))) 33 (upd (s.2.1 33) k3 (vp_nar .boolean (0 : Int32))))) rfl rfl) ?_
  refine gm_ev.if_ne_f i13_101 c6 ?_
  refine gm_ev.iconst (v := 2) i13_104 (by decide) ?_
  exact gm_ev.iret i13_105 rfl
theorem t_X0_judge_0_tft {N0 : Nat} {K : Nat → Nat} {d C : Nat} {s : cS} {G : gm_H} {sz sl : Nat} {p1 : Int32} {k1 : Nat} {k3 : Nat} {r5 : Int32} {r7 : Int32} (hN : N0 ≤ C) (ek1 : p1 = nI k1) (lk1 : k1 < 60) (c2 : (s.1 541) ≤ (1 : Int32)) (ek3 : p1 = nI k3) (lk3 : k3 < 60) (c4 : ¬ (s.1 88) = 0) (t6 : gm_to N0 K ra_nm (ra_mt K) d 48 [.ref (C + 4), .int (0 : Int32)] (bM C (cH C (cA (cA s 32 (upd (s.2.1 32) k1 (-1 : Int32))) 33 (upd (s.2.1 33) k3 (vp_nar .boolean (0 : Int32))))) G) sz (.returned (some (.int r5)), (bM C (cH C (cA (cA s 32 (upd (s.2.1 32) k1 (-1 : Int32))) 33 (upd (s.2.1 33) k3 (vp_nar .boolean (0 : Int32))))) G), sz, 0)) (t8 : gm_to N0 K ra_nm (ra_mt K) d 48 [.ref (C + 4), .int (1 : Int32)] (bM C (cH C (cA (cA s 32 (upd (s.2.1 32) k1 (-1 : Int32))) 33 (upd (s.2.1 33) k3 (vp_nar .boolean (0 : Int32))))) G) sz (.returned (some (.int r7)), (bM C (cH C (cA (cA s 32 (upd (s.2.1 32) k1 (-1 : Int32))) 33 (upd (s.2.1 33) k3 (vp_nar .boolean (0 : Int32))))) G), sz, 0)) (c9 : r5 = (-1 : Int32)) : gm_ev N0 K ra_nm (ra_mt K) d (some .int) (gm_I cX0_judge) (gm_lkf (lkX0 false K)) 0 [some (.ref (C + 29)), some (.ref (C + 4)), some (.int p1), none, none] [] (bM C (cH C s) G) sz sl (.returned (some (.int (4 : Int32))), (bM C (cH C (cA (cA s 32 (upd (s.2.1 32) k1 (-1 : Int32))) 33 (upd (s.2.1 33) k3 (vp_nar .boolean (0 : Int32))))) G), sz, sl) := by
  refine gm_ev.aload_n i13_0 rfl ?_
  refine gm_ev.getfield (v := .ref (C + 32)) i13_1 rfl (bM_fld (j := 29) (fs := cF29 C s) rfl rfl) ?_
  refine gm_ev.iload_n i13_4 rfl ?_
  refine gm_ev.iconst (v := -1) i13_5 (by decide) ?_
  refine gm_ev.iastore (M' := (bM C (cH C (cA s 32 (upd (s.2.1 32) k1 (-1 : Int32)))) G)) i13_6 (bM_asti (j := 32) (n := 60) (f := s.2.1 32) rfl ek1 lk1 (by decide) hN rfl) ?_
  refine gm_ev.aload_n i13_7 rfl ?_
  refine gm_ev.getfield (v := .ref (C + 33)) i13_8 rfl (bM_fld (j := 29) (fs := cF29 C (cA s 32 (upd (s.2.1 32) k1 (-1 : Int32)))) rfl rfl) ?_
  refine gm_ev.iload_n i13_11 rfl ?_
  refine gm_ev.aload_n i13_12 rfl ?_
  refine gm_ev.getfield (v := .ref (C + 27)) i13_13 rfl (bM_fld (j := 4) (fs := cF4 C (cA s 32 (upd (s.2.1 32) k1 (-1 : Int32)))) rfl rfl) ?_
  refine gm_ev.getfield (v := .int (s.1 541)) i13_16 rfl (bM_fld (j := 27) (fs := cF27 C (cA s 32 (upd (s.2.1 32) k1 (-1 : Int32)))) rfl rfl) ?_
  refine gm_ev.iconst (v := 1) i13_19 (by decide) ?_
  refine gm_ev.icmp_le_t (tgt := 27) i13_20 (by decide) c2 ?_
  refine gm_ev.iconst (v := 0) i13_27 (by decide) ?_
  refine gm_ev.zastore (M' := (bM C (cH C (cA (cA s 32 (upd (s.2.1 32) k1 (-1 : Int32))) 33 (upd (s.2.1 33) k3 (vp_nar .boolean (0 : Int32))))) G)) i13_28 (bM_astn (j := 33) (n := 60) (f := s.2.1 33) rfl ek3 lk3 (by decide) hN rfl) ?_
  refine gm_ev.aload_n i13_29 rfl ?_
  refine gm_ev.getfield (v := .int (s.1 88)) i13_30 rfl (bM_fld (j := 4) (fs := cF4 C (cA (cA s 32 (upd (s.2.1 32) k1 (-1 : Int32))) 33 (upd (s.2.1 33) k3 (vp_nar .boolean (0 : Int32))))) rfl rfl) ?_
  refine gm_ev.if_eq_f i13_33 c4 ?_
  refine gm_ev.aload_n i13_36 rfl ?_
  refine gm_ev.iconst (v := 0) i13_37 (by decide) ?_
  refine gm_ev.callV gm_mono_run (av := [.int (0 : Int32)]) (r := []) (ci := 3) (fs := cF4 C (cA (cA s 32 (upd (s.2.1 32) k1 (-1 : Int32))) 33 (upd (s.2.1 33) k3 (vp_nar .boolean (0 : Int32))))) (bM_get (j := 4) rfl) i13_38 rfl rfl rfl (Nat.le_of_ble_eq_true rfl) t6 ?_
  refine gm_ev.istore_n (ls' := [some (.ref (C + 29)), some (.ref (C + 4)), some (.int p1), some (.int r5), none]) i13_41 (Nat.le_of_ble_eq_true rfl) rfl ?_
  refine gm_ev.aload_n i13_42 rfl ?_
  refine gm_ev.iconst (v := 1) i13_43 (by decide) ?_
  refine gm_ev.callV gm_mono_run (av := [.int (1 : Int32)]) (r := []) (ci := 3) (fs := cF4 C (cA (cA s 32 (upd (s.2.1 32) k1 (-1 : Int32))) 33 (upd (s.2.1 33) k3 (vp_nar .boolean (0 : Int32))))) (bM_get (j := 4) rfl) i13_44 rfl rfl rfl (Nat.le_of_ble_eq_true rfl) t8 ?_
  refine gm_ev.istore (ls' := [some (.ref (C + 29)), some (.ref (C + 4)), some (.int p1), some (.int r5), some (.int r7)]) i13_47 (Nat.le_of_ble_eq_true rfl) rfl ?_
  refine gm_ev.iload_n i13_49 rfl ?_
  refine gm_ev.iconst (v := -1) i13_50 (by decide) ?_
  refine gm_ev.icmp_eq_t (tgt := 60) i13_51 (by decide) c9 ?_
  refine gm_ev.iconst (v := 4) i13_60 (by decide) ?_
  exact gm_ev.iret i13_61 rfl
theorem t_X0_judge_0_tfftt {N0 : Nat} {K : Nat → Nat} {d C : Nat} {s : cS} {G : gm_H} {sz sl : Nat} {p1 : Int32} {k1 : Nat} {k3 : Nat} {r5 : Int32} {r7 : Int32} {k11 : Nat} (hN : N0 ≤ C) (ek1 : p1 = nI k1) (lk1 : k1 < 60) (c2 : (s.1 541) ≤ (1 : Int32)) (ek3 : p1 = nI k3) (lk3 : k3 < 60) (c4 : ¬ (s.1 88) = 0) (t6 : gm_to N0 K ra_nm (ra_mt K) d 48 [.ref (C + 4), .int (0 : Int32)] (bM C (cH C (cA (cA s 32 (upd (s.2.1 32) k1 (-1 : Int32))) 33 (upd (s.2.1 33) k3 (vp_nar .boolean (0 : Int32))))) G) sz (.returned (some (.int r5)), (bM C (cH C (cA (cA s 32 (upd (s.2.1 32) k1 (-1 : Int32))) 33 (upd (s.2.1 33) k3 (vp_nar .boolean (0 : Int32))))) G), sz, 0)) (t8 : gm_to N0 K ra_nm (ra_mt K) d 48 [.ref (C + 4), .int (1 : Int32)] (bM C (cH C (cA (cA s 32 (upd (s.2.1 32) k1 (-1 : Int32))) 33 (upd (s.2.1 33) k3 (vp_nar .boolean (0 : Int32))))) G) sz (.returned (some (.int r7)), (bM C (cH C (cA (cA s 32 (upd (s.2.1 32) k1 (-1 : Int32))) 33 (upd (s.2.1 33) k3 (vp_nar .boolean (0 : Int32))))) G), sz, 0)) (c9 : ¬ r5 = (-1 : Int32)) (c10 : ¬ r7 = (-1 : Int32)) (ek11 : p1 = nI k11) (lk11 : k11 < 60) (c12 : ¬ (r5 + r7) = (8 : Int32)) : gm_ev N0 K ra_nm (ra_mt K) d (some .int) (gm_I cX0_judge) (gm_lkf (lkX0 false K)) 0 [some (.ref (C + 29)), some (.ref (C + 4)), some (.int p1), none, none] [] (bM C (cH C s) G) sz sl (.returned (some (.int (5 : Int32))), (bM C (cH C (cA (cA (cA s 32 (upd (s.2.1 32) k1 (-1 : Int32))) 33 (upd (s.2.1 33) k3 (vp_nar .boolean (0 : Int32)))) 32 (upd (upd (s.2.1 32) k1 (-1 : Int32)) k11 r5))) G), sz, sl) := by
  refine gm_ev.aload_n i13_0 rfl ?_
  refine gm_ev.getfield (v := .ref (C + 32)) i13_1 rfl (bM_fld (j := 29) (fs := cF29 C s) rfl rfl) ?_
  refine gm_ev.iload_n i13_4 rfl ?_
  refine gm_ev.iconst (v := -1) i13_5 (by decide) ?_
  refine gm_ev.iastore (M' := (bM C (cH C (cA s 32 (upd (s.2.1 32) k1 (-1 : Int32)))) G)) i13_6 (bM_asti (j := 32) (n := 60) (f := s.2.1 32) rfl ek1 lk1 (by decide) hN rfl) ?_
  refine gm_ev.aload_n i13_7 rfl ?_
  refine gm_ev.getfield (v := .ref (C + 33)) i13_8 rfl (bM_fld (j := 29) (fs := cF29 C (cA s 32 (upd (s.2.1 32) k1 (-1 : Int32)))) rfl rfl) ?_
  refine gm_ev.iload_n i13_11 rfl ?_
  refine gm_ev.aload_n i13_12 rfl ?_
  refine gm_ev.getfield (v := .ref (C + 27)) i13_13 rfl (bM_fld (j := 4) (fs := cF4 C (cA s 32 (upd (s.2.1 32) k1 (-1 : Int32)))) rfl rfl) ?_
  refine gm_ev.getfield (v := .int (s.1 541)) i13_16 rfl (bM_fld (j := 27) (fs := cF27 C (cA s 32 (upd (s.2.1 32) k1 (-1 : Int32)))) rfl rfl) ?_
  refine gm_ev.iconst (v := 1) i13_19 (by decide) ?_
  refine gm_ev.icmp_le_t (tgt := 27) i13_20 (by decide) c2 ?_
  refine gm_ev.iconst (v := 0) i13_27 (by decide) ?_
  refine gm_ev.zastore (M' := (bM C (cH C (cA (cA s 32 (upd (s.2.1 32) k1 (-1 : Int32))) 33 (upd (s.2.1 33) k3 (vp_nar .boolean (0 : Int32))))) G)) i13_28 (bM_astn (j := 33) (n := 60) (f := s.2.1 33) rfl ek3 lk3 (by decide) hN rfl) ?_
  refine gm_ev.aload_n i13_29 rfl ?_
  refine gm_ev.getfield (v := .int (s.1 88)) i13_30 rfl (bM_fld (j := 4) (fs := cF4 C (cA (cA s 32 (upd (s.2.1 32) k1 (-1 : Int32))) 33 (upd (s.2.1 33) k3 (vp_nar .boolean (0 : Int32))))) rfl rfl) ?_
  refine gm_ev.if_eq_f i13_33 c4 ?_
  refine gm_ev.aload_n i13_36 rfl ?_
  refine gm_ev.iconst (v := 0) i13_37 (by decide) ?_
  refine gm_ev.callV gm_mono_run (av := [.int (0 : Int32)]) (r := []) (ci := 3) (fs := cF4 C (cA (cA s 32 (upd (s.2.1 32) k1 (-1 : Int32))) 33 (upd (s.2.1 33) k3 (vp_nar .boolean (0 : Int32))))) (bM_get (j := 4) rfl) i13_38 rfl rfl rfl (Nat.le_of_ble_eq_true rfl) t6 ?_
  refine gm_ev.istore_n (ls' := [some (.ref (C + 29)), some (.ref (C + 4)), some (.int p1), some (.int r5), none]) i13_41 (Nat.le_of_ble_eq_true rfl) rfl ?_
  refine gm_ev.aload_n i13_42 rfl ?_
  refine gm_ev.iconst (v := 1) i13_43 (by decide) ?_
  refine gm_ev.callV gm_mono_run (av := [.int (1 : Int32)]) (r := []) (ci := 3) (fs := cF4 C (cA (cA s 32 (upd (s.2.1 32) k1 (-1 : Int32))) 33 (upd (s.2.1 33) k3 (vp_nar .boolean (0 : Int32))))) (bM_get (j := 4) rfl) i13_44 rfl rfl rfl (Nat.le_of_ble_eq_true rfl) t8 ?_
  refine gm_ev.istore (ls' := [some (.ref (C + 29)), some (.ref (C + 4)), some (.int p1), some (.int r5), some (.int r7)]) i13_47 (Nat.le_of_ble_eq_true rfl) rfl ?_
  refine gm_ev.iload_n i13_49 rfl ?_
  refine gm_ev.iconst (v := -1) i13_50 (by decide) ?_
  refine gm_ev.icmp_eq_f i13_51 c9 ?_
  refine gm_ev.iload i13_54 rfl ?_
  refine gm_ev.iconst (v := -1) i13_56 (by decide) ?_
  refine gm_ev.icmp_ne_t (tgt := 62) i13_57 (by decide) c10 ?_
  refine gm_ev.aload_n i13_62 rfl ?_
  refine gm_ev.getfield (v := .ref (C + 32)) i13_63 rfl (bM_fld (j := 29) (fs := cF29 C (cA (cA s 32 (upd (s.2.1 32) k1 (-1 : Int32))) 33 (upd (s.2.1 33) k3 (vp_nar .boolean (0 : Int32))))) rfl rfl) ?_
  refine gm_ev.iload_n i13_66 rfl ?_
  refine gm_ev.iload_n i13_67 rfl ?_
  refine gm_ev.iastore (M' := (bM C (cH C (cA (cA (cA s 32 (upd (s.2.1 32) k1 (-1 : Int32))) 33 (upd (s.2.1 33) k3 (vp_nar .boolean (0 : Int32)))) 32 (upd (upd (s.2.1 32) k1 (-1 : Int32)) k11 r5))) G)) i13_68 (bM_asti (j := 32) (n := 60) (f := (upd (s.2.1 32) k1 (-1 : Int32))) rfl ek11 lk11 (by decide) hN rfl) ?_
  refine gm_ev.iload_n i13_69 rfl ?_
  refine gm_ev.iload i13_70 rfl ?_
  refine gm_ev.iadd i13_72 ?_
  refine gm_ev.bipush (v := 8) i13_73 (by decide) ?_
  refine gm_ev.icmp_ne_t (tgt := 82) i13_75 (by decide) c12 ?_
  refine gm_ev.iconst (v := 5) i13_82 (by decide) ?_
  exact gm_ev.iret i13_83 rfl
theorem t_X0_judge_0_tfftf {N0 : Nat} {K : Nat → Nat} {d C : Nat} {s : cS} {G : gm_H} {sz sl : Nat} {p1 : Int32} {k1 : Nat} {k3 : Nat} {r5 : Int32} {r7 : Int32} {k11 : Nat} (hN : N0 ≤ C) (ek1 : p1 = nI k1) (lk1 : k1 < 60) (c2 : (s.1 541) ≤ (1 : Int32)) (ek3 : p1 = nI k3) (lk3 : k3 < 60) (c4 : ¬ (s.1 88) = 0) (t6 : gm_to N0 K ra_nm (ra_mt K) d 48 [.ref (C + 4), .int (0 : Int32)] (bM C (cH C (cA (cA s 32 (upd (s.2.1 32) k1 (-1 : Int32))) 33 (upd (s.2.1 33) k3 (vp_nar .boolean (0 : Int32))))) G) sz (.returned (some (.int r5)), (bM C (cH C (cA (cA s 32 (upd (s.2.1 32) k1 (-1 : Int32))) 33 (upd (s.2.1 33) k3 (vp_nar .boolean (0 : Int32))))) G), sz, 0)) (t8 : gm_to N0 K ra_nm (ra_mt K) d 48 [.ref (C + 4), .int (1 : Int32)] (bM C (cH C (cA (cA s 32 (upd (s.2.1 32) k1 (-1 : Int32))) 33 (upd (s.2.1 33) k3 (vp_nar .boolean (0 : Int32))))) G) sz (.returned (some (.int r7)), (bM C (cH C (cA (cA s 32 (upd (s.2.1 32) k1 (-1 : Int32))) 33 (upd (s.2.1 33) k3 (vp_nar .boolean (0 : Int32))))) G), sz, 0)) (c9 : ¬ r5 = (-1 : Int32)) (c10 : ¬ r7 = (-1 : Int32)) (ek11 : p1 = nI k11) (lk11 : k11 < 60) (c12 : (r5 + r7) = (8 : Int32)) : gm_ev N0 K ra_nm (ra_mt K) d (some .int) (gm_I cX0_judge) (gm_lkf (lkX0 false K)) 0 [some (.ref (C + 29)), some (.ref (C + 4)), some (.int p1), none, none] [] (bM C (cH C s) G) sz sl (.returned (some (.int (0 : Int32))), (bM C (cH C (cA (cA (cA s 32 (upd (s.2.1 32) k1 (-1 : Int32))) 33 (upd (s.2.1 33) k3 (vp_nar .boolean (0 : Int32)))) 32 (upd (upd (s.2.1 32) k1 (-1 : Int32)) k11 r5))) G), sz, sl) := by
  refine gm_ev.aload_n i13_0 rfl ?_
  refine gm_ev.getfield (v := .ref (C + 32)) i13_1 rfl (bM_fld (j := 29) (fs := cF29 C s) rfl rfl) ?_
  refine gm_ev.iload_n i13_4 rfl ?_
  refine gm_ev.iconst (v := -1) i13_5 (by decide) ?_
  refine gm_ev.iastore (M' := (bM C (cH C (cA s 32 (upd (s.2.1 32) k1 (-1 : Int32)))) G)) i13_6 (bM_asti (j := 32) (n := 60) (f := s.2.1 32) rfl ek1 lk1 (by decide) hN rfl) ?_
  refine gm_ev.aload_n i13_7 rfl ?_
  refine gm_ev.getfield (v := .ref (C + 33)) i13_8 rfl (bM_fld (j := 29) (fs := cF29 C (cA s 32 (upd (s.2.1 32) k1 (-1 : Int32)))) rfl rfl) ?_
  refine gm_ev.iload_n i13_11 rfl ?_
  refine gm_ev.aload_n i13_12 rfl ?_
  refine gm_ev.getfield (v := .ref (C + 27)) i13_13 rfl (bM_fld (j := 4) (fs := cF4 C (cA s 32 (upd (s.2.1 32) k1 (-1 : Int32)))) rfl rfl) ?_
  refine gm_ev.getfield (v := .int (s.1 541)) i13_16 rfl (bM_fld (j := 27) (fs := cF27 C (cA s 32 (upd (s.2.1 32) k1 (-1 : Int32)))) rfl rfl) ?_
  refine gm_ev.iconst (v := 1) i13_19 (by decide) ?_
  refine gm_ev.icmp_le_t (tgt := 27) i13_20 (by decide) c2 ?_
  refine gm_ev.iconst (v := 0) i13_27 (by decide) ?_
  refine gm_ev.zastore (M' := (bM C (cH C (cA (cA s 32 (upd (s.2.1 32) k1 (-1 : Int32))) 33 (upd (s.2.1 33) k3 (vp_nar .boolean (0 : Int32))))) G)) i13_28 (bM_astn (j := 33) (n := 60) (f := s.2.1 33) rfl ek3 lk3 (by decide) hN rfl) ?_
  refine gm_ev.aload_n i13_29 rfl ?_
  refine gm_ev.getfield (v := .int (s.1 88)) i13_30 rfl (bM_fld (j := 4) (fs := cF4 C (cA (cA s 32 (upd (s.2.1 32) k1 (-1 : Int32))) 33 (upd (s.2.1 33) k3 (vp_nar .boolean (0 : Int32))))) rfl rfl) ?_
  refine gm_ev.if_eq_f i13_33 c4 ?_
  refine gm_ev.aload_n i13_36 rfl ?_
  refine gm_ev.iconst (v := 0) i13_37 (by decide) ?_
  refine gm_ev.callV gm_mono_run (av := [.int (0 : Int32)]) (r := []) (ci := 3) (fs := cF4 C (cA (cA s 32 (upd (s.2.1 32) k1 (-1 : Int32))) 33 (upd (s.2.1 33) k3 (vp_nar .boolean (0 : Int32))))) (bM_get (j := 4) rfl) i13_38 rfl rfl rfl (Nat.le_of_ble_eq_true rfl) t6 ?_
  refine gm_ev.istore_n (ls' := [some (.ref (C + 29)), some (.ref (C + 4)), some (.int p1), some (.int r5), none]) i13_41 (Nat.le_of_ble_eq_true rfl) rfl ?_
  refine gm_ev.aload_n i13_42 rfl ?_
  refine gm_ev.iconst (v := 1) i13_43 (by decide) ?_
  refine gm_ev.callV gm_mono_run (av := [.int (1 : Int32)]) (r := []) (ci := 3) (fs := cF4 C (cA (cA s 32 (upd (s.2.1 32) k1 (-1 : Int32))) 33 (upd (s.2.1 33) k3 (vp_nar .boolean (0 : Int32))))) (bM_get (j := 4) rfl) i13_44 rfl rfl rfl (Nat.le_of_ble_eq_true rfl) t8 ?_
  refine gm_ev.istore (ls' := [some (.ref (C + 29)), some (.ref (C + 4)), some (.int p1), some (.int r5), some (.int r7)]) i13_47 (Nat.le_of_ble_eq_true rfl) rfl ?_
  refine gm_ev.iload_n i13_49 rfl ?_
  refine gm_ev.iconst (v := -1) i13_50 (by decide) ?_
  refine gm_ev.icmp_eq_f i13_51 c9 ?_
  refine gm_ev.iload i13_54 rfl ?_
  refine gm_ev.iconst (v := -1) i13_56 (by decide) ?_
  refine gm_ev.icmp_ne_t (tgt := 62) i13_57 (by decide) c10 ?_
  refine gm_ev.aload_n i13_62 rfl ?_
  refine gm_ev.getfield (v := .ref (C + 32)) i13_63 rfl (bM_fld (j := 29) (fs := cF29 C (cA (cA s 32 (upd (s.2.1 32) k1 (-1 : Int32))) 33 (upd (s.2.1 33) k3 (vp_nar .boolean (0 : Int32))))) rfl rfl) ?_
  refine gm_ev.iload_n i13_66 rfl ?_
  refine gm_ev.iload_n i13_67 rfl ?_
  refine gm_ev.iastore (M' := (bM C (cH C (cA (cA (cA s 32 (upd (s.2.1 32) k1 (-1 : Int32))) 33 (upd (s.2.1 33) k3 (vp_nar .boolean (0 : Int32)))) 32 (upd (upd (s.2.1 32) k1 (-1 : Int32)) k11 r5))) G)) i13_68 (bM_asti (j := 32) (n := 60) (f := (upd (s.2.1 32) k1 (-1 : Int32))) rfl ek11 lk11 (by decide) hN rfl) ?_
  refine gm_ev.iload_n i13_69 rfl ?_
  refine gm_ev.iload i13_70 rfl ?_
  refine gm_ev.iadd i13_72 ?_
  refine gm_ev.bipush (v := 8) i13_73 (by decide) ?_
  refine gm_ev.icmp_ne_f i13_75 c12 ?_
  refine gm_ev.iconst (v := 0) i13_78 (by decide) ?_
  refine gm_ev.goto (tgt := 83) i13_79 (by decide) ?_
  exact gm_ev.iret i13_83 rfl
theorem t_X0_judge_0_tfff {N0 : Nat} {K : Nat → Nat} {d C : Nat} {s : cS} {G : gm_H} {sz sl : Nat} {p1 : Int32} {k1 : Nat} {k3 : Nat} {r5 : Int32} {r7 : Int32} (hN : N0 ≤ C) (ek1 : p1 = nI k1) (lk1 : k1 < 60) (c2 : (s.1 541) ≤ (1 : Int32)) (ek3 : p1 = nI k3) (lk3 : k3 < 60) (c4 : ¬ (s.1 88) = 0) (t6 : gm_to N0 K ra_nm (ra_mt K) d 48 [.ref (C + 4), .int (0 : Int32)] (bM C (cH C (cA (cA s 32 (upd (s.2.1 32) k1 (-1 : Int32))) 33 (upd (s.2.1 33) k3 (vp_nar .boolean (0 : Int32))))) G) sz (.returned (some (.int r5)), (bM C (cH C (cA (cA s 32 (upd (s.2.1 32) k1 (-1 : Int32))) 33 (upd (s.2.1 33) k3 (vp_nar .boolean (0 : Int32))))) G), sz, 0)) (t8 : gm_to N0 K ra_nm (ra_mt K) d 48 [.ref (C + 4), .int (1 : Int32)] (bM C (cH C (cA (cA s 32 (upd (s.2.1 32) k1 (-1 : Int32))) 33 (upd (s.2.1 33) k3 (vp_nar .boolean (0 : Int32))))) G) sz (.returned (some (.int r7)), (bM C (cH C (cA (cA s 32 (upd (s.2.1 32) k1 (-1 : Int32))) 33 (upd (s.2.1 33) k3 (vp_nar .boolean (0 : Int32))))) G), sz, 0)) (c9 : ¬ r5 = (-1 : Int32)) (c10 : r7 = (-1 : Int32)) : gm_ev N0 K ra_nm (ra_mt K) d (some .int) (gm_I cX0_judge) (gm_lkf (lkX0 false K)) 0 [some (.ref (C + 29)), some (.ref (C + 4)), some (.int p1), none, none] [] (bM C (cH C s) G) sz sl (.returned (some (.int (4 : Int32))), (bM C (cH C (cA (cA s 32 (upd (s.2.1 32) k1 (-1 : Int32))) 33 (upd (s.2.1 33) k3 (vp_nar .boolean (0 : Int32))))) G), sz, sl) := by
  refine gm_ev.aload_n i13_0 rfl ?_
  refine gm_ev.getfield (v := .ref (C + 32)) i13_1 rfl (bM_fld (j := 29) (fs := cF29 C s) rfl rfl) ?_
  refine gm_ev.iload_n i13_4 rfl ?_
  refine gm_ev.iconst (v := -1) i13_5 (by decide) ?_
  refine gm_ev.iastore (M' := (bM C (cH C (cA s 32 (upd (s.2.1 32) k1 (-1 : Int32)))) G)) i13_6 (bM_asti (j := 32) (n := 60) (f := s.2.1 32) rfl ek1 lk1 (by decide) hN rfl) ?_
  refine gm_ev.aload_n i13_7 rfl ?_
  refine gm_ev.getfield (v := .ref (C + 33)) i13_8 rfl (bM_fld (j := 29) (fs := cF29 C (cA s 32 (upd (s.2.1 32) k1 (-1 : Int32)))) rfl rfl) ?_
  refine gm_ev.iload_n i13_11 rfl ?_
  refine gm_ev.aload_n i13_12 rfl ?_
  refine gm_ev.getfield (v := .ref (C + 27)) i13_13 rfl (bM_fld (j := 4) (fs := cF4 C (cA s 32 (upd (s.2.1 32) k1 (-1 : Int32)))) rfl rfl) ?_
  refine gm_ev.getfield (v := .int (s.1 541)) i13_16 rfl (bM_fld (j := 27) (fs := cF27 C (cA s 32 (upd (s.2.1 32) k1 (-1 : Int32)))) rfl rfl) ?_
  refine gm_ev.iconst (v := 1) i13_19 (by decide) ?_
  refine gm_ev.icmp_le_t (tgt := 27) i13_20 (by decide) c2 ?_
  refine gm_ev.iconst (v := 0) i13_27 (by decide) ?_
  refine gm_ev.zastore (M' := (bM C (cH C (cA (cA s 32 (upd (s.2.1 32) k1 (-1 : Int32))) 33 (upd (s.2.1 33) k3 (vp_nar .boolean (0 : Int32))))) G)) i13_28 (bM_astn (j := 33) (n := 60) (f := s.2.1 33) rfl ek3 lk3 (by decide) hN rfl) ?_
  refine gm_ev.aload_n i13_29 rfl ?_
  refine gm_ev.getfield (v := .int (s.1 88)) i13_30 rfl (bM_fld (j := 4) (fs := cF4 C (cA (cA s 32 (upd (s.2.1 32) k1 (-1 : Int32))) 33 (upd (s.2.1 33) k3 (vp_nar .boolean (0 : Int32))))) rfl rfl) ?_
  refine gm_ev.if_eq_f i13_33 c4 ?_
  refine gm_ev.aload_n i13_36 rfl ?_
  refine gm_ev.iconst (v := 0) i13_37 (by decide) ?_
  refine gm_ev.callV gm_mono_run (av := [.int (0 : Int32)]) (r := []) (ci := 3) (fs := cF4 C (cA (cA s 32 (upd (s.2.1 32) k1 (-1 : Int32))) 33 (upd (s.2.1 33) k3 (vp_nar .boolean (0 : Int32))))) (bM_get (j := 4) rfl) i13_38 rfl rfl rfl (Nat.le_of_ble_eq_true rfl) t6 ?_
  refine gm_ev.istore_n (ls' := [some (.ref (C + 29)), some (.ref (C + 4)), some (.int p1), some (.int r5), none]) i13_41 (Nat.le_of_ble_eq_true rfl) rfl ?_
  refine gm_ev.aload_n i13_42 rfl ?_
  refine gm_ev.iconst (v := 1) i13_43 (by decide) ?_
  refine gm_ev.callV gm_mono_run (av := [.int (1 : Int32)]) (r := []) (ci := 3) (fs := cF4 C (cA (cA s 32 (upd (s.2.1 32) k1 (-1 : Int32))) 33 (upd (s.2.1 33) k3 (vp_nar .boolean (0 : Int32))))) (bM_get (j := 4) rfl) i13_44 rfl rfl rfl (Nat.le_of_ble_eq_true rfl) t8 ?_
  refine gm_ev.istore (ls' := [some (.ref (C + 29)), some (.ref (C + 4)), some (.int p1), some (.int r5), some (.int r7)]) i13_47 (Nat.le_of_ble_eq_true rfl) rfl ?_
  refine gm_ev.iload_n i13_49 rfl ?_
  refine gm_ev.iconst (v := -1) i13_50 (by decide) ?_
  refine gm_ev.icmp_eq_f i13_51 c9 ?_
  refine gm_ev.iload i13_54 rfl ?_
  refine gm_ev.iconst (v := -1) i13_56 (by decide) ?_
  refine gm_ev.icmp_ne_f i13_57 c10 ?_
  refine gm_ev.iconst (v := 4) i13_60 (by decide) ?_
  exact gm_ev.iret i13_61 rfl
theorem t_X0_judge_0_ftt {N0 : Nat} {K : Nat → Nat} {d C : Nat} {s : cS} {G : gm_H} {sz sl : Nat} {p1 : Int32} {k1 : Nat} {k3 : Nat} (hN : N0 ≤ C) (ek1 : p1 = nI k1) (lk1 : k1 < 60) (c2 : ¬ (s.1 541) ≤ (1 : Int32)) (ek3 : p1 = nI k3) (lk3 : k3 < 60) (c4 : (s.1 88) = 0) (c5 : (s.1 501) = 0) : gm_ev N0 K ra_nm (ra_mt K) d (some .int) (gm_I cX0_judge) (gm_lkf (lkX0 false K)) 0 [some (.ref (C + 29)), some (.ref (C + 4)), some (.int p1), none, none] [] (bM C (cH C s) G) sz sl (.returned (some (.int (2 : Int32))), (bM C (cH C (cA (cA s 32 (upd (s.2.1 32) k1 (-1 : Int32))) 33 (upd (s.2.1 33) k3 (vp_nar .boolean (1 : Int32))))) G), sz, sl) := by
  refine gm_ev.aload_n i13_0 rfl ?_
  refine gm_ev.getfield (v := .ref (C + 32)) i13_1 rfl (bM_fld (j := 29) (fs := cF29 C s) rfl rfl) ?_
  refine gm_ev.iload_n i13_4 rfl ?_
  refine gm_ev.iconst (v := -1) i13_5 (by decide) ?_
  refine gm_ev.iastore (M' := (bM C (cH C (cA s 32 (upd (s.2.1 32) k1 (-1 : Int32)))) G)) i13_6 (bM_asti (j := 32) (n := 60) (f := s.2.1 32) rfl ek1 lk1 (by decide) hN rfl) ?_
  refine gm_ev.aload_n i13_7 rfl ?_
  refine gm_ev.getfield (v := .ref (C + 33)) i13_8 rfl (bM_fld (j := 29) (fs := cF29 C (cA s 32 (upd (s.2.1 32) k1 (-1 : Int32)))) rfl rfl) ?_
  refine gm_ev.iload_n i13_11 rfl ?_
  refine gm_ev.aload_n i13_12 rfl ?_
  refine gm_ev.getfield (v := .ref (C + 27)) i13_13 rfl (bM_fld (j := 4) (fs := cF4 C (cA s 32 (upd (s.2.1 32) k1 (-1 : Int32)))) rfl rfl) ?_
  refine gm_ev.getfield (v := .int (s.1 541)) i13_16 rfl (bM_fld (j := 27) (fs := cF27 C (cA s 32 (upd (s.2.1 32) k1 (-1 : Int32)))) rfl rfl) ?_
  refine gm_ev.iconst (v := 1) i13_19 (by decide) ?_
  refine gm_ev.icmp_le_f i13_20 c2 ?_
  refine gm_ev.iconst (v := 1) i13_23 (by decide) ?_
  refine gm_ev.goto (tgt := 28) i13_24 (by decide) ?_
  refine gm_ev.zastore (M' := (bM C (cH C (cA (cA s 32 (upd (s.2.1 32) k1 (-1 : Int32))) 33 (upd (s.2.1 33) k3 (vp_nar .boolean (1 : Int32))))) G)) i13_28 (bM_astn (j := 33) (n := 60) (f := s.2.1 33) rfl ek3 lk3 (by decide) hN rfl) ?_
  refine gm_ev.aload_n i13_29 rfl ?_
  refine gm_ev.getfield (v := .int (s.1 88)) i13_30 rfl (bM_fld (j := 4) (fs := cF4 C (cA (cA s 32 (upd (s.2.1 32) k1 (-1 : Int32))) 33 (upd (s.2.1 33) k3 (vp_nar .boolean (1 : Int32))))) rfl rfl) ?_
  refine gm_ev.if_eq_t (tgt := 84) i13_33 (by decide) c4 ?_
  refine gm_ev.aload_n i13_84 rfl ?_
  refine gm_ev.getfield (v := .ref (C + 25)) i13_85 rfl (bM_fld (j := 4) (fs := cF4 C (cA (cA s 32 (upd (s.2.1 32) k1 (-1 : Int32))) 33 (upd (s.2.1 33) k3 (vp_nar .boolean (1 : Int32))))) rfl rfl) ?_
  refine gm_ev.getfield (v := .int (s.1 501)) i13_88 rfl (bM_fld (j := 25) (fs := cF25 C (cA (cA s 32 (upd (s.2.1 32) k1 (-1 : Int32))) 33 (upd (s.2.1 33) k3 (vp_nar .boolean (1 : Int32))))) rfl rfl) ?_
  refine gm_ev.if_eq_t (tgt := 104) i13_91 (by decide) c5 ?_
  refine gm_ev.iconst (v := 2) i13_104 (by decide) ?_
  exact gm_ev.iret i13_105 rfl
theorem t_X0_judge_0_ftftt {N0 : Nat} {K : Nat → Nat} {d C : Nat} {s : cS} {G : gm_H} {sz sl : Nat} {p1 : Int32} {k1 : Nat} {k3 : Nat} (hN : N0 ≤ C) (ek1 : p1 = nI k1) (lk1 : k1 < 60) (c2 : ¬ (s.1 541) ≤ (1 : Int32)) (ek3 : p1 = nI k3) (lk3 : k3 < 60) (c4 : (s.1 88) = 0) (c5 : ¬ (s.1 501) = 0) (c6 : ¬ (s.1 541) = 0) (c7 : (s.1 501) ≤ (1 : Int32)) : gm_ev N0 K ra_nm (ra_mt K) d (some .int) (gm_I cX0_judge) (gm_lkf (lkX0 false K)) 0 [some (.ref (C + 29)), some (.ref (C + 4)), some (.int p1), none, none] [] (bM C (cH C s) G) sz sl (.returned (some (.int (0 : Int32))), (bM C (cH C (cA (cA s 32 (upd (s.2.1 32) k1 (-1 : Int32))) 33 (upd (s.2.1 33) k3 (vp_nar .boolean (1 : Int32))))) G), sz, sl) := by
  refine gm_ev.aload_n i13_0 rfl ?_
  refine gm_ev.getfield (v := .ref (C + 32)) i13_1 rfl (bM_fld (j := 29) (fs := cF29 C s) rfl rfl) ?_
  refine gm_ev.iload_n i13_4 rfl ?_
  refine gm_ev.iconst (v := -1) i13_5 (by decide) ?_
  refine gm_ev.iastore (M' := (bM C (cH C (cA s 32 (upd (s.2.1 32) k1 (-1 : Int32)))) G)) i13_6 (bM_asti (j := 32) (n := 60) (f := s.2.1 32) rfl ek1 lk1 (by decide) hN rfl) ?_
  refine gm_ev.aload_n i13_7 rfl ?_
  refine gm_ev.getfield (v := .ref (C + 33)) i13_8 rfl (bM_fld (j := 29) (fs := cF29 C (cA s 32 (upd (s.2.1 32) k1 (-1 : Int32)))) rfl rfl) ?_
  refine gm_ev.iload_n i13_11 rfl ?_
  refine gm_ev.aload_n i13_12 rfl ?_
  refine gm_ev.getfield (v := .ref (C + 27)) i13_13 rfl (bM_fld (j := 4) (fs := cF4 C (cA s 32 (upd (s.2.1 32) k1 (-1 : Int32)))) rfl rfl) ?_
  refine gm_ev.getfield (v := .int (s.1 541)) i13_16 rfl (bM_fld (j := 27) (fs := cF27 C (cA s 32 (upd (s.2.1 32) k1 (-1 : Int32)))) rfl rfl) ?_
  refine gm_ev.iconst (v := 1) i13_19 (by decide) ?_
  refine gm_ev.icmp_le_f i13_20 c2 ?_
  refine gm_ev.iconst (v := 1) i13_23 (by decide) ?_
  refine gm_ev.goto (tgt := 28) i13_24 (by decide) ?_
  refine gm_ev.zastore (M' := (bM C (cH C (cA (cA s 32 (upd (s.2.1 32) k1 (-1 : Int32))) 33 (upd (s.2.1 33) k3 (vp_nar .boolean (1 : Int32))))) G)) i13_28 (bM_astn (j := 33) (n := 60) (f := s.2.1 33) rfl ek3 lk3 (by decide) hN rfl) ?_
  refine gm_ev.aload_n i13_29 rfl ?_
  refine gm_ev.getfield (v := .int (s.1 88)) i13_30 rfl (bM_fld (j := 4) (fs := cF4 C (cA (cA s 32 (upd (s.2.1 32) k1 (-1 : Int32))) 33 (upd (s.2.1 33) k3 (vp_nar .boolean (1 : Int32))))) rfl rfl) ?_
  refine gm_ev.if_eq_t (tgt := 84) i13_33 (by decide) c4 ?_
  refine gm_ev.aload_n i13_84 rfl ?_
  refine gm_ev.getfield (v := .ref (C + 25)) i13_85 rfl (bM_fld (j := 4) (fs := cF4 C (cA (cA s 32 (upd (s.2.1 32) k1 (-1 : Int32))) 33 (upd (s.2.1 33) k3 (vp_nar .boolean (1 : Int32))))) rfl rfl) ?_
  refine gm_ev.getfield (v := .int (s.1 501)) i13_88 rfl (bM_fld (j := 25) (fs := cF25 C (cA (cA s 32 (upd (s.2.1 32) k1 (-1 : Int32))) 33 (upd (s.2.1 33) k3 (vp_nar .boolean (1 : Int32))))) rfl rfl) ?_
  refine gm_ev.if_eq_f i13_91 c5 ?_
  refine gm_ev.aload_n i13_94 rfl ?_
  refine gm_ev.getfield (v := .ref (C + 27)) i13_95 rfl (bM_fld (j := 4) (fs := cF4 C (cA (cA s 32 (upd (s.2.1 32) k1 (-1 : Int32))) 33 (upd (s.2.1 33) k3 (vp_nar .boolean (1 : Int32))))) rfl rfl) ?_
  refine gm_ev.getfield (v := .int (s.1 541)) i13_98 rfl (bM_fld (j := 27) (fs := cF27 C (cA (cA s 32 (upd (s.2.1 32) k1 (-1 : Int32))) 33 (upd (s.2.1 33) k3 (vp_nar .boolean (1 : Int32))))) rfl rfl) ?_
  refine gm_ev.if_ne_t (tgt := 106) i13_101 (by decide) c6 ?_
  refine gm_ev.aload_n i13_106 rfl ?_
  refine gm_ev.getfield (v := .ref (C + 25)) i13_107 rfl (bM_fld (j := 4) (fs := cF4 C (cA (cA s 32 (upd (s.2.1 32) k1 (-1 : Int32))) 33 (upd (s.2.1 33) k3 (vp_nar .boolean (1 : Int32))))) rfl rfl) ?_
  refine gm_ev.getfield (v := .int (s.1 501)) i13_110 rfl (bM_fld (j := 25) (fs := cF25 C (cA (cA s 32 (upd (s.2.1 32) k1 (-1 : Int32))) 33 (upd (s.2.1 33) k3 (vp_nar .boolean (1 : Int32))))) rfl rfl) ?_
  refine gm_ev.iconst (v := 1) i13_113 (by decide) ?_
  refine gm_ev.icmp_le_t (tgt := 132) i13_114 (by decide) c7 ?_
  refine gm_ev.iconst (v := 0) i13_132 (by decide) ?_
  exact gm_ev.iret i13_133 rfl
theorem t_X0_judge_0_ftftft {N0 : Nat} {K : Nat → Nat} {d C : Nat} {s : cS} {G : gm_H} {sz sl : Nat} {p1 : Int32} {k1 : Nat} {k3 : Nat} (hN : N0 ≤ C) (ek1 : p1 = nI k1) (lk1 : k1 < 60) (c2 : ¬ (s.1 541) ≤ (1 : Int32)) (ek3 : p1 = nI k3) (lk3 : k3 < 60) (c4 : (s.1 88) = 0) (c5 : ¬ (s.1 501) = 0) (c6 : ¬ (s.1 541) = 0) (c7 : ¬ (s.1 501) ≤ (1 : Int32)) (c8 : (s.1 541) ≤ (1 : Int32)) : gm_ev N0 K ra_nm (ra_mt K) d (some .int) (gm_I cX0_judge) (gm_lkf (lkX0 false K)) 0 [some (.ref (C + 29)), some (.ref (C + 4)), some (.int p1), none, none] [] (bM C (cH C s) G) sz sl (.returned (some (.int (0 : Int32))), (bM C (cH C (cA (cA s 32 (upd (s.2.1 32) k1 (-1 : Int32))) 33 (upd (s.2.1 33) k3 (vp_nar .boolean (1 : Int32))))) G), sz, sl) := by
  refine gm_ev.aload_n i13_0 rfl ?_
  refine gm_ev.getfield (v := .ref (C + 32)) i13_1 rfl (bM_fld (j := 29) (fs := cF29 C s) rfl rfl) ?_
  refine gm_ev.iload_n i13_4 rfl ?_
  refine gm_ev.iconst (v := -1) i13_5 (by decide) ?_
  refine gm_ev.iastore (M' := (bM C (cH C (cA s 32 (upd (s.2.1 32) k1 (-1 : Int32)))) G)) i13_6 (bM_asti (j := 32) (n := 60) (f := s.2.1 32) rfl ek1 lk1 (by decide) hN rfl) ?_
  refine gm_ev.aload_n i13_7 rfl ?_
  refine gm_ev.getfield (v := .ref (C + 33)) i13_8 rfl (bM_fld (j := 29) (fs := cF29 C (cA s 32 (upd (s.2.1 32) k1 (-1 : Int32)))) rfl rfl) ?_
  refine gm_ev.iload_n i13_11 rfl ?_
  refine gm_ev.aload_n i13_12 rfl ?_
  refine gm_ev.getfield (v := .ref (C + 27)) i13_13 rfl (bM_fld (j := 4) (fs := cF4 C (cA s 32 (upd (s.2.1 32) k1 (-1 : Int32)))) rfl rfl) ?_
  refine gm_ev.getfield (v := .int (s.1 541)) i13_16 rfl (bM_fld (j := 27) (fs := cF27 C (cA s 32 (upd (s.2.1 32) k1 (-1 : Int32)))) rfl rfl) ?_
  refine gm_ev.iconst (v := 1) i13_19 (by decide) ?_
  refine gm_ev.icmp_le_f i13_20 c2 ?_
  refine gm_ev.iconst (v := 1) i13_23 (by decide) ?_
  refine gm_ev.goto (tgt := 28) i13_24 (by decide) ?_
  refine gm_ev.zastore (M' := (bM C (cH C (cA (cA s 32 (upd (s.2.1 32) k1 (-1 : Int32))) 33 (upd (s.2.1 33) k3 (vp_nar .boolean (1 : Int32))))) G)) i13_28 (bM_astn (j := 33) (n := 60) (f := s.2.1 33) rfl ek3 lk3 (by decide) hN rfl) ?_
  refine gm_ev.aload_n i13_29 rfl ?_
  refine gm_ev.getfield (v := .int (s.1 88)) i13_30 rfl (bM_fld (j := 4) (fs := cF4 C (cA (cA s 32 (upd (s.2.1 32) k1 (-1 : Int32))) 33 (upd (s.2.1 33) k3 (vp_nar .boolean (1 : Int32))))) rfl rfl) ?_
  refine gm_ev.if_eq_t (tgt := 84) i13_33 (by decide) c4 ?_
  refine gm_ev.aload_n i13_84 rfl ?_
  refine gm_ev.getfield (v := .ref (C + 25)) i13_85 rfl (bM_fld (j := 4) (fs := cF4 C (cA (cA s 32 (upd (s.2.1 32) k1 (-1 : Int32))) 33 (upd (s.2.1 33) k3 (vp_nar .boolean (1 : Int32))))) rfl rfl) ?_
  refine gm_ev.getfield (v := .int (s.1 501)) i13_88 rfl (bM_fld (j := 25) (fs := cF25 C (cA (cA s 32 (upd (s.2.1 32) k1 (-1 : Int32))) 33 (upd (s.2.1 33) k3 (vp_nar .boolean (1 : Int32))))) rfl rfl) ?_
  refine gm_ev.if_eq_f i13_91 c5 ?_
  refine gm_ev.aload_n i13_94 rfl ?_
  refine gm_ev.getfield (v := .ref (C + 27)) i13_95 rfl (bM_fld (j := 4) (fs := cF4 C (cA (cA s 32 (upd (s.2.1 32) k1 (-1 : Int32))) 33 (upd (s.2.1 33) k3 (vp_nar .boolean (1 : Int32))))) rfl rfl) ?_
  refine gm_ev.getfield (v := .int (s.1 541)) i13_98 rfl (bM_fld (j := 27) (fs := cF27 C (cA (cA s 32 (upd (s.2.1 32) k1 (-1 : Int32))) 33 (upd (s.2.1 33) k3 (vp_nar .boolean (1 : Int32))))) rfl rfl) ?_
  refine gm_ev.if_ne_t (tgt := 106) i13_101 (by decide) c6 ?_
  refine gm_ev.aload_n i13_106 rfl ?_
  refine gm_ev.getfield (v := .ref (C + 25)) i13_107 rfl (bM_fld (j := 4) (fs := cF4 C (cA (cA s 32 (upd (s.2.1 32) k1 (-1 : Int32))) 33 (upd (s.2.1 33) k3 (vp_nar .boolean (1 : Int32))))) rfl rfl) ?_
  refine gm_ev.getfield (v := .int (s.1 501)) i13_110 rfl (bM_fld (j := 25) (fs := cF25 C (cA (cA s 32 (upd (s.2.1 32) k1 (-1 : Int32))) 33 (upd (s.2.1 33) k3 (vp_nar .boolean (1 : Int32))))) rfl rfl) ?_
  refine gm_ev.iconst (v := 1) i13_113 (by decide) ?_
  refine gm_ev.icmp_le_f i13_114 c7 ?_
  refine gm_ev.aload_n i13_117 rfl ?_
  refine gm_ev.getfield (v := .ref (C + 27)) i13_118 rfl (bM_fld (j := 4) (fs := cF4 C (cA (cA s 32 (upd (s.2.1 32) k1 (-1 : Int32))) 33 (upd (s.2.1 33) k3 (vp_nar .boolean (1 : Int32))))) rfl rfl) ?_
  refine gm_ev.getfield (v := .int (s.1 541)) i13_121 rfl (bM_fld (j := 27) (fs := cF27 C (cA (cA s 32 (upd (s.2.1 32) k1 (-1 : Int32))) 33 (upd (s.2.1 33) k3 (vp_nar .boolean (1 : Int32))))) rfl rfl) ?_
  refine gm_ev.iconst (v := 1) i13_124 (by decide) ?_
  refine gm_ev.icmp_le_t (tgt := 132) i13_125 (by decide) c8 ?_
  refine gm_ev.iconst (v := 0) i13_132 (by decide) ?_
  exact gm_ev.iret i13_133 rfl
theorem t_X0_judge_0_ftftff {N0 : Nat} {K : Nat → Nat} {d C : Nat} {s : cS} {G : gm_H} {sz sl : Nat} {p1 : Int32} {k1 : Nat} {k3 : Nat} (hN : N0 ≤ C) (ek1 : p1 = nI k1) (lk1 : k1 < 60) (c2 : ¬ (s.1 541) ≤ (1 : Int32)) (ek3 : p1 = nI k3) (lk3 : k3 < 60) (c4 : (s.1 88) = 0) (c5 : ¬ (s.1 501) = 0) (c6 : ¬ (s.1 541) = 0) (c7 : ¬ (s.1 501) ≤ (1 : Int32)) (c8 : ¬ (s.1 541) ≤ (1 : Int32)) : gm_ev N0 K ra_nm (ra_mt K) d (some .int) (gm_I cX0_judge) (gm_lkf (lkX0 false K)) 0 [some (.ref (C + 29)), some (.ref (C + 4)), some (.int p1), none, none] [] (bM C (cH C s) G) sz sl (.returned (some (.int (3 : Int32))), (bM C (cH C (cA (cA s 32 (upd (s.2.1 32) k1 (-1 : Int32))) 33 (upd (s.2.1 33) k3 (vp_nar .boolean (1 : Int32))))) G), sz, sl) := by
  refine gm_ev.aload_n i13_0 rfl ?_
  refine gm_ev.getfield (v := .ref (C + 32)) i13_1 rfl (bM_fld (j := 29) (fs := cF29 C s) rfl rfl) ?_
  refine gm_ev.iload_n i13_4 rfl ?_
  refine gm_ev.iconst (v := -1) i13_5 (by decide) ?_
  refine gm_ev.iastore (M' := (bM C (cH C (cA s 32 (upd (s.2.1 32) k1 (-1 : Int32)))) G)) i13_6 (bM_asti (j := 32) (n := 60) (f := s.2.1 32) rfl ek1 lk1 (by decide) hN rfl) ?_
  refine gm_ev.aload_n i13_7 rfl ?_
  refine gm_ev.getfield (v := .ref (C + 33)) i13_8 rfl (bM_fld (j := 29) (fs := cF29 C (cA s 32 (upd (s.2.1 32) k1 (-1 : Int32)))) rfl rfl) ?_
  refine gm_ev.iload_n i13_11 rfl ?_
  refine gm_ev.aload_n i13_12 rfl ?_
  refine gm_ev.getfield (v := .ref (C + 27)) i13_13 rfl (bM_fld (j := 4) (fs := cF4 C (cA s 32 (upd (s.2.1 32) k1 (-1 : Int32)))) rfl rfl) ?_
  refine gm_ev.getfield (v := .int (s.1 541)) i13_16 rfl (bM_fld (j := 27) (fs := cF27 C (cA s 32 (upd (s.2.1 32) k1 (-1 : Int32)))) rfl rfl) ?_
  refine gm_ev.iconst (v := 1) i13_19 (by decide) ?_
  refine gm_ev.icmp_le_f i13_20 c2 ?_
  refine gm_ev.iconst (v := 1) i13_23 (by decide) ?_
  refine gm_ev.goto (tgt := 28) i13_24 (by decide) ?_
  refine gm_ev.zastore (M' := (bM C (cH C (cA (cA s 32 (upd (s.2.1 32) k1 (-1 : Int32))) 33 (upd (s.2.1 33) k3 (vp_nar .boolean (1 : Int32))))) G)) i13_28 (bM_astn (j := 33) (n := 60) (f := s.2.1 33) rfl ek3 lk3 (by decide) hN rfl) ?_
  refine gm_ev.aload_n i13_29 rfl ?_
  refine gm_ev.getfield (v := .int (s.1 88)) i13_30 rfl (bM_fld (j := 4) (fs := cF4 C (cA (cA s 32 (upd (s.2.1 32) k1 (-1 : Int32))) 33 (upd (s.2.1 33) k3 (vp_nar .boolean (1 : Int32))))) rfl rfl) ?_
  refine gm_ev.if_eq_t (tgt := 84) i13_33 (by decide) c4 ?_
  refine gm_ev.aload_n i13_84 rfl ?_
  refine gm_ev.getfield (v := .ref (C + 25)) i13_85 rfl (bM_fld (j := 4) (fs := cF4 C (cA (cA s 32 (upd (s.2.1 32) k1 (-1 : Int32))) 33 (upd (s.2.1 33) k3 (vp_nar .boolean (1 : Int32))))) rfl rfl) ?_
  refine gm_ev.getfield (v := .int (s.1 501)) i13_88 rfl (bM_fld (j := 25) (fs := cF25 C (cA (cA s 32 (upd (s.2.1 32) k1 (-1 : Int32))) 33 (upd (s.2.1 33) k3 (vp_nar .boolean (1 : Int32))))) rfl rfl) ?_
  refine gm_ev.if_eq_f i13_91 c5 ?_
  refine gm_ev.aload_n i13_94 rfl ?_
  refine gm_ev.getfield (v := .ref (C + 27)) i13_95 rfl (bM_fld (j := 4) (fs := cF4 C (cA (cA s 32 (upd (s.2.1 32) k1 (-1 : Int32))) 33 (upd (s.2.1 33) k3 (vp_nar .boolean (1 : Int32))))) rfl rfl) ?_
  refine gm_ev.getfield (v := .int (s.1 541)) i13_98 rfl (bM_fld (j := 27) (fs := cF27 C (cA (cA s 32 (upd (s.2.1 32) k1 (-1 : Int32))) 33 (upd (s.2.1 33) k3 (vp_nar .boolean (1 : Int32))))) rfl rfl) ?_
  refine gm_ev.if_ne_t (tgt := 106) i13_101 (by decide) c6 ?_
  refine gm_ev.aload_n i13_106 rfl ?_
  refine gm_ev.getfield (v := .ref (C + 25)) i13_107 rfl (bM_fld (j := 4) (fs := cF4 C (cA (cA s 32 (upd (s.2.1 32) k1 (-1 : Int32))) 33 (upd (s.2.1 33) k3 (vp_nar .boolean (1 : Int32))))) rfl rfl) ?_
  refine gm_ev.getfield (v := .int (s.1 501)) i13_110 rfl (bM_fld (j := 25) (fs := cF25 C (cA (cA s 32 (upd (s.2.1 32) k1 (-1 : Int32))) 33 (upd (s.2.1 33) k3 (vp_nar .boolean (1 : Int32))))) rfl rfl) ?_
  refine gm_ev.iconst (v := 1) i13_113 (by decide) ?_
  refine gm_ev.icmp_le_f i13_114 c7 ?_
  refine gm_ev.aload_n i13_117 rfl ?_
  refine gm_ev.getfield (v := .ref (C + 27)) i13_118 rfl (bM_fld (j := 4) (fs := cF4 C (cA (cA s 32 (upd (s.2.1 32) k1 (-1 : Int32))) 33 (upd (s.2.1 33) k3 (vp_nar .boolean (1 : Int32))))) rfl rfl) ?_
  refine gm_ev.getfield (v := .int (s.1 541)) i13_121 rfl (bM_fld (j := 27) (fs := cF27 C (cA (cA s 32 (upd (s.2.1 32) k1 (-1 : Int32))) 33 (upd (s.2.1 33) k3 (vp_nar .boolean (1 : Int32))))) rfl rfl) ?_
  refine gm_ev.iconst (v := 1) i13_124 (by decide) ?_
  refine gm_ev.icmp_le_f i13_125 c8 ?_
  refine gm_ev.iconst (v := 3) i13_128 (by decide) ?_
  refine gm_ev.goto (tgt := 133) i13_129 (by decide) ?_
  exact gm_ev.iret i13_133 rfl
theorem t_X0_judge_0_ftff {N0 : Nat} {K : Nat → Nat} {d C : Nat} {s : cS} {G : gm_H} {sz sl : Nat} {p1 : Int32} {k1 : Nat} {k3 : Nat} (hN : N0 ≤ C) (ek1 : p1 = nI k1) (lk1 : k1 < 60) (c2 : ¬ (s.1 541) ≤ (1 : Int32)) (ek3 : p1 = nI k3) (lk3 : k3 < 60) (c4 : (s.1 88) = 0) (c5 : ¬ (s.1 501) = 0) (c6 : (s.1 541) = 0) : gm_ev N0 K ra_nm (ra_mt K) d (some .int) (gm_I cX0_judge) (gm_lkf (lkX0 false K)) 0 [some (.ref (C + 29)), some (.ref (C + 4)), some (.int p1), none, none] [] (bM C (cH C s) G) sz sl (.returned (some (.int (2 : Int32))), (bM C (cH C (cA (cA s 32 (upd (s.2.1 32) k1 (-1 : Int32))) 33 (upd (s.2.1 33) k3 (vp_nar .boolean (1 : Int32))))) G), sz, sl) := by
  refine gm_ev.aload_n i13_0 rfl ?_
  refine gm_ev.getfield (v := .ref (C + 32)) i13_1 rfl (bM_fld (j := 29) (fs := cF29 C s) rfl rfl) ?_
  refine gm_ev.iload_n i13_4 rfl ?_
  refine gm_ev.iconst (v := -1) i13_5 (by decide) ?_
  refine gm_ev.iastore (M' := (bM C (cH C (cA s 32 (upd (s.2.1 32) k1 (-1 : Int32)))) G)) i13_6 (bM_asti (j := 32) (n := 60) (f := s.2.1 32) rfl ek1 lk1 (by decide) hN rfl) ?_
  refine gm_ev.aload_n i13_7 rfl ?_
  refine gm_ev.getfield (v := .ref (C + 33)) i13_8 rfl (bM_fld (j := 29) (fs := cF29 C (cA s 32 (upd (s.2.1 32) k1 (-1 : Int32)))) rfl rfl) ?_
  refine gm_ev.iload_n i13_11 rfl ?_
  refine gm_ev.aload_n i13_12 rfl ?_
  refine gm_ev.getfield (v := .ref (C + 27)) i13_13 rfl (bM_fld (j := 4) (fs := cF4 C (cA s 32 (upd (s.2.1 32) k1 (-1 : Int32)))) rfl rfl) ?_
  refine gm_ev.getfield (v := .int (s.1 541)) i13_16 rfl (bM_fld (j := 27) (fs := cF27 C (cA s 32 (upd (s.2.1 32) k1 (-1 : Int32)))) rfl rfl) ?_
  refine gm_ev.iconst (v := 1) i13_19 (by decide) ?_
  refine gm_ev.icmp_le_f i13_20 c2 ?_
  refine gm_ev.iconst (v := 1) i13_23 (by decide) ?_
  refine gm_ev.goto (tgt := 28) i13_24 (by decide) ?_
  refine gm_ev.zastore (M' := (bM C (cH C (cA (cA s 32 (upd (s.2.1 32) k1 (-1 : Int32))) 33 (upd (s.2.1 33) k3 (vp_nar .boolean (1 : Int32))))) G)) i13_28 (bM_astn (j := 33) (n := 60) (f := s.2.1 33) rfl ek3 lk3 (by decide) hN rfl) ?_
  refine gm_ev.aload_n i13_29 rfl ?_
  refine gm_ev.getfield (v := .int (s.1 88)) i13_30 rfl (bM_fld (j := 4) (fs := cF4 C (cA (cA s 32 (upd (s.2.1 32) k1 (-1 : Int32))) 33 (upd (s.2.1 33) k3 (vp_nar .boolean (1 : Int32))))) rfl rfl) ?_
  refine gm_ev.if_eq_t (tgt := 84) i13_33 (by decide) c4 ?_
  refine gm_ev.aload_n i13_84 rfl ?_
  refine gm_ev.getfield (v := .ref (C + 25)) i13_85 rfl (bM_fld (j := 4) (fs := cF4 C (cA (cA s 32 (upd (s.2.1 32) k1 (-1 : Int32))) 33 (upd (s.2.1 33) k3 (vp_nar .boolean (1 : Int32))))) rfl rfl) ?_
  refine gm_ev.getfield (v := .int (s.1 501)) i13_88 rfl (bM_fld (j := 25) (fs := cF25 C (cA (cA s 32 (upd (s.2.1 32) k1 (-1 : Int32))) 33 (upd (s.2.1 33) k3 (vp_nar .boolean (1 : Int32))))) rfl rfl) ?_
  refine gm_ev.if_eq_f i13_91 c5 ?_
  refine gm_ev.aload_n i13_94 rfl ?_
  refine gm_ev.getfield (v := .ref (C + 27)) i13_95 rfl (bM_fld (j := 4) (fs := cF4 C (cA (cA s 32 (upd (s.2.1 32) k1 (-1 : Int32))) 33 (upd (s.2.1 33) k3 (vp_nar .boolean (1 : Int32))))) rfl rfl) ?_
  refine gm_ev.getfield (v := .int (s.1 541)) i13_98 rfl (bM_fld (j := 27) (fs := cF27 C (cA (cA s 32 (upd (s.2.1 32) k1 (-1 : Int32))) 33 (upd (s.2.1 33) k3 (vp_nar .boolean (1 : Int32))))) rfl rfl) ?_
  refine gm_ev.if_ne_f i13_101 c6 ?_
  refine gm_ev.iconst (v := 2) i13_104 (by decide) ?_
  exact gm_ev.iret i13_105 rfl
theorem t_X0_judge_0_fft {N0 : Nat} {K : Nat → Nat} {d C : Nat} {s : cS} {G : gm_H} {sz sl : Nat} {p1 : Int32} {k1 : Nat} {k3 : Nat} {r5 : Int32} {r7 : Int32} (hN : N0 ≤ C) (ek1 : p1 = nI k1) (lk1 : k1 < 60) (c2 : ¬ (s.1 541) ≤ (1 : Int32)) (ek3 : p1 = nI k3) (lk3 : k3 < 60) (c4 : ¬ (s.1 88) = 0) (t6 : gm_to N0 K ra_nm (ra_mt K) d 48 [.ref (C + 4), .int (0 : Int32)] (bM C (cH C (cA (cA s 32 (upd (s.2.1 32) k1 (-1 : Int32))) 33 (upd (s.2.1 33) k3 (vp_nar .boolean (1 : Int32))))) G) sz (.returned (some (.int r5)), (bM C (cH C (cA (cA s 32 (upd (s.2.1 32) k1 (-1 : Int32))) 33 (upd (s.2.1 33) k3 (vp_nar .boolean (1 : Int32))))) G), sz, 0)) (t8 : gm_to N0 K ra_nm (ra_mt K) d 48 [.ref (C + 4), .int (1 : Int32)] (bM C (cH C (cA (cA s 32 (upd (s.2.1 32) k1 (-1 : Int32))) 33 (upd (s.2.1 33) k3 (vp_nar .boolean (1 : Int32))))) G) sz (.returned (some (.int r7)), (bM C (cH C (cA (cA s 32 (upd (s.2.1 32) k1 (-1 : Int32))) 33 (upd (s.2.1 33) k3 (vp_nar .boolean (1 : Int32))))) G), sz, 0)) (c9 : r5 = (-1 : Int32)) : gm_ev N0 K ra_nm (ra_mt K) d (some .int) (gm_I cX0_judge) (gm_lkf (lkX0 false K)) 0 [some (.ref (C + 29)), some (.ref (C + 4)), some (.int p1), none, none] [] (bM C (cH C s) G) sz sl (.returned (some (.int (4 : Int32))), (bM C (cH C (cA (cA s 32 (upd (s.2.1 32) k1 (-1 : Int32))) 33 (upd (s.2.1 33) k3 (vp_nar .boolean (1 : Int32))))) G), sz, sl) := by
  refine gm_ev.aload_n i13_0 rfl ?_
  refine gm_ev.getfield (v := .ref (C + 32)) i13_1 rfl (bM_fld (j := 29) (fs := cF29 C s) rfl rfl) ?_
  refine gm_ev.iload_n i13_4 rfl ?_
  refine gm_ev.iconst (v := -1) i13_5 (by decide) ?_
  refine gm_ev.iastore (M' := (bM C (cH C (cA s 32 (upd (s.2.1 32) k1 (-1 : Int32)))) G)) i13_6 (bM_asti (j := 32) (n := 60) (f := s.2.1 32) rfl ek1 lk1 (by decide) hN rfl) ?_
  refine gm_ev.aload_n i13_7 rfl ?_
  refine gm_ev.getfield (v := .ref (C + 33)) i13_8 rfl (bM_fld (j := 29) (fs := cF29 C (cA s 32 (upd (s.2.1 32) k1 (-1 : Int32)))) rfl rfl) ?_
  refine gm_ev.iload_n i13_11 rfl ?_
  refine gm_ev.aload_n i13_12 rfl ?_
  refine gm_ev.getfield (v := .ref (C + 27)) i13_13 rfl (bM_fld (j := 4) (fs := cF4 C (cA s 32 (upd (s.2.1 32) k1 (-1 : Int32)))) rfl rfl) ?_
  refine gm_ev.getfield (v := .int (s.1 541)) i13_16 rfl (bM_fld (j := 27) (fs := cF27 C (cA s 32 (upd (s.2.1 32) k1 (-1 : Int32)))) rfl rfl) ?_
  refine gm_ev.iconst (v := 1) i13_19 (by decide) ?_
  refine gm_ev.icmp_le_f i13_20 c2 ?_
  refine gm_ev.iconst (v := 1) i13_23 (by decide) ?_
  refine gm_ev.goto (tgt := 28) i13_24 (by decide) ?_
  refine gm_ev.zastore (M' := (bM C (cH C (cA (cA s 32 (upd (s.2.1 32) k1 (-1 : Int32))) 33 (upd (s.2.1 33) k3 (vp_nar .boolean (1 : Int32))))) G)) i13_28 (bM_astn (j := 33) (n := 60) (f := s.2.1 33) rfl ek3 lk3 (by decide) hN rfl) ?_
  refine gm_ev.aload_n i13_29 rfl ?_
  refine gm_ev.getfield (v := .int (s.1 88)) i13_30 rfl (bM_fld (j := 4) (fs := cF4 C (cA (cA s 32 (upd (s.2.1 32) k1 (-1 : Int32))) 33 (upd (s.2.1 33) k3 (vp_nar .boolean (1 : Int32))))) rfl rfl) ?_
  refine gm_ev.if_eq_f i13_33 c4 ?_
  refine gm_ev.aload_n i13_36 rfl ?_
  refine gm_ev.iconst (v := 0) i13_37 (by decide) ?_
  refine gm_ev.callV gm_mono_run (av := [.int (0 : Int32)]) (r := []) (ci := 3) (fs := cF4 C (cA (cA s 32 (upd (s.2.1 32) k1 (-1 : Int32))) 33 (upd (s.2.1 33) k3 (vp_nar .boolean (1 : Int32))))) (bM_get (j := 4) rfl) i13_38 rfl rfl rfl (Nat.le_of_ble_eq_true rfl) t6 ?_
  refine gm_ev.istore_n (ls' := [some (.ref (C + 29)), some (.ref (C + 4)), some (.int p1), some (.int r5), none]) i13_41 (Nat.le_of_ble_eq_true rfl) rfl ?_
  refine gm_ev.aload_n i13_42 rfl ?_
  refine gm_ev.iconst (v := 1) i13_43 (by decide) ?_
  refine gm_ev.callV gm_mono_run (av := [.int (1 : Int32)]) (r := []) (ci := 3) (fs := cF4 C (cA (cA s 32 (upd (s.2.1 32) k1 (-1 : Int32))) 33 (upd (s.2.1 33) k3 (vp_nar .boolean (1 : Int32))))) (bM_get (j := 4) rfl) i13_44 rfl rfl rfl (Nat.le_of_ble_eq_true rfl) t8 ?_
  refine gm_ev.istore (ls' := [some (.ref (C + 29)), some (.ref (C + 4)), some (.int p1), some (.int r5), some (.int r7)]) i13_47 (Nat.le_of_ble_eq_true rfl) rfl ?_
  refine gm_ev.iload_n i13_49 rfl ?_
  refine gm_ev.iconst (v := -1) i13_50 (by decide) ?_
  refine gm_ev.icmp_eq_t (tgt := 60) i13_51 (by decide) c9 ?_
  refine gm_ev.iconst (v := 4) i13_60 (by decide) ?_
  exact gm_ev.iret i13_61 rfl
theorem t_X0_judge_0_ffftt {N0 : Nat} {K : Nat → Nat} {d C : Nat} {s : cS} {G : gm_H} {sz sl : Nat} {p1 : Int32} {k1 : Nat} {k3 : Nat} {r5 : Int32} {r7 : Int32} {k11 : Nat} (hN : N0 ≤ C) (ek1 : p1 = nI k1) (lk1 : k1 < 60) (c2 : ¬ (s.1 541) ≤ (1 : Int32)) (ek3 : p1 = nI k3) (lk3 : k3 < 60) (c4 : ¬ (s.1 88) = 0) (t6 : gm_to N0 K ra_nm (ra_mt K) d 48 [.ref (C + 4), .int (0 : Int32)] (bM C (cH C (cA (cA s 32 (upd (s.2.1 32) k1 (-1 : Int32))) 33 (upd (s.2.1 33) k3 (vp_nar .boolean (1 : Int32))))) G) sz (.returned (some (.int r5)), (bM C (cH C (cA (cA s 32 (upd (s.2.1 32) k1 (-1 : Int32))) 33 (upd (s.2.1 33) k3 (vp_nar .boolean (1 : Int32))))) G), sz, 0)) (t8 : gm_to N0 K ra_nm (ra_mt K) d 48 [.ref (C + 4), .int (1 : Int32)] (bM C (cH C (cA (cA s 32 (upd (s.2.1 32) k1 (-1 : Int32))) 33 (upd (s.2.1 33) k3 (vp_nar .boolean (1 : Int32))))) G) sz (.returned (some (.int r7)), (bM C (cH C (cA (cA s 32 (upd (s.2.1 32) k1 (-1 : Int32))) 33 (upd (s.2.1 33) k3 (vp_nar .boolean (1 : Int32))))) G), sz, 0)) (c9 : ¬ r5 = (-1 : Int32)) (c10 : ¬ r7 = (-1 : Int32)) (ek11 : p1 = nI k11) (lk11 : k11 < 60) (c12 : ¬ (r5 + r7) = (8 : Int32)) : gm_ev N0 K ra_nm (ra_mt K) d (some .int) (gm_I cX0_judge) (gm_lkf (lkX0 false K)) 0 [some (.ref (C + 29)), some (.ref (C + 4)), some (.int p1), none, none] [] (bM C (cH C s) G) sz sl (.returned (some (.int (5 : Int32))), (bM C (cH C (cA (cA (cA s 32 (upd (s.2.1 32) k1 (-1 : Int32))) 33 (upd (s.2.1 33) k3 (vp_nar .boolean (1 : Int32)))) 32 (upd (upd (s.2.1 32) k1 (-1 : Int32)) k11 r5))) G), sz, sl) := by
  refine gm_ev.aload_n i13_0 rfl ?_
  refine gm_ev.getfield (v := .ref (C + 32)) i13_1 rfl (bM_fld (j := 29) (fs := cF29 C s) rfl rfl) ?_
  refine gm_ev.iload_n i13_4 rfl ?_
  refine gm_ev.iconst (v := -1) i13_5 (by decide) ?_
  refine gm_ev.iastore (M' := (bM C (cH C (cA s 32 (upd (s.2.1 32) k1 (-1 : Int32)))) G)) i13_6 (bM_asti (j := 32) (n := 60) (f := s.2.1 32) rfl ek1 lk1 (by decide) hN rfl) ?_
  refine gm_ev.aload_n i13_7 rfl ?_
  refine gm_ev.getfield (v := .ref (C + 33)) i13_8 rfl (bM_fld (j := 29) (fs := cF29 C (cA s 32 (upd (s.2.1 32) k1 (-1 : Int32)))) rfl rfl) ?_
  refine gm_ev.iload_n i13_11 rfl ?_
  refine gm_ev.aload_n i13_12 rfl ?_
  refine gm_ev.getfield (v := .ref (C + 27)) i13_13 rfl (bM_fld (j := 4) (fs := cF4 C (cA s 32 (upd (s.2.1 32) k1 (-1 : Int32)))) rfl rfl) ?_
  refine gm_ev.getfield (v := .int (s.1 541)) i13_16 rfl (bM_fld (j := 27) (fs := cF27 C (cA s 32 (upd (s.2.1 32) k1 (-1 : Int32)))) rfl rfl) ?_
  refine gm_ev.iconst (v := 1) i13_19 (by decide) ?_
  refine gm_ev.icmp_le_f i13_20 c2 ?_
  refine gm_ev.iconst (v := 1) i13_23 (by decide) ?_
  refine gm_ev.goto (tgt := 28) i13_24 (by decide) ?_
  refine gm_ev.zastore (M' := (bM C (cH C (cA (cA s 32 (upd (s.2.1 32) k1 (-1 : Int32))) 33 (upd (s.2.1 33) k3 (vp_nar .boolean (1 : Int32))))) G)) i13_28 (bM_astn (j := 33) (n := 60) (f := s.2.1 33) rfl ek3 lk3 (by decide) hN rfl) ?_
  refine gm_ev.aload_n i13_29 rfl ?_
  refine gm_ev.getfield (v := .int (s.1 88)) i13_30 rfl (bM_fld (j := 4) (fs := cF4 C (cA (cA s 32 (upd (s.2.1 32) k1 (-1 : Int32))) 33 (upd (s.2.1 33) k3 (vp_nar .boolean (1 : Int32))))) rfl rfl) ?_
  refine gm_ev.if_eq_f i13_33 c4 ?_
  refine gm_ev.aload_n i13_36 rfl ?_
  refine gm_ev.iconst (v := 0) i13_37 (by decide) ?_
  refine gm_ev.callV gm_mono_run (av := [.int (0 : Int32)]) (r := []) (ci := 3) (fs := cF4 C (cA (cA s 32 (upd (s.2.1 32) k1 (-1 : Int32))) 33 (upd (s.2.1 33) k3 (vp_nar .boolean (1 : Int32))))) (bM_get (j := 4) rfl) i13_38 rfl rfl rfl (Nat.le_of_ble_eq_true rfl) t6 ?_
  refine gm_ev.istore_n (ls' := [some (.ref (C + 29)), some (.ref (C + 4)), some (.int p1), some (.int r5), none]) i13_41 (Nat.le_of_ble_eq_true rfl) rfl ?_
  refine gm_ev.aload_n i13_42 rfl ?_
  refine gm_ev.iconst (v := 1) i13_43 (by decide) ?_
  refine gm_ev.callV gm_mono_run (av := [.int (1 : Int32)]) (r := []) (ci := 3) (fs := cF4 C (cA (cA s 32 (upd (s.2.1 32) k1 (-1 : Int32))) 33 (upd (s.2.1 33) k3 (vp_nar .boolean (1 : Int32))))) (bM_get (j := 4) rfl) i13_44 rfl rfl rfl (Nat.le_of_ble_eq_true rfl) t8 ?_
  refine gm_ev.istore (ls' := [some (.ref (C + 29)), some (.ref (C + 4)), some (.int p1), some (.int r5), some (.int r7)]) i13_47 (Nat.le_of_ble_eq_true rfl) rfl ?_
  refine gm_ev.iload_n i13_49 rfl ?_
  refine gm_ev.iconst (v := -1) i13_50 (by decide) ?_
  refine gm_ev.icmp_eq_f i13_51 c9 ?_
  refine gm_ev.iload i13_54 rfl ?_
  refine gm_ev.iconst (v := -1) i13_56 (by decide) ?_
  refine gm_ev.icmp_ne_t (tgt := 62) i13_57 (by decide) c10 ?_
  refine gm_ev.aload_n i13_62 rfl ?_
  refine gm_ev.getfield (v := .ref (C + 32)) i13_63 rfl (bM_fld (j := 29) (fs := cF29 C (cA (cA s 32 (upd (s.2.1 32) k1 (-1 : Int32))) 33 (upd (s.2.1 33) k3 (vp_nar .boolean (1 : Int32))))) rfl rfl) ?_
  refine gm_ev.iload_n i13_66 rfl ?_
  refine gm_ev.iload_n i13_67 rfl ?_
  refine gm_ev.iastore (M' := (bM C (cH C (cA (cA (cA s 32 (upd (s.2.1 32) k1 (-1 : Int32))) 33 (upd (s.2.1 33) k3 (vp_nar .boolean (1 : Int32)))) 32 (upd (upd (s.2.1 32) k1 (-1 : Int32)) k11 r5))) G)) i13_68 (bM_asti (j := 32) (n := 60) (f := (upd (s.2.1 32) k1 (-1 : Int32))) rfl ek11 lk11 (by decide) hN rfl) ?_
  refine gm_ev.iload_n i13_69 rfl ?_
  refine gm_ev.iload i13_70 rfl ?_
  refine gm_ev.iadd i13_72 ?_
  refine gm_ev.bipush (v := 8) i13_73 (by decide) ?_
  refine gm_ev.icmp_ne_t (tgt := 82) i13_75 (by decide) c12 ?_
  refine gm_ev.iconst (v := 5) i13_82 (by decide) ?_
  exact gm_ev.iret i13_83 rfl
theorem t_X0_judge_0_ffftf {N0 : Nat} {K : Nat → Nat} {d C : Nat} {s : cS} {G : gm_H} {sz sl : Nat} {p1 : Int32} {k1 : Nat} {k3 : Nat} {r5 : Int32} {r7 : Int32} {k11 : Nat} (hN : N0 ≤ C) (ek1 : p1 = nI k1) (lk1 : k1 < 60) (c2 : ¬ (s.1 541) ≤ (1 : Int32)) (ek3 : p1 = nI k3) (lk3 : k3 < 60) (c4 : ¬ (s.1 88) = 0) (t6 : gm_to N0 K ra_nm (ra_mt K) d 48 [.ref (C + 4), .int (0 : Int32)] (bM C (cH C (cA (cA s 32 (upd (s.2.1 32) k1 (-1 : Int32))) 33 (upd (s.2.1 33) k3 (vp_nar .boolean (1 : Int32))))) G) sz (.returned (some (.int r5)), (bM C (cH C (cA (cA s 32 (upd (s.2.1 32) k1 (-1 : Int32))) 33 (upd (s.2.1 33) k3 (vp_nar .boolean (1 : Int32))))) G), sz, 0)) (t8 : gm_to N0 K ra_nm (ra_mt K) d 48 [.ref (C + 4), .int (1 : Int32)] (bM C (cH C (cA (cA s 32 (upd (s.2.1 32) k1 (-1 : Int32))) 33 (upd (s.2.1 33) k3 (vp_nar .boolean (1 : Int32))))) G) sz (.returned (some (.int r7)), (bM C (cH C (cA (cA s 32 (upd (s.2.1 32) k1 (-1 : Int32))) 33 (upd (s.2.1 33) k3 (vp_nar .boolean (1 : Int32))))) G), sz, 0)) (c9 : ¬ r5 = (-1 : Int32)) (c10 : ¬ r7 = (-1 : Int32)) (ek11 : p1 = nI k11) (lk11 : k11 < 60) (c12 : (r5 + r7) = (8 : Int32)) : gm_ev N0 K ra_nm (ra_mt K) d (some .int) (gm_I cX0_judge) (gm_lkf (lkX0 false K)) 0 [some (.ref (C + 29)), some (.ref (C + 4)), some (.int p1), none, none] [] (bM C (cH C s) G) sz sl (.returned (some (.int (0 : Int32))), (bM C (cH C (cA (cA (cA s 32 (upd (s.2.1 32) k1 (-1 : Int32))) 33 (upd (s.2.1 33) k3 (vp_nar .boolean (1 : Int32)))) 32 (upd (upd (s.2.1 32) k1 (-1 : Int32)) k11 r5))) G), sz, sl) := by
  refine gm_ev.aload_n i13_0 rfl ?_
  refine gm_ev.getfield (v := .ref (C + 32)) i13_1 rfl (bM_fld (j := 29) (fs := cF29 C s) rfl rfl) ?_
  refine gm_ev.iload_n i13_4 rfl ?_
  refine gm_ev.iconst (v := -1) i13_5 (by decide) ?_
  refine gm_ev.iastore (M' := (bM C (cH C (cA s 32 (upd (s.2.1 32) k1 (-1 : Int32)))) G)) i13_6 (bM_asti (j := 32) (n := 60) (f := s.2.1 32) rfl ek1 lk1 (by decide) hN rfl) ?_
  refine gm_ev.aload_n i13_7 rfl ?_
  refine gm_ev.getfield (v := .ref (C + 33)) i13_8 rfl (bM_fld (j := 29) (fs := cF29 C (cA s 32 (upd (s.2.1 32) k1 (-1 : Int32)))) rfl rfl) ?_
  refine gm_ev.iload_n i13_11 rfl ?_
  refine gm_ev.aload_n i13_12 rfl ?_
  refine gm_ev.getfield (v := .ref (C + 27)) i13_13 rfl (bM_fld (j := 4) (fs := cF4 C (cA s 32 (upd (s.2.1 32) k1 (-1 : Int32)))) rfl rfl) ?_
  refine gm_ev.getfield (v := .int (s.1 541)) i13_16 rfl (bM_fld (j := 27) (fs := cF27 C (cA s 32 (upd (s.2.1 32) k1 (-1 : Int32)))) rfl rfl) ?_
  refine gm_ev.iconst (v := 1) i13_19 (by decide) ?_
  refine gm_ev.icmp_le_f i13_20 c2 ?_
  refine gm_ev.iconst (v := 1) i13_23 (by decide) ?_
  refine gm_ev.goto (tgt := 28) i13_24 (by decide) ?_
  refine gm_ev.zastore (M' := (bM C (cH C (cA (cA s 32 (upd (s.2.1 32) k1 (-1 : Int32))) 33 (upd (s.2.1 33) k3 (vp_nar .boolean (1 : Int32))))) G)) i13_28 (bM_astn (j := 33) (n := 60) (f := s.2.1 33) rfl ek3 lk3 (by decide) hN rfl) ?_
  refine gm_ev.aload_n i13_29 rfl ?_
  refine gm_ev.getfield (v := .int (s.1 88)) i13_30 rfl (bM_fld (j := 4) (fs := cF4 C (cA (cA s 32 (upd (s.2.1 32) k1 (-1 : Int32))) 33 (upd (s.2.1 33) k3 (vp_nar .boolean (1 : Int32))))) rfl rfl) ?_
  refine gm_ev.if_eq_f i13_33 c4 ?_
  refine gm_ev.aload_n i13_36 rfl ?_
  refine gm_ev.iconst (v := 0) i13_37 (by decide) ?_
  refine gm_ev.callV gm_mono_run (av := [.int (0 : Int32)]) (r := []) (ci := 3) (fs := cF4 C (cA (cA s 32 (upd (s.2.1 32) k1 (-1 : Int32))) 33 (upd (s.2.1 33) k3 (vp_nar .boolean (1 : Int32))))) (bM_get (j := 4) rfl) i13_38 rfl rfl rfl (Nat.le_of_ble_eq_true rfl) t6 ?_
  refine gm_ev.istore_n (ls' := [some (.ref (C + 29)), some (.ref (C + 4)), some (.int p1), some (.int r5), none]) i13_41 (Nat.le_of_ble_eq_true rfl) rfl ?_
  refine gm_ev.aload_n i13_42 rfl ?_
  refine gm_ev.iconst (v := 1) i13_43 (by decide) ?_
  refine gm_ev.callV gm_mono_run (av := [.int (1 : Int32)]) (r := []) (ci := 3) (fs := cF4 C (cA (cA s 32 (upd (s.2.1 32) k1 (-1 : Int32))) 33 (upd (s.2.1 33) k3 (vp_nar .boolean (1 : Int32))))) (bM_get (j := 4) rfl) i13_44 rfl rfl rfl (Nat.le_of_ble_eq_true rfl) t8 ?_
  refine gm_ev.istore (ls' := [some (.ref (C + 29)), some (.ref (C + 4)), some (.int p1), some (.int r5), some (.int r7)]) i13_47 (Nat.le_of_ble_eq_true rfl) rfl ?_
  refine gm_ev.iload_n i13_49 rfl ?_
  refine gm_ev.iconst (v := -1) i13_50 (by decide) ?_
  refine gm_ev.icmp_eq_f i13_51 c9 ?_
  refine gm_ev.iload i13_54 rfl ?_
  refine gm_ev.iconst (v := -1) i13_56 (by decide) ?_
  refine gm_ev.icmp_ne_t (tgt := 62) i13_57 (by decide) c10 ?_
  refine gm_ev.aload_n i13_62 rfl ?_
  refine gm_ev.getfield (v := .ref (C + 32)) i13_63 rfl (bM_fld (j := 29) (fs := cF29 C (cA (cA s 32 (upd (s.2.1 32) k1 (-1 : Int32))) 33 (upd (s.2.1 33) k3 (vp_nar .boolean (1 : Int32))))) rfl rfl) ?_
  refine gm_ev.iload_n i13_66 rfl ?_
  refine gm_ev.iload_n i13_67 rfl ?_
  refine gm_ev.iastore (M' := (bM C (cH C (cA (cA (cA s 32 (upd (s.2.1 32) k1 (-1 : Int32))) 33 (upd (s.2.1 33) k3 (vp_nar .boolean (1 : Int32)))) 32 (upd (upd (s.2.1 32) k1 (-1 : Int32)) k11 r5))) G)) i13_68 (bM_asti (j := 32) (n := 60) (f := (upd (s.2.1 32) k1 (-1 : Int32))) rfl ek11 lk11 (by decide) hN rfl) ?_
  refine gm_ev.iload_n i13_69 rfl ?_
  refine gm_ev.iload i13_70 rfl ?_
  refine gm_ev.iadd i13_72 ?_
  refine gm_ev.bipush (v := 8) i13_73 (by decide) ?_
  refine gm_ev.icmp_ne_f i13_75 c12 ?_
  refine gm_ev.iconst (v := 0) i13_78 (by decide) ?_
  refine gm_ev.goto (tgt := 83) i13_79 (by decide) ?_
  exact gm_ev.iret i13_83 rfl
theorem t_X0_judge_0_ffff {N0 : Nat} {K : Nat → Nat} {d C : Nat} {s : cS} {G : gm_H} {sz sl : Nat} {p1 : Int32} {k1 : Nat} {k3 : Nat} {r5 : Int32} {r7 : Int32} (hN : N0 ≤ C) (ek1 : p1 = nI k1) (lk1 : k1 < 60) (c2 : ¬ (s.1 541) ≤ (1 : Int32)) (ek3 : p1 = nI k3) (lk3 : k3 < 60) (c4 : ¬ (s.1 88) = 0) (t6 : gm_to N0 K ra_nm (ra_mt K) d 48 [.ref (C + 4), .int (0 : Int32)] (bM C (cH C (cA (cA s 32 (upd (s.2.1 32) k1 (-1 : Int32))) 33 (upd (s.2.1 33) k3 (vp_nar .boolean (1 : Int32))))) G) sz (.returned (some (.int r5)), (bM C (cH C (cA (cA s 32 (upd (s.2.1 32) k1 (-1 : Int32))) 33 (upd (s.2.1 33) k3 (vp_nar .boolean (1 : Int32))))) G), sz, 0)) (t8 : gm_to N0 K ra_nm (ra_mt K) d 48 [.ref (C + 4), .int (1 : Int32)] (bM C (cH C (cA (cA s 32 (upd (s.2.1 32) k1 (-1 : Int32))) 33 (upd (s.2.1 33) k3 (vp_nar .boolean (1 : Int32))))) G) sz (.returned (some (.int r7)), (bM C (cH C (cA (cA s 32 (upd (s.2.1 32) k1 (-1 : Int32))) 33 (upd (s.2.1 33) k3 (vp_nar .boolean (1 : Int32))))) G), sz, 0)) (c9 : ¬ r5 = (-1 : Int32)) (c10 : r7 = (-1 : Int32)) : gm_ev N0 K ra_nm (ra_mt K) d (some .int) (gm_I cX0_judge) (gm_lkf (lkX0 false K)) 0 [some (.ref (C + 29)), some (.ref (C + 4)), some (.int p1), none, none] [] (bM C (cH C s) G) sz sl (.returned (some (.int (4 : Int32))), (bM C (cH C (cA (cA s 32 (upd (s.2.1 32) k1 (-1 : Int32))) 33 (upd (s.2.1 33) k3 (vp_nar .boolean (1 : Int32))))) G), sz, sl) := by
  refine gm_ev.aload_n i13_0 rfl ?_
  refine gm_ev.getfield (v := .ref (C + 32)) i13_1 rfl (bM_fld (j := 29) (fs := cF29 C s) rfl rfl) ?_
  refine gm_ev.iload_n i13_4 rfl ?_
  refine gm_ev.iconst (v := -1) i13_5 (by decide) ?_
  refine gm_ev.iastore (M' := (bM C (cH C (cA s 32 (upd (s.2.1 32) k1 (-1 : Int32)))) G)) i13_6 (bM_asti (j := 32) (n := 60) (f := s.2.1 32) rfl ek1 lk1 (by decide) hN rfl) ?_
  refine gm_ev.aload_n i13_7 rfl ?_
  refine gm_ev.getfield (v := .ref (C + 33)) i13_8 rfl (bM_fld (j := 29) (fs := cF29 C (cA s 32 (upd (s.2.1 32) k1 (-1 : Int32)))) rfl rfl) ?_
  refine gm_ev.iload_n i13_11 rfl ?_
  refine gm_ev.aload_n i13_12 rfl ?_
  refine gm_ev.getfield (v := .ref (C + 27)) i13_13 rfl (bM_fld (j := 4) (fs := cF4 C (cA s 32 (upd (s.2.1 32) k1 (-1 : Int32)))) rfl rfl) ?_
  refine gm_ev.getfield (v := .int (s.1 541)) i13_16 rfl (bM_fld (j := 27) (fs := cF27 C (cA s 32 (upd (s.2.1 32) k1 (-1 : Int32)))) rfl rfl) ?_
  refine gm_ev.iconst (v := 1) i13_19 (by decide) ?_
  refine gm_ev.icmp_le_f i13_20 c2 ?_
  refine gm_ev.iconst (v := 1) i13_23 (by decide) ?_
  refine gm_ev.goto (tgt := 28) i13_24 (by decide) ?_
  refine gm_ev.zastore (M' := (bM C (cH C (cA (cA s 32 (upd (s.2.1 32) k1 (-1 : Int32))) 33 (upd (s.2.1 33) k3 (vp_nar .boolean (1 : Int32))))) G)) i13_28 (bM_astn (j := 33) (n := 60) (f := s.2.1 33) rfl ek3 lk3 (by decide) hN rfl) ?_
  refine gm_ev.aload_n i13_29 rfl ?_
  refine gm_ev.getfield (v := .int (s.1 88)) i13_30 rfl (bM_fld (j := 4) (fs := cF4 C (cA (cA s 32 (upd (s.2.1 32) k1 (-1 : Int32))) 33 (upd (s.2.1 33) k3 (vp_nar .boolean (1 : Int32))))) rfl rfl) ?_
  refine gm_ev.if_eq_f i13_33 c4 ?_
  refine gm_ev.aload_n i13_36 rfl ?_
  refine gm_ev.iconst (v := 0) i13_37 (by decide) ?_
  refine gm_ev.callV gm_mono_run (av := [.int (0 : Int32)]) (r := []) (ci := 3) (fs := cF4 C (cA (cA s 32 (upd (s.2.1 32) k1 (-1 : Int32))) 33 (upd (s.2.1 33) k3 (vp_nar .boolean (1 : Int32))))) (bM_get (j := 4) rfl) i13_38 rfl rfl rfl (Nat.le_of_ble_eq_true rfl) t6 ?_
  refine gm_ev.istore_n (ls' := [some (.ref (C + 29)), some (.ref (C + 4)), some (.int p1), some (.int r5), none]) i13_41 (Nat.le_of_ble_eq_true rfl) rfl ?_
  refine gm_ev.aload_n i13_42 rfl ?_
  refine gm_ev.iconst (v := 1) i13_43 (by decide) ?_
  refine gm_ev.callV gm_mono_run (av := [.int (1 : Int32)]) (r := []) (ci := 3) (fs := cF4 C (cA (cA s 32 (upd (s.2.1 32) k1 (-1 : Int32))) 33 (upd (s.2.1 33) k3 (vp_nar .boolean (1 : Int32))))) (bM_get (j := 4) rfl) i13_44 rfl rfl rfl (Nat.le_of_ble_eq_true rfl) t8 ?_
  refine gm_ev.istore (ls' := [some (.ref (C + 29)), some (.ref (C + 4)), some (.int p1), some (.int r5), some (.int r7)]) i13_47 (Nat.le_of_ble_eq_true rfl) rfl ?_
  refine gm_ev.iload_n i13_49 rfl ?_
  refine gm_ev.iconst (v := -1) i13_50 (by decide) ?_
  refine gm_ev.icmp_eq_f i13_51 c9 ?_
  refine gm_ev.iload i13_54 rfl ?_
  refine gm_ev.iconst (v := -1) i13_56 (by decide) ?_
  refine gm_ev.icmp_ne_f i13_57 c10 ?_
  refine gm_ev.iconst (v := 4) i13_60 (by decide) ?_
  exact gm_ev.iret i13_61 rfl
theorem t_X0_note_0_tt {N0 : Nat} {K : Nat → Nat} {d C : Nat} {s : cS} {G : gm_H} {sz sl : Nat} {p0 : Int32} {p1 : Int32} {p2 : Nat} {r1 : Int32} {k4 : Nat} (hN : N0 ≤ C) (t2 : gm_to N0 K ra_nm (ra_mt K) d 15 [.ref (C + 29), .ref p2] (bM C (cH C s) G) sz (.returned (some (.int r1)), (bM C (cH C s) G), sz, 0)) (c3 : ¬ r1 = (-1 : Int32)) (ek4 : ((p0 * (60 : Int32)) + r1) = nI k4) (lk4 : k4 < 3600) (c5 : ¬ (s.2.1 31 k4) = (-1 : Int32)) : gm_ev N0 K ra_nm (ra_mt K) d (some .boolean) (gm_I cX0_note) (gm_lkf (lkX0 false K)) 0 [some (.ref (C + 29)), some (.int p0), some (.int p1), some (.ref p2), none] [] (bM C (cH C s) G) sz sl (.returned (some (.int (1 : Int32))), (bM C (cH C s) G), sz, sl) := by
  refine gm_ev.aload_n i14_0 rfl ?_
  refine gm_ev.aload_n i14_1 rfl ?_
  refine gm_ev.callV gm_mono_run (av := [.ref p2]) (r := []) (ci := 0) (fs := cF29 C s) (bM_get (j := 29) rfl) i14_2 rfl rfl rfl (Nat.le_of_ble_eq_true rfl) t2 ?_
  refine gm_ev.istore (ls' := [some (.ref (C + 29)), some (.int p0), some (.int p1), some (.ref p2), some (.int r1)]) i14_5 (Nat.le_of_ble_eq_true rfl) rfl ?_
  refine gm_ev.iload i14_7 rfl ?_
  refine gm_ev.iconst (v := -1) i14_9 (by decide) ?_
  refine gm_ev.icmp_ne_t (tgt := 51) i14_10 (by decide) c3 ?_
  refine gm_ev.aload_n i14_51 rfl ?_
  refine gm_ev.getfield (v := .ref (C + 31)) i14_52 rfl (bM_fld (j := 29) (fs := cF29 C s) rfl rfl) ?_
  refine gm_ev.iload_n i14_55 rfl ?_
  refine gm_ev.bipush (v := 60) i14_56 (by decide) ?_
  refine gm_ev.imul i14_58 ?_
  refine gm_ev.iload i14_59 rfl ?_
  refine gm_ev.iadd i14_61 ?_
  refine gm_ev.iaload i14_62 (bM_ai (j := 31) (n := 3600) (f := s.2.1 31) rfl ek4 lk4 (by decide)) ?_
  refine gm_ev.iconst (v := -1) i14_63 (by decide) ?_
  refine gm_ev.icmp_ne_t (tgt := 80) i14_64 (by decide) c5 ?_
  refine gm_ev.iconst (v := 1) i14_80 (by decide) ?_
  exact gm_ev.zret i14_81 rfl (by decide)
theorem t_X0_note_0_tf {N0 : Nat} {K : Nat → Nat} {d C : Nat} {s : cS} {G : gm_H} {sz sl : Nat} {p0 : Int32} {p1 : Int32} {p2 : Nat} {r1 : Int32} {k4 : Nat} {k6 : Nat} (hN : N0 ≤ C) (t2 : gm_to N0 K ra_nm (ra_mt K) d 15 [.ref (C + 29), .ref p2] (bM C (cH C s) G) sz (.returned (some (.int r1)), (bM C (cH C s) G), sz, 0)) (c3 : ¬ r1 = (-1 : Int32)) (ek4 : ((p0 * (60 : Int32)) + r1) = nI k4) (lk4 : k4 < 3600) (c5 : (s.2.1 31 k4) = (-1 : Int32)) (ek6 : ((p0 * (60 : Int32)) + r1) = nI k6) (lk6 : k6 < 3600) : gm_ev N0 K ra_nm (ra_mt K) d (some .boolean) (gm_I cX0_note) (gm_lkf (lkX0 false K)) 0 [some (.ref (C + 29)), some (.int p0), some (.int p1), some (.ref p2), none] [] (bM C (cH C s) G) sz sl (.returned (some (.int (1 : Int32))), (bM C (cH C (cA s 31 (upd (s.2.1 31) k6 p1))) G), sz, sl) := by
  refine gm_ev.aload_n i14_0 rfl ?_
  refine gm_ev.aload_n i14_1 rfl ?_
  refine gm_ev.callV gm_mono_run (av := [.ref p2]) (r := []) (ci := 0) (fs := cF29 C s) (bM_get (j := 29) rfl) i14_2 rfl rfl rfl (Nat.le_of_ble_eq_true rfl) t2 ?_
  refine gm_ev.istore (ls' := [some (.ref (C + 29)), some (.int p0), some (.int p1), some (.ref p2), some (.int r1)]) i14_5 (Nat.le_of_ble_eq_true rfl) rfl ?_
  refine gm_ev.iload i14_7 rfl ?_
  refine gm_ev.iconst (v := -1) i14_9 (by decide) ?_
  refine gm_ev.icmp_ne_t (tgt := 51) i14_10 (by decide) c3 ?_
  refine gm_ev.aload_n i14_51 rfl ?_
  refine gm_ev.getfield (v := .ref (C + 31)) i14_52 rfl (bM_fld (j := 29) (fs := cF29 C s) rfl rfl) ?_
  refine gm_ev.iload_n i14_55 rfl ?_
  refine gm_ev.bipush (v := 60) i14_56 (by decide) ?_
  refine gm_ev.imul i14_58 ?_
  refine gm_ev.iload i14_59 rfl ?_
  refine gm_ev.iadd i14_61 ?_
  refine gm_ev.iaload i14_62 (bM_ai (j := 31) (n := 3600) (f := s.2.1 31) rfl ek4 lk4 (by decide)) ?_
  refine gm_ev.iconst (v := -1) i14_63 (by decide) ?_
  refine gm_ev.icmp_ne_f i14_64 c5 ?_
  refine gm_ev.aload_n i14_67 rfl ?_
  refine gm_ev.getfield (v := .ref (C + 31)) i14_68 rfl (bM_fld (j := 29) (fs := cF29 C s) rfl rfl) ?_
  refine gm_ev.iload_n i14_71 rfl ?_
  refine gm_ev.bipush (v := 60) i14_72 (by decide) ?_
  refine gm_ev.imul i14_74 ?_
  refine gm_ev.iload i14_75 rfl ?_
  refine gm_ev.iadd i14_77 ?_
  refine gm_ev.iload_n i14_78 rfl ?_
  refine gm_ev.iastore (M' := (bM C (cH C (cA s 31 (upd (s.2.1 31) k6 p1))) G)) i14_79 (bM_asti (j := 31) (n := 3600) (f := s.2.1 31) rfl ek6 lk6 (by decide) hN rfl) ?_
  refine gm_ev.iconst (v := 1) i14_80 (by decide) ?_
  exact gm_ev.zret i14_81 rfl (by decide)
theorem t_X0_note_0_ftt {N0 : Nat} {K : Nat → Nat} {d C : Nat} {s : cS} {G : gm_H} {sz sl : Nat} {p0 : Int32} {p1 : Int32} {p2 : Nat} {r1 : Int32} {k5 : Nat} {fso6 : List Value} {G8 : gm_H} {k9 : Nat} (hN : N0 ≤ C) (t2 : gm_to N0 K ra_nm (ra_mt K) d 15 [.ref (C + 29), .ref p2] (bM C (cH C s) G) sz (.returned (some (.int r1)), (bM C (cH C s) G), sz, 0)) (c3 : r1 = (-1 : Int32)) (c4 : ¬ (s.1 584) = (60 : Int32)) (ek5 : (s.1 584) = nI k5) (lk5 : k5 < 60) (ho6 : G (C + 34 + 2 * k5) = some (.inr (9, fso6))) (t7 : gm_to N0 K ra_nm (ra_mt K) d 97 [.ref (C + 34 + 2 * k5), .ref p2] (bM C (cH C s) G) sz (.returned none, (bM C (cH C s) G8), sz, 0)) (ek9 : ((p0 * (60 : Int32)) + (s.1 584)) = nI k9) (lk9 : k9 < 3600) (c10 : ¬ (s.2.1 31 k9) = (-1 : Int32)) : gm_ev N0 K ra_nm (ra_mt K) d (some .boolean) (gm_I cX0_note) (gm_lkf (lkX0 false K)) 0 [some (.ref (C + 29)), some (.int p0), some (.int p1), some (.ref p2), none] [] (bM C (cH C s) G) sz sl (.returned (some (.int (1 : Int32))), (bM C (cH C (cI s 584 ((s.1 584) + (1 : Int32)))) G8), sz, sl) := by
  refine gm_ev.aload_n i14_0 rfl ?_
  refine gm_ev.aload_n i14_1 rfl ?_
  refine gm_ev.callV gm_mono_run (av := [.ref p2]) (r := []) (ci := 0) (fs := cF29 C s) (bM_get (j := 29) rfl) i14_2 rfl rfl rfl (Nat.le_of_ble_eq_true rfl) t2 ?_
  refine gm_ev.istore (ls' := [some (.ref (C + 29)), some (.int p0), some (.int p1), some (.ref p2), some (.int r1)]) i14_5 (Nat.le_of_ble_eq_true rfl) rfl ?_
  refine gm_ev.iload i14_7 rfl ?_
  refine gm_ev.iconst (v := -1) i14_9 (by decide) ?_
  refine gm_ev.icmp_ne_f i14_10 c3 ?_
  refine gm_ev.aload_n i14_13 rfl ?_
  refine gm_ev.getfield (v := .int (s.1 584)) i14_14 rfl (bM_fld (j := 29) (fs := cF29 C s) rfl rfl) ?_
  refine gm_ev.bipush (v := 60) i14_17 (by decide) ?_
  refine gm_ev.icmp_ne_t (tgt := 24) i14_19 (by decide) c4 ?_
  refine gm_ev.aload_n i14_24 rfl ?_
  refine gm_ev.getfield (v := .int (s.1 584)) i14_25 rfl (bM_fld (j := 29) (fs := cF29 C s) rfl rfl) ?_
  refine gm_ev.istore (ls' := [some (.ref (C + 29)), some (.int p0), some (.int p1), some (.ref p2), some (.int (s.1 584))]) i14_28 (Nat.le_of_ble_eq_true rfl) rfl ?_
  refine gm_ev.aload_n i14_30 rfl ?_
  refine gm_ev.getfield (v := .ref (C + 30)) i14_31 rfl (bM_fld (j := 29) (fs := cF29 C s) rfl rfl) ?_
  refine gm_ev.iload i14_34 rfl ?_
  refine gm_ev.aaload (x := some (C + 34 + 2 * k5)) i14_36 (gm_aq_of (n := 60) (bM_get (j := 30) rfl) ek5 lk5 (by decide) (cS_states lk5)) ?_
  refine gm_ev.aload_n i14_37 rfl ?_
  refine gm_ev.callV gm_mono_run (av := [.ref p2]) (r := []) (fs := fso6) (cG_get (by omega) ho6) i14_38 rfl rfl rfl (Nat.le_of_ble_eq_true rfl) t7 ?_
  refine gm_ev.aload_n i14_41 rfl ?_
  refine gm_ev.dup i14_42 rfl ?_
  refine gm_ev.getfield (v := .int (s.1 584)) i14_43 rfl (bM_fld (j := 29) (fs := cF29 C s) rfl rfl) ?_
  refine gm_ev.iconst (v := 1) i14_46 (by decide) ?_
  refine gm_ev.iadd i14_47 ?_
  refine gm_ev.putfield (M' := (bM C (cH C (cI s 584 ((s.1 584) + (1 : Int32)))) G8)) i14_48 rfl (bM_put (j := 29) (fs := cF29 C s) rfl (Nat.le_of_ble_eq_true rfl) hN (gm_fit_i _) rfl) ?_
  refine gm_ev.aload_n i14_51 rfl ?_
  refine gm_ev.getfield (v := .ref (C + 31)) i14_52 rfl (bM_fld (j := 29) (fs := cF29 C (cI s 584 ((s.1 584) + (1 : Int32)))) rfl rfl) ?_
  refine gm_ev.iload_n i14_55 rfl ?_
  refine gm_ev.bipush (v := 60) i14_56 (by decide) ?_
  refine gm_ev.imul i14_58 ?_
  refine gm_ev.iload i14_59 rfl ?_
  refine gm_ev.iadd i14_61 ?_
  refine gm_ev.iaload i14_62 (bM_ai (j := 31) (n := 3600) (f := s.2.1 31) rfl ek9 lk9 (by decide)) ?_
  refine gm_ev.iconst (v := -1) i14_63 (by decide) ?_
  refine gm_ev.icmp_ne_t (tgt := 80) i14_64 (by decide) c10 ?_
  refine gm_ev.iconst (v := 1) i14_80 (by decide) ?_
  exact gm_ev.zret i14_81 rfl (by decide)
theorem t_X0_note_0_ftf {N0 : Nat} {K : Nat → Nat} {d C : Nat} {s : cS} {G : gm_H} {sz sl : Nat} {p0 : Int32} {p1 : Int32} {p2 : Nat} {r1 : Int32} {k5 : Nat} {fso6 : List Value} {G8 : gm_H} {k9 : Nat} {k11 : Nat} (hN : N0 ≤ C) (t2 : gm_to N0 K ra_nm (ra_mt K) d 15 [.ref (C + 29), .ref p2] (bM C (cH C s) G) sz (.returned (some (.int r1)), (bM C (cH C s) G), sz, 0)) (c3 : r1 = (-1 : Int32)) (c4 : ¬ (s.1 584) = (60 : Int32)) (ek5 : (s.1 584) = nI k5) (lk5 : k5 < 60) (ho6 : G (C + 34 + 2 * k5) = some (.inr (9, fso6))) (t7 : gm_to N0 K ra_nm (ra_mt K) d 97 [.ref (C + 34 + 2 * k5), .ref p2] (bM C (cH C s) G) sz (.returned none, (bM C (cH C s) G8), sz, 0)) (ek9 : ((p0 * (60 : Int32)) + (s.1 584)) = nI k9) (lk9 : k9 < 3600) (c10 : (s.2.1 31 k9) = (-1 : Int32)) (ek11 : ((p0 * (60 : Int32)) + (s.1 584)) = nI k11) (lk11 : k11 < 3600) : gm_ev N0 K ra_nm (ra_mt K) d (some .boolean) (gm_I cX0_note) (gm_lkf (lkX0 false K)) 0 [some (.ref (C + 29)), some (.int p0), some (.int p1), some (.ref p2), none] [] (bM C (cH C s) G) sz sl (.returned (some (.int (1 : Int32))), (bM C (cH C (cA (cI s 584 ((s.1 584) + (1 : Int32))) 31 (upd (s.2.1 31) k11 p1))) G8), sz, sl) := by
  refine gm_ev.aload_n i14_0 rfl ?_
  refine gm_ev.aload_n i14_1 rfl ?_
  refine gm_ev.callV gm_mono_run (av := [.ref p2]) (r := []) (ci := 0) (fs := cF29 C s) (bM_get (j := 29) rfl) i14_2 rfl rfl rfl (Nat.le_of_ble_eq_true rfl) t2 ?_
  refine gm_ev.istore (ls' := [some (.ref (C + 29)), some (.int p0), some (.int p1), some (.ref p2), some (.int r1)]) i14_5 (Nat.le_of_ble_eq_true rfl) rfl ?_
  refine gm_ev.iload i14_7 rfl ?_
  refine gm_ev.iconst (v := -1) i14_9 (by decide) ?_
  refine gm_ev.icmp_ne_f i14_10 c3 ?_
  refine gm_ev.aload_n i14_13 rfl ?_
  refine gm_ev.getfield (v := .int (s.1 584)) i14_14 rfl (bM_fld (j := 29) (fs := cF29 C s) rfl rfl) ?_
  refine gm_ev.bipush (v := 60) i14_17 (by decide) ?_
  refine gm_ev.icmp_ne_t (tgt := 24) i14_19 (by decide) c4 ?_
  refine gm_ev.aload_n i14_24 rfl ?_
  refine gm_ev.getfield (v := .int (s.1 584)) i14_25 rfl (bM_fld (j := 29) (fs := cF29 C s) rfl rfl) ?_
  refine gm_ev.istore (ls' := [some (.ref (C + 29)), some (.int p0), some (.int p1), some (.ref p2), some (.int (s.1 584))]) i14_28 (Nat.le_of_ble_eq_true rfl) rfl ?_
  refine gm_ev.aload_n i14_30 rfl ?_
  refine gm_ev.getfield (v := .ref (C + 30)) i14_31 rfl (bM_fld (j := 29) (fs := cF29 C s) rfl rfl) ?_
  refine gm_ev.iload i14_34 rfl ?_
  refine gm_ev.aaload (x := some (C + 34 + 2 * k5)) i14_36 (gm_aq_of (n := 60) (bM_get (j := 30) rfl) ek5 lk5 (by decide) (cS_states lk5)) ?_
  refine gm_ev.aload_n i14_37 rfl ?_
  refine gm_ev.callV gm_mono_run (av := [.ref p2]) (r := []) (fs := fso6) (cG_get (by omega) ho6) i14_38 rfl rfl rfl (Nat.le_of_ble_eq_true rfl) t7 ?_
  refine gm_ev.aload_n i14_41 rfl ?_
  refine gm_ev.dup i14_42 rfl ?_
  refine gm_ev.getfield (v := .int (s.1 584)) i14_43 rfl (bM_fld (j := 29) (fs := cF29 C s) rfl rfl) ?_
  refine gm_ev.iconst (v := 1) i14_46 (by decide) ?_
  refine gm_ev.iadd i14_47 ?_
  refine gm_ev.putfield (M' := (bM C (cH C (cI s 584 ((s.1 584) + (1 : Int32)))) G8)) i14_48 rfl (bM_put (j := 29) (fs := cF29 C s) rfl (Nat.le_of_ble_eq_true rfl) hN (gm_fit_i _) rfl) ?_
  refine gm_ev.aload_n i14_51 rfl ?_
  refine gm_ev.getfield (v := .ref (C + 31)) i14_52 rfl (bM_fld (j := 29) (fs := cF29 C (cI s 584 ((s.1 584) + (1 : Int32)))) rfl rfl) ?_
  refine gm_ev.iload_n i14_55 rfl ?_
  refine gm_ev.bipush (v := 60) i14_56 (by decide) ?_
  refine gm_ev.imul i14_58 ?_
  refine gm_ev.iload i14_59 rfl ?_
  refine gm_ev.iadd i14_61 ?_
  refine gm_ev.iaload i14_62 (bM_ai (j := 31) (n := 3600) (f := s.2.1 31) rfl ek9 lk9 (by decide)) ?_
  refine gm_ev.iconst (v := -1) i14_63 (by decide) ?_
  refine gm_ev.icmp_ne_f i14_64 c10 ?_
  refine gm_ev.aload_n i14_67 rfl ?_
  refine gm_ev.getfield (v := .ref (C + 31)) i14_68 rfl (bM_fld (j := 29) (fs := cF29 C (cI s 584 ((s.1 584) + (1 : Int32)))) rfl rfl) ?_
  refine gm_ev.iload_n i14_71 rfl ?_
  refine gm_ev.bipush (v := 60) i14_72 (by decide) ?_
  refine gm_ev.imul i14_74 ?_
  refine gm_ev.iload i14_75 rfl ?_
  refine gm_ev.iadd i14_77 ?_
  refine gm_ev.iload_n i14_78 rfl ?_
  refine gm_ev.iastore (M' := (bM C (cH C (cA (cI s 584 ((s.1 584) + (1 : Int32))) 31 (upd (s.2.1 31) k11 p1))) G8)) i14_79 (bM_asti (j := 31) (n := 3600) (f := s.2.1 31) rfl ek11 lk11 (by decide) hN rfl) ?_
  refine gm_ev.iconst (v := 1) i14_80 (by decide) ?_
  exact gm_ev.zret i14_81 rfl (by decide)
theorem t_X0_note_0_ff {N0 : Nat} {K : Nat → Nat} {d C : Nat} {s : cS} {G : gm_H} {sz sl : Nat} {p0 : Int32} {p1 : Int32} {p2 : Nat} {r1 : Int32} (hN : N0 ≤ C) (t2 : gm_to N0 K ra_nm (ra_mt K) d 15 [.ref (C + 29), .ref p2] (bM C (cH C s) G) sz (.returned (some (.int r1)), (bM C (cH C s) G), sz, 0)) (c3 : r1 = (-1 : Int32)) (c4 : (s.1 584) = (60 : Int32)) : gm_ev N0 K ra_nm (ra_mt K) d (some .boolean) (gm_I cX0_note) (gm_lkf (lkX0 false K)) 0 [some (.ref (C + 29)), some (.int p0), some (.int p1), some (.ref p2), none] [] (bM C (cH C s) G) sz sl (.returned (some (.int (0 : Int32))), (bM C (cH C s) G), sz, sl) := by
  refine gm_ev.aload_n i14_0 rfl ?_
  refine gm_ev.aload_n i14_1 rfl ?_
  refine gm_ev.callV gm_mono_run (av := [.ref p2]) (r := []) (ci := 0) (fs := cF29 C s) (bM_get (j := 29) rfl) i14_2 rfl rfl rfl (Nat.le_of_ble_eq_true rfl) t2 ?_
  refine gm_ev.istore (ls' := [some (.ref (C + 29)), some (.int p0), some (.int p1), some (.ref p2), some (.int r1)]) i14_5 (Nat.le_of_ble_eq_true rfl) rfl ?_
  refine gm_ev.iload i14_7 rfl ?_
  refine gm_ev.iconst (v := -1) i14_9 (by decide) ?_
  refine gm_ev.icmp_ne_f i14_10 c3 ?_
  refine gm_ev.aload_n i14_13 rfl ?_
  refine gm_ev.getfield (v := .int (s.1 584)) i14_14 rfl (bM_fld (j := 29) (fs := cF29 C s) rfl rfl) ?_
  refine gm_ev.bipush (v := 60) i14_17 (by decide) ?_
  refine gm_ev.icmp_ne_f i14_19 c4 ?_
  refine gm_ev.iconst (v := 0) i14_22 (by decide) ?_
  exact gm_ev.zret i14_23 rfl (by decide)
theorem t_X0_placeOf_0__at2 {N0 : Nat} {K : Nat → Nat} {d C : Nat} {s : cS} {G : gm_H} {sz sl : Nat} {R : gm_R} {p0 : Nat} (hN : N0 ≤ C)  (k : gm_ev N0 K ra_nm (ra_mt K) d (some .int) (gm_I cX0_placeOf) (gm_lkf (lkX0 false K)) 2 [some (.ref (C + 29)), some (.ref p0), some (.int (0 : Int32))] [] (bM C (cH C s) G) sz sl R) : gm_ev N0 K ra_nm (ra_mt K) d (some .int) (gm_I cX0_placeOf) (gm_lkf (lkX0 false K)) 0 [some (.ref (C + 29)), some (.ref p0), none] [] (bM C (cH C s) G) sz sl R := by
  refine gm_ev.iconst (v := 0) i15_0 (by decide) ?_
  refine gm_ev.istore_n (ls' := [some (.ref (C + 29)), some (.ref p0), some (.int (0 : Int32))]) i15_1 (Nat.le_of_ble_eq_true rfl) rfl ?_
  exact k
theorem t_X0_placeOf_2_t {N0 : Nat} {K : Nat → Nat} {d C : Nat} {s : cS} {G : gm_H} {sz sl : Nat} {p0 : Nat} {u2 : Int32} (hN : N0 ≤ C) (c1 : (s.1 584) ≤ u2) : gm_ev N0 K ra_nm (ra_mt K) d (some .int) (gm_I cX0_placeOf) (gm_lkf (lkX0 false K)) 2 [some (.ref (C + 29)), some (.ref p0), some (.int u2)] [] (bM C (cH C s) G) sz sl (.returned (some (.int (-1 : Int32))), (bM C (cH C s) G), sz, sl) := by
  refine gm_ev.iload_n i15_2 rfl ?_
  refine gm_ev.aload_n i15_3 rfl ?_
  refine gm_ev.getfield (v := .int (s.1 584)) i15_4 rfl (bM_fld (j := 29) (fs := cF29 C s) rfl rfl) ?_
  refine gm_ev.icmp_ge_t (tgt := 31) i15_7 (by decide) c1 ?_
  refine gm_ev.iconst (v := -1) i15_31 (by decide) ?_
  exact gm_ev.iret i15_32 rfl
theorem t_X0_placeOf_2_ft_at2 {N0 : Nat} {K : Nat → Nat} {d C : Nat} {s : cS} {G : gm_H} {sz sl : Nat} {R : gm_R} {p0 : Nat} {u2 : Int32} {k2 : Nat} {fso3 : List Value} {r4 : Int32} (hN : N0 ≤ C) (c1 : ¬ (s.1 584) ≤ u2) (ek2 : u2 = nI k2) (lk2 : k2 < 60) (ho3 : G (C + 34 + 2 * k2) = some (.inr (9, fso3))) (t5 : gm_to N0 K ra_nm (ra_mt K) d 98 [.ref (C + 34 + 2 * k2), .ref p0] (bM C (cH C s) G) sz (.returned (some (.int r4)), (bM C (cH C s) G), sz, 0)) (c6 : r4 = 0) (k : gm_ev N0 K ra_nm (ra_mt K) d (some .int) (gm_I cX0_placeOf) (gm_lkf (lkX0 false K)) 2 [some (.ref (C + 29)), some (.ref p0), some (.int (u2 + (1 : Int32)))] [] (bM C (cH C s) G) sz sl R) : gm_ev N0 K ra_nm (ra_mt K) d (some .int) (gm_I cX0_placeOf) (gm_lkf (lkX0 false K)) 2 [some (.ref (C + 29)), some (.ref p0), some (.int u2)] [] (bM C (cH C s) G) sz sl R := by
  refine gm_ev.iload_n i15_2 rfl ?_
  refine gm_ev.aload_n i15_3 rfl ?_
  refine gm_ev.getfield (v := .int (s.1 584)) i15_4 rfl (bM_fld (j := 29) (fs := cF29 C s) rfl rfl) ?_
  refine gm_ev.icmp_ge_f i15_7 c1 ?_
  refine gm_ev.aload_n i15_10 rfl ?_
  refine gm_ev.getfield (v := .ref (C + 30)) i15_11 rfl (bM_fld (j := 29) (fs := cF29 C s) rfl rfl) ?_
  refine gm_ev.iload_n i15_14 rfl ?_
  refine gm_ev.aaload (x := some (C + 34 + 2 * k2)) i15_15 (gm_aq_of (n := 60) (bM_get (j := 30) rfl) ek2 lk2 (by decide) (cS_states lk2)) ?_
  refine gm_ev.aload_n i15_16 rfl ?_
  refine gm_ev.callV gm_mono_run (av := [.ref p0]) (r := []) (fs := fso3) (cG_get (by omega) ho3) i15_17 rfl rfl rfl (Nat.le_of_ble_eq_true rfl) t5 ?_
  refine gm_ev.if_eq_t (tgt := 25) i15_20 (by decide) c6 ?_
  refine gm_ev.iinc (v := u2 + (1 : Int32)) (ls' := [some (.ref (C + 29)), some (.ref p0), some (.int (u2 + (1 : Int32)))]) i15_25 rfl (by rfl) rfl ?_
  refine gm_ev.goto (tgt := 2) i15_28 (by decide) ?_
  exact k
theorem t_X0_placeOf_2_ff {N0 : Nat} {K : Nat → Nat} {d C : Nat} {s : cS} {G : gm_H} {sz sl : Nat} {p0 : Nat} {u2 : Int32} {k2 : Nat} {fso3 : List Value} {r4 : Int32} (hN : N0 ≤ C) (c1 : ¬ (s.1 584) ≤ u2) (ek2 : u2 = nI k2) (lk2 : k2 < 60) (ho3 : G (C + 34 + 2 * k2) = some (.inr (9, fso3))) (t5 : gm_to N0 K ra_nm (ra_mt K) d 98 [.ref (C + 34 + 2 * k2), .ref p0] (bM C (cH C s) G) sz (.returned (some (.int r4)), (bM C (cH C s) G), sz, 0)) (c6 : ¬ r4 = 0) : gm_ev N0 K ra_nm (ra_mt K) d (some .int) (gm_I cX0_placeOf) (gm_lkf (lkX0 false K)) 2 [some (.ref (C + 29)), some (.ref p0), some (.int u2)] [] (bM C (cH C s) G) sz sl (.returned (some (.int u2)), (bM C (cH C s) G), sz, sl) := by
  refine gm_ev.iload_n i15_2 rfl ?_
  refine gm_ev.aload_n i15_3 rfl ?_
  refine gm_ev.getfield (v := .int (s.1 584)) i15_4 rfl (bM_fld (j := 29) (fs := cF29 C s) rfl rfl) ?_
  refine gm_ev.icmp_ge_f i15_7 c1 ?_
  refine gm_ev.aload_n i15_10 rfl ?_
  refine gm_ev.getfield (v := .ref (C + 30)) i15_11 rfl (bM_fld (j := 29) (fs := cF29 C s) rfl rfl) ?_
  refine gm_ev.iload_n i15_14 rfl ?_
  refine gm_ev.aaload (x := some (C + 34 + 2 * k2)) i15_15 (gm_aq_of (n := 60) (bM_get (j := 30) rfl) ek2 lk2 (by decide) (cS_states lk2)) ?_
  refine gm_ev.aload_n i15_16 rfl ?_
  refine gm_ev.callV gm_mono_run (av := [.ref p0]) (r := []) (fs := fso3) (cG_get (by omega) ho3) i15_17 rfl rfl rfl (Nat.le_of_ble_eq_true rfl) t5 ?_
  refine gm_ev.if_eq_f i15_20 c6 ?_
  refine gm_ev.iload_n i15_23 rfl ?_
  exact gm_ev.iret i15_24 rfl
theorem t_X0_weigh_0__at7 {N0 : Nat} {K : Nat → Nat} {d C : Nat} {s : cS} {G : gm_H} {sz sl : Nat} {R : gm_R}  (hN : N0 ≤ C)  (k : gm_ev N0 K ra_nm (ra_mt K) d (some .boolean) (gm_I cX0_weigh) (gm_lkf (lkX0 false K)) 7 [some (.ref (C + 29)), some (.int (s.1 584)), some (.int (0 : Int32)), none] [] (bM C (cH C s) G) sz sl R) : gm_ev N0 K ra_nm (ra_mt K) d (some .boolean) (gm_I cX0_weigh) (gm_lkf (lkX0 false K)) 0 [some (.ref (C + 29)), none, none, none] [] (bM C (cH C s) G) sz sl R := by
  refine gm_ev.aload_n i16_0 rfl ?_
  refine gm_ev.getfield (v := .int (s.1 584)) i16_1 rfl (bM_fld (j := 29) (fs := cF29 C s) rfl rfl) ?_
  refine gm_ev.istore_n (ls' := [some (.ref (C + 29)), some (.int (s.1 584)), none, none]) i16_4 (Nat.le_of_ble_eq_true rfl) rfl ?_
  refine gm_ev.iconst (v := 0) i16_5 (by decide) ?_
  refine gm_ev.istore_n (ls' := [some (.ref (C + 29)), some (.int (s.1 584)), some (.int (0 : Int32)), none]) i16_6 (Nat.le_of_ble_eq_true rfl) rfl ?_
  exact k
theorem t_X0_weigh_7_tt {N0 : Nat} {K : Nat → Nat} {d C : Nat} {s : cS} {G : gm_H} {sz sl : Nat} {u1 : Int32} {u2 : Int32} (hN : N0 ≤ C) (c1 : (s.1 584) ≤ u2) (c2 : ¬ u1 = 0) : gm_ev N0 K ra_nm (ra_mt K) d (some .boolean) (gm_I cX0_weigh) (gm_lkf (lkX0 false K)) 7 [some (.ref (C + 29)), some (.int u1), some (.int u2), none] [] (bM C (cH C s) G) sz sl (.returned (some (.int (0 : Int32))), (bM C (cH C s) G), sz, sl) := by
  refine gm_ev.iload_n i16_7 rfl ?_
  refine gm_ev.aload_n i16_8 rfl ?_
  refine gm_ev.getfield (v := .int (s.1 584)) i16_9 rfl (bM_fld (j := 29) (fs := cF29 C s) rfl rfl) ?_
  refine gm_ev.icmp_ge_t (tgt := 83) i16_12 (by decide) c1 ?_
  refine gm_ev.iload_n i16_83 rfl ?_
  refine gm_ev.if_ne_t (tgt := 91) i16_84 (by decide) c2 ?_
  refine gm_ev.iconst (v := 0) i16_91 (by decide) ?_
  exact gm_ev.zret i16_92 rfl (by decide)
theorem t_X0_weigh_7_tf {N0 : Nat} {K : Nat → Nat} {d C : Nat} {s : cS} {G : gm_H} {sz sl : Nat} {u1 : Int32} {u2 : Int32} (hN : N0 ≤ C) (c1 : (s.1 584) ≤ u2) (c2 : u1 = 0) : gm_ev N0 K ra_nm (ra_mt K) d (some .boolean) (gm_I cX0_weigh) (gm_lkf (lkX0 false K)) 7 [some (.ref (C + 29)), some (.int u1), some (.int u2), none] [] (bM C (cH C s) G) sz sl (.returned (some (.int (1 : Int32))), (bM C (cH C s) G), sz, sl) := by
  refine gm_ev.iload_n i16_7 rfl ?_
  refine gm_ev.aload_n i16_8 rfl ?_
  refine gm_ev.getfield (v := .int (s.1 584)) i16_9 rfl (bM_fld (j := 29) (fs := cF29 C s) rfl rfl) ?_
  refine gm_ev.icmp_ge_t (tgt := 83) i16_12 (by decide) c1 ?_
  refine gm_ev.iload_n i16_83 rfl ?_
  refine gm_ev.if_ne_f i16_84 c2 ?_
  refine gm_ev.iconst (v := 1) i16_87 (by decide) ?_
  refine gm_ev.goto (tgt := 92) i16_88 (by decide) ?_
  exact gm_ev.zret i16_92 rfl (by decide)
theorem t_X0_weigh_7_ftt {N0 : Nat} {K : Nat → Nat} {d C : Nat} {s : cS} {G : gm_H} {sz sl : Nat} {u1 : Int32} {u2 : Int32} (hN : N0 ≤ C) (c1 : ¬ (s.1 584) ≤ u2) (c2 : u1 ≤ 0) (c3 : ¬ u1 = 0) : gm_ev N0 K ra_nm (ra_mt K) d (some .boolean) (gm_I cX0_weigh) (gm_lkf (lkX0 false K)) 7 [some (.ref (C + 29)), some (.int u1), some (.int u2), none] [] (bM C (cH C s) G) sz sl (.returned (some (.int (0 : Int32))), (bM C (cH C s) G), sz, sl) := by
  refine gm_ev.iload_n i16_7 rfl ?_
  refine gm_ev.aload_n i16_8 rfl ?_
  refine gm_ev.getfield (v := .int (s.1 584)) i16_9 rfl (bM_fld (j := 29) (fs := cF29 C s) rfl rfl) ?_
  refine gm_ev.icmp_ge_f i16_12 c1 ?_
  refine gm_ev.iload_n i16_15 rfl ?_
  refine gm_ev.if_le_t (tgt := 83) i16_16 (by decide) c2 ?_
  refine gm_ev.iload_n i16_83 rfl ?_
  refine gm_ev.if_ne_t (tgt := 91) i16_84 (by decide) c3 ?_
  refine gm_ev.iconst (v := 0) i16_91 (by decide) ?_
  exact gm_ev.zret i16_92 rfl (by decide)
theorem t_X0_weigh_7_ftf {N0 : Nat} {K : Nat → Nat} {d C : Nat} {s : cS} {G : gm_H} {sz sl : Nat} {u1 : Int32} {u2 : Int32} (hN : N0 ≤ C) (c1 : ¬ (s.1 584) ≤ u2) (c2 : u1 ≤ 0) (c3 : u1 = 0) : gm_ev N0 K ra_nm (ra_mt K) d (some .boolean) (gm_I cX0_weigh) (gm_lkf (lkX0 false K)) 7 [some (.ref (C + 29)), some (.int u1), some (.int u2), none] [] (bM C (cH C s) G) sz sl (.returned (some (.int (1 : Int32))), (bM C (cH C s) G), sz, sl) := by
  refine gm_ev.iload_n i16_7 rfl ?_
  refine gm_ev.aload_n i16_8 rfl ?_
  refine gm_ev.getfield (v := .int (s.1 584)) i16_9 rfl (bM_fld (j := 29) (fs := cF29 C s) rfl rfl) ?_
  refine gm_ev.icmp_ge_f i16_12 c1 ?_
  refine gm_ev.iload_n i16_15 rfl ?_
  refine gm_ev.if_le_t (tgt := 83) i16_16 (by decide) c2 ?_
  refine gm_ev.iload_n i16_83 rfl ?_
  refine gm_ev.if_ne_f i16_84 c3 ?_
  refine gm_ev.iconst (v := 1) i16_87 (by decide) ?_
  refine gm_ev.goto (tgt := 92) i16_88 (by decide) ?_
  exact gm_ev.zret i16_92 rfl (by decide)
theorem t_X0_weigh_7_ff_at28 {N0 : Nat} {K : Nat → Nat} {d C : Nat} {s : cS} {G : gm_H} {sz sl : Nat} {R : gm_R} {u1 : Int32} {u2 : Int32} (hN : N0 ≤ C) (c1 : ¬ (s.1 584) ≤ u2) (c2 : ¬ u1 ≤ 0) (k : gm_ev N0 K ra_nm (ra_mt K) d (some .boolean) (gm_I cX0_weigh) (gm_lkf (lkX0 false K)) 28 [some (.ref (C + 29)), some (.int (0 : Int32)), some (.int u2), some (.int ((s.1 584) - (1 : Int32)))] [] (bM C (cH C s) G) sz sl R) : gm_ev N0 K ra_nm (ra_mt K) d (some .boolean) (gm_I cX0_weigh) (gm_lkf (lkX0 false K)) 7 [some (.ref (C + 29)), some (.int u1), some (.int u2), none] [] (bM C (cH C s) G) sz sl R := by
  refine gm_ev.iload_n i16_7 rfl ?_
  refine gm_ev.aload_n i16_8 rfl ?_
  refine gm_ev.getfield (v := .int (s.1 584)) i16_9 rfl (bM_fld (j := 29) (fs := cF29 C s) rfl rfl) ?_
  refine gm_ev.icmp_ge_f i16_12 c1 ?_
  refine gm_ev.iload_n i16_15 rfl ?_
  refine gm_ev.if_le_f i16_16 c2 ?_
  refine gm_ev.iconst (v := 0) i16_19 (by decide) ?_
  refine gm_ev.istore_n (ls' := [some (.ref (C + 29)), some (.int (0 : Int32)), some (.int u2), none]) i16_20 (Nat.le_of_ble_eq_true rfl) rfl ?_
  refine gm_ev.aload_n i16_21 rfl ?_
  refine gm_ev.getfield (v := .int (s.1 584)) i16_22 rfl (bM_fld (j := 29) (fs := cF29 C s) rfl rfl) ?_
  refine gm_ev.iconst (v := 1) i16_25 (by decide) ?_
  refine gm_ev.isub i16_26 ?_
  refine gm_ev.istore_n (ls' := [some (.ref (C + 29)), some (.int (0 : Int32)), some (.int u2), some (.int ((s.1 584) - (1 : Int32)))]) i16_27 (Nat.le_of_ble_eq_true rfl) rfl ?_
  exact k
theorem t_X0_weigh_28_t_at7 {N0 : Nat} {K : Nat → Nat} {d C : Nat} {s : cS} {G : gm_H} {sz sl : Nat} {R : gm_R} {u1 : Int32} {u2 : Int32} {u3 : Int32} (hN : N0 ≤ C) (c1 : u3 < 0) (k : gm_ev N0 K ra_nm (ra_mt K) d (some .boolean) (gm_I cX0_weigh) (gm_lkf (lkX0 false K)) 7 [some (.ref (C + 29)), some (.int u1), some (.int (u2 + (1 : Int32))), none] [] (bM C (cH C s) G) sz sl R) : gm_ev N0 K ra_nm (ra_mt K) d (some .boolean) (gm_I cX0_weigh) (gm_lkf (lkX0 false K)) 28 [some (.ref (C + 29)), some (.int u1), some (.int u2), some (.int u3)] [] (bM C (cH C s) G) sz sl R := by
  refine gm_ev.iload_n i16_28 rfl ?_
  refine gm_ev.if_lt_t (tgt := 77) i16_29 (by decide) c1 ?_
  refine gm_ev.iinc (v := u2 + (1 : Int32)) (ls' := [some (.ref (C + 29)), some (.int u1), some (.int (u2 + (1 : Int32))), some (.int u3)]) i16_77 rfl (by rfl) rfl ?_
  refine gm_ev.goto (tgt := 7) i16_80 (by decide) ?_
  refine gm_ev.le (a := [some (.ref (C + 29)), some (.int u1), some (.int (u2 + (1 : Int32))), none]) (gm_leL.le (show gm_leL _ _ from ⟨rfl, ⟨rfl, ⟨rfl, trivial⟩⟩⟩)) ?_
  exact k
theorem t_X0_weigh_28_ft_at28 {N0 : Nat} {K : Nat → Nat} {d C : Nat} {s : cS} {G : gm_H} {sz sl : Nat} {R : gm_R} {u1 : Int32} {u2 : Int32} {u3 : Int32} {k2 : Nat} (hN : N0 ≤ C) (c1 : ¬ u3 < 0) (ek2 : u3 = nI k2) (lk2 : k2 < 60) (c3 : ¬ (s.2.1 32 k2) = (-1 : Int32)) (k : gm_ev N0 K ra_nm (ra_mt K) d (some .boolean) (gm_I cX0_weigh) (gm_lkf (lkX0 false K)) 28 [some (.ref (C + 29)), some (.int u1), some (.int u2), some (.int (u3 + (-1 : Int32)))] [] (bM C (cH C s) G) sz sl R) : gm_ev N0 K ra_nm (ra_mt K) d (some .boolean) (gm_I cX0_weigh) (gm_lkf (lkX0 false K)) 28 [some (.ref (C + 29)), some (.int u1), some (.int u2), some (.int u3)] [] (bM C (cH C s) G) sz sl R := by
  refine gm_ev.iload_n i16_28 rfl ?_
  refine gm_ev.if_lt_f i16_29 c1 ?_
  refine gm_ev.aload_n i16_32 rfl ?_
  refine gm_ev.getfield (v := .ref (C + 32)) i16_33 rfl (bM_fld (j := 29) (fs := cF29 C s) rfl rfl) ?_
  refine gm_ev.iload_n i16_36 rfl ?_
  refine gm_ev.iaload i16_37 (bM_ai (j := 32) (n := 60) (f := s.2.1 32) rfl ek2 lk2 (by decide)) ?_
  refine gm_ev.iconst (v := -1) i16_38 (by decide) ?_
  refine gm_ev.icmp_ne_t (tgt := 71) i16_39 (by decide) c3 ?_
  refine gm_ev.iinc (v := u3 + (-1 : Int32)) (ls' := [some (.ref (C + 29)), some (.int u1), some (.int u2), some (.int (u3 + (-1 : Int32)))]) i16_71 rfl (by rfl) rfl ?_
  refine gm_ev.goto (tgt := 28) i16_74 (by decide) ?_
  exact k
theorem t_X0_weigh_28_fft_at28 {N0 : Nat} {K : Nat → Nat} {d C : Nat} {s : cS} {G : gm_H} {sz sl : Nat} {R : gm_R} {u1 : Int32} {u2 : Int32} {u3 : Int32} {k2 : Nat} {r4 : Int32} {k6 : Nat} {k7 : Nat} (hN : N0 ≤ C) (c1 : ¬ u3 < 0) (ek2 : u3 = nI k2) (lk2 : k2 < 60) (c3 : (s.2.1 32 k2) = (-1 : Int32)) (t5 : gm_to N0 K ra_nm (ra_mt K) d 17 [.ref (C + 29), .int u3] (bM C (cH C s) G) sz (.returned (some (.int r4)), (bM C (cH C s) G), sz, 0)) (ek6 : u3 = nI k6) (lk6 : k6 < 60) (ek7 : u3 = nI k7) (lk7 : k7 < 60) (c8 : ¬ ((upd (s.2.1 32) k6 r4) k7) = (-1 : Int32)) (k : gm_ev N0 K ra_nm (ra_mt K) d (some .boolean) (gm_I cX0_weigh) (gm_lkf (lkX0 false K)) 28 [some (.ref (C + 29)), some (.int (u1 + (0 : Int32))), some (.int u2), some (.int (u3 + (-1 : Int32)))] [] (bM C (cH C (cA s 32 (upd (s.2.1 32) k6 r4))) G) sz sl R) : gm_ev N0 K ra_nm (ra_mt K) d (some .boolean) (gm_I cX0_weigh) (gm_lkf (lkX0 false K)) 28 [some (.ref (C + 29)), some (.int u1), some (.int u2), some (.int u3)] [] (bM C (cH C s) G) sz sl R := by
  refine gm_ev.iload_n i16_28 rfl ?_
  refine gm_ev.if_lt_f i16_29 c1 ?_
  refine gm_ev.aload_n i16_32 rfl ?_
  refine gm_ev.getfield (v := .ref (C + 32)) i16_33 rfl (bM_fld (j := 29) (fs := cF29 C s) rfl rfl) ?_
  refine gm_ev.iload_n i16_36 rfl ?_
  refine gm_ev.iaload i16_37 (bM_ai (j := 32) (n := 60) (f := s.2.1 32) rfl ek2 lk2 (by decide)) ?_
  refine gm_ev.iconst (v := -1) i16_38 (by decide) ?_
  refine gm_ev.icmp_ne_f i16_39 c3 ?_
  refine gm_ev.aload_n i16_42 rfl ?_
  refine gm_ev.getfield (v := .ref (C + 32)) i16_43 rfl (bM_fld (j := 29) (fs := cF29 C s) rfl rfl) ?_
  refine gm_ev.iload_n i16_46 rfl ?_
  refine gm_ev.aload_n i16_47 rfl ?_
  refine gm_ev.iload_n i16_48 rfl ?_
  refine gm_ev.callV gm_mono_run (av := [.int u3]) (r := [.int u3, .ref (C + 32)]) (ci := 0) (fs := cF29 C s) (bM_get (j := 29) rfl) i16_49 rfl rfl rfl (Nat.le_of_ble_eq_true rfl) t5 ?_
  refine gm_ev.iastore (M' := (bM C (cH C (cA s 32 (upd (s.2.1 32) k6 r4))) G)) i16_52 (bM_asti (j := 32) (n := 60) (f := s.2.1 32) rfl ek6 lk6 (by decide) hN rfl) ?_
  refine gm_ev.iload_n i16_53 rfl ?_
  refine gm_ev.aload_n i16_54 rfl ?_
  refine gm_ev.getfield (v := .ref (C + 32)) i16_55 rfl (bM_fld (j := 29) (fs := cF29 C (cA s 32 (upd (s.2.1 32) k6 r4))) rfl rfl) ?_
  refine gm_ev.iload_n i16_58 rfl ?_
  refine gm_ev.iaload i16_59 (bM_ai (j := 32) (n := 60) (f := (upd (s.2.1 32) k6 r4)) rfl ek7 lk7 (by decide)) ?_
  refine gm_ev.iconst (v := -1) i16_60 (by decide) ?_
  refine gm_ev.icmp_ne_t (tgt := 68) i16_61 (by decide) c8 ?_
  refine gm_ev.iconst (v := 0) i16_68 (by decide) ?_
  refine gm_ev.iadd i16_69 ?_
  refine gm_ev.istore_n (ls' := [some (.ref (C + 29)), some (.int (u1 + (0 : Int32))), some (.int u2), some (.int u3)]) i16_70 (Nat.le_of_ble_eq_true rfl) rfl ?_
  refine gm_ev.iinc (v := u3 + (-1 : Int32)) (ls' := [some (.ref (C + 29)), some (.int (u1 + (0 : Int32))), some (.int u2), some (.int (u3 + (-1 : Int32)))]) i16_71 rfl (by rfl) rfl ?_
  refine gm_ev.goto (tgt := 28) i16_74 (by decide) ?_
  exact k
theorem t_X0_weigh_28_fff_at28 {N0 : Nat} {K : Nat → Nat} {d C : Nat} {s : cS} {G : gm_H} {sz sl : Nat} {R : gm_R} {u1 : Int32} {u2 : Int32} {u3 : Int32} {k2 : Nat} {r4 : Int32} {k6 : Nat} {k7 : Nat} (hN : N0 ≤ C) (c1 : ¬ u3 < 0) (ek2 : u3 = nI k2) (lk2 : k2 < 60) (c3 : (s.2.1 32 k2) = (-1 : Int32)) (t5 : gm_to N0 K ra_nm (ra_mt K) d 17 [.ref (C + 29), .int u3] (bM C (cH C s) G) sz (.returned (some (.int r4)), (bM C (cH C s) G), sz, 0)) (ek6 : u3 = nI k6) (lk6 : k6 < 60) (ek7 : u3 = nI k7) (lk7 : k7 < 60) (c8 : ((upd (s.2.1 32) k6 r4) k7) = (-1 : Int32)) (k : gm_ev N0 K ra_nm (ra_mt K) d (some .boolean) (gm_I cX0_weigh) (gm_lkf (lkX0 false K)) 28 [some (.ref (C + 29)), some (.int (u1 + (1 : Int32))), some (.int u2), some (.int (u3 + (-1 : Int32)))] [] (bM C (cH C (cA s 32 (upd (s.2.1 32) k6 r4))) G) sz sl R) : gm_ev N0 K ra_nm (ra_mt K) d (some .boolean) (gm_I cX0_weigh) (gm_lkf (lkX0 false K)) 28 [some (.ref (C + 29)), some (.int u1), some (.int u2), some (.int u3)] [] (bM C (cH C s) G) sz sl R := by
  refine gm_ev.iload_n i16_28 rfl ?_
  refine gm_ev.if_lt_f i16_29 c1 ?_
  refine gm_ev.aload_n i16_32 rfl ?_
  refine gm_ev.getfield (v := .ref (C + 32)) i16_33 rfl (bM_fld (j := 29) (fs := cF29 C s) rfl rfl) ?_
  refine gm_ev.iload_n i16_36 rfl ?_
  refine gm_ev.iaload i16_37 (bM_ai (j := 32) (n := 60) (f := s.2.1 32) rfl ek2 lk2 (by decide)) ?_
  refine gm_ev.iconst (v := -1) i16_38 (by decide) ?_
  refine gm_ev.icmp_ne_f i16_39 c3 ?_
  refine gm_ev.aload_n i16_42 rfl ?_
  refine gm_ev.getfield (v := .ref (C + 32)) i16_43 rfl (bM_fld (j := 29) (fs := cF29 C s) rfl rfl) ?_
  refine gm_ev.iload_n i16_46 rfl ?_
  refine gm_ev.aload_n i16_47 rfl ?_
  refine gm_ev.iload_n i16_48 rfl ?_
  refine gm_ev.callV gm_mono_run (av := [.int u3]) (r := [.int u3, .ref (C + 32)]) (ci := 0) (fs := cF29 C s) (bM_get (j := 29) rfl) i16_49 rfl rfl rfl (Nat.le_of_ble_eq_true rfl) t5 ?_
  refine gm_ev.iastore (M' := (bM C (cH C (cA s 32 (upd (s.2.1 32) k6 r4))) G)) i16_52 (bM_asti (j := 32) (n := 60) (f := s.2.1 32) rfl ek6 lk6 (by decide) hN rfl) ?_
  refine gm_ev.iload_n i16_53 rfl ?_
  refine gm_ev.aload_n i16_54 rfl ?_
  refine gm_ev.getfield (v := .ref (C + 32)) i16_55 rfl (bM_fld (j := 29) (fs := cF29 C (cA s 32 (upd (s.2.1 32) k6 r4))) rfl rfl) ?_
  refine gm_ev.iload_n i16_58 rfl ?_
  refine gm_ev.iaload i16_59 (bM_ai (j := 32) (n := 60) (f := (upd (s.2.1 32) k6 r4)) rfl ek7 lk7 (by decide)) ?_
  refine gm_ev.iconst (v := -1) i16_60 (by decide) ?_
  refine gm_ev.icmp_ne_f i16_61 c8 ?_
  refine gm_ev.iconst (v := 1) i16_64 (by decide) ?_
  refine gm_ev.goto (tgt := 69) i16_65 (by decide) ?_
  refine gm_ev.iadd i16_69 ?_
  refine gm_ev.istore_n (ls' := [some (.ref (C + 29)), some (.int (u1 + (1 : Int32))), some (.int u2), some (.int u3)]) i16_70 (Nat.le_of_ble_eq_true rfl) rfl ?_
  refine gm_ev.iinc (v := u3 + (-1 : Int32)) (ls' := [some (.ref (C + 29)), some (.int (u1 + (1 : Int32))), some (.int u2), some (.int (u3 + (-1 : Int32)))]) i16_71 rfl (by rfl) rfl ?_
  refine gm_ev.goto (tgt := 28) i16_74 (by decide) ?_
  exact k
theorem t_X0_valueBehind_0__at4 {N0 : Nat} {K : Nat → Nat} {d C : Nat} {s : cS} {G : gm_H} {sz sl : Nat} {R : gm_R} {p0 : Int32} (hN : N0 ≤ C)  (k : gm_ev N0 K ra_nm (ra_mt K) d (some .int) (gm_I cX0_valueBehind) (gm_lkf (lkX0 false K)) 4 [some (.ref (C + 29)), some (.int p0), some (.int (-1 : Int32)), some (.int (0 : Int32))] [] (bM C (cH C s) G) sz sl R) : gm_ev N0 K ra_nm (ra_mt K) d (some .int) (gm_I cX0_valueBehind) (gm_lkf (lkX0 false K)) 0 [some (.ref (C + 29)), some (.int p0), none, none] [] (bM C (cH C s) G) sz sl R := by
  refine gm_ev.iconst (v := -1) i17_0 (by decide) ?_
  refine gm_ev.istore_n (ls' := [some (.ref (C + 29)), some (.int p0), some (.int (-1 : Int32)), none]) i17_1 (Nat.le_of_ble_eq_true rfl) rfl ?_
  refine gm_ev.iconst (v := 0) i17_2 (by decide) ?_
  refine gm_ev.istore_n (ls' := [some (.ref (C + 29)), some (.int p0), some (.int (-1 : Int32)), some (.int (0 : Int32))]) i17_3 (Nat.le_of_ble_eq_true rfl) rfl ?_
  exact k
theorem t_X0_valueBehind_4_t {N0 : Nat} {K : Nat → Nat} {d C : Nat} {s : cS} {G : gm_H} {sz sl : Nat} {u1 : Int32} {u2 : Int32} {u3 : Int32} (hN : N0 ≤ C) (c1 : (s.1 584) ≤ u3) : gm_ev N0 K ra_nm (ra_mt K) d (some .int) (gm_I cX0_valueBehind) (gm_lkf (lkX0 false K)) 4 [some (.ref (C + 29)), some (.int u1), some (.int u2), some (.int u3)] [] (bM C (cH C s) G) sz sl (.returned (some (.int u2)), (bM C (cH C s) G), sz, sl) := by
  refine gm_ev.iload_n i17_4 rfl ?_
  refine gm_ev.aload_n i17_5 rfl ?_
  refine gm_ev.getfield (v := .int (s.1 584)) i17_6 rfl (bM_fld (j := 29) (fs := cF29 C s) rfl rfl) ?_
  refine gm_ev.icmp_ge_t (tgt := 90) i17_9 (by decide) c1 ?_
  refine gm_ev.iload_n i17_90 rfl ?_
  exact gm_ev.iret i17_91 rfl
theorem t_X0_valueBehind_4_ft_at4 {N0 : Nat} {K : Nat → Nat} {d C : Nat} {s : cS} {G : gm_H} {sz sl : Nat} {R : gm_R} {u1 : Int32} {u2 : Int32} {u3 : Int32} {k2 : Nat} (hN : N0 ≤ C) (c1 : ¬ (s.1 584) ≤ u3) (ek2 : ((u1 * (60 : Int32)) + u3) = nI k2) (lk2 : k2 < 3600) (c3 : (s.2.1 31 k2) = (-1 : Int32)) (k : gm_ev N0 K ra_nm (ra_mt K) d (some .int) (gm_I cX0_valueBehind) (gm_lkf (lkX0 false K)) 4 [some (.ref (C + 29)), some (.int u1), some (.int u2), some (.int (u3 + (1 : Int32)))] [] (bM C (cH C s) G) sz sl R) : gm_ev N0 K ra_nm (ra_mt K) d (some .int) (gm_I cX0_valueBehind) (gm_lkf (lkX0 false K)) 4 [some (.ref (C + 29)), some (.int u1), some (.int u2), some (.int u3)] [] (bM C (cH C s) G) sz sl R := by
  refine gm_ev.iload_n i17_4 rfl ?_
  refine gm_ev.aload_n i17_5 rfl ?_
  refine gm_ev.getfield (v := .int (s.1 584)) i17_6 rfl (bM_fld (j := 29) (fs := cF29 C s) rfl rfl) ?_
  refine gm_ev.icmp_ge_f i17_9 c1 ?_
  refine gm_ev.aload_n i17_12 rfl ?_
  refine gm_ev.getfield (v := .ref (C + 31)) i17_13 rfl (bM_fld (j := 29) (fs := cF29 C s) rfl rfl) ?_
  refine gm_ev.iload_n i17_16 rfl ?_
  refine gm_ev.bipush (v := 60) i17_17 (by decide) ?_
  refine gm_ev.imul i17_19 ?_
  refine gm_ev.iload_n i17_20 rfl ?_
  refine gm_ev.iadd i17_21 ?_
  refine gm_ev.iaload i17_22 (bM_ai (j := 31) (n := 3600) (f := s.2.1 31) rfl ek2 lk2 (by decide)) ?_
  refine gm_ev.iconst (v := -1) i17_23 (by decide) ?_
  refine gm_ev.icmp_eq_t (tgt := 84) i17_24 (by decide) c3 ?_
  refine gm_ev.iinc (v := u3 + (1 : Int32)) (ls' := [some (.ref (C + 29)), some (.int u1), some (.int u2), some (.int (u3 + (1 : Int32)))]) i17_84 rfl (by rfl) rfl ?_
  refine gm_ev.goto (tgt := 4) i17_87 (by decide) ?_
  exact k
theorem t_X0_valueBehind_4_ffttt_at4 {N0 : Nat} {K : Nat → Nat} {d C : Nat} {s : cS} {G : gm_H} {sz sl : Nat} {R : gm_R} {u1 : Int32} {u2 : Int32} {u3 : Int32} {k2 : Nat} {k4 : Nat} {k7 : Nat} {k9 : Nat} (hN : N0 ≤ C) (c1 : ¬ (s.1 584) ≤ u3) (ek2 : ((u1 * (60 : Int32)) + u3) = nI k2) (lk2 : k2 < 3600) (c3 : ¬ (s.2.1 31 k2) = (-1 : Int32)) (ek4 : u3 = nI k4) (lk4 : k4 < 60) (c5 : ¬ (s.2.1 32 k4) = (-1 : Int32)) (c6 : ¬ u2 = (-1 : Int32)) (ek7 : u1 = nI k7) (lk7 : k7 < 60) (c8 : (s.2.1 33 k7) = 0) (ek9 : u3 = nI k9) (lk9 : k9 < 60) (hd : 0 < d) (k : gm_ev N0 K ra_nm (ra_mt K) d (some .int) (gm_I cX0_valueBehind) (gm_lkf (lkX0 false K)) 4 [some (.ref (C + 29)), some (.int u1), some (.int (if u2 < s.2.1 32 k9 then s.2.1 32 k9 else u2)), some (.int (u3 + (1 : Int32)))] [] (bM C (cH C s) G) sz sl R) : gm_ev N0 K ra_nm (ra_mt K) d (some .int) (gm_I cX0_valueBehind) (gm_lkf (lkX0 false K)) 4 [some (.ref (C + 29)), some (.int u1), some (.int u2), some (.int u3)] [] (bM C (cH C s) G) sz sl R := by
  refine gm_ev.iload_n i17_4 rfl ?_
  refine gm_ev.aload_n i17_5 rfl ?_
  refine gm_ev.getfield (v := .int (s.1 584)) i17_6 rfl (bM_fld (j := 29) (fs := cF29 C s) rfl rfl) ?_
  refine gm_ev.icmp_ge_f i17_9 c1 ?_
  refine gm_ev.aload_n i17_12 rfl ?_
  refine gm_ev.getfield (v := .ref (C + 31)) i17_13 rfl (bM_fld (j := 29) (fs := cF29 C s) rfl rfl) ?_
  refine gm_ev.iload_n i17_16 rfl ?_
  refine gm_ev.bipush (v := 60) i17_17 (by decide) ?_
  refine gm_ev.imul i17_19 ?_
  refine gm_ev.iload_n i17_20 rfl ?_
  refine gm_ev.iadd i17_21 ?_
  refine gm_ev.iaload i17_22 (bM_ai (j := 31) (n := 3600) (f := s.2.1 31) rfl ek2 lk2 (by decide)) ?_
  refine gm_ev.iconst (v := -1) i17_23 (by decide) ?_
  refine gm_ev.icmp_eq_f i17_24 c3 ?_
  refine gm_ev.aload_n i17_27 rfl ?_
  refine gm_ev.getfield (v := .ref (C + 32)) i17_28 rfl (bM_fld (j := 29) (fs := cF29 C s) rfl rfl) ?_
  refine gm_ev.iload_n i17_31 rfl ?_
  refine gm_ev.iaload i17_32 (bM_ai (j := 32) (n := 60) (f := s.2.1 32) rfl ek4 lk4 (by decide)) ?_
  refine gm_ev.iconst (v := -1) i17_33 (by decide) ?_
  refine gm_ev.icmp_ne_t (tgt := 39) i17_34 (by decide) c5 ?_
  refine gm_ev.iload_n i17_39 rfl ?_
  refine gm_ev.iconst (v := -1) i17_40 (by decide) ?_
  refine gm_ev.icmp_ne_t (tgt := 51) i17_41 (by decide) c6 ?_
  refine gm_ev.aload_n i17_51 rfl ?_
  refine gm_ev.getfield (v := .ref (C + 33)) i17_52 rfl (bM_fld (j := 29) (fs := cF29 C s) rfl rfl) ?_
  refine gm_ev.iload_n i17_55 rfl ?_
  refine gm_ev.zaload i17_56 (bM_ai (j := 33) (n := 60) (f := s.2.1 33) rfl ek7 lk7 (by decide)) ?_
  refine gm_ev.if_eq_t (tgt := 73) i17_57 (by decide) c8 ?_
  refine gm_ev.iload_n i17_73 rfl ?_
  refine gm_ev.aload_n i17_74 rfl ?_
  refine gm_ev.getfield (v := .ref (C + 32)) i17_75 rfl (bM_fld (j := 29) (fs := cF29 C s) rfl rfl) ?_
  refine gm_ev.iload_n i17_78 rfl ?_
  refine gm_ev.iaload i17_79 (bM_ai (j := 32) (n := 60) (f := s.2.1 32) rfl ek9 lk9 (by decide)) ?_
  refine gm_ev.callS gm_mono_run (av := [.int u2, .int (s.2.1 32 k9)]) (r := []) i17_80 rfl rfl rfl (Nat.le_of_ble_eq_true rfl) (gm_to_max hd) ?_
  refine gm_ev.istore_n (ls' := [some (.ref (C + 29)), some (.int u1), some (.int (if u2 < s.2.1 32 k9 then s.2.1 32 k9 else u2)), some (.int u3)]) i17_83 (Nat.le_of_ble_eq_true rfl) rfl ?_
  refine gm_ev.iinc (v := u3 + (1 : Int32)) (ls' := [some (.ref (C + 29)), some (.int u1), some (.int (if u2 < s.2.1 32 k9 then s.2.1 32 k9 else u2)), some (.int (u3 + (1 : Int32)))]) i17_84 rfl (by rfl) rfl ?_
  refine gm_ev.goto (tgt := 4) i17_87 (by decide) ?_
  exact k
theorem t_X0_valueBehind_4_ffttf_at4 {N0 : Nat} {K : Nat → Nat} {d C : Nat} {s : cS} {G : gm_H} {sz sl : Nat} {R : gm_R} {u1 : Int32} {u2 : Int32} {u3 : Int32} {k2 : Nat} {k4 : Nat} {k7 : Nat} {k9 : Nat} (hN : N0 ≤ C) (c1 : ¬ (s.1 584) ≤ u3) (ek2 : ((u1 * (60 : Int32)) + u3) = nI k2) (lk2 : k2 < 3600) (c3 : ¬ (s.2.1 31 k2) = (-1 : Int32)) (ek4 : u3 = nI k4) (lk4 : k4 < 60) (c5 : ¬ (s.2.1 32 k4) = (-1 : Int32)) (c6 : ¬ u2 = (-1 : Int32)) (ek7 : u1 = nI k7) (lk7 : k7 < 60) (c8 : ¬ (s.2.1 33 k7) = 0) (ek9 : u3 = nI k9) (lk9 : k9 < 60) (hd : 0 < d) (k : gm_ev N0 K ra_nm (ra_mt K) d (some .int) (gm_I cX0_valueBehind) (gm_lkf (lkX0 false K)) 4 [some (.ref (C + 29)), some (.int u1), some (.int (if s.2.1 32 k9 < u2 then s.2.1 32 k9 else u2)), some (.int (u3 + (1 : Int32)))] [] (bM C (cH C s) G) sz sl R) : gm_ev N0 K ra_nm (ra_mt K) d (some .int) (gm_I cX0_valueBehind) (gm_lkf (lkX0 false K)) 4 [some (.ref (C + 29)), some (.int u1), some (.int u2), some (.int u3)] [] (bM C (cH C s) G) sz sl R := by
  refine gm_ev.iload_n i17_4 rfl ?_
  refine gm_ev.aload_n i17_5 rfl ?_
  refine gm_ev.getfield (v := .int (s.1 584)) i17_6 rfl (bM_fld (j := 29) (fs := cF29 C s) rfl rfl) ?_
  refine gm_ev.icmp_ge_f i17_9 c1 ?_
  refine gm_ev.aload_n i17_12 rfl ?_
  refine gm_ev.getfield (v := .ref (C + 31)) i17_13 rfl (bM_fld (j := 29) (fs := cF29 C s) rfl rfl) ?_
  refine gm_ev.iload_n i17_16 rfl ?_
  refine gm_ev.bipush (v := 60) i17_17 (by decide) ?_
  refine gm_ev.imul i17_19 ?_
  refine gm_ev.iload_n i17_20 rfl ?_
  refine gm_ev.iadd i17_21 ?_
  refine gm_ev.iaload i17_22 (bM_ai (j := 31) (n := 3600) (f := s.2.1 31) rfl ek2 lk2 (by decide)) ?_
  refine gm_ev.iconst (v := -1) i17_23 (by decide) ?_
  refine gm_ev.icmp_eq_f i17_24 c3 ?_
  refine gm_ev.aload_n i17_27 rfl ?_
  refine gm_ev.getfield (v := .ref (C + 32)) i17_28 rfl (bM_fld (j := 29) (fs := cF29 C s) rfl rfl) ?_
  refine gm_ev.iload_n i17_31 rfl ?_
  refine gm_ev.iaload i17_32 (bM_ai (j := 32) (n := 60) (f := s.2.1 32) rfl ek4 lk4 (by decide)) ?_
  refine gm_ev.iconst (v := -1) i17_33 (by decide) ?_
  refine gm_ev.icmp_ne_t (tgt := 39) i17_34 (by decide) c5 ?_
  refine gm_ev.iload_n i17_39 rfl ?_
  refine gm_ev.iconst (v := -1) i17_40 (by decide) ?_
  refine gm_ev.icmp_ne_t (tgt := 51) i17_41 (by decide) c6 ?_
  refine gm_ev.aload_n i17_51 rfl ?_
  refine gm_ev.getfield (v := .ref (C + 33)) i17_52 rfl (bM_fld (j := 29) (fs := cF29 C s) rfl rfl) ?_
  refine gm_ev.iload_n i17_55 rfl ?_
  refine gm_ev.zaload i17_56 (bM_ai (j := 33) (n := 60) (f := s.2.1 33) rfl ek7 lk7 (by decide)) ?_
  refine gm_ev.if_eq_f i17_57 c8 ?_
  refine gm_ev.iload_n i17_60 rfl ?_
  refine gm_ev.aload_n i17_61 rfl ?_
  refine gm_ev.getfield (v := .ref (C + 32)) i17_62 rfl (bM_fld (j := 29) (fs := cF29 C s) rfl rfl) ?_
  refine gm_ev.iload_n i17_65 rfl ?_
  refine gm_ev.iaload i17_66 (bM_ai (j := 32) (n := 60) (f := s.2.1 32) rfl ek9 lk9 (by decide)) ?_
  refine gm_ev.callS gm_mono_run (av := [.int u2, .int (s.2.1 32 k9)]) (r := []) i17_67 rfl rfl rfl (Nat.le_of_ble_eq_true rfl) (gm_to_min hd) ?_
  refine gm_ev.goto (tgt := 83) i17_70 (by decide) ?_
  refine gm_ev.istore_n (ls' := [some (.ref (C + 29)), some (.int u1), some (.int (if s.2.1 32 k9 < u2 then s.2.1 32 k9 else u2)), some (.int u3)]) i17_83 (Nat.le_of_ble_eq_true rfl) rfl ?_
  refine gm_ev.iinc (v := u3 + (1 : Int32)) (ls' := [some (.ref (C + 29)), some (.int u1), some (.int (if s.2.1 32 k9 < u2 then s.2.1 32 k9 else u2)), some (.int (u3 + (1 : Int32)))]) i17_84 rfl (by rfl) rfl ?_
  refine gm_ev.goto (tgt := 4) i17_87 (by decide) ?_
  exact k
theorem t_X0_valueBehind_4_fftft_at4 {N0 : Nat} {K : Nat → Nat} {d C : Nat} {s : cS} {G : gm_H} {sz sl : Nat} {R : gm_R} {u1 : Int32} {u2 : Int32} {u3 : Int32} {k2 : Nat} {k4 : Nat} {k7 : Nat} {k8 : Nat} {k10 : Nat} (hN : N0 ≤ C) (c1 : ¬ (s.1 584) ≤ u3) (ek2 : ((u1 * (60 : Int32)) + u3) = nI k2) (lk2 : k2 < 3600) (c3 : ¬ (s.2.1 31 k2) = (-1 : Int32)) (ek4 : u3 = nI k4) (lk4 : k4 < 60) (c5 : ¬ (s.2.1 32 k4) = (-1 : Int32)) (c6 : u2 = (-1 : Int32)) (ek7 : u3 = nI k7) (lk7 : k7 < 60) (ek8 : u1 = nI k8) (lk8 : k8 < 60) (c9 : (s.2.1 33 k8) = 0) (ek10 : u3 = nI k10) (lk10 : k10 < 60) (hd : 0 < d) (k : gm_ev N0 K ra_nm (ra_mt K) d (some .int) (gm_I cX0_valueBehind) (gm_lkf (lkX0 false K)) 4 [some (.ref (C + 29)), some (.int u1), some (.int (if s.2.1 32 k7 < s.2.1 32 k10 then s.2.1 32 k10 else s.2.1 32 k7)), some (.int (u3 + (1 : Int32)))] [] (bM C (cH C s) G) sz sl R) : gm_ev N0 K ra_nm (ra_mt K) d (some .int) (gm_I cX0_valueBehind) (gm_lkf (lkX0 false K)) 4 [some (.ref (C + 29)), some (.int u1), some (.int u2), some (.int u3)] [] (bM C (cH C s) G) sz sl R := by
  refine gm_ev.iload_n i17_4 rfl ?_
  refine gm_ev.aload_n i17_5 rfl ?_
  refine gm_ev.getfield (v := .int (s.1 584)) i17_6 rfl (bM_fld (j := 29) (fs := cF29 C s) rfl rfl) ?_
  refine gm_ev.icmp_ge_f i17_9 c1 ?_
  refine gm_ev.aload_n i17_12 rfl ?_
  refine gm_ev.getfield (v := .ref (C + 31)) i17_13 rfl (bM_fld (j := 29) (fs := cF29 C s) rfl rfl) ?_
  refine gm_ev.iload_n i17_16 rfl ?_
  refine gm_ev.bipush (v := 60) i17_17 (by decide) ?_
  refine gm_ev.imul i17_19 ?_
  refine gm_ev.iload_n i17_20 rfl ?_
  refine gm_ev.iadd i17_21 ?_
  refine gm_ev.iaload i17_22 (bM_ai (j := 31) (n := 3600) (f := s.2.1 31) rfl ek2 lk2 (by decide)) ?_
  refine gm_ev.iconst (v := -1) i17_23 (by decide) ?_
  refine gm_ev.icmp_eq_f i17_24 c3 ?_
  refine gm_ev.aload_n i17_27 rfl ?_
  refine gm_ev.getfield (v := .ref (C + 32)) i17_28 rfl (bM_fld (j := 29) (fs := cF29 C s) rfl rfl) ?_
  refine gm_ev.iload_n i17_31 rfl ?_
  refine gm_ev.iaload i17_32 (bM_ai (j := 32) (n := 60) (f := s.2.1 32) rfl ek4 lk4 (by decide)) ?_
  refine gm_ev.iconst (v := -1) i17_33 (by decide) ?_
  refine gm_ev.icmp_ne_t (tgt := 39) i17_34 (by decide) c5 ?_
  refine gm_ev.iload_n i17_39 rfl ?_
  refine gm_ev.iconst (v := -1) i17_40 (by decide) ?_
  refine gm_ev.icmp_ne_f i17_41 c6 ?_
  refine gm_ev.aload_n i17_44 rfl ?_
  refine gm_ev.getfield (v := .ref (C + 32)) i17_45 rfl (bM_fld (j := 29) (fs := cF29 C s) rfl rfl) ?_
  refine gm_ev.iload_n i17_48 rfl ?_
  refine gm_ev.iaload i17_49 (bM_ai (j := 32) (n := 60) (f := s.2.1 32) rfl ek7 lk7 (by decide)) ?_
  refine gm_ev.istore_n (ls' := [some (.ref (C + 29)), some (.int u1), some (.int (s.2.1 32 k7)), some (.int u3)]) i17_50 (Nat.le_of_ble_eq_true rfl) rfl ?_
  refine gm_ev.aload_n i17_51 rfl ?_
  refine gm_ev.getfield (v := .ref (C + 33)) i17_52 rfl (bM_fld (j := 29) (fs := cF29 C s) rfl rfl) ?_
  refine gm_ev.iload_n i17_55 rfl ?_
  refine gm_ev.zaload i17_56 (bM_ai (j := 33) (n := 60) (f := s.2.1 33) rfl ek8 lk8 (by decide)) ?_
  refine gm_ev.if_eq_t (tgt := 73) i17_57 (by decide) c9 ?_
  refine gm_ev.iload_n i17_73 rfl ?_
  refine gm_ev.aload_n i17_74 rfl ?_
  refine gm_ev.getfield (v := .ref (C + 32)) i17_75 rfl (bM_fld (j := 29) (fs := cF29 C s) rfl rfl) ?_
  refine gm_ev.iload_n i17_78 rfl ?_
  refine gm_ev.iaload i17_79 (bM_ai (j := 32) (n := 60) (f := s.2.1 32) rfl ek10 lk10 (by decide)) ?_
  refine gm_ev.callS gm_mono_run (av := [.int (s.2.1 32 k7), .int (s.2.1 32 k10)]) (r := []) i17_80 rfl rfl rfl (Nat.le_of_ble_eq_true rfl) (gm_to_max hd) ?_
  refine gm_ev.istore_n (ls' := [some (.ref (C + 29)), some (.int u1), some (.int (if s.2.1 32 k7 < s.2.1 32 k10 then s.2.1 32 k10 else s.2.1 32 k7)), some (.int u3)]) i17_83 (Nat.le_of_ble_eq_true rfl) rfl ?_
  refine gm_ev.iinc (v := u3 + (1 : Int32)) (ls' := [some (.ref (C + 29)), some (.int u1), some (.int (if s.2.1 32 k7 < s.2.1 32 k10 then s.2.1 32 k10 else s.2.1 32 k7)), some (.int (u3 + (1 : Int32)))]) i17_84 rfl (by rfl) rfl ?_
  refine gm_ev.goto (tgt := 4) i17_87 (by decide) ?_
  exact k
