/-! typed paths through the class, by program -/
theorem t_X3_take_0_ffftn {N0 : Nat} {K : Nat → Nat} {d C : Nat} {s : cS} {G : gm_H} {sz sl : Nat} {p0 : Nat} {s2 : cS} {r3 : Int32} {s5 : cS} {r7 : Int32} {s9 : cS} {r11 : Int32} {s13 : cS} {r15 : Int32} {s17 : cS} (hN : N0 ≤ C) (t1 : gm_to N0 K ra_nm (ra_mt K) d 96 [.ref (C + 23)] (bM C (cH C s) G) sz (.returned none, (bM C (cH C s2) G), sz, 0)) (t4 : gm_to N0 K ra_nm (ra_mt K) d 27 [.ref (C + 5), .ref p0] (bM C (cH C s2) G) sz (.returned (some (.int r3)), (bM C (cH C s5) G), sz, 0)) (c6 : ¬ r3 = 0) (t8 : gm_to N0 K ra_nm (ra_mt K) d 28 [.ref (C + 5), .ref (C + 23)] (bM C (cH C s5) G) sz (.returned (some (.int r7)), (bM C (cH C s9) G), sz, 0)) (c10 : ¬ r7 = 0) (t12 : gm_to N0 K ra_nm (ra_mt K) d 100 [.ref (C + 23), .ref (C + 6), .int (1 : Int32)] (bM C (cH C s9) G) sz (.returned (some (.int r11)), (bM C (cH C s13) G), sz, 0)) (c14 : ¬ r11 = 0) (t16 : gm_to N0 K ra_nm (ra_mt K) d 28 [.ref (C + 5), .ref (C + 23)] (bM C (cH C s13) G) sz (.returned (some (.int r15)), (bM C (cH C s17) G), sz, 0)) (c18 : r15 = 0) (h19 : s17.2.2 80 = none) : gm_ev N0 K ra_nm (ra_mt K) d (some .boolean) (gm_I cX3_take) (gm_lkf (lkX3 false K)) 0 [some (.ref (C + 4)), some (.ref p0)] [] (bM C (cH C s) G) sz sl (.returned (some (.int (0 : Int32))), (bM C (cH C s17) G), sz, sl) := by
  refine gm_ev.aload_n i40_0 rfl ?_
  refine gm_ev.getfield (v := .ref (C + 23)) i40_1 rfl (bM_fld (j := 4) (fs := cF4 C s) rfl rfl) ?_
  refine gm_ev.callV gm_mono_run (av := []) (r := []) (ci := 9) (fs := cF23 C s) (bM_get (j := 23) rfl) i40_4 rfl rfl rfl (Nat.le_of_ble_eq_true rfl) t1 ?_
  refine gm_ev.aload_n i40_7 rfl ?_
  refine gm_ev.getfield (v := .ref (C + 5)) i40_8 rfl (bM_fld (j := 4) (fs := cF4 C s2) rfl rfl) ?_
  refine gm_ev.aload_n i40_11 rfl ?_
  refine gm_ev.callV gm_mono_run (av := [.ref p0]) (r := []) (ci := 2) (fs := cF5 C s2) (bM_get (j := 5) rfl) i40_12 rfl rfl rfl (Nat.le_of_ble_eq_true rfl) t4 ?_
  refine gm_ev.if_eq_f i40_15 c6 ?_
  refine gm_ev.aload_n i40_18 rfl ?_
  refine gm_ev.getfield (v := .ref (C + 5)) i40_19 rfl (bM_fld (j := 4) (fs := cF4 C s5) rfl rfl) ?_
  refine gm_ev.aload_n i40_22 rfl ?_
  refine gm_ev.getfield (v := .ref (C + 23)) i40_23 rfl (bM_fld (j := 4) (fs := cF4 C s5) rfl rfl) ?_
  refine gm_ev.callV gm_mono_run (av := [.ref (C + 23)]) (r := []) (ci := 2) (fs := cF5 C s5) (bM_get (j := 5) rfl) i40_26 rfl rfl rfl (Nat.le_of_ble_eq_true rfl) t8 ?_
  refine gm_ev.if_eq_f i40_29 c10 ?_
  refine gm_ev.aload_n i40_32 rfl ?_
  refine gm_ev.getfield (v := .ref (C + 23)) i40_33 rfl (bM_fld (j := 4) (fs := cF4 C s9) rfl rfl) ?_
  refine gm_ev.aload_n i40_36 rfl ?_
  refine gm_ev.getfield (v := .ref (C + 5)) i40_37 rfl (bM_fld (j := 4) (fs := cF4 C s9) rfl rfl) ?_
  refine gm_ev.getfield (v := .ref (C + 6)) i40_40 rfl (bM_fld (j := 5) (fs := cF5 C s9) rfl rfl) ?_
  refine gm_ev.iconst (v := 1) i40_43 (by decide) ?_
  refine gm_ev.callV gm_mono_run (av := [.ref (C + 6), .int (1 : Int32)]) (r := []) (ci := 9) (fs := cF23 C s9) (bM_get (j := 23) rfl) i40_44 rfl rfl rfl (Nat.le_of_ble_eq_true rfl) t12 ?_
  refine gm_ev.if_eq_f i40_47 c14 ?_
  refine gm_ev.aload_n i40_50 rfl ?_
  refine gm_ev.getfield (v := .ref (C + 5)) i40_51 rfl (bM_fld (j := 4) (fs := cF4 C s13) rfl rfl) ?_
  refine gm_ev.aload_n i40_54 rfl ?_
  refine gm_ev.getfield (v := .ref (C + 23)) i40_55 rfl (bM_fld (j := 4) (fs := cF4 C s13) rfl rfl) ?_
  refine gm_ev.callV gm_mono_run (av := [.ref (C + 23)]) (r := []) (ci := 2) (fs := cF5 C s13) (bM_get (j := 5) rfl) i40_58 rfl rfl rfl (Nat.le_of_ble_eq_true rfl) t16 ?_
  refine gm_ev.if_eq_t (tgt := 113) i40_61 (by decide) c18 ?_
  refine gm_ev.aload_n i40_113 rfl ?_
  refine gm_ev.getfield (v := .null) i40_114 rfl (bM_fld (j := 4) (fs := cF4 C s17) rfl (cv_none h19)) ?_
  refine gm_ev.ifnull_t (tgt := 141) i40_117 (by decide) ?_
  refine gm_ev.iconst (v := 0) i40_141 (by decide) ?_
  exact gm_ev.zret i40_142 rfl (by decide)
theorem t_X3_take_0_ffftr {N0 : Nat} {K : Nat → Nat} {d C : Nat} {s : cS} {G : gm_H} {sz sl : Nat} {p0 : Nat} {s2 : cS} {r3 : Int32} {s5 : cS} {r7 : Int32} {s9 : cS} {r11 : Int32} {s13 : cS} {r15 : Int32} {s17 : cS} {r20 : Nat} {r21 : Int32} {s23 : cS} {r24 : Int32} {s26 : cS} (hN : N0 ≤ C) (t1 : gm_to N0 K ra_nm (ra_mt K) d 96 [.ref (C + 23)] (bM C (cH C s) G) sz (.returned none, (bM C (cH C s2) G), sz, 0)) (t4 : gm_to N0 K ra_nm (ra_mt K) d 27 [.ref (C + 5), .ref p0] (bM C (cH C s2) G) sz (.returned (some (.int r3)), (bM C (cH C s5) G), sz, 0)) (c6 : ¬ r3 = 0) (t8 : gm_to N0 K ra_nm (ra_mt K) d 28 [.ref (C + 5), .ref (C + 23)] (bM C (cH C s5) G) sz (.returned (some (.int r7)), (bM C (cH C s9) G), sz, 0)) (c10 : ¬ r7 = 0) (t12 : gm_to N0 K ra_nm (ra_mt K) d 100 [.ref (C + 23), .ref (C + 6), .int (1 : Int32)] (bM C (cH C s9) G) sz (.returned (some (.int r11)), (bM C (cH C s13) G), sz, 0)) (c14 : ¬ r11 = 0) (t16 : gm_to N0 K ra_nm (ra_mt K) d 28 [.ref (C + 5), .ref (C + 23)] (bM C (cH C s13) G) sz (.returned (some (.int r15)), (bM C (cH C s17) G), sz, 0)) (c18 : r15 = 0) (h19 : s17.2.2 80 = some r20) (t22 : gm_to N0 K ra_nm (ra_mt K) d 27 [.ref (C + 5), .ref r20] (bM C (cH C s17) G) sz (.returned (some (.int r21)), (bM C (cH C s23) G), sz, 0)) (t25 : gm_to N0 K ra_nm (ra_mt K) d 41 [.ref (C + 4), .ref (C + 21)] (bM C (cH C s23) G) sz (.returned (some (.int r24)), (bM C (cH C s26) G), sz, 0)) : gm_ev N0 K ra_nm (ra_mt K) d (some .boolean) (gm_I cX3_take) (gm_lkf (lkX3 false K)) 0 [some (.ref (C + 4)), some (.ref p0)] [] (bM C (cH C s) G) sz sl (.returned (some (.int (0 : Int32))), (bM C (cH C s26) G), sz, sl) := by
  refine gm_ev.aload_n i40_0 rfl ?_
  refine gm_ev.getfield (v := .ref (C + 23)) i40_1 rfl (bM_fld (j := 4) (fs := cF4 C s) rfl rfl) ?_
  refine gm_ev.callV gm_mono_run (av := []) (r := []) (ci := 9) (fs := cF23 C s) (bM_get (j := 23) rfl) i40_4 rfl rfl rfl (Nat.le_of_ble_eq_true rfl) t1 ?_
  refine gm_ev.aload_n i40_7 rfl ?_
  refine gm_ev.getfield (v := .ref (C + 5)) i40_8 rfl (bM_fld (j := 4) (fs := cF4 C s2) rfl rfl) ?_
  refine gm_ev.aload_n i40_11 rfl ?_
  refine gm_ev.callV gm_mono_run (av := [.ref p0]) (r := []) (ci := 2) (fs := cF5 C s2) (bM_get (j := 5) rfl) i40_12 rfl rfl rfl (Nat.le_of_ble_eq_true rfl) t4 ?_
  refine gm_ev.if_eq_f i40_15 c6 ?_
  refine gm_ev.aload_n i40_18 rfl ?_
  refine gm_ev.getfield (v := .ref (C + 5)) i40_19 rfl (bM_fld (j := 4) (fs := cF4 C s5) rfl rfl) ?_
  refine gm_ev.aload_n i40_22 rfl ?_
  refine gm_ev.getfield (v := .ref (C + 23)) i40_23 rfl (bM_fld (j := 4) (fs := cF4 C s5) rfl rfl) ?_
  refine gm_ev.callV gm_mono_run (av := [.ref (C + 23)]) (r := []) (ci := 2) (fs := cF5 C s5) (bM_get (j := 5) rfl) i40_26 rfl rfl rfl (Nat.le_of_ble_eq_true rfl) t8 ?_
  refine gm_ev.if_eq_f i40_29 c10 ?_
  refine gm_ev.aload_n i40_32 rfl ?_
  refine gm_ev.getfield (v := .ref (C + 23)) i40_33 rfl (bM_fld (j := 4) (fs := cF4 C s9) rfl rfl) ?_
  refine gm_ev.aload_n i40_36 rfl ?_
  refine gm_ev.getfield (v := .ref (C + 5)) i40_37 rfl (bM_fld (j := 4) (fs := cF4 C s9) rfl rfl) ?_
  refine gm_ev.getfield (v := .ref (C + 6)) i40_40 rfl (bM_fld (j := 5) (fs := cF5 C s9) rfl rfl) ?_
  refine gm_ev.iconst (v := 1) i40_43 (by decide) ?_
  refine gm_ev.callV gm_mono_run (av := [.ref (C + 6), .int (1 : Int32)]) (r := []) (ci := 9) (fs := cF23 C s9) (bM_get (j := 23) rfl) i40_44 rfl rfl rfl (Nat.le_of_ble_eq_true rfl) t12 ?_
  refine gm_ev.if_eq_f i40_47 c14 ?_
  refine gm_ev.aload_n i40_50 rfl ?_
  refine gm_ev.getfield (v := .ref (C + 5)) i40_51 rfl (bM_fld (j := 4) (fs := cF4 C s13) rfl rfl) ?_
  refine gm_ev.aload_n i40_54 rfl ?_
  refine gm_ev.getfield (v := .ref (C + 23)) i40_55 rfl (bM_fld (j := 4) (fs := cF4 C s13) rfl rfl) ?_
  refine gm_ev.callV gm_mono_run (av := [.ref (C + 23)]) (r := []) (ci := 2) (fs := cF5 C s13) (bM_get (j := 5) rfl) i40_58 rfl rfl rfl (Nat.le_of_ble_eq_true rfl) t16 ?_
  refine gm_ev.if_eq_t (tgt := 113) i40_61 (by decide) c18 ?_
  refine gm_ev.aload_n i40_113 rfl ?_
  refine gm_ev.getfield (v := .ref r20) i40_114 rfl (bM_fld (j := 4) (fs := cF4 C s17) rfl (cv_some h19)) ?_
  refine gm_ev.ifnull_f i40_117 ?_
  refine gm_ev.aload_n i40_120 rfl ?_
  refine gm_ev.getfield (v := .ref (C + 5)) i40_121 rfl (bM_fld (j := 4) (fs := cF4 C s17) rfl rfl) ?_
  refine gm_ev.aload_n i40_124 rfl ?_
  refine gm_ev.getfield (v := .ref r20) i40_125 rfl (bM_fld (j := 4) (fs := cF4 C s17) rfl (cv_some h19)) ?_
  refine gm_ev.callV gm_mono_run (av := [.ref r20]) (r := []) (ci := 2) (fs := cF5 C s17) (bM_get (j := 5) rfl) i40_128 rfl rfl rfl (Nat.le_of_ble_eq_true rfl) t22 ?_
  refine gm_ev.pop i40_131 rfl ?_
  refine gm_ev.aload_n i40_132 rfl ?_
  refine gm_ev.aload_n i40_133 rfl ?_
  refine gm_ev.getfield (v := .ref (C + 21)) i40_134 rfl (bM_fld (j := 4) (fs := cF4 C s23) rfl rfl) ?_
  refine gm_ev.callV gm_mono_run (av := [.ref (C + 21)]) (r := []) (ci := 3) (fs := cF4 C s23) (bM_get (j := 4) rfl) i40_137 rfl rfl rfl (Nat.le_of_ble_eq_true rfl) t25 ?_
  refine gm_ev.pop i40_140 rfl ?_
  refine gm_ev.iconst (v := 0) i40_141 (by decide) ?_
  exact gm_ev.zret i40_142 rfl (by decide)
theorem t_X3_take_0_ffff {N0 : Nat} {K : Nat → Nat} {d C : Nat} {s : cS} {G : gm_H} {sz sl : Nat} {p0 : Nat} {s2 : cS} {r3 : Int32} {s5 : cS} {r7 : Int32} {s9 : cS} {r11 : Int32} {s13 : cS} {r15 : Int32} {s17 : cS} {s20 : cS} {s22 : cS} {r23 : Int32} {s25 : cS} {s27 : cS} (hN : N0 ≤ C) (t1 : gm_to N0 K ra_nm (ra_mt K) d 96 [.ref (C + 23)] (bM C (cH C s) G) sz (.returned none, (bM C (cH C s2) G), sz, 0)) (t4 : gm_to N0 K ra_nm (ra_mt K) d 27 [.ref (C + 5), .ref p0] (bM C (cH C s2) G) sz (.returned (some (.int r3)), (bM C (cH C s5) G), sz, 0)) (c6 : ¬ r3 = 0) (t8 : gm_to N0 K ra_nm (ra_mt K) d 28 [.ref (C + 5), .ref (C + 23)] (bM C (cH C s5) G) sz (.returned (some (.int r7)), (bM C (cH C s9) G), sz, 0)) (c10 : ¬ r7 = 0) (t12 : gm_to N0 K ra_nm (ra_mt K) d 100 [.ref (C + 23), .ref (C + 6), .int (1 : Int32)] (bM C (cH C s9) G) sz (.returned (some (.int r11)), (bM C (cH C s13) G), sz, 0)) (c14 : ¬ r11 = 0) (t16 : gm_to N0 K ra_nm (ra_mt K) d 28 [.ref (C + 5), .ref (C + 23)] (bM C (cH C s13) G) sz (.returned (some (.int r15)), (bM C (cH C s17) G), sz, 0)) (c18 : ¬ r15 = 0) (t19 : gm_to N0 K ra_nm (ra_mt K) d 97 [.ref (C + 19), .ref (C + 23)] (bM C (cH C (cR s17 80 (some p0))) G) sz (.returned none, (bM C (cH C s20) G), sz, 0)) (t21 : gm_to N0 K ra_nm (ra_mt K) d 97 [.ref (C + 21), .ref (C + 23)] (bM C (cH C s20) G) sz (.returned none, (bM C (cH C s22) G), sz, 0)) (t24 : gm_to N0 K ra_nm (ra_mt K) d 100 [.ref (C + 17), .ref (C + 6), .int (0 : Int32)] (bM C (cH C s22) G) sz (.returned (some (.int r23)), (bM C (cH C s25) G), sz, 0)) (t26 : gm_to N0 K ra_nm (ra_mt K) d 42 [.ref (C + 4)] (bM C (cH C s25) G) sz (.returned none, (bM C (cH C s27) G), sz, 0)) : gm_ev N0 K ra_nm (ra_mt K) d (some .boolean) (gm_I cX3_take) (gm_lkf (lkX3 false K)) 0 [some (.ref (C + 4)), some (.ref p0)] [] (bM C (cH C s) G) sz sl (.returned (some (.int (1 : Int32))), (bM C (cH C s27) G), sz, sl) := by
  refine gm_ev.aload_n i40_0 rfl ?_
  refine gm_ev.getfield (v := .ref (C + 23)) i40_1 rfl (bM_fld (j := 4) (fs := cF4 C s) rfl rfl) ?_
  refine gm_ev.callV gm_mono_run (av := []) (r := []) (ci := 9) (fs := cF23 C s) (bM_get (j := 23) rfl) i40_4 rfl rfl rfl (Nat.le_of_ble_eq_true rfl) t1 ?_
  refine gm_ev.aload_n i40_7 rfl ?_
  refine gm_ev.getfield (v := .ref (C + 5)) i40_8 rfl (bM_fld (j := 4) (fs := cF4 C s2) rfl rfl) ?_
  refine gm_ev.aload_n i40_11 rfl ?_
  refine gm_ev.callV gm_mono_run (av := [.ref p0]) (r := []) (ci := 2) (fs := cF5 C s2) (bM_get (j := 5) rfl) i40_12 rfl rfl rfl (Nat.le_of_ble_eq_true rfl) t4 ?_
  refine gm_ev.if_eq_f i40_15 c6 ?_
  refine gm_ev.aload_n i40_18 rfl ?_
  refine gm_ev.getfield (v := .ref (C + 5)) i40_19 rfl (bM_fld (j := 4) (fs := cF4 C s5) rfl rfl) ?_
  refine gm_ev.aload_n i40_22 rfl ?_
  refine gm_ev.getfield (v := .ref (C + 23)) i40_23 rfl (bM_fld (j := 4) (fs := cF4 C s5) rfl rfl) ?_
  refine gm_ev.callV gm_mono_run (av := [.ref (C + 23)]) (r := []) (ci := 2) (fs := cF5 C s5) (bM_get (j := 5) rfl) i40_26 rfl rfl rfl (Nat.le_of_ble_eq_true rfl) t8 ?_
  refine gm_ev.if_eq_f i40_29 c10 ?_
  refine gm_ev.aload_n i40_32 rfl ?_
  refine gm_ev.getfield (v := .ref (C + 23)) i40_33 rfl (bM_fld (j := 4) (fs := cF4 C s9) rfl rfl) ?_
  refine gm_ev.aload_n i40_36 rfl ?_
  refine gm_ev.getfield (v := .ref (C + 5)) i40_37 rfl (bM_fld (j := 4) (fs := cF4 C s9) rfl rfl) ?_
  refine gm_ev.getfield (v := .ref (C + 6)) i40_40 rfl (bM_fld (j := 5) (fs := cF5 C s9) rfl rfl) ?_
  refine gm_ev.iconst (v := 1) i40_43 (by decide) ?_
  refine gm_ev.callV gm_mono_run (av := [.ref (C + 6), .int (1 : Int32)]) (r := []) (ci := 9) (fs := cF23 C s9) (bM_get (j := 23) rfl) i40_44 rfl rfl rfl (Nat.le_of_ble_eq_true rfl) t12 ?_
  refine gm_ev.if_eq_f i40_47 c14 ?_
  refine gm_ev.aload_n i40_50 rfl ?_
  refine gm_ev.getfield (v := .ref (C + 5)) i40_51 rfl (bM_fld (j := 4) (fs := cF4 C s13) rfl rfl) ?_
  refine gm_ev.aload_n i40_54 rfl ?_
  refine gm_ev.getfield (v := .ref (C + 23)) i40_55 rfl (bM_fld (j := 4) (fs := cF4 C s13) rfl rfl) ?_
  refine gm_ev.callV gm_mono_run (av := [.ref (C + 23)]) (r := []) (ci := 2) (fs := cF5 C s13) (bM_get (j := 5) rfl) i40_58 rfl rfl rfl (Nat.le_of_ble_eq_true rfl) t16 ?_
  refine gm_ev.if_eq_f i40_61 c18 ?_
  refine gm_ev.aload_n i40_64 rfl ?_
  refine gm_ev.aload_n i40_65 rfl ?_
  refine gm_ev.putfield (M' := (bM C (cH C (cR s17 80 (some p0))) G)) i40_66 rfl (bM_put (j := 4) (fs := cF4 C s17) rfl (Nat.le_of_ble_eq_true rfl) hN (gm_fit_l _ _) rfl) ?_
  refine gm_ev.aload_n i40_69 rfl ?_
  refine gm_ev.getfield (v := .ref (C + 19)) i40_70 rfl (bM_fld (j := 4) (fs := cF4 C (cR s17 80 (some p0))) rfl rfl) ?_
  refine gm_ev.aload_n i40_73 rfl ?_
  refine gm_ev.getfield (v := .ref (C + 23)) i40_74 rfl (bM_fld (j := 4) (fs := cF4 C (cR s17 80 (some p0))) rfl rfl) ?_
  refine gm_ev.callV gm_mono_run (av := [.ref (C + 23)]) (r := []) (ci := 9) (fs := cF19 C (cR s17 80 (some p0))) (bM_get (j := 19) rfl) i40_77 rfl rfl rfl (Nat.le_of_ble_eq_true rfl) t19 ?_
  refine gm_ev.aload_n i40_80 rfl ?_
  refine gm_ev.getfield (v := .ref (C + 21)) i40_81 rfl (bM_fld (j := 4) (fs := cF4 C s20) rfl rfl) ?_
  refine gm_ev.aload_n i40_84 rfl ?_
  refine gm_ev.getfield (v := .ref (C + 23)) i40_85 rfl (bM_fld (j := 4) (fs := cF4 C s20) rfl rfl) ?_
  refine gm_ev.callV gm_mono_run (av := [.ref (C + 23)]) (r := []) (ci := 9) (fs := cF21 C s20) (bM_get (j := 21) rfl) i40_88 rfl rfl rfl (Nat.le_of_ble_eq_true rfl) t21 ?_
  refine gm_ev.aload_n i40_91 rfl ?_
  refine gm_ev.getfield (v := .ref (C + 17)) i40_92 rfl (bM_fld (j := 4) (fs := cF4 C s22) rfl rfl) ?_
  refine gm_ev.aload_n i40_95 rfl ?_
  refine gm_ev.getfield (v := .ref (C + 5)) i40_96 rfl (bM_fld (j := 4) (fs := cF4 C s22) rfl rfl) ?_
  refine gm_ev.getfield (v := .ref (C + 6)) i40_99 rfl (bM_fld (j := 5) (fs := cF5 C s22) rfl rfl) ?_
  refine gm_ev.iconst (v := 0) i40_102 (by decide) ?_
  refine gm_ev.callV gm_mono_run (av := [.ref (C + 6), .int (0 : Int32)]) (r := []) (ci := 9) (fs := cF17 C s22) (bM_get (j := 17) rfl) i40_103 rfl rfl rfl (Nat.le_of_ble_eq_true rfl) t24 ?_
  refine gm_ev.pop i40_106 rfl ?_
  refine gm_ev.aload_n i40_107 rfl ?_
  refine gm_ev.callV gm_mono_run (av := []) (r := []) (ci := 3) (fs := cF4 C s25) (bM_get (j := 4) rfl) i40_108 rfl rfl rfl (Nat.le_of_ble_eq_true rfl) t26 ?_
  refine gm_ev.iconst (v := 1) i40_111 (by decide) ?_
  exact gm_ev.zret i40_112 rfl (by decide)
theorem t_X3_look_0_t {N0 : Nat} {K : Nat → Nat} {d C : Nat} {s : cS} {G : gm_H} {sz sl : Nat} {p0 : Nat} {r1 : Int32} {s3 : cS} {s6 : cS} (hN : N0 ≤ C) (t2 : gm_to N0 K ra_nm (ra_mt K) d 28 [.ref (C + 5), .ref p0] (bM C (cH C s) G) sz (.returned (some (.int r1)), (bM C (cH C s3) G), sz, 0)) (c4 : ¬ r1 = 0) (t5 : gm_to N0 K ra_nm (ra_mt K) d 42 [.ref (C + 4)] (bM C (cH C s3) G) sz (.returned none, (bM C (cH C s6) G), sz, 0)) : gm_ev N0 K ra_nm (ra_mt K) d (some .boolean) (gm_I cX3_look) (gm_lkf (lkX3 false K)) 0 [some (.ref (C + 4)), some (.ref p0)] [] (bM C (cH C s) G) sz sl (.returned (some (.int (1 : Int32))), (bM C (cH C s6) G), sz, sl) := by
  refine gm_ev.aload_n i41_0 rfl ?_
  refine gm_ev.getfield (v := .ref (C + 5)) i41_1 rfl (bM_fld (j := 4) (fs := cF4 C s) rfl rfl) ?_
  refine gm_ev.aload_n i41_4 rfl ?_
  refine gm_ev.callV gm_mono_run (av := [.ref p0]) (r := []) (ci := 2) (fs := cF5 C s) (bM_get (j := 5) rfl) i41_5 rfl rfl rfl (Nat.le_of_ble_eq_true rfl) t2 ?_
  refine gm_ev.if_ne_t (tgt := 13) i41_8 (by decide) c4 ?_
  refine gm_ev.aload_n i41_13 rfl ?_
  refine gm_ev.callV gm_mono_run (av := []) (r := []) (ci := 3) (fs := cF4 C s3) (bM_get (j := 4) rfl) i41_14 rfl rfl rfl (Nat.le_of_ble_eq_true rfl) t5 ?_
  refine gm_ev.iconst (v := 1) i41_17 (by decide) ?_
  exact gm_ev.zret i41_18 rfl (by decide)
theorem t_X3_look_0_f {N0 : Nat} {K : Nat → Nat} {d C : Nat} {s : cS} {G : gm_H} {sz sl : Nat} {p0 : Nat} {r1 : Int32} {s3 : cS} (hN : N0 ≤ C) (t2 : gm_to N0 K ra_nm (ra_mt K) d 28 [.ref (C + 5), .ref p0] (bM C (cH C s) G) sz (.returned (some (.int r1)), (bM C (cH C s3) G), sz, 0)) (c4 : r1 = 0) : gm_ev N0 K ra_nm (ra_mt K) d (some .boolean) (gm_I cX3_look) (gm_lkf (lkX3 false K)) 0 [some (.ref (C + 4)), some (.ref p0)] [] (bM C (cH C s) G) sz sl (.returned (some (.int (0 : Int32))), (bM C (cH C s3) G), sz, sl) := by
  refine gm_ev.aload_n i41_0 rfl ?_
  refine gm_ev.getfield (v := .ref (C + 5)) i41_1 rfl (bM_fld (j := 4) (fs := cF4 C s) rfl rfl) ?_
  refine gm_ev.aload_n i41_4 rfl ?_
  refine gm_ev.callV gm_mono_run (av := [.ref p0]) (r := []) (ci := 2) (fs := cF5 C s) (bM_get (j := 5) rfl) i41_5 rfl rfl rfl (Nat.le_of_ble_eq_true rfl) t2 ?_
  refine gm_ev.if_ne_f i41_8 c4 ?_
  refine gm_ev.iconst (v := 0) i41_11 (by decide) ?_
  exact gm_ev.zret i41_12 rfl (by decide)
theorem t_X3_seeMoves_0_t {N0 : Nat} {K : Nat → Nat} {d C : Nat} {s : cS} {G : gm_H} {sz sl : Nat} {k1 : Nat} {r3 : Int32} {s6 : cS} {r7 : Int32} {s10 : cS} (hN : N0 ≤ C) (ek1 : (7 : Int32) = nI k1) (lk1 : k1 < 112) (c2 : (s.2.1 13 k1) ≤ 0) (t4 : gm_to N0 K ra_nm (ra_mt K) d 95 [.ref (C + 17), .int (0 : Int32)] (bM C (cH C (cI s 88 (0 : Int32))) G) sz (.returned (some (.int r3)), (bM C (cH C (cI s 88 (0 : Int32))) G), sz, 0)) (t5 : gm_to N0 K ra_nm (ra_mt K) d 101 [.ref (C + 25), .ref (C + 6), .int r3] (bM C (cH C (cI s 88 (0 : Int32))) G) sz (.returned none, (bM C (cH C s6) G), sz, 0)) (t8 : gm_to N0 K ra_nm (ra_mt K) d 95 [.ref (C + 17), .int (1 : Int32)] (bM C (cH C s6) G) sz (.returned (some (.int r7)), (bM C (cH C s6) G), sz, 0)) (t9 : gm_to N0 K ra_nm (ra_mt K) d 101 [.ref (C + 27), .ref (C + 6), .int r7] (bM C (cH C s6) G) sz (.returned none, (bM C (cH C s10) G), sz, 0)) : gm_ev N0 K ra_nm (ra_mt K) d none (gm_I cX3_seeMoves) (gm_lkf (lkX3 false K)) 0 [some (.ref (C + 4))] [] (bM C (cH C s) G) sz sl (.returned none, (bM C (cH C s10) G), sz, sl) := by
  refine gm_ev.aload_n i42_0 rfl ?_
  refine gm_ev.aload_n i42_1 rfl ?_
  refine gm_ev.getfield (v := .ref (C + 5)) i42_2 rfl (bM_fld (j := 4) (fs := cF4 C s) rfl rfl) ?_
  refine gm_ev.getfield (v := .ref (C + 6)) i42_5 rfl (bM_fld (j := 5) (fs := cF5 C s) rfl rfl) ?_
  refine gm_ev.getfield (v := .ref (C + 13)) i42_8 rfl (bM_fld (j := 6) (fs := cF6 C s) rfl rfl) ?_
  refine gm_ev.bipush (v := 7) i42_11 (by decide) ?_
  refine gm_ev.iaload i42_13 (bM_ai (j := 13) (n := 112) (f := s.2.1 13) rfl ek1 lk1 (by decide)) ?_
  refine gm_ev.if_le_t (tgt := 21) i42_14 (by decide) c2 ?_
  refine gm_ev.iconst (v := 0) i42_21 (by decide) ?_
  refine gm_ev.putfield (M' := (bM C (cH C (cI s 88 (0 : Int32))) G)) i42_22 rfl (bM_put (j := 4) (fs := cF4 C s) rfl (Nat.le_of_ble_eq_true rfl) hN (gm_fit_z (by decide)) rfl) ?_
  refine gm_ev.aload_n i42_25 rfl ?_
  refine gm_ev.getfield (v := .ref (C + 25)) i42_26 rfl (bM_fld (j := 4) (fs := cF4 C (cI s 88 (0 : Int32))) rfl rfl) ?_
  refine gm_ev.aload_n i42_29 rfl ?_
  refine gm_ev.getfield (v := .ref (C + 5)) i42_30 rfl (bM_fld (j := 4) (fs := cF4 C (cI s 88 (0 : Int32))) rfl rfl) ?_
  refine gm_ev.getfield (v := .ref (C + 6)) i42_33 rfl (bM_fld (j := 5) (fs := cF5 C (cI s 88 (0 : Int32))) rfl rfl) ?_
  refine gm_ev.aload_n i42_36 rfl ?_
  refine gm_ev.getfield (v := .ref (C + 17)) i42_37 rfl (bM_fld (j := 4) (fs := cF4 C (cI s 88 (0 : Int32))) rfl rfl) ?_
  refine gm_ev.iconst (v := 0) i42_40 (by decide) ?_
  refine gm_ev.callV gm_mono_run (av := [.int (0 : Int32)]) (r := [.ref (C + 6), .ref (C + 25)]) (ci := 9) (fs := cF17 C (cI s 88 (0 : Int32))) (bM_get (j := 17) rfl) i42_41 rfl rfl rfl (Nat.le_of_ble_eq_true rfl) t4 ?_
  refine gm_ev.callV gm_mono_run (av := [.ref (C + 6), .int r3]) (r := []) (ci := 9) (fs := cF25 C (cI s 88 (0 : Int32))) (bM_get (j := 25) rfl) i42_44 rfl rfl rfl (Nat.le_of_ble_eq_true rfl) t5 ?_
  refine gm_ev.aload_n i42_47 rfl ?_
  refine gm_ev.getfield (v := .ref (C + 27)) i42_48 rfl (bM_fld (j := 4) (fs := cF4 C s6) rfl rfl) ?_
  refine gm_ev.aload_n i42_51 rfl ?_
  refine gm_ev.getfield (v := .ref (C + 5)) i42_52 rfl (bM_fld (j := 4) (fs := cF4 C s6) rfl rfl) ?_
  refine gm_ev.getfield (v := .ref (C + 6)) i42_55 rfl (bM_fld (j := 5) (fs := cF5 C s6) rfl rfl) ?_
  refine gm_ev.aload_n i42_58 rfl ?_
  refine gm_ev.getfield (v := .ref (C + 17)) i42_59 rfl (bM_fld (j := 4) (fs := cF4 C s6) rfl rfl) ?_
  refine gm_ev.iconst (v := 1) i42_62 (by decide) ?_
  refine gm_ev.callV gm_mono_run (av := [.int (1 : Int32)]) (r := [.ref (C + 6), .ref (C + 27)]) (ci := 9) (fs := cF17 C s6) (bM_get (j := 17) rfl) i42_63 rfl rfl rfl (Nat.le_of_ble_eq_true rfl) t8 ?_
  refine gm_ev.callV gm_mono_run (av := [.ref (C + 6), .int r7]) (r := []) (ci := 9) (fs := cF27 C s6) (bM_get (j := 27) rfl) i42_66 rfl rfl rfl (Nat.le_of_ble_eq_true rfl) t9 ?_
  exact gm_ev.vret i42_69 rfl
theorem t_X3_seeMoves_0_f {N0 : Nat} {K : Nat → Nat} {d C : Nat} {s : cS} {G : gm_H} {sz sl : Nat} {k1 : Nat} {r3 : Int32} {s6 : cS} {r7 : Int32} {s10 : cS} (hN : N0 ≤ C) (ek1 : (7 : Int32) = nI k1) (lk1 : k1 < 112) (c2 : ¬ (s.2.1 13 k1) ≤ 0) (t4 : gm_to N0 K ra_nm (ra_mt K) d 95 [.ref (C + 17), .int (0 : Int32)] (bM C (cH C (cI s 88 (1 : Int32))) G) sz (.returned (some (.int r3)), (bM C (cH C (cI s 88 (1 : Int32))) G), sz, 0)) (t5 : gm_to N0 K ra_nm (ra_mt K) d 101 [.ref (C + 25), .ref (C + 6), .int r3] (bM C (cH C (cI s 88 (1 : Int32))) G) sz (.returned none, (bM C (cH C s6) G), sz, 0)) (t8 : gm_to N0 K ra_nm (ra_mt K) d 95 [.ref (C + 17), .int (1 : Int32)] (bM C (cH C s6) G) sz (.returned (some (.int r7)), (bM C (cH C s6) G), sz, 0)) (t9 : gm_to N0 K ra_nm (ra_mt K) d 101 [.ref (C + 27), .ref (C + 6), .int r7] (bM C (cH C s6) G) sz (.returned none, (bM C (cH C s10) G), sz, 0)) : gm_ev N0 K ra_nm (ra_mt K) d none (gm_I cX3_seeMoves) (gm_lkf (lkX3 false K)) 0 [some (.ref (C + 4))] [] (bM C (cH C s) G) sz sl (.returned none, (bM C (cH C s10) G), sz, sl) := by
  refine gm_ev.aload_n i42_0 rfl ?_
  refine gm_ev.aload_n i42_1 rfl ?_
  refine gm_ev.getfield (v := .ref (C + 5)) i42_2 rfl (bM_fld (j := 4) (fs := cF4 C s) rfl rfl) ?_
  refine gm_ev.getfield (v := .ref (C + 6)) i42_5 rfl (bM_fld (j := 5) (fs := cF5 C s) rfl rfl) ?_
  refine gm_ev.getfield (v := .ref (C + 13)) i42_8 rfl (bM_fld (j := 6) (fs := cF6 C s) rfl rfl) ?_
  refine gm_ev.bipush (v := 7) i42_11 (by decide) ?_
  refine gm_ev.iaload i42_13 (bM_ai (j := 13) (n := 112) (f := s.2.1 13) rfl ek1 lk1 (by decide)) ?_
  refine gm_ev.if_le_f i42_14 c2 ?_
  refine gm_ev.iconst (v := 1) i42_17 (by decide) ?_
  refine gm_ev.goto (tgt := 22) i42_18 (by decide) ?_
  refine gm_ev.putfield (M' := (bM C (cH C (cI s 88 (1 : Int32))) G)) i42_22 rfl (bM_put (j := 4) (fs := cF4 C s) rfl (Nat.le_of_ble_eq_true rfl) hN (gm_fit_z (by decide)) rfl) ?_
  refine gm_ev.aload_n i42_25 rfl ?_
  refine gm_ev.getfield (v := .ref (C + 25)) i42_26 rfl (bM_fld (j := 4) (fs := cF4 C (cI s 88 (1 : Int32))) rfl rfl) ?_
  refine gm_ev.aload_n i42_29 rfl ?_
  refine gm_ev.getfield (v := .ref (C + 5)) i42_30 rfl (bM_fld (j := 4) (fs := cF4 C (cI s 88 (1 : Int32))) rfl rfl) ?_
  refine gm_ev.getfield (v := .ref (C + 6)) i42_33 rfl (bM_fld (j := 5) (fs := cF5 C (cI s 88 (1 : Int32))) rfl rfl) ?_
  refine gm_ev.aload_n i42_36 rfl ?_
  refine gm_ev.getfield (v := .ref (C + 17)) i42_37 rfl (bM_fld (j := 4) (fs := cF4 C (cI s 88 (1 : Int32))) rfl rfl) ?_
  refine gm_ev.iconst (v := 0) i42_40 (by decide) ?_
  refine gm_ev.callV gm_mono_run (av := [.int (0 : Int32)]) (r := [.ref (C + 6), .ref (C + 25)]) (ci := 9) (fs := cF17 C (cI s 88 (1 : Int32))) (bM_get (j := 17) rfl) i42_41 rfl rfl rfl (Nat.le_of_ble_eq_true rfl) t4 ?_
  refine gm_ev.callV gm_mono_run (av := [.ref (C + 6), .int r3]) (r := []) (ci := 9) (fs := cF25 C (cI s 88 (1 : Int32))) (bM_get (j := 25) rfl) i42_44 rfl rfl rfl (Nat.le_of_ble_eq_true rfl) t5 ?_
  refine gm_ev.aload_n i42_47 rfl ?_
  refine gm_ev.getfield (v := .ref (C + 27)) i42_48 rfl (bM_fld (j := 4) (fs := cF4 C s6) rfl rfl) ?_
  refine gm_ev.aload_n i42_51 rfl ?_
  refine gm_ev.getfield (v := .ref (C + 5)) i42_52 rfl (bM_fld (j := 4) (fs := cF4 C s6) rfl rfl) ?_
  refine gm_ev.getfield (v := .ref (C + 6)) i42_55 rfl (bM_fld (j := 5) (fs := cF5 C s6) rfl rfl) ?_
  refine gm_ev.aload_n i42_58 rfl ?_
  refine gm_ev.getfield (v := .ref (C + 17)) i42_59 rfl (bM_fld (j := 4) (fs := cF4 C s6) rfl rfl) ?_
  refine gm_ev.iconst (v := 1) i42_62 (by decide) ?_
  refine gm_ev.callV gm_mono_run (av := [.int (1 : Int32)]) (r := [.ref (C + 6), .ref (C + 27)]) (ci := 9) (fs := cF17 C s6) (bM_get (j := 17) rfl) i42_63 rfl rfl rfl (Nat.le_of_ble_eq_true rfl) t8 ?_
  refine gm_ev.callV gm_mono_run (av := [.ref (C + 6), .int r7]) (r := []) (ci := 9) (fs := cF27 C s6) (bM_get (j := 27) rfl) i42_66 rfl rfl rfl (Nat.le_of_ble_eq_true rfl) t9 ?_
  exact gm_ev.vret i42_69 rfl
theorem t_X3_goBack_0_ {N0 : Nat} {K : Nat → Nat} {d C : Nat} {s : cS} {G : gm_H} {sz sl : Nat} {s2 : cS} {r3 : Int32} {s5 : cS} (hN : N0 ≤ C) (t1 : gm_to N0 K ra_nm (ra_mt K) d 97 [.ref (C + 21), .ref (C + 19)] (bM C (cH C s) G) sz (.returned none, (bM C (cH C s2) G), sz, 0)) (t4 : gm_to N0 K ra_nm (ra_mt K) d 41 [.ref (C + 4), .ref (C + 21)] (bM C (cH C s2) G) sz (.returned (some (.int r3)), (bM C (cH C s5) G), sz, 0)) : gm_ev N0 K ra_nm (ra_mt K) d none (gm_I cX3_goBack) (gm_lkf (lkX3 false K)) 0 [some (.ref (C + 4))] [] (bM C (cH C s) G) sz sl (.returned none, (bM C (cH C s5) G), sz, sl) := by
  refine gm_ev.aload_n i43_0 rfl ?_
  refine gm_ev.getfield (v := .ref (C + 21)) i43_1 rfl (bM_fld (j := 4) (fs := cF4 C s) rfl rfl) ?_
  refine gm_ev.aload_n i43_4 rfl ?_
  refine gm_ev.getfield (v := .ref (C + 19)) i43_5 rfl (bM_fld (j := 4) (fs := cF4 C s) rfl rfl) ?_
  refine gm_ev.callV gm_mono_run (av := [.ref (C + 19)]) (r := []) (ci := 9) (fs := cF21 C s) (bM_get (j := 21) rfl) i43_8 rfl rfl rfl (Nat.le_of_ble_eq_true rfl) t1 ?_
  refine gm_ev.aload_n i43_11 rfl ?_
  refine gm_ev.aload_n i43_12 rfl ?_
  refine gm_ev.getfield (v := .ref (C + 21)) i43_13 rfl (bM_fld (j := 4) (fs := cF4 C s2) rfl rfl) ?_
  refine gm_ev.callV gm_mono_run (av := [.ref (C + 21)]) (r := []) (ci := 3) (fs := cF4 C s2) (bM_get (j := 4) rfl) i43_16 rfl rfl rfl (Nat.le_of_ble_eq_true rfl) t4 ?_
  refine gm_ev.pop i43_19 rfl ?_
  exact gm_ev.vret i43_20 rfl
theorem t_X3_lead_0_t {N0 : Nat} {K : Nat → Nat} {d C : Nat} {s : cS} {G : gm_H} {sz sl : Nat} {p0 : Int32} {p1 : Int32} {r1 : Int32} {r3 : Int32} {r5 : Int32} {r7 : Int32} {r9 : Int32} {s11 : cS} (hN : N0 ≤ C) (t2 : gm_to N0 K ra_nm (ra_mt K) d 95 [.ref (C + 17), .int (0 : Int32)] (bM C (cH C s) G) sz (.returned (some (.int r1)), (bM C (cH C s) G), sz, 0)) (t4 : gm_to N0 K ra_nm (ra_mt K) d 95 [.ref (C + 25), .int p0] (bM C (cH C s) G) sz (.returned (some (.int r3)), (bM C (cH C s) G), sz, 0)) (t6 : gm_to N0 K ra_nm (ra_mt K) d 95 [.ref (C + 17), .int (1 : Int32)] (bM C (cH C s) G) sz (.returned (some (.int r5)), (bM C (cH C s) G), sz, 0)) (t8 : gm_to N0 K ra_nm (ra_mt K) d 95 [.ref (C + 27), .int p1] (bM C (cH C s) G) sz (.returned (some (.int r7)), (bM C (cH C s) G), sz, 0)) (t10 : gm_to N0 K ra_nm (ra_mt K) d 29 [.ref (C + 5), .int r1, .int r3, .int r5, .int r7] (bM C (cH C s) G) sz (.returned (some (.int r9)), (bM C (cH C s11) G), sz, 0)) (c12 : r9 = 0) : gm_ev N0 K ra_nm (ra_mt K) d (some .boolean) (gm_I cX3_lead) (gm_lkf (lkX3 false K)) 0 [some (.ref (C + 4)), some (.int p0), some (.int p1)] [] (bM C (cH C s) G) sz sl (.returned (some (.int (0 : Int32))), (bM C (cH C s11) G), sz, sl) := by
  refine gm_ev.aload_n i44_0 rfl ?_
  refine gm_ev.getfield (v := .ref (C + 5)) i44_1 rfl (bM_fld (j := 4) (fs := cF4 C s) rfl rfl) ?_
  refine gm_ev.aload_n i44_4 rfl ?_
  refine gm_ev.getfield (v := .ref (C + 17)) i44_5 rfl (bM_fld (j := 4) (fs := cF4 C s) rfl rfl) ?_
  refine gm_ev.iconst (v := 0) i44_8 (by decide) ?_
  refine gm_ev.callV gm_mono_run (av := [.int (0 : Int32)]) (r := [.ref (C + 5)]) (ci := 9) (fs := cF17 C s) (bM_get (j := 17) rfl) i44_9 rfl rfl rfl (Nat.le_of_ble_eq_true rfl) t2 ?_
  refine gm_ev.aload_n i44_12 rfl ?_
  refine gm_ev.getfield (v := .ref (C + 25)) i44_13 rfl (bM_fld (j := 4) (fs := cF4 C s) rfl rfl) ?_
  refine gm_ev.iload_n i44_16 rfl ?_
  refine gm_ev.callV gm_mono_run (av := [.int p0]) (r := [.int r1, .ref (C + 5)]) (ci := 9) (fs := cF25 C s) (bM_get (j := 25) rfl) i44_17 rfl rfl rfl (Nat.le_of_ble_eq_true rfl) t4 ?_
  refine gm_ev.aload_n i44_20 rfl ?_
  refine gm_ev.getfield (v := .ref (C + 17)) i44_21 rfl (bM_fld (j := 4) (fs := cF4 C s) rfl rfl) ?_
  refine gm_ev.iconst (v := 1) i44_24 (by decide) ?_
  refine gm_ev.callV gm_mono_run (av := [.int (1 : Int32)]) (r := [.int r3, .int r1, .ref (C + 5)]) (ci := 9) (fs := cF17 C s) (bM_get (j := 17) rfl) i44_25 rfl rfl rfl (Nat.le_of_ble_eq_true rfl) t6 ?_
  refine gm_ev.aload_n i44_28 rfl ?_
  refine gm_ev.getfield (v := .ref (C + 27)) i44_29 rfl (bM_fld (j := 4) (fs := cF4 C s) rfl rfl) ?_
  refine gm_ev.iload_n i44_32 rfl ?_
  refine gm_ev.callV gm_mono_run (av := [.int p1]) (r := [.int r5, .int r3, .int r1, .ref (C + 5)]) (ci := 9) (fs := cF27 C s) (bM_get (j := 27) rfl) i44_33 rfl rfl rfl (Nat.le_of_ble_eq_true rfl) t8 ?_
  refine gm_ev.callV gm_mono_run (av := [.int r1, .int r3, .int r5, .int r7]) (r := []) (ci := 2) (fs := cF5 C s) (bM_get (j := 5) rfl) i44_36 rfl rfl rfl (Nat.le_of_ble_eq_true rfl) t10 ?_
  refine gm_ev.if_eq_t (tgt := 64) i44_39 (by decide) c12 ?_
  refine gm_ev.iconst (v := 0) i44_64 (by decide) ?_
  exact gm_ev.zret i44_65 rfl (by decide)
theorem t_X3_lead_0_ft {N0 : Nat} {K : Nat → Nat} {d C : Nat} {s : cS} {G : gm_H} {sz sl : Nat} {p0 : Int32} {p1 : Int32} {r1 : Int32} {r3 : Int32} {r5 : Int32} {r7 : Int32} {r9 : Int32} {s11 : cS} {r13 : Int32} {s15 : cS} (hN : N0 ≤ C) (t2 : gm_to N0 K ra_nm (ra_mt K) d 95 [.ref (C + 17), .int (0 : Int32)] (bM C (cH C s) G) sz (.returned (some (.int r1)), (bM C (cH C s) G), sz, 0)) (t4 : gm_to N0 K ra_nm (ra_mt K) d 95 [.ref (C + 25), .int p0] (bM C (cH C s) G) sz (.returned (some (.int r3)), (bM C (cH C s) G), sz, 0)) (t6 : gm_to N0 K ra_nm (ra_mt K) d 95 [.ref (C + 17), .int (1 : Int32)] (bM C (cH C s) G) sz (.returned (some (.int r5)), (bM C (cH C s) G), sz, 0)) (t8 : gm_to N0 K ra_nm (ra_mt K) d 95 [.ref (C + 27), .int p1] (bM C (cH C s) G) sz (.returned (some (.int r7)), (bM C (cH C s) G), sz, 0)) (t10 : gm_to N0 K ra_nm (ra_mt K) d 29 [.ref (C + 5), .int r1, .int r3, .int r5, .int r7] (bM C (cH C s) G) sz (.returned (some (.int r9)), (bM C (cH C s11) G), sz, 0)) (c12 : ¬ r9 = 0) (t14 : gm_to N0 K ra_nm (ra_mt K) d 100 [.ref (C + 23), .ref (C + 6), .int (3 : Int32)] (bM C (cH C s11) G) sz (.returned (some (.int r13)), (bM C (cH C s15) G), sz, 0)) (c16 : r13 = 0) : gm_ev N0 K ra_nm (ra_mt K) d (some .boolean) (gm_I cX3_lead) (gm_lkf (lkX3 false K)) 0 [some (.ref (C + 4)), some (.int p0), some (.int p1)] [] (bM C (cH C s) G) sz sl (.returned (some (.int (0 : Int32))), (bM C (cH C s15) G), sz, sl) := by
  refine gm_ev.aload_n i44_0 rfl ?_
  refine gm_ev.getfield (v := .ref (C + 5)) i44_1 rfl (bM_fld (j := 4) (fs := cF4 C s) rfl rfl) ?_
  refine gm_ev.aload_n i44_4 rfl ?_
  refine gm_ev.getfield (v := .ref (C + 17)) i44_5 rfl (bM_fld (j := 4) (fs := cF4 C s) rfl rfl) ?_
  refine gm_ev.iconst (v := 0) i44_8 (by decide) ?_
  refine gm_ev.callV gm_mono_run (av := [.int (0 : Int32)]) (r := [.ref (C + 5)]) (ci := 9) (fs := cF17 C s) (bM_get (j := 17) rfl) i44_9 rfl rfl rfl (Nat.le_of_ble_eq_true rfl) t2 ?_
  refine gm_ev.aload_n i44_12 rfl ?_
  refine gm_ev.getfield (v := .ref (C + 25)) i44_13 rfl (bM_fld (j := 4) (fs := cF4 C s) rfl rfl) ?_
  refine gm_ev.iload_n i44_16 rfl ?_
  refine gm_ev.callV gm_mono_run (av := [.int p0]) (r := [.int r1, .ref (C + 5)]) (ci := 9) (fs := cF25 C s) (bM_get (j := 25) rfl) i44_17 rfl rfl rfl (Nat.le_of_ble_eq_true rfl) t4 ?_
  refine gm_ev.aload_n i44_20 rfl ?_
  refine gm_ev.getfield (v := .ref (C + 17)) i44_21 rfl (bM_fld (j := 4) (fs := cF4 C s) rfl rfl) ?_
  refine gm_ev.iconst (v := 1) i44_24 (by decide) ?_
  refine gm_ev.callV gm_mono_run (av := [.int (1 : Int32)]) (r := [.int r3, .int r1, .ref (C + 5)]) (ci := 9) (fs := cF17 C s) (bM_get (j := 17) rfl) i44_25 rfl rfl rfl (Nat.le_of_ble_eq_true rfl) t6 ?_
  refine gm_ev.aload_n i44_28 rfl ?_
  refine gm_ev.getfield (v := .ref (C + 27)) i44_29 rfl (bM_fld (j := 4) (fs := cF4 C s) rfl rfl) ?_
  refine gm_ev.iload_n i44_32 rfl ?_
  refine gm_ev.callV gm_mono_run (av := [.int p1]) (r := [.int r5, .int r3, .int r1, .ref (C + 5)]) (ci := 9) (fs := cF27 C s) (bM_get (j := 27) rfl) i44_33 rfl rfl rfl (Nat.le_of_ble_eq_true rfl) t8 ?_
  refine gm_ev.callV gm_mono_run (av := [.int r1, .int r3, .int r5, .int r7]) (r := []) (ci := 2) (fs := cF5 C s) (bM_get (j := 5) rfl) i44_36 rfl rfl rfl (Nat.le_of_ble_eq_true rfl) t10 ?_
  refine gm_ev.if_eq_f i44_39 c12 ?_
  refine gm_ev.aload_n i44_42 rfl ?_
  refine gm_ev.getfield (v := .ref (C + 23)) i44_43 rfl (bM_fld (j := 4) (fs := cF4 C s11) rfl rfl) ?_
  refine gm_ev.aload_n i44_46 rfl ?_
  refine gm_ev.getfield (v := .ref (C + 5)) i44_47 rfl (bM_fld (j := 4) (fs := cF4 C s11) rfl rfl) ?_
  refine gm_ev.getfield (v := .ref (C + 6)) i44_50 rfl (bM_fld (j := 5) (fs := cF5 C s11) rfl rfl) ?_
  refine gm_ev.iconst (v := 3) i44_53 (by decide) ?_
  refine gm_ev.callV gm_mono_run (av := [.ref (C + 6), .int (3 : Int32)]) (r := []) (ci := 9) (fs := cF23 C s11) (bM_get (j := 23) rfl) i44_54 rfl rfl rfl (Nat.le_of_ble_eq_true rfl) t14 ?_
  refine gm_ev.if_eq_t (tgt := 64) i44_57 (by decide) c16 ?_
  refine gm_ev.iconst (v := 0) i44_64 (by decide) ?_
  exact gm_ev.zret i44_65 rfl (by decide)
theorem t_X3_lead_0_ff {N0 : Nat} {K : Nat → Nat} {d C : Nat} {s : cS} {G : gm_H} {sz sl : Nat} {p0 : Int32} {p1 : Int32} {r1 : Int32} {r3 : Int32} {r5 : Int32} {r7 : Int32} {r9 : Int32} {s11 : cS} {r13 : Int32} {s15 : cS} (hN : N0 ≤ C) (t2 : gm_to N0 K ra_nm (ra_mt K) d 95 [.ref (C + 17), .int (0 : Int32)] (bM C (cH C s) G) sz (.returned (some (.int r1)), (bM C (cH C s) G), sz, 0)) (t4 : gm_to N0 K ra_nm (ra_mt K) d 95 [.ref (C + 25), .int p0] (bM C (cH C s) G) sz (.returned (some (.int r3)), (bM C (cH C s) G), sz, 0)) (t6 : gm_to N0 K ra_nm (ra_mt K) d 95 [.ref (C + 17), .int (1 : Int32)] (bM C (cH C s) G) sz (.returned (some (.int r5)), (bM C (cH C s) G), sz, 0)) (t8 : gm_to N0 K ra_nm (ra_mt K) d 95 [.ref (C + 27), .int p1] (bM C (cH C s) G) sz (.returned (some (.int r7)), (bM C (cH C s) G), sz, 0)) (t10 : gm_to N0 K ra_nm (ra_mt K) d 29 [.ref (C + 5), .int r1, .int r3, .int r5, .int r7] (bM C (cH C s) G) sz (.returned (some (.int r9)), (bM C (cH C s11) G), sz, 0)) (c12 : ¬ r9 = 0) (t14 : gm_to N0 K ra_nm (ra_mt K) d 100 [.ref (C + 23), .ref (C + 6), .int (3 : Int32)] (bM C (cH C s11) G) sz (.returned (some (.int r13)), (bM C (cH C s15) G), sz, 0)) (c16 : ¬ r13 = 0) : gm_ev N0 K ra_nm (ra_mt K) d (some .boolean) (gm_I cX3_lead) (gm_lkf (lkX3 false K)) 0 [some (.ref (C + 4)), some (.int p0), some (.int p1)] [] (bM C (cH C s) G) sz sl (.returned (some (.int (1 : Int32))), (bM C (cH C s15) G), sz, sl) := by
  refine gm_ev.aload_n i44_0 rfl ?_
  refine gm_ev.getfield (v := .ref (C + 5)) i44_1 rfl (bM_fld (j := 4) (fs := cF4 C s) rfl rfl) ?_
  refine gm_ev.aload_n i44_4 rfl ?_
  refine gm_ev.getfield (v := .ref (C + 17)) i44_5 rfl (bM_fld (j := 4) (fs := cF4 C s) rfl rfl) ?_
  refine gm_ev.iconst (v := 0) i44_8 (by decide) ?_
  refine gm_ev.callV gm_mono_run (av := [.int (0 : Int32)]) (r := [.ref (C + 5)]) (ci := 9) (fs := cF17 C s) (bM_get (j := 17) rfl) i44_9 rfl rfl rfl (Nat.le_of_ble_eq_true rfl) t2 ?_
  refine gm_ev.aload_n i44_12 rfl ?_
  refine gm_ev.getfield (v := .ref (C + 25)) i44_13 rfl (bM_fld (j := 4) (fs := cF4 C s) rfl rfl) ?_
  refine gm_ev.iload_n i44_16 rfl ?_
  refine gm_ev.callV gm_mono_run (av := [.int p0]) (r := [.int r1, .ref (C + 5)]) (ci := 9) (fs := cF25 C s) (bM_get (j := 25) rfl) i44_17 rfl rfl rfl (Nat.le_of_ble_eq_true rfl) t4 ?_
  refine gm_ev.aload_n i44_20 rfl ?_
  refine gm_ev.getfield (v := .ref (C + 17)) i44_21 rfl (bM_fld (j := 4) (fs := cF4 C s) rfl rfl) ?_
  refine gm_ev.iconst (v := 1) i44_24 (by decide) ?_
  refine gm_ev.callV gm_mono_run (av := [.int (1 : Int32)]) (r := [.int r3, .int r1, .ref (C + 5)]) (ci := 9) (fs := cF17 C s) (bM_get (j := 17) rfl) i44_25 rfl rfl rfl (Nat.le_of_ble_eq_true rfl) t6 ?_
  refine gm_ev.aload_n i44_28 rfl ?_
  refine gm_ev.getfield (v := .ref (C + 27)) i44_29 rfl (bM_fld (j := 4) (fs := cF4 C s) rfl rfl) ?_
  refine gm_ev.iload_n i44_32 rfl ?_
  refine gm_ev.callV gm_mono_run (av := [.int p1]) (r := [.int r5, .int r3, .int r1, .ref (C + 5)]) (ci := 9) (fs := cF27 C s) (bM_get (j := 27) rfl) i44_33 rfl rfl rfl (Nat.le_of_ble_eq_true rfl) t8 ?_
  refine gm_ev.callV gm_mono_run (av := [.int r1, .int r3, .int r5, .int r7]) (r := []) (ci := 2) (fs := cF5 C s) (bM_get (j := 5) rfl) i44_36 rfl rfl rfl (Nat.le_of_ble_eq_true rfl) t10 ?_
  refine gm_ev.if_eq_f i44_39 c12 ?_
  refine gm_ev.aload_n i44_42 rfl ?_
  refine gm_ev.getfield (v := .ref (C + 23)) i44_43 rfl (bM_fld (j := 4) (fs := cF4 C s11) rfl rfl) ?_
  refine gm_ev.aload_n i44_46 rfl ?_
  refine gm_ev.getfield (v := .ref (C + 5)) i44_47 rfl (bM_fld (j := 4) (fs := cF4 C s11) rfl rfl) ?_
  refine gm_ev.getfield (v := .ref (C + 6)) i44_50 rfl (bM_fld (j := 5) (fs := cF5 C s11) rfl rfl) ?_
  refine gm_ev.iconst (v := 3) i44_53 (by decide) ?_
  refine gm_ev.callV gm_mono_run (av := [.ref (C + 6), .int (3 : Int32)]) (r := []) (ci := 9) (fs := cF23 C s11) (bM_get (j := 23) rfl) i44_54 rfl rfl rfl (Nat.le_of_ble_eq_true rfl) t14 ?_
  refine gm_ev.if_eq_f i44_57 c16 ?_
  refine gm_ev.iconst (v := 1) i44_60 (by decide) ?_
  refine gm_ev.goto (tgt := 65) i44_61 (by decide) ?_
  exact gm_ev.zret i44_65 rfl (by decide)
theorem t_X3_advance_0_t {N0 : Nat} {K : Nat → Nat} {d C : Nat} {s : cS} {G : gm_H} {sz sl : Nat} {p0 : Int32} {p1 : Int32} {r1 : Int32} {s3 : cS} {r5 : Int32} {s7 : cS} (hN : N0 ≤ C) (t2 : gm_to N0 K ra_nm (ra_mt K) d 44 [.ref (C + 4), .int p0, .int p1] (bM C (cH C s) G) sz (.returned (some (.int r1)), (bM C (cH C s3) G), sz, 0)) (c4 : r1 = 0) (t6 : gm_to N0 K ra_nm (ra_mt K) d 41 [.ref (C + 4), .ref (C + 21)] (bM C (cH C s3) G) sz (.returned (some (.int r5)), (bM C (cH C s7) G), sz, 0)) : gm_ev N0 K ra_nm (ra_mt K) d (some .boolean) (gm_I cX3_advance) (gm_lkf (lkX3 false K)) 0 [some (.ref (C + 4)), some (.int p0), some (.int p1)] [] (bM C (cH C s) G) sz sl (.returned (some (.int (0 : Int32))), (bM C (cH C s7) G), sz, sl) := by
  refine gm_ev.aload_n i45_0 rfl ?_
  refine gm_ev.iload_n i45_1 rfl ?_
  refine gm_ev.iload_n i45_2 rfl ?_
  refine gm_ev.callV gm_mono_run (av := [.int p0, .int p1]) (r := []) (ci := 3) (fs := cF4 C s) (bM_get (j := 4) rfl) i45_3 rfl rfl rfl (Nat.le_of_ble_eq_true rfl) t2 ?_
  refine gm_ev.if_eq_t (tgt := 33) i45_6 (by decide) c4 ?_
  refine gm_ev.aload_n i45_33 rfl ?_
  refine gm_ev.aload_n i45_34 rfl ?_
  refine gm_ev.getfield (v := .ref (C + 21)) i45_35 rfl (bM_fld (j := 4) (fs := cF4 C s3) rfl rfl) ?_
  refine gm_ev.callV gm_mono_run (av := [.ref (C + 21)]) (r := []) (ci := 3) (fs := cF4 C s3) (bM_get (j := 4) rfl) i45_38 rfl rfl rfl (Nat.le_of_ble_eq_true rfl) t6 ?_
  refine gm_ev.pop i45_41 rfl ?_
  refine gm_ev.iconst (v := 0) i45_42 (by decide) ?_
  exact gm_ev.zret i45_43 rfl (by decide)
theorem t_X3_advance_0_ft {N0 : Nat} {K : Nat → Nat} {d C : Nat} {s : cS} {G : gm_H} {sz sl : Nat} {p0 : Int32} {p1 : Int32} {r1 : Int32} {s3 : cS} {r5 : Int32} {s7 : cS} {r9 : Int32} {s11 : cS} (hN : N0 ≤ C) (t2 : gm_to N0 K ra_nm (ra_mt K) d 44 [.ref (C + 4), .int p0, .int p1] (bM C (cH C s) G) sz (.returned (some (.int r1)), (bM C (cH C s3) G), sz, 0)) (c4 : ¬ r1 = 0) (t6 : gm_to N0 K ra_nm (ra_mt K) d 41 [.ref (C + 4), .ref (C + 23)] (bM C (cH C s3) G) sz (.returned (some (.int r5)), (bM C (cH C s7) G), sz, 0)) (c8 : r5 = 0) (t10 : gm_to N0 K ra_nm (ra_mt K) d 41 [.ref (C + 4), .ref (C + 21)] (bM C (cH C s7) G) sz (.returned (some (.int r9)), (bM C (cH C s11) G), sz, 0)) : gm_ev N0 K ra_nm (ra_mt K) d (some .boolean) (gm_I cX3_advance) (gm_lkf (lkX3 false K)) 0 [some (.ref (C + 4)), some (.int p0), some (.int p1)] [] (bM C (cH C s) G) sz sl (.returned (some (.int (0 : Int32))), (bM C (cH C s11) G), sz, sl) := by
  refine gm_ev.aload_n i45_0 rfl ?_
  refine gm_ev.iload_n i45_1 rfl ?_
  refine gm_ev.iload_n i45_2 rfl ?_
  refine gm_ev.callV gm_mono_run (av := [.int p0, .int p1]) (r := []) (ci := 3) (fs := cF4 C s) (bM_get (j := 4) rfl) i45_3 rfl rfl rfl (Nat.le_of_ble_eq_true rfl) t2 ?_
  refine gm_ev.if_eq_f i45_6 c4 ?_
  refine gm_ev.aload_n i45_9 rfl ?_
  refine gm_ev.aload_n i45_10 rfl ?_
  refine gm_ev.getfield (v := .ref (C + 23)) i45_11 rfl (bM_fld (j := 4) (fs := cF4 C s3) rfl rfl) ?_
  refine gm_ev.callV gm_mono_run (av := [.ref (C + 23)]) (r := []) (ci := 3) (fs := cF4 C s3) (bM_get (j := 4) rfl) i45_14 rfl rfl rfl (Nat.le_of_ble_eq_true rfl) t6 ?_
  refine gm_ev.if_eq_t (tgt := 33) i45_17 (by decide) c8 ?_
  refine gm_ev.aload_n i45_33 rfl ?_
  refine gm_ev.aload_n i45_34 rfl ?_
  refine gm_ev.getfield (v := .ref (C + 21)) i45_35 rfl (bM_fld (j := 4) (fs := cF4 C s7) rfl rfl) ?_
  refine gm_ev.callV gm_mono_run (av := [.ref (C + 21)]) (r := []) (ci := 3) (fs := cF4 C s7) (bM_get (j := 4) rfl) i45_38 rfl rfl rfl (Nat.le_of_ble_eq_true rfl) t10 ?_
  refine gm_ev.pop i45_41 rfl ?_
  refine gm_ev.iconst (v := 0) i45_42 (by decide) ?_
  exact gm_ev.zret i45_43 rfl (by decide)
theorem t_X3_advance_0_ff {N0 : Nat} {K : Nat → Nat} {d C : Nat} {s : cS} {G : gm_H} {sz sl : Nat} {p0 : Int32} {p1 : Int32} {r1 : Int32} {s3 : cS} {r5 : Int32} {s7 : cS} {s10 : cS} (hN : N0 ≤ C) (t2 : gm_to N0 K ra_nm (ra_mt K) d 44 [.ref (C + 4), .int p0, .int p1] (bM C (cH C s) G) sz (.returned (some (.int r1)), (bM C (cH C s3) G), sz, 0)) (c4 : ¬ r1 = 0) (t6 : gm_to N0 K ra_nm (ra_mt K) d 41 [.ref (C + 4), .ref (C + 23)] (bM C (cH C s3) G) sz (.returned (some (.int r5)), (bM C (cH C s7) G), sz, 0)) (c8 : ¬ r5 = 0) (t9 : gm_to N0 K ra_nm (ra_mt K) d 97 [.ref (C + 21), .ref (C + 23)] (bM C (cH C s7) G) sz (.returned none, (bM C (cH C s10) G), sz, 0)) : gm_ev N0 K ra_nm (ra_mt K) d (some .boolean) (gm_I cX3_advance) (gm_lkf (lkX3 false K)) 0 [some (.ref (C + 4)), some (.int p0), some (.int p1)] [] (bM C (cH C s) G) sz sl (.returned (some (.int (1 : Int32))), (bM C (cH C s10) G), sz, sl) := by
  refine gm_ev.aload_n i45_0 rfl ?_
  refine gm_ev.iload_n i45_1 rfl ?_
  refine gm_ev.iload_n i45_2 rfl ?_
  refine gm_ev.callV gm_mono_run (av := [.int p0, .int p1]) (r := []) (ci := 3) (fs := cF4 C s) (bM_get (j := 4) rfl) i45_3 rfl rfl rfl (Nat.le_of_ble_eq_true rfl) t2 ?_
  refine gm_ev.if_eq_f i45_6 c4 ?_
  refine gm_ev.aload_n i45_9 rfl ?_
  refine gm_ev.aload_n i45_10 rfl ?_
  refine gm_ev.getfield (v := .ref (C + 23)) i45_11 rfl (bM_fld (j := 4) (fs := cF4 C s3) rfl rfl) ?_
  refine gm_ev.callV gm_mono_run (av := [.ref (C + 23)]) (r := []) (ci := 3) (fs := cF4 C s3) (bM_get (j := 4) rfl) i45_14 rfl rfl rfl (Nat.le_of_ble_eq_true rfl) t6 ?_
  refine gm_ev.if_eq_f i45_17 c8 ?_
  refine gm_ev.aload_n i45_20 rfl ?_
  refine gm_ev.getfield (v := .ref (C + 21)) i45_21 rfl (bM_fld (j := 4) (fs := cF4 C s7) rfl rfl) ?_
  refine gm_ev.aload_n i45_24 rfl ?_
  refine gm_ev.getfield (v := .ref (C + 23)) i45_25 rfl (bM_fld (j := 4) (fs := cF4 C s7) rfl rfl) ?_
  refine gm_ev.callV gm_mono_run (av := [.ref (C + 23)]) (r := []) (ci := 9) (fs := cF21 C s7) (bM_get (j := 21) rfl) i45_28 rfl rfl rfl (Nat.le_of_ble_eq_true rfl) t9 ?_
  refine gm_ev.iconst (v := 1) i45_31 (by decide) ?_
  exact gm_ev.zret i45_32 rfl (by decide)
theorem t_X3_hasPlayer_0_t {N0 : Nat} {K : Nat → Nat} {d C : Nat} {s : cS} {G : gm_H} {sz sl : Nat} {p0 : Int32} (hN : N0 ≤ C) (c1 : p0 < 0) : gm_ev N0 K ra_nm (ra_mt K) d (some .boolean) (gm_I cX3_hasPlayer) (gm_lkf (lkX3 false K)) 0 [some (.ref (C + 4)), some (.int p0)] [] (bM C (cH C s) G) sz sl (.returned (some (.int (0 : Int32))), (bM C (cH C s) G), sz, sl) := by
  refine gm_ev.iload_n i46_0 rfl ?_
  refine gm_ev.if_lt_t (tgt := 23) i46_1 (by decide) c1 ?_
  refine gm_ev.iconst (v := 0) i46_23 (by decide) ?_
  exact gm_ev.zret i46_24 rfl (by decide)
theorem t_X3_hasPlayer_0_ft {N0 : Nat} {K : Nat → Nat} {d C : Nat} {s : cS} {G : gm_H} {sz sl : Nat} {p0 : Int32} (hN : N0 ≤ C) (c1 : ¬ p0 < 0) (hd : 0 < d) (c4 : (if s.1 341 < (2 : Int32) then s.1 341 else (2 : Int32)) ≤ p0) : gm_ev N0 K ra_nm (ra_mt K) d (some .boolean) (gm_I cX3_hasPlayer) (gm_lkf (lkX3 false K)) 0 [some (.ref (C + 4)), some (.int p0)] [] (bM C (cH C s) G) sz sl (.returned (some (.int (0 : Int32))), (bM C (cH C s) G), sz, sl) := by
  refine gm_ev.iload_n i46_0 rfl ?_
  refine gm_ev.if_lt_f i46_1 c1 ?_
  refine gm_ev.iload_n i46_4 rfl ?_
  refine gm_ev.iconst (v := 2) i46_5 (by decide) ?_
  refine gm_ev.aload_n i46_6 rfl ?_
  refine gm_ev.getfield (v := .ref (C + 17)) i46_7 rfl (bM_fld (j := 4) (fs := cF4 C s) rfl rfl) ?_
  refine gm_ev.getfield (v := .int (s.1 341)) i46_10 rfl (bM_fld (j := 17) (fs := cF17 C s) rfl rfl) ?_
  refine gm_ev.callS gm_mono_run (av := [.int (2 : Int32), .int (s.1 341)]) (r := [.int p0]) i46_13 rfl rfl rfl (Nat.le_of_ble_eq_true rfl) (gm_to_min hd) ?_
  refine gm_ev.icmp_ge_t (tgt := 23) i46_16 (by decide) c4 ?_
  refine gm_ev.iconst (v := 0) i46_23 (by decide) ?_
  exact gm_ev.zret i46_24 rfl (by decide)
theorem t_X3_hasPlayer_0_ff {N0 : Nat} {K : Nat → Nat} {d C : Nat} {s : cS} {G : gm_H} {sz sl : Nat} {p0 : Int32} (hN : N0 ≤ C) (c1 : ¬ p0 < 0) (hd : 0 < d) (c4 : ¬ (if s.1 341 < (2 : Int32) then s.1 341 else (2 : Int32)) ≤ p0) : gm_ev N0 K ra_nm (ra_mt K) d (some .boolean) (gm_I cX3_hasPlayer) (gm_lkf (lkX3 false K)) 0 [some (.ref (C + 4)), some (.int p0)] [] (bM C (cH C s) G) sz sl (.returned (some (.int (1 : Int32))), (bM C (cH C s) G), sz, sl) := by
  refine gm_ev.iload_n i46_0 rfl ?_
  refine gm_ev.if_lt_f i46_1 c1 ?_
  refine gm_ev.iload_n i46_4 rfl ?_
  refine gm_ev.iconst (v := 2) i46_5 (by decide) ?_
  refine gm_ev.aload_n i46_6 rfl ?_
  refine gm_ev.getfield (v := .ref (C + 17)) i46_7 rfl (bM_fld (j := 4) (fs := cF4 C s) rfl rfl) ?_
  refine gm_ev.getfield (v := .int (s.1 341)) i46_10 rfl (bM_fld (j := 17) (fs := cF17 C s) rfl rfl) ?_
  refine gm_ev.callS gm_mono_run (av := [.int (2 : Int32), .int (s.1 341)]) (r := [.int p0]) i46_13 rfl rfl rfl (Nat.le_of_ble_eq_true rfl) (gm_to_min hd) ?_
  refine gm_ev.icmp_ge_f i46_16 c4 ?_
  refine gm_ev.iconst (v := 1) i46_19 (by decide) ?_
  refine gm_ev.goto (tgt := 24) i46_20 (by decide) ?_
  exact gm_ev.zret i46_24 rfl (by decide)
theorem t_X3_movesOf_0_t {N0 : Nat} {K : Nat → Nat} {d C : Nat} {s : cS} {G : gm_H} {sz sl : Nat} {p0 : Int32} (hN : N0 ≤ C) (c1 : ¬ p0 = 0) : gm_ev N0 K ra_nm (ra_mt K) d (some (.object "RuleArena$Terms")) (gm_I cX3_movesOf) (gm_lkf (lkX3 false K)) 0 [some (.ref (C + 4)), some (.int p0)] [] (bM C (cH C s) G) sz sl (.returned (some (.ref (C + 27))), (bM C (cH C s) G), sz, sl) := by
  refine gm_ev.iload_n i47_0 rfl ?_
  refine gm_ev.if_ne_t (tgt := 11) i47_1 (by decide) c1 ?_
  refine gm_ev.aload_n i47_11 rfl ?_
  refine gm_ev.getfield (v := .ref (C + 27)) i47_12 rfl (bM_fld (j := 4) (fs := cF4 C s) rfl rfl) ?_
  exact gm_ev.aret i47_15 rfl
theorem t_X3_movesOf_0_f {N0 : Nat} {K : Nat → Nat} {d C : Nat} {s : cS} {G : gm_H} {sz sl : Nat} {p0 : Int32} (hN : N0 ≤ C) (c1 : p0 = 0) : gm_ev N0 K ra_nm (ra_mt K) d (some (.object "RuleArena$Terms")) (gm_I cX3_movesOf) (gm_lkf (lkX3 false K)) 0 [some (.ref (C + 4)), some (.int p0)] [] (bM C (cH C s) G) sz sl (.returned (some (.ref (C + 25))), (bM C (cH C s) G), sz, sl) := by
  refine gm_ev.iload_n i47_0 rfl ?_
  refine gm_ev.if_ne_f i47_1 c1 ?_
  refine gm_ev.aload_n i47_4 rfl ?_
  refine gm_ev.getfield (v := .ref (C + 25)) i47_5 rfl (bM_fld (j := 4) (fs := cF4 C s) rfl rfl) ?_
  refine gm_ev.goto (tgt := 15) i47_8 (by decide) ?_
  exact gm_ev.aret i47_15 rfl
theorem t_X3_goalOf_0__at19 {N0 : Nat} {K : Nat → Nat} {d C : Nat} {s : cS} {G : gm_H} {sz sl : Nat} {R : gm_R} {p0 : Int32} {k1 : Nat} (hN : N0 ≤ C) (ek1 : (6 : Int32) = nI k1) (lk1 : k1 < 112) (k : gm_ev N0 K ra_nm (ra_mt K) d (some .int) (gm_I cX3_goalOf) (gm_lkf (lkX3 false K)) 19 [some (.ref (C + 4)), some (.int p0), some (.ref (C + 6)), some (.int (0 : Int32)), some (.int (s.2.1 12 k1))] [] (bM C (cH C s) G) sz sl R) : gm_ev N0 K ra_nm (ra_mt K) d (some .int) (gm_I cX3_goalOf) (gm_lkf (lkX3 false K)) 0 [some (.ref (C + 4)), some (.int p0), none, none, none] [] (bM C (cH C s) G) sz sl R := by
  refine gm_ev.aload_n i48_0 rfl ?_
  refine gm_ev.getfield (v := .ref (C + 5)) i48_1 rfl (bM_fld (j := 4) (fs := cF4 C s) rfl rfl) ?_
  refine gm_ev.getfield (v := .ref (C + 6)) i48_4 rfl (bM_fld (j := 5) (fs := cF5 C s) rfl rfl) ?_
  refine gm_ev.astore_n (ls' := [some (.ref (C + 4)), some (.int p0), some (.ref (C + 6)), none, none]) i48_7 (Nat.le_of_ble_eq_true rfl) rfl ?_
  refine gm_ev.iconst (v := 0) i48_8 (by decide) ?_
  refine gm_ev.istore_n (ls' := [some (.ref (C + 4)), some (.int p0), some (.ref (C + 6)), some (.int (0 : Int32)), none]) i48_9 (Nat.le_of_ble_eq_true rfl) rfl ?_
  refine gm_ev.aload_n i48_10 rfl ?_
  refine gm_ev.getfield (v := .ref (C + 12)) i48_11 rfl (bM_fld (j := 6) (fs := cF6 C s) rfl rfl) ?_
  refine gm_ev.bipush (v := 6) i48_14 (by decide) ?_
  refine gm_ev.iaload i48_16 (bM_ai (j := 12) (n := 112) (f := s.2.1 12) rfl ek1 lk1 (by decide)) ?_
  refine gm_ev.istore (ls' := [some (.ref (C + 4)), some (.int p0), some (.ref (C + 6)), some (.int (0 : Int32)), some (.int (s.2.1 12 k1))]) i48_17 (Nat.le_of_ble_eq_true rfl) rfl ?_
  exact k
theorem t_X3_goalOf_19_tt {N0 : Nat} {K : Nat → Nat} {d C : Nat} {s : cS} {G : gm_H} {sz sl : Nat} {u1 : Int32} {u3 : Int32} {u4 : Int32} (hN : N0 ≤ C) (c1 : u4 ≤ 0) (c2 : ¬ (u3 &&& (2097151 : Int32)) = 0) : gm_ev N0 K ra_nm (ra_mt K) d (some .int) (gm_I cX3_goalOf) (gm_lkf (lkX3 false K)) 19 [some (.ref (C + 4)), some (.int u1), some (.ref (C + 6)), some (.int u3), some (.int u4)] [] (bM C (cH C s) G) sz sl (.returned (some (.int (-1 : Int32))), (bM C (cH C s) G), sz, sl) := by
  refine gm_ev.iload i48_19 rfl ?_
  refine gm_ev.if_le_t (tgt := 68) i48_21 (by decide) c1 ?_
  refine gm_ev.iload_n i48_68 rfl ?_
  refine gm_ev.bipush (v := 21) i48_69 (by decide) ?_
  refine gm_ev.iushr i48_71 ?_
  refine gm_ev.bipush (v := 48) i48_72 (by decide) ?_
  refine gm_ev.isub i48_74 ?_
  refine gm_ev.istore (ls' := [some (.ref (C + 4)), some (.int u1), some (.ref (C + 6)), some (.int u3), some (.int ((((u3).toUInt32 >>> (((21 : Int32)).toUInt32 &&& Int32.toUInt32 31)).toInt32) - (48 : Int32)))]) i48_75 (Nat.le_of_ble_eq_true rfl) rfl ?_
  refine gm_ev.iload_n i48_77 rfl ?_
  refine gm_ev.ldc i48_78 rfl ?_
  refine gm_ev.iand i48_80 ?_
  refine gm_ev.if_ne_t (tgt := 101) i48_81 (by decide) c2 ?_
  refine gm_ev.iconst (v := -1) i48_101 (by decide) ?_
  exact gm_ev.iret i48_102 rfl
theorem t_X3_goalOf_19_tft {N0 : Nat} {K : Nat → Nat} {d C : Nat} {s : cS} {G : gm_H} {sz sl : Nat} {u1 : Int32} {u3 : Int32} {u4 : Int32} (hN : N0 ≤ C) (c1 : u4 ≤ 0) (c2 : (u3 &&& (2097151 : Int32)) = 0) (c3 : ((((u3).toUInt32 >>> (((21 : Int32)).toUInt32 &&& Int32.toUInt32 31)).toInt32) - (48 : Int32)) < 0) : gm_ev N0 K ra_nm (ra_mt K) d (some .int) (gm_I cX3_goalOf) (gm_lkf (lkX3 false K)) 19 [some (.ref (C + 4)), some (.int u1), some (.ref (C + 6)), some (.int u3), some (.int u4)] [] (bM C (cH C s) G) sz sl (.returned (some (.int (-1 : Int32))), (bM C (cH C s) G), sz, sl) := by
  refine gm_ev.iload i48_19 rfl ?_
  refine gm_ev.if_le_t (tgt := 68) i48_21 (by decide) c1 ?_
  refine gm_ev.iload_n i48_68 rfl ?_
  refine gm_ev.bipush (v := 21) i48_69 (by decide) ?_
  refine gm_ev.iushr i48_71 ?_
  refine gm_ev.bipush (v := 48) i48_72 (by decide) ?_
  refine gm_ev.isub i48_74 ?_
  refine gm_ev.istore (ls' := [some (.ref (C + 4)), some (.int u1), some (.ref (C + 6)), some (.int u3), some (.int ((((u3).toUInt32 >>> (((21 : Int32)).toUInt32 &&& Int32.toUInt32 31)).toInt32) - (48 : Int32)))]) i48_75 (Nat.le_of_ble_eq_true rfl) rfl ?_
  refine gm_ev.iload_n i48_77 rfl ?_
  refine gm_ev.ldc i48_78 rfl ?_
  refine gm_ev.iand i48_80 ?_
  refine gm_ev.if_ne_f i48_81 c2 ?_
  refine gm_ev.iload i48_84 rfl ?_
  refine gm_ev.if_lt_t (tgt := 101) i48_86 (by decide) c3 ?_
  refine gm_ev.iconst (v := -1) i48_101 (by decide) ?_
  exact gm_ev.iret i48_102 rfl
theorem t_X3_goalOf_19_tfft {N0 : Nat} {K : Nat → Nat} {d C : Nat} {s : cS} {G : gm_H} {sz sl : Nat} {u1 : Int32} {u3 : Int32} {u4 : Int32} (hN : N0 ≤ C) (c1 : u4 ≤ 0) (c2 : (u3 &&& (2097151 : Int32)) = 0) (c3 : ¬ ((((u3).toUInt32 >>> (((21 : Int32)).toUInt32 &&& Int32.toUInt32 31)).toInt32) - (48 : Int32)) < 0) (c4 : (8 : Int32) < ((((u3).toUInt32 >>> (((21 : Int32)).toUInt32 &&& Int32.toUInt32 31)).toInt32) - (48 : Int32))) : gm_ev N0 K ra_nm (ra_mt K) d (some .int) (gm_I cX3_goalOf) (gm_lkf (lkX3 false K)) 19 [some (.ref (C + 4)), some (.int u1), some (.ref (C + 6)), some (.int u3), some (.int u4)] [] (bM C (cH C s) G) sz sl (.returned (some (.int (-1 : Int32))), (bM C (cH C s) G), sz, sl) := by
  refine gm_ev.iload i48_19 rfl ?_
  refine gm_ev.if_le_t (tgt := 68) i48_21 (by decide) c1 ?_
  refine gm_ev.iload_n i48_68 rfl ?_
  refine gm_ev.bipush (v := 21) i48_69 (by decide) ?_
  refine gm_ev.iushr i48_71 ?_
  refine gm_ev.bipush (v := 48) i48_72 (by decide) ?_
  refine gm_ev.isub i48_74 ?_
  refine gm_ev.istore (ls' := [some (.ref (C + 4)), some (.int u1), some (.ref (C + 6)), some (.int u3), some (.int ((((u3).toUInt32 >>> (((21 : Int32)).toUInt32 &&& Int32.toUInt32 31)).toInt32) - (48 : Int32)))]) i48_75 (Nat.le_of_ble_eq_true rfl) rfl ?_
  refine gm_ev.iload_n i48_77 rfl ?_
  refine gm_ev.ldc i48_78 rfl ?_
  refine gm_ev.iand i48_80 ?_
  refine gm_ev.if_ne_f i48_81 c2 ?_
  refine gm_ev.iload i48_84 rfl ?_
  refine gm_ev.if_lt_f i48_86 c3 ?_
  refine gm_ev.iload i48_89 rfl ?_
  refine gm_ev.bipush (v := 8) i48_91 (by decide) ?_
  refine gm_ev.icmp_gt_t (tgt := 101) i48_93 (by decide) c4 ?_
  refine gm_ev.iconst (v := -1) i48_101 (by decide) ?_
  exact gm_ev.iret i48_102 rfl
theorem t_X3_goalOf_19_tfff {N0 : Nat} {K : Nat → Nat} {d C : Nat} {s : cS} {G : gm_H} {sz sl : Nat} {u1 : Int32} {u3 : Int32} {u4 : Int32} (hN : N0 ≤ C) (c1 : u4 ≤ 0) (c2 : (u3 &&& (2097151 : Int32)) = 0) (c3 : ¬ ((((u3).toUInt32 >>> (((21 : Int32)).toUInt32 &&& Int32.toUInt32 31)).toInt32) - (48 : Int32)) < 0) (c4 : ¬ (8 : Int32) < ((((u3).toUInt32 >>> (((21 : Int32)).toUInt32 &&& Int32.toUInt32 31)).toInt32) - (48 : Int32))) : gm_ev N0 K ra_nm (ra_mt K) d (some .int) (gm_I cX3_goalOf) (gm_lkf (lkX3 false K)) 19 [some (.ref (C + 4)), some (.int u1), some (.ref (C + 6)), some (.int u3), some (.int u4)] [] (bM C (cH C s) G) sz sl (.returned (some (.int ((((u3).toUInt32 >>> (((21 : Int32)).toUInt32 &&& Int32.toUInt32 31)).toInt32) - (48 : Int32)))), (bM C (cH C s) G), sz, sl) := by
  refine gm_ev.iload i48_19 rfl ?_
  refine gm_ev.if_le_t (tgt := 68) i48_21 (by decide) c1 ?_
  refine gm_ev.iload_n i48_68 rfl ?_
  refine gm_ev.bipush (v := 21) i48_69 (by decide) ?_
  refine gm_ev.iushr i48_71 ?_
  refine gm_ev.bipush (v := 48) i48_72 (by decide) ?_
  refine gm_ev.isub i48_74 ?_
  refine gm_ev.istore (ls' := [some (.ref (C + 4)), some (.int u1), some (.ref (C + 6)), some (.int u3), some (.int ((((u3).toUInt32 >>> (((21 : Int32)).toUInt32 &&& Int32.toUInt32 31)).toInt32) - (48 : Int32)))]) i48_75 (Nat.le_of_ble_eq_true rfl) rfl ?_
  refine gm_ev.iload_n i48_77 rfl ?_
  refine gm_ev.ldc i48_78 rfl ?_
  refine gm_ev.iand i48_80 ?_
  refine gm_ev.if_ne_f i48_81 c2 ?_
  refine gm_ev.iload i48_84 rfl ?_
  refine gm_ev.if_lt_f i48_86 c3 ?_
  refine gm_ev.iload i48_89 rfl ?_
  refine gm_ev.bipush (v := 8) i48_91 (by decide) ?_
  refine gm_ev.icmp_gt_f i48_93 c4 ?_
  refine gm_ev.iload i48_96 rfl ?_
  refine gm_ev.goto (tgt := 102) i48_98 (by decide) ?_
  exact gm_ev.iret i48_102 rfl
theorem t_X3_goalOf_19_ft_at19 {N0 : Nat} {K : Nat → Nat} {d C : Nat} {s : cS} {G : gm_H} {sz sl : Nat} {R : gm_R} {u1 : Int32} {u3 : Int32} {u4 : Int32} {k2 : Nat} {r3 : Int32} {k6 : Nat} (hN : N0 ≤ C) (c1 : ¬ u4 ≤ 0) (ek2 : u4 = nI k2) (lk2 : k2 < 201) (t4 : gm_to N0 K ra_nm (ra_mt K) d 95 [.ref (C + 17), .int u1] (bM C (cH C s) G) sz (.returned (some (.int r3)), (bM C (cH C s) G), sz, 0)) (c5 : ¬ (s.2.1 8 k2) = r3) (ek6 : u4 = nI k6) (lk6 : k6 < 201) (k : gm_ev N0 K ra_nm (ra_mt K) d (some .int) (gm_I cX3_goalOf) (gm_lkf (lkX3 false K)) 19 [some (.ref (C + 4)), some (.int u1), some (.ref (C + 6)), some (.int u3), some (.int (s.2.1 11 k6))] [] (bM C (cH C s) G) sz sl R) : gm_ev N0 K ra_nm (ra_mt K) d (some .int) (gm_I cX3_goalOf) (gm_lkf (lkX3 false K)) 19 [some (.ref (C + 4)), some (.int u1), some (.ref (C + 6)), some (.int u3), some (.int u4)] [] (bM C (cH C s) G) sz sl R := by
  refine gm_ev.iload i48_19 rfl ?_
  refine gm_ev.if_le_f i48_21 c1 ?_
  refine gm_ev.aload_n i48_24 rfl ?_
  refine gm_ev.getfield (v := .ref (C + 8)) i48_25 rfl (bM_fld (j := 6) (fs := cF6 C s) rfl rfl) ?_
  refine gm_ev.iload i48_28 rfl ?_
  refine gm_ev.iaload i48_30 (bM_ai (j := 8) (n := 201) (f := s.2.1 8) rfl ek2 lk2 (by decide)) ?_
  refine gm_ev.aload_n i48_31 rfl ?_
  refine gm_ev.getfield (v := .ref (C + 17)) i48_32 rfl (bM_fld (j := 4) (fs := cF4 C s) rfl rfl) ?_
  refine gm_ev.iload_n i48_35 rfl ?_
  refine gm_ev.callV gm_mono_run (av := [.int u1]) (r := [.int (s.2.1 8 k2)]) (ci := 9) (fs := cF17 C s) (bM_get (j := 17) rfl) i48_36 rfl rfl rfl (Nat.le_of_ble_eq_true rfl) t4 ?_
  refine gm_ev.icmp_ne_t (tgt := 56) i48_39 (by decide) c5 ?_
  refine gm_ev.aload_n i48_56 rfl ?_
  refine gm_ev.getfield (v := .ref (C + 11)) i48_57 rfl (bM_fld (j := 6) (fs := cF6 C s) rfl rfl) ?_
  refine gm_ev.iload i48_60 rfl ?_
  refine gm_ev.iaload i48_62 (bM_ai (j := 11) (n := 201) (f := s.2.1 11) rfl ek6 lk6 (by decide)) ?_
  refine gm_ev.istore (ls' := [some (.ref (C + 4)), some (.int u1), some (.ref (C + 6)), some (.int u3), some (.int (s.2.1 11 k6))]) i48_63 (Nat.le_of_ble_eq_true rfl) rfl ?_
  refine gm_ev.goto (tgt := 19) i48_65 (by decide) ?_
  exact k
theorem t_X3_goalOf_19_fft_at19 {N0 : Nat} {K : Nat → Nat} {d C : Nat} {s : cS} {G : gm_H} {sz sl : Nat} {R : gm_R} {u1 : Int32} {u3 : Int32} {u4 : Int32} {k2 : Nat} {r3 : Int32} {k7 : Nat} {k8 : Nat} (hN : N0 ≤ C) (c1 : ¬ u4 ≤ 0) (ek2 : u4 = nI k2) (lk2 : k2 < 201) (t4 : gm_to N0 K ra_nm (ra_mt K) d 95 [.ref (C + 17), .int u1] (bM C (cH C s) G) sz (.returned (some (.int r3)), (bM C (cH C s) G), sz, 0)) (c5 : (s.2.1 8 k2) = r3) (c6 : u3 = 0) (ek7 : u4 = nI k7) (lk7 : k7 < 201) (ek8 : u4 = nI k8) (lk8 : k8 < 201) (k : gm_ev N0 K ra_nm (ra_mt K) d (some .int) (gm_I cX3_goalOf) (gm_lkf (lkX3 false K)) 19 [some (.ref (C + 4)), some (.int u1), some (.ref (C + 6)), some (.int (s.2.1 9 k7)), some (.int (s.2.1 11 k8))] [] (bM C (cH C s) G) sz sl R) : gm_ev N0 K ra_nm (ra_mt K) d (some .int) (gm_I cX3_goalOf) (gm_lkf (lkX3 false K)) 19 [some (.ref (C + 4)), some (.int u1), some (.ref (C + 6)), some (.int u3), some (.int u4)] [] (bM C (cH C s) G) sz sl R := by
  refine gm_ev.iload i48_19 rfl ?_
  refine gm_ev.if_le_f i48_21 c1 ?_
  refine gm_ev.aload_n i48_24 rfl ?_
  refine gm_ev.getfield (v := .ref (C + 8)) i48_25 rfl (bM_fld (j := 6) (fs := cF6 C s) rfl rfl) ?_
  refine gm_ev.iload i48_28 rfl ?_
  refine gm_ev.iaload i48_30 (bM_ai (j := 8) (n := 201) (f := s.2.1 8) rfl ek2 lk2 (by decide)) ?_
  refine gm_ev.aload_n i48_31 rfl ?_
  refine gm_ev.getfield (v := .ref (C + 17)) i48_32 rfl (bM_fld (j := 4) (fs := cF4 C s) rfl rfl) ?_
  refine gm_ev.iload_n i48_35 rfl ?_
  refine gm_ev.callV gm_mono_run (av := [.int u1]) (r := [.int (s.2.1 8 k2)]) (ci := 9) (fs := cF17 C s) (bM_get (j := 17) rfl) i48_36 rfl rfl rfl (Nat.le_of_ble_eq_true rfl) t4 ?_
  refine gm_ev.icmp_ne_f i48_39 c5 ?_
  refine gm_ev.iload_n i48_42 rfl ?_
  refine gm_ev.if_eq_t (tgt := 48) i48_43 (by decide) c6 ?_
  refine gm_ev.aload_n i48_48 rfl ?_
  refine gm_ev.getfield (v := .ref (C + 9)) i48_49 rfl (bM_fld (j := 6) (fs := cF6 C s) rfl rfl) ?_
  refine gm_ev.iload i48_52 rfl ?_
  refine gm_ev.iaload i48_54 (bM_ai (j := 9) (n := 201) (f := s.2.1 9) rfl ek7 lk7 (by decide)) ?_
  refine gm_ev.istore_n (ls' := [some (.ref (C + 4)), some (.int u1), some (.ref (C + 6)), some (.int (s.2.1 9 k7)), some (.int u4)]) i48_55 (Nat.le_of_ble_eq_true rfl) rfl ?_
  refine gm_ev.aload_n i48_56 rfl ?_
  refine gm_ev.getfield (v := .ref (C + 11)) i48_57 rfl (bM_fld (j := 6) (fs := cF6 C s) rfl rfl) ?_
  refine gm_ev.iload i48_60 rfl ?_
  refine gm_ev.iaload i48_62 (bM_ai (j := 11) (n := 201) (f := s.2.1 11) rfl ek8 lk8 (by decide)) ?_
  refine gm_ev.istore (ls' := [some (.ref (C + 4)), some (.int u1), some (.ref (C + 6)), some (.int (s.2.1 9 k7)), some (.int (s.2.1 11 k8))]) i48_63 (Nat.le_of_ble_eq_true rfl) rfl ?_
  refine gm_ev.goto (tgt := 19) i48_65 (by decide) ?_
  exact k
theorem t_X3_goalOf_19_fff {N0 : Nat} {K : Nat → Nat} {d C : Nat} {s : cS} {G : gm_H} {sz sl : Nat} {u1 : Int32} {u3 : Int32} {u4 : Int32} {k2 : Nat} {r3 : Int32} (hN : N0 ≤ C) (c1 : ¬ u4 ≤ 0) (ek2 : u4 = nI k2) (lk2 : k2 < 201) (t4 : gm_to N0 K ra_nm (ra_mt K) d 95 [.ref (C + 17), .int u1] (bM C (cH C s) G) sz (.returned (some (.int r3)), (bM C (cH C s) G), sz, 0)) (c5 : (s.2.1 8 k2) = r3) (c6 : ¬ u3 = 0) : gm_ev N0 K ra_nm (ra_mt K) d (some .int) (gm_I cX3_goalOf) (gm_lkf (lkX3 false K)) 19 [some (.ref (C + 4)), some (.int u1), some (.ref (C + 6)), some (.int u3), some (.int u4)] [] (bM C (cH C s) G) sz sl (.returned (some (.int (-1 : Int32))), (bM C (cH C s) G), sz, sl) := by
  refine gm_ev.iload i48_19 rfl ?_
  refine gm_ev.if_le_f i48_21 c1 ?_
  refine gm_ev.aload_n i48_24 rfl ?_
  refine gm_ev.getfield (v := .ref (C + 8)) i48_25 rfl (bM_fld (j := 6) (fs := cF6 C s) rfl rfl) ?_
  refine gm_ev.iload i48_28 rfl ?_
  refine gm_ev.iaload i48_30 (bM_ai (j := 8) (n := 201) (f := s.2.1 8) rfl ek2 lk2 (by decide)) ?_
  refine gm_ev.aload_n i48_31 rfl ?_
  refine gm_ev.getfield (v := .ref (C + 17)) i48_32 rfl (bM_fld (j := 4) (fs := cF4 C s) rfl rfl) ?_
  refine gm_ev.iload_n i48_35 rfl ?_
  refine gm_ev.callV gm_mono_run (av := [.int u1]) (r := [.int (s.2.1 8 k2)]) (ci := 9) (fs := cF17 C s) (bM_get (j := 17) rfl) i48_36 rfl rfl rfl (Nat.le_of_ble_eq_true rfl) t4 ?_
  refine gm_ev.icmp_ne_f i48_39 c5 ?_
  refine gm_ev.iload_n i48_42 rfl ?_
  refine gm_ev.if_eq_f i48_43 c6 ?_
  refine gm_ev.iconst (v := -1) i48_46 (by decide) ?_
  exact gm_ev.iret i48_47 rfl
theorem t_X6_place_0_ {N0 : Nat} {K : Nat → Nat} {d C : Nat} {s : cS} {G : gm_H} {sz sl : Nat}  (hN : N0 ≤ C)  : gm_ev N0 K ra_nm (ra_mt K) d (some .int) (gm_I cX6_place) (gm_lkf (lkX6 false K)) 0 [some (.ref (C + 2))] [] (bM C (cH C s) G) sz sl (.returned (some (.int (s.1 41))), (bM C (cH C s) G), sz, sl) := by
  refine gm_ev.aload_n i61_0 rfl ?_
  refine gm_ev.getfield (v := .int (s.1 41)) i61_1 rfl (bM_fld (j := 2) (fs := cF2 C s) rfl rfl) ?_
  exact gm_ev.iret i61_4 rfl
theorem t_X6_read_0__at28 {N0 : Nat} {K : Nat → Nat} {d C : Nat} {s : cS} {G : gm_H} {sz sl : Nat} {R : gm_R} {p1 : Int32} {k1 : Nat} {G6 : gm_H} {sz7 : Nat} {dd8 : Nat} (hN : N0 ≤ C) (ek1 : p1 = nI k1) (lk1 : k1 < 241) (hg_sz : C + 34 ≤ sz) (bd2 : gm_bd G sz) (t5 : gm_to N0 K ra_nm (ra_mt K) d 80 [.ref sz] (bM C (cH C (cI (cA (cR s 40 (some (C + 1))) 1 (upd (s.2.1 1) k1 (vp_nar .char (0 : Int32)))) 41 (0 : Int32))) (gm_new G sz (.inr (8, [.null, .int 0, .null, .null, .null])))) (sz + 1) (.returned none, (bM C (cH C (cI (cA (cR s 40 (some (C + 1))) 1 (upd (s.2.1 1) k1 (vp_nar .char (0 : Int32)))) 41 (0 : Int32))) G6), sz7, dd8)) (k : gm_ev N0 K ra_nm (ra_mt K) d (some (.object "RuleArena$Rules")) (gm_I cX6_read) (gm_lkf (lkX6 false K)) 28 [some (.ref (C + 2)), none, some (.int p1), some (.ref sz), some (.int (0 : Int32)), none] [] (bM C (cH C (cI (cA (cR s 40 (some (C + 1))) 1 (upd (s.2.1 1) k1 (vp_nar .char (0 : Int32)))) 41 (0 : Int32))) G6) sz7 ((sl + 5) + dd8) R) : gm_ev N0 K ra_nm (ra_mt K) d (some (.object "RuleArena$Rules")) (gm_I cX6_read) (gm_lkf (lkX6 false K)) 0 [some (.ref (C + 2)), some (.ref (C + 1)), some (.int p1), none, none, none] [] (bM C (cH C s) G) sz sl R := by
  refine gm_ev.aload_n i62_0 rfl ?_
  refine gm_ev.aload_n i62_1 rfl ?_
  refine gm_ev.putfield (M' := (bM C (cH C (cR s 40 (some (C + 1)))) G)) i62_2 rfl (bM_put (j := 2) (fs := cF2 C s) rfl (Nat.le_of_ble_eq_true rfl) hN (gm_fit_a _ _) rfl) ?_
  refine gm_ev.aload_n i62_5 rfl ?_
  refine gm_ev.getfield (v := .ref (C + 1)) i62_6 rfl (bM_fld (j := 2) (fs := cF2 C (cR s 40 (some (C + 1)))) rfl rfl) ?_
  refine gm_ev.iload_n i62_9 rfl ?_
  refine gm_ev.iconst (v := 0) i62_10 (by decide) ?_
  refine gm_ev.castore (M' := (bM C (cH C (cA (cR s 40 (some (C + 1))) 1 (upd (s.2.1 1) k1 (vp_nar .char (0 : Int32))))) G)) i62_11 (bM_astn (j := 1) (n := 241) (f := s.2.1 1) rfl ek1 lk1 (by decide) hN rfl) ?_
  refine gm_ev.aload_n i62_12 rfl ?_
  refine gm_ev.iconst (v := 0) i62_13 (by decide) ?_
  refine gm_ev.putfield (M' := (bM C (cH C (cI (cA (cR s 40 (some (C + 1))) 1 (upd (s.2.1 1) k1 (vp_nar .char (0 : Int32)))) 41 (0 : Int32))) G)) i62_14 rfl (bM_put (j := 2) (fs := cF2 C (cA (cR s 40 (some (C + 1))) 1 (upd (s.2.1 1) k1 (vp_nar .char (0 : Int32))))) rfl (Nat.le_of_ble_eq_true rfl) hN (gm_fit_i _) rfl) ?_
  refine gm_ev.new i62_17 rfl ?_
  rw [cG_new hg_sz]
  have w3 : (gm_new G sz (.inr (8, [.null, .int 0, .null, .null, .null]))) sz = some (.inr (8, [.null, .int 0, .null, .null, .null])) := gm_set_eq
  have bd4 : gm_bd (gm_new G sz (.inr (8, [.null, .int 0, .null, .null, .null]))) (sz + 1) := gm_bd.new bd2
  refine gm_ev.dup i62_20 rfl ?_
  refine gm_ev.callI gm_mono_run (av := []) (r := [.ref sz]) i62_21 rfl rfl rfl (Nat.le_of_ble_eq_true rfl) t5 ?_
  refine gm_ev.astore_n (ls' := [some (.ref (C + 2)), some (.ref (C + 1)), some (.int p1), some (.ref sz), none, none]) i62_24 (Nat.le_of_ble_eq_true rfl) rfl ?_
  refine gm_ev.iconst (v := 0) i62_25 (by decide) ?_
  refine gm_ev.istore (ls' := [some (.ref (C + 2)), some (.ref (C + 1)), some (.int p1), some (.ref sz), some (.int (0 : Int32)), none]) i62_26 (Nat.le_of_ble_eq_true rfl) rfl ?_
  refine gm_ev.le (a := [some (.ref (C + 2)), none, some (.int p1), some (.ref sz), some (.int (0 : Int32)), none]) (gm_leL.le (show gm_leL _ _ from ⟨rfl, ⟨rfl, ⟨rfl, ⟨rfl, trivial⟩⟩⟩⟩)) ?_
  exact k
theorem t_X6_read_28_t {N0 : Nat} {K : Nat → Nat} {d C : Nat} {s : cS} {G : gm_H} {sz sl : Nat} {u2 : Int32} {a3 : Nat} {u4 : Int32} (hN : N0 ≤ C) (c1 : (24 : Int32) ≤ u4) : gm_ev N0 K ra_nm (ra_mt K) d (some (.object "RuleArena$Rules")) (gm_I cX6_read) (gm_lkf (lkX6 false K)) 28 [some (.ref (C + 2)), none, some (.int u2), some (.ref a3), some (.int u4), none] [] (bM C (cH C s) G) sz sl (.returned (some (.null)), (bM C (cH C s) G), sz, sl) := by
  refine gm_ev.iload i62_28 rfl ?_
  refine gm_ev.bipush (v := 24) i62_30 (by decide) ?_
  refine gm_ev.icmp_ge_t (tgt := 70) i62_32 (by decide) c1 ?_
  refine gm_ev.null i62_70 ?_
  exact gm_ev.aretN i62_71 rfl
theorem t_X6_read_28_fn {N0 : Nat} {K : Nat → Nat} {d C : Nat} {s : cS} {G : gm_H} {sz sl : Nat} {u2 : Int32} {a3 : Nat} {u4 : Int32} {s3 : cS} {G4 : gm_H} {sz5 : Nat} {dd6 : Nat} (hN : N0 ≤ C) (c1 : ¬ (24 : Int32) ≤ u4) (t2 : gm_to N0 K ra_nm (ra_mt K) d 64 [.ref (C + 2)] (bM C (cH C s) G) sz (.returned (some .null), (bM C (cH C s3) G4), sz5, dd6)) : gm_ev N0 K ra_nm (ra_mt K) d (some (.object "RuleArena$Rules")) (gm_I cX6_read) (gm_lkf (lkX6 false K)) 28 [some (.ref (C + 2)), none, some (.int u2), some (.ref a3), some (.int u4), none] [] (bM C (cH C s) G) sz sl (.returned (some (.null)), (bM C (cH C s3) G4), sz5, (sl + dd6)) := by
  refine gm_ev.iload i62_28 rfl ?_
  refine gm_ev.bipush (v := 24) i62_30 (by decide) ?_
  refine gm_ev.icmp_ge_f i62_32 c1 ?_
  refine gm_ev.aload_n i62_35 rfl ?_
  refine gm_ev.callV gm_mono_run (av := []) (r := []) (ci := 6) (fs := cF2 C s) (bM_get (j := 2) rfl) i62_36 rfl rfl rfl (Nat.le_of_ble_eq_true rfl) t2 ?_
  refine gm_ev.astoreN (ls' := [some (.ref (C + 2)), none, some (.int u2), some (.ref a3), some (.int u4), some (.null)]) i62_39 (Nat.le_of_ble_eq_true rfl) rfl ?_
  refine gm_ev.aloadN i62_41 rfl ?_
  refine gm_ev.ifnonnull_f i62_43 ?_
  refine gm_ev.null i62_46 ?_
  exact gm_ev.aretN i62_47 rfl
theorem t_X6_read_28_frt_at28 {N0 : Nat} {K : Nat → Nat} {d C : Nat} {s : cS} {G : gm_H} {sz sl : Nat} {R : gm_R} {u2 : Int32} {a3 : Nat} {u4 : Int32} {r2 : Nat} {s4 : cS} {G5 : gm_H} {sz6 : Nat} {dd7 : Nat} {fso8 : List Value} {G10 : gm_H} (hN : N0 ≤ C) (c1 : ¬ (24 : Int32) ≤ u4) (t3 : gm_to N0 K ra_nm (ra_mt K) d 64 [.ref (C + 2)] (bM C (cH C s) G) sz (.returned (some (.ref r2)), (bM C (cH C s4) G5), sz6, dd7)) (ho8 : G5 a3 = some (.inr (8, fso8))) (hg_a3 : C + 34 ≤ a3) (t9 : gm_to N0 K ra_nm (ra_mt K) d 81 [.ref a3, .ref r2] (bM C (cH C s4) G5) sz6 (.returned none, (bM C (cH C s4) G10), sz6, 0)) (c11 : ¬ (s4.1 41) = u2) (k : gm_ev N0 K ra_nm (ra_mt K) d (some (.object "RuleArena$Rules")) (gm_I cX6_read) (gm_lkf (lkX6 false K)) 28 [some (.ref (C + 2)), none, some (.int u2), some (.ref a3), some (.int (u4 + (1 : Int32))), none] [] (bM C (cH C s4) G10) sz6 (sl + dd7) R) : gm_ev N0 K ra_nm (ra_mt K) d (some (.object "RuleArena$Rules")) (gm_I cX6_read) (gm_lkf (lkX6 false K)) 28 [some (.ref (C + 2)), none, some (.int u2), some (.ref a3), some (.int u4), none] [] (bM C (cH C s) G) sz sl R := by
  refine gm_ev.iload i62_28 rfl ?_
  refine gm_ev.bipush (v := 24) i62_30 (by decide) ?_
  refine gm_ev.icmp_ge_f i62_32 c1 ?_
  refine gm_ev.aload_n i62_35 rfl ?_
  refine gm_ev.callV gm_mono_run (av := []) (r := []) (ci := 6) (fs := cF2 C s) (bM_get (j := 2) rfl) i62_36 rfl rfl rfl (Nat.le_of_ble_eq_true rfl) t3 ?_
  refine gm_ev.astore (ls' := [some (.ref (C + 2)), none, some (.int u2), some (.ref a3), some (.int u4), some (.ref r2)]) i62_39 (Nat.le_of_ble_eq_true rfl) rfl ?_
  refine gm_ev.aload i62_41 rfl ?_
  refine gm_ev.ifnonnull_t (tgt := 48) i62_43 (by decide) ?_
  refine gm_ev.aload_n i62_48 rfl ?_
  refine gm_ev.aload i62_49 rfl ?_
  refine gm_ev.callV gm_mono_run (av := [.ref r2]) (r := []) (fs := fso8) (cG_get hg_a3 ho8) i62_51 rfl rfl rfl (Nat.le_of_ble_eq_true rfl) t9 ?_
  refine gm_ev.aload_n i62_54 rfl ?_
  refine gm_ev.getfield (v := .int (s4.1 41)) i62_55 rfl (bM_fld (j := 2) (fs := cF2 C s4) rfl rfl) ?_
  refine gm_ev.iload_n i62_58 rfl ?_
  refine gm_ev.icmp_ne_t (tgt := 64) i62_59 (by decide) c11 ?_
  refine gm_ev.iinc (v := u4 + (1 : Int32)) (ls' := [some (.ref (C + 2)), none, some (.int u2), some (.ref a3), some (.int (u4 + (1 : Int32))), some (.ref r2)]) i62_64 rfl (by rfl) rfl ?_
  refine gm_ev.goto (tgt := 28) i62_67 (by decide) ?_
  refine gm_ev.le (a := [some (.ref (C + 2)), none, some (.int u2), some (.ref a3), some (.int (u4 + (1 : Int32))), none]) (gm_leL.le (show gm_leL _ _ from ⟨rfl, ⟨rfl, ⟨rfl, ⟨rfl, trivial⟩⟩⟩⟩)) ?_
  exact k
theorem t_X6_read_28_frf {N0 : Nat} {K : Nat → Nat} {d C : Nat} {s : cS} {G : gm_H} {sz sl : Nat} {u2 : Int32} {a3 : Nat} {u4 : Int32} {r2 : Nat} {s4 : cS} {G5 : gm_H} {sz6 : Nat} {dd7 : Nat} {fso8 : List Value} {G10 : gm_H} (hN : N0 ≤ C) (c1 : ¬ (24 : Int32) ≤ u4) (t3 : gm_to N0 K ra_nm (ra_mt K) d 64 [.ref (C + 2)] (bM C (cH C s) G) sz (.returned (some (.ref r2)), (bM C (cH C s4) G5), sz6, dd7)) (ho8 : G5 a3 = some (.inr (8, fso8))) (hg_a3 : C + 34 ≤ a3) (t9 : gm_to N0 K ra_nm (ra_mt K) d 81 [.ref a3, .ref r2] (bM C (cH C s4) G5) sz6 (.returned none, (bM C (cH C s4) G10), sz6, 0)) (c11 : (s4.1 41) = u2) : gm_ev N0 K ra_nm (ra_mt K) d (some (.object "RuleArena$Rules")) (gm_I cX6_read) (gm_lkf (lkX6 false K)) 28 [some (.ref (C + 2)), none, some (.int u2), some (.ref a3), some (.int u4), none] [] (bM C (cH C s) G) sz sl (.returned (some (.ref a3)), (bM C (cH C s4) G10), sz6, (sl + dd7)) := by
  refine gm_ev.iload i62_28 rfl ?_
  refine gm_ev.bipush (v := 24) i62_30 (by decide) ?_
  refine gm_ev.icmp_ge_f i62_32 c1 ?_
  refine gm_ev.aload_n i62_35 rfl ?_
  refine gm_ev.callV gm_mono_run (av := []) (r := []) (ci := 6) (fs := cF2 C s) (bM_get (j := 2) rfl) i62_36 rfl rfl rfl (Nat.le_of_ble_eq_true rfl) t3 ?_
  refine gm_ev.astore (ls' := [some (.ref (C + 2)), none, some (.int u2), some (.ref a3), some (.int u4), some (.ref r2)]) i62_39 (Nat.le_of_ble_eq_true rfl) rfl ?_
  refine gm_ev.aload i62_41 rfl ?_
  refine gm_ev.ifnonnull_t (tgt := 48) i62_43 (by decide) ?_
  refine gm_ev.aload_n i62_48 rfl ?_
  refine gm_ev.aload i62_49 rfl ?_
  refine gm_ev.callV gm_mono_run (av := [.ref r2]) (r := []) (fs := fso8) (cG_get hg_a3 ho8) i62_51 rfl rfl rfl (Nat.le_of_ble_eq_true rfl) t9 ?_
  refine gm_ev.aload_n i62_54 rfl ?_
  refine gm_ev.getfield (v := .int (s4.1 41)) i62_55 rfl (bM_fld (j := 2) (fs := cF2 C s4) rfl rfl) ?_
  refine gm_ev.iload_n i62_58 rfl ?_
  refine gm_ev.icmp_ne_f i62_59 c11 ?_
  refine gm_ev.aload_n i62_62 rfl ?_
  exact gm_ev.aret i62_63 rfl
theorem t_X6_take_0_t {N0 : Nat} {K : Nat → Nat} {d C : Nat} {s : cS} {G : gm_H} {sz sl : Nat} {p0 : Int32} {k2 : Nat} (hN : N0 ≤ C) (h1 : s.2.2 40 = some (C + 1)) (ek2 : (s.1 41) = nI k2) (lk2 : k2 < 241) (c3 : (s.2.1 1 k2) = p0) : gm_ev N0 K ra_nm (ra_mt K) d (some .boolean) (gm_I cX6_take) (gm_lkf (lkX6 false K)) 0 [some (.ref (C + 2)), some (.int p0)] [] (bM C (cH C s) G) sz sl (.returned (some (.int (1 : Int32))), (bM C (cH C (cI s 41 ((s.1 41) + (1 : Int32)))) G), sz, sl) := by
  refine gm_ev.aload_n i63_0 rfl ?_
  refine gm_ev.getfield (v := .ref (C + 1)) i63_1 rfl (bM_fld (j := 2) (fs := cF2 C s) rfl (cv_some h1)) ?_
  refine gm_ev.aload_n i63_4 rfl ?_
  refine gm_ev.getfield (v := .int (s.1 41)) i63_5 rfl (bM_fld (j := 2) (fs := cF2 C s) rfl rfl) ?_
  refine gm_ev.caload i63_8 (bM_ai (j := 1) (n := 241) (f := s.2.1 1) rfl ek2 lk2 (by decide)) ?_
  refine gm_ev.iload_n i63_9 rfl ?_
  refine gm_ev.icmp_eq_t (tgt := 15) i63_10 (by decide) c3 ?_
  refine gm_ev.aload_n i63_15 rfl ?_
  refine gm_ev.dup i63_16 rfl ?_
  refine gm_ev.getfield (v := .int (s.1 41)) i63_17 rfl (bM_fld (j := 2) (fs := cF2 C s) rfl rfl) ?_
  refine gm_ev.iconst (v := 1) i63_20 (by decide) ?_
  refine gm_ev.iadd i63_21 ?_
  refine gm_ev.putfield (M' := (bM C (cH C (cI s 41 ((s.1 41) + (1 : Int32)))) G)) i63_22 rfl (bM_put (j := 2) (fs := cF2 C s) rfl (Nat.le_of_ble_eq_true rfl) hN (gm_fit_i _) rfl) ?_
  refine gm_ev.iconst (v := 1) i63_25 (by decide) ?_
  exact gm_ev.zret i63_26 rfl (by decide)
theorem t_X6_take_0_f {N0 : Nat} {K : Nat → Nat} {d C : Nat} {s : cS} {G : gm_H} {sz sl : Nat} {p0 : Int32} {k2 : Nat} (hN : N0 ≤ C) (h1 : s.2.2 40 = some (C + 1)) (ek2 : (s.1 41) = nI k2) (lk2 : k2 < 241) (c3 : ¬ (s.2.1 1 k2) = p0) : gm_ev N0 K ra_nm (ra_mt K) d (some .boolean) (gm_I cX6_take) (gm_lkf (lkX6 false K)) 0 [some (.ref (C + 2)), some (.int p0)] [] (bM C (cH C s) G) sz sl (.returned (some (.int (0 : Int32))), (bM C (cH C s) G), sz, sl) := by
  refine gm_ev.aload_n i63_0 rfl ?_
  refine gm_ev.getfield (v := .ref (C + 1)) i63_1 rfl (bM_fld (j := 2) (fs := cF2 C s) rfl (cv_some h1)) ?_
  refine gm_ev.aload_n i63_4 rfl ?_
  refine gm_ev.getfield (v := .int (s.1 41)) i63_5 rfl (bM_fld (j := 2) (fs := cF2 C s) rfl rfl) ?_
  refine gm_ev.caload i63_8 (bM_ai (j := 1) (n := 241) (f := s.2.1 1) rfl ek2 lk2 (by decide)) ?_
  refine gm_ev.iload_n i63_9 rfl ?_
  refine gm_ev.icmp_eq_f i63_10 c3 ?_
  refine gm_ev.iconst (v := 0) i63_13 (by decide) ?_
  exact gm_ev.zret i63_14 rfl (by decide)
theorem t_X6_readRule_0_n {N0 : Nat} {K : Nat → Nat} {d C : Nat} {s : cS} {G : gm_H} {sz sl : Nat} {s2 : cS} {G3 : gm_H} {sz4 : Nat} {dd5 : Nat} (hN : N0 ≤ C) (t1 : gm_to N0 K ra_nm (ra_mt K) d 68 [.ref (C + 2), .int (0 : Int32)] (bM C (cH C s) G) sz (.returned (some .null), (bM C (cH C s2) G3), sz4, dd5)) : gm_ev N0 K ra_nm (ra_mt K) d (some (.object "RuleArena$Rule")) (gm_I cX6_readRule) (gm_lkf (lkX6 false K)) 0 [some (.ref (C + 2)), none, none] [] (bM C (cH C s) G) sz sl (.returned (some (.null)), (bM C (cH C s2) G3), sz4, (sl + dd5)) := by
  refine gm_ev.aload_n i64_0 rfl ?_
  refine gm_ev.iconst (v := 0) i64_1 (by decide) ?_
  refine gm_ev.callV gm_mono_run (av := [.int (0 : Int32)]) (r := []) (ci := 6) (fs := cF2 C s) (bM_get (j := 2) rfl) i64_2 rfl rfl rfl (Nat.le_of_ble_eq_true rfl) t1 ?_
  refine gm_ev.astoreN_n (ls' := [some (.ref (C + 2)), some (.null), none]) i64_5 (Nat.le_of_ble_eq_true rfl) rfl ?_
  refine gm_ev.aloadN_n i64_6 rfl ?_
  refine gm_ev.ifnonnull_f i64_7 ?_
  refine gm_ev.null i64_10 ?_
  exact gm_ev.aretN i64_11 rfl
theorem t_X6_readRule_0_rtt {N0 : Nat} {K : Nat → Nat} {d C : Nat} {s : cS} {G : gm_H} {sz sl : Nat} {r1 : Nat} {s3 : cS} {G4 : gm_H} {sz5 : Nat} {dd6 : Nat} {G11 : gm_H} {sz12 : Nat} {dd13 : Nat} {r14 : Int32} {s16 : cS} {r18 : Int32} {s20 : cS} (hN : N0 ≤ C) (t2 : gm_to N0 K ra_nm (ra_mt K) d 68 [.ref (C + 2), .int (0 : Int32)] (bM C (cH C s) G) sz (.returned (some (.ref r1)), (bM C (cH C s3) G4), sz5, dd6)) (hg_sz5 : C + 34 ≤ sz5) (bd7 : gm_bd G4 sz5) (t10 : gm_to N0 K ra_nm (ra_mt K) d 70 [.ref sz5, .ref r1] (bM C (cH C s3) (gm_new G4 sz5 (.inr (7, [.null, .null, .int 0, .int 0])))) (sz5 + 1) (.returned none, (bM C (cH C s3) G11), sz12, dd13)) (t15 : gm_to N0 K ra_nm (ra_mt K) d 63 [.ref (C + 2), .int (58 : Int32)] (bM C (cH C s3) G11) sz12 (.returned (some (.int r14)), (bM C (cH C s16) G11), sz12, 0)) (c17 : r14 = 0) (t19 : gm_to N0 K ra_nm (ra_mt K) d 63 [.ref (C + 2), .int (46 : Int32)] (bM C (cH C s16) G11) sz12 (.returned (some (.int r18)), (bM C (cH C s20) G11), sz12, 0)) (c21 : r18 = 0) : gm_ev N0 K ra_nm (ra_mt K) d (some (.object "RuleArena$Rule")) (gm_I cX6_readRule) (gm_lkf (lkX6 false K)) 0 [some (.ref (C + 2)), none, none] [] (bM C (cH C s) G) sz sl (.returned (some (.null)), (bM C (cH C s20) G11), sz12, (((sl + dd6) + 4) + dd13)) := by
  refine gm_ev.aload_n i64_0 rfl ?_
  refine gm_ev.iconst (v := 0) i64_1 (by decide) ?_
  refine gm_ev.callV gm_mono_run (av := [.int (0 : Int32)]) (r := []) (ci := 6) (fs := cF2 C s) (bM_get (j := 2) rfl) i64_2 rfl rfl rfl (Nat.le_of_ble_eq_true rfl) t2 ?_
  refine gm_ev.astore_n (ls' := [some (.ref (C + 2)), some (.ref r1), none]) i64_5 (Nat.le_of_ble_eq_true rfl) rfl ?_
  refine gm_ev.aload_n i64_6 rfl ?_
  refine gm_ev.ifnonnull_t (tgt := 12) i64_7 (by decide) ?_
  refine gm_ev.new i64_12 rfl ?_
  rw [cG_new hg_sz5]
  have w8 : (gm_new G4 sz5 (.inr (7, [.null, .null, .int 0, .int 0]))) sz5 = some (.inr (7, [.null, .null, .int 0, .int 0])) := gm_set_eq
  have bd9 : gm_bd (gm_new G4 sz5 (.inr (7, [.null, .null, .int 0, .int 0]))) (sz5 + 1) := gm_bd.new bd7
  refine gm_ev.dup i64_15 rfl ?_
  refine gm_ev.aload_n i64_16 rfl ?_
  refine gm_ev.callI gm_mono_run (av := [.ref r1]) (r := [.ref sz5]) i64_17 rfl rfl rfl (Nat.le_of_ble_eq_true rfl) t10 ?_
  refine gm_ev.astore_n (ls' := [some (.ref (C + 2)), some (.ref r1), some (.ref sz5)]) i64_20 (Nat.le_of_ble_eq_true rfl) rfl ?_
  refine gm_ev.aload_n i64_21 rfl ?_
  refine gm_ev.bipush (v := 58) i64_22 (by decide) ?_
  refine gm_ev.callV gm_mono_run (av := [.int (58 : Int32)]) (r := []) (ci := 6) (fs := cF2 C s3) (bM_get (j := 2) rfl) i64_24 rfl rfl rfl (Nat.le_of_ble_eq_true rfl) t15 ?_
  refine gm_ev.if_eq_t (tgt := 40) i64_27 (by decide) c17 ?_
  refine gm_ev.aload_n i64_40 rfl ?_
  refine gm_ev.bipush (v := 46) i64_41 (by decide) ?_
  refine gm_ev.callV gm_mono_run (av := [.int (46 : Int32)]) (r := []) (ci := 6) (fs := cF2 C s16) (bM_get (j := 2) rfl) i64_43 rfl rfl rfl (Nat.le_of_ble_eq_true rfl) t19 ?_
  refine gm_ev.if_eq_t (tgt := 53) i64_46 (by decide) c21 ?_
  refine gm_ev.null i64_53 ?_
  exact gm_ev.aretN i64_54 rfl
theorem t_X6_readRule_0_rtf {N0 : Nat} {K : Nat → Nat} {d C : Nat} {s : cS} {G : gm_H} {sz sl : Nat} {r1 : Nat} {s3 : cS} {G4 : gm_H} {sz5 : Nat} {dd6 : Nat} {G11 : gm_H} {sz12 : Nat} {dd13 : Nat} {r14 : Int32} {s16 : cS} {r18 : Int32} {s20 : cS} (hN : N0 ≤ C) (t2 : gm_to N0 K ra_nm (ra_mt K) d 68 [.ref (C + 2), .int (0 : Int32)] (bM C (cH C s) G) sz (.returned (some (.ref r1)), (bM C (cH C s3) G4), sz5, dd6)) (hg_sz5 : C + 34 ≤ sz5) (bd7 : gm_bd G4 sz5) (t10 : gm_to N0 K ra_nm (ra_mt K) d 70 [.ref sz5, .ref r1] (bM C (cH C s3) (gm_new G4 sz5 (.inr (7, [.null, .null, .int 0, .int 0])))) (sz5 + 1) (.returned none, (bM C (cH C s3) G11), sz12, dd13)) (t15 : gm_to N0 K ra_nm (ra_mt K) d 63 [.ref (C + 2), .int (58 : Int32)] (bM C (cH C s3) G11) sz12 (.returned (some (.int r14)), (bM C (cH C s16) G11), sz12, 0)) (c17 : r14 = 0) (t19 : gm_to N0 K ra_nm (ra_mt K) d 63 [.ref (C + 2), .int (46 : Int32)] (bM C (cH C s16) G11) sz12 (.returned (some (.int r18)), (bM C (cH C s20) G11), sz12, 0)) (c21 : ¬ r18 = 0) : gm_ev N0 K ra_nm (ra_mt K) d (some (.object "RuleArena$Rule")) (gm_I cX6_readRule) (gm_lkf (lkX6 false K)) 0 [some (.ref (C + 2)), none, none] [] (bM C (cH C s) G) sz sl (.returned (some (.ref sz5)), (bM C (cH C s20) G11), sz12, (((sl + dd6) + 4) + dd13)) := by
  refine gm_ev.aload_n i64_0 rfl ?_
  refine gm_ev.iconst (v := 0) i64_1 (by decide) ?_
  refine gm_ev.callV gm_mono_run (av := [.int (0 : Int32)]) (r := []) (ci := 6) (fs := cF2 C s) (bM_get (j := 2) rfl) i64_2 rfl rfl rfl (Nat.le_of_ble_eq_true rfl) t2 ?_
  refine gm_ev.astore_n (ls' := [some (.ref (C + 2)), some (.ref r1), none]) i64_5 (Nat.le_of_ble_eq_true rfl) rfl ?_
  refine gm_ev.aload_n i64_6 rfl ?_
  refine gm_ev.ifnonnull_t (tgt := 12) i64_7 (by decide) ?_
  refine gm_ev.new i64_12 rfl ?_
  rw [cG_new hg_sz5]
  have w8 : (gm_new G4 sz5 (.inr (7, [.null, .null, .int 0, .int 0]))) sz5 = some (.inr (7, [.null, .null, .int 0, .int 0])) := gm_set_eq
  have bd9 : gm_bd (gm_new G4 sz5 (.inr (7, [.null, .null, .int 0, .int 0]))) (sz5 + 1) := gm_bd.new bd7
  refine gm_ev.dup i64_15 rfl ?_
  refine gm_ev.aload_n i64_16 rfl ?_
  refine gm_ev.callI gm_mono_run (av := [.ref r1]) (r := [.ref sz5]) i64_17 rfl rfl rfl (Nat.le_of_ble_eq_true rfl) t10 ?_
  refine gm_ev.astore_n (ls' := [some (.ref (C + 2)), some (.ref r1), some (.ref sz5)]) i64_20 (Nat.le_of_ble_eq_true rfl) rfl ?_
  refine gm_ev.aload_n i64_21 rfl ?_
  refine gm_ev.bipush (v := 58) i64_22 (by decide) ?_
  refine gm_ev.callV gm_mono_run (av := [.int (58 : Int32)]) (r := []) (ci := 6) (fs := cF2 C s3) (bM_get (j := 2) rfl) i64_24 rfl rfl rfl (Nat.le_of_ble_eq_true rfl) t15 ?_
  refine gm_ev.if_eq_t (tgt := 40) i64_27 (by decide) c17 ?_
  refine gm_ev.aload_n i64_40 rfl ?_
  refine gm_ev.bipush (v := 46) i64_41 (by decide) ?_
  refine gm_ev.callV gm_mono_run (av := [.int (46 : Int32)]) (r := []) (ci := 6) (fs := cF2 C s16) (bM_get (j := 2) rfl) i64_43 rfl rfl rfl (Nat.le_of_ble_eq_true rfl) t19 ?_
  refine gm_ev.if_eq_f i64_46 c21 ?_
  refine gm_ev.aload_n i64_49 rfl ?_
  refine gm_ev.goto (tgt := 54) i64_50 (by decide) ?_
  exact gm_ev.aret i64_54 rfl
theorem t_X6_readRule_0_rftt {N0 : Nat} {K : Nat → Nat} {d C : Nat} {s : cS} {G : gm_H} {sz sl : Nat} {r1 : Nat} {s3 : cS} {G4 : gm_H} {sz5 : Nat} {dd6 : Nat} {G11 : gm_H} {sz12 : Nat} {dd13 : Nat} {r14 : Int32} {s16 : cS} {r18 : Int32} {s20 : cS} {G21 : gm_H} {sz22 : Nat} {dd23 : Nat} {r25 : Int32} {s27 : cS} (hN : N0 ≤ C) (t2 : gm_to N0 K ra_nm (ra_mt K) d 68 [.ref (C + 2), .int (0 : Int32)] (bM C (cH C s) G) sz (.returned (some (.ref r1)), (bM C (cH C s3) G4), sz5, dd6)) (hg_sz5 : C + 34 ≤ sz5) (bd7 : gm_bd G4 sz5) (t10 : gm_to N0 K ra_nm (ra_mt K) d 70 [.ref sz5, .ref r1] (bM C (cH C s3) (gm_new G4 sz5 (.inr (7, [.null, .null, .int 0, .int 0])))) (sz5 + 1) (.returned none, (bM C (cH C s3) G11), sz12, dd13)) (t15 : gm_to N0 K ra_nm (ra_mt K) d 63 [.ref (C + 2), .int (58 : Int32)] (bM C (cH C s3) G11) sz12 (.returned (some (.int r14)), (bM C (cH C s16) G11), sz12, 0)) (c17 : ¬ r14 = 0) (t19 : gm_to N0 K ra_nm (ra_mt K) d 65 [.ref (C + 2), .ref sz5] (bM C (cH C s16) G11) sz12 (.returned (some (.int r18)), (bM C (cH C s20) G21), sz22, dd23)) (c24 : ¬ r18 = 0) (t26 : gm_to N0 K ra_nm (ra_mt K) d 63 [.ref (C + 2), .int (46 : Int32)] (bM C (cH C s20) G21) sz22 (.returned (some (.int r25)), (bM C (cH C s27) G21), sz22, 0)) (c28 : r25 = 0) : gm_ev N0 K ra_nm (ra_mt K) d (some (.object "RuleArena$Rule")) (gm_I cX6_readRule) (gm_lkf (lkX6 false K)) 0 [some (.ref (C + 2)), none, none] [] (bM C (cH C s) G) sz sl (.returned (some (.null)), (bM C (cH C s27) G21), sz22, ((((sl + dd6) + 4) + dd13) + dd23)) := by
  refine gm_ev.aload_n i64_0 rfl ?_
  refine gm_ev.iconst (v := 0) i64_1 (by decide) ?_
  refine gm_ev.callV gm_mono_run (av := [.int (0 : Int32)]) (r := []) (ci := 6) (fs := cF2 C s) (bM_get (j := 2) rfl) i64_2 rfl rfl rfl (Nat.le_of_ble_eq_true rfl) t2 ?_
  refine gm_ev.astore_n (ls' := [some (.ref (C + 2)), some (.ref r1), none]) i64_5 (Nat.le_of_ble_eq_true rfl) rfl ?_
  refine gm_ev.aload_n i64_6 rfl ?_
  refine gm_ev.ifnonnull_t (tgt := 12) i64_7 (by decide) ?_
  refine gm_ev.new i64_12 rfl ?_
  rw [cG_new hg_sz5]
  have w8 : (gm_new G4 sz5 (.inr (7, [.null, .null, .int 0, .int 0]))) sz5 = some (.inr (7, [.null, .null, .int 0, .int 0])) := gm_set_eq
  have bd9 : gm_bd (gm_new G4 sz5 (.inr (7, [.null, .null, .int 0, .int 0]))) (sz5 + 1) := gm_bd.new bd7
  refine gm_ev.dup i64_15 rfl ?_
  refine gm_ev.aload_n i64_16 rfl ?_
  refine gm_ev.callI gm_mono_run (av := [.ref r1]) (r := [.ref sz5]) i64_17 rfl rfl rfl (Nat.le_of_ble_eq_true rfl) t10 ?_
  refine gm_ev.astore_n (ls' := [some (.ref (C + 2)), some (.ref r1), some (.ref sz5)]) i64_20 (Nat.le_of_ble_eq_true rfl) rfl ?_
  refine gm_ev.aload_n i64_21 rfl ?_
  refine gm_ev.bipush (v := 58) i64_22 (by decide) ?_
  refine gm_ev.callV gm_mono_run (av := [.int (58 : Int32)]) (r := []) (ci := 6) (fs := cF2 C s3) (bM_get (j := 2) rfl) i64_24 rfl rfl rfl (Nat.le_of_ble_eq_true rfl) t15 ?_
  refine gm_ev.if_eq_f i64_27 c17 ?_
  refine gm_ev.aload_n i64_30 rfl ?_
  refine gm_ev.aload_n i64_31 rfl ?_
  refine gm_ev.callV gm_mono_run (av := [.ref sz5]) (r := []) (ci := 6) (fs := cF2 C s16) (bM_get (j := 2) rfl) i64_32 rfl rfl rfl (Nat.le_of_ble_eq_true rfl) t19 ?_
  refine gm_ev.if_ne_t (tgt := 40) i64_35 (by decide) c24 ?_
  refine gm_ev.aload_n i64_40 rfl ?_
  refine gm_ev.bipush (v := 46) i64_41 (by decide) ?_
  refine gm_ev.callV gm_mono_run (av := [.int (46 : Int32)]) (r := []) (ci := 6) (fs := cF2 C s20) (bM_get (j := 2) rfl) i64_43 rfl rfl rfl (Nat.le_of_ble_eq_true rfl) t26 ?_
  refine gm_ev.if_eq_t (tgt := 53) i64_46 (by decide) c28 ?_
  refine gm_ev.null i64_53 ?_
  exact gm_ev.aretN i64_54 rfl
theorem t_X6_readRule_0_rftf {N0 : Nat} {K : Nat → Nat} {d C : Nat} {s : cS} {G : gm_H} {sz sl : Nat} {r1 : Nat} {s3 : cS} {G4 : gm_H} {sz5 : Nat} {dd6 : Nat} {G11 : gm_H} {sz12 : Nat} {dd13 : Nat} {r14 : Int32} {s16 : cS} {r18 : Int32} {s20 : cS} {G21 : gm_H} {sz22 : Nat} {dd23 : Nat} {r25 : Int32} {s27 : cS} (hN : N0 ≤ C) (t2 : gm_to N0 K ra_nm (ra_mt K) d 68 [.ref (C + 2), .int (0 : Int32)] (bM C (cH C s) G) sz (.returned (some (.ref r1)), (bM C (cH C s3) G4), sz5, dd6)) (hg_sz5 : C + 34 ≤ sz5) (bd7 : gm_bd G4 sz5) (t10 : gm_to N0 K ra_nm (ra_mt K) d 70 [.ref sz5, .ref r1] (bM C (cH C s3) (gm_new G4 sz5 (.inr (7, [.null, .null, .int 0, .int 0])))) (sz5 + 1) (.returned none, (bM C (cH C s3) G11), sz12, dd13)) (t15 : gm_to N0 K ra_nm (ra_mt K) d 63 [.ref (C + 2), .int (58 : Int32)] (bM C (cH C s3) G11) sz12 (.returned (some (.int r14)), (bM C (cH C s16) G11), sz12, 0)) (c17 : ¬ r14 = 0) (t19 : gm_to N0 K ra_nm (ra_mt K) d 65 [.ref (C + 2), .ref sz5] (bM C (cH C s16) G11) sz12 (.returned (some (.int r18)), (bM C (cH C s20) G21), sz22, dd23)) (c24 : ¬ r18 = 0) (t26 : gm_to N0 K ra_nm (ra_mt K) d 63 [.ref (C + 2), .int (46 : Int32)] (bM C (cH C s20) G21) sz22 (.returned (some (.int r25)), (bM C (cH C s27) G21), sz22, 0)) (c28 : ¬ r25 = 0) : gm_ev N0 K ra_nm (ra_mt K) d (some (.object "RuleArena$Rule")) (gm_I cX6_readRule) (gm_lkf (lkX6 false K)) 0 [some (.ref (C + 2)), none, none] [] (bM C (cH C s) G) sz sl (.returned (some (.ref sz5)), (bM C (cH C s27) G21), sz22, ((((sl + dd6) + 4) + dd13) + dd23)) := by
  refine gm_ev.aload_n i64_0 rfl ?_
  refine gm_ev.iconst (v := 0) i64_1 (by decide) ?_
  refine gm_ev.callV gm_mono_run (av := [.int (0 : Int32)]) (r := []) (ci := 6) (fs := cF2 C s) (bM_get (j := 2) rfl) i64_2 rfl rfl rfl (Nat.le_of_ble_eq_true rfl) t2 ?_
  refine gm_ev.astore_n (ls' := [some (.ref (C + 2)), some (.ref r1), none]) i64_5 (Nat.le_of_ble_eq_true rfl) rfl ?_
  refine gm_ev.aload_n i64_6 rfl ?_
  refine gm_ev.ifnonnull_t (tgt := 12) i64_7 (by decide) ?_
  refine gm_ev.new i64_12 rfl ?_
  rw [cG_new hg_sz5]
  have w8 : (gm_new G4 sz5 (.inr (7, [.null, .null, .int 0, .int 0]))) sz5 = some (.inr (7, [.null, .null, .int 0, .int 0])) := gm_set_eq
  have bd9 : gm_bd (gm_new G4 sz5 (.inr (7, [.null, .null, .int 0, .int 0]))) (sz5 + 1) := gm_bd.new bd7
  refine gm_ev.dup i64_15 rfl ?_
  refine gm_ev.aload_n i64_16 rfl ?_
  refine gm_ev.callI gm_mono_run (av := [.ref r1]) (r := [.ref sz5]) i64_17 rfl rfl rfl (Nat.le_of_ble_eq_true rfl) t10 ?_
  refine gm_ev.astore_n (ls' := [some (.ref (C + 2)), some (.ref r1), some (.ref sz5)]) i64_20 (Nat.le_of_ble_eq_true rfl) rfl ?_
  refine gm_ev.aload_n i64_21 rfl ?_
  refine gm_ev.bipush (v := 58) i64_22 (by decide) ?_
  refine gm_ev.callV gm_mono_run (av := [.int (58 : Int32)]) (r := []) (ci := 6) (fs := cF2 C s3) (bM_get (j := 2) rfl) i64_24 rfl rfl rfl (Nat.le_of_ble_eq_true rfl) t15 ?_
  refine gm_ev.if_eq_f i64_27 c17 ?_
  refine gm_ev.aload_n i64_30 rfl ?_
  refine gm_ev.aload_n i64_31 rfl ?_
  refine gm_ev.callV gm_mono_run (av := [.ref sz5]) (r := []) (ci := 6) (fs := cF2 C s16) (bM_get (j := 2) rfl) i64_32 rfl rfl rfl (Nat.le_of_ble_eq_true rfl) t19 ?_
  refine gm_ev.if_ne_t (tgt := 40) i64_35 (by decide) c24 ?_
  refine gm_ev.aload_n i64_40 rfl ?_
  refine gm_ev.bipush (v := 46) i64_41 (by decide) ?_
  refine gm_ev.callV gm_mono_run (av := [.int (46 : Int32)]) (r := []) (ci := 6) (fs := cF2 C s20) (bM_get (j := 2) rfl) i64_43 rfl rfl rfl (Nat.le_of_ble_eq_true rfl) t26 ?_
  refine gm_ev.if_eq_f i64_46 c28 ?_
  refine gm_ev.aload_n i64_49 rfl ?_
  refine gm_ev.goto (tgt := 54) i64_50 (by decide) ?_
  exact gm_ev.aret i64_54 rfl
theorem t_X6_readRule_0_rff {N0 : Nat} {K : Nat → Nat} {d C : Nat} {s : cS} {G : gm_H} {sz sl : Nat} {r1 : Nat} {s3 : cS} {G4 : gm_H} {sz5 : Nat} {dd6 : Nat} {G11 : gm_H} {sz12 : Nat} {dd13 : Nat} {r14 : Int32} {s16 : cS} {r18 : Int32} {s20 : cS} {G21 : gm_H} {sz22 : Nat} {dd23 : Nat} (hN : N0 ≤ C) (t2 : gm_to N0 K ra_nm (ra_mt K) d 68 [.ref (C + 2), .int (0 : Int32)] (bM C (cH C s) G) sz (.returned (some (.ref r1)), (bM C (cH C s3) G4), sz5, dd6)) (hg_sz5 : C + 34 ≤ sz5) (bd7 : gm_bd G4 sz5) (t10 : gm_to N0 K ra_nm (ra_mt K) d 70 [.ref sz5, .ref r1] (bM C (cH C s3) (gm_new G4 sz5 (.inr (7, [.null, .null, .int 0, .int 0])))) (sz5 + 1) (.returned none, (bM C (cH C s3) G11), sz12, dd13)) (t15 : gm_to N0 K ra_nm (ra_mt K) d 63 [.ref (C + 2), .int (58 : Int32)] (bM C (cH C s3) G11) sz12 (.returned (some (.int r14)), (bM C (cH C s16) G11), sz12, 0)) (c17 : ¬ r14 = 0) (t19 : gm_to N0 K ra_nm (ra_mt K) d 65 [.ref (C + 2), .ref sz5] (bM C (cH C s16) G11) sz12 (.returned (some (.int r18)), (bM C (cH C s20) G21), sz22, dd23)) (c24 : r18 = 0) : gm_ev N0 K ra_nm (ra_mt K) d (some (.object "RuleArena$Rule")) (gm_I cX6_readRule) (gm_lkf (lkX6 false K)) 0 [some (.ref (C + 2)), none, none] [] (bM C (cH C s) G) sz sl (.returned (some (.null)), (bM C (cH C s20) G21), sz22, ((((sl + dd6) + 4) + dd13) + dd23)) := by
  refine gm_ev.aload_n i64_0 rfl ?_
  refine gm_ev.iconst (v := 0) i64_1 (by decide) ?_
  refine gm_ev.callV gm_mono_run (av := [.int (0 : Int32)]) (r := []) (ci := 6) (fs := cF2 C s) (bM_get (j := 2) rfl) i64_2 rfl rfl rfl (Nat.le_of_ble_eq_true rfl) t2 ?_
  refine gm_ev.astore_n (ls' := [some (.ref (C + 2)), some (.ref r1), none]) i64_5 (Nat.le_of_ble_eq_true rfl) rfl ?_
  refine gm_ev.aload_n i64_6 rfl ?_
  refine gm_ev.ifnonnull_t (tgt := 12) i64_7 (by decide) ?_
  refine gm_ev.new i64_12 rfl ?_
  rw [cG_new hg_sz5]
  have w8 : (gm_new G4 sz5 (.inr (7, [.null, .null, .int 0, .int 0]))) sz5 = some (.inr (7, [.null, .null, .int 0, .int 0])) := gm_set_eq
  have bd9 : gm_bd (gm_new G4 sz5 (.inr (7, [.null, .null, .int 0, .int 0]))) (sz5 + 1) := gm_bd.new bd7
  refine gm_ev.dup i64_15 rfl ?_
  refine gm_ev.aload_n i64_16 rfl ?_
  refine gm_ev.callI gm_mono_run (av := [.ref r1]) (r := [.ref sz5]) i64_17 rfl rfl rfl (Nat.le_of_ble_eq_true rfl) t10 ?_
  refine gm_ev.astore_n (ls' := [some (.ref (C + 2)), some (.ref r1), some (.ref sz5)]) i64_20 (Nat.le_of_ble_eq_true rfl) rfl ?_
  refine gm_ev.aload_n i64_21 rfl ?_
  refine gm_ev.bipush (v := 58) i64_22 (by decide) ?_
  refine gm_ev.callV gm_mono_run (av := [.int (58 : Int32)]) (r := []) (ci := 6) (fs := cF2 C s3) (bM_get (j := 2) rfl) i64_24 rfl rfl rfl (Nat.le_of_ble_eq_true rfl) t15 ?_
  refine gm_ev.if_eq_f i64_27 c17 ?_
  refine gm_ev.aload_n i64_30 rfl ?_
  refine gm_ev.aload_n i64_31 rfl ?_
  refine gm_ev.callV gm_mono_run (av := [.ref sz5]) (r := []) (ci := 6) (fs := cF2 C s16) (bM_get (j := 2) rfl) i64_32 rfl rfl rfl (Nat.le_of_ble_eq_true rfl) t19 ?_
  refine gm_ev.if_ne_f i64_35 c24 ?_
  refine gm_ev.null i64_38 ?_
  exact gm_ev.aretN i64_39 rfl
theorem t_X6_readBody_0__at2 {N0 : Nat} {K : Nat → Nat} {d C : Nat} {s : cS} {G : gm_H} {sz sl : Nat} {R : gm_R} {p0 : Nat} (hN : N0 ≤ C)  (k : gm_ev N0 K ra_nm (ra_mt K) d (some .boolean) (gm_I cX6_readBody) (gm_lkf (lkX6 false K)) 2 [some (.ref (C + 2)), some (.ref p0), some (.int (0 : Int32)), none] [] (bM C (cH C s) G) sz sl R) : gm_ev N0 K ra_nm (ra_mt K) d (some .boolean) (gm_I cX6_readBody) (gm_lkf (lkX6 false K)) 0 [some (.ref (C + 2)), some (.ref p0), none, none] [] (bM C (cH C s) G) sz sl R := by
  refine gm_ev.iconst (v := 0) i65_0 (by decide) ?_
  refine gm_ev.istore_n (ls' := [some (.ref (C + 2)), some (.ref p0), some (.int (0 : Int32)), none]) i65_1 (Nat.le_of_ble_eq_true rfl) rfl ?_
  exact k
theorem t_X6_readBody_2_t {N0 : Nat} {K : Nat → Nat} {d C : Nat} {s : cS} {G : gm_H} {sz sl : Nat} {p0 : Nat} {u2 : Int32} (hN : N0 ≤ C) (c1 : (5 : Int32) ≤ u2) : gm_ev N0 K ra_nm (ra_mt K) d (some .boolean) (gm_I cX6_readBody) (gm_lkf (lkX6 false K)) 2 [some (.ref (C + 2)), some (.ref p0), some (.int u2), none] [] (bM C (cH C s) G) sz sl (.returned (some (.int (0 : Int32))), (bM C (cH C s) G), sz, sl) := by
  refine gm_ev.iload_n i65_2 rfl ?_
  refine gm_ev.iconst (v := 5) i65_3 (by decide) ?_
  refine gm_ev.icmp_ge_t (tgt := 40) i65_4 (by decide) c1 ?_
  refine gm_ev.iconst (v := 0) i65_40 (by decide) ?_
  exact gm_ev.zret i65_41 rfl (by decide)
theorem t_X6_readBody_2_fn {N0 : Nat} {K : Nat → Nat} {d C : Nat} {s : cS} {G : gm_H} {sz sl : Nat} {p0 : Nat} {u2 : Int32} {s3 : cS} {G4 : gm_H} {sz5 : Nat} {dd6 : Nat} (hN : N0 ≤ C) (c1 : ¬ (5 : Int32) ≤ u2) (t2 : gm_to N0 K ra_nm (ra_mt K) d 66 [.ref (C + 2)] (bM C (cH C s) G) sz (.returned (some .null), (bM C (cH C s3) G4), sz5, dd6)) : gm_ev N0 K ra_nm (ra_mt K) d (some .boolean) (gm_I cX6_readBody) (gm_lkf (lkX6 false K)) 2 [some (.ref (C + 2)), some (.ref p0), some (.int u2), none] [] (bM C (cH C s) G) sz sl (.returned (some (.int (0 : Int32))), (bM C (cH C s3) G4), sz5, (sl + dd6)) := by
  refine gm_ev.iload_n i65_2 rfl ?_
  refine gm_ev.iconst (v := 5) i65_3 (by decide) ?_
  refine gm_ev.icmp_ge_f i65_4 c1 ?_
  refine gm_ev.aload_n i65_7 rfl ?_
  refine gm_ev.callV gm_mono_run (av := []) (r := []) (ci := 6) (fs := cF2 C s) (bM_get (j := 2) rfl) i65_8 rfl rfl rfl (Nat.le_of_ble_eq_true rfl) t2 ?_
  refine gm_ev.astoreN_n (ls' := [some (.ref (C + 2)), some (.ref p0), some (.int u2), some (.null)]) i65_11 (Nat.le_of_ble_eq_true rfl) rfl ?_
  refine gm_ev.aloadN_n i65_12 rfl ?_
  refine gm_ev.ifnonnull_f i65_13 ?_
  refine gm_ev.iconst (v := 0) i65_16 (by decide) ?_
  exact gm_ev.zret i65_17 rfl (by decide)
theorem t_X6_readBody_2_frt_at2 {N0 : Nat} {K : Nat → Nat} {d C : Nat} {s : cS} {G : gm_H} {sz sl : Nat} {R : gm_R} {p0 : Nat} {u2 : Int32} {r2 : Nat} {s4 : cS} {G5 : gm_H} {sz6 : Nat} {dd7 : Nat} {fso8 : List Value} {G10 : gm_H} {r11 : Int32} {s13 : cS} (hN : N0 ≤ C) (c1 : ¬ (5 : Int32) ≤ u2) (t3 : gm_to N0 K ra_nm (ra_mt K) d 66 [.ref (C + 2)] (bM C (cH C s) G) sz (.returned (some (.ref r2)), (bM C (cH C s4) G5), sz6, dd7)) (ho8 : G5 p0 = some (.inr (7, fso8))) (hg_p0 : C + 34 ≤ p0) (t9 : gm_to N0 K ra_nm (ra_mt K) d 71 [.ref p0, .ref r2] (bM C (cH C s4) G5) sz6 (.returned none, (bM C (cH C s4) G10), sz6, 0)) (t12 : gm_to N0 K ra_nm (ra_mt K) d 63 [.ref (C + 2), .int (44 : Int32)] (bM C (cH C s4) G10) sz6 (.returned (some (.int r11)), (bM C (cH C s13) G10), sz6, 0)) (c14 : ¬ r11 = 0) (k : gm_ev N0 K ra_nm (ra_mt K) d (some .boolean) (gm_I cX6_readBody) (gm_lkf (lkX6 false K)) 2 [some (.ref (C + 2)), some (.ref p0), some (.int (u2 + (1 : Int32))), none] [] (bM C (cH C s13) G10) sz6 (sl + dd7) R) : gm_ev N0 K ra_nm (ra_mt K) d (some .boolean) (gm_I cX6_readBody) (gm_lkf (lkX6 false K)) 2 [some (.ref (C + 2)), some (.ref p0), some (.int u2), none] [] (bM C (cH C s) G) sz sl R := by
  refine gm_ev.iload_n i65_2 rfl ?_
  refine gm_ev.iconst (v := 5) i65_3 (by decide) ?_
  refine gm_ev.icmp_ge_f i65_4 c1 ?_
  refine gm_ev.aload_n i65_7 rfl ?_
  refine gm_ev.callV gm_mono_run (av := []) (r := []) (ci := 6) (fs := cF2 C s) (bM_get (j := 2) rfl) i65_8 rfl rfl rfl (Nat.le_of_ble_eq_true rfl) t3 ?_
  refine gm_ev.astore_n (ls' := [some (.ref (C + 2)), some (.ref p0), some (.int u2), some (.ref r2)]) i65_11 (Nat.le_of_ble_eq_true rfl) rfl ?_
  refine gm_ev.aload_n i65_12 rfl ?_
  refine gm_ev.ifnonnull_t (tgt := 18) i65_13 (by decide) ?_
  refine gm_ev.aload_n i65_18 rfl ?_
  refine gm_ev.aload_n i65_19 rfl ?_
  refine gm_ev.callV gm_mono_run (av := [.ref r2]) (r := []) (fs := fso8) (cG_get hg_p0 ho8) i65_20 rfl rfl rfl (Nat.le_of_ble_eq_true rfl) t9 ?_
  refine gm_ev.aload_n i65_23 rfl ?_
  refine gm_ev.bipush (v := 44) i65_24 (by decide) ?_
  refine gm_ev.callV gm_mono_run (av := [.int (44 : Int32)]) (r := []) (ci := 6) (fs := cF2 C s4) (bM_get (j := 2) rfl) i65_26 rfl rfl rfl (Nat.le_of_ble_eq_true rfl) t12 ?_
  refine gm_ev.if_ne_t (tgt := 34) i65_29 (by decide) c14 ?_
  refine gm_ev.iinc (v := u2 + (1 : Int32)) (ls' := [some (.ref (C + 2)), some (.ref p0), some (.int (u2 + (1 : Int32))), some (.ref r2)]) i65_34 rfl (by rfl) rfl ?_
  refine gm_ev.goto (tgt := 2) i65_37 (by decide) ?_
  refine gm_ev.le (a := [some (.ref (C + 2)), some (.ref p0), some (.int (u2 + (1 : Int32))), none]) (gm_leL.le (show gm_leL _ _ from ⟨rfl, ⟨rfl, ⟨rfl, trivial⟩⟩⟩)) ?_
  exact k
theorem t_X6_readBody_2_frf {N0 : Nat} {K : Nat → Nat} {d C : Nat} {s : cS} {G : gm_H} {sz sl : Nat} {p0 : Nat} {u2 : Int32} {r2 : Nat} {s4 : cS} {G5 : gm_H} {sz6 : Nat} {dd7 : Nat} {fso8 : List Value} {G10 : gm_H} {r11 : Int32} {s13 : cS} (hN : N0 ≤ C) (c1 : ¬ (5 : Int32) ≤ u2) (t3 : gm_to N0 K ra_nm (ra_mt K) d 66 [.ref (C + 2)] (bM C (cH C s) G) sz (.returned (some (.ref r2)), (bM C (cH C s4) G5), sz6, dd7)) (ho8 : G5 p0 = some (.inr (7, fso8))) (hg_p0 : C + 34 ≤ p0) (t9 : gm_to N0 K ra_nm (ra_mt K) d 71 [.ref p0, .ref r2] (bM C (cH C s4) G5) sz6 (.returned none, (bM C (cH C s4) G10), sz6, 0)) (t12 : gm_to N0 K ra_nm (ra_mt K) d 63 [.ref (C + 2), .int (44 : Int32)] (bM C (cH C s4) G10) sz6 (.returned (some (.int r11)), (bM C (cH C s13) G10), sz6, 0)) (c14 : r11 = 0) : gm_ev N0 K ra_nm (ra_mt K) d (some .boolean) (gm_I cX6_readBody) (gm_lkf (lkX6 false K)) 2 [some (.ref (C + 2)), some (.ref p0), some (.int u2), none] [] (bM C (cH C s) G) sz sl (.returned (some (.int (1 : Int32))), (bM C (cH C s13) G10), sz6, (sl + dd7)) := by
  refine gm_ev.iload_n i65_2 rfl ?_
  refine gm_ev.iconst (v := 5) i65_3 (by decide) ?_
  refine gm_ev.icmp_ge_f i65_4 c1 ?_
  refine gm_ev.aload_n i65_7 rfl ?_
  refine gm_ev.callV gm_mono_run (av := []) (r := []) (ci := 6) (fs := cF2 C s) (bM_get (j := 2) rfl) i65_8 rfl rfl rfl (Nat.le_of_ble_eq_true rfl) t3 ?_
  refine gm_ev.astore_n (ls' := [some (.ref (C + 2)), some (.ref p0), some (.int u2), some (.ref r2)]) i65_11 (Nat.le_of_ble_eq_true rfl) rfl ?_
  refine gm_ev.aload_n i65_12 rfl ?_
  refine gm_ev.ifnonnull_t (tgt := 18) i65_13 (by decide) ?_
  refine gm_ev.aload_n i65_18 rfl ?_
  refine gm_ev.aload_n i65_19 rfl ?_
  refine gm_ev.callV gm_mono_run (av := [.ref r2]) (r := []) (fs := fso8) (cG_get hg_p0 ho8) i65_20 rfl rfl rfl (Nat.le_of_ble_eq_true rfl) t9 ?_
  refine gm_ev.aload_n i65_23 rfl ?_
  refine gm_ev.bipush (v := 44) i65_24 (by decide) ?_
  refine gm_ev.callV gm_mono_run (av := [.int (44 : Int32)]) (r := []) (ci := 6) (fs := cF2 C s4) (bM_get (j := 2) rfl) i65_26 rfl rfl rfl (Nat.le_of_ble_eq_true rfl) t12 ?_
  refine gm_ev.if_ne_f i65_29 c14 ?_
  refine gm_ev.iconst (v := 1) i65_32 (by decide) ?_
  exact gm_ev.zret i65_33 rfl (by decide)
theorem t_X6_readLiteral_0_ttn {N0 : Nat} {K : Nat → Nat} {d C : Nat} {s : cS} {G : gm_H} {sz sl : Nat} {r1 : Int32} {s3 : cS} {k6 : Nat} {r7 : Int32} {s11 : cS} {G12 : gm_H} {sz13 : Nat} {dd14 : Nat} (hN : N0 ≤ C) (t2 : gm_to N0 K ra_nm (ra_mt K) d 63 [.ref (C + 2), .int (126 : Int32)] (bM C (cH C s) G) sz (.returned (some (.int r1)), (bM C (cH C s3) G), sz, 0)) (c4 : r1 = 0) (h5 : s3.2.2 40 = some (C + 1)) (ek6 : (s3.1 41) = nI k6) (lk6 : k6 < 241) (t8 : gm_to N0 K ra_nm (ra_mt K) d 90 [.int (s3.2.1 1 k6)] (bM C (cH C s3) G) sz (.returned (some (.int r7)), (bM C (cH C s3) G), sz, 0)) (c9 : r7 = 0) (t10 : gm_to N0 K ra_nm (ra_mt K) d 68 [.ref (C + 2), .int (0 : Int32)] (bM C (cH C s3) G) sz (.returned (some .null), (bM C (cH C s11) G12), sz13, dd14)) : gm_ev N0 K ra_nm (ra_mt K) d (some (.object "RuleArena$Literal")) (gm_I cX6_readLiteral) (gm_lkf (lkX6 false K)) 0 [some (.ref (C + 2)), none] [] (bM C (cH C s) G) sz sl (.returned (some (.null)), (bM C (cH C s11) G12), sz13, (sl + dd14)) := by
  refine gm_ev.aload_n i66_0 rfl ?_
  refine gm_ev.bipush (v := 126) i66_1 (by decide) ?_
  refine gm_ev.callV gm_mono_run (av := [.int (126 : Int32)]) (r := []) (ci := 6) (fs := cF2 C s) (bM_get (j := 2) rfl) i66_3 rfl rfl rfl (Nat.le_of_ble_eq_true rfl) t2 ?_
  refine gm_ev.if_eq_t (tgt := 15) i66_6 (by decide) c4 ?_
  refine gm_ev.aload_n i66_15 rfl ?_
  refine gm_ev.getfield (v := .ref (C + 1)) i66_16 rfl (bM_fld (j := 2) (fs := cF2 C s3) rfl (cv_some h5)) ?_
  refine gm_ev.aload_n i66_19 rfl ?_
  refine gm_ev.getfield (v := .int (s3.1 41)) i66_20 rfl (bM_fld (j := 2) (fs := cF2 C s3) rfl rfl) ?_
  refine gm_ev.caload i66_23 (bM_ai (j := 1) (n := 241) (f := s3.2.1 1) rfl ek6 lk6 (by decide)) ?_
  refine gm_ev.callS gm_mono_run (av := [.int (s3.2.1 1 k6)]) (r := []) i66_24 rfl rfl rfl (Nat.le_of_ble_eq_true rfl) t8 ?_
  refine gm_ev.if_eq_t (tgt := 54) i66_27 (by decide) c9 ?_
  refine gm_ev.aload_n i66_54 rfl ?_
  refine gm_ev.iconst (v := 0) i66_55 (by decide) ?_
  refine gm_ev.callV gm_mono_run (av := [.int (0 : Int32)]) (r := []) (ci := 6) (fs := cF2 C s3) (bM_get (j := 2) rfl) i66_56 rfl rfl rfl (Nat.le_of_ble_eq_true rfl) t10 ?_
  refine gm_ev.astoreN_n (ls' := [some (.ref (C + 2)), some (.null)]) i66_59 (Nat.le_of_ble_eq_true rfl) rfl ?_
  refine gm_ev.aloadN_n i66_60 rfl ?_
  refine gm_ev.ifnull_t (tgt := 85) i66_61 (by decide) ?_
  refine gm_ev.aloadN_n i66_85 rfl ?_
  exact gm_ev.aretN i66_86 rfl
theorem t_X6_readLiteral_0_ttrt {N0 : Nat} {K : Nat → Nat} {d C : Nat} {s : cS} {G : gm_H} {sz sl : Nat} {r1 : Int32} {s3 : cS} {k6 : Nat} {r7 : Int32} {r10 : Nat} {s12 : cS} {G13 : gm_H} {sz14 : Nat} {dd15 : Nat} {k17 : Nat} (hN : N0 ≤ C) (t2 : gm_to N0 K ra_nm (ra_mt K) d 63 [.ref (C + 2), .int (126 : Int32)] (bM C (cH C s) G) sz (.returned (some (.int r1)), (bM C (cH C s3) G), sz, 0)) (c4 : r1 = 0) (h5 : s3.2.2 40 = some (C + 1)) (ek6 : (s3.1 41) = nI k6) (lk6 : k6 < 241) (t8 : gm_to N0 K ra_nm (ra_mt K) d 90 [.int (s3.2.1 1 k6)] (bM C (cH C s3) G) sz (.returned (some (.int r7)), (bM C (cH C s3) G), sz, 0)) (c9 : r7 = 0) (t11 : gm_to N0 K ra_nm (ra_mt K) d 68 [.ref (C + 2), .int (0 : Int32)] (bM C (cH C s3) G) sz (.returned (some (.ref r10)), (bM C (cH C s12) G13), sz14, dd15)) (h16 : s12.2.2 40 = some (C + 1)) (ek17 : (s12.1 41) = nI k17) (lk17 : k17 < 241) (c18 : ¬ (s12.2.1 1 k17) = (35 : Int32)) : gm_ev N0 K ra_nm (ra_mt K) d (some (.object "RuleArena$Literal")) (gm_I cX6_readLiteral) (gm_lkf (lkX6 false K)) 0 [some (.ref (C + 2)), none] [] (bM C (cH C s) G) sz sl (.returned (some (.ref r10)), (bM C (cH C s12) G13), sz14, (sl + dd15)) := by
  refine gm_ev.aload_n i66_0 rfl ?_
  refine gm_ev.bipush (v := 126) i66_1 (by decide) ?_
  refine gm_ev.callV gm_mono_run (av := [.int (126 : Int32)]) (r := []) (ci := 6) (fs := cF2 C s) (bM_get (j := 2) rfl) i66_3 rfl rfl rfl (Nat.le_of_ble_eq_true rfl) t2 ?_
  refine gm_ev.if_eq_t (tgt := 15) i66_6 (by decide) c4 ?_
  refine gm_ev.aload_n i66_15 rfl ?_
  refine gm_ev.getfield (v := .ref (C + 1)) i66_16 rfl (bM_fld (j := 2) (fs := cF2 C s3) rfl (cv_some h5)) ?_
  refine gm_ev.aload_n i66_19 rfl ?_
  refine gm_ev.getfield (v := .int (s3.1 41)) i66_20 rfl (bM_fld (j := 2) (fs := cF2 C s3) rfl rfl) ?_
  refine gm_ev.caload i66_23 (bM_ai (j := 1) (n := 241) (f := s3.2.1 1) rfl ek6 lk6 (by decide)) ?_
  refine gm_ev.callS gm_mono_run (av := [.int (s3.2.1 1 k6)]) (r := []) i66_24 rfl rfl rfl (Nat.le_of_ble_eq_true rfl) t8 ?_
  refine gm_ev.if_eq_t (tgt := 54) i66_27 (by decide) c9 ?_
  refine gm_ev.aload_n i66_54 rfl ?_
  refine gm_ev.iconst (v := 0) i66_55 (by decide) ?_
  refine gm_ev.callV gm_mono_run (av := [.int (0 : Int32)]) (r := []) (ci := 6) (fs := cF2 C s3) (bM_get (j := 2) rfl) i66_56 rfl rfl rfl (Nat.le_of_ble_eq_true rfl) t11 ?_
  refine gm_ev.astore_n (ls' := [some (.ref (C + 2)), some (.ref r10)]) i66_59 (Nat.le_of_ble_eq_true rfl) rfl ?_
  refine gm_ev.aload_n i66_60 rfl ?_
  refine gm_ev.ifnull_f i66_61 ?_
  refine gm_ev.aload_n i66_64 rfl ?_
  refine gm_ev.getfield (v := .ref (C + 1)) i66_65 rfl (bM_fld (j := 2) (fs := cF2 C s12) rfl (cv_some h16)) ?_
  refine gm_ev.aload_n i66_68 rfl ?_
  refine gm_ev.getfield (v := .int (s12.1 41)) i66_69 rfl (bM_fld (j := 2) (fs := cF2 C s12) rfl rfl) ?_
  refine gm_ev.caload i66_72 (bM_ai (j := 1) (n := 241) (f := s12.2.1 1) rfl ek17 lk17 (by decide)) ?_
  refine gm_ev.bipush (v := 35) i66_73 (by decide) ?_
  refine gm_ev.icmp_ne_t (tgt := 85) i66_75 (by decide) c18 ?_
  refine gm_ev.aload_n i66_85 rfl ?_
  exact gm_ev.aret i66_86 rfl
theorem t_X6_readLiteral_0_ttrftn {N0 : Nat} {K : Nat → Nat} {d C : Nat} {s : cS} {G : gm_H} {sz sl : Nat} {r1 : Int32} {s3 : cS} {k6 : Nat} {r7 : Int32} {r10 : Nat} {s12 : cS} {G13 : gm_H} {sz14 : Nat} {dd15 : Nat} {k17 : Nat} {fso19 : List Value} {r20 : Int32} {r23 : Int32} {s26 : cS} {G27 : gm_H} {sz28 : Nat} {dd29 : Nat} (hN : N0 ≤ C) (t2 : gm_to N0 K ra_nm (ra_mt K) d 63 [.ref (C + 2), .int (126 : Int32)] (bM C (cH C s) G) sz (.returned (some (.int r1)), (bM C (cH C s3) G), sz, 0)) (c4 : r1 = 0) (h5 : s3.2.2 40 = some (C + 1)) (ek6 : (s3.1 41) = nI k6) (lk6 : k6 < 241) (t8 : gm_to N0 K ra_nm (ra_mt K) d 90 [.int (s3.2.1 1 k6)] (bM C (cH C s3) G) sz (.returned (some (.int r7)), (bM C (cH C s3) G), sz, 0)) (c9 : r7 = 0) (t11 : gm_to N0 K ra_nm (ra_mt K) d 68 [.ref (C + 2), .int (0 : Int32)] (bM C (cH C s3) G) sz (.returned (some (.ref r10)), (bM C (cH C s12) G13), sz14, dd15)) (h16 : s12.2.2 40 = some (C + 1)) (ek17 : (s12.1 41) = nI k17) (lk17 : k17 < 241) (c18 : (s12.2.1 1 k17) = (35 : Int32)) (ho19 : G13 r10 = some (.inr (5, fso19))) (hg_r10 : C + 34 ≤ r10) (t21 : gm_to N0 K ra_nm (ra_mt K) d 58 [.ref r10] (bM C (cH C s12) G13) sz14 (.returned (some (.int r20)), (bM C (cH C s12) G13), sz14, 0)) (c22 : ¬ r20 = 0) (t24 : gm_to N0 K ra_nm (ra_mt K) d 58 [.ref r10] (bM C (cH C s12) G13) sz14 (.returned (some (.int r23)), (bM C (cH C s12) G13), sz14, 0)) (t25 : gm_to N0 K ra_nm (ra_mt K) d 67 [.ref (C + 2), .int r23] (bM C (cH C s12) G13) sz14 (.returned (some .null), (bM C (cH C s26) G27), sz28, dd29)) : gm_ev N0 K ra_nm (ra_mt K) d (some (.object "RuleArena$Literal")) (gm_I cX6_readLiteral) (gm_lkf (lkX6 false K)) 0 [some (.ref (C + 2)), none] [] (bM C (cH C s) G) sz sl (.returned (some (.null)), (bM C (cH C s26) G27), sz28, ((sl + dd15) + dd29)) := by
  refine gm_ev.aload_n i66_0 rfl ?_
  refine gm_ev.bipush (v := 126) i66_1 (by decide) ?_
  refine gm_ev.callV gm_mono_run (av := [.int (126 : Int32)]) (r := []) (ci := 6) (fs := cF2 C s) (bM_get (j := 2) rfl) i66_3 rfl rfl rfl (Nat.le_of_ble_eq_true rfl) t2 ?_
  refine gm_ev.if_eq_t (tgt := 15) i66_6 (by decide) c4 ?_
  refine gm_ev.aload_n i66_15 rfl ?_
  refine gm_ev.getfield (v := .ref (C + 1)) i66_16 rfl (bM_fld (j := 2) (fs := cF2 C s3) rfl (cv_some h5)) ?_
  refine gm_ev.aload_n i66_19 rfl ?_
  refine gm_ev.getfield (v := .int (s3.1 41)) i66_20 rfl (bM_fld (j := 2) (fs := cF2 C s3) rfl rfl) ?_
  refine gm_ev.caload i66_23 (bM_ai (j := 1) (n := 241) (f := s3.2.1 1) rfl ek6 lk6 (by decide)) ?_
  refine gm_ev.callS gm_mono_run (av := [.int (s3.2.1 1 k6)]) (r := []) i66_24 rfl rfl rfl (Nat.le_of_ble_eq_true rfl) t8 ?_
  refine gm_ev.if_eq_t (tgt := 54) i66_27 (by decide) c9 ?_
  refine gm_ev.aload_n i66_54 rfl ?_
  refine gm_ev.iconst (v := 0) i66_55 (by decide) ?_
  refine gm_ev.callV gm_mono_run (av := [.int (0 : Int32)]) (r := []) (ci := 6) (fs := cF2 C s3) (bM_get (j := 2) rfl) i66_56 rfl rfl rfl (Nat.le_of_ble_eq_true rfl) t11 ?_
  refine gm_ev.astore_n (ls' := [some (.ref (C + 2)), some (.ref r10)]) i66_59 (Nat.le_of_ble_eq_true rfl) rfl ?_
  refine gm_ev.aload_n i66_60 rfl ?_
  refine gm_ev.ifnull_f i66_61 ?_
  refine gm_ev.aload_n i66_64 rfl ?_
  refine gm_ev.getfield (v := .ref (C + 1)) i66_65 rfl (bM_fld (j := 2) (fs := cF2 C s12) rfl (cv_some h16)) ?_
  refine gm_ev.aload_n i66_68 rfl ?_
  refine gm_ev.getfield (v := .int (s12.1 41)) i66_69 rfl (bM_fld (j := 2) (fs := cF2 C s12) rfl rfl) ?_
  refine gm_ev.caload i66_72 (bM_ai (j := 1) (n := 241) (f := s12.2.1 1) rfl ek17 lk17 (by decide)) ?_
  refine gm_ev.bipush (v := 35) i66_73 (by decide) ?_
  refine gm_ev.icmp_ne_f i66_75 c18 ?_
  refine gm_ev.aload_n i66_78 rfl ?_
  refine gm_ev.callV gm_mono_run (av := []) (r := []) (fs := fso19) (cG_get hg_r10 ho19) i66_79 rfl rfl rfl (Nat.le_of_ble_eq_true rfl) t21 ?_
  refine gm_ev.if_ne_t (tgt := 87) i66_82 (by decide) c22 ?_
  refine gm_ev.aload_n i66_87 rfl ?_
  refine gm_ev.aload_n i66_88 rfl ?_
  refine gm_ev.callV gm_mono_run (av := []) (r := [.ref (C + 2)]) (fs := fso19) (cG_get hg_r10 ho19) i66_89 rfl rfl rfl (Nat.le_of_ble_eq_true rfl) t24 ?_
  refine gm_ev.callV gm_mono_run (av := [.int r23]) (r := []) (ci := 6) (fs := cF2 C s12) (bM_get (j := 2) rfl) i66_92 rfl rfl rfl (Nat.le_of_ble_eq_true rfl) t25 ?_
  exact gm_ev.aretN i66_95 rfl
theorem t_X6_readLiteral_0_ttrftr {N0 : Nat} {K : Nat → Nat} {d C : Nat} {s : cS} {G : gm_H} {sz sl : Nat} {r1 : Int32} {s3 : cS} {k6 : Nat} {r7 : Int32} {r10 : Nat} {s12 : cS} {G13 : gm_H} {sz14 : Nat} {dd15 : Nat} {k17 : Nat} {fso19 : List Value} {r20 : Int32} {r23 : Int32} {r25 : Nat} {s27 : cS} {G28 : gm_H} {sz29 : Nat} {dd30 : Nat} (hN : N0 ≤ C) (t2 : gm_to N0 K ra_nm (ra_mt K) d 63 [.ref (C + 2), .int (126 : Int32)] (bM C (cH C s) G) sz (.returned (some (.int r1)), (bM C (cH C s3) G), sz, 0)) (c4 : r1 = 0) (h5 : s3.2.2 40 = some (C + 1)) (ek6 : (s3.1 41) = nI k6) (lk6 : k6 < 241) (t8 : gm_to N0 K ra_nm (ra_mt K) d 90 [.int (s3.2.1 1 k6)] (bM C (cH C s3) G) sz (.returned (some (.int r7)), (bM C (cH C s3) G), sz, 0)) (c9 : r7 = 0) (t11 : gm_to N0 K ra_nm (ra_mt K) d 68 [.ref (C + 2), .int (0 : Int32)] (bM C (cH C s3) G) sz (.returned (some (.ref r10)), (bM C (cH C s12) G13), sz14, dd15)) (h16 : s12.2.2 40 = some (C + 1)) (ek17 : (s12.1 41) = nI k17) (lk17 : k17 < 241) (c18 : (s12.2.1 1 k17) = (35 : Int32)) (ho19 : G13 r10 = some (.inr (5, fso19))) (hg_r10 : C + 34 ≤ r10) (t21 : gm_to N0 K ra_nm (ra_mt K) d 58 [.ref r10] (bM C (cH C s12) G13) sz14 (.returned (some (.int r20)), (bM C (cH C s12) G13), sz14, 0)) (c22 : ¬ r20 = 0) (t24 : gm_to N0 K ra_nm (ra_mt K) d 58 [.ref r10] (bM C (cH C s12) G13) sz14 (.returned (some (.int r23)), (bM C (cH C s12) G13), sz14, 0)) (t26 : gm_to N0 K ra_nm (ra_mt K) d 67 [.ref (C + 2), .int r23] (bM C (cH C s12) G13) sz14 (.returned (some (.ref r25)), (bM C (cH C s27) G28), sz29, dd30)) : gm_ev N0 K ra_nm (ra_mt K) d (some (.object "RuleArena$Literal")) (gm_I cX6_readLiteral) (gm_lkf (lkX6 false K)) 0 [some (.ref (C + 2)), none] [] (bM C (cH C s) G) sz sl (.returned (some (.ref r25)), (bM C (cH C s27) G28), sz29, ((sl + dd15) + dd30)) := by
  refine gm_ev.aload_n i66_0 rfl ?_
  refine gm_ev.bipush (v := 126) i66_1 (by decide) ?_
  refine gm_ev.callV gm_mono_run (av := [.int (126 : Int32)]) (r := []) (ci := 6) (fs := cF2 C s) (bM_get (j := 2) rfl) i66_3 rfl rfl rfl (Nat.le_of_ble_eq_true rfl) t2 ?_
  refine gm_ev.if_eq_t (tgt := 15) i66_6 (by decide) c4 ?_
  refine gm_ev.aload_n i66_15 rfl ?_
  refine gm_ev.getfield (v := .ref (C + 1)) i66_16 rfl (bM_fld (j := 2) (fs := cF2 C s3) rfl (cv_some h5)) ?_
  refine gm_ev.aload_n i66_19 rfl ?_
  refine gm_ev.getfield (v := .int (s3.1 41)) i66_20 rfl (bM_fld (j := 2) (fs := cF2 C s3) rfl rfl) ?_
  refine gm_ev.caload i66_23 (bM_ai (j := 1) (n := 241) (f := s3.2.1 1) rfl ek6 lk6 (by decide)) ?_
  refine gm_ev.callS gm_mono_run (av := [.int (s3.2.1 1 k6)]) (r := []) i66_24 rfl rfl rfl (Nat.le_of_ble_eq_true rfl) t8 ?_
  refine gm_ev.if_eq_t (tgt := 54) i66_27 (by decide) c9 ?_
  refine gm_ev.aload_n i66_54 rfl ?_
  refine gm_ev.iconst (v := 0) i66_55 (by decide) ?_
  refine gm_ev.callV gm_mono_run (av := [.int (0 : Int32)]) (r := []) (ci := 6) (fs := cF2 C s3) (bM_get (j := 2) rfl) i66_56 rfl rfl rfl (Nat.le_of_ble_eq_true rfl) t11 ?_
  refine gm_ev.astore_n (ls' := [some (.ref (C + 2)), some (.ref r10)]) i66_59 (Nat.le_of_ble_eq_true rfl) rfl ?_
  refine gm_ev.aload_n i66_60 rfl ?_
  refine gm_ev.ifnull_f i66_61 ?_
  refine gm_ev.aload_n i66_64 rfl ?_
  refine gm_ev.getfield (v := .ref (C + 1)) i66_65 rfl (bM_fld (j := 2) (fs := cF2 C s12) rfl (cv_some h16)) ?_
  refine gm_ev.aload_n i66_68 rfl ?_
  refine gm_ev.getfield (v := .int (s12.1 41)) i66_69 rfl (bM_fld (j := 2) (fs := cF2 C s12) rfl rfl) ?_
  refine gm_ev.caload i66_72 (bM_ai (j := 1) (n := 241) (f := s12.2.1 1) rfl ek17 lk17 (by decide)) ?_
  refine gm_ev.bipush (v := 35) i66_73 (by decide) ?_
  refine gm_ev.icmp_ne_f i66_75 c18 ?_
  refine gm_ev.aload_n i66_78 rfl ?_
  refine gm_ev.callV gm_mono_run (av := []) (r := []) (fs := fso19) (cG_get hg_r10 ho19) i66_79 rfl rfl rfl (Nat.le_of_ble_eq_true rfl) t21 ?_
  refine gm_ev.if_ne_t (tgt := 87) i66_82 (by decide) c22 ?_
  refine gm_ev.aload_n i66_87 rfl ?_
  refine gm_ev.aload_n i66_88 rfl ?_
  refine gm_ev.callV gm_mono_run (av := []) (r := [.ref (C + 2)]) (fs := fso19) (cG_get hg_r10 ho19) i66_89 rfl rfl rfl (Nat.le_of_ble_eq_true rfl) t24 ?_
  refine gm_ev.callV gm_mono_run (av := [.int r23]) (r := []) (ci := 6) (fs := cF2 C s12) (bM_get (j := 2) rfl) i66_92 rfl rfl rfl (Nat.le_of_ble_eq_true rfl) t26 ?_
  exact gm_ev.aret i66_95 rfl
theorem t_X6_readLiteral_0_ttrff {N0 : Nat} {K : Nat → Nat} {d C : Nat} {s : cS} {G : gm_H} {sz sl : Nat} {r1 : Int32} {s3 : cS} {k6 : Nat} {r7 : Int32} {r10 : Nat} {s12 : cS} {G13 : gm_H} {sz14 : Nat} {dd15 : Nat} {k17 : Nat} {fso19 : List Value} {r20 : Int32} (hN : N0 ≤ C) (t2 : gm_to N0 K ra_nm (ra_mt K) d 63 [.ref (C + 2), .int (126 : Int32)] (bM C (cH C s) G) sz (.returned (some (.int r1)), (bM C (cH C s3) G), sz, 0)) (c4 : r1 = 0) (h5 : s3.2.2 40 = some (C + 1)) (ek6 : (s3.1 41) = nI k6) (lk6 : k6 < 241) (t8 : gm_to N0 K ra_nm (ra_mt K) d 90 [.int (s3.2.1 1 k6)] (bM C (cH C s3) G) sz (.returned (some (.int r7)), (bM C (cH C s3) G), sz, 0)) (c9 : r7 = 0) (t11 : gm_to N0 K ra_nm (ra_mt K) d 68 [.ref (C + 2), .int (0 : Int32)] (bM C (cH C s3) G) sz (.returned (some (.ref r10)), (bM C (cH C s12) G13), sz14, dd15)) (h16 : s12.2.2 40 = some (C + 1)) (ek17 : (s12.1 41) = nI k17) (lk17 : k17 < 241) (c18 : (s12.2.1 1 k17) = (35 : Int32)) (ho19 : G13 r10 = some (.inr (5, fso19))) (hg_r10 : C + 34 ≤ r10) (t21 : gm_to N0 K ra_nm (ra_mt K) d 58 [.ref r10] (bM C (cH C s12) G13) sz14 (.returned (some (.int r20)), (bM C (cH C s12) G13), sz14, 0)) (c22 : r20 = 0) : gm_ev N0 K ra_nm (ra_mt K) d (some (.object "RuleArena$Literal")) (gm_I cX6_readLiteral) (gm_lkf (lkX6 false K)) 0 [some (.ref (C + 2)), none] [] (bM C (cH C s) G) sz sl (.returned (some (.ref r10)), (bM C (cH C s12) G13), sz14, (sl + dd15)) := by
  refine gm_ev.aload_n i66_0 rfl ?_
  refine gm_ev.bipush (v := 126) i66_1 (by decide) ?_
  refine gm_ev.callV gm_mono_run (av := [.int (126 : Int32)]) (r := []) (ci := 6) (fs := cF2 C s) (bM_get (j := 2) rfl) i66_3 rfl rfl rfl (Nat.le_of_ble_eq_true rfl) t2 ?_
  refine gm_ev.if_eq_t (tgt := 15) i66_6 (by decide) c4 ?_
  refine gm_ev.aload_n i66_15 rfl ?_
  refine gm_ev.getfield (v := .ref (C + 1)) i66_16 rfl (bM_fld (j := 2) (fs := cF2 C s3) rfl (cv_some h5)) ?_
  refine gm_ev.aload_n i66_19 rfl ?_
  refine gm_ev.getfield (v := .int (s3.1 41)) i66_20 rfl (bM_fld (j := 2) (fs := cF2 C s3) rfl rfl) ?_
  refine gm_ev.caload i66_23 (bM_ai (j := 1) (n := 241) (f := s3.2.1 1) rfl ek6 lk6 (by decide)) ?_
  refine gm_ev.callS gm_mono_run (av := [.int (s3.2.1 1 k6)]) (r := []) i66_24 rfl rfl rfl (Nat.le_of_ble_eq_true rfl) t8 ?_
  refine gm_ev.if_eq_t (tgt := 54) i66_27 (by decide) c9 ?_
  refine gm_ev.aload_n i66_54 rfl ?_
  refine gm_ev.iconst (v := 0) i66_55 (by decide) ?_
  refine gm_ev.callV gm_mono_run (av := [.int (0 : Int32)]) (r := []) (ci := 6) (fs := cF2 C s3) (bM_get (j := 2) rfl) i66_56 rfl rfl rfl (Nat.le_of_ble_eq_true rfl) t11 ?_
  refine gm_ev.astore_n (ls' := [some (.ref (C + 2)), some (.ref r10)]) i66_59 (Nat.le_of_ble_eq_true rfl) rfl ?_
  refine gm_ev.aload_n i66_60 rfl ?_
  refine gm_ev.ifnull_f i66_61 ?_
  refine gm_ev.aload_n i66_64 rfl ?_
  refine gm_ev.getfield (v := .ref (C + 1)) i66_65 rfl (bM_fld (j := 2) (fs := cF2 C s12) rfl (cv_some h16)) ?_
  refine gm_ev.aload_n i66_68 rfl ?_
  refine gm_ev.getfield (v := .int (s12.1 41)) i66_69 rfl (bM_fld (j := 2) (fs := cF2 C s12) rfl rfl) ?_
  refine gm_ev.caload i66_72 (bM_ai (j := 1) (n := 241) (f := s12.2.1 1) rfl ek17 lk17 (by decide)) ?_
  refine gm_ev.bipush (v := 35) i66_73 (by decide) ?_
  refine gm_ev.icmp_ne_f i66_75 c18 ?_
  refine gm_ev.aload_n i66_78 rfl ?_
  refine gm_ev.callV gm_mono_run (av := []) (r := []) (fs := fso19) (cG_get hg_r10 ho19) i66_79 rfl rfl rfl (Nat.le_of_ble_eq_true rfl) t21 ?_
  refine gm_ev.if_ne_f i66_82 c22 ?_
  refine gm_ev.aload_n i66_85 rfl ?_
  exact gm_ev.aret i66_86 rfl
theorem t_X6_readLiteral_0_tftn {N0 : Nat} {K : Nat → Nat} {d C : Nat} {s : cS} {G : gm_H} {sz sl : Nat} {r1 : Int32} {s3 : cS} {k6 : Nat} {r7 : Int32} {k10 : Nat} {r11 : Int32} {s15 : cS} {G16 : gm_H} {sz17 : Nat} {dd18 : Nat} (hN : N0 ≤ C) (t2 : gm_to N0 K ra_nm (ra_mt K) d 63 [.ref (C + 2), .int (126 : Int32)] (bM C (cH C s) G) sz (.returned (some (.int r1)), (bM C (cH C s3) G), sz, 0)) (c4 : r1 = 0) (h5 : s3.2.2 40 = some (C + 1)) (ek6 : (s3.1 41) = nI k6) (lk6 : k6 < 241) (t8 : gm_to N0 K ra_nm (ra_mt K) d 90 [.int (s3.2.1 1 k6)] (bM C (cH C s3) G) sz (.returned (some (.int r7)), (bM C (cH C s3) G), sz, 0)) (c9 : ¬ r7 = 0) (ek10 : (s3.1 41) = nI k10) (lk10 : k10 < 241) (t12 : gm_to N0 K ra_nm (ra_mt K) d 88 [.int (s3.2.1 1 k10)] (bM C (cH C s3) G) sz (.returned (some (.int r11)), (bM C (cH C s3) G), sz, 0)) (c13 : ¬ r11 = 0) (t14 : gm_to N0 K ra_nm (ra_mt K) d 68 [.ref (C + 2), .int (0 : Int32)] (bM C (cH C s3) G) sz (.returned (some .null), (bM C (cH C s15) G16), sz17, dd18)) : gm_ev N0 K ra_nm (ra_mt K) d (some (.object "RuleArena$Literal")) (gm_I cX6_readLiteral) (gm_lkf (lkX6 false K)) 0 [some (.ref (C + 2)), none] [] (bM C (cH C s) G) sz sl (.returned (some (.null)), (bM C (cH C s15) G16), sz17, (sl + dd18)) := by
  refine gm_ev.aload_n i66_0 rfl ?_
  refine gm_ev.bipush (v := 126) i66_1 (by decide) ?_
  refine gm_ev.callV gm_mono_run (av := [.int (126 : Int32)]) (r := []) (ci := 6) (fs := cF2 C s) (bM_get (j := 2) rfl) i66_3 rfl rfl rfl (Nat.le_of_ble_eq_true rfl) t2 ?_
  refine gm_ev.if_eq_t (tgt := 15) i66_6 (by decide) c4 ?_
  refine gm_ev.aload_n i66_15 rfl ?_
  refine gm_ev.getfield (v := .ref (C + 1)) i66_16 rfl (bM_fld (j := 2) (fs := cF2 C s3) rfl (cv_some h5)) ?_
  refine gm_ev.aload_n i66_19 rfl ?_
  refine gm_ev.getfield (v := .int (s3.1 41)) i66_20 rfl (bM_fld (j := 2) (fs := cF2 C s3) rfl rfl) ?_
  refine gm_ev.caload i66_23 (bM_ai (j := 1) (n := 241) (f := s3.2.1 1) rfl ek6 lk6 (by decide)) ?_
  refine gm_ev.callS gm_mono_run (av := [.int (s3.2.1 1 k6)]) (r := []) i66_24 rfl rfl rfl (Nat.le_of_ble_eq_true rfl) t8 ?_
  refine gm_ev.if_eq_f i66_27 c9 ?_
  refine gm_ev.aload_n i66_30 rfl ?_
  refine gm_ev.getfield (v := .ref (C + 1)) i66_31 rfl (bM_fld (j := 2) (fs := cF2 C s3) rfl (cv_some h5)) ?_
  refine gm_ev.aload_n i66_34 rfl ?_
  refine gm_ev.getfield (v := .int (s3.1 41)) i66_35 rfl (bM_fld (j := 2) (fs := cF2 C s3) rfl rfl) ?_
  refine gm_ev.caload i66_38 (bM_ai (j := 1) (n := 241) (f := s3.2.1 1) rfl ek10 lk10 (by decide)) ?_
  refine gm_ev.callS gm_mono_run (av := [.int (s3.2.1 1 k10)]) (r := []) i66_39 rfl rfl rfl (Nat.le_of_ble_eq_true rfl) t12 ?_
  refine gm_ev.if_ne_t (tgt := 54) i66_42 (by decide) c13 ?_
  refine gm_ev.aload_n i66_54 rfl ?_
  refine gm_ev.iconst (v := 0) i66_55 (by decide) ?_
  refine gm_ev.callV gm_mono_run (av := [.int (0 : Int32)]) (r := []) (ci := 6) (fs := cF2 C s3) (bM_get (j := 2) rfl) i66_56 rfl rfl rfl (Nat.le_of_ble_eq_true rfl) t14 ?_
  refine gm_ev.astoreN_n (ls' := [some (.ref (C + 2)), some (.null)]) i66_59 (Nat.le_of_ble_eq_true rfl) rfl ?_
  refine gm_ev.aloadN_n i66_60 rfl ?_
  refine gm_ev.ifnull_t (tgt := 85) i66_61 (by decide) ?_
  refine gm_ev.aloadN_n i66_85 rfl ?_
  exact gm_ev.aretN i66_86 rfl
theorem t_X6_readLiteral_0_tftrt {N0 : Nat} {K : Nat → Nat} {d C : Nat} {s : cS} {G : gm_H} {sz sl : Nat} {r1 : Int32} {s3 : cS} {k6 : Nat} {r7 : Int32} {k10 : Nat} {r11 : Int32} {r14 : Nat} {s16 : cS} {G17 : gm_H} {sz18 : Nat} {dd19 : Nat} {k21 : Nat} (hN : N0 ≤ C) (t2 : gm_to N0 K ra_nm (ra_mt K) d 63 [.ref (C + 2), .int (126 : Int32)] (bM C (cH C s) G) sz (.returned (some (.int r1)), (bM C (cH C s3) G), sz, 0)) (c4 : r1 = 0) (h5 : s3.2.2 40 = some (C + 1)) (ek6 : (s3.1 41) = nI k6) (lk6 : k6 < 241) (t8 : gm_to N0 K ra_nm (ra_mt K) d 90 [.int (s3.2.1 1 k6)] (bM C (cH C s3) G) sz (.returned (some (.int r7)), (bM C (cH C s3) G), sz, 0)) (c9 : ¬ r7 = 0) (ek10 : (s3.1 41) = nI k10) (lk10 : k10 < 241) (t12 : gm_to N0 K ra_nm (ra_mt K) d 88 [.int (s3.2.1 1 k10)] (bM C (cH C s3) G) sz (.returned (some (.int r11)), (bM C (cH C s3) G), sz, 0)) (c13 : ¬ r11 = 0) (t15 : gm_to N0 K ra_nm (ra_mt K) d 68 [.ref (C + 2), .int (0 : Int32)] (bM C (cH C s3) G) sz (.returned (some (.ref r14)), (bM C (cH C s16) G17), sz18, dd19)) (h20 : s16.2.2 40 = some (C + 1)) (ek21 : (s16.1 41) = nI k21) (lk21 : k21 < 241) (c22 : ¬ (s16.2.1 1 k21) = (35 : Int32)) : gm_ev N0 K ra_nm (ra_mt K) d (some (.object "RuleArena$Literal")) (gm_I cX6_readLiteral) (gm_lkf (lkX6 false K)) 0 [some (.ref (C + 2)), none] [] (bM C (cH C s) G) sz sl (.returned (some (.ref r14)), (bM C (cH C s16) G17), sz18, (sl + dd19)) := by
  refine gm_ev.aload_n i66_0 rfl ?_
  refine gm_ev.bipush (v := 126) i66_1 (by decide) ?_
  refine gm_ev.callV gm_mono_run (av := [.int (126 : Int32)]) (r := []) (ci := 6) (fs := cF2 C s) (bM_get (j := 2) rfl) i66_3 rfl rfl rfl (Nat.le_of_ble_eq_true rfl) t2 ?_
  refine gm_ev.if_eq_t (tgt := 15) i66_6 (by decide) c4 ?_
  refine gm_ev.aload_n i66_15 rfl ?_
  refine gm_ev.getfield (v := .ref (C + 1)) i66_16 rfl (bM_fld (j := 2) (fs := cF2 C s3) rfl (cv_some h5)) ?_
  refine gm_ev.aload_n i66_19 rfl ?_
  refine gm_ev.getfield (v := .int (s3.1 41)) i66_20 rfl (bM_fld (j := 2) (fs := cF2 C s3) rfl rfl) ?_
  refine gm_ev.caload i66_23 (bM_ai (j := 1) (n := 241) (f := s3.2.1 1) rfl ek6 lk6 (by decide)) ?_
  refine gm_ev.callS gm_mono_run (av := [.int (s3.2.1 1 k6)]) (r := []) i66_24 rfl rfl rfl (Nat.le_of_ble_eq_true rfl) t8 ?_
  refine gm_ev.if_eq_f i66_27 c9 ?_
  refine gm_ev.aload_n i66_30 rfl ?_
  refine gm_ev.getfield (v := .ref (C + 1)) i66_31 rfl (bM_fld (j := 2) (fs := cF2 C s3) rfl (cv_some h5)) ?_
  refine gm_ev.aload_n i66_34 rfl ?_
  refine gm_ev.getfield (v := .int (s3.1 41)) i66_35 rfl (bM_fld (j := 2) (fs := cF2 C s3) rfl rfl) ?_
  refine gm_ev.caload i66_38 (bM_ai (j := 1) (n := 241) (f := s3.2.1 1) rfl ek10 lk10 (by decide)) ?_
  refine gm_ev.callS gm_mono_run (av := [.int (s3.2.1 1 k10)]) (r := []) i66_39 rfl rfl rfl (Nat.le_of_ble_eq_true rfl) t12 ?_
  refine gm_ev.if_ne_t (tgt := 54) i66_42 (by decide) c13 ?_
  refine gm_ev.aload_n i66_54 rfl ?_
  refine gm_ev.iconst (v := 0) i66_55 (by decide) ?_
  refine gm_ev.callV gm_mono_run (av := [.int (0 : Int32)]) (r := []) (ci := 6) (fs := cF2 C s3) (bM_get (j := 2) rfl) i66_56 rfl rfl rfl (Nat.le_of_ble_eq_true rfl) t15 ?_
  refine gm_ev.astore_n (ls' := [some (.ref (C + 2)), some (.ref r14)]) i66_59 (Nat.le_of_ble_eq_true rfl) rfl ?_
  refine gm_ev.aload_n i66_60 rfl ?_
  refine gm_ev.ifnull_f i66_61 ?_
  refine gm_ev.aload_n i66_64 rfl ?_
  refine gm_ev.getfield (v := .ref (C + 1)) i66_65 rfl (bM_fld (j := 2) (fs := cF2 C s16) rfl (cv_some h20)) ?_
  refine gm_ev.aload_n i66_68 rfl ?_
  refine gm_ev.getfield (v := .int (s16.1 41)) i66_69 rfl (bM_fld (j := 2) (fs := cF2 C s16) rfl rfl) ?_
  refine gm_ev.caload i66_72 (bM_ai (j := 1) (n := 241) (f := s16.2.1 1) rfl ek21 lk21 (by decide)) ?_
  refine gm_ev.bipush (v := 35) i66_73 (by decide) ?_
  refine gm_ev.icmp_ne_t (tgt := 85) i66_75 (by decide) c22 ?_
  refine gm_ev.aload_n i66_85 rfl ?_
  exact gm_ev.aret i66_86 rfl
theorem t_X6_readLiteral_0_tftrftn {N0 : Nat} {K : Nat → Nat} {d C : Nat} {s : cS} {G : gm_H} {sz sl : Nat} {r1 : Int32} {s3 : cS} {k6 : Nat} {r7 : Int32} {k10 : Nat} {r11 : Int32} {r14 : Nat} {s16 : cS} {G17 : gm_H} {sz18 : Nat} {dd19 : Nat} {k21 : Nat} {fso23 : List Value} {r24 : Int32} {r27 : Int32} {s30 : cS} {G31 : gm_H} {sz32 : Nat} {dd33 : Nat} (hN : N0 ≤ C) (t2 : gm_to N0 K ra_nm (ra_mt K) d 63 [.ref (C + 2), .int (126 : Int32)] (bM C (cH C s) G) sz (.returned (some (.int r1)), (bM C (cH C s3) G), sz, 0)) (c4 : r1 = 0) (h5 : s3.2.2 40 = some (C + 1)) (ek6 : (s3.1 41) = nI k6) (lk6 : k6 < 241) (t8 : gm_to N0 K ra_nm (ra_mt K) d 90 [.int (s3.2.1 1 k6)] (bM C (cH C s3) G) sz (.returned (some (.int r7)), (bM C (cH C s3) G), sz, 0)) (c9 : ¬ r7 = 0) (ek10 : (s3.1 41) = nI k10) (lk10 : k10 < 241) (t12 : gm_to N0 K ra_nm (ra_mt K) d 88 [.int (s3.2.1 1 k10)] (bM C (cH C s3) G) sz (.returned (some (.int r11)), (bM C (cH C s3) G), sz, 0)) (c13 : ¬ r11 = 0) (t15 : gm_to N0 K ra_nm (ra_mt K) d 68 [.ref (C + 2), .int (0 : Int32)] (bM C (cH C s3) G) sz (.returned (some (.ref r14)), (bM C (cH C s16) G17), sz18, dd19)) (h20 : s16.2.2 40 = some (C + 1)) (ek21 : (s16.1 41) = nI k21) (lk21 : k21 < 241) (c22 : (s16.2.1 1 k21) = (35 : Int32)) (ho23 : G17 r14 = some (.inr (5, fso23))) (hg_r14 : C + 34 ≤ r14) (t25 : gm_to N0 K ra_nm (ra_mt K) d 58 [.ref r14] (bM C (cH C s16) G17) sz18 (.returned (some (.int r24)), (bM C (cH C s16) G17), sz18, 0)) (c26 : ¬ r24 = 0) (t28 : gm_to N0 K ra_nm (ra_mt K) d 58 [.ref r14] (bM C (cH C s16) G17) sz18 (.returned (some (.int r27)), (bM C (cH C s16) G17), sz18, 0)) (t29 : gm_to N0 K ra_nm (ra_mt K) d 67 [.ref (C + 2), .int r27] (bM C (cH C s16) G17) sz18 (.returned (some .null), (bM C (cH C s30) G31), sz32, dd33)) : gm_ev N0 K ra_nm (ra_mt K) d (some (.object "RuleArena$Literal")) (gm_I cX6_readLiteral) (gm_lkf (lkX6 false K)) 0 [some (.ref (C + 2)), none] [] (bM C (cH C s) G) sz sl (.returned (some (.null)), (bM C (cH C s30) G31), sz32, ((sl + dd19) + dd33)) := by
  refine gm_ev.aload_n i66_0 rfl ?_
  refine gm_ev.bipush (v := 126) i66_1 (by decide) ?_
  refine gm_ev.callV gm_mono_run (av := [.int (126 : Int32)]) (r := []) (ci := 6) (fs := cF2 C s) (bM_get (j := 2) rfl) i66_3 rfl rfl rfl (Nat.le_of_ble_eq_true rfl) t2 ?_
  refine gm_ev.if_eq_t (tgt := 15) i66_6 (by decide) c4 ?_
  refine gm_ev.aload_n i66_15 rfl ?_
  refine gm_ev.getfield (v := .ref (C + 1)) i66_16 rfl (bM_fld (j := 2) (fs := cF2 C s3) rfl (cv_some h5)) ?_
  refine gm_ev.aload_n i66_19 rfl ?_
  refine gm_ev.getfield (v := .int (s3.1 41)) i66_20 rfl (bM_fld (j := 2) (fs := cF2 C s3) rfl rfl) ?_
  refine gm_ev.caload i66_23 (bM_ai (j := 1) (n := 241) (f := s3.2.1 1) rfl ek6 lk6 (by decide)) ?_
  refine gm_ev.callS gm_mono_run (av := [.int (s3.2.1 1 k6)]) (r := []) i66_24 rfl rfl rfl (Nat.le_of_ble_eq_true rfl) t8 ?_
  refine gm_ev.if_eq_f i66_27 c9 ?_
  refine gm_ev.aload_n i66_30 rfl ?_
  refine gm_ev.getfield (v := .ref (C + 1)) i66_31 rfl (bM_fld (j := 2) (fs := cF2 C s3) rfl (cv_some h5)) ?_
  refine gm_ev.aload_n i66_34 rfl ?_
  refine gm_ev.getfield (v := .int (s3.1 41)) i66_35 rfl (bM_fld (j := 2) (fs := cF2 C s3) rfl rfl) ?_
  refine gm_ev.caload i66_38 (bM_ai (j := 1) (n := 241) (f := s3.2.1 1) rfl ek10 lk10 (by decide)) ?_
  refine gm_ev.callS gm_mono_run (av := [.int (s3.2.1 1 k10)]) (r := []) i66_39 rfl rfl rfl (Nat.le_of_ble_eq_true rfl) t12 ?_
  refine gm_ev.if_ne_t (tgt := 54) i66_42 (by decide) c13 ?_
  refine gm_ev.aload_n i66_54 rfl ?_
  refine gm_ev.iconst (v := 0) i66_55 (by decide) ?_
  refine gm_ev.callV gm_mono_run (av := [.int (0 : Int32)]) (r := []) (ci := 6) (fs := cF2 C s3) (bM_get (j := 2) rfl) i66_56 rfl rfl rfl (Nat.le_of_ble_eq_true rfl) t15 ?_
  refine gm_ev.astore_n (ls' := [some (.ref (C + 2)), some (.ref r14)]) i66_59 (Nat.le_of_ble_eq_true rfl) rfl ?_
  refine gm_ev.aload_n i66_60 rfl ?_
  refine gm_ev.ifnull_f i66_61 ?_
  refine gm_ev.aload_n i66_64 rfl ?_
  refine gm_ev.getfield (v := .ref (C + 1)) i66_65 rfl (bM_fld (j := 2) (fs := cF2 C s16) rfl (cv_some h20)) ?_
  refine gm_ev.aload_n i66_68 rfl ?_
  refine gm_ev.getfield (v := .int (s16.1 41)) i66_69 rfl (bM_fld (j := 2) (fs := cF2 C s16) rfl rfl) ?_
  refine gm_ev.caload i66_72 (bM_ai (j := 1) (n := 241) (f := s16.2.1 1) rfl ek21 lk21 (by decide)) ?_
  refine gm_ev.bipush (v := 35) i66_73 (by decide) ?_
  refine gm_ev.icmp_ne_f i66_75 c22 ?_
  refine gm_ev.aload_n i66_78 rfl ?_
  refine gm_ev.callV gm_mono_run (av := []) (r := []) (fs := fso23) (cG_get hg_r14 ho23) i66_79 rfl rfl rfl (Nat.le_of_ble_eq_true rfl) t25 ?_
  refine gm_ev.if_ne_t (tgt := 87) i66_82 (by decide) c26 ?_
  refine gm_ev.aload_n i66_87 rfl ?_
  refine gm_ev.aload_n i66_88 rfl ?_
  refine gm_ev.callV gm_mono_run (av := []) (r := [.ref (C + 2)]) (fs := fso23) (cG_get hg_r14 ho23) i66_89 rfl rfl rfl (Nat.le_of_ble_eq_true rfl) t28 ?_
  refine gm_ev.callV gm_mono_run (av := [.int r27]) (r := []) (ci := 6) (fs := cF2 C s16) (bM_get (j := 2) rfl) i66_92 rfl rfl rfl (Nat.le_of_ble_eq_true rfl) t29 ?_
  exact gm_ev.aretN i66_95 rfl
theorem t_X6_readLiteral_0_tftrftr {N0 : Nat} {K : Nat → Nat} {d C : Nat} {s : cS} {G : gm_H} {sz sl : Nat} {r1 : Int32} {s3 : cS} {k6 : Nat} {r7 : Int32} {k10 : Nat} {r11 : Int32} {r14 : Nat} {s16 : cS} {G17 : gm_H} {sz18 : Nat} {dd19 : Nat} {k21 : Nat} {fso23 : List Value} {r24 : Int32} {r27 : Int32} {r29 : Nat} {s31 : cS} {G32 : gm_H} {sz33 : Nat} {dd34 : Nat} (hN : N0 ≤ C) (t2 : gm_to N0 K ra_nm (ra_mt K) d 63 [.ref (C + 2), .int (126 : Int32)] (bM C (cH C s) G) sz (.returned (some (.int r1)), (bM C (cH C s3) G), sz, 0)) (c4 : r1 = 0) (h5 : s3.2.2 40 = some (C + 1)) (ek6 : (s3.1 41) = nI k6) (lk6 : k6 < 241) (t8 : gm_to N0 K ra_nm (ra_mt K) d 90 [.int (s3.2.1 1 k6)] (bM C (cH C s3) G) sz (.returned (some (.int r7)), (bM C (cH C s3) G), sz, 0)) (c9 : ¬ r7 = 0) (ek10 : (s3.1 41) = nI k10) (lk10 : k10 < 241) (t12 : gm_to N0 K ra_nm (ra_mt K) d 88 [.int (s3.2.1 1 k10)] (bM C (cH C s3) G) sz (.returned (some (.int r11)), (bM C (cH C s3) G), sz, 0)) (c13 : ¬ r11 = 0) (t15 : gm_to N0 K ra_nm (ra_mt K) d 68 [.ref (C + 2), .int (0 : Int32)] (bM C (cH C s3) G) sz (.returned (some (.ref r14)), (bM C (cH C s16) G17), sz18, dd19)) (h20 : s16.2.2 40 = some (C + 1)) (ek21 : (s16.1 41) = nI k21) (lk21 : k21 < 241) (c22 : (s16.2.1 1 k21) = (35 : Int32)) (ho23 : G17 r14 = some (.inr (5, fso23))) (hg_r14 : C + 34 ≤ r14) (t25 : gm_to N0 K ra_nm (ra_mt K) d 58 [.ref r14] (bM C (cH C s16) G17) sz18 (.returned (some (.int r24)), (bM C (cH C s16) G17), sz18, 0)) (c26 : ¬ r24 = 0) (t28 : gm_to N0 K ra_nm (ra_mt K) d 58 [.ref r14] (bM C (cH C s16) G17) sz18 (.returned (some (.int r27)), (bM C (cH C s16) G17), sz18, 0)) (t30 : gm_to N0 K ra_nm (ra_mt K) d 67 [.ref (C + 2), .int r27] (bM C (cH C s16) G17) sz18 (.returned (some (.ref r29)), (bM C (cH C s31) G32), sz33, dd34)) : gm_ev N0 K ra_nm (ra_mt K) d (some (.object "RuleArena$Literal")) (gm_I cX6_readLiteral) (gm_lkf (lkX6 false K)) 0 [some (.ref (C + 2)), none] [] (bM C (cH C s) G) sz sl (.returned (some (.ref r29)), (bM C (cH C s31) G32), sz33, ((sl + dd19) + dd34)) := by
  refine gm_ev.aload_n i66_0 rfl ?_
  refine gm_ev.bipush (v := 126) i66_1 (by decide) ?_
  refine gm_ev.callV gm_mono_run (av := [.int (126 : Int32)]) (r := []) (ci := 6) (fs := cF2 C s) (bM_get (j := 2) rfl) i66_3 rfl rfl rfl (Nat.le_of_ble_eq_true rfl) t2 ?_
  refine gm_ev.if_eq_t (tgt := 15) i66_6 (by decide) c4 ?_
  refine gm_ev.aload_n i66_15 rfl ?_
  refine gm_ev.getfield (v := .ref (C + 1)) i66_16 rfl (bM_fld (j := 2) (fs := cF2 C s3) rfl (cv_some h5)) ?_
  refine gm_ev.aload_n i66_19 rfl ?_
  refine gm_ev.getfield (v := .int (s3.1 41)) i66_20 rfl (bM_fld (j := 2) (fs := cF2 C s3) rfl rfl) ?_
  refine gm_ev.caload i66_23 (bM_ai (j := 1) (n := 241) (f := s3.2.1 1) rfl ek6 lk6 (by decide)) ?_
  refine gm_ev.callS gm_mono_run (av := [.int (s3.2.1 1 k6)]) (r := []) i66_24 rfl rfl rfl (Nat.le_of_ble_eq_true rfl) t8 ?_
  refine gm_ev.if_eq_f i66_27 c9 ?_
  refine gm_ev.aload_n i66_30 rfl ?_
  refine gm_ev.getfield (v := .ref (C + 1)) i66_31 rfl (bM_fld (j := 2) (fs := cF2 C s3) rfl (cv_some h5)) ?_
  refine gm_ev.aload_n i66_34 rfl ?_
  refine gm_ev.getfield (v := .int (s3.1 41)) i66_35 rfl (bM_fld (j := 2) (fs := cF2 C s3) rfl rfl) ?_
  refine gm_ev.caload i66_38 (bM_ai (j := 1) (n := 241) (f := s3.2.1 1) rfl ek10 lk10 (by decide)) ?_
  refine gm_ev.callS gm_mono_run (av := [.int (s3.2.1 1 k10)]) (r := []) i66_39 rfl rfl rfl (Nat.le_of_ble_eq_true rfl) t12 ?_
  refine gm_ev.if_ne_t (tgt := 54) i66_42 (by decide) c13 ?_
  refine gm_ev.aload_n i66_54 rfl ?_
  refine gm_ev.iconst (v := 0) i66_55 (by decide) ?_
  refine gm_ev.callV gm_mono_run (av := [.int (0 : Int32)]) (r := []) (ci := 6) (fs := cF2 C s3) (bM_get (j := 2) rfl) i66_56 rfl rfl rfl (Nat.le_of_ble_eq_true rfl) t15 ?_
  refine gm_ev.astore_n (ls' := [some (.ref (C + 2)), some (.ref r14)]) i66_59 (Nat.le_of_ble_eq_true rfl) rfl ?_
  refine gm_ev.aload_n i66_60 rfl ?_
  refine gm_ev.ifnull_f i66_61 ?_
  refine gm_ev.aload_n i66_64 rfl ?_
  refine gm_ev.getfield (v := .ref (C + 1)) i66_65 rfl (bM_fld (j := 2) (fs := cF2 C s16) rfl (cv_some h20)) ?_
  refine gm_ev.aload_n i66_68 rfl ?_
  refine gm_ev.getfield (v := .int (s16.1 41)) i66_69 rfl (bM_fld (j := 2) (fs := cF2 C s16) rfl rfl) ?_
  refine gm_ev.caload i66_72 (bM_ai (j := 1) (n := 241) (f := s16.2.1 1) rfl ek21 lk21 (by decide)) ?_
  refine gm_ev.bipush (v := 35) i66_73 (by decide) ?_
  refine gm_ev.icmp_ne_f i66_75 c22 ?_
  refine gm_ev.aload_n i66_78 rfl ?_
  refine gm_ev.callV gm_mono_run (av := []) (r := []) (fs := fso23) (cG_get hg_r14 ho23) i66_79 rfl rfl rfl (Nat.le_of_ble_eq_true rfl) t25 ?_
  refine gm_ev.if_ne_t (tgt := 87) i66_82 (by decide) c26 ?_
  refine gm_ev.aload_n i66_87 rfl ?_
  refine gm_ev.aload_n i66_88 rfl ?_
  refine gm_ev.callV gm_mono_run (av := []) (r := [.ref (C + 2)]) (fs := fso23) (cG_get hg_r14 ho23) i66_89 rfl rfl rfl (Nat.le_of_ble_eq_true rfl) t28 ?_
  refine gm_ev.callV gm_mono_run (av := [.int r27]) (r := []) (ci := 6) (fs := cF2 C s16) (bM_get (j := 2) rfl) i66_92 rfl rfl rfl (Nat.le_of_ble_eq_true rfl) t30 ?_
  exact gm_ev.aret i66_95 rfl
theorem t_X6_readLiteral_0_tftrff {N0 : Nat} {K : Nat → Nat} {d C : Nat} {s : cS} {G : gm_H} {sz sl : Nat} {r1 : Int32} {s3 : cS} {k6 : Nat} {r7 : Int32} {k10 : Nat} {r11 : Int32} {r14 : Nat} {s16 : cS} {G17 : gm_H} {sz18 : Nat} {dd19 : Nat} {k21 : Nat} {fso23 : List Value} {r24 : Int32} (hN : N0 ≤ C) (t2 : gm_to N0 K ra_nm (ra_mt K) d 63 [.ref (C + 2), .int (126 : Int32)] (bM C (cH C s) G) sz (.returned (some (.int r1)), (bM C (cH C s3) G), sz, 0)) (c4 : r1 = 0) (h5 : s3.2.2 40 = some (C + 1)) (ek6 : (s3.1 41) = nI k6) (lk6 : k6 < 241) (t8 : gm_to N0 K ra_nm (ra_mt K) d 90 [.int (s3.2.1 1 k6)] (bM C (cH C s3) G) sz (.returned (some (.int r7)), (bM C (cH C s3) G), sz, 0)) (c9 : ¬ r7 = 0) (ek10 : (s3.1 41) = nI k10) (lk10 : k10 < 241) (t12 : gm_to N0 K ra_nm (ra_mt K) d 88 [.int (s3.2.1 1 k10)] (bM C (cH C s3) G) sz (.returned (some (.int r11)), (bM C (cH C s3) G), sz, 0)) (c13 : ¬ r11 = 0) (t15 : gm_to N0 K ra_nm (ra_mt K) d 68 [.ref (C + 2), .int (0 : Int32)] (bM C (cH C s3) G) sz (.returned (some (.ref r14)), (bM C (cH C s16) G17), sz18, dd19)) (h20 : s16.2.2 40 = some (C + 1)) (ek21 : (s16.1 41) = nI k21) (lk21 : k21 < 241) (c22 : (s16.2.1 1 k21) = (35 : Int32)) (ho23 : G17 r14 = some (.inr (5, fso23))) (hg_r14 : C + 34 ≤ r14) (t25 : gm_to N0 K ra_nm (ra_mt K) d 58 [.ref r14] (bM C (cH C s16) G17) sz18 (.returned (some (.int r24)), (bM C (cH C s16) G17), sz18, 0)) (c26 : r24 = 0) : gm_ev N0 K ra_nm (ra_mt K) d (some (.object "RuleArena$Literal")) (gm_I cX6_readLiteral) (gm_lkf (lkX6 false K)) 0 [some (.ref (C + 2)), none] [] (bM C (cH C s) G) sz sl (.returned (some (.ref r14)), (bM C (cH C s16) G17), sz18, (sl + dd19)) := by
  refine gm_ev.aload_n i66_0 rfl ?_
  refine gm_ev.bipush (v := 126) i66_1 (by decide) ?_
  refine gm_ev.callV gm_mono_run (av := [.int (126 : Int32)]) (r := []) (ci := 6) (fs := cF2 C s) (bM_get (j := 2) rfl) i66_3 rfl rfl rfl (Nat.le_of_ble_eq_true rfl) t2 ?_
  refine gm_ev.if_eq_t (tgt := 15) i66_6 (by decide) c4 ?_
  refine gm_ev.aload_n i66_15 rfl ?_
  refine gm_ev.getfield (v := .ref (C + 1)) i66_16 rfl (bM_fld (j := 2) (fs := cF2 C s3) rfl (cv_some h5)) ?_
  refine gm_ev.aload_n i66_19 rfl ?_
  refine gm_ev.getfield (v := .int (s3.1 41)) i66_20 rfl (bM_fld (j := 2) (fs := cF2 C s3) rfl rfl) ?_
  refine gm_ev.caload i66_23 (bM_ai (j := 1) (n := 241) (f := s3.2.1 1) rfl ek6 lk6 (by decide)) ?_
  refine gm_ev.callS gm_mono_run (av := [.int (s3.2.1 1 k6)]) (r := []) i66_24 rfl rfl rfl (Nat.le_of_ble_eq_true rfl) t8 ?_
  refine gm_ev.if_eq_f i66_27 c9 ?_
  refine gm_ev.aload_n i66_30 rfl ?_
  refine gm_ev.getfield (v := .ref (C + 1)) i66_31 rfl (bM_fld (j := 2) (fs := cF2 C s3) rfl (cv_some h5)) ?_
  refine gm_ev.aload_n i66_34 rfl ?_
  refine gm_ev.getfield (v := .int (s3.1 41)) i66_35 rfl (bM_fld (j := 2) (fs := cF2 C s3) rfl rfl) ?_
  refine gm_ev.caload i66_38 (bM_ai (j := 1) (n := 241) (f := s3.2.1 1) rfl ek10 lk10 (by decide)) ?_
  refine gm_ev.callS gm_mono_run (av := [.int (s3.2.1 1 k10)]) (r := []) i66_39 rfl rfl rfl (Nat.le_of_ble_eq_true rfl) t12 ?_
  refine gm_ev.if_ne_t (tgt := 54) i66_42 (by decide) c13 ?_
  refine gm_ev.aload_n i66_54 rfl ?_
  refine gm_ev.iconst (v := 0) i66_55 (by decide) ?_
  refine gm_ev.callV gm_mono_run (av := [.int (0 : Int32)]) (r := []) (ci := 6) (fs := cF2 C s3) (bM_get (j := 2) rfl) i66_56 rfl rfl rfl (Nat.le_of_ble_eq_true rfl) t15 ?_
  refine gm_ev.astore_n (ls' := [some (.ref (C + 2)), some (.ref r14)]) i66_59 (Nat.le_of_ble_eq_true rfl) rfl ?_
  refine gm_ev.aload_n i66_60 rfl ?_
  refine gm_ev.ifnull_f i66_61 ?_
  refine gm_ev.aload_n i66_64 rfl ?_
  refine gm_ev.getfield (v := .ref (C + 1)) i66_65 rfl (bM_fld (j := 2) (fs := cF2 C s16) rfl (cv_some h20)) ?_
  refine gm_ev.aload_n i66_68 rfl ?_
  refine gm_ev.getfield (v := .int (s16.1 41)) i66_69 rfl (bM_fld (j := 2) (fs := cF2 C s16) rfl rfl) ?_
  refine gm_ev.caload i66_72 (bM_ai (j := 1) (n := 241) (f := s16.2.1 1) rfl ek21 lk21 (by decide)) ?_
  refine gm_ev.bipush (v := 35) i66_73 (by decide) ?_
  refine gm_ev.icmp_ne_f i66_75 c22 ?_
  refine gm_ev.aload_n i66_78 rfl ?_
  refine gm_ev.callV gm_mono_run (av := []) (r := []) (fs := fso23) (cG_get hg_r14 ho23) i66_79 rfl rfl rfl (Nat.le_of_ble_eq_true rfl) t25 ?_
  refine gm_ev.if_ne_f i66_82 c26 ?_
  refine gm_ev.aload_n i66_85 rfl ?_
  exact gm_ev.aret i66_86 rfl
theorem t_X6_readLiteral_0_tffn {N0 : Nat} {K : Nat → Nat} {d C : Nat} {s : cS} {G : gm_H} {sz sl : Nat} {r1 : Int32} {s3 : cS} {k6 : Nat} {r7 : Int32} {k10 : Nat} {r11 : Int32} {r14 : Int32} {s16 : cS} {s18 : cS} {G19 : gm_H} {sz20 : Nat} {dd21 : Nat} (hN : N0 ≤ C) (t2 : gm_to N0 K ra_nm (ra_mt K) d 63 [.ref (C + 2), .int (126 : Int32)] (bM C (cH C s) G) sz (.returned (some (.int r1)), (bM C (cH C s3) G), sz, 0)) (c4 : r1 = 0) (h5 : s3.2.2 40 = some (C + 1)) (ek6 : (s3.1 41) = nI k6) (lk6 : k6 < 241) (t8 : gm_to N0 K ra_nm (ra_mt K) d 90 [.int (s3.2.1 1 k6)] (bM C (cH C s3) G) sz (.returned (some (.int r7)), (bM C (cH C s3) G), sz, 0)) (c9 : ¬ r7 = 0) (ek10 : (s3.1 41) = nI k10) (lk10 : k10 < 241) (t12 : gm_to N0 K ra_nm (ra_mt K) d 88 [.int (s3.2.1 1 k10)] (bM C (cH C s3) G) sz (.returned (some (.int r11)), (bM C (cH C s3) G), sz, 0)) (c13 : r11 = 0) (t15 : gm_to N0 K ra_nm (ra_mt K) d 69 [.ref (C + 2)] (bM C (cH C s3) G) sz (.returned (some (.int r14)), (bM C (cH C s16) G), sz, 0)) (t17 : gm_to N0 K ra_nm (ra_mt K) d 67 [.ref (C + 2), .int r14] (bM C (cH C s16) G) sz (.returned (some .null), (bM C (cH C s18) G19), sz20, dd21)) : gm_ev N0 K ra_nm (ra_mt K) d (some (.object "RuleArena$Literal")) (gm_I cX6_readLiteral) (gm_lkf (lkX6 false K)) 0 [some (.ref (C + 2)), none] [] (bM C (cH C s) G) sz sl (.returned (some (.null)), (bM C (cH C s18) G19), sz20, (sl + dd21)) := by
  refine gm_ev.aload_n i66_0 rfl ?_
  refine gm_ev.bipush (v := 126) i66_1 (by decide) ?_
  refine gm_ev.callV gm_mono_run (av := [.int (126 : Int32)]) (r := []) (ci := 6) (fs := cF2 C s) (bM_get (j := 2) rfl) i66_3 rfl rfl rfl (Nat.le_of_ble_eq_true rfl) t2 ?_
  refine gm_ev.if_eq_t (tgt := 15) i66_6 (by decide) c4 ?_
  refine gm_ev.aload_n i66_15 rfl ?_
  refine gm_ev.getfield (v := .ref (C + 1)) i66_16 rfl (bM_fld (j := 2) (fs := cF2 C s3) rfl (cv_some h5)) ?_
  refine gm_ev.aload_n i66_19 rfl ?_
  refine gm_ev.getfield (v := .int (s3.1 41)) i66_20 rfl (bM_fld (j := 2) (fs := cF2 C s3) rfl rfl) ?_
  refine gm_ev.caload i66_23 (bM_ai (j := 1) (n := 241) (f := s3.2.1 1) rfl ek6 lk6 (by decide)) ?_
  refine gm_ev.callS gm_mono_run (av := [.int (s3.2.1 1 k6)]) (r := []) i66_24 rfl rfl rfl (Nat.le_of_ble_eq_true rfl) t8 ?_
  refine gm_ev.if_eq_f i66_27 c9 ?_
  refine gm_ev.aload_n i66_30 rfl ?_
  refine gm_ev.getfield (v := .ref (C + 1)) i66_31 rfl (bM_fld (j := 2) (fs := cF2 C s3) rfl (cv_some h5)) ?_
  refine gm_ev.aload_n i66_34 rfl ?_
  refine gm_ev.getfield (v := .int (s3.1 41)) i66_35 rfl (bM_fld (j := 2) (fs := cF2 C s3) rfl rfl) ?_
  refine gm_ev.caload i66_38 (bM_ai (j := 1) (n := 241) (f := s3.2.1 1) rfl ek10 lk10 (by decide)) ?_
  refine gm_ev.callS gm_mono_run (av := [.int (s3.2.1 1 k10)]) (r := []) i66_39 rfl rfl rfl (Nat.le_of_ble_eq_true rfl) t12 ?_
  refine gm_ev.if_ne_f i66_42 c13 ?_
  refine gm_ev.aload_n i66_45 rfl ?_
  refine gm_ev.aload_n i66_46 rfl ?_
  refine gm_ev.callV gm_mono_run (av := []) (r := [.ref (C + 2)]) (ci := 6) (fs := cF2 C s3) (bM_get (j := 2) rfl) i66_47 rfl rfl rfl (Nat.le_of_ble_eq_true rfl) t15 ?_
  refine gm_ev.callV gm_mono_run (av := [.int r14]) (r := []) (ci := 6) (fs := cF2 C s16) (bM_get (j := 2) rfl) i66_50 rfl rfl rfl (Nat.le_of_ble_eq_true rfl) t17 ?_
  exact gm_ev.aretN i66_53 rfl
theorem t_X6_readLiteral_0_tffr {N0 : Nat} {K : Nat → Nat} {d C : Nat} {s : cS} {G : gm_H} {sz sl : Nat} {r1 : Int32} {s3 : cS} {k6 : Nat} {r7 : Int32} {k10 : Nat} {r11 : Int32} {r14 : Int32} {s16 : cS} {r17 : Nat} {s19 : cS} {G20 : gm_H} {sz21 : Nat} {dd22 : Nat} (hN : N0 ≤ C) (t2 : gm_to N0 K ra_nm (ra_mt K) d 63 [.ref (C + 2), .int (126 : Int32)] (bM C (cH C s) G) sz (.returned (some (.int r1)), (bM C (cH C s3) G), sz, 0)) (c4 : r1 = 0) (h5 : s3.2.2 40 = some (C + 1)) (ek6 : (s3.1 41) = nI k6) (lk6 : k6 < 241) (t8 : gm_to N0 K ra_nm (ra_mt K) d 90 [.int (s3.2.1 1 k6)] (bM C (cH C s3) G) sz (.returned (some (.int r7)), (bM C (cH C s3) G), sz, 0)) (c9 : ¬ r7 = 0) (ek10 : (s3.1 41) = nI k10) (lk10 : k10 < 241) (t12 : gm_to N0 K ra_nm (ra_mt K) d 88 [.int (s3.2.1 1 k10)] (bM C (cH C s3) G) sz (.returned (some (.int r11)), (bM C (cH C s3) G), sz, 0)) (c13 : r11 = 0) (t15 : gm_to N0 K ra_nm (ra_mt K) d 69 [.ref (C + 2)] (bM C (cH C s3) G) sz (.returned (some (.int r14)), (bM C (cH C s16) G), sz, 0)) (t18 : gm_to N0 K ra_nm (ra_mt K) d 67 [.ref (C + 2), .int r14] (bM C (cH C s16) G) sz (.returned (some (.ref r17)), (bM C (cH C s19) G20), sz21, dd22)) : gm_ev N0 K ra_nm (ra_mt K) d (some (.object "RuleArena$Literal")) (gm_I cX6_readLiteral) (gm_lkf (lkX6 false K)) 0 [some (.ref (C + 2)), none] [] (bM C (cH C s) G) sz sl (.returned (some (.ref r17)), (bM C (cH C s19) G20), sz21, (sl + dd22)) := by
  refine gm_ev.aload_n i66_0 rfl ?_
  refine gm_ev.bipush (v := 126) i66_1 (by decide) ?_
  refine gm_ev.callV gm_mono_run (av := [.int (126 : Int32)]) (r := []) (ci := 6) (fs := cF2 C s) (bM_get (j := 2) rfl) i66_3 rfl rfl rfl (Nat.le_of_ble_eq_true rfl) t2 ?_
  refine gm_ev.if_eq_t (tgt := 15) i66_6 (by decide) c4 ?_
  refine gm_ev.aload_n i66_15 rfl ?_
  refine gm_ev.getfield (v := .ref (C + 1)) i66_16 rfl (bM_fld (j := 2) (fs := cF2 C s3) rfl (cv_some h5)) ?_
  refine gm_ev.aload_n i66_19 rfl ?_
  refine gm_ev.getfield (v := .int (s3.1 41)) i66_20 rfl (bM_fld (j := 2) (fs := cF2 C s3) rfl rfl) ?_
  refine gm_ev.caload i66_23 (bM_ai (j := 1) (n := 241) (f := s3.2.1 1) rfl ek6 lk6 (by decide)) ?_
  refine gm_ev.callS gm_mono_run (av := [.int (s3.2.1 1 k6)]) (r := []) i66_24 rfl rfl rfl (Nat.le_of_ble_eq_true rfl) t8 ?_
  refine gm_ev.if_eq_f i66_27 c9 ?_
  refine gm_ev.aload_n i66_30 rfl ?_
  refine gm_ev.getfield (v := .ref (C + 1)) i66_31 rfl (bM_fld (j := 2) (fs := cF2 C s3) rfl (cv_some h5)) ?_
  refine gm_ev.aload_n i66_34 rfl ?_
  refine gm_ev.getfield (v := .int (s3.1 41)) i66_35 rfl (bM_fld (j := 2) (fs := cF2 C s3) rfl rfl) ?_
  refine gm_ev.caload i66_38 (bM_ai (j := 1) (n := 241) (f := s3.2.1 1) rfl ek10 lk10 (by decide)) ?_
  refine gm_ev.callS gm_mono_run (av := [.int (s3.2.1 1 k10)]) (r := []) i66_39 rfl rfl rfl (Nat.le_of_ble_eq_true rfl) t12 ?_
  refine gm_ev.if_ne_f i66_42 c13 ?_
  refine gm_ev.aload_n i66_45 rfl ?_
  refine gm_ev.aload_n i66_46 rfl ?_
  refine gm_ev.callV gm_mono_run (av := []) (r := [.ref (C + 2)]) (ci := 6) (fs := cF2 C s3) (bM_get (j := 2) rfl) i66_47 rfl rfl rfl (Nat.le_of_ble_eq_true rfl) t15 ?_
  refine gm_ev.callV gm_mono_run (av := [.int r14]) (r := []) (ci := 6) (fs := cF2 C s16) (bM_get (j := 2) rfl) i66_50 rfl rfl rfl (Nat.le_of_ble_eq_true rfl) t18 ?_
  exact gm_ev.aret i66_53 rfl
theorem t_X6_readLiteral_0_fn {N0 : Nat} {K : Nat → Nat} {d C : Nat} {s : cS} {G : gm_H} {sz sl : Nat} {r1 : Int32} {s3 : cS} {s6 : cS} {G7 : gm_H} {sz8 : Nat} {dd9 : Nat} (hN : N0 ≤ C) (t2 : gm_to N0 K ra_nm (ra_mt K) d 63 [.ref (C + 2), .int (126 : Int32)] (bM C (cH C s) G) sz (.returned (some (.int r1)), (bM C (cH C s3) G), sz, 0)) (c4 : ¬ r1 = 0) (t5 : gm_to N0 K ra_nm (ra_mt K) d 68 [.ref (C + 2), .int (1 : Int32)] (bM C (cH C s3) G) sz (.returned (some .null), (bM C (cH C s6) G7), sz8, dd9)) : gm_ev N0 K ra_nm (ra_mt K) d (some (.object "RuleArena$Literal")) (gm_I cX6_readLiteral) (gm_lkf (lkX6 false K)) 0 [some (.ref (C + 2)), none] [] (bM C (cH C s) G) sz sl (.returned (some (.null)), (bM C (cH C s6) G7), sz8, (sl + dd9)) := by
  refine gm_ev.aload_n i66_0 rfl ?_
  refine gm_ev.bipush (v := 126) i66_1 (by decide) ?_
  refine gm_ev.callV gm_mono_run (av := [.int (126 : Int32)]) (r := []) (ci := 6) (fs := cF2 C s) (bM_get (j := 2) rfl) i66_3 rfl rfl rfl (Nat.le_of_ble_eq_true rfl) t2 ?_
  refine gm_ev.if_eq_f i66_6 c4 ?_
  refine gm_ev.aload_n i66_9 rfl ?_
  refine gm_ev.iconst (v := 1) i66_10 (by decide) ?_
  refine gm_ev.callV gm_mono_run (av := [.int (1 : Int32)]) (r := []) (ci := 6) (fs := cF2 C s3) (bM_get (j := 2) rfl) i66_11 rfl rfl rfl (Nat.le_of_ble_eq_true rfl) t5 ?_
  exact gm_ev.aretN i66_14 rfl
theorem t_X6_readLiteral_0_fr {N0 : Nat} {K : Nat → Nat} {d C : Nat} {s : cS} {G : gm_H} {sz sl : Nat} {r1 : Int32} {s3 : cS} {r5 : Nat} {s7 : cS} {G8 : gm_H} {sz9 : Nat} {dd10 : Nat} (hN : N0 ≤ C) (t2 : gm_to N0 K ra_nm (ra_mt K) d 63 [.ref (C + 2), .int (126 : Int32)] (bM C (cH C s) G) sz (.returned (some (.int r1)), (bM C (cH C s3) G), sz, 0)) (c4 : ¬ r1 = 0) (t6 : gm_to N0 K ra_nm (ra_mt K) d 68 [.ref (C + 2), .int (1 : Int32)] (bM C (cH C s3) G) sz (.returned (some (.ref r5)), (bM C (cH C s7) G8), sz9, dd10)) : gm_ev N0 K ra_nm (ra_mt K) d (some (.object "RuleArena$Literal")) (gm_I cX6_readLiteral) (gm_lkf (lkX6 false K)) 0 [some (.ref (C + 2)), none] [] (bM C (cH C s) G) sz sl (.returned (some (.ref r5)), (bM C (cH C s7) G8), sz9, (sl + dd10)) := by
  refine gm_ev.aload_n i66_0 rfl ?_
  refine gm_ev.bipush (v := 126) i66_1 (by decide) ?_
  refine gm_ev.callV gm_mono_run (av := [.int (126 : Int32)]) (r := []) (ci := 6) (fs := cF2 C s) (bM_get (j := 2) rfl) i66_3 rfl rfl rfl (Nat.le_of_ble_eq_true rfl) t2 ?_
  refine gm_ev.if_eq_f i66_6 c4 ?_
  refine gm_ev.aload_n i66_9 rfl ?_
  refine gm_ev.iconst (v := 1) i66_10 (by decide) ?_
  refine gm_ev.callV gm_mono_run (av := [.int (1 : Int32)]) (r := []) (ci := 6) (fs := cF2 C s3) (bM_get (j := 2) rfl) i66_11 rfl rfl rfl (Nat.le_of_ble_eq_true rfl) t6 ?_
  exact gm_ev.aret i66_14 rfl
theorem t_X6_readUnlike_0_tt {N0 : Nat} {K : Nat → Nat} {d C : Nat} {s : cS} {G : gm_H} {sz sl : Nat} {p0 : Int32} {r1 : Int32} {s3 : cS} {r5 : Int32} {s7 : cS} {G13 : gm_H} (hN : N0 ≤ C) (t2 : gm_to N0 K ra_nm (ra_mt K) d 63 [.ref (C + 2), .int (35 : Int32)] (bM C (cH C s) G) sz (.returned (some (.int r1)), (bM C (cH C s3) G), sz, 0)) (c4 : ¬ r1 = 0) (t6 : gm_to N0 K ra_nm (ra_mt K) d 69 [.ref (C + 2)] (bM C (cH C s3) G) sz (.returned (some (.int r5)), (bM C (cH C s7) G), sz, 0)) (c8 : ¬ r5 = 0) (hg_sz : C + 34 ≤ sz) (bd9 : gm_bd G sz) (t12 : gm_to N0 K ra_nm (ra_mt K) d 54 [.ref sz, .int (2 : Int32), .int (-1 : Int32), .int p0, .int r5, .int (0 : Int32)] (bM C (cH C s7) (gm_new G sz (.inr (5, [.int 0, .int 0, .int 0, .int 0, .int 0, .int 0, .int 0])))) (sz + 1) (.returned none, (bM C (cH C s7) G13), (sz + 1), 0)) : gm_ev N0 K ra_nm (ra_mt K) d (some (.object "RuleArena$Literal")) (gm_I cX6_readUnlike) (gm_lkf (lkX6 false K)) 0 [some (.ref (C + 2)), some (.int p0), none] [] (bM C (cH C s) G) sz sl (.returned (some (.ref sz)), (bM C (cH C s7) G13), (sz + 1), (sl + 7)) := by
  refine gm_ev.aload_n i67_0 rfl ?_
  refine gm_ev.bipush (v := 35) i67_1 (by decide) ?_
  refine gm_ev.callV gm_mono_run (av := [.int (35 : Int32)]) (r := []) (ci := 6) (fs := cF2 C s) (bM_get (j := 2) rfl) i67_3 rfl rfl rfl (Nat.le_of_ble_eq_true rfl) t2 ?_
  refine gm_ev.if_ne_t (tgt := 11) i67_6 (by decide) c4 ?_
  refine gm_ev.aload_n i67_11 rfl ?_
  refine gm_ev.callV gm_mono_run (av := []) (r := []) (ci := 6) (fs := cF2 C s3) (bM_get (j := 2) rfl) i67_12 rfl rfl rfl (Nat.le_of_ble_eq_true rfl) t6 ?_
  refine gm_ev.istore_n (ls' := [some (.ref (C + 2)), some (.int p0), some (.int r5)]) i67_15 (Nat.le_of_ble_eq_true rfl) rfl ?_
  refine gm_ev.iload_n i67_16 rfl ?_
  refine gm_ev.if_ne_t (tgt := 24) i67_17 (by decide) c8 ?_
  refine gm_ev.new i67_24 rfl ?_
  rw [cG_new hg_sz]
  have w10 : (gm_new G sz (.inr (5, [.int 0, .int 0, .int 0, .int 0, .int 0, .int 0, .int 0]))) sz = some (.inr (5, [.int 0, .int 0, .int 0, .int 0, .int 0, .int 0, .int 0])) := gm_set_eq
  have bd11 : gm_bd (gm_new G sz (.inr (5, [.int 0, .int 0, .int 0, .int 0, .int 0, .int 0, .int 0]))) (sz + 1) := gm_bd.new bd9
  refine gm_ev.dup i67_27 rfl ?_
  refine gm_ev.iconst (v := 2) i67_28 (by decide) ?_
  refine gm_ev.iconst (v := -1) i67_29 (by decide) ?_
  refine gm_ev.iload_n i67_30 rfl ?_
  refine gm_ev.iload_n i67_31 rfl ?_
  refine gm_ev.iconst (v := 0) i67_32 (by decide) ?_
  refine gm_ev.callI gm_mono_run (av := [.int (2 : Int32), .int (-1 : Int32), .int p0, .int r5, .int (0 : Int32)]) (r := [.ref sz]) i67_33 rfl rfl rfl (Nat.le_of_ble_eq_true rfl) t12 ?_
  exact gm_ev.aret i67_36 rfl
theorem t_X6_readUnlike_0_tf {N0 : Nat} {K : Nat → Nat} {d C : Nat} {s : cS} {G : gm_H} {sz sl : Nat} {p0 : Int32} {r1 : Int32} {s3 : cS} {r5 : Int32} {s7 : cS} (hN : N0 ≤ C) (t2 : gm_to N0 K ra_nm (ra_mt K) d 63 [.ref (C + 2), .int (35 : Int32)] (bM C (cH C s) G) sz (.returned (some (.int r1)), (bM C (cH C s3) G), sz, 0)) (c4 : ¬ r1 = 0) (t6 : gm_to N0 K ra_nm (ra_mt K) d 69 [.ref (C + 2)] (bM C (cH C s3) G) sz (.returned (some (.int r5)), (bM C (cH C s7) G), sz, 0)) (c8 : r5 = 0) : gm_ev N0 K ra_nm (ra_mt K) d (some (.object "RuleArena$Literal")) (gm_I cX6_readUnlike) (gm_lkf (lkX6 false K)) 0 [some (.ref (C + 2)), some (.int p0), none] [] (bM C (cH C s) G) sz sl (.returned (some (.null)), (bM C (cH C s7) G), sz, sl) := by
  refine gm_ev.aload_n i67_0 rfl ?_
  refine gm_ev.bipush (v := 35) i67_1 (by decide) ?_
  refine gm_ev.callV gm_mono_run (av := [.int (35 : Int32)]) (r := []) (ci := 6) (fs := cF2 C s) (bM_get (j := 2) rfl) i67_3 rfl rfl rfl (Nat.le_of_ble_eq_true rfl) t2 ?_
  refine gm_ev.if_ne_t (tgt := 11) i67_6 (by decide) c4 ?_
  refine gm_ev.aload_n i67_11 rfl ?_
  refine gm_ev.callV gm_mono_run (av := []) (r := []) (ci := 6) (fs := cF2 C s3) (bM_get (j := 2) rfl) i67_12 rfl rfl rfl (Nat.le_of_ble_eq_true rfl) t6 ?_
  refine gm_ev.istore_n (ls' := [some (.ref (C + 2)), some (.int p0), some (.int r5)]) i67_15 (Nat.le_of_ble_eq_true rfl) rfl ?_
  refine gm_ev.iload_n i67_16 rfl ?_
  refine gm_ev.if_ne_f i67_17 c8 ?_
  refine gm_ev.null i67_20 ?_
  refine gm_ev.goto (tgt := 36) i67_21 (by decide) ?_
  exact gm_ev.aretN i67_36 rfl
theorem t_X6_readUnlike_0_f {N0 : Nat} {K : Nat → Nat} {d C : Nat} {s : cS} {G : gm_H} {sz sl : Nat} {p0 : Int32} {r1 : Int32} {s3 : cS} (hN : N0 ≤ C) (t2 : gm_to N0 K ra_nm (ra_mt K) d 63 [.ref (C + 2), .int (35 : Int32)] (bM C (cH C s) G) sz (.returned (some (.int r1)), (bM C (cH C s3) G), sz, 0)) (c4 : r1 = 0) : gm_ev N0 K ra_nm (ra_mt K) d (some (.object "RuleArena$Literal")) (gm_I cX6_readUnlike) (gm_lkf (lkX6 false K)) 0 [some (.ref (C + 2)), some (.int p0), none] [] (bM C (cH C s) G) sz sl (.returned (some (.null)), (bM C (cH C s3) G), sz, sl) := by
  refine gm_ev.aload_n i67_0 rfl ?_
  refine gm_ev.bipush (v := 35) i67_1 (by decide) ?_
  refine gm_ev.callV gm_mono_run (av := [.int (35 : Int32)]) (r := []) (ci := 6) (fs := cF2 C s) (bM_get (j := 2) rfl) i67_3 rfl rfl rfl (Nat.le_of_ble_eq_true rfl) t2 ?_
  refine gm_ev.if_ne_f i67_6 c4 ?_
  refine gm_ev.null i67_9 ?_
  exact gm_ev.aretN i67_10 rfl
theorem t_X6_readAtom_0_ttttt {N0 : Nat} {K : Nat → Nat} {d C : Nat} {s : cS} {G : gm_H} {sz sl : Nat} {p0 : Int32} {k2 : Nat} {k7 : Nat} {kt8 : Nat → Int32} {s11 : cS} {r17 : Int32} {k19 : Nat} {k20 : Nat} {k21 : Nat} {G23 : gm_H} (hN : N0 ≤ C) (h1 : s.2.2 40 = some (C + 1)) (ek2 : (s.1 41) = nI k2) (lk2 : k2 < 241) (hd : 0 < d) (c5 : 0 ≤ (gm_ix (s.2.1 1 k2))) (c6 : 0 ≤ (gm_ix (s.2.1 1 k2))) (ek7 : (gm_ix (s.2.1 1 k2)) = nI k7) (hkt8 : (bM C (cH C (cI s 41 ((s.1 41) + (1 : Int32)))) G) (K 0) = some (.inl (gm_scr, 8, .inl kt8))) (lk7 : k7 < 8) (c9 : 0 ≤ (gm_ix (s.2.1 1 k2))) (t10 : gm_to N0 K ra_nm (ra_mt K) d 192 [.ref (C + 3), .int (0 : Int32)] (bM C (cH C (cI s 41 ((s.1 41) + (1 : Int32)))) G) sz (.returned none, (bM C (cH C s11) G), sz, 0)) (c12 : (kt8 k7) ≤ 0) (c13 : (kt8 k7) ≤ (0 : Int32)) (hg_sz : C + 34 ≤ sz) (bd14 : gm_bd G sz) (t18 : gm_to N0 K ra_nm (ra_mt K) d 55 [.int (s.2.1 1 k2), .int (0 : Int32)] (bM C (cH C s11) (gm_new G sz (.inr (5, [.int 0, .int 0, .int 0, .int 0, .int 0, .int 0, .int 0])))) (sz + 1) (.returned (some (.int r17)), (bM C (cH C s11) (gm_new G sz (.inr (5, [.int 0, .int 0, .int 0, .int 0, .int 0, .int 0, .int 0])))), (sz + 1), 0)) (ek19 : (0 : Int32) = nI k19) (lk19 : k19 < 3) (ek20 : (1 : Int32) = nI k20) (lk20 : k20 < 3) (ek21 : (2 : Int32) = nI k21) (lk21 : k21 < 3) (t22 : gm_to N0 K ra_nm (ra_mt K) d 54 [.ref sz, .int p0, .int r17, .int (s11.2.1 3 k19), .int (s11.2.1 3 k20), .int (s11.2.1 3 k21)] (bM C (cH C s11) (gm_new G sz (.inr (5, [.int 0, .int 0, .int 0, .int 0, .int 0, .int 0, .int 0])))) (sz + 1) (.returned none, (bM C (cH C s11) G23), (sz + 1), 0)) : gm_ev N0 K ra_nm (ra_mt K) d (some (.object "RuleArena$Literal")) (gm_I cX6_readAtom) (gm_lkf (lkX6 false K)) 0 [some (.ref (C + 2)), some (.int p0), none, none, none, none, none] [] (bM C (cH C s) G) sz sl (.returned (some (.ref sz)), (bM C (cH C s11) G23), (sz + 1), (sl + 7)) := by
  refine gm_ev.aload_n i68_0 rfl ?_
  refine gm_ev.getfield (v := .ref (C + 1)) i68_1 rfl (bM_fld (j := 2) (fs := cF2 C s) rfl (cv_some h1)) ?_
  refine gm_ev.aload_n i68_4 rfl ?_
  refine gm_ev.getfield (v := .int (s.1 41)) i68_5 rfl (bM_fld (j := 2) (fs := cF2 C s) rfl rfl) ?_
  refine gm_ev.caload i68_8 (bM_ai (j := 1) (n := 241) (f := s.2.1 1) rfl ek2 lk2 (by decide)) ?_
  refine gm_ev.istore_n (ls' := [some (.ref (C + 2)), some (.int p0), some (.int (s.2.1 1 k2)), none, none, none, none]) i68_9 (Nat.le_of_ble_eq_true rfl) rfl ?_
  refine gm_ev.ldc i68_10 rfl ?_
  refine gm_ev.iload_n i68_12 rfl ?_
  refine gm_ev.callT gm_mono_run (av := [.int (s.2.1 1 k2)]) (r := []) i68_13 rfl rfl rfl (Nat.le_of_ble_eq_true rfl) (gm_to_ix hd (Or.inr rfl)) ?_
  refine gm_ev.istore_n (ls' := [some (.ref (C + 2)), some (.int p0), some (.int (s.2.1 1 k2)), some (.int (gm_ix (s.2.1 1 k2))), none, none, none]) i68_16 (Nat.le_of_ble_eq_true rfl) rfl ?_
  refine gm_ev.iload_n i68_17 rfl ?_
  refine gm_ev.if_ge_t (tgt := 30) i68_18 (by decide) c5 ?_
  refine gm_ev.aload_n i68_30 rfl ?_
  refine gm_ev.dup i68_31 rfl ?_
  refine gm_ev.getfield (v := .int (s.1 41)) i68_32 rfl (bM_fld (j := 2) (fs := cF2 C s) rfl rfl) ?_
  refine gm_ev.iconst (v := 1) i68_35 (by decide) ?_
  refine gm_ev.iadd i68_36 ?_
  refine gm_ev.putfield (M' := (bM C (cH C (cI s 41 ((s.1 41) + (1 : Int32)))) G)) i68_37 rfl (bM_put (j := 2) (fs := cF2 C s) rfl (Nat.le_of_ble_eq_true rfl) hN (gm_fit_i _) rfl) ?_
  refine gm_ev.iload_n i68_40 rfl ?_
  refine gm_ev.if_ge_t (tgt := 48) i68_41 (by decide) c6 ?_
  refine gm_ev.getstatic i68_48 rfl ?_
  refine gm_ev.iload_n i68_51 rfl ?_
  refine gm_ev.ialoadS i68_52 (gm_ai_of hkt8 ek7 lk7 (by decide)) ?_
  refine gm_ev.istore (ls' := [some (.ref (C + 2)), some (.int p0), some (.int (s.2.1 1 k2)), some (.int (gm_ix (s.2.1 1 k2))), some (.int (kt8 k7)), none, none]) i68_53 (Nat.le_of_ble_eq_true rfl) rfl ?_
  refine gm_ev.iload_n i68_55 rfl ?_
  refine gm_ev.if_ge_t (tgt := 63) i68_56 (by decide) c9 ?_
  refine gm_ev.iload i68_63 rfl ?_
  refine gm_ev.istore (ls' := [some (.ref (C + 2)), some (.int p0), some (.int (s.2.1 1 k2)), some (.int (gm_ix (s.2.1 1 k2))), some (.int (kt8 k7)), some (.int (kt8 k7)), none]) i68_65 (Nat.le_of_ble_eq_true rfl) rfl ?_
  refine gm_ev.iconst (v := 0) i68_67 (by decide) ?_
  refine gm_ev.istore (ls' := [some (.ref (C + 2)), some (.int p0), some (.int (s.2.1 1 k2)), some (.int (gm_ix (s.2.1 1 k2))), some (.int (kt8 k7)), some (.int (kt8 k7)), some (.int (0 : Int32))]) i68_68 (Nat.le_of_ble_eq_true rfl) rfl ?_
  refine gm_ev.aload_n i68_70 rfl ?_
  refine gm_ev.getfield (v := .ref (C + 3)) i68_71 rfl (bM_fld (j := 2) (fs := cF2 C (cI s 41 ((s.1 41) + (1 : Int32)))) rfl rfl) ?_
  refine gm_ev.iconst (v := 0) i68_74 (by decide) ?_
  refine gm_ev.callS gm_mono_run (av := [.ref (C + 3), .int (0 : Int32)]) (r := []) i68_75 rfl rfl rfl (Nat.le_of_ble_eq_true rfl) t10 ?_
  refine gm_ev.iload i68_78 rfl ?_
  refine gm_ev.if_le_t (tgt := 152) i68_80 (by decide) c12 ?_
  refine gm_ev.iload i68_152 rfl ?_
  refine gm_ev.iload i68_154 rfl ?_
  refine gm_ev.icmp_ge_t (tgt := 161) i68_156 (by decide) c13 ?_
  refine gm_ev.new i68_161 rfl ?_
  rw [cG_new hg_sz]
  have w15 : (gm_new G sz (.inr (5, [.int 0, .int 0, .int 0, .int 0, .int 0, .int 0, .int 0]))) sz = some (.inr (5, [.int 0, .int 0, .int 0, .int 0, .int 0, .int 0, .int 0])) := gm_set_eq
  have bd16 : gm_bd (gm_new G sz (.inr (5, [.int 0, .int 0, .int 0, .int 0, .int 0, .int 0, .int 0]))) (sz + 1) := gm_bd.new bd14
  refine gm_ev.dup i68_164 rfl ?_
  refine gm_ev.iload_n i68_165 rfl ?_
  refine gm_ev.iload_n i68_166 rfl ?_
  refine gm_ev.iload i68_167 rfl ?_
  refine gm_ev.callS gm_mono_run (av := [.int (s.2.1 1 k2), .int (0 : Int32)]) (r := [.int p0, .ref sz, .ref sz]) i68_169 rfl rfl rfl (Nat.le_of_ble_eq_true rfl) t18 ?_
  refine gm_ev.aload_n i68_172 rfl ?_
  refine gm_ev.getfield (v := .ref (C + 3)) i68_173 rfl (bM_fld (j := 2) (fs := cF2 C s11) rfl rfl) ?_
  refine gm_ev.iconst (v := 0) i68_176 (by decide) ?_
  refine gm_ev.iaload i68_177 (bM_ai (j := 3) (n := 3) (f := s11.2.1 3) rfl ek19 lk19 (by decide)) ?_
  refine gm_ev.aload_n i68_178 rfl ?_
  refine gm_ev.getfield (v := .ref (C + 3)) i68_179 rfl (bM_fld (j := 2) (fs := cF2 C s11) rfl rfl) ?_
  refine gm_ev.iconst (v := 1) i68_182 (by decide) ?_
  refine gm_ev.iaload i68_183 (bM_ai (j := 3) (n := 3) (f := s11.2.1 3) rfl ek20 lk20 (by decide)) ?_
  refine gm_ev.aload_n i68_184 rfl ?_
  refine gm_ev.getfield (v := .ref (C + 3)) i68_185 rfl (bM_fld (j := 2) (fs := cF2 C s11) rfl rfl) ?_
  refine gm_ev.iconst (v := 2) i68_188 (by decide) ?_
  refine gm_ev.iaload i68_189 (bM_ai (j := 3) (n := 3) (f := s11.2.1 3) rfl ek21 lk21 (by decide)) ?_
  refine gm_ev.callI gm_mono_run (av := [.int p0, .int r17, .int (s11.2.1 3 k19), .int (s11.2.1 3 k20), .int (s11.2.1 3 k21)]) (r := [.ref sz]) i68_190 rfl rfl rfl (Nat.le_of_ble_eq_true rfl) t22 ?_
  exact gm_ev.aret i68_193 rfl
theorem t_X6_readAtom_0_ttttf {N0 : Nat} {K : Nat → Nat} {d C : Nat} {s : cS} {G : gm_H} {sz sl : Nat} {p0 : Int32} {k2 : Nat} {k7 : Nat} {kt8 : Nat → Int32} {s11 : cS} (hN : N0 ≤ C) (h1 : s.2.2 40 = some (C + 1)) (ek2 : (s.1 41) = nI k2) (lk2 : k2 < 241) (hd : 0 < d) (c5 : 0 ≤ (gm_ix (s.2.1 1 k2))) (c6 : 0 ≤ (gm_ix (s.2.1 1 k2))) (ek7 : (gm_ix (s.2.1 1 k2)) = nI k7) (hkt8 : (bM C (cH C (cI s 41 ((s.1 41) + (1 : Int32)))) G) (K 0) = some (.inl (gm_scr, 8, .inl kt8))) (lk7 : k7 < 8) (c9 : 0 ≤ (gm_ix (s.2.1 1 k2))) (t10 : gm_to N0 K ra_nm (ra_mt K) d 192 [.ref (C + 3), .int (0 : Int32)] (bM C (cH C (cI s 41 ((s.1 41) + (1 : Int32)))) G) sz (.returned none, (bM C (cH C s11) G), sz, 0)) (c12 : (kt8 k7) ≤ 0) (c13 : ¬ (kt8 k7) ≤ (0 : Int32)) : gm_ev N0 K ra_nm (ra_mt K) d (some (.object "RuleArena$Literal")) (gm_I cX6_readAtom) (gm_lkf (lkX6 false K)) 0 [some (.ref (C + 2)), some (.int p0), none, none, none, none, none] [] (bM C (cH C s) G) sz sl (.returned (some (.null)), (bM C (cH C s11) G), sz, sl) := by
  refine gm_ev.aload_n i68_0 rfl ?_
  refine gm_ev.getfield (v := .ref (C + 1)) i68_1 rfl (bM_fld (j := 2) (fs := cF2 C s) rfl (cv_some h1)) ?_
  refine gm_ev.aload_n i68_4 rfl ?_
  refine gm_ev.getfield (v := .int (s.1 41)) i68_5 rfl (bM_fld (j := 2) (fs := cF2 C s) rfl rfl) ?_
  refine gm_ev.caload i68_8 (bM_ai (j := 1) (n := 241) (f := s.2.1 1) rfl ek2 lk2 (by decide)) ?_
  refine gm_ev.istore_n (ls' := [some (.ref (C + 2)), some (.int p0), some (.int (s.2.1 1 k2)), none, none, none, none]) i68_9 (Nat.le_of_ble_eq_true rfl) rfl ?_
  refine gm_ev.ldc i68_10 rfl ?_
  refine gm_ev.iload_n i68_12 rfl ?_
  refine gm_ev.callT gm_mono_run (av := [.int (s.2.1 1 k2)]) (r := []) i68_13 rfl rfl rfl (Nat.le_of_ble_eq_true rfl) (gm_to_ix hd (Or.inr rfl)) ?_
  refine gm_ev.istore_n (ls' := [some (.ref (C + 2)), some (.int p0), some (.int (s.2.1 1 k2)), some (.int (gm_ix (s.2.1 1 k2))), none, none, none]) i68_16 (Nat.le_of_ble_eq_true rfl) rfl ?_
  refine gm_ev.iload_n i68_17 rfl ?_
  refine gm_ev.if_ge_t (tgt := 30) i68_18 (by decide) c5 ?_
  refine gm_ev.aload_n i68_30 rfl ?_
  refine gm_ev.dup i68_31 rfl ?_
  refine gm_ev.getfield (v := .int (s.1 41)) i68_32 rfl (bM_fld (j := 2) (fs := cF2 C s) rfl rfl) ?_
  refine gm_ev.iconst (v := 1) i68_35 (by decide) ?_
  refine gm_ev.iadd i68_36 ?_
  refine gm_ev.putfield (M' := (bM C (cH C (cI s 41 ((s.1 41) + (1 : Int32)))) G)) i68_37 rfl (bM_put (j := 2) (fs := cF2 C s) rfl (Nat.le_of_ble_eq_true rfl) hN (gm_fit_i _) rfl) ?_
  refine gm_ev.iload_n i68_40 rfl ?_
  refine gm_ev.if_ge_t (tgt := 48) i68_41 (by decide) c6 ?_
  refine gm_ev.getstatic i68_48 rfl ?_
  refine gm_ev.iload_n i68_51 rfl ?_
  refine gm_ev.ialoadS i68_52 (gm_ai_of hkt8 ek7 lk7 (by decide)) ?_
  refine gm_ev.istore (ls' := [some (.ref (C + 2)), some (.int p0), some (.int (s.2.1 1 k2)), some (.int (gm_ix (s.2.1 1 k2))), some (.int (kt8 k7)), none, none]) i68_53 (Nat.le_of_ble_eq_true rfl) rfl ?_
  refine gm_ev.iload_n i68_55 rfl ?_
  refine gm_ev.if_ge_t (tgt := 63) i68_56 (by decide) c9 ?_
  refine gm_ev.iload i68_63 rfl ?_
  refine gm_ev.istore (ls' := [some (.ref (C + 2)), some (.int p0), some (.int (s.2.1 1 k2)), some (.int (gm_ix (s.2.1 1 k2))), some (.int (kt8 k7)), some (.int (kt8 k7)), none]) i68_65 (Nat.le_of_ble_eq_true rfl) rfl ?_
  refine gm_ev.iconst (v := 0) i68_67 (by decide) ?_
  refine gm_ev.istore (ls' := [some (.ref (C + 2)), some (.int p0), some (.int (s.2.1 1 k2)), some (.int (gm_ix (s.2.1 1 k2))), some (.int (kt8 k7)), some (.int (kt8 k7)), some (.int (0 : Int32))]) i68_68 (Nat.le_of_ble_eq_true rfl) rfl ?_
  refine gm_ev.aload_n i68_70 rfl ?_
  refine gm_ev.getfield (v := .ref (C + 3)) i68_71 rfl (bM_fld (j := 2) (fs := cF2 C (cI s 41 ((s.1 41) + (1 : Int32)))) rfl rfl) ?_
  refine gm_ev.iconst (v := 0) i68_74 (by decide) ?_
  refine gm_ev.callS gm_mono_run (av := [.ref (C + 3), .int (0 : Int32)]) (r := []) i68_75 rfl rfl rfl (Nat.le_of_ble_eq_true rfl) t10 ?_
  refine gm_ev.iload i68_78 rfl ?_
  refine gm_ev.if_le_t (tgt := 152) i68_80 (by decide) c12 ?_
  refine gm_ev.iload i68_152 rfl ?_
  refine gm_ev.iload i68_154 rfl ?_
  refine gm_ev.icmp_ge_f i68_156 c13 ?_
  refine gm_ev.null i68_159 ?_
  exact gm_ev.aretN i68_160 rfl
theorem t_X6_readAtom_0_tttftt {N0 : Nat} {K : Nat → Nat} {d C : Nat} {s : cS} {G : gm_H} {sz sl : Nat} {p0 : Int32} {k2 : Nat} {k7 : Nat} {kt8 : Nat → Int32} {s11 : cS} {r13 : Int32} {s15 : cS} {r21 : Int32} {k23 : Nat} {k24 : Nat} {k25 : Nat} {G27 : gm_H} (hN : N0 ≤ C) (h1 : s.2.2 40 = some (C + 1)) (ek2 : (s.1 41) = nI k2) (lk2 : k2 < 241) (hd : 0 < d) (c5 : 0 ≤ (gm_ix (s.2.1 1 k2))) (c6 : 0 ≤ (gm_ix (s.2.1 1 k2))) (ek7 : (gm_ix (s.2.1 1 k2)) = nI k7) (hkt8 : (bM C (cH C (cI s 41 ((s.1 41) + (1 : Int32)))) G) (K 0) = some (.inl (gm_scr, 8, .inl kt8))) (lk7 : k7 < 8) (c9 : 0 ≤ (gm_ix (s.2.1 1 k2))) (t10 : gm_to N0 K ra_nm (ra_mt K) d 192 [.ref (C + 3), .int (0 : Int32)] (bM C (cH C (cI s 41 ((s.1 41) + (1 : Int32)))) G) sz (.returned none, (bM C (cH C s11) G), sz, 0)) (c12 : ¬ (kt8 k7) ≤ 0) (t14 : gm_to N0 K ra_nm (ra_mt K) d 63 [.ref (C + 2), .int (40 : Int32)] (bM C (cH C s11) G) sz (.returned (some (.int r13)), (bM C (cH C s15) G), sz, 0)) (c16 : r13 = 0) (c17 : (kt8 k7) ≤ (0 : Int32)) (hg_sz : C + 34 ≤ sz) (bd18 : gm_bd G sz) (t22 : gm_to N0 K ra_nm (ra_mt K) d 55 [.int (s.2.1 1 k2), .int (0 : Int32)] (bM C (cH C s15) (gm_new G sz (.inr (5, [.int 0, .int 0, .int 0, .int 0, .int 0, .int 0, .int 0])))) (sz + 1) (.returned (some (.int r21)), (bM C (cH C s15) (gm_new G sz (.inr (5, [.int 0, .int 0, .int 0, .int 0, .int 0, .int 0, .int 0])))), (sz + 1), 0)) (ek23 : (0 : Int32) = nI k23) (lk23 : k23 < 3) (ek24 : (1 : Int32) = nI k24) (lk24 : k24 < 3) (ek25 : (2 : Int32) = nI k25) (lk25 : k25 < 3) (t26 : gm_to N0 K ra_nm (ra_mt K) d 54 [.ref sz, .int p0, .int r21, .int (s15.2.1 3 k23), .int (s15.2.1 3 k24), .int (s15.2.1 3 k25)] (bM C (cH C s15) (gm_new G sz (.inr (5, [.int 0, .int 0, .int 0, .int 0, .int 0, .int 0, .int 0])))) (sz + 1) (.returned none, (bM C (cH C s15) G27), (sz + 1), 0)) : gm_ev N0 K ra_nm (ra_mt K) d (some (.object "RuleArena$Literal")) (gm_I cX6_readAtom) (gm_lkf (lkX6 false K)) 0 [some (.ref (C + 2)), some (.int p0), none, none, none, none, none] [] (bM C (cH C s) G) sz sl (.returned (some (.ref sz)), (bM C (cH C s15) G27), (sz + 1), (sl + 7)) := by
  refine gm_ev.aload_n i68_0 rfl ?_
  refine gm_ev.getfield (v := .ref (C + 1)) i68_1 rfl (bM_fld (j := 2) (fs := cF2 C s) rfl (cv_some h1)) ?_
  refine gm_ev.aload_n i68_4 rfl ?_
  refine gm_ev.getfield (v := .int (s.1 41)) i68_5 rfl (bM_fld (j := 2) (fs := cF2 C s) rfl rfl) ?_
  refine gm_ev.caload i68_8 (bM_ai (j := 1) (n := 241) (f := s.2.1 1) rfl ek2 lk2 (by decide)) ?_
  refine gm_ev.istore_n (ls' := [some (.ref (C + 2)), some (.int p0), some (.int (s.2.1 1 k2)), none, none, none, none]) i68_9 (Nat.le_of_ble_eq_true rfl) rfl ?_
  refine gm_ev.ldc i68_10 rfl ?_
  refine gm_ev.iload_n i68_12 rfl ?_
  refine gm_ev.callT gm_mono_run (av := [.int (s.2.1 1 k2)]) (r := []) i68_13 rfl rfl rfl (Nat.le_of_ble_eq_true rfl) (gm_to_ix hd (Or.inr rfl)) ?_
  refine gm_ev.istore_n (ls' := [some (.ref (C + 2)), some (.int p0), some (.int (s.2.1 1 k2)), some (.int (gm_ix (s.2.1 1 k2))), none, none, none]) i68_16 (Nat.le_of_ble_eq_true rfl) rfl ?_
  refine gm_ev.iload_n i68_17 rfl ?_
  refine gm_ev.if_ge_t (tgt := 30) i68_18 (by decide) c5 ?_
  refine gm_ev.aload_n i68_30 rfl ?_
  refine gm_ev.dup i68_31 rfl ?_
  refine gm_ev.getfield (v := .int (s.1 41)) i68_32 rfl (bM_fld (j := 2) (fs := cF2 C s) rfl rfl) ?_
  refine gm_ev.iconst (v := 1) i68_35 (by decide) ?_
  refine gm_ev.iadd i68_36 ?_
  refine gm_ev.putfield (M' := (bM C (cH C (cI s 41 ((s.1 41) + (1 : Int32)))) G)) i68_37 rfl (bM_put (j := 2) (fs := cF2 C s) rfl (Nat.le_of_ble_eq_true rfl) hN (gm_fit_i _) rfl) ?_
  refine gm_ev.iload_n i68_40 rfl ?_
  refine gm_ev.if_ge_t (tgt := 48) i68_41 (by decide) c6 ?_
  refine gm_ev.getstatic i68_48 rfl ?_
  refine gm_ev.iload_n i68_51 rfl ?_
  refine gm_ev.ialoadS i68_52 (gm_ai_of hkt8 ek7 lk7 (by decide)) ?_
  refine gm_ev.istore (ls' := [some (.ref (C + 2)), some (.int p0), some (.int (s.2.1 1 k2)), some (.int (gm_ix (s.2.1 1 k2))), some (.int (kt8 k7)), none, none]) i68_53 (Nat.le_of_ble_eq_true rfl) rfl ?_
  refine gm_ev.iload_n i68_55 rfl ?_
  refine gm_ev.if_ge_t (tgt := 63) i68_56 (by decide) c9 ?_
  refine gm_ev.iload i68_63 rfl ?_
  refine gm_ev.istore (ls' := [some (.ref (C + 2)), some (.int p0), some (.int (s.2.1 1 k2)), some (.int (gm_ix (s.2.1 1 k2))), some (.int (kt8 k7)), some (.int (kt8 k7)), none]) i68_65 (Nat.le_of_ble_eq_true rfl) rfl ?_
  refine gm_ev.iconst (v := 0) i68_67 (by decide) ?_
  refine gm_ev.istore (ls' := [some (.ref (C + 2)), some (.int p0), some (.int (s.2.1 1 k2)), some (.int (gm_ix (s.2.1 1 k2))), some (.int (kt8 k7)), some (.int (kt8 k7)), some (.int (0 : Int32))]) i68_68 (Nat.le_of_ble_eq_true rfl) rfl ?_
  refine gm_ev.aload_n i68_70 rfl ?_
  refine gm_ev.getfield (v := .ref (C + 3)) i68_71 rfl (bM_fld (j := 2) (fs := cF2 C (cI s 41 ((s.1 41) + (1 : Int32)))) rfl rfl) ?_
  refine gm_ev.iconst (v := 0) i68_74 (by decide) ?_
  refine gm_ev.callS gm_mono_run (av := [.ref (C + 3), .int (0 : Int32)]) (r := []) i68_75 rfl rfl rfl (Nat.le_of_ble_eq_true rfl) t10 ?_
  refine gm_ev.iload i68_78 rfl ?_
  refine gm_ev.if_le_f i68_80 c12 ?_
  refine gm_ev.aload_n i68_83 rfl ?_
  refine gm_ev.bipush (v := 40) i68_84 (by decide) ?_
  refine gm_ev.callV gm_mono_run (av := [.int (40 : Int32)]) (r := []) (ci := 6) (fs := cF2 C s11) (bM_get (j := 2) rfl) i68_86 rfl rfl rfl (Nat.le_of_ble_eq_true rfl) t14 ?_
  refine gm_ev.if_eq_t (tgt := 152) i68_89 (by decide) c16 ?_
  refine gm_ev.iload i68_152 rfl ?_
  refine gm_ev.iload i68_154 rfl ?_
  refine gm_ev.icmp_ge_t (tgt := 161) i68_156 (by decide) c17 ?_
  refine gm_ev.new i68_161 rfl ?_
  rw [cG_new hg_sz]
  have w19 : (gm_new G sz (.inr (5, [.int 0, .int 0, .int 0, .int 0, .int 0, .int 0, .int 0]))) sz = some (.inr (5, [.int 0, .int 0, .int 0, .int 0, .int 0, .int 0, .int 0])) := gm_set_eq
  have bd20 : gm_bd (gm_new G sz (.inr (5, [.int 0, .int 0, .int 0, .int 0, .int 0, .int 0, .int 0]))) (sz + 1) := gm_bd.new bd18
  refine gm_ev.dup i68_164 rfl ?_
  refine gm_ev.iload_n i68_165 rfl ?_
  refine gm_ev.iload_n i68_166 rfl ?_
  refine gm_ev.iload i68_167 rfl ?_
  refine gm_ev.callS gm_mono_run (av := [.int (s.2.1 1 k2), .int (0 : Int32)]) (r := [.int p0, .ref sz, .ref sz]) i68_169 rfl rfl rfl (Nat.le_of_ble_eq_true rfl) t22 ?_
  refine gm_ev.aload_n i68_172 rfl ?_
  refine gm_ev.getfield (v := .ref (C + 3)) i68_173 rfl (bM_fld (j := 2) (fs := cF2 C s15) rfl rfl) ?_
  refine gm_ev.iconst (v := 0) i68_176 (by decide) ?_
  refine gm_ev.iaload i68_177 (bM_ai (j := 3) (n := 3) (f := s15.2.1 3) rfl ek23 lk23 (by decide)) ?_
  refine gm_ev.aload_n i68_178 rfl ?_
  refine gm_ev.getfield (v := .ref (C + 3)) i68_179 rfl (bM_fld (j := 2) (fs := cF2 C s15) rfl rfl) ?_
  refine gm_ev.iconst (v := 1) i68_182 (by decide) ?_
  refine gm_ev.iaload i68_183 (bM_ai (j := 3) (n := 3) (f := s15.2.1 3) rfl ek24 lk24 (by decide)) ?_
  refine gm_ev.aload_n i68_184 rfl ?_
  refine gm_ev.getfield (v := .ref (C + 3)) i68_185 rfl (bM_fld (j := 2) (fs := cF2 C s15) rfl rfl) ?_
  refine gm_ev.iconst (v := 2) i68_188 (by decide) ?_
  refine gm_ev.iaload i68_189 (bM_ai (j := 3) (n := 3) (f := s15.2.1 3) rfl ek25 lk25 (by decide)) ?_
  refine gm_ev.callI gm_mono_run (av := [.int p0, .int r21, .int (s15.2.1 3 k23), .int (s15.2.1 3 k24), .int (s15.2.1 3 k25)]) (r := [.ref sz]) i68_190 rfl rfl rfl (Nat.le_of_ble_eq_true rfl) t26 ?_
  exact gm_ev.aret i68_193 rfl
theorem t_X6_readAtom_0_tttftf {N0 : Nat} {K : Nat → Nat} {d C : Nat} {s : cS} {G : gm_H} {sz sl : Nat} {p0 : Int32} {k2 : Nat} {k7 : Nat} {kt8 : Nat → Int32} {s11 : cS} {r13 : Int32} {s15 : cS} (hN : N0 ≤ C) (h1 : s.2.2 40 = some (C + 1)) (ek2 : (s.1 41) = nI k2) (lk2 : k2 < 241) (hd : 0 < d) (c5 : 0 ≤ (gm_ix (s.2.1 1 k2))) (c6 : 0 ≤ (gm_ix (s.2.1 1 k2))) (ek7 : (gm_ix (s.2.1 1 k2)) = nI k7) (hkt8 : (bM C (cH C (cI s 41 ((s.1 41) + (1 : Int32)))) G) (K 0) = some (.inl (gm_scr, 8, .inl kt8))) (lk7 : k7 < 8) (c9 : 0 ≤ (gm_ix (s.2.1 1 k2))) (t10 : gm_to N0 K ra_nm (ra_mt K) d 192 [.ref (C + 3), .int (0 : Int32)] (bM C (cH C (cI s 41 ((s.1 41) + (1 : Int32)))) G) sz (.returned none, (bM C (cH C s11) G), sz, 0)) (c12 : ¬ (kt8 k7) ≤ 0) (t14 : gm_to N0 K ra_nm (ra_mt K) d 63 [.ref (C + 2), .int (40 : Int32)] (bM C (cH C s11) G) sz (.returned (some (.int r13)), (bM C (cH C s15) G), sz, 0)) (c16 : r13 = 0) (c17 : ¬ (kt8 k7) ≤ (0 : Int32)) : gm_ev N0 K ra_nm (ra_mt K) d (some (.object "RuleArena$Literal")) (gm_I cX6_readAtom) (gm_lkf (lkX6 false K)) 0 [some (.ref (C + 2)), some (.int p0), none, none, none, none, none] [] (bM C (cH C s) G) sz sl (.returned (some (.null)), (bM C (cH C s15) G), sz, sl) := by
  refine gm_ev.aload_n i68_0 rfl ?_
  refine gm_ev.getfield (v := .ref (C + 1)) i68_1 rfl (bM_fld (j := 2) (fs := cF2 C s) rfl (cv_some h1)) ?_
  refine gm_ev.aload_n i68_4 rfl ?_
  refine gm_ev.getfield (v := .int (s.1 41)) i68_5 rfl (bM_fld (j := 2) (fs := cF2 C s) rfl rfl) ?_
  refine gm_ev.caload i68_8 (bM_ai (j := 1) (n := 241) (f := s.2.1 1) rfl ek2 lk2 (by decide)) ?_
  refine gm_ev.istore_n (ls' := [some (.ref (C + 2)), some (.int p0), some (.int (s.2.1 1 k2)), none, none, none, none]) i68_9 (Nat.le_of_ble_eq_true rfl) rfl ?_
  refine gm_ev.ldc i68_10 rfl ?_
  refine gm_ev.iload_n i68_12 rfl ?_
  refine gm_ev.callT gm_mono_run (av := [.int (s.2.1 1 k2)]) (r := []) i68_13 rfl rfl rfl (Nat.le_of_ble_eq_true rfl) (gm_to_ix hd (Or.inr rfl)) ?_
  refine gm_ev.istore_n (ls' := [some (.ref (C + 2)), some (.int p0), some (.int (s.2.1 1 k2)), some (.int (gm_ix (s.2.1 1 k2))), none, none, none]) i68_16 (Nat.le_of_ble_eq_true rfl) rfl ?_
  refine gm_ev.iload_n i68_17 rfl ?_
  refine gm_ev.if_ge_t (tgt := 30) i68_18 (by decide) c5 ?_
  refine gm_ev.aload_n i68_30 rfl ?_
  refine gm_ev.dup i68_31 rfl ?_
  refine gm_ev.getfield (v := .int (s.1 41)) i68_32 rfl (bM_fld (j := 2) (fs := cF2 C s) rfl rfl) ?_
  refine gm_ev.iconst (v := 1) i68_35 (by decide) ?_
  refine gm_ev.iadd i68_36 ?_
  refine gm_ev.putfield (M' := (bM C (cH C (cI s 41 ((s.1 41) + (1 : Int32)))) G)) i68_37 rfl (bM_put (j := 2) (fs := cF2 C s) rfl (Nat.le_of_ble_eq_true rfl) hN (gm_fit_i _) rfl) ?_
  refine gm_ev.iload_n i68_40 rfl ?_
  refine gm_ev.if_ge_t (tgt := 48) i68_41 (by decide) c6 ?_
  refine gm_ev.getstatic i68_48 rfl ?_
  refine gm_ev.iload_n i68_51 rfl ?_
  refine gm_ev.ialoadS i68_52 (gm_ai_of hkt8 ek7 lk7 (by decide)) ?_
  refine gm_ev.istore (ls' := [some (.ref (C + 2)), some (.int p0), some (.int (s.2.1 1 k2)), some (.int (gm_ix (s.2.1 1 k2))), some (.int (kt8 k7)), none, none]) i68_53 (Nat.le_of_ble_eq_true rfl) rfl ?_
  refine gm_ev.iload_n i68_55 rfl ?_
  refine gm_ev.if_ge_t (tgt := 63) i68_56 (by decide) c9 ?_
  refine gm_ev.iload i68_63 rfl ?_
  refine gm_ev.istore (ls' := [some (.ref (C + 2)), some (.int p0), some (.int (s.2.1 1 k2)), some (.int (gm_ix (s.2.1 1 k2))), some (.int (kt8 k7)), some (.int (kt8 k7)), none]) i68_65 (Nat.le_of_ble_eq_true rfl) rfl ?_
  refine gm_ev.iconst (v := 0) i68_67 (by decide) ?_
  refine gm_ev.istore (ls' := [some (.ref (C + 2)), some (.int p0), some (.int (s.2.1 1 k2)), some (.int (gm_ix (s.2.1 1 k2))), some (.int (kt8 k7)), some (.int (kt8 k7)), some (.int (0 : Int32))]) i68_68 (Nat.le_of_ble_eq_true rfl) rfl ?_
  refine gm_ev.aload_n i68_70 rfl ?_
  refine gm_ev.getfield (v := .ref (C + 3)) i68_71 rfl (bM_fld (j := 2) (fs := cF2 C (cI s 41 ((s.1 41) + (1 : Int32)))) rfl rfl) ?_
  refine gm_ev.iconst (v := 0) i68_74 (by decide) ?_
  refine gm_ev.callS gm_mono_run (av := [.ref (C + 3), .int (0 : Int32)]) (r := []) i68_75 rfl rfl rfl (Nat.le_of_ble_eq_true rfl) t10 ?_
  refine gm_ev.iload i68_78 rfl ?_
  refine gm_ev.if_le_f i68_80 c12 ?_
  refine gm_ev.aload_n i68_83 rfl ?_
  refine gm_ev.bipush (v := 40) i68_84 (by decide) ?_
  refine gm_ev.callV gm_mono_run (av := [.int (40 : Int32)]) (r := []) (ci := 6) (fs := cF2 C s11) (bM_get (j := 2) rfl) i68_86 rfl rfl rfl (Nat.le_of_ble_eq_true rfl) t14 ?_
  refine gm_ev.if_eq_t (tgt := 152) i68_89 (by decide) c16 ?_
  refine gm_ev.iload i68_152 rfl ?_
  refine gm_ev.iload i68_154 rfl ?_
  refine gm_ev.icmp_ge_f i68_156 c17 ?_
  refine gm_ev.null i68_159 ?_
  exact gm_ev.aretN i68_160 rfl
theorem t_X6_readAtom_0_tttff_at92 {N0 : Nat} {K : Nat → Nat} {d C : Nat} {s : cS} {G : gm_H} {sz sl : Nat} {R : gm_R} {p0 : Int32} {k2 : Nat} {k7 : Nat} {kt8 : Nat → Int32} {s11 : cS} {r13 : Int32} {s15 : cS} (hN : N0 ≤ C) (h1 : s.2.2 40 = some (C + 1)) (ek2 : (s.1 41) = nI k2) (lk2 : k2 < 241) (hd : 0 < d) (c5 : 0 ≤ (gm_ix (s.2.1 1 k2))) (c6 : 0 ≤ (gm_ix (s.2.1 1 k2))) (ek7 : (gm_ix (s.2.1 1 k2)) = nI k7) (hkt8 : (bM C (cH C (cI s 41 ((s.1 41) + (1 : Int32)))) G) (K 0) = some (.inl (gm_scr, 8, .inl kt8))) (lk7 : k7 < 8) (c9 : 0 ≤ (gm_ix (s.2.1 1 k2))) (t10 : gm_to N0 K ra_nm (ra_mt K) d 192 [.ref (C + 3), .int (0 : Int32)] (bM C (cH C (cI s 41 ((s.1 41) + (1 : Int32)))) G) sz (.returned none, (bM C (cH C s11) G), sz, 0)) (c12 : ¬ (kt8 k7) ≤ 0) (t14 : gm_to N0 K ra_nm (ra_mt K) d 63 [.ref (C + 2), .int (40 : Int32)] (bM C (cH C s11) G) sz (.returned (some (.int r13)), (bM C (cH C s15) G), sz, 0)) (c16 : ¬ r13 = 0) (k : gm_ev N0 K ra_nm (ra_mt K) d (some (.object "RuleArena$Literal")) (gm_I cX6_readAtom) (gm_lkf (lkX6 false K)) 92 [some (.ref (C + 2)), some (.int p0), some (.int (s.2.1 1 k2)), none, some (.int (kt8 k7)), some (.int (kt8 k7)), some (.int (0 : Int32))] [] (bM C (cH C s15) G) sz sl R) : gm_ev N0 K ra_nm (ra_mt K) d (some (.object "RuleArena$Literal")) (gm_I cX6_readAtom) (gm_lkf (lkX6 false K)) 0 [some (.ref (C + 2)), some (.int p0), none, none, none, none, none] [] (bM C (cH C s) G) sz sl R := by
  refine gm_ev.aload_n i68_0 rfl ?_
  refine gm_ev.getfield (v := .ref (C + 1)) i68_1 rfl (bM_fld (j := 2) (fs := cF2 C s) rfl (cv_some h1)) ?_
  refine gm_ev.aload_n i68_4 rfl ?_
  refine gm_ev.getfield (v := .int (s.1 41)) i68_5 rfl (bM_fld (j := 2) (fs := cF2 C s) rfl rfl) ?_
  refine gm_ev.caload i68_8 (bM_ai (j := 1) (n := 241) (f := s.2.1 1) rfl ek2 lk2 (by decide)) ?_
  refine gm_ev.istore_n (ls' := [some (.ref (C + 2)), some (.int p0), some (.int (s.2.1 1 k2)), none, none, none, none]) i68_9 (Nat.le_of_ble_eq_true rfl) rfl ?_
  refine gm_ev.ldc i68_10 rfl ?_
  refine gm_ev.iload_n i68_12 rfl ?_
  refine gm_ev.callT gm_mono_run (av := [.int (s.2.1 1 k2)]) (r := []) i68_13 rfl rfl rfl (Nat.le_of_ble_eq_true rfl) (gm_to_ix hd (Or.inr rfl)) ?_
  refine gm_ev.istore_n (ls' := [some (.ref (C + 2)), some (.int p0), some (.int (s.2.1 1 k2)), some (.int (gm_ix (s.2.1 1 k2))), none, none, none]) i68_16 (Nat.le_of_ble_eq_true rfl) rfl ?_
  refine gm_ev.iload_n i68_17 rfl ?_
  refine gm_ev.if_ge_t (tgt := 30) i68_18 (by decide) c5 ?_
  refine gm_ev.aload_n i68_30 rfl ?_
  refine gm_ev.dup i68_31 rfl ?_
  refine gm_ev.getfield (v := .int (s.1 41)) i68_32 rfl (bM_fld (j := 2) (fs := cF2 C s) rfl rfl) ?_
  refine gm_ev.iconst (v := 1) i68_35 (by decide) ?_
  refine gm_ev.iadd i68_36 ?_
  refine gm_ev.putfield (M' := (bM C (cH C (cI s 41 ((s.1 41) + (1 : Int32)))) G)) i68_37 rfl (bM_put (j := 2) (fs := cF2 C s) rfl (Nat.le_of_ble_eq_true rfl) hN (gm_fit_i _) rfl) ?_
  refine gm_ev.iload_n i68_40 rfl ?_
  refine gm_ev.if_ge_t (tgt := 48) i68_41 (by decide) c6 ?_
  refine gm_ev.getstatic i68_48 rfl ?_
  refine gm_ev.iload_n i68_51 rfl ?_
  refine gm_ev.ialoadS i68_52 (gm_ai_of hkt8 ek7 lk7 (by decide)) ?_
  refine gm_ev.istore (ls' := [some (.ref (C + 2)), some (.int p0), some (.int (s.2.1 1 k2)), some (.int (gm_ix (s.2.1 1 k2))), some (.int (kt8 k7)), none, none]) i68_53 (Nat.le_of_ble_eq_true rfl) rfl ?_
  refine gm_ev.iload_n i68_55 rfl ?_
  refine gm_ev.if_ge_t (tgt := 63) i68_56 (by decide) c9 ?_
  refine gm_ev.iload i68_63 rfl ?_
  refine gm_ev.istore (ls' := [some (.ref (C + 2)), some (.int p0), some (.int (s.2.1 1 k2)), some (.int (gm_ix (s.2.1 1 k2))), some (.int (kt8 k7)), some (.int (kt8 k7)), none]) i68_65 (Nat.le_of_ble_eq_true rfl) rfl ?_
  refine gm_ev.iconst (v := 0) i68_67 (by decide) ?_
  refine gm_ev.istore (ls' := [some (.ref (C + 2)), some (.int p0), some (.int (s.2.1 1 k2)), some (.int (gm_ix (s.2.1 1 k2))), some (.int (kt8 k7)), some (.int (kt8 k7)), some (.int (0 : Int32))]) i68_68 (Nat.le_of_ble_eq_true rfl) rfl ?_
  refine gm_ev.aload_n i68_70 rfl ?_
  refine gm_ev.getfield (v := .ref (C + 3)) i68_71 rfl (bM_fld (j := 2) (fs := cF2 C (cI s 41 ((s.1 41) + (1 : Int32)))) rfl rfl) ?_
  refine gm_ev.iconst (v := 0) i68_74 (by decide) ?_
  refine gm_ev.callS gm_mono_run (av := [.ref (C + 3), .int (0 : Int32)]) (r := []) i68_75 rfl rfl rfl (Nat.le_of_ble_eq_true rfl) t10 ?_
  refine gm_ev.iload i68_78 rfl ?_
  refine gm_ev.if_le_f i68_80 c12 ?_
  refine gm_ev.aload_n i68_83 rfl ?_
  refine gm_ev.bipush (v := 40) i68_84 (by decide) ?_
  refine gm_ev.callV gm_mono_run (av := [.int (40 : Int32)]) (r := []) (ci := 6) (fs := cF2 C s11) (bM_get (j := 2) rfl) i68_86 rfl rfl rfl (Nat.le_of_ble_eq_true rfl) t14 ?_
  refine gm_ev.if_eq_f i68_89 c16 ?_
  refine gm_ev.le (a := [some (.ref (C + 2)), some (.int p0), some (.int (s.2.1 1 k2)), none, some (.int (kt8 k7)), some (.int (kt8 k7)), some (.int (0 : Int32))]) (gm_leL.le (show gm_leL _ _ from ⟨rfl, ⟨rfl, ⟨rfl, ⟨rfl, ⟨rfl, ⟨rfl, trivial⟩⟩⟩⟩⟩⟩)) ?_
  exact k
theorem t_X6_readAtom_0_ttftt {N0 : Nat} {K : Nat → Nat} {d C : Nat} {s : cS} {G : gm_H} {sz sl : Nat} {p0 : Int32} {k2 : Nat} {k7 : Nat} {kt8 : Nat → Int32} {s11 : cS} {r17 : Int32} {k19 : Nat} {k20 : Nat} {k21 : Nat} {G23 : gm_H} (hN : N0 ≤ C) (h1 : s.2.2 40 = some (C + 1)) (ek2 : (s.1 41) = nI k2) (lk2 : k2 < 241) (hd : 0 < d) (c5 : 0 ≤ (gm_ix (s.2.1 1 k2))) (c6 : 0 ≤ (gm_ix (s.2.1 1 k2))) (ek7 : (gm_ix (s.2.1 1 k2)) = nI k7) (hkt8 : (bM C (cH C (cI s 41 ((s.1 41) + (1 : Int32)))) G) (K 0) = some (.inl (gm_scr, 8, .inl kt8))) (lk7 : k7 < 8) (c9 : ¬ 0 ≤ (gm_ix (s.2.1 1 k2))) (t10 : gm_to N0 K ra_nm (ra_mt K) d 192 [.ref (C + 3), .int (0 : Int32)] (bM C (cH C (cI s 41 ((s.1 41) + (1 : Int32)))) G) sz (.returned none, (bM C (cH C s11) G), sz, 0)) (c12 : (3 : Int32) ≤ 0) (c13 : (kt8 k7) ≤ (0 : Int32)) (hg_sz : C + 34 ≤ sz) (bd14 : gm_bd G sz) (t18 : gm_to N0 K ra_nm (ra_mt K) d 55 [.int (s.2.1 1 k2), .int (0 : Int32)] (bM C (cH C s11) (gm_new G sz (.inr (5, [.int 0, .int 0, .int 0, .int 0, .int 0, .int 0, .int 0])))) (sz + 1) (.returned (some (.int r17)), (bM C (cH C s11) (gm_new G sz (.inr (5, [.int 0, .int 0, .int 0, .int 0, .int 0, .int 0, .int 0])))), (sz + 1), 0)) (ek19 : (0 : Int32) = nI k19) (lk19 : k19 < 3) (ek20 : (1 : Int32) = nI k20) (lk20 : k20 < 3) (ek21 : (2 : Int32) = nI k21) (lk21 : k21 < 3) (t22 : gm_to N0 K ra_nm (ra_mt K) d 54 [.ref sz, .int p0, .int r17, .int (s11.2.1 3 k19), .int (s11.2.1 3 k20), .int (s11.2.1 3 k21)] (bM C (cH C s11) (gm_new G sz (.inr (5, [.int 0, .int 0, .int 0, .int 0, .int 0, .int 0, .int 0])))) (sz + 1) (.returned none, (bM C (cH C s11) G23), (sz + 1), 0)) : gm_ev N0 K ra_nm (ra_mt K) d (some (.object "RuleArena$Literal")) (gm_I cX6_readAtom) (gm_lkf (lkX6 false K)) 0 [some (.ref (C + 2)), some (.int p0), none, none, none, none, none] [] (bM C (cH C s) G) sz sl (.returned (some (.ref sz)), (bM C (cH C s11) G23), (sz + 1), (sl + 7)) := by
  refine gm_ev.aload_n i68_0 rfl ?_
  refine gm_ev.getfield (v := .ref (C + 1)) i68_1 rfl (bM_fld (j := 2) (fs := cF2 C s) rfl (cv_some h1)) ?_
  refine gm_ev.aload_n i68_4 rfl ?_
  refine gm_ev.getfield (v := .int (s.1 41)) i68_5 rfl (bM_fld (j := 2) (fs := cF2 C s) rfl rfl) ?_
  refine gm_ev.caload i68_8 (bM_ai (j := 1) (n := 241) (f := s.2.1 1) rfl ek2 lk2 (by decide)) ?_
  refine gm_ev.istore_n (ls' := [some (.ref (C + 2)), some (.int p0), some (.int (s.2.1 1 k2)), none, none, none, none]) i68_9 (Nat.le_of_ble_eq_true rfl) rfl ?_
  refine gm_ev.ldc i68_10 rfl ?_
  refine gm_ev.iload_n i68_12 rfl ?_
  refine gm_ev.callT gm_mono_run (av := [.int (s.2.1 1 k2)]) (r := []) i68_13 rfl rfl rfl (Nat.le_of_ble_eq_true rfl) (gm_to_ix hd (Or.inr rfl)) ?_
  refine gm_ev.istore_n (ls' := [some (.ref (C + 2)), some (.int p0), some (.int (s.2.1 1 k2)), some (.int (gm_ix (s.2.1 1 k2))), none, none, none]) i68_16 (Nat.le_of_ble_eq_true rfl) rfl ?_
  refine gm_ev.iload_n i68_17 rfl ?_
  refine gm_ev.if_ge_t (tgt := 30) i68_18 (by decide) c5 ?_
  refine gm_ev.aload_n i68_30 rfl ?_
  refine gm_ev.dup i68_31 rfl ?_
  refine gm_ev.getfield (v := .int (s.1 41)) i68_32 rfl (bM_fld (j := 2) (fs := cF2 C s) rfl rfl) ?_
  refine gm_ev.iconst (v := 1) i68_35 (by decide) ?_
  refine gm_ev.iadd i68_36 ?_
  refine gm_ev.putfield (M' := (bM C (cH C (cI s 41 ((s.1 41) + (1 : Int32)))) G)) i68_37 rfl (bM_put (j := 2) (fs := cF2 C s) rfl (Nat.le_of_ble_eq_true rfl) hN (gm_fit_i _) rfl) ?_
  refine gm_ev.iload_n i68_40 rfl ?_
  refine gm_ev.if_ge_t (tgt := 48) i68_41 (by decide) c6 ?_
  refine gm_ev.getstatic i68_48 rfl ?_
  refine gm_ev.iload_n i68_51 rfl ?_
  refine gm_ev.ialoadS i68_52 (gm_ai_of hkt8 ek7 lk7 (by decide)) ?_
  refine gm_ev.istore (ls' := [some (.ref (C + 2)), some (.int p0), some (.int (s.2.1 1 k2)), some (.int (gm_ix (s.2.1 1 k2))), some (.int (kt8 k7)), none, none]) i68_53 (Nat.le_of_ble_eq_true rfl) rfl ?_
  refine gm_ev.iload_n i68_55 rfl ?_
  refine gm_ev.if_ge_f i68_56 c9 ?_
  refine gm_ev.iconst (v := 3) i68_59 (by decide) ?_
  refine gm_ev.goto (tgt := 65) i68_60 (by decide) ?_
  refine gm_ev.istore (ls' := [some (.ref (C + 2)), some (.int p0), some (.int (s.2.1 1 k2)), some (.int (gm_ix (s.2.1 1 k2))), some (.int (kt8 k7)), some (.int (3 : Int32)), none]) i68_65 (Nat.le_of_ble_eq_true rfl) rfl ?_
  refine gm_ev.iconst (v := 0) i68_67 (by decide) ?_
  refine gm_ev.istore (ls' := [some (.ref (C + 2)), some (.int p0), some (.int (s.2.1 1 k2)), some (.int (gm_ix (s.2.1 1 k2))), some (.int (kt8 k7)), some (.int (3 : Int32)), some (.int (0 : Int32))]) i68_68 (Nat.le_of_ble_eq_true rfl) rfl ?_
  refine gm_ev.aload_n i68_70 rfl ?_
  refine gm_ev.getfield (v := .ref (C + 3)) i68_71 rfl (bM_fld (j := 2) (fs := cF2 C (cI s 41 ((s.1 41) + (1 : Int32)))) rfl rfl) ?_
  refine gm_ev.iconst (v := 0) i68_74 (by decide) ?_
  refine gm_ev.callS gm_mono_run (av := [.ref (C + 3), .int (0 : Int32)]) (r := []) i68_75 rfl rfl rfl (Nat.le_of_ble_eq_true rfl) t10 ?_
  refine gm_ev.iload i68_78 rfl ?_
  refine gm_ev.if_le_t (tgt := 152) i68_80 (by decide) c12 ?_
  refine gm_ev.iload i68_152 rfl ?_
  refine gm_ev.iload i68_154 rfl ?_
  refine gm_ev.icmp_ge_t (tgt := 161) i68_156 (by decide) c13 ?_
  refine gm_ev.new i68_161 rfl ?_
  rw [cG_new hg_sz]
  have w15 : (gm_new G sz (.inr (5, [.int 0, .int 0, .int 0, .int 0, .int 0, .int 0, .int 0]))) sz = some (.inr (5, [.int 0, .int 0, .int 0, .int 0, .int 0, .int 0, .int 0])) := gm_set_eq
  have bd16 : gm_bd (gm_new G sz (.inr (5, [.int 0, .int 0, .int 0, .int 0, .int 0, .int 0, .int 0]))) (sz + 1) := gm_bd.new bd14
  refine gm_ev.dup i68_164 rfl ?_
  refine gm_ev.iload_n i68_165 rfl ?_
  refine gm_ev.iload_n i68_166 rfl ?_
  refine gm_ev.iload i68_167 rfl ?_
  refine gm_ev.callS gm_mono_run (av := [.int (s.2.1 1 k2), .int (0 : Int32)]) (r := [.int p0, .ref sz, .ref sz]) i68_169 rfl rfl rfl (Nat.le_of_ble_eq_true rfl) t18 ?_
  refine gm_ev.aload_n i68_172 rfl ?_
  refine gm_ev.getfield (v := .ref (C + 3)) i68_173 rfl (bM_fld (j := 2) (fs := cF2 C s11) rfl rfl) ?_
  refine gm_ev.iconst (v := 0) i68_176 (by decide) ?_
  refine gm_ev.iaload i68_177 (bM_ai (j := 3) (n := 3) (f := s11.2.1 3) rfl ek19 lk19 (by decide)) ?_
  refine gm_ev.aload_n i68_178 rfl ?_
  refine gm_ev.getfield (v := .ref (C + 3)) i68_179 rfl (bM_fld (j := 2) (fs := cF2 C s11) rfl rfl) ?_
  refine gm_ev.iconst (v := 1) i68_182 (by decide) ?_
  refine gm_ev.iaload i68_183 (bM_ai (j := 3) (n := 3) (f := s11.2.1 3) rfl ek20 lk20 (by decide)) ?_
  refine gm_ev.aload_n i68_184 rfl ?_
  refine gm_ev.getfield (v := .ref (C + 3)) i68_185 rfl (bM_fld (j := 2) (fs := cF2 C s11) rfl rfl) ?_
  refine gm_ev.iconst (v := 2) i68_188 (by decide) ?_
  refine gm_ev.iaload i68_189 (bM_ai (j := 3) (n := 3) (f := s11.2.1 3) rfl ek21 lk21 (by decide)) ?_
  refine gm_ev.callI gm_mono_run (av := [.int p0, .int r17, .int (s11.2.1 3 k19), .int (s11.2.1 3 k20), .int (s11.2.1 3 k21)]) (r := [.ref sz]) i68_190 rfl rfl rfl (Nat.le_of_ble_eq_true rfl) t22 ?_
  exact gm_ev.aret i68_193 rfl
