/-! typed paths through the class, by program -/
theorem t_X2_join_0_ttttfff {N0 : Nat} {K : Nat → Nat} {d C : Nat} {s : cS} {G : gm_H} {sz sl : Nat} {p0 : Nat} {p1 : Int32} {fso1 : List Value} {x2 : Int32} {r5 : Nat} {k7 : Nat} {na8 : Nat} {fa8 : Nat → Option Nat} {r9 : Nat} {fso10 : List Value} {x11 : Int32} {x14 : Int32} {x17 : Int32} {x19 : Int32} {r21 : Int32} {x23 : Int32} {r25 : Int32} {x27 : Int32} {r29 : Int32} {r31 : Int32} {r34 : Int32} {r37 : Int32} {r40 : Int32} {s42 : cS} (hN : N0 ≤ C) (ho1 : G p0 = some (.inr (7, fso1))) (f3 : fso1[2]? = some (.int x2)) (hg_p0 : C + 34 ≤ p0) (c4 : p1 < x2) (f6 : fso1[1]? = some (.ref r5)) (ek7 : p1 = nI k7) (ha8 : G r5 = some (.inl (.object "RuleArena$Literal", na8, .inr (.inr (.inr (.inr fa8)))))) (ba8 : na8 < 2 ^ 31) (hg_r5 : C + 34 ≤ r5) (lk7 : k7 < na8) (qk7 : fa8 k7 = some r9) (ho10 : G r9 = some (.inr (5, fso10))) (f12 : fso10[0]? = some (.int x11)) (hg_r9 : C + 34 ≤ r9) (c13 : ¬ x11 = (2 : Int32)) (f15 : fso10[5]? = some (.int x14)) (c16 : ¬ x14 = 0) (f18 : fso10[1]? = some (.int x17)) (f20 : fso10[2]? = some (.int x19)) (t22 : gm_to N0 K ra_nm (ra_mt K) d 36 [.ref (C + 5), .int x19] (bM C (cH C s) G) sz (.returned (some (.int r21)), (bM C (cH C s) G), sz, 0)) (f24 : fso10[3]? = some (.int x23)) (t26 : gm_to N0 K ra_nm (ra_mt K) d 36 [.ref (C + 5), .int x23] (bM C (cH C s) G) sz (.returned (some (.int r25)), (bM C (cH C s) G), sz, 0)) (f28 : fso10[4]? = some (.int x27)) (t30 : gm_to N0 K ra_nm (ra_mt K) d 36 [.ref (C + 5), .int x27] (bM C (cH C s) G) sz (.returned (some (.int r29)), (bM C (cH C s) G), sz, 0)) (t32 : gm_to N0 K ra_nm (ra_mt K) d 21 [.ref (C + 6), .int x17, .int r21, .int r25, .int r29] (bM C (cH C s) G) sz (.returned (some (.int r31)), (bM C (cH C s) G), sz, 0)) (c33 : ¬ x11 = (1 : Int32)) (t35 : gm_to N0 K ra_nm (ra_mt K) d 34 [.ref (C + 5), .int p1] (bM C (cH C s) G) sz (.returned (some (.int r34)), (bM C (cH C s) G), sz, 0)) (c36 : ¬ r31 < r34) (t38 : gm_to N0 K ra_nm (ra_mt K) d 35 [.ref (C + 5), .int p1] (bM C (cH C s) G) sz (.returned (some (.int r37)), (bM C (cH C s) G), sz, 0)) (c39 : ¬ r37 < r31) (t41 : gm_to N0 K ra_nm (ra_mt K) d 32 [.ref (C + 5), .ref p0, .int (p1 + (1 : Int32))] (bM C (cH C s) G) sz (.returned (some (.int r40)), (bM C (cH C s42) G), sz, 0)) (c43 : ¬ r40 = 0) : gm_ev N0 K ra_nm (ra_mt K) d (some .boolean) (gm_I cX2_join) (gm_lkf (lkX2 false K)) 0 [some (.ref (C + 5)), some (.ref p0), some (.int p1), none, none] [] (bM C (cH C s) G) sz sl (.returned (some (.int (1 : Int32))), (bM C (cH C s42) G), sz, sl) := by
  refine gm_ev.iload_n i32_0 rfl ?_
  refine gm_ev.aload_n i32_1 rfl ?_
  refine gm_ev.getfield (v := .int x2) i32_2 rfl (gm_fld_of (cG_get hg_p0 ho1) f3) ?_
  refine gm_ev.icmp_lt_t (tgt := 50) i32_5 (by decide) c4 ?_
  refine gm_ev.aload_n i32_50 rfl ?_
  refine gm_ev.getfield (v := .ref r5) i32_51 rfl (gm_fld_of (cG_get hg_p0 ho1) f6) ?_
  refine gm_ev.iload_n i32_54 rfl ?_
  refine gm_ev.aaload (x := some r9) i32_55 (gm_aq_of (cG_get hg_r5 ha8) ek7 lk7 ba8 qk7) ?_
  refine gm_ev.astore_n (ls' := [some (.ref (C + 5)), some (.ref p0), some (.int p1), some (.ref r9), none]) i32_56 (Nat.le_of_ble_eq_true rfl) rfl ?_
  refine gm_ev.aload_n i32_57 rfl ?_
  refine gm_ev.getfield (v := .int x11) i32_58 rfl (gm_fld_of (cG_get hg_r9 ho10) f12) ?_
  refine gm_ev.iconst (v := 2) i32_61 (by decide) ?_
  refine gm_ev.icmp_ne_t (tgt := 101) i32_62 (by decide) c13 ?_
  refine gm_ev.aload_n i32_101 rfl ?_
  refine gm_ev.getfield (v := .int x14) i32_102 rfl (gm_fld_of (cG_get hg_r9 ho10) f15) ?_
  refine gm_ev.if_ne_t (tgt := 115) i32_105 (by decide) c16 ?_
  refine gm_ev.aload_n i32_115 rfl ?_
  refine gm_ev.getfield (v := .ref (C + 6)) i32_116 rfl (bM_fld (j := 5) (fs := cF5 C s) rfl rfl) ?_
  refine gm_ev.aload_n i32_119 rfl ?_
  refine gm_ev.getfield (v := .int x17) i32_120 rfl (gm_fld_of (cG_get hg_r9 ho10) f18) ?_
  refine gm_ev.aload_n i32_123 rfl ?_
  refine gm_ev.aload_n i32_124 rfl ?_
  refine gm_ev.getfield (v := .int x19) i32_125 rfl (gm_fld_of (cG_get hg_r9 ho10) f20) ?_
  refine gm_ev.callV gm_mono_run (av := [.int x19]) (r := [.int x17, .ref (C + 6)]) (ci := 2) (fs := cF5 C s) (bM_get (j := 5) rfl) i32_128 rfl rfl rfl (Nat.le_of_ble_eq_true rfl) t22 ?_
  refine gm_ev.aload_n i32_131 rfl ?_
  refine gm_ev.aload_n i32_132 rfl ?_
  refine gm_ev.getfield (v := .int x23) i32_133 rfl (gm_fld_of (cG_get hg_r9 ho10) f24) ?_
  refine gm_ev.callV gm_mono_run (av := [.int x23]) (r := [.int r21, .int x17, .ref (C + 6)]) (ci := 2) (fs := cF5 C s) (bM_get (j := 5) rfl) i32_136 rfl rfl rfl (Nat.le_of_ble_eq_true rfl) t26 ?_
  refine gm_ev.aload_n i32_139 rfl ?_
  refine gm_ev.aload_n i32_140 rfl ?_
  refine gm_ev.getfield (v := .int x27) i32_141 rfl (gm_fld_of (cG_get hg_r9 ho10) f28) ?_
  refine gm_ev.callV gm_mono_run (av := [.int x27]) (r := [.int r25, .int r21, .int x17, .ref (C + 6)]) (ci := 2) (fs := cF5 C s) (bM_get (j := 5) rfl) i32_144 rfl rfl rfl (Nat.le_of_ble_eq_true rfl) t30 ?_
  refine gm_ev.callV gm_mono_run (av := [.int x17, .int r21, .int r25, .int r29]) (r := []) (ci := 1) (fs := cF6 C s) (bM_get (j := 6) rfl) i32_147 rfl rfl rfl (Nat.le_of_ble_eq_true rfl) t32 ?_
  refine gm_ev.istore (ls' := [some (.ref (C + 5)), some (.ref p0), some (.int p1), some (.ref r9), some (.int r31)]) i32_150 (Nat.le_of_ble_eq_true rfl) rfl ?_
  refine gm_ev.aload_n i32_152 rfl ?_
  refine gm_ev.getfield (v := .int x11) i32_153 rfl (gm_fld_of (cG_get hg_r9 ho10) f12) ?_
  refine gm_ev.iconst (v := 1) i32_156 (by decide) ?_
  refine gm_ev.icmp_ne_t (tgt := 182) i32_157 (by decide) c33 ?_
  refine gm_ev.iload i32_182 rfl ?_
  refine gm_ev.aload_n i32_184 rfl ?_
  refine gm_ev.iload_n i32_185 rfl ?_
  refine gm_ev.callV gm_mono_run (av := [.int p1]) (r := [.int r31]) (ci := 2) (fs := cF5 C s) (bM_get (j := 5) rfl) i32_186 rfl rfl rfl (Nat.le_of_ble_eq_true rfl) t35 ?_
  refine gm_ev.icmp_lt_f i32_189 c36 ?_
  refine gm_ev.iload i32_192 rfl ?_
  refine gm_ev.aload_n i32_194 rfl ?_
  refine gm_ev.iload_n i32_195 rfl ?_
  refine gm_ev.callV gm_mono_run (av := [.int p1]) (r := [.int r31]) (ci := 2) (fs := cF5 C s) (bM_get (j := 5) rfl) i32_196 rfl rfl rfl (Nat.le_of_ble_eq_true rfl) t38 ?_
  refine gm_ev.icmp_gt_f i32_199 c39 ?_
  refine gm_ev.aload_n i32_202 rfl ?_
  refine gm_ev.aload_n i32_203 rfl ?_
  refine gm_ev.iload_n i32_204 rfl ?_
  refine gm_ev.iconst (v := 1) i32_205 (by decide) ?_
  refine gm_ev.iadd i32_206 ?_
  refine gm_ev.callV gm_mono_run (av := [.ref p0, .int (p1 + (1 : Int32))]) (r := []) (ci := 2) (fs := cF5 C s) (bM_get (j := 5) rfl) i32_207 rfl rfl rfl (Nat.le_of_ble_eq_true rfl) t41 ?_
  refine gm_ev.if_eq_f i32_210 c43 ?_
  refine gm_ev.iconst (v := 1) i32_213 (by decide) ?_
  refine gm_ev.goto (tgt := 218) i32_214 (by decide) ?_
  exact gm_ev.zret i32_218 rfl (by decide)
theorem t_X2_join_0_tttft {N0 : Nat} {K : Nat → Nat} {d C : Nat} {s : cS} {G : gm_H} {sz sl : Nat} {p0 : Nat} {p1 : Int32} {fso1 : List Value} {x2 : Int32} {r5 : Nat} {k7 : Nat} {na8 : Nat} {fa8 : Nat → Option Nat} {r9 : Nat} {fso10 : List Value} {x11 : Int32} {x14 : Int32} {x17 : Int32} {x19 : Int32} {r21 : Int32} {x23 : Int32} {r25 : Int32} {x27 : Int32} {r29 : Int32} {r31 : Int32} (hN : N0 ≤ C) (ho1 : G p0 = some (.inr (7, fso1))) (f3 : fso1[2]? = some (.int x2)) (hg_p0 : C + 34 ≤ p0) (c4 : p1 < x2) (f6 : fso1[1]? = some (.ref r5)) (ek7 : p1 = nI k7) (ha8 : G r5 = some (.inl (.object "RuleArena$Literal", na8, .inr (.inr (.inr (.inr fa8)))))) (ba8 : na8 < 2 ^ 31) (hg_r5 : C + 34 ≤ r5) (lk7 : k7 < na8) (qk7 : fa8 k7 = some r9) (ho10 : G r9 = some (.inr (5, fso10))) (f12 : fso10[0]? = some (.int x11)) (hg_r9 : C + 34 ≤ r9) (c13 : ¬ x11 = (2 : Int32)) (f15 : fso10[5]? = some (.int x14)) (c16 : ¬ x14 = 0) (f18 : fso10[1]? = some (.int x17)) (f20 : fso10[2]? = some (.int x19)) (t22 : gm_to N0 K ra_nm (ra_mt K) d 36 [.ref (C + 5), .int x19] (bM C (cH C s) G) sz (.returned (some (.int r21)), (bM C (cH C s) G), sz, 0)) (f24 : fso10[3]? = some (.int x23)) (t26 : gm_to N0 K ra_nm (ra_mt K) d 36 [.ref (C + 5), .int x23] (bM C (cH C s) G) sz (.returned (some (.int r25)), (bM C (cH C s) G), sz, 0)) (f28 : fso10[4]? = some (.int x27)) (t30 : gm_to N0 K ra_nm (ra_mt K) d 36 [.ref (C + 5), .int x27] (bM C (cH C s) G) sz (.returned (some (.int r29)), (bM C (cH C s) G), sz, 0)) (t32 : gm_to N0 K ra_nm (ra_mt K) d 21 [.ref (C + 6), .int x17, .int r21, .int r25, .int r29] (bM C (cH C s) G) sz (.returned (some (.int r31)), (bM C (cH C s) G), sz, 0)) (c33 : x11 = (1 : Int32)) (c34 : ¬ r31 = 0) : gm_ev N0 K ra_nm (ra_mt K) d (some .boolean) (gm_I cX2_join) (gm_lkf (lkX2 false K)) 0 [some (.ref (C + 5)), some (.ref p0), some (.int p1), none, none] [] (bM C (cH C s) G) sz sl (.returned (some (.int (0 : Int32))), (bM C (cH C s) G), sz, sl) := by
  refine gm_ev.iload_n i32_0 rfl ?_
  refine gm_ev.aload_n i32_1 rfl ?_
  refine gm_ev.getfield (v := .int x2) i32_2 rfl (gm_fld_of (cG_get hg_p0 ho1) f3) ?_
  refine gm_ev.icmp_lt_t (tgt := 50) i32_5 (by decide) c4 ?_
  refine gm_ev.aload_n i32_50 rfl ?_
  refine gm_ev.getfield (v := .ref r5) i32_51 rfl (gm_fld_of (cG_get hg_p0 ho1) f6) ?_
  refine gm_ev.iload_n i32_54 rfl ?_
  refine gm_ev.aaload (x := some r9) i32_55 (gm_aq_of (cG_get hg_r5 ha8) ek7 lk7 ba8 qk7) ?_
  refine gm_ev.astore_n (ls' := [some (.ref (C + 5)), some (.ref p0), some (.int p1), some (.ref r9), none]) i32_56 (Nat.le_of_ble_eq_true rfl) rfl ?_
  refine gm_ev.aload_n i32_57 rfl ?_
  refine gm_ev.getfield (v := .int x11) i32_58 rfl (gm_fld_of (cG_get hg_r9 ho10) f12) ?_
  refine gm_ev.iconst (v := 2) i32_61 (by decide) ?_
  refine gm_ev.icmp_ne_t (tgt := 101) i32_62 (by decide) c13 ?_
  refine gm_ev.aload_n i32_101 rfl ?_
  refine gm_ev.getfield (v := .int x14) i32_102 rfl (gm_fld_of (cG_get hg_r9 ho10) f15) ?_
  refine gm_ev.if_ne_t (tgt := 115) i32_105 (by decide) c16 ?_
  refine gm_ev.aload_n i32_115 rfl ?_
  refine gm_ev.getfield (v := .ref (C + 6)) i32_116 rfl (bM_fld (j := 5) (fs := cF5 C s) rfl rfl) ?_
  refine gm_ev.aload_n i32_119 rfl ?_
  refine gm_ev.getfield (v := .int x17) i32_120 rfl (gm_fld_of (cG_get hg_r9 ho10) f18) ?_
  refine gm_ev.aload_n i32_123 rfl ?_
  refine gm_ev.aload_n i32_124 rfl ?_
  refine gm_ev.getfield (v := .int x19) i32_125 rfl (gm_fld_of (cG_get hg_r9 ho10) f20) ?_
  refine gm_ev.callV gm_mono_run (av := [.int x19]) (r := [.int x17, .ref (C + 6)]) (ci := 2) (fs := cF5 C s) (bM_get (j := 5) rfl) i32_128 rfl rfl rfl (Nat.le_of_ble_eq_true rfl) t22 ?_
  refine gm_ev.aload_n i32_131 rfl ?_
  refine gm_ev.aload_n i32_132 rfl ?_
  refine gm_ev.getfield (v := .int x23) i32_133 rfl (gm_fld_of (cG_get hg_r9 ho10) f24) ?_
  refine gm_ev.callV gm_mono_run (av := [.int x23]) (r := [.int r21, .int x17, .ref (C + 6)]) (ci := 2) (fs := cF5 C s) (bM_get (j := 5) rfl) i32_136 rfl rfl rfl (Nat.le_of_ble_eq_true rfl) t26 ?_
  refine gm_ev.aload_n i32_139 rfl ?_
  refine gm_ev.aload_n i32_140 rfl ?_
  refine gm_ev.getfield (v := .int x27) i32_141 rfl (gm_fld_of (cG_get hg_r9 ho10) f28) ?_
  refine gm_ev.callV gm_mono_run (av := [.int x27]) (r := [.int r25, .int r21, .int x17, .ref (C + 6)]) (ci := 2) (fs := cF5 C s) (bM_get (j := 5) rfl) i32_144 rfl rfl rfl (Nat.le_of_ble_eq_true rfl) t30 ?_
  refine gm_ev.callV gm_mono_run (av := [.int x17, .int r21, .int r25, .int r29]) (r := []) (ci := 1) (fs := cF6 C s) (bM_get (j := 6) rfl) i32_147 rfl rfl rfl (Nat.le_of_ble_eq_true rfl) t32 ?_
  refine gm_ev.istore (ls' := [some (.ref (C + 5)), some (.ref p0), some (.int p1), some (.ref r9), some (.int r31)]) i32_150 (Nat.le_of_ble_eq_true rfl) rfl ?_
  refine gm_ev.aload_n i32_152 rfl ?_
  refine gm_ev.getfield (v := .int x11) i32_153 rfl (gm_fld_of (cG_get hg_r9 ho10) f12) ?_
  refine gm_ev.iconst (v := 1) i32_156 (by decide) ?_
  refine gm_ev.icmp_ne_f i32_157 c33 ?_
  refine gm_ev.iload i32_160 rfl ?_
  refine gm_ev.if_ne_t (tgt := 180) i32_162 (by decide) c34 ?_
  refine gm_ev.iconst (v := 0) i32_180 (by decide) ?_
  exact gm_ev.zret i32_181 rfl (by decide)
theorem t_X2_join_0_tttfft {N0 : Nat} {K : Nat → Nat} {d C : Nat} {s : cS} {G : gm_H} {sz sl : Nat} {p0 : Nat} {p1 : Int32} {fso1 : List Value} {x2 : Int32} {r5 : Nat} {k7 : Nat} {na8 : Nat} {fa8 : Nat → Option Nat} {r9 : Nat} {fso10 : List Value} {x11 : Int32} {x14 : Int32} {x17 : Int32} {x19 : Int32} {r21 : Int32} {x23 : Int32} {r25 : Int32} {x27 : Int32} {r29 : Int32} {r31 : Int32} {r35 : Int32} {s37 : cS} (hN : N0 ≤ C) (ho1 : G p0 = some (.inr (7, fso1))) (f3 : fso1[2]? = some (.int x2)) (hg_p0 : C + 34 ≤ p0) (c4 : p1 < x2) (f6 : fso1[1]? = some (.ref r5)) (ek7 : p1 = nI k7) (ha8 : G r5 = some (.inl (.object "RuleArena$Literal", na8, .inr (.inr (.inr (.inr fa8)))))) (ba8 : na8 < 2 ^ 31) (hg_r5 : C + 34 ≤ r5) (lk7 : k7 < na8) (qk7 : fa8 k7 = some r9) (ho10 : G r9 = some (.inr (5, fso10))) (f12 : fso10[0]? = some (.int x11)) (hg_r9 : C + 34 ≤ r9) (c13 : ¬ x11 = (2 : Int32)) (f15 : fso10[5]? = some (.int x14)) (c16 : ¬ x14 = 0) (f18 : fso10[1]? = some (.int x17)) (f20 : fso10[2]? = some (.int x19)) (t22 : gm_to N0 K ra_nm (ra_mt K) d 36 [.ref (C + 5), .int x19] (bM C (cH C s) G) sz (.returned (some (.int r21)), (bM C (cH C s) G), sz, 0)) (f24 : fso10[3]? = some (.int x23)) (t26 : gm_to N0 K ra_nm (ra_mt K) d 36 [.ref (C + 5), .int x23] (bM C (cH C s) G) sz (.returned (some (.int r25)), (bM C (cH C s) G), sz, 0)) (f28 : fso10[4]? = some (.int x27)) (t30 : gm_to N0 K ra_nm (ra_mt K) d 36 [.ref (C + 5), .int x27] (bM C (cH C s) G) sz (.returned (some (.int r29)), (bM C (cH C s) G), sz, 0)) (t32 : gm_to N0 K ra_nm (ra_mt K) d 21 [.ref (C + 6), .int x17, .int r21, .int r25, .int r29] (bM C (cH C s) G) sz (.returned (some (.int r31)), (bM C (cH C s) G), sz, 0)) (c33 : x11 = (1 : Int32)) (c34 : r31 = 0) (t36 : gm_to N0 K ra_nm (ra_mt K) d 32 [.ref (C + 5), .ref p0, .int (p1 + (1 : Int32))] (bM C (cH C s) G) sz (.returned (some (.int r35)), (bM C (cH C s37) G), sz, 0)) (c38 : r35 = 0) : gm_ev N0 K ra_nm (ra_mt K) d (some .boolean) (gm_I cX2_join) (gm_lkf (lkX2 false K)) 0 [some (.ref (C + 5)), some (.ref p0), some (.int p1), none, none] [] (bM C (cH C s) G) sz sl (.returned (some (.int (0 : Int32))), (bM C (cH C s37) G), sz, sl) := by
  refine gm_ev.iload_n i32_0 rfl ?_
  refine gm_ev.aload_n i32_1 rfl ?_
  refine gm_ev.getfield (v := .int x2) i32_2 rfl (gm_fld_of (cG_get hg_p0 ho1) f3) ?_
  refine gm_ev.icmp_lt_t (tgt := 50) i32_5 (by decide) c4 ?_
  refine gm_ev.aload_n i32_50 rfl ?_
  refine gm_ev.getfield (v := .ref r5) i32_51 rfl (gm_fld_of (cG_get hg_p0 ho1) f6) ?_
  refine gm_ev.iload_n i32_54 rfl ?_
  refine gm_ev.aaload (x := some r9) i32_55 (gm_aq_of (cG_get hg_r5 ha8) ek7 lk7 ba8 qk7) ?_
  refine gm_ev.astore_n (ls' := [some (.ref (C + 5)), some (.ref p0), some (.int p1), some (.ref r9), none]) i32_56 (Nat.le_of_ble_eq_true rfl) rfl ?_
  refine gm_ev.aload_n i32_57 rfl ?_
  refine gm_ev.getfield (v := .int x11) i32_58 rfl (gm_fld_of (cG_get hg_r9 ho10) f12) ?_
  refine gm_ev.iconst (v := 2) i32_61 (by decide) ?_
  refine gm_ev.icmp_ne_t (tgt := 101) i32_62 (by decide) c13 ?_
  refine gm_ev.aload_n i32_101 rfl ?_
  refine gm_ev.getfield (v := .int x14) i32_102 rfl (gm_fld_of (cG_get hg_r9 ho10) f15) ?_
  refine gm_ev.if_ne_t (tgt := 115) i32_105 (by decide) c16 ?_
  refine gm_ev.aload_n i32_115 rfl ?_
  refine gm_ev.getfield (v := .ref (C + 6)) i32_116 rfl (bM_fld (j := 5) (fs := cF5 C s) rfl rfl) ?_
  refine gm_ev.aload_n i32_119 rfl ?_
  refine gm_ev.getfield (v := .int x17) i32_120 rfl (gm_fld_of (cG_get hg_r9 ho10) f18) ?_
  refine gm_ev.aload_n i32_123 rfl ?_
  refine gm_ev.aload_n i32_124 rfl ?_
  refine gm_ev.getfield (v := .int x19) i32_125 rfl (gm_fld_of (cG_get hg_r9 ho10) f20) ?_
  refine gm_ev.callV gm_mono_run (av := [.int x19]) (r := [.int x17, .ref (C + 6)]) (ci := 2) (fs := cF5 C s) (bM_get (j := 5) rfl) i32_128 rfl rfl rfl (Nat.le_of_ble_eq_true rfl) t22 ?_
  refine gm_ev.aload_n i32_131 rfl ?_
  refine gm_ev.aload_n i32_132 rfl ?_
  refine gm_ev.getfield (v := .int x23) i32_133 rfl (gm_fld_of (cG_get hg_r9 ho10) f24) ?_
  refine gm_ev.callV gm_mono_run (av := [.int x23]) (r := [.int r21, .int x17, .ref (C + 6)]) (ci := 2) (fs := cF5 C s) (bM_get (j := 5) rfl) i32_136 rfl rfl rfl (Nat.le_of_ble_eq_true rfl) t26 ?_
  refine gm_ev.aload_n i32_139 rfl ?_
  refine gm_ev.aload_n i32_140 rfl ?_
  refine gm_ev.getfield (v := .int x27) i32_141 rfl (gm_fld_of (cG_get hg_r9 ho10) f28) ?_
  refine gm_ev.callV gm_mono_run (av := [.int x27]) (r := [.int r25, .int r21, .int x17, .ref (C + 6)]) (ci := 2) (fs := cF5 C s) (bM_get (j := 5) rfl) i32_144 rfl rfl rfl (Nat.le_of_ble_eq_true rfl) t30 ?_
  refine gm_ev.callV gm_mono_run (av := [.int x17, .int r21, .int r25, .int r29]) (r := []) (ci := 1) (fs := cF6 C s) (bM_get (j := 6) rfl) i32_147 rfl rfl rfl (Nat.le_of_ble_eq_true rfl) t32 ?_
  refine gm_ev.istore (ls' := [some (.ref (C + 5)), some (.ref p0), some (.int p1), some (.ref r9), some (.int r31)]) i32_150 (Nat.le_of_ble_eq_true rfl) rfl ?_
  refine gm_ev.aload_n i32_152 rfl ?_
  refine gm_ev.getfield (v := .int x11) i32_153 rfl (gm_fld_of (cG_get hg_r9 ho10) f12) ?_
  refine gm_ev.iconst (v := 1) i32_156 (by decide) ?_
  refine gm_ev.icmp_ne_f i32_157 c33 ?_
  refine gm_ev.iload i32_160 rfl ?_
  refine gm_ev.if_ne_f i32_162 c34 ?_
  refine gm_ev.aload_n i32_165 rfl ?_
  refine gm_ev.aload_n i32_166 rfl ?_
  refine gm_ev.iload_n i32_167 rfl ?_
  refine gm_ev.iconst (v := 1) i32_168 (by decide) ?_
  refine gm_ev.iadd i32_169 ?_
  refine gm_ev.callV gm_mono_run (av := [.ref p0, .int (p1 + (1 : Int32))]) (r := []) (ci := 2) (fs := cF5 C s) (bM_get (j := 5) rfl) i32_170 rfl rfl rfl (Nat.le_of_ble_eq_true rfl) t36 ?_
  refine gm_ev.if_eq_t (tgt := 180) i32_173 (by decide) c38 ?_
  refine gm_ev.iconst (v := 0) i32_180 (by decide) ?_
  exact gm_ev.zret i32_181 rfl (by decide)
theorem t_X2_join_0_tttfff {N0 : Nat} {K : Nat → Nat} {d C : Nat} {s : cS} {G : gm_H} {sz sl : Nat} {p0 : Nat} {p1 : Int32} {fso1 : List Value} {x2 : Int32} {r5 : Nat} {k7 : Nat} {na8 : Nat} {fa8 : Nat → Option Nat} {r9 : Nat} {fso10 : List Value} {x11 : Int32} {x14 : Int32} {x17 : Int32} {x19 : Int32} {r21 : Int32} {x23 : Int32} {r25 : Int32} {x27 : Int32} {r29 : Int32} {r31 : Int32} {r35 : Int32} {s37 : cS} (hN : N0 ≤ C) (ho1 : G p0 = some (.inr (7, fso1))) (f3 : fso1[2]? = some (.int x2)) (hg_p0 : C + 34 ≤ p0) (c4 : p1 < x2) (f6 : fso1[1]? = some (.ref r5)) (ek7 : p1 = nI k7) (ha8 : G r5 = some (.inl (.object "RuleArena$Literal", na8, .inr (.inr (.inr (.inr fa8)))))) (ba8 : na8 < 2 ^ 31) (hg_r5 : C + 34 ≤ r5) (lk7 : k7 < na8) (qk7 : fa8 k7 = some r9) (ho10 : G r9 = some (.inr (5, fso10))) (f12 : fso10[0]? = some (.int x11)) (hg_r9 : C + 34 ≤ r9) (c13 : ¬ x11 = (2 : Int32)) (f15 : fso10[5]? = some (.int x14)) (c16 : ¬ x14 = 0) (f18 : fso10[1]? = some (.int x17)) (f20 : fso10[2]? = some (.int x19)) (t22 : gm_to N0 K ra_nm (ra_mt K) d 36 [.ref (C + 5), .int x19] (bM C (cH C s) G) sz (.returned (some (.int r21)), (bM C (cH C s) G), sz, 0)) (f24 : fso10[3]? = some (.int x23)) (t26 : gm_to N0 K ra_nm (ra_mt K) d 36 [.ref (C + 5), .int x23] (bM C (cH C s) G) sz (.returned (some (.int r25)), (bM C (cH C s) G), sz, 0)) (f28 : fso10[4]? = some (.int x27)) (t30 : gm_to N0 K ra_nm (ra_mt K) d 36 [.ref (C + 5), .int x27] (bM C (cH C s) G) sz (.returned (some (.int r29)), (bM C (cH C s) G), sz, 0)) (t32 : gm_to N0 K ra_nm (ra_mt K) d 21 [.ref (C + 6), .int x17, .int r21, .int r25, .int r29] (bM C (cH C s) G) sz (.returned (some (.int r31)), (bM C (cH C s) G), sz, 0)) (c33 : x11 = (1 : Int32)) (c34 : r31 = 0) (t36 : gm_to N0 K ra_nm (ra_mt K) d 32 [.ref (C + 5), .ref p0, .int (p1 + (1 : Int32))] (bM C (cH C s) G) sz (.returned (some (.int r35)), (bM C (cH C s37) G), sz, 0)) (c38 : ¬ r35 = 0) : gm_ev N0 K ra_nm (ra_mt K) d (some .boolean) (gm_I cX2_join) (gm_lkf (lkX2 false K)) 0 [some (.ref (C + 5)), some (.ref p0), some (.int p1), none, none] [] (bM C (cH C s) G) sz sl (.returned (some (.int (1 : Int32))), (bM C (cH C s37) G), sz, sl) := by
  refine gm_ev.iload_n i32_0 rfl ?_
  refine gm_ev.aload_n i32_1 rfl ?_
  refine gm_ev.getfield (v := .int x2) i32_2 rfl (gm_fld_of (cG_get hg_p0 ho1) f3) ?_
  refine gm_ev.icmp_lt_t (tgt := 50) i32_5 (by decide) c4 ?_
  refine gm_ev.aload_n i32_50 rfl ?_
  refine gm_ev.getfield (v := .ref r5) i32_51 rfl (gm_fld_of (cG_get hg_p0 ho1) f6) ?_
  refine gm_ev.iload_n i32_54 rfl ?_
  refine gm_ev.aaload (x := some r9) i32_55 (gm_aq_of (cG_get hg_r5 ha8) ek7 lk7 ba8 qk7) ?_
  refine gm_ev.astore_n (ls' := [some (.ref (C + 5)), some (.ref p0), some (.int p1), some (.ref r9), none]) i32_56 (Nat.le_of_ble_eq_true rfl) rfl ?_
  refine gm_ev.aload_n i32_57 rfl ?_
  refine gm_ev.getfield (v := .int x11) i32_58 rfl (gm_fld_of (cG_get hg_r9 ho10) f12) ?_
  refine gm_ev.iconst (v := 2) i32_61 (by decide) ?_
  refine gm_ev.icmp_ne_t (tgt := 101) i32_62 (by decide) c13 ?_
  refine gm_ev.aload_n i32_101 rfl ?_
  refine gm_ev.getfield (v := .int x14) i32_102 rfl (gm_fld_of (cG_get hg_r9 ho10) f15) ?_
  refine gm_ev.if_ne_t (tgt := 115) i32_105 (by decide) c16 ?_
  refine gm_ev.aload_n i32_115 rfl ?_
  refine gm_ev.getfield (v := .ref (C + 6)) i32_116 rfl (bM_fld (j := 5) (fs := cF5 C s) rfl rfl) ?_
  refine gm_ev.aload_n i32_119 rfl ?_
  refine gm_ev.getfield (v := .int x17) i32_120 rfl (gm_fld_of (cG_get hg_r9 ho10) f18) ?_
  refine gm_ev.aload_n i32_123 rfl ?_
  refine gm_ev.aload_n i32_124 rfl ?_
  refine gm_ev.getfield (v := .int x19) i32_125 rfl (gm_fld_of (cG_get hg_r9 ho10) f20) ?_
  refine gm_ev.callV gm_mono_run (av := [.int x19]) (r := [.int x17, .ref (C + 6)]) (ci := 2) (fs := cF5 C s) (bM_get (j := 5) rfl) i32_128 rfl rfl rfl (Nat.le_of_ble_eq_true rfl) t22 ?_
  refine gm_ev.aload_n i32_131 rfl ?_
  refine gm_ev.aload_n i32_132 rfl ?_
  refine gm_ev.getfield (v := .int x23) i32_133 rfl (gm_fld_of (cG_get hg_r9 ho10) f24) ?_
  refine gm_ev.callV gm_mono_run (av := [.int x23]) (r := [.int r21, .int x17, .ref (C + 6)]) (ci := 2) (fs := cF5 C s) (bM_get (j := 5) rfl) i32_136 rfl rfl rfl (Nat.le_of_ble_eq_true rfl) t26 ?_
  refine gm_ev.aload_n i32_139 rfl ?_
  refine gm_ev.aload_n i32_140 rfl ?_
  refine gm_ev.getfield (v := .int x27) i32_141 rfl (gm_fld_of (cG_get hg_r9 ho10) f28) ?_
  refine gm_ev.callV gm_mono_run (av := [.int x27]) (r := [.int r25, .int r21, .int x17, .ref (C + 6)]) (ci := 2) (fs := cF5 C s) (bM_get (j := 5) rfl) i32_144 rfl rfl rfl (Nat.le_of_ble_eq_true rfl) t30 ?_
  refine gm_ev.callV gm_mono_run (av := [.int x17, .int r21, .int r25, .int r29]) (r := []) (ci := 1) (fs := cF6 C s) (bM_get (j := 6) rfl) i32_147 rfl rfl rfl (Nat.le_of_ble_eq_true rfl) t32 ?_
  refine gm_ev.istore (ls' := [some (.ref (C + 5)), some (.ref p0), some (.int p1), some (.ref r9), some (.int r31)]) i32_150 (Nat.le_of_ble_eq_true rfl) rfl ?_
  refine gm_ev.aload_n i32_152 rfl ?_
  refine gm_ev.getfield (v := .int x11) i32_153 rfl (gm_fld_of (cG_get hg_r9 ho10) f12) ?_
  refine gm_ev.iconst (v := 1) i32_156 (by decide) ?_
  refine gm_ev.icmp_ne_f i32_157 c33 ?_
  refine gm_ev.iload i32_160 rfl ?_
  refine gm_ev.if_ne_f i32_162 c34 ?_
  refine gm_ev.aload_n i32_165 rfl ?_
  refine gm_ev.aload_n i32_166 rfl ?_
  refine gm_ev.iload_n i32_167 rfl ?_
  refine gm_ev.iconst (v := 1) i32_168 (by decide) ?_
  refine gm_ev.iadd i32_169 ?_
  refine gm_ev.callV gm_mono_run (av := [.ref p0, .int (p1 + (1 : Int32))]) (r := []) (ci := 2) (fs := cF5 C s) (bM_get (j := 5) rfl) i32_170 rfl rfl rfl (Nat.le_of_ble_eq_true rfl) t36 ?_
  refine gm_ev.if_eq_f i32_173 c38 ?_
  refine gm_ev.iconst (v := 1) i32_176 (by decide) ?_
  refine gm_ev.goto (tgt := 181) i32_177 (by decide) ?_
  exact gm_ev.zret i32_181 rfl (by decide)
theorem t_X2_join_0_ttf {N0 : Nat} {K : Nat → Nat} {d C : Nat} {s : cS} {G : gm_H} {sz sl : Nat} {p0 : Nat} {p1 : Int32} {fso1 : List Value} {x2 : Int32} {r5 : Nat} {k7 : Nat} {na8 : Nat} {fa8 : Nat → Option Nat} {r9 : Nat} {fso10 : List Value} {x11 : Int32} {x14 : Int32} {r17 : Int32} {s19 : cS} (hN : N0 ≤ C) (ho1 : G p0 = some (.inr (7, fso1))) (f3 : fso1[2]? = some (.int x2)) (hg_p0 : C + 34 ≤ p0) (c4 : p1 < x2) (f6 : fso1[1]? = some (.ref r5)) (ek7 : p1 = nI k7) (ha8 : G r5 = some (.inl (.object "RuleArena$Literal", na8, .inr (.inr (.inr (.inr fa8)))))) (ba8 : na8 < 2 ^ 31) (hg_r5 : C + 34 ≤ r5) (lk7 : k7 < na8) (qk7 : fa8 k7 = some r9) (ho10 : G r9 = some (.inr (5, fso10))) (f12 : fso10[0]? = some (.int x11)) (hg_r9 : C + 34 ≤ r9) (c13 : ¬ x11 = (2 : Int32)) (f15 : fso10[5]? = some (.int x14)) (c16 : x14 = 0) (t18 : gm_to N0 K ra_nm (ra_mt K) d 33 [.ref (C + 5), .ref p0, .int p1] (bM C (cH C s) G) sz (.returned (some (.int r17)), (bM C (cH C s19) G), sz, 0)) (z20 : r17 = 0 ∨ r17 = 1) : gm_ev N0 K ra_nm (ra_mt K) d (some .boolean) (gm_I cX2_join) (gm_lkf (lkX2 false K)) 0 [some (.ref (C + 5)), some (.ref p0), some (.int p1), none, none] [] (bM C (cH C s) G) sz sl (.returned (some (.int r17)), (bM C (cH C s19) G), sz, sl) := by
  refine gm_ev.iload_n i32_0 rfl ?_
  refine gm_ev.aload_n i32_1 rfl ?_
  refine gm_ev.getfield (v := .int x2) i32_2 rfl (gm_fld_of (cG_get hg_p0 ho1) f3) ?_
  refine gm_ev.icmp_lt_t (tgt := 50) i32_5 (by decide) c4 ?_
  refine gm_ev.aload_n i32_50 rfl ?_
  refine gm_ev.getfield (v := .ref r5) i32_51 rfl (gm_fld_of (cG_get hg_p0 ho1) f6) ?_
  refine gm_ev.iload_n i32_54 rfl ?_
  refine gm_ev.aaload (x := some r9) i32_55 (gm_aq_of (cG_get hg_r5 ha8) ek7 lk7 ba8 qk7) ?_
  refine gm_ev.astore_n (ls' := [some (.ref (C + 5)), some (.ref p0), some (.int p1), some (.ref r9), none]) i32_56 (Nat.le_of_ble_eq_true rfl) rfl ?_
  refine gm_ev.aload_n i32_57 rfl ?_
  refine gm_ev.getfield (v := .int x11) i32_58 rfl (gm_fld_of (cG_get hg_r9 ho10) f12) ?_
  refine gm_ev.iconst (v := 2) i32_61 (by decide) ?_
  refine gm_ev.icmp_ne_t (tgt := 101) i32_62 (by decide) c13 ?_
  refine gm_ev.aload_n i32_101 rfl ?_
  refine gm_ev.getfield (v := .int x14) i32_102 rfl (gm_fld_of (cG_get hg_r9 ho10) f15) ?_
  refine gm_ev.if_ne_f i32_105 c16 ?_
  refine gm_ev.aload_n i32_108 rfl ?_
  refine gm_ev.aload_n i32_109 rfl ?_
  refine gm_ev.iload_n i32_110 rfl ?_
  refine gm_ev.callV gm_mono_run (av := [.ref p0, .int p1]) (r := []) (ci := 2) (fs := cF5 C s) (bM_get (j := 5) rfl) i32_111 rfl rfl rfl (Nat.le_of_ble_eq_true rfl) t18 ?_
  exact gm_ev.zret i32_114 rfl z20
theorem t_X2_join_0_tft {N0 : Nat} {K : Nat → Nat} {d C : Nat} {s : cS} {G : gm_H} {sz sl : Nat} {p0 : Nat} {p1 : Int32} {fso1 : List Value} {x2 : Int32} {r5 : Nat} {k7 : Nat} {na8 : Nat} {fa8 : Nat → Option Nat} {r9 : Nat} {fso10 : List Value} {x11 : Int32} {x14 : Int32} {r16 : Int32} {x18 : Int32} {r20 : Int32} (hN : N0 ≤ C) (ho1 : G p0 = some (.inr (7, fso1))) (f3 : fso1[2]? = some (.int x2)) (hg_p0 : C + 34 ≤ p0) (c4 : p1 < x2) (f6 : fso1[1]? = some (.ref r5)) (ek7 : p1 = nI k7) (ha8 : G r5 = some (.inl (.object "RuleArena$Literal", na8, .inr (.inr (.inr (.inr fa8)))))) (ba8 : na8 < 2 ^ 31) (hg_r5 : C + 34 ≤ r5) (lk7 : k7 < na8) (qk7 : fa8 k7 = some r9) (ho10 : G r9 = some (.inr (5, fso10))) (f12 : fso10[0]? = some (.int x11)) (hg_r9 : C + 34 ≤ r9) (c13 : x11 = (2 : Int32)) (f15 : fso10[2]? = some (.int x14)) (t17 : gm_to N0 K ra_nm (ra_mt K) d 36 [.ref (C + 5), .int x14] (bM C (cH C s) G) sz (.returned (some (.int r16)), (bM C (cH C s) G), sz, 0)) (f19 : fso10[3]? = some (.int x18)) (t21 : gm_to N0 K ra_nm (ra_mt K) d 36 [.ref (C + 5), .int x18] (bM C (cH C s) G) sz (.returned (some (.int r20)), (bM C (cH C s) G), sz, 0)) (c22 : r16 = r20) : gm_ev N0 K ra_nm (ra_mt K) d (some .boolean) (gm_I cX2_join) (gm_lkf (lkX2 false K)) 0 [some (.ref (C + 5)), some (.ref p0), some (.int p1), none, none] [] (bM C (cH C s) G) sz sl (.returned (some (.int (0 : Int32))), (bM C (cH C s) G), sz, sl) := by
  refine gm_ev.iload_n i32_0 rfl ?_
  refine gm_ev.aload_n i32_1 rfl ?_
  refine gm_ev.getfield (v := .int x2) i32_2 rfl (gm_fld_of (cG_get hg_p0 ho1) f3) ?_
  refine gm_ev.icmp_lt_t (tgt := 50) i32_5 (by decide) c4 ?_
  refine gm_ev.aload_n i32_50 rfl ?_
  refine gm_ev.getfield (v := .ref r5) i32_51 rfl (gm_fld_of (cG_get hg_p0 ho1) f6) ?_
  refine gm_ev.iload_n i32_54 rfl ?_
  refine gm_ev.aaload (x := some r9) i32_55 (gm_aq_of (cG_get hg_r5 ha8) ek7 lk7 ba8 qk7) ?_
  refine gm_ev.astore_n (ls' := [some (.ref (C + 5)), some (.ref p0), some (.int p1), some (.ref r9), none]) i32_56 (Nat.le_of_ble_eq_true rfl) rfl ?_
  refine gm_ev.aload_n i32_57 rfl ?_
  refine gm_ev.getfield (v := .int x11) i32_58 rfl (gm_fld_of (cG_get hg_r9 ho10) f12) ?_
  refine gm_ev.iconst (v := 2) i32_61 (by decide) ?_
  refine gm_ev.icmp_ne_f i32_62 c13 ?_
  refine gm_ev.aload_n i32_65 rfl ?_
  refine gm_ev.aload_n i32_66 rfl ?_
  refine gm_ev.getfield (v := .int x14) i32_67 rfl (gm_fld_of (cG_get hg_r9 ho10) f15) ?_
  refine gm_ev.callV gm_mono_run (av := [.int x14]) (r := []) (ci := 2) (fs := cF5 C s) (bM_get (j := 5) rfl) i32_70 rfl rfl rfl (Nat.le_of_ble_eq_true rfl) t17 ?_
  refine gm_ev.aload_n i32_73 rfl ?_
  refine gm_ev.aload_n i32_74 rfl ?_
  refine gm_ev.getfield (v := .int x18) i32_75 rfl (gm_fld_of (cG_get hg_r9 ho10) f19) ?_
  refine gm_ev.callV gm_mono_run (av := [.int x18]) (r := [.int r16]) (ci := 2) (fs := cF5 C s) (bM_get (j := 5) rfl) i32_78 rfl rfl rfl (Nat.le_of_ble_eq_true rfl) t21 ?_
  refine gm_ev.icmp_eq_t (tgt := 99) i32_81 (by decide) c22 ?_
  refine gm_ev.iconst (v := 0) i32_99 (by decide) ?_
  exact gm_ev.zret i32_100 rfl (by decide)
theorem t_X2_join_0_tfft {N0 : Nat} {K : Nat → Nat} {d C : Nat} {s : cS} {G : gm_H} {sz sl : Nat} {p0 : Nat} {p1 : Int32} {fso1 : List Value} {x2 : Int32} {r5 : Nat} {k7 : Nat} {na8 : Nat} {fa8 : Nat → Option Nat} {r9 : Nat} {fso10 : List Value} {x11 : Int32} {x14 : Int32} {r16 : Int32} {x18 : Int32} {r20 : Int32} {r23 : Int32} {s25 : cS} (hN : N0 ≤ C) (ho1 : G p0 = some (.inr (7, fso1))) (f3 : fso1[2]? = some (.int x2)) (hg_p0 : C + 34 ≤ p0) (c4 : p1 < x2) (f6 : fso1[1]? = some (.ref r5)) (ek7 : p1 = nI k7) (ha8 : G r5 = some (.inl (.object "RuleArena$Literal", na8, .inr (.inr (.inr (.inr fa8)))))) (ba8 : na8 < 2 ^ 31) (hg_r5 : C + 34 ≤ r5) (lk7 : k7 < na8) (qk7 : fa8 k7 = some r9) (ho10 : G r9 = some (.inr (5, fso10))) (f12 : fso10[0]? = some (.int x11)) (hg_r9 : C + 34 ≤ r9) (c13 : x11 = (2 : Int32)) (f15 : fso10[2]? = some (.int x14)) (t17 : gm_to N0 K ra_nm (ra_mt K) d 36 [.ref (C + 5), .int x14] (bM C (cH C s) G) sz (.returned (some (.int r16)), (bM C (cH C s) G), sz, 0)) (f19 : fso10[3]? = some (.int x18)) (t21 : gm_to N0 K ra_nm (ra_mt K) d 36 [.ref (C + 5), .int x18] (bM C (cH C s) G) sz (.returned (some (.int r20)), (bM C (cH C s) G), sz, 0)) (c22 : ¬ r16 = r20) (t24 : gm_to N0 K ra_nm (ra_mt K) d 32 [.ref (C + 5), .ref p0, .int (p1 + (1 : Int32))] (bM C (cH C s) G) sz (.returned (some (.int r23)), (bM C (cH C s25) G), sz, 0)) (c26 : r23 = 0) : gm_ev N0 K ra_nm (ra_mt K) d (some .boolean) (gm_I cX2_join) (gm_lkf (lkX2 false K)) 0 [some (.ref (C + 5)), some (.ref p0), some (.int p1), none, none] [] (bM C (cH C s) G) sz sl (.returned (some (.int (0 : Int32))), (bM C (cH C s25) G), sz, sl) := by
  refine gm_ev.iload_n i32_0 rfl ?_
  refine gm_ev.aload_n i32_1 rfl ?_
  refine gm_ev.getfield (v := .int x2) i32_2 rfl (gm_fld_of (cG_get hg_p0 ho1) f3) ?_
  refine gm_ev.icmp_lt_t (tgt := 50) i32_5 (by decide) c4 ?_
  refine gm_ev.aload_n i32_50 rfl ?_
  refine gm_ev.getfield (v := .ref r5) i32_51 rfl (gm_fld_of (cG_get hg_p0 ho1) f6) ?_
  refine gm_ev.iload_n i32_54 rfl ?_
  refine gm_ev.aaload (x := some r9) i32_55 (gm_aq_of (cG_get hg_r5 ha8) ek7 lk7 ba8 qk7) ?_
  refine gm_ev.astore_n (ls' := [some (.ref (C + 5)), some (.ref p0), some (.int p1), some (.ref r9), none]) i32_56 (Nat.le_of_ble_eq_true rfl) rfl ?_
  refine gm_ev.aload_n i32_57 rfl ?_
  refine gm_ev.getfield (v := .int x11) i32_58 rfl (gm_fld_of (cG_get hg_r9 ho10) f12) ?_
  refine gm_ev.iconst (v := 2) i32_61 (by decide) ?_
  refine gm_ev.icmp_ne_f i32_62 c13 ?_
  refine gm_ev.aload_n i32_65 rfl ?_
  refine gm_ev.aload_n i32_66 rfl ?_
  refine gm_ev.getfield (v := .int x14) i32_67 rfl (gm_fld_of (cG_get hg_r9 ho10) f15) ?_
  refine gm_ev.callV gm_mono_run (av := [.int x14]) (r := []) (ci := 2) (fs := cF5 C s) (bM_get (j := 5) rfl) i32_70 rfl rfl rfl (Nat.le_of_ble_eq_true rfl) t17 ?_
  refine gm_ev.aload_n i32_73 rfl ?_
  refine gm_ev.aload_n i32_74 rfl ?_
  refine gm_ev.getfield (v := .int x18) i32_75 rfl (gm_fld_of (cG_get hg_r9 ho10) f19) ?_
  refine gm_ev.callV gm_mono_run (av := [.int x18]) (r := [.int r16]) (ci := 2) (fs := cF5 C s) (bM_get (j := 5) rfl) i32_78 rfl rfl rfl (Nat.le_of_ble_eq_true rfl) t21 ?_
  refine gm_ev.icmp_eq_f i32_81 c22 ?_
  refine gm_ev.aload_n i32_84 rfl ?_
  refine gm_ev.aload_n i32_85 rfl ?_
  refine gm_ev.iload_n i32_86 rfl ?_
  refine gm_ev.iconst (v := 1) i32_87 (by decide) ?_
  refine gm_ev.iadd i32_88 ?_
  refine gm_ev.callV gm_mono_run (av := [.ref p0, .int (p1 + (1 : Int32))]) (r := []) (ci := 2) (fs := cF5 C s) (bM_get (j := 5) rfl) i32_89 rfl rfl rfl (Nat.le_of_ble_eq_true rfl) t24 ?_
  refine gm_ev.if_eq_t (tgt := 99) i32_92 (by decide) c26 ?_
  refine gm_ev.iconst (v := 0) i32_99 (by decide) ?_
  exact gm_ev.zret i32_100 rfl (by decide)
theorem t_X2_join_0_tfff {N0 : Nat} {K : Nat → Nat} {d C : Nat} {s : cS} {G : gm_H} {sz sl : Nat} {p0 : Nat} {p1 : Int32} {fso1 : List Value} {x2 : Int32} {r5 : Nat} {k7 : Nat} {na8 : Nat} {fa8 : Nat → Option Nat} {r9 : Nat} {fso10 : List Value} {x11 : Int32} {x14 : Int32} {r16 : Int32} {x18 : Int32} {r20 : Int32} {r23 : Int32} {s25 : cS} (hN : N0 ≤ C) (ho1 : G p0 = some (.inr (7, fso1))) (f3 : fso1[2]? = some (.int x2)) (hg_p0 : C + 34 ≤ p0) (c4 : p1 < x2) (f6 : fso1[1]? = some (.ref r5)) (ek7 : p1 = nI k7) (ha8 : G r5 = some (.inl (.object "RuleArena$Literal", na8, .inr (.inr (.inr (.inr fa8)))))) (ba8 : na8 < 2 ^ 31) (hg_r5 : C + 34 ≤ r5) (lk7 : k7 < na8) (qk7 : fa8 k7 = some r9) (ho10 : G r9 = some (.inr (5, fso10))) (f12 : fso10[0]? = some (.int x11)) (hg_r9 : C + 34 ≤ r9) (c13 : x11 = (2 : Int32)) (f15 : fso10[2]? = some (.int x14)) (t17 : gm_to N0 K ra_nm (ra_mt K) d 36 [.ref (C + 5), .int x14] (bM C (cH C s) G) sz (.returned (some (.int r16)), (bM C (cH C s) G), sz, 0)) (f19 : fso10[3]? = some (.int x18)) (t21 : gm_to N0 K ra_nm (ra_mt K) d 36 [.ref (C + 5), .int x18] (bM C (cH C s) G) sz (.returned (some (.int r20)), (bM C (cH C s) G), sz, 0)) (c22 : ¬ r16 = r20) (t24 : gm_to N0 K ra_nm (ra_mt K) d 32 [.ref (C + 5), .ref p0, .int (p1 + (1 : Int32))] (bM C (cH C s) G) sz (.returned (some (.int r23)), (bM C (cH C s25) G), sz, 0)) (c26 : ¬ r23 = 0) : gm_ev N0 K ra_nm (ra_mt K) d (some .boolean) (gm_I cX2_join) (gm_lkf (lkX2 false K)) 0 [some (.ref (C + 5)), some (.ref p0), some (.int p1), none, none] [] (bM C (cH C s) G) sz sl (.returned (some (.int (1 : Int32))), (bM C (cH C s25) G), sz, sl) := by
  refine gm_ev.iload_n i32_0 rfl ?_
  refine gm_ev.aload_n i32_1 rfl ?_
  refine gm_ev.getfield (v := .int x2) i32_2 rfl (gm_fld_of (cG_get hg_p0 ho1) f3) ?_
  refine gm_ev.icmp_lt_t (tgt := 50) i32_5 (by decide) c4 ?_
  refine gm_ev.aload_n i32_50 rfl ?_
  refine gm_ev.getfield (v := .ref r5) i32_51 rfl (gm_fld_of (cG_get hg_p0 ho1) f6) ?_
  refine gm_ev.iload_n i32_54 rfl ?_
  refine gm_ev.aaload (x := some r9) i32_55 (gm_aq_of (cG_get hg_r5 ha8) ek7 lk7 ba8 qk7) ?_
  refine gm_ev.astore_n (ls' := [some (.ref (C + 5)), some (.ref p0), some (.int p1), some (.ref r9), none]) i32_56 (Nat.le_of_ble_eq_true rfl) rfl ?_
  refine gm_ev.aload_n i32_57 rfl ?_
  refine gm_ev.getfield (v := .int x11) i32_58 rfl (gm_fld_of (cG_get hg_r9 ho10) f12) ?_
  refine gm_ev.iconst (v := 2) i32_61 (by decide) ?_
  refine gm_ev.icmp_ne_f i32_62 c13 ?_
  refine gm_ev.aload_n i32_65 rfl ?_
  refine gm_ev.aload_n i32_66 rfl ?_
  refine gm_ev.getfield (v := .int x14) i32_67 rfl (gm_fld_of (cG_get hg_r9 ho10) f15) ?_
  refine gm_ev.callV gm_mono_run (av := [.int x14]) (r := []) (ci := 2) (fs := cF5 C s) (bM_get (j := 5) rfl) i32_70 rfl rfl rfl (Nat.le_of_ble_eq_true rfl) t17 ?_
  refine gm_ev.aload_n i32_73 rfl ?_
  refine gm_ev.aload_n i32_74 rfl ?_
  refine gm_ev.getfield (v := .int x18) i32_75 rfl (gm_fld_of (cG_get hg_r9 ho10) f19) ?_
  refine gm_ev.callV gm_mono_run (av := [.int x18]) (r := [.int r16]) (ci := 2) (fs := cF5 C s) (bM_get (j := 5) rfl) i32_78 rfl rfl rfl (Nat.le_of_ble_eq_true rfl) t21 ?_
  refine gm_ev.icmp_eq_f i32_81 c22 ?_
  refine gm_ev.aload_n i32_84 rfl ?_
  refine gm_ev.aload_n i32_85 rfl ?_
  refine gm_ev.iload_n i32_86 rfl ?_
  refine gm_ev.iconst (v := 1) i32_87 (by decide) ?_
  refine gm_ev.iadd i32_88 ?_
  refine gm_ev.callV gm_mono_run (av := [.ref p0, .int (p1 + (1 : Int32))]) (r := []) (ci := 2) (fs := cF5 C s) (bM_get (j := 5) rfl) i32_89 rfl rfl rfl (Nat.le_of_ble_eq_true rfl) t24 ?_
  refine gm_ev.if_eq_f i32_92 c26 ?_
  refine gm_ev.iconst (v := 1) i32_95 (by decide) ?_
  refine gm_ev.goto (tgt := 100) i32_96 (by decide) ?_
  exact gm_ev.zret i32_100 rfl (by decide)
theorem t_X2_join_0_f {N0 : Nat} {K : Nat → Nat} {d C : Nat} {s : cS} {G : gm_H} {sz sl : Nat} {p0 : Nat} {p1 : Int32} {fso1 : List Value} {x2 : Int32} {r5 : Nat} {fso7 : List Value} {x8 : Int32} {x10 : Int32} {r12 : Int32} {x14 : Int32} {r16 : Int32} {x18 : Int32} {r20 : Int32} {s23 : cS} (hN : N0 ≤ C) (ho1 : G p0 = some (.inr (7, fso1))) (f3 : fso1[2]? = some (.int x2)) (hg_p0 : C + 34 ≤ p0) (c4 : ¬ p1 < x2) (f6 : fso1[0]? = some (.ref r5)) (ho7 : G r5 = some (.inr (5, fso7))) (f9 : fso7[1]? = some (.int x8)) (hg_r5 : C + 34 ≤ r5) (f11 : fso7[2]? = some (.int x10)) (t13 : gm_to N0 K ra_nm (ra_mt K) d 36 [.ref (C + 5), .int x10] (bM C (cH C s) G) sz (.returned (some (.int r12)), (bM C (cH C s) G), sz, 0)) (f15 : fso7[3]? = some (.int x14)) (t17 : gm_to N0 K ra_nm (ra_mt K) d 36 [.ref (C + 5), .int x14] (bM C (cH C s) G) sz (.returned (some (.int r16)), (bM C (cH C s) G), sz, 0)) (f19 : fso7[4]? = some (.int x18)) (t21 : gm_to N0 K ra_nm (ra_mt K) d 36 [.ref (C + 5), .int x18] (bM C (cH C s) G) sz (.returned (some (.int r20)), (bM C (cH C s) G), sz, 0)) (t22 : gm_to N0 K ra_nm (ra_mt K) d 22 [.ref (C + 6), .int x8, .int r12, .int r16, .int r20] (bM C (cH C s) G) sz (.returned none, (bM C (cH C s23) G), sz, 0)) : gm_ev N0 K ra_nm (ra_mt K) d (some .boolean) (gm_I cX2_join) (gm_lkf (lkX2 false K)) 0 [some (.ref (C + 5)), some (.ref p0), some (.int p1), none, none] [] (bM C (cH C s) G) sz sl (.returned (some (.int (1 : Int32))), (bM C (cH C s23) G), sz, sl) := by
  refine gm_ev.iload_n i32_0 rfl ?_
  refine gm_ev.aload_n i32_1 rfl ?_
  refine gm_ev.getfield (v := .int x2) i32_2 rfl (gm_fld_of (cG_get hg_p0 ho1) f3) ?_
  refine gm_ev.icmp_lt_f i32_5 c4 ?_
  refine gm_ev.aload_n i32_8 rfl ?_
  refine gm_ev.getfield (v := .ref r5) i32_9 rfl (gm_fld_of (cG_get hg_p0 ho1) f6) ?_
  refine gm_ev.astore_n (ls' := [some (.ref (C + 5)), some (.ref p0), some (.int p1), some (.ref r5), none]) i32_12 (Nat.le_of_ble_eq_true rfl) rfl ?_
  refine gm_ev.aload_n i32_13 rfl ?_
  refine gm_ev.getfield (v := .ref (C + 6)) i32_14 rfl (bM_fld (j := 5) (fs := cF5 C s) rfl rfl) ?_
  refine gm_ev.aload_n i32_17 rfl ?_
  refine gm_ev.getfield (v := .int x8) i32_18 rfl (gm_fld_of (cG_get hg_r5 ho7) f9) ?_
  refine gm_ev.aload_n i32_21 rfl ?_
  refine gm_ev.aload_n i32_22 rfl ?_
  refine gm_ev.getfield (v := .int x10) i32_23 rfl (gm_fld_of (cG_get hg_r5 ho7) f11) ?_
  refine gm_ev.callV gm_mono_run (av := [.int x10]) (r := [.int x8, .ref (C + 6)]) (ci := 2) (fs := cF5 C s) (bM_get (j := 5) rfl) i32_26 rfl rfl rfl (Nat.le_of_ble_eq_true rfl) t13 ?_
  refine gm_ev.aload_n i32_29 rfl ?_
  refine gm_ev.aload_n i32_30 rfl ?_
  refine gm_ev.getfield (v := .int x14) i32_31 rfl (gm_fld_of (cG_get hg_r5 ho7) f15) ?_
  refine gm_ev.callV gm_mono_run (av := [.int x14]) (r := [.int r12, .int x8, .ref (C + 6)]) (ci := 2) (fs := cF5 C s) (bM_get (j := 5) rfl) i32_34 rfl rfl rfl (Nat.le_of_ble_eq_true rfl) t17 ?_
  refine gm_ev.aload_n i32_37 rfl ?_
  refine gm_ev.aload_n i32_38 rfl ?_
  refine gm_ev.getfield (v := .int x18) i32_39 rfl (gm_fld_of (cG_get hg_r5 ho7) f19) ?_
  refine gm_ev.callV gm_mono_run (av := [.int x18]) (r := [.int r16, .int r12, .int x8, .ref (C + 6)]) (ci := 2) (fs := cF5 C s) (bM_get (j := 5) rfl) i32_42 rfl rfl rfl (Nat.le_of_ble_eq_true rfl) t21 ?_
  refine gm_ev.callV gm_mono_run (av := [.int x8, .int r12, .int r16, .int r20]) (r := []) (ci := 1) (fs := cF6 C s) (bM_get (j := 6) rfl) i32_45 rfl rfl rfl (Nat.le_of_ble_eq_true rfl) t22 ?_
  refine gm_ev.iconst (v := 1) i32_48 (by decide) ?_
  exact gm_ev.zret i32_49 rfl (by decide)
theorem t_X2_joinEach_0__at38 {N0 : Nat} {K : Nat → Nat} {d C : Nat} {s : cS} {G : gm_H} {sz sl : Nat} {R : gm_R} {p0 : Nat} {p1 : Int32} {fso1 : List Value} {r2 : Nat} {k4 : Nat} {na5 : Nat} {fa5 : Nat → Option Nat} {r6 : Nat} {r7 : Int32} {r9 : Int32} {fso11 : List Value} {x12 : Int32} {k14 : Nat} (hN : N0 ≤ C) (ho1 : G p0 = some (.inr (7, fso1))) (f3 : fso1[1]? = some (.ref r2)) (hg_p0 : C + 34 ≤ p0) (ek4 : p1 = nI k4) (ha5 : G r2 = some (.inl (.object "RuleArena$Literal", na5, .inr (.inr (.inr (.inr fa5)))))) (ba5 : na5 < 2 ^ 31) (hg_r2 : C + 34 ≤ r2) (lk4 : k4 < na5) (qk4 : fa5 k4 = some r6) (t8 : gm_to N0 K ra_nm (ra_mt K) d 34 [.ref (C + 5), .int p1] (bM C (cH C s) G) sz (.returned (some (.int r7)), (bM C (cH C s) G), sz, 0)) (t10 : gm_to N0 K ra_nm (ra_mt K) d 35 [.ref (C + 5), .int p1] (bM C (cH C s) G) sz (.returned (some (.int r9)), (bM C (cH C s) G), sz, 0)) (ho11 : G r6 = some (.inr (5, fso11))) (f13 : fso11[1]? = some (.int x12)) (hg_r6 : C + 34 ≤ r6) (ek14 : x12 = nI k14) (lk14 : k14 < 112) (k : gm_ev N0 K ra_nm (ra_mt K) d (some .boolean) (gm_I cX2_joinEach) (gm_lkf (lkX2 false K)) 38 [some (.ref (C + 5)), some (.ref p0), some (.int p1), some (.ref r6), some (.int r7), some (.int r9), some (.int (0 : Int32)), some (.int (s.2.1 12 k14))] [] (bM C (cH C s) G) sz sl R) : gm_ev N0 K ra_nm (ra_mt K) d (some .boolean) (gm_I cX2_joinEach) (gm_lkf (lkX2 false K)) 0 [some (.ref (C + 5)), some (.ref p0), some (.int p1), none, none, none, none, none] [] (bM C (cH C s) G) sz sl R := by
  refine gm_ev.aload_n i33_0 rfl ?_
  refine gm_ev.getfield (v := .ref r2) i33_1 rfl (gm_fld_of (cG_get hg_p0 ho1) f3) ?_
  refine gm_ev.iload_n i33_4 rfl ?_
  refine gm_ev.aaload (x := some r6) i33_5 (gm_aq_of (cG_get hg_r2 ha5) ek4 lk4 ba5 qk4) ?_
  refine gm_ev.astore_n (ls' := [some (.ref (C + 5)), some (.ref p0), some (.int p1), some (.ref r6), none, none, none, none]) i33_6 (Nat.le_of_ble_eq_true rfl) rfl ?_
  refine gm_ev.aload_n i33_7 rfl ?_
  refine gm_ev.iload_n i33_8 rfl ?_
  refine gm_ev.callV gm_mono_run (av := [.int p1]) (r := []) (ci := 2) (fs := cF5 C s) (bM_get (j := 5) rfl) i33_9 rfl rfl rfl (Nat.le_of_ble_eq_true rfl) t8 ?_
  refine gm_ev.istore (ls' := [some (.ref (C + 5)), some (.ref p0), some (.int p1), some (.ref r6), some (.int r7), none, none, none]) i33_12 (Nat.le_of_ble_eq_true rfl) rfl ?_
  refine gm_ev.aload_n i33_14 rfl ?_
  refine gm_ev.iload_n i33_15 rfl ?_
  refine gm_ev.callV gm_mono_run (av := [.int p1]) (r := []) (ci := 2) (fs := cF5 C s) (bM_get (j := 5) rfl) i33_16 rfl rfl rfl (Nat.le_of_ble_eq_true rfl) t10 ?_
  refine gm_ev.istore (ls' := [some (.ref (C + 5)), some (.ref p0), some (.int p1), some (.ref r6), some (.int r7), some (.int r9), none, none]) i33_19 (Nat.le_of_ble_eq_true rfl) rfl ?_
  refine gm_ev.iconst (v := 0) i33_21 (by decide) ?_
  refine gm_ev.istore (ls' := [some (.ref (C + 5)), some (.ref p0), some (.int p1), some (.ref r6), some (.int r7), some (.int r9), some (.int (0 : Int32)), none]) i33_22 (Nat.le_of_ble_eq_true rfl) rfl ?_
  refine gm_ev.aload_n i33_24 rfl ?_
  refine gm_ev.getfield (v := .ref (C + 6)) i33_25 rfl (bM_fld (j := 5) (fs := cF5 C s) rfl rfl) ?_
  refine gm_ev.getfield (v := .ref (C + 12)) i33_28 rfl (bM_fld (j := 6) (fs := cF6 C s) rfl rfl) ?_
  refine gm_ev.aload_n i33_31 rfl ?_
  refine gm_ev.getfield (v := .int x12) i33_32 rfl (gm_fld_of (cG_get hg_r6 ho11) f13) ?_
  refine gm_ev.iaload i33_35 (bM_ai (j := 12) (n := 112) (f := s.2.1 12) rfl ek14 lk14 (by decide)) ?_
  refine gm_ev.istore (ls' := [some (.ref (C + 5)), some (.ref p0), some (.int p1), some (.ref r6), some (.int r7), some (.int r9), some (.int (0 : Int32)), some (.int (s.2.1 12 k14))]) i33_36 (Nat.le_of_ble_eq_true rfl) rfl ?_
  exact k
theorem t_X2_joinEach_38_t {N0 : Nat} {K : Nat → Nat} {d C : Nat} {s : cS} {G : gm_H} {sz sl : Nat} {p0 : Nat} {u2 : Int32} {a3 : Nat} {u4 : Int32} {u5 : Int32} {u6 : Int32} {u7 : Int32} (hN : N0 ≤ C) (c1 : u7 < u4) (z2 : u6 = 0 ∨ u6 = 1) : gm_ev N0 K ra_nm (ra_mt K) d (some .boolean) (gm_I cX2_joinEach) (gm_lkf (lkX2 false K)) 38 [some (.ref (C + 5)), some (.ref p0), some (.int u2), some (.ref a3), some (.int u4), some (.int u5), some (.int u6), some (.int u7)] [] (bM C (cH C s) G) sz sl (.returned (some (.int u6)), (bM C (cH C s) G), sz, sl) := by
  refine gm_ev.iload i33_38 rfl ?_
  refine gm_ev.iload i33_40 rfl ?_
  refine gm_ev.icmp_lt_t (tgt := 175) i33_42 (by decide) c1 ?_
  refine gm_ev.iload i33_175 rfl ?_
  exact gm_ev.zret i33_177 rfl z2
theorem t_X2_joinEach_38_ft_at38 {N0 : Nat} {K : Nat → Nat} {d C : Nat} {s : cS} {G : gm_H} {sz sl : Nat} {R : gm_R} {p0 : Nat} {u2 : Int32} {a3 : Nat} {u4 : Int32} {u5 : Int32} {u6 : Int32} {u7 : Int32} {k3 : Nat} (hN : N0 ≤ C) (c1 : ¬ u7 < u4) (c2 : u5 < u7) (ek3 : u7 = nI k3) (lk3 : k3 < 201) (k : gm_ev N0 K ra_nm (ra_mt K) d (some .boolean) (gm_I cX2_joinEach) (gm_lkf (lkX2 false K)) 38 [some (.ref (C + 5)), some (.ref p0), some (.int u2), some (.ref a3), some (.int u4), some (.int u5), some (.int u6), some (.int (s.2.1 11 k3))] [] (bM C (cH C s) G) sz sl R) : gm_ev N0 K ra_nm (ra_mt K) d (some .boolean) (gm_I cX2_joinEach) (gm_lkf (lkX2 false K)) 38 [some (.ref (C + 5)), some (.ref p0), some (.int u2), some (.ref a3), some (.int u4), some (.int u5), some (.int u6), some (.int u7)] [] (bM C (cH C s) G) sz sl R := by
  refine gm_ev.iload i33_38 rfl ?_
  refine gm_ev.iload i33_40 rfl ?_
  refine gm_ev.icmp_lt_f i33_42 c1 ?_
  refine gm_ev.iload i33_45 rfl ?_
  refine gm_ev.iload i33_47 rfl ?_
  refine gm_ev.icmp_gt_t (tgt := 160) i33_49 (by decide) c2 ?_
  refine gm_ev.aload_n i33_160 rfl ?_
  refine gm_ev.getfield (v := .ref (C + 6)) i33_161 rfl (bM_fld (j := 5) (fs := cF5 C s) rfl rfl) ?_
  refine gm_ev.getfield (v := .ref (C + 11)) i33_164 rfl (bM_fld (j := 6) (fs := cF6 C s) rfl rfl) ?_
  refine gm_ev.iload i33_167 rfl ?_
  refine gm_ev.iaload i33_169 (bM_ai (j := 11) (n := 201) (f := s.2.1 11) rfl ek3 lk3 (by decide)) ?_
  refine gm_ev.istore (ls' := [some (.ref (C + 5)), some (.ref p0), some (.int u2), some (.ref a3), some (.int u4), some (.int u5), some (.int u6), some (.int (s.2.1 11 k3))]) i33_170 (Nat.le_of_ble_eq_true rfl) rfl ?_
  refine gm_ev.goto (tgt := 38) i33_172 (by decide) ?_
  exact k
theorem t_X2_joinEach_38_fft_at38 {N0 : Nat} {K : Nat → Nat} {d C : Nat} {s : cS} {G : gm_H} {sz sl : Nat} {R : gm_R} {p0 : Nat} {u2 : Int32} {a3 : Nat} {u4 : Int32} {u5 : Int32} {u6 : Int32} {u7 : Int32} {fso3 : List Value} {x4 : Int32} {k6 : Nat} {fso7 : List Value} {x8 : Int32} {r10 : Int32} {s12 : cS} {k14 : Nat} (hN : N0 ≤ C) (c1 : ¬ u7 < u4) (c2 : ¬ u5 < u7) (ho3 : G a3 = some (.inr (5, fso3))) (f5 : fso3[2]? = some (.int x4)) (hg_a3 : C + 34 ≤ a3) (ek6 : u7 = nI k6) (lk6 : k6 < 201) (ho7 : G p0 = some (.inr (7, fso7))) (f9 : fso7[3]? = some (.int x8)) (hg_p0 : C + 34 ≤ p0) (t11 : gm_to N0 K ra_nm (ra_mt K) d 37 [.ref (C + 5), .int x4, .int (s.2.1 8 k6), .int x8] (bM C (cH C s) G) sz (.returned (some (.int r10)), (bM C (cH C s12) G), sz, 0)) (c13 : r10 = 0) (ek14 : u7 = nI k14) (lk14 : k14 < 201) (k : gm_ev N0 K ra_nm (ra_mt K) d (some .boolean) (gm_I cX2_joinEach) (gm_lkf (lkX2 false K)) 38 [some (.ref (C + 5)), some (.ref p0), some (.int u2), some (.ref a3), some (.int u4), some (.int u5), some (.int u6), some (.int (s12.2.1 11 k14))] [] (bM C (cH C s12) G) sz sl R) : gm_ev N0 K ra_nm (ra_mt K) d (some .boolean) (gm_I cX2_joinEach) (gm_lkf (lkX2 false K)) 38 [some (.ref (C + 5)), some (.ref p0), some (.int u2), some (.ref a3), some (.int u4), some (.int u5), some (.int u6), some (.int u7)] [] (bM C (cH C s) G) sz sl R := by
  refine gm_ev.iload i33_38 rfl ?_
  refine gm_ev.iload i33_40 rfl ?_
  refine gm_ev.icmp_lt_f i33_42 c1 ?_
  refine gm_ev.iload i33_45 rfl ?_
  refine gm_ev.iload i33_47 rfl ?_
  refine gm_ev.icmp_gt_f i33_49 c2 ?_
  refine gm_ev.aload_n i33_52 rfl ?_
  refine gm_ev.aload_n i33_53 rfl ?_
  refine gm_ev.getfield (v := .int x4) i33_54 rfl (gm_fld_of (cG_get hg_a3 ho3) f5) ?_
  refine gm_ev.aload_n i33_57 rfl ?_
  refine gm_ev.getfield (v := .ref (C + 6)) i33_58 rfl (bM_fld (j := 5) (fs := cF5 C s) rfl rfl) ?_
  refine gm_ev.getfield (v := .ref (C + 8)) i33_61 rfl (bM_fld (j := 6) (fs := cF6 C s) rfl rfl) ?_
  refine gm_ev.iload i33_64 rfl ?_
  refine gm_ev.iaload i33_66 (bM_ai (j := 8) (n := 201) (f := s.2.1 8) rfl ek6 lk6 (by decide)) ?_
  refine gm_ev.aload_n i33_67 rfl ?_
  refine gm_ev.getfield (v := .int x8) i33_68 rfl (gm_fld_of (cG_get hg_p0 ho7) f9) ?_
  refine gm_ev.callV gm_mono_run (av := [.int x4, .int (s.2.1 8 k6), .int x8]) (r := []) (ci := 2) (fs := cF5 C s) (bM_get (j := 5) rfl) i33_71 rfl rfl rfl (Nat.le_of_ble_eq_true rfl) t11 ?_
  refine gm_ev.if_eq_t (tgt := 160) i33_74 (by decide) c13 ?_
  refine gm_ev.aload_n i33_160 rfl ?_
  refine gm_ev.getfield (v := .ref (C + 6)) i33_161 rfl (bM_fld (j := 5) (fs := cF5 C s12) rfl rfl) ?_
  refine gm_ev.getfield (v := .ref (C + 11)) i33_164 rfl (bM_fld (j := 6) (fs := cF6 C s12) rfl rfl) ?_
  refine gm_ev.iload i33_167 rfl ?_
  refine gm_ev.iaload i33_169 (bM_ai (j := 11) (n := 201) (f := s12.2.1 11) rfl ek14 lk14 (by decide)) ?_
  refine gm_ev.istore (ls' := [some (.ref (C + 5)), some (.ref p0), some (.int u2), some (.ref a3), some (.int u4), some (.int u5), some (.int u6), some (.int (s12.2.1 11 k14))]) i33_170 (Nat.le_of_ble_eq_true rfl) rfl ?_
  refine gm_ev.goto (tgt := 38) i33_172 (by decide) ?_
  exact k
theorem t_X2_joinEach_38_ffft_at38 {N0 : Nat} {K : Nat → Nat} {d C : Nat} {s : cS} {G : gm_H} {sz sl : Nat} {R : gm_R} {p0 : Nat} {u2 : Int32} {a3 : Nat} {u4 : Int32} {u5 : Int32} {u6 : Int32} {u7 : Int32} {fso3 : List Value} {x4 : Int32} {k6 : Nat} {fso7 : List Value} {x8 : Int32} {r10 : Int32} {s12 : cS} {x14 : Int32} {k16 : Nat} {r17 : Int32} {s19 : cS} {k21 : Nat} (hN : N0 ≤ C) (c1 : ¬ u7 < u4) (c2 : ¬ u5 < u7) (ho3 : G a3 = some (.inr (5, fso3))) (f5 : fso3[2]? = some (.int x4)) (hg_a3 : C + 34 ≤ a3) (ek6 : u7 = nI k6) (lk6 : k6 < 201) (ho7 : G p0 = some (.inr (7, fso7))) (f9 : fso7[3]? = some (.int x8)) (hg_p0 : C + 34 ≤ p0) (t11 : gm_to N0 K ra_nm (ra_mt K) d 37 [.ref (C + 5), .int x4, .int (s.2.1 8 k6), .int x8] (bM C (cH C s) G) sz (.returned (some (.int r10)), (bM C (cH C s12) G), sz, 0)) (c13 : ¬ r10 = 0) (f15 : fso3[3]? = some (.int x14)) (ek16 : u7 = nI k16) (lk16 : k16 < 201) (t18 : gm_to N0 K ra_nm (ra_mt K) d 37 [.ref (C + 5), .int x14, .int (s12.2.1 9 k16), .int x8] (bM C (cH C s12) G) sz (.returned (some (.int r17)), (bM C (cH C s19) G), sz, 0)) (c20 : r17 = 0) (ek21 : u7 = nI k21) (lk21 : k21 < 201) (k : gm_ev N0 K ra_nm (ra_mt K) d (some .boolean) (gm_I cX2_joinEach) (gm_lkf (lkX2 false K)) 38 [some (.ref (C + 5)), some (.ref p0), some (.int u2), some (.ref a3), some (.int u4), some (.int u5), some (.int u6), some (.int (s19.2.1 11 k21))] [] (bM C (cH C s19) G) sz sl R) : gm_ev N0 K ra_nm (ra_mt K) d (some .boolean) (gm_I cX2_joinEach) (gm_lkf (lkX2 false K)) 38 [some (.ref (C + 5)), some (.ref p0), some (.int u2), some (.ref a3), some (.int u4), some (.int u5), some (.int u6), some (.int u7)] [] (bM C (cH C s) G) sz sl R := by
  refine gm_ev.iload i33_38 rfl ?_
  refine gm_ev.iload i33_40 rfl ?_
  refine gm_ev.icmp_lt_f i33_42 c1 ?_
  refine gm_ev.iload i33_45 rfl ?_
  refine gm_ev.iload i33_47 rfl ?_
  refine gm_ev.icmp_gt_f i33_49 c2 ?_
  refine gm_ev.aload_n i33_52 rfl ?_
  refine gm_ev.aload_n i33_53 rfl ?_
  refine gm_ev.getfield (v := .int x4) i33_54 rfl (gm_fld_of (cG_get hg_a3 ho3) f5) ?_
  refine gm_ev.aload_n i33_57 rfl ?_
  refine gm_ev.getfield (v := .ref (C + 6)) i33_58 rfl (bM_fld (j := 5) (fs := cF5 C s) rfl rfl) ?_
  refine gm_ev.getfield (v := .ref (C + 8)) i33_61 rfl (bM_fld (j := 6) (fs := cF6 C s) rfl rfl) ?_
  refine gm_ev.iload i33_64 rfl ?_
  refine gm_ev.iaload i33_66 (bM_ai (j := 8) (n := 201) (f := s.2.1 8) rfl ek6 lk6 (by decide)) ?_
  refine gm_ev.aload_n i33_67 rfl ?_
  refine gm_ev.getfield (v := .int x8) i33_68 rfl (gm_fld_of (cG_get hg_p0 ho7) f9) ?_
  refine gm_ev.callV gm_mono_run (av := [.int x4, .int (s.2.1 8 k6), .int x8]) (r := []) (ci := 2) (fs := cF5 C s) (bM_get (j := 5) rfl) i33_71 rfl rfl rfl (Nat.le_of_ble_eq_true rfl) t11 ?_
  refine gm_ev.if_eq_f i33_74 c13 ?_
  refine gm_ev.aload_n i33_77 rfl ?_
  refine gm_ev.aload_n i33_78 rfl ?_
  refine gm_ev.getfield (v := .int x14) i33_79 rfl (gm_fld_of (cG_get hg_a3 ho3) f15) ?_
  refine gm_ev.aload_n i33_82 rfl ?_
  refine gm_ev.getfield (v := .ref (C + 6)) i33_83 rfl (bM_fld (j := 5) (fs := cF5 C s12) rfl rfl) ?_
  refine gm_ev.getfield (v := .ref (C + 9)) i33_86 rfl (bM_fld (j := 6) (fs := cF6 C s12) rfl rfl) ?_
  refine gm_ev.iload i33_89 rfl ?_
  refine gm_ev.iaload i33_91 (bM_ai (j := 9) (n := 201) (f := s12.2.1 9) rfl ek16 lk16 (by decide)) ?_
  refine gm_ev.aload_n i33_92 rfl ?_
  refine gm_ev.getfield (v := .int x8) i33_93 rfl (gm_fld_of (cG_get hg_p0 ho7) f9) ?_
  refine gm_ev.callV gm_mono_run (av := [.int x14, .int (s12.2.1 9 k16), .int x8]) (r := []) (ci := 2) (fs := cF5 C s12) (bM_get (j := 5) rfl) i33_96 rfl rfl rfl (Nat.le_of_ble_eq_true rfl) t18 ?_
  refine gm_ev.if_eq_t (tgt := 160) i33_99 (by decide) c20 ?_
  refine gm_ev.aload_n i33_160 rfl ?_
  refine gm_ev.getfield (v := .ref (C + 6)) i33_161 rfl (bM_fld (j := 5) (fs := cF5 C s19) rfl rfl) ?_
  refine gm_ev.getfield (v := .ref (C + 11)) i33_164 rfl (bM_fld (j := 6) (fs := cF6 C s19) rfl rfl) ?_
  refine gm_ev.iload i33_167 rfl ?_
  refine gm_ev.iaload i33_169 (bM_ai (j := 11) (n := 201) (f := s19.2.1 11) rfl ek21 lk21 (by decide)) ?_
  refine gm_ev.istore (ls' := [some (.ref (C + 5)), some (.ref p0), some (.int u2), some (.ref a3), some (.int u4), some (.int u5), some (.int u6), some (.int (s19.2.1 11 k21))]) i33_170 (Nat.le_of_ble_eq_true rfl) rfl ?_
  refine gm_ev.goto (tgt := 38) i33_172 (by decide) ?_
  exact k
theorem t_X2_joinEach_38_fffft_at38 {N0 : Nat} {K : Nat → Nat} {d C : Nat} {s : cS} {G : gm_H} {sz sl : Nat} {R : gm_R} {p0 : Nat} {u2 : Int32} {a3 : Nat} {u4 : Int32} {u5 : Int32} {u6 : Int32} {u7 : Int32} {fso3 : List Value} {x4 : Int32} {k6 : Nat} {fso7 : List Value} {x8 : Int32} {r10 : Int32} {s12 : cS} {x14 : Int32} {k16 : Nat} {r17 : Int32} {s19 : cS} {x21 : Int32} {k23 : Nat} {r24 : Int32} {s26 : cS} {k28 : Nat} (hN : N0 ≤ C) (c1 : ¬ u7 < u4) (c2 : ¬ u5 < u7) (ho3 : G a3 = some (.inr (5, fso3))) (f5 : fso3[2]? = some (.int x4)) (hg_a3 : C + 34 ≤ a3) (ek6 : u7 = nI k6) (lk6 : k6 < 201) (ho7 : G p0 = some (.inr (7, fso7))) (f9 : fso7[3]? = some (.int x8)) (hg_p0 : C + 34 ≤ p0) (t11 : gm_to N0 K ra_nm (ra_mt K) d 37 [.ref (C + 5), .int x4, .int (s.2.1 8 k6), .int x8] (bM C (cH C s) G) sz (.returned (some (.int r10)), (bM C (cH C s12) G), sz, 0)) (c13 : ¬ r10 = 0) (f15 : fso3[3]? = some (.int x14)) (ek16 : u7 = nI k16) (lk16 : k16 < 201) (t18 : gm_to N0 K ra_nm (ra_mt K) d 37 [.ref (C + 5), .int x14, .int (s12.2.1 9 k16), .int x8] (bM C (cH C s12) G) sz (.returned (some (.int r17)), (bM C (cH C s19) G), sz, 0)) (c20 : ¬ r17 = 0) (f22 : fso3[4]? = some (.int x21)) (ek23 : u7 = nI k23) (lk23 : k23 < 201) (t25 : gm_to N0 K ra_nm (ra_mt K) d 37 [.ref (C + 5), .int x21, .int (s19.2.1 10 k23), .int x8] (bM C (cH C s19) G) sz (.returned (some (.int r24)), (bM C (cH C s26) G), sz, 0)) (c27 : r24 = 0) (ek28 : u7 = nI k28) (lk28 : k28 < 201) (k : gm_ev N0 K ra_nm (ra_mt K) d (some .boolean) (gm_I cX2_joinEach) (gm_lkf (lkX2 false K)) 38 [some (.ref (C + 5)), some (.ref p0), some (.int u2), some (.ref a3), some (.int u4), some (.int u5), some (.int u6), some (.int (s26.2.1 11 k28))] [] (bM C (cH C s26) G) sz sl R) : gm_ev N0 K ra_nm (ra_mt K) d (some .boolean) (gm_I cX2_joinEach) (gm_lkf (lkX2 false K)) 38 [some (.ref (C + 5)), some (.ref p0), some (.int u2), some (.ref a3), some (.int u4), some (.int u5), some (.int u6), some (.int u7)] [] (bM C (cH C s) G) sz sl R := by
  refine gm_ev.iload i33_38 rfl ?_
  refine gm_ev.iload i33_40 rfl ?_
  refine gm_ev.icmp_lt_f i33_42 c1 ?_
  refine gm_ev.iload i33_45 rfl ?_
  refine gm_ev.iload i33_47 rfl ?_
  refine gm_ev.icmp_gt_f i33_49 c2 ?_
  refine gm_ev.aload_n i33_52 rfl ?_
  refine gm_ev.aload_n i33_53 rfl ?_
  refine gm_ev.getfield (v := .int x4) i33_54 rfl (gm_fld_of (cG_get hg_a3 ho3) f5) ?_
  refine gm_ev.aload_n i33_57 rfl ?_
  refine gm_ev.getfield (v := .ref (C + 6)) i33_58 rfl (bM_fld (j := 5) (fs := cF5 C s) rfl rfl) ?_
  refine gm_ev.getfield (v := .ref (C + 8)) i33_61 rfl (bM_fld (j := 6) (fs := cF6 C s) rfl rfl) ?_
  refine gm_ev.iload i33_64 rfl ?_
  refine gm_ev.iaload i33_66 (bM_ai (j := 8) (n := 201) (f := s.2.1 8) rfl ek6 lk6 (by decide)) ?_
  refine gm_ev.aload_n i33_67 rfl ?_
  refine gm_ev.getfield (v := .int x8) i33_68 rfl (gm_fld_of (cG_get hg_p0 ho7) f9) ?_
  refine gm_ev.callV gm_mono_run (av := [.int x4, .int (s.2.1 8 k6), .int x8]) (r := []) (ci := 2) (fs := cF5 C s) (bM_get (j := 5) rfl) i33_71 rfl rfl rfl (Nat.le_of_ble_eq_true rfl) t11 ?_
  refine gm_ev.if_eq_f i33_74 c13 ?_
  refine gm_ev.aload_n i33_77 rfl ?_
  refine gm_ev.aload_n i33_78 rfl ?_
  refine gm_ev.getfield (v := .int x14) i33_79 rfl (gm_fld_of (cG_get hg_a3 ho3) f15) ?_
  refine gm_ev.aload_n i33_82 rfl ?_
  refine gm_ev.getfield (v := .ref (C + 6)) i33_83 rfl (bM_fld (j := 5) (fs := cF5 C s12) rfl rfl) ?_
  refine gm_ev.getfield (v := .ref (C + 9)) i33_86 rfl (bM_fld (j := 6) (fs := cF6 C s12) rfl rfl) ?_
  refine gm_ev.iload i33_89 rfl ?_
  refine gm_ev.iaload i33_91 (bM_ai (j := 9) (n := 201) (f := s12.2.1 9) rfl ek16 lk16 (by decide)) ?_
  refine gm_ev.aload_n i33_92 rfl ?_
  refine gm_ev.getfield (v := .int x8) i33_93 rfl (gm_fld_of (cG_get hg_p0 ho7) f9) ?_
  refine gm_ev.callV gm_mono_run (av := [.int x14, .int (s12.2.1 9 k16), .int x8]) (r := []) (ci := 2) (fs := cF5 C s12) (bM_get (j := 5) rfl) i33_96 rfl rfl rfl (Nat.le_of_ble_eq_true rfl) t18 ?_
  refine gm_ev.if_eq_f i33_99 c20 ?_
  refine gm_ev.aload_n i33_102 rfl ?_
  refine gm_ev.aload_n i33_103 rfl ?_
  refine gm_ev.getfield (v := .int x21) i33_104 rfl (gm_fld_of (cG_get hg_a3 ho3) f22) ?_
  refine gm_ev.aload_n i33_107 rfl ?_
  refine gm_ev.getfield (v := .ref (C + 6)) i33_108 rfl (bM_fld (j := 5) (fs := cF5 C s19) rfl rfl) ?_
  refine gm_ev.getfield (v := .ref (C + 10)) i33_111 rfl (bM_fld (j := 6) (fs := cF6 C s19) rfl rfl) ?_
  refine gm_ev.iload i33_114 rfl ?_
  refine gm_ev.iaload i33_116 (bM_ai (j := 10) (n := 201) (f := s19.2.1 10) rfl ek23 lk23 (by decide)) ?_
  refine gm_ev.aload_n i33_117 rfl ?_
  refine gm_ev.getfield (v := .int x8) i33_118 rfl (gm_fld_of (cG_get hg_p0 ho7) f9) ?_
  refine gm_ev.callV gm_mono_run (av := [.int x21, .int (s19.2.1 10 k23), .int x8]) (r := []) (ci := 2) (fs := cF5 C s19) (bM_get (j := 5) rfl) i33_121 rfl rfl rfl (Nat.le_of_ble_eq_true rfl) t25 ?_
  refine gm_ev.if_eq_t (tgt := 160) i33_124 (by decide) c27 ?_
  refine gm_ev.aload_n i33_160 rfl ?_
  refine gm_ev.getfield (v := .ref (C + 6)) i33_161 rfl (bM_fld (j := 5) (fs := cF5 C s26) rfl rfl) ?_
  refine gm_ev.getfield (v := .ref (C + 11)) i33_164 rfl (bM_fld (j := 6) (fs := cF6 C s26) rfl rfl) ?_
  refine gm_ev.iload i33_167 rfl ?_
  refine gm_ev.iaload i33_169 (bM_ai (j := 11) (n := 201) (f := s26.2.1 11) rfl ek28 lk28 (by decide)) ?_
  refine gm_ev.istore (ls' := [some (.ref (C + 5)), some (.ref p0), some (.int u2), some (.ref a3), some (.int u4), some (.int u5), some (.int u6), some (.int (s26.2.1 11 k28))]) i33_170 (Nat.le_of_ble_eq_true rfl) rfl ?_
  refine gm_ev.goto (tgt := 38) i33_172 (by decide) ?_
  exact k
theorem t_X2_joinEach_38_ffffft_at38 {N0 : Nat} {K : Nat → Nat} {d C : Nat} {s : cS} {G : gm_H} {sz sl : Nat} {R : gm_R} {p0 : Nat} {u2 : Int32} {a3 : Nat} {u4 : Int32} {u5 : Int32} {u6 : Int32} {u7 : Int32} {fso3 : List Value} {x4 : Int32} {k6 : Nat} {fso7 : List Value} {x8 : Int32} {r10 : Int32} {s12 : cS} {x14 : Int32} {k16 : Nat} {r17 : Int32} {s19 : cS} {x21 : Int32} {k23 : Nat} {r24 : Int32} {s26 : cS} {r28 : Int32} {s30 : cS} {k32 : Nat} (hN : N0 ≤ C) (c1 : ¬ u7 < u4) (c2 : ¬ u5 < u7) (ho3 : G a3 = some (.inr (5, fso3))) (f5 : fso3[2]? = some (.int x4)) (hg_a3 : C + 34 ≤ a3) (ek6 : u7 = nI k6) (lk6 : k6 < 201) (ho7 : G p0 = some (.inr (7, fso7))) (f9 : fso7[3]? = some (.int x8)) (hg_p0 : C + 34 ≤ p0) (t11 : gm_to N0 K ra_nm (ra_mt K) d 37 [.ref (C + 5), .int x4, .int (s.2.1 8 k6), .int x8] (bM C (cH C s) G) sz (.returned (some (.int r10)), (bM C (cH C s12) G), sz, 0)) (c13 : ¬ r10 = 0) (f15 : fso3[3]? = some (.int x14)) (ek16 : u7 = nI k16) (lk16 : k16 < 201) (t18 : gm_to N0 K ra_nm (ra_mt K) d 37 [.ref (C + 5), .int x14, .int (s12.2.1 9 k16), .int x8] (bM C (cH C s12) G) sz (.returned (some (.int r17)), (bM C (cH C s19) G), sz, 0)) (c20 : ¬ r17 = 0) (f22 : fso3[4]? = some (.int x21)) (ek23 : u7 = nI k23) (lk23 : k23 < 201) (t25 : gm_to N0 K ra_nm (ra_mt K) d 37 [.ref (C + 5), .int x21, .int (s19.2.1 10 k23), .int x8] (bM C (cH C s19) G) sz (.returned (some (.int r24)), (bM C (cH C s26) G), sz, 0)) (c27 : ¬ r24 = 0) (t29 : gm_to N0 K ra_nm (ra_mt K) d 32 [.ref (C + 5), .ref p0, .int (u2 + (1 : Int32))] (bM C (cH C s26) G) sz (.returned (some (.int r28)), (bM C (cH C s30) G), sz, 0)) (c31 : r28 = 0) (ek32 : u7 = nI k32) (lk32 : k32 < 201) (k : gm_ev N0 K ra_nm (ra_mt K) d (some .boolean) (gm_I cX2_joinEach) (gm_lkf (lkX2 false K)) 38 [some (.ref (C + 5)), some (.ref p0), some (.int u2), some (.ref a3), some (.int u4), some (.int u5), some (.int u6), some (.int (s30.2.1 11 k32))] [] (bM C (cH C s30) G) sz sl R) : gm_ev N0 K ra_nm (ra_mt K) d (some .boolean) (gm_I cX2_joinEach) (gm_lkf (lkX2 false K)) 38 [some (.ref (C + 5)), some (.ref p0), some (.int u2), some (.ref a3), some (.int u4), some (.int u5), some (.int u6), some (.int u7)] [] (bM C (cH C s) G) sz sl R := by
  refine gm_ev.iload i33_38 rfl ?_
  refine gm_ev.iload i33_40 rfl ?_
  refine gm_ev.icmp_lt_f i33_42 c1 ?_
  refine gm_ev.iload i33_45 rfl ?_
  refine gm_ev.iload i33_47 rfl ?_
  refine gm_ev.icmp_gt_f i33_49 c2 ?_
  refine gm_ev.aload_n i33_52 rfl ?_
  refine gm_ev.aload_n i33_53 rfl ?_
  refine gm_ev.getfield (v := .int x4) i33_54 rfl (gm_fld_of (cG_get hg_a3 ho3) f5) ?_
  refine gm_ev.aload_n i33_57 rfl ?_
  refine gm_ev.getfield (v := .ref (C + 6)) i33_58 rfl (bM_fld (j := 5) (fs := cF5 C s) rfl rfl) ?_
  refine gm_ev.getfield (v := .ref (C + 8)) i33_61 rfl (bM_fld (j := 6) (fs := cF6 C s) rfl rfl) ?_
  refine gm_ev.iload i33_64 rfl ?_
  refine gm_ev.iaload i33_66 (bM_ai (j := 8) (n := 201) (f := s.2.1 8) rfl ek6 lk6 (by decide)) ?_
  refine gm_ev.aload_n i33_67 rfl ?_
  refine gm_ev.getfield (v := .int x8) i33_68 rfl (gm_fld_of (cG_get hg_p0 ho7) f9) ?_
  refine gm_ev.callV gm_mono_run (av := [.int x4, .int (s.2.1 8 k6), .int x8]) (r := []) (ci := 2) (fs := cF5 C s) (bM_get (j := 5) rfl) i33_71 rfl rfl rfl (Nat.le_of_ble_eq_true rfl) t11 ?_
  refine gm_ev.if_eq_f i33_74 c13 ?_
  refine gm_ev.aload_n i33_77 rfl ?_
  refine gm_ev.aload_n i33_78 rfl ?_
  refine gm_ev.getfield (v := .int x14) i33_79 rfl (gm_fld_of (cG_get hg_a3 ho3) f15) ?_
  refine gm_ev.aload_n i33_82 rfl ?_
  refine gm_ev.getfield (v := .ref (C + 6)) i33_83 rfl (bM_fld (j := 5) (fs := cF5 C s12) rfl rfl) ?_
  refine gm_ev.getfield (v := .ref (C + 9)) i33_86 rfl (bM_fld (j := 6) (fs := cF6 C s12) rfl rfl) ?_
  refine gm_ev.iload i33_89 rfl ?_
  refine gm_ev.iaload i33_91 (bM_ai (j := 9) (n := 201) (f := s12.2.1 9) rfl ek16 lk16 (by decide)) ?_
  refine gm_ev.aload_n i33_92 rfl ?_
  refine gm_ev.getfield (v := .int x8) i33_93 rfl (gm_fld_of (cG_get hg_p0 ho7) f9) ?_
  refine gm_ev.callV gm_mono_run (av := [.int x14, .int (s12.2.1 9 k16), .int x8]) (r := []) (ci := 2) (fs := cF5 C s12) (bM_get (j := 5) rfl) i33_96 rfl rfl rfl (Nat.le_of_ble_eq_true rfl) t18 ?_
  refine gm_ev.if_eq_f i33_99 c20 ?_
  refine gm_ev.aload_n i33_102 rfl ?_
  refine gm_ev.aload_n i33_103 rfl ?_
  refine gm_ev.getfield (v := .int x21) i33_104 rfl (gm_fld_of (cG_get hg_a3 ho3) f22) ?_
  refine gm_ev.aload_n i33_107 rfl ?_
  refine gm_ev.getfield (v := .ref (C + 6)) i33_108 rfl (bM_fld (j := 5) (fs := cF5 C s19) rfl rfl) ?_
  refine gm_ev.getfield (v := .ref (C + 10)) i33_111 rfl (bM_fld (j := 6) (fs := cF6 C s19) rfl rfl) ?_
  refine gm_ev.iload i33_114 rfl ?_
  refine gm_ev.iaload i33_116 (bM_ai (j := 10) (n := 201) (f := s19.2.1 10) rfl ek23 lk23 (by decide)) ?_
  refine gm_ev.aload_n i33_117 rfl ?_
  refine gm_ev.getfield (v := .int x8) i33_118 rfl (gm_fld_of (cG_get hg_p0 ho7) f9) ?_
  refine gm_ev.callV gm_mono_run (av := [.int x21, .int (s19.2.1 10 k23), .int x8]) (r := []) (ci := 2) (fs := cF5 C s19) (bM_get (j := 5) rfl) i33_121 rfl rfl rfl (Nat.le_of_ble_eq_true rfl) t25 ?_
  refine gm_ev.if_eq_f i33_124 c27 ?_
  refine gm_ev.aload_n i33_127 rfl ?_
  refine gm_ev.aload_n i33_128 rfl ?_
  refine gm_ev.iload_n i33_129 rfl ?_
  refine gm_ev.iconst (v := 1) i33_130 (by decide) ?_
  refine gm_ev.iadd i33_131 ?_
  refine gm_ev.callV gm_mono_run (av := [.ref p0, .int (u2 + (1 : Int32))]) (r := []) (ci := 2) (fs := cF5 C s26) (bM_get (j := 5) rfl) i33_132 rfl rfl rfl (Nat.le_of_ble_eq_true rfl) t29 ?_
  refine gm_ev.if_eq_t (tgt := 160) i33_135 (by decide) c31 ?_
  refine gm_ev.aload_n i33_160 rfl ?_
  refine gm_ev.getfield (v := .ref (C + 6)) i33_161 rfl (bM_fld (j := 5) (fs := cF5 C s30) rfl rfl) ?_
  refine gm_ev.getfield (v := .ref (C + 11)) i33_164 rfl (bM_fld (j := 6) (fs := cF6 C s30) rfl rfl) ?_
  refine gm_ev.iload i33_167 rfl ?_
  refine gm_ev.iaload i33_169 (bM_ai (j := 11) (n := 201) (f := s30.2.1 11) rfl ek32 lk32 (by decide)) ?_
  refine gm_ev.istore (ls' := [some (.ref (C + 5)), some (.ref p0), some (.int u2), some (.ref a3), some (.int u4), some (.int u5), some (.int u6), some (.int (s30.2.1 11 k32))]) i33_170 (Nat.le_of_ble_eq_true rfl) rfl ?_
  refine gm_ev.goto (tgt := 38) i33_172 (by decide) ?_
  exact k
theorem t_X2_joinEach_38_fffffft {N0 : Nat} {K : Nat → Nat} {d C : Nat} {s : cS} {G : gm_H} {sz sl : Nat} {p0 : Nat} {u2 : Int32} {a3 : Nat} {u4 : Int32} {u5 : Int32} {u6 : Int32} {u7 : Int32} {fso3 : List Value} {x4 : Int32} {k6 : Nat} {fso7 : List Value} {x8 : Int32} {r10 : Int32} {s12 : cS} {x14 : Int32} {k16 : Nat} {r17 : Int32} {s19 : cS} {x21 : Int32} {k23 : Nat} {r24 : Int32} {s26 : cS} {r28 : Int32} {s30 : cS} {x32 : Int32} (hN : N0 ≤ C) (c1 : ¬ u7 < u4) (c2 : ¬ u5 < u7) (ho3 : G a3 = some (.inr (5, fso3))) (f5 : fso3[2]? = some (.int x4)) (hg_a3 : C + 34 ≤ a3) (ek6 : u7 = nI k6) (lk6 : k6 < 201) (ho7 : G p0 = some (.inr (7, fso7))) (f9 : fso7[3]? = some (.int x8)) (hg_p0 : C + 34 ≤ p0) (t11 : gm_to N0 K ra_nm (ra_mt K) d 37 [.ref (C + 5), .int x4, .int (s.2.1 8 k6), .int x8] (bM C (cH C s) G) sz (.returned (some (.int r10)), (bM C (cH C s12) G), sz, 0)) (c13 : ¬ r10 = 0) (f15 : fso3[3]? = some (.int x14)) (ek16 : u7 = nI k16) (lk16 : k16 < 201) (t18 : gm_to N0 K ra_nm (ra_mt K) d 37 [.ref (C + 5), .int x14, .int (s12.2.1 9 k16), .int x8] (bM C (cH C s12) G) sz (.returned (some (.int r17)), (bM C (cH C s19) G), sz, 0)) (c20 : ¬ r17 = 0) (f22 : fso3[4]? = some (.int x21)) (ek23 : u7 = nI k23) (lk23 : k23 < 201) (t25 : gm_to N0 K ra_nm (ra_mt K) d 37 [.ref (C + 5), .int x21, .int (s19.2.1 10 k23), .int x8] (bM C (cH C s19) G) sz (.returned (some (.int r24)), (bM C (cH C s26) G), sz, 0)) (c27 : ¬ r24 = 0) (t29 : gm_to N0 K ra_nm (ra_mt K) d 32 [.ref (C + 5), .ref p0, .int (u2 + (1 : Int32))] (bM C (cH C s26) G) sz (.returned (some (.int r28)), (bM C (cH C s30) G), sz, 0)) (c31 : ¬ r28 = 0) (f33 : fso3[6]? = some (.int x32)) (c34 : ¬ x32 = 0) : gm_ev N0 K ra_nm (ra_mt K) d (some .boolean) (gm_I cX2_joinEach) (gm_lkf (lkX2 false K)) 38 [some (.ref (C + 5)), some (.ref p0), some (.int u2), some (.ref a3), some (.int u4), some (.int u5), some (.int u6), some (.int u7)] [] (bM C (cH C s) G) sz sl (.returned (some (.int (1 : Int32))), (bM C (cH C s30) G), sz, sl) := by
  refine gm_ev.iload i33_38 rfl ?_
  refine gm_ev.iload i33_40 rfl ?_
  refine gm_ev.icmp_lt_f i33_42 c1 ?_
  refine gm_ev.iload i33_45 rfl ?_
  refine gm_ev.iload i33_47 rfl ?_
  refine gm_ev.icmp_gt_f i33_49 c2 ?_
  refine gm_ev.aload_n i33_52 rfl ?_
  refine gm_ev.aload_n i33_53 rfl ?_
  refine gm_ev.getfield (v := .int x4) i33_54 rfl (gm_fld_of (cG_get hg_a3 ho3) f5) ?_
  refine gm_ev.aload_n i33_57 rfl ?_
  refine gm_ev.getfield (v := .ref (C + 6)) i33_58 rfl (bM_fld (j := 5) (fs := cF5 C s) rfl rfl) ?_
  refine gm_ev.getfield (v := .ref (C + 8)) i33_61 rfl (bM_fld (j := 6) (fs := cF6 C s) rfl rfl) ?_
  refine gm_ev.iload i33_64 rfl ?_
  refine gm_ev.iaload i33_66 (bM_ai (j := 8) (n := 201) (f := s.2.1 8) rfl ek6 lk6 (by decide)) ?_
  refine gm_ev.aload_n i33_67 rfl ?_
  refine gm_ev.getfield (v := .int x8) i33_68 rfl (gm_fld_of (cG_get hg_p0 ho7) f9) ?_
  refine gm_ev.callV gm_mono_run (av := [.int x4, .int (s.2.1 8 k6), .int x8]) (r := []) (ci := 2) (fs := cF5 C s) (bM_get (j := 5) rfl) i33_71 rfl rfl rfl (Nat.le_of_ble_eq_true rfl) t11 ?_
  refine gm_ev.if_eq_f i33_74 c13 ?_
  refine gm_ev.aload_n i33_77 rfl ?_
  refine gm_ev.aload_n i33_78 rfl ?_
  refine gm_ev.getfield (v := .int x14) i33_79 rfl (gm_fld_of (cG_get hg_a3 ho3) f15) ?_
  refine gm_ev.aload_n i33_82 rfl ?_
  refine gm_ev.getfield (v := .ref (C + 6)) i33_83 rfl (bM_fld (j := 5) (fs := cF5 C s12) rfl rfl) ?_
  refine gm_ev.getfield (v := .ref (C + 9)) i33_86 rfl (bM_fld (j := 6) (fs := cF6 C s12) rfl rfl) ?_
  refine gm_ev.iload i33_89 rfl ?_
  refine gm_ev.iaload i33_91 (bM_ai (j := 9) (n := 201) (f := s12.2.1 9) rfl ek16 lk16 (by decide)) ?_
  refine gm_ev.aload_n i33_92 rfl ?_
  refine gm_ev.getfield (v := .int x8) i33_93 rfl (gm_fld_of (cG_get hg_p0 ho7) f9) ?_
  refine gm_ev.callV gm_mono_run (av := [.int x14, .int (s12.2.1 9 k16), .int x8]) (r := []) (ci := 2) (fs := cF5 C s12) (bM_get (j := 5) rfl) i33_96 rfl rfl rfl (Nat.le_of_ble_eq_true rfl) t18 ?_
  refine gm_ev.if_eq_f i33_99 c20 ?_
  refine gm_ev.aload_n i33_102 rfl ?_
  refine gm_ev.aload_n i33_103 rfl ?_
  refine gm_ev.getfield (v := .int x21) i33_104 rfl (gm_fld_of (cG_get hg_a3 ho3) f22) ?_
  refine gm_ev.aload_n i33_107 rfl ?_
  refine gm_ev.getfield (v := .ref (C + 6)) i33_108 rfl (bM_fld (j := 5) (fs := cF5 C s19) rfl rfl) ?_
  refine gm_ev.getfield (v := .ref (C + 10)) i33_111 rfl (bM_fld (j := 6) (fs := cF6 C s19) rfl rfl) ?_
  refine gm_ev.iload i33_114 rfl ?_
  refine gm_ev.iaload i33_116 (bM_ai (j := 10) (n := 201) (f := s19.2.1 10) rfl ek23 lk23 (by decide)) ?_
  refine gm_ev.aload_n i33_117 rfl ?_
  refine gm_ev.getfield (v := .int x8) i33_118 rfl (gm_fld_of (cG_get hg_p0 ho7) f9) ?_
  refine gm_ev.callV gm_mono_run (av := [.int x21, .int (s19.2.1 10 k23), .int x8]) (r := []) (ci := 2) (fs := cF5 C s19) (bM_get (j := 5) rfl) i33_121 rfl rfl rfl (Nat.le_of_ble_eq_true rfl) t25 ?_
  refine gm_ev.if_eq_f i33_124 c27 ?_
  refine gm_ev.aload_n i33_127 rfl ?_
  refine gm_ev.aload_n i33_128 rfl ?_
  refine gm_ev.iload_n i33_129 rfl ?_
  refine gm_ev.iconst (v := 1) i33_130 (by decide) ?_
  refine gm_ev.iadd i33_131 ?_
  refine gm_ev.callV gm_mono_run (av := [.ref p0, .int (u2 + (1 : Int32))]) (r := []) (ci := 2) (fs := cF5 C s26) (bM_get (j := 5) rfl) i33_132 rfl rfl rfl (Nat.le_of_ble_eq_true rfl) t29 ?_
  refine gm_ev.if_eq_f i33_135 c31 ?_
  refine gm_ev.aload_n i33_138 rfl ?_
  refine gm_ev.getfield (v := .int x32) i33_139 rfl (gm_fld_of (cG_get hg_a3 ho3) f33) ?_
  refine gm_ev.if_ne_t (tgt := 155) i33_142 (by decide) c34 ?_
  refine gm_ev.iconst (v := 1) i33_155 (by decide) ?_
  exact gm_ev.zret i33_156 rfl (by decide)
theorem t_X2_joinEach_38_ffffffft_at38 {N0 : Nat} {K : Nat → Nat} {d C : Nat} {s : cS} {G : gm_H} {sz sl : Nat} {R : gm_R} {p0 : Nat} {u2 : Int32} {a3 : Nat} {u4 : Int32} {u5 : Int32} {u6 : Int32} {u7 : Int32} {fso3 : List Value} {x4 : Int32} {k6 : Nat} {fso7 : List Value} {x8 : Int32} {r10 : Int32} {s12 : cS} {x14 : Int32} {k16 : Nat} {r17 : Int32} {s19 : cS} {x21 : Int32} {k23 : Nat} {r24 : Int32} {s26 : cS} {r28 : Int32} {s30 : cS} {x32 : Int32} {k36 : Nat} (hN : N0 ≤ C) (c1 : ¬ u7 < u4) (c2 : ¬ u5 < u7) (ho3 : G a3 = some (.inr (5, fso3))) (f5 : fso3[2]? = some (.int x4)) (hg_a3 : C + 34 ≤ a3) (ek6 : u7 = nI k6) (lk6 : k6 < 201) (ho7 : G p0 = some (.inr (7, fso7))) (f9 : fso7[3]? = some (.int x8)) (hg_p0 : C + 34 ≤ p0) (t11 : gm_to N0 K ra_nm (ra_mt K) d 37 [.ref (C + 5), .int x4, .int (s.2.1 8 k6), .int x8] (bM C (cH C s) G) sz (.returned (some (.int r10)), (bM C (cH C s12) G), sz, 0)) (c13 : ¬ r10 = 0) (f15 : fso3[3]? = some (.int x14)) (ek16 : u7 = nI k16) (lk16 : k16 < 201) (t18 : gm_to N0 K ra_nm (ra_mt K) d 37 [.ref (C + 5), .int x14, .int (s12.2.1 9 k16), .int x8] (bM C (cH C s12) G) sz (.returned (some (.int r17)), (bM C (cH C s19) G), sz, 0)) (c20 : ¬ r17 = 0) (f22 : fso3[4]? = some (.int x21)) (ek23 : u7 = nI k23) (lk23 : k23 < 201) (t25 : gm_to N0 K ra_nm (ra_mt K) d 37 [.ref (C + 5), .int x21, .int (s19.2.1 10 k23), .int x8] (bM C (cH C s19) G) sz (.returned (some (.int r24)), (bM C (cH C s26) G), sz, 0)) (c27 : ¬ r24 = 0) (t29 : gm_to N0 K ra_nm (ra_mt K) d 32 [.ref (C + 5), .ref p0, .int (u2 + (1 : Int32))] (bM C (cH C s26) G) sz (.returned (some (.int r28)), (bM C (cH C s30) G), sz, 0)) (c31 : ¬ r28 = 0) (f33 : fso3[6]? = some (.int x32)) (c34 : x32 = 0) (c35 : (s30.1 130) = 0) (ek36 : u7 = nI k36) (lk36 : k36 < 201) (k : gm_ev N0 K ra_nm (ra_mt K) d (some .boolean) (gm_I cX2_joinEach) (gm_lkf (lkX2 false K)) 38 [some (.ref (C + 5)), some (.ref p0), some (.int u2), some (.ref a3), some (.int u4), some (.int u5), some (.int (1 : Int32)), some (.int (s30.2.1 11 k36))] [] (bM C (cH C s30) G) sz sl R) : gm_ev N0 K ra_nm (ra_mt K) d (some .boolean) (gm_I cX2_joinEach) (gm_lkf (lkX2 false K)) 38 [some (.ref (C + 5)), some (.ref p0), some (.int u2), some (.ref a3), some (.int u4), some (.int u5), some (.int u6), some (.int u7)] [] (bM C (cH C s) G) sz sl R := by
  refine gm_ev.iload i33_38 rfl ?_
  refine gm_ev.iload i33_40 rfl ?_
  refine gm_ev.icmp_lt_f i33_42 c1 ?_
  refine gm_ev.iload i33_45 rfl ?_
  refine gm_ev.iload i33_47 rfl ?_
  refine gm_ev.icmp_gt_f i33_49 c2 ?_
  refine gm_ev.aload_n i33_52 rfl ?_
  refine gm_ev.aload_n i33_53 rfl ?_
  refine gm_ev.getfield (v := .int x4) i33_54 rfl (gm_fld_of (cG_get hg_a3 ho3) f5) ?_
  refine gm_ev.aload_n i33_57 rfl ?_
  refine gm_ev.getfield (v := .ref (C + 6)) i33_58 rfl (bM_fld (j := 5) (fs := cF5 C s) rfl rfl) ?_
  refine gm_ev.getfield (v := .ref (C + 8)) i33_61 rfl (bM_fld (j := 6) (fs := cF6 C s) rfl rfl) ?_
  refine gm_ev.iload i33_64 rfl ?_
  refine gm_ev.iaload i33_66 (bM_ai (j := 8) (n := 201) (f := s.2.1 8) rfl ek6 lk6 (by decide)) ?_
  refine gm_ev.aload_n i33_67 rfl ?_
  refine gm_ev.getfield (v := .int x8) i33_68 rfl (gm_fld_of (cG_get hg_p0 ho7) f9) ?_
  refine gm_ev.callV gm_mono_run (av := [.int x4, .int (s.2.1 8 k6), .int x8]) (r := []) (ci := 2) (fs := cF5 C s) (bM_get (j := 5) rfl) i33_71 rfl rfl rfl (Nat.le_of_ble_eq_true rfl) t11 ?_
  refine gm_ev.if_eq_f i33_74 c13 ?_
  refine gm_ev.aload_n i33_77 rfl ?_
  refine gm_ev.aload_n i33_78 rfl ?_
  refine gm_ev.getfield (v := .int x14) i33_79 rfl (gm_fld_of (cG_get hg_a3 ho3) f15) ?_
  refine gm_ev.aload_n i33_82 rfl ?_
  refine gm_ev.getfield (v := .ref (C + 6)) i33_83 rfl (bM_fld (j := 5) (fs := cF5 C s12) rfl rfl) ?_
  refine gm_ev.getfield (v := .ref (C + 9)) i33_86 rfl (bM_fld (j := 6) (fs := cF6 C s12) rfl rfl) ?_
  refine gm_ev.iload i33_89 rfl ?_
  refine gm_ev.iaload i33_91 (bM_ai (j := 9) (n := 201) (f := s12.2.1 9) rfl ek16 lk16 (by decide)) ?_
  refine gm_ev.aload_n i33_92 rfl ?_
  refine gm_ev.getfield (v := .int x8) i33_93 rfl (gm_fld_of (cG_get hg_p0 ho7) f9) ?_
  refine gm_ev.callV gm_mono_run (av := [.int x14, .int (s12.2.1 9 k16), .int x8]) (r := []) (ci := 2) (fs := cF5 C s12) (bM_get (j := 5) rfl) i33_96 rfl rfl rfl (Nat.le_of_ble_eq_true rfl) t18 ?_
  refine gm_ev.if_eq_f i33_99 c20 ?_
  refine gm_ev.aload_n i33_102 rfl ?_
  refine gm_ev.aload_n i33_103 rfl ?_
  refine gm_ev.getfield (v := .int x21) i33_104 rfl (gm_fld_of (cG_get hg_a3 ho3) f22) ?_
  refine gm_ev.aload_n i33_107 rfl ?_
  refine gm_ev.getfield (v := .ref (C + 6)) i33_108 rfl (bM_fld (j := 5) (fs := cF5 C s19) rfl rfl) ?_
  refine gm_ev.getfield (v := .ref (C + 10)) i33_111 rfl (bM_fld (j := 6) (fs := cF6 C s19) rfl rfl) ?_
  refine gm_ev.iload i33_114 rfl ?_
  refine gm_ev.iaload i33_116 (bM_ai (j := 10) (n := 201) (f := s19.2.1 10) rfl ek23 lk23 (by decide)) ?_
  refine gm_ev.aload_n i33_117 rfl ?_
  refine gm_ev.getfield (v := .int x8) i33_118 rfl (gm_fld_of (cG_get hg_p0 ho7) f9) ?_
  refine gm_ev.callV gm_mono_run (av := [.int x21, .int (s19.2.1 10 k23), .int x8]) (r := []) (ci := 2) (fs := cF5 C s19) (bM_get (j := 5) rfl) i33_121 rfl rfl rfl (Nat.le_of_ble_eq_true rfl) t25 ?_
  refine gm_ev.if_eq_f i33_124 c27 ?_
  refine gm_ev.aload_n i33_127 rfl ?_
  refine gm_ev.aload_n i33_128 rfl ?_
  refine gm_ev.iload_n i33_129 rfl ?_
  refine gm_ev.iconst (v := 1) i33_130 (by decide) ?_
  refine gm_ev.iadd i33_131 ?_
  refine gm_ev.callV gm_mono_run (av := [.ref p0, .int (u2 + (1 : Int32))]) (r := []) (ci := 2) (fs := cF5 C s26) (bM_get (j := 5) rfl) i33_132 rfl rfl rfl (Nat.le_of_ble_eq_true rfl) t29 ?_
  refine gm_ev.if_eq_f i33_135 c31 ?_
  refine gm_ev.aload_n i33_138 rfl ?_
  refine gm_ev.getfield (v := .int x32) i33_139 rfl (gm_fld_of (cG_get hg_a3 ho3) f33) ?_
  refine gm_ev.if_ne_f i33_142 c34 ?_
  refine gm_ev.aload_n i33_145 rfl ?_
  refine gm_ev.getfield (v := .ref (C + 6)) i33_146 rfl (bM_fld (j := 5) (fs := cF5 C s30) rfl rfl) ?_
  refine gm_ev.getfield (v := .int (s30.1 130)) i33_149 rfl (bM_fld (j := 6) (fs := cF6 C s30) rfl rfl) ?_
  refine gm_ev.if_eq_t (tgt := 157) i33_152 (by decide) c35 ?_
  refine gm_ev.iconst (v := 1) i33_157 (by decide) ?_
  refine gm_ev.istore (ls' := [some (.ref (C + 5)), some (.ref p0), some (.int u2), some (.ref a3), some (.int u4), some (.int u5), some (.int (1 : Int32)), some (.int u7)]) i33_158 (Nat.le_of_ble_eq_true rfl) rfl ?_
  refine gm_ev.aload_n i33_160 rfl ?_
  refine gm_ev.getfield (v := .ref (C + 6)) i33_161 rfl (bM_fld (j := 5) (fs := cF5 C s30) rfl rfl) ?_
  refine gm_ev.getfield (v := .ref (C + 11)) i33_164 rfl (bM_fld (j := 6) (fs := cF6 C s30) rfl rfl) ?_
  refine gm_ev.iload i33_167 rfl ?_
  refine gm_ev.iaload i33_169 (bM_ai (j := 11) (n := 201) (f := s30.2.1 11) rfl ek36 lk36 (by decide)) ?_
  refine gm_ev.istore (ls' := [some (.ref (C + 5)), some (.ref p0), some (.int u2), some (.ref a3), some (.int u4), some (.int u5), some (.int (1 : Int32)), some (.int (s30.2.1 11 k36))]) i33_170 (Nat.le_of_ble_eq_true rfl) rfl ?_
  refine gm_ev.goto (tgt := 38) i33_172 (by decide) ?_
  exact k
theorem t_X2_joinEach_38_ffffffff {N0 : Nat} {K : Nat → Nat} {d C : Nat} {s : cS} {G : gm_H} {sz sl : Nat} {p0 : Nat} {u2 : Int32} {a3 : Nat} {u4 : Int32} {u5 : Int32} {u6 : Int32} {u7 : Int32} {fso3 : List Value} {x4 : Int32} {k6 : Nat} {fso7 : List Value} {x8 : Int32} {r10 : Int32} {s12 : cS} {x14 : Int32} {k16 : Nat} {r17 : Int32} {s19 : cS} {x21 : Int32} {k23 : Nat} {r24 : Int32} {s26 : cS} {r28 : Int32} {s30 : cS} {x32 : Int32} (hN : N0 ≤ C) (c1 : ¬ u7 < u4) (c2 : ¬ u5 < u7) (ho3 : G a3 = some (.inr (5, fso3))) (f5 : fso3[2]? = some (.int x4)) (hg_a3 : C + 34 ≤ a3) (ek6 : u7 = nI k6) (lk6 : k6 < 201) (ho7 : G p0 = some (.inr (7, fso7))) (f9 : fso7[3]? = some (.int x8)) (hg_p0 : C + 34 ≤ p0) (t11 : gm_to N0 K ra_nm (ra_mt K) d 37 [.ref (C + 5), .int x4, .int (s.2.1 8 k6), .int x8] (bM C (cH C s) G) sz (.returned (some (.int r10)), (bM C (cH C s12) G), sz, 0)) (c13 : ¬ r10 = 0) (f15 : fso3[3]? = some (.int x14)) (ek16 : u7 = nI k16) (lk16 : k16 < 201) (t18 : gm_to N0 K ra_nm (ra_mt K) d 37 [.ref (C + 5), .int x14, .int (s12.2.1 9 k16), .int x8] (bM C (cH C s12) G) sz (.returned (some (.int r17)), (bM C (cH C s19) G), sz, 0)) (c20 : ¬ r17 = 0) (f22 : fso3[4]? = some (.int x21)) (ek23 : u7 = nI k23) (lk23 : k23 < 201) (t25 : gm_to N0 K ra_nm (ra_mt K) d 37 [.ref (C + 5), .int x21, .int (s19.2.1 10 k23), .int x8] (bM C (cH C s19) G) sz (.returned (some (.int r24)), (bM C (cH C s26) G), sz, 0)) (c27 : ¬ r24 = 0) (t29 : gm_to N0 K ra_nm (ra_mt K) d 32 [.ref (C + 5), .ref p0, .int (u2 + (1 : Int32))] (bM C (cH C s26) G) sz (.returned (some (.int r28)), (bM C (cH C s30) G), sz, 0)) (c31 : ¬ r28 = 0) (f33 : fso3[6]? = some (.int x32)) (c34 : x32 = 0) (c35 : ¬ (s30.1 130) = 0) : gm_ev N0 K ra_nm (ra_mt K) d (some .boolean) (gm_I cX2_joinEach) (gm_lkf (lkX2 false K)) 38 [some (.ref (C + 5)), some (.ref p0), some (.int u2), some (.ref a3), some (.int u4), some (.int u5), some (.int u6), some (.int u7)] [] (bM C (cH C s) G) sz sl (.returned (some (.int (1 : Int32))), (bM C (cH C s30) G), sz, sl) := by
  refine gm_ev.iload i33_38 rfl ?_
  refine gm_ev.iload i33_40 rfl ?_
  refine gm_ev.icmp_lt_f i33_42 c1 ?_
  refine gm_ev.iload i33_45 rfl ?_
  refine gm_ev.iload i33_47 rfl ?_
  refine gm_ev.icmp_gt_f i33_49 c2 ?_
  refine gm_ev.aload_n i33_52 rfl ?_
  refine gm_ev.aload_n i33_53 rfl ?_
  refine gm_ev.getfield (v := .int x4) i33_54 rfl (gm_fld_of (cG_get hg_a3 ho3) f5) ?_
  refine gm_ev.aload_n i33_57 rfl ?_
  refine gm_ev.getfield (v := .ref (C + 6)) i33_58 rfl (bM_fld (j := 5) (fs := cF5 C s) rfl rfl) ?_
  refine gm_ev.getfield (v := .ref (C + 8)) i33_61 rfl (bM_fld (j := 6) (fs := cF6 C s) rfl rfl) ?_
  refine gm_ev.iload i33_64 rfl ?_
  refine gm_ev.iaload i33_66 (bM_ai (j := 8) (n := 201) (f := s.2.1 8) rfl ek6 lk6 (by decide)) ?_
  refine gm_ev.aload_n i33_67 rfl ?_
  refine gm_ev.getfield (v := .int x8) i33_68 rfl (gm_fld_of (cG_get hg_p0 ho7) f9) ?_
  refine gm_ev.callV gm_mono_run (av := [.int x4, .int (s.2.1 8 k6), .int x8]) (r := []) (ci := 2) (fs := cF5 C s) (bM_get (j := 5) rfl) i33_71 rfl rfl rfl (Nat.le_of_ble_eq_true rfl) t11 ?_
  refine gm_ev.if_eq_f i33_74 c13 ?_
  refine gm_ev.aload_n i33_77 rfl ?_
  refine gm_ev.aload_n i33_78 rfl ?_
  refine gm_ev.getfield (v := .int x14) i33_79 rfl (gm_fld_of (cG_get hg_a3 ho3) f15) ?_
  refine gm_ev.aload_n i33_82 rfl ?_
  refine gm_ev.getfield (v := .ref (C + 6)) i33_83 rfl (bM_fld (j := 5) (fs := cF5 C s12) rfl rfl) ?_
  refine gm_ev.getfield (v := .ref (C + 9)) i33_86 rfl (bM_fld (j := 6) (fs := cF6 C s12) rfl rfl) ?_
  refine gm_ev.iload i33_89 rfl ?_
  refine gm_ev.iaload i33_91 (bM_ai (j := 9) (n := 201) (f := s12.2.1 9) rfl ek16 lk16 (by decide)) ?_
  refine gm_ev.aload_n i33_92 rfl ?_
  refine gm_ev.getfield (v := .int x8) i33_93 rfl (gm_fld_of (cG_get hg_p0 ho7) f9) ?_
  refine gm_ev.callV gm_mono_run (av := [.int x14, .int (s12.2.1 9 k16), .int x8]) (r := []) (ci := 2) (fs := cF5 C s12) (bM_get (j := 5) rfl) i33_96 rfl rfl rfl (Nat.le_of_ble_eq_true rfl) t18 ?_
  refine gm_ev.if_eq_f i33_99 c20 ?_
  refine gm_ev.aload_n i33_102 rfl ?_
  refine gm_ev.aload_n i33_103 rfl ?_
  refine gm_ev.getfield (v := .int x21) i33_104 rfl (gm_fld_of (cG_get hg_a3 ho3) f22) ?_
  refine gm_ev.aload_n i33_107 rfl ?_
  refine gm_ev.getfield (v := .ref (C + 6)) i33_108 rfl (bM_fld (j := 5) (fs := cF5 C s19) rfl rfl) ?_
  refine gm_ev.getfield (v := .ref (C + 10)) i33_111 rfl (bM_fld (j := 6) (fs := cF6 C s19) rfl rfl) ?_
  refine gm_ev.iload i33_114 rfl ?_
  refine gm_ev.iaload i33_116 (bM_ai (j := 10) (n := 201) (f := s19.2.1 10) rfl ek23 lk23 (by decide)) ?_
  refine gm_ev.aload_n i33_117 rfl ?_
  refine gm_ev.getfield (v := .int x8) i33_118 rfl (gm_fld_of (cG_get hg_p0 ho7) f9) ?_
  refine gm_ev.callV gm_mono_run (av := [.int x21, .int (s19.2.1 10 k23), .int x8]) (r := []) (ci := 2) (fs := cF5 C s19) (bM_get (j := 5) rfl) i33_121 rfl rfl rfl (Nat.le_of_ble_eq_true rfl) t25 ?_
  refine gm_ev.if_eq_f i33_124 c27 ?_
  refine gm_ev.aload_n i33_127 rfl ?_
  refine gm_ev.aload_n i33_128 rfl ?_
  refine gm_ev.iload_n i33_129 rfl ?_
  refine gm_ev.iconst (v := 1) i33_130 (by decide) ?_
  refine gm_ev.iadd i33_131 ?_
  refine gm_ev.callV gm_mono_run (av := [.ref p0, .int (u2 + (1 : Int32))]) (r := []) (ci := 2) (fs := cF5 C s26) (bM_get (j := 5) rfl) i33_132 rfl rfl rfl (Nat.le_of_ble_eq_true rfl) t29 ?_
  refine gm_ev.if_eq_f i33_135 c31 ?_
  refine gm_ev.aload_n i33_138 rfl ?_
  refine gm_ev.getfield (v := .int x32) i33_139 rfl (gm_fld_of (cG_get hg_a3 ho3) f33) ?_
  refine gm_ev.if_ne_f i33_142 c34 ?_
  refine gm_ev.aload_n i33_145 rfl ?_
  refine gm_ev.getfield (v := .ref (C + 6)) i33_146 rfl (bM_fld (j := 5) (fs := cF5 C s30) rfl rfl) ?_
  refine gm_ev.getfield (v := .int (s30.1 130)) i33_149 rfl (bM_fld (j := 6) (fs := cF6 C s30) rfl rfl) ?_
  refine gm_ev.if_eq_f i33_152 c35 ?_
  refine gm_ev.iconst (v := 1) i33_155 (by decide) ?_
  exact gm_ev.zret i33_156 rfl (by decide)
theorem t_X2_lowest_0_t {N0 : Nat} {K : Nat → Nat} {d C : Nat} {s : cS} {G : gm_H} {sz sl : Nat} {p0 : Int32} (hN : N0 ≤ C) (c1 : ¬ p0 = (s.1 105)) : gm_ev N0 K ra_nm (ra_mt K) d (some .int) (gm_I cX2_lowest) (gm_lkf (lkX2 false K)) 0 [some (.ref (C + 5)), some (.int p0)] [] (bM C (cH C s) G) sz sl (.returned (some (.int (1 : Int32))), (bM C (cH C s) G), sz, sl) := by
  refine gm_ev.iload_n i34_0 rfl ?_
  refine gm_ev.aload_n i34_1 rfl ?_
  refine gm_ev.getfield (v := .int (s.1 105)) i34_2 rfl (bM_fld (j := 5) (fs := cF5 C s) rfl rfl) ?_
  refine gm_ev.icmp_ne_t (tgt := 15) i34_5 (by decide) c1 ?_
  refine gm_ev.iconst (v := 1) i34_15 (by decide) ?_
  exact gm_ev.iret i34_16 rfl
theorem t_X2_lowest_0_f {N0 : Nat} {K : Nat → Nat} {d C : Nat} {s : cS} {G : gm_H} {sz sl : Nat} {p0 : Int32} (hN : N0 ≤ C) (c1 : p0 = (s.1 105)) : gm_ev N0 K ra_nm (ra_mt K) d (some .int) (gm_I cX2_lowest) (gm_lkf (lkX2 false K)) 0 [some (.ref (C + 5)), some (.int p0)] [] (bM C (cH C s) G) sz sl (.returned (some (.int (s.1 106))), (bM C (cH C s) G), sz, sl) := by
  refine gm_ev.iload_n i34_0 rfl ?_
  refine gm_ev.aload_n i34_1 rfl ?_
  refine gm_ev.getfield (v := .int (s.1 105)) i34_2 rfl (bM_fld (j := 5) (fs := cF5 C s) rfl rfl) ?_
  refine gm_ev.icmp_ne_f i34_5 c1 ?_
  refine gm_ev.aload_n i34_8 rfl ?_
  refine gm_ev.getfield (v := .int (s.1 106)) i34_9 rfl (bM_fld (j := 5) (fs := cF5 C s) rfl rfl) ?_
  refine gm_ev.goto (tgt := 16) i34_12 (by decide) ?_
  exact gm_ev.iret i34_16 rfl
theorem t_X2_highest_0_t {N0 : Nat} {K : Nat → Nat} {d C : Nat} {s : cS} {G : gm_H} {sz sl : Nat} {p0 : Int32} (hN : N0 ≤ C) (c1 : (s.1 105) ≤ p0) : gm_ev N0 K ra_nm (ra_mt K) d (some .int) (gm_I cX2_highest) (gm_lkf (lkX2 false K)) 0 [some (.ref (C + 5)), some (.int p0)] [] (bM C (cH C s) G) sz sl (.returned (some (.int (s.1 107))), (bM C (cH C s) G), sz, sl) := by
  refine gm_ev.iload_n i35_0 rfl ?_
  refine gm_ev.aload_n i35_1 rfl ?_
  refine gm_ev.getfield (v := .int (s.1 105)) i35_2 rfl (bM_fld (j := 5) (fs := cF5 C s) rfl rfl) ?_
  refine gm_ev.icmp_ge_t (tgt := 17) i35_5 (by decide) c1 ?_
  refine gm_ev.aload_n i35_17 rfl ?_
  refine gm_ev.getfield (v := .int (s.1 107)) i35_18 rfl (bM_fld (j := 5) (fs := cF5 C s) rfl rfl) ?_
  exact gm_ev.iret i35_21 rfl
theorem t_X2_highest_0_f {N0 : Nat} {K : Nat → Nat} {d C : Nat} {s : cS} {G : gm_H} {sz sl : Nat} {p0 : Int32} (hN : N0 ≤ C) (c1 : ¬ (s.1 105) ≤ p0) : gm_ev N0 K ra_nm (ra_mt K) d (some .int) (gm_I cX2_highest) (gm_lkf (lkX2 false K)) 0 [some (.ref (C + 5)), some (.int p0)] [] (bM C (cH C s) G) sz sl (.returned (some (.int ((s.1 106) - (1 : Int32)))), (bM C (cH C s) G), sz, sl) := by
  refine gm_ev.iload_n i35_0 rfl ?_
  refine gm_ev.aload_n i35_1 rfl ?_
  refine gm_ev.getfield (v := .int (s.1 105)) i35_2 rfl (bM_fld (j := 5) (fs := cF5 C s) rfl rfl) ?_
  refine gm_ev.icmp_ge_f i35_5 c1 ?_
  refine gm_ev.aload_n i35_8 rfl ?_
  refine gm_ev.getfield (v := .int (s.1 106)) i35_9 rfl (bM_fld (j := 5) (fs := cF5 C s) rfl rfl) ?_
  refine gm_ev.iconst (v := 1) i35_12 (by decide) ?_
  refine gm_ev.isub i35_13 ?_
  refine gm_ev.goto (tgt := 21) i35_14 (by decide) ?_
  exact gm_ev.iret i35_21 rfl
theorem t_X2_fill_0_t_at24 {N0 : Nat} {K : Nat → Nat} {d C : Nat} {s : cS} {G : gm_H} {sz sl : Nat} {R : gm_R} {p0 : Int32} (hN : N0 ≤ C) (c1 : (12 : Int32) < (((p0).toUInt32 >>> (((21 : Int32)).toUInt32 &&& Int32.toUInt32 31)).toInt32)) (k : gm_ev N0 K ra_nm (ra_mt K) d (some .int) (gm_I cX2_fill) (gm_lkf (lkX2 false K)) 24 [some (.ref (C + 5)), some (.int p0), none, some (.int p0), some (.int (14 : Int32)), none] [] (bM C (cH C s) G) sz sl R) : gm_ev N0 K ra_nm (ra_mt K) d (some .int) (gm_I cX2_fill) (gm_lkf (lkX2 false K)) 0 [some (.ref (C + 5)), some (.int p0), none, none, none, none] [] (bM C (cH C s) G) sz sl R := by
  refine gm_ev.iload_n i36_0 rfl ?_
  refine gm_ev.bipush (v := 21) i36_1 (by decide) ?_
  refine gm_ev.iushr i36_3 ?_
  refine gm_ev.istore_n (ls' := [some (.ref (C + 5)), some (.int p0), some (.int (((p0).toUInt32 >>> (((21 : Int32)).toUInt32 &&& Int32.toUInt32 31)).toInt32)), none, none, none]) i36_4 (Nat.le_of_ble_eq_true rfl) rfl ?_
  refine gm_ev.iload_n i36_5 rfl ?_
  refine gm_ev.bipush (v := 12) i36_6 (by decide) ?_
  refine gm_ev.icmp_gt_t (tgt := 18) i36_8 (by decide) c1 ?_
  refine gm_ev.iload_n i36_18 rfl ?_
  refine gm_ev.istore_n (ls' := [some (.ref (C + 5)), some (.int p0), some (.int (((p0).toUInt32 >>> (((21 : Int32)).toUInt32 &&& Int32.toUInt32 31)).toInt32)), some (.int p0), none, none]) i36_19 (Nat.le_of_ble_eq_true rfl) rfl ?_
  refine gm_ev.bipush (v := 14) i36_20 (by decide) ?_
  refine gm_ev.istore (ls' := [some (.ref (C + 5)), some (.int p0), some (.int (((p0).toUInt32 >>> (((21 : Int32)).toUInt32 &&& Int32.toUInt32 31)).toInt32)), some (.int p0), some (.int (14 : Int32)), none]) i36_22 (Nat.le_of_ble_eq_true rfl) rfl ?_
  refine gm_ev.le (a := [some (.ref (C + 5)), some (.int p0), none, some (.int p0), some (.int (14 : Int32)), none]) (gm_leL.le (show gm_leL _ _ from ⟨rfl, ⟨rfl, ⟨rfl, ⟨rfl, trivial⟩⟩⟩⟩)) ?_
  exact k
theorem t_X2_fill_0_f {N0 : Nat} {K : Nat → Nat} {d C : Nat} {s : cS} {G : gm_H} {sz sl : Nat} {p0 : Int32} {k2 : Nat} (hN : N0 ≤ C) (c1 : ¬ (12 : Int32) < (((p0).toUInt32 >>> (((21 : Int32)).toUInt32 &&& Int32.toUInt32 31)).toInt32)) (ek2 : (((p0).toUInt32 >>> (((21 : Int32)).toUInt32 &&& Int32.toUInt32 31)).toInt32) = nI k2) (lk2 : k2 < 13) : gm_ev N0 K ra_nm (ra_mt K) d (some .int) (gm_I cX2_fill) (gm_lkf (lkX2 false K)) 0 [some (.ref (C + 5)), some (.int p0), none, none, none, none] [] (bM C (cH C s) G) sz sl (.returned (some (.int (s.2.1 16 k2))), (bM C (cH C s) G), sz, sl) := by
  refine gm_ev.iload_n i36_0 rfl ?_
  refine gm_ev.bipush (v := 21) i36_1 (by decide) ?_
  refine gm_ev.iushr i36_3 ?_
  refine gm_ev.istore_n (ls' := [some (.ref (C + 5)), some (.int p0), some (.int (((p0).toUInt32 >>> (((21 : Int32)).toUInt32 &&& Int32.toUInt32 31)).toInt32)), none, none, none]) i36_4 (Nat.le_of_ble_eq_true rfl) rfl ?_
  refine gm_ev.iload_n i36_5 rfl ?_
  refine gm_ev.bipush (v := 12) i36_6 (by decide) ?_
  refine gm_ev.icmp_gt_f i36_8 c1 ?_
  refine gm_ev.aload_n i36_11 rfl ?_
  refine gm_ev.getfield (v := .ref (C + 16)) i36_12 rfl (bM_fld (j := 5) (fs := cF5 C s) rfl rfl) ?_
  refine gm_ev.iload_n i36_15 rfl ?_
  refine gm_ev.iaload i36_16 (bM_ai (j := 16) (n := 13) (f := s.2.1 16) rfl ek2 lk2 (by decide)) ?_
  exact gm_ev.iret i36_17 rfl
theorem t_X2_fill_24_t {N0 : Nat} {K : Nat → Nat} {d C : Nat} {s : cS} {G : gm_H} {sz sl : Nat} {u1 : Int32} {u3 : Int32} {u4 : Int32} (hN : N0 ≤ C) (c1 : u4 < 0) : gm_ev N0 K ra_nm (ra_mt K) d (some .int) (gm_I cX2_fill) (gm_lkf (lkX2 false K)) 24 [some (.ref (C + 5)), some (.int u1), none, some (.int u3), some (.int u4), none] [] (bM C (cH C s) G) sz sl (.returned (some (.int u3)), (bM C (cH C s) G), sz, sl) := by
  refine gm_ev.iload i36_24 rfl ?_
  refine gm_ev.if_lt_t (tgt := 77) i36_26 (by decide) c1 ?_
  refine gm_ev.iload_n i36_77 rfl ?_
  exact gm_ev.iret i36_78 rfl
theorem t_X2_fill_24_ft {N0 : Nat} {K : Nat → Nat} {d C : Nat} {s : cS} {G : gm_H} {sz sl : Nat} {u1 : Int32} {u3 : Int32} {u4 : Int32} (hN : N0 ≤ C) (c1 : ¬ u4 < 0) (c2 : (u1 &&& (2097151 : Int32)) = 0) : gm_ev N0 K ra_nm (ra_mt K) d (some .int) (gm_I cX2_fill) (gm_lkf (lkX2 false K)) 24 [some (.ref (C + 5)), some (.int u1), none, some (.int u3), some (.int u4), none] [] (bM C (cH C s) G) sz sl (.returned (some (.int u3)), (bM C (cH C s) G), sz, sl) := by
  refine gm_ev.iload i36_24 rfl ?_
  refine gm_ev.if_lt_f i36_26 c1 ?_
  refine gm_ev.iload_n i36_29 rfl ?_
  refine gm_ev.ldc i36_30 rfl ?_
  refine gm_ev.iand i36_32 ?_
  refine gm_ev.if_eq_t (tgt := 77) i36_33 (by decide) c2 ?_
  refine gm_ev.iload_n i36_77 rfl ?_
  exact gm_ev.iret i36_78 rfl
theorem t_X2_fill_24_fft_at24 {N0 : Nat} {K : Nat → Nat} {d C : Nat} {s : cS} {G : gm_H} {sz sl : Nat} {R : gm_R} {u1 : Int32} {u3 : Int32} {u4 : Int32} (hN : N0 ≤ C) (c1 : ¬ u4 < 0) (c2 : ¬ (u1 &&& (2097151 : Int32)) = 0) (c3 : (12 : Int32) < ((((u1).toUInt32 >>> ((u4).toUInt32 &&& Int32.toUInt32 31)).toInt32) &&& (127 : Int32))) (k : gm_ev N0 K ra_nm (ra_mt K) d (some .int) (gm_I cX2_fill) (gm_lkf (lkX2 false K)) 24 [some (.ref (C + 5)), some (.int u1), none, some (.int u3), some (.int (u4 + (-7 : Int32))), none] [] (bM C (cH C s) G) sz sl R) : gm_ev N0 K ra_nm (ra_mt K) d (some .int) (gm_I cX2_fill) (gm_lkf (lkX2 false K)) 24 [some (.ref (C + 5)), some (.int u1), none, some (.int u3), some (.int u4), none] [] (bM C (cH C s) G) sz sl R := by
  refine gm_ev.iload i36_24 rfl ?_
  refine gm_ev.if_lt_f i36_26 c1 ?_
  refine gm_ev.iload_n i36_29 rfl ?_
  refine gm_ev.ldc i36_30 rfl ?_
  refine gm_ev.iand i36_32 ?_
  refine gm_ev.if_eq_f i36_33 c2 ?_
  refine gm_ev.iload_n i36_36 rfl ?_
  refine gm_ev.iload i36_37 rfl ?_
  refine gm_ev.iushr i36_39 ?_
  refine gm_ev.bipush (v := 127) i36_40 (by decide) ?_
  refine gm_ev.iand i36_42 ?_
  refine gm_ev.istore (ls' := [some (.ref (C + 5)), some (.int u1), none, some (.int u3), some (.int u4), some (.int ((((u1).toUInt32 >>> ((u4).toUInt32 &&& Int32.toUInt32 31)).toInt32) &&& (127 : Int32)))]) i36_43 (Nat.le_of_ble_eq_true rfl) rfl ?_
  refine gm_ev.iload i36_45 rfl ?_
  refine gm_ev.bipush (v := 12) i36_47 (by decide) ?_
  refine gm_ev.icmp_gt_t (tgt := 71) i36_49 (by decide) c3 ?_
  refine gm_ev.iinc (v := u4 + (-7 : Int32)) (ls' := [some (.ref (C + 5)), some (.int u1), none, some (.int u3), some (.int (u4 + (-7 : Int32))), some (.int ((((u1).toUInt32 >>> ((u4).toUInt32 &&& Int32.toUInt32 31)).toInt32) &&& (127 : Int32)))]) i36_71 rfl (by rfl) rfl ?_
  refine gm_ev.goto (tgt := 24) i36_74 (by decide) ?_
  refine gm_ev.le (a := [some (.ref (C + 5)), some (.int u1), none, some (.int u3), some (.int (u4 + (-7 : Int32))), none]) (gm_leL.le (show gm_leL _ _ from ⟨rfl, ⟨rfl, ⟨rfl, ⟨rfl, trivial⟩⟩⟩⟩)) ?_
  exact k
theorem t_X2_fill_24_fff_at24 {N0 : Nat} {K : Nat → Nat} {d C : Nat} {s : cS} {G : gm_H} {sz sl : Nat} {R : gm_R} {u1 : Int32} {u3 : Int32} {u4 : Int32} {k4 : Nat} (hN : N0 ≤ C) (c1 : ¬ u4 < 0) (c2 : ¬ (u1 &&& (2097151 : Int32)) = 0) (c3 : ¬ (12 : Int32) < ((((u1).toUInt32 >>> ((u4).toUInt32 &&& Int32.toUInt32 31)).toInt32) &&& (127 : Int32))) (ek4 : ((((u1).toUInt32 >>> ((u4).toUInt32 &&& Int32.toUInt32 31)).toInt32) &&& (127 : Int32)) = nI k4) (lk4 : k4 < 13) (k : gm_ev N0 K ra_nm (ra_mt K) d (some .int) (gm_I cX2_fill) (gm_lkf (lkX2 false K)) 24 [some (.ref (C + 5)), some (.int u1), none, some (.int (u3 + ((((((s.2.1 16 k4)).toUInt32 >>> (((21 : Int32)).toUInt32 &&& Int32.toUInt32 31)).toInt32) - ((((u1).toUInt32 >>> ((u4).toUInt32 &&& Int32.toUInt32 31)).toInt32) &&& (127 : Int32))) <<< (u4 &&& 31)))), some (.int (u4 + (-7 : Int32))), none] [] (bM C (cH C s) G) sz sl R) : gm_ev N0 K ra_nm (ra_mt K) d (some .int) (gm_I cX2_fill) (gm_lkf (lkX2 false K)) 24 [some (.ref (C + 5)), some (.int u1), none, some (.int u3), some (.int u4), none] [] (bM C (cH C s) G) sz sl R := by
  refine gm_ev.iload i36_24 rfl ?_
  refine gm_ev.if_lt_f i36_26 c1 ?_
  refine gm_ev.iload_n i36_29 rfl ?_
  refine gm_ev.ldc i36_30 rfl ?_
  refine gm_ev.iand i36_32 ?_
  refine gm_ev.if_eq_f i36_33 c2 ?_
  refine gm_ev.iload_n i36_36 rfl ?_
  refine gm_ev.iload i36_37 rfl ?_
  refine gm_ev.iushr i36_39 ?_
  refine gm_ev.bipush (v := 127) i36_40 (by decide) ?_
  refine gm_ev.iand i36_42 ?_
  refine gm_ev.istore (ls' := [some (.ref (C + 5)), some (.int u1), none, some (.int u3), some (.int u4), some (.int ((((u1).toUInt32 >>> ((u4).toUInt32 &&& Int32.toUInt32 31)).toInt32) &&& (127 : Int32)))]) i36_43 (Nat.le_of_ble_eq_true rfl) rfl ?_
  refine gm_ev.iload i36_45 rfl ?_
  refine gm_ev.bipush (v := 12) i36_47 (by decide) ?_
  refine gm_ev.icmp_gt_f i36_49 c3 ?_
  refine gm_ev.iload_n i36_52 rfl ?_
  refine gm_ev.aload_n i36_53 rfl ?_
  refine gm_ev.getfield (v := .ref (C + 16)) i36_54 rfl (bM_fld (j := 5) (fs := cF5 C s) rfl rfl) ?_
  refine gm_ev.iload i36_57 rfl ?_
  refine gm_ev.iaload i36_59 (bM_ai (j := 16) (n := 13) (f := s.2.1 16) rfl ek4 lk4 (by decide)) ?_
  refine gm_ev.bipush (v := 21) i36_60 (by decide) ?_
  refine gm_ev.iushr i36_62 ?_
  refine gm_ev.iload i36_63 rfl ?_
  refine gm_ev.isub i36_65 ?_
  refine gm_ev.iload i36_66 rfl ?_
  refine gm_ev.ishl i36_68 ?_
  refine gm_ev.iadd i36_69 ?_
  refine gm_ev.istore_n (ls' := [some (.ref (C + 5)), some (.int u1), none, some (.int (u3 + ((((((s.2.1 16 k4)).toUInt32 >>> (((21 : Int32)).toUInt32 &&& Int32.toUInt32 31)).toInt32) - ((((u1).toUInt32 >>> ((u4).toUInt32 &&& Int32.toUInt32 31)).toInt32) &&& (127 : Int32))) <<< (u4 &&& 31)))), some (.int u4), some (.int ((((u1).toUInt32 >>> ((u4).toUInt32 &&& Int32.toUInt32 31)).toInt32) &&& (127 : Int32)))]) i36_70 (Nat.le_of_ble_eq_true rfl) rfl ?_
  refine gm_ev.iinc (v := u4 + (-7 : Int32)) (ls' := [some (.ref (C + 5)), some (.int u1), none, some (.int (u3 + ((((((s.2.1 16 k4)).toUInt32 >>> (((21 : Int32)).toUInt32 &&& Int32.toUInt32 31)).toInt32) - ((((u1).toUInt32 >>> ((u4).toUInt32 &&& Int32.toUInt32 31)).toInt32) &&& (127 : Int32))) <<< (u4 &&& 31)))), some (.int (u4 + (-7 : Int32))), some (.int ((((u1).toUInt32 >>> ((u4).toUInt32 &&& Int32.toUInt32 31)).toInt32) &&& (127 : Int32)))]) i36_71 rfl (by rfl) rfl ?_
  refine gm_ev.goto (tgt := 24) i36_74 (by decide) ?_
  refine gm_ev.le (a := [some (.ref (C + 5)), some (.int u1), none, some (.int (u3 + ((((((s.2.1 16 k4)).toUInt32 >>> (((21 : Int32)).toUInt32 &&& Int32.toUInt32 31)).toInt32) - ((((u1).toUInt32 >>> ((u4).toUInt32 &&& Int32.toUInt32 31)).toInt32) &&& (127 : Int32))) <<< (u4 &&& 31)))), some (.int (u4 + (-7 : Int32))), none]) (gm_leL.le (show gm_leL _ _ from ⟨rfl, ⟨rfl, ⟨rfl, ⟨rfl, trivial⟩⟩⟩⟩)) ?_
  exact k
theorem t_X2_fits_0_tttt_at99 {N0 : Nat} {K : Nat → Nat} {d C : Nat} {s : cS} {G : gm_H} {sz sl : Nat} {R : gm_R} {p0 : Int32} {p1 : Int32} {p2 : Int32} (hN : N0 ≤ C) (c1 : ¬ p0 = p1) (c2 : (6 : Int32) < (((p0).toUInt32 >>> (((21 : Int32)).toUInt32 &&& Int32.toUInt32 31)).toInt32)) (c3 : (12 : Int32) < (((p0).toUInt32 >>> (((21 : Int32)).toUInt32 &&& Int32.toUInt32 31)).toInt32)) (c4 : ¬ (((p0).toUInt32 >>> (((21 : Int32)).toUInt32 &&& Int32.toUInt32 31)).toInt32) = (((p1).toUInt32 >>> (((21 : Int32)).toUInt32 &&& Int32.toUInt32 31)).toInt32)) (k : gm_ev N0 K ra_nm (ra_mt K) d (some .boolean) (gm_I cX2_fits) (gm_lkf (lkX2 false K)) 99 [some (.ref (C + 5)), some (.int p0), some (.int p1), none, none, some (.int (0 : Int32)), some (.int (14 : Int32)), none, none] [] (bM C (cH C s) G) sz sl R) : gm_ev N0 K ra_nm (ra_mt K) d (some .boolean) (gm_I cX2_fits) (gm_lkf (lkX2 false K)) 0 [some (.ref (C + 5)), some (.int p0), some (.int p1), some (.int p2), none, none, none, none, none] [] (bM C (cH C s) G) sz sl R := by
  refine gm_ev.iload_n i37_0 rfl ?_
  refine gm_ev.iload_n i37_1 rfl ?_
  refine gm_ev.icmp_ne_t (tgt := 7) i37_2 (by decide) c1 ?_
  refine gm_ev.iload_n i37_7 rfl ?_
  refine gm_ev.bipush (v := 21) i37_8 (by decide) ?_
  refine gm_ev.iushr i37_10 ?_
  refine gm_ev.istore (ls' := [some (.ref (C + 5)), some (.int p0), some (.int p1), some (.int p2), some (.int (((p0).toUInt32 >>> (((21 : Int32)).toUInt32 &&& Int32.toUInt32 31)).toInt32)), none, none, none, none]) i37_11 (Nat.le_of_ble_eq_true rfl) rfl ?_
  refine gm_ev.iload i37_13 rfl ?_
  refine gm_ev.bipush (v := 6) i37_15 (by decide) ?_
  refine gm_ev.icmp_gt_t (tgt := 55) i37_17 (by decide) c2 ?_
  refine gm_ev.iload i37_55 rfl ?_
  refine gm_ev.bipush (v := 12) i37_57 (by decide) ?_
  refine gm_ev.icmp_gt_t (tgt := 79) i37_59 (by decide) c3 ?_
  refine gm_ev.iload i37_79 rfl ?_
  refine gm_ev.iload_n i37_81 rfl ?_
  refine gm_ev.bipush (v := 21) i37_82 (by decide) ?_
  refine gm_ev.iushr i37_84 ?_
  refine gm_ev.icmp_ne_t (tgt := 92) i37_85 (by decide) c4 ?_
  refine gm_ev.iconst (v := 0) i37_92 (by decide) ?_
  refine gm_ev.istore (ls' := [some (.ref (C + 5)), some (.int p0), some (.int p1), some (.int p2), some (.int (((p0).toUInt32 >>> (((21 : Int32)).toUInt32 &&& Int32.toUInt32 31)).toInt32)), some (.int (0 : Int32)), none, none, none]) i37_93 (Nat.le_of_ble_eq_true rfl) rfl ?_
  refine gm_ev.bipush (v := 14) i37_95 (by decide) ?_
  refine gm_ev.istore (ls' := [some (.ref (C + 5)), some (.int p0), some (.int p1), some (.int p2), some (.int (((p0).toUInt32 >>> (((21 : Int32)).toUInt32 &&& Int32.toUInt32 31)).toInt32)), some (.int (0 : Int32)), some (.int (14 : Int32)), none, none]) i37_97 (Nat.le_of_ble_eq_true rfl) rfl ?_
  refine gm_ev.le (a := [some (.ref (C + 5)), some (.int p0), some (.int p1), none, none, some (.int (0 : Int32)), some (.int (14 : Int32)), none, none]) (gm_leL.le (show gm_leL _ _ from ⟨rfl, ⟨rfl, ⟨rfl, ⟨rfl, ⟨rfl, trivial⟩⟩⟩⟩⟩)) ?_
  exact k
theorem t_X2_fits_0_tttf_at99 {N0 : Nat} {K : Nat → Nat} {d C : Nat} {s : cS} {G : gm_H} {sz sl : Nat} {R : gm_R} {p0 : Int32} {p1 : Int32} {p2 : Int32} (hN : N0 ≤ C) (c1 : ¬ p0 = p1) (c2 : (6 : Int32) < (((p0).toUInt32 >>> (((21 : Int32)).toUInt32 &&& Int32.toUInt32 31)).toInt32)) (c3 : (12 : Int32) < (((p0).toUInt32 >>> (((21 : Int32)).toUInt32 &&& Int32.toUInt32 31)).toInt32)) (c4 : (((p0).toUInt32 >>> (((21 : Int32)).toUInt32 &&& Int32.toUInt32 31)).toInt32) = (((p1).toUInt32 >>> (((21 : Int32)).toUInt32 &&& Int32.toUInt32 31)).toInt32)) (k : gm_ev N0 K ra_nm (ra_mt K) d (some .boolean) (gm_I cX2_fits) (gm_lkf (lkX2 false K)) 99 [some (.ref (C + 5)), some (.int p0), some (.int p1), none, none, some (.int (1 : Int32)), some (.int (14 : Int32)), none, none] [] (bM C (cH C s) G) sz sl R) : gm_ev N0 K ra_nm (ra_mt K) d (some .boolean) (gm_I cX2_fits) (gm_lkf (lkX2 false K)) 0 [some (.ref (C + 5)), some (.int p0), some (.int p1), some (.int p2), none, none, none, none, none] [] (bM C (cH C s) G) sz sl R := by
  refine gm_ev.iload_n i37_0 rfl ?_
  refine gm_ev.iload_n i37_1 rfl ?_
  refine gm_ev.icmp_ne_t (tgt := 7) i37_2 (by decide) c1 ?_
  refine gm_ev.iload_n i37_7 rfl ?_
  refine gm_ev.bipush (v := 21) i37_8 (by decide) ?_
  refine gm_ev.iushr i37_10 ?_
  refine gm_ev.istore (ls' := [some (.ref (C + 5)), some (.int p0), some (.int p1), some (.int p2), some (.int (((p0).toUInt32 >>> (((21 : Int32)).toUInt32 &&& Int32.toUInt32 31)).toInt32)), none, none, none, none]) i37_11 (Nat.le_of_ble_eq_true rfl) rfl ?_
  refine gm_ev.iload i37_13 rfl ?_
  refine gm_ev.bipush (v := 6) i37_15 (by decide) ?_
  refine gm_ev.icmp_gt_t (tgt := 55) i37_17 (by decide) c2 ?_
  refine gm_ev.iload i37_55 rfl ?_
  refine gm_ev.bipush (v := 12) i37_57 (by decide) ?_
  refine gm_ev.icmp_gt_t (tgt := 79) i37_59 (by decide) c3 ?_
  refine gm_ev.iload i37_79 rfl ?_
  refine gm_ev.iload_n i37_81 rfl ?_
  refine gm_ev.bipush (v := 21) i37_82 (by decide) ?_
  refine gm_ev.iushr i37_84 ?_
  refine gm_ev.icmp_ne_f i37_85 c4 ?_
  refine gm_ev.iconst (v := 1) i37_88 (by decide) ?_
  refine gm_ev.goto (tgt := 93) i37_89 (by decide) ?_
  refine gm_ev.istore (ls' := [some (.ref (C + 5)), some (.int p0), some (.int p1), some (.int p2), some (.int (((p0).toUInt32 >>> (((21 : Int32)).toUInt32 &&& Int32.toUInt32 31)).toInt32)), some (.int (1 : Int32)), none, none, none]) i37_93 (Nat.le_of_ble_eq_true rfl) rfl ?_
  refine gm_ev.bipush (v := 14) i37_95 (by decide) ?_
  refine gm_ev.istore (ls' := [some (.ref (C + 5)), some (.int p0), some (.int p1), some (.int p2), some (.int (((p0).toUInt32 >>> (((21 : Int32)).toUInt32 &&& Int32.toUInt32 31)).toInt32)), some (.int (1 : Int32)), some (.int (14 : Int32)), none, none]) i37_97 (Nat.le_of_ble_eq_true rfl) rfl ?_
  refine gm_ev.le (a := [some (.ref (C + 5)), some (.int p0), some (.int p1), none, none, some (.int (1 : Int32)), some (.int (14 : Int32)), none, none]) (gm_leL.le (show gm_leL _ _ from ⟨rfl, ⟨rfl, ⟨rfl, ⟨rfl, ⟨rfl, trivial⟩⟩⟩⟩⟩)) ?_
  exact k
theorem t_X2_fits_0_ttft {N0 : Nat} {K : Nat → Nat} {d C : Nat} {s : cS} {G : gm_H} {sz sl : Nat} {p0 : Int32} {p1 : Int32} {p2 : Int32} {k4 : Nat} (hN : N0 ≤ C) (c1 : ¬ p0 = p1) (c2 : (6 : Int32) < (((p0).toUInt32 >>> (((21 : Int32)).toUInt32 &&& Int32.toUInt32 31)).toInt32)) (c3 : ¬ (12 : Int32) < (((p0).toUInt32 >>> (((21 : Int32)).toUInt32 &&& Int32.toUInt32 31)).toInt32)) (ek4 : (((p0).toUInt32 >>> (((21 : Int32)).toUInt32 &&& Int32.toUInt32 31)).toInt32) = nI k4) (lk4 : k4 < 13) (c5 : ¬ (s.2.1 16 k4) = p1) : gm_ev N0 K ra_nm (ra_mt K) d (some .boolean) (gm_I cX2_fits) (gm_lkf (lkX2 false K)) 0 [some (.ref (C + 5)), some (.int p0), some (.int p1), some (.int p2), none, none, none, none, none] [] (bM C (cH C s) G) sz sl (.returned (some (.int (0 : Int32))), (bM C (cH C s) G), sz, sl) := by
  refine gm_ev.iload_n i37_0 rfl ?_
  refine gm_ev.iload_n i37_1 rfl ?_
  refine gm_ev.icmp_ne_t (tgt := 7) i37_2 (by decide) c1 ?_
  refine gm_ev.iload_n i37_7 rfl ?_
  refine gm_ev.bipush (v := 21) i37_8 (by decide) ?_
  refine gm_ev.iushr i37_10 ?_
  refine gm_ev.istore (ls' := [some (.ref (C + 5)), some (.int p0), some (.int p1), some (.int p2), some (.int (((p0).toUInt32 >>> (((21 : Int32)).toUInt32 &&& Int32.toUInt32 31)).toInt32)), none, none, none, none]) i37_11 (Nat.le_of_ble_eq_true rfl) rfl ?_
  refine gm_ev.iload i37_13 rfl ?_
  refine gm_ev.bipush (v := 6) i37_15 (by decide) ?_
  refine gm_ev.icmp_gt_t (tgt := 55) i37_17 (by decide) c2 ?_
  refine gm_ev.iload i37_55 rfl ?_
  refine gm_ev.bipush (v := 12) i37_57 (by decide) ?_
  refine gm_ev.icmp_gt_f i37_59 c3 ?_
  refine gm_ev.aload_n i37_62 rfl ?_
  refine gm_ev.getfield (v := .ref (C + 16)) i37_63 rfl (bM_fld (j := 5) (fs := cF5 C s) rfl rfl) ?_
  refine gm_ev.iload i37_66 rfl ?_
  refine gm_ev.iaload i37_68 (bM_ai (j := 16) (n := 13) (f := s.2.1 16) rfl ek4 lk4 (by decide)) ?_
  refine gm_ev.iload_n i37_69 rfl ?_
  refine gm_ev.icmp_ne_t (tgt := 77) i37_70 (by decide) c5 ?_
  refine gm_ev.iconst (v := 0) i37_77 (by decide) ?_
  exact gm_ev.zret i37_78 rfl (by decide)
theorem t_X2_fits_0_ttff {N0 : Nat} {K : Nat → Nat} {d C : Nat} {s : cS} {G : gm_H} {sz sl : Nat} {p0 : Int32} {p1 : Int32} {p2 : Int32} {k4 : Nat} (hN : N0 ≤ C) (c1 : ¬ p0 = p1) (c2 : (6 : Int32) < (((p0).toUInt32 >>> (((21 : Int32)).toUInt32 &&& Int32.toUInt32 31)).toInt32)) (c3 : ¬ (12 : Int32) < (((p0).toUInt32 >>> (((21 : Int32)).toUInt32 &&& Int32.toUInt32 31)).toInt32)) (ek4 : (((p0).toUInt32 >>> (((21 : Int32)).toUInt32 &&& Int32.toUInt32 31)).toInt32) = nI k4) (lk4 : k4 < 13) (c5 : (s.2.1 16 k4) = p1) : gm_ev N0 K ra_nm (ra_mt K) d (some .boolean) (gm_I cX2_fits) (gm_lkf (lkX2 false K)) 0 [some (.ref (C + 5)), some (.int p0), some (.int p1), some (.int p2), none, none, none, none, none] [] (bM C (cH C s) G) sz sl (.returned (some (.int (1 : Int32))), (bM C (cH C s) G), sz, sl) := by
  refine gm_ev.iload_n i37_0 rfl ?_
  refine gm_ev.iload_n i37_1 rfl ?_
  refine gm_ev.icmp_ne_t (tgt := 7) i37_2 (by decide) c1 ?_
  refine gm_ev.iload_n i37_7 rfl ?_
  refine gm_ev.bipush (v := 21) i37_8 (by decide) ?_
  refine gm_ev.iushr i37_10 ?_
  refine gm_ev.istore (ls' := [some (.ref (C + 5)), some (.int p0), some (.int p1), some (.int p2), some (.int (((p0).toUInt32 >>> (((21 : Int32)).toUInt32 &&& Int32.toUInt32 31)).toInt32)), none, none, none, none]) i37_11 (Nat.le_of_ble_eq_true rfl) rfl ?_
  refine gm_ev.iload i37_13 rfl ?_
  refine gm_ev.bipush (v := 6) i37_15 (by decide) ?_
  refine gm_ev.icmp_gt_t (tgt := 55) i37_17 (by decide) c2 ?_
  refine gm_ev.iload i37_55 rfl ?_
  refine gm_ev.bipush (v := 12) i37_57 (by decide) ?_
  refine gm_ev.icmp_gt_f i37_59 c3 ?_
  refine gm_ev.aload_n i37_62 rfl ?_
  refine gm_ev.getfield (v := .ref (C + 16)) i37_63 rfl (bM_fld (j := 5) (fs := cF5 C s) rfl rfl) ?_
  refine gm_ev.iload i37_66 rfl ?_
  refine gm_ev.iaload i37_68 (bM_ai (j := 16) (n := 13) (f := s.2.1 16) rfl ek4 lk4 (by decide)) ?_
  refine gm_ev.iload_n i37_69 rfl ?_
  refine gm_ev.icmp_ne_f i37_70 c5 ?_
  refine gm_ev.iconst (v := 1) i37_73 (by decide) ?_
  refine gm_ev.goto (tgt := 78) i37_74 (by decide) ?_
  exact gm_ev.zret i37_78 rfl (by decide)
theorem t_X2_fits_0_tft {N0 : Nat} {K : Nat → Nat} {d C : Nat} {s : cS} {G : gm_H} {sz sl : Nat} {p0 : Int32} {p1 : Int32} {p2 : Int32} {k3 : Nat} (hN : N0 ≤ C) (c1 : ¬ p0 = p1) (c2 : ¬ (6 : Int32) < (((p0).toUInt32 >>> (((21 : Int32)).toUInt32 &&& Int32.toUInt32 31)).toInt32)) (ek3 : ((((p0).toUInt32 >>> (((21 : Int32)).toUInt32 &&& Int32.toUInt32 31)).toInt32) + (6 : Int32)) = nI k3) (lk3 : k3 < 13) (c4 : (p2 &&& ((1 : Int32) <<< (((((p0).toUInt32 >>> (((21 : Int32)).toUInt32 &&& Int32.toUInt32 31)).toInt32) - (1 : Int32)) &&& 31))) = 0) : gm_ev N0 K ra_nm (ra_mt K) d (some .boolean) (gm_I cX2_fits) (gm_lkf (lkX2 false K)) 0 [some (.ref (C + 5)), some (.int p0), some (.int p1), some (.int p2), none, none, none, none, none] [] (bM C (cH C s) G) sz sl (.returned (some (.int (1 : Int32))), (bM C (cH C (cA s 16 (upd (s.2.1 16) k3 p1))) G), sz, sl) := by
  refine gm_ev.iload_n i37_0 rfl ?_
  refine gm_ev.iload_n i37_1 rfl ?_
  refine gm_ev.icmp_ne_t (tgt := 7) i37_2 (by decide) c1 ?_
  refine gm_ev.iload_n i37_7 rfl ?_
  refine gm_ev.bipush (v := 21) i37_8 (by decide) ?_
  refine gm_ev.iushr i37_10 ?_
  refine gm_ev.istore (ls' := [some (.ref (C + 5)), some (.int p0), some (.int p1), some (.int p2), some (.int (((p0).toUInt32 >>> (((21 : Int32)).toUInt32 &&& Int32.toUInt32 31)).toInt32)), none, none, none, none]) i37_11 (Nat.le_of_ble_eq_true rfl) rfl ?_
  refine gm_ev.iload i37_13 rfl ?_
  refine gm_ev.bipush (v := 6) i37_15 (by decide) ?_
  refine gm_ev.icmp_gt_f i37_17 c2 ?_
  refine gm_ev.aload_n i37_20 rfl ?_
  refine gm_ev.getfield (v := .ref (C + 16)) i37_21 rfl (bM_fld (j := 5) (fs := cF5 C s) rfl rfl) ?_
  refine gm_ev.iload i37_24 rfl ?_
  refine gm_ev.bipush (v := 6) i37_26 (by decide) ?_
  refine gm_ev.iadd i37_28 ?_
  refine gm_ev.iload_n i37_29 rfl ?_
  refine gm_ev.iastore (M' := (bM C (cH C (cA s 16 (upd (s.2.1 16) k3 p1))) G)) i37_30 (bM_asti (j := 16) (n := 13) (f := s.2.1 16) rfl ek3 lk3 (by decide) hN rfl) ?_
  refine gm_ev.iload_n i37_31 rfl ?_
  refine gm_ev.iconst (v := 1) i37_32 (by decide) ?_
  refine gm_ev.iload i37_33 rfl ?_
  refine gm_ev.iconst (v := 1) i37_35 (by decide) ?_
  refine gm_ev.isub i37_36 ?_
  refine gm_ev.ishl i37_37 ?_
  refine gm_ev.iand i37_38 ?_
  refine gm_ev.if_eq_t (tgt := 49) i37_39 (by decide) c4 ?_
  refine gm_ev.iconst (v := 1) i37_49 (by decide) ?_
  refine gm_ev.goto (tgt := 54) i37_50 (by decide) ?_
  exact gm_ev.zret i37_54 rfl (by decide)
theorem t_X2_fits_0_tfft {N0 : Nat} {K : Nat → Nat} {d C : Nat} {s : cS} {G : gm_H} {sz sl : Nat} {p0 : Int32} {p1 : Int32} {p2 : Int32} {k3 : Nat} (hN : N0 ≤ C) (c1 : ¬ p0 = p1) (c2 : ¬ (6 : Int32) < (((p0).toUInt32 >>> (((21 : Int32)).toUInt32 &&& Int32.toUInt32 31)).toInt32)) (ek3 : ((((p0).toUInt32 >>> (((21 : Int32)).toUInt32 &&& Int32.toUInt32 31)).toInt32) + (6 : Int32)) = nI k3) (lk3 : k3 < 13) (c4 : ¬ (p2 &&& ((1 : Int32) <<< (((((p0).toUInt32 >>> (((21 : Int32)).toUInt32 &&& Int32.toUInt32 31)).toInt32) - (1 : Int32)) &&& 31))) = 0) (c5 : ¬ (p1 &&& (2097151 : Int32)) = 0) : gm_ev N0 K ra_nm (ra_mt K) d (some .boolean) (gm_I cX2_fits) (gm_lkf (lkX2 false K)) 0 [some (.ref (C + 5)), some (.int p0), some (.int p1), some (.int p2), none, none, none, none, none] [] (bM C (cH C s) G) sz sl (.returned (some (.int (0 : Int32))), (bM C (cH C (cA s 16 (upd (s.2.1 16) k3 p1))) G), sz, sl) := by
  refine gm_ev.iload_n i37_0 rfl ?_
  refine gm_ev.iload_n i37_1 rfl ?_
  refine gm_ev.icmp_ne_t (tgt := 7) i37_2 (by decide) c1 ?_
  refine gm_ev.iload_n i37_7 rfl ?_
  refine gm_ev.bipush (v := 21) i37_8 (by decide) ?_
  refine gm_ev.iushr i37_10 ?_
  refine gm_ev.istore (ls' := [some (.ref (C + 5)), some (.int p0), some (.int p1), some (.int p2), some (.int (((p0).toUInt32 >>> (((21 : Int32)).toUInt32 &&& Int32.toUInt32 31)).toInt32)), none, none, none, none]) i37_11 (Nat.le_of_ble_eq_true rfl) rfl ?_
  refine gm_ev.iload i37_13 rfl ?_
  refine gm_ev.bipush (v := 6) i37_15 (by decide) ?_
  refine gm_ev.icmp_gt_f i37_17 c2 ?_
  refine gm_ev.aload_n i37_20 rfl ?_
  refine gm_ev.getfield (v := .ref (C + 16)) i37_21 rfl (bM_fld (j := 5) (fs := cF5 C s) rfl rfl) ?_
  refine gm_ev.iload i37_24 rfl ?_
  refine gm_ev.bipush (v := 6) i37_26 (by decide) ?_
  refine gm_ev.iadd i37_28 ?_
  refine gm_ev.iload_n i37_29 rfl ?_
  refine gm_ev.iastore (M' := (bM C (cH C (cA s 16 (upd (s.2.1 16) k3 p1))) G)) i37_30 (bM_asti (j := 16) (n := 13) (f := s.2.1 16) rfl ek3 lk3 (by decide) hN rfl) ?_
  refine gm_ev.iload_n i37_31 rfl ?_
  refine gm_ev.iconst (v := 1) i37_32 (by decide) ?_
  refine gm_ev.iload i37_33 rfl ?_
  refine gm_ev.iconst (v := 1) i37_35 (by decide) ?_
  refine gm_ev.isub i37_36 ?_
  refine gm_ev.ishl i37_37 ?_
  refine gm_ev.iand i37_38 ?_
  refine gm_ev.if_eq_f i37_39 c4 ?_
  refine gm_ev.iload_n i37_42 rfl ?_
  refine gm_ev.ldc i37_43 rfl ?_
  refine gm_ev.iand i37_45 ?_
  refine gm_ev.if_ne_t (tgt := 53) i37_46 (by decide) c5 ?_
  refine gm_ev.iconst (v := 0) i37_53 (by decide) ?_
  exact gm_ev.zret i37_54 rfl (by decide)
theorem t_X2_fits_0_tfff {N0 : Nat} {K : Nat → Nat} {d C : Nat} {s : cS} {G : gm_H} {sz sl : Nat} {p0 : Int32} {p1 : Int32} {p2 : Int32} {k3 : Nat} (hN : N0 ≤ C) (c1 : ¬ p0 = p1) (c2 : ¬ (6 : Int32) < (((p0).toUInt32 >>> (((21 : Int32)).toUInt32 &&& Int32.toUInt32 31)).toInt32)) (ek3 : ((((p0).toUInt32 >>> (((21 : Int32)).toUInt32 &&& Int32.toUInt32 31)).toInt32) + (6 : Int32)) = nI k3) (lk3 : k3 < 13) (c4 : ¬ (p2 &&& ((1 : Int32) <<< (((((p0).toUInt32 >>> (((21 : Int32)).toUInt32 &&& Int32.toUInt32 31)).toInt32) - (1 : Int32)) &&& 31))) = 0) (c5 : (p1 &&& (2097151 : Int32)) = 0) : gm_ev N0 K ra_nm (ra_mt K) d (some .boolean) (gm_I cX2_fits) (gm_lkf (lkX2 false K)) 0 [some (.ref (C + 5)), some (.int p0), some (.int p1), some (.int p2), none, none, none, none, none] [] (bM C (cH C s) G) sz sl (.returned (some (.int (1 : Int32))), (bM C (cH C (cA s 16 (upd (s.2.1 16) k3 p1))) G), sz, sl) := by
  refine gm_ev.iload_n i37_0 rfl ?_
  refine gm_ev.iload_n i37_1 rfl ?_
  refine gm_ev.icmp_ne_t (tgt := 7) i37_2 (by decide) c1 ?_
  refine gm_ev.iload_n i37_7 rfl ?_
  refine gm_ev.bipush (v := 21) i37_8 (by decide) ?_
  refine gm_ev.iushr i37_10 ?_
  refine gm_ev.istore (ls' := [some (.ref (C + 5)), some (.int p0), some (.int p1), some (.int p2), some (.int (((p0).toUInt32 >>> (((21 : Int32)).toUInt32 &&& Int32.toUInt32 31)).toInt32)), none, none, none, none]) i37_11 (Nat.le_of_ble_eq_true rfl) rfl ?_
  refine gm_ev.iload i37_13 rfl ?_
  refine gm_ev.bipush (v := 6) i37_15 (by decide) ?_
  refine gm_ev.icmp_gt_f i37_17 c2 ?_
  refine gm_ev.aload_n i37_20 rfl ?_
  refine gm_ev.getfield (v := .ref (C + 16)) i37_21 rfl (bM_fld (j := 5) (fs := cF5 C s) rfl rfl) ?_
  refine gm_ev.iload i37_24 rfl ?_
  refine gm_ev.bipush (v := 6) i37_26 (by decide) ?_
  refine gm_ev.iadd i37_28 ?_
  refine gm_ev.iload_n i37_29 rfl ?_
  refine gm_ev.iastore (M' := (bM C (cH C (cA s 16 (upd (s.2.1 16) k3 p1))) G)) i37_30 (bM_asti (j := 16) (n := 13) (f := s.2.1 16) rfl ek3 lk3 (by decide) hN rfl) ?_
  refine gm_ev.iload_n i37_31 rfl ?_
  refine gm_ev.iconst (v := 1) i37_32 (by decide) ?_
  refine gm_ev.iload i37_33 rfl ?_
  refine gm_ev.iconst (v := 1) i37_35 (by decide) ?_
  refine gm_ev.isub i37_36 ?_
  refine gm_ev.ishl i37_37 ?_
  refine gm_ev.iand i37_38 ?_
  refine gm_ev.if_eq_f i37_39 c4 ?_
  refine gm_ev.iload_n i37_42 rfl ?_
  refine gm_ev.ldc i37_43 rfl ?_
  refine gm_ev.iand i37_45 ?_
  refine gm_ev.if_ne_f i37_46 c5 ?_
  refine gm_ev.iconst (v := 1) i37_49 (by decide) ?_
  refine gm_ev.goto (tgt := 54) i37_50 (by decide) ?_
  exact gm_ev.zret i37_54 rfl (by decide)
theorem t_X2_fits_0_f {N0 : Nat} {K : Nat → Nat} {d C : Nat} {s : cS} {G : gm_H} {sz sl : Nat} {p0 : Int32} {p1 : Int32} {p2 : Int32} (hN : N0 ≤ C) (c1 : p0 = p1) : gm_ev N0 K ra_nm (ra_mt K) d (some .boolean) (gm_I cX2_fits) (gm_lkf (lkX2 false K)) 0 [some (.ref (C + 5)), some (.int p0), some (.int p1), some (.int p2), none, none, none, none, none] [] (bM C (cH C s) G) sz sl (.returned (some (.int (1 : Int32))), (bM C (cH C s) G), sz, sl) := by
  refine gm_ev.iload_n i37_0 rfl ?_
  refine gm_ev.iload_n i37_1 rfl ?_
  refine gm_ev.icmp_ne_f i37_2 c1 ?_
  refine gm_ev.iconst (v := 1) i37_5 (by decide) ?_
  exact gm_ev.zret i37_6 rfl (by decide)
theorem t_X2_fits_99_t {N0 : Nat} {K : Nat → Nat} {d C : Nat} {s : cS} {G : gm_H} {sz sl : Nat} {u1 : Int32} {u2 : Int32} {u5 : Int32} {u6 : Int32} (hN : N0 ≤ C) (c1 : u6 < 0) (z2 : u5 = 0 ∨ u5 = 1) : gm_ev N0 K ra_nm (ra_mt K) d (some .boolean) (gm_I cX2_fits) (gm_lkf (lkX2 false K)) 99 [some (.ref (C + 5)), some (.int u1), some (.int u2), none, none, some (.int u5), some (.int u6), none, none] [] (bM C (cH C s) G) sz sl (.returned (some (.int u5)), (bM C (cH C s) G), sz, sl) := by
  refine gm_ev.iload i37_99 rfl ?_
  refine gm_ev.if_lt_t (tgt := 214) i37_101 (by decide) c1 ?_
  refine gm_ev.iload i37_214 rfl ?_
  exact gm_ev.zret i37_216 rfl z2
theorem t_X2_fits_99_ft {N0 : Nat} {K : Nat → Nat} {d C : Nat} {s : cS} {G : gm_H} {sz sl : Nat} {u1 : Int32} {u2 : Int32} {u5 : Int32} {u6 : Int32} (hN : N0 ≤ C) (c1 : ¬ u6 < 0) (c2 : u5 = 0) (z3 : u5 = 0 ∨ u5 = 1) : gm_ev N0 K ra_nm (ra_mt K) d (some .boolean) (gm_I cX2_fits) (gm_lkf (lkX2 false K)) 99 [some (.ref (C + 5)), some (.int u1), some (.int u2), none, none, some (.int u5), some (.int u6), none, none] [] (bM C (cH C s) G) sz sl (.returned (some (.int u5)), (bM C (cH C s) G), sz, sl) := by
  refine gm_ev.iload i37_99 rfl ?_
  refine gm_ev.if_lt_f i37_101 c1 ?_
  refine gm_ev.iload i37_104 rfl ?_
  refine gm_ev.if_eq_t (tgt := 214) i37_106 (by decide) c2 ?_
  refine gm_ev.iload i37_214 rfl ?_
  exact gm_ev.zret i37_216 rfl z3
theorem t_X2_fits_99_fftt_at99 {N0 : Nat} {K : Nat → Nat} {d C : Nat} {s : cS} {G : gm_H} {sz sl : Nat} {R : gm_R} {u1 : Int32} {u2 : Int32} {u5 : Int32} {u6 : Int32} (hN : N0 ≤ C) (c1 : ¬ u6 < 0) (c2 : ¬ u5 = 0) (c3 : ((((u1).toUInt32 >>> ((u6).toUInt32 &&& Int32.toUInt32 31)).toInt32) &&& (127 : Int32)) = 0) (c4 : ¬ ((((u1).toUInt32 >>> ((u6).toUInt32 &&& Int32.toUInt32 31)).toInt32) &&& (127 : Int32)) = ((((u2).toUInt32 >>> ((u6).toUInt32 &&& Int32.toUInt32 31)).toInt32) &&& (127 : Int32))) (k : gm_ev N0 K ra_nm (ra_mt K) d (some .boolean) (gm_I cX2_fits) (gm_lkf (lkX2 false K)) 99 [some (.ref (C + 5)), some (.int u1), some (.int u2), none, none, some (.int (0 : Int32)), some (.int (u6 + (-7 : Int32))), none, none] [] (bM C (cH C s) G) sz sl R) : gm_ev N0 K ra_nm (ra_mt K) d (some .boolean) (gm_I cX2_fits) (gm_lkf (lkX2 false K)) 99 [some (.ref (C + 5)), some (.int u1), some (.int u2), none, none, some (.int u5), some (.int u6), none, none] [] (bM C (cH C s) G) sz sl R := by
  refine gm_ev.iload i37_99 rfl ?_
  refine gm_ev.if_lt_f i37_101 c1 ?_
  refine gm_ev.iload i37_104 rfl ?_
  refine gm_ev.if_eq_f i37_106 c2 ?_
  refine gm_ev.iload_n i37_109 rfl ?_
  refine gm_ev.iload i37_110 rfl ?_
  refine gm_ev.iushr i37_112 ?_
  refine gm_ev.bipush (v := 127) i37_113 (by decide) ?_
  refine gm_ev.iand i37_115 ?_
  refine gm_ev.istore (ls' := [some (.ref (C + 5)), some (.int u1), some (.int u2), none, none, some (.int u5), some (.int u6), some (.int ((((u1).toUInt32 >>> ((u6).toUInt32 &&& Int32.toUInt32 31)).toInt32) &&& (127 : Int32))), none]) i37_116 (Nat.le_of_ble_eq_true rfl) rfl ?_
  refine gm_ev.iload_n i37_118 rfl ?_
  refine gm_ev.iload i37_119 rfl ?_
  refine gm_ev.iushr i37_121 ?_
  refine gm_ev.bipush (v := 127) i37_122 (by decide) ?_
  refine gm_ev.iand i37_124 ?_
  refine gm_ev.istore (ls' := [some (.ref (C + 5)), some (.int u1), some (.int u2), none, none, some (.int u5), some (.int u6), some (.int ((((u1).toUInt32 >>> ((u6).toUInt32 &&& Int32.toUInt32 31)).toInt32) &&& (127 : Int32))), some (.int ((((u2).toUInt32 >>> ((u6).toUInt32 &&& Int32.toUInt32 31)).toInt32) &&& (127 : Int32)))]) i37_125 (Nat.le_of_ble_eq_true rfl) rfl ?_
  refine gm_ev.iload i37_127 rfl ?_
  refine gm_ev.if_eq_t (tgt := 144) i37_129 (by decide) c3 ?_
  refine gm_ev.iload i37_144 rfl ?_
  refine gm_ev.iload i37_146 rfl ?_
  refine gm_ev.icmp_ne_t (tgt := 155) i37_148 (by decide) c4 ?_
  refine gm_ev.iconst (v := 0) i37_155 (by decide) ?_
  refine gm_ev.istore (ls' := [some (.ref (C + 5)), some (.int u1), some (.int u2), none, none, some (.int (0 : Int32)), some (.int u6), some (.int ((((u1).toUInt32 >>> ((u6).toUInt32 &&& Int32.toUInt32 31)).toInt32) &&& (127 : Int32))), some (.int ((((u2).toUInt32 >>> ((u6).toUInt32 &&& Int32.toUInt32 31)).toInt32) &&& (127 : Int32)))]) i37_156 (Nat.le_of_ble_eq_true rfl) rfl ?_
  refine gm_ev.goto (tgt := 208) i37_158 (by decide) ?_
  refine gm_ev.iinc (v := u6 + (-7 : Int32)) (ls' := [some (.ref (C + 5)), some (.int u1), some (.int u2), none, none, some (.int (0 : Int32)), some (.int (u6 + (-7 : Int32))), some (.int ((((u1).toUInt32 >>> ((u6).toUInt32 &&& Int32.toUInt32 31)).toInt32) &&& (127 : Int32))), some (.int ((((u2).toUInt32 >>> ((u6).toUInt32 &&& Int32.toUInt32 31)).toInt32) &&& (127 : Int32)))]) i37_208 rfl (by rfl) rfl ?_
  refine gm_ev.goto (tgt := 99) i37_211 (by decide) ?_
  refine gm_ev.le (a := [some (.ref (C + 5)), some (.int u1), some (.int u2), none, none, some (.int (0 : Int32)), some (.int (u6 + (-7 : Int32))), none, none]) (gm_leL.le (show gm_leL _ _ from ⟨rfl, ⟨rfl, ⟨rfl, ⟨rfl, ⟨rfl, trivial⟩⟩⟩⟩⟩)) ?_
  exact k
theorem t_X2_fits_99_fftf_at99 {N0 : Nat} {K : Nat → Nat} {d C : Nat} {s : cS} {G : gm_H} {sz sl : Nat} {R : gm_R} {u1 : Int32} {u2 : Int32} {u5 : Int32} {u6 : Int32} (hN : N0 ≤ C) (c1 : ¬ u6 < 0) (c2 : ¬ u5 = 0) (c3 : ((((u1).toUInt32 >>> ((u6).toUInt32 &&& Int32.toUInt32 31)).toInt32) &&& (127 : Int32)) = 0) (c4 : ((((u1).toUInt32 >>> ((u6).toUInt32 &&& Int32.toUInt32 31)).toInt32) &&& (127 : Int32)) = ((((u2).toUInt32 >>> ((u6).toUInt32 &&& Int32.toUInt32 31)).toInt32) &&& (127 : Int32))) (k : gm_ev N0 K ra_nm (ra_mt K) d (some .boolean) (gm_I cX2_fits) (gm_lkf (lkX2 false K)) 99 [some (.ref (C + 5)), some (.int u1), some (.int u2), none, none, some (.int (1 : Int32)), some (.int (u6 + (-7 : Int32))), none, none] [] (bM C (cH C s) G) sz sl R) : gm_ev N0 K ra_nm (ra_mt K) d (some .boolean) (gm_I cX2_fits) (gm_lkf (lkX2 false K)) 99 [some (.ref (C + 5)), some (.int u1), some (.int u2), none, none, some (.int u5), some (.int u6), none, none] [] (bM C (cH C s) G) sz sl R := by
  refine gm_ev.iload i37_99 rfl ?_
  refine gm_ev.if_lt_f i37_101 c1 ?_
  refine gm_ev.iload i37_104 rfl ?_
  refine gm_ev.if_eq_f i37_106 c2 ?_
  refine gm_ev.iload_n i37_109 rfl ?_
  refine gm_ev.iload i37_110 rfl ?_
  refine gm_ev.iushr i37_112 ?_
  refine gm_ev.bipush (v := 127) i37_113 (by decide) ?_
  refine gm_ev.iand i37_115 ?_
  refine gm_ev.istore (ls' := [some (.ref (C + 5)), some (.int u1), some (.int u2), none, none, some (.int u5), some (.int u6), some (.int ((((u1).toUInt32 >>> ((u6).toUInt32 &&& Int32.toUInt32 31)).toInt32) &&& (127 : Int32))), none]) i37_116 (Nat.le_of_ble_eq_true rfl) rfl ?_
  refine gm_ev.iload_n i37_118 rfl ?_
  refine gm_ev.iload i37_119 rfl ?_
  refine gm_ev.iushr i37_121 ?_
  refine gm_ev.bipush (v := 127) i37_122 (by decide) ?_
  refine gm_ev.iand i37_124 ?_
  refine gm_ev.istore (ls' := [some (.ref (C + 5)), some (.int u1), some (.int u2), none, none, some (.int u5), some (.int u6), some (.int ((((u1).toUInt32 >>> ((u6).toUInt32 &&& Int32.toUInt32 31)).toInt32) &&& (127 : Int32))), some (.int ((((u2).toUInt32 >>> ((u6).toUInt32 &&& Int32.toUInt32 31)).toInt32) &&& (127 : Int32)))]) i37_125 (Nat.le_of_ble_eq_true rfl) rfl ?_
  refine gm_ev.iload i37_127 rfl ?_
  refine gm_ev.if_eq_t (tgt := 144) i37_129 (by decide) c3 ?_
  refine gm_ev.iload i37_144 rfl ?_
  refine gm_ev.iload i37_146 rfl ?_
  refine gm_ev.icmp_ne_f i37_148 c4 ?_
  refine gm_ev.iconst (v := 1) i37_151 (by decide) ?_
  refine gm_ev.goto (tgt := 156) i37_152 (by decide) ?_
  refine gm_ev.istore (ls' := [some (.ref (C + 5)), some (.int u1), some (.int u2), none, none, some (.int (1 : Int32)), some (.int u6), some (.int ((((u1).toUInt32 >>> ((u6).toUInt32 &&& Int32.toUInt32 31)).toInt32) &&& (127 : Int32))), some (.int ((((u2).toUInt32 >>> ((u6).toUInt32 &&& Int32.toUInt32 31)).toInt32) &&& (127 : Int32)))]) i37_156 (Nat.le_of_ble_eq_true rfl) rfl ?_
  refine gm_ev.goto (tgt := 208) i37_158 (by decide) ?_
  refine gm_ev.iinc (v := u6 + (-7 : Int32)) (ls' := [some (.ref (C + 5)), some (.int u1), some (.int u2), none, none, some (.int (1 : Int32)), some (.int (u6 + (-7 : Int32))), some (.int ((((u1).toUInt32 >>> ((u6).toUInt32 &&& Int32.toUInt32 31)).toInt32) &&& (127 : Int32))), some (.int ((((u2).toUInt32 >>> ((u6).toUInt32 &&& Int32.toUInt32 31)).toInt32) &&& (127 : Int32)))]) i37_208 rfl (by rfl) rfl ?_
  refine gm_ev.goto (tgt := 99) i37_211 (by decide) ?_
  refine gm_ev.le (a := [some (.ref (C + 5)), some (.int u1), some (.int u2), none, none, some (.int (1 : Int32)), some (.int (u6 + (-7 : Int32))), none, none]) (gm_leL.le (show gm_leL _ _ from ⟨rfl, ⟨rfl, ⟨rfl, ⟨rfl, ⟨rfl, trivial⟩⟩⟩⟩⟩)) ?_
  exact k
theorem t_X2_fits_99_ffftt_at99 {N0 : Nat} {K : Nat → Nat} {d C : Nat} {s : cS} {G : gm_H} {sz sl : Nat} {R : gm_R} {u1 : Int32} {u2 : Int32} {u5 : Int32} {u6 : Int32} (hN : N0 ≤ C) (c1 : ¬ u6 < 0) (c2 : ¬ u5 = 0) (c3 : ¬ ((((u1).toUInt32 >>> ((u6).toUInt32 &&& Int32.toUInt32 31)).toInt32) &&& (127 : Int32)) = 0) (c4 : ((((u2).toUInt32 >>> ((u6).toUInt32 &&& Int32.toUInt32 31)).toInt32) &&& (127 : Int32)) = 0) (c5 : ¬ ((((u1).toUInt32 >>> ((u6).toUInt32 &&& Int32.toUInt32 31)).toInt32) &&& (127 : Int32)) = ((((u2).toUInt32 >>> ((u6).toUInt32 &&& Int32.toUInt32 31)).toInt32) &&& (127 : Int32))) (k : gm_ev N0 K ra_nm (ra_mt K) d (some .boolean) (gm_I cX2_fits) (gm_lkf (lkX2 false K)) 99 [some (.ref (C + 5)), some (.int u1), some (.int u2), none, none, some (.int (0 : Int32)), some (.int (u6 + (-7 : Int32))), none, none] [] (bM C (cH C s) G) sz sl R) : gm_ev N0 K ra_nm (ra_mt K) d (some .boolean) (gm_I cX2_fits) (gm_lkf (lkX2 false K)) 99 [some (.ref (C + 5)), some (.int u1), some (.int u2), none, none, some (.int u5), some (.int u6), none, none] [] (bM C (cH C s) G) sz sl R := by
  refine gm_ev.iload i37_99 rfl ?_
  refine gm_ev.if_lt_f i37_101 c1 ?_
  refine gm_ev.iload i37_104 rfl ?_
  refine gm_ev.if_eq_f i37_106 c2 ?_
  refine gm_ev.iload_n i37_109 rfl ?_
  refine gm_ev.iload i37_110 rfl ?_
  refine gm_ev.iushr i37_112 ?_
  refine gm_ev.bipush (v := 127) i37_113 (by decide) ?_
  refine gm_ev.iand i37_115 ?_
  refine gm_ev.istore (ls' := [some (.ref (C + 5)), some (.int u1), some (.int u2), none, none, some (.int u5), some (.int u6), some (.int ((((u1).toUInt32 >>> ((u6).toUInt32 &&& Int32.toUInt32 31)).toInt32) &&& (127 : Int32))), none]) i37_116 (Nat.le_of_ble_eq_true rfl) rfl ?_
  refine gm_ev.iload_n i37_118 rfl ?_
  refine gm_ev.iload i37_119 rfl ?_
  refine gm_ev.iushr i37_121 ?_
  refine gm_ev.bipush (v := 127) i37_122 (by decide) ?_
  refine gm_ev.iand i37_124 ?_
  refine gm_ev.istore (ls' := [some (.ref (C + 5)), some (.int u1), some (.int u2), none, none, some (.int u5), some (.int u6), some (.int ((((u1).toUInt32 >>> ((u6).toUInt32 &&& Int32.toUInt32 31)).toInt32) &&& (127 : Int32))), some (.int ((((u2).toUInt32 >>> ((u6).toUInt32 &&& Int32.toUInt32 31)).toInt32) &&& (127 : Int32)))]) i37_125 (Nat.le_of_ble_eq_true rfl) rfl ?_
  refine gm_ev.iload i37_127 rfl ?_
  refine gm_ev.if_eq_f i37_129 c3 ?_
  refine gm_ev.iload i37_132 rfl ?_
  refine gm_ev.if_eq_t (tgt := 144) i37_134 (by decide) c4 ?_
  refine gm_ev.iload i37_144 rfl ?_
  refine gm_ev.iload i37_146 rfl ?_
  refine gm_ev.icmp_ne_t (tgt := 155) i37_148 (by decide) c5 ?_
  refine gm_ev.iconst (v := 0) i37_155 (by decide) ?_
  refine gm_ev.istore (ls' := [some (.ref (C + 5)), some (.int u1), some (.int u2), none, none, some (.int (0 : Int32)), some (.int u6), some (.int ((((u1).toUInt32 >>> ((u6).toUInt32 &&& Int32.toUInt32 31)).toInt32) &&& (127 : Int32))), some (.int ((((u2).toUInt32 >>> ((u6).toUInt32 &&& Int32.toUInt32 31)).toInt32) &&& (127 : Int32)))]) i37_156 (Nat.le_of_ble_eq_true rfl) rfl ?_
  refine gm_ev.goto (tgt := 208) i37_158 (by decide) ?_
  refine gm_ev.iinc (v := u6 + (-7 : Int32)) (ls' := [some (.ref (C + 5)), some (.int u1), some (.int u2), none, none, some (.int (0 : Int32)), some (.int (u6 + (-7 : Int32))), some (.int ((((u1).toUInt32 >>> ((u6).toUInt32 &&& Int32.toUInt32 31)).toInt32) &&& (127 : Int32))), some (.int ((((u2).toUInt32 >>> ((u6).toUInt32 &&& Int32.toUInt32 31)).toInt32) &&& (127 : Int32)))]) i37_208 rfl (by rfl) rfl ?_
  refine gm_ev.goto (tgt := 99) i37_211 (by decide) ?_
  refine gm_ev.le (a := [some (.ref (C + 5)), some (.int u1), some (.int u2), none, none, some (.int (0 : Int32)), some (.int (u6 + (-7 : Int32))), none, none]) (gm_leL.le (show gm_leL _ _ from ⟨rfl, ⟨rfl, ⟨rfl, ⟨rfl, ⟨rfl, trivial⟩⟩⟩⟩⟩)) ?_
  exact k
theorem t_X2_fits_99_ffftf_at99 {N0 : Nat} {K : Nat → Nat} {d C : Nat} {s : cS} {G : gm_H} {sz sl : Nat} {R : gm_R} {u1 : Int32} {u2 : Int32} {u5 : Int32} {u6 : Int32} (hN : N0 ≤ C) (c1 : ¬ u6 < 0) (c2 : ¬ u5 = 0) (c3 : ¬ ((((u1).toUInt32 >>> ((u6).toUInt32 &&& Int32.toUInt32 31)).toInt32) &&& (127 : Int32)) = 0) (c4 : ((((u2).toUInt32 >>> ((u6).toUInt32 &&& Int32.toUInt32 31)).toInt32) &&& (127 : Int32)) = 0) (c5 : ((((u1).toUInt32 >>> ((u6).toUInt32 &&& Int32.toUInt32 31)).toInt32) &&& (127 : Int32)) = ((((u2).toUInt32 >>> ((u6).toUInt32 &&& Int32.toUInt32 31)).toInt32) &&& (127 : Int32))) (k : gm_ev N0 K ra_nm (ra_mt K) d (some .boolean) (gm_I cX2_fits) (gm_lkf (lkX2 false K)) 99 [some (.ref (C + 5)), some (.int u1), some (.int u2), none, none, some (.int (1 : Int32)), some (.int (u6 + (-7 : Int32))), none, none] [] (bM C (cH C s) G) sz sl R) : gm_ev N0 K ra_nm (ra_mt K) d (some .boolean) (gm_I cX2_fits) (gm_lkf (lkX2 false K)) 99 [some (.ref (C + 5)), some (.int u1), some (.int u2), none, none, some (.int u5), some (.int u6), none, none] [] (bM C (cH C s) G) sz sl R := by
  refine gm_ev.iload i37_99 rfl ?_
  refine gm_ev.if_lt_f i37_101 c1 ?_
  refine gm_ev.iload i37_104 rfl ?_
  refine gm_ev.if_eq_f i37_106 c2 ?_
  refine gm_ev.iload_n i37_109 rfl ?_
  refine gm_ev.iload i37_110 rfl ?_
  refine gm_ev.iushr i37_112 ?_
  refine gm_ev.bipush (v := 127) i37_113 (by decide) ?_
  refine gm_ev.iand i37_115 ?_
  refine gm_ev.istore (ls' := [some (.ref (C + 5)), some (.int u1), some (.int u2), none, none, some (.int u5), some (.int u6), some (.int ((((u1).toUInt32 >>> ((u6).toUInt32 &&& Int32.toUInt32 31)).toInt32) &&& (127 : Int32))), none]) i37_116 (Nat.le_of_ble_eq_true rfl) rfl ?_
  refine gm_ev.iload_n i37_118 rfl ?_
  refine gm_ev.iload i37_119 rfl ?_
  refine gm_ev.iushr i37_121 ?_
  refine gm_ev.bipush (v := 127) i37_122 (by decide) ?_
  refine gm_ev.iand i37_124 ?_
  refine gm_ev.istore (ls' := [some (.ref (C + 5)), some (.int u1), some (.int u2), none, none, some (.int u5), some (.int u6), some (.int ((((u1).toUInt32 >>> ((u6).toUInt32 &&& Int32.toUInt32 31)).toInt32) &&& (127 : Int32))), some (.int ((((u2).toUInt32 >>> ((u6).toUInt32 &&& Int32.toUInt32 31)).toInt32) &&& (127 : Int32)))]) i37_125 (Nat.le_of_ble_eq_true rfl) rfl ?_
  refine gm_ev.iload i37_127 rfl ?_
  refine gm_ev.if_eq_f i37_129 c3 ?_
  refine gm_ev.iload i37_132 rfl ?_
  refine gm_ev.if_eq_t (tgt := 144) i37_134 (by decide) c4 ?_
  refine gm_ev.iload i37_144 rfl ?_
  refine gm_ev.iload i37_146 rfl ?_
  refine gm_ev.icmp_ne_f i37_148 c5 ?_
  refine gm_ev.iconst (v := 1) i37_151 (by decide) ?_
  refine gm_ev.goto (tgt := 156) i37_152 (by decide) ?_
  refine gm_ev.istore (ls' := [some (.ref (C + 5)), some (.int u1), some (.int u2), none, none, some (.int (1 : Int32)), some (.int u6), some (.int ((((u1).toUInt32 >>> ((u6).toUInt32 &&& Int32.toUInt32 31)).toInt32) &&& (127 : Int32))), some (.int ((((u2).toUInt32 >>> ((u6).toUInt32 &&& Int32.toUInt32 31)).toInt32) &&& (127 : Int32)))]) i37_156 (Nat.le_of_ble_eq_true rfl) rfl ?_
  refine gm_ev.goto (tgt := 208) i37_158 (by decide) ?_
  refine gm_ev.iinc (v := u6 + (-7 : Int32)) (ls' := [some (.ref (C + 5)), some (.int u1), some (.int u2), none, none, some (.int (1 : Int32)), some (.int (u6 + (-7 : Int32))), some (.int ((((u1).toUInt32 >>> ((u6).toUInt32 &&& Int32.toUInt32 31)).toInt32) &&& (127 : Int32))), some (.int ((((u2).toUInt32 >>> ((u6).toUInt32 &&& Int32.toUInt32 31)).toInt32) &&& (127 : Int32)))]) i37_208 rfl (by rfl) rfl ?_
  refine gm_ev.goto (tgt := 99) i37_211 (by decide) ?_
  refine gm_ev.le (a := [some (.ref (C + 5)), some (.int u1), some (.int u2), none, none, some (.int (1 : Int32)), some (.int (u6 + (-7 : Int32))), none, none]) (gm_leL.le (show gm_leL _ _ from ⟨rfl, ⟨rfl, ⟨rfl, ⟨rfl, ⟨rfl, trivial⟩⟩⟩⟩⟩)) ?_
  exact k
theorem t_X2_fits_99_ffffttt_at99 {N0 : Nat} {K : Nat → Nat} {d C : Nat} {s : cS} {G : gm_H} {sz sl : Nat} {R : gm_R} {u1 : Int32} {u2 : Int32} {u5 : Int32} {u6 : Int32} {k7 : Nat} (hN : N0 ≤ C) (c1 : ¬ u6 < 0) (c2 : ¬ u5 = 0) (c3 : ¬ ((((u1).toUInt32 >>> ((u6).toUInt32 &&& Int32.toUInt32 31)).toInt32) &&& (127 : Int32)) = 0) (c4 : ¬ ((((u2).toUInt32 >>> ((u6).toUInt32 &&& Int32.toUInt32 31)).toInt32) &&& (127 : Int32)) = 0) (c5 : ((((u1).toUInt32 >>> ((u6).toUInt32 &&& Int32.toUInt32 31)).toInt32) &&& (127 : Int32)) ≤ (12 : Int32)) (c6 : (6 : Int32) < ((((u1).toUInt32 >>> ((u6).toUInt32 &&& Int32.toUInt32 31)).toInt32) &&& (127 : Int32))) (ek7 : ((((u1).toUInt32 >>> ((u6).toUInt32 &&& Int32.toUInt32 31)).toInt32) &&& (127 : Int32)) = nI k7) (lk7 : k7 < 13) (c8 : ¬ (s.2.1 16 k7) = (((((u2).toUInt32 >>> ((u6).toUInt32 &&& Int32.toUInt32 31)).toInt32) &&& (127 : Int32)) <<< ((21 : Int32) &&& 31))) (k : gm_ev N0 K ra_nm (ra_mt K) d (some .boolean) (gm_I cX2_fits) (gm_lkf (lkX2 false K)) 99 [some (.ref (C + 5)), some (.int u1), some (.int u2), none, none, some (.int (0 : Int32)), some (.int (u6 + (-7 : Int32))), none, none] [] (bM C (cH C s) G) sz sl R) : gm_ev N0 K ra_nm (ra_mt K) d (some .boolean) (gm_I cX2_fits) (gm_lkf (lkX2 false K)) 99 [some (.ref (C + 5)), some (.int u1), some (.int u2), none, none, some (.int u5), some (.int u6), none, none] [] (bM C (cH C s) G) sz sl R := by
  refine gm_ev.iload i37_99 rfl ?_
  refine gm_ev.if_lt_f i37_101 c1 ?_
  refine gm_ev.iload i37_104 rfl ?_
  refine gm_ev.if_eq_f i37_106 c2 ?_
  refine gm_ev.iload_n i37_109 rfl ?_
  refine gm_ev.iload i37_110 rfl ?_
  refine gm_ev.iushr i37_112 ?_
  refine gm_ev.bipush (v := 127) i37_113 (by decide) ?_
  refine gm_ev.iand i37_115 ?_
  refine gm_ev.istore (ls' := [some (.ref (C + 5)), some (.int u1), some (.int u2), none, none, some (.int u5), some (.int u6), some (.int ((((u1).toUInt32 >>> ((u6).toUInt32 &&& Int32.toUInt32 31)).toInt32) &&& (127 : Int32))), none]) i37_116 (Nat.le_of_ble_eq_true rfl) rfl ?_
  refine gm_ev.iload_n i37_118 rfl ?_
  refine gm_ev.iload i37_119 rfl ?_
  refine gm_ev.iushr i37_121 ?_
  refine gm_ev.bipush (v := 127) i37_122 (by decide) ?_
  refine gm_ev.iand i37_124 ?_
  refine gm_ev.istore (ls' := [some (.ref (C + 5)), some (.int u1), some (.int u2), none, none, some (.int u5), some (.int u6), some (.int ((((u1).toUInt32 >>> ((u6).toUInt32 &&& Int32.toUInt32 31)).toInt32) &&& (127 : Int32))), some (.int ((((u2).toUInt32 >>> ((u6).toUInt32 &&& Int32.toUInt32 31)).toInt32) &&& (127 : Int32)))]) i37_125 (Nat.le_of_ble_eq_true rfl) rfl ?_
  refine gm_ev.iload i37_127 rfl ?_
  refine gm_ev.if_eq_f i37_129 c3 ?_
  refine gm_ev.iload i37_132 rfl ?_
  refine gm_ev.if_eq_f i37_134 c4 ?_
  refine gm_ev.iload i37_137 rfl ?_
  refine gm_ev.bipush (v := 12) i37_139 (by decide) ?_
  refine gm_ev.icmp_le_t (tgt := 161) i37_141 (by decide) c5 ?_
  refine gm_ev.iload i37_161 rfl ?_
  refine gm_ev.bipush (v := 6) i37_163 (by decide) ?_
  refine gm_ev.icmp_gt_t (tgt := 186) i37_165 (by decide) c6 ?_
  refine gm_ev.aload_n i37_186 rfl ?_
  refine gm_ev.getfield (v := .ref (C + 16)) i37_187 rfl (bM_fld (j := 5) (fs := cF5 C s) rfl rfl) ?_
  refine gm_ev.iload i37_190 rfl ?_
  refine gm_ev.iaload i37_192 (bM_ai (j := 16) (n := 13) (f := s.2.1 16) rfl ek7 lk7 (by decide)) ?_
  refine gm_ev.iload i37_193 rfl ?_
  refine gm_ev.bipush (v := 21) i37_195 (by decide) ?_
  refine gm_ev.ishl i37_197 ?_
  refine gm_ev.icmp_ne_t (tgt := 205) i37_198 (by decide) c8 ?_
  refine gm_ev.iconst (v := 0) i37_205 (by decide) ?_
  refine gm_ev.istore (ls' := [some (.ref (C + 5)), some (.int u1), some (.int u2), none, none, some (.int (0 : Int32)), some (.int u6), some (.int ((((u1).toUInt32 >>> ((u6).toUInt32 &&& Int32.toUInt32 31)).toInt32) &&& (127 : Int32))), some (.int ((((u2).toUInt32 >>> ((u6).toUInt32 &&& Int32.toUInt32 31)).toInt32) &&& (127 : Int32)))]) i37_206 (Nat.le_of_ble_eq_true rfl) rfl ?_
  refine gm_ev.iinc (v := u6 + (-7 : Int32)) (ls' := [some (.ref (C + 5)), some (.int u1), some (.int u2), none, none, some (.int (0 : Int32)), some (.int (u6 + (-7 : Int32))), some (.int ((((u1).toUInt32 >>> ((u6).toUInt32 &&& Int32.toUInt32 31)).toInt32) &&& (127 : Int32))), some (.int ((((u2).toUInt32 >>> ((u6).toUInt32 &&& Int32.toUInt32 31)).toInt32) &&& (127 : Int32)))]) i37_208 rfl (by rfl) rfl ?_
  refine gm_ev.goto (tgt := 99) i37_211 (by decide) ?_
  refine gm_ev.le (a := [some (.ref (C + 5)), some (.int u1), some (.int u2), none, none, some (.int (0 : Int32)), some (.int (u6 + (-7 : Int32))), none, none]) (gm_leL.le (show gm_leL _ _ from ⟨rfl, ⟨rfl, ⟨rfl, ⟨rfl, ⟨rfl, trivial⟩⟩⟩⟩⟩)) ?_
  exact k
theorem t_X2_fits_99_ffffttf_at99 {N0 : Nat} {K : Nat → Nat} {d C : Nat} {s : cS} {G : gm_H} {sz sl : Nat} {R : gm_R} {u1 : Int32} {u2 : Int32} {u5 : Int32} {u6 : Int32} {k7 : Nat} (hN : N0 ≤ C) (c1 : ¬ u6 < 0) (c2 : ¬ u5 = 0) (c3 : ¬ ((((u1).toUInt32 >>> ((u6).toUInt32 &&& Int32.toUInt32 31)).toInt32) &&& (127 : Int32)) = 0) (c4 : ¬ ((((u2).toUInt32 >>> ((u6).toUInt32 &&& Int32.toUInt32 31)).toInt32) &&& (127 : Int32)) = 0) (c5 : ((((u1).toUInt32 >>> ((u6).toUInt32 &&& Int32.toUInt32 31)).toInt32) &&& (127 : Int32)) ≤ (12 : Int32)) (c6 : (6 : Int32) < ((((u1).toUInt32 >>> ((u6).toUInt32 &&& Int32.toUInt32 31)).toInt32) &&& (127 : Int32))) (ek7 : ((((u1).toUInt32 >>> ((u6).toUInt32 &&& Int32.toUInt32 31)).toInt32) &&& (127 : Int32)) = nI k7) (lk7 : k7 < 13) (c8 : (s.2.1 16 k7) = (((((u2).toUInt32 >>> ((u6).toUInt32 &&& Int32.toUInt32 31)).toInt32) &&& (127 : Int32)) <<< ((21 : Int32) &&& 31))) (k : gm_ev N0 K ra_nm (ra_mt K) d (some .boolean) (gm_I cX2_fits) (gm_lkf (lkX2 false K)) 99 [some (.ref (C + 5)), some (.int u1), some (.int u2), none, none, some (.int (1 : Int32)), some (.int (u6 + (-7 : Int32))), none, none] [] (bM C (cH C s) G) sz sl R) : gm_ev N0 K ra_nm (ra_mt K) d (some .boolean) (gm_I cX2_fits) (gm_lkf (lkX2 false K)) 99 [some (.ref (C + 5)), some (.int u1), some (.int u2), none, none, some (.int u5), some (.int u6), none, none] [] (bM C (cH C s) G) sz sl R := by
  refine gm_ev.iload i37_99 rfl ?_
  refine gm_ev.if_lt_f i37_101 c1 ?_
  refine gm_ev.iload i37_104 rfl ?_
  refine gm_ev.if_eq_f i37_106 c2 ?_
  refine gm_ev.iload_n i37_109 rfl ?_
  refine gm_ev.iload i37_110 rfl ?_
  refine gm_ev.iushr i37_112 ?_
  refine gm_ev.bipush (v := 127) i37_113 (by decide) ?_
  refine gm_ev.iand i37_115 ?_
  refine gm_ev.istore (ls' := [some (.ref (C + 5)), some (.int u1), some (.int u2), none, none, some (.int u5), some (.int u6), some (.int ((((u1).toUInt32 >>> ((u6).toUInt32 &&& Int32.toUInt32 31)).toInt32) &&& (127 : Int32))), none]) i37_116 (Nat.le_of_ble_eq_true rfl) rfl ?_
  refine gm_ev.iload_n i37_118 rfl ?_
  refine gm_ev.iload i37_119 rfl ?_
  refine gm_ev.iushr i37_121 ?_
  refine gm_ev.bipush (v := 127) i37_122 (by decide) ?_
  refine gm_ev.iand i37_124 ?_
  refine gm_ev.istore (ls' := [some (.ref (C + 5)), some (.int u1), some (.int u2), none, none, some (.int u5), some (.int u6), some (.int ((((u1).toUInt32 >>> ((u6).toUInt32 &&& Int32.toUInt32 31)).toInt32) &&& (127 : Int32))), some (.int ((((u2).toUInt32 >>> ((u6).toUInt32 &&& Int32.toUInt32 31)).toInt32) &&& (127 : Int32)))]) i37_125 (Nat.le_of_ble_eq_true rfl) rfl ?_
  refine gm_ev.iload i37_127 rfl ?_
  refine gm_ev.if_eq_f i37_129 c3 ?_
  refine gm_ev.iload i37_132 rfl ?_
  refine gm_ev.if_eq_f i37_134 c4 ?_
  refine gm_ev.iload i37_137 rfl ?_
  refine gm_ev.bipush (v := 12) i37_139 (by decide) ?_
  refine gm_ev.icmp_le_t (tgt := 161) i37_141 (by decide) c5 ?_
  refine gm_ev.iload i37_161 rfl ?_
  refine gm_ev.bipush (v := 6) i37_163 (by decide) ?_
  refine gm_ev.icmp_gt_t (tgt := 186) i37_165 (by decide) c6 ?_
  refine gm_ev.aload_n i37_186 rfl ?_
  refine gm_ev.getfield (v := .ref (C + 16)) i37_187 rfl (bM_fld (j := 5) (fs := cF5 C s) rfl rfl) ?_
  refine gm_ev.iload i37_190 rfl ?_
  refine gm_ev.iaload i37_192 (bM_ai (j := 16) (n := 13) (f := s.2.1 16) rfl ek7 lk7 (by decide)) ?_
  refine gm_ev.iload i37_193 rfl ?_
  refine gm_ev.bipush (v := 21) i37_195 (by decide) ?_
  refine gm_ev.ishl i37_197 ?_
  refine gm_ev.icmp_ne_f i37_198 c8 ?_
  refine gm_ev.iconst (v := 1) i37_201 (by decide) ?_
  refine gm_ev.goto (tgt := 206) i37_202 (by decide) ?_
  refine gm_ev.istore (ls' := [some (.ref (C + 5)), some (.int u1), some (.int u2), none, none, some (.int (1 : Int32)), some (.int u6), some (.int ((((u1).toUInt32 >>> ((u6).toUInt32 &&& Int32.toUInt32 31)).toInt32) &&& (127 : Int32))), some (.int ((((u2).toUInt32 >>> ((u6).toUInt32 &&& Int32.toUInt32 31)).toInt32) &&& (127 : Int32)))]) i37_206 (Nat.le_of_ble_eq_true rfl) rfl ?_
  refine gm_ev.iinc (v := u6 + (-7 : Int32)) (ls' := [some (.ref (C + 5)), some (.int u1), some (.int u2), none, none, some (.int (1 : Int32)), some (.int (u6 + (-7 : Int32))), some (.int ((((u1).toUInt32 >>> ((u6).toUInt32 &&& Int32.toUInt32 31)).toInt32) &&& (127 : Int32))), some (.int ((((u2).toUInt32 >>> ((u6).toUInt32 &&& Int32.toUInt32 31)).toInt32) &&& (127 : Int32)))]) i37_208 rfl (by rfl) rfl ?_
  refine gm_ev.goto (tgt := 99) i37_211 (by decide) ?_
  refine gm_ev.le (a := [some (.ref (C + 5)), some (.int u1), some (.int u2), none, none, some (.int (1 : Int32)), some (.int (u6 + (-7 : Int32))), none, none]) (gm_leL.le (show gm_leL _ _ from ⟨rfl, ⟨rfl, ⟨rfl, ⟨rfl, ⟨rfl, trivial⟩⟩⟩⟩⟩)) ?_
  exact k
theorem t_X2_fits_99_fffftf_at99 {N0 : Nat} {K : Nat → Nat} {d C : Nat} {s : cS} {G : gm_H} {sz sl : Nat} {R : gm_R} {u1 : Int32} {u2 : Int32} {u5 : Int32} {u6 : Int32} {k7 : Nat} (hN : N0 ≤ C) (c1 : ¬ u6 < 0) (c2 : ¬ u5 = 0) (c3 : ¬ ((((u1).toUInt32 >>> ((u6).toUInt32 &&& Int32.toUInt32 31)).toInt32) &&& (127 : Int32)) = 0) (c4 : ¬ ((((u2).toUInt32 >>> ((u6).toUInt32 &&& Int32.toUInt32 31)).toInt32) &&& (127 : Int32)) = 0) (c5 : ((((u1).toUInt32 >>> ((u6).toUInt32 &&& Int32.toUInt32 31)).toInt32) &&& (127 : Int32)) ≤ (12 : Int32)) (c6 : ¬ (6 : Int32) < ((((u1).toUInt32 >>> ((u6).toUInt32 &&& Int32.toUInt32 31)).toInt32) &&& (127 : Int32))) (ek7 : (((((u1).toUInt32 >>> ((u6).toUInt32 &&& Int32.toUInt32 31)).toInt32) &&& (127 : Int32)) + (6 : Int32)) = nI k7) (lk7 : k7 < 13) (k : gm_ev N0 K ra_nm (ra_mt K) d (some .boolean) (gm_I cX2_fits) (gm_lkf (lkX2 false K)) 99 [some (.ref (C + 5)), some (.int u1), some (.int u2), none, none, some (.int u5), some (.int (u6 + (-7 : Int32))), none, none] [] (bM C (cH C (cA s 16 (upd (s.2.1 16) k7 (((((u2).toUInt32 >>> ((u6).toUInt32 &&& Int32.toUInt32 31)).toInt32) &&& (127 : Int32)) <<< ((21 : Int32) &&& 31))))) G) sz sl R) : gm_ev N0 K ra_nm (ra_mt K) d (some .boolean) (gm_I cX2_fits) (gm_lkf (lkX2 false K)) 99 [some (.ref (C + 5)), some (.int u1), some (.int u2), none, none, some (.int u5), some (.int u6), none, none] [] (bM C (cH C s) G) sz sl R := by
  refine gm_ev.iload i37_99 rfl ?_
  refine gm_ev.if_lt_f i37_101 c1 ?_
  refine gm_ev.iload i37_104 rfl ?_
  refine gm_ev.if_eq_f i37_106 c2 ?_
  refine gm_ev.iload_n i37_109 rfl ?_
  refine gm_ev.iload i37_110 rfl ?_
  refine gm_ev.iushr i37_112 ?_
  refine gm_ev.bipush (v := 127) i37_113 (by decide) ?_
  refine gm_ev.iand i37_115 ?_
  refine gm_ev.istore (ls' := [some (.ref (C + 5)), some (.int u1), some (.int u2), none, none, some (.int u5), some (.int u6), some (.int ((((u1).toUInt32 >>> ((u6).toUInt32 &&& Int32.toUInt32 31)).toInt32) &&& (127 : Int32))), none]) i37_116 (Nat.le_of_ble_eq_true rfl) rfl ?_
  refine gm_ev.iload_n i37_118 rfl ?_
  refine gm_ev.iload i37_119 rfl ?_
  refine gm_ev.iushr i37_121 ?_
  refine gm_ev.bipush (v := 127) i37_122 (by decide) ?_
  refine gm_ev.iand i37_124 ?_
  refine gm_ev.istore (ls' := [some (.ref (C + 5)), some (.int u1), some (.int u2), none, none, some (.int u5), some (.int u6), some (.int ((((u1).toUInt32 >>> ((u6).toUInt32 &&& Int32.toUInt32 31)).toInt32) &&& (127 : Int32))), some (.int ((((u2).toUInt32 >>> ((u6).toUInt32 &&& Int32.toUInt32 31)).toInt32) &&& (127 : Int32)))]) i37_125 (Nat.le_of_ble_eq_true rfl) rfl ?_
  refine gm_ev.iload i37_127 rfl ?_
  refine gm_ev.if_eq_f i37_129 c3 ?_
  refine gm_ev.iload i37_132 rfl ?_
  refine gm_ev.if_eq_f i37_134 c4 ?_
  refine gm_ev.iload i37_137 rfl ?_
  refine gm_ev.bipush (v := 12) i37_139 (by decide) ?_
  refine gm_ev.icmp_le_t (tgt := 161) i37_141 (by decide) c5 ?_
  refine gm_ev.iload i37_161 rfl ?_
  refine gm_ev.bipush (v := 6) i37_163 (by decide) ?_
  refine gm_ev.icmp_gt_f i37_165 c6 ?_
  refine gm_ev.aload_n i37_168 rfl ?_
  refine gm_ev.getfield (v := .ref (C + 16)) i37_169 rfl (bM_fld (j := 5) (fs := cF5 C s) rfl rfl) ?_
  refine gm_ev.iload i37_172 rfl ?_
  refine gm_ev.bipush (v := 6) i37_174 (by decide) ?_
  refine gm_ev.iadd i37_176 ?_
  refine gm_ev.iload i37_177 rfl ?_
  refine gm_ev.bipush (v := 21) i37_179 (by decide) ?_
  refine gm_ev.ishl i37_181 ?_
  refine gm_ev.iastore (M' := (bM C (cH C (cA s 16 (upd (s.2.1 16) k7 (((((u2).toUInt32 >>> ((u6).toUInt32 &&& Int32.toUInt32 31)).toInt32) &&& (127 : Int32)) <<< ((21 : Int32) &&& 31))))) G)) i37_182 (bM_asti (j := 16) (n := 13) (f := s.2.1 16) rfl ek7 lk7 (by decide) hN rfl) ?_
  refine gm_ev.goto (tgt := 208) i37_183 (by decide) ?_
  refine gm_ev.iinc (v := u6 + (-7 : Int32)) (ls' := [some (.ref (C + 5)), some (.int u1), some (.int u2), none, none, some (.int u5), some (.int (u6 + (-7 : Int32))), some (.int ((((u1).toUInt32 >>> ((u6).toUInt32 &&& Int32.toUInt32 31)).toInt32) &&& (127 : Int32))), some (.int ((((u2).toUInt32 >>> ((u6).toUInt32 &&& Int32.toUInt32 31)).toInt32) &&& (127 : Int32)))]) i37_208 rfl (by rfl) rfl ?_
  refine gm_ev.goto (tgt := 99) i37_211 (by decide) ?_
  refine gm_ev.le (a := [some (.ref (C + 5)), some (.int u1), some (.int u2), none, none, some (.int u5), some (.int (u6 + (-7 : Int32))), none, none]) (gm_leL.le (show gm_leL _ _ from ⟨rfl, ⟨rfl, ⟨rfl, ⟨rfl, ⟨rfl, trivial⟩⟩⟩⟩⟩)) ?_
  exact k
theorem t_X2_fits_99_ffffft_at99 {N0 : Nat} {K : Nat → Nat} {d C : Nat} {s : cS} {G : gm_H} {sz sl : Nat} {R : gm_R} {u1 : Int32} {u2 : Int32} {u5 : Int32} {u6 : Int32} (hN : N0 ≤ C) (c1 : ¬ u6 < 0) (c2 : ¬ u5 = 0) (c3 : ¬ ((((u1).toUInt32 >>> ((u6).toUInt32 &&& Int32.toUInt32 31)).toInt32) &&& (127 : Int32)) = 0) (c4 : ¬ ((((u2).toUInt32 >>> ((u6).toUInt32 &&& Int32.toUInt32 31)).toInt32) &&& (127 : Int32)) = 0) (c5 : ¬ ((((u1).toUInt32 >>> ((u6).toUInt32 &&& Int32.toUInt32 31)).toInt32) &&& (127 : Int32)) ≤ (12 : Int32)) (c6 : ¬ ((((u1).toUInt32 >>> ((u6).toUInt32 &&& Int32.toUInt32 31)).toInt32) &&& (127 : Int32)) = ((((u2).toUInt32 >>> ((u6).toUInt32 &&& Int32.toUInt32 31)).toInt32) &&& (127 : Int32))) (k : gm_ev N0 K ra_nm (ra_mt K) d (some .boolean) (gm_I cX2_fits) (gm_lkf (lkX2 false K)) 99 [some (.ref (C + 5)), some (.int u1), some (.int u2), none, none, some (.int (0 : Int32)), some (.int (u6 + (-7 : Int32))), none, none] [] (bM C (cH C s) G) sz sl R) : gm_ev N0 K ra_nm (ra_mt K) d (some .boolean) (gm_I cX2_fits) (gm_lkf (lkX2 false K)) 99 [some (.ref (C + 5)), some (.int u1), some (.int u2), none, none, some (.int u5), some (.int u6), none, none] [] (bM C (cH C s) G) sz sl R := by
  refine gm_ev.iload i37_99 rfl ?_
  refine gm_ev.if_lt_f i37_101 c1 ?_
  refine gm_ev.iload i37_104 rfl ?_
  refine gm_ev.if_eq_f i37_106 c2 ?_
  refine gm_ev.iload_n i37_109 rfl ?_
  refine gm_ev.iload i37_110 rfl ?_
  refine gm_ev.iushr i37_112 ?_
  refine gm_ev.bipush (v := 127) i37_113 (by decide) ?_
  refine gm_ev.iand i37_115 ?_
  refine gm_ev.istore (ls' := [some (.ref (C + 5)), some (.int u1), some (.int u2), none, none, some (.int u5), some (.int u6), some (.int ((((u1).toUInt32 >>> ((u6).toUInt32 &&& Int32.toUInt32 31)).toInt32) &&& (127 : Int32))), none]) i37_116 (Nat.le_of_ble_eq_true rfl) rfl ?_
  refine gm_ev.iload_n i37_118 rfl ?_
  refine gm_ev.iload i37_119 rfl ?_
  refine gm_ev.iushr i37_121 ?_
  refine gm_ev.bipush (v := 127) i37_122 (by decide) ?_
  refine gm_ev.iand i37_124 ?_
  refine gm_ev.istore (ls' := [some (.ref (C + 5)), some (.int u1), some (.int u2), none, none, some (.int u5), some (.int u6), some (.int ((((u1).toUInt32 >>> ((u6).toUInt32 &&& Int32.toUInt32 31)).toInt32) &&& (127 : Int32))), some (.int ((((u2).toUInt32 >>> ((u6).toUInt32 &&& Int32.toUInt32 31)).toInt32) &&& (127 : Int32)))]) i37_125 (Nat.le_of_ble_eq_true rfl) rfl ?_
  refine gm_ev.iload i37_127 rfl ?_
  refine gm_ev.if_eq_f i37_129 c3 ?_
  refine gm_ev.iload i37_132 rfl ?_
  refine gm_ev.if_eq_f i37_134 c4 ?_
  refine gm_ev.iload i37_137 rfl ?_
  refine gm_ev.bipush (v := 12) i37_139 (by decide) ?_
  refine gm_ev.icmp_le_f i37_141 c5 ?_
  refine gm_ev.iload i37_144 rfl ?_
  refine gm_ev.iload i37_146 rfl ?_
  refine gm_ev.icmp_ne_t (tgt := 155) i37_148 (by decide) c6 ?_
  refine gm_ev.iconst (v := 0) i37_155 (by decide) ?_
  refine gm_ev.istore (ls' := [some (.ref (C + 5)), some (.int u1), some (.int u2), none, none, some (.int (0 : Int32)), some (.int u6), some (.int ((((u1).toUInt32 >>> ((u6).toUInt32 &&& Int32.toUInt32 31)).toInt32) &&& (127 : Int32))), some (.int ((((u2).toUInt32 >>> ((u6).toUInt32 &&& Int32.toUInt32 31)).toInt32) &&& (127 : Int32)))]) i37_156 (Nat.le_of_ble_eq_true rfl) rfl ?_
  refine gm_ev.goto (tgt := 208) i37_158 (by decide) ?_
  refine gm_ev.iinc (v := u6 + (-7 : Int32)) (ls' := [some (.ref (C + 5)), some (.int u1), some (.int u2), none, none, some (.int (0 : Int32)), some (.int (u6 + (-7 : Int32))), some (.int ((((u1).toUInt32 >>> ((u6).toUInt32 &&& Int32.toUInt32 31)).toInt32) &&& (127 : Int32))), some (.int ((((u2).toUInt32 >>> ((u6).toUInt32 &&& Int32.toUInt32 31)).toInt32) &&& (127 : Int32)))]) i37_208 rfl (by rfl) rfl ?_
  refine gm_ev.goto (tgt := 99) i37_211 (by decide) ?_
  refine gm_ev.le (a := [some (.ref (C + 5)), some (.int u1), some (.int u2), none, none, some (.int (0 : Int32)), some (.int (u6 + (-7 : Int32))), none, none]) (gm_leL.le (show gm_leL _ _ from ⟨rfl, ⟨rfl, ⟨rfl, ⟨rfl, ⟨rfl, trivial⟩⟩⟩⟩⟩)) ?_
  exact k
theorem t_X2_fits_99_ffffff_at99 {N0 : Nat} {K : Nat → Nat} {d C : Nat} {s : cS} {G : gm_H} {sz sl : Nat} {R : gm_R} {u1 : Int32} {u2 : Int32} {u5 : Int32} {u6 : Int32} (hN : N0 ≤ C) (c1 : ¬ u6 < 0) (c2 : ¬ u5 = 0) (c3 : ¬ ((((u1).toUInt32 >>> ((u6).toUInt32 &&& Int32.toUInt32 31)).toInt32) &&& (127 : Int32)) = 0) (c4 : ¬ ((((u2).toUInt32 >>> ((u6).toUInt32 &&& Int32.toUInt32 31)).toInt32) &&& (127 : Int32)) = 0) (c5 : ¬ ((((u1).toUInt32 >>> ((u6).toUInt32 &&& Int32.toUInt32 31)).toInt32) &&& (127 : Int32)) ≤ (12 : Int32)) (c6 : ((((u1).toUInt32 >>> ((u6).toUInt32 &&& Int32.toUInt32 31)).toInt32) &&& (127 : Int32)) = ((((u2).toUInt32 >>> ((u6).toUInt32 &&& Int32.toUInt32 31)).toInt32) &&& (127 : Int32))) (k : gm_ev N0 K ra_nm (ra_mt K) d (some .boolean) (gm_I cX2_fits) (gm_lkf (lkX2 false K)) 99 [some (.ref (C + 5)), some (.int u1), some (.int u2), none, none, some (.int (1 : Int32)), some (.int (u6 + (-7 : Int32))), none, none] [] (bM C (cH C s) G) sz sl R) : gm_ev N0 K ra_nm (ra_mt K) d (some .boolean) (gm_I cX2_fits) (gm_lkf (lkX2 false K)) 99 [some (.ref (C + 5)), some (.int u1), some (.int u2), none, none, some (.int u5), some (.int u6), none, none] [] (bM C (cH C s) G) sz sl R := by
  refine gm_ev.iload i37_99 rfl ?_
  refine gm_ev.if_lt_f i37_101 c1 ?_
  refine gm_ev.iload i37_104 rfl ?_
  refine gm_ev.if_eq_f i37_106 c2 ?_
  refine gm_ev.iload_n i37_109 rfl ?_
  refine gm_ev.iload i37_110 rfl ?_
  refine gm_ev.iushr i37_112 ?_
  refine gm_ev.bipush (v := 127) i37_113 (by decide) ?_
  refine gm_ev.iand i37_115 ?_
  refine gm_ev.istore (ls' := [some (.ref (C + 5)), some (.int u1), some (.int u2), none, none, some (.int u5), some (.int u6), some (.int ((((u1).toUInt32 >>> ((u6).toUInt32 &&& Int32.toUInt32 31)).toInt32) &&& (127 : Int32))), none]) i37_116 (Nat.le_of_ble_eq_true rfl) rfl ?_
  refine gm_ev.iload_n i37_118 rfl ?_
  refine gm_ev.iload i37_119 rfl ?_
  refine gm_ev.iushr i37_121 ?_
  refine gm_ev.bipush (v := 127) i37_122 (by decide) ?_
  refine gm_ev.iand i37_124 ?_
  refine gm_ev.istore (ls' := [some (.ref (C + 5)), some (.int u1), some (.int u2), none, none, some (.int u5), some (.int u6), some (.int ((((u1).toUInt32 >>> ((u6).toUInt32 &&& Int32.toUInt32 31)).toInt32) &&& (127 : Int32))), some (.int ((((u2).toUInt32 >>> ((u6).toUInt32 &&& Int32.toUInt32 31)).toInt32) &&& (127 : Int32)))]) i37_125 (Nat.le_of_ble_eq_true rfl) rfl ?_
  refine gm_ev.iload i37_127 rfl ?_
  refine gm_ev.if_eq_f i37_129 c3 ?_
  refine gm_ev.iload i37_132 rfl ?_
  refine gm_ev.if_eq_f i37_134 c4 ?_
  refine gm_ev.iload i37_137 rfl ?_
  refine gm_ev.bipush (v := 12) i37_139 (by decide) ?_
  refine gm_ev.icmp_le_f i37_141 c5 ?_
  refine gm_ev.iload i37_144 rfl ?_
  refine gm_ev.iload i37_146 rfl ?_
  refine gm_ev.icmp_ne_f i37_148 c6 ?_
  refine gm_ev.iconst (v := 1) i37_151 (by decide) ?_
  refine gm_ev.goto (tgt := 156) i37_152 (by decide) ?_
  refine gm_ev.istore (ls' := [some (.ref (C + 5)), some (.int u1), some (.int u2), none, none, some (.int (1 : Int32)), some (.int u6), some (.int ((((u1).toUInt32 >>> ((u6).toUInt32 &&& Int32.toUInt32 31)).toInt32) &&& (127 : Int32))), some (.int ((((u2).toUInt32 >>> ((u6).toUInt32 &&& Int32.toUInt32 31)).toInt32) &&& (127 : Int32)))]) i37_156 (Nat.le_of_ble_eq_true rfl) rfl ?_
  refine gm_ev.goto (tgt := 208) i37_158 (by decide) ?_
  refine gm_ev.iinc (v := u6 + (-7 : Int32)) (ls' := [some (.ref (C + 5)), some (.int u1), some (.int u2), none, none, some (.int (1 : Int32)), some (.int (u6 + (-7 : Int32))), some (.int ((((u1).toUInt32 >>> ((u6).toUInt32 &&& Int32.toUInt32 31)).toInt32) &&& (127 : Int32))), some (.int ((((u2).toUInt32 >>> ((u6).toUInt32 &&& Int32.toUInt32 31)).toInt32) &&& (127 : Int32)))]) i37_208 rfl (by rfl) rfl ?_
  refine gm_ev.goto (tgt := 99) i37_211 (by decide) ?_
  refine gm_ev.le (a := [some (.ref (C + 5)), some (.int u1), some (.int u2), none, none, some (.int (1 : Int32)), some (.int (u6 + (-7 : Int32))), none, none]) (gm_leL.le (show gm_leL _ _ from ⟨rfl, ⟨rfl, ⟨rfl, ⟨rfl, ⟨rfl, trivial⟩⟩⟩⟩⟩)) ?_
  exact k
theorem t_X3_isIdle_0_n {N0 : Nat} {K : Nat → Nat} {d C : Nat} {s : cS} {G : gm_H} {sz sl : Nat}  (hN : N0 ≤ C) (h1 : s.2.2 80 = none) : gm_ev N0 K ra_nm (ra_mt K) d (some .boolean) (gm_I cX3_isIdle) (gm_lkf (lkX3 false K)) 0 [some (.ref (C + 4))] [] (bM C (cH C s) G) sz sl (.returned (some (.int (1 : Int32))), (bM C (cH C s) G), sz, sl) := by
  refine gm_ev.aload_n i39_0 rfl ?_
  refine gm_ev.getfield (v := .null) i39_1 rfl (bM_fld (j := 4) (fs := cF4 C s) rfl (cv_none h1)) ?_
  refine gm_ev.ifnonnull_f i39_4 ?_
  refine gm_ev.iconst (v := 1) i39_7 (by decide) ?_
  refine gm_ev.goto (tgt := 12) i39_8 (by decide) ?_
  exact gm_ev.zret i39_12 rfl (by decide)
theorem t_X3_isIdle_0_r {N0 : Nat} {K : Nat → Nat} {d C : Nat} {s : cS} {G : gm_H} {sz sl : Nat} {r2 : Nat} (hN : N0 ≤ C) (h1 : s.2.2 80 = some r2) : gm_ev N0 K ra_nm (ra_mt K) d (some .boolean) (gm_I cX3_isIdle) (gm_lkf (lkX3 false K)) 0 [some (.ref (C + 4))] [] (bM C (cH C s) G) sz sl (.returned (some (.int (0 : Int32))), (bM C (cH C s) G), sz, sl) := by
  refine gm_ev.aload_n i39_0 rfl ?_
  refine gm_ev.getfield (v := .ref r2) i39_1 rfl (bM_fld (j := 4) (fs := cF4 C s) rfl (cv_some h1)) ?_
  refine gm_ev.ifnonnull_t (tgt := 11) i39_4 (by decide) ?_
  refine gm_ev.iconst (v := 0) i39_11 (by decide) ?_
  exact gm_ev.zret i39_12 rfl (by decide)
theorem t_X3_take_0_tn {N0 : Nat} {K : Nat → Nat} {d C : Nat} {s : cS} {G : gm_H} {sz sl : Nat} {p0 : Nat} {s2 : cS} {r3 : Int32} {s5 : cS} (hN : N0 ≤ C) (t1 : gm_to N0 K ra_nm (ra_mt K) d 96 [.ref (C + 23)] (bM C (cH C s) G) sz (.returned none, (bM C (cH C s2) G), sz, 0)) (t4 : gm_to N0 K ra_nm (ra_mt K) d 27 [.ref (C + 5), .ref p0] (bM C (cH C s2) G) sz (.returned (some (.int r3)), (bM C (cH C s5) G), sz, 0)) (c6 : r3 = 0) (h7 : s5.2.2 80 = none) : gm_ev N0 K ra_nm (ra_mt K) d (some .boolean) (gm_I cX3_take) (gm_lkf (lkX3 false K)) 0 [some (.ref (C + 4)), some (.ref p0)] [] (bM C (cH C s) G) sz sl (.returned (some (.int (0 : Int32))), (bM C (cH C s5) G), sz, sl) := by
  refine gm_ev.aload_n i40_0 rfl ?_
  refine gm_ev.getfield (v := .ref (C + 23)) i40_1 rfl (bM_fld (j := 4) (fs := cF4 C s) rfl rfl) ?_
  refine gm_ev.callV gm_mono_run (av := []) (r := []) (ci := 9) (fs := cF23 C s) (bM_get (j := 23) rfl) i40_4 rfl rfl rfl (Nat.le_of_ble_eq_true rfl) t1 ?_
  refine gm_ev.aload_n i40_7 rfl ?_
  refine gm_ev.getfield (v := .ref (C + 5)) i40_8 rfl (bM_fld (j := 4) (fs := cF4 C s2) rfl rfl) ?_
  refine gm_ev.aload_n i40_11 rfl ?_
  refine gm_ev.callV gm_mono_run (av := [.ref p0]) (r := []) (ci := 2) (fs := cF5 C s2) (bM_get (j := 5) rfl) i40_12 rfl rfl rfl (Nat.le_of_ble_eq_true rfl) t4 ?_
  refine gm_ev.if_eq_t (tgt := 113) i40_15 (by decide) c6 ?_
  refine gm_ev.aload_n i40_113 rfl ?_
  refine gm_ev.getfield (v := .null) i40_114 rfl (bM_fld (j := 4) (fs := cF4 C s5) rfl (cv_none h7)) ?_
  refine gm_ev.ifnull_t (tgt := 141) i40_117 (by decide) ?_
  refine gm_ev.iconst (v := 0) i40_141 (by decide) ?_
  exact gm_ev.zret i40_142 rfl (by decide)
theorem t_X3_take_0_tr {N0 : Nat} {K : Nat → Nat} {d C : Nat} {s : cS} {G : gm_H} {sz sl : Nat} {p0 : Nat} {s2 : cS} {r3 : Int32} {s5 : cS} {r8 : Nat} {r9 : Int32} {s11 : cS} {r12 : Int32} {s14 : cS} (hN : N0 ≤ C) (t1 : gm_to N0 K ra_nm (ra_mt K) d 96 [.ref (C + 23)] (bM C (cH C s) G) sz (.returned none, (bM C (cH C s2) G), sz, 0)) (t4 : gm_to N0 K ra_nm (ra_mt K) d 27 [.ref (C + 5), .ref p0] (bM C (cH C s2) G) sz (.returned (some (.int r3)), (bM C (cH C s5) G), sz, 0)) (c6 : r3 = 0) (h7 : s5.2.2 80 = some r8) (t10 : gm_to N0 K ra_nm (ra_mt K) d 27 [.ref (C + 5), .ref r8] (bM C (cH C s5) G) sz (.returned (some (.int r9)), (bM C (cH C s11) G), sz, 0)) (t13 : gm_to N0 K ra_nm (ra_mt K) d 41 [.ref (C + 4), .ref (C + 21)] (bM C (cH C s11) G) sz (.returned (some (.int r12)), (bM C (cH C s14) G), sz, 0)) : gm_ev N0 K ra_nm (ra_mt K) d (some .boolean) (gm_I cX3_take) (gm_lkf (lkX3 false K)) 0 [some (.ref (C + 4)), some (.ref p0)] [] (bM C (cH C s) G) sz sl (.returned (some (.int (0 : Int32))), (bM C (cH C s14) G), sz, sl) := by
  refine gm_ev.aload_n i40_0 rfl ?_
  refine gm_ev.getfield (v := .ref (C + 23)) i40_1 rfl (bM_fld (j := 4) (fs := cF4 C s) rfl rfl) ?_
  refine gm_ev.callV gm_mono_run (av := []) (r := []) (ci := 9) (fs := cF23 C s) (bM_get (j := 23) rfl) i40_4 rfl rfl rfl (Nat.le_of_ble_eq_true rfl) t1 ?_
  refine gm_ev.aload_n i40_7 rfl ?_
  refine gm_ev.getfield (v := .ref (C + 5)) i40_8 rfl (bM_fld (j := 4) (fs := cF4 C s2) rfl rfl) ?_
  refine gm_ev.aload_n i40_11 rfl ?_
  refine gm_ev.callV gm_mono_run (av := [.ref p0]) (r := []) (ci := 2) (fs := cF5 C s2) (bM_get (j := 5) rfl) i40_12 rfl rfl rfl (Nat.le_of_ble_eq_true rfl) t4 ?_
  refine gm_ev.if_eq_t (tgt := 113) i40_15 (by decide) c6 ?_
  refine gm_ev.aload_n i40_113 rfl ?_
  refine gm_ev.getfield (v := .ref r8) i40_114 rfl (bM_fld (j := 4) (fs := cF4 C s5) rfl (cv_some h7)) ?_
  refine gm_ev.ifnull_f i40_117 ?_
  refine gm_ev.aload_n i40_120 rfl ?_
  refine gm_ev.getfield (v := .ref (C + 5)) i40_121 rfl (bM_fld (j := 4) (fs := cF4 C s5) rfl rfl) ?_
  refine gm_ev.aload_n i40_124 rfl ?_
  refine gm_ev.getfield (v := .ref r8) i40_125 rfl (bM_fld (j := 4) (fs := cF4 C s5) rfl (cv_some h7)) ?_
  refine gm_ev.callV gm_mono_run (av := [.ref r8]) (r := []) (ci := 2) (fs := cF5 C s5) (bM_get (j := 5) rfl) i40_128 rfl rfl rfl (Nat.le_of_ble_eq_true rfl) t10 ?_
  refine gm_ev.pop i40_131 rfl ?_
  refine gm_ev.aload_n i40_132 rfl ?_
  refine gm_ev.aload_n i40_133 rfl ?_
  refine gm_ev.getfield (v := .ref (C + 21)) i40_134 rfl (bM_fld (j := 4) (fs := cF4 C s11) rfl rfl) ?_
  refine gm_ev.callV gm_mono_run (av := [.ref (C + 21)]) (r := []) (ci := 3) (fs := cF4 C s11) (bM_get (j := 4) rfl) i40_137 rfl rfl rfl (Nat.le_of_ble_eq_true rfl) t13 ?_
  refine gm_ev.pop i40_140 rfl ?_
  refine gm_ev.iconst (v := 0) i40_141 (by decide) ?_
  exact gm_ev.zret i40_142 rfl (by decide)
theorem t_X3_take_0_ftn {N0 : Nat} {K : Nat → Nat} {d C : Nat} {s : cS} {G : gm_H} {sz sl : Nat} {p0 : Nat} {s2 : cS} {r3 : Int32} {s5 : cS} {r7 : Int32} {s9 : cS} (hN : N0 ≤ C) (t1 : gm_to N0 K ra_nm (ra_mt K) d 96 [.ref (C + 23)] (bM C (cH C s) G) sz (.returned none, (bM C (cH C s2) G), sz, 0)) (t4 : gm_to N0 K ra_nm (ra_mt K) d 27 [.ref (C + 5), .ref p0] (bM C (cH C s2) G) sz (.returned (some (.int r3)), (bM C (cH C s5) G), sz, 0)) (c6 : ¬ r3 = 0) (t8 : gm_to N0 K ra_nm (ra_mt K) d 28 [.ref (C + 5), .ref (C + 23)] (bM C (cH C s5) G) sz (.returned (some (.int r7)), (bM C (cH C s9) G), sz, 0)) (c10 : r7 = 0) (h11 : s9.2.2 80 = none) : gm_ev N0 K ra_nm (ra_mt K) d (some .boolean) (gm_I cX3_take) (gm_lkf (lkX3 false K)) 0 [some (.ref (C + 4)), some (.ref p0)] [] (bM C (cH C s) G) sz sl (.returned (some (.int (0 : Int32))), (bM C (cH C s9) G), sz, sl) := by
  refine gm_ev.aload_n i40_0 rfl ?_
  refine gm_ev.getfield (v := .ref (C + 23)) i40_1 rfl (bM_fld (j := 4) (fs := cF4 C s) rfl rfl) ?_
  refine gm_ev.callV gm_mono_run (av := []) (r := []) (ci := 9) (fs := cF23 C s) (bM_get (j := 23) rfl) i40_4 rfl rfl rfl (Nat.le_of_ble_eq_true rfl) t1 ?_
  refine gm_ev.aload_n i40_7 rfl ?_
  refine gm_ev.getfield (v := .ref (C + 5)) i40_8 rfl (bM_fld (j := 4) (fs := cF4 C s2) rfl rfl) ?_
  refine gm_ev.aload_n i40_11 rfl ?_
  refine gm_ev.callV gm_mono_run (av := [.ref p0]) (r := []) (ci := 2) (fs := cF5 C s2) (bM_get (j := 5) rfl) i40_12 rfl rfl rfl (Nat.le_of_ble_eq_true rfl) t4 ?_
  refine gm_ev.if_eq_f i40_15 c6 ?_
  refine gm_ev.aload_n i40_18 rfl ?_
  refine gm_ev.getfield (v := .ref (C + 5)) i40_19 rfl (bM_fld (j := 4) (fs := cF4 C s5) rfl rfl) ?_
  refine gm_ev.aload_n i40_22 rfl ?_
  refine gm_ev.getfield (v := .ref (C + 23)) i40_23 rfl (bM_fld (j := 4) (fs := cF4 C s5) rfl rfl) ?_
  refine gm_ev.callV gm_mono_run (av := [.ref (C + 23)]) (r := []) (ci := 2) (fs := cF5 C s5) (bM_get (j := 5) rfl) i40_26 rfl rfl rfl (Nat.le_of_ble_eq_true rfl) t8 ?_
  refine gm_ev.if_eq_t (tgt := 113) i40_29 (by decide) c10 ?_
  refine gm_ev.aload_n i40_113 rfl ?_
  refine gm_ev.getfield (v := .null) i40_114 rfl (bM_fld (j := 4) (fs := cF4 C s9) rfl (cv_none h11)) ?_
  refine gm_ev.ifnull_t (tgt := 141) i40_117 (by decide) ?_
  refine gm_ev.iconst (v := 0) i40_141 (by decide) ?_
  exact gm_ev.zret i40_142 rfl (by decide)
theorem t_X3_take_0_ftr {N0 : Nat} {K : Nat → Nat} {d C : Nat} {s : cS} {G : gm_H} {sz sl : Nat} {p0 : Nat} {s2 : cS} {r3 : Int32} {s5 : cS} {r7 : Int32} {s9 : cS} {r12 : Nat} {r13 : Int32} {s15 : cS} {r16 : Int32} {s18 : cS} (hN : N0 ≤ C) (t1 : gm_to N0 K ra_nm (ra_mt K) d 96 [.ref (C + 23)] (bM C (cH C s) G) sz (.returned none, (bM C (cH C s2) G), sz, 0)) (t4 : gm_to N0 K ra_nm (ra_mt K) d 27 [.ref (C + 5), .ref p0] (bM C (cH C s2) G) sz (.returned (some (.int r3)), (bM C (cH C s5) G), sz, 0)) (c6 : ¬ r3 = 0) (t8 : gm_to N0 K ra_nm (ra_mt K) d 28 [.ref (C + 5), .ref (C + 23)] (bM C (cH C s5) G) sz (.returned (some (.int r7)), (bM C (cH C s9) G), sz, 0)) (c10 : r7 = 0) (h11 : s9.2.2 80 = some r12) (t14 : gm_to N0 K ra_nm (ra_mt K) d 27 [.ref (C + 5), .ref r12] (bM C (cH C s9) G) sz (.returned (some (.int r13)), (bM C (cH C s15) G), sz, 0)) (t17 : gm_to N0 K ra_nm (ra_mt K) d 41 [.ref (C + 4), .ref (C + 21)] (bM C (cH C s15) G) sz (.returned (some (.int r16)), (bM C (cH C s18) G), sz, 0)) : gm_ev N0 K ra_nm (ra_mt K) d (some .boolean) (gm_I cX3_take) (gm_lkf (lkX3 false K)) 0 [some (.ref (C + 4)), some (.ref p0)] [] (bM C (cH C s) G) sz sl (.returned (some (.int (0 : Int32))), (bM C (cH C s18) G), sz, sl) := by
  refine gm_ev.aload_n i40_0 rfl ?_
  refine gm_ev.getfield (v := .ref (C + 23)) i40_1 rfl (bM_fld (j := 4) (fs := cF4 C s) rfl rfl) ?_
  refine gm_ev.callV gm_mono_run (av := []) (r := []) (ci := 9) (fs := cF23 C s) (bM_get (j := 23) rfl) i40_4 rfl rfl rfl (Nat.le_of_ble_eq_true rfl) t1 ?_
  refine gm_ev.aload_n i40_7 rfl ?_
  refine gm_ev.getfield (v := .ref (C + 5)) i40_8 rfl (bM_fld (j := 4) (fs := cF4 C s2) rfl rfl) ?_
  refine gm_ev.aload_n i40_11 rfl ?_
  refine gm_ev.callV gm_mono_run (av := [.ref p0]) (r := []) (ci := 2) (fs := cF5 C s2) (bM_get (j := 5) rfl) i40_12 rfl rfl rfl (Nat.le_of_ble_eq_true rfl) t4 ?_
  refine gm_ev.if_eq_f i40_15 c6 ?_
  refine gm_ev.aload_n i40_18 rfl ?_
  refine gm_ev.getfield (v := .ref (C + 5)) i40_19 rfl (bM_fld (j := 4) (fs := cF4 C s5) rfl rfl) ?_
  refine gm_ev.aload_n i40_22 rfl ?_
  refine gm_ev.getfield (v := .ref (C + 23)) i40_23 rfl (bM_fld (j := 4) (fs := cF4 C s5) rfl rfl) ?_
  refine gm_ev.callV gm_mono_run (av := [.ref (C + 23)]) (r := []) (ci := 2) (fs := cF5 C s5) (bM_get (j := 5) rfl) i40_26 rfl rfl rfl (Nat.le_of_ble_eq_true rfl) t8 ?_
  refine gm_ev.if_eq_t (tgt := 113) i40_29 (by decide) c10 ?_
  refine gm_ev.aload_n i40_113 rfl ?_
  refine gm_ev.getfield (v := .ref r12) i40_114 rfl (bM_fld (j := 4) (fs := cF4 C s9) rfl (cv_some h11)) ?_
  refine gm_ev.ifnull_f i40_117 ?_
  refine gm_ev.aload_n i40_120 rfl ?_
  refine gm_ev.getfield (v := .ref (C + 5)) i40_121 rfl (bM_fld (j := 4) (fs := cF4 C s9) rfl rfl) ?_
  refine gm_ev.aload_n i40_124 rfl ?_
  refine gm_ev.getfield (v := .ref r12) i40_125 rfl (bM_fld (j := 4) (fs := cF4 C s9) rfl (cv_some h11)) ?_
  refine gm_ev.callV gm_mono_run (av := [.ref r12]) (r := []) (ci := 2) (fs := cF5 C s9) (bM_get (j := 5) rfl) i40_128 rfl rfl rfl (Nat.le_of_ble_eq_true rfl) t14 ?_
  refine gm_ev.pop i40_131 rfl ?_
  refine gm_ev.aload_n i40_132 rfl ?_
  refine gm_ev.aload_n i40_133 rfl ?_
  refine gm_ev.getfield (v := .ref (C + 21)) i40_134 rfl (bM_fld (j := 4) (fs := cF4 C s15) rfl rfl) ?_
  refine gm_ev.callV gm_mono_run (av := [.ref (C + 21)]) (r := []) (ci := 3) (fs := cF4 C s15) (bM_get (j := 4) rfl) i40_137 rfl rfl rfl (Nat.le_of_ble_eq_true rfl) t17 ?_
  refine gm_ev.pop i40_140 rfl ?_
  refine gm_ev.iconst (v := 0) i40_141 (by decide) ?_
  exact gm_ev.zret i40_142 rfl (by decide)
theorem t_X3_take_0_fftn {N0 : Nat} {K : Nat → Nat} {d C : Nat} {s : cS} {G : gm_H} {sz sl : Nat} {p0 : Nat} {s2 : cS} {r3 : Int32} {s5 : cS} {r7 : Int32} {s9 : cS} {r11 : Int32} {s13 : cS} (hN : N0 ≤ C) (t1 : gm_to N0 K ra_nm (ra_mt K) d 96 [.ref (C + 23)] (bM C (cH C s) G) sz (.returned none, (bM C (cH C s2) G), sz, 0)) (t4 : gm_to N0 K ra_nm (ra_mt K) d 27 [.ref (C + 5), .ref p0] (bM C (cH C s2) G) sz (.returned (some (.int r3)), (bM C (cH C s5) G), sz, 0)) (c6 : ¬ r3 = 0) (t8 : gm_to N0 K ra_nm (ra_mt K) d 28 [.ref (C + 5), .ref (C + 23)] (bM C (cH C s5) G) sz (.returned (some (.int r7)), (bM C (cH C s9) G), sz, 0)) (c10 : ¬ r7 = 0) (t12 : gm_to N0 K ra_nm (ra_mt K) d 100 [.ref (C + 23), .ref (C + 6), .int (1 : Int32)] (bM C (cH C s9) G) sz (.returned (some (.int r11)), (bM C (cH C s13) G), sz, 0)) (c14 : r11 = 0) (h15 : s13.2.2 80 = none) : gm_ev N0 K ra_nm (ra_mt K) d (some .boolean) (gm_I cX3_take) (gm_lkf (lkX3 false K)) 0 [some (.ref (C + 4)), some (.ref p0)] [] (bM C (cH C s) G) sz sl (.returned (some (.int (0 : Int32))), (bM C (cH C s13) G), sz, sl) := by
  refine gm_ev.aload_n i40_0 rfl ?_
  refine gm_ev.getfield (v := .ref (C + 23)) i40_1 rfl (bM_fld (j := 4) (fs := cF4 C s) rfl rfl) ?_
  refine gm_ev.callV gm_mono_run (av := []) (r := []) (ci := 9) (fs := cF23 C s) (bM_get (j := 23) rfl) i40_4 rfl rfl rfl (Nat.le_of_ble_eq_true rfl) t1 ?_
  refine gm_ev.aload_n i40_7 rfl ?_
  refine gm_ev.getfield (v := .ref (C + 5)) i40_8 rfl (bM_fld (j := 4) (fs := cF4 C s2) rfl rfl) ?_
  refine gm_ev.aload_n i40_11 rfl ?_
  refine gm_ev.callV gm_mono_run (av := [.ref p0]) (r := []) (ci := 2) (fs := cF5 C s2) (bM_get (j := 5) rfl) i40_12 rfl rfl rfl (Nat.le_of_ble_eq_true rfl) t4 ?_
  refine gm_ev.if_eq_f i40_15 c6 ?_
  refine gm_ev.aload_n i40_18 rfl ?_
  refine gm_ev.getfield (v := .ref (C + 5)) i40_19 rfl (bM_fld (j := 4) (fs := cF4 C s5) rfl rfl) ?_
  refine gm_ev.aload_n i40_22 rfl ?_
  refine gm_ev.getfield (v := .ref (C + 23)) i40_23 rfl (bM_fld (j := 4) (fs := cF4 C s5) rfl rfl) ?_
  refine gm_ev.callV gm_mono_run (av := [.ref (C + 23)]) (r := []) (ci := 2) (fs := cF5 C s5) (bM_get (j := 5) rfl) i40_26 rfl rfl rfl (Nat.le_of_ble_eq_true rfl) t8 ?_
  refine gm_ev.if_eq_f i40_29 c10 ?_
  refine gm_ev.aload_n i40_32 rfl ?_
  refine gm_ev.getfield (v := .ref (C + 23)) i40_33 rfl (bM_fld (j := 4) (fs := cF4 C s9) rfl rfl) ?_
  refine gm_ev.aload_n i40_36 rfl ?_
  refine gm_ev.getfield (v := .ref (C + 5)) i40_37 rfl (bM_fld (j := 4) (fs := cF4 C s9) rfl rfl) ?_
  refine gm_ev.getfield (v := .ref (C + 6)) i40_40 rfl (bM_fld (j := 5) (fs := cF5 C s9) rfl rfl) ?_
  refine gm_ev.iconst (v := 1) i40_43 (by decide) ?_
  refine gm_ev.callV gm_mono_run (av := [.ref (C + 6), .int (1 : Int32)]) (r := []) (ci := 9) (fs := cF23 C s9) (bM_get (j := 23) rfl) i40_44 rfl rfl rfl (Nat.le_of_ble_eq_true rfl) t12 ?_
  refine gm_ev.if_eq_t (tgt := 113) i40_47 (by decide) c14 ?_
  refine gm_ev.aload_n i40_113 rfl ?_
  refine gm_ev.getfield (v := .null) i40_114 rfl (bM_fld (j := 4) (fs := cF4 C s13) rfl (cv_none h15)) ?_
  refine gm_ev.ifnull_t (tgt := 141) i40_117 (by decide) ?_
  refine gm_ev.iconst (v := 0) i40_141 (by decide) ?_
  exact gm_ev.zret i40_142 rfl (by decide)
theorem t_X3_take_0_fftr {N0 : Nat} {K : Nat → Nat} {d C : Nat} {s : cS} {G : gm_H} {sz sl : Nat} {p0 : Nat} {s2 : cS} {r3 : Int32} {s5 : cS} {r7 : Int32} {s9 : cS} {r11 : Int32} {s13 : cS} {r16 : Nat} {r17 : Int32} {s19 : cS} {r20 : Int32} {s22 : cS} (hN : N0 ≤ C) (t1 : gm_to N0 K ra_nm (ra_mt K) d 96 [.ref (C + 23)] (bM C (cH C s) G) sz (.returned none, (bM C (cH C s2) G), sz, 0)) (t4 : gm_to N0 K ra_nm (ra_mt K) d 27 [.ref (C + 5), .ref p0] (bM C (cH C s2) G) sz (.returned (some (.int r3)), (bM C (cH C s5) G), sz, 0)) (c6 : ¬ r3 = 0) (t8 : gm_to N0 K ra_nm (ra_mt K) d 28 [.ref (C + 5), .ref (C + 23)] (bM C (cH C s5) G) sz (.returned (some (.int r7)), (bM C (cH C s9) G), sz, 0)) (c10 : ¬ r7 = 0) (t12 : gm_to N0 K ra_nm (ra_mt K) d 100 [.ref (C + 23), .ref (C + 6), .int (1 : Int32)] (bM C (cH C s9) G) sz (.returned (some (.int r11)), (bM C (cH C s13) G), sz, 0)) (c14 : r11 = 0) (h15 : s13.2.2 80 = some r16) (t18 : gm_to N0 K ra_nm (ra_mt K) d 27 [.ref (C + 5), .ref r16] (bM C (cH C s13) G) sz (.returned (some (.int r17)), (bM C (cH C s19) G), sz, 0)) (t21 : gm_to N0 K ra_nm (ra_mt K) d 41 [.ref (C + 4), .ref (C + 21)] (bM C (cH C s19) G) sz (.returned (some (.int r20)), (bM C (cH C s22) G), sz, 0)) : gm_ev N0 K ra_nm (ra_mt K) d (some .boolean) (gm_I cX3_take) (gm_lkf (lkX3 false K)) 0 [some (.ref (C + 4)), some (.ref p0)] [] (bM C (cH C s) G) sz sl (.returned (some (.int (0 : Int32))), (bM C (cH C s22) G), sz, sl) := by
  refine gm_ev.aload_n i40_0 rfl ?_
  refine gm_ev.getfield (v := .ref (C + 23)) i40_1 rfl (bM_fld (j := 4) (fs := cF4 C s) rfl rfl) ?_
  refine gm_ev.callV gm_mono_run (av := []) (r := []) (ci := 9) (fs := cF23 C s) (bM_get (j := 23) rfl) i40_4 rfl rfl rfl (Nat.le_of_ble_eq_true rfl) t1 ?_
  refine gm_ev.aload_n i40_7 rfl ?_
  refine gm_ev.getfield (v := .ref (C + 5)) i40_8 rfl (bM_fld (j := 4) (fs := cF4 C s2) rfl rfl) ?_
  refine gm_ev.aload_n i40_11 rfl ?_
  refine gm_ev.callV gm_mono_run (av := [.ref p0]) (r := []) (ci := 2) (fs := cF5 C s2) (bM_get (j := 5) rfl) i40_12 rfl rfl rfl (Nat.le_of_ble_eq_true rfl) t4 ?_
  refine gm_ev.if_eq_f i40_15 c6 ?_
  refine gm_ev.aload_n i40_18 rfl ?_
  refine gm_ev.getfield (v := .ref (C + 5)) i40_19 rfl (bM_fld (j := 4) (fs := cF4 C s5) rfl rfl) ?_
  refine gm_ev.aload_n i40_22 rfl ?_
  refine gm_ev.getfield (v := .ref (C + 23)) i40_23 rfl (bM_fld (j := 4) (fs := cF4 C s5) rfl rfl) ?_
  refine gm_ev.callV gm_mono_run (av := [.ref (C + 23)]) (r := []) (ci := 2) (fs := cF5 C s5) (bM_get (j := 5) rfl) i40_26 rfl rfl rfl (Nat.le_of_ble_eq_true rfl) t8 ?_
  refine gm_ev.if_eq_f i40_29 c10 ?_
  refine gm_ev.aload_n i40_32 rfl ?_
  refine gm_ev.getfield (v := .ref (C + 23)) i40_33 rfl (bM_fld (j := 4) (fs := cF4 C s9) rfl rfl) ?_
  refine gm_ev.aload_n i40_36 rfl ?_
  refine gm_ev.getfield (v := .ref (C + 5)) i40_37 rfl (bM_fld (j := 4) (fs := cF4 C s9) rfl rfl) ?_
  refine gm_ev.getfield (v := .ref (C + 6)) i40_40 rfl (bM_fld (j := 5) (fs := cF5 C s9) rfl rfl) ?_
  refine gm_ev.iconst (v := 1) i40_43 (by decide) ?_
  refine gm_ev.callV gm_mono_run (av := [.ref (C + 6), .int (1 : Int32)]) (r := []) (ci := 9) (fs := cF23 C s9) (bM_get (j := 23) rfl) i40_44 rfl rfl rfl (Nat.le_of_ble_eq_true rfl) t12 ?_
  refine gm_ev.if_eq_t (tgt := 113) i40_47 (by decide) c14 ?_
  refine gm_ev.aload_n i40_113 rfl ?_
  refine gm_ev.getfield (v := .ref r16) i40_114 rfl (bM_fld (j := 4) (fs := cF4 C s13) rfl (cv_some h15)) ?_
  refine gm_ev.ifnull_f i40_117 ?_
  refine gm_ev.aload_n i40_120 rfl ?_
  refine gm_ev.getfield (v := .ref (C + 5)) i40_121 rfl (bM_fld (j := 4) (fs := cF4 C s13) rfl rfl) ?_
  refine gm_ev.aload_n i40_124 rfl ?_
  refine gm_ev.getfield (v := .ref r16) i40_125 rfl (bM_fld (j := 4) (fs := cF4 C s13) rfl (cv_some h15)) ?_
  refine gm_ev.callV gm_mono_run (av := [.ref r16]) (r := []) (ci := 2) (fs := cF5 C s13) (bM_get (j := 5) rfl) i40_128 rfl rfl rfl (Nat.le_of_ble_eq_true rfl) t18 ?_
  refine gm_ev.pop i40_131 rfl ?_
  refine gm_ev.aload_n i40_132 rfl ?_
  refine gm_ev.aload_n i40_133 rfl ?_
  refine gm_ev.getfield (v := .ref (C + 21)) i40_134 rfl (bM_fld (j := 4) (fs := cF4 C s19) rfl rfl) ?_
  refine gm_ev.callV gm_mono_run (av := [.ref (C + 21)]) (r := []) (ci := 3) (fs := cF4 C s19) (bM_get (j := 4) rfl) i40_137 rfl rfl rfl (Nat.le_of_ble_eq_true rfl) t21 ?_
  refine gm_ev.pop i40_140 rfl ?_
  refine gm_ev.iconst (v := 0) i40_141 (by decide) ?_
  exact gm_ev.zret i40_142 rfl (by decide)
