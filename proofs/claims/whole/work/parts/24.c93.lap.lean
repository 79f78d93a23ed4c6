/-! paths through the law, by program -/
theorem w_L_law_0__at23 {N0 : Nat} {K : Nat → Nat} {M : gm_H} {sz sl : Nat} {R : gm_R} {b : Nat} {M5 : gm_H} {sz6 : Nat} {dd7 : Nat} {M12 : gm_H} {sz13 : Nat} {dd14 : Nat} (bd1 : gm_bd M sz) (t4 : gm_toC (gm_lawC N0 K ra_nm (ra_mt K) 100 10 ra_wt) 102 [.ref sz] (gm_new M sz (.inr (10, [.null, .int 0, .int 0, .int 0, .null, .null, .null]))) (sz + 1) (.returned none, M5, sz6, dd7)) (bd8 : gm_bd M5 sz6) (t11 : gm_toC (gm_lawC N0 K ra_nm (ra_mt K) 100 10 ra_wt) 118 [.ref sz6] (gm_new M5 sz6 (.inr (11, [.int 0, .null, .int 0, .null, .int 0, .int 0, .int 0, .int 0, .null, .int 0, .int 0, .int 0, .null, .null, .null, .null, .null, .null, .null, .null, .int 0, .null, .null, .int 0, .int 0, .null, .null, .null, .int 0, .null, .int 0, .null, .int 0, .null, .int 0, .null, .int 0, .null, .int 0, .null, .null, .int 0, .int 0, .int 0, .null, .null, .null, .null, .null, .null]))) (sz6 + 1) (.returned none, M12, sz13, dd14)) (bd15 : gm_bd M12 sz13) (k : gm_evC N0 ra_nm (gm_lawC N0 K ra_nm (ra_mt K) 100 10 ra_wt) (some .boolean) (gm_I cL_law) (gm_lkf (lkL false K)) 23 [some (.ref b), some (.ref sz), some (.ref sz6), some (.ref sz13), some (.int (0 : Int32)), none, none] [] (gm_new M12 sz13 (.inl (.long, 1, .inr (.inl (fun _ => 0))))) (sz13 + 1) (((((sl + 7) + dd7) + 50) + dd14) + 1) R) : gm_evC N0 ra_nm (gm_lawC N0 K ra_nm (ra_mt K) 100 10 ra_wt) (some .boolean) (gm_I cL_law) (gm_lkf (lkL false K)) 0 [some (.ref b), none, none, none, none, none, none] [] M sz sl R := by
  refine gm_ev.new iL_0 rfl ?_
  have w2 : (gm_new M sz (.inr (10, [.null, .int 0, .int 0, .int 0, .null, .null, .null]))) sz = some (.inr (10, [.null, .int 0, .int 0, .int 0, .null, .null, .null])) := gm_set_eq
  have bd3 : gm_bd (gm_new M sz (.inr (10, [.null, .int 0, .int 0, .int 0, .null, .null, .null]))) (sz + 1) := gm_bd.new bd1
  refine gm_ev.dup iL_3 rfl ?_
  refine gm_ev.callI gm_mono_law (av := []) (r := [.ref sz]) iL_4 rfl rfl rfl (Nat.le_of_ble_eq_true rfl) t4 ?_
  refine gm_ev.astore_n (ls' := [some (.ref b), some (.ref sz), none, none, none, none, none]) iL_7 (Nat.le_of_ble_eq_true rfl) rfl ?_
  refine gm_ev.new iL_8 rfl ?_
  have w9 : (gm_new M5 sz6 (.inr (11, [.int 0, .null, .int 0, .null, .int 0, .int 0, .int 0, .int 0, .null, .int 0, .int 0, .int 0, .null, .null, .null, .null, .null, .null, .null, .null, .int 0, .null, .null, .int 0, .int 0, .null, .null, .null, .int 0, .null, .int 0, .null, .int 0, .null, .int 0, .null, .int 0, .null, .int 0, .null, .null, .int 0, .int 0, .int 0, .null, .null, .null, .null, .null, .null]))) sz6 = some (.inr (11, [.int 0, .null, .int 0, .null, .int 0, .int 0, .int 0, .int 0, .null, .int 0, .int 0, .int 0, .null, .null, .null, .null, .null, .null, .null, .null, .int 0, .null, .null, .int 0, .int 0, .null, .null, .null, .int 0, .null, .int 0, .null, .int 0, .null, .int 0, .null, .int 0, .null, .int 0, .null, .null, .int 0, .int 0, .int 0, .null, .null, .null, .null, .null, .null])) := gm_set_eq
  have bd10 : gm_bd (gm_new M5 sz6 (.inr (11, [.int 0, .null, .int 0, .null, .int 0, .int 0, .int 0, .int 0, .null, .int 0, .int 0, .int 0, .null, .null, .null, .null, .null, .null, .null, .null, .int 0, .null, .null, .int 0, .int 0, .null, .null, .null, .int 0, .null, .int 0, .null, .int 0, .null, .int 0, .null, .int 0, .null, .int 0, .null, .null, .int 0, .int 0, .int 0, .null, .null, .null, .null, .null, .null]))) (sz6 + 1) := gm_bd.new bd8
  refine gm_ev.dup iL_11 rfl ?_
  refine gm_ev.callI gm_mono_law (av := []) (r := [.ref sz6]) iL_12 rfl rfl rfl (Nat.le_of_ble_eq_true rfl) t11 ?_
  refine gm_ev.astore_n (ls' := [some (.ref b), some (.ref sz), some (.ref sz6), none, none, none, none]) iL_15 (Nat.le_of_ble_eq_true rfl) rfl ?_
  refine gm_ev.iconst (v := 1) iL_16 (by decide) ?_
  refine gm_ev.newarray (n := 1) iL_17 (by decide) (by decide) rfl ?_
  have w16 : (gm_new M12 sz13 (.inl (.long, 1, .inr (.inl (fun _ => 0))))) sz13 = some (.inl (.long, 1, .inr (.inl (fun _ => 0)))) := gm_set_eq
  have b18 : 1 < 2 ^ 31 := by decide
  have bd17 : gm_bd (gm_new M12 sz13 (.inl (.long, 1, .inr (.inl (fun _ => 0))))) (sz13 + 1) := gm_bd.new bd15
  refine gm_ev.astore_n (ls' := [some (.ref b), some (.ref sz), some (.ref sz6), some (.ref sz13), none, none, none]) iL_19 (Nat.le_of_ble_eq_true rfl) rfl ?_
  refine gm_ev.iconst (v := 0) iL_20 (by decide) ?_
  refine gm_ev.istore (ls' := [some (.ref b), some (.ref sz), some (.ref sz6), some (.ref sz13), some (.int (0 : Int32)), none, none]) iL_21 (Nat.le_of_ble_eq_true rfl) rfl ?_
  exact k
theorem w_L_law_23_t {N0 : Nat} {K : Nat → Nat} {M : gm_H} {sz sl : Nat} {b : Nat} {a1 : Nat} {a2 : Nat} {a3 : Nat} {x4 : Int32} {na1 : Nat} {fa1 : Nat → Int32} (ha1 : M b = some (.inl (gm_scr, na1, .inl fa1))) (ba1 : na1 < 2 ^ 31) (c2 : ((nI na1) - (4 : Int32)) < x4) : gm_evC N0 ra_nm (gm_lawC N0 K ra_nm (ra_mt K) 100 10 ra_wt) (some .boolean) (gm_I cL_law) (gm_lkf (lkL false K)) 23 [some (.ref b), some (.ref a1), some (.ref a2), some (.ref a3), some (.int x4), none, none] [] M sz sl (.returned (some (.int (1 : Int32))), M, sz, sl) := by
  refine gm_ev.iload iL_23 rfl ?_
  refine gm_ev.aload_n iL_25 rfl ?_
  refine gm_ev.alen iL_26 (gm_alen_of ha1) ?_
  refine gm_ev.iconst (v := 4) iL_27 (by decide) ?_
  refine gm_ev.isub iL_28 ?_
  refine gm_ev.icmp_gt_t (tgt := 644) iL_29 (by decide) c2 ?_
  refine gm_ev.iconst (v := 1) iL_644 (by decide) ?_
  exact gm_ev.zret iL_645 rfl (by decide)
theorem w_L_law_23_fs0t_at23 {N0 : Nat} {K : Nat → Nat} {M : gm_H} {sz sl : Nat} {R : gm_R} {b : Nat} {a1 : Nat} {a2 : Nat} {a3 : Nat} {x4 : Int32} {na1 : Nat} {fa1 : Nat → Int32} {k3 : Nat} {k5 : Nat} {k6 : Nat} {fso7 : List Value} {r8 : Int32} {M10 : gm_H} {sz11 : Nat} {dd12 : Nat} {na13 : Nat} {fa13 : Nat → Int32} {k14 : Nat} {k15 : Nat} {fso16 : List Value} {r17 : Int32} {M19 : gm_H} {sz20 : Nat} {dd21 : Nat} (ha1 : M b = some (.inl (gm_scr, na1, .inl fa1))) (ba1 : na1 < 2 ^ 31) (c2 : ¬ ((nI na1) - (4 : Int32)) < x4) (ek3 : x4 = nI k3) (lk3 : k3 < na1) (c4 : ((fa1 k3) &&& (15 : Int32)) = 0) (ek5 : (x4 + (1 : Int32)) = nI k5) (lk5 : k5 < na1) (ek6 : (x4 + (2 : Int32)) = nI k6) (lk6 : k6 < na1) (ho7 : M a1 = some (.inr (10, fso7))) (t9 : gm_toC (gm_lawC N0 K ra_nm (ra_mt K) 100 10 ra_wt) 103 [.ref a1, .long ((((fa1 k5).toInt64) <<< (((32 : Int32)).toInt64 &&& 63)) ||| (((fa1 k6).toInt64) &&& (4294967295 : Int64)))] M sz (.returned (some (.int r8)), M10, sz11, dd12)) (ha13 : M10 b = some (.inl (gm_scr, na13, .inl fa13))) (ba13 : na13 < 2 ^ 31) (ek14 : (x4 + (1 : Int32)) = nI k14) (lk14 : k14 < na13) (ek15 : (x4 + (2 : Int32)) = nI k15) (lk15 : k15 < na13) (ho16 : M10 a2 = some (.inr (11, fso16))) (t18 : gm_toC (gm_lawC N0 K ra_nm (ra_mt K) 100 10 ra_wt) 121 [.ref a2, .long ((((fa13 k14).toInt64) <<< (((32 : Int32)).toInt64 &&& 63)) ||| (((fa13 k15).toInt64) &&& (4294967295 : Int64)))] M10 sz11 (.returned (some (.int r17)), M19, sz20, dd21)) (c22 : r8 = r17) (k : gm_evC N0 ra_nm (gm_lawC N0 K ra_nm (ra_mt K) 100 10 ra_wt) (some .boolean) (gm_I cL_law) (gm_lkf (lkL false K)) 23 [some (.ref b), some (.ref a1), some (.ref a2), some (.ref a3), some (.int (x4 + (4 : Int32))), none, none] [] M19 sz20 ((sl + dd12) + dd21) R) : gm_evC N0 ra_nm (gm_lawC N0 K ra_nm (ra_mt K) 100 10 ra_wt) (some .boolean) (gm_I cL_law) (gm_lkf (lkL false K)) 23 [some (.ref b), some (.ref a1), some (.ref a2), some (.ref a3), some (.int x4), none, none] [] M sz sl R := by
  refine gm_ev.iload iL_23 rfl ?_
  refine gm_ev.aload_n iL_25 rfl ?_
  refine gm_ev.alen iL_26 (gm_alen_of ha1) ?_
  refine gm_ev.iconst (v := 4) iL_27 (by decide) ?_
  refine gm_ev.isub iL_28 ?_
  refine gm_ev.icmp_gt_f iL_29 c2 ?_
  refine gm_ev.aload_n iL_32 rfl ?_
  refine gm_ev.iload iL_33 rfl ?_
  refine gm_ev.ialoadS iL_35 (gm_ai_of ha1 ek3 lk3 ba1) ?_
  refine gm_ev.bipush (v := 15) iL_36 (by decide) ?_
  refine gm_ev.iand iL_38 ?_
  refine gm_ev.tableIn (tgt := 112) (off := 73) iL_39 (by rw [c4]; decide) (by rw [c4]; decide) (by decide) ?_
  refine gm_ev.aload_n iL_112 rfl ?_
  refine gm_ev.aload_n iL_113 rfl ?_
  refine gm_ev.iload iL_114 rfl ?_
  refine gm_ev.iconst (v := 1) iL_116 (by decide) ?_
  refine gm_ev.iadd iL_117 ?_
  refine gm_ev.ialoadS iL_118 (gm_ai_of ha1 ek5 lk5 ba1) ?_
  refine gm_ev.i2l iL_119 ?_
  refine gm_ev.bipush (v := 32) iL_120 (by decide) ?_
  refine gm_ev.lshl iL_122 ?_
  refine gm_ev.aload_n iL_123 rfl ?_
  refine gm_ev.iload iL_124 rfl ?_
  refine gm_ev.iconst (v := 2) iL_126 (by decide) ?_
  refine gm_ev.iadd iL_127 ?_
  refine gm_ev.ialoadS iL_128 (gm_ai_of ha1 ek6 lk6 ba1) ?_
  refine gm_ev.i2l iL_129 ?_
  refine gm_ev.ldc2 iL_130 rfl ?_
  refine gm_ev.land iL_133 ?_
  refine gm_ev.lor iL_134 ?_
  refine gm_ev.callV gm_mono_law (av := [.long ((((fa1 k5).toInt64) <<< (((32 : Int32)).toInt64 &&& 63)) ||| (((fa1 k6).toInt64) &&& (4294967295 : Int64)))]) (r := []) (fs := fso7) ho7 iL_135 rfl rfl rfl (Nat.le_of_ble_eq_true rfl) t9 ?_
  refine gm_ev.aload_n iL_138 rfl ?_
  refine gm_ev.aload_n iL_139 rfl ?_
  refine gm_ev.iload iL_140 rfl ?_
  refine gm_ev.iconst (v := 1) iL_142 (by decide) ?_
  refine gm_ev.iadd iL_143 ?_
  refine gm_ev.ialoadS iL_144 (gm_ai_of ha13 ek14 lk14 ba13) ?_
  refine gm_ev.i2l iL_145 ?_
  refine gm_ev.bipush (v := 32) iL_146 (by decide) ?_
  refine gm_ev.lshl iL_148 ?_
  refine gm_ev.aload_n iL_149 rfl ?_
  refine gm_ev.iload iL_150 rfl ?_
  refine gm_ev.iconst (v := 2) iL_152 (by decide) ?_
  refine gm_ev.iadd iL_153 ?_
  refine gm_ev.ialoadS iL_154 (gm_ai_of ha13 ek15 lk15 ba13) ?_
  refine gm_ev.i2l iL_155 ?_
  refine gm_ev.ldc2 iL_156 rfl ?_
  refine gm_ev.land iL_159 ?_
  refine gm_ev.lor iL_160 ?_
  refine gm_ev.callV gm_mono_law (av := [.long ((((fa13 k14).toInt64) <<< (((32 : Int32)).toInt64 &&& 63)) ||| (((fa13 k15).toInt64) &&& (4294967295 : Int64)))]) (r := [.int r8]) (fs := fso16) ho16 iL_161 rfl rfl rfl (Nat.le_of_ble_eq_true rfl) t18 ?_
  refine gm_ev.icmp_eq_t (tgt := 638) iL_164 (by decide) c22 ?_
  refine gm_ev.iinc (v := x4 + (4 : Int32)) (ls' := [some (.ref b), some (.ref a1), some (.ref a2), some (.ref a3), some (.int (x4 + (4 : Int32))), none, none]) iL_638 rfl (by rfl) rfl ?_
  refine gm_ev.goto (tgt := 23) iL_641 (by decide) ?_
  exact k
theorem w_L_law_23_fs0f {N0 : Nat} {K : Nat → Nat} {M : gm_H} {sz sl : Nat} {b : Nat} {a1 : Nat} {a2 : Nat} {a3 : Nat} {x4 : Int32} {na1 : Nat} {fa1 : Nat → Int32} {k3 : Nat} {k5 : Nat} {k6 : Nat} {fso7 : List Value} {r8 : Int32} {M10 : gm_H} {sz11 : Nat} {dd12 : Nat} {na13 : Nat} {fa13 : Nat → Int32} {k14 : Nat} {k15 : Nat} {fso16 : List Value} {r17 : Int32} {M19 : gm_H} {sz20 : Nat} {dd21 : Nat} (ha1 : M b = some (.inl (gm_scr, na1, .inl fa1))) (ba1 : na1 < 2 ^ 31) (c2 : ¬ ((nI na1) - (4 : Int32)) < x4) (ek3 : x4 = nI k3) (lk3 : k3 < na1) (c4 : ((fa1 k3) &&& (15 : Int32)) = 0) (ek5 : (x4 + (1 : Int32)) = nI k5) (lk5 : k5 < na1) (ek6 : (x4 + (2 : Int32)) = nI k6) (lk6 : k6 < na1) (ho7 : M a1 = some (.inr (10, fso7))) (t9 : gm_toC (gm_lawC N0 K ra_nm (ra_mt K) 100 10 ra_wt) 103 [.ref a1, .long ((((fa1 k5).toInt64) <<< (((32 : Int32)).toInt64 &&& 63)) ||| (((fa1 k6).toInt64) &&& (4294967295 : Int64)))] M sz (.returned (some (.int r8)), M10, sz11, dd12)) (ha13 : M10 b = some (.inl (gm_scr, na13, .inl fa13))) (ba13 : na13 < 2 ^ 31) (ek14 : (x4 + (1 : Int32)) = nI k14) (lk14 : k14 < na13) (ek15 : (x4 + (2 : Int32)) = nI k15) (lk15 : k15 < na13) (ho16 : M10 a2 = some (.inr (11, fso16))) (t18 : gm_toC (gm_lawC N0 K ra_nm (ra_mt K) 100 10 ra_wt) 121 [.ref a2, .long ((((fa13 k14).toInt64) <<< (((32 : Int32)).toInt64 &&& 63)) ||| (((fa13 k15).toInt64) &&& (4294967295 : Int64)))] M10 sz11 (.returned (some (.int r17)), M19, sz20, dd21)) (c22 : ¬ r8 = r17) : gm_evC N0 ra_nm (gm_lawC N0 K ra_nm (ra_mt K) 100 10 ra_wt) (some .boolean) (gm_I cL_law) (gm_lkf (lkL false K)) 23 [some (.ref b), some (.ref a1), some (.ref a2), some (.ref a3), some (.int x4), none, none] [] M sz sl (.returned (some (.int (0 : Int32))), M19, sz20, ((sl + dd12) + dd21)) := by
  refine gm_ev.iload iL_23 rfl ?_
  refine gm_ev.aload_n iL_25 rfl ?_
  refine gm_ev.alen iL_26 (gm_alen_of ha1) ?_
  refine gm_ev.iconst (v := 4) iL_27 (by decide) ?_
  refine gm_ev.isub iL_28 ?_
  refine gm_ev.icmp_gt_f iL_29 c2 ?_
  refine gm_ev.aload_n iL_32 rfl ?_
  refine gm_ev.iload iL_33 rfl ?_
  refine gm_ev.ialoadS iL_35 (gm_ai_of ha1 ek3 lk3 ba1) ?_
  refine gm_ev.bipush (v := 15) iL_36 (by decide) ?_
  refine gm_ev.iand iL_38 ?_
  refine gm_ev.tableIn (tgt := 112) (off := 73) iL_39 (by rw [c4]; decide) (by rw [c4]; decide) (by decide) ?_
  refine gm_ev.aload_n iL_112 rfl ?_
  refine gm_ev.aload_n iL_113 rfl ?_
  refine gm_ev.iload iL_114 rfl ?_
  refine gm_ev.iconst (v := 1) iL_116 (by decide) ?_
  refine gm_ev.iadd iL_117 ?_
  refine gm_ev.ialoadS iL_118 (gm_ai_of ha1 ek5 lk5 ba1) ?_
  refine gm_ev.i2l iL_119 ?_
  refine gm_ev.bipush (v := 32) iL_120 (by decide) ?_
  refine gm_ev.lshl iL_122 ?_
  refine gm_ev.aload_n iL_123 rfl ?_
  refine gm_ev.iload iL_124 rfl ?_
  refine gm_ev.iconst (v := 2) iL_126 (by decide) ?_
  refine gm_ev.iadd iL_127 ?_
  refine gm_ev.ialoadS iL_128 (gm_ai_of ha1 ek6 lk6 ba1) ?_
  refine gm_ev.i2l iL_129 ?_
  refine gm_ev.ldc2 iL_130 rfl ?_
  refine gm_ev.land iL_133 ?_
  refine gm_ev.lor iL_134 ?_
  refine gm_ev.callV gm_mono_law (av := [.long ((((fa1 k5).toInt64) <<< (((32 : Int32)).toInt64 &&& 63)) ||| (((fa1 k6).toInt64) &&& (4294967295 : Int64)))]) (r := []) (fs := fso7) ho7 iL_135 rfl rfl rfl (Nat.le_of_ble_eq_true rfl) t9 ?_
  refine gm_ev.aload_n iL_138 rfl ?_
  refine gm_ev.aload_n iL_139 rfl ?_
  refine gm_ev.iload iL_140 rfl ?_
  refine gm_ev.iconst (v := 1) iL_142 (by decide) ?_
  refine gm_ev.iadd iL_143 ?_
  refine gm_ev.ialoadS iL_144 (gm_ai_of ha13 ek14 lk14 ba13) ?_
  refine gm_ev.i2l iL_145 ?_
  refine gm_ev.bipush (v := 32) iL_146 (by decide) ?_
  refine gm_ev.lshl iL_148 ?_
  refine gm_ev.aload_n iL_149 rfl ?_
  refine gm_ev.iload iL_150 rfl ?_
  refine gm_ev.iconst (v := 2) iL_152 (by decide) ?_
  refine gm_ev.iadd iL_153 ?_
  refine gm_ev.ialoadS iL_154 (gm_ai_of ha13 ek15 lk15 ba13) ?_
  refine gm_ev.i2l iL_155 ?_
  refine gm_ev.ldc2 iL_156 rfl ?_
  refine gm_ev.land iL_159 ?_
  refine gm_ev.lor iL_160 ?_
  refine gm_ev.callV gm_mono_law (av := [.long ((((fa13 k14).toInt64) <<< (((32 : Int32)).toInt64 &&& 63)) ||| (((fa13 k15).toInt64) &&& (4294967295 : Int64)))]) (r := [.int r8]) (fs := fso16) ho16 iL_161 rfl rfl rfl (Nat.le_of_ble_eq_true rfl) t18 ?_
  refine gm_ev.icmp_eq_f iL_164 c22 ?_
  refine gm_ev.iconst (v := 0) iL_167 (by decide) ?_
  exact gm_ev.zret iL_168 rfl (by decide)
theorem w_L_law_23_fs1_at23 {N0 : Nat} {K : Nat → Nat} {M : gm_H} {sz sl : Nat} {R : gm_R} {b : Nat} {a1 : Nat} {a2 : Nat} {a3 : Nat} {x4 : Int32} {na1 : Nat} {fa1 : Nat → Int32} {k3 : Nat} {fso5 : List Value} {M7 : gm_H} {sz8 : Nat} {dd9 : Nat} {fso10 : List Value} {M12 : gm_H} {sz13 : Nat} {dd14 : Nat} (ha1 : M b = some (.inl (gm_scr, na1, .inl fa1))) (ba1 : na1 < 2 ^ 31) (c2 : ¬ ((nI na1) - (4 : Int32)) < x4) (ek3 : x4 = nI k3) (lk3 : k3 < na1) (c4 : ((fa1 k3) &&& (15 : Int32)) = 1) (ho5 : M a1 = some (.inr (10, fso5))) (t6 : gm_toC (gm_lawC N0 K ra_nm (ra_mt K) 100 10 ra_wt) 104 [.ref a1] M sz (.returned none, M7, sz8, dd9)) (ho10 : M7 a2 = some (.inr (11, fso10))) (t11 : gm_toC (gm_lawC N0 K ra_nm (ra_mt K) 100 10 ra_wt) 122 [.ref a2] M7 sz8 (.returned none, M12, sz13, dd14)) (k : gm_evC N0 ra_nm (gm_lawC N0 K ra_nm (ra_mt K) 100 10 ra_wt) (some .boolean) (gm_I cL_law) (gm_lkf (lkL false K)) 23 [some (.ref b), some (.ref a1), some (.ref a2), some (.ref a3), some (.int (x4 + (4 : Int32))), none, none] [] M12 sz13 ((sl + dd9) + dd14) R) : gm_evC N0 ra_nm (gm_lawC N0 K ra_nm (ra_mt K) 100 10 ra_wt) (some .boolean) (gm_I cL_law) (gm_lkf (lkL false K)) 23 [some (.ref b), some (.ref a1), some (.ref a2), some (.ref a3), some (.int x4), none, none] [] M sz sl R := by
  refine gm_ev.iload iL_23 rfl ?_
  refine gm_ev.aload_n iL_25 rfl ?_
  refine gm_ev.alen iL_26 (gm_alen_of ha1) ?_
  refine gm_ev.iconst (v := 4) iL_27 (by decide) ?_
  refine gm_ev.isub iL_28 ?_
  refine gm_ev.icmp_gt_f iL_29 c2 ?_
  refine gm_ev.aload_n iL_32 rfl ?_
  refine gm_ev.iload iL_33 rfl ?_
  refine gm_ev.ialoadS iL_35 (gm_ai_of ha1 ek3 lk3 ba1) ?_
  refine gm_ev.bipush (v := 15) iL_36 (by decide) ?_
  refine gm_ev.iand iL_38 ?_
  refine gm_ev.tableIn (tgt := 169) (off := 130) iL_39 (by rw [c4]; decide) (by rw [c4]; decide) (by decide) ?_
  refine gm_ev.aload_n iL_169 rfl ?_
  refine gm_ev.callV gm_mono_law (av := []) (r := []) (fs := fso5) ho5 iL_170 rfl rfl rfl (Nat.le_of_ble_eq_true rfl) t6 ?_
  refine gm_ev.aload_n iL_173 rfl ?_
  refine gm_ev.callV gm_mono_law (av := []) (r := []) (fs := fso10) ho10 iL_174 rfl rfl rfl (Nat.le_of_ble_eq_true rfl) t11 ?_
  refine gm_ev.goto (tgt := 638) iL_177 (by decide) ?_
  refine gm_ev.iinc (v := x4 + (4 : Int32)) (ls' := [some (.ref b), some (.ref a1), some (.ref a2), some (.ref a3), some (.int (x4 + (4 : Int32))), none, none]) iL_638 rfl (by rfl) rfl ?_
  refine gm_ev.goto (tgt := 23) iL_641 (by decide) ?_
  exact k
theorem w_L_law_23_fs2tt_at23 {N0 : Nat} {K : Nat → Nat} {M : gm_H} {sz sl : Nat} {R : gm_R} {b : Nat} {a1 : Nat} {a2 : Nat} {a3 : Nat} {x4 : Int32} {na1 : Nat} {fa1 : Nat → Int32} {k3 : Nat} {r5 : Int32} {M7 : gm_H} {sz8 : Nat} {dd9 : Nat} {fso10 : List Value} {r11 : Int32} {M13 : gm_H} {sz14 : Nat} {dd15 : Nat} {fso16 : List Value} {r17 : Int32} {M19 : gm_H} {sz20 : Nat} {dd21 : Nat} (ha1 : M b = some (.inl (gm_scr, na1, .inl fa1))) (ba1 : na1 < 2 ^ 31) (c2 : ¬ ((nI na1) - (4 : Int32)) < x4) (ek3 : x4 = nI k3) (lk3 : k3 < na1) (c4 : ((fa1 k3) &&& (15 : Int32)) = 2) (t6 : gm_toC (gm_lawC N0 K ra_nm (ra_mt K) 100 10 ra_wt) 1000 [.ref a1, .ref a3] M sz (.returned (some (.int r5)), M7, sz8, dd9)) (ho10 : M7 a2 = some (.inr (11, fso10))) (t12 : gm_toC (gm_lawC N0 K ra_nm (ra_mt K) 100 10 ra_wt) 167 [.ref a2] M7 sz8 (.returned (some (.int r11)), M13, sz14, dd15)) (ho16 : M13 a2 = some (.inr (11, fso16))) (t18 : gm_toC (gm_lawC N0 K ra_nm (ra_mt K) 100 10 ra_wt) 119 [.ref a2] M13 sz14 (.returned (some (.int r17)), M19, sz20, dd21)) (c22 : r17 = r5) (c23 : ¬ r5 = 0) (k : gm_evC N0 ra_nm (gm_lawC N0 K ra_nm (ra_mt K) 100 10 ra_wt) (some .boolean) (gm_I cL_law) (gm_lkf (lkL false K)) 23 [some (.ref b), some (.ref a1), some (.ref a2), some (.ref a3), some (.int (x4 + (4 : Int32))), none, none] [] M19 sz20 (((sl + dd9) + dd15) + dd21) R) : gm_evC N0 ra_nm (gm_lawC N0 K ra_nm (ra_mt K) 100 10 ra_wt) (some .boolean) (gm_I cL_law) (gm_lkf (lkL false K)) 23 [some (.ref b), some (.ref a1), some (.ref a2), some (.ref a3), some (.int x4), none, none] [] M sz sl R := by
  refine gm_ev.iload iL_23 rfl ?_
  refine gm_ev.aload_n iL_25 rfl ?_
  refine gm_ev.alen iL_26 (gm_alen_of ha1) ?_
  refine gm_ev.iconst (v := 4) iL_27 (by decide) ?_
  refine gm_ev.isub iL_28 ?_
  refine gm_ev.icmp_gt_f iL_29 c2 ?_
  refine gm_ev.aload_n iL_32 rfl ?_
  refine gm_ev.iload iL_33 rfl ?_
  refine gm_ev.ialoadS iL_35 (gm_ai_of ha1 ek3 lk3 ba1) ?_
  refine gm_ev.bipush (v := 15) iL_36 (by decide) ?_
  refine gm_ev.iand iL_38 ?_
  refine gm_ev.tableIn (tgt := 180) (off := 141) iL_39 (by rw [c4]; decide) (by rw [c4]; decide) (by decide) ?_
  refine gm_ev.aload_n iL_180 rfl ?_
  refine gm_ev.aload_n iL_181 rfl ?_
  refine gm_ev.callS gm_mono_law (av := [.ref a1, .ref a3]) (r := []) iL_182 rfl rfl rfl (Nat.le_of_ble_eq_true rfl) t6 ?_
  refine gm_ev.istore (ls' := [some (.ref b), some (.ref a1), some (.ref a2), some (.ref a3), some (.int x4), some (.int r5), none]) iL_185 (Nat.le_of_ble_eq_true rfl) rfl ?_
  refine gm_ev.aload_n iL_187 rfl ?_
  refine gm_ev.callV gm_mono_law (av := []) (r := []) (fs := fso10) ho10 iL_188 rfl rfl rfl (Nat.le_of_ble_eq_true rfl) t12 ?_
  refine gm_ev.istore (ls' := [some (.ref b), some (.ref a1), some (.ref a2), some (.ref a3), some (.int x4), some (.int r5), some (.int r11)]) iL_191 (Nat.le_of_ble_eq_true rfl) rfl ?_
  refine gm_ev.aload_n iL_193 rfl ?_
  refine gm_ev.callV gm_mono_law (av := []) (r := []) (fs := fso16) ho16 iL_194 rfl rfl rfl (Nat.le_of_ble_eq_true rfl) t18 ?_
  refine gm_ev.iload iL_197 rfl ?_
  refine gm_ev.icmp_eq_t (tgt := 204) iL_199 (by decide) c22 ?_
  refine gm_ev.iload iL_204 rfl ?_
  refine gm_ev.if_ne_t (tgt := 221) iL_206 (by decide) c23 ?_
  refine gm_ev.goto (tgt := 638) iL_221 (by decide) ?_
  refine gm_ev.iinc (v := x4 + (4 : Int32)) (ls' := [some (.ref b), some (.ref a1), some (.ref a2), some (.ref a3), some (.int (x4 + (4 : Int32))), some (.int r5), some (.int r11)]) iL_638 rfl (by rfl) rfl ?_
  refine gm_ev.goto (tgt := 23) iL_641 (by decide) ?_
  refine gm_ev.le (a := [some (.ref b), some (.ref a1), some (.ref a2), some (.ref a3), some (.int (x4 + (4 : Int32))), none, none]) (gm_leL.le (show gm_leL _ _ from ⟨rfl, ⟨rfl, ⟨rfl, ⟨rfl, ⟨rfl, trivial⟩⟩⟩⟩⟩)) ?_
  exact k
theorem w_L_law_23_fs2tft_at23 {N0 : Nat} {K : Nat → Nat} {M : gm_H} {sz sl : Nat} {R : gm_R} {b : Nat} {a1 : Nat} {a2 : Nat} {a3 : Nat} {x4 : Int32} {na1 : Nat} {fa1 : Nat → Int32} {k3 : Nat} {r5 : Int32} {M7 : gm_H} {sz8 : Nat} {dd9 : Nat} {fso10 : List Value} {r11 : Int32} {M13 : gm_H} {sz14 : Nat} {dd15 : Nat} {fso16 : List Value} {r17 : Int32} {M19 : gm_H} {sz20 : Nat} {dd21 : Nat} {na24 : Nat} {fa24 : Nat → Int64} {k25 : Nat} (ha1 : M b = some (.inl (gm_scr, na1, .inl fa1))) (ba1 : na1 < 2 ^ 31) (c2 : ¬ ((nI na1) - (4 : Int32)) < x4) (ek3 : x4 = nI k3) (lk3 : k3 < na1) (c4 : ((fa1 k3) &&& (15 : Int32)) = 2) (t6 : gm_toC (gm_lawC N0 K ra_nm (ra_mt K) 100 10 ra_wt) 1000 [.ref a1, .ref a3] M sz (.returned (some (.int r5)), M7, sz8, dd9)) (ho10 : M7 a2 = some (.inr (11, fso10))) (t12 : gm_toC (gm_lawC N0 K ra_nm (ra_mt K) 100 10 ra_wt) 167 [.ref a2] M7 sz8 (.returned (some (.int r11)), M13, sz14, dd15)) (ho16 : M13 a2 = some (.inr (11, fso16))) (t18 : gm_toC (gm_lawC N0 K ra_nm (ra_mt K) 100 10 ra_wt) 119 [.ref a2] M13 sz14 (.returned (some (.int r17)), M19, sz20, dd21)) (c22 : r17 = r5) (c23 : r5 = 0) (ha24 : M19 a3 = some (.inl (.long, na24, .inr (.inl fa24)))) (ba24 : na24 < 2 ^ 31) (ek25 : (0 : Int32) = nI k25) (lk25 : k25 < na24) (c26 : (lg_cmp (fa24 k25) r11.toInt64) = 0) (k : gm_evC N0 ra_nm (gm_lawC N0 K ra_nm (ra_mt K) 100 10 ra_wt) (some .boolean) (gm_I cL_law) (gm_lkf (lkL false K)) 23 [some (.ref b), some (.ref a1), some (.ref a2), some (.ref a3), some (.int (x4 + (4 : Int32))), none, none] [] M19 sz20 (((sl + dd9) + dd15) + dd21) R) : gm_evC N0 ra_nm (gm_lawC N0 K ra_nm (ra_mt K) 100 10 ra_wt) (some .boolean) (gm_I cL_law) (gm_lkf (lkL false K)) 23 [some (.ref b), some (.ref a1), some (.ref a2), some (.ref a3), some (.int x4), none, none] [] M sz sl R := by
  refine gm_ev.iload iL_23 rfl ?_
  refine gm_ev.aload_n iL_25 rfl ?_
  refine gm_ev.alen iL_26 (gm_alen_of ha1) ?_
  refine gm_ev.iconst (v := 4) iL_27 (by decide) ?_
  refine gm_ev.isub iL_28 ?_
  refine gm_ev.icmp_gt_f iL_29 c2 ?_
  refine gm_ev.aload_n iL_32 rfl ?_
  refine gm_ev.iload iL_33 rfl ?_
  refine gm_ev.ialoadS iL_35 (gm_ai_of ha1 ek3 lk3 ba1) ?_
  refine gm_ev.bipush (v := 15) iL_36 (by decide) ?_
  refine gm_ev.iand iL_38 ?_
  refine gm_ev.tableIn (tgt := 180) (off := 141) iL_39 (by rw [c4]; decide) (by rw [c4]; decide) (by decide) ?_
  refine gm_ev.aload_n iL_180 rfl ?_
  refine gm_ev.aload_n iL_181 rfl ?_
  refine gm_ev.callS gm_mono_law (av := [.ref a1, .ref a3]) (r := []) iL_182 rfl rfl rfl (Nat.le_of_ble_eq_true rfl) t6 ?_
  refine gm_ev.istore (ls' := [some (.ref b), some (.ref a1), some (.ref a2), some (.ref a3), some (.int x4), some (.int r5), none]) iL_185 (Nat.le_of_ble_eq_true rfl) rfl ?_
  refine gm_ev.aload_n iL_187 rfl ?_
  refine gm_ev.callV gm_mono_law (av := []) (r := []) (fs := fso10) ho10 iL_188 rfl rfl rfl (Nat.le_of_ble_eq_true rfl) t12 ?_
  refine gm_ev.istore (ls' := [some (.ref b), some (.ref a1), some (.ref a2), some (.ref a3), some (.int x4), some (.int r5), some (.int r11)]) iL_191 (Nat.le_of_ble_eq_true rfl) rfl ?_
  refine gm_ev.aload_n iL_193 rfl ?_
  refine gm_ev.callV gm_mono_law (av := []) (r := []) (fs := fso16) ho16 iL_194 rfl rfl rfl (Nat.le_of_ble_eq_true rfl) t18 ?_
  refine gm_ev.iload iL_197 rfl ?_
  refine gm_ev.icmp_eq_t (tgt := 204) iL_199 (by decide) c22 ?_
  refine gm_ev.iload iL_204 rfl ?_
  refine gm_ev.if_ne_f iL_206 c23 ?_
  refine gm_ev.aload_n iL_209 rfl ?_
  refine gm_ev.iconst (v := 0) iL_210 (by decide) ?_
  refine gm_ev.laload iL_211 (gm_al_of ha24 ek25 lk25 ba24) ?_
  refine gm_ev.iload iL_212 rfl ?_
  refine gm_ev.i2l iL_214 ?_
  refine gm_ev.lcmp iL_215 ?_
  refine gm_ev.if_eq_t (tgt := 221) iL_216 (by decide) c26 ?_
  refine gm_ev.goto (tgt := 638) iL_221 (by decide) ?_
  refine gm_ev.iinc (v := x4 + (4 : Int32)) (ls' := [some (.ref b), some (.ref a1), some (.ref a2), some (.ref a3), some (.int (x4 + (4 : Int32))), some (.int r5), some (.int r11)]) iL_638 rfl (by rfl) rfl ?_
  refine gm_ev.goto (tgt := 23) iL_641 (by decide) ?_
  refine gm_ev.le (a := [some (.ref b), some (.ref a1), some (.ref a2), some (.ref a3), some (.int (x4 + (4 : Int32))), none, none]) (gm_leL.le (show gm_leL _ _ from ⟨rfl, ⟨rfl, ⟨rfl, ⟨rfl, ⟨rfl, trivial⟩⟩⟩⟩⟩)) ?_
  exact k
theorem w_L_law_23_fs2tff {N0 : Nat} {K : Nat → Nat} {M : gm_H} {sz sl : Nat} {b : Nat} {a1 : Nat} {a2 : Nat} {a3 : Nat} {x4 : Int32} {na1 : Nat} {fa1 : Nat → Int32} {k3 : Nat} {r5 : Int32} {M7 : gm_H} {sz8 : Nat} {dd9 : Nat} {fso10 : List Value} {r11 : Int32} {M13 : gm_H} {sz14 : Nat} {dd15 : Nat} {fso16 : List Value} {r17 : Int32} {M19 : gm_H} {sz20 : Nat} {dd21 : Nat} {na24 : Nat} {fa24 : Nat → Int64} {k25 : Nat} (ha1 : M b = some (.inl (gm_scr, na1, .inl fa1))) (ba1 : na1 < 2 ^ 31) (c2 : ¬ ((nI na1) - (4 : Int32)) < x4) (ek3 : x4 = nI k3) (lk3 : k3 < na1) (c4 : ((fa1 k3) &&& (15 : Int32)) = 2) (t6 : gm_toC (gm_lawC N0 K ra_nm (ra_mt K) 100 10 ra_wt) 1000 [.ref a1, .ref a3] M sz (.returned (some (.int r5)), M7, sz8, dd9)) (ho10 : M7 a2 = some (.inr (11, fso10))) (t12 : gm_toC (gm_lawC N0 K ra_nm (ra_mt K) 100 10 ra_wt) 167 [.ref a2] M7 sz8 (.returned (some (.int r11)), M13, sz14, dd15)) (ho16 : M13 a2 = some (.inr (11, fso16))) (t18 : gm_toC (gm_lawC N0 K ra_nm (ra_mt K) 100 10 ra_wt) 119 [.ref a2] M13 sz14 (.returned (some (.int r17)), M19, sz20, dd21)) (c22 : r17 = r5) (c23 : r5 = 0) (ha24 : M19 a3 = some (.inl (.long, na24, .inr (.inl fa24)))) (ba24 : na24 < 2 ^ 31) (ek25 : (0 : Int32) = nI k25) (lk25 : k25 < na24) (c26 : ¬ (lg_cmp (fa24 k25) r11.toInt64) = 0) : gm_evC N0 ra_nm (gm_lawC N0 K ra_nm (ra_mt K) 100 10 ra_wt) (some .boolean) (gm_I cL_law) (gm_lkf (lkL false K)) 23 [some (.ref b), some (.ref a1), some (.ref a2), some (.ref a3), some (.int x4), none, none] [] M sz sl (.returned (some (.int (0 : Int32))), M19, sz20, (((sl + dd9) + dd15) + dd21)) := by
  refine gm_ev.iload iL_23 rfl ?_
  refine gm_ev.aload_n iL_25 rfl ?_
  refine gm_ev.alen iL_26 (gm_alen_of ha1) ?_
  refine gm_ev.iconst (v := 4) iL_27 (by decide) ?_
  refine gm_ev.isub iL_28 ?_
  refine gm_ev.icmp_gt_f iL_29 c2 ?_
  refine gm_ev.aload_n iL_32 rfl ?_
  refine gm_ev.iload iL_33 rfl ?_
  refine gm_ev.ialoadS iL_35 (gm_ai_of ha1 ek3 lk3 ba1) ?_
  refine gm_ev.bipush (v := 15) iL_36 (by decide) ?_
  refine gm_ev.iand iL_38 ?_
  refine gm_ev.tableIn (tgt := 180) (off := 141) iL_39 (by rw [c4]; decide) (by rw [c4]; decide) (by decide) ?_
  refine gm_ev.aload_n iL_180 rfl ?_
  refine gm_ev.aload_n iL_181 rfl ?_
  refine gm_ev.callS gm_mono_law (av := [.ref a1, .ref a3]) (r := []) iL_182 rfl rfl rfl (Nat.le_of_ble_eq_true rfl) t6 ?_
  refine gm_ev.istore (ls' := [some (.ref b), some (.ref a1), some (.ref a2), some (.ref a3), some (.int x4), some (.int r5), none]) iL_185 (Nat.le_of_ble_eq_true rfl) rfl ?_
  refine gm_ev.aload_n iL_187 rfl ?_
  refine gm_ev.callV gm_mono_law (av := []) (r := []) (fs := fso10) ho10 iL_188 rfl rfl rfl (Nat.le_of_ble_eq_true rfl) t12 ?_
  refine gm_ev.istore (ls' := [some (.ref b), some (.ref a1), some (.ref a2), some (.ref a3), some (.int x4), some (.int r5), some (.int r11)]) iL_191 (Nat.le_of_ble_eq_true rfl) rfl ?_
  refine gm_ev.aload_n iL_193 rfl ?_
  refine gm_ev.callV gm_mono_law (av := []) (r := []) (fs := fso16) ho16 iL_194 rfl rfl rfl (Nat.le_of_ble_eq_true rfl) t18 ?_
  refine gm_ev.iload iL_197 rfl ?_
  refine gm_ev.icmp_eq_t (tgt := 204) iL_199 (by decide) c22 ?_
  refine gm_ev.iload iL_204 rfl ?_
  refine gm_ev.if_ne_f iL_206 c23 ?_
  refine gm_ev.aload_n iL_209 rfl ?_
  refine gm_ev.iconst (v := 0) iL_210 (by decide) ?_
  refine gm_ev.laload iL_211 (gm_al_of ha24 ek25 lk25 ba24) ?_
  refine gm_ev.iload iL_212 rfl ?_
  refine gm_ev.i2l iL_214 ?_
  refine gm_ev.lcmp iL_215 ?_
  refine gm_ev.if_eq_f iL_216 c26 ?_
  refine gm_ev.iconst (v := 0) iL_219 (by decide) ?_
  exact gm_ev.zret iL_220 rfl (by decide)
theorem w_L_law_23_fs2f {N0 : Nat} {K : Nat → Nat} {M : gm_H} {sz sl : Nat} {b : Nat} {a1 : Nat} {a2 : Nat} {a3 : Nat} {x4 : Int32} {na1 : Nat} {fa1 : Nat → Int32} {k3 : Nat} {r5 : Int32} {M7 : gm_H} {sz8 : Nat} {dd9 : Nat} {fso10 : List Value} {r11 : Int32} {M13 : gm_H} {sz14 : Nat} {dd15 : Nat} {fso16 : List Value} {r17 : Int32} {M19 : gm_H} {sz20 : Nat} {dd21 : Nat} (ha1 : M b = some (.inl (gm_scr, na1, .inl fa1))) (ba1 : na1 < 2 ^ 31) (c2 : ¬ ((nI na1) - (4 : Int32)) < x4) (ek3 : x4 = nI k3) (lk3 : k3 < na1) (c4 : ((fa1 k3) &&& (15 : Int32)) = 2) (t6 : gm_toC (gm_lawC N0 K ra_nm (ra_mt K) 100 10 ra_wt) 1000 [.ref a1, .ref a3] M sz (.returned (some (.int r5)), M7, sz8, dd9)) (ho10 : M7 a2 = some (.inr (11, fso10))) (t12 : gm_toC (gm_lawC N0 K ra_nm (ra_mt K) 100 10 ra_wt) 167 [.ref a2] M7 sz8 (.returned (some (.int r11)), M13, sz14, dd15)) (ho16 : M13 a2 = some (.inr (11, fso16))) (t18 : gm_toC (gm_lawC N0 K ra_nm (ra_mt K) 100 10 ra_wt) 119 [.ref a2] M13 sz14 (.returned (some (.int r17)), M19, sz20, dd21)) (c22 : ¬ r17 = r5) : gm_evC N0 ra_nm (gm_lawC N0 K ra_nm (ra_mt K) 100 10 ra_wt) (some .boolean) (gm_I cL_law) (gm_lkf (lkL false K)) 23 [some (.ref b), some (.ref a1), some (.ref a2), some (.ref a3), some (.int x4), none, none] [] M sz sl (.returned (some (.int (0 : Int32))), M19, sz20, (((sl + dd9) + dd15) + dd21)) := by
  refine gm_ev.iload iL_23 rfl ?_
  refine gm_ev.aload_n iL_25 rfl ?_
  refine gm_ev.alen iL_26 (gm_alen_of ha1) ?_
  refine gm_ev.iconst (v := 4) iL_27 (by decide) ?_
  refine gm_ev.isub iL_28 ?_
  refine gm_ev.icmp_gt_f iL_29 c2 ?_
  refine gm_ev.aload_n iL_32 rfl ?_
  refine gm_ev.iload iL_33 rfl ?_
  refine gm_ev.ialoadS iL_35 (gm_ai_of ha1 ek3 lk3 ba1) ?_
  refine gm_ev.bipush (v := 15) iL_36 (by decide) ?_
  refine gm_ev.iand iL_38 ?_
  refine gm_ev.tableIn (tgt := 180) (off := 141) iL_39 (by rw [c4]; decide) (by rw [c4]; decide) (by decide) ?_
  refine gm_ev.aload_n iL_180 rfl ?_
  refine gm_ev.aload_n iL_181 rfl ?_
  refine gm_ev.callS gm_mono_law (av := [.ref a1, .ref a3]) (r := []) iL_182 rfl rfl rfl (Nat.le_of_ble_eq_true rfl) t6 ?_
  refine gm_ev.istore (ls' := [some (.ref b), some (.ref a1), some (.ref a2), some (.ref a3), some (.int x4), some (.int r5), none]) iL_185 (Nat.le_of_ble_eq_true rfl) rfl ?_
  refine gm_ev.aload_n iL_187 rfl ?_
  refine gm_ev.callV gm_mono_law (av := []) (r := []) (fs := fso10) ho10 iL_188 rfl rfl rfl (Nat.le_of_ble_eq_true rfl) t12 ?_
  refine gm_ev.istore (ls' := [some (.ref b), some (.ref a1), some (.ref a2), some (.ref a3), some (.int x4), some (.int r5), some (.int r11)]) iL_191 (Nat.le_of_ble_eq_true rfl) rfl ?_
  refine gm_ev.aload_n iL_193 rfl ?_
  refine gm_ev.callV gm_mono_law (av := []) (r := []) (fs := fso16) ho16 iL_194 rfl rfl rfl (Nat.le_of_ble_eq_true rfl) t18 ?_
  refine gm_ev.iload iL_197 rfl ?_
  refine gm_ev.icmp_eq_f iL_199 c22 ?_
  refine gm_ev.iconst (v := 0) iL_202 (by decide) ?_
  exact gm_ev.zret iL_203 rfl (by decide)
theorem w_L_law_23_fs3t_at23 {N0 : Nat} {K : Nat → Nat} {M : gm_H} {sz sl : Nat} {R : gm_R} {b : Nat} {a1 : Nat} {a2 : Nat} {a3 : Nat} {x4 : Int32} {na1 : Nat} {fa1 : Nat → Int32} {k3 : Nat} {k5 : Nat} {fso6 : List Value} {r7 : Int32} {M9 : gm_H} {sz10 : Nat} {dd11 : Nat} {na12 : Nat} {fa12 : Nat → Int32} {k13 : Nat} {fso14 : List Value} {r15 : Int32} {M17 : gm_H} {sz18 : Nat} {dd19 : Nat} (ha1 : M b = some (.inl (gm_scr, na1, .inl fa1))) (ba1 : na1 < 2 ^ 31) (c2 : ¬ ((nI na1) - (4 : Int32)) < x4) (ek3 : x4 = nI k3) (lk3 : k3 < na1) (c4 : ((fa1 k3) &&& (15 : Int32)) = 3) (ek5 : (x4 + (1 : Int32)) = nI k5) (lk5 : k5 < na1) (ho6 : M a1 = some (.inr (10, fso6))) (t8 : gm_toC (gm_lawC N0 K ra_nm (ra_mt K) 100 10 ra_wt) 106 [.ref a1, .int (fa1 k5)] M sz (.returned (some (.int r7)), M9, sz10, dd11)) (ha12 : M9 b = some (.inl (gm_scr, na12, .inl fa12))) (ba12 : na12 < 2 ^ 31) (ek13 : (x4 + (1 : Int32)) = nI k13) (lk13 : k13 < na12) (ho14 : M9 a2 = some (.inr (11, fso14))) (t16 : gm_toC (gm_lawC N0 K ra_nm (ra_mt K) 100 10 ra_wt) 169 [.ref a2, .int (fa12 k13)] M9 sz10 (.returned (some (.int r15)), M17, sz18, dd19)) (c20 : r7 = r15) (k : gm_evC N0 ra_nm (gm_lawC N0 K ra_nm (ra_mt K) 100 10 ra_wt) (some .boolean) (gm_I cL_law) (gm_lkf (lkL false K)) 23 [some (.ref b), some (.ref a1), some (.ref a2), some (.ref a3), some (.int (x4 + (4 : Int32))), none, none] [] M17 sz18 ((sl + dd11) + dd19) R) : gm_evC N0 ra_nm (gm_lawC N0 K ra_nm (ra_mt K) 100 10 ra_wt) (some .boolean) (gm_I cL_law) (gm_lkf (lkL false K)) 23 [some (.ref b), some (.ref a1), some (.ref a2), some (.ref a3), some (.int x4), none, none] [] M sz sl R := by
  refine gm_ev.iload iL_23 rfl ?_
  refine gm_ev.aload_n iL_25 rfl ?_
  refine gm_ev.alen iL_26 (gm_alen_of ha1) ?_
  refine gm_ev.iconst (v := 4) iL_27 (by decide) ?_
  refine gm_ev.isub iL_28 ?_
  refine gm_ev.icmp_gt_f iL_29 c2 ?_
  refine gm_ev.aload_n iL_32 rfl ?_
  refine gm_ev.iload iL_33 rfl ?_
  refine gm_ev.ialoadS iL_35 (gm_ai_of ha1 ek3 lk3 ba1) ?_
  refine gm_ev.bipush (v := 15) iL_36 (by decide) ?_
  refine gm_ev.iand iL_38 ?_
  refine gm_ev.tableIn (tgt := 224) (off := 185) iL_39 (by rw [c4]; decide) (by rw [c4]; decide) (by decide) ?_
  refine gm_ev.aload_n iL_224 rfl ?_
  refine gm_ev.aload_n iL_225 rfl ?_
  refine gm_ev.iload iL_226 rfl ?_
  refine gm_ev.iconst (v := 1) iL_228 (by decide) ?_
  refine gm_ev.iadd iL_229 ?_
  refine gm_ev.ialoadS iL_230 (gm_ai_of ha1 ek5 lk5 ba1) ?_
  refine gm_ev.callV gm_mono_law (av := [.int (fa1 k5)]) (r := []) (fs := fso6) ho6 iL_231 rfl rfl rfl (Nat.le_of_ble_eq_true rfl) t8 ?_
  refine gm_ev.aload_n iL_234 rfl ?_
  refine gm_ev.aload_n iL_235 rfl ?_
  refine gm_ev.iload iL_236 rfl ?_
  refine gm_ev.iconst (v := 1) iL_238 (by decide) ?_
  refine gm_ev.iadd iL_239 ?_
  refine gm_ev.ialoadS iL_240 (gm_ai_of ha12 ek13 lk13 ba12) ?_
  refine gm_ev.callV gm_mono_law (av := [.int (fa12 k13)]) (r := [.int r7]) (fs := fso14) ho14 iL_241 rfl rfl rfl (Nat.le_of_ble_eq_true rfl) t16 ?_
  refine gm_ev.icmp_eq_t (tgt := 638) iL_244 (by decide) c20 ?_
  refine gm_ev.iinc (v := x4 + (4 : Int32)) (ls' := [some (.ref b), some (.ref a1), some (.ref a2), some (.ref a3), some (.int (x4 + (4 : Int32))), none, none]) iL_638 rfl (by rfl) rfl ?_
  refine gm_ev.goto (tgt := 23) iL_641 (by decide) ?_
  exact k
theorem w_L_law_23_fs3f {N0 : Nat} {K : Nat → Nat} {M : gm_H} {sz sl : Nat} {b : Nat} {a1 : Nat} {a2 : Nat} {a3 : Nat} {x4 : Int32} {na1 : Nat} {fa1 : Nat → Int32} {k3 : Nat} {k5 : Nat} {fso6 : List Value} {r7 : Int32} {M9 : gm_H} {sz10 : Nat} {dd11 : Nat} {na12 : Nat} {fa12 : Nat → Int32} {k13 : Nat} {fso14 : List Value} {r15 : Int32} {M17 : gm_H} {sz18 : Nat} {dd19 : Nat} (ha1 : M b = some (.inl (gm_scr, na1, .inl fa1))) (ba1 : na1 < 2 ^ 31) (c2 : ¬ ((nI na1) - (4 : Int32)) < x4) (ek3 : x4 = nI k3) (lk3 : k3 < na1) (c4 : ((fa1 k3) &&& (15 : Int32)) = 3) (ek5 : (x4 + (1 : Int32)) = nI k5) (lk5 : k5 < na1) (ho6 : M a1 = some (.inr (10, fso6))) (t8 : gm_toC (gm_lawC N0 K ra_nm (ra_mt K) 100 10 ra_wt) 106 [.ref a1, .int (fa1 k5)] M sz (.returned (some (.int r7)), M9, sz10, dd11)) (ha12 : M9 b = some (.inl (gm_scr, na12, .inl fa12))) (ba12 : na12 < 2 ^ 31) (ek13 : (x4 + (1 : Int32)) = nI k13) (lk13 : k13 < na12) (ho14 : M9 a2 = some (.inr (11, fso14))) (t16 : gm_toC (gm_lawC N0 K ra_nm (ra_mt K) 100 10 ra_wt) 169 [.ref a2, .int (fa12 k13)] M9 sz10 (.returned (some (.int r15)), M17, sz18, dd19)) (c20 : ¬ r7 = r15) : gm_evC N0 ra_nm (gm_lawC N0 K ra_nm (ra_mt K) 100 10 ra_wt) (some .boolean) (gm_I cL_law) (gm_lkf (lkL false K)) 23 [some (.ref b), some (.ref a1), some (.ref a2), some (.ref a3), some (.int x4), none, none] [] M sz sl (.returned (some (.int (0 : Int32))), M17, sz18, ((sl + dd11) + dd19)) := by
  refine gm_ev.iload iL_23 rfl ?_
  refine gm_ev.aload_n iL_25 rfl ?_
  refine gm_ev.alen iL_26 (gm_alen_of ha1) ?_
  refine gm_ev.iconst (v := 4) iL_27 (by decide) ?_
  refine gm_ev.isub iL_28 ?_
  refine gm_ev.icmp_gt_f iL_29 c2 ?_
  refine gm_ev.aload_n iL_32 rfl ?_
  refine gm_ev.iload iL_33 rfl ?_
  refine gm_ev.ialoadS iL_35 (gm_ai_of ha1 ek3 lk3 ba1) ?_
  refine gm_ev.bipush (v := 15) iL_36 (by decide) ?_
  refine gm_ev.iand iL_38 ?_
  refine gm_ev.tableIn (tgt := 224) (off := 185) iL_39 (by rw [c4]; decide) (by rw [c4]; decide) (by decide) ?_
  refine gm_ev.aload_n iL_224 rfl ?_
  refine gm_ev.aload_n iL_225 rfl ?_
  refine gm_ev.iload iL_226 rfl ?_
  refine gm_ev.iconst (v := 1) iL_228 (by decide) ?_
  refine gm_ev.iadd iL_229 ?_
  refine gm_ev.ialoadS iL_230 (gm_ai_of ha1 ek5 lk5 ba1) ?_
  refine gm_ev.callV gm_mono_law (av := [.int (fa1 k5)]) (r := []) (fs := fso6) ho6 iL_231 rfl rfl rfl (Nat.le_of_ble_eq_true rfl) t8 ?_
  refine gm_ev.aload_n iL_234 rfl ?_
  refine gm_ev.aload_n iL_235 rfl ?_
  refine gm_ev.iload iL_236 rfl ?_
  refine gm_ev.iconst (v := 1) iL_238 (by decide) ?_
  refine gm_ev.iadd iL_239 ?_
  refine gm_ev.ialoadS iL_240 (gm_ai_of ha12 ek13 lk13 ba12) ?_
  refine gm_ev.callV gm_mono_law (av := [.int (fa12 k13)]) (r := [.int r7]) (fs := fso14) ho14 iL_241 rfl rfl rfl (Nat.le_of_ble_eq_true rfl) t16 ?_
  refine gm_ev.icmp_eq_f iL_244 c20 ?_
  refine gm_ev.iconst (v := 0) iL_247 (by decide) ?_
  exact gm_ev.zret iL_248 rfl (by decide)
theorem w_L_law_23_fs4t_at23 {N0 : Nat} {K : Nat → Nat} {M : gm_H} {sz sl : Nat} {R : gm_R} {b : Nat} {a1 : Nat} {a2 : Nat} {a3 : Nat} {x4 : Int32} {na1 : Nat} {fa1 : Nat → Int32} {k3 : Nat} {k5 : Nat} {fso6 : List Value} {r7 : Int32} {M9 : gm_H} {sz10 : Nat} {dd11 : Nat} {na12 : Nat} {fa12 : Nat → Int32} {k13 : Nat} {fso14 : List Value} {r15 : Int32} {M17 : gm_H} {sz18 : Nat} {dd19 : Nat} (ha1 : M b = some (.inl (gm_scr, na1, .inl fa1))) (ba1 : na1 < 2 ^ 31) (c2 : ¬ ((nI na1) - (4 : Int32)) < x4) (ek3 : x4 = nI k3) (lk3 : k3 < na1) (c4 : ((fa1 k3) &&& (15 : Int32)) = 4) (ek5 : (x4 + (1 : Int32)) = nI k5) (lk5 : k5 < na1) (ho6 : M a1 = some (.inr (10, fso6))) (t8 : gm_toC (gm_lawC N0 K ra_nm (ra_mt K) 100 10 ra_wt) 107 [.ref a1, .int (fa1 k5)] M sz (.returned (some (.int r7)), M9, sz10, dd11)) (ha12 : M9 b = some (.inl (gm_scr, na12, .inl fa12))) (ba12 : na12 < 2 ^ 31) (ek13 : (x4 + (1 : Int32)) = nI k13) (lk13 : k13 < na12) (ho14 : M9 a2 = some (.inr (11, fso14))) (t16 : gm_toC (gm_lawC N0 K ra_nm (ra_mt K) 100 10 ra_wt) 174 [.ref a2, .int (fa12 k13)] M9 sz10 (.returned (some (.int r15)), M17, sz18, dd19)) (c20 : r7 = r15) (k : gm_evC N0 ra_nm (gm_lawC N0 K ra_nm (ra_mt K) 100 10 ra_wt) (some .boolean) (gm_I cL_law) (gm_lkf (lkL false K)) 23 [some (.ref b), some (.ref a1), some (.ref a2), some (.ref a3), some (.int (x4 + (4 : Int32))), none, none] [] M17 sz18 ((sl + dd11) + dd19) R) : gm_evC N0 ra_nm (gm_lawC N0 K ra_nm (ra_mt K) 100 10 ra_wt) (some .boolean) (gm_I cL_law) (gm_lkf (lkL false K)) 23 [some (.ref b), some (.ref a1), some (.ref a2), some (.ref a3), some (.int x4), none, none] [] M sz sl R := by
  refine gm_ev.iload iL_23 rfl ?_
  refine gm_ev.aload_n iL_25 rfl ?_
  refine gm_ev.alen iL_26 (gm_alen_of ha1) ?_
  refine gm_ev.iconst (v := 4) iL_27 (by decide) ?_
  refine gm_ev.isub iL_28 ?_
  refine gm_ev.icmp_gt_f iL_29 c2 ?_
  refine gm_ev.aload_n iL_32 rfl ?_
  refine gm_ev.iload iL_33 rfl ?_
  refine gm_ev.ialoadS iL_35 (gm_ai_of ha1 ek3 lk3 ba1) ?_
  refine gm_ev.bipush (v := 15) iL_36 (by decide) ?_
  refine gm_ev.iand iL_38 ?_
  refine gm_ev.tableIn (tgt := 249) (off := 210) iL_39 (by rw [c4]; decide) (by rw [c4]; decide) (by decide) ?_
  refine gm_ev.aload_n iL_249 rfl ?_
  refine gm_ev.aload_n iL_250 rfl ?_
  refine gm_ev.iload iL_251 rfl ?_
  refine gm_ev.iconst (v := 1) iL_253 (by decide) ?_
  refine gm_ev.iadd iL_254 ?_
  refine gm_ev.ialoadS iL_255 (gm_ai_of ha1 ek5 lk5 ba1) ?_
  refine gm_ev.callV gm_mono_law (av := [.int (fa1 k5)]) (r := []) (fs := fso6) ho6 iL_256 rfl rfl rfl (Nat.le_of_ble_eq_true rfl) t8 ?_
  refine gm_ev.aload_n iL_259 rfl ?_
  refine gm_ev.aload_n iL_260 rfl ?_
  refine gm_ev.iload iL_261 rfl ?_
  refine gm_ev.iconst (v := 1) iL_263 (by decide) ?_
  refine gm_ev.iadd iL_264 ?_
  refine gm_ev.ialoadS iL_265 (gm_ai_of ha12 ek13 lk13 ba12) ?_
  refine gm_ev.callV gm_mono_law (av := [.int (fa12 k13)]) (r := [.int r7]) (fs := fso14) ho14 iL_266 rfl rfl rfl (Nat.le_of_ble_eq_true rfl) t16 ?_
  refine gm_ev.icmp_eq_t (tgt := 638) iL_269 (by decide) c20 ?_
  refine gm_ev.iinc (v := x4 + (4 : Int32)) (ls' := [some (.ref b), some (.ref a1), some (.ref a2), some (.ref a3), some (.int (x4 + (4 : Int32))), none, none]) iL_638 rfl (by rfl) rfl ?_
  refine gm_ev.goto (tgt := 23) iL_641 (by decide) ?_
  exact k
theorem w_L_law_23_fs4f {N0 : Nat} {K : Nat → Nat} {M : gm_H} {sz sl : Nat} {b : Nat} {a1 : Nat} {a2 : Nat} {a3 : Nat} {x4 : Int32} {na1 : Nat} {fa1 : Nat → Int32} {k3 : Nat} {k5 : Nat} {fso6 : List Value} {r7 : Int32} {M9 : gm_H} {sz10 : Nat} {dd11 : Nat} {na12 : Nat} {fa12 : Nat → Int32} {k13 : Nat} {fso14 : List Value} {r15 : Int32} {M17 : gm_H} {sz18 : Nat} {dd19 : Nat} (ha1 : M b = some (.inl (gm_scr, na1, .inl fa1))) (ba1 : na1 < 2 ^ 31) (c2 : ¬ ((nI na1) - (4 : Int32)) < x4) (ek3 : x4 = nI k3) (lk3 : k3 < na1) (c4 : ((fa1 k3) &&& (15 : Int32)) = 4) (ek5 : (x4 + (1 : Int32)) = nI k5) (lk5 : k5 < na1) (ho6 : M a1 = some (.inr (10, fso6))) (t8 : gm_toC (gm_lawC N0 K ra_nm (ra_mt K) 100 10 ra_wt) 107 [.ref a1, .int (fa1 k5)] M sz (.returned (some (.int r7)), M9, sz10, dd11)) (ha12 : M9 b = some (.inl (gm_scr, na12, .inl fa12))) (ba12 : na12 < 2 ^ 31) (ek13 : (x4 + (1 : Int32)) = nI k13) (lk13 : k13 < na12) (ho14 : M9 a2 = some (.inr (11, fso14))) (t16 : gm_toC (gm_lawC N0 K ra_nm (ra_mt K) 100 10 ra_wt) 174 [.ref a2, .int (fa12 k13)] M9 sz10 (.returned (some (.int r15)), M17, sz18, dd19)) (c20 : ¬ r7 = r15) : gm_evC N0 ra_nm (gm_lawC N0 K ra_nm (ra_mt K) 100 10 ra_wt) (some .boolean) (gm_I cL_law) (gm_lkf (lkL false K)) 23 [some (.ref b), some (.ref a1), some (.ref a2), some (.ref a3), some (.int x4), none, none] [] M sz sl (.returned (some (.int (0 : Int32))), M17, sz18, ((sl + dd11) + dd19)) := by
  refine gm_ev.iload iL_23 rfl ?_
  refine gm_ev.aload_n iL_25 rfl ?_
  refine gm_ev.alen iL_26 (gm_alen_of ha1) ?_
  refine gm_ev.iconst (v := 4) iL_27 (by decide) ?_
  refine gm_ev.isub iL_28 ?_
  refine gm_ev.icmp_gt_f iL_29 c2 ?_
  refine gm_ev.aload_n iL_32 rfl ?_
  refine gm_ev.iload iL_33 rfl ?_
  refine gm_ev.ialoadS iL_35 (gm_ai_of ha1 ek3 lk3 ba1) ?_
  refine gm_ev.bipush (v := 15) iL_36 (by decide) ?_
  refine gm_ev.iand iL_38 ?_
  refine gm_ev.tableIn (tgt := 249) (off := 210) iL_39 (by rw [c4]; decide) (by rw [c4]; decide) (by decide) ?_
  refine gm_ev.aload_n iL_249 rfl ?_
  refine gm_ev.aload_n iL_250 rfl ?_
  refine gm_ev.iload iL_251 rfl ?_
  refine gm_ev.iconst (v := 1) iL_253 (by decide) ?_
  refine gm_ev.iadd iL_254 ?_
  refine gm_ev.ialoadS iL_255 (gm_ai_of ha1 ek5 lk5 ba1) ?_
  refine gm_ev.callV gm_mono_law (av := [.int (fa1 k5)]) (r := []) (fs := fso6) ho6 iL_256 rfl rfl rfl (Nat.le_of_ble_eq_true rfl) t8 ?_
  refine gm_ev.aload_n iL_259 rfl ?_
  refine gm_ev.aload_n iL_260 rfl ?_
  refine gm_ev.iload iL_261 rfl ?_
  refine gm_ev.iconst (v := 1) iL_263 (by decide) ?_
  refine gm_ev.iadd iL_264 ?_
  refine gm_ev.ialoadS iL_265 (gm_ai_of ha12 ek13 lk13 ba12) ?_
  refine gm_ev.callV gm_mono_law (av := [.int (fa12 k13)]) (r := [.int r7]) (fs := fso14) ho14 iL_266 rfl rfl rfl (Nat.le_of_ble_eq_true rfl) t16 ?_
  refine gm_ev.icmp_eq_f iL_269 c20 ?_
  refine gm_ev.iconst (v := 0) iL_272 (by decide) ?_
  exact gm_ev.zret iL_273 rfl (by decide)
theorem w_L_law_23_fs5t_at23 {N0 : Nat} {K : Nat → Nat} {M : gm_H} {sz sl : Nat} {R : gm_R} {b : Nat} {a1 : Nat} {a2 : Nat} {a3 : Nat} {x4 : Int32} {na1 : Nat} {fa1 : Nat → Int32} {k3 : Nat} {k5 : Nat} {k6 : Nat} {fso7 : List Value} {r8 : Int32} {M10 : gm_H} {sz11 : Nat} {dd12 : Nat} {na13 : Nat} {fa13 : Nat → Int32} {k14 : Nat} {k15 : Nat} {fso16 : List Value} {r17 : Int32} {M19 : gm_H} {sz20 : Nat} {dd21 : Nat} (ha1 : M b = some (.inl (gm_scr, na1, .inl fa1))) (ba1 : na1 < 2 ^ 31) (c2 : ¬ ((nI na1) - (4 : Int32)) < x4) (ek3 : x4 = nI k3) (lk3 : k3 < na1) (c4 : ((fa1 k3) &&& (15 : Int32)) = 5) (ek5 : (x4 + (1 : Int32)) = nI k5) (lk5 : k5 < na1) (ek6 : (x4 + (2 : Int32)) = nI k6) (lk6 : k6 < na1) (ho7 : M a1 = some (.inr (10, fso7))) (t9 : gm_toC (gm_lawC N0 K ra_nm (ra_mt K) 100 10 ra_wt) 108 [.ref a1, .int (((fa1 k5).toUInt32 % 65536).toInt32), .int (fa1 k6)] M sz (.returned (some (.int r8)), M10, sz11, dd12)) (ha13 : M10 b = some (.inl (gm_scr, na13, .inl fa13))) (ba13 : na13 < 2 ^ 31) (ek14 : (x4 + (1 : Int32)) = nI k14) (lk14 : k14 < na13) (ek15 : (x4 + (2 : Int32)) = nI k15) (lk15 : k15 < na13) (ho16 : M10 a2 = some (.inr (11, fso16))) (t18 : gm_toC (gm_lawC N0 K ra_nm (ra_mt K) 100 10 ra_wt) 175 [.ref a2, .int (((fa13 k14).toUInt32 % 65536).toInt32), .int (fa13 k15)] M10 sz11 (.returned (some (.int r17)), M19, sz20, dd21)) (c22 : r8 = r17) (k : gm_evC N0 ra_nm (gm_lawC N0 K ra_nm (ra_mt K) 100 10 ra_wt) (some .boolean) (gm_I cL_law) (gm_lkf (lkL false K)) 23 [some (.ref b), some (.ref a1), some (.ref a2), some (.ref a3), some (.int (x4 + (4 : Int32))), none, none] [] M19 sz20 ((sl + dd12) + dd21) R) : gm_evC N0 ra_nm (gm_lawC N0 K ra_nm (ra_mt K) 100 10 ra_wt) (some .boolean) (gm_I cL_law) (gm_lkf (lkL false K)) 23 [some (.ref b), some (.ref a1), some (.ref a2), some (.ref a3), some (.int x4), none, none] [] M sz sl R := by
  refine gm_ev.iload iL_23 rfl ?_
  refine gm_ev.aload_n iL_25 rfl ?_
  refine gm_ev.alen iL_26 (gm_alen_of ha1) ?_
  refine gm_ev.iconst (v := 4) iL_27 (by decide) ?_
  refine gm_ev.isub iL_28 ?_
  refine gm_ev.icmp_gt_f iL_29 c2 ?_
  refine gm_ev.aload_n iL_32 rfl ?_
  refine gm_ev.iload iL_33 rfl ?_
  refine gm_ev.ialoadS iL_35 (gm_ai_of ha1 ek3 lk3 ba1) ?_
  refine gm_ev.bipush (v := 15) iL_36 (by decide) ?_
  refine gm_ev.iand iL_38 ?_
  refine gm_ev.tableIn (tgt := 274) (off := 235) iL_39 (by rw [c4]; decide) (by rw [c4]; decide) (by decide) ?_
  refine gm_ev.aload_n iL_274 rfl ?_
  refine gm_ev.aload_n iL_275 rfl ?_
  refine gm_ev.iload iL_276 rfl ?_
  refine gm_ev.iconst (v := 1) iL_278 (by decide) ?_
  refine gm_ev.iadd iL_279 ?_
  refine gm_ev.ialoadS iL_280 (gm_ai_of ha1 ek5 lk5 ba1) ?_
  refine gm_ev.i2c iL_281 ?_
  refine gm_ev.aload_n iL_282 rfl ?_
  refine gm_ev.iload iL_283 rfl ?_
  refine gm_ev.iconst (v := 2) iL_285 (by decide) ?_
  refine gm_ev.iadd iL_286 ?_
  refine gm_ev.ialoadS iL_287 (gm_ai_of ha1 ek6 lk6 ba1) ?_
  refine gm_ev.callV gm_mono_law (av := [.int (((fa1 k5).toUInt32 % 65536).toInt32), .int (fa1 k6)]) (r := []) (fs := fso7) ho7 iL_288 rfl rfl rfl (Nat.le_of_ble_eq_true rfl) t9 ?_
  refine gm_ev.aload_n iL_291 rfl ?_
  refine gm_ev.aload_n iL_292 rfl ?_
  refine gm_ev.iload iL_293 rfl ?_
  refine gm_ev.iconst (v := 1) iL_295 (by decide) ?_
  refine gm_ev.iadd iL_296 ?_
  refine gm_ev.ialoadS iL_297 (gm_ai_of ha13 ek14 lk14 ba13) ?_
  refine gm_ev.i2c iL_298 ?_
  refine gm_ev.aload_n iL_299 rfl ?_
  refine gm_ev.iload iL_300 rfl ?_
  refine gm_ev.iconst (v := 2) iL_302 (by decide) ?_
  refine gm_ev.iadd iL_303 ?_
  refine gm_ev.ialoadS iL_304 (gm_ai_of ha13 ek15 lk15 ba13) ?_
  refine gm_ev.callV gm_mono_law (av := [.int (((fa13 k14).toUInt32 % 65536).toInt32), .int (fa13 k15)]) (r := [.int r8]) (fs := fso16) ho16 iL_305 rfl rfl rfl (Nat.le_of_ble_eq_true rfl) t18 ?_
  refine gm_ev.icmp_eq_t (tgt := 638) iL_308 (by decide) c22 ?_
  refine gm_ev.iinc (v := x4 + (4 : Int32)) (ls' := [some (.ref b), some (.ref a1), some (.ref a2), some (.ref a3), some (.int (x4 + (4 : Int32))), none, none]) iL_638 rfl (by rfl) rfl ?_
  refine gm_ev.goto (tgt := 23) iL_641 (by decide) ?_
  exact k
theorem w_L_law_23_fs5f {N0 : Nat} {K : Nat → Nat} {M : gm_H} {sz sl : Nat} {b : Nat} {a1 : Nat} {a2 : Nat} {a3 : Nat} {x4 : Int32} {na1 : Nat} {fa1 : Nat → Int32} {k3 : Nat} {k5 : Nat} {k6 : Nat} {fso7 : List Value} {r8 : Int32} {M10 : gm_H} {sz11 : Nat} {dd12 : Nat} {na13 : Nat} {fa13 : Nat → Int32} {k14 : Nat} {k15 : Nat} {fso16 : List Value} {r17 : Int32} {M19 : gm_H} {sz20 : Nat} {dd21 : Nat} (ha1 : M b = some (.inl (gm_scr, na1, .inl fa1))) (ba1 : na1 < 2 ^ 31) (c2 : ¬ ((nI na1) - (4 : Int32)) < x4) (ek3 : x4 = nI k3) (lk3 : k3 < na1) (c4 : ((fa1 k3) &&& (15 : Int32)) = 5) (ek5 : (x4 + (1 : Int32)) = nI k5) (lk5 : k5 < na1) (ek6 : (x4 + (2 : Int32)) = nI k6) (lk6 : k6 < na1) (ho7 : M a1 = some (.inr (10, fso7))) (t9 : gm_toC (gm_lawC N0 K ra_nm (ra_mt K) 100 10 ra_wt) 108 [.ref a1, .int (((fa1 k5).toUInt32 % 65536).toInt32), .int (fa1 k6)] M sz (.returned (some (.int r8)), M10, sz11, dd12)) (ha13 : M10 b = some (.inl (gm_scr, na13, .inl fa13))) (ba13 : na13 < 2 ^ 31) (ek14 : (x4 + (1 : Int32)) = nI k14) (lk14 : k14 < na13) (ek15 : (x4 + (2 : Int32)) = nI k15) (lk15 : k15 < na13) (ho16 : M10 a2 = some (.inr (11, fso16))) (t18 : gm_toC (gm_lawC N0 K ra_nm (ra_mt K) 100 10 ra_wt) 175 [.ref a2, .int (((fa13 k14).toUInt32 % 65536).toInt32), .int (fa13 k15)] M10 sz11 (.returned (some (.int r17)), M19, sz20, dd21)) (c22 : ¬ r8 = r17) : gm_evC N0 ra_nm (gm_lawC N0 K ra_nm (ra_mt K) 100 10 ra_wt) (some .boolean) (gm_I cL_law) (gm_lkf (lkL false K)) 23 [some (.ref b), some (.ref a1), some (.ref a2), some (.ref a3), some (.int x4), none, none] [] M sz sl (.returned (some (.int (0 : Int32))), M19, sz20, ((sl + dd12) + dd21)) := by
  refine gm_ev.iload iL_23 rfl ?_
  refine gm_ev.aload_n iL_25 rfl ?_
  refine gm_ev.alen iL_26 (gm_alen_of ha1) ?_
  refine gm_ev.iconst (v := 4) iL_27 (by decide) ?_
  refine gm_ev.isub iL_28 ?_
  refine gm_ev.icmp_gt_f iL_29 c2 ?_
  refine gm_ev.aload_n iL_32 rfl ?_
  refine gm_ev.iload iL_33 rfl ?_
  refine gm_ev.ialoadS iL_35 (gm_ai_of ha1 ek3 lk3 ba1) ?_
  refine gm_ev.bipush (v := 15) iL_36 (by decide) ?_
  refine gm_ev.iand iL_38 ?_
  refine gm_ev.tableIn (tgt := 274) (off := 235) iL_39 (by rw [c4]; decide) (by rw [c4]; decide) (by decide) ?_
  refine gm_ev.aload_n iL_274 rfl ?_
  refine gm_ev.aload_n iL_275 rfl ?_
  refine gm_ev.iload iL_276 rfl ?_
  refine gm_ev.iconst (v := 1) iL_278 (by decide) ?_
  refine gm_ev.iadd iL_279 ?_
  refine gm_ev.ialoadS iL_280 (gm_ai_of ha1 ek5 lk5 ba1) ?_
  refine gm_ev.i2c iL_281 ?_
  refine gm_ev.aload_n iL_282 rfl ?_
  refine gm_ev.iload iL_283 rfl ?_
  refine gm_ev.iconst (v := 2) iL_285 (by decide) ?_
  refine gm_ev.iadd iL_286 ?_
  refine gm_ev.ialoadS iL_287 (gm_ai_of ha1 ek6 lk6 ba1) ?_
  refine gm_ev.callV gm_mono_law (av := [.int (((fa1 k5).toUInt32 % 65536).toInt32), .int (fa1 k6)]) (r := []) (fs := fso7) ho7 iL_288 rfl rfl rfl (Nat.le_of_ble_eq_true rfl) t9 ?_
  refine gm_ev.aload_n iL_291 rfl ?_
  refine gm_ev.aload_n iL_292 rfl ?_
  refine gm_ev.iload iL_293 rfl ?_
  refine gm_ev.iconst (v := 1) iL_295 (by decide) ?_
  refine gm_ev.iadd iL_296 ?_
  refine gm_ev.ialoadS iL_297 (gm_ai_of ha13 ek14 lk14 ba13) ?_
  refine gm_ev.i2c iL_298 ?_
  refine gm_ev.aload_n iL_299 rfl ?_
  refine gm_ev.iload iL_300 rfl ?_
  refine gm_ev.iconst (v := 2) iL_302 (by decide) ?_
  refine gm_ev.iadd iL_303 ?_
  refine gm_ev.ialoadS iL_304 (gm_ai_of ha13 ek15 lk15 ba13) ?_
  refine gm_ev.callV gm_mono_law (av := [.int (((fa13 k14).toUInt32 % 65536).toInt32), .int (fa13 k15)]) (r := [.int r8]) (fs := fso16) ho16 iL_305 rfl rfl rfl (Nat.le_of_ble_eq_true rfl) t18 ?_
  refine gm_ev.icmp_eq_f iL_308 c22 ?_
  refine gm_ev.iconst (v := 0) iL_311 (by decide) ?_
  exact gm_ev.zret iL_312 rfl (by decide)
theorem w_L_law_23_fs6t_at23 {N0 : Nat} {K : Nat → Nat} {M : gm_H} {sz sl : Nat} {R : gm_R} {b : Nat} {a1 : Nat} {a2 : Nat} {a3 : Nat} {x4 : Int32} {na1 : Nat} {fa1 : Nat → Int32} {k3 : Nat} {k5 : Nat} {fso6 : List Value} {r7 : Int32} {M9 : gm_H} {sz10 : Nat} {dd11 : Nat} {na12 : Nat} {fa12 : Nat → Int32} {k13 : Nat} {fso14 : List Value} {r15 : Int32} {M17 : gm_H} {sz18 : Nat} {dd19 : Nat} (ha1 : M b = some (.inl (gm_scr, na1, .inl fa1))) (ba1 : na1 < 2 ^ 31) (c2 : ¬ ((nI na1) - (4 : Int32)) < x4) (ek3 : x4 = nI k3) (lk3 : k3 < na1) (c4 : ((fa1 k3) &&& (15 : Int32)) = 6) (ek5 : (x4 + (1 : Int32)) = nI k5) (lk5 : k5 < na1) (ho6 : M a1 = some (.inr (10, fso6))) (t8 : gm_toC (gm_lawC N0 K ra_nm (ra_mt K) 100 10 ra_wt) 109 [.ref a1, .int (fa1 k5)] M sz (.returned (some (.int r7)), M9, sz10, dd11)) (ha12 : M9 b = some (.inl (gm_scr, na12, .inl fa12))) (ba12 : na12 < 2 ^ 31) (ek13 : (x4 + (1 : Int32)) = nI k13) (lk13 : k13 < na12) (ho14 : M9 a2 = some (.inr (11, fso14))) (t16 : gm_toC (gm_lawC N0 K ra_nm (ra_mt K) 100 10 ra_wt) 176 [.ref a2, .int (fa12 k13)] M9 sz10 (.returned (some (.int r15)), M17, sz18, dd19)) (c20 : r7 = r15) (k : gm_evC N0 ra_nm (gm_lawC N0 K ra_nm (ra_mt K) 100 10 ra_wt) (some .boolean) (gm_I cL_law) (gm_lkf (lkL false K)) 23 [some (.ref b), some (.ref a1), some (.ref a2), some (.ref a3), some (.int (x4 + (4 : Int32))), none, none] [] M17 sz18 ((sl + dd11) + dd19) R) : gm_evC N0 ra_nm (gm_lawC N0 K ra_nm (ra_mt K) 100 10 ra_wt) (some .boolean) (gm_I cL_law) (gm_lkf (lkL false K)) 23 [some (.ref b), some (.ref a1), some (.ref a2), some (.ref a3), some (.int x4), none, none] [] M sz sl R := by
  refine gm_ev.iload iL_23 rfl ?_
  refine gm_ev.aload_n iL_25 rfl ?_
  refine gm_ev.alen iL_26 (gm_alen_of ha1) ?_
  refine gm_ev.iconst (v := 4) iL_27 (by decide) ?_
  refine gm_ev.isub iL_28 ?_
  refine gm_ev.icmp_gt_f iL_29 c2 ?_
  refine gm_ev.aload_n iL_32 rfl ?_
  refine gm_ev.iload iL_33 rfl ?_
  refine gm_ev.ialoadS iL_35 (gm_ai_of ha1 ek3 lk3 ba1) ?_
  refine gm_ev.bipush (v := 15) iL_36 (by decide) ?_
  refine gm_ev.iand iL_38 ?_
  refine gm_ev.tableIn (tgt := 313) (off := 274) iL_39 (by rw [c4]; decide) (by rw [c4]; decide) (by decide) ?_
  refine gm_ev.aload_n iL_313 rfl ?_
  refine gm_ev.aload_n iL_314 rfl ?_
  refine gm_ev.iload iL_315 rfl ?_
  refine gm_ev.iconst (v := 1) iL_317 (by decide) ?_
  refine gm_ev.iadd iL_318 ?_
  refine gm_ev.ialoadS iL_319 (gm_ai_of ha1 ek5 lk5 ba1) ?_
  refine gm_ev.callV gm_mono_law (av := [.int (fa1 k5)]) (r := []) (fs := fso6) ho6 iL_320 rfl rfl rfl (Nat.le_of_ble_eq_true rfl) t8 ?_
  refine gm_ev.aload_n iL_323 rfl ?_
  refine gm_ev.aload_n iL_324 rfl ?_
  refine gm_ev.iload iL_325 rfl ?_
  refine gm_ev.iconst (v := 1) iL_327 (by decide) ?_
  refine gm_ev.iadd iL_328 ?_
  refine gm_ev.ialoadS iL_329 (gm_ai_of ha12 ek13 lk13 ba12) ?_
  refine gm_ev.callV gm_mono_law (av := [.int (fa12 k13)]) (r := [.int r7]) (fs := fso14) ho14 iL_330 rfl rfl rfl (Nat.le_of_ble_eq_true rfl) t16 ?_
  refine gm_ev.icmp_eq_t (tgt := 638) iL_333 (by decide) c20 ?_
  refine gm_ev.iinc (v := x4 + (4 : Int32)) (ls' := [some (.ref b), some (.ref a1), some (.ref a2), some (.ref a3), some (.int (x4 + (4 : Int32))), none, none]) iL_638 rfl (by rfl) rfl ?_
  refine gm_ev.goto (tgt := 23) iL_641 (by decide) ?_
  exact k
theorem w_L_law_23_fs6f {N0 : Nat} {K : Nat → Nat} {M : gm_H} {sz sl : Nat} {b : Nat} {a1 : Nat} {a2 : Nat} {a3 : Nat} {x4 : Int32} {na1 : Nat} {fa1 : Nat → Int32} {k3 : Nat} {k5 : Nat} {fso6 : List Value} {r7 : Int32} {M9 : gm_H} {sz10 : Nat} {dd11 : Nat} {na12 : Nat} {fa12 : Nat → Int32} {k13 : Nat} {fso14 : List Value} {r15 : Int32} {M17 : gm_H} {sz18 : Nat} {dd19 : Nat} (ha1 : M b = some (.inl (gm_scr, na1, .inl fa1))) (ba1 : na1 < 2 ^ 31) (c2 : ¬ ((nI na1) - (4 : Int32)) < x4) (ek3 : x4 = nI k3) (lk3 : k3 < na1) (c4 : ((fa1 k3) &&& (15 : Int32)) = 6) (ek5 : (x4 + (1 : Int32)) = nI k5) (lk5 : k5 < na1) (ho6 : M a1 = some (.inr (10, fso6))) (t8 : gm_toC (gm_lawC N0 K ra_nm (ra_mt K) 100 10 ra_wt) 109 [.ref a1, .int (fa1 k5)] M sz (.returned (some (.int r7)), M9, sz10, dd11)) (ha12 : M9 b = some (.inl (gm_scr, na12, .inl fa12))) (ba12 : na12 < 2 ^ 31) (ek13 : (x4 + (1 : Int32)) = nI k13) (lk13 : k13 < na12) (ho14 : M9 a2 = some (.inr (11, fso14))) (t16 : gm_toC (gm_lawC N0 K ra_nm (ra_mt K) 100 10 ra_wt) 176 [.ref a2, .int (fa12 k13)] M9 sz10 (.returned (some (.int r15)), M17, sz18, dd19)) (c20 : ¬ r7 = r15) : gm_evC N0 ra_nm (gm_lawC N0 K ra_nm (ra_mt K) 100 10 ra_wt) (some .boolean) (gm_I cL_law) (gm_lkf (lkL false K)) 23 [some (.ref b), some (.ref a1), some (.ref a2), some (.ref a3), some (.int x4), none, none] [] M sz sl (.returned (some (.int (0 : Int32))), M17, sz18, ((sl + dd11) + dd19)) := by
  refine gm_ev.iload iL_23 rfl ?_
  refine gm_ev.aload_n iL_25 rfl ?_
  refine gm_ev.alen iL_26 (gm_alen_of ha1) ?_
  refine gm_ev.iconst (v := 4) iL_27 (by decide) ?_
  refine gm_ev.isub iL_28 ?_
  refine gm_ev.icmp_gt_f iL_29 c2 ?_
  refine gm_ev.aload_n iL_32 rfl ?_
  refine gm_ev.iload iL_33 rfl ?_
  refine gm_ev.ialoadS iL_35 (gm_ai_of ha1 ek3 lk3 ba1) ?_
  refine gm_ev.bipush (v := 15) iL_36 (by decide) ?_
  refine gm_ev.iand iL_38 ?_
  refine gm_ev.tableIn (tgt := 313) (off := 274) iL_39 (by rw [c4]; decide) (by rw [c4]; decide) (by decide) ?_
  refine gm_ev.aload_n iL_313 rfl ?_
  refine gm_ev.aload_n iL_314 rfl ?_
  refine gm_ev.iload iL_315 rfl ?_
  refine gm_ev.iconst (v := 1) iL_317 (by decide) ?_
  refine gm_ev.iadd iL_318 ?_
  refine gm_ev.ialoadS iL_319 (gm_ai_of ha1 ek5 lk5 ba1) ?_
  refine gm_ev.callV gm_mono_law (av := [.int (fa1 k5)]) (r := []) (fs := fso6) ho6 iL_320 rfl rfl rfl (Nat.le_of_ble_eq_true rfl) t8 ?_
  refine gm_ev.aload_n iL_323 rfl ?_
  refine gm_ev.aload_n iL_324 rfl ?_
  refine gm_ev.iload iL_325 rfl ?_
  refine gm_ev.iconst (v := 1) iL_327 (by decide) ?_
  refine gm_ev.iadd iL_328 ?_
  refine gm_ev.ialoadS iL_329 (gm_ai_of ha12 ek13 lk13 ba12) ?_
  refine gm_ev.callV gm_mono_law (av := [.int (fa12 k13)]) (r := [.int r7]) (fs := fso14) ho14 iL_330 rfl rfl rfl (Nat.le_of_ble_eq_true rfl) t16 ?_
  refine gm_ev.icmp_eq_f iL_333 c20 ?_
  refine gm_ev.iconst (v := 0) iL_336 (by decide) ?_
  exact gm_ev.zret iL_337 rfl (by decide)
theorem w_L_law_23_fs7t_at23 {N0 : Nat} {K : Nat → Nat} {M : gm_H} {sz sl : Nat} {R : gm_R} {b : Nat} {a1 : Nat} {a2 : Nat} {a3 : Nat} {x4 : Int32} {na1 : Nat} {fa1 : Nat → Int32} {k3 : Nat} {fso5 : List Value} {r6 : Int32} {M8 : gm_H} {sz9 : Nat} {dd10 : Nat} {fso11 : List Value} {r12 : Int32} {M14 : gm_H} {sz15 : Nat} {dd16 : Nat} (ha1 : M b = some (.inl (gm_scr, na1, .inl fa1))) (ba1 : na1 < 2 ^ 31) (c2 : ¬ ((nI na1) - (4 : Int32)) < x4) (ek3 : x4 = nI k3) (lk3 : k3 < na1) (c4 : ((fa1 k3) &&& (15 : Int32)) = 7) (ho5 : M a1 = some (.inr (10, fso5))) (t7 : gm_toC (gm_lawC N0 K ra_nm (ra_mt K) 100 10 ra_wt) 110 [.ref a1] M sz (.returned (some (.int r6)), M8, sz9, dd10)) (ho11 : M8 a2 = some (.inr (11, fso11))) (t13 : gm_toC (gm_lawC N0 K ra_nm (ra_mt K) 100 10 ra_wt) 177 [.ref a2] M8 sz9 (.returned (some (.int r12)), M14, sz15, dd16)) (c17 : r6 = r12) (k : gm_evC N0 ra_nm (gm_lawC N0 K ra_nm (ra_mt K) 100 10 ra_wt) (some .boolean) (gm_I cL_law) (gm_lkf (lkL false K)) 23 [some (.ref b), some (.ref a1), some (.ref a2), some (.ref a3), some (.int (x4 + (4 : Int32))), none, none] [] M14 sz15 ((sl + dd10) + dd16) R) : gm_evC N0 ra_nm (gm_lawC N0 K ra_nm (ra_mt K) 100 10 ra_wt) (some .boolean) (gm_I cL_law) (gm_lkf (lkL false K)) 23 [some (.ref b), some (.ref a1), some (.ref a2), some (.ref a3), some (.int x4), none, none] [] M sz sl R := by
  refine gm_ev.iload iL_23 rfl ?_
  refine gm_ev.aload_n iL_25 rfl ?_
  refine gm_ev.alen iL_26 (gm_alen_of ha1) ?_
  refine gm_ev.iconst (v := 4) iL_27 (by decide) ?_
  refine gm_ev.isub iL_28 ?_
  refine gm_ev.icmp_gt_f iL_29 c2 ?_
  refine gm_ev.aload_n iL_32 rfl ?_
  refine gm_ev.iload iL_33 rfl ?_
  refine gm_ev.ialoadS iL_35 (gm_ai_of ha1 ek3 lk3 ba1) ?_
  refine gm_ev.bipush (v := 15) iL_36 (by decide) ?_
  refine gm_ev.iand iL_38 ?_
  refine gm_ev.tableIn (tgt := 338) (off := 299) iL_39 (by rw [c4]; decide) (by rw [c4]; decide) (by decide) ?_
  refine gm_ev.aload_n iL_338 rfl ?_
  refine gm_ev.callV gm_mono_law (av := []) (r := []) (fs := fso5) ho5 iL_339 rfl rfl rfl (Nat.le_of_ble_eq_true rfl) t7 ?_
  refine gm_ev.aload_n iL_342 rfl ?_
  refine gm_ev.callV gm_mono_law (av := []) (r := [.int r6]) (fs := fso11) ho11 iL_343 rfl rfl rfl (Nat.le_of_ble_eq_true rfl) t13 ?_
  refine gm_ev.icmp_eq_t (tgt := 638) iL_346 (by decide) c17 ?_
  refine gm_ev.iinc (v := x4 + (4 : Int32)) (ls' := [some (.ref b), some (.ref a1), some (.ref a2), some (.ref a3), some (.int (x4 + (4 : Int32))), none, none]) iL_638 rfl (by rfl) rfl ?_
  refine gm_ev.goto (tgt := 23) iL_641 (by decide) ?_
  exact k
theorem w_L_law_23_fs7f {N0 : Nat} {K : Nat → Nat} {M : gm_H} {sz sl : Nat} {b : Nat} {a1 : Nat} {a2 : Nat} {a3 : Nat} {x4 : Int32} {na1 : Nat} {fa1 : Nat → Int32} {k3 : Nat} {fso5 : List Value} {r6 : Int32} {M8 : gm_H} {sz9 : Nat} {dd10 : Nat} {fso11 : List Value} {r12 : Int32} {M14 : gm_H} {sz15 : Nat} {dd16 : Nat} (ha1 : M b = some (.inl (gm_scr, na1, .inl fa1))) (ba1 : na1 < 2 ^ 31) (c2 : ¬ ((nI na1) - (4 : Int32)) < x4) (ek3 : x4 = nI k3) (lk3 : k3 < na1) (c4 : ((fa1 k3) &&& (15 : Int32)) = 7) (ho5 : M a1 = some (.inr (10, fso5))) (t7 : gm_toC (gm_lawC N0 K ra_nm (ra_mt K) 100 10 ra_wt) 110 [.ref a1] M sz (.returned (some (.int r6)), M8, sz9, dd10)) (ho11 : M8 a2 = some (.inr (11, fso11))) (t13 : gm_toC (gm_lawC N0 K ra_nm (ra_mt K) 100 10 ra_wt) 177 [.ref a2] M8 sz9 (.returned (some (.int r12)), M14, sz15, dd16)) (c17 : ¬ r6 = r12) : gm_evC N0 ra_nm (gm_lawC N0 K ra_nm (ra_mt K) 100 10 ra_wt) (some .boolean) (gm_I cL_law) (gm_lkf (lkL false K)) 23 [some (.ref b), some (.ref a1), some (.ref a2), some (.ref a3), some (.int x4), none, none] [] M sz sl (.returned (some (.int (0 : Int32))), M14, sz15, ((sl + dd10) + dd16)) := by
  refine gm_ev.iload iL_23 rfl ?_
  refine gm_ev.aload_n iL_25 rfl ?_
  refine gm_ev.alen iL_26 (gm_alen_of ha1) ?_
  refine gm_ev.iconst (v := 4) iL_27 (by decide) ?_
  refine gm_ev.isub iL_28 ?_
  refine gm_ev.icmp_gt_f iL_29 c2 ?_
  refine gm_ev.aload_n iL_32 rfl ?_
  refine gm_ev.iload iL_33 rfl ?_
  refine gm_ev.ialoadS iL_35 (gm_ai_of ha1 ek3 lk3 ba1) ?_
  refine gm_ev.bipush (v := 15) iL_36 (by decide) ?_
  refine gm_ev.iand iL_38 ?_
  refine gm_ev.tableIn (tgt := 338) (off := 299) iL_39 (by rw [c4]; decide) (by rw [c4]; decide) (by decide) ?_
  refine gm_ev.aload_n iL_338 rfl ?_
  refine gm_ev.callV gm_mono_law (av := []) (r := []) (fs := fso5) ho5 iL_339 rfl rfl rfl (Nat.le_of_ble_eq_true rfl) t7 ?_
  refine gm_ev.aload_n iL_342 rfl ?_
  refine gm_ev.callV gm_mono_law (av := []) (r := [.int r6]) (fs := fso11) ho11 iL_343 rfl rfl rfl (Nat.le_of_ble_eq_true rfl) t13 ?_
  refine gm_ev.icmp_eq_f iL_346 c17 ?_
  refine gm_ev.iconst (v := 0) iL_349 (by decide) ?_
  exact gm_ev.zret iL_350 rfl (by decide)
theorem w_L_law_23_fs8t_at23 {N0 : Nat} {K : Nat → Nat} {M : gm_H} {sz sl : Nat} {R : gm_R} {b : Nat} {a1 : Nat} {a2 : Nat} {a3 : Nat} {x4 : Int32} {na1 : Nat} {fa1 : Nat → Int32} {k3 : Nat} {k5 : Nat} {fso6 : List Value} {r7 : Int32} {M9 : gm_H} {sz10 : Nat} {dd11 : Nat} {na12 : Nat} {fa12 : Nat → Int32} {k13 : Nat} {fso14 : List Value} {r15 : Int32} {M17 : gm_H} {sz18 : Nat} {dd19 : Nat} (ha1 : M b = some (.inl (gm_scr, na1, .inl fa1))) (ba1 : na1 < 2 ^ 31) (c2 : ¬ ((nI na1) - (4 : Int32)) < x4) (ek3 : x4 = nI k3) (lk3 : k3 < na1) (c4 : ((fa1 k3) &&& (15 : Int32)) = 8) (ek5 : (x4 + (1 : Int32)) = nI k5) (lk5 : k5 < na1) (ho6 : M a1 = some (.inr (10, fso6))) (t8 : gm_toC (gm_lawC N0 K ra_nm (ra_mt K) 100 10 ra_wt) 111 [.ref a1, .int (fa1 k5)] M sz (.returned (some (.int r7)), M9, sz10, dd11)) (ha12 : M9 b = some (.inl (gm_scr, na12, .inl fa12))) (ba12 : na12 < 2 ^ 31) (ek13 : (x4 + (1 : Int32)) = nI k13) (lk13 : k13 < na12) (ho14 : M9 a2 = some (.inr (11, fso14))) (t16 : gm_toC (gm_lawC N0 K ra_nm (ra_mt K) 100 10 ra_wt) 178 [.ref a2, .int (fa12 k13)] M9 sz10 (.returned (some (.int r15)), M17, sz18, dd19)) (c20 : r7 = r15) (k : gm_evC N0 ra_nm (gm_lawC N0 K ra_nm (ra_mt K) 100 10 ra_wt) (some .boolean) (gm_I cL_law) (gm_lkf (lkL false K)) 23 [some (.ref b), some (.ref a1), some (.ref a2), some (.ref a3), some (.int (x4 + (4 : Int32))), none, none] [] M17 sz18 ((sl + dd11) + dd19) R) : gm_evC N0 ra_nm (gm_lawC N0 K ra_nm (ra_mt K) 100 10 ra_wt) (some .boolean) (gm_I cL_law) (gm_lkf (lkL false K)) 23 [some (.ref b), some (.ref a1), some (.ref a2), some (.ref a3), some (.int x4), none, none] [] M sz sl R := by
  refine gm_ev.iload iL_23 rfl ?_
  refine gm_ev.aload_n iL_25 rfl ?_
  refine gm_ev.alen iL_26 (gm_alen_of ha1) ?_
  refine gm_ev.iconst (v := 4) iL_27 (by decide) ?_
  refine gm_ev.isub iL_28 ?_
  refine gm_ev.icmp_gt_f iL_29 c2 ?_
  refine gm_ev.aload_n iL_32 rfl ?_
  refine gm_ev.iload iL_33 rfl ?_
  refine gm_ev.ialoadS iL_35 (gm_ai_of ha1 ek3 lk3 ba1) ?_
  refine gm_ev.bipush (v := 15) iL_36 (by decide) ?_
  refine gm_ev.iand iL_38 ?_
  refine gm_ev.tableIn (tgt := 351) (off := 312) iL_39 (by rw [c4]; decide) (by rw [c4]; decide) (by decide) ?_
  refine gm_ev.aload_n iL_351 rfl ?_
  refine gm_ev.aload_n iL_352 rfl ?_
  refine gm_ev.iload iL_353 rfl ?_
  refine gm_ev.iconst (v := 1) iL_355 (by decide) ?_
  refine gm_ev.iadd iL_356 ?_
  refine gm_ev.ialoadS iL_357 (gm_ai_of ha1 ek5 lk5 ba1) ?_
  refine gm_ev.callV gm_mono_law (av := [.int (fa1 k5)]) (r := []) (fs := fso6) ho6 iL_358 rfl rfl rfl (Nat.le_of_ble_eq_true rfl) t8 ?_
  refine gm_ev.aload_n iL_361 rfl ?_
  refine gm_ev.aload_n iL_362 rfl ?_
  refine gm_ev.iload iL_363 rfl ?_
  refine gm_ev.iconst (v := 1) iL_365 (by decide) ?_
  refine gm_ev.iadd iL_366 ?_
  refine gm_ev.ialoadS iL_367 (gm_ai_of ha12 ek13 lk13 ba12) ?_
  refine gm_ev.callV gm_mono_law (av := [.int (fa12 k13)]) (r := [.int r7]) (fs := fso14) ho14 iL_368 rfl rfl rfl (Nat.le_of_ble_eq_true rfl) t16 ?_
  refine gm_ev.icmp_eq_t (tgt := 638) iL_371 (by decide) c20 ?_
  refine gm_ev.iinc (v := x4 + (4 : Int32)) (ls' := [some (.ref b), some (.ref a1), some (.ref a2), some (.ref a3), some (.int (x4 + (4 : Int32))), none, none]) iL_638 rfl (by rfl) rfl ?_
  refine gm_ev.goto (tgt := 23) iL_641 (by decide) ?_
  exact k
theorem w_L_law_23_fs8f {N0 : Nat} {K : Nat → Nat} {M : gm_H} {sz sl : Nat} {b : Nat} {a1 : Nat} {a2 : Nat} {a3 : Nat} {x4 : Int32} {na1 : Nat} {fa1 : Nat → Int32} {k3 : Nat} {k5 : Nat} {fso6 : List Value} {r7 : Int32} {M9 : gm_H} {sz10 : Nat} {dd11 : Nat} {na12 : Nat} {fa12 : Nat → Int32} {k13 : Nat} {fso14 : List Value} {r15 : Int32} {M17 : gm_H} {sz18 : Nat} {dd19 : Nat} (ha1 : M b = some (.inl (gm_scr, na1, .inl fa1))) (ba1 : na1 < 2 ^ 31) (c2 : ¬ ((nI na1) - (4 : Int32)) < x4) (ek3 : x4 = nI k3) (lk3 : k3 < na1) (c4 : ((fa1 k3) &&& (15 : Int32)) = 8) (ek5 : (x4 + (1 : Int32)) = nI k5) (lk5 : k5 < na1) (ho6 : M a1 = some (.inr (10, fso6))) (t8 : gm_toC (gm_lawC N0 K ra_nm (ra_mt K) 100 10 ra_wt) 111 [.ref a1, .int (fa1 k5)] M sz (.returned (some (.int r7)), M9, sz10, dd11)) (ha12 : M9 b = some (.inl (gm_scr, na12, .inl fa12))) (ba12 : na12 < 2 ^ 31) (ek13 : (x4 + (1 : Int32)) = nI k13) (lk13 : k13 < na12) (ho14 : M9 a2 = some (.inr (11, fso14))) (t16 : gm_toC (gm_lawC N0 K ra_nm (ra_mt K) 100 10 ra_wt) 178 [.ref a2, .int (fa12 k13)] M9 sz10 (.returned (some (.int r15)), M17, sz18, dd19)) (c20 : ¬ r7 = r15) : gm_evC N0 ra_nm (gm_lawC N0 K ra_nm (ra_mt K) 100 10 ra_wt) (some .boolean) (gm_I cL_law) (gm_lkf (lkL false K)) 23 [some (.ref b), some (.ref a1), some (.ref a2), some (.ref a3), some (.int x4), none, none] [] M sz sl (.returned (some (.int (0 : Int32))), M17, sz18, ((sl + dd11) + dd19)) := by
  refine gm_ev.iload iL_23 rfl ?_
  refine gm_ev.aload_n iL_25 rfl ?_
  refine gm_ev.alen iL_26 (gm_alen_of ha1) ?_
  refine gm_ev.iconst (v := 4) iL_27 (by decide) ?_
  refine gm_ev.isub iL_28 ?_
  refine gm_ev.icmp_gt_f iL_29 c2 ?_
  refine gm_ev.aload_n iL_32 rfl ?_
  refine gm_ev.iload iL_33 rfl ?_
  refine gm_ev.ialoadS iL_35 (gm_ai_of ha1 ek3 lk3 ba1) ?_
  refine gm_ev.bipush (v := 15) iL_36 (by decide) ?_
  refine gm_ev.iand iL_38 ?_
  refine gm_ev.tableIn (tgt := 351) (off := 312) iL_39 (by rw [c4]; decide) (by rw [c4]; decide) (by decide) ?_
  refine gm_ev.aload_n iL_351 rfl ?_
  refine gm_ev.aload_n iL_352 rfl ?_
  refine gm_ev.iload iL_353 rfl ?_
  refine gm_ev.iconst (v := 1) iL_355 (by decide) ?_
  refine gm_ev.iadd iL_356 ?_
  refine gm_ev.ialoadS iL_357 (gm_ai_of ha1 ek5 lk5 ba1) ?_
  refine gm_ev.callV gm_mono_law (av := [.int (fa1 k5)]) (r := []) (fs := fso6) ho6 iL_358 rfl rfl rfl (Nat.le_of_ble_eq_true rfl) t8 ?_
  refine gm_ev.aload_n iL_361 rfl ?_
  refine gm_ev.aload_n iL_362 rfl ?_
  refine gm_ev.iload iL_363 rfl ?_
  refine gm_ev.iconst (v := 1) iL_365 (by decide) ?_
  refine gm_ev.iadd iL_366 ?_
  refine gm_ev.ialoadS iL_367 (gm_ai_of ha12 ek13 lk13 ba12) ?_
  refine gm_ev.callV gm_mono_law (av := [.int (fa12 k13)]) (r := [.int r7]) (fs := fso14) ho14 iL_368 rfl rfl rfl (Nat.le_of_ble_eq_true rfl) t16 ?_
  refine gm_ev.icmp_eq_f iL_371 c20 ?_
  refine gm_ev.iconst (v := 0) iL_374 (by decide) ?_
  exact gm_ev.zret iL_375 rfl (by decide)
theorem w_L_law_23_fs9t_at23 {N0 : Nat} {K : Nat → Nat} {M : gm_H} {sz sl : Nat} {R : gm_R} {b : Nat} {a1 : Nat} {a2 : Nat} {a3 : Nat} {x4 : Int32} {na1 : Nat} {fa1 : Nat → Int32} {k3 : Nat} {k5 : Nat} {k6 : Nat} {k7 : Nat} {fso8 : List Value} {r9 : Int32} {M11 : gm_H} {sz12 : Nat} {dd13 : Nat} {na14 : Nat} {fa14 : Nat → Int32} {k15 : Nat} {k16 : Nat} {k17 : Nat} {fso18 : List Value} {r19 : Int32} {M21 : gm_H} {sz22 : Nat} {dd23 : Nat} (ha1 : M b = some (.inl (gm_scr, na1, .inl fa1))) (ba1 : na1 < 2 ^ 31) (c2 : ¬ ((nI na1) - (4 : Int32)) < x4) (ek3 : x4 = nI k3) (lk3 : k3 < na1) (c4 : ((fa1 k3) &&& (15 : Int32)) = 9) (ek5 : (x4 + (1 : Int32)) = nI k5) (lk5 : k5 < na1) (ek6 : (x4 + (2 : Int32)) = nI k6) (lk6 : k6 < na1) (ek7 : (x4 + (3 : Int32)) = nI k7) (lk7 : k7 < na1) (ho8 : M a1 = some (.inr (10, fso8))) (t10 : gm_toC (gm_lawC N0 K ra_nm (ra_mt K) 100 10 ra_wt) 112 [.ref a1, .int (fa1 k5), .int (fa1 k6), .int (fa1 k7)] M sz (.returned (some (.int r9)), M11, sz12, dd13)) (ha14 : M11 b = some (.inl (gm_scr, na14, .inl fa14))) (ba14 : na14 < 2 ^ 31) (ek15 : (x4 + (1 : Int32)) = nI k15) (lk15 : k15 < na14) (ek16 : (x4 + (2 : Int32)) = nI k16) (lk16 : k16 < na14) (ek17 : (x4 + (3 : Int32)) = nI k17) (lk17 : k17 < na14) (ho18 : M11 a2 = some (.inr (11, fso18))) (t20 : gm_toC (gm_lawC N0 K ra_nm (ra_mt K) 100 10 ra_wt) 179 [.ref a2, .int (fa14 k15), .int (fa14 k16), .int (fa14 k17)] M11 sz12 (.returned (some (.int r19)), M21, sz22, dd23)) (c24 : r9 = r19) (k : gm_evC N0 ra_nm (gm_lawC N0 K ra_nm (ra_mt K) 100 10 ra_wt) (some .boolean) (gm_I cL_law) (gm_lkf (lkL false K)) 23 [some (.ref b), some (.ref a1), some (.ref a2), some (.ref a3), some (.int (x4 + (4 : Int32))), none, none] [] M21 sz22 ((sl + dd13) + dd23) R) : gm_evC N0 ra_nm (gm_lawC N0 K ra_nm (ra_mt K) 100 10 ra_wt) (some .boolean) (gm_I cL_law) (gm_lkf (lkL false K)) 23 [some (.ref b), some (.ref a1), some (.ref a2), some (.ref a3), some (.int x4), none, none] [] M sz sl R := by
  refine gm_ev.iload iL_23 rfl ?_
  refine gm_ev.aload_n iL_25 rfl ?_
  refine gm_ev.alen iL_26 (gm_alen_of ha1) ?_
  refine gm_ev.iconst (v := 4) iL_27 (by decide) ?_
  refine gm_ev.isub iL_28 ?_
  refine gm_ev.icmp_gt_f iL_29 c2 ?_
  refine gm_ev.aload_n iL_32 rfl ?_
  refine gm_ev.iload iL_33 rfl ?_
  refine gm_ev.ialoadS iL_35 (gm_ai_of ha1 ek3 lk3 ba1) ?_
  refine gm_ev.bipush (v := 15) iL_36 (by decide) ?_
  refine gm_ev.iand iL_38 ?_
  refine gm_ev.tableIn (tgt := 376) (off := 337) iL_39 (by rw [c4]; decide) (by rw [c4]; decide) (by decide) ?_
  refine gm_ev.aload_n iL_376 rfl ?_
  refine gm_ev.aload_n iL_377 rfl ?_
  refine gm_ev.iload iL_378 rfl ?_
  refine gm_ev.iconst (v := 1) iL_380 (by decide) ?_
  refine gm_ev.iadd iL_381 ?_
  refine gm_ev.ialoadS iL_382 (gm_ai_of ha1 ek5 lk5 ba1) ?_
  refine gm_ev.aload_n iL_383 rfl ?_
  refine gm_ev.iload iL_384 rfl ?_
  refine gm_ev.iconst (v := 2) iL_386 (by decide) ?_
  refine gm_ev.iadd iL_387 ?_
  refine gm_ev.ialoadS iL_388 (gm_ai_of ha1 ek6 lk6 ba1) ?_
  refine gm_ev.aload_n iL_389 rfl ?_
  refine gm_ev.iload iL_390 rfl ?_
  refine gm_ev.iconst (v := 3) iL_392 (by decide) ?_
  refine gm_ev.iadd iL_393 ?_
  refine gm_ev.ialoadS iL_394 (gm_ai_of ha1 ek7 lk7 ba1) ?_
  refine gm_ev.callV gm_mono_law (av := [.int (fa1 k5), .int (fa1 k6), .int (fa1 k7)]) (r := []) (fs := fso8) ho8 iL_395 rfl rfl rfl (Nat.le_of_ble_eq_true rfl) t10 ?_
  refine gm_ev.aload_n iL_398 rfl ?_
  refine gm_ev.aload_n iL_399 rfl ?_
  refine gm_ev.iload iL_400 rfl ?_
  refine gm_ev.iconst (v := 1) iL_402 (by decide) ?_
  refine gm_ev.iadd iL_403 ?_
  refine gm_ev.ialoadS iL_404 (gm_ai_of ha14 ek15 lk15 ba14) ?_
  refine gm_ev.aload_n iL_405 rfl ?_
  refine gm_ev.iload iL_406 rfl ?_
  refine gm_ev.iconst (v := 2) iL_408 (by decide) ?_
  refine gm_ev.iadd iL_409 ?_
  refine gm_ev.ialoadS iL_410 (gm_ai_of ha14 ek16 lk16 ba14) ?_
  refine gm_ev.aload_n iL_411 rfl ?_
  refine gm_ev.iload iL_412 rfl ?_
  refine gm_ev.iconst (v := 3) iL_414 (by decide) ?_
  refine gm_ev.iadd iL_415 ?_
  refine gm_ev.ialoadS iL_416 (gm_ai_of ha14 ek17 lk17 ba14) ?_
  refine gm_ev.callV gm_mono_law (av := [.int (fa14 k15), .int (fa14 k16), .int (fa14 k17)]) (r := [.int r9]) (fs := fso18) ho18 iL_417 rfl rfl rfl (Nat.le_of_ble_eq_true rfl) t20 ?_
  refine gm_ev.icmp_eq_t (tgt := 638) iL_420 (by decide) c24 ?_
  refine gm_ev.iinc (v := x4 + (4 : Int32)) (ls' := [some (.ref b), some (.ref a1), some (.ref a2), some (.ref a3), some (.int (x4 + (4 : Int32))), none, none]) iL_638 rfl (by rfl) rfl ?_
  refine gm_ev.goto (tgt := 23) iL_641 (by decide) ?_
  exact k
theorem w_L_law_23_fs9f {N0 : Nat} {K : Nat → Nat} {M : gm_H} {sz sl : Nat} {b : Nat} {a1 : Nat} {a2 : Nat} {a3 : Nat} {x4 : Int32} {na1 : Nat} {fa1 : Nat → Int32} {k3 : Nat} {k5 : Nat} {k6 : Nat} {k7 : Nat} {fso8 : List Value} {r9 : Int32} {M11 : gm_H} {sz12 : Nat} {dd13 : Nat} {na14 : Nat} {fa14 : Nat → Int32} {k15 : Nat} {k16 : Nat} {k17 : Nat} {fso18 : List Value} {r19 : Int32} {M21 : gm_H} {sz22 : Nat} {dd23 : Nat} (ha1 : M b = some (.inl (gm_scr, na1, .inl fa1))) (ba1 : na1 < 2 ^ 31) (c2 : ¬ ((nI na1) - (4 : Int32)) < x4) (ek3 : x4 = nI k3) (lk3 : k3 < na1) (c4 : ((fa1 k3) &&& (15 : Int32)) = 9) (ek5 : (x4 + (1 : Int32)) = nI k5) (lk5 : k5 < na1) (ek6 : (x4 + (2 : Int32)) = nI k6) (lk6 : k6 < na1) (ek7 : (x4 + (3 : Int32)) = nI k7) (lk7 : k7 < na1) (ho8 : M a1 = some (.inr (10, fso8))) (t10 : gm_toC (gm_lawC N0 K ra_nm (ra_mt K) 100 10 ra_wt) 112 [.ref a1, .int (fa1 k5), .int (fa1 k6), .int (fa1 k7)] M sz (.returned (some (.int r9)), M11, sz12, dd13)) (ha14 : M11 b = some (.inl (gm_scr, na14, .inl fa14))) (ba14 : na14 < 2 ^ 31) (ek15 : (x4 + (1 : Int32)) = nI k15) (lk15 : k15 < na14) (ek16 : (x4 + (2 : Int32)) = nI k16) (lk16 : k16 < na14) (ek17 : (x4 + (3 : Int32)) = nI k17) (lk17 : k17 < na14) (ho18 : M11 a2 = some (.inr (11, fso18))) (t20 : gm_toC (gm_lawC N0 K ra_nm (ra_mt K) 100 10 ra_wt) 179 [.ref a2, .int (fa14 k15), .int (fa14 k16), .int (fa14 k17)] M11 sz12 (.returned (some (.int r19)), M21, sz22, dd23)) (c24 : ¬ r9 = r19) : gm_evC N0 ra_nm (gm_lawC N0 K ra_nm (ra_mt K) 100 10 ra_wt) (some .boolean) (gm_I cL_law) (gm_lkf (lkL false K)) 23 [some (.ref b), some (.ref a1), some (.ref a2), some (.ref a3), some (.int x4), none, none] [] M sz sl (.returned (some (.int (0 : Int32))), M21, sz22, ((sl + dd13) + dd23)) := by
  refine gm_ev.iload iL_23 rfl ?_
  refine gm_ev.aload_n iL_25 rfl ?_
  refine gm_ev.alen iL_26 (gm_alen_of ha1) ?_
  refine gm_ev.iconst (v := 4) iL_27 (by decide) ?_
  refine gm_ev.isub iL_28 ?_
  refine gm_ev.icmp_gt_f iL_29 c2 ?_
  refine gm_ev.aload_n iL_32 rfl ?_
  refine gm_ev.iload iL_33 rfl ?_
  refine gm_ev.ialoadS iL_35 (gm_ai_of ha1 ek3 lk3 ba1) ?_
  refine gm_ev.bipush (v := 15) iL_36 (by decide) ?_
  refine gm_ev.iand iL_38 ?_
  refine gm_ev.tableIn (tgt := 376) (off := 337) iL_39 (by rw [c4]; decide) (by rw [c4]; decide) (by decide) ?_
  refine gm_ev.aload_n iL_376 rfl ?_
  refine gm_ev.aload_n iL_377 rfl ?_
  refine gm_ev.iload iL_378 rfl ?_
  refine gm_ev.iconst (v := 1) iL_380 (by decide) ?_
  refine gm_ev.iadd iL_381 ?_
  refine gm_ev.ialoadS iL_382 (gm_ai_of ha1 ek5 lk5 ba1) ?_
  refine gm_ev.aload_n iL_383 rfl ?_
  refine gm_ev.iload iL_384 rfl ?_
  refine gm_ev.iconst (v := 2) iL_386 (by decide) ?_
  refine gm_ev.iadd iL_387 ?_
  refine gm_ev.ialoadS iL_388 (gm_ai_of ha1 ek6 lk6 ba1) ?_
  refine gm_ev.aload_n iL_389 rfl ?_
  refine gm_ev.iload iL_390 rfl ?_
  refine gm_ev.iconst (v := 3) iL_392 (by decide) ?_
  refine gm_ev.iadd iL_393 ?_
  refine gm_ev.ialoadS iL_394 (gm_ai_of ha1 ek7 lk7 ba1) ?_
  refine gm_ev.callV gm_mono_law (av := [.int (fa1 k5), .int (fa1 k6), .int (fa1 k7)]) (r := []) (fs := fso8) ho8 iL_395 rfl rfl rfl (Nat.le_of_ble_eq_true rfl) t10 ?_
  refine gm_ev.aload_n iL_398 rfl ?_
  refine gm_ev.aload_n iL_399 rfl ?_
  refine gm_ev.iload iL_400 rfl ?_
  refine gm_ev.iconst (v := 1) iL_402 (by decide) ?_
  refine gm_ev.iadd iL_403 ?_
  refine gm_ev.ialoadS iL_404 (gm_ai_of ha14 ek15 lk15 ba14) ?_
  refine gm_ev.aload_n iL_405 rfl ?_
  refine gm_ev.iload iL_406 rfl ?_
  refine gm_ev.iconst (v := 2) iL_408 (by decide) ?_
  refine gm_ev.iadd iL_409 ?_
  refine gm_ev.ialoadS iL_410 (gm_ai_of ha14 ek16 lk16 ba14) ?_
  refine gm_ev.aload_n iL_411 rfl ?_
  refine gm_ev.iload iL_412 rfl ?_
  refine gm_ev.iconst (v := 3) iL_414 (by decide) ?_
  refine gm_ev.iadd iL_415 ?_
  refine gm_ev.ialoadS iL_416 (gm_ai_of ha14 ek17 lk17 ba14) ?_
  refine gm_ev.callV gm_mono_law (av := [.int (fa14 k15), .int (fa14 k16), .int (fa14 k17)]) (r := [.int r9]) (fs := fso18) ho18 iL_417 rfl rfl rfl (Nat.le_of_ble_eq_true rfl) t20 ?_
  refine gm_ev.icmp_eq_f iL_420 c24 ?_
  refine gm_ev.iconst (v := 0) iL_423 (by decide) ?_
  exact gm_ev.zret iL_424 rfl (by decide)
theorem w_L_law_23_fs10tt_at23 {N0 : Nat} {K : Nat → Nat} {M : gm_H} {sz sl : Nat} {R : gm_R} {b : Nat} {a1 : Nat} {a2 : Nat} {a3 : Nat} {x4 : Int32} {na1 : Nat} {fa1 : Nat → Int32} {k3 : Nat} {k5 : Nat} {k6 : Nat} {r7 : Int32} {M9 : gm_H} {sz10 : Nat} {dd11 : Nat} {na12 : Nat} {fa12 : Nat → Int32} {k13 : Nat} {k14 : Nat} {fso15 : List Value} {r16 : Int32} {M18 : gm_H} {sz19 : Nat} {dd20 : Nat} {fso21 : List Value} {r22 : Int32} {M24 : gm_H} {sz25 : Nat} {dd26 : Nat} (ha1 : M b = some (.inl (gm_scr, na1, .inl fa1))) (ba1 : na1 < 2 ^ 31) (c2 : ¬ ((nI na1) - (4 : Int32)) < x4) (ek3 : x4 = nI k3) (lk3 : k3 < na1) (c4 : ((fa1 k3) &&& (15 : Int32)) = 10) (ek5 : (x4 + (1 : Int32)) = nI k5) (lk5 : k5 < na1) (ek6 : (x4 + (2 : Int32)) = nI k6) (lk6 : k6 < na1) (t8 : gm_toC (gm_lawC N0 K ra_nm (ra_mt K) 100 10 ra_wt) 1001 [.ref a1, .int (fa1 k5), .int (fa1 k6), .ref a3] M sz (.returned (some (.int r7)), M9, sz10, dd11)) (ha12 : M9 b = some (.inl (gm_scr, na12, .inl fa12))) (ba12 : na12 < 2 ^ 31) (ek13 : (x4 + (1 : Int32)) = nI k13) (lk13 : k13 < na12) (ek14 : (x4 + (2 : Int32)) = nI k14) (lk14 : k14 < na12) (ho15 : M9 a2 = some (.inr (11, fso15))) (t17 : gm_toC (gm_lawC N0 K ra_nm (ra_mt K) 100 10 ra_wt) 180 [.ref a2, .int (fa12 k13), .int (fa12 k14)] M9 sz10 (.returned (some (.int r16)), M18, sz19, dd20)) (ho21 : M18 a2 = some (.inr (11, fso21))) (t23 : gm_toC (gm_lawC N0 K ra_nm (ra_mt K) 100 10 ra_wt) 119 [.ref a2] M18 sz19 (.returned (some (.int r22)), M24, sz25, dd26)) (c27 : r22 = r7) (c28 : ¬ r7 = 0) (k : gm_evC N0 ra_nm (gm_lawC N0 K ra_nm (ra_mt K) 100 10 ra_wt) (some .boolean) (gm_I cL_law) (gm_lkf (lkL false K)) 23 [some (.ref b), some (.ref a1), some (.ref a2), some (.ref a3), some (.int (x4 + (4 : Int32))), none, none] [] M24 sz25 (((sl + dd11) + dd20) + dd26) R) : gm_evC N0 ra_nm (gm_lawC N0 K ra_nm (ra_mt K) 100 10 ra_wt) (some .boolean) (gm_I cL_law) (gm_lkf (lkL false K)) 23 [some (.ref b), some (.ref a1), some (.ref a2), some (.ref a3), some (.int x4), none, none] [] M sz sl R := by
  refine gm_ev.iload iL_23 rfl ?_
  refine gm_ev.aload_n iL_25 rfl ?_
  refine gm_ev.alen iL_26 (gm_alen_of ha1) ?_
  refine gm_ev.iconst (v := 4) iL_27 (by decide) ?_
  refine gm_ev.isub iL_28 ?_
  refine gm_ev.icmp_gt_f iL_29 c2 ?_
  refine gm_ev.aload_n iL_32 rfl ?_
  refine gm_ev.iload iL_33 rfl ?_
  refine gm_ev.ialoadS iL_35 (gm_ai_of ha1 ek3 lk3 ba1) ?_
  refine gm_ev.bipush (v := 15) iL_36 (by decide) ?_
  refine gm_ev.iand iL_38 ?_
  refine gm_ev.tableIn (tgt := 425) (off := 386) iL_39 (by rw [c4]; decide) (by rw [c4]; decide) (by decide) ?_
  refine gm_ev.aload_n iL_425 rfl ?_
  refine gm_ev.aload_n iL_426 rfl ?_
  refine gm_ev.iload iL_427 rfl ?_
  refine gm_ev.iconst (v := 1) iL_429 (by decide) ?_
  refine gm_ev.iadd iL_430 ?_
  refine gm_ev.ialoadS iL_431 (gm_ai_of ha1 ek5 lk5 ba1) ?_
  refine gm_ev.aload_n iL_432 rfl ?_
  refine gm_ev.iload iL_433 rfl ?_
  refine gm_ev.iconst (v := 2) iL_435 (by decide) ?_
  refine gm_ev.iadd iL_436 ?_
  refine gm_ev.ialoadS iL_437 (gm_ai_of ha1 ek6 lk6 ba1) ?_
  refine gm_ev.aload_n iL_438 rfl ?_
  refine gm_ev.callS gm_mono_law (av := [.ref a1, .int (fa1 k5), .int (fa1 k6), .ref a3]) (r := []) iL_439 rfl rfl rfl (Nat.le_of_ble_eq_true rfl) t8 ?_
  refine gm_ev.istore (ls' := [some (.ref b), some (.ref a1), some (.ref a2), some (.ref a3), some (.int x4), some (.int r7), none]) iL_442 (Nat.le_of_ble_eq_true rfl) rfl ?_
  refine gm_ev.aload_n iL_444 rfl ?_
  refine gm_ev.aload_n iL_445 rfl ?_
  refine gm_ev.iload iL_446 rfl ?_
  refine gm_ev.iconst (v := 1) iL_448 (by decide) ?_
  refine gm_ev.iadd iL_449 ?_
  refine gm_ev.ialoadS iL_450 (gm_ai_of ha12 ek13 lk13 ba12) ?_
  refine gm_ev.aload_n iL_451 rfl ?_
  refine gm_ev.iload iL_452 rfl ?_
  refine gm_ev.iconst (v := 2) iL_454 (by decide) ?_
  refine gm_ev.iadd iL_455 ?_
  refine gm_ev.ialoadS iL_456 (gm_ai_of ha12 ek14 lk14 ba12) ?_
  refine gm_ev.callV gm_mono_law (av := [.int (fa12 k13), .int (fa12 k14)]) (r := []) (fs := fso15) ho15 iL_457 rfl rfl rfl (Nat.le_of_ble_eq_true rfl) t17 ?_
  refine gm_ev.istore (ls' := [some (.ref b), some (.ref a1), some (.ref a2), some (.ref a3), some (.int x4), some (.int r7), some (.int r16)]) iL_460 (Nat.le_of_ble_eq_true rfl) rfl ?_
  refine gm_ev.aload_n iL_462 rfl ?_
  refine gm_ev.callV gm_mono_law (av := []) (r := []) (fs := fso21) ho21 iL_463 rfl rfl rfl (Nat.le_of_ble_eq_true rfl) t23 ?_
  refine gm_ev.iload iL_466 rfl ?_
  refine gm_ev.icmp_eq_t (tgt := 473) iL_468 (by decide) c27 ?_
  refine gm_ev.iload iL_473 rfl ?_
  refine gm_ev.if_ne_t (tgt := 490) iL_475 (by decide) c28 ?_
  refine gm_ev.goto (tgt := 638) iL_490 (by decide) ?_
  refine gm_ev.iinc (v := x4 + (4 : Int32)) (ls' := [some (.ref b), some (.ref a1), some (.ref a2), some (.ref a3), some (.int (x4 + (4 : Int32))), some (.int r7), some (.int r16)]) iL_638 rfl (by rfl) rfl ?_
  refine gm_ev.goto (tgt := 23) iL_641 (by decide) ?_
  refine gm_ev.le (a := [some (.ref b), some (.ref a1), some (.ref a2), some (.ref a3), some (.int (x4 + (4 : Int32))), none, none]) (gm_leL.le (show gm_leL _ _ from ⟨rfl, ⟨rfl, ⟨rfl, ⟨rfl, ⟨rfl, trivial⟩⟩⟩⟩⟩)) ?_
  exact k
theorem w_L_law_23_fs10tft_at23 {N0 : Nat} {K : Nat → Nat} {M : gm_H} {sz sl : Nat} {R : gm_R} {b : Nat} {a1 : Nat} {a2 : Nat} {a3 : Nat} {x4 : Int32} {na1 : Nat} {fa1 : Nat → Int32} {k3 : Nat} {k5 : Nat} {k6 : Nat} {r7 : Int32} {M9 : gm_H} {sz10 : Nat} {dd11 : Nat} {na12 : Nat} {fa12 : Nat → Int32} {k13 : Nat} {k14 : Nat} {fso15 : List Value} {r16 : Int32} {M18 : gm_H} {sz19 : Nat} {dd20 : Nat} {fso21 : List Value} {r22 : Int32} {M24 : gm_H} {sz25 : Nat} {dd26 : Nat} {na29 : Nat} {fa29 : Nat → Int64} {k30 : Nat} (ha1 : M b = some (.inl (gm_scr, na1, .inl fa1))) (ba1 : na1 < 2 ^ 31) (c2 : ¬ ((nI na1) - (4 : Int32)) < x4) (ek3 : x4 = nI k3) (lk3 : k3 < na1) (c4 : ((fa1 k3) &&& (15 : Int32)) = 10) (ek5 : (x4 + (1 : Int32)) = nI k5) (lk5 : k5 < na1) (ek6 : (x4 + (2 : Int32)) = nI k6) (lk6 : k6 < na1) (t8 : gm_toC (gm_lawC N0 K ra_nm (ra_mt K) 100 10 ra_wt) 1001 [.ref a1, .int (fa1 k5), .int (fa1 k6), .ref a3] M sz (.returned (some (.int r7)), M9, sz10, dd11)) (ha12 : M9 b = some (.inl (gm_scr, na12, .inl fa12))) (ba12 : na12 < 2 ^ 31) (ek13 : (x4 + (1 : Int32)) = nI k13) (lk13 : k13 < na12) (ek14 : (x4 + (2 : Int32)) = nI k14) (lk14 : k14 < na12) (ho15 : M9 a2 = some (.inr (11, fso15))) (t17 : gm_toC (gm_lawC N0 K ra_nm (ra_mt K) 100 10 ra_wt) 180 [.ref a2, .int (fa12 k13), .int (fa12 k14)] M9 sz10 (.returned (some (.int r16)), M18, sz19, dd20)) (ho21 : M18 a2 = some (.inr (11, fso21))) (t23 : gm_toC (gm_lawC N0 K ra_nm (ra_mt K) 100 10 ra_wt) 119 [.ref a2] M18 sz19 (.returned (some (.int r22)), M24, sz25, dd26)) (c27 : r22 = r7) (c28 : r7 = 0) (ha29 : M24 a3 = some (.inl (.long, na29, .inr (.inl fa29)))) (ba29 : na29 < 2 ^ 31) (ek30 : (0 : Int32) = nI k30) (lk30 : k30 < na29) (c31 : (lg_cmp (fa29 k30) r16.toInt64) = 0) (k : gm_evC N0 ra_nm (gm_lawC N0 K ra_nm (ra_mt K) 100 10 ra_wt) (some .boolean) (gm_I cL_law) (gm_lkf (lkL false K)) 23 [some (.ref b), some (.ref a1), some (.ref a2), some (.ref a3), some (.int (x4 + (4 : Int32))), none, none] [] M24 sz25 (((sl + dd11) + dd20) + dd26) R) : gm_evC N0 ra_nm (gm_lawC N0 K ra_nm (ra_mt K) 100 10 ra_wt) (some .boolean) (gm_I cL_law) (gm_lkf (lkL false K)) 23 [some (.ref b), some (.ref a1), some (.ref a2), some (.ref a3), some (.int x4), none, none] [] M sz sl R := by
  refine gm_ev.iload iL_23 rfl ?_
  refine gm_ev.aload_n iL_25 rfl ?_
  refine gm_ev.alen iL_26 (gm_alen_of ha1) ?_
  refine gm_ev.iconst (v := 4) iL_27 (by decide) ?_
  refine gm_ev.isub iL_28 ?_
  refine gm_ev.icmp_gt_f iL_29 c2 ?_
  refine gm_ev.aload_n iL_32 rfl ?_
  refine gm_ev.iload iL_33 rfl ?_
  refine gm_ev.ialoadS iL_35 (gm_ai_of ha1 ek3 lk3 ba1) ?_
  refine gm_ev.bipush (v := 15) iL_36 (by decide) ?_
  refine gm_ev.iand iL_38 ?_
  refine gm_ev.tableIn (tgt := 425) (off := 386) iL_39 (by rw [c4]; decide) (by rw [c4]; decide) (by decide) ?_
  refine gm_ev.aload_n iL_425 rfl ?_
  refine gm_ev.aload_n iL_426 rfl ?_
  refine gm_ev.iload iL_427 rfl ?_
  refine gm_ev.iconst (v := 1) iL_429 (by decide) ?_
  refine gm_ev.iadd iL_430 ?_
  refine gm_ev.ialoadS iL_431 (gm_ai_of ha1 ek5 lk5 ba1) ?_
  refine gm_ev.aload_n iL_432 rfl ?_
  refine gm_ev.iload iL_433 rfl ?_
  refine gm_ev.iconst (v := 2) iL_435 (by decide) ?_
  refine gm_ev.iadd iL_436 ?_
  refine gm_ev.ialoadS iL_437 (gm_ai_of ha1 ek6 lk6 ba1) ?_
  refine gm_ev.aload_n iL_438 rfl ?_
  refine gm_ev.callS gm_mono_law (av := [.ref a1, .int (fa1 k5), .int (fa1 k6), .ref a3]) (r := []) iL_439 rfl rfl rfl (Nat.le_of_ble_eq_true rfl) t8 ?_
  refine gm_ev.istore (ls' := [some (.ref b), some (.ref a1), some (.ref a2), some (.ref a3), some (.int x4), some (.int r7), none]) iL_442 (Nat.le_of_ble_eq_true rfl) rfl ?_
  refine gm_ev.aload_n iL_444 rfl ?_
  refine gm_ev.aload_n iL_445 rfl ?_
  refine gm_ev.iload iL_446 rfl ?_
  refine gm_ev.iconst (v := 1) iL_448 (by decide) ?_
  refine gm_ev.iadd iL_449 ?_
  refine gm_ev.ialoadS iL_450 (gm_ai_of ha12 ek13 lk13 ba12) ?_
  refine gm_ev.aload_n iL_451 rfl ?_
  refine gm_ev.iload iL_452 rfl ?_
  refine gm_ev.iconst (v := 2) iL_454 (by decide) ?_
  refine gm_ev.iadd iL_455 ?_
  refine gm_ev.ialoadS iL_456 (gm_ai_of ha12 ek14 lk14 ba12) ?_
  refine gm_ev.callV gm_mono_law (av := [.int (fa12 k13), .int (fa12 k14)]) (r := []) (fs := fso15) ho15 iL_457 rfl rfl rfl (Nat.le_of_ble_eq_true rfl) t17 ?_
  refine gm_ev.istore (ls' := [some (.ref b), some (.ref a1), some (.ref a2), some (.ref a3), some (.int x4), some (.int r7), some (.int r16)]) iL_460 (Nat.le_of_ble_eq_true rfl) rfl ?_
  refine gm_ev.aload_n iL_462 rfl ?_
  refine gm_ev.callV gm_mono_law (av := []) (r := []) (fs := fso21) ho21 iL_463 rfl rfl rfl (Nat.le_of_ble_eq_true rfl) t23 ?_
  refine gm_ev.iload iL_466 rfl ?_
  refine gm_ev.icmp_eq_t (tgt := 473) iL_468 (by decide) c27 ?_
  refine gm_ev.iload iL_473 rfl ?_
  refine gm_ev.if_ne_f iL_475 c28 ?_
  refine gm_ev.aload_n iL_478 rfl ?_
  refine gm_ev.iconst (v := 0) iL_479 (by decide) ?_
  refine gm_ev.laload iL_480 (gm_al_of ha29 ek30 lk30 ba29) ?_
  refine gm_ev.iload iL_481 rfl ?_
  refine gm_ev.i2l iL_483 ?_
  refine gm_ev.lcmp iL_484 ?_
  refine gm_ev.if_eq_t (tgt := 490) iL_485 (by decide) c31 ?_
  refine gm_ev.goto (tgt := 638) iL_490 (by decide) ?_
  refine gm_ev.iinc (v := x4 + (4 : Int32)) (ls' := [some (.ref b), some (.ref a1), some (.ref a2), some (.ref a3), some (.int (x4 + (4 : Int32))), some (.int r7), some (.int r16)]) iL_638 rfl (by rfl) rfl ?_
  refine gm_ev.goto (tgt := 23) iL_641 (by decide) ?_
  refine gm_ev.le (a := [some (.ref b), some (.ref a1), some (.ref a2), some (.ref a3), some (.int (x4 + (4 : Int32))), none, none]) (gm_leL.le (show gm_leL _ _ from ⟨rfl, ⟨rfl, ⟨rfl, ⟨rfl, ⟨rfl, trivial⟩⟩⟩⟩⟩)) ?_
  exact k
theorem w_L_law_23_fs10tff {N0 : Nat} {K : Nat → Nat} {M : gm_H} {sz sl : Nat} {b : Nat} {a1 : Nat} {a2 : Nat} {a3 : Nat} {x4 : Int32} {na1 : Nat} {fa1 : Nat → Int32} {k3 : Nat} {k5 : Nat} {k6 : Nat} {r7 : Int32} {M9 : gm_H} {sz10 : Nat} {dd11 : Nat} {na12 : Nat} {fa12 : Nat → Int32} {k13 : Nat} {k14 : Nat} {fso15 : List Value} {r16 : Int32} {M18 : gm_H} {sz19 : Nat} {dd20 : Nat} {fso21 : List Value} {r22 : Int32} {M24 : gm_H} {sz25 : Nat} {dd26 : Nat} {na29 : Nat} {fa29 : Nat → Int64} {k30 : Nat} (ha1 : M b = some (.inl (gm_scr, na1, .inl fa1))) (ba1 : na1 < 2 ^ 31) (c2 : ¬ ((nI na1) - (4 : Int32)) < x4) (ek3 : x4 = nI k3) (lk3 : k3 < na1) (c4 : ((fa1 k3) &&& (15 : Int32)) = 10) (ek5 : (x4 + (1 : Int32)) = nI k5) (lk5 : k5 < na1) (ek6 : (x4 + (2 : Int32)) = nI k6) (lk6 : k6 < na1) (t8 : gm_toC (gm_lawC N0 K ra_nm (ra_mt K) 100 10 ra_wt) 1001 [.ref a1, .int (fa1 k5), .int (fa1 k6), .ref a3] M sz (.returned (some (.int r7)), M9, sz10, dd11)) (ha12 : M9 b = some (.inl (gm_scr, na12, .inl fa12))) (ba12 : na12 < 2 ^ 31) (ek13 : (x4 + (1 : Int32)) = nI k13) (lk13 : k13 < na12) (ek14 : (x4 + (2 : Int32)) = nI k14) (lk14 : k14 < na12) (ho15 : M9 a2 = some (.inr (11, fso15))) (t17 : gm_toC (gm_lawC N0 K ra_nm (ra_mt K) 100 10 ra_wt) 180 [.ref a2, .int (fa12 k13), .int (fa12 k14)] M9 sz10 (.returned (some (.int r16)), M18, sz19, dd20)) (ho21 : M18 a2 = some (.inr (11, fso21))) (t23 : gm_toC (gm_lawC N0 K ra_nm (ra_mt K) 100 10 ra_wt) 119 [.ref a2] M18 sz19 (.returned (some (.int r22)), M24, sz25, dd26)) (c27 : r22 = r7) (c28 : r7 = 0) (ha29 : M24 a3 = some (.inl (.long, na29, .inr (.inl fa29)))) (ba29 : na29 < 2 ^ 31) (ek30 : (0 : Int32) = nI k30) (lk30 : k30 < na29) (c31 : ¬ (lg_cmp (fa29 k30) r16.toInt64) = 0) : gm_evC N0 ra_nm (gm_lawC N0 K ra_nm (ra_mt K) 100 10 ra_wt) (some .boolean) (gm_I cL_law) (gm_lkf (lkL false K)) 23 [some (.ref b), some (.ref a1), some (.ref a2), some (.ref a3), some (.int x4), none, none] [] M sz sl (.returned (some (.int (0 : Int32))), M24, sz25, (((sl + dd11) + dd20) + dd26)) := by
  refine gm_ev.iload iL_23 rfl ?_
  refine gm_ev.aload_n iL_25 rfl ?_
  refine gm_ev.alen iL_26 (gm_alen_of ha1) ?_
  refine gm_ev.iconst (v := 4) iL_27 (by decide) ?_
  refine gm_ev.isub iL_28 ?_
  refine gm_ev.icmp_gt_f iL_29 c2 ?_
  refine gm_ev.aload_n iL_32 rfl ?_
  refine gm_ev.iload iL_33 rfl ?_
  refine gm_ev.ialoadS iL_35 (gm_ai_of ha1 ek3 lk3 ba1) ?_
  refine gm_ev.bipush (v := 15) iL_36 (by decide) ?_
  refine gm_ev.iand iL_38 ?_
  refine gm_ev.tableIn (tgt := 425) (off := 386) iL_39 (by rw [c4]; decide) (by rw [c4]; decide) (by decide) ?_
  refine gm_ev.aload_n iL_425 rfl ?_
  refine gm_ev.aload_n iL_426 rfl ?_
  refine gm_ev.iload iL_427 rfl ?_
  refine gm_ev.iconst (v := 1) iL_429 (by decide) ?_
  refine gm_ev.iadd iL_430 ?_
  refine gm_ev.ialoadS iL_431 (gm_ai_of ha1 ek5 lk5 ba1) ?_
  refine gm_ev.aload_n iL_432 rfl ?_
  refine gm_ev.iload iL_433 rfl ?_
  refine gm_ev.iconst (v := 2) iL_435 (by decide) ?_
  refine gm_ev.iadd iL_436 ?_
  refine gm_ev.ialoadS iL_437 (gm_ai_of ha1 ek6 lk6 ba1) ?_
  refine gm_ev.aload_n iL_438 rfl ?_
  refine gm_ev.callS gm_mono_law (av := [.ref a1, .int (fa1 k5), .int (fa1 k6), .ref a3]) (r := []) iL_439 rfl rfl rfl (Nat.le_of_ble_eq_true rfl) t8 ?_
  refine gm_ev.istore (ls' := [some (.ref b), some (.ref a1), some (.ref a2), some (.ref a3), some (.int x4), some (.int r7), none]) iL_442 (Nat.le_of_ble_eq_true rfl) rfl ?_
  refine gm_ev.aload_n iL_444 rfl ?_
  refine gm_ev.aload_n iL_445 rfl ?_
  refine gm_ev.iload iL_446 rfl ?_
  refine gm_ev.iconst (v := 1) iL_448 (by decide) ?_
  refine gm_ev.iadd iL_449 ?_
  refine gm_ev.ialoadS iL_450 (gm_ai_of ha12 ek13 lk13 ba12) ?_
  refine gm_ev.aload_n iL_451 rfl ?_
  refine gm_ev.iload iL_452 rfl ?_
  refine gm_ev.iconst (v := 2) iL_454 (by decide) ?_
  refine gm_ev.iadd iL_455 ?_
  refine gm_ev.ialoadS iL_456 (gm_ai_of ha12 ek14 lk14 ba12) ?_
  refine gm_ev.callV gm_mono_law (av := [.int (fa12 k13), .int (fa12 k14)]) (r := []) (fs := fso15) ho15 iL_457 rfl rfl rfl (Nat.le_of_ble_eq_true rfl) t17 ?_
  refine gm_ev.istore (ls' := [some (.ref b), some (.ref a1), some (.ref a2), some (.ref a3), some (.int x4), some (.int r7), some (.int r16)]) iL_460 (Nat.le_of_ble_eq_true rfl) rfl ?_
  refine gm_ev.aload_n iL_462 rfl ?_
  refine gm_ev.callV gm_mono_law (av := []) (r := []) (fs := fso21) ho21 iL_463 rfl rfl rfl (Nat.le_of_ble_eq_true rfl) t23 ?_
  refine gm_ev.iload iL_466 rfl ?_
  refine gm_ev.icmp_eq_t (tgt := 473) iL_468 (by decide) c27 ?_
  refine gm_ev.iload iL_473 rfl ?_
  refine gm_ev.if_ne_f iL_475 c28 ?_
  refine gm_ev.aload_n iL_478 rfl ?_
  refine gm_ev.iconst (v := 0) iL_479 (by decide) ?_
  refine gm_ev.laload iL_480 (gm_al_of ha29 ek30 lk30 ba29) ?_
  refine gm_ev.iload iL_481 rfl ?_
  refine gm_ev.i2l iL_483 ?_
  refine gm_ev.lcmp iL_484 ?_
  refine gm_ev.if_eq_f iL_485 c31 ?_
  refine gm_ev.iconst (v := 0) iL_488 (by decide) ?_
  exact gm_ev.zret iL_489 rfl (by decide)
theorem w_L_law_23_fs10f {N0 : Nat} {K : Nat → Nat} {M : gm_H} {sz sl : Nat} {b : Nat} {a1 : Nat} {a2 : Nat} {a3 : Nat} {x4 : Int32} {na1 : Nat} {fa1 : Nat → Int32} {k3 : Nat} {k5 : Nat} {k6 : Nat} {r7 : Int32} {M9 : gm_H} {sz10 : Nat} {dd11 : Nat} {na12 : Nat} {fa12 : Nat → Int32} {k13 : Nat} {k14 : Nat} {fso15 : List Value} {r16 : Int32} {M18 : gm_H} {sz19 : Nat} {dd20 : Nat} {fso21 : List Value} {r22 : Int32} {M24 : gm_H} {sz25 : Nat} {dd26 : Nat} (ha1 : M b = some (.inl (gm_scr, na1, .inl fa1))) (ba1 : na1 < 2 ^ 31) (c2 : ¬ ((nI na1) - (4 : Int32)) < x4) (ek3 : x4 = nI k3) (lk3 : k3 < na1) (c4 : ((fa1 k3) &&& (15 : Int32)) = 10) (ek5 : (x4 + (1 : Int32)) = nI k5) (lk5 : k5 < na1) (ek6 : (x4 + (2 : Int32)) = nI k6) (lk6 : k6 < na1) (t8 : gm_toC (gm_lawC N0 K ra_nm (ra_mt K) 100 10 ra_wt) 1001 [.ref a1, .int (fa1 k5), .int (fa1 k6), .ref a3] M sz (.returned (some (.int r7)), M9, sz10, dd11)) (ha12 : M9 b = some (.inl (gm_scr, na12, .inl fa12))) (ba12 : na12 < 2 ^ 31) (ek13 : (x4 + (1 : Int32)) = nI k13) (lk13 : k13 < na12) (ek14 : (x4 + (2 : Int32)) = nI k14) (lk14 : k14 < na12) (ho15 : M9 a2 = some (.inr (11, fso15))) (t17 : gm_toC (gm_lawC N0 K ra_nm (ra_mt K) 100 10 ra_wt) 180 [.ref a2, .int (fa12 k13), .int (fa12 k14)] M9 sz10 (.returned (some (.int r16)), M18, sz19, dd20)) (ho21 : M18 a2 = some (.inr (11, fso21))) (t23 : gm_toC (gm_lawC N0 K ra_nm (ra_mt K) 100 10 ra_wt) 119 [.ref a2] M18 sz19 (.returned (some (.int r22)), M24, sz25, dd26)) (c27 : ¬ r22 = r7) : gm_evC N0 ra_nm (gm_lawC N0 K ra_nm (ra_mt K) 100 10 ra_wt) (some .boolean) (gm_I cL_law) (gm_lkf (lkL false K)) 23 [some (.ref b), some (.ref a1), some (.ref a2), some (.ref a3), some (.int x4), none, none] [] M sz sl (.returned (some (.int (0 : Int32))), M24, sz25, (((sl + dd11) + dd20) + dd26)) := by
  refine gm_ev.iload iL_23 rfl ?_
  refine gm_ev.aload_n iL_25 rfl ?_
  refine gm_ev.alen iL_26 (gm_alen_of ha1) ?_
  refine gm_ev.iconst (v := 4) iL_27 (by decide) ?_
  refine gm_ev.isub iL_28 ?_
  refine gm_ev.icmp_gt_f iL_29 c2 ?_
  refine gm_ev.aload_n iL_32 rfl ?_
  refine gm_ev.iload iL_33 rfl ?_
  refine gm_ev.ialoadS iL_35 (gm_ai_of ha1 ek3 lk3 ba1) ?_
  refine gm_ev.bipush (v := 15) iL_36 (by decide) ?_
  refine gm_ev.iand iL_38 ?_
  refine gm_ev.tableIn (tgt := 425) (off := 386) iL_39 (by rw [c4]; decide) (by rw [c4]; decide) (by decide) ?_
  refine gm_ev.aload_n iL_425 rfl ?_
  refine gm_ev.aload_n iL_426 rfl ?_
  refine gm_ev.iload iL_427 rfl ?_
  refine gm_ev.iconst (v := 1) iL_429 (by decide) ?_
  refine gm_ev.iadd iL_430 ?_
  refine gm_ev.ialoadS iL_431 (gm_ai_of ha1 ek5 lk5 ba1) ?_
  refine gm_ev.aload_n iL_432 rfl ?_
  refine gm_ev.iload iL_433 rfl ?_
  refine gm_ev.iconst (v := 2) iL_435 (by decide) ?_
  refine gm_ev.iadd iL_436 ?_
  refine gm_ev.ialoadS iL_437 (gm_ai_of ha1 ek6 lk6 ba1) ?_
  refine gm_ev.aload_n iL_438 rfl ?_
  refine gm_ev.callS gm_mono_law (av := [.ref a1, .int (fa1 k5), .int (fa1 k6), .ref a3]) (r := []) iL_439 rfl rfl rfl (Nat.le_of_ble_eq_true rfl) t8 ?_
  refine gm_ev.istore (ls' := [some (.ref b), some (.ref a1), some (.ref a2), some (.ref a3), some (.int x4), some (.int r7), none]) iL_442 (Nat.le_of_ble_eq_true rfl) rfl ?_
  refine gm_ev.aload_n iL_444 rfl ?_
  refine gm_ev.aload_n iL_445 rfl ?_
  refine gm_ev.iload iL_446 rfl ?_
  refine gm_ev.iconst (v := 1) iL_448 (by decide) ?_
  refine gm_ev.iadd iL_449 ?_
  refine gm_ev.ialoadS iL_450 (gm_ai_of ha12 ek13 lk13 ba12) ?_
  refine gm_ev.aload_n iL_451 rfl ?_
  refine gm_ev.iload iL_452 rfl ?_
  refine gm_ev.iconst (v := 2) iL_454 (by decide) ?_
  refine gm_ev.iadd iL_455 ?_
  refine gm_ev.ialoadS iL_456 (gm_ai_of ha12 ek14 lk14 ba12) ?_
  refine gm_ev.callV gm_mono_law (av := [.int (fa12 k13), .int (fa12 k14)]) (r := []) (fs := fso15) ho15 iL_457 rfl rfl rfl (Nat.le_of_ble_eq_true rfl) t17 ?_
  refine gm_ev.istore (ls' := [some (.ref b), some (.ref a1), some (.ref a2), some (.ref a3), some (.int x4), some (.int r7), some (.int r16)]) iL_460 (Nat.le_of_ble_eq_true rfl) rfl ?_
  refine gm_ev.aload_n iL_462 rfl ?_
  refine gm_ev.callV gm_mono_law (av := []) (r := []) (fs := fso21) ho21 iL_463 rfl rfl rfl (Nat.le_of_ble_eq_true rfl) t23 ?_
  refine gm_ev.iload iL_466 rfl ?_
  refine gm_ev.icmp_eq_f iL_468 c27 ?_
  refine gm_ev.iconst (v := 0) iL_471 (by decide) ?_
  exact gm_ev.zret iL_472 rfl (by decide)
theorem w_L_law_23_fs11t_at23 {N0 : Nat} {K : Nat → Nat} {M : gm_H} {sz sl : Nat} {R : gm_R} {b : Nat} {a1 : Nat} {a2 : Nat} {a3 : Nat} {x4 : Int32} {na1 : Nat} {fa1 : Nat → Int32} {k3 : Nat} {fso5 : List Value} {r6 : Int32} {M8 : gm_H} {sz9 : Nat} {dd10 : Nat} {fso11 : List Value} {r12 : Int32} {M14 : gm_H} {sz15 : Nat} {dd16 : Nat} (ha1 : M b = some (.inl (gm_scr, na1, .inl fa1))) (ba1 : na1 < 2 ^ 31) (c2 : ¬ ((nI na1) - (4 : Int32)) < x4) (ek3 : x4 = nI k3) (lk3 : k3 < na1) (c4 : ((fa1 k3) &&& (15 : Int32)) = 11) (ho5 : M a1 = some (.inr (10, fso5))) (t7 : gm_toC (gm_lawC N0 K ra_nm (ra_mt K) 100 10 ra_wt) 114 [.ref a1] M sz (.returned (some (.int r6)), M8, sz9, dd10)) (ho11 : M8 a2 = some (.inr (11, fso11))) (t13 : gm_toC (gm_lawC N0 K ra_nm (ra_mt K) 100 10 ra_wt) 181 [.ref a2] M8 sz9 (.returned (some (.int r12)), M14, sz15, dd16)) (c17 : r6 = r12) (k : gm_evC N0 ra_nm (gm_lawC N0 K ra_nm (ra_mt K) 100 10 ra_wt) (some .boolean) (gm_I cL_law) (gm_lkf (lkL false K)) 23 [some (.ref b), some (.ref a1), some (.ref a2), some (.ref a3), some (.int (x4 + (4 : Int32))), none, none] [] M14 sz15 ((sl + dd10) + dd16) R) : gm_evC N0 ra_nm (gm_lawC N0 K ra_nm (ra_mt K) 100 10 ra_wt) (some .boolean) (gm_I cL_law) (gm_lkf (lkL false K)) 23 [some (.ref b), some (.ref a1), some (.ref a2), some (.ref a3), some (.int x4), none, none] [] M sz sl R := by
  refine gm_ev.iload iL_23 rfl ?_
  refine gm_ev.aload_n iL_25 rfl ?_
  refine gm_ev.alen iL_26 (gm_alen_of ha1) ?_
  refine gm_ev.iconst (v := 4) iL_27 (by decide) ?_
  refine gm_ev.isub iL_28 ?_
  refine gm_ev.icmp_gt_f iL_29 c2 ?_
  refine gm_ev.aload_n iL_32 rfl ?_
  refine gm_ev.iload iL_33 rfl ?_
  refine gm_ev.ialoadS iL_35 (gm_ai_of ha1 ek3 lk3 ba1) ?_
  refine gm_ev.bipush (v := 15) iL_36 (by decide) ?_
  refine gm_ev.iand iL_38 ?_
  refine gm_ev.tableIn (tgt := 493) (off := 454) iL_39 (by rw [c4]; decide) (by rw [c4]; decide) (by decide) ?_
  refine gm_ev.aload_n iL_493 rfl ?_
  refine gm_ev.callV gm_mono_law (av := []) (r := []) (fs := fso5) ho5 iL_494 rfl rfl rfl (Nat.le_of_ble_eq_true rfl) t7 ?_
  refine gm_ev.aload_n iL_497 rfl ?_
  refine gm_ev.callV gm_mono_law (av := []) (r := [.int r6]) (fs := fso11) ho11 iL_498 rfl rfl rfl (Nat.le_of_ble_eq_true rfl) t13 ?_
  refine gm_ev.icmp_eq_t (tgt := 638) iL_501 (by decide) c17 ?_
  refine gm_ev.iinc (v := x4 + (4 : Int32)) (ls' := [some (.ref b), some (.ref a1), some (.ref a2), some (.ref a3), some (.int (x4 + (4 : Int32))), none, none]) iL_638 rfl (by rfl) rfl ?_
  refine gm_ev.goto (tgt := 23) iL_641 (by decide) ?_
  exact k
theorem w_L_law_23_fs11f {N0 : Nat} {K : Nat → Nat} {M : gm_H} {sz sl : Nat} {b : Nat} {a1 : Nat} {a2 : Nat} {a3 : Nat} {x4 : Int32} {na1 : Nat} {fa1 : Nat → Int32} {k3 : Nat} {fso5 : List Value} {r6 : Int32} {M8 : gm_H} {sz9 : Nat} {dd10 : Nat} {fso11 : List Value} {r12 : Int32} {M14 : gm_H} {sz15 : Nat} {dd16 : Nat} (ha1 : M b = some (.inl (gm_scr, na1, .inl fa1))) (ba1 : na1 < 2 ^ 31) (c2 : ¬ ((nI na1) - (4 : Int32)) < x4) (ek3 : x4 = nI k3) (lk3 : k3 < na1) (c4 : ((fa1 k3) &&& (15 : Int32)) = 11) (ho5 : M a1 = some (.inr (10, fso5))) (t7 : gm_toC (gm_lawC N0 K ra_nm (ra_mt K) 100 10 ra_wt) 114 [.ref a1] M sz (.returned (some (.int r6)), M8, sz9, dd10)) (ho11 : M8 a2 = some (.inr (11, fso11))) (t13 : gm_toC (gm_lawC N0 K ra_nm (ra_mt K) 100 10 ra_wt) 181 [.ref a2] M8 sz9 (.returned (some (.int r12)), M14, sz15, dd16)) (c17 : ¬ r6 = r12) : gm_evC N0 ra_nm (gm_lawC N0 K ra_nm (ra_mt K) 100 10 ra_wt) (some .boolean) (gm_I cL_law) (gm_lkf (lkL false K)) 23 [some (.ref b), some (.ref a1), some (.ref a2), some (.ref a3), some (.int x4), none, none] [] M sz sl (.returned (some (.int (0 : Int32))), M14, sz15, ((sl + dd10) + dd16)) := by
  refine gm_ev.iload iL_23 rfl ?_
  refine gm_ev.aload_n iL_25 rfl ?_
  refine gm_ev.alen iL_26 (gm_alen_of ha1) ?_
  refine gm_ev.iconst (v := 4) iL_27 (by decide) ?_
  refine gm_ev.isub iL_28 ?_
  refine gm_ev.icmp_gt_f iL_29 c2 ?_
  refine gm_ev.aload_n iL_32 rfl ?_
  refine gm_ev.iload iL_33 rfl ?_
  refine gm_ev.ialoadS iL_35 (gm_ai_of ha1 ek3 lk3 ba1) ?_
  refine gm_ev.bipush (v := 15) iL_36 (by decide) ?_
  refine gm_ev.iand iL_38 ?_
  refine gm_ev.tableIn (tgt := 493) (off := 454) iL_39 (by rw [c4]; decide) (by rw [c4]; decide) (by decide) ?_
  refine gm_ev.aload_n iL_493 rfl ?_
  refine gm_ev.callV gm_mono_law (av := []) (r := []) (fs := fso5) ho5 iL_494 rfl rfl rfl (Nat.le_of_ble_eq_true rfl) t7 ?_
  refine gm_ev.aload_n iL_497 rfl ?_
  refine gm_ev.callV gm_mono_law (av := []) (r := [.int r6]) (fs := fso11) ho11 iL_498 rfl rfl rfl (Nat.le_of_ble_eq_true rfl) t13 ?_
  refine gm_ev.icmp_eq_f iL_501 c17 ?_
  refine gm_ev.iconst (v := 0) iL_504 (by decide) ?_
  exact gm_ev.zret iL_505 rfl (by decide)
theorem w_L_law_23_fs12tt_at23 {N0 : Nat} {K : Nat → Nat} {M : gm_H} {sz sl : Nat} {R : gm_R} {b : Nat} {a1 : Nat} {a2 : Nat} {a3 : Nat} {x4 : Int32} {na1 : Nat} {fa1 : Nat → Int32} {k3 : Nat} {r5 : Int32} {M7 : gm_H} {sz8 : Nat} {dd9 : Nat} {fso10 : List Value} {r11 : Int32} {M13 : gm_H} {sz14 : Nat} {dd15 : Nat} {fso16 : List Value} {r17 : Int32} {M19 : gm_H} {sz20 : Nat} {dd21 : Nat} (ha1 : M b = some (.inl (gm_scr, na1, .inl fa1))) (ba1 : na1 < 2 ^ 31) (c2 : ¬ ((nI na1) - (4 : Int32)) < x4) (ek3 : x4 = nI k3) (lk3 : k3 < na1) (c4 : ((fa1 k3) &&& (15 : Int32)) = 12) (t6 : gm_toC (gm_lawC N0 K ra_nm (ra_mt K) 100 10 ra_wt) 1002 [.ref a1, .ref a3] M sz (.returned (some (.int r5)), M7, sz8, dd9)) (ho10 : M7 a2 = some (.inr (11, fso10))) (t12 : gm_toC (gm_lawC N0 K ra_nm (ra_mt K) 100 10 ra_wt) 187 [.ref a2] M7 sz8 (.returned (some (.int r11)), M13, sz14, dd15)) (ho16 : M13 a2 = some (.inr (11, fso16))) (t18 : gm_toC (gm_lawC N0 K ra_nm (ra_mt K) 100 10 ra_wt) 119 [.ref a2] M13 sz14 (.returned (some (.int r17)), M19, sz20, dd21)) (c22 : r17 = r5) (c23 : ¬ r5 = 0) (k : gm_evC N0 ra_nm (gm_lawC N0 K ra_nm (ra_mt K) 100 10 ra_wt) (some .boolean) (gm_I cL_law) (gm_lkf (lkL false K)) 23 [some (.ref b), some (.ref a1), some (.ref a2), some (.ref a3), some (.int (x4 + (4 : Int32))), none, none] [] M19 sz20 (((sl + dd9) + dd15) + dd21) R) : gm_evC N0 ra_nm (gm_lawC N0 K ra_nm (ra_mt K) 100 10 ra_wt) (some .boolean) (gm_I cL_law) (gm_lkf (lkL false K)) 23 [some (.ref b), some (.ref a1), some (.ref a2), some (.ref a3), some (.int x4), none, none] [] M sz sl R := by
  refine gm_ev.iload iL_23 rfl ?_
  refine gm_ev.aload_n iL_25 rfl ?_
  refine gm_ev.alen iL_26 (gm_alen_of ha1) ?_
  refine gm_ev.iconst (v := 4) iL_27 (by decide) ?_
  refine gm_ev.isub iL_28 ?_
  refine gm_ev.icmp_gt_f iL_29 c2 ?_
  refine gm_ev.aload_n iL_32 rfl ?_
  refine gm_ev.iload iL_33 rfl ?_
  refine gm_ev.ialoadS iL_35 (gm_ai_of ha1 ek3 lk3 ba1) ?_
  refine gm_ev.bipush (v := 15) iL_36 (by decide) ?_
  refine gm_ev.iand iL_38 ?_
  refine gm_ev.tableIn (tgt := 506) (off := 467) iL_39 (by rw [c4]; decide) (by rw [c4]; decide) (by decide) ?_
  refine gm_ev.aload_n iL_506 rfl ?_
  refine gm_ev.aload_n iL_507 rfl ?_
  refine gm_ev.callS gm_mono_law (av := [.ref a1, .ref a3]) (r := []) iL_508 rfl rfl rfl (Nat.le_of_ble_eq_true rfl) t6 ?_
  refine gm_ev.istore (ls' := [some (.ref b), some (.ref a1), some (.ref a2), some (.ref a3), some (.int x4), some (.int r5), none]) iL_511 (Nat.le_of_ble_eq_true rfl) rfl ?_
  refine gm_ev.aload_n iL_513 rfl ?_
  refine gm_ev.callV gm_mono_law (av := []) (r := []) (fs := fso10) ho10 iL_514 rfl rfl rfl (Nat.le_of_ble_eq_true rfl) t12 ?_
  refine gm_ev.istore (ls' := [some (.ref b), some (.ref a1), some (.ref a2), some (.ref a3), some (.int x4), some (.int r5), some (.int r11)]) iL_517 (Nat.le_of_ble_eq_true rfl) rfl ?_
  refine gm_ev.aload_n iL_519 rfl ?_
  refine gm_ev.callV gm_mono_law (av := []) (r := []) (fs := fso16) ho16 iL_520 rfl rfl rfl (Nat.le_of_ble_eq_true rfl) t18 ?_
  refine gm_ev.iload iL_523 rfl ?_
  refine gm_ev.icmp_eq_t (tgt := 530) iL_525 (by decide) c22 ?_
  refine gm_ev.iload iL_530 rfl ?_
  refine gm_ev.if_ne_t (tgt := 547) iL_532 (by decide) c23 ?_
  refine gm_ev.goto (tgt := 638) iL_547 (by decide) ?_
  refine gm_ev.iinc (v := x4 + (4 : Int32)) (ls' := [some (.ref b), some (.ref a1), some (.ref a2), some (.ref a3), some (.int (x4 + (4 : Int32))), some (.int r5), some (.int r11)]) iL_638 rfl (by rfl) rfl ?_
  refine gm_ev.goto (tgt := 23) iL_641 (by decide) ?_
  refine gm_ev.le (a := [some (.ref b), some (.ref a1), some (.ref a2), some (.ref a3), some (.int (x4 + (4 : Int32))), none, none]) (gm_leL.le (show gm_leL _ _ from ⟨rfl, ⟨rfl, ⟨rfl, ⟨rfl, ⟨rfl, trivial⟩⟩⟩⟩⟩)) ?_
  exact k
theorem w_L_law_23_fs12tft_at23 {N0 : Nat} {K : Nat → Nat} {M : gm_H} {sz sl : Nat} {R : gm_R} {b : Nat} {a1 : Nat} {a2 : Nat} {a3 : Nat} {x4 : Int32} {na1 : Nat} {fa1 : Nat → Int32} {k3 : Nat} {r5 : Int32} {M7 : gm_H} {sz8 : Nat} {dd9 : Nat} {fso10 : List Value} {r11 : Int32} {M13 : gm_H} {sz14 : Nat} {dd15 : Nat} {fso16 : List Value} {r17 : Int32} {M19 : gm_H} {sz20 : Nat} {dd21 : Nat} {na24 : Nat} {fa24 : Nat → Int64} {k25 : Nat} (ha1 : M b = some (.inl (gm_scr, na1, .inl fa1))) (ba1 : na1 < 2 ^ 31) (c2 : ¬ ((nI na1) - (4 : Int32)) < x4) (ek3 : x4 = nI k3) (lk3 : k3 < na1) (c4 : ((fa1 k3) &&& (15 : Int32)) = 12) (t6 : gm_toC (gm_lawC N0 K ra_nm (ra_mt K) 100 10 ra_wt) 1002 [.ref a1, .ref a3] M sz (.returned (some (.int r5)), M7, sz8, dd9)) (ho10 : M7 a2 = some (.inr (11, fso10))) (t12 : gm_toC (gm_lawC N0 K ra_nm (ra_mt K) 100 10 ra_wt) 187 [.ref a2] M7 sz8 (.returned (some (.int r11)), M13, sz14, dd15)) (ho16 : M13 a2 = some (.inr (11, fso16))) (t18 : gm_toC (gm_lawC N0 K ra_nm (ra_mt K) 100 10 ra_wt) 119 [.ref a2] M13 sz14 (.returned (some (.int r17)), M19, sz20, dd21)) (c22 : r17 = r5) (c23 : r5 = 0) (ha24 : M19 a3 = some (.inl (.long, na24, .inr (.inl fa24)))) (ba24 : na24 < 2 ^ 31) (ek25 : (0 : Int32) = nI k25) (lk25 : k25 < na24) (c26 : (lg_cmp (fa24 k25) r11.toInt64) = 0) (k : gm_evC N0 ra_nm (gm_lawC N0 K ra_nm (ra_mt K) 100 10 ra_wt) (some .boolean) (gm_I cL_law) (gm_lkf (lkL false K)) 23 [some (.ref b), some (.ref a1), some (.ref a2), some (.ref a3), some (.int (x4 + (4 : Int32))), none, none] [] M19 sz20 (((sl + dd9) + dd15) + dd21) R) : gm_evC N0 ra_nm (gm_lawC N0 K ra_nm (ra_mt K) 100 10 ra_wt) (some .boolean) (gm_I cL_law) (gm_lkf (lkL false K)) 23 [some (.ref b), some (.ref a1), some (.ref a2), some (.ref a3), some (.int x4), none, none] [] M sz sl R := by
  refine gm_ev.iload iL_23 rfl ?_
  refine gm_ev.aload_n iL_25 rfl ?_
  refine gm_ev.alen iL_26 (gm_alen_of ha1) ?_
  refine gm_ev.iconst (v := 4) iL_27 (by decide) ?_
  refine gm_ev.isub iL_28 ?_
  refine gm_ev.icmp_gt_f iL_29 c2 ?_
  refine gm_ev.aload_n iL_32 rfl ?_
  refine gm_ev.iload iL_33 rfl ?_
  refine gm_ev.ialoadS iL_35 (gm_ai_of ha1 ek3 lk3 ba1) ?_
  refine gm_ev.bipush (v := 15) iL_36 (by decide) ?_
  refine gm_ev.iand iL_38 ?_
  refine gm_ev.tableIn (tgt := 506) (off := 467) iL_39 (by rw [c4]; decide) (by rw [c4]; decide) (by decide) ?_
  refine gm_ev.aload_n iL_506 rfl ?_
  refine gm_ev.aload_n iL_507 rfl ?_
  refine gm_ev.callS gm_mono_law (av := [.ref a1, .ref a3]) (r := []) iL_508 rfl rfl rfl (Nat.le_of_ble_eq_true rfl) t6 ?_
  refine gm_ev.istore (ls' := [some (.ref b), some (.ref a1), some (.ref a2), some (.ref a3), some (.int x4), some (.int r5), none]) iL_511 (Nat.le_of_ble_eq_true rfl) rfl ?_
  refine gm_ev.aload_n iL_513 rfl ?_
  refine gm_ev.callV gm_mono_law (av := []) (r := []) (fs := fso10) ho10 iL_514 rfl rfl rfl (Nat.le_of_ble_eq_true rfl) t12 ?_
  refine gm_ev.istore (ls' := [some (.ref b), some (.ref a1), some (.ref a2), some (.ref a3), some (.int x4), some (.int r5), some (.int r11)]) iL_517 (Nat.le_of_ble_eq_true rfl) rfl ?_
  refine gm_ev.aload_n iL_519 rfl ?_
  refine gm_ev.callV gm_mono_law (av := []) (r := []) (fs := fso16) ho16 iL_520 rfl rfl rfl (Nat.le_of_ble_eq_true rfl) t18 ?_
  refine gm_ev.iload iL_523 rfl ?_
  refine gm_ev.icmp_eq_t (tgt := 530) iL_525 (by decide) c22 ?_
  refine gm_ev.iload iL_530 rfl ?_
  refine gm_ev.if_ne_f iL_532 c23 ?_
  refine gm_ev.aload_n iL_535 rfl ?_
  refine gm_ev.iconst (v := 0) iL_536 (by decide) ?_
  refine gm_ev.laload iL_537 (gm_al_of ha24 ek25 lk25 ba24) ?_
  refine gm_ev.iload iL_538 rfl ?_
  refine gm_ev.i2l iL_540 ?_
  refine gm_ev.lcmp iL_541 ?_
  refine gm_ev.if_eq_t (tgt := 547) iL_542 (by decide) c26 ?_
  refine gm_ev.goto (tgt := 638) iL_547 (by decide) ?_
  refine gm_ev.iinc (v := x4 + (4 : Int32)) (ls' := [some (.ref b), some (.ref a1), some (.ref a2), some (.ref a3), some (.int (x4 + (4 : Int32))), some (.int r5), some (.int r11)]) iL_638 rfl (by rfl) rfl ?_
  refine gm_ev.goto (tgt := 23) iL_641 (by decide) ?_
  refine gm_ev.le (a := [some (.ref b), some (.ref a1), some (.ref a2), some (.ref a3), some (.int (x4 + (4 : Int32))), none, none]) (gm_leL.le (show gm_leL _ _ from ⟨rfl, ⟨rfl, ⟨rfl, ⟨rfl, ⟨rfl, trivial⟩⟩⟩⟩⟩)) ?_
  exact k
theorem w_L_law_23_fs12tff {N0 : Nat} {K : Nat → Nat} {M : gm_H} {sz sl : Nat} {b : Nat} {a1 : Nat} {a2 : Nat} {a3 : Nat} {x4 : Int32} {na1 : Nat} {fa1 : Nat → Int32} {k3 : Nat} {r5 : Int32} {M7 : gm_H} {sz8 : Nat} {dd9 : Nat} {fso10 : List Value} {r11 : Int32} {M13 : gm_H} {sz14 : Nat} {dd15 : Nat} {fso16 : List Value} {r17 : Int32} {M19 : gm_H} {sz20 : Nat} {dd21 : Nat} {na24 : Nat} {fa24 : Nat → Int64} {k25 : Nat} (ha1 : M b = some (.inl (gm_scr, na1, .inl fa1))) (ba1 : na1 < 2 ^ 31) (c2 : ¬ ((nI na1) - (4 : Int32)) < x4) (ek3 : x4 = nI k3) (lk3 : k3 < na1) (c4 : ((fa1 k3) &&& (15 : Int32)) = 12) (t6 : gm_toC (gm_lawC N0 K ra_nm (ra_mt K) 100 10 ra_wt) 1002 [.ref a1, .ref a3] M sz (.returned (some (.int r5)), M7, sz8, dd9)) (ho10 : M7 a2 = some (.inr (11, fso10))) (t12 : gm_toC (gm_lawC N0 K ra_nm (ra_mt K) 100 10 ra_wt) 187 [.ref a2] M7 sz8 (.returned (some (.int r11)), M13, sz14, dd15)) (ho16 : M13 a2 = some (.inr (11, fso16))) (t18 : gm_toC (gm_lawC N0 K ra_nm (ra_mt K) 100 10 ra_wt) 119 [.ref a2] M13 sz14 (.returned (some (.int r17)), M19, sz20, dd21)) (c22 : r17 = r5) (c23 : r5 = 0) (ha24 : M19 a3 = some (.inl (.long, na24, .inr (.inl fa24)))) (ba24 : na24 < 2 ^ 31) (ek25 : (0 : Int32) = nI k25) (lk25 : k25 < na24) (c26 : ¬ (lg_cmp (fa24 k25) r11.toInt64) = 0) : gm_evC N0 ra_nm (gm_lawC N0 K ra_nm (ra_mt K) 100 10 ra_wt) (some .boolean) (gm_I cL_law) (gm_lkf (lkL false K)) 23 [some (.ref b), some (.ref a1), some (.ref a2), some (.ref a3), some (.int x4), none, none] [] M sz sl (.returned (some (.int (0 : Int32))), M19, sz20, (((sl + dd9) + dd15) + dd21)) := by
  refine gm_ev.iload iL_23 rfl ?_
  refine gm_ev.aload_n iL_25 rfl ?_
  refine gm_ev.alen iL_26 (gm_alen_of ha1) ?_
  refine gm_ev.iconst (v := 4) iL_27 (by decide) ?_
  refine gm_ev.isub iL_28 ?_
  refine gm_ev.icmp_gt_f iL_29 c2 ?_
  refine gm_ev.aload_n iL_32 rfl ?_
  refine gm_ev.iload iL_33 rfl ?_
  refine gm_ev.ialoadS iL_35 (gm_ai_of ha1 ek3 lk3 ba1) ?_
  refine gm_ev.bipush (v := 15) iL_36 (by decide) ?_
  refine gm_ev.iand iL_38 ?_
  refine gm_ev.tableIn (tgt := 506) (off := 467) iL_39 (by rw [c4]; decide) (by rw [c4]; decide) (by decide) ?_
  refine gm_ev.aload_n iL_506 rfl ?_
  refine gm_ev.aload_n iL_507 rfl ?_
  refine gm_ev.callS gm_mono_law (av := [.ref a1, .ref a3]) (r := []) iL_508 rfl rfl rfl (Nat.le_of_ble_eq_true rfl) t6 ?_
  refine gm_ev.istore (ls' := [some (.ref b), some (.ref a1), some (.ref a2), some (.ref a3), some (.int x4), some (.int r5), none]) iL_511 (Nat.le_of_ble_eq_true rfl) rfl ?_
  refine gm_ev.aload_n iL_513 rfl ?_
  refine gm_ev.callV gm_mono_law (av := []) (r := []) (fs := fso10) ho10 iL_514 rfl rfl rfl (Nat.le_of_ble_eq_true rfl) t12 ?_
  refine gm_ev.istore (ls' := [some (.ref b), some (.ref a1), some (.ref a2), some (.ref a3), some (.int x4), some (.int r5), some (.int r11)]) iL_517 (Nat.le_of_ble_eq_true rfl) rfl ?_
  refine gm_ev.aload_n iL_519 rfl ?_
  refine gm_ev.callV gm_mono_law (av := []) (r := []) (fs := fso16) ho16 iL_520 rfl rfl rfl (Nat.le_of_ble_eq_true rfl) t18 ?_
  refine gm_ev.iload iL_523 rfl ?_
  refine gm_ev.icmp_eq_t (tgt := 530) iL_525 (by decide) c22 ?_
  refine gm_ev.iload iL_530 rfl ?_
  refine gm_ev.if_ne_f iL_532 c23 ?_
  refine gm_ev.aload_n iL_535 rfl ?_
  refine gm_ev.iconst (v := 0) iL_536 (by decide) ?_
  refine gm_ev.laload iL_537 (gm_al_of ha24 ek25 lk25 ba24) ?_
  refine gm_ev.iload iL_538 rfl ?_
  refine gm_ev.i2l iL_540 ?_
  refine gm_ev.lcmp iL_541 ?_
  refine gm_ev.if_eq_f iL_542 c26 ?_
  refine gm_ev.iconst (v := 0) iL_545 (by decide) ?_
  exact gm_ev.zret iL_546 rfl (by decide)
theorem w_L_law_23_fs12f {N0 : Nat} {K : Nat → Nat} {M : gm_H} {sz sl : Nat} {b : Nat} {a1 : Nat} {a2 : Nat} {a3 : Nat} {x4 : Int32} {na1 : Nat} {fa1 : Nat → Int32} {k3 : Nat} {r5 : Int32} {M7 : gm_H} {sz8 : Nat} {dd9 : Nat} {fso10 : List Value} {r11 : Int32} {M13 : gm_H} {sz14 : Nat} {dd15 : Nat} {fso16 : List Value} {r17 : Int32} {M19 : gm_H} {sz20 : Nat} {dd21 : Nat} (ha1 : M b = some (.inl (gm_scr, na1, .inl fa1))) (ba1 : na1 < 2 ^ 31) (c2 : ¬ ((nI na1) - (4 : Int32)) < x4) (ek3 : x4 = nI k3) (lk3 : k3 < na1) (c4 : ((fa1 k3) &&& (15 : Int32)) = 12) (t6 : gm_toC (gm_lawC N0 K ra_nm (ra_mt K) 100 10 ra_wt) 1002 [.ref a1, .ref a3] M sz (.returned (some (.int r5)), M7, sz8, dd9)) (ho10 : M7 a2 = some (.inr (11, fso10))) (t12 : gm_toC (gm_lawC N0 K ra_nm (ra_mt K) 100 10 ra_wt) 187 [.ref a2] M7 sz8 (.returned (some (.int r11)), M13, sz14, dd15)) (ho16 : M13 a2 = some (.inr (11, fso16))) (t18 : gm_toC (gm_lawC N0 K ra_nm (ra_mt K) 100 10 ra_wt) 119 [.ref a2] M13 sz14 (.returned (some (.int r17)), M19, sz20, dd21)) (c22 : ¬ r17 = r5) : gm_evC N0 ra_nm (gm_lawC N0 K ra_nm (ra_mt K) 100 10 ra_wt) (some .boolean) (gm_I cL_law) (gm_lkf (lkL false K)) 23 [some (.ref b), some (.ref a1), some (.ref a2), some (.ref a3), some (.int x4), none, none] [] M sz sl (.returned (some (.int (0 : Int32))), M19, sz20, (((sl + dd9) + dd15) + dd21)) := by
  refine gm_ev.iload iL_23 rfl ?_
  refine gm_ev.aload_n iL_25 rfl ?_
  refine gm_ev.alen iL_26 (gm_alen_of ha1) ?_
  refine gm_ev.iconst (v := 4) iL_27 (by decide) ?_
  refine gm_ev.isub iL_28 ?_
  refine gm_ev.icmp_gt_f iL_29 c2 ?_
  refine gm_ev.aload_n iL_32 rfl ?_
  refine gm_ev.iload iL_33 rfl ?_
  refine gm_ev.ialoadS iL_35 (gm_ai_of ha1 ek3 lk3 ba1) ?_
  refine gm_ev.bipush (v := 15) iL_36 (by decide) ?_
  refine gm_ev.iand iL_38 ?_
  refine gm_ev.tableIn (tgt := 506) (off := 467) iL_39 (by rw [c4]; decide) (by rw [c4]; decide) (by decide) ?_
  refine gm_ev.aload_n iL_506 rfl ?_
  refine gm_ev.aload_n iL_507 rfl ?_
  refine gm_ev.callS gm_mono_law (av := [.ref a1, .ref a3]) (r := []) iL_508 rfl rfl rfl (Nat.le_of_ble_eq_true rfl) t6 ?_
  refine gm_ev.istore (ls' := [some (.ref b), some (.ref a1), some (.ref a2), some (.ref a3), some (.int x4), some (.int r5), none]) iL_511 (Nat.le_of_ble_eq_true rfl) rfl ?_
  refine gm_ev.aload_n iL_513 rfl ?_
  refine gm_ev.callV gm_mono_law (av := []) (r := []) (fs := fso10) ho10 iL_514 rfl rfl rfl (Nat.le_of_ble_eq_true rfl) t12 ?_
  refine gm_ev.istore (ls' := [some (.ref b), some (.ref a1), some (.ref a2), some (.ref a3), some (.int x4), some (.int r5), some (.int r11)]) iL_517 (Nat.le_of_ble_eq_true rfl) rfl ?_
  refine gm_ev.aload_n iL_519 rfl ?_
  refine gm_ev.callV gm_mono_law (av := []) (r := []) (fs := fso16) ho16 iL_520 rfl rfl rfl (Nat.le_of_ble_eq_true rfl) t18 ?_
  refine gm_ev.iload iL_523 rfl ?_
  refine gm_ev.icmp_eq_f iL_525 c22 ?_
  refine gm_ev.iconst (v := 0) iL_528 (by decide) ?_
  exact gm_ev.zret iL_529 rfl (by decide)
theorem w_L_law_23_fs13tt_at23 {N0 : Nat} {K : Nat → Nat} {M : gm_H} {sz sl : Nat} {R : gm_R} {b : Nat} {a1 : Nat} {a2 : Nat} {a3 : Nat} {x4 : Int32} {na1 : Nat} {fa1 : Nat → Int32} {k3 : Nat} {r5 : Int32} {M7 : gm_H} {sz8 : Nat} {dd9 : Nat} {fso10 : List Value} {r11 : Int32} {M13 : gm_H} {sz14 : Nat} {dd15 : Nat} {fso16 : List Value} {r17 : Int32} {M19 : gm_H} {sz20 : Nat} {dd21 : Nat} (ha1 : M b = some (.inl (gm_scr, na1, .inl fa1))) (ba1 : na1 < 2 ^ 31) (c2 : ¬ ((nI na1) - (4 : Int32)) < x4) (ek3 : x4 = nI k3) (lk3 : k3 < na1) (c4 : ((fa1 k3) &&& (15 : Int32)) = 13) (t6 : gm_toC (gm_lawC N0 K ra_nm (ra_mt K) 100 10 ra_wt) 1003 [.ref a1, .ref a3] M sz (.returned (some (.int r5)), M7, sz8, dd9)) (ho10 : M7 a2 = some (.inr (11, fso10))) (t12 : gm_toC (gm_lawC N0 K ra_nm (ra_mt K) 100 10 ra_wt) 189 [.ref a2] M7 sz8 (.returned (some (.int r11)), M13, sz14, dd15)) (ho16 : M13 a2 = some (.inr (11, fso16))) (t18 : gm_toC (gm_lawC N0 K ra_nm (ra_mt K) 100 10 ra_wt) 119 [.ref a2] M13 sz14 (.returned (some (.int r17)), M19, sz20, dd21)) (c22 : r17 = r5) (c23 : ¬ r5 = 0) (k : gm_evC N0 ra_nm (gm_lawC N0 K ra_nm (ra_mt K) 100 10 ra_wt) (some .boolean) (gm_I cL_law) (gm_lkf (lkL false K)) 23 [some (.ref b), some (.ref a1), some (.ref a2), some (.ref a3), some (.int (x4 + (4 : Int32))), none, none] [] M19 sz20 (((sl + dd9) + dd15) + dd21) R) : gm_evC N0 ra_nm (gm_lawC N0 K ra_nm (ra_mt K) 100 10 ra_wt) (some .boolean) (gm_I cL_law) (gm_lkf (lkL false K)) 23 [some (.ref b), some (.ref a1), some (.ref a2), some (.ref a3), some (.int x4), none, none] [] M sz sl R := by
  refine gm_ev.iload iL_23 rfl ?_
  refine gm_ev.aload_n iL_25 rfl ?_
  refine gm_ev.alen iL_26 (gm_alen_of ha1) ?_
  refine gm_ev.iconst (v := 4) iL_27 (by decide) ?_
  refine gm_ev.isub iL_28 ?_
  refine gm_ev.icmp_gt_f iL_29 c2 ?_
  refine gm_ev.aload_n iL_32 rfl ?_
  refine gm_ev.iload iL_33 rfl ?_
  refine gm_ev.ialoadS iL_35 (gm_ai_of ha1 ek3 lk3 ba1) ?_
  refine gm_ev.bipush (v := 15) iL_36 (by decide) ?_
  refine gm_ev.iand iL_38 ?_
  refine gm_ev.tableIn (tgt := 550) (off := 511) iL_39 (by rw [c4]; decide) (by rw [c4]; decide) (by decide) ?_
  refine gm_ev.aload_n iL_550 rfl ?_
  refine gm_ev.aload_n iL_551 rfl ?_
  refine gm_ev.callS gm_mono_law (av := [.ref a1, .ref a3]) (r := []) iL_552 rfl rfl rfl (Nat.le_of_ble_eq_true rfl) t6 ?_
  refine gm_ev.istore (ls' := [some (.ref b), some (.ref a1), some (.ref a2), some (.ref a3), some (.int x4), some (.int r5), none]) iL_555 (Nat.le_of_ble_eq_true rfl) rfl ?_
  refine gm_ev.aload_n iL_557 rfl ?_
  refine gm_ev.callV gm_mono_law (av := []) (r := []) (fs := fso10) ho10 iL_558 rfl rfl rfl (Nat.le_of_ble_eq_true rfl) t12 ?_
  refine gm_ev.istore (ls' := [some (.ref b), some (.ref a1), some (.ref a2), some (.ref a3), some (.int x4), some (.int r5), some (.int r11)]) iL_561 (Nat.le_of_ble_eq_true rfl) rfl ?_
  refine gm_ev.aload_n iL_563 rfl ?_
  refine gm_ev.callV gm_mono_law (av := []) (r := []) (fs := fso16) ho16 iL_564 rfl rfl rfl (Nat.le_of_ble_eq_true rfl) t18 ?_
  refine gm_ev.iload iL_567 rfl ?_
  refine gm_ev.icmp_eq_t (tgt := 574) iL_569 (by decide) c22 ?_
  refine gm_ev.iload iL_574 rfl ?_
  refine gm_ev.if_ne_t (tgt := 591) iL_576 (by decide) c23 ?_
  refine gm_ev.goto (tgt := 638) iL_591 (by decide) ?_
  refine gm_ev.iinc (v := x4 + (4 : Int32)) (ls' := [some (.ref b), some (.ref a1), some (.ref a2), some (.ref a3), some (.int (x4 + (4 : Int32))), some (.int r5), some (.int r11)]) iL_638 rfl (by rfl) rfl ?_
  refine gm_ev.goto (tgt := 23) iL_641 (by decide) ?_
  refine gm_ev.le (a := [some (.ref b), some (.ref a1), some (.ref a2), some (.ref a3), some (.int (x4 + (4 : Int32))), none, none]) (gm_leL.le (show gm_leL _ _ from ⟨rfl, ⟨rfl, ⟨rfl, ⟨rfl, ⟨rfl, trivial⟩⟩⟩⟩⟩)) ?_
  exact k
theorem w_L_law_23_fs13tft_at23 {N0 : Nat} {K : Nat → Nat} {M : gm_H} {sz sl : Nat} {R : gm_R} {b : Nat} {a1 : Nat} {a2 : Nat} {a3 : Nat} {x4 : Int32} {na1 : Nat} {fa1 : Nat → Int32} {k3 : Nat} {r5 : Int32} {M7 : gm_H} {sz8 : Nat} {dd9 : Nat} {fso10 : List Value} {r11 : Int32} {M13 : gm_H} {sz14 : Nat} {dd15 : Nat} {fso16 : List Value} {r17 : Int32} {M19 : gm_H} {sz20 : Nat} {dd21 : Nat} {na24 : Nat} {fa24 : Nat → Int64} {k25 : Nat} (ha1 : M b = some (.inl (gm_scr, na1, .inl fa1))) (ba1 : na1 < 2 ^ 31) (c2 : ¬ ((nI na1) - (4 : Int32)) < x4) (ek3 : x4 = nI k3) (lk3 : k3 < na1) (c4 : ((fa1 k3) &&& (15 : Int32)) = 13) (t6 : gm_toC (gm_lawC N0 K ra_nm (ra_mt K) 100 10 ra_wt) 1003 [.ref a1, .ref a3] M sz (.returned (some (.int r5)), M7, sz8, dd9)) (ho10 : M7 a2 = some (.inr (11, fso10))) (t12 : gm_toC (gm_lawC N0 K ra_nm (ra_mt K) 100 10 ra_wt) 189 [.ref a2] M7 sz8 (.returned (some (.int r11)), M13, sz14, dd15)) (ho16 : M13 a2 = some (.inr (11, fso16))) (t18 : gm_toC (gm_lawC N0 K ra_nm (ra_mt K) 100 10 ra_wt) 119 [.ref a2] M13 sz14 (.returned (some (.int r17)), M19, sz20, dd21)) (c22 : r17 = r5) (c23 : r5 = 0) (ha24 : M19 a3 = some (.inl (.long, na24, .inr (.inl fa24)))) (ba24 : na24 < 2 ^ 31) (ek25 : (0 : Int32) = nI k25) (lk25 : k25 < na24) (c26 : (lg_cmp (fa24 k25) r11.toInt64) = 0) (k : gm_evC N0 ra_nm (gm_lawC N0 K ra_nm (ra_mt K) 100 10 ra_wt) (some .boolean) (gm_I cL_law) (gm_lkf (lkL false K)) 23 [some (.ref b), some (.ref a1), some (.ref a2), some (.ref a3), some (.int (x4 + (4 : Int32))), none, none] [] M19 sz20 (((sl + dd9) + dd15) + dd21) R) : gm_evC N0 ra_nm (gm_lawC N0 K ra_nm (ra_mt K) 100 10 ra_wt) (some .boolean) (gm_I cL_law) (gm_lkf (lkL false K)) 23 [some (.ref b), some (.ref a1), some (.ref a2), some (.ref a3), some (.int x4), none, none] [] M sz sl R := by
  refine gm_ev.iload iL_23 rfl ?_
  refine gm_ev.aload_n iL_25 rfl ?_
  refine gm_ev.alen iL_26 (gm_alen_of ha1) ?_
  refine gm_ev.iconst (v := 4) iL_27 (by decide) ?_
  refine gm_ev.isub iL_28 ?_
  refine gm_ev.icmp_gt_f iL_29 c2 ?_
  refine gm_ev.aload_n iL_32 rfl ?_
  refine gm_ev.iload iL_33 rfl ?_
  refine gm_ev.ialoadS iL_35 (gm_ai_of ha1 ek3 lk3 ba1) ?_
  refine gm_ev.bipush (v := 15) iL_36 (by decide) ?_
  refine gm_ev.iand iL_38 ?_
  refine gm_ev.tableIn (tgt := 550) (off := 511) iL_39 (by rw [c4]; decide) (by rw [c4]; decide) (by decide) ?_
  refine gm_ev.aload_n iL_550 rfl ?_
  refine gm_ev.aload_n iL_551 rfl ?_
  refine gm_ev.callS gm_mono_law (av := [.ref a1, .ref a3]) (r := []) iL_552 rfl rfl rfl (Nat.le_of_ble_eq_true rfl) t6 ?_
  refine gm_ev.istore (ls' := [some (.ref b), some (.ref a1), some (.ref a2), some (.ref a3), some (.int x4), some (.int r5), none]) iL_555 (Nat.le_of_ble_eq_true rfl) rfl ?_
  refine gm_ev.aload_n iL_557 rfl ?_
  refine gm_ev.callV gm_mono_law (av := []) (r := []) (fs := fso10) ho10 iL_558 rfl rfl rfl (Nat.le_of_ble_eq_true rfl) t12 ?_
  refine gm_ev.istore (ls' := [some (.ref b), some (.ref a1), some (.ref a2), some (.ref a3), some (.int x4), some (.int r5), some (.int r11)]) iL_561 (Nat.le_of_ble_eq_true rfl) rfl ?_
  refine gm_ev.aload_n iL_563 rfl ?_
  refine gm_ev.callV gm_mono_law (av := []) (r := []) (fs := fso16) ho16 iL_564 rfl rfl rfl (Nat.le_of_ble_eq_true rfl) t18 ?_
  refine gm_ev.iload iL_567 rfl ?_
  refine gm_ev.icmp_eq_t (tgt := 574) iL_569 (by decide) c22 ?_
  refine gm_ev.iload iL_574 rfl ?_
  refine gm_ev.if_ne_f iL_576 c23 ?_
  refine gm_ev.aload_n iL_579 rfl ?_
  refine gm_ev.iconst (v := 0) iL_580 (by decide) ?_
  refine gm_ev.laload iL_581 (gm_al_of ha24 ek25 lk25 ba24) ?_
  refine gm_ev.iload iL_582 rfl ?_
  refine gm_ev.i2l iL_584 ?_
  refine gm_ev.lcmp iL_585 ?_
  refine gm_ev.if_eq_t (tgt := 591) iL_586 (by decide) c26 ?_
  refine gm_ev.goto (tgt := 638) iL_591 (by decide) ?_
  refine gm_ev.iinc (v := x4 + (4 : Int32)) (ls' := [some (.ref b), some (.ref a1), some (.ref a2), some (.ref a3), some (.int (x4 + (4 : Int32))), some (.int r5), some (.int r11)]) iL_638 rfl (by rfl) rfl ?_
  refine gm_ev.goto (tgt := 23) iL_641 (by decide) ?_
  refine gm_ev.le (a := [some (.ref b), some (.ref a1), some (.ref a2), some (.ref a3), some (.int (x4 + (4 : Int32))), none, none]) (gm_leL.le (show gm_leL _ _ from ⟨rfl, ⟨rfl, ⟨rfl, ⟨rfl, ⟨rfl, trivial⟩⟩⟩⟩⟩)) ?_
  exact k
theorem w_L_law_23_fs13tff {N0 : Nat} {K : Nat → Nat} {M : gm_H} {sz sl : Nat} {b : Nat} {a1 : Nat} {a2 : Nat} {a3 : Nat} {x4 : Int32} {na1 : Nat} {fa1 : Nat → Int32} {k3 : Nat} {r5 : Int32} {M7 : gm_H} {sz8 : Nat} {dd9 : Nat} {fso10 : List Value} {r11 : Int32} {M13 : gm_H} {sz14 : Nat} {dd15 : Nat} {fso16 : List Value} {r17 : Int32} {M19 : gm_H} {sz20 : Nat} {dd21 : Nat} {na24 : Nat} {fa24 : Nat → Int64} {k25 : Nat} (ha1 : M b = some (.inl (gm_scr, na1, .inl fa1))) (ba1 : na1 < 2 ^ 31) (c2 : ¬ ((nI na1) - (4 : Int32)) < x4) (ek3 : x4 = nI k3) (lk3 : k3 < na1) (c4 : ((fa1 k3) &&& (15 : Int32)) = 13) (t6 : gm_toC (gm_lawC N0 K ra_nm (ra_mt K) 100 10 ra_wt) 1003 [.ref a1, .ref a3] M sz (.returned (some (.int r5)), M7, sz8, dd9)) (ho10 : M7 a2 = some (.inr (11, fso10))) (t12 : gm_toC (gm_lawC N0 K ra_nm (ra_mt K) 100 10 ra_wt) 189 [.ref a2] M7 sz8 (.returned (some (.int r11)), M13, sz14, dd15)) (ho16 : M13 a2 = some (.inr (11, fso16))) (t18 : gm_toC (gm_lawC N0 K ra_nm (ra_mt K) 100 10 ra_wt) 119 [.ref a2] M13 sz14 (.returned (some (.int r17)), M19, sz20, dd21)) (c22 : r17 = r5) (c23 : r5 = 0) (ha24 : M19 a3 = some (.inl (.long, na24, .inr (.inl fa24)))) (ba24 : na24 < 2 ^ 31) (ek25 : (0 : Int32) = nI k25) (lk25 : k25 < na24) (c26 : ¬ (lg_cmp (fa24 k25) r11.toInt64) = 0) : gm_evC N0 ra_nm (gm_lawC N0 K ra_nm (ra_mt K) 100 10 ra_wt) (some .boolean) (gm_I cL_law) (gm_lkf (lkL false K)) 23 [some (.ref b), some (.ref a1), some (.ref a2), some (.ref a3), some (.int x4), none, none] [] M sz sl (.returned (some (.int (0 : Int32))), M19, sz20, (((sl + dd9) + dd15) + dd21)) := by
  refine gm_ev.iload iL_23 rfl ?_
  refine gm_ev.aload_n iL_25 rfl ?_
  refine gm_ev.alen iL_26 (gm_alen_of ha1) ?_
  refine gm_ev.iconst (v := 4) iL_27 (by decide) ?_
  refine gm_ev.isub iL_28 ?_
  refine gm_ev.icmp_gt_f iL_29 c2 ?_
  refine gm_ev.aload_n iL_32 rfl ?_
  refine gm_ev.iload iL_33 rfl ?_
  refine gm_ev.ialoadS iL_35 (gm_ai_of ha1 ek3 lk3 ba1) ?_
  refine gm_ev.bipush (v := 15) iL_36 (by decide) ?_
  refine gm_ev.iand iL_38 ?_
  refine gm_ev.tableIn (tgt := 550) (off := 511) iL_39 (by rw [c4]; decide) (by rw [c4]; decide) (by decide) ?_
  refine gm_ev.aload_n iL_550 rfl ?_
  refine gm_ev.aload_n iL_551 rfl ?_
  refine gm_ev.callS gm_mono_law (av := [.ref a1, .ref a3]) (r := []) iL_552 rfl rfl rfl (Nat.le_of_ble_eq_true rfl) t6 ?_
  refine gm_ev.istore (ls' := [some (.ref b), some (.ref a1), some (.ref a2), some (.ref a3), some (.int x4), some (.int r5), none]) iL_555 (Nat.le_of_ble_eq_true rfl) rfl ?_
  refine gm_ev.aload_n iL_557 rfl ?_
  refine gm_ev.callV gm_mono_law (av := []) (r := []) (fs := fso10) ho10 iL_558 rfl rfl rfl (Nat.le_of_ble_eq_true rfl) t12 ?_
  refine gm_ev.istore (ls' := [some (.ref b), some (.ref a1), some (.ref a2), some (.ref a3), some (.int x4), some (.int r5), some (.int r11)]) iL_561 (Nat.le_of_ble_eq_true rfl) rfl ?_
  refine gm_ev.aload_n iL_563 rfl ?_
  refine gm_ev.callV gm_mono_law (av := []) (r := []) (fs := fso16) ho16 iL_564 rfl rfl rfl (Nat.le_of_ble_eq_true rfl) t18 ?_
  refine gm_ev.iload iL_567 rfl ?_
  refine gm_ev.icmp_eq_t (tgt := 574) iL_569 (by decide) c22 ?_
  refine gm_ev.iload iL_574 rfl ?_
  refine gm_ev.if_ne_f iL_576 c23 ?_
  refine gm_ev.aload_n iL_579 rfl ?_
  refine gm_ev.iconst (v := 0) iL_580 (by decide) ?_
  refine gm_ev.laload iL_581 (gm_al_of ha24 ek25 lk25 ba24) ?_
  refine gm_ev.iload iL_582 rfl ?_
  refine gm_ev.i2l iL_584 ?_
  refine gm_ev.lcmp iL_585 ?_
  refine gm_ev.if_eq_f iL_586 c26 ?_
  refine gm_ev.iconst (v := 0) iL_589 (by decide) ?_
  exact gm_ev.zret iL_590 rfl (by decide)
theorem w_L_law_23_fs13f {N0 : Nat} {K : Nat → Nat} {M : gm_H} {sz sl : Nat} {b : Nat} {a1 : Nat} {a2 : Nat} {a3 : Nat} {x4 : Int32} {na1 : Nat} {fa1 : Nat → Int32} {k3 : Nat} {r5 : Int32} {M7 : gm_H} {sz8 : Nat} {dd9 : Nat} {fso10 : List Value} {r11 : Int32} {M13 : gm_H} {sz14 : Nat} {dd15 : Nat} {fso16 : List Value} {r17 : Int32} {M19 : gm_H} {sz20 : Nat} {dd21 : Nat} (ha1 : M b = some (.inl (gm_scr, na1, .inl fa1))) (ba1 : na1 < 2 ^ 31) (c2 : ¬ ((nI na1) - (4 : Int32)) < x4) (ek3 : x4 = nI k3) (lk3 : k3 < na1) (c4 : ((fa1 k3) &&& (15 : Int32)) = 13) (t6 : gm_toC (gm_lawC N0 K ra_nm (ra_mt K) 100 10 ra_wt) 1003 [.ref a1, .ref a3] M sz (.returned (some (.int r5)), M7, sz8, dd9)) (ho10 : M7 a2 = some (.inr (11, fso10))) (t12 : gm_toC (gm_lawC N0 K ra_nm (ra_mt K) 100 10 ra_wt) 189 [.ref a2] M7 sz8 (.returned (some (.int r11)), M13, sz14, dd15)) (ho16 : M13 a2 = some (.inr (11, fso16))) (t18 : gm_toC (gm_lawC N0 K ra_nm (ra_mt K) 100 10 ra_wt) 119 [.ref a2] M13 sz14 (.returned (some (.int r17)), M19, sz20, dd21)) (c22 : ¬ r17 = r5) : gm_evC N0 ra_nm (gm_lawC N0 K ra_nm (ra_mt K) 100 10 ra_wt) (some .boolean) (gm_I cL_law) (gm_lkf (lkL false K)) 23 [some (.ref b), some (.ref a1), some (.ref a2), some (.ref a3), some (.int x4), none, none] [] M sz sl (.returned (some (.int (0 : Int32))), M19, sz20, (((sl + dd9) + dd15) + dd21)) := by
  refine gm_ev.iload iL_23 rfl ?_
  refine gm_ev.aload_n iL_25 rfl ?_
  refine gm_ev.alen iL_26 (gm_alen_of ha1) ?_
  refine gm_ev.iconst (v := 4) iL_27 (by decide) ?_
  refine gm_ev.isub iL_28 ?_
  refine gm_ev.icmp_gt_f iL_29 c2 ?_
  refine gm_ev.aload_n iL_32 rfl ?_
  refine gm_ev.iload iL_33 rfl ?_
  refine gm_ev.ialoadS iL_35 (gm_ai_of ha1 ek3 lk3 ba1) ?_
  refine gm_ev.bipush (v := 15) iL_36 (by decide) ?_
  refine gm_ev.iand iL_38 ?_
  refine gm_ev.tableIn (tgt := 550) (off := 511) iL_39 (by rw [c4]; decide) (by rw [c4]; decide) (by decide) ?_
  refine gm_ev.aload_n iL_550 rfl ?_
  refine gm_ev.aload_n iL_551 rfl ?_
  refine gm_ev.callS gm_mono_law (av := [.ref a1, .ref a3]) (r := []) iL_552 rfl rfl rfl (Nat.le_of_ble_eq_true rfl) t6 ?_
  refine gm_ev.istore (ls' := [some (.ref b), some (.ref a1), some (.ref a2), some (.ref a3), some (.int x4), some (.int r5), none]) iL_555 (Nat.le_of_ble_eq_true rfl) rfl ?_
  refine gm_ev.aload_n iL_557 rfl ?_
  refine gm_ev.callV gm_mono_law (av := []) (r := []) (fs := fso10) ho10 iL_558 rfl rfl rfl (Nat.le_of_ble_eq_true rfl) t12 ?_
  refine gm_ev.istore (ls' := [some (.ref b), some (.ref a1), some (.ref a2), some (.ref a3), some (.int x4), some (.int r5), some (.int r11)]) iL_561 (Nat.le_of_ble_eq_true rfl) rfl ?_
  refine gm_ev.aload_n iL_563 rfl ?_
  refine gm_ev.callV gm_mono_law (av := []) (r := []) (fs := fso16) ho16 iL_564 rfl rfl rfl (Nat.le_of_ble_eq_true rfl) t18 ?_
  refine gm_ev.iload iL_567 rfl ?_
  refine gm_ev.icmp_eq_f iL_569 c22 ?_
  refine gm_ev.iconst (v := 0) iL_572 (by decide) ?_
  exact gm_ev.zret iL_573 rfl (by decide)
theorem w_L_law_23_fs14tt_at23 {N0 : Nat} {K : Nat → Nat} {M : gm_H} {sz sl : Nat} {R : gm_R} {b : Nat} {a1 : Nat} {a2 : Nat} {a3 : Nat} {x4 : Int32} {na1 : Nat} {fa1 : Nat → Int32} {k3 : Nat} {r5 : Int32} {M7 : gm_H} {sz8 : Nat} {dd9 : Nat} {fso10 : List Value} {r11 : Int32} {M13 : gm_H} {sz14 : Nat} {dd15 : Nat} {fso16 : List Value} {r17 : Int32} {M19 : gm_H} {sz20 : Nat} {dd21 : Nat} (ha1 : M b = some (.inl (gm_scr, na1, .inl fa1))) (ba1 : na1 < 2 ^ 31) (c2 : ¬ ((nI na1) - (4 : Int32)) < x4) (ek3 : x4 = nI k3) (lk3 : k3 < na1) (c4 : ((fa1 k3) &&& (15 : Int32)) = 14) (t6 : gm_toC (gm_lawC N0 K ra_nm (ra_mt K) 100 10 ra_wt) 1004 [.ref a1, .ref a3] M sz (.returned (some (.int r5)), M7, sz8, dd9)) (ho10 : M7 a2 = some (.inr (11, fso10))) (t12 : gm_toC (gm_lawC N0 K ra_nm (ra_mt K) 100 10 ra_wt) 190 [.ref a2] M7 sz8 (.returned (some (.int r11)), M13, sz14, dd15)) (ho16 : M13 a2 = some (.inr (11, fso16))) (t18 : gm_toC (gm_lawC N0 K ra_nm (ra_mt K) 100 10 ra_wt) 119 [.ref a2] M13 sz14 (.returned (some (.int r17)), M19, sz20, dd21)) (c22 : r17 = r5) (c23 : ¬ r5 = 0) (k : gm_evC N0 ra_nm (gm_lawC N0 K ra_nm (ra_mt K) 100 10 ra_wt) (some .boolean) (gm_I cL_law) (gm_lkf (lkL false K)) 23 [some (.ref b), some (.ref a1), some (.ref a2), some (.ref a3), some (.int (x4 + (4 : Int32))), none, none] [] M19 sz20 (((sl + dd9) + dd15) + dd21) R) : gm_evC N0 ra_nm (gm_lawC N0 K ra_nm (ra_mt K) 100 10 ra_wt) (some .boolean) (gm_I cL_law) (gm_lkf (lkL false K)) 23 [some (.ref b), some (.ref a1), some (.ref a2), some (.ref a3), some (.int x4), none, none] [] M sz sl R := by
  refine gm_ev.iload iL_23 rfl ?_
  refine gm_ev.aload_n iL_25 rfl ?_
  refine gm_ev.alen iL_26 (gm_alen_of ha1) ?_
  refine gm_ev.iconst (v := 4) iL_27 (by decide) ?_
  refine gm_ev.isub iL_28 ?_
  refine gm_ev.icmp_gt_f iL_29 c2 ?_
  refine gm_ev.aload_n iL_32 rfl ?_
  refine gm_ev.iload iL_33 rfl ?_
  refine gm_ev.ialoadS iL_35 (gm_ai_of ha1 ek3 lk3 ba1) ?_
  refine gm_ev.bipush (v := 15) iL_36 (by decide) ?_
  refine gm_ev.iand iL_38 ?_
  refine gm_ev.tableIn (tgt := 594) (off := 555) iL_39 (by rw [c4]; decide) (by rw [c4]; decide) (by decide) ?_
  refine gm_ev.aload_n iL_594 rfl ?_
  refine gm_ev.aload_n iL_595 rfl ?_
  refine gm_ev.callS gm_mono_law (av := [.ref a1, .ref a3]) (r := []) iL_596 rfl rfl rfl (Nat.le_of_ble_eq_true rfl) t6 ?_
  refine gm_ev.istore (ls' := [some (.ref b), some (.ref a1), some (.ref a2), some (.ref a3), some (.int x4), some (.int r5), none]) iL_599 (Nat.le_of_ble_eq_true rfl) rfl ?_
  refine gm_ev.aload_n iL_601 rfl ?_
  refine gm_ev.callV gm_mono_law (av := []) (r := []) (fs := fso10) ho10 iL_602 rfl rfl rfl (Nat.le_of_ble_eq_true rfl) t12 ?_
  refine gm_ev.istore (ls' := [some (.ref b), some (.ref a1), some (.ref a2), some (.ref a3), some (.int x4), some (.int r5), some (.int r11)]) iL_605 (Nat.le_of_ble_eq_true rfl) rfl ?_
  refine gm_ev.aload_n iL_607 rfl ?_
  refine gm_ev.callV gm_mono_law (av := []) (r := []) (fs := fso16) ho16 iL_608 rfl rfl rfl (Nat.le_of_ble_eq_true rfl) t18 ?_
  refine gm_ev.iload iL_611 rfl ?_
  refine gm_ev.icmp_eq_t (tgt := 618) iL_613 (by decide) c22 ?_
  refine gm_ev.iload iL_618 rfl ?_
  refine gm_ev.if_ne_t (tgt := 635) iL_620 (by decide) c23 ?_
  refine gm_ev.goto (tgt := 638) iL_635 (by decide) ?_
  refine gm_ev.iinc (v := x4 + (4 : Int32)) (ls' := [some (.ref b), some (.ref a1), some (.ref a2), some (.ref a3), some (.int (x4 + (4 : Int32))), some (.int r5), some (.int r11)]) iL_638 rfl (by rfl) rfl ?_
  refine gm_ev.goto (tgt := 23) iL_641 (by decide) ?_
  refine gm_ev.le (a := [some (.ref b), some (.ref a1), some (.ref a2), some (.ref a3), some (.int (x4 + (4 : Int32))), none, none]) (gm_leL.le (show gm_leL _ _ from ⟨rfl, ⟨rfl, ⟨rfl, ⟨rfl, ⟨rfl, trivial⟩⟩⟩⟩⟩)) ?_
  exact k
theorem w_L_law_23_fs14tft_at23 {N0 : Nat} {K : Nat → Nat} {M : gm_H} {sz sl : Nat} {R : gm_R} {b : Nat} {a1 : Nat} {a2 : Nat} {a3 : Nat} {x4 : Int32} {na1 : Nat} {fa1 : Nat → Int32} {k3 : Nat} {r5 : Int32} {M7 : gm_H} {sz8 : Nat} {dd9 : Nat} {fso10 : List Value} {r11 : Int32} {M13 : gm_H} {sz14 : Nat} {dd15 : Nat} {fso16 : List Value} {r17 : Int32} {M19 : gm_H} {sz20 : Nat} {dd21 : Nat} {na24 : Nat} {fa24 : Nat → Int64} {k25 : Nat} (ha1 : M b = some (.inl (gm_scr, na1, .inl fa1))) (ba1 : na1 < 2 ^ 31) (c2 : ¬ ((nI na1) - (4 : Int32)) < x4) (ek3 : x4 = nI k3) (lk3 : k3 < na1) (c4 : ((fa1 k3) &&& (15 : Int32)) = 14) (t6 : gm_toC (gm_lawC N0 K ra_nm (ra_mt K) 100 10 ra_wt) 1004 [.ref a1, .ref a3] M sz (.returned (some (.int r5)), M7, sz8, dd9)) (ho10 : M7 a2 = some (.inr (11, fso10))) (t12 : gm_toC (gm_lawC N0 K ra_nm (ra_mt K) 100 10 ra_wt) 190 [.ref a2] M7 sz8 (.returned (some (.int r11)), M13, sz14, dd15)) (ho16 : M13 a2 = some (.inr (11, fso16))) (t18 : gm_toC (gm_lawC N0 K ra_nm (ra_mt K) 100 10 ra_wt) 119 [.ref a2] M13 sz14 (.returned (some (.int r17)), M19, sz20, dd21)) (c22 : r17 = r5) (c23 : r5 = 0) (ha24 : M19 a3 = some (.inl (.long, na24, .inr (.inl fa24)))) (ba24 : na24 < 2 ^ 31) (ek25 : (0 : Int32) = nI k25) (lk25 : k25 < na24) (c26 : (lg_cmp (fa24 k25) r11.toInt64) = 0) (k : gm_evC N0 ra_nm (gm_lawC N0 K ra_nm (ra_mt K) 100 10 ra_wt) (some .boolean) (gm_I cL_law) (gm_lkf (lkL false K)) 23 [some (.ref b), some (.ref a1), some (.ref a2), some (.ref a3), some (.int (x4 + (4 : Int32))), none, none] [] M19 sz20 (((sl + dd9) + dd15) + dd21) R) : gm_evC N0 ra_nm (gm_lawC N0 K ra_nm (ra_mt K) 100 10 ra_wt) (some .boolean) (gm_I cL_law) (gm_lkf (lkL false K)) 23 [some (.ref b), some (.ref a1), some (.ref a2), some (.ref a3), some (.int x4), none, none] [] M sz sl R := by
  refine gm_ev.iload iL_23 rfl ?_
  refine gm_ev.aload_n iL_25 rfl ?_
  refine gm_ev.alen iL_26 (gm_alen_of ha1) ?_
  refine gm_ev.iconst (v := 4) iL_27 (by decide) ?_
  refine gm_ev.isub iL_28 ?_
  refine gm_ev.icmp_gt_f iL_29 c2 ?_
  refine gm_ev.aload_n iL_32 rfl ?_
  refine gm_ev.iload iL_33 rfl ?_
  refine gm_ev.ialoadS iL_35 (gm_ai_of ha1 ek3 lk3 ba1) ?_
  refine gm_ev.bipush (v := 15) iL_36 (by decide) ?_
  refine gm_ev.iand iL_38 ?_
  refine gm_ev.tableIn (tgt := 594) (off := 555) iL_39 (by rw [c4]; decide) (by rw [c4]; decide) (by decide) ?_
  refine gm_ev.aload_n iL_594 rfl ?_
  refine gm_ev.aload_n iL_595 rfl ?_
  refine gm_ev.callS gm_mono_law (av := [.ref a1, .ref a3]) (r := []) iL_596 rfl rfl rfl (Nat.le_of_ble_eq_true rfl) t6 ?_
  refine gm_ev.istore (ls' := [some (.ref b), some (.ref a1), some (.ref a2), some (.ref a3), some (.int x4), some (.int r5), none]) iL_599 (Nat.le_of_ble_eq_true rfl) rfl ?_
  refine gm_ev.aload_n iL_601 rfl ?_
  refine gm_ev.callV gm_mono_law (av := []) (r := []) (fs := fso10) ho10 iL_602 rfl rfl rfl (Nat.le_of_ble_eq_true rfl) t12 ?_
  refine gm_ev.istore (ls' := [some (.ref b), some (.ref a1), some (.ref a2), some (.ref a3), some (.int x4), some (.int r5), some (.int r11)]) iL_605 (Nat.le_of_ble_eq_true rfl) rfl ?_
  refine gm_ev.aload_n iL_607 rfl ?_
  refine gm_ev.callV gm_mono_law (av := []) (r := []) (fs := fso16) ho16 iL_608 rfl rfl rfl (Nat.le_of_ble_eq_true rfl) t18 ?_
  refine gm_ev.iload iL_611 rfl ?_
  refine gm_ev.icmp_eq_t (tgt := 618) iL_613 (by decide) c22 ?_
  refine gm_ev.iload iL_618 rfl ?_
  refine gm_ev.if_ne_f iL_620 c23 ?_
  refine gm_ev.aload_n iL_623 rfl ?_
  refine gm_ev.iconst (v := 0) iL_624 (by decide) ?_
  refine gm_ev.laload iL_625 (gm_al_of ha24 ek25 lk25 ba24) ?_
  refine gm_ev.iload iL_626 rfl ?_
  refine gm_ev.i2l iL_628 ?_
  refine gm_ev.lcmp iL_629 ?_
  refine gm_ev.if_eq_t (tgt := 635) iL_630 (by decide) c26 ?_
  refine gm_ev.goto (tgt := 638) iL_635 (by decide) ?_
  refine gm_ev.iinc (v := x4 + (4 : Int32)) (ls' := [some (.ref b), some (.ref a1), some (.ref a2), some (.ref a3), some (.int (x4 + (4 : Int32))), some (.int r5), some (.int r11)]) iL_638 rfl (by rfl) rfl ?_
  refine gm_ev.goto (tgt := 23) iL_641 (by decide) ?_
  refine gm_ev.le (a := [some (.ref b), some (.ref a1), some (.ref a2), some (.ref a3), some (.int (x4 + (4 : Int32))), none, none]) (gm_leL.le (show gm_leL _ _ from ⟨rfl, ⟨rfl, ⟨rfl, ⟨rfl, ⟨rfl, trivial⟩⟩⟩⟩⟩)) ?_
  exact k
theorem w_L_law_23_fs14tff {N0 : Nat} {K : Nat → Nat} {M : gm_H} {sz sl : Nat} {b : Nat} {a1 : Nat} {a2 : Nat} {a3 : Nat} {x4 : Int32} {na1 : Nat} {fa1 : Nat → Int32} {k3 : Nat} {r5 : Int32} {M7 : gm_H} {sz8 : Nat} {dd9 : Nat} {fso10 : List Value} {r11 : Int32} {M13 : gm_H} {sz14 : Nat} {dd15 : Nat} {fso16 : List Value} {r17 : Int32} {M19 : gm_H} {sz20 : Nat} {dd21 : Nat} {na24 : Nat} {fa24 : Nat → Int64} {k25 : Nat} (ha1 : M b = some (.inl (gm_scr, na1, .inl fa1))) (ba1 : na1 < 2 ^ 31) (c2 : ¬ ((nI na1) - (4 : Int32)) < x4) (ek3 : x4 = nI k3) (lk3 : k3 < na1) (c4 : ((fa1 k3) &&& (15 : Int32)) = 14) (t6 : gm_toC (gm_lawC N0 K ra_nm (ra_mt K) 100 10 ra_wt) 1004 [.ref a1, .ref a3] M sz (.returned (some (.int r5)), M7, sz8, dd9)) (ho10 : M7 a2 = some (.inr (11, fso10))) (t12 : gm_toC (gm_lawC N0 K ra_nm (ra_mt K) 100 10 ra_wt) 190 [.ref a2] M7 sz8 (.returned (some (.int r11)), M13, sz14, dd15)) (ho16 : M13 a2 = some (.inr (11, fso16))) (t18 : gm_toC (gm_lawC N0 K ra_nm (ra_mt K) 100 10 ra_wt) 119 [.ref a2] M13 sz14 (.returned (some (.int r17)), M19, sz20, dd21)) (c22 : r17 = r5) (c23 : r5 = 0) (ha24 : M19 a3 = some (.inl (.long, na24, .inr (.inl fa24)))) (ba24 : na24 < 2 ^ 31) (ek25 : (0 : Int32) = nI k25) (lk25 : k25 < na24) (c26 : ¬ (lg_cmp (fa24 k25) r11.toInt64) = 0) : gm_evC N0 ra_nm (gm_lawC N0 K ra_nm (ra_mt K) 100 10 ra_wt) (some .boolean) (gm_I cL_law) (gm_lkf (lkL false K)) 23 [some (.ref b), some (.ref a1), some (.ref a2), some (.ref a3), some (.int x4), none, none] [] M sz sl (.returned (some (.int (0 : Int32))), M19, sz20, (((sl + dd9) + dd15) + dd21)) := by
  refine gm_ev.iload iL_23 rfl ?_
  refine gm_ev.aload_n iL_25 rfl ?_
  refine gm_ev.alen iL_26 (gm_alen_of ha1) ?_
  refine gm_ev.iconst (v := 4) iL_27 (by decide) ?_
  refine gm_ev.isub iL_28 ?_
  refine gm_ev.icmp_gt_f iL_29 c2 ?_
  refine gm_ev.aload_n iL_32 rfl ?_
  refine gm_ev.iload iL_33 rfl ?_
  refine gm_ev.ialoadS iL_35 (gm_ai_of ha1 ek3 lk3 ba1) ?_
  refine gm_ev.bipush (v := 15) iL_36 (by decide) ?_
  refine gm_ev.iand iL_38 ?_
  refine gm_ev.tableIn (tgt := 594) (off := 555) iL_39 (by rw [c4]; decide) (by rw [c4]; decide) (by decide) ?_
  refine gm_ev.aload_n iL_594 rfl ?_
  refine gm_ev.aload_n iL_595 rfl ?_
  refine gm_ev.callS gm_mono_law (av := [.ref a1, .ref a3]) (r := []) iL_596 rfl rfl rfl (Nat.le_of_ble_eq_true rfl) t6 ?_
  refine gm_ev.istore (ls' := [some (.ref b), some (.ref a1), some (.ref a2), some (.ref a3), some (.int x4), some (.int r5), none]) iL_599 (Nat.le_of_ble_eq_true rfl) rfl ?_
  refine gm_ev.aload_n iL_601 rfl ?_
  refine gm_ev.callV gm_mono_law (av := []) (r := []) (fs := fso10) ho10 iL_602 rfl rfl rfl (Nat.le_of_ble_eq_true rfl) t12 ?_
  refine gm_ev.istore (ls' := [some (.ref b), some (.ref a1), some (.ref a2), some (.ref a3), some (.int x4), some (.int r5), some (.int r11)]) iL_605 (Nat.le_of_ble_eq_true rfl) rfl ?_
  refine gm_ev.aload_n iL_607 rfl ?_
  refine gm_ev.callV gm_mono_law (av := []) (r := []) (fs := fso16) ho16 iL_608 rfl rfl rfl (Nat.le_of_ble_eq_true rfl) t18 ?_
  refine gm_ev.iload iL_611 rfl ?_
  refine gm_ev.icmp_eq_t (tgt := 618) iL_613 (by decide) c22 ?_
  refine gm_ev.iload iL_618 rfl ?_
  refine gm_ev.if_ne_f iL_620 c23 ?_
  refine gm_ev.aload_n iL_623 rfl ?_
  refine gm_ev.iconst (v := 0) iL_624 (by decide) ?_
  refine gm_ev.laload iL_625 (gm_al_of ha24 ek25 lk25 ba24) ?_
  refine gm_ev.iload iL_626 rfl ?_
  refine gm_ev.i2l iL_628 ?_
  refine gm_ev.lcmp iL_629 ?_
  refine gm_ev.if_eq_f iL_630 c26 ?_
  refine gm_ev.iconst (v := 0) iL_633 (by decide) ?_
  exact gm_ev.zret iL_634 rfl (by decide)
theorem w_L_law_23_fs14f {N0 : Nat} {K : Nat → Nat} {M : gm_H} {sz sl : Nat} {b : Nat} {a1 : Nat} {a2 : Nat} {a3 : Nat} {x4 : Int32} {na1 : Nat} {fa1 : Nat → Int32} {k3 : Nat} {r5 : Int32} {M7 : gm_H} {sz8 : Nat} {dd9 : Nat} {fso10 : List Value} {r11 : Int32} {M13 : gm_H} {sz14 : Nat} {dd15 : Nat} {fso16 : List Value} {r17 : Int32} {M19 : gm_H} {sz20 : Nat} {dd21 : Nat} (ha1 : M b = some (.inl (gm_scr, na1, .inl fa1))) (ba1 : na1 < 2 ^ 31) (c2 : ¬ ((nI na1) - (4 : Int32)) < x4) (ek3 : x4 = nI k3) (lk3 : k3 < na1) (c4 : ((fa1 k3) &&& (15 : Int32)) = 14) (t6 : gm_toC (gm_lawC N0 K ra_nm (ra_mt K) 100 10 ra_wt) 1004 [.ref a1, .ref a3] M sz (.returned (some (.int r5)), M7, sz8, dd9)) (ho10 : M7 a2 = some (.inr (11, fso10))) (t12 : gm_toC (gm_lawC N0 K ra_nm (ra_mt K) 100 10 ra_wt) 190 [.ref a2] M7 sz8 (.returned (some (.int r11)), M13, sz14, dd15)) (ho16 : M13 a2 = some (.inr (11, fso16))) (t18 : gm_toC (gm_lawC N0 K ra_nm (ra_mt K) 100 10 ra_wt) 119 [.ref a2] M13 sz14 (.returned (some (.int r17)), M19, sz20, dd21)) (c22 : ¬ r17 = r5) : gm_evC N0 ra_nm (gm_lawC N0 K ra_nm (ra_mt K) 100 10 ra_wt) (some .boolean) (gm_I cL_law) (gm_lkf (lkL false K)) 23 [some (.ref b), some (.ref a1), some (.ref a2), some (.ref a3), some (.int x4), none, none] [] M sz sl (.returned (some (.int (0 : Int32))), M19, sz20, (((sl + dd9) + dd15) + dd21)) := by
  refine gm_ev.iload iL_23 rfl ?_
  refine gm_ev.aload_n iL_25 rfl ?_
  refine gm_ev.alen iL_26 (gm_alen_of ha1) ?_
  refine gm_ev.iconst (v := 4) iL_27 (by decide) ?_
  refine gm_ev.isub iL_28 ?_
  refine gm_ev.icmp_gt_f iL_29 c2 ?_
  refine gm_ev.aload_n iL_32 rfl ?_
  refine gm_ev.iload iL_33 rfl ?_
  refine gm_ev.ialoadS iL_35 (gm_ai_of ha1 ek3 lk3 ba1) ?_
  refine gm_ev.bipush (v := 15) iL_36 (by decide) ?_
  refine gm_ev.iand iL_38 ?_
  refine gm_ev.tableIn (tgt := 594) (off := 555) iL_39 (by rw [c4]; decide) (by rw [c4]; decide) (by decide) ?_
  refine gm_ev.aload_n iL_594 rfl ?_
  refine gm_ev.aload_n iL_595 rfl ?_
  refine gm_ev.callS gm_mono_law (av := [.ref a1, .ref a3]) (r := []) iL_596 rfl rfl rfl (Nat.le_of_ble_eq_true rfl) t6 ?_
  refine gm_ev.istore (ls' := [some (.ref b), some (.ref a1), some (.ref a2), some (.ref a3), some (.int x4), some (.int r5), none]) iL_599 (Nat.le_of_ble_eq_true rfl) rfl ?_
  refine gm_ev.aload_n iL_601 rfl ?_
  refine gm_ev.callV gm_mono_law (av := []) (r := []) (fs := fso10) ho10 iL_602 rfl rfl rfl (Nat.le_of_ble_eq_true rfl) t12 ?_
  refine gm_ev.istore (ls' := [some (.ref b), some (.ref a1), some (.ref a2), some (.ref a3), some (.int x4), some (.int r5), some (.int r11)]) iL_605 (Nat.le_of_ble_eq_true rfl) rfl ?_
  refine gm_ev.aload_n iL_607 rfl ?_
  refine gm_ev.callV gm_mono_law (av := []) (r := []) (fs := fso16) ho16 iL_608 rfl rfl rfl (Nat.le_of_ble_eq_true rfl) t18 ?_
  refine gm_ev.iload iL_611 rfl ?_
  refine gm_ev.icmp_eq_f iL_613 c22 ?_
  refine gm_ev.iconst (v := 0) iL_616 (by decide) ?_
  exact gm_ev.zret iL_617 rfl (by decide)
theorem w_L_law_23_fsNone_at23 {N0 : Nat} {K : Nat → Nat} {M : gm_H} {sz sl : Nat} {R : gm_R} {b : Nat} {a1 : Nat} {a2 : Nat} {a3 : Nat} {x4 : Int32} {na1 : Nat} {fa1 : Nat → Int32} {k3 : Nat} (ha1 : M b = some (.inl (gm_scr, na1, .inl fa1))) (ba1 : na1 < 2 ^ 31) (c2 : ¬ ((nI na1) - (4 : Int32)) < x4) (ek3 : x4 = nI k3) (lk3 : k3 < na1) (c4 : ((fa1 k3) &&& (15 : Int32)).toInt < 0 ∨ 14 < ((fa1 k3) &&& (15 : Int32)).toInt) (k : gm_evC N0 ra_nm (gm_lawC N0 K ra_nm (ra_mt K) 100 10 ra_wt) (some .boolean) (gm_I cL_law) (gm_lkf (lkL false K)) 23 [some (.ref b), some (.ref a1), some (.ref a2), some (.ref a3), some (.int (x4 + (4 : Int32))), none, none] [] M sz sl R) : gm_evC N0 ra_nm (gm_lawC N0 K ra_nm (ra_mt K) 100 10 ra_wt) (some .boolean) (gm_I cL_law) (gm_lkf (lkL false K)) 23 [some (.ref b), some (.ref a1), some (.ref a2), some (.ref a3), some (.int x4), none, none] [] M sz sl R := by
  refine gm_ev.iload iL_23 rfl ?_
  refine gm_ev.aload_n iL_25 rfl ?_
  refine gm_ev.alen iL_26 (gm_alen_of ha1) ?_
  refine gm_ev.iconst (v := 4) iL_27 (by decide) ?_
  refine gm_ev.isub iL_28 ?_
  refine gm_ev.icmp_gt_f iL_29 c2 ?_
  refine gm_ev.aload_n iL_32 rfl ?_
  refine gm_ev.iload iL_33 rfl ?_
  refine gm_ev.ialoadS iL_35 (gm_ai_of ha1 ek3 lk3 ba1) ?_
  refine gm_ev.bipush (v := 15) iL_36 (by decide) ?_
  refine gm_ev.iand iL_38 ?_
  refine gm_ev.tableOut (tgt := 638) iL_39 c4 (by decide) ?_
  refine gm_ev.iinc (v := x4 + (4 : Int32)) (ls' := [some (.ref b), some (.ref a1), some (.ref a2), some (.ref a3), some (.int (x4 + (4 : Int32))), none, none]) iL_638 rfl (by rfl) rfl ?_
  refine gm_ev.goto (tgt := 23) iL_641 (by decide) ?_
  exact k
