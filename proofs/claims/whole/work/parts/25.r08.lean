/-! paths through RuleArenaModel, by program -/
theorem r_load_182_t_at235 {N0 : Nat} {K : Nat → Nat} {d B : Nat} {s : mS} {G : gm_H} {sz sl : Nat} {R : gm_R} {x2 : Int32} {s3 : mS} {s5 : mS} {s7 : mS} (hN : N0 ≤ B) (c1 : (s.1 34) ≤ x2) (t2 : gm_to N0 K ra_nm (ra_mt K) d 168 [.ref B] (bM B (mH B s) G) sz (.returned none, bM B (mH B s3) G, sz, 0)) (t4 : gm_to N0 K ra_nm (ra_mt K) d 161 [.ref B] (bM B (mH B s3) G) sz (.returned none, bM B (mH B s5) G, sz, 0)) (t6 : gm_to N0 K ra_nm (ra_mt K) d 162 [.ref B, .int (329 : Int32), .long (0 : Int64), .int (0 : Int32)] (bM B (mH B s5) G) sz (.returned none, bM B (mH B s7) G, sz, 0)) (k : gm_ev N0 K ra_nm (ra_mt K) d (some .int) (gm_I cX12_load) (gm_lkf (lkX12 false K)) 235 [some (.ref B), none, some (.int (0 : Int32)), none] [] (bM B (mH B (mI s7 36 (s7.1 38))) G) sz sl R) : gm_ev N0 K ra_nm (ra_mt K) d (some .int) (gm_I cX12_load) (gm_lkf (lkX12 false K)) 182 [some (.ref B), none, some (.int x2), none] [] (bM B (mH B s) G) sz sl R := by
  refine gm_ev.iload_n i167_182 rfl ?_
  refine gm_ev.aload_n i167_183 rfl ?_
  refine gm_ev.getfield (v := .int (s.1 34)) i167_184 rfl (bM_fld (j := 0) (fs := mF B s) rfl rfl) ?_
  refine gm_ev.icmp_ge_t (tgt := 208) i167_187 (by decide) c1 ?_
  refine gm_ev.aload_n i167_208 rfl ?_
  refine gm_ev.callV gm_mono_run (av := []) (r := []) (ci := 11) (fs := mF B s) (bM_get (j := 0) rfl) i167_209 rfl rfl rfl (Nat.le_of_ble_eq_true rfl) t2 ?_
  refine gm_ev.aload_n i167_212 rfl ?_
  refine gm_ev.callV gm_mono_run (av := []) (r := []) (ci := 11) (fs := mF B s3) (bM_get (j := 0) rfl) i167_213 rfl rfl rfl (Nat.le_of_ble_eq_true rfl) t4 ?_
  refine gm_ev.aload_n i167_216 rfl ?_
  refine gm_ev.sipush (v := 329) i167_217 (by decide) ?_
  refine gm_ev.lconst (v := 0) i167_220 (by decide) ?_
  refine gm_ev.iconst (v := 0) i167_221 (by decide) ?_
  refine gm_ev.callV gm_mono_run (av := [.int (329 : Int32), .long (0 : Int64), .int (0 : Int32)]) (r := []) (ci := 11) (fs := mF B s5) (bM_get (j := 0) rfl) i167_222 rfl rfl rfl (Nat.le_of_ble_eq_true rfl) t6 ?_
  refine gm_ev.aload_n i167_225 rfl ?_
  refine gm_ev.aload_n i167_226 rfl ?_
  refine gm_ev.getfield (v := .int (s7.1 38)) i167_227 rfl (bM_fld (j := 0) (fs := mF B s7) rfl rfl) ?_
  refine gm_ev.putfield (M' := (bM B (mH B (mI s7 36 (s7.1 38))) G)) i167_230 rfl (bM_put (j := 0) (fs := mF B s7) rfl (Nat.le_of_ble_eq_true rfl) hN (gm_fit_i _) rfl) ?_
  refine gm_ev.iconst (v := 0) i167_233 (by decide) ?_
  refine gm_ev.istore_n (ls' := [some (.ref B), none, some (.int (0 : Int32)), none]) i167_234 (Nat.le_of_ble_eq_true rfl) rfl ?_
  exact k
theorem r_load_182_f_at182 {N0 : Nat} {K : Nat → Nat} {d B : Nat} {s : mS} {G : gm_H} {sz sl : Nat} {R : gm_R} {x2 : Int32} {k2 : Nat} {k3 : Nat} (hN : N0 ≤ B) (c1 : ¬ (s.1 34) ≤ x2) (ek2 : x2 = nI k2) (lk2 : k2 < 24) (ek3 : x2 = nI k3) (lk3 : k3 < 24) (k : gm_ev N0 K ra_nm (ra_mt K) d (some .int) (gm_I cX12_load) (gm_lkf (lkX12 false K)) 182 [some (.ref B), none, some (.int (x2 + (1 : Int32))), none] [] (bM B (mH B (mL s 31 (vp_updL (s.2.2 31) k3 (s.2.2 33 k2)))) G) sz sl R) : gm_ev N0 K ra_nm (ra_mt K) d (some .int) (gm_I cX12_load) (gm_lkf (lkX12 false K)) 182 [some (.ref B), none, some (.int x2), none] [] (bM B (mH B s) G) sz sl R := by
  refine gm_ev.iload_n i167_182 rfl ?_
  refine gm_ev.aload_n i167_183 rfl ?_
  refine gm_ev.getfield (v := .int (s.1 34)) i167_184 rfl (bM_fld (j := 0) (fs := mF B s) rfl rfl) ?_
  refine gm_ev.icmp_ge_f i167_187 c1 ?_
  refine gm_ev.aload_n i167_190 rfl ?_
  refine gm_ev.getfield (v := .ref (B + 18)) i167_191 rfl (bM_fld (j := 0) (fs := mF B s) rfl rfl) ?_
  refine gm_ev.iload_n i167_194 rfl ?_
  refine gm_ev.aload_n i167_195 rfl ?_
  refine gm_ev.getfield (v := .ref (B + 19)) i167_196 rfl (bM_fld (j := 0) (fs := mF B s) rfl rfl) ?_
  refine gm_ev.iload_n i167_199 rfl ?_
  refine gm_ev.laload i167_200 (bM_al (j := 19) (n := 24) (fl := s.2.2 33) rfl ek2 lk2 (by decide)) ?_
  refine gm_ev.lastore (M' := (bM B (mH B (mL s 31 (vp_updL (s.2.2 31) k3 (s.2.2 33 k2)))) G)) i167_201 (bM_astl (j := 18) (n := 24) (fl := s.2.2 31) rfl ek3 lk3 (by decide) hN rfl) ?_
  refine gm_ev.iinc (v := x2 + (1 : Int32)) (ls' := [some (.ref B), none, some (.int (x2 + (1 : Int32))), none]) i167_202 rfl (by rfl) rfl ?_
  refine gm_ev.goto (tgt := 182) i167_205 (by decide) ?_
  exact k
theorem r_load_235_t {N0 : Nat} {K : Nat → Nat} {d B : Nat} {s : mS} {G : gm_H} {sz sl : Nat} {x2 : Int32} (hN : N0 ≤ B) (c1 : (s.1 36) ≤ x2) : gm_ev N0 K ra_nm (ra_mt K) d (some .int) (gm_I cX12_load) (gm_lkf (lkX12 false K)) 235 [some (.ref B), none, some (.int x2), none] [] (bM B (mH B s) G) sz sl (.returned (some (.int (s.1 11))), (bM B (mH B s) G), sz, sl) := by
  refine gm_ev.iload_n i167_235 rfl ?_
  refine gm_ev.aload_n i167_236 rfl ?_
  refine gm_ev.getfield (v := .int (s.1 36)) i167_237 rfl (bM_fld (j := 0) (fs := mF B s) rfl rfl) ?_
  refine gm_ev.icmp_ge_t (tgt := 261) i167_240 (by decide) c1 ?_
  refine gm_ev.aload_n i167_261 rfl ?_
  refine gm_ev.getfield (v := .int (s.1 11)) i167_262 rfl (bM_fld (j := 0) (fs := mF B s) rfl rfl) ?_
  exact gm_ev.iret i167_265 rfl
theorem r_load_235_f_at235 {N0 : Nat} {K : Nat → Nat} {d B : Nat} {s : mS} {G : gm_H} {sz sl : Nat} {R : gm_R} {x2 : Int32} {k2 : Nat} {k3 : Nat} (hN : N0 ≤ B) (c1 : ¬ (s.1 36) ≤ x2) (ek2 : x2 = nI k2) (lk2 : k2 < 201) (ek3 : x2 = nI k3) (lk3 : k3 < 24) (k : gm_ev N0 K ra_nm (ra_mt K) d (some .int) (gm_I cX12_load) (gm_lkf (lkX12 false K)) 235 [some (.ref B), none, some (.int (x2 + (1 : Int32))), none] [] (bM B (mH B (mL s 35 (vp_updL (s.2.2 35) k3 (s.2.2 37 k2)))) G) sz sl R) : gm_ev N0 K ra_nm (ra_mt K) d (some .int) (gm_I cX12_load) (gm_lkf (lkX12 false K)) 235 [some (.ref B), none, some (.int x2), none] [] (bM B (mH B s) G) sz sl R := by
  refine gm_ev.iload_n i167_235 rfl ?_
  refine gm_ev.aload_n i167_236 rfl ?_
  refine gm_ev.getfield (v := .int (s.1 36)) i167_237 rfl (bM_fld (j := 0) (fs := mF B s) rfl rfl) ?_
  refine gm_ev.icmp_ge_f i167_240 c1 ?_
  refine gm_ev.aload_n i167_243 rfl ?_
  refine gm_ev.getfield (v := .ref (B + 20)) i167_244 rfl (bM_fld (j := 0) (fs := mF B s) rfl rfl) ?_
  refine gm_ev.iload_n i167_247 rfl ?_
  refine gm_ev.aload_n i167_248 rfl ?_
  refine gm_ev.getfield (v := .ref (B + 21)) i167_249 rfl (bM_fld (j := 0) (fs := mF B s) rfl rfl) ?_
  refine gm_ev.iload_n i167_252 rfl ?_
  refine gm_ev.laload i167_253 (bM_al (j := 21) (n := 201) (fl := s.2.2 37) rfl ek2 lk2 (by decide)) ?_
  refine gm_ev.lastore (M' := (bM B (mH B (mL s 35 (vp_updL (s.2.2 35) k3 (s.2.2 37 k2)))) G)) i167_254 (bM_astl (j := 20) (n := 24) (fl := s.2.2 35) rfl ek3 lk3 (by decide) hN rfl) ?_
  refine gm_ev.iinc (v := x2 + (1 : Int32)) (ls' := [some (.ref B), none, some (.int (x2 + (1 : Int32))), none]) i167_255 rfl (by rfl) rfl ?_
  refine gm_ev.goto (tgt := 235) i167_258 (by decide) ?_
  exact k
theorem r_begin_0__at10 {N0 : Nat} {K : Nat → Nat} {d B : Nat} {s : mS} {G : gm_H} {sz sl : Nat} {R : gm_R}  (hN : N0 ≤ B)  (k : gm_ev N0 K ra_nm (ra_mt K) d none (gm_I cX12_begin) (gm_lkf (lkX12 false K)) 10 [some (.ref B), some (.int (0 : Int32))] [] (bM B (mH B (mI s 30 (s.1 32))) G) sz sl R) : gm_ev N0 K ra_nm (ra_mt K) d none (gm_I cX12_begin) (gm_lkf (lkX12 false K)) 0 [some (.ref B), none] [] (bM B (mH B s) G) sz sl R := by
  refine gm_ev.aload_n i168_0 rfl ?_
  refine gm_ev.aload_n i168_1 rfl ?_
  refine gm_ev.getfield (v := .int (s.1 32)) i168_2 rfl (bM_fld (j := 0) (fs := mF B s) rfl rfl) ?_
  refine gm_ev.putfield (M' := (bM B (mH B (mI s 30 (s.1 32))) G)) i168_5 rfl (bM_put (j := 0) (fs := mF B s) rfl (Nat.le_of_ble_eq_true rfl) hN (gm_fit_i _) rfl) ?_
  refine gm_ev.iconst (v := 0) i168_8 (by decide) ?_
  refine gm_ev.istore_n (ls' := [some (.ref B), some (.int (0 : Int32))]) i168_9 (Nat.le_of_ble_eq_true rfl) rfl ?_
  exact k
theorem r_begin_10_t {N0 : Nat} {K : Nat → Nat} {d B : Nat} {s : mS} {G : gm_H} {sz sl : Nat} {x1 : Int32} (hN : N0 ≤ B) (c1 : (s.1 32) ≤ x1) : gm_ev N0 K ra_nm (ra_mt K) d none (gm_I cX12_begin) (gm_lkf (lkX12 false K)) 10 [some (.ref B), some (.int x1)] [] (bM B (mH B s) G) sz sl (.returned none, (bM B (mH B (mI s 24 (0 : Int32))) G), sz, sl) := by
  refine gm_ev.iload_n i168_10 rfl ?_
  refine gm_ev.aload_n i168_11 rfl ?_
  refine gm_ev.getfield (v := .int (s.1 32)) i168_12 rfl (bM_fld (j := 0) (fs := mF B s) rfl rfl) ?_
  refine gm_ev.icmp_ge_t (tgt := 36) i168_15 (by decide) c1 ?_
  refine gm_ev.aload_n i168_36 rfl ?_
  refine gm_ev.iconst (v := 0) i168_37 (by decide) ?_
  refine gm_ev.putfield (M' := (bM B (mH B (mI s 24 (0 : Int32))) G)) i168_38 rfl (bM_put (j := 0) (fs := mF B s) rfl (Nat.le_of_ble_eq_true rfl) hN (gm_fit_z (by decide)) rfl) ?_
  exact gm_ev.vret i168_41 rfl
theorem r_begin_10_f_at10 {N0 : Nat} {K : Nat → Nat} {d B : Nat} {s : mS} {G : gm_H} {sz sl : Nat} {R : gm_R} {x1 : Int32} {k2 : Nat} {k3 : Nat} (hN : N0 ≤ B) (c1 : ¬ (s.1 32) ≤ x1) (ek2 : x1 = nI k2) (lk2 : k2 < 24) (ek3 : x1 = nI k3) (lk3 : k3 < 24) (k : gm_ev N0 K ra_nm (ra_mt K) d none (gm_I cX12_begin) (gm_lkf (lkX12 false K)) 10 [some (.ref B), some (.int (x1 + (1 : Int32)))] [] (bM B (mH B (mL s 29 (vp_updL (s.2.2 29) k3 (s.2.2 31 k2)))) G) sz sl R) : gm_ev N0 K ra_nm (ra_mt K) d none (gm_I cX12_begin) (gm_lkf (lkX12 false K)) 10 [some (.ref B), some (.int x1)] [] (bM B (mH B s) G) sz sl R := by
  refine gm_ev.iload_n i168_10 rfl ?_
  refine gm_ev.aload_n i168_11 rfl ?_
  refine gm_ev.getfield (v := .int (s.1 32)) i168_12 rfl (bM_fld (j := 0) (fs := mF B s) rfl rfl) ?_
  refine gm_ev.icmp_ge_f i168_15 c1 ?_
  refine gm_ev.aload_n i168_18 rfl ?_
  refine gm_ev.getfield (v := .ref (B + 17)) i168_19 rfl (bM_fld (j := 0) (fs := mF B s) rfl rfl) ?_
  refine gm_ev.iload_n i168_22 rfl ?_
  refine gm_ev.aload_n i168_23 rfl ?_
  refine gm_ev.getfield (v := .ref (B + 18)) i168_24 rfl (bM_fld (j := 0) (fs := mF B s) rfl rfl) ?_
  refine gm_ev.iload_n i168_27 rfl ?_
  refine gm_ev.laload i168_28 (bM_al (j := 18) (n := 24) (fl := s.2.2 31) rfl ek2 lk2 (by decide)) ?_
  refine gm_ev.lastore (M' := (bM B (mH B (mL s 29 (vp_updL (s.2.2 29) k3 (s.2.2 31 k2)))) G)) i168_29 (bM_astl (j := 17) (n := 24) (fl := s.2.2 29) rfl ek3 lk3 (by decide) hN rfl) ?_
  refine gm_ev.iinc (v := x1 + (1 : Int32)) (ls' := [some (.ref B), some (.int (x1 + (1 : Int32)))]) i168_30 rfl (by rfl) rfl ?_
  refine gm_ev.goto (tgt := 10) i168_33 (by decide) ?_
  exact k
theorem r_fault_0_tt {N0 : Nat} {K : Nat → Nat} {d B : Nat} {s : mS} {G : gm_H} {sz sl : Nat} {p0 : Int32} (hN : N0 ≤ B) (c1 : ¬ p0 = 0) (c2 : ¬ p0 = (1 : Int32)) : gm_ev N0 K ra_nm (ra_mt K) d (some .int) (gm_I cX12_fault) (gm_lkf (lkX12 false K)) 0 [some (.ref B), some (.int p0)] [] (bM B (mH B s) G) sz sl (.returned (some (.int (-1 : Int32))), (bM B (mH B (mI s 0 (0 : Int32))) G), sz, sl) := by
  refine gm_ev.aload_n i169_0 rfl ?_
  refine gm_ev.iconst (v := 0) i169_1 (by decide) ?_
  refine gm_ev.putfield (M' := (bM B (mH B (mI s 0 (0 : Int32))) G)) i169_2 rfl (bM_put (j := 0) (fs := mF B s) rfl (Nat.le_of_ble_eq_true rfl) hN (gm_fit_i _) rfl) ?_
  refine gm_ev.iload_n i169_5 rfl ?_
  refine gm_ev.if_ne_t (tgt := 16) i169_6 (by decide) c1 ?_
  refine gm_ev.iload_n i169_16 rfl ?_
  refine gm_ev.iconst (v := 1) i169_17 (by decide) ?_
  refine gm_ev.icmp_ne_t (tgt := 28) i169_18 (by decide) c2 ?_
  refine gm_ev.iconst (v := -1) i169_28 (by decide) ?_
  exact gm_ev.iret i169_29 rfl
theorem r_fault_0_tf {N0 : Nat} {K : Nat → Nat} {d B : Nat} {s : mS} {G : gm_H} {sz sl : Nat} {p0 : Int32} (hN : N0 ≤ B) (c1 : ¬ p0 = 0) (c2 : p0 = (1 : Int32)) : gm_ev N0 K ra_nm (ra_mt K) d (some .int) (gm_I cX12_fault) (gm_lkf (lkX12 false K)) 0 [some (.ref B), some (.int p0)] [] (bM B (mH B s) G) sz sl (.returned (some (.int (s.1 7))), (bM B (mH B (mI s 0 (0 : Int32))) G), sz, sl) := by
  refine gm_ev.aload_n i169_0 rfl ?_
  refine gm_ev.iconst (v := 0) i169_1 (by decide) ?_
  refine gm_ev.putfield (M' := (bM B (mH B (mI s 0 (0 : Int32))) G)) i169_2 rfl (bM_put (j := 0) (fs := mF B s) rfl (Nat.le_of_ble_eq_true rfl) hN (gm_fit_i _) rfl) ?_
  refine gm_ev.iload_n i169_5 rfl ?_
  refine gm_ev.if_ne_t (tgt := 16) i169_6 (by decide) c1 ?_
  refine gm_ev.iload_n i169_16 rfl ?_
  refine gm_ev.iconst (v := 1) i169_17 (by decide) ?_
  refine gm_ev.icmp_ne_f i169_18 c2 ?_
  refine gm_ev.aload_n i169_21 rfl ?_
  refine gm_ev.getfield (v := .int (s.1 7)) i169_22 rfl (bM_fld (j := 0) (fs := mF B (mI s 0 (0 : Int32))) rfl rfl) ?_
  refine gm_ev.goto (tgt := 29) i169_25 (by decide) ?_
  exact gm_ev.iret i169_29 rfl
theorem r_fault_0_f {N0 : Nat} {K : Nat → Nat} {d B : Nat} {s : mS} {G : gm_H} {sz sl : Nat} {p0 : Int32} (hN : N0 ≤ B) (c1 : p0 = 0) : gm_ev N0 K ra_nm (ra_mt K) d (some .int) (gm_I cX12_fault) (gm_lkf (lkX12 false K)) 0 [some (.ref B), some (.int p0)] [] (bM B (mH B s) G) sz sl (.returned (some (.int (s.1 6))), (bM B (mH B (mI s 0 (0 : Int32))) G), sz, sl) := by
  refine gm_ev.aload_n i169_0 rfl ?_
  refine gm_ev.iconst (v := 0) i169_1 (by decide) ?_
  refine gm_ev.putfield (M' := (bM B (mH B (mI s 0 (0 : Int32))) G)) i169_2 rfl (bM_put (j := 0) (fs := mF B s) rfl (Nat.le_of_ble_eq_true rfl) hN (gm_fit_i _) rfl) ?_
  refine gm_ev.iload_n i169_5 rfl ?_
  refine gm_ev.if_ne_f i169_6 c1 ?_
  refine gm_ev.aload_n i169_9 rfl ?_
  refine gm_ev.getfield (v := .int (s.1 6)) i169_10 rfl (bM_fld (j := 0) (fs := mF B (mI s 0 (0 : Int32))) rfl rfl) ?_
  refine gm_ev.goto (tgt := 29) i169_13 (by decide) ?_
  exact gm_ev.iret i169_29 rfl
theorem r_isPlayer_0_t {N0 : Nat} {K : Nat → Nat} {d B : Nat} {s : mS} {G : gm_H} {sz sl : Nat} {p0 : Int32} (hN : N0 ≤ B) (c1 : (s.1 5) = 0) : gm_ev N0 K ra_nm (ra_mt K) d (some .boolean) (gm_I cX12_isPlayer) (gm_lkf (lkX12 false K)) 0 [some (.ref B), some (.int p0)] [] (bM B (mH B s) G) sz sl (.returned (some (.int (0 : Int32))), (bM B (mH B s) G), sz, sl) := by
  refine gm_ev.aload_n i170_0 rfl ?_
  refine gm_ev.getfield (v := .int (s.1 5)) i170_1 rfl (bM_fld (j := 0) (fs := mF B s) rfl rfl) ?_
  refine gm_ev.if_eq_t (tgt := 28) i170_4 (by decide) c1 ?_
  refine gm_ev.iconst (v := 0) i170_28 (by decide) ?_
  exact gm_ev.zret i170_29 rfl (by decide)
theorem r_isPlayer_0_ft {N0 : Nat} {K : Nat → Nat} {d B : Nat} {s : mS} {G : gm_H} {sz sl : Nat} {p0 : Int32} (hN : N0 ≤ B) (c1 : ¬ (s.1 5) = 0) (c2 : p0 < 0) : gm_ev N0 K ra_nm (ra_mt K) d (some .boolean) (gm_I cX12_isPlayer) (gm_lkf (lkX12 false K)) 0 [some (.ref B), some (.int p0)] [] (bM B (mH B s) G) sz sl (.returned (some (.int (0 : Int32))), (bM B (mH B s) G), sz, sl) := by
  refine gm_ev.aload_n i170_0 rfl ?_
  refine gm_ev.getfield (v := .int (s.1 5)) i170_1 rfl (bM_fld (j := 0) (fs := mF B s) rfl rfl) ?_
  refine gm_ev.if_eq_f i170_4 c1 ?_
  refine gm_ev.iload_n i170_7 rfl ?_
  refine gm_ev.if_lt_t (tgt := 28) i170_8 (by decide) c2 ?_
  refine gm_ev.iconst (v := 0) i170_28 (by decide) ?_
  exact gm_ev.zret i170_29 rfl (by decide)
theorem r_isPlayer_0_fft {N0 : Nat} {K : Nat → Nat} {d B : Nat} {s : mS} {G : gm_H} {sz sl : Nat} {p0 : Int32} (hN : N0 ≤ B) (c1 : ¬ (s.1 5) = 0) (c2 : ¬ p0 < 0) (c3 : (2 : Int32) ≤ p0) : gm_ev N0 K ra_nm (ra_mt K) d (some .boolean) (gm_I cX12_isPlayer) (gm_lkf (lkX12 false K)) 0 [some (.ref B), some (.int p0)] [] (bM B (mH B s) G) sz sl (.returned (some (.int (0 : Int32))), (bM B (mH B s) G), sz, sl) := by
  refine gm_ev.aload_n i170_0 rfl ?_
  refine gm_ev.getfield (v := .int (s.1 5)) i170_1 rfl (bM_fld (j := 0) (fs := mF B s) rfl rfl) ?_
  refine gm_ev.if_eq_f i170_4 c1 ?_
  refine gm_ev.iload_n i170_7 rfl ?_
  refine gm_ev.if_lt_f i170_8 c2 ?_
  refine gm_ev.iload_n i170_11 rfl ?_
  refine gm_ev.iconst (v := 2) i170_12 (by decide) ?_
  refine gm_ev.icmp_ge_t (tgt := 28) i170_13 (by decide) c3 ?_
  refine gm_ev.iconst (v := 0) i170_28 (by decide) ?_
  exact gm_ev.zret i170_29 rfl (by decide)
theorem r_isPlayer_0_ffft {N0 : Nat} {K : Nat → Nat} {d B : Nat} {s : mS} {G : gm_H} {sz sl : Nat} {p0 : Int32} (hN : N0 ≤ B) (c1 : ¬ (s.1 5) = 0) (c2 : ¬ p0 < 0) (c3 : ¬ (2 : Int32) ≤ p0) (c4 : (s.1 36) ≤ p0) : gm_ev N0 K ra_nm (ra_mt K) d (some .boolean) (gm_I cX12_isPlayer) (gm_lkf (lkX12 false K)) 0 [some (.ref B), some (.int p0)] [] (bM B (mH B s) G) sz sl (.returned (some (.int (0 : Int32))), (bM B (mH B s) G), sz, sl) := by
  refine gm_ev.aload_n i170_0 rfl ?_
  refine gm_ev.getfield (v := .int (s.1 5)) i170_1 rfl (bM_fld (j := 0) (fs := mF B s) rfl rfl) ?_
  refine gm_ev.if_eq_f i170_4 c1 ?_
  refine gm_ev.iload_n i170_7 rfl ?_
  refine gm_ev.if_lt_f i170_8 c2 ?_
  refine gm_ev.iload_n i170_11 rfl ?_
  refine gm_ev.iconst (v := 2) i170_12 (by decide) ?_
  refine gm_ev.icmp_ge_f i170_13 c3 ?_
  refine gm_ev.iload_n i170_16 rfl ?_
  refine gm_ev.aload_n i170_17 rfl ?_
  refine gm_ev.getfield (v := .int (s.1 36)) i170_18 rfl (bM_fld (j := 0) (fs := mF B s) rfl rfl) ?_
  refine gm_ev.icmp_ge_t (tgt := 28) i170_21 (by decide) c4 ?_
  refine gm_ev.iconst (v := 0) i170_28 (by decide) ?_
  exact gm_ev.zret i170_29 rfl (by decide)
theorem r_isPlayer_0_ffff {N0 : Nat} {K : Nat → Nat} {d B : Nat} {s : mS} {G : gm_H} {sz sl : Nat} {p0 : Int32} (hN : N0 ≤ B) (c1 : ¬ (s.1 5) = 0) (c2 : ¬ p0 < 0) (c3 : ¬ (2 : Int32) ≤ p0) (c4 : ¬ (s.1 36) ≤ p0) : gm_ev N0 K ra_nm (ra_mt K) d (some .boolean) (gm_I cX12_isPlayer) (gm_lkf (lkX12 false K)) 0 [some (.ref B), some (.int p0)] [] (bM B (mH B s) G) sz sl (.returned (some (.int (1 : Int32))), (bM B (mH B s) G), sz, sl) := by
  refine gm_ev.aload_n i170_0 rfl ?_
  refine gm_ev.getfield (v := .int (s.1 5)) i170_1 rfl (bM_fld (j := 0) (fs := mF B s) rfl rfl) ?_
  refine gm_ev.if_eq_f i170_4 c1 ?_
  refine gm_ev.iload_n i170_7 rfl ?_
  refine gm_ev.if_lt_f i170_8 c2 ?_
  refine gm_ev.iload_n i170_11 rfl ?_
  refine gm_ev.iconst (v := 2) i170_12 (by decide) ?_
  refine gm_ev.icmp_ge_f i170_13 c3 ?_
  refine gm_ev.iload_n i170_16 rfl ?_
  refine gm_ev.aload_n i170_17 rfl ?_
  refine gm_ev.getfield (v := .int (s.1 36)) i170_18 rfl (bM_fld (j := 0) (fs := mF B s) rfl rfl) ?_
  refine gm_ev.icmp_ge_f i170_21 c4 ?_
  refine gm_ev.iconst (v := 1) i170_24 (by decide) ?_
  refine gm_ev.goto (tgt := 29) i170_25 (by decide) ?_
  exact gm_ev.zret i170_29 rfl (by decide)
theorem r_legal_0_ {N0 : Nat} {K : Nat → Nat} {d B : Nat} {s : mS} {G : gm_H} {sz sl : Nat} {p0 : Int32} {k1 : Nat} {s3 : mS} (hN : N0 ≤ B) (ek1 : p0 = nI k1) (lk1 : k1 < 24) (t2 : gm_to N0 K ra_nm (ra_mt K) d 162 [.ref B, .int (306 : Int32), .long (s.2.2 35 k1), .int (1 : Int32)] (bM B (mH B s) G) sz (.returned none, bM B (mH B s3) G, sz, 0)) : gm_ev N0 K ra_nm (ra_mt K) d none (gm_I cX12_legal) (gm_lkf (lkX12 false K)) 0 [some (.ref B), some (.int p0)] [] (bM B (mH B s) G) sz sl (.returned none, (bM B (mH B s3) G), sz, sl) := by
  refine gm_ev.aload_n i171_0 rfl ?_
  refine gm_ev.sipush (v := 306) i171_1 (by decide) ?_
  refine gm_ev.aload_n i171_4 rfl ?_
  refine gm_ev.getfield (v := .ref (B + 20)) i171_5 rfl (bM_fld (j := 0) (fs := mF B s) rfl rfl) ?_
  refine gm_ev.iload_n i171_8 rfl ?_
  refine gm_ev.laload i171_9 (bM_al (j := 20) (n := 24) (fl := s.2.2 35) rfl ek1 lk1 (by decide)) ?_
  refine gm_ev.iconst (v := 1) i171_10 (by decide) ?_
  refine gm_ev.callV gm_mono_run (av := [.int (306 : Int32), .long (s.2.2 35 k1), .int (1 : Int32)]) (r := []) (ci := 11) (fs := mF B s) (bM_get (j := 0) rfl) i171_11 rfl rfl rfl (Nat.le_of_ble_eq_true rfl) t2 ?_
  exact gm_ev.vret i171_14 rfl
theorem r_isEnd_0_ {N0 : Nat} {K : Nat → Nat} {d B : Nat} {s : mS} {G : gm_H} {sz sl : Nat} {r1 : Int32} (hN : N0 ≤ B) (t2 : gm_to N0 K ra_nm (ra_mt K) d 144 [.ref B, .int (276 : Int32), .long (0 : Int64), .long (0 : Int64), .long (0 : Int64)] (bM B (mH B s) G) sz (.returned (some (.int r1)), bM B (mH B s) G, sz, 0)) (z3 : r1 = 0 ∨ r1 = 1) : gm_ev N0 K ra_nm (ra_mt K) d (some .boolean) (gm_I cX12_isEnd) (gm_lkf (lkX12 false K)) 0 [some (.ref B)] [] (bM B (mH B s) G) sz sl (.returned (some (.int r1)), (bM B (mH B s) G), sz, sl) := by
  refine gm_ev.aload_n i172_0 rfl ?_
  refine gm_ev.sipush (v := 276) i172_1 (by decide) ?_
  refine gm_ev.lconst (v := 0) i172_4 (by decide) ?_
  refine gm_ev.lconst (v := 0) i172_5 (by decide) ?_
  refine gm_ev.lconst (v := 0) i172_6 (by decide) ?_
  refine gm_ev.callV gm_mono_run (av := [.int (276 : Int32), .long (0 : Int64), .long (0 : Int64), .long (0 : Int64)]) (r := []) (ci := 11) (fs := mF B s) (bM_get (j := 0) rfl) i172_7 rfl rfl rfl (Nat.le_of_ble_eq_true rfl) t2 ?_
  exact gm_ev.zret i172_10 rfl z3
theorem r_goalOf_0_t {N0 : Nat} {K : Nat → Nat} {d B : Nat} {s : mS} {G : gm_H} {sz sl : Nat} {p0 : Int32} {k1 : Nat} {s3 : mS} (hN : N0 ≤ B) (ek1 : p0 = nI k1) (lk1 : k1 < 24) (t2 : gm_to N0 K ra_nm (ra_mt K) d 162 [.ref B, .int (286 : Int32), .long (s.2.2 35 k1), .int (1 : Int32)] (bM B (mH B s) G) sz (.returned none, bM B (mH B s3) G, sz, 0)) (c4 : ¬ (s3.1 38) = (1 : Int32)) : gm_ev N0 K ra_nm (ra_mt K) d (some .int) (gm_I cX12_goalOf) (gm_lkf (lkX12 false K)) 0 [some (.ref B), some (.int p0), none] [] (bM B (mH B s) G) sz sl (.returned (some (.int (-1 : Int32))), (bM B (mH B s3) G), sz, sl) := by
  refine gm_ev.aload_n i173_0 rfl ?_
  refine gm_ev.sipush (v := 286) i173_1 (by decide) ?_
  refine gm_ev.aload_n i173_4 rfl ?_
  refine gm_ev.getfield (v := .ref (B + 20)) i173_5 rfl (bM_fld (j := 0) (fs := mF B s) rfl rfl) ?_
  refine gm_ev.iload_n i173_8 rfl ?_
  refine gm_ev.laload i173_9 (bM_al (j := 20) (n := 24) (fl := s.2.2 35) rfl ek1 lk1 (by decide)) ?_
  refine gm_ev.iconst (v := 1) i173_10 (by decide) ?_
  refine gm_ev.callV gm_mono_run (av := [.int (286 : Int32), .long (s.2.2 35 k1), .int (1 : Int32)]) (r := []) (ci := 11) (fs := mF B s) (bM_get (j := 0) rfl) i173_11 rfl rfl rfl (Nat.le_of_ble_eq_true rfl) t2 ?_
  refine gm_ev.aload_n i173_14 rfl ?_
  refine gm_ev.getfield (v := .int (s3.1 38)) i173_15 rfl (bM_fld (j := 0) (fs := mF B s3) rfl rfl) ?_
  refine gm_ev.iconst (v := 1) i173_18 (by decide) ?_
  refine gm_ev.icmp_ne_t (tgt := 34) i173_19 (by decide) c4 ?_
  refine gm_ev.iconst (v := -1) i173_34 (by decide) ?_
  exact gm_ev.iret i173_35 rfl
theorem r_goalOf_0_ftt {N0 : Nat} {K : Nat → Nat} {d B : Nat} {s : mS} {G : gm_H} {sz sl : Nat} {p0 : Int32} {k1 : Nat} {s3 : mS} {k5 : Nat} {r6 : Int32} {k9 : Nat} {r10 : Int32} (hN : N0 ≤ B) (ek1 : p0 = nI k1) (lk1 : k1 < 24) (t2 : gm_to N0 K ra_nm (ra_mt K) d 162 [.ref B, .int (286 : Int32), .long (s.2.2 35 k1), .int (1 : Int32)] (bM B (mH B s) G) sz (.returned none, bM B (mH B s3) G, sz, 0)) (c4 : (s3.1 38) = (1 : Int32)) (ek5 : (0 : Int32) = nI k5) (lk5 : k5 < 201) (t7 : gm_to N0 K ra_nm (ra_mt K) d 146 [.long (s3.2.2 37 k5)] (bM B (mH B s3) G) sz (.returned (some (.int r6)), bM B (mH B s3) G, sz, 0)) (c8 : ¬ r6 = 0) (ek9 : (0 : Int32) = nI k9) (lk9 : k9 < 201) (t11 : gm_to N0 K ra_nm (ra_mt K) d 147 [.long (s3.2.2 37 k9), .int (0 : Int32)] (bM B (mH B s3) G) sz (.returned (some (.int r10)), bM B (mH B s3) G, sz, 0)) (c12 : (r10 - (48 : Int32)) < 0) : gm_ev N0 K ra_nm (ra_mt K) d (some .int) (gm_I cX12_goalOf) (gm_lkf (lkX12 false K)) 0 [some (.ref B), some (.int p0), none] [] (bM B (mH B s) G) sz sl (.returned (some (.int (-1 : Int32))), (bM B (mH B s3) G), sz, sl) := by
  refine gm_ev.aload_n i173_0 rfl ?_
  refine gm_ev.sipush (v := 286) i173_1 (by decide) ?_
  refine gm_ev.aload_n i173_4 rfl ?_
  refine gm_ev.getfield (v := .ref (B + 20)) i173_5 rfl (bM_fld (j := 0) (fs := mF B s) rfl rfl) ?_
  refine gm_ev.iload_n i173_8 rfl ?_
  refine gm_ev.laload i173_9 (bM_al (j := 20) (n := 24) (fl := s.2.2 35) rfl ek1 lk1 (by decide)) ?_
  refine gm_ev.iconst (v := 1) i173_10 (by decide) ?_
  refine gm_ev.callV gm_mono_run (av := [.int (286 : Int32), .long (s.2.2 35 k1), .int (1 : Int32)]) (r := []) (ci := 11) (fs := mF B s) (bM_get (j := 0) rfl) i173_11 rfl rfl rfl (Nat.le_of_ble_eq_true rfl) t2 ?_
  refine gm_ev.aload_n i173_14 rfl ?_
  refine gm_ev.getfield (v := .int (s3.1 38)) i173_15 rfl (bM_fld (j := 0) (fs := mF B s3) rfl rfl) ?_
  refine gm_ev.iconst (v := 1) i173_18 (by decide) ?_
  refine gm_ev.icmp_ne_f i173_19 c4 ?_
  refine gm_ev.aload_n i173_22 rfl ?_
  refine gm_ev.getfield (v := .ref (B + 21)) i173_23 rfl (bM_fld (j := 0) (fs := mF B s3) rfl rfl) ?_
  refine gm_ev.iconst (v := 0) i173_26 (by decide) ?_
  refine gm_ev.laload i173_27 (bM_al (j := 21) (n := 201) (fl := s3.2.2 37) rfl ek5 lk5 (by decide)) ?_
  refine gm_ev.callS gm_mono_run (av := [.long (s3.2.2 37 k5)]) (r := []) i173_28 rfl rfl rfl (Nat.le_of_ble_eq_true rfl) t7 ?_
  refine gm_ev.if_ne_t (tgt := 36) i173_31 (by decide) c8 ?_
  refine gm_ev.aload_n i173_36 rfl ?_
  refine gm_ev.getfield (v := .ref (B + 21)) i173_37 rfl (bM_fld (j := 0) (fs := mF B s3) rfl rfl) ?_
  refine gm_ev.iconst (v := 0) i173_40 (by decide) ?_
  refine gm_ev.laload i173_41 (bM_al (j := 21) (n := 201) (fl := s3.2.2 37) rfl ek9 lk9 (by decide)) ?_
  refine gm_ev.iconst (v := 0) i173_42 (by decide) ?_
  refine gm_ev.callS gm_mono_run (av := [.long (s3.2.2 37 k9), .int (0 : Int32)]) (r := []) i173_43 rfl rfl rfl (Nat.le_of_ble_eq_true rfl) t11 ?_
  refine gm_ev.bipush (v := 48) i173_46 (by decide) ?_
  refine gm_ev.isub i173_48 ?_
  refine gm_ev.istore_n (ls' := [some (.ref B), some (.int p0), some (.int (r10 - (48 : Int32)))]) i173_49 (Nat.le_of_ble_eq_true rfl) rfl ?_
  refine gm_ev.iload_n i173_50 rfl ?_
  refine gm_ev.if_lt_t (tgt := 64) i173_51 (by decide) c12 ?_
  refine gm_ev.iconst (v := -1) i173_64 (by decide) ?_
  exact gm_ev.iret i173_65 rfl
theorem r_goalOf_0_ftft {N0 : Nat} {K : Nat → Nat} {d B : Nat} {s : mS} {G : gm_H} {sz sl : Nat} {p0 : Int32} {k1 : Nat} {s3 : mS} {k5 : Nat} {r6 : Int32} {k9 : Nat} {r10 : Int32} (hN : N0 ≤ B) (ek1 : p0 = nI k1) (lk1 : k1 < 24) (t2 : gm_to N0 K ra_nm (ra_mt K) d 162 [.ref B, .int (286 : Int32), .long (s.2.2 35 k1), .int (1 : Int32)] (bM B (mH B s) G) sz (.returned none, bM B (mH B s3) G, sz, 0)) (c4 : (s3.1 38) = (1 : Int32)) (ek5 : (0 : Int32) = nI k5) (lk5 : k5 < 201) (t7 : gm_to N0 K ra_nm (ra_mt K) d 146 [.long (s3.2.2 37 k5)] (bM B (mH B s3) G) sz (.returned (some (.int r6)), bM B (mH B s3) G, sz, 0)) (c8 : ¬ r6 = 0) (ek9 : (0 : Int32) = nI k9) (lk9 : k9 < 201) (t11 : gm_to N0 K ra_nm (ra_mt K) d 147 [.long (s3.2.2 37 k9), .int (0 : Int32)] (bM B (mH B s3) G) sz (.returned (some (.int r10)), bM B (mH B s3) G, sz, 0)) (c12 : ¬ (r10 - (48 : Int32)) < 0) (c13 : (9 : Int32) ≤ (r10 - (48 : Int32))) : gm_ev N0 K ra_nm (ra_mt K) d (some .int) (gm_I cX12_goalOf) (gm_lkf (lkX12 false K)) 0 [some (.ref B), some (.int p0), none] [] (bM B (mH B s) G) sz sl (.returned (some (.int (-1 : Int32))), (bM B (mH B s3) G), sz, sl) := by
  refine gm_ev.aload_n i173_0 rfl ?_
  refine gm_ev.sipush (v := 286) i173_1 (by decide) ?_
  refine gm_ev.aload_n i173_4 rfl ?_
  refine gm_ev.getfield (v := .ref (B + 20)) i173_5 rfl (bM_fld (j := 0) (fs := mF B s) rfl rfl) ?_
  refine gm_ev.iload_n i173_8 rfl ?_
  refine gm_ev.laload i173_9 (bM_al (j := 20) (n := 24) (fl := s.2.2 35) rfl ek1 lk1 (by decide)) ?_
  refine gm_ev.iconst (v := 1) i173_10 (by decide) ?_
  refine gm_ev.callV gm_mono_run (av := [.int (286 : Int32), .long (s.2.2 35 k1), .int (1 : Int32)]) (r := []) (ci := 11) (fs := mF B s) (bM_get (j := 0) rfl) i173_11 rfl rfl rfl (Nat.le_of_ble_eq_true rfl) t2 ?_
  refine gm_ev.aload_n i173_14 rfl ?_
  refine gm_ev.getfield (v := .int (s3.1 38)) i173_15 rfl (bM_fld (j := 0) (fs := mF B s3) rfl rfl) ?_
  refine gm_ev.iconst (v := 1) i173_18 (by decide) ?_
  refine gm_ev.icmp_ne_f i173_19 c4 ?_
  refine gm_ev.aload_n i173_22 rfl ?_
  refine gm_ev.getfield (v := .ref (B + 21)) i173_23 rfl (bM_fld (j := 0) (fs := mF B s3) rfl rfl) ?_
  refine gm_ev.iconst (v := 0) i173_26 (by decide) ?_
  refine gm_ev.laload i173_27 (bM_al (j := 21) (n := 201) (fl := s3.2.2 37) rfl ek5 lk5 (by decide)) ?_
  refine gm_ev.callS gm_mono_run (av := [.long (s3.2.2 37 k5)]) (r := []) i173_28 rfl rfl rfl (Nat.le_of_ble_eq_true rfl) t7 ?_
  refine gm_ev.if_ne_t (tgt := 36) i173_31 (by decide) c8 ?_
  refine gm_ev.aload_n i173_36 rfl ?_
  refine gm_ev.getfield (v := .ref (B + 21)) i173_37 rfl (bM_fld (j := 0) (fs := mF B s3) rfl rfl) ?_
  refine gm_ev.iconst (v := 0) i173_40 (by decide) ?_
  refine gm_ev.laload i173_41 (bM_al (j := 21) (n := 201) (fl := s3.2.2 37) rfl ek9 lk9 (by decide)) ?_
  refine gm_ev.iconst (v := 0) i173_42 (by decide) ?_
  refine gm_ev.callS gm_mono_run (av := [.long (s3.2.2 37 k9), .int (0 : Int32)]) (r := []) i173_43 rfl rfl rfl (Nat.le_of_ble_eq_true rfl) t11 ?_
  refine gm_ev.bipush (v := 48) i173_46 (by decide) ?_
  refine gm_ev.isub i173_48 ?_
  refine gm_ev.istore_n (ls' := [some (.ref B), some (.int p0), some (.int (r10 - (48 : Int32)))]) i173_49 (Nat.le_of_ble_eq_true rfl) rfl ?_
  refine gm_ev.iload_n i173_50 rfl ?_
  refine gm_ev.if_lt_f i173_51 c12 ?_
  refine gm_ev.iload_n i173_54 rfl ?_
  refine gm_ev.bipush (v := 9) i173_55 (by decide) ?_
  refine gm_ev.icmp_ge_t (tgt := 64) i173_57 (by decide) c13 ?_
  refine gm_ev.iconst (v := -1) i173_64 (by decide) ?_
  exact gm_ev.iret i173_65 rfl
theorem r_goalOf_0_ftff {N0 : Nat} {K : Nat → Nat} {d B : Nat} {s : mS} {G : gm_H} {sz sl : Nat} {p0 : Int32} {k1 : Nat} {s3 : mS} {k5 : Nat} {r6 : Int32} {k9 : Nat} {r10 : Int32} (hN : N0 ≤ B) (ek1 : p0 = nI k1) (lk1 : k1 < 24) (t2 : gm_to N0 K ra_nm (ra_mt K) d 162 [.ref B, .int (286 : Int32), .long (s.2.2 35 k1), .int (1 : Int32)] (bM B (mH B s) G) sz (.returned none, bM B (mH B s3) G, sz, 0)) (c4 : (s3.1 38) = (1 : Int32)) (ek5 : (0 : Int32) = nI k5) (lk5 : k5 < 201) (t7 : gm_to N0 K ra_nm (ra_mt K) d 146 [.long (s3.2.2 37 k5)] (bM B (mH B s3) G) sz (.returned (some (.int r6)), bM B (mH B s3) G, sz, 0)) (c8 : ¬ r6 = 0) (ek9 : (0 : Int32) = nI k9) (lk9 : k9 < 201) (t11 : gm_to N0 K ra_nm (ra_mt K) d 147 [.long (s3.2.2 37 k9), .int (0 : Int32)] (bM B (mH B s3) G) sz (.returned (some (.int r10)), bM B (mH B s3) G, sz, 0)) (c12 : ¬ (r10 - (48 : Int32)) < 0) (c13 : ¬ (9 : Int32) ≤ (r10 - (48 : Int32))) : gm_ev N0 K ra_nm (ra_mt K) d (some .int) (gm_I cX12_goalOf) (gm_lkf (lkX12 false K)) 0 [some (.ref B), some (.int p0), none] [] (bM B (mH B s) G) sz sl (.returned (some (.int (r10 - (48 : Int32)))), (bM B (mH B s3) G), sz, sl) := by
  refine gm_ev.aload_n i173_0 rfl ?_
  refine gm_ev.sipush (v := 286) i173_1 (by decide) ?_
  refine gm_ev.aload_n i173_4 rfl ?_
  refine gm_ev.getfield (v := .ref (B + 20)) i173_5 rfl (bM_fld (j := 0) (fs := mF B s) rfl rfl) ?_
  refine gm_ev.iload_n i173_8 rfl ?_
  refine gm_ev.laload i173_9 (bM_al (j := 20) (n := 24) (fl := s.2.2 35) rfl ek1 lk1 (by decide)) ?_
  refine gm_ev.iconst (v := 1) i173_10 (by decide) ?_
  refine gm_ev.callV gm_mono_run (av := [.int (286 : Int32), .long (s.2.2 35 k1), .int (1 : Int32)]) (r := []) (ci := 11) (fs := mF B s) (bM_get (j := 0) rfl) i173_11 rfl rfl rfl (Nat.le_of_ble_eq_true rfl) t2 ?_
  refine gm_ev.aload_n i173_14 rfl ?_
  refine gm_ev.getfield (v := .int (s3.1 38)) i173_15 rfl (bM_fld (j := 0) (fs := mF B s3) rfl rfl) ?_
  refine gm_ev.iconst (v := 1) i173_18 (by decide) ?_
  refine gm_ev.icmp_ne_f i173_19 c4 ?_
  refine gm_ev.aload_n i173_22 rfl ?_
  refine gm_ev.getfield (v := .ref (B + 21)) i173_23 rfl (bM_fld (j := 0) (fs := mF B s3) rfl rfl) ?_
  refine gm_ev.iconst (v := 0) i173_26 (by decide) ?_
  refine gm_ev.laload i173_27 (bM_al (j := 21) (n := 201) (fl := s3.2.2 37) rfl ek5 lk5 (by decide)) ?_
  refine gm_ev.callS gm_mono_run (av := [.long (s3.2.2 37 k5)]) (r := []) i173_28 rfl rfl rfl (Nat.le_of_ble_eq_true rfl) t7 ?_
  refine gm_ev.if_ne_t (tgt := 36) i173_31 (by decide) c8 ?_
  refine gm_ev.aload_n i173_36 rfl ?_
  refine gm_ev.getfield (v := .ref (B + 21)) i173_37 rfl (bM_fld (j := 0) (fs := mF B s3) rfl rfl) ?_
  refine gm_ev.iconst (v := 0) i173_40 (by decide) ?_
  refine gm_ev.laload i173_41 (bM_al (j := 21) (n := 201) (fl := s3.2.2 37) rfl ek9 lk9 (by decide)) ?_
  refine gm_ev.iconst (v := 0) i173_42 (by decide) ?_
  refine gm_ev.callS gm_mono_run (av := [.long (s3.2.2 37 k9), .int (0 : Int32)]) (r := []) i173_43 rfl rfl rfl (Nat.le_of_ble_eq_true rfl) t11 ?_
  refine gm_ev.bipush (v := 48) i173_46 (by decide) ?_
  refine gm_ev.isub i173_48 ?_
  refine gm_ev.istore_n (ls' := [some (.ref B), some (.int p0), some (.int (r10 - (48 : Int32)))]) i173_49 (Nat.le_of_ble_eq_true rfl) rfl ?_
  refine gm_ev.iload_n i173_50 rfl ?_
  refine gm_ev.if_lt_f i173_51 c12 ?_
  refine gm_ev.iload_n i173_54 rfl ?_
  refine gm_ev.bipush (v := 9) i173_55 (by decide) ?_
  refine gm_ev.icmp_ge_f i173_57 c13 ?_
  refine gm_ev.iload_n i173_60 rfl ?_
  refine gm_ev.goto (tgt := 65) i173_61 (by decide) ?_
  exact gm_ev.iret i173_65 rfl
theorem r_goalOf_0_ff {N0 : Nat} {K : Nat → Nat} {d B : Nat} {s : mS} {G : gm_H} {sz sl : Nat} {p0 : Int32} {k1 : Nat} {s3 : mS} {k5 : Nat} {r6 : Int32} (hN : N0 ≤ B) (ek1 : p0 = nI k1) (lk1 : k1 < 24) (t2 : gm_to N0 K ra_nm (ra_mt K) d 162 [.ref B, .int (286 : Int32), .long (s.2.2 35 k1), .int (1 : Int32)] (bM B (mH B s) G) sz (.returned none, bM B (mH B s3) G, sz, 0)) (c4 : (s3.1 38) = (1 : Int32)) (ek5 : (0 : Int32) = nI k5) (lk5 : k5 < 201) (t7 : gm_to N0 K ra_nm (ra_mt K) d 146 [.long (s3.2.2 37 k5)] (bM B (mH B s3) G) sz (.returned (some (.int r6)), bM B (mH B s3) G, sz, 0)) (c8 : r6 = 0) : gm_ev N0 K ra_nm (ra_mt K) d (some .int) (gm_I cX12_goalOf) (gm_lkf (lkX12 false K)) 0 [some (.ref B), some (.int p0), none] [] (bM B (mH B s) G) sz sl (.returned (some (.int (-1 : Int32))), (bM B (mH B s3) G), sz, sl) := by
  refine gm_ev.aload_n i173_0 rfl ?_
  refine gm_ev.sipush (v := 286) i173_1 (by decide) ?_
  refine gm_ev.aload_n i173_4 rfl ?_
  refine gm_ev.getfield (v := .ref (B + 20)) i173_5 rfl (bM_fld (j := 0) (fs := mF B s) rfl rfl) ?_
  refine gm_ev.iload_n i173_8 rfl ?_
  refine gm_ev.laload i173_9 (bM_al (j := 20) (n := 24) (fl := s.2.2 35) rfl ek1 lk1 (by decide)) ?_
  refine gm_ev.iconst (v := 1) i173_10 (by decide) ?_
  refine gm_ev.callV gm_mono_run (av := [.int (286 : Int32), .long (s.2.2 35 k1), .int (1 : Int32)]) (r := []) (ci := 11) (fs := mF B s) (bM_get (j := 0) rfl) i173_11 rfl rfl rfl (Nat.le_of_ble_eq_true rfl) t2 ?_
  refine gm_ev.aload_n i173_14 rfl ?_
  refine gm_ev.getfield (v := .int (s3.1 38)) i173_15 rfl (bM_fld (j := 0) (fs := mF B s3) rfl rfl) ?_
  refine gm_ev.iconst (v := 1) i173_18 (by decide) ?_
  refine gm_ev.icmp_ne_f i173_19 c4 ?_
  refine gm_ev.aload_n i173_22 rfl ?_
  refine gm_ev.getfield (v := .ref (B + 21)) i173_23 rfl (bM_fld (j := 0) (fs := mF B s3) rfl rfl) ?_
  refine gm_ev.iconst (v := 0) i173_26 (by decide) ?_
  refine gm_ev.laload i173_27 (bM_al (j := 21) (n := 201) (fl := s3.2.2 37) rfl ek5 lk5 (by decide)) ?_
  refine gm_ev.callS gm_mono_run (av := [.long (s3.2.2 37 k5)]) (r := []) i173_28 rfl rfl rfl (Nat.le_of_ble_eq_true rfl) t7 ?_
  refine gm_ev.if_ne_f i173_31 c8 ?_
  refine gm_ev.iconst (v := -1) i173_34 (by decide) ?_
  exact gm_ev.iret i173_35 rfl
theorem r_many_0_t {N0 : Nat} {K : Nat → Nat} {d B : Nat} {s : mS} {G : gm_H} {sz sl : Nat} {p0 : Int32} (hN : N0 ≤ B) (c1 : p0 < 0) : gm_ev N0 K ra_nm (ra_mt K) d (some .int) (gm_I cX12_many) (gm_lkf (lkX12 false K)) 0 [some (.ref B), some (.int p0)] [] (bM B (mH B s) G) sz sl (.returned (some (.int (-1 : Int32))), (bM B (mH B (mI s 0 (0 : Int32))) G), sz, sl) := by
  refine gm_ev.aload_n i174_0 rfl ?_
  refine gm_ev.iconst (v := 0) i174_1 (by decide) ?_
  refine gm_ev.putfield (M' := (bM B (mH B (mI s 0 (0 : Int32))) G)) i174_2 rfl (bM_put (j := 0) (fs := mF B s) rfl (Nat.le_of_ble_eq_true rfl) hN (gm_fit_i _) rfl) ?_
  refine gm_ev.iload_n i174_5 rfl ?_
  refine gm_ev.if_lt_t (tgt := 14) i174_6 (by decide) c1 ?_
  refine gm_ev.iconst (v := -1) i174_14 (by decide) ?_
  exact gm_ev.iret i174_15 rfl
theorem r_many_0_ftttt {N0 : Nat} {K : Nat → Nat} {d B : Nat} {s : mS} {G : gm_H} {sz sl : Nat} {p0 : Int32} (hN : N0 ≤ B) (c1 : ¬ p0 < 0) (c2 : p0 ≤ (2 : Int32)) (c3 : ¬ (s.1 5) = 0) (c4 : ¬ p0 = 0) (c5 : ¬ p0 = (1 : Int32)) : gm_ev N0 K ra_nm (ra_mt K) d (some .int) (gm_I cX12_many) (gm_lkf (lkX12 false K)) 0 [some (.ref B), some (.int p0)] [] (bM B (mH B s) G) sz sl (.returned (some (.int (s.1 43))), (bM B (mH B (mI s 0 (0 : Int32))) G), sz, sl) := by
  refine gm_ev.aload_n i174_0 rfl ?_
  refine gm_ev.iconst (v := 0) i174_1 (by decide) ?_
  refine gm_ev.putfield (M' := (bM B (mH B (mI s 0 (0 : Int32))) G)) i174_2 rfl (bM_put (j := 0) (fs := mF B s) rfl (Nat.le_of_ble_eq_true rfl) hN (gm_fit_i _) rfl) ?_
  refine gm_ev.iload_n i174_5 rfl ?_
  refine gm_ev.if_lt_f i174_6 c1 ?_
  refine gm_ev.iload_n i174_9 rfl ?_
  refine gm_ev.iconst (v := 2) i174_10 (by decide) ?_
  refine gm_ev.icmp_le_t (tgt := 16) i174_11 (by decide) c2 ?_
  refine gm_ev.aload_n i174_16 rfl ?_
  refine gm_ev.getfield (v := .int (s.1 5)) i174_17 rfl (bM_fld (j := 0) (fs := mF B (mI s 0 (0 : Int32))) rfl rfl) ?_
  refine gm_ev.if_ne_t (tgt := 27) i174_20 (by decide) c3 ?_
  refine gm_ev.iload_n i174_27 rfl ?_
  refine gm_ev.if_ne_t (tgt := 38) i174_28 (by decide) c4 ?_
  refine gm_ev.iload_n i174_38 rfl ?_
  refine gm_ev.iconst (v := 1) i174_39 (by decide) ?_
  refine gm_ev.icmp_ne_t (tgt := 50) i174_40 (by decide) c5 ?_
  refine gm_ev.aload_n i174_50 rfl ?_
  refine gm_ev.getfield (v := .int (s.1 43)) i174_51 rfl (bM_fld (j := 0) (fs := mF B (mI s 0 (0 : Int32))) rfl rfl) ?_
  exact gm_ev.iret i174_54 rfl
theorem r_many_0_ftttf {N0 : Nat} {K : Nat → Nat} {d B : Nat} {s : mS} {G : gm_H} {sz sl : Nat} {p0 : Int32} (hN : N0 ≤ B) (c1 : ¬ p0 < 0) (c2 : p0 ≤ (2 : Int32)) (c3 : ¬ (s.1 5) = 0) (c4 : ¬ p0 = 0) (c5 : p0 = (1 : Int32)) : gm_ev N0 K ra_nm (ra_mt K) d (some .int) (gm_I cX12_many) (gm_lkf (lkX12 false K)) 0 [some (.ref B), some (.int p0)] [] (bM B (mH B s) G) sz sl (.returned (some (.int (s.1 30))), (bM B (mH B (mI s 0 (0 : Int32))) G), sz, sl) := by
  refine gm_ev.aload_n i174_0 rfl ?_
  refine gm_ev.iconst (v := 0) i174_1 (by decide) ?_
  refine gm_ev.putfield (M' := (bM B (mH B (mI s 0 (0 : Int32))) G)) i174_2 rfl (bM_put (j := 0) (fs := mF B s) rfl (Nat.le_of_ble_eq_true rfl) hN (gm_fit_i _) rfl) ?_
  refine gm_ev.iload_n i174_5 rfl ?_
  refine gm_ev.if_lt_f i174_6 c1 ?_
  refine gm_ev.iload_n i174_9 rfl ?_
  refine gm_ev.iconst (v := 2) i174_10 (by decide) ?_
  refine gm_ev.icmp_le_t (tgt := 16) i174_11 (by decide) c2 ?_
  refine gm_ev.aload_n i174_16 rfl ?_
  refine gm_ev.getfield (v := .int (s.1 5)) i174_17 rfl (bM_fld (j := 0) (fs := mF B (mI s 0 (0 : Int32))) rfl rfl) ?_
  refine gm_ev.if_ne_t (tgt := 27) i174_20 (by decide) c3 ?_
  refine gm_ev.iload_n i174_27 rfl ?_
  refine gm_ev.if_ne_t (tgt := 38) i174_28 (by decide) c4 ?_
  refine gm_ev.iload_n i174_38 rfl ?_
  refine gm_ev.iconst (v := 1) i174_39 (by decide) ?_
  refine gm_ev.icmp_ne_f i174_40 c5 ?_
  refine gm_ev.aload_n i174_43 rfl ?_
  refine gm_ev.getfield (v := .int (s.1 30)) i174_44 rfl (bM_fld (j := 0) (fs := mF B (mI s 0 (0 : Int32))) rfl rfl) ?_
  refine gm_ev.goto (tgt := 54) i174_47 (by decide) ?_
  exact gm_ev.iret i174_54 rfl
theorem r_many_0_fttf {N0 : Nat} {K : Nat → Nat} {d B : Nat} {s : mS} {G : gm_H} {sz sl : Nat} {p0 : Int32} (hN : N0 ≤ B) (c1 : ¬ p0 < 0) (c2 : p0 ≤ (2 : Int32)) (c3 : ¬ (s.1 5) = 0) (c4 : p0 = 0) : gm_ev N0 K ra_nm (ra_mt K) d (some .int) (gm_I cX12_many) (gm_lkf (lkX12 false K)) 0 [some (.ref B), some (.int p0)] [] (bM B (mH B s) G) sz sl (.returned (some (.int (s.1 36))), (bM B (mH B (mI s 0 (0 : Int32))) G), sz, sl) := by
  refine gm_ev.aload_n i174_0 rfl ?_
  refine gm_ev.iconst (v := 0) i174_1 (by decide) ?_
  refine gm_ev.putfield (M' := (bM B (mH B (mI s 0 (0 : Int32))) G)) i174_2 rfl (bM_put (j := 0) (fs := mF B s) rfl (Nat.le_of_ble_eq_true rfl) hN (gm_fit_i _) rfl) ?_
  refine gm_ev.iload_n i174_5 rfl ?_
  refine gm_ev.if_lt_f i174_6 c1 ?_
  refine gm_ev.iload_n i174_9 rfl ?_
  refine gm_ev.iconst (v := 2) i174_10 (by decide) ?_
  refine gm_ev.icmp_le_t (tgt := 16) i174_11 (by decide) c2 ?_
  refine gm_ev.aload_n i174_16 rfl ?_
  refine gm_ev.getfield (v := .int (s.1 5)) i174_17 rfl (bM_fld (j := 0) (fs := mF B (mI s 0 (0 : Int32))) rfl rfl) ?_
  refine gm_ev.if_ne_t (tgt := 27) i174_20 (by decide) c3 ?_
  refine gm_ev.iload_n i174_27 rfl ?_
  refine gm_ev.if_ne_f i174_28 c4 ?_
  refine gm_ev.aload_n i174_31 rfl ?_
  refine gm_ev.getfield (v := .int (s.1 36)) i174_32 rfl (bM_fld (j := 0) (fs := mF B (mI s 0 (0 : Int32))) rfl rfl) ?_
  refine gm_ev.goto (tgt := 54) i174_35 (by decide) ?_
  exact gm_ev.iret i174_54 rfl
theorem r_many_0_ftf {N0 : Nat} {K : Nat → Nat} {d B : Nat} {s : mS} {G : gm_H} {sz sl : Nat} {p0 : Int32} (hN : N0 ≤ B) (c1 : ¬ p0 < 0) (c2 : p0 ≤ (2 : Int32)) (c3 : (s.1 5) = 0) : gm_ev N0 K ra_nm (ra_mt K) d (some .int) (gm_I cX12_many) (gm_lkf (lkX12 false K)) 0 [some (.ref B), some (.int p0)] [] (bM B (mH B s) G) sz sl (.returned (some (.int (0 : Int32))), (bM B (mH B (mI s 0 (0 : Int32))) G), sz, sl) := by
  refine gm_ev.aload_n i174_0 rfl ?_
  refine gm_ev.iconst (v := 0) i174_1 (by decide) ?_
  refine gm_ev.putfield (M' := (bM B (mH B (mI s 0 (0 : Int32))) G)) i174_2 rfl (bM_put (j := 0) (fs := mF B s) rfl (Nat.le_of_ble_eq_true rfl) hN (gm_fit_i _) rfl) ?_
  refine gm_ev.iload_n i174_5 rfl ?_
  refine gm_ev.if_lt_f i174_6 c1 ?_
  refine gm_ev.iload_n i174_9 rfl ?_
  refine gm_ev.iconst (v := 2) i174_10 (by decide) ?_
  refine gm_ev.icmp_le_t (tgt := 16) i174_11 (by decide) c2 ?_
  refine gm_ev.aload_n i174_16 rfl ?_
  refine gm_ev.getfield (v := .int (s.1 5)) i174_17 rfl (bM_fld (j := 0) (fs := mF B (mI s 0 (0 : Int32))) rfl rfl) ?_
  refine gm_ev.if_ne_f i174_20 c3 ?_
  refine gm_ev.iconst (v := 0) i174_23 (by decide) ?_
  refine gm_ev.goto (tgt := 54) i174_24 (by decide) ?_
  exact gm_ev.iret i174_54 rfl
theorem r_many_0_ff {N0 : Nat} {K : Nat → Nat} {d B : Nat} {s : mS} {G : gm_H} {sz sl : Nat} {p0 : Int32} (hN : N0 ≤ B) (c1 : ¬ p0 < 0) (c2 : ¬ p0 ≤ (2 : Int32)) : gm_ev N0 K ra_nm (ra_mt K) d (some .int) (gm_I cX12_many) (gm_lkf (lkX12 false K)) 0 [some (.ref B), some (.int p0)] [] (bM B (mH B s) G) sz sl (.returned (some (.int (-1 : Int32))), (bM B (mH B (mI s 0 (0 : Int32))) G), sz, sl) := by
  refine gm_ev.aload_n i174_0 rfl ?_
  refine gm_ev.iconst (v := 0) i174_1 (by decide) ?_
  refine gm_ev.putfield (M' := (bM B (mH B (mI s 0 (0 : Int32))) G)) i174_2 rfl (bM_put (j := 0) (fs := mF B s) rfl (Nat.le_of_ble_eq_true rfl) hN (gm_fit_i _) rfl) ?_
  refine gm_ev.iload_n i174_5 rfl ?_
  refine gm_ev.if_lt_f i174_6 c1 ?_
  refine gm_ev.iload_n i174_9 rfl ?_
  refine gm_ev.iconst (v := 2) i174_10 (by decide) ?_
  refine gm_ev.icmp_le_f i174_11 c2 ?_
  refine gm_ev.iconst (v := -1) i174_14 (by decide) ?_
  exact gm_ev.iret i174_15 rfl
theorem r_facts_0_t {N0 : Nat} {K : Nat → Nat} {d B : Nat} {s : mS} {G : gm_H} {sz sl : Nat} {p0 : Int32} {p1 : Int32} {r1 : Int32} (hN : N0 ≤ B) (t2 : gm_to N0 K ra_nm (ra_mt K) d 127 [.int p0] (bM B (mH B (mI s 0 (0 : Int32))) G) sz (.returned (some (.int r1)), bM B (mH B (mI s 0 (0 : Int32))) G, sz, 0)) (c3 : (s.1 5) = 0) : gm_ev N0 K ra_nm (ra_mt K) d (some .int) (gm_I cX12_facts) (gm_lkf (lkX12 false K)) 0 [some (.ref B), some (.int p0), some (.int p1), none, none, none] [] (bM B (mH B s) G) sz sl (.returned (some (.int (0 : Int32))), (bM B (mH B (mI s 0 (0 : Int32))) G), sz, sl) := by
  refine gm_ev.aload_n i175_0 rfl ?_
  refine gm_ev.iconst (v := 0) i175_1 (by decide) ?_
  refine gm_ev.putfield (M' := (bM B (mH B (mI s 0 (0 : Int32))) G)) i175_2 rfl (bM_put (j := 0) (fs := mF B s) rfl (Nat.le_of_ble_eq_true rfl) hN (gm_fit_i _) rfl) ?_
  refine gm_ev.iload_n i175_5 rfl ?_
  refine gm_ev.callS gm_mono_run (av := [.int p0]) (r := []) i175_6 rfl rfl rfl (Nat.le_of_ble_eq_true rfl) t2 ?_
  refine gm_ev.istore_n (ls' := [some (.ref B), some (.int p0), some (.int p1), some (.int r1), none, none]) i175_9 (Nat.le_of_ble_eq_true rfl) rfl ?_
  refine gm_ev.aload_n i175_10 rfl ?_
  refine gm_ev.getfield (v := .int (s.1 5)) i175_11 rfl (bM_fld (j := 0) (fs := mF B (mI s 0 (0 : Int32))) rfl rfl) ?_
  refine gm_ev.if_eq_t (tgt := 38) i175_14 (by decide) c3 ?_
  refine gm_ev.iconst (v := 0) i175_38 (by decide) ?_
  exact gm_ev.iret i175_39 rfl
theorem r_facts_0_ft {N0 : Nat} {K : Nat → Nat} {d B : Nat} {s : mS} {G : gm_H} {sz sl : Nat} {p0 : Int32} {p1 : Int32} {r1 : Int32} (hN : N0 ≤ B) (t2 : gm_to N0 K ra_nm (ra_mt K) d 127 [.int p0] (bM B (mH B (mI s 0 (0 : Int32))) G) sz (.returned (some (.int r1)), bM B (mH B (mI s 0 (0 : Int32))) G, sz, 0)) (c3 : ¬ (s.1 5) = 0) (c4 : p1 < 0) : gm_ev N0 K ra_nm (ra_mt K) d (some .int) (gm_I cX12_facts) (gm_lkf (lkX12 false K)) 0 [some (.ref B), some (.int p0), some (.int p1), none, none, none] [] (bM B (mH B s) G) sz sl (.returned (some (.int (0 : Int32))), (bM B (mH B (mI s 0 (0 : Int32))) G), sz, sl) := by
  refine gm_ev.aload_n i175_0 rfl ?_
  refine gm_ev.iconst (v := 0) i175_1 (by decide) ?_
  refine gm_ev.putfield (M' := (bM B (mH B (mI s 0 (0 : Int32))) G)) i175_2 rfl (bM_put (j := 0) (fs := mF B s) rfl (Nat.le_of_ble_eq_true rfl) hN (gm_fit_i _) rfl) ?_
  refine gm_ev.iload_n i175_5 rfl ?_
  refine gm_ev.callS gm_mono_run (av := [.int p0]) (r := []) i175_6 rfl rfl rfl (Nat.le_of_ble_eq_true rfl) t2 ?_
  refine gm_ev.istore_n (ls' := [some (.ref B), some (.int p0), some (.int p1), some (.int r1), none, none]) i175_9 (Nat.le_of_ble_eq_true rfl) rfl ?_
  refine gm_ev.aload_n i175_10 rfl ?_
  refine gm_ev.getfield (v := .int (s.1 5)) i175_11 rfl (bM_fld (j := 0) (fs := mF B (mI s 0 (0 : Int32))) rfl rfl) ?_
  refine gm_ev.if_eq_f i175_14 c3 ?_
  refine gm_ev.iload_n i175_17 rfl ?_
  refine gm_ev.if_lt_t (tgt := 38) i175_18 (by decide) c4 ?_
  refine gm_ev.iconst (v := 0) i175_38 (by decide) ?_
  exact gm_ev.iret i175_39 rfl
theorem r_facts_0_fft {N0 : Nat} {K : Nat → Nat} {d B : Nat} {s : mS} {G : gm_H} {sz sl : Nat} {p0 : Int32} {p1 : Int32} {r1 : Int32} (hN : N0 ≤ B) (t2 : gm_to N0 K ra_nm (ra_mt K) d 127 [.int p0] (bM B (mH B (mI s 0 (0 : Int32))) G) sz (.returned (some (.int r1)), bM B (mH B (mI s 0 (0 : Int32))) G, sz, 0)) (c3 : ¬ (s.1 5) = 0) (c4 : ¬ p1 < 0) (c5 : (3 : Int32) < p1) : gm_ev N0 K ra_nm (ra_mt K) d (some .int) (gm_I cX12_facts) (gm_lkf (lkX12 false K)) 0 [some (.ref B), some (.int p0), some (.int p1), none, none, none] [] (bM B (mH B s) G) sz sl (.returned (some (.int (0 : Int32))), (bM B (mH B (mI s 0 (0 : Int32))) G), sz, sl) := by
  refine gm_ev.aload_n i175_0 rfl ?_
  refine gm_ev.iconst (v := 0) i175_1 (by decide) ?_
  refine gm_ev.putfield (M' := (bM B (mH B (mI s 0 (0 : Int32))) G)) i175_2 rfl (bM_put (j := 0) (fs := mF B s) rfl (Nat.le_of_ble_eq_true rfl) hN (gm_fit_i _) rfl) ?_
  refine gm_ev.iload_n i175_5 rfl ?_
  refine gm_ev.callS gm_mono_run (av := [.int p0]) (r := []) i175_6 rfl rfl rfl (Nat.le_of_ble_eq_true rfl) t2 ?_
  refine gm_ev.istore_n (ls' := [some (.ref B), some (.int p0), some (.int p1), some (.int r1), none, none]) i175_9 (Nat.le_of_ble_eq_true rfl) rfl ?_
  refine gm_ev.aload_n i175_10 rfl ?_
  refine gm_ev.getfield (v := .int (s.1 5)) i175_11 rfl (bM_fld (j := 0) (fs := mF B (mI s 0 (0 : Int32))) rfl rfl) ?_
  refine gm_ev.if_eq_f i175_14 c3 ?_
  refine gm_ev.iload_n i175_17 rfl ?_
  refine gm_ev.if_lt_f i175_18 c4 ?_
  refine gm_ev.iload_n i175_21 rfl ?_
  refine gm_ev.iconst (v := 3) i175_22 (by decide) ?_
  refine gm_ev.icmp_gt_t (tgt := 38) i175_23 (by decide) c5 ?_
  refine gm_ev.iconst (v := 0) i175_38 (by decide) ?_
  exact gm_ev.iret i175_39 rfl
theorem r_facts_0_ffft_at50 {N0 : Nat} {K : Nat → Nat} {d B : Nat} {s : mS} {G : gm_H} {sz sl : Nat} {R : gm_R} {p0 : Int32} {p1 : Int32} {r1 : Int32} {r6 : Int32} {s10 : mS} (hN : N0 ≤ B) (t2 : gm_to N0 K ra_nm (ra_mt K) d 127 [.int p0] (bM B (mH B (mI s 0 (0 : Int32))) G) sz (.returned (some (.int r1)), bM B (mH B (mI s 0 (0 : Int32))) G, sz, 0)) (c3 : ¬ (s.1 5) = 0) (c4 : ¬ p1 < 0) (c5 : ¬ (3 : Int32) < p1) (t7 : gm_to N0 K ra_nm (ra_mt K) d 124 [.int p0] (bM B (mH B (mI s 0 (0 : Int32))) G) sz (.returned (some (.int r6)), bM B (mH B (mI s 0 (0 : Int32))) G, sz, 0)) (c8 : ¬ r6 = 0) (t9 : gm_to N0 K ra_nm (ra_mt K) d 161 [.ref B] (bM B (mH B (mI s 0 (0 : Int32))) G) sz (.returned none, bM B (mH B s10) G, sz, 0)) (k : gm_ev N0 K ra_nm (ra_mt K) d (some .int) (gm_I cX12_facts) (gm_lkf (lkX12 false K)) 50 [some (.ref B), some (.int p0), some (.int p1), none, some (.int (0 : Int32)), some (.int (0 : Int32))] [] (bM B (mH B s10) G) sz sl R) : gm_ev N0 K ra_nm (ra_mt K) d (some .int) (gm_I cX12_facts) (gm_lkf (lkX12 false K)) 0 [some (.ref B), some (.int p0), some (.int p1), none, none, none] [] (bM B (mH B s) G) sz sl R := by
  refine gm_ev.aload_n i175_0 rfl ?_
  refine gm_ev.iconst (v := 0) i175_1 (by decide) ?_
  refine gm_ev.putfield (M' := (bM B (mH B (mI s 0 (0 : Int32))) G)) i175_2 rfl (bM_put (j := 0) (fs := mF B s) rfl (Nat.le_of_ble_eq_true rfl) hN (gm_fit_i _) rfl) ?_
  refine gm_ev.iload_n i175_5 rfl ?_
  refine gm_ev.callS gm_mono_run (av := [.int p0]) (r := []) i175_6 rfl rfl rfl (Nat.le_of_ble_eq_true rfl) t2 ?_
  refine gm_ev.istore_n (ls' := [some (.ref B), some (.int p0), some (.int p1), some (.int r1), none, none]) i175_9 (Nat.le_of_ble_eq_true rfl) rfl ?_
  refine gm_ev.aload_n i175_10 rfl ?_
  refine gm_ev.getfield (v := .int (s.1 5)) i175_11 rfl (bM_fld (j := 0) (fs := mF B (mI s 0 (0 : Int32))) rfl rfl) ?_
  refine gm_ev.if_eq_f i175_14 c3 ?_
  refine gm_ev.iload_n i175_17 rfl ?_
  refine gm_ev.if_lt_f i175_18 c4 ?_
  refine gm_ev.iload_n i175_21 rfl ?_
  refine gm_ev.iconst (v := 3) i175_22 (by decide) ?_
  refine gm_ev.icmp_gt_f i175_23 c5 ?_
  refine gm_ev.iload_n i175_26 rfl ?_
  refine gm_ev.callS gm_mono_run (av := [.int p0]) (r := []) i175_27 rfl rfl rfl (Nat.le_of_ble_eq_true rfl) t7 ?_
  refine gm_ev.if_ne_t (tgt := 40) i175_30 (by decide) c8 ?_
  refine gm_ev.aload_n i175_40 rfl ?_
  refine gm_ev.callV gm_mono_run (av := []) (r := []) (ci := 11) (fs := mF B (mI s 0 (0 : Int32))) (bM_get (j := 0) rfl) i175_41 rfl rfl rfl (Nat.le_of_ble_eq_true rfl) t9 ?_
  refine gm_ev.iconst (v := 0) i175_44 (by decide) ?_
  refine gm_ev.istore (ls' := [some (.ref B), some (.int p0), some (.int p1), some (.int r1), some (.int (0 : Int32)), none]) i175_45 (Nat.le_of_ble_eq_true rfl) rfl ?_
  refine gm_ev.iconst (v := 0) i175_47 (by decide) ?_
  refine gm_ev.istore (ls' := [some (.ref B), some (.int p0), some (.int p1), some (.int r1), some (.int (0 : Int32)), some (.int (0 : Int32))]) i175_48 (Nat.le_of_ble_eq_true rfl) rfl ?_
  refine gm_ev.le (a := [some (.ref B), some (.int p0), some (.int p1), none, some (.int (0 : Int32)), some (.int (0 : Int32))]) (gm_leL.le (show gm_leL _ _ from ⟨rfl, ⟨rfl, ⟨rfl, ⟨rfl, ⟨rfl, trivial⟩⟩⟩⟩⟩)) ?_
  exact k
theorem r_facts_0_fffft_at50 {N0 : Nat} {K : Nat → Nat} {d B : Nat} {s : mS} {G : gm_H} {sz sl : Nat} {R : gm_R} {p0 : Int32} {p1 : Int32} {r1 : Int32} {r6 : Int32} {s11 : mS} (hN : N0 ≤ B) (t2 : gm_to N0 K ra_nm (ra_mt K) d 127 [.int p0] (bM B (mH B (mI s 0 (0 : Int32))) G) sz (.returned (some (.int r1)), bM B (mH B (mI s 0 (0 : Int32))) G, sz, 0)) (c3 : ¬ (s.1 5) = 0) (c4 : ¬ p1 < 0) (c5 : ¬ (3 : Int32) < p1) (t7 : gm_to N0 K ra_nm (ra_mt K) d 124 [.int p0] (bM B (mH B (mI s 0 (0 : Int32))) G) sz (.returned (some (.int r6)), bM B (mH B (mI s 0 (0 : Int32))) G, sz, 0)) (c8 : r6 = 0) (c9 : r1 = p1) (t10 : gm_to N0 K ra_nm (ra_mt K) d 161 [.ref B] (bM B (mH B (mI s 0 (0 : Int32))) G) sz (.returned none, bM B (mH B s11) G, sz, 0)) (k : gm_ev N0 K ra_nm (ra_mt K) d (some .int) (gm_I cX12_facts) (gm_lkf (lkX12 false K)) 50 [some (.ref B), some (.int p0), some (.int p1), none, some (.int (0 : Int32)), some (.int (0 : Int32))] [] (bM B (mH B s11) G) sz sl R) : gm_ev N0 K ra_nm (ra_mt K) d (some .int) (gm_I cX12_facts) (gm_lkf (lkX12 false K)) 0 [some (.ref B), some (.int p0), some (.int p1), none, none, none] [] (bM B (mH B s) G) sz sl R := by
  refine gm_ev.aload_n i175_0 rfl ?_
  refine gm_ev.iconst (v := 0) i175_1 (by decide) ?_
  refine gm_ev.putfield (M' := (bM B (mH B (mI s 0 (0 : Int32))) G)) i175_2 rfl (bM_put (j := 0) (fs := mF B s) rfl (Nat.le_of_ble_eq_true rfl) hN (gm_fit_i _) rfl) ?_
  refine gm_ev.iload_n i175_5 rfl ?_
  refine gm_ev.callS gm_mono_run (av := [.int p0]) (r := []) i175_6 rfl rfl rfl (Nat.le_of_ble_eq_true rfl) t2 ?_
  refine gm_ev.istore_n (ls' := [some (.ref B), some (.int p0), some (.int p1), some (.int r1), none, none]) i175_9 (Nat.le_of_ble_eq_true rfl) rfl ?_
  refine gm_ev.aload_n i175_10 rfl ?_
  refine gm_ev.getfield (v := .int (s.1 5)) i175_11 rfl (bM_fld (j := 0) (fs := mF B (mI s 0 (0 : Int32))) rfl rfl) ?_
  refine gm_ev.if_eq_f i175_14 c3 ?_
  refine gm_ev.iload_n i175_17 rfl ?_
  refine gm_ev.if_lt_f i175_18 c4 ?_
  refine gm_ev.iload_n i175_21 rfl ?_
  refine gm_ev.iconst (v := 3) i175_22 (by decide) ?_
  refine gm_ev.icmp_gt_f i175_23 c5 ?_
  refine gm_ev.iload_n i175_26 rfl ?_
  refine gm_ev.callS gm_mono_run (av := [.int p0]) (r := []) i175_27 rfl rfl rfl (Nat.le_of_ble_eq_true rfl) t7 ?_
  refine gm_ev.if_ne_f i175_30 c8 ?_
  refine gm_ev.iload_n i175_33 rfl ?_
  refine gm_ev.iload_n i175_34 rfl ?_
  refine gm_ev.icmp_eq_t (tgt := 40) i175_35 (by decide) c9 ?_
  refine gm_ev.aload_n i175_40 rfl ?_
  refine gm_ev.callV gm_mono_run (av := []) (r := []) (ci := 11) (fs := mF B (mI s 0 (0 : Int32))) (bM_get (j := 0) rfl) i175_41 rfl rfl rfl (Nat.le_of_ble_eq_true rfl) t10 ?_
  refine gm_ev.iconst (v := 0) i175_44 (by decide) ?_
  refine gm_ev.istore (ls' := [some (.ref B), some (.int p0), some (.int p1), some (.int r1), some (.int (0 : Int32)), none]) i175_45 (Nat.le_of_ble_eq_true rfl) rfl ?_
  refine gm_ev.iconst (v := 0) i175_47 (by decide) ?_
  refine gm_ev.istore (ls' := [some (.ref B), some (.int p0), some (.int p1), some (.int r1), some (.int (0 : Int32)), some (.int (0 : Int32))]) i175_48 (Nat.le_of_ble_eq_true rfl) rfl ?_
  refine gm_ev.le (a := [some (.ref B), some (.int p0), some (.int p1), none, some (.int (0 : Int32)), some (.int (0 : Int32))]) (gm_leL.le (show gm_leL _ _ from ⟨rfl, ⟨rfl, ⟨rfl, ⟨rfl, ⟨rfl, trivial⟩⟩⟩⟩⟩)) ?_
  exact k
theorem r_facts_0_fffff {N0 : Nat} {K : Nat → Nat} {d B : Nat} {s : mS} {G : gm_H} {sz sl : Nat} {p0 : Int32} {p1 : Int32} {r1 : Int32} {r6 : Int32} (hN : N0 ≤ B) (t2 : gm_to N0 K ra_nm (ra_mt K) d 127 [.int p0] (bM B (mH B (mI s 0 (0 : Int32))) G) sz (.returned (some (.int r1)), bM B (mH B (mI s 0 (0 : Int32))) G, sz, 0)) (c3 : ¬ (s.1 5) = 0) (c4 : ¬ p1 < 0) (c5 : ¬ (3 : Int32) < p1) (t7 : gm_to N0 K ra_nm (ra_mt K) d 124 [.int p0] (bM B (mH B (mI s 0 (0 : Int32))) G) sz (.returned (some (.int r6)), bM B (mH B (mI s 0 (0 : Int32))) G, sz, 0)) (c8 : r6 = 0) (c9 : ¬ r1 = p1) : gm_ev N0 K ra_nm (ra_mt K) d (some .int) (gm_I cX12_facts) (gm_lkf (lkX12 false K)) 0 [some (.ref B), some (.int p0), some (.int p1), none, none, none] [] (bM B (mH B s) G) sz sl (.returned (some (.int (0 : Int32))), (bM B (mH B (mI s 0 (0 : Int32))) G), sz, sl) := by
  refine gm_ev.aload_n i175_0 rfl ?_
  refine gm_ev.iconst (v := 0) i175_1 (by decide) ?_
  refine gm_ev.putfield (M' := (bM B (mH B (mI s 0 (0 : Int32))) G)) i175_2 rfl (bM_put (j := 0) (fs := mF B s) rfl (Nat.le_of_ble_eq_true rfl) hN (gm_fit_i _) rfl) ?_
  refine gm_ev.iload_n i175_5 rfl ?_
  refine gm_ev.callS gm_mono_run (av := [.int p0]) (r := []) i175_6 rfl rfl rfl (Nat.le_of_ble_eq_true rfl) t2 ?_
  refine gm_ev.istore_n (ls' := [some (.ref B), some (.int p0), some (.int p1), some (.int r1), none, none]) i175_9 (Nat.le_of_ble_eq_true rfl) rfl ?_
  refine gm_ev.aload_n i175_10 rfl ?_
  refine gm_ev.getfield (v := .int (s.1 5)) i175_11 rfl (bM_fld (j := 0) (fs := mF B (mI s 0 (0 : Int32))) rfl rfl) ?_
  refine gm_ev.if_eq_f i175_14 c3 ?_
  refine gm_ev.iload_n i175_17 rfl ?_
  refine gm_ev.if_lt_f i175_18 c4 ?_
  refine gm_ev.iload_n i175_21 rfl ?_
  refine gm_ev.iconst (v := 3) i175_22 (by decide) ?_
  refine gm_ev.icmp_gt_f i175_23 c5 ?_
  refine gm_ev.iload_n i175_26 rfl ?_
  refine gm_ev.callS gm_mono_run (av := [.int p0]) (r := []) i175_27 rfl rfl rfl (Nat.le_of_ble_eq_true rfl) t7 ?_
  refine gm_ev.if_ne_f i175_30 c8 ?_
  refine gm_ev.iload_n i175_33 rfl ?_
  refine gm_ev.iload_n i175_34 rfl ?_
  refine gm_ev.icmp_eq_f i175_35 c9 ?_
  refine gm_ev.iconst (v := 0) i175_38 (by decide) ?_
  exact gm_ev.iret i175_39 rfl
theorem r_facts_50_t {N0 : Nat} {K : Nat → Nat} {d B : Nat} {s : mS} {G : gm_H} {sz sl : Nat} {x1 : Int32} {x2 : Int32} {x4 : Int32} {x5 : Int32} (hN : N0 ≤ B) (c1 : (s.1 20) ≤ x5) : gm_ev N0 K ra_nm (ra_mt K) d (some .int) (gm_I cX12_facts) (gm_lkf (lkX12 false K)) 50 [some (.ref B), some (.int x1), some (.int x2), none, some (.int x4), some (.int x5)] [] (bM B (mH B s) G) sz sl (.returned (some (.int x4)), (bM B (mH B s) G), sz, sl) := by
  refine gm_ev.iload i175_50 rfl ?_
  refine gm_ev.aload_n i175_52 rfl ?_
  refine gm_ev.getfield (v := .int (s.1 20)) i175_53 rfl (bM_fld (j := 0) (fs := mF B s) rfl rfl) ?_
  refine gm_ev.icmp_ge_t (tgt := 91) i175_56 (by decide) c1 ?_
  refine gm_ev.iload i175_91 rfl ?_
  exact gm_ev.iret i175_93 rfl
theorem r_facts_50_ft_at50 {N0 : Nat} {K : Nat → Nat} {d B : Nat} {s : mS} {G : gm_H} {sz sl : Nat} {R : gm_R} {x1 : Int32} {x2 : Int32} {x4 : Int32} {x5 : Int32} {k2 : Nat} (hN : N0 ≤ B) (c1 : ¬ (s.1 20) ≤ x5) (ek2 : x5 = nI k2) (lk2 : k2 < 201) (c3 : ¬ (s.2.1 21 k2) = (((4 : Int32) * x1) + x2)) (k : gm_ev N0 K ra_nm (ra_mt K) d (some .int) (gm_I cX12_facts) (gm_lkf (lkX12 false K)) 50 [some (.ref B), some (.int x1), some (.int x2), none, some (.int x4), some (.int (x5 + (1 : Int32)))] [] (bM B (mH B s) G) sz sl R) : gm_ev N0 K ra_nm (ra_mt K) d (some .int) (gm_I cX12_facts) (gm_lkf (lkX12 false K)) 50 [some (.ref B), some (.int x1), some (.int x2), none, some (.int x4), some (.int x5)] [] (bM B (mH B s) G) sz sl R := by
  refine gm_ev.iload i175_50 rfl ?_
  refine gm_ev.aload_n i175_52 rfl ?_
  refine gm_ev.getfield (v := .int (s.1 20)) i175_53 rfl (bM_fld (j := 0) (fs := mF B s) rfl rfl) ?_
  refine gm_ev.icmp_ge_f i175_56 c1 ?_
  refine gm_ev.aload_n i175_59 rfl ?_
  refine gm_ev.getfield (v := .ref (B + 12)) i175_60 rfl (bM_fld (j := 0) (fs := mF B s) rfl rfl) ?_
  refine gm_ev.iload i175_63 rfl ?_
  refine gm_ev.iaload i175_65 (bM_ai (j := 12) (n := 201) (f := s.2.1 21) rfl ek2 lk2 (by decide)) ?_
  refine gm_ev.iconst (v := 4) i175_66 (by decide) ?_
  refine gm_ev.iload_n i175_67 rfl ?_
  refine gm_ev.imul i175_68 ?_
  refine gm_ev.iload_n i175_69 rfl ?_
  refine gm_ev.iadd i175_70 ?_
  refine gm_ev.icmp_ne_t (tgt := 81) i175_71 (by decide) c3 ?_
  refine gm_ev.iload i175_81 rfl ?_
  refine gm_ev.istore (ls' := [some (.ref B), some (.int x1), some (.int x2), none, some (.int x4), some (.int x5)]) i175_83 (Nat.le_of_ble_eq_true rfl) rfl ?_
  refine gm_ev.iinc (v := x5 + (1 : Int32)) (ls' := [some (.ref B), some (.int x1), some (.int x2), none, some (.int x4), some (.int (x5 + (1 : Int32)))]) i175_85 rfl (by rfl) rfl ?_
  refine gm_ev.goto (tgt := 50) i175_88 (by decide) ?_
  exact k
theorem r_facts_50_ff_at50 {N0 : Nat} {K : Nat → Nat} {d B : Nat} {s : mS} {G : gm_H} {sz sl : Nat} {R : gm_R} {x1 : Int32} {x2 : Int32} {x4 : Int32} {x5 : Int32} {k2 : Nat} (hN : N0 ≤ B) (c1 : ¬ (s.1 20) ≤ x5) (ek2 : x5 = nI k2) (lk2 : k2 < 201) (c3 : (s.2.1 21 k2) = (((4 : Int32) * x1) + x2)) (k : gm_ev N0 K ra_nm (ra_mt K) d (some .int) (gm_I cX12_facts) (gm_lkf (lkX12 false K)) 50 [some (.ref B), some (.int x1), some (.int x2), none, some (.int (x4 + (1 : Int32))), some (.int (x5 + (1 : Int32)))] [] (bM B (mH B s) G) sz sl R) : gm_ev N0 K ra_nm (ra_mt K) d (some .int) (gm_I cX12_facts) (gm_lkf (lkX12 false K)) 50 [some (.ref B), some (.int x1), some (.int x2), none, some (.int x4), some (.int x5)] [] (bM B (mH B s) G) sz sl R := by
  refine gm_ev.iload i175_50 rfl ?_
  refine gm_ev.aload_n i175_52 rfl ?_
  refine gm_ev.getfield (v := .int (s.1 20)) i175_53 rfl (bM_fld (j := 0) (fs := mF B s) rfl rfl) ?_
  refine gm_ev.icmp_ge_f i175_56 c1 ?_
  refine gm_ev.aload_n i175_59 rfl ?_
  refine gm_ev.getfield (v := .ref (B + 12)) i175_60 rfl (bM_fld (j := 0) (fs := mF B s) rfl rfl) ?_
  refine gm_ev.iload i175_63 rfl ?_
  refine gm_ev.iaload i175_65 (bM_ai (j := 12) (n := 201) (f := s.2.1 21) rfl ek2 lk2 (by decide)) ?_
  refine gm_ev.iconst (v := 4) i175_66 (by decide) ?_
  refine gm_ev.iload_n i175_67 rfl ?_
  refine gm_ev.imul i175_68 ?_
  refine gm_ev.iload_n i175_69 rfl ?_
  refine gm_ev.iadd i175_70 ?_
  refine gm_ev.icmp_ne_f i175_71 c3 ?_
  refine gm_ev.iload i175_74 rfl ?_
  refine gm_ev.iconst (v := 1) i175_76 (by decide) ?_
  refine gm_ev.iadd i175_77 ?_
  refine gm_ev.goto (tgt := 83) i175_78 (by decide) ?_
  refine gm_ev.istore (ls' := [some (.ref B), some (.int x1), some (.int x2), none, some (.int (x4 + (1 : Int32))), some (.int x5)]) i175_83 (Nat.le_of_ble_eq_true rfl) rfl ?_
  refine gm_ev.iinc (v := x5 + (1 : Int32)) (ls' := [some (.ref B), some (.int x1), some (.int x2), none, some (.int (x4 + (1 : Int32))), some (.int (x5 + (1 : Int32)))]) i175_85 rfl (by rfl) rfl ?_
  refine gm_ev.goto (tgt := 50) i175_88 (by decide) ?_
  exact k
theorem r_moves_0_t {N0 : Nat} {K : Nat → Nat} {d B : Nat} {s : mS} {G : gm_H} {sz sl : Nat} {p0 : Int32} {r1 : Int32} {s5 : mS} {s7 : mS} (hN : N0 ≤ B) (t2 : gm_to N0 K ra_nm (ra_mt K) d 170 [.ref B, .int p0] (bM B (mH B (mI s 0 (0 : Int32))) G) sz (.returned (some (.int r1)), bM B (mH B (mI s 0 (0 : Int32))) G, sz, 0)) (c3 : ¬ r1 = 0) (t4 : gm_to N0 K ra_nm (ra_mt K) d 161 [.ref B] (bM B (mH B (mI s 0 (0 : Int32))) G) sz (.returned none, bM B (mH B s5) G, sz, 0)) (t6 : gm_to N0 K ra_nm (ra_mt K) d 171 [.ref B, .int p0] (bM B (mH B s5) G) sz (.returned none, bM B (mH B s7) G, sz, 0)) : gm_ev N0 K ra_nm (ra_mt K) d (some .int) (gm_I cX12_moves) (gm_lkf (lkX12 false K)) 0 [some (.ref B), some (.int p0)] [] (bM B (mH B s) G) sz sl (.returned (some (.int (s7.1 38))), (bM B (mH B s7) G), sz, sl) := by
  refine gm_ev.aload_n i176_0 rfl ?_
  refine gm_ev.iconst (v := 0) i176_1 (by decide) ?_
  refine gm_ev.putfield (M' := (bM B (mH B (mI s 0 (0 : Int32))) G)) i176_2 rfl (bM_put (j := 0) (fs := mF B s) rfl (Nat.le_of_ble_eq_true rfl) hN (gm_fit_i _) rfl) ?_
  refine gm_ev.aload_n i176_5 rfl ?_
  refine gm_ev.iload_n i176_6 rfl ?_
  refine gm_ev.callV gm_mono_run (av := [.int p0]) (r := []) (ci := 11) (fs := mF B (mI s 0 (0 : Int32))) (bM_get (j := 0) rfl) i176_7 rfl rfl rfl (Nat.le_of_ble_eq_true rfl) t2 ?_
  refine gm_ev.if_ne_t (tgt := 15) i176_10 (by decide) c3 ?_
  refine gm_ev.aload_n i176_15 rfl ?_
  refine gm_ev.callV gm_mono_run (av := []) (r := []) (ci := 11) (fs := mF B (mI s 0 (0 : Int32))) (bM_get (j := 0) rfl) i176_16 rfl rfl rfl (Nat.le_of_ble_eq_true rfl) t4 ?_
  refine gm_ev.aload_n i176_19 rfl ?_
  refine gm_ev.iload_n i176_20 rfl ?_
  refine gm_ev.callV gm_mono_run (av := [.int p0]) (r := []) (ci := 11) (fs := mF B s5) (bM_get (j := 0) rfl) i176_21 rfl rfl rfl (Nat.le_of_ble_eq_true rfl) t6 ?_
  refine gm_ev.aload_n i176_24 rfl ?_
  refine gm_ev.getfield (v := .int (s7.1 38)) i176_25 rfl (bM_fld (j := 0) (fs := mF B s7) rfl rfl) ?_
  exact gm_ev.iret i176_28 rfl
theorem r_moves_0_f {N0 : Nat} {K : Nat → Nat} {d B : Nat} {s : mS} {G : gm_H} {sz sl : Nat} {p0 : Int32} {r1 : Int32} (hN : N0 ≤ B) (t2 : gm_to N0 K ra_nm (ra_mt K) d 170 [.ref B, .int p0] (bM B (mH B (mI s 0 (0 : Int32))) G) sz (.returned (some (.int r1)), bM B (mH B (mI s 0 (0 : Int32))) G, sz, 0)) (c3 : r1 = 0) : gm_ev N0 K ra_nm (ra_mt K) d (some .int) (gm_I cX12_moves) (gm_lkf (lkX12 false K)) 0 [some (.ref B), some (.int p0)] [] (bM B (mH B s) G) sz sl (.returned (some (.int (-1 : Int32))), (bM B (mH B (mI s 0 (0 : Int32))) G), sz, sl) := by
  refine gm_ev.aload_n i176_0 rfl ?_
  refine gm_ev.iconst (v := 0) i176_1 (by decide) ?_
  refine gm_ev.putfield (M' := (bM B (mH B (mI s 0 (0 : Int32))) G)) i176_2 rfl (bM_put (j := 0) (fs := mF B s) rfl (Nat.le_of_ble_eq_true rfl) hN (gm_fit_i _) rfl) ?_
  refine gm_ev.aload_n i176_5 rfl ?_
  refine gm_ev.iload_n i176_6 rfl ?_
  refine gm_ev.callV gm_mono_run (av := [.int p0]) (r := []) (ci := 11) (fs := mF B (mI s 0 (0 : Int32))) (bM_get (j := 0) rfl) i176_7 rfl rfl rfl (Nat.le_of_ble_eq_true rfl) t2 ?_
  refine gm_ev.if_ne_f i176_10 c3 ?_
  refine gm_ev.iconst (v := -1) i176_13 (by decide) ?_
  exact gm_ev.iret i176_14 rfl
theorem r_over_0_tt {N0 : Nat} {K : Nat → Nat} {d B : Nat} {s : mS} {G : gm_H} {sz sl : Nat} {s3 : mS} {r4 : Int32} (hN : N0 ≤ B) (c1 : ¬ (s.1 5) = 0) (t2 : gm_to N0 K ra_nm (ra_mt K) d 161 [.ref B] (bM B (mH B (mI s 0 (0 : Int32))) G) sz (.returned none, bM B (mH B s3) G, sz, 0)) (t5 : gm_to N0 K ra_nm (ra_mt K) d 172 [.ref B] (bM B (mH B s3) G) sz (.returned (some (.int r4)), bM B (mH B s3) G, sz, 0)) (c6 : r4 = 0) : gm_ev N0 K ra_nm (ra_mt K) d (some .int) (gm_I cX12_over) (gm_lkf (lkX12 false K)) 0 [some (.ref B)] [] (bM B (mH B s) G) sz sl (.returned (some (.int (0 : Int32))), (bM B (mH B s3) G), sz, sl) := by
  refine gm_ev.aload_n i177_0 rfl ?_
  refine gm_ev.iconst (v := 0) i177_1 (by decide) ?_
  refine gm_ev.putfield (M' := (bM B (mH B (mI s 0 (0 : Int32))) G)) i177_2 rfl (bM_put (j := 0) (fs := mF B s) rfl (Nat.le_of_ble_eq_true rfl) hN (gm_fit_i _) rfl) ?_
  refine gm_ev.aload_n i177_5 rfl ?_
  refine gm_ev.getfield (v := .int (s.1 5)) i177_6 rfl (bM_fld (j := 0) (fs := mF B (mI s 0 (0 : Int32))) rfl rfl) ?_
  refine gm_ev.if_ne_t (tgt := 14) i177_9 (by decide) c1 ?_
  refine gm_ev.aload_n i177_14 rfl ?_
  refine gm_ev.callV gm_mono_run (av := []) (r := []) (ci := 11) (fs := mF B (mI s 0 (0 : Int32))) (bM_get (j := 0) rfl) i177_15 rfl rfl rfl (Nat.le_of_ble_eq_true rfl) t2 ?_
  refine gm_ev.aload_n i177_18 rfl ?_
  refine gm_ev.callV gm_mono_run (av := []) (r := []) (ci := 11) (fs := mF B s3) (bM_get (j := 0) rfl) i177_19 rfl rfl rfl (Nat.le_of_ble_eq_true rfl) t5 ?_
  refine gm_ev.if_eq_t (tgt := 29) i177_22 (by decide) c6 ?_
  refine gm_ev.iconst (v := 0) i177_29 (by decide) ?_
  exact gm_ev.iret i177_30 rfl
theorem r_over_0_tf {N0 : Nat} {K : Nat → Nat} {d B : Nat} {s : mS} {G : gm_H} {sz sl : Nat} {s3 : mS} {r4 : Int32} (hN : N0 ≤ B) (c1 : ¬ (s.1 5) = 0) (t2 : gm_to N0 K ra_nm (ra_mt K) d 161 [.ref B] (bM B (mH B (mI s 0 (0 : Int32))) G) sz (.returned none, bM B (mH B s3) G, sz, 0)) (t5 : gm_to N0 K ra_nm (ra_mt K) d 172 [.ref B] (bM B (mH B s3) G) sz (.returned (some (.int r4)), bM B (mH B s3) G, sz, 0)) (c6 : ¬ r4 = 0) : gm_ev N0 K ra_nm (ra_mt K) d (some .int) (gm_I cX12_over) (gm_lkf (lkX12 false K)) 0 [some (.ref B)] [] (bM B (mH B s) G) sz sl (.returned (some (.int (1 : Int32))), (bM B (mH B s3) G), sz, sl) := by
  refine gm_ev.aload_n i177_0 rfl ?_
  refine gm_ev.iconst (v := 0) i177_1 (by decide) ?_
  refine gm_ev.putfield (M' := (bM B (mH B (mI s 0 (0 : Int32))) G)) i177_2 rfl (bM_put (j := 0) (fs := mF B s) rfl (Nat.le_of_ble_eq_true rfl) hN (gm_fit_i _) rfl) ?_
  refine gm_ev.aload_n i177_5 rfl ?_
  refine gm_ev.getfield (v := .int (s.1 5)) i177_6 rfl (bM_fld (j := 0) (fs := mF B (mI s 0 (0 : Int32))) rfl rfl) ?_
  refine gm_ev.if_ne_t (tgt := 14) i177_9 (by decide) c1 ?_
  refine gm_ev.aload_n i177_14 rfl ?_
  refine gm_ev.callV gm_mono_run (av := []) (r := []) (ci := 11) (fs := mF B (mI s 0 (0 : Int32))) (bM_get (j := 0) rfl) i177_15 rfl rfl rfl (Nat.le_of_ble_eq_true rfl) t2 ?_
  refine gm_ev.aload_n i177_18 rfl ?_
  refine gm_ev.callV gm_mono_run (av := []) (r := []) (ci := 11) (fs := mF B s3) (bM_get (j := 0) rfl) i177_19 rfl rfl rfl (Nat.le_of_ble_eq_true rfl) t5 ?_
  refine gm_ev.if_eq_f i177_22 c6 ?_
  refine gm_ev.iconst (v := 1) i177_25 (by decide) ?_
  refine gm_ev.goto (tgt := 30) i177_26 (by decide) ?_
  exact gm_ev.iret i177_30 rfl
theorem r_over_0_f {N0 : Nat} {K : Nat → Nat} {d B : Nat} {s : mS} {G : gm_H} {sz sl : Nat}  (hN : N0 ≤ B) (c1 : (s.1 5) = 0) : gm_ev N0 K ra_nm (ra_mt K) d (some .int) (gm_I cX12_over) (gm_lkf (lkX12 false K)) 0 [some (.ref B)] [] (bM B (mH B s) G) sz sl (.returned (some (.int (-1 : Int32))), (bM B (mH B (mI s 0 (0 : Int32))) G), sz, sl) := by
  refine gm_ev.aload_n i177_0 rfl ?_
  refine gm_ev.iconst (v := 0) i177_1 (by decide) ?_
  refine gm_ev.putfield (M' := (bM B (mH B (mI s 0 (0 : Int32))) G)) i177_2 rfl (bM_put (j := 0) (fs := mF B s) rfl (Nat.le_of_ble_eq_true rfl) hN (gm_fit_i _) rfl) ?_
  refine gm_ev.aload_n i177_5 rfl ?_
  refine gm_ev.getfield (v := .int (s.1 5)) i177_6 rfl (bM_fld (j := 0) (fs := mF B (mI s 0 (0 : Int32))) rfl rfl) ?_
  refine gm_ev.if_ne_f i177_9 c1 ?_
  refine gm_ev.iconst (v := -1) i177_12 (by decide) ?_
  exact gm_ev.iret i177_13 rfl
theorem r_goal_0_t {N0 : Nat} {K : Nat → Nat} {d B : Nat} {s : mS} {G : gm_H} {sz sl : Nat} {p0 : Int32} {r1 : Int32} {s5 : mS} {r6 : Int32} {s8 : mS} (hN : N0 ≤ B) (t2 : gm_to N0 K ra_nm (ra_mt K) d 170 [.ref B, .int p0] (bM B (mH B (mI s 0 (0 : Int32))) G) sz (.returned (some (.int r1)), bM B (mH B (mI s 0 (0 : Int32))) G, sz, 0)) (c3 : ¬ r1 = 0) (t4 : gm_to N0 K ra_nm (ra_mt K) d 161 [.ref B] (bM B (mH B (mI s 0 (0 : Int32))) G) sz (.returned none, bM B (mH B s5) G, sz, 0)) (t7 : gm_to N0 K ra_nm (ra_mt K) d 173 [.ref B, .int p0] (bM B (mH B s5) G) sz (.returned (some (.int r6)), bM B (mH B s8) G, sz, 0)) : gm_ev N0 K ra_nm (ra_mt K) d (some .int) (gm_I cX12_goal) (gm_lkf (lkX12 false K)) 0 [some (.ref B), some (.int p0)] [] (bM B (mH B s) G) sz sl (.returned (some (.int r6)), (bM B (mH B s8) G), sz, sl) := by
  refine gm_ev.aload_n i178_0 rfl ?_
  refine gm_ev.iconst (v := 0) i178_1 (by decide) ?_
  refine gm_ev.putfield (M' := (bM B (mH B (mI s 0 (0 : Int32))) G)) i178_2 rfl (bM_put (j := 0) (fs := mF B s) rfl (Nat.le_of_ble_eq_true rfl) hN (gm_fit_i _) rfl) ?_
  refine gm_ev.aload_n i178_5 rfl ?_
  refine gm_ev.iload_n i178_6 rfl ?_
  refine gm_ev.callV gm_mono_run (av := [.int p0]) (r := []) (ci := 11) (fs := mF B (mI s 0 (0 : Int32))) (bM_get (j := 0) rfl) i178_7 rfl rfl rfl (Nat.le_of_ble_eq_true rfl) t2 ?_
  refine gm_ev.if_ne_t (tgt := 15) i178_10 (by decide) c3 ?_
  refine gm_ev.aload_n i178_15 rfl ?_
  refine gm_ev.callV gm_mono_run (av := []) (r := []) (ci := 11) (fs := mF B (mI s 0 (0 : Int32))) (bM_get (j := 0) rfl) i178_16 rfl rfl rfl (Nat.le_of_ble_eq_true rfl) t4 ?_
  refine gm_ev.aload_n i178_19 rfl ?_
  refine gm_ev.iload_n i178_20 rfl ?_
  refine gm_ev.callV gm_mono_run (av := [.int p0]) (r := []) (ci := 11) (fs := mF B s5) (bM_get (j := 0) rfl) i178_21 rfl rfl rfl (Nat.le_of_ble_eq_true rfl) t7 ?_
  exact gm_ev.iret i178_24 rfl
theorem r_goal_0_f {N0 : Nat} {K : Nat → Nat} {d B : Nat} {s : mS} {G : gm_H} {sz sl : Nat} {p0 : Int32} {r1 : Int32} (hN : N0 ≤ B) (t2 : gm_to N0 K ra_nm (ra_mt K) d 170 [.ref B, .int p0] (bM B (mH B (mI s 0 (0 : Int32))) G) sz (.returned (some (.int r1)), bM B (mH B (mI s 0 (0 : Int32))) G, sz, 0)) (c3 : r1 = 0) : gm_ev N0 K ra_nm (ra_mt K) d (some .int) (gm_I cX12_goal) (gm_lkf (lkX12 false K)) 0 [some (.ref B), some (.int p0)] [] (bM B (mH B s) G) sz sl (.returned (some (.int (-1 : Int32))), (bM B (mH B (mI s 0 (0 : Int32))) G), sz, sl) := by
  refine gm_ev.aload_n i178_0 rfl ?_
  refine gm_ev.iconst (v := 0) i178_1 (by decide) ?_
  refine gm_ev.putfield (M' := (bM B (mH B (mI s 0 (0 : Int32))) G)) i178_2 rfl (bM_put (j := 0) (fs := mF B s) rfl (Nat.le_of_ble_eq_true rfl) hN (gm_fit_i _) rfl) ?_
  refine gm_ev.aload_n i178_5 rfl ?_
  refine gm_ev.iload_n i178_6 rfl ?_
  refine gm_ev.callV gm_mono_run (av := [.int p0]) (r := []) (ci := 11) (fs := mF B (mI s 0 (0 : Int32))) (bM_get (j := 0) rfl) i178_7 rfl rfl rfl (Nat.le_of_ble_eq_true rfl) t2 ?_
  refine gm_ev.if_ne_f i178_10 c3 ?_
  refine gm_ev.iconst (v := -1) i178_13 (by decide) ?_
  exact gm_ev.iret i178_14 rfl
theorem r_letter_0_t {N0 : Nat} {K : Nat → Nat} {d B : Nat} {s : mS} {G : gm_H} {sz sl : Nat} {p0 : Int32} {p1 : Int32} {p2 : Int32} (hN : N0 ≤ B) (c1 : p0 < 0) : gm_ev N0 K ra_nm (ra_mt K) d (some .int) (gm_I cX12_letter) (gm_lkf (lkX12 false K)) 0 [some (.ref B), some (.int p0), some (.int p1), some (.int p2), none, none] [] (bM B (mH B s) G) sz sl (.returned (some (.int (-1 : Int32))), (bM B (mH B (mI s 0 (0 : Int32))) G), sz, sl) := by
  refine gm_ev.aload_n i179_0 rfl ?_
  refine gm_ev.iconst (v := 0) i179_1 (by decide) ?_
  refine gm_ev.putfield (M' := (bM B (mH B (mI s 0 (0 : Int32))) G)) i179_2 rfl (bM_put (j := 0) (fs := mF B s) rfl (Nat.le_of_ble_eq_true rfl) hN (gm_fit_i _) rfl) ?_
  refine gm_ev.iload_n i179_5 rfl ?_
  refine gm_ev.if_lt_t (tgt := 44) i179_6 (by decide) c1 ?_
  refine gm_ev.iconst (v := -1) i179_44 (by decide) ?_
  exact gm_ev.iret i179_45 rfl
theorem r_letter_0_ft {N0 : Nat} {K : Nat → Nat} {d B : Nat} {s : mS} {G : gm_H} {sz sl : Nat} {p0 : Int32} {p1 : Int32} {p2 : Int32} (hN : N0 ≤ B) (c1 : ¬ p0 < 0) (c2 : (3 : Int32) < p0) : gm_ev N0 K ra_nm (ra_mt K) d (some .int) (gm_I cX12_letter) (gm_lkf (lkX12 false K)) 0 [some (.ref B), some (.int p0), some (.int p1), some (.int p2), none, none] [] (bM B (mH B s) G) sz sl (.returned (some (.int (-1 : Int32))), (bM B (mH B (mI s 0 (0 : Int32))) G), sz, sl) := by
  refine gm_ev.aload_n i179_0 rfl ?_
  refine gm_ev.iconst (v := 0) i179_1 (by decide) ?_
  refine gm_ev.putfield (M' := (bM B (mH B (mI s 0 (0 : Int32))) G)) i179_2 rfl (bM_put (j := 0) (fs := mF B s) rfl (Nat.le_of_ble_eq_true rfl) hN (gm_fit_i _) rfl) ?_
  refine gm_ev.iload_n i179_5 rfl ?_
  refine gm_ev.if_lt_f i179_6 c1 ?_
  refine gm_ev.iload_n i179_9 rfl ?_
  refine gm_ev.iconst (v := 3) i179_10 (by decide) ?_
  refine gm_ev.icmp_gt_t (tgt := 44) i179_11 (by decide) c2 ?_
  refine gm_ev.iconst (v := -1) i179_44 (by decide) ?_
  exact gm_ev.iret i179_45 rfl
theorem r_letter_0_fft {N0 : Nat} {K : Nat → Nat} {d B : Nat} {s : mS} {G : gm_H} {sz sl : Nat} {p0 : Int32} {p1 : Int32} {p2 : Int32} (hN : N0 ≤ B) (c1 : ¬ p0 < 0) (c2 : ¬ (3 : Int32) < p0) (c3 : p1 < 0) : gm_ev N0 K ra_nm (ra_mt K) d (some .int) (gm_I cX12_letter) (gm_lkf (lkX12 false K)) 0 [some (.ref B), some (.int p0), some (.int p1), some (.int p2), none, none] [] (bM B (mH B s) G) sz sl (.returned (some (.int (-1 : Int32))), (bM B (mH B (mI s 0 (0 : Int32))) G), sz, sl) := by
  refine gm_ev.aload_n i179_0 rfl ?_
  refine gm_ev.iconst (v := 0) i179_1 (by decide) ?_
  refine gm_ev.putfield (M' := (bM B (mH B (mI s 0 (0 : Int32))) G)) i179_2 rfl (bM_put (j := 0) (fs := mF B s) rfl (Nat.le_of_ble_eq_true rfl) hN (gm_fit_i _) rfl) ?_
  refine gm_ev.iload_n i179_5 rfl ?_
  refine gm_ev.if_lt_f i179_6 c1 ?_
  refine gm_ev.iload_n i179_9 rfl ?_
  refine gm_ev.iconst (v := 3) i179_10 (by decide) ?_
  refine gm_ev.icmp_gt_f i179_11 c2 ?_
  refine gm_ev.iload_n i179_14 rfl ?_
  refine gm_ev.if_lt_t (tgt := 44) i179_15 (by decide) c3 ?_
  refine gm_ev.iconst (v := -1) i179_44 (by decide) ?_
  exact gm_ev.iret i179_45 rfl
theorem r_letter_0_ffft {N0 : Nat} {K : Nat → Nat} {d B : Nat} {s : mS} {G : gm_H} {sz sl : Nat} {p0 : Int32} {p1 : Int32} {p2 : Int32} (hN : N0 ≤ B) (c1 : ¬ p0 < 0) (c2 : ¬ (3 : Int32) < p0) (c3 : ¬ p1 < 0) (c4 : p2 < 0) : gm_ev N0 K ra_nm (ra_mt K) d (some .int) (gm_I cX12_letter) (gm_lkf (lkX12 false K)) 0 [some (.ref B), some (.int p0), some (.int p1), some (.int p2), none, none] [] (bM B (mH B s) G) sz sl (.returned (some (.int (-1 : Int32))), (bM B (mH B (mI s 0 (0 : Int32))) G), sz, sl) := by
  refine gm_ev.aload_n i179_0 rfl ?_
  refine gm_ev.iconst (v := 0) i179_1 (by decide) ?_
  refine gm_ev.putfield (M' := (bM B (mH B (mI s 0 (0 : Int32))) G)) i179_2 rfl (bM_put (j := 0) (fs := mF B s) rfl (Nat.le_of_ble_eq_true rfl) hN (gm_fit_i _) rfl) ?_
  refine gm_ev.iload_n i179_5 rfl ?_
  refine gm_ev.if_lt_f i179_6 c1 ?_
  refine gm_ev.iload_n i179_9 rfl ?_
  refine gm_ev.iconst (v := 3) i179_10 (by decide) ?_
  refine gm_ev.icmp_gt_f i179_11 c2 ?_
  refine gm_ev.iload_n i179_14 rfl ?_
  refine gm_ev.if_lt_f i179_15 c3 ?_
  refine gm_ev.iload_n i179_18 rfl ?_
  refine gm_ev.if_lt_t (tgt := 44) i179_19 (by decide) c4 ?_
  refine gm_ev.iconst (v := -1) i179_44 (by decide) ?_
  exact gm_ev.iret i179_45 rfl
theorem r_letter_0_fffft {N0 : Nat} {K : Nat → Nat} {d B : Nat} {s : mS} {G : gm_H} {sz sl : Nat} {p0 : Int32} {p1 : Int32} {p2 : Int32} (hN : N0 ≤ B) (c1 : ¬ p0 < 0) (c2 : ¬ (3 : Int32) < p0) (c3 : ¬ p1 < 0) (c4 : ¬ p2 < 0) (c5 : (s.1 5) = 0) : gm_ev N0 K ra_nm (ra_mt K) d (some .int) (gm_I cX12_letter) (gm_lkf (lkX12 false K)) 0 [some (.ref B), some (.int p0), some (.int p1), some (.int p2), none, none] [] (bM B (mH B s) G) sz sl (.returned (some (.int (-1 : Int32))), (bM B (mH B (mI s 0 (0 : Int32))) G), sz, sl) := by
  refine gm_ev.aload_n i179_0 rfl ?_
  refine gm_ev.iconst (v := 0) i179_1 (by decide) ?_
  refine gm_ev.putfield (M' := (bM B (mH B (mI s 0 (0 : Int32))) G)) i179_2 rfl (bM_put (j := 0) (fs := mF B s) rfl (Nat.le_of_ble_eq_true rfl) hN (gm_fit_i _) rfl) ?_
  refine gm_ev.iload_n i179_5 rfl ?_
  refine gm_ev.if_lt_f i179_6 c1 ?_
  refine gm_ev.iload_n i179_9 rfl ?_
  refine gm_ev.iconst (v := 3) i179_10 (by decide) ?_
  refine gm_ev.icmp_gt_f i179_11 c2 ?_
  refine gm_ev.iload_n i179_14 rfl ?_
  refine gm_ev.if_lt_f i179_15 c3 ?_
  refine gm_ev.iload_n i179_18 rfl ?_
  refine gm_ev.if_lt_f i179_19 c4 ?_
  refine gm_ev.aload_n i179_22 rfl ?_
  refine gm_ev.getfield (v := .int (s.1 5)) i179_23 rfl (bM_fld (j := 0) (fs := mF B (mI s 0 (0 : Int32))) rfl rfl) ?_
  refine gm_ev.if_eq_t (tgt := 44) i179_26 (by decide) c5 ?_
  refine gm_ev.iconst (v := -1) i179_44 (by decide) ?_
  exact gm_ev.iret i179_45 rfl
theorem r_letter_0_fffffttttttttt {N0 : Nat} {K : Nat → Nat} {d B : Nat} {s : mS} {G : gm_H} {sz sl : Nat} {p0 : Int32} {p1 : Int32} {p2 : Int32} {s8 : mS} {k15 : Nat} {r17 : Int32} (hN : N0 ≤ B) (c1 : ¬ p0 < 0) (c2 : ¬ (3 : Int32) < p0) (c3 : ¬ p1 < 0) (c4 : ¬ p2 < 0) (c5 : ¬ (s.1 5) = 0) (c6 : p0 ≤ (1 : Int32)) (t7 : gm_to N0 K ra_nm (ra_mt K) d 161 [.ref B] (bM B (mH B (mI s 0 (0 : Int32))) G) sz (.returned none, bM B (mH B s8) G, sz, 0)) (c9 : p0 ≤ (1 : Int32)) (c10 : ¬ p0 = 0) (c11 : ¬ p0 = (1 : Int32)) (c12 : p1 < (s8.1 38)) (c13 : ¬ p0 = 0) (c14 : ¬ p0 = (1 : Int32)) (ek15 : p1 = nI k15) (lk15 : k15 < 201) (c16 : p2 ≤ (8 : Int32)) (t18 : gm_to N0 K ra_nm (ra_mt K) d 147 [.long (s8.2.2 37 k15), .int p2] (bM B (mH B s8) G) sz (.returned (some (.int r17)), bM B (mH B s8) G, sz, 0)) (c19 : ¬ r17 = 0) : gm_ev N0 K ra_nm (ra_mt K) d (some .int) (gm_I cX12_letter) (gm_lkf (lkX12 false K)) 0 [some (.ref B), some (.int p0), some (.int p1), some (.int p2), none, none] [] (bM B (mH B s) G) sz sl (.returned (some (.int r17)), (bM B (mH B s8) G), sz, sl) := by
  refine gm_ev.aload_n i179_0 rfl ?_
  refine gm_ev.iconst (v := 0) i179_1 (by decide) ?_
  refine gm_ev.putfield (M' := (bM B (mH B (mI s 0 (0 : Int32))) G)) i179_2 rfl (bM_put (j := 0) (fs := mF B s) rfl (Nat.le_of_ble_eq_true rfl) hN (gm_fit_i _) rfl) ?_
  refine gm_ev.iload_n i179_5 rfl ?_
  refine gm_ev.if_lt_f i179_6 c1 ?_
  refine gm_ev.iload_n i179_9 rfl ?_
  refine gm_ev.iconst (v := 3) i179_10 (by decide) ?_
  refine gm_ev.icmp_gt_f i179_11 c2 ?_
  refine gm_ev.iload_n i179_14 rfl ?_
  refine gm_ev.if_lt_f i179_15 c3 ?_
  refine gm_ev.iload_n i179_18 rfl ?_
  refine gm_ev.if_lt_f i179_19 c4 ?_
  refine gm_ev.aload_n i179_22 rfl ?_
  refine gm_ev.getfield (v := .int (s.1 5)) i179_23 rfl (bM_fld (j := 0) (fs := mF B (mI s 0 (0 : Int32))) rfl rfl) ?_
  refine gm_ev.if_eq_f i179_26 c5 ?_
  refine gm_ev.iload_n i179_29 rfl ?_
  refine gm_ev.iconst (v := 1) i179_30 (by decide) ?_
  refine gm_ev.icmp_le_t (tgt := 46) i179_31 (by decide) c6 ?_
  refine gm_ev.aload_n i179_46 rfl ?_
  refine gm_ev.callV gm_mono_run (av := []) (r := []) (ci := 11) (fs := mF B (mI s 0 (0 : Int32))) (bM_get (j := 0) rfl) i179_47 rfl rfl rfl (Nat.le_of_ble_eq_true rfl) t7 ?_
  refine gm_ev.iload_n i179_50 rfl ?_
  refine gm_ev.iconst (v := 1) i179_51 (by decide) ?_
  refine gm_ev.icmp_le_t (tgt := 62) i179_52 (by decide) c9 ?_
  refine gm_ev.iload_n i179_62 rfl ?_
  refine gm_ev.if_ne_t (tgt := 73) i179_63 (by decide) c10 ?_
  refine gm_ev.iload_n i179_73 rfl ?_
  refine gm_ev.iconst (v := 1) i179_74 (by decide) ?_
  refine gm_ev.icmp_ne_t (tgt := 85) i179_75 (by decide) c11 ?_
  refine gm_ev.aload_n i179_85 rfl ?_
  refine gm_ev.getfield (v := .int (s8.1 38)) i179_86 rfl (bM_fld (j := 0) (fs := mF B s8) rfl rfl) ?_
  refine gm_ev.istore (ls' := [some (.ref B), some (.int p0), some (.int p1), some (.int p2), some (.int (s8.1 38)), none]) i179_89 (Nat.le_of_ble_eq_true rfl) rfl ?_
  refine gm_ev.iload_n i179_91 rfl ?_
  refine gm_ev.iload i179_92 rfl ?_
  refine gm_ev.icmp_lt_t (tgt := 99) i179_94 (by decide) c12 ?_
  refine gm_ev.iload_n i179_99 rfl ?_
  refine gm_ev.if_ne_t (tgt := 112) i179_100 (by decide) c13 ?_
  refine gm_ev.iload_n i179_112 rfl ?_
  refine gm_ev.iconst (v := 1) i179_113 (by decide) ?_
  refine gm_ev.icmp_ne_t (tgt := 126) i179_114 (by decide) c14 ?_
  refine gm_ev.aload_n i179_126 rfl ?_
  refine gm_ev.getfield (v := .ref (B + 21)) i179_127 rfl (bM_fld (j := 0) (fs := mF B s8) rfl rfl) ?_
  refine gm_ev.iload_n i179_130 rfl ?_
  refine gm_ev.laload i179_131 (bM_al (j := 21) (n := 201) (fl := s8.2.2 37) rfl ek15 lk15 (by decide)) ?_
  refine gm_ev.iload_n i179_132 rfl ?_
  refine gm_ev.bipush (v := 8) i179_133 (by decide) ?_
  refine gm_ev.icmp_le_t (tgt := 143) i179_135 (by decide) c16 ?_
  refine gm_ev.iload_n i179_143 rfl ?_
  refine gm_ev.callS gm_mono_run (av := [.long (s8.2.2 37 k15), .int p2]) (r := []) i179_144 rfl rfl rfl (Nat.le_of_ble_eq_true rfl) t18 ?_
  refine gm_ev.istore (ls' := [some (.ref B), some (.int p0), some (.int p1), some (.int p2), some (.int (s8.1 38)), some (.int r17)]) i179_147 (Nat.le_of_ble_eq_true rfl) rfl ?_
  refine gm_ev.iload i179_149 rfl ?_
  refine gm_ev.if_ne_t (tgt := 158) i179_151 (by decide) c19 ?_
  refine gm_ev.iload i179_158 rfl ?_
  exact gm_ev.iret i179_160 rfl
theorem r_letter_0_fffffttttttttf {N0 : Nat} {K : Nat → Nat} {d B : Nat} {s : mS} {G : gm_H} {sz sl : Nat} {p0 : Int32} {p1 : Int32} {p2 : Int32} {s8 : mS} {k15 : Nat} {r17 : Int32} (hN : N0 ≤ B) (c1 : ¬ p0 < 0) (c2 : ¬ (3 : Int32) < p0) (c3 : ¬ p1 < 0) (c4 : ¬ p2 < 0) (c5 : ¬ (s.1 5) = 0) (c6 : p0 ≤ (1 : Int32)) (t7 : gm_to N0 K ra_nm (ra_mt K) d 161 [.ref B] (bM B (mH B (mI s 0 (0 : Int32))) G) sz (.returned none, bM B (mH B s8) G, sz, 0)) (c9 : p0 ≤ (1 : Int32)) (c10 : ¬ p0 = 0) (c11 : ¬ p0 = (1 : Int32)) (c12 : p1 < (s8.1 38)) (c13 : ¬ p0 = 0) (c14 : ¬ p0 = (1 : Int32)) (ek15 : p1 = nI k15) (lk15 : k15 < 201) (c16 : p2 ≤ (8 : Int32)) (t18 : gm_to N0 K ra_nm (ra_mt K) d 147 [.long (s8.2.2 37 k15), .int p2] (bM B (mH B s8) G) sz (.returned (some (.int r17)), bM B (mH B s8) G, sz, 0)) (c19 : r17 = 0) : gm_ev N0 K ra_nm (ra_mt K) d (some .int) (gm_I cX12_letter) (gm_lkf (lkX12 false K)) 0 [some (.ref B), some (.int p0), some (.int p1), some (.int p2), none, none] [] (bM B (mH B s) G) sz sl (.returned (some (.int (-1 : Int32))), (bM B (mH B s8) G), sz, sl) := by
  refine gm_ev.aload_n i179_0 rfl ?_
  refine gm_ev.iconst (v := 0) i179_1 (by decide) ?_
  refine gm_ev.putfield (M' := (bM B (mH B (mI s 0 (0 : Int32))) G)) i179_2 rfl (bM_put (j := 0) (fs := mF B s) rfl (Nat.le_of_ble_eq_true rfl) hN (gm_fit_i _) rfl) ?_
  refine gm_ev.iload_n i179_5 rfl ?_
  refine gm_ev.if_lt_f i179_6 c1 ?_
  refine gm_ev.iload_n i179_9 rfl ?_
  refine gm_ev.iconst (v := 3) i179_10 (by decide) ?_
  refine gm_ev.icmp_gt_f i179_11 c2 ?_
  refine gm_ev.iload_n i179_14 rfl ?_
  refine gm_ev.if_lt_f i179_15 c3 ?_
  refine gm_ev.iload_n i179_18 rfl ?_
  refine gm_ev.if_lt_f i179_19 c4 ?_
  refine gm_ev.aload_n i179_22 rfl ?_
  refine gm_ev.getfield (v := .int (s.1 5)) i179_23 rfl (bM_fld (j := 0) (fs := mF B (mI s 0 (0 : Int32))) rfl rfl) ?_
  refine gm_ev.if_eq_f i179_26 c5 ?_
  refine gm_ev.iload_n i179_29 rfl ?_
  refine gm_ev.iconst (v := 1) i179_30 (by decide) ?_
  refine gm_ev.icmp_le_t (tgt := 46) i179_31 (by decide) c6 ?_
  refine gm_ev.aload_n i179_46 rfl ?_
  refine gm_ev.callV gm_mono_run (av := []) (r := []) (ci := 11) (fs := mF B (mI s 0 (0 : Int32))) (bM_get (j := 0) rfl) i179_47 rfl rfl rfl (Nat.le_of_ble_eq_true rfl) t7 ?_
  refine gm_ev.iload_n i179_50 rfl ?_
  refine gm_ev.iconst (v := 1) i179_51 (by decide) ?_
  refine gm_ev.icmp_le_t (tgt := 62) i179_52 (by decide) c9 ?_
  refine gm_ev.iload_n i179_62 rfl ?_
  refine gm_ev.if_ne_t (tgt := 73) i179_63 (by decide) c10 ?_
  refine gm_ev.iload_n i179_73 rfl ?_
  refine gm_ev.iconst (v := 1) i179_74 (by decide) ?_
  refine gm_ev.icmp_ne_t (tgt := 85) i179_75 (by decide) c11 ?_
  refine gm_ev.aload_n i179_85 rfl ?_
  refine gm_ev.getfield (v := .int (s8.1 38)) i179_86 rfl (bM_fld (j := 0) (fs := mF B s8) rfl rfl) ?_
  refine gm_ev.istore (ls' := [some (.ref B), some (.int p0), some (.int p1), some (.int p2), some (.int (s8.1 38)), none]) i179_89 (Nat.le_of_ble_eq_true rfl) rfl ?_
  refine gm_ev.iload_n i179_91 rfl ?_
  refine gm_ev.iload i179_92 rfl ?_
  refine gm_ev.icmp_lt_t (tgt := 99) i179_94 (by decide) c12 ?_
  refine gm_ev.iload_n i179_99 rfl ?_
  refine gm_ev.if_ne_t (tgt := 112) i179_100 (by decide) c13 ?_
  refine gm_ev.iload_n i179_112 rfl ?_
  refine gm_ev.iconst (v := 1) i179_113 (by decide) ?_
  refine gm_ev.icmp_ne_t (tgt := 126) i179_114 (by decide) c14 ?_
  refine gm_ev.aload_n i179_126 rfl ?_
  refine gm_ev.getfield (v := .ref (B + 21)) i179_127 rfl (bM_fld (j := 0) (fs := mF B s8) rfl rfl) ?_
  refine gm_ev.iload_n i179_130 rfl ?_
  refine gm_ev.laload i179_131 (bM_al (j := 21) (n := 201) (fl := s8.2.2 37) rfl ek15 lk15 (by decide)) ?_
  refine gm_ev.iload_n i179_132 rfl ?_
  refine gm_ev.bipush (v := 8) i179_133 (by decide) ?_
  refine gm_ev.icmp_le_t (tgt := 143) i179_135 (by decide) c16 ?_
  refine gm_ev.iload_n i179_143 rfl ?_
  refine gm_ev.callS gm_mono_run (av := [.long (s8.2.2 37 k15), .int p2]) (r := []) i179_144 rfl rfl rfl (Nat.le_of_ble_eq_true rfl) t18 ?_
  refine gm_ev.istore (ls' := [some (.ref B), some (.int p0), some (.int p1), some (.int p2), some (.int (s8.1 38)), some (.int r17)]) i179_147 (Nat.le_of_ble_eq_true rfl) rfl ?_
  refine gm_ev.iload i179_149 rfl ?_
  refine gm_ev.if_ne_f i179_151 c19 ?_
  refine gm_ev.iconst (v := -1) i179_154 (by decide) ?_
  refine gm_ev.goto (tgt := 160) i179_155 (by decide) ?_
  exact gm_ev.iret i179_160 rfl
theorem r_letter_0_ffffftttttttft {N0 : Nat} {K : Nat → Nat} {d B : Nat} {s : mS} {G : gm_H} {sz sl : Nat} {p0 : Int32} {p1 : Int32} {p2 : Int32} {s8 : mS} {k15 : Nat} {r17 : Int32} (hN : N0 ≤ B) (c1 : ¬ p0 < 0) (c2 : ¬ (3 : Int32) < p0) (c3 : ¬ p1 < 0) (c4 : ¬ p2 < 0) (c5 : ¬ (s.1 5) = 0) (c6 : p0 ≤ (1 : Int32)) (t7 : gm_to N0 K ra_nm (ra_mt K) d 161 [.ref B] (bM B (mH B (mI s 0 (0 : Int32))) G) sz (.returned none, bM B (mH B s8) G, sz, 0)) (c9 : p0 ≤ (1 : Int32)) (c10 : ¬ p0 = 0) (c11 : ¬ p0 = (1 : Int32)) (c12 : p1 < (s8.1 38)) (c13 : ¬ p0 = 0) (c14 : ¬ p0 = (1 : Int32)) (ek15 : p1 = nI k15) (lk15 : k15 < 201) (c16 : ¬ p2 ≤ (8 : Int32)) (t18 : gm_to N0 K ra_nm (ra_mt K) d 147 [.long (s8.2.2 37 k15), .int (8 : Int32)] (bM B (mH B s8) G) sz (.returned (some (.int r17)), bM B (mH B s8) G, sz, 0)) (c19 : ¬ r17 = 0) : gm_ev N0 K ra_nm (ra_mt K) d (some .int) (gm_I cX12_letter) (gm_lkf (lkX12 false K)) 0 [some (.ref B), some (.int p0), some (.int p1), some (.int p2), none, none] [] (bM B (mH B s) G) sz sl (.returned (some (.int r17)), (bM B (mH B s8) G), sz, sl) := by
  refine gm_ev.aload_n i179_0 rfl ?_
  refine gm_ev.iconst (v := 0) i179_1 (by decide) ?_
  refine gm_ev.putfield (M' := (bM B (mH B (mI s 0 (0 : Int32))) G)) i179_2 rfl (bM_put (j := 0) (fs := mF B s) rfl (Nat.le_of_ble_eq_true rfl) hN (gm_fit_i _) rfl) ?_
  refine gm_ev.iload_n i179_5 rfl ?_
  refine gm_ev.if_lt_f i179_6 c1 ?_
  refine gm_ev.iload_n i179_9 rfl ?_
  refine gm_ev.iconst (v := 3) i179_10 (by decide) ?_
  refine gm_ev.icmp_gt_f i179_11 c2 ?_
  refine gm_ev.iload_n i179_14 rfl ?_
  refine gm_ev.if_lt_f i179_15 c3 ?_
  refine gm_ev.iload_n i179_18 rfl ?_
  refine gm_ev.if_lt_f i179_19 c4 ?_
  refine gm_ev.aload_n i179_22 rfl ?_
  refine gm_ev.getfield (v := .int (s.1 5)) i179_23 rfl (bM_fld (j := 0) (fs := mF B (mI s 0 (0 : Int32))) rfl rfl) ?_
  refine gm_ev.if_eq_f i179_26 c5 ?_
  refine gm_ev.iload_n i179_29 rfl ?_
  refine gm_ev.iconst (v := 1) i179_30 (by decide) ?_
  refine gm_ev.icmp_le_t (tgt := 46) i179_31 (by decide) c6 ?_
  refine gm_ev.aload_n i179_46 rfl ?_
  refine gm_ev.callV gm_mono_run (av := []) (r := []) (ci := 11) (fs := mF B (mI s 0 (0 : Int32))) (bM_get (j := 0) rfl) i179_47 rfl rfl rfl (Nat.le_of_ble_eq_true rfl) t7 ?_
  refine gm_ev.iload_n i179_50 rfl ?_
  refine gm_ev.iconst (v := 1) i179_51 (by decide) ?_
  refine gm_ev.icmp_le_t (tgt := 62) i179_52 (by decide) c9 ?_
  refine gm_ev.iload_n i179_62 rfl ?_
  refine gm_ev.if_ne_t (tgt := 73) i179_63 (by decide) c10 ?_
  refine gm_ev.iload_n i179_73 rfl ?_
  refine gm_ev.iconst (v := 1) i179_74 (by decide) ?_
  refine gm_ev.icmp_ne_t (tgt := 85) i179_75 (by decide) c11 ?_
  refine gm_ev.aload_n i179_85 rfl ?_
  refine gm_ev.getfield (v := .int (s8.1 38)) i179_86 rfl (bM_fld (j := 0) (fs := mF B s8) rfl rfl) ?_
  refine gm_ev.istore (ls' := [some (.ref B), some (.int p0), some (.int p1), some (.int p2), some (.int (s8.1 38)), none]) i179_89 (Nat.le_of_ble_eq_true rfl) rfl ?_
  refine gm_ev.iload_n i179_91 rfl ?_
  refine gm_ev.iload i179_92 rfl ?_
  refine gm_ev.icmp_lt_t (tgt := 99) i179_94 (by decide) c12 ?_
  refine gm_ev.iload_n i179_99 rfl ?_
  refine gm_ev.if_ne_t (tgt := 112) i179_100 (by decide) c13 ?_
  refine gm_ev.iload_n i179_112 rfl ?_
  refine gm_ev.iconst (v := 1) i179_113 (by decide) ?_
  refine gm_ev.icmp_ne_t (tgt := 126) i179_114 (by decide) c14 ?_
  refine gm_ev.aload_n i179_126 rfl ?_
  refine gm_ev.getfield (v := .ref (B + 21)) i179_127 rfl (bM_fld (j := 0) (fs := mF B s8) rfl rfl) ?_
  refine gm_ev.iload_n i179_130 rfl ?_
  refine gm_ev.laload i179_131 (bM_al (j := 21) (n := 201) (fl := s8.2.2 37) rfl ek15 lk15 (by decide)) ?_
  refine gm_ev.iload_n i179_132 rfl ?_
  refine gm_ev.bipush (v := 8) i179_133 (by decide) ?_
  refine gm_ev.icmp_le_f i179_135 c16 ?_
  refine gm_ev.bipush (v := 8) i179_138 (by decide) ?_
  refine gm_ev.goto (tgt := 144) i179_140 (by decide) ?_
  refine gm_ev.callS gm_mono_run (av := [.long (s8.2.2 37 k15), .int (8 : Int32)]) (r := []) i179_144 rfl rfl rfl (Nat.le_of_ble_eq_true rfl) t18 ?_
  refine gm_ev.istore (ls' := [some (.ref B), some (.int p0), some (.int p1), some (.int p2), some (.int (s8.1 38)), some (.int r17)]) i179_147 (Nat.le_of_ble_eq_true rfl) rfl ?_
  refine gm_ev.iload i179_149 rfl ?_
  refine gm_ev.if_ne_t (tgt := 158) i179_151 (by decide) c19 ?_
  refine gm_ev.iload i179_158 rfl ?_
  exact gm_ev.iret i179_160 rfl
theorem r_letter_0_ffffftttttttff {N0 : Nat} {K : Nat → Nat} {d B : Nat} {s : mS} {G : gm_H} {sz sl : Nat} {p0 : Int32} {p1 : Int32} {p2 : Int32} {s8 : mS} {k15 : Nat} {r17 : Int32} (hN : N0 ≤ B) (c1 : ¬ p0 < 0) (c2 : ¬ (3 : Int32) < p0) (c3 : ¬ p1 < 0) (c4 : ¬ p2 < 0) (c5 : ¬ (s.1 5) = 0) (c6 : p0 ≤ (1 : Int32)) (t7 : gm_to N0 K ra_nm (ra_mt K) d 161 [.ref B] (bM B (mH B (mI s 0 (0 : Int32))) G) sz (.returned none, bM B (mH B s8) G, sz, 0)) (c9 : p0 ≤ (1 : Int32)) (c10 : ¬ p0 = 0) (c11 : ¬ p0 = (1 : Int32)) (c12 : p1 < (s8.1 38)) (c13 : ¬ p0 = 0) (c14 : ¬ p0 = (1 : Int32)) (ek15 : p1 = nI k15) (lk15 : k15 < 201) (c16 : ¬ p2 ≤ (8 : Int32)) (t18 : gm_to N0 K ra_nm (ra_mt K) d 147 [.long (s8.2.2 37 k15), .int (8 : Int32)] (bM B (mH B s8) G) sz (.returned (some (.int r17)), bM B (mH B s8) G, sz, 0)) (c19 : r17 = 0) : gm_ev N0 K ra_nm (ra_mt K) d (some .int) (gm_I cX12_letter) (gm_lkf (lkX12 false K)) 0 [some (.ref B), some (.int p0), some (.int p1), some (.int p2), none, none] [] (bM B (mH B s) G) sz sl (.returned (some (.int (-1 : Int32))), (bM B (mH B s8) G), sz, sl) := by
  refine gm_ev.aload_n i179_0 rfl ?_
  refine gm_ev.iconst (v := 0) i179_1 (by decide) ?_
  refine gm_ev.putfield (M' := (bM B (mH B (mI s 0 (0 : Int32))) G)) i179_2 rfl (bM_put (j := 0) (fs := mF B s) rfl (Nat.le_of_ble_eq_true rfl) hN (gm_fit_i _) rfl) ?_
  refine gm_ev.iload_n i179_5 rfl ?_
  refine gm_ev.if_lt_f i179_6 c1 ?_
  refine gm_ev.iload_n i179_9 rfl ?_
  refine gm_ev.iconst (v := 3) i179_10 (by decide) ?_
  refine gm_ev.icmp_gt_f i179_11 c2 ?_
  refine gm_ev.iload_n i179_14 rfl ?_
  refine gm_ev.if_lt_f i179_15 c3 ?_
  refine gm_ev.iload_n i179_18 rfl ?_
  refine gm_ev.if_lt_f i179_19 c4 ?_
  refine gm_ev.aload_n i179_22 rfl ?_
  refine gm_ev.getfield (v := .int (s.1 5)) i179_23 rfl (bM_fld (j := 0) (fs := mF B (mI s 0 (0 : Int32))) rfl rfl) ?_
  refine gm_ev.if_eq_f i179_26 c5 ?_
  refine gm_ev.iload_n i179_29 rfl ?_
  refine gm_ev.iconst (v := 1) i179_30 (by decide) ?_
  refine gm_ev.icmp_le_t (tgt := 46) i179_31 (by decide) c6 ?_
  refine gm_ev.aload_n i179_46 rfl ?_
  refine gm_ev.callV gm_mono_run (av := []) (r := []) (ci := 11) (fs := mF B (mI s 0 (0 : Int32))) (bM_get (j := 0) rfl) i179_47 rfl rfl rfl (Nat.le_of_ble_eq_true rfl) t7 ?_
  refine gm_ev.iload_n i179_50 rfl ?_
  refine gm_ev.iconst (v := 1) i179_51 (by decide) ?_
  refine gm_ev.icmp_le_t (tgt := 62) i179_52 (by decide) c9 ?_
  refine gm_ev.iload_n i179_62 rfl ?_
  refine gm_ev.if_ne_t (tgt := 73) i179_63 (by decide) c10 ?_
  refine gm_ev.iload_n i179_73 rfl ?_
  refine gm_ev.iconst (v := 1) i179_74 (by decide) ?_
  refine gm_ev.icmp_ne_t (tgt := 85) i179_75 (by decide) c11 ?_
  refine gm_ev.aload_n i179_85 rfl ?_
  refine gm_ev.getfield (v := .int (s8.1 38)) i179_86 rfl (bM_fld (j := 0) (fs := mF B s8) rfl rfl) ?_
  refine gm_ev.istore (ls' := [some (.ref B), some (.int p0), some (.int p1), some (.int p2), some (.int (s8.1 38)), none]) i179_89 (Nat.le_of_ble_eq_true rfl) rfl ?_
  refine gm_ev.iload_n i179_91 rfl ?_
  refine gm_ev.iload i179_92 rfl ?_
  refine gm_ev.icmp_lt_t (tgt := 99) i179_94 (by decide) c12 ?_
  refine gm_ev.iload_n i179_99 rfl ?_
  refine gm_ev.if_ne_t (tgt := 112) i179_100 (by decide) c13 ?_
  refine gm_ev.iload_n i179_112 rfl ?_
  refine gm_ev.iconst (v := 1) i179_113 (by decide) ?_
  refine gm_ev.icmp_ne_t (tgt := 126) i179_114 (by decide) c14 ?_
  refine gm_ev.aload_n i179_126 rfl ?_
  refine gm_ev.getfield (v := .ref (B + 21)) i179_127 rfl (bM_fld (j := 0) (fs := mF B s8) rfl rfl) ?_
  refine gm_ev.iload_n i179_130 rfl ?_
  refine gm_ev.laload i179_131 (bM_al (j := 21) (n := 201) (fl := s8.2.2 37) rfl ek15 lk15 (by decide)) ?_
  refine gm_ev.iload_n i179_132 rfl ?_
  refine gm_ev.bipush (v := 8) i179_133 (by decide) ?_
  refine gm_ev.icmp_le_f i179_135 c16 ?_
  refine gm_ev.bipush (v := 8) i179_138 (by decide) ?_
  refine gm_ev.goto (tgt := 144) i179_140 (by decide) ?_
  refine gm_ev.callS gm_mono_run (av := [.long (s8.2.2 37 k15), .int (8 : Int32)]) (r := []) i179_144 rfl rfl rfl (Nat.le_of_ble_eq_true rfl) t18 ?_
  refine gm_ev.istore (ls' := [some (.ref B), some (.int p0), some (.int p1), some (.int p2), some (.int (s8.1 38)), some (.int r17)]) i179_147 (Nat.le_of_ble_eq_true rfl) rfl ?_
  refine gm_ev.iload i179_149 rfl ?_
  refine gm_ev.if_ne_f i179_151 c19 ?_
  refine gm_ev.iconst (v := -1) i179_154 (by decide) ?_
  refine gm_ev.goto (tgt := 160) i179_155 (by decide) ?_
  exact gm_ev.iret i179_160 rfl
theorem r_letter_0_fffffttttttftt {N0 : Nat} {K : Nat → Nat} {d B : Nat} {s : mS} {G : gm_H} {sz sl : Nat} {p0 : Int32} {p1 : Int32} {p2 : Int32} {s8 : mS} {k15 : Nat} {r17 : Int32} (hN : N0 ≤ B) (c1 : ¬ p0 < 0) (c2 : ¬ (3 : Int32) < p0) (c3 : ¬ p1 < 0) (c4 : ¬ p2 < 0) (c5 : ¬ (s.1 5) = 0) (c6 : p0 ≤ (1 : Int32)) (t7 : gm_to N0 K ra_nm (ra_mt K) d 161 [.ref B] (bM B (mH B (mI s 0 (0 : Int32))) G) sz (.returned none, bM B (mH B s8) G, sz, 0)) (c9 : p0 ≤ (1 : Int32)) (c10 : ¬ p0 = 0) (c11 : ¬ p0 = (1 : Int32)) (c12 : p1 < (s8.1 38)) (c13 : ¬ p0 = 0) (c14 : p0 = (1 : Int32)) (ek15 : p1 = nI k15) (lk15 : k15 < 24) (c16 : p2 ≤ (8 : Int32)) (t18 : gm_to N0 K ra_nm (ra_mt K) d 147 [.long (s8.2.2 29 k15), .int p2] (bM B (mH B s8) G) sz (.returned (some (.int r17)), bM B (mH B s8) G, sz, 0)) (c19 : ¬ r17 = 0) : gm_ev N0 K ra_nm (ra_mt K) d (some .int) (gm_I cX12_letter) (gm_lkf (lkX12 false K)) 0 [some (.ref B), some (.int p0), some (.int p1), some (.int p2), none, none] [] (bM B (mH B s) G) sz sl (.returned (some (.int r17)), (bM B (mH B s8) G), sz, sl) := by
  refine gm_ev.aload_n i179_0 rfl ?_
  refine gm_ev.iconst (v := 0) i179_1 (by decide) ?_
  refine gm_ev.putfield (M' := (bM B (mH B (mI s 0 (0 : Int32))) G)) i179_2 rfl (bM_put (j := 0) (fs := mF B s) rfl (Nat.le_of_ble_eq_true rfl) hN (gm_fit_i _) rfl) ?_
  refine gm_ev.iload_n i179_5 rfl ?_
  refine gm_ev.if_lt_f i179_6 c1 ?_
  refine gm_ev.iload_n i179_9 rfl ?_
  refine gm_ev.iconst (v := 3) i179_10 (by decide) ?_
  refine gm_ev.icmp_gt_f i179_11 c2 ?_
  refine gm_ev.iload_n i179_14 rfl ?_
  refine gm_ev.if_lt_f i179_15 c3 ?_
  refine gm_ev.iload_n i179_18 rfl ?_
  refine gm_ev.if_lt_f i179_19 c4 ?_
  refine gm_ev.aload_n i179_22 rfl ?_
  refine gm_ev.getfield (v := .int (s.1 5)) i179_23 rfl (bM_fld (j := 0) (fs := mF B (mI s 0 (0 : Int32))) rfl rfl) ?_
  refine gm_ev.if_eq_f i179_26 c5 ?_
  refine gm_ev.iload_n i179_29 rfl ?_
  refine gm_ev.iconst (v := 1) i179_30 (by decide) ?_
  refine gm_ev.icmp_le_t (tgt := 46) i179_31 (by decide) c6 ?_
  refine gm_ev.aload_n i179_46 rfl ?_
  refine gm_ev.callV gm_mono_run (av := []) (r := []) (ci := 11) (fs := mF B (mI s 0 (0 : Int32))) (bM_get (j := 0) rfl) i179_47 rfl rfl rfl (Nat.le_of_ble_eq_true rfl) t7 ?_
  refine gm_ev.iload_n i179_50 rfl ?_
  refine gm_ev.iconst (v := 1) i179_51 (by decide) ?_
  refine gm_ev.icmp_le_t (tgt := 62) i179_52 (by decide) c9 ?_
  refine gm_ev.iload_n i179_62 rfl ?_
  refine gm_ev.if_ne_t (tgt := 73) i179_63 (by decide) c10 ?_
  refine gm_ev.iload_n i179_73 rfl ?_
  refine gm_ev.iconst (v := 1) i179_74 (by decide) ?_
  refine gm_ev.icmp_ne_t (tgt := 85) i179_75 (by decide) c11 ?_
  refine gm_ev.aload_n i179_85 rfl ?_
  refine gm_ev.getfield (v := .int (s8.1 38)) i179_86 rfl (bM_fld (j := 0) (fs := mF B s8) rfl rfl) ?_
  refine gm_ev.istore (ls' := [some (.ref B), some (.int p0), some (.int p1), some (.int p2), some (.int (s8.1 38)), none]) i179_89 (Nat.le_of_ble_eq_true rfl) rfl ?_
  refine gm_ev.iload_n i179_91 rfl ?_
  refine gm_ev.iload i179_92 rfl ?_
  refine gm_ev.icmp_lt_t (tgt := 99) i179_94 (by decide) c12 ?_
  refine gm_ev.iload_n i179_99 rfl ?_
  refine gm_ev.if_ne_t (tgt := 112) i179_100 (by decide) c13 ?_
  refine gm_ev.iload_n i179_112 rfl ?_
  refine gm_ev.iconst (v := 1) i179_113 (by decide) ?_
  refine gm_ev.icmp_ne_f i179_114 c14 ?_
  refine gm_ev.aload_n i179_117 rfl ?_
  refine gm_ev.getfield (v := .ref (B + 17)) i179_118 rfl (bM_fld (j := 0) (fs := mF B s8) rfl rfl) ?_
  refine gm_ev.iload_n i179_121 rfl ?_
  refine gm_ev.laload i179_122 (bM_al (j := 17) (n := 24) (fl := s8.2.2 29) rfl ek15 lk15 (by decide)) ?_
  refine gm_ev.goto (tgt := 132) i179_123 (by decide) ?_
  refine gm_ev.iload_n i179_132 rfl ?_
  refine gm_ev.bipush (v := 8) i179_133 (by decide) ?_
  refine gm_ev.icmp_le_t (tgt := 143) i179_135 (by decide) c16 ?_
  refine gm_ev.iload_n i179_143 rfl ?_
  refine gm_ev.callS gm_mono_run (av := [.long (s8.2.2 29 k15), .int p2]) (r := []) i179_144 rfl rfl rfl (Nat.le_of_ble_eq_true rfl) t18 ?_
  refine gm_ev.istore (ls' := [some (.ref B), some (.int p0), some (.int p1), some (.int p2), some (.int (s8.1 38)), some (.int r17)]) i179_147 (Nat.le_of_ble_eq_true rfl) rfl ?_
  refine gm_ev.iload i179_149 rfl ?_
  refine gm_ev.if_ne_t (tgt := 158) i179_151 (by decide) c19 ?_
  refine gm_ev.iload i179_158 rfl ?_
  exact gm_ev.iret i179_160 rfl
theorem r_letter_0_fffffttttttftf {N0 : Nat} {K : Nat → Nat} {d B : Nat} {s : mS} {G : gm_H} {sz sl : Nat} {p0 : Int32} {p1 : Int32} {p2 : Int32} {s8 : mS} {k15 : Nat} {r17 : Int32} (hN : N0 ≤ B) (c1 : ¬ p0 < 0) (c2 : ¬ (3 : Int32) < p0) (c3 : ¬ p1 < 0) (c4 : ¬ p2 < 0) (c5 : ¬ (s.1 5) = 0) (c6 : p0 ≤ (1 : Int32)) (t7 : gm_to N0 K ra_nm (ra_mt K) d 161 [.ref B] (bM B (mH B (mI s 0 (0 : Int32))) G) sz (.returned none, bM B (mH B s8) G, sz, 0)) (c9 : p0 ≤ (1 : Int32)) (c10 : ¬ p0 = 0) (c11 : ¬ p0 = (1 : Int32)) (c12 : p1 < (s8.1 38)) (c13 : ¬ p0 = 0) (c14 : p0 = (1 : Int32)) (ek15 : p1 = nI k15) (lk15 : k15 < 24) (c16 : p2 ≤ (8 : Int32)) (t18 : gm_to N0 K ra_nm (ra_mt K) d 147 [.long (s8.2.2 29 k15), .int p2] (bM B (mH B s8) G) sz (.returned (some (.int r17)), bM B (mH B s8) G, sz, 0)) (c19 : r17 = 0) : gm_ev N0 K ra_nm (ra_mt K) d (some .int) (gm_I cX12_letter) (gm_lkf (lkX12 false K)) 0 [some (.ref B), some (.int p0), some (.int p1), some (.int p2), none, none] [] (bM B (mH B s) G) sz sl (.returned (some (.int (-1 : Int32))), (bM B (mH B s8) G), sz, sl) := by
  refine gm_ev.aload_n i179_0 rfl ?_
  refine gm_ev.iconst (v := 0) i179_1 (by decide) ?_
  refine gm_ev.putfield (M' := (bM B (mH B (mI s 0 (0 : Int32))) G)) i179_2 rfl (bM_put (j := 0) (fs := mF B s) rfl (Nat.le_of_ble_eq_true rfl) hN (gm_fit_i _) rfl) ?_
  refine gm_ev.iload_n i179_5 rfl ?_
  refine gm_ev.if_lt_f i179_6 c1 ?_
  refine gm_ev.iload_n i179_9 rfl ?_
  refine gm_ev.iconst (v := 3) i179_10 (by decide) ?_
  refine gm_ev.icmp_gt_f i179_11 c2 ?_
  refine gm_ev.iload_n i179_14 rfl ?_
  refine gm_ev.if_lt_f i179_15 c3 ?_
  refine gm_ev.iload_n i179_18 rfl ?_
  refine gm_ev.if_lt_f i179_19 c4 ?_
  refine gm_ev.aload_n i179_22 rfl ?_
  refine gm_ev.getfield (v := .int (s.1 5)) i179_23 rfl (bM_fld (j := 0) (fs := mF B (mI s 0 (0 : Int32))) rfl rfl) ?_
  refine gm_ev.if_eq_f i179_26 c5 ?_
  refine gm_ev.iload_n i179_29 rfl ?_
  refine gm_ev.iconst (v := 1) i179_30 (by decide) ?_
  refine gm_ev.icmp_le_t (tgt := 46) i179_31 (by decide) c6 ?_
  refine gm_ev.aload_n i179_46 rfl ?_
  refine gm_ev.callV gm_mono_run (av := []) (r := []) (ci := 11) (fs := mF B (mI s 0 (0 : Int32))) (bM_get (j := 0) rfl) i179_47 rfl rfl rfl (Nat.le_of_ble_eq_true rfl) t7 ?_
  refine gm_ev.iload_n i179_50 rfl ?_
  refine gm_ev.iconst (v := 1) i179_51 (by decide) ?_
  refine gm_ev.icmp_le_t (tgt := 62) i179_52 (by decide) c9 ?_
  refine gm_ev.iload_n i179_62 rfl ?_
  refine gm_ev.if_ne_t (tgt := 73) i179_63 (by decide) c10 ?_
  refine gm_ev.iload_n i179_73 rfl ?_
  refine gm_ev.iconst (v := 1) i179_74 (by decide) ?_
  refine gm_ev.icmp_ne_t (tgt := 85) i179_75 (by decide) c11 ?_
  refine gm_ev.aload_n i179_85 rfl ?_
  refine gm_ev.getfield (v := .int (s8.1 38)) i179_86 rfl (bM_fld (j := 0) (fs := mF B s8) rfl rfl) ?_
  refine gm_ev.istore (ls' := [some (.ref B), some (.int p0), some (.int p1), some (.int p2), some (.int (s8.1 38)), none]) i179_89 (Nat.le_of_ble_eq_true rfl) rfl ?_
  refine gm_ev.iload_n i179_91 rfl ?_
  refine gm_ev.iload i179_92 rfl ?_
  refine gm_ev.icmp_lt_t (tgt := 99) i179_94 (by decide) c12 ?_
  refine gm_ev.iload_n i179_99 rfl ?_
  refine gm_ev.if_ne_t (tgt := 112) i179_100 (by decide) c13 ?_
  refine gm_ev.iload_n i179_112 rfl ?_
  refine gm_ev.iconst (v := 1) i179_113 (by decide) ?_
  refine gm_ev.icmp_ne_f i179_114 c14 ?_
  refine gm_ev.aload_n i179_117 rfl ?_
  refine gm_ev.getfield (v := .ref (B + 17)) i179_118 rfl (bM_fld (j := 0) (fs := mF B s8) rfl rfl) ?_
  refine gm_ev.iload_n i179_121 rfl ?_
  refine gm_ev.laload i179_122 (bM_al (j := 17) (n := 24) (fl := s8.2.2 29) rfl ek15 lk15 (by decide)) ?_
  refine gm_ev.goto (tgt := 132) i179_123 (by decide) ?_
  refine gm_ev.iload_n i179_132 rfl ?_
  refine gm_ev.bipush (v := 8) i179_133 (by decide) ?_
  refine gm_ev.icmp_le_t (tgt := 143) i179_135 (by decide) c16 ?_
  refine gm_ev.iload_n i179_143 rfl ?_
  refine gm_ev.callS gm_mono_run (av := [.long (s8.2.2 29 k15), .int p2]) (r := []) i179_144 rfl rfl rfl (Nat.le_of_ble_eq_true rfl) t18 ?_
  refine gm_ev.istore (ls' := [some (.ref B), some (.int p0), some (.int p1), some (.int p2), some (.int (s8.1 38)), some (.int r17)]) i179_147 (Nat.le_of_ble_eq_true rfl) rfl ?_
  refine gm_ev.iload i179_149 rfl ?_
  refine gm_ev.if_ne_f i179_151 c19 ?_
  refine gm_ev.iconst (v := -1) i179_154 (by decide) ?_
  refine gm_ev.goto (tgt := 160) i179_155 (by decide) ?_
  exact gm_ev.iret i179_160 rfl
theorem r_letter_0_fffffttttttfft {N0 : Nat} {K : Nat → Nat} {d B : Nat} {s : mS} {G : gm_H} {sz sl : Nat} {p0 : Int32} {p1 : Int32} {p2 : Int32} {s8 : mS} {k15 : Nat} {r17 : Int32} (hN : N0 ≤ B) (c1 : ¬ p0 < 0) (c2 : ¬ (3 : Int32) < p0) (c3 : ¬ p1 < 0) (c4 : ¬ p2 < 0) (c5 : ¬ (s.1 5) = 0) (c6 : p0 ≤ (1 : Int32)) (t7 : gm_to N0 K ra_nm (ra_mt K) d 161 [.ref B] (bM B (mH B (mI s 0 (0 : Int32))) G) sz (.returned none, bM B (mH B s8) G, sz, 0)) (c9 : p0 ≤ (1 : Int32)) (c10 : ¬ p0 = 0) (c11 : ¬ p0 = (1 : Int32)) (c12 : p1 < (s8.1 38)) (c13 : ¬ p0 = 0) (c14 : p0 = (1 : Int32)) (ek15 : p1 = nI k15) (lk15 : k15 < 24) (c16 : ¬ p2 ≤ (8 : Int32)) (t18 : gm_to N0 K ra_nm (ra_mt K) d 147 [.long (s8.2.2 29 k15), .int (8 : Int32)] (bM B (mH B s8) G) sz (.returned (some (.int r17)), bM B (mH B s8) G, sz, 0)) (c19 : ¬ r17 = 0) : gm_ev N0 K ra_nm (ra_mt K) d (some .int) (gm_I cX12_letter) (gm_lkf (lkX12 false K)) 0 [some (.ref B), some (.int p0), some (.int p1), some (.int p2), none, none] [] (bM B (mH B s) G) sz sl (.returned (some (.int r17)), (bM B (mH B s8) G), sz, sl) := by
  refine gm_ev.aload_n i179_0 rfl ?_
  refine gm_ev.iconst (v := 0) i179_1 (by decide) ?_
  refine gm_ev.putfield (M' := (bM B (mH B (mI s 0 (0 : Int32))) G)) i179_2 rfl (bM_put (j := 0) (fs := mF B s) rfl (Nat.le_of_ble_eq_true rfl) hN (gm_fit_i _) rfl) ?_
  refine gm_ev.iload_n i179_5 rfl ?_
  refine gm_ev.if_lt_f i179_6 c1 ?_
  refine gm_ev.iload_n i179_9 rfl ?_
  refine gm_ev.iconst (v := 3) i179_10 (by decide) ?_
  refine gm_ev.icmp_gt_f i179_11 c2 ?_
  refine gm_ev.iload_n i179_14 rfl ?_
  refine gm_ev.if_lt_f i179_15 c3 ?_
  refine gm_ev.iload_n i179_18 rfl ?_
  refine gm_ev.if_lt_f i179_19 c4 ?_
  refine gm_ev.aload_n i179_22 rfl ?_
  refine gm_ev.getfield (v := .int (s.1 5)) i179_23 rfl (bM_fld (j := 0) (fs := mF B (mI s 0 (0 : Int32))) rfl rfl) ?_
  refine gm_ev.if_eq_f i179_26 c5 ?_
  refine gm_ev.iload_n i179_29 rfl ?_
  refine gm_ev.iconst (v := 1) i179_30 (by decide) ?_
  refine gm_ev.icmp_le_t (tgt := 46) i179_31 (by decide) c6 ?_
  refine gm_ev.aload_n i179_46 rfl ?_
  refine gm_ev.callV gm_mono_run (av := []) (r := []) (ci := 11) (fs := mF B (mI s 0 (0 : Int32))) (bM_get (j := 0) rfl) i179_47 rfl rfl rfl (Nat.le_of_ble_eq_true rfl) t7 ?_
  refine gm_ev.iload_n i179_50 rfl ?_
  refine gm_ev.iconst (v := 1) i179_51 (by decide) ?_
  refine gm_ev.icmp_le_t (tgt := 62) i179_52 (by decide) c9 ?_
  refine gm_ev.iload_n i179_62 rfl ?_
  refine gm_ev.if_ne_t (tgt := 73) i179_63 (by decide) c10 ?_
  refine gm_ev.iload_n i179_73 rfl ?_
  refine gm_ev.iconst (v := 1) i179_74 (by decide) ?_
  refine gm_ev.icmp_ne_t (tgt := 85) i179_75 (by decide) c11 ?_
  refine gm_ev.aload_n i179_85 rfl ?_
  refine gm_ev.getfield (v := .int (s8.1 38)) i179_86 rfl (bM_fld (j := 0) (fs := mF B s8) rfl rfl) ?_
  refine gm_ev.istore (ls' := [some (.ref B), some (.int p0), some (.int p1), some (.int p2), some (.int (s8.1 38)), none]) i179_89 (Nat.le_of_ble_eq_true rfl) rfl ?_
  refine gm_ev.iload_n i179_91 rfl ?_
  refine gm_ev.iload i179_92 rfl ?_
  refine gm_ev.icmp_lt_t (tgt := 99) i179_94 (by decide) c12 ?_
  refine gm_ev.iload_n i179_99 rfl ?_
  refine gm_ev.if_ne_t (tgt := 112) i179_100 (by decide) c13 ?_
  refine gm_ev.iload_n i179_112 rfl ?_
  refine gm_ev.iconst (v := 1) i179_113 (by decide) ?_
  refine gm_ev.icmp_ne_f i179_114 c14 ?_
  refine gm_ev.aload_n i179_117 rfl ?_
  refine gm_ev.getfield (v := .ref (B + 17)) i179_118 rfl (bM_fld (j := 0) (fs := mF B s8) rfl rfl) ?_
  refine gm_ev.iload_n i179_121 rfl ?_
  refine gm_ev.laload i179_122 (bM_al (j := 17) (n := 24) (fl := s8.2.2 29) rfl ek15 lk15 (by decide)) ?_
  refine gm_ev.goto (tgt := 132) i179_123 (by decide) ?_
  refine gm_ev.iload_n i179_132 rfl ?_
  refine gm_ev.bipush (v := 8) i179_133 (by decide) ?_
  refine gm_ev.icmp_le_f i179_135 c16 ?_
  refine gm_ev.bipush (v := 8) i179_138 (by decide) ?_
  refine gm_ev.goto (tgt := 144) i179_140 (by decide) ?_
  refine gm_ev.callS gm_mono_run (av := [.long (s8.2.2 29 k15), .int (8 : Int32)]) (r := []) i179_144 rfl rfl rfl (Nat.le_of_ble_eq_true rfl) t18 ?_
  refine gm_ev.istore (ls' := [some (.ref B), some (.int p0), some (.int p1), some (.int p2), some (.int (s8.1 38)), some (.int r17)]) i179_147 (Nat.le_of_ble_eq_true rfl) rfl ?_
  refine gm_ev.iload i179_149 rfl ?_
  refine gm_ev.if_ne_t (tgt := 158) i179_151 (by decide) c19 ?_
  refine gm_ev.iload i179_158 rfl ?_
  exact gm_ev.iret i179_160 rfl
theorem r_letter_0_fffffttttttfff {N0 : Nat} {K : Nat → Nat} {d B : Nat} {s : mS} {G : gm_H} {sz sl : Nat} {p0 : Int32} {p1 : Int32} {p2 : Int32} {s8 : mS} {k15 : Nat} {r17 : Int32} (hN : N0 ≤ B) (c1 : ¬ p0 < 0) (c2 : ¬ (3 : Int32) < p0) (c3 : ¬ p1 < 0) (c4 : ¬ p2 < 0) (c5 : ¬ (s.1 5) = 0) (c6 : p0 ≤ (1 : Int32)) (t7 : gm_to N0 K ra_nm (ra_mt K) d 161 [.ref B] (bM B (mH B (mI s 0 (0 : Int32))) G) sz (.returned none, bM B (mH B s8) G, sz, 0)) (c9 : p0 ≤ (1 : Int32)) (c10 : ¬ p0 = 0) (c11 : ¬ p0 = (1 : Int32)) (c12 : p1 < (s8.1 38)) (c13 : ¬ p0 = 0) (c14 : p0 = (1 : Int32)) (ek15 : p1 = nI k15) (lk15 : k15 < 24) (c16 : ¬ p2 ≤ (8 : Int32)) (t18 : gm_to N0 K ra_nm (ra_mt K) d 147 [.long (s8.2.2 29 k15), .int (8 : Int32)] (bM B (mH B s8) G) sz (.returned (some (.int r17)), bM B (mH B s8) G, sz, 0)) (c19 : r17 = 0) : gm_ev N0 K ra_nm (ra_mt K) d (some .int) (gm_I cX12_letter) (gm_lkf (lkX12 false K)) 0 [some (.ref B), some (.int p0), some (.int p1), some (.int p2), none, none] [] (bM B (mH B s) G) sz sl (.returned (some (.int (-1 : Int32))), (bM B (mH B s8) G), sz, sl) := by
  refine gm_ev.aload_n i179_0 rfl ?_
  refine gm_ev.iconst (v := 0) i179_1 (by decide) ?_
  refine gm_ev.putfield (M' := (bM B (mH B (mI s 0 (0 : Int32))) G)) i179_2 rfl (bM_put (j := 0) (fs := mF B s) rfl (Nat.le_of_ble_eq_true rfl) hN (gm_fit_i _) rfl) ?_
  refine gm_ev.iload_n i179_5 rfl ?_
  refine gm_ev.if_lt_f i179_6 c1 ?_
  refine gm_ev.iload_n i179_9 rfl ?_
  refine gm_ev.iconst (v := 3) i179_10 (by decide) ?_
  refine gm_ev.icmp_gt_f i179_11 c2 ?_
  refine gm_ev.iload_n i179_14 rfl ?_
  refine gm_ev.if_lt_f i179_15 c3 ?_
  refine gm_ev.iload_n i179_18 rfl ?_
  refine gm_ev.if_lt_f i179_19 c4 ?_
  refine gm_ev.aload_n i179_22 rfl ?_
  refine gm_ev.getfield (v := .int (s.1 5)) i179_23 rfl (bM_fld (j := 0) (fs := mF B (mI s 0 (0 : Int32))) rfl rfl) ?_
  refine gm_ev.if_eq_f i179_26 c5 ?_
  refine gm_ev.iload_n i179_29 rfl ?_
  refine gm_ev.iconst (v := 1) i179_30 (by decide) ?_
  refine gm_ev.icmp_le_t (tgt := 46) i179_31 (by decide) c6 ?_
  refine gm_ev.aload_n i179_46 rfl ?_
  refine gm_ev.callV gm_mono_run (av := []) (r := []) (ci := 11) (fs := mF B (mI s 0 (0 : Int32))) (bM_get (j := 0) rfl) i179_47 rfl rfl rfl (Nat.le_of_ble_eq_true rfl) t7 ?_
  refine gm_ev.iload_n i179_50 rfl ?_
  refine gm_ev.iconst (v := 1) i179_51 (by decide) ?_
  refine gm_ev.icmp_le_t (tgt := 62) i179_52 (by decide) c9 ?_
  refine gm_ev.iload_n i179_62 rfl ?_
  refine gm_ev.if_ne_t (tgt := 73) i179_63 (by decide) c10 ?_
  refine gm_ev.iload_n i179_73 rfl ?_
  refine gm_ev.iconst (v := 1) i179_74 (by decide) ?_
  refine gm_ev.icmp_ne_t (tgt := 85) i179_75 (by decide) c11 ?_
  refine gm_ev.aload_n i179_85 rfl ?_
  refine gm_ev.getfield (v := .int (s8.1 38)) i179_86 rfl (bM_fld (j := 0) (fs := mF B s8) rfl rfl) ?_
  refine gm_ev.istore (ls' := [some (.ref B), some (.int p0), some (.int p1), some (.int p2), some (.int (s8.1 38)), none]) i179_89 (Nat.le_of_ble_eq_true rfl) rfl ?_
  refine gm_ev.iload_n i179_91 rfl ?_
  refine gm_ev.iload i179_92 rfl ?_
  refine gm_ev.icmp_lt_t (tgt := 99) i179_94 (by decide) c12 ?_
  refine gm_ev.iload_n i179_99 rfl ?_
  refine gm_ev.if_ne_t (tgt := 112) i179_100 (by decide) c13 ?_
  refine gm_ev.iload_n i179_112 rfl ?_
  refine gm_ev.iconst (v := 1) i179_113 (by decide) ?_
  refine gm_ev.icmp_ne_f i179_114 c14 ?_
  refine gm_ev.aload_n i179_117 rfl ?_
  refine gm_ev.getfield (v := .ref (B + 17)) i179_118 rfl (bM_fld (j := 0) (fs := mF B s8) rfl rfl) ?_
  refine gm_ev.iload_n i179_121 rfl ?_
  refine gm_ev.laload i179_122 (bM_al (j := 17) (n := 24) (fl := s8.2.2 29) rfl ek15 lk15 (by decide)) ?_
  refine gm_ev.goto (tgt := 132) i179_123 (by decide) ?_
  refine gm_ev.iload_n i179_132 rfl ?_
  refine gm_ev.bipush (v := 8) i179_133 (by decide) ?_
  refine gm_ev.icmp_le_f i179_135 c16 ?_
  refine gm_ev.bipush (v := 8) i179_138 (by decide) ?_
  refine gm_ev.goto (tgt := 144) i179_140 (by decide) ?_
  refine gm_ev.callS gm_mono_run (av := [.long (s8.2.2 29 k15), .int (8 : Int32)]) (r := []) i179_144 rfl rfl rfl (Nat.le_of_ble_eq_true rfl) t18 ?_
  refine gm_ev.istore (ls' := [some (.ref B), some (.int p0), some (.int p1), some (.int p2), some (.int (s8.1 38)), some (.int r17)]) i179_147 (Nat.le_of_ble_eq_true rfl) rfl ?_
  refine gm_ev.iload i179_149 rfl ?_
  refine gm_ev.if_ne_f i179_151 c19 ?_
  refine gm_ev.iconst (v := -1) i179_154 (by decide) ?_
  refine gm_ev.goto (tgt := 160) i179_155 (by decide) ?_
  exact gm_ev.iret i179_160 rfl
theorem r_letter_0_ffffftttttftt {N0 : Nat} {K : Nat → Nat} {d B : Nat} {s : mS} {G : gm_H} {sz sl : Nat} {p0 : Int32} {p1 : Int32} {p2 : Int32} {s8 : mS} {k14 : Nat} {r16 : Int32} (hN : N0 ≤ B) (c1 : ¬ p0 < 0) (c2 : ¬ (3 : Int32) < p0) (c3 : ¬ p1 < 0) (c4 : ¬ p2 < 0) (c5 : ¬ (s.1 5) = 0) (c6 : p0 ≤ (1 : Int32)) (t7 : gm_to N0 K ra_nm (ra_mt K) d 161 [.ref B] (bM B (mH B (mI s 0 (0 : Int32))) G) sz (.returned none, bM B (mH B s8) G, sz, 0)) (c9 : p0 ≤ (1 : Int32)) (c10 : ¬ p0 = 0) (c11 : ¬ p0 = (1 : Int32)) (c12 : p1 < (s8.1 38)) (c13 : p0 = 0) (ek14 : p1 = nI k14) (lk14 : k14 < 24) (c15 : p2 ≤ (8 : Int32)) (t17 : gm_to N0 K ra_nm (ra_mt K) d 147 [.long (s8.2.2 35 k14), .int p2] (bM B (mH B s8) G) sz (.returned (some (.int r16)), bM B (mH B s8) G, sz, 0)) (c18 : ¬ r16 = 0) : gm_ev N0 K ra_nm (ra_mt K) d (some .int) (gm_I cX12_letter) (gm_lkf (lkX12 false K)) 0 [some (.ref B), some (.int p0), some (.int p1), some (.int p2), none, none] [] (bM B (mH B s) G) sz sl (.returned (some (.int r16)), (bM B (mH B s8) G), sz, sl) := by
  refine gm_ev.aload_n i179_0 rfl ?_
  refine gm_ev.iconst (v := 0) i179_1 (by decide) ?_
  refine gm_ev.putfield (M' := (bM B (mH B (mI s 0 (0 : Int32))) G)) i179_2 rfl (bM_put (j := 0) (fs := mF B s) rfl (Nat.le_of_ble_eq_true rfl) hN (gm_fit_i _) rfl) ?_
  refine gm_ev.iload_n i179_5 rfl ?_
  refine gm_ev.if_lt_f i179_6 c1 ?_
  refine gm_ev.iload_n i179_9 rfl ?_
  refine gm_ev.iconst (v := 3) i179_10 (by decide) ?_
  refine gm_ev.icmp_gt_f i179_11 c2 ?_
  refine gm_ev.iload_n i179_14 rfl ?_
  refine gm_ev.if_lt_f i179_15 c3 ?_
  refine gm_ev.iload_n i179_18 rfl ?_
  refine gm_ev.if_lt_f i179_19 c4 ?_
  refine gm_ev.aload_n i179_22 rfl ?_
  refine gm_ev.getfield (v := .int (s.1 5)) i179_23 rfl (bM_fld (j := 0) (fs := mF B (mI s 0 (0 : Int32))) rfl rfl) ?_
  refine gm_ev.if_eq_f i179_26 c5 ?_
  refine gm_ev.iload_n i179_29 rfl ?_
  refine gm_ev.iconst (v := 1) i179_30 (by decide) ?_
  refine gm_ev.icmp_le_t (tgt := 46) i179_31 (by decide) c6 ?_
  refine gm_ev.aload_n i179_46 rfl ?_
  refine gm_ev.callV gm_mono_run (av := []) (r := []) (ci := 11) (fs := mF B (mI s 0 (0 : Int32))) (bM_get (j := 0) rfl) i179_47 rfl rfl rfl (Nat.le_of_ble_eq_true rfl) t7 ?_
  refine gm_ev.iload_n i179_50 rfl ?_
  refine gm_ev.iconst (v := 1) i179_51 (by decide) ?_
  refine gm_ev.icmp_le_t (tgt := 62) i179_52 (by decide) c9 ?_
  refine gm_ev.iload_n i179_62 rfl ?_
  refine gm_ev.if_ne_t (tgt := 73) i179_63 (by decide) c10 ?_
  refine gm_ev.iload_n i179_73 rfl ?_
  refine gm_ev.iconst (v := 1) i179_74 (by decide) ?_
  refine gm_ev.icmp_ne_t (tgt := 85) i179_75 (by decide) c11 ?_
  refine gm_ev.aload_n i179_85 rfl ?_
  refine gm_ev.getfield (v := .int (s8.1 38)) i179_86 rfl (bM_fld (j := 0) (fs := mF B s8) rfl rfl) ?_
  refine gm_ev.istore (ls' := [some (.ref B), some (.int p0), some (.int p1), some (.int p2), some (.int (s8.1 38)), none]) i179_89 (Nat.le_of_ble_eq_true rfl) rfl ?_
  refine gm_ev.iload_n i179_91 rfl ?_
  refine gm_ev.iload i179_92 rfl ?_
  refine gm_ev.icmp_lt_t (tgt := 99) i179_94 (by decide) c12 ?_
  refine gm_ev.iload_n i179_99 rfl ?_
  refine gm_ev.if_ne_f i179_100 c13 ?_
  refine gm_ev.aload_n i179_103 rfl ?_
  refine gm_ev.getfield (v := .ref (B + 20)) i179_104 rfl (bM_fld (j := 0) (fs := mF B s8) rfl rfl) ?_
  refine gm_ev.iload_n i179_107 rfl ?_
  refine gm_ev.laload i179_108 (bM_al (j := 20) (n := 24) (fl := s8.2.2 35) rfl ek14 lk14 (by decide)) ?_
  refine gm_ev.goto (tgt := 132) i179_109 (by decide) ?_
  refine gm_ev.iload_n i179_132 rfl ?_
  refine gm_ev.bipush (v := 8) i179_133 (by decide) ?_
  refine gm_ev.icmp_le_t (tgt := 143) i179_135 (by decide) c15 ?_
  refine gm_ev.iload_n i179_143 rfl ?_
  refine gm_ev.callS gm_mono_run (av := [.long (s8.2.2 35 k14), .int p2]) (r := []) i179_144 rfl rfl rfl (Nat.le_of_ble_eq_true rfl) t17 ?_
  refine gm_ev.istore (ls' := [some (.ref B), some (.int p0), some (.int p1), some (.int p2), some (.int (s8.1 38)), some (.int r16)]) i179_147 (Nat.le_of_ble_eq_true rfl) rfl ?_
  refine gm_ev.iload i179_149 rfl ?_
  refine gm_ev.if_ne_t (tgt := 158) i179_151 (by decide) c18 ?_
  refine gm_ev.iload i179_158 rfl ?_
  exact gm_ev.iret i179_160 rfl
theorem r_letter_0_ffffftttttftf {N0 : Nat} {K : Nat → Nat} {d B : Nat} {s : mS} {G : gm_H} {sz sl : Nat} {p0 : Int32} {p1 : Int32} {p2 : Int32} {s8 : mS} {k14 : Nat} {r16 : Int32} (hN : N0 ≤ B) (c1 : ¬ p0 < 0) (c2 : ¬ (3 : Int32) < p0) (c3 : ¬ p1 < 0) (c4 : ¬ p2 < 0) (c5 : ¬ (s.1 5) = 0) (c6 : p0 ≤ (1 : Int32)) (t7 : gm_to N0 K ra_nm (ra_mt K) d 161 [.ref B] (bM B (mH B (mI s 0 (0 : Int32))) G) sz (.returned none, bM B (mH B s8) G, sz, 0)) (c9 : p0 ≤ (1 : Int32)) (c10 : ¬ p0 = 0) (c11 : ¬ p0 = (1 : Int32)) (c12 : p1 < (s8.1 38)) (c13 : p0 = 0) (ek14 : p1 = nI k14) (lk14 : k14 < 24) (c15 : p2 ≤ (8 : Int32)) (t17 : gm_to N0 K ra_nm (ra_mt K) d 147 [.long (s8.2.2 35 k14), .int p2] (bM B (mH B s8) G) sz (.returned (some (.int r16)), bM B (mH B s8) G, sz, 0)) (c18 : r16 = 0) : gm_ev N0 K ra_nm (ra_mt K) d (some .int) (gm_I cX12_letter) (gm_lkf (lkX12 false K)) 0 [some (.ref B), some (.int p0), some (.int p1), some (.int p2), none, none] [] (bM B (mH B s) G) sz sl (.returned (some (.int (-1 : Int32))), (bM B (mH B s8) G), sz, sl) := by
  refine gm_ev.aload_n i179_0 rfl ?_
  refine gm_ev.iconst (v := 0) i179_1 (by decide) ?_
  refine gm_ev.putfield (M' := (bM B (mH B (mI s 0 (0 : Int32))) G)) i179_2 rfl (bM_put (j := 0) (fs := mF B s) rfl (Nat.le_of_ble_eq_true rfl) hN (gm_fit_i _) rfl) ?_
  refine gm_ev.iload_n i179_5 rfl ?_
  refine gm_ev.if_lt_f i179_6 c1 ?_
  refine gm_ev.iload_n i179_9 rfl ?_
  refine gm_ev.iconst (v := 3) i179_10 (by decide) ?_
  refine gm_ev.icmp_gt_f i179_11 c2 ?_
  refine gm_ev.iload_n i179_14 rfl ?_
  refine gm_ev.if_lt_f i179_15 c3 ?_
  refine gm_ev.iload_n i179_18 rfl ?_
  refine gm_ev.if_lt_f i179_19 c4 ?_
  refine gm_ev.aload_n i179_22 rfl ?_
  refine gm_ev.getfield (v := .int (s.1 5)) i179_23 rfl (bM_fld (j := 0) (fs := mF B (mI s 0 (0 : Int32))) rfl rfl) ?_
  refine gm_ev.if_eq_f i179_26 c5 ?_
  refine gm_ev.iload_n i179_29 rfl ?_
  refine gm_ev.iconst (v := 1) i179_30 (by decide) ?_
  refine gm_ev.icmp_le_t (tgt := 46) i179_31 (by decide) c6 ?_
  refine gm_ev.aload_n i179_46 rfl ?_
  refine gm_ev.callV gm_mono_run (av := []) (r := []) (ci := 11) (fs := mF B (mI s 0 (0 : Int32))) (bM_get (j := 0) rfl) i179_47 rfl rfl rfl (Nat.le_of_ble_eq_true rfl) t7 ?_
  refine gm_ev.iload_n i179_50 rfl ?_
  refine gm_ev.iconst (v := 1) i179_51 (by decide) ?_
  refine gm_ev.icmp_le_t (tgt := 62) i179_52 (by decide) c9 ?_
  refine gm_ev.iload_n i179_62 rfl ?_
  refine gm_ev.if_ne_t (tgt := 73) i179_63 (by decide) c10 ?_
  refine gm_ev.iload_n i179_73 rfl ?_
  refine gm_ev.iconst (v := 1) i179_74 (by decide) ?_
  refine gm_ev.icmp_ne_t (tgt := 85) i179_75 (by decide) c11 ?_
  refine gm_ev.aload_n i179_85 rfl ?_
  refine gm_ev.getfield (v := .int (s8.1 38)) i179_86 rfl (bM_fld (j := 0) (fs := mF B s8) rfl rfl) ?_
  refine gm_ev.istore (ls' := [some (.ref B), some (.int p0), some (.int p1), some (.int p2), some (.int (s8.1 38)), none]) i179_89 (Nat.le_of_ble_eq_true rfl) rfl ?_
  refine gm_ev.iload_n i179_91 rfl ?_
  refine gm_ev.iload i179_92 rfl ?_
  refine gm_ev.icmp_lt_t (tgt := 99) i179_94 (by decide) c12 ?_
  refine gm_ev.iload_n i179_99 rfl ?_
  refine gm_ev.if_ne_f i179_100 c13 ?_
  refine gm_ev.aload_n i179_103 rfl ?_
  refine gm_ev.getfield (v := .ref (B + 20)) i179_104 rfl (bM_fld (j := 0) (fs := mF B s8) rfl rfl) ?_
  refine gm_ev.iload_n i179_107 rfl ?_
  refine gm_ev.laload i179_108 (bM_al (j := 20) (n := 24) (fl := s8.2.2 35) rfl ek14 lk14 (by decide)) ?_
  refine gm_ev.goto (tgt := 132) i179_109 (by decide) ?_
  refine gm_ev.iload_n i179_132 rfl ?_
  refine gm_ev.bipush (v := 8) i179_133 (by decide) ?_
  refine gm_ev.icmp_le_t (tgt := 143) i179_135 (by decide) c15 ?_
  refine gm_ev.iload_n i179_143 rfl ?_
  refine gm_ev.callS gm_mono_run (av := [.long (s8.2.2 35 k14), .int p2]) (r := []) i179_144 rfl rfl rfl (Nat.le_of_ble_eq_true rfl) t17 ?_
  refine gm_ev.istore (ls' := [some (.ref B), some (.int p0), some (.int p1), some (.int p2), some (.int (s8.1 38)), some (.int r16)]) i179_147 (Nat.le_of_ble_eq_true rfl) rfl ?_
  refine gm_ev.iload i179_149 rfl ?_
  refine gm_ev.if_ne_f i179_151 c18 ?_
  refine gm_ev.iconst (v := -1) i179_154 (by decide) ?_
  refine gm_ev.goto (tgt := 160) i179_155 (by decide) ?_
  exact gm_ev.iret i179_160 rfl
theorem r_letter_0_ffffftttttfft {N0 : Nat} {K : Nat → Nat} {d B : Nat} {s : mS} {G : gm_H} {sz sl : Nat} {p0 : Int32} {p1 : Int32} {p2 : Int32} {s8 : mS} {k14 : Nat} {r16 : Int32} (hN : N0 ≤ B) (c1 : ¬ p0 < 0) (c2 : ¬ (3 : Int32) < p0) (c3 : ¬ p1 < 0) (c4 : ¬ p2 < 0) (c5 : ¬ (s.1 5) = 0) (c6 : p0 ≤ (1 : Int32)) (t7 : gm_to N0 K ra_nm (ra_mt K) d 161 [.ref B] (bM B (mH B (mI s 0 (0 : Int32))) G) sz (.returned none, bM B (mH B s8) G, sz, 0)) (c9 : p0 ≤ (1 : Int32)) (c10 : ¬ p0 = 0) (c11 : ¬ p0 = (1 : Int32)) (c12 : p1 < (s8.1 38)) (c13 : p0 = 0) (ek14 : p1 = nI k14) (lk14 : k14 < 24) (c15 : ¬ p2 ≤ (8 : Int32)) (t17 : gm_to N0 K ra_nm (ra_mt K) d 147 [.long (s8.2.2 35 k14), .int (8 : Int32)] (bM B (mH B s8) G) sz (.returned (some (.int r16)), bM B (mH B s8) G, sz, 0)) (c18 : ¬ r16 = 0) : gm_ev N0 K ra_nm (ra_mt K) d (some .int) (gm_I cX12_letter) (gm_lkf (lkX12 false K)) 0 [some (.ref B), some (.int p0), some (.int p1), some (.int p2), none, none] [] (bM B (mH B s) G) sz sl (.returned (some (.int r16)), (bM B (mH B s8) G), sz, sl) := by
  refine gm_ev.aload_n i179_0 rfl ?_
  refine gm_ev.iconst (v := 0) i179_1 (by decide) ?_
  refine gm_ev.putfield (M' := (bM B (mH B (mI s 0 (0 : Int32))) G)) i179_2 rfl (bM_put (j := 0) (fs := mF B s) rfl (Nat.le_of_ble_eq_true rfl) hN (gm_fit_i _) rfl) ?_
  refine gm_ev.iload_n i179_5 rfl ?_
  refine gm_ev.if_lt_f i179_6 c1 ?_
  refine gm_ev.iload_n i179_9 rfl ?_
  refine gm_ev.iconst (v := 3) i179_10 (by decide) ?_
  refine gm_ev.icmp_gt_f i179_11 c2 ?_
  refine gm_ev.iload_n i179_14 rfl ?_
  refine gm_ev.if_lt_f i179_15 c3 ?_
  refine gm_ev.iload_n i179_18 rfl ?_
  refine gm_ev.if_lt_f i179_19 c4 ?_
  refine gm_ev.aload_n i179_22 rfl ?_
  refine gm_ev.getfield (v := .int (s.1 5)) i179_23 rfl (bM_fld (j := 0) (fs := mF B (mI s 0 (0 : Int32))) rfl rfl) ?_
  refine gm_ev.if_eq_f i179_26 c5 ?_
  refine gm_ev.iload_n i179_29 rfl ?_
  refine gm_ev.iconst (v := 1) i179_30 (by decide) ?_
  refine gm_ev.icmp_le_t (tgt := 46) i179_31 (by decide) c6 ?_
  refine gm_ev.aload_n i179_46 rfl ?_
  refine gm_ev.callV gm_mono_run (av := []) (r := []) (ci := 11) (fs := mF B (mI s 0 (0 : Int32))) (bM_get (j := 0) rfl) i179_47 rfl rfl rfl (Nat.le_of_ble_eq_true rfl) t7 ?_
  refine gm_ev.iload_n i179_50 rfl ?_
  refine gm_ev.iconst (v := 1) i179_51 (by decide) ?_
  refine gm_ev.icmp_le_t (tgt := 62) i179_52 (by decide) c9 ?_
  refine gm_ev.iload_n i179_62 rfl ?_
  refine gm_ev.if_ne_t (tgt := 73) i179_63 (by decide) c10 ?_
  refine gm_ev.iload_n i179_73 rfl ?_
  refine gm_ev.iconst (v := 1) i179_74 (by decide) ?_
  refine gm_ev.icmp_ne_t (tgt := 85) i179_75 (by decide) c11 ?_
  refine gm_ev.aload_n i179_85 rfl ?_
  refine gm_ev.getfield (v := .int (s8.1 38)) i179_86 rfl (bM_fld (j := 0) (fs := mF B s8) rfl rfl) ?_
  refine gm_ev.istore (ls' := [some (.ref B), some (.int p0), some (.int p1), some (.int p2), some (.int (s8.1 38)), none]) i179_89 (Nat.le_of_ble_eq_true rfl) rfl ?_
  refine gm_ev.iload_n i179_91 rfl ?_
  refine gm_ev.iload i179_92 rfl ?_
  refine gm_ev.icmp_lt_t (tgt := 99) i179_94 (by decide) c12 ?_
  refine gm_ev.iload_n i179_99 rfl ?_
  refine gm_ev.if_ne_f i179_100 c13 ?_
  refine gm_ev.aload_n i179_103 rfl ?_
  refine gm_ev.getfield (v := .ref (B + 20)) i179_104 rfl (bM_fld (j := 0) (fs := mF B s8) rfl rfl) ?_
  refine gm_ev.iload_n i179_107 rfl ?_
  refine gm_ev.laload i179_108 (bM_al (j := 20) (n := 24) (fl := s8.2.2 35) rfl ek14 lk14 (by decide)) ?_
  refine gm_ev.goto (tgt := 132) i179_109 (by decide) ?_
  refine gm_ev.iload_n i179_132 rfl ?_
  refine gm_ev.bipush (v := 8) i179_133 (by decide) ?_
  refine gm_ev.icmp_le_f i179_135 c15 ?_
  refine gm_ev.bipush (v := 8) i179_138 (by decide) ?_
  refine gm_ev.goto (tgt := 144) i179_140 (by decide) ?_
  refine gm_ev.callS gm_mono_run (av := [.long (s8.2.2 35 k14), .int (8 : Int32)]) (r := []) i179_144 rfl rfl rfl (Nat.le_of_ble_eq_true rfl) t17 ?_
  refine gm_ev.istore (ls' := [some (.ref B), some (.int p0), some (.int p1), some (.int p2), some (.int (s8.1 38)), some (.int r16)]) i179_147 (Nat.le_of_ble_eq_true rfl) rfl ?_
  refine gm_ev.iload i179_149 rfl ?_
  refine gm_ev.if_ne_t (tgt := 158) i179_151 (by decide) c18 ?_
  refine gm_ev.iload i179_158 rfl ?_
  exact gm_ev.iret i179_160 rfl
theorem r_letter_0_ffffftttttfff {N0 : Nat} {K : Nat → Nat} {d B : Nat} {s : mS} {G : gm_H} {sz sl : Nat} {p0 : Int32} {p1 : Int32} {p2 : Int32} {s8 : mS} {k14 : Nat} {r16 : Int32} (hN : N0 ≤ B) (c1 : ¬ p0 < 0) (c2 : ¬ (3 : Int32) < p0) (c3 : ¬ p1 < 0) (c4 : ¬ p2 < 0) (c5 : ¬ (s.1 5) = 0) (c6 : p0 ≤ (1 : Int32)) (t7 : gm_to N0 K ra_nm (ra_mt K) d 161 [.ref B] (bM B (mH B (mI s 0 (0 : Int32))) G) sz (.returned none, bM B (mH B s8) G, sz, 0)) (c9 : p0 ≤ (1 : Int32)) (c10 : ¬ p0 = 0) (c11 : ¬ p0 = (1 : Int32)) (c12 : p1 < (s8.1 38)) (c13 : p0 = 0) (ek14 : p1 = nI k14) (lk14 : k14 < 24) (c15 : ¬ p2 ≤ (8 : Int32)) (t17 : gm_to N0 K ra_nm (ra_mt K) d 147 [.long (s8.2.2 35 k14), .int (8 : Int32)] (bM B (mH B s8) G) sz (.returned (some (.int r16)), bM B (mH B s8) G, sz, 0)) (c18 : r16 = 0) : gm_ev N0 K ra_nm (ra_mt K) d (some .int) (gm_I cX12_letter) (gm_lkf (lkX12 false K)) 0 [some (.ref B), some (.int p0), some (.int p1), some (.int p2), none, none] [] (bM B (mH B s) G) sz sl (.returned (some (.int (-1 : Int32))), (bM B (mH B s8) G), sz, sl) := by
  refine gm_ev.aload_n i179_0 rfl ?_
  refine gm_ev.iconst (v := 0) i179_1 (by decide) ?_
  refine gm_ev.putfield (M' := (bM B (mH B (mI s 0 (0 : Int32))) G)) i179_2 rfl (bM_put (j := 0) (fs := mF B s) rfl (Nat.le_of_ble_eq_true rfl) hN (gm_fit_i _) rfl) ?_
  refine gm_ev.iload_n i179_5 rfl ?_
  refine gm_ev.if_lt_f i179_6 c1 ?_
  refine gm_ev.iload_n i179_9 rfl ?_
  refine gm_ev.iconst (v := 3) i179_10 (by decide) ?_
  refine gm_ev.icmp_gt_f i179_11 c2 ?_
  refine gm_ev.iload_n i179_14 rfl ?_
  refine gm_ev.if_lt_f i179_15 c3 ?_
  refine gm_ev.iload_n i179_18 rfl ?_
  refine gm_ev.if_lt_f i179_19 c4 ?_
  refine gm_ev.aload_n i179_22 rfl ?_
  refine gm_ev.getfield (v := .int (s.1 5)) i179_23 rfl (bM_fld (j := 0) (fs := mF B (mI s 0 (0 : Int32))) rfl rfl) ?_
  refine gm_ev.if_eq_f i179_26 c5 ?_
  refine gm_ev.iload_n i179_29 rfl ?_
  refine gm_ev.iconst (v := 1) i179_30 (by decide) ?_
  refine gm_ev.icmp_le_t (tgt := 46) i179_31 (by decide) c6 ?_
  refine gm_ev.aload_n i179_46 rfl ?_
  refine gm_ev.callV gm_mono_run (av := []) (r := []) (ci := 11) (fs := mF B (mI s 0 (0 : Int32))) (bM_get (j := 0) rfl) i179_47 rfl rfl rfl (Nat.le_of_ble_eq_true rfl) t7 ?_
  refine gm_ev.iload_n i179_50 rfl ?_
  refine gm_ev.iconst (v := 1) i179_51 (by decide) ?_
  refine gm_ev.icmp_le_t (tgt := 62) i179_52 (by decide) c9 ?_
  refine gm_ev.iload_n i179_62 rfl ?_
  refine gm_ev.if_ne_t (tgt := 73) i179_63 (by decide) c10 ?_
  refine gm_ev.iload_n i179_73 rfl ?_
  refine gm_ev.iconst (v := 1) i179_74 (by decide) ?_
  refine gm_ev.icmp_ne_t (tgt := 85) i179_75 (by decide) c11 ?_
  refine gm_ev.aload_n i179_85 rfl ?_
  refine gm_ev.getfield (v := .int (s8.1 38)) i179_86 rfl (bM_fld (j := 0) (fs := mF B s8) rfl rfl) ?_
  refine gm_ev.istore (ls' := [some (.ref B), some (.int p0), some (.int p1), some (.int p2), some (.int (s8.1 38)), none]) i179_89 (Nat.le_of_ble_eq_true rfl) rfl ?_
  refine gm_ev.iload_n i179_91 rfl ?_
  refine gm_ev.iload i179_92 rfl ?_
  refine gm_ev.icmp_lt_t (tgt := 99) i179_94 (by decide) c12 ?_
  refine gm_ev.iload_n i179_99 rfl ?_
  refine gm_ev.if_ne_f i179_100 c13 ?_
  refine gm_ev.aload_n i179_103 rfl ?_
  refine gm_ev.getfield (v := .ref (B + 20)) i179_104 rfl (bM_fld (j := 0) (fs := mF B s8) rfl rfl) ?_
  refine gm_ev.iload_n i179_107 rfl ?_
  refine gm_ev.laload i179_108 (bM_al (j := 20) (n := 24) (fl := s8.2.2 35) rfl ek14 lk14 (by decide)) ?_
  refine gm_ev.goto (tgt := 132) i179_109 (by decide) ?_
  refine gm_ev.iload_n i179_132 rfl ?_
  refine gm_ev.bipush (v := 8) i179_133 (by decide) ?_
  refine gm_ev.icmp_le_f i179_135 c15 ?_
  refine gm_ev.bipush (v := 8) i179_138 (by decide) ?_
  refine gm_ev.goto (tgt := 144) i179_140 (by decide) ?_
  refine gm_ev.callS gm_mono_run (av := [.long (s8.2.2 35 k14), .int (8 : Int32)]) (r := []) i179_144 rfl rfl rfl (Nat.le_of_ble_eq_true rfl) t17 ?_
  refine gm_ev.istore (ls' := [some (.ref B), some (.int p0), some (.int p1), some (.int p2), some (.int (s8.1 38)), some (.int r16)]) i179_147 (Nat.le_of_ble_eq_true rfl) rfl ?_
  refine gm_ev.iload i179_149 rfl ?_
  refine gm_ev.if_ne_f i179_151 c18 ?_
  refine gm_ev.iconst (v := -1) i179_154 (by decide) ?_
  refine gm_ev.goto (tgt := 160) i179_155 (by decide) ?_
  exact gm_ev.iret i179_160 rfl
theorem r_letter_0_fffffttttf {N0 : Nat} {K : Nat → Nat} {d B : Nat} {s : mS} {G : gm_H} {sz sl : Nat} {p0 : Int32} {p1 : Int32} {p2 : Int32} {s8 : mS} (hN : N0 ≤ B) (c1 : ¬ p0 < 0) (c2 : ¬ (3 : Int32) < p0) (c3 : ¬ p1 < 0) (c4 : ¬ p2 < 0) (c5 : ¬ (s.1 5) = 0) (c6 : p0 ≤ (1 : Int32)) (t7 : gm_to N0 K ra_nm (ra_mt K) d 161 [.ref B] (bM B (mH B (mI s 0 (0 : Int32))) G) sz (.returned none, bM B (mH B s8) G, sz, 0)) (c9 : p0 ≤ (1 : Int32)) (c10 : ¬ p0 = 0) (c11 : ¬ p0 = (1 : Int32)) (c12 : ¬ p1 < (s8.1 38)) : gm_ev N0 K ra_nm (ra_mt K) d (some .int) (gm_I cX12_letter) (gm_lkf (lkX12 false K)) 0 [some (.ref B), some (.int p0), some (.int p1), some (.int p2), none, none] [] (bM B (mH B s) G) sz sl (.returned (some (.int (-1 : Int32))), (bM B (mH B s8) G), sz, sl) := by
  refine gm_ev.aload_n i179_0 rfl ?_
  refine gm_ev.iconst (v := 0) i179_1 (by decide) ?_
  refine gm_ev.putfield (M' := (bM B (mH B (mI s 0 (0 : Int32))) G)) i179_2 rfl (bM_put (j := 0) (fs := mF B s) rfl (Nat.le_of_ble_eq_true rfl) hN (gm_fit_i _) rfl) ?_
  refine gm_ev.iload_n i179_5 rfl ?_
  refine gm_ev.if_lt_f i179_6 c1 ?_
  refine gm_ev.iload_n i179_9 rfl ?_
  refine gm_ev.iconst (v := 3) i179_10 (by decide) ?_
  refine gm_ev.icmp_gt_f i179_11 c2 ?_
  refine gm_ev.iload_n i179_14 rfl ?_
  refine gm_ev.if_lt_f i179_15 c3 ?_
  refine gm_ev.iload_n i179_18 rfl ?_
  refine gm_ev.if_lt_f i179_19 c4 ?_
  refine gm_ev.aload_n i179_22 rfl ?_
  refine gm_ev.getfield (v := .int (s.1 5)) i179_23 rfl (bM_fld (j := 0) (fs := mF B (mI s 0 (0 : Int32))) rfl rfl) ?_
  refine gm_ev.if_eq_f i179_26 c5 ?_
  refine gm_ev.iload_n i179_29 rfl ?_
  refine gm_ev.iconst (v := 1) i179_30 (by decide) ?_
  refine gm_ev.icmp_le_t (tgt := 46) i179_31 (by decide) c6 ?_
  refine gm_ev.aload_n i179_46 rfl ?_
  refine gm_ev.callV gm_mono_run (av := []) (r := []) (ci := 11) (fs := mF B (mI s 0 (0 : Int32))) (bM_get (j := 0) rfl) i179_47 rfl rfl rfl (Nat.le_of_ble_eq_true rfl) t7 ?_
  refine gm_ev.iload_n i179_50 rfl ?_
  refine gm_ev.iconst (v := 1) i179_51 (by decide) ?_
  refine gm_ev.icmp_le_t (tgt := 62) i179_52 (by decide) c9 ?_
  refine gm_ev.iload_n i179_62 rfl ?_
  refine gm_ev.if_ne_t (tgt := 73) i179_63 (by decide) c10 ?_
  refine gm_ev.iload_n i179_73 rfl ?_
  refine gm_ev.iconst (v := 1) i179_74 (by decide) ?_
  refine gm_ev.icmp_ne_t (tgt := 85) i179_75 (by decide) c11 ?_
  refine gm_ev.aload_n i179_85 rfl ?_
  refine gm_ev.getfield (v := .int (s8.1 38)) i179_86 rfl (bM_fld (j := 0) (fs := mF B s8) rfl rfl) ?_
  refine gm_ev.istore (ls' := [some (.ref B), some (.int p0), some (.int p1), some (.int p2), some (.int (s8.1 38)), none]) i179_89 (Nat.le_of_ble_eq_true rfl) rfl ?_
  refine gm_ev.iload_n i179_91 rfl ?_
  refine gm_ev.iload i179_92 rfl ?_
  refine gm_ev.icmp_lt_f i179_94 c12 ?_
  refine gm_ev.iconst (v := -1) i179_97 (by decide) ?_
  exact gm_ev.iret i179_98 rfl
theorem r_letter_0_ffffftttfttttt {N0 : Nat} {K : Nat → Nat} {d B : Nat} {s : mS} {G : gm_H} {sz sl : Nat} {p0 : Int32} {p1 : Int32} {p2 : Int32} {s8 : mS} {k15 : Nat} {r17 : Int32} (hN : N0 ≤ B) (c1 : ¬ p0 < 0) (c2 : ¬ (3 : Int32) < p0) (c3 : ¬ p1 < 0) (c4 : ¬ p2 < 0) (c5 : ¬ (s.1 5) = 0) (c6 : p0 ≤ (1 : Int32)) (t7 : gm_to N0 K ra_nm (ra_mt K) d 161 [.ref B] (bM B (mH B (mI s 0 (0 : Int32))) G) sz (.returned none, bM B (mH B s8) G, sz, 0)) (c9 : p0 ≤ (1 : Int32)) (c10 : ¬ p0 = 0) (c11 : p0 = (1 : Int32)) (c12 : p1 < (s8.1 30)) (c13 : ¬ p0 = 0) (c14 : ¬ p0 = (1 : Int32)) (ek15 : p1 = nI k15) (lk15 : k15 < 201) (c16 : p2 ≤ (8 : Int32)) (t18 : gm_to N0 K ra_nm (ra_mt K) d 147 [.long (s8.2.2 37 k15), .int p2] (bM B (mH B s8) G) sz (.returned (some (.int r17)), bM B (mH B s8) G, sz, 0)) (c19 : ¬ r17 = 0) : gm_ev N0 K ra_nm (ra_mt K) d (some .int) (gm_I cX12_letter) (gm_lkf (lkX12 false K)) 0 [some (.ref B), some (.int p0), some (.int p1), some (.int p2), none, none] [] (bM B (mH B s) G) sz sl (.returned (some (.int r17)), (bM B (mH B s8) G), sz, sl) := by
  refine gm_ev.aload_n i179_0 rfl ?_
  refine gm_ev.iconst (v := 0) i179_1 (by decide) ?_
  refine gm_ev.putfield (M' := (bM B (mH B (mI s 0 (0 : Int32))) G)) i179_2 rfl (bM_put (j := 0) (fs := mF B s) rfl (Nat.le_of_ble_eq_true rfl) hN (gm_fit_i _) rfl) ?_
  refine gm_ev.iload_n i179_5 rfl ?_
  refine gm_ev.if_lt_f i179_6 c1 ?_
  refine gm_ev.iload_n i179_9 rfl ?_
  refine gm_ev.iconst (v := 3) i179_10 (by decide) ?_
  refine gm_ev.icmp_gt_f i179_11 c2 ?_
  refine gm_ev.iload_n i179_14 rfl ?_
  refine gm_ev.if_lt_f i179_15 c3 ?_
  refine gm_ev.iload_n i179_18 rfl ?_
  refine gm_ev.if_lt_f i179_19 c4 ?_
  refine gm_ev.aload_n i179_22 rfl ?_
  refine gm_ev.getfield (v := .int (s.1 5)) i179_23 rfl (bM_fld (j := 0) (fs := mF B (mI s 0 (0 : Int32))) rfl rfl) ?_
  refine gm_ev.if_eq_f i179_26 c5 ?_
  refine gm_ev.iload_n i179_29 rfl ?_
  refine gm_ev.iconst (v := 1) i179_30 (by decide) ?_
  refine gm_ev.icmp_le_t (tgt := 46) i179_31 (by decide) c6 ?_
  refine gm_ev.aload_n i179_46 rfl ?_
  refine gm_ev.callV gm_mono_run (av := []) (r := []) (ci := 11) (fs := mF B (mI s 0 (0 : Int32))) (bM_get (j := 0) rfl) i179_47 rfl rfl rfl (Nat.le_of_ble_eq_true rfl) t7 ?_
  refine gm_ev.iload_n i179_50 rfl ?_
  refine gm_ev.iconst (v := 1) i179_51 (by decide) ?_
  refine gm_ev.icmp_le_t (tgt := 62) i179_52 (by decide) c9 ?_
  refine gm_ev.iload_n i179_62 rfl ?_
  refine gm_ev.if_ne_t (tgt := 73) i179_63 (by decide) c10 ?_
  refine gm_ev.iload_n i179_73 rfl ?_
  refine gm_ev.iconst (v := 1) i179_74 (by decide) ?_
  refine gm_ev.icmp_ne_f i179_75 c11 ?_
  refine gm_ev.aload_n i179_78 rfl ?_
  refine gm_ev.getfield (v := .int (s8.1 30)) i179_79 rfl (bM_fld (j := 0) (fs := mF B s8) rfl rfl) ?_
  refine gm_ev.goto (tgt := 89) i179_82 (by decide) ?_
  refine gm_ev.istore (ls' := [some (.ref B), some (.int p0), some (.int p1), some (.int p2), some (.int (s8.1 30)), none]) i179_89 (Nat.le_of_ble_eq_true rfl) rfl ?_
  refine gm_ev.iload_n i179_91 rfl ?_
  refine gm_ev.iload i179_92 rfl ?_
  refine gm_ev.icmp_lt_t (tgt := 99) i179_94 (by decide) c12 ?_
  refine gm_ev.iload_n i179_99 rfl ?_
  refine gm_ev.if_ne_t (tgt := 112) i179_100 (by decide) c13 ?_
  refine gm_ev.iload_n i179_112 rfl ?_
  refine gm_ev.iconst (v := 1) i179_113 (by decide) ?_
  refine gm_ev.icmp_ne_t (tgt := 126) i179_114 (by decide) c14 ?_
  refine gm_ev.aload_n i179_126 rfl ?_
  refine gm_ev.getfield (v := .ref (B + 21)) i179_127 rfl (bM_fld (j := 0) (fs := mF B s8) rfl rfl) ?_
  refine gm_ev.iload_n i179_130 rfl ?_
  refine gm_ev.laload i179_131 (bM_al (j := 21) (n := 201) (fl := s8.2.2 37) rfl ek15 lk15 (by decide)) ?_
  refine gm_ev.iload_n i179_132 rfl ?_
  refine gm_ev.bipush (v := 8) i179_133 (by decide) ?_
  refine gm_ev.icmp_le_t (tgt := 143) i179_135 (by decide) c16 ?_
  refine gm_ev.iload_n i179_143 rfl ?_
  refine gm_ev.callS gm_mono_run (av := [.long (s8.2.2 37 k15), .int p2]) (r := []) i179_144 rfl rfl rfl (Nat.le_of_ble_eq_true rfl) t18 ?_
  refine gm_ev.istore (ls' := [some (.ref B), some (.int p0), some (.int p1), some (.int p2), some (.int (s8.1 30)), some (.int r17)]) i179_147 (Nat.le_of_ble_eq_true rfl) rfl ?_
  refine gm_ev.iload i179_149 rfl ?_
  refine gm_ev.if_ne_t (tgt := 158) i179_151 (by decide) c19 ?_
  refine gm_ev.iload i179_158 rfl ?_
  exact gm_ev.iret i179_160 rfl
theorem r_letter_0_ffffftttfttttf {N0 : Nat} {K : Nat → Nat} {d B : Nat} {s : mS} {G : gm_H} {sz sl : Nat} {p0 : Int32} {p1 : Int32} {p2 : Int32} {s8 : mS} {k15 : Nat} {r17 : Int32} (hN : N0 ≤ B) (c1 : ¬ p0 < 0) (c2 : ¬ (3 : Int32) < p0) (c3 : ¬ p1 < 0) (c4 : ¬ p2 < 0) (c5 : ¬ (s.1 5) = 0) (c6 : p0 ≤ (1 : Int32)) (t7 : gm_to N0 K ra_nm (ra_mt K) d 161 [.ref B] (bM B (mH B (mI s 0 (0 : Int32))) G) sz (.returned none, bM B (mH B s8) G, sz, 0)) (c9 : p0 ≤ (1 : Int32)) (c10 : ¬ p0 = 0) (c11 : p0 = (1 : Int32)) (c12 : p1 < (s8.1 30)) (c13 : ¬ p0 = 0) (c14 : ¬ p0 = (1 : Int32)) (ek15 : p1 = nI k15) (lk15 : k15 < 201) (c16 : p2 ≤ (8 : Int32)) (t18 : gm_to N0 K ra_nm (ra_mt K) d 147 [.long (s8.2.2 37 k15), .int p2] (bM B (mH B s8) G) sz (.returned (some (.int r17)), bM B (mH B s8) G, sz, 0)) (c19 : r17 = 0) : gm_ev N0 K ra_nm (ra_mt K) d (some .int) (gm_I cX12_letter) (gm_lkf (lkX12 false K)) 0 [some (.ref B), some (.int p0), some (.int p1), some (.int p2), none, none] [] (bM B (mH B s) G) sz sl (.returned (some (.int (-1 : Int32))), (bM B (mH B s8) G), sz, sl) := by
  refine gm_ev.aload_n i179_0 rfl ?_
  refine gm_ev.iconst (v := 0) i179_1 (by decide) ?_
  refine gm_ev.putfield (M' := (bM B (mH B (mI s 0 (0 : Int32))) G)) i179_2 rfl (bM_put (j := 0) (fs := mF B s) rfl (Nat.le_of_ble_eq_true rfl) hN (gm_fit_i _) rfl) ?_
  refine gm_ev.iload_n i179_5 rfl ?_
  refine gm_ev.if_lt_f i179_6 c1 ?_
  refine gm_ev.iload_n i179_9 rfl ?_
  refine gm_ev.iconst (v := 3) i179_10 (by decide) ?_
  refine gm_ev.icmp_gt_f i179_11 c2 ?_
  refine gm_ev.iload_n i179_14 rfl ?_
  refine gm_ev.if_lt_f i179_15 c3 ?_
  refine gm_ev.iload_n i179_18 rfl ?_
  refine gm_ev.if_lt_f i179_19 c4 ?_
  refine gm_ev.aload_n i179_22 rfl ?_
  refine gm_ev.getfield (v := .int (s.1 5)) i179_23 rfl (bM_fld (j := 0) (fs := mF B (mI s 0 (0 : Int32))) rfl rfl) ?_
  refine gm_ev.if_eq_f i179_26 c5 ?_
  refine gm_ev.iload_n i179_29 rfl ?_
  refine gm_ev.iconst (v := 1) i179_30 (by decide) ?_
  refine gm_ev.icmp_le_t (tgt := 46) i179_31 (by decide) c6 ?_
  refine gm_ev.aload_n i179_46 rfl ?_
  refine gm_ev.callV gm_mono_run (av := []) (r := []) (ci := 11) (fs := mF B (mI s 0 (0 : Int32))) (bM_get (j := 0) rfl) i179_47 rfl rfl rfl (Nat.le_of_ble_eq_true rfl) t7 ?_
  refine gm_ev.iload_n i179_50 rfl ?_
  refine gm_ev.iconst (v := 1) i179_51 (by decide) ?_
  refine gm_ev.icmp_le_t (tgt := 62) i179_52 (by decide) c9 ?_
  refine gm_ev.iload_n i179_62 rfl ?_
  refine gm_ev.if_ne_t (tgt := 73) i179_63 (by decide) c10 ?_
  refine gm_ev.iload_n i179_73 rfl ?_
  refine gm_ev.iconst (v := 1) i179_74 (by decide) ?_
  refine gm_ev.icmp_ne_f i179_75 c11 ?_
  refine gm_ev.aload_n i179_78 rfl ?_
  refine gm_ev.getfield (v := .int (s8.1 30)) i179_79 rfl (bM_fld (j := 0) (fs := mF B s8) rfl rfl) ?_
  refine gm_ev.goto (tgt := 89) i179_82 (by decide) ?_
  refine gm_ev.istore (ls' := [some (.ref B), some (.int p0), some (.int p1), some (.int p2), some (.int (s8.1 30)), none]) i179_89 (Nat.le_of_ble_eq_true rfl) rfl ?_
  refine gm_ev.iload_n i179_91 rfl ?_
  refine gm_ev.iload i179_92 rfl ?_
  refine gm_ev.icmp_lt_t (tgt := 99) i179_94 (by decide) c12 ?_
  refine gm_ev.iload_n i179_99 rfl ?_
  refine gm_ev.if_ne_t (tgt := 112) i179_100 (by decide) c13 ?_
  refine gm_ev.iload_n i179_112 rfl ?_
  refine gm_ev.iconst (v := 1) i179_113 (by decide) ?_
  refine gm_ev.icmp_ne_t (tgt := 126) i179_114 (by decide) c14 ?_
  refine gm_ev.aload_n i179_126 rfl ?_
  refine gm_ev.getfield (v := .ref (B + 21)) i179_127 rfl (bM_fld (j := 0) (fs := mF B s8) rfl rfl) ?_
  refine gm_ev.iload_n i179_130 rfl ?_
  refine gm_ev.laload i179_131 (bM_al (j := 21) (n := 201) (fl := s8.2.2 37) rfl ek15 lk15 (by decide)) ?_
  refine gm_ev.iload_n i179_132 rfl ?_
  refine gm_ev.bipush (v := 8) i179_133 (by decide) ?_
  refine gm_ev.icmp_le_t (tgt := 143) i179_135 (by decide) c16 ?_
  refine gm_ev.iload_n i179_143 rfl ?_
  refine gm_ev.callS gm_mono_run (av := [.long (s8.2.2 37 k15), .int p2]) (r := []) i179_144 rfl rfl rfl (Nat.le_of_ble_eq_true rfl) t18 ?_
  refine gm_ev.istore (ls' := [some (.ref B), some (.int p0), some (.int p1), some (.int p2), some (.int (s8.1 30)), some (.int r17)]) i179_147 (Nat.le_of_ble_eq_true rfl) rfl ?_
  refine gm_ev.iload i179_149 rfl ?_
  refine gm_ev.if_ne_f i179_151 c19 ?_
  refine gm_ev.iconst (v := -1) i179_154 (by decide) ?_
  refine gm_ev.goto (tgt := 160) i179_155 (by decide) ?_
  exact gm_ev.iret i179_160 rfl
theorem r_letter_0_ffffftttftttft {N0 : Nat} {K : Nat → Nat} {d B : Nat} {s : mS} {G : gm_H} {sz sl : Nat} {p0 : Int32} {p1 : Int32} {p2 : Int32} {s8 : mS} {k15 : Nat} {r17 : Int32} (hN : N0 ≤ B) (c1 : ¬ p0 < 0) (c2 : ¬ (3 : Int32) < p0) (c3 : ¬ p1 < 0) (c4 : ¬ p2 < 0) (c5 : ¬ (s.1 5) = 0) (c6 : p0 ≤ (1 : Int32)) (t7 : gm_to N0 K ra_nm (ra_mt K) d 161 [.ref B] (bM B (mH B (mI s 0 (0 : Int32))) G) sz (.returned none, bM B (mH B s8) G, sz, 0)) (c9 : p0 ≤ (1 : Int32)) (c10 : ¬ p0 = 0) (c11 : p0 = (1 : Int32)) (c12 : p1 < (s8.1 30)) (c13 : ¬ p0 = 0) (c14 : ¬ p0 = (1 : Int32)) (ek15 : p1 = nI k15) (lk15 : k15 < 201) (c16 : ¬ p2 ≤ (8 : Int32)) (t18 : gm_to N0 K ra_nm (ra_mt K) d 147 [.long (s8.2.2 37 k15), .int (8 : Int32)] (bM B (mH B s8) G) sz (.returned (some (.int r17)), bM B (mH B s8) G, sz, 0)) (c19 : ¬ r17 = 0) : gm_ev N0 K ra_nm (ra_mt K) d (some .int) (gm_I cX12_letter) (gm_lkf (lkX12 false K)) 0 [some (.ref B), some (.int p0), some (.int p1), some (.int p2), none, none] [] (bM B (mH B s) G) sz sl (.returned (some (.int r17)), (bM B (mH B s8) G), sz, sl) := by
  refine gm_ev.aload_n i179_0 rfl ?_
  refine gm_ev.iconst (v := 0) i179_1 (by decide) ?_
  refine gm_ev.putfield (M' := (bM B (mH B (mI s 0 (0 : Int32))) G)) i179_2 rfl (bM_put (j := 0) (fs := mF B s) rfl (Nat.le_of_ble_eq_true rfl) hN (gm_fit_i _) rfl) ?_
  refine gm_ev.iload_n i179_5 rfl ?_
  refine gm_ev.if_lt_f i179_6 c1 ?_
  refine gm_ev.iload_n i179_9 rfl ?_
  refine gm_ev.iconst (v := 3) i179_10 (by decide) ?_
  refine gm_ev.icmp_gt_f i179_11 c2 ?_
  refine gm_ev.iload_n i179_14 rfl ?_
  refine gm_ev.if_lt_f i179_15 c3 ?_
  refine gm_ev.iload_n i179_18 rfl ?_
  refine gm_ev.if_lt_f i179_19 c4 ?_
  refine gm_ev.aload_n i179_22 rfl ?_
  refine gm_ev.getfield (v := .int (s.1 5)) i179_23 rfl (bM_fld (j := 0) (fs := mF B (mI s 0 (0 : Int32))) rfl rfl) ?_
  refine gm_ev.if_eq_f i179_26 c5 ?_
  refine gm_ev.iload_n i179_29 rfl ?_
  refine gm_ev.iconst (v := 1) i179_30 (by decide) ?_
  refine gm_ev.icmp_le_t (tgt := 46) i179_31 (by decide) c6 ?_
  refine gm_ev.aload_n i179_46 rfl ?_
  refine gm_ev.callV gm_mono_run (av := []) (r := []) (ci := 11) (fs := mF B (mI s 0 (0 : Int32))) (bM_get (j := 0) rfl) i179_47 rfl rfl rfl (Nat.le_of_ble_eq_true rfl) t7 ?_
  refine gm_ev.iload_n i179_50 rfl ?_
  refine gm_ev.iconst (v := 1) i179_51 (by decide) ?_
  refine gm_ev.icmp_le_t (tgt := 62) i179_52 (by decide) c9 ?_
  refine gm_ev.iload_n i179_62 rfl ?_
  refine gm_ev.if_ne_t (tgt := 73) i179_63 (by decide) c10 ?_
  refine gm_ev.iload_n i179_73 rfl ?_
  refine gm_ev.iconst (v := 1) i179_74 (by decide) ?_
  refine gm_ev.icmp_ne_f i179_75 c11 ?_
  refine gm_ev.aload_n i179_78 rfl ?_
  refine gm_ev.getfield (v := .int (s8.1 30)) i179_79 rfl (bM_fld (j := 0) (fs := mF B s8) rfl rfl) ?_
  refine gm_ev.goto (tgt := 89) i179_82 (by decide) ?_
  refine gm_ev.istore (ls' := [some (.ref B), some (.int p0), some (.int p1), some (.int p2), some (.int (s8.1 30)), none]) i179_89 (Nat.le_of_ble_eq_true rfl) rfl ?_
  refine gm_ev.iload_n i179_91 rfl ?_
  refine gm_ev.iload i179_92 rfl ?_
  refine gm_ev.icmp_lt_t (tgt := 99) i179_94 (by decide) c12 ?_
  refine gm_ev.iload_n i179_99 rfl ?_
  refine gm_ev.if_ne_t (tgt := 112) i179_100 (by decide) c13 ?_
  refine gm_ev.iload_n i179_112 rfl ?_
  refine gm_ev.iconst (v := 1) i179_113 (by decide) ?_
  refine gm_ev.icmp_ne_t (tgt := 126) i179_114 (by decide) c14 ?_
  refine gm_ev.aload_n i179_126 rfl ?_
  refine gm_ev.getfield (v := .ref (B + 21)) i179_127 rfl (bM_fld (j := 0) (fs := mF B s8) rfl rfl) ?_
  refine gm_ev.iload_n i179_130 rfl ?_
  refine gm_ev.laload i179_131 (bM_al (j := 21) (n := 201) (fl := s8.2.2 37) rfl ek15 lk15 (by decide)) ?_
  refine gm_ev.iload_n i179_132 rfl ?_
  refine gm_ev.bipush (v := 8) i179_133 (by decide) ?_
  refine gm_ev.icmp_le_f i179_135 c16 ?_
  refine gm_ev.bipush (v := 8) i179_138 (by decide) ?_
  refine gm_ev.goto (tgt := 144) i179_140 (by decide) ?_
  refine gm_ev.callS gm_mono_run (av := [.long (s8.2.2 37 k15), .int (8 : Int32)]) (r := []) i179_144 rfl rfl rfl (Nat.le_of_ble_eq_true rfl) t18 ?_
  refine gm_ev.istore (ls' := [some (.ref B), some (.int p0), some (.int p1), some (.int p2), some (.int (s8.1 30)), some (.int r17)]) i179_147 (Nat.le_of_ble_eq_true rfl) rfl ?_
  refine gm_ev.iload i179_149 rfl ?_
  refine gm_ev.if_ne_t (tgt := 158) i179_151 (by decide) c19 ?_
  refine gm_ev.iload i179_158 rfl ?_
  exact gm_ev.iret i179_160 rfl
