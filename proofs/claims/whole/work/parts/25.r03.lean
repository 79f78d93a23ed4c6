/-! paths through RuleArenaModel, by program -/
theorem r_literal_0_tfff {N0 : Nat} {K : Nat → Nat} {d B : Nat} {s : mS} {G : gm_H} {sz sl : Nat} {p0 : Int32} {k1 : Nat} {r2 : Int32} {s4 : mS} {r6 : Int32} {r8 : Int32} {r11 : Int32} {r14 : Int32} {s16 : mS} (hN : N0 ≤ B) (ek1 : p0 = nI k1) (lk1 : k1 < 144) (t3 : gm_to N0 K ra_nm (ra_mt K) d 128 [.ref B, .int (126 : Int32)] (bM B (mH B (mA s 13 (upd (s.2.1 13) k1 (0 : Int32)))) G) sz (.returned (some (.int r2)), bM B (mH B s4) G, sz, 0)) (c5 : r2 = 0) (t7 : gm_to N0 K ra_nm (ra_mt K) d 123 [.ref B] (bM B (mH B s4) G) sz (.returned (some (.int r6)), bM B (mH B s4) G, sz, 0)) (t9 : gm_to N0 K ra_nm (ra_mt K) d 124 [.int r6] (bM B (mH B s4) G) sz (.returned (some (.int r8)), bM B (mH B s4) G, sz, 0)) (c10 : r8 = 0) (t12 : gm_to N0 K ra_nm (ra_mt K) d 127 [.int r6] (bM B (mH B s4) G) sz (.returned (some (.int r11)), bM B (mH B s4) G, sz, 0)) (c13 : ¬ r11 < 0) (t15 : gm_to N0 K ra_nm (ra_mt K) d 130 [.ref B, .int p0] (bM B (mH B s4) G) sz (.returned (some (.int r14)), bM B (mH B s16) G, sz, 0)) (c17 : r14 = 0) : gm_ev N0 K ra_nm (ra_mt K) d (some .boolean) (gm_I cX12_literal) (gm_lkf (lkX12 false K)) 0 [some (.ref B), some (.int p0), none] [] (bM B (mH B s) G) sz sl (.returned (some (.int (0 : Int32))), (bM B (mH B s16) G), sz, sl) := by
  refine gm_ev.aload_n i132_0 rfl ?_
  refine gm_ev.getfield (v := .ref (B + 5)) i132_1 rfl (bM_fld (j := 0) (fs := mF B s) rfl rfl) ?_
  refine gm_ev.iload_n i132_4 rfl ?_
  refine gm_ev.iconst (v := 0) i132_5 (by decide) ?_
  refine gm_ev.iastore (M' := (bM B (mH B (mA s 13 (upd (s.2.1 13) k1 (0 : Int32)))) G)) i132_6 (bM_asti (j := 5) (n := 144) (f := s.2.1 13) rfl ek1 lk1 (by decide) hN rfl) ?_
  refine gm_ev.aload_n i132_7 rfl ?_
  refine gm_ev.bipush (v := 126) i132_8 (by decide) ?_
  refine gm_ev.callV gm_mono_run (av := [.int (126 : Int32)]) (r := []) (ci := 11) (fs := mF B (mA s 13 (upd (s.2.1 13) k1 (0 : Int32)))) (bM_get (j := 0) rfl) i132_10 rfl rfl rfl (Nat.le_of_ble_eq_true rfl) t3 ?_
  refine gm_ev.if_eq_t (tgt := 29) i132_13 (by decide) c5 ?_
  refine gm_ev.aload_n i132_29 rfl ?_
  refine gm_ev.callV gm_mono_run (av := []) (r := []) (ci := 11) (fs := mF B s4) (bM_get (j := 0) rfl) i132_30 rfl rfl rfl (Nat.le_of_ble_eq_true rfl) t7 ?_
  refine gm_ev.istore_n (ls' := [some (.ref B), some (.int p0), some (.int r6)]) i132_33 (Nat.le_of_ble_eq_true rfl) rfl ?_
  refine gm_ev.iload_n i132_34 rfl ?_
  refine gm_ev.callS gm_mono_run (av := [.int r6]) (r := []) i132_35 rfl rfl rfl (Nat.le_of_ble_eq_true rfl) t9 ?_
  refine gm_ev.if_ne_f i132_38 c10 ?_
  refine gm_ev.iload_n i132_41 rfl ?_
  refine gm_ev.callS gm_mono_run (av := [.int r6]) (r := []) i132_42 rfl rfl rfl (Nat.le_of_ble_eq_true rfl) t12 ?_
  refine gm_ev.if_lt_f i132_45 c13 ?_
  refine gm_ev.aload_n i132_48 rfl ?_
  refine gm_ev.iload_n i132_49 rfl ?_
  refine gm_ev.callV gm_mono_run (av := [.int p0]) (r := []) (ci := 11) (fs := mF B s4) (bM_get (j := 0) rfl) i132_50 rfl rfl rfl (Nat.le_of_ble_eq_true rfl) t15 ?_
  refine gm_ev.if_ne_f i132_53 c17 ?_
  refine gm_ev.iconst (v := 0) i132_56 (by decide) ?_
  exact gm_ev.zret i132_57 rfl (by decide)
theorem r_literal_0_f {N0 : Nat} {K : Nat → Nat} {d B : Nat} {s : mS} {G : gm_H} {sz sl : Nat} {p0 : Int32} {k1 : Nat} {r2 : Int32} {s4 : mS} {k6 : Nat} {r7 : Int32} {s9 : mS} (hN : N0 ≤ B) (ek1 : p0 = nI k1) (lk1 : k1 < 144) (t3 : gm_to N0 K ra_nm (ra_mt K) d 128 [.ref B, .int (126 : Int32)] (bM B (mH B (mA s 13 (upd (s.2.1 13) k1 (0 : Int32)))) G) sz (.returned (some (.int r2)), bM B (mH B s4) G, sz, 0)) (c5 : ¬ r2 = 0) (ek6 : p0 = nI k6) (lk6 : k6 < 144) (t8 : gm_to N0 K ra_nm (ra_mt K) d 130 [.ref B, .int p0] (bM B (mH B (mA s4 13 (upd (s4.2.1 13) k6 (1 : Int32)))) G) sz (.returned (some (.int r7)), bM B (mH B s9) G, sz, 0)) (z10 : r7 = 0 ∨ r7 = 1) : gm_ev N0 K ra_nm (ra_mt K) d (some .boolean) (gm_I cX12_literal) (gm_lkf (lkX12 false K)) 0 [some (.ref B), some (.int p0), none] [] (bM B (mH B s) G) sz sl (.returned (some (.int r7)), (bM B (mH B s9) G), sz, sl) := by
  refine gm_ev.aload_n i132_0 rfl ?_
  refine gm_ev.getfield (v := .ref (B + 5)) i132_1 rfl (bM_fld (j := 0) (fs := mF B s) rfl rfl) ?_
  refine gm_ev.iload_n i132_4 rfl ?_
  refine gm_ev.iconst (v := 0) i132_5 (by decide) ?_
  refine gm_ev.iastore (M' := (bM B (mH B (mA s 13 (upd (s.2.1 13) k1 (0 : Int32)))) G)) i132_6 (bM_asti (j := 5) (n := 144) (f := s.2.1 13) rfl ek1 lk1 (by decide) hN rfl) ?_
  refine gm_ev.aload_n i132_7 rfl ?_
  refine gm_ev.bipush (v := 126) i132_8 (by decide) ?_
  refine gm_ev.callV gm_mono_run (av := [.int (126 : Int32)]) (r := []) (ci := 11) (fs := mF B (mA s 13 (upd (s.2.1 13) k1 (0 : Int32)))) (bM_get (j := 0) rfl) i132_10 rfl rfl rfl (Nat.le_of_ble_eq_true rfl) t3 ?_
  refine gm_ev.if_eq_f i132_13 c5 ?_
  refine gm_ev.aload_n i132_16 rfl ?_
  refine gm_ev.getfield (v := .ref (B + 5)) i132_17 rfl (bM_fld (j := 0) (fs := mF B s4) rfl rfl) ?_
  refine gm_ev.iload_n i132_20 rfl ?_
  refine gm_ev.iconst (v := 1) i132_21 (by decide) ?_
  refine gm_ev.iastore (M' := (bM B (mH B (mA s4 13 (upd (s4.2.1 13) k6 (1 : Int32)))) G)) i132_22 (bM_asti (j := 5) (n := 144) (f := s4.2.1 13) rfl ek6 lk6 (by decide) hN rfl) ?_
  refine gm_ev.aload_n i132_23 rfl ?_
  refine gm_ev.iload_n i132_24 rfl ?_
  refine gm_ev.callV gm_mono_run (av := [.int p0]) (r := []) (ci := 11) (fs := mF B (mA s4 13 (upd (s4.2.1 13) k6 (1 : Int32)))) (bM_get (j := 0) rfl) i132_25 rfl rfl rfl (Nat.le_of_ble_eq_true rfl) t8 ?_
  exact gm_ev.zret i132_28 rfl z10
theorem r_rule_0_ttt_at54 {N0 : Nat} {K : Nat → Nat} {d B : Nat} {s : mS} {G : gm_H} {sz sl : Nat} {R : gm_R} {p0 : Int32} {k1 : Nat} {k2 : Nat} {r3 : Int32} {s5 : mS} {r7 : Int32} {s9 : mS} {r11 : Int32} {s13 : mS} (hN : N0 ≤ B) (ek1 : p0 = nI k1) (lk1 : k1 < 24) (ek2 : ((6 : Int32) * p0) = nI k2) (lk2 : k2 < 144) (t4 : gm_to N0 K ra_nm (ra_mt K) d 130 [.ref B, .int ((6 : Int32) * p0)] (bM B (mH B (mA (mA s 12 (upd (s.2.1 12) k1 (0 : Int32))) 13 (upd (s.2.1 13) k2 (0 : Int32)))) G) sz (.returned (some (.int r3)), bM B (mH B s5) G, sz, 0)) (c6 : ¬ r3 = 0) (t8 : gm_to N0 K ra_nm (ra_mt K) d 128 [.ref B, .int (46 : Int32)] (bM B (mH B s5) G) sz (.returned (some (.int r7)), bM B (mH B s9) G, sz, 0)) (c10 : r7 = 0) (t12 : gm_to N0 K ra_nm (ra_mt K) d 128 [.ref B, .int (58 : Int32)] (bM B (mH B s9) G) sz (.returned (some (.int r11)), bM B (mH B s13) G, sz, 0)) (c14 : ¬ r11 = 0) (k : gm_ev N0 K ra_nm (ra_mt K) d (some .boolean) (gm_I cX12_rule) (gm_lkf (lkX12 false K)) 54 [some (.ref B), some (.int p0), some (.int (1 : Int32))] [] (bM B (mH B s13) G) sz sl R) : gm_ev N0 K ra_nm (ra_mt K) d (some .boolean) (gm_I cX12_rule) (gm_lkf (lkX12 false K)) 0 [some (.ref B), some (.int p0), none] [] (bM B (mH B s) G) sz sl R := by
  refine gm_ev.aload_n i133_0 rfl ?_
  refine gm_ev.getfield (v := .ref (B + 4)) i133_1 rfl (bM_fld (j := 0) (fs := mF B s) rfl rfl) ?_
  refine gm_ev.iload_n i133_4 rfl ?_
  refine gm_ev.iconst (v := 0) i133_5 (by decide) ?_
  refine gm_ev.iastore (M' := (bM B (mH B (mA s 12 (upd (s.2.1 12) k1 (0 : Int32)))) G)) i133_6 (bM_asti (j := 4) (n := 24) (f := s.2.1 12) rfl ek1 lk1 (by decide) hN rfl) ?_
  refine gm_ev.aload_n i133_7 rfl ?_
  refine gm_ev.getfield (v := .ref (B + 5)) i133_8 rfl (bM_fld (j := 0) (fs := mF B (mA s 12 (upd (s.2.1 12) k1 (0 : Int32)))) rfl rfl) ?_
  refine gm_ev.bipush (v := 6) i133_11 (by decide) ?_
  refine gm_ev.iload_n i133_13 rfl ?_
  refine gm_ev.imul i133_14 ?_
  refine gm_ev.iconst (v := 0) i133_15 (by decide) ?_
  refine gm_ev.iastore (M' := (bM B (mH B (mA (mA s 12 (upd (s.2.1 12) k1 (0 : Int32))) 13 (upd (s.2.1 13) k2 (0 : Int32)))) G)) i133_16 (bM_asti (j := 5) (n := 144) (f := s.2.1 13) rfl ek2 lk2 (by decide) hN rfl) ?_
  refine gm_ev.aload_n i133_17 rfl ?_
  refine gm_ev.bipush (v := 6) i133_18 (by decide) ?_
  refine gm_ev.iload_n i133_20 rfl ?_
  refine gm_ev.imul i133_21 ?_
  refine gm_ev.callV gm_mono_run (av := [.int ((6 : Int32) * p0)]) (r := []) (ci := 11) (fs := mF B (mA (mA s 12 (upd (s.2.1 12) k1 (0 : Int32))) 13 (upd (s.2.1 13) k2 (0 : Int32)))) (bM_get (j := 0) rfl) i133_22 rfl rfl rfl (Nat.le_of_ble_eq_true rfl) t4 ?_
  refine gm_ev.if_ne_t (tgt := 30) i133_25 (by decide) c6 ?_
  refine gm_ev.aload_n i133_30 rfl ?_
  refine gm_ev.bipush (v := 46) i133_31 (by decide) ?_
  refine gm_ev.callV gm_mono_run (av := [.int (46 : Int32)]) (r := []) (ci := 11) (fs := mF B s5) (bM_get (j := 0) rfl) i133_33 rfl rfl rfl (Nat.le_of_ble_eq_true rfl) t8 ?_
  refine gm_ev.if_eq_t (tgt := 41) i133_36 (by decide) c10 ?_
  refine gm_ev.aload_n i133_41 rfl ?_
  refine gm_ev.bipush (v := 58) i133_42 (by decide) ?_
  refine gm_ev.callV gm_mono_run (av := [.int (58 : Int32)]) (r := []) (ci := 11) (fs := mF B s9) (bM_get (j := 0) rfl) i133_44 rfl rfl rfl (Nat.le_of_ble_eq_true rfl) t12 ?_
  refine gm_ev.if_ne_t (tgt := 52) i133_47 (by decide) c14 ?_
  refine gm_ev.iconst (v := 1) i133_52 (by decide) ?_
  refine gm_ev.istore_n (ls' := [some (.ref B), some (.int p0), some (.int (1 : Int32))]) i133_53 (Nat.le_of_ble_eq_true rfl) rfl ?_
  exact k
theorem r_rule_0_ttf {N0 : Nat} {K : Nat → Nat} {d B : Nat} {s : mS} {G : gm_H} {sz sl : Nat} {p0 : Int32} {k1 : Nat} {k2 : Nat} {r3 : Int32} {s5 : mS} {r7 : Int32} {s9 : mS} {r11 : Int32} {s13 : mS} (hN : N0 ≤ B) (ek1 : p0 = nI k1) (lk1 : k1 < 24) (ek2 : ((6 : Int32) * p0) = nI k2) (lk2 : k2 < 144) (t4 : gm_to N0 K ra_nm (ra_mt K) d 130 [.ref B, .int ((6 : Int32) * p0)] (bM B (mH B (mA (mA s 12 (upd (s.2.1 12) k1 (0 : Int32))) 13 (upd (s.2.1 13) k2 (0 : Int32)))) G) sz (.returned (some (.int r3)), bM B (mH B s5) G, sz, 0)) (c6 : ¬ r3 = 0) (t8 : gm_to N0 K ra_nm (ra_mt K) d 128 [.ref B, .int (46 : Int32)] (bM B (mH B s5) G) sz (.returned (some (.int r7)), bM B (mH B s9) G, sz, 0)) (c10 : r7 = 0) (t12 : gm_to N0 K ra_nm (ra_mt K) d 128 [.ref B, .int (58 : Int32)] (bM B (mH B s9) G) sz (.returned (some (.int r11)), bM B (mH B s13) G, sz, 0)) (c14 : r11 = 0) : gm_ev N0 K ra_nm (ra_mt K) d (some .boolean) (gm_I cX12_rule) (gm_lkf (lkX12 false K)) 0 [some (.ref B), some (.int p0), none] [] (bM B (mH B s) G) sz sl (.returned (some (.int (0 : Int32))), (bM B (mH B s13) G), sz, sl) := by
  refine gm_ev.aload_n i133_0 rfl ?_
  refine gm_ev.getfield (v := .ref (B + 4)) i133_1 rfl (bM_fld (j := 0) (fs := mF B s) rfl rfl) ?_
  refine gm_ev.iload_n i133_4 rfl ?_
  refine gm_ev.iconst (v := 0) i133_5 (by decide) ?_
  refine gm_ev.iastore (M' := (bM B (mH B (mA s 12 (upd (s.2.1 12) k1 (0 : Int32)))) G)) i133_6 (bM_asti (j := 4) (n := 24) (f := s.2.1 12) rfl ek1 lk1 (by decide) hN rfl) ?_
  refine gm_ev.aload_n i133_7 rfl ?_
  refine gm_ev.getfield (v := .ref (B + 5)) i133_8 rfl (bM_fld (j := 0) (fs := mF B (mA s 12 (upd (s.2.1 12) k1 (0 : Int32)))) rfl rfl) ?_
  refine gm_ev.bipush (v := 6) i133_11 (by decide) ?_
  refine gm_ev.iload_n i133_13 rfl ?_
  refine gm_ev.imul i133_14 ?_
  refine gm_ev.iconst (v := 0) i133_15 (by decide) ?_
  refine gm_ev.iastore (M' := (bM B (mH B (mA (mA s 12 (upd (s.2.1 12) k1 (0 : Int32))) 13 (upd (s.2.1 13) k2 (0 : Int32)))) G)) i133_16 (bM_asti (j := 5) (n := 144) (f := s.2.1 13) rfl ek2 lk2 (by decide) hN rfl) ?_
  refine gm_ev.aload_n i133_17 rfl ?_
  refine gm_ev.bipush (v := 6) i133_18 (by decide) ?_
  refine gm_ev.iload_n i133_20 rfl ?_
  refine gm_ev.imul i133_21 ?_
  refine gm_ev.callV gm_mono_run (av := [.int ((6 : Int32) * p0)]) (r := []) (ci := 11) (fs := mF B (mA (mA s 12 (upd (s.2.1 12) k1 (0 : Int32))) 13 (upd (s.2.1 13) k2 (0 : Int32)))) (bM_get (j := 0) rfl) i133_22 rfl rfl rfl (Nat.le_of_ble_eq_true rfl) t4 ?_
  refine gm_ev.if_ne_t (tgt := 30) i133_25 (by decide) c6 ?_
  refine gm_ev.aload_n i133_30 rfl ?_
  refine gm_ev.bipush (v := 46) i133_31 (by decide) ?_
  refine gm_ev.callV gm_mono_run (av := [.int (46 : Int32)]) (r := []) (ci := 11) (fs := mF B s5) (bM_get (j := 0) rfl) i133_33 rfl rfl rfl (Nat.le_of_ble_eq_true rfl) t8 ?_
  refine gm_ev.if_eq_t (tgt := 41) i133_36 (by decide) c10 ?_
  refine gm_ev.aload_n i133_41 rfl ?_
  refine gm_ev.bipush (v := 58) i133_42 (by decide) ?_
  refine gm_ev.callV gm_mono_run (av := [.int (58 : Int32)]) (r := []) (ci := 11) (fs := mF B s9) (bM_get (j := 0) rfl) i133_44 rfl rfl rfl (Nat.le_of_ble_eq_true rfl) t12 ?_
  refine gm_ev.if_ne_f i133_47 c14 ?_
  refine gm_ev.iconst (v := 0) i133_50 (by decide) ?_
  exact gm_ev.zret i133_51 rfl (by decide)
theorem r_rule_0_tf {N0 : Nat} {K : Nat → Nat} {d B : Nat} {s : mS} {G : gm_H} {sz sl : Nat} {p0 : Int32} {k1 : Nat} {k2 : Nat} {r3 : Int32} {s5 : mS} {r7 : Int32} {s9 : mS} (hN : N0 ≤ B) (ek1 : p0 = nI k1) (lk1 : k1 < 24) (ek2 : ((6 : Int32) * p0) = nI k2) (lk2 : k2 < 144) (t4 : gm_to N0 K ra_nm (ra_mt K) d 130 [.ref B, .int ((6 : Int32) * p0)] (bM B (mH B (mA (mA s 12 (upd (s.2.1 12) k1 (0 : Int32))) 13 (upd (s.2.1 13) k2 (0 : Int32)))) G) sz (.returned (some (.int r3)), bM B (mH B s5) G, sz, 0)) (c6 : ¬ r3 = 0) (t8 : gm_to N0 K ra_nm (ra_mt K) d 128 [.ref B, .int (46 : Int32)] (bM B (mH B s5) G) sz (.returned (some (.int r7)), bM B (mH B s9) G, sz, 0)) (c10 : ¬ r7 = 0) : gm_ev N0 K ra_nm (ra_mt K) d (some .boolean) (gm_I cX12_rule) (gm_lkf (lkX12 false K)) 0 [some (.ref B), some (.int p0), none] [] (bM B (mH B s) G) sz sl (.returned (some (.int (1 : Int32))), (bM B (mH B s9) G), sz, sl) := by
  refine gm_ev.aload_n i133_0 rfl ?_
  refine gm_ev.getfield (v := .ref (B + 4)) i133_1 rfl (bM_fld (j := 0) (fs := mF B s) rfl rfl) ?_
  refine gm_ev.iload_n i133_4 rfl ?_
  refine gm_ev.iconst (v := 0) i133_5 (by decide) ?_
  refine gm_ev.iastore (M' := (bM B (mH B (mA s 12 (upd (s.2.1 12) k1 (0 : Int32)))) G)) i133_6 (bM_asti (j := 4) (n := 24) (f := s.2.1 12) rfl ek1 lk1 (by decide) hN rfl) ?_
  refine gm_ev.aload_n i133_7 rfl ?_
  refine gm_ev.getfield (v := .ref (B + 5)) i133_8 rfl (bM_fld (j := 0) (fs := mF B (mA s 12 (upd (s.2.1 12) k1 (0 : Int32)))) rfl rfl) ?_
  refine gm_ev.bipush (v := 6) i133_11 (by decide) ?_
  refine gm_ev.iload_n i133_13 rfl ?_
  refine gm_ev.imul i133_14 ?_
  refine gm_ev.iconst (v := 0) i133_15 (by decide) ?_
  refine gm_ev.iastore (M' := (bM B (mH B (mA (mA s 12 (upd (s.2.1 12) k1 (0 : Int32))) 13 (upd (s.2.1 13) k2 (0 : Int32)))) G)) i133_16 (bM_asti (j := 5) (n := 144) (f := s.2.1 13) rfl ek2 lk2 (by decide) hN rfl) ?_
  refine gm_ev.aload_n i133_17 rfl ?_
  refine gm_ev.bipush (v := 6) i133_18 (by decide) ?_
  refine gm_ev.iload_n i133_20 rfl ?_
  refine gm_ev.imul i133_21 ?_
  refine gm_ev.callV gm_mono_run (av := [.int ((6 : Int32) * p0)]) (r := []) (ci := 11) (fs := mF B (mA (mA s 12 (upd (s.2.1 12) k1 (0 : Int32))) 13 (upd (s.2.1 13) k2 (0 : Int32)))) (bM_get (j := 0) rfl) i133_22 rfl rfl rfl (Nat.le_of_ble_eq_true rfl) t4 ?_
  refine gm_ev.if_ne_t (tgt := 30) i133_25 (by decide) c6 ?_
  refine gm_ev.aload_n i133_30 rfl ?_
  refine gm_ev.bipush (v := 46) i133_31 (by decide) ?_
  refine gm_ev.callV gm_mono_run (av := [.int (46 : Int32)]) (r := []) (ci := 11) (fs := mF B s5) (bM_get (j := 0) rfl) i133_33 rfl rfl rfl (Nat.le_of_ble_eq_true rfl) t8 ?_
  refine gm_ev.if_eq_f i133_36 c10 ?_
  refine gm_ev.iconst (v := 1) i133_39 (by decide) ?_
  exact gm_ev.zret i133_40 rfl (by decide)
theorem r_rule_0_f {N0 : Nat} {K : Nat → Nat} {d B : Nat} {s : mS} {G : gm_H} {sz sl : Nat} {p0 : Int32} {k1 : Nat} {k2 : Nat} {r3 : Int32} {s5 : mS} (hN : N0 ≤ B) (ek1 : p0 = nI k1) (lk1 : k1 < 24) (ek2 : ((6 : Int32) * p0) = nI k2) (lk2 : k2 < 144) (t4 : gm_to N0 K ra_nm (ra_mt K) d 130 [.ref B, .int ((6 : Int32) * p0)] (bM B (mH B (mA (mA s 12 (upd (s.2.1 12) k1 (0 : Int32))) 13 (upd (s.2.1 13) k2 (0 : Int32)))) G) sz (.returned (some (.int r3)), bM B (mH B s5) G, sz, 0)) (c6 : r3 = 0) : gm_ev N0 K ra_nm (ra_mt K) d (some .boolean) (gm_I cX12_rule) (gm_lkf (lkX12 false K)) 0 [some (.ref B), some (.int p0), none] [] (bM B (mH B s) G) sz sl (.returned (some (.int (0 : Int32))), (bM B (mH B s5) G), sz, sl) := by
  refine gm_ev.aload_n i133_0 rfl ?_
  refine gm_ev.getfield (v := .ref (B + 4)) i133_1 rfl (bM_fld (j := 0) (fs := mF B s) rfl rfl) ?_
  refine gm_ev.iload_n i133_4 rfl ?_
  refine gm_ev.iconst (v := 0) i133_5 (by decide) ?_
  refine gm_ev.iastore (M' := (bM B (mH B (mA s 12 (upd (s.2.1 12) k1 (0 : Int32)))) G)) i133_6 (bM_asti (j := 4) (n := 24) (f := s.2.1 12) rfl ek1 lk1 (by decide) hN rfl) ?_
  refine gm_ev.aload_n i133_7 rfl ?_
  refine gm_ev.getfield (v := .ref (B + 5)) i133_8 rfl (bM_fld (j := 0) (fs := mF B (mA s 12 (upd (s.2.1 12) k1 (0 : Int32)))) rfl rfl) ?_
  refine gm_ev.bipush (v := 6) i133_11 (by decide) ?_
  refine gm_ev.iload_n i133_13 rfl ?_
  refine gm_ev.imul i133_14 ?_
  refine gm_ev.iconst (v := 0) i133_15 (by decide) ?_
  refine gm_ev.iastore (M' := (bM B (mH B (mA (mA s 12 (upd (s.2.1 12) k1 (0 : Int32))) 13 (upd (s.2.1 13) k2 (0 : Int32)))) G)) i133_16 (bM_asti (j := 5) (n := 144) (f := s.2.1 13) rfl ek2 lk2 (by decide) hN rfl) ?_
  refine gm_ev.aload_n i133_17 rfl ?_
  refine gm_ev.bipush (v := 6) i133_18 (by decide) ?_
  refine gm_ev.iload_n i133_20 rfl ?_
  refine gm_ev.imul i133_21 ?_
  refine gm_ev.callV gm_mono_run (av := [.int ((6 : Int32) * p0)]) (r := []) (ci := 11) (fs := mF B (mA (mA s 12 (upd (s.2.1 12) k1 (0 : Int32))) 13 (upd (s.2.1 13) k2 (0 : Int32)))) (bM_get (j := 0) rfl) i133_22 rfl rfl rfl (Nat.le_of_ble_eq_true rfl) t4 ?_
  refine gm_ev.if_ne_f i133_25 c6 ?_
  refine gm_ev.iconst (v := 0) i133_28 (by decide) ?_
  exact gm_ev.zret i133_29 rfl (by decide)
theorem r_rule_54_t {N0 : Nat} {K : Nat → Nat} {d B : Nat} {s : mS} {G : gm_H} {sz sl : Nat} {x1 : Int32} {x2 : Int32} (hN : N0 ≤ B) (c1 : (6 : Int32) ≤ x2) : gm_ev N0 K ra_nm (ra_mt K) d (some .boolean) (gm_I cX12_rule) (gm_lkf (lkX12 false K)) 54 [some (.ref B), some (.int x1), some (.int x2)] [] (bM B (mH B s) G) sz sl (.returned (some (.int (0 : Int32))), (bM B (mH B s) G), sz, sl) := by
  refine gm_ev.iload_n i133_54 rfl ?_
  refine gm_ev.bipush (v := 6) i133_55 (by decide) ?_
  refine gm_ev.icmp_ge_t (tgt := 110) i133_57 (by decide) c1 ?_
  refine gm_ev.iconst (v := 0) i133_110 (by decide) ?_
  exact gm_ev.zret i133_111 rfl (by decide)
theorem r_rule_54_fttt_at54 {N0 : Nat} {K : Nat → Nat} {d B : Nat} {s : mS} {G : gm_H} {sz sl : Nat} {R : gm_R} {x1 : Int32} {x2 : Int32} {r2 : Int32} {s4 : mS} {k6 : Nat} {r7 : Int32} {s9 : mS} {r11 : Int32} {s13 : mS} (hN : N0 ≤ B) (c1 : ¬ (6 : Int32) ≤ x2) (t3 : gm_to N0 K ra_nm (ra_mt K) d 132 [.ref B, .int (((6 : Int32) * x1) + x2)] (bM B (mH B s) G) sz (.returned (some (.int r2)), bM B (mH B s4) G, sz, 0)) (c5 : ¬ r2 = 0) (ek6 : x1 = nI k6) (lk6 : k6 < 24) (t8 : gm_to N0 K ra_nm (ra_mt K) d 128 [.ref B, .int (46 : Int32)] (bM B (mH B (mA s4 12 (upd (s4.2.1 12) k6 x2))) G) sz (.returned (some (.int r7)), bM B (mH B s9) G, sz, 0)) (c10 : r7 = 0) (t12 : gm_to N0 K ra_nm (ra_mt K) d 128 [.ref B, .int (44 : Int32)] (bM B (mH B s9) G) sz (.returned (some (.int r11)), bM B (mH B s13) G, sz, 0)) (c14 : ¬ r11 = 0) (k : gm_ev N0 K ra_nm (ra_mt K) d (some .boolean) (gm_I cX12_rule) (gm_lkf (lkX12 false K)) 54 [some (.ref B), some (.int x1), some (.int (x2 + (1 : Int32)))] [] (bM B (mH B s13) G) sz sl R) : gm_ev N0 K ra_nm (ra_mt K) d (some .boolean) (gm_I cX12_rule) (gm_lkf (lkX12 false K)) 54 [some (.ref B), some (.int x1), some (.int x2)] [] (bM B (mH B s) G) sz sl R := by
  refine gm_ev.iload_n i133_54 rfl ?_
  refine gm_ev.bipush (v := 6) i133_55 (by decide) ?_
  refine gm_ev.icmp_ge_f i133_57 c1 ?_
  refine gm_ev.aload_n i133_60 rfl ?_
  refine gm_ev.bipush (v := 6) i133_61 (by decide) ?_
  refine gm_ev.iload_n i133_63 rfl ?_
  refine gm_ev.imul i133_64 ?_
  refine gm_ev.iload_n i133_65 rfl ?_
  refine gm_ev.iadd i133_66 ?_
  refine gm_ev.callV gm_mono_run (av := [.int (((6 : Int32) * x1) + x2)]) (r := []) (ci := 11) (fs := mF B s) (bM_get (j := 0) rfl) i133_67 rfl rfl rfl (Nat.le_of_ble_eq_true rfl) t3 ?_
  refine gm_ev.if_ne_t (tgt := 75) i133_70 (by decide) c5 ?_
  refine gm_ev.aload_n i133_75 rfl ?_
  refine gm_ev.getfield (v := .ref (B + 4)) i133_76 rfl (bM_fld (j := 0) (fs := mF B s4) rfl rfl) ?_
  refine gm_ev.iload_n i133_79 rfl ?_
  refine gm_ev.iload_n i133_80 rfl ?_
  refine gm_ev.iastore (M' := (bM B (mH B (mA s4 12 (upd (s4.2.1 12) k6 x2))) G)) i133_81 (bM_asti (j := 4) (n := 24) (f := s4.2.1 12) rfl ek6 lk6 (by decide) hN rfl) ?_
  refine gm_ev.aload_n i133_82 rfl ?_
  refine gm_ev.bipush (v := 46) i133_83 (by decide) ?_
  refine gm_ev.callV gm_mono_run (av := [.int (46 : Int32)]) (r := []) (ci := 11) (fs := mF B (mA s4 12 (upd (s4.2.1 12) k6 x2))) (bM_get (j := 0) rfl) i133_85 rfl rfl rfl (Nat.le_of_ble_eq_true rfl) t8 ?_
  refine gm_ev.if_eq_t (tgt := 93) i133_88 (by decide) c10 ?_
  refine gm_ev.aload_n i133_93 rfl ?_
  refine gm_ev.bipush (v := 44) i133_94 (by decide) ?_
  refine gm_ev.callV gm_mono_run (av := [.int (44 : Int32)]) (r := []) (ci := 11) (fs := mF B s9) (bM_get (j := 0) rfl) i133_96 rfl rfl rfl (Nat.le_of_ble_eq_true rfl) t12 ?_
  refine gm_ev.if_ne_t (tgt := 104) i133_99 (by decide) c14 ?_
  refine gm_ev.iinc (v := x2 + (1 : Int32)) (ls' := [some (.ref B), some (.int x1), some (.int (x2 + (1 : Int32)))]) i133_104 rfl (by rfl) rfl ?_
  refine gm_ev.goto (tgt := 54) i133_107 (by decide) ?_
  exact k
theorem r_rule_54_fttf {N0 : Nat} {K : Nat → Nat} {d B : Nat} {s : mS} {G : gm_H} {sz sl : Nat} {x1 : Int32} {x2 : Int32} {r2 : Int32} {s4 : mS} {k6 : Nat} {r7 : Int32} {s9 : mS} {r11 : Int32} {s13 : mS} (hN : N0 ≤ B) (c1 : ¬ (6 : Int32) ≤ x2) (t3 : gm_to N0 K ra_nm (ra_mt K) d 132 [.ref B, .int (((6 : Int32) * x1) + x2)] (bM B (mH B s) G) sz (.returned (some (.int r2)), bM B (mH B s4) G, sz, 0)) (c5 : ¬ r2 = 0) (ek6 : x1 = nI k6) (lk6 : k6 < 24) (t8 : gm_to N0 K ra_nm (ra_mt K) d 128 [.ref B, .int (46 : Int32)] (bM B (mH B (mA s4 12 (upd (s4.2.1 12) k6 x2))) G) sz (.returned (some (.int r7)), bM B (mH B s9) G, sz, 0)) (c10 : r7 = 0) (t12 : gm_to N0 K ra_nm (ra_mt K) d 128 [.ref B, .int (44 : Int32)] (bM B (mH B s9) G) sz (.returned (some (.int r11)), bM B (mH B s13) G, sz, 0)) (c14 : r11 = 0) : gm_ev N0 K ra_nm (ra_mt K) d (some .boolean) (gm_I cX12_rule) (gm_lkf (lkX12 false K)) 54 [some (.ref B), some (.int x1), some (.int x2)] [] (bM B (mH B s) G) sz sl (.returned (some (.int (0 : Int32))), (bM B (mH B s13) G), sz, sl) := by
  refine gm_ev.iload_n i133_54 rfl ?_
  refine gm_ev.bipush (v := 6) i133_55 (by decide) ?_
  refine gm_ev.icmp_ge_f i133_57 c1 ?_
  refine gm_ev.aload_n i133_60 rfl ?_
  refine gm_ev.bipush (v := 6) i133_61 (by decide) ?_
  refine gm_ev.iload_n i133_63 rfl ?_
  refine gm_ev.imul i133_64 ?_
  refine gm_ev.iload_n i133_65 rfl ?_
  refine gm_ev.iadd i133_66 ?_
  refine gm_ev.callV gm_mono_run (av := [.int (((6 : Int32) * x1) + x2)]) (r := []) (ci := 11) (fs := mF B s) (bM_get (j := 0) rfl) i133_67 rfl rfl rfl (Nat.le_of_ble_eq_true rfl) t3 ?_
  refine gm_ev.if_ne_t (tgt := 75) i133_70 (by decide) c5 ?_
  refine gm_ev.aload_n i133_75 rfl ?_
  refine gm_ev.getfield (v := .ref (B + 4)) i133_76 rfl (bM_fld (j := 0) (fs := mF B s4) rfl rfl) ?_
  refine gm_ev.iload_n i133_79 rfl ?_
  refine gm_ev.iload_n i133_80 rfl ?_
  refine gm_ev.iastore (M' := (bM B (mH B (mA s4 12 (upd (s4.2.1 12) k6 x2))) G)) i133_81 (bM_asti (j := 4) (n := 24) (f := s4.2.1 12) rfl ek6 lk6 (by decide) hN rfl) ?_
  refine gm_ev.aload_n i133_82 rfl ?_
  refine gm_ev.bipush (v := 46) i133_83 (by decide) ?_
  refine gm_ev.callV gm_mono_run (av := [.int (46 : Int32)]) (r := []) (ci := 11) (fs := mF B (mA s4 12 (upd (s4.2.1 12) k6 x2))) (bM_get (j := 0) rfl) i133_85 rfl rfl rfl (Nat.le_of_ble_eq_true rfl) t8 ?_
  refine gm_ev.if_eq_t (tgt := 93) i133_88 (by decide) c10 ?_
  refine gm_ev.aload_n i133_93 rfl ?_
  refine gm_ev.bipush (v := 44) i133_94 (by decide) ?_
  refine gm_ev.callV gm_mono_run (av := [.int (44 : Int32)]) (r := []) (ci := 11) (fs := mF B s9) (bM_get (j := 0) rfl) i133_96 rfl rfl rfl (Nat.le_of_ble_eq_true rfl) t12 ?_
  refine gm_ev.if_ne_f i133_99 c14 ?_
  refine gm_ev.iconst (v := 0) i133_102 (by decide) ?_
  exact gm_ev.zret i133_103 rfl (by decide)
theorem r_rule_54_ftf {N0 : Nat} {K : Nat → Nat} {d B : Nat} {s : mS} {G : gm_H} {sz sl : Nat} {x1 : Int32} {x2 : Int32} {r2 : Int32} {s4 : mS} {k6 : Nat} {r7 : Int32} {s9 : mS} (hN : N0 ≤ B) (c1 : ¬ (6 : Int32) ≤ x2) (t3 : gm_to N0 K ra_nm (ra_mt K) d 132 [.ref B, .int (((6 : Int32) * x1) + x2)] (bM B (mH B s) G) sz (.returned (some (.int r2)), bM B (mH B s4) G, sz, 0)) (c5 : ¬ r2 = 0) (ek6 : x1 = nI k6) (lk6 : k6 < 24) (t8 : gm_to N0 K ra_nm (ra_mt K) d 128 [.ref B, .int (46 : Int32)] (bM B (mH B (mA s4 12 (upd (s4.2.1 12) k6 x2))) G) sz (.returned (some (.int r7)), bM B (mH B s9) G, sz, 0)) (c10 : ¬ r7 = 0) : gm_ev N0 K ra_nm (ra_mt K) d (some .boolean) (gm_I cX12_rule) (gm_lkf (lkX12 false K)) 54 [some (.ref B), some (.int x1), some (.int x2)] [] (bM B (mH B s) G) sz sl (.returned (some (.int (1 : Int32))), (bM B (mH B s9) G), sz, sl) := by
  refine gm_ev.iload_n i133_54 rfl ?_
  refine gm_ev.bipush (v := 6) i133_55 (by decide) ?_
  refine gm_ev.icmp_ge_f i133_57 c1 ?_
  refine gm_ev.aload_n i133_60 rfl ?_
  refine gm_ev.bipush (v := 6) i133_61 (by decide) ?_
  refine gm_ev.iload_n i133_63 rfl ?_
  refine gm_ev.imul i133_64 ?_
  refine gm_ev.iload_n i133_65 rfl ?_
  refine gm_ev.iadd i133_66 ?_
  refine gm_ev.callV gm_mono_run (av := [.int (((6 : Int32) * x1) + x2)]) (r := []) (ci := 11) (fs := mF B s) (bM_get (j := 0) rfl) i133_67 rfl rfl rfl (Nat.le_of_ble_eq_true rfl) t3 ?_
  refine gm_ev.if_ne_t (tgt := 75) i133_70 (by decide) c5 ?_
  refine gm_ev.aload_n i133_75 rfl ?_
  refine gm_ev.getfield (v := .ref (B + 4)) i133_76 rfl (bM_fld (j := 0) (fs := mF B s4) rfl rfl) ?_
  refine gm_ev.iload_n i133_79 rfl ?_
  refine gm_ev.iload_n i133_80 rfl ?_
  refine gm_ev.iastore (M' := (bM B (mH B (mA s4 12 (upd (s4.2.1 12) k6 x2))) G)) i133_81 (bM_asti (j := 4) (n := 24) (f := s4.2.1 12) rfl ek6 lk6 (by decide) hN rfl) ?_
  refine gm_ev.aload_n i133_82 rfl ?_
  refine gm_ev.bipush (v := 46) i133_83 (by decide) ?_
  refine gm_ev.callV gm_mono_run (av := [.int (46 : Int32)]) (r := []) (ci := 11) (fs := mF B (mA s4 12 (upd (s4.2.1 12) k6 x2))) (bM_get (j := 0) rfl) i133_85 rfl rfl rfl (Nat.le_of_ble_eq_true rfl) t8 ?_
  refine gm_ev.if_eq_f i133_88 c10 ?_
  refine gm_ev.iconst (v := 1) i133_91 (by decide) ?_
  exact gm_ev.zret i133_92 rfl (by decide)
theorem r_rule_54_ff {N0 : Nat} {K : Nat → Nat} {d B : Nat} {s : mS} {G : gm_H} {sz sl : Nat} {x1 : Int32} {x2 : Int32} {r2 : Int32} {s4 : mS} (hN : N0 ≤ B) (c1 : ¬ (6 : Int32) ≤ x2) (t3 : gm_to N0 K ra_nm (ra_mt K) d 132 [.ref B, .int (((6 : Int32) * x1) + x2)] (bM B (mH B s) G) sz (.returned (some (.int r2)), bM B (mH B s4) G, sz, 0)) (c5 : r2 = 0) : gm_ev N0 K ra_nm (ra_mt K) d (some .boolean) (gm_I cX12_rule) (gm_lkf (lkX12 false K)) 54 [some (.ref B), some (.int x1), some (.int x2)] [] (bM B (mH B s) G) sz sl (.returned (some (.int (0 : Int32))), (bM B (mH B s4) G), sz, sl) := by
  refine gm_ev.iload_n i133_54 rfl ?_
  refine gm_ev.bipush (v := 6) i133_55 (by decide) ?_
  refine gm_ev.icmp_ge_f i133_57 c1 ?_
  refine gm_ev.aload_n i133_60 rfl ?_
  refine gm_ev.bipush (v := 6) i133_61 (by decide) ?_
  refine gm_ev.iload_n i133_63 rfl ?_
  refine gm_ev.imul i133_64 ?_
  refine gm_ev.iload_n i133_65 rfl ?_
  refine gm_ev.iadd i133_66 ?_
  refine gm_ev.callV gm_mono_run (av := [.int (((6 : Int32) * x1) + x2)]) (r := []) (ci := 11) (fs := mF B s) (bM_get (j := 0) rfl) i133_67 rfl rfl rfl (Nat.le_of_ble_eq_true rfl) t3 ?_
  refine gm_ev.if_ne_f i133_70 c5 ?_
  refine gm_ev.iconst (v := 0) i133_73 (by decide) ?_
  exact gm_ev.zret i133_74 rfl (by decide)
theorem r_read_0__at10 {N0 : Nat} {K : Nat → Nat} {d B : Nat} {s : mS} {G : gm_H} {sz sl : Nat} {R : gm_R}  (hN : N0 ≤ B)  (k : gm_ev N0 K ra_nm (ra_mt K) d (some .boolean) (gm_I cX12_read) (gm_lkf (lkX12 false K)) 10 [some (.ref B)] [] (bM B (mH B (mI (mI s 10 (0 : Int32)) 11 (0 : Int32))) G) sz sl R) : gm_ev N0 K ra_nm (ra_mt K) d (some .boolean) (gm_I cX12_read) (gm_lkf (lkX12 false K)) 0 [some (.ref B)] [] (bM B (mH B s) G) sz sl R := by
  refine gm_ev.aload_n i134_0 rfl ?_
  refine gm_ev.iconst (v := 0) i134_1 (by decide) ?_
  refine gm_ev.putfield (M' := (bM B (mH B (mI s 10 (0 : Int32))) G)) i134_2 rfl (bM_put (j := 0) (fs := mF B s) rfl (Nat.le_of_ble_eq_true rfl) hN (gm_fit_i _) rfl) ?_
  refine gm_ev.aload_n i134_5 rfl ?_
  refine gm_ev.iconst (v := 0) i134_6 (by decide) ?_
  refine gm_ev.putfield (M' := (bM B (mH B (mI (mI s 10 (0 : Int32)) 11 (0 : Int32))) G)) i134_7 rfl (bM_put (j := 0) (fs := mF B (mI s 10 (0 : Int32))) rfl (Nat.le_of_ble_eq_true rfl) hN (gm_fit_i _) rfl) ?_
  exact k
theorem r_read_10_tt {N0 : Nat} {K : Nat → Nat} {d B : Nat} {s : mS} {G : gm_H} {sz sl : Nat}  (hN : N0 ≤ B) (c1 : (s.1 10) < (s.1 9)) (c2 : (s.1 11) = (24 : Int32)) : gm_ev N0 K ra_nm (ra_mt K) d (some .boolean) (gm_I cX12_read) (gm_lkf (lkX12 false K)) 10 [some (.ref B)] [] (bM B (mH B s) G) sz sl (.returned (some (.int (0 : Int32))), (bM B (mH B s) G), sz, sl) := by
  refine gm_ev.aload_n i134_10 rfl ?_
  refine gm_ev.getfield (v := .int (s.1 10)) i134_11 rfl (bM_fld (j := 0) (fs := mF B s) rfl rfl) ?_
  refine gm_ev.aload_n i134_14 rfl ?_
  refine gm_ev.getfield (v := .int (s.1 9)) i134_15 rfl (bM_fld (j := 0) (fs := mF B s) rfl rfl) ?_
  refine gm_ev.icmp_lt_t (tgt := 28) i134_18 (by decide) c1 ?_
  refine gm_ev.aload_n i134_28 rfl ?_
  refine gm_ev.getfield (v := .int (s.1 11)) i134_29 rfl (bM_fld (j := 0) (fs := mF B s) rfl rfl) ?_
  refine gm_ev.bipush (v := 24) i134_32 (by decide) ?_
  refine gm_ev.icmp_eq_t (tgt := 48) i134_34 (by decide) c2 ?_
  refine gm_ev.iconst (v := 0) i134_48 (by decide) ?_
  exact gm_ev.zret i134_49 rfl (by decide)
theorem r_read_10_tft_at10 {N0 : Nat} {K : Nat → Nat} {d B : Nat} {s : mS} {G : gm_H} {sz sl : Nat} {R : gm_R} {r3 : Int32} {s5 : mS} (hN : N0 ≤ B) (c1 : (s.1 10) < (s.1 9)) (c2 : ¬ (s.1 11) = (24 : Int32)) (t4 : gm_to N0 K ra_nm (ra_mt K) d 133 [.ref B, .int (s.1 11)] (bM B (mH B s) G) sz (.returned (some (.int r3)), bM B (mH B s5) G, sz, 0)) (c6 : ¬ r3 = 0) (k : gm_ev N0 K ra_nm (ra_mt K) d (some .boolean) (gm_I cX12_read) (gm_lkf (lkX12 false K)) 10 [some (.ref B)] [] (bM B (mH B (mI s5 11 ((s5.1 11) + (1 : Int32)))) G) sz sl R) : gm_ev N0 K ra_nm (ra_mt K) d (some .boolean) (gm_I cX12_read) (gm_lkf (lkX12 false K)) 10 [some (.ref B)] [] (bM B (mH B s) G) sz sl R := by
  refine gm_ev.aload_n i134_10 rfl ?_
  refine gm_ev.getfield (v := .int (s.1 10)) i134_11 rfl (bM_fld (j := 0) (fs := mF B s) rfl rfl) ?_
  refine gm_ev.aload_n i134_14 rfl ?_
  refine gm_ev.getfield (v := .int (s.1 9)) i134_15 rfl (bM_fld (j := 0) (fs := mF B s) rfl rfl) ?_
  refine gm_ev.icmp_lt_t (tgt := 28) i134_18 (by decide) c1 ?_
  refine gm_ev.aload_n i134_28 rfl ?_
  refine gm_ev.getfield (v := .int (s.1 11)) i134_29 rfl (bM_fld (j := 0) (fs := mF B s) rfl rfl) ?_
  refine gm_ev.bipush (v := 24) i134_32 (by decide) ?_
  refine gm_ev.icmp_eq_f i134_34 c2 ?_
  refine gm_ev.aload_n i134_37 rfl ?_
  refine gm_ev.aload_n i134_38 rfl ?_
  refine gm_ev.getfield (v := .int (s.1 11)) i134_39 rfl (bM_fld (j := 0) (fs := mF B s) rfl rfl) ?_
  refine gm_ev.callV gm_mono_run (av := [.int (s.1 11)]) (r := []) (ci := 11) (fs := mF B s) (bM_get (j := 0) rfl) i134_42 rfl rfl rfl (Nat.le_of_ble_eq_true rfl) t4 ?_
  refine gm_ev.if_ne_t (tgt := 50) i134_45 (by decide) c6 ?_
  refine gm_ev.aload_n i134_50 rfl ?_
  refine gm_ev.dup i134_51 rfl ?_
  refine gm_ev.getfield (v := .int (s5.1 11)) i134_52 rfl (bM_fld (j := 0) (fs := mF B s5) rfl rfl) ?_
  refine gm_ev.iconst (v := 1) i134_55 (by decide) ?_
  refine gm_ev.iadd i134_56 ?_
  refine gm_ev.putfield (M' := (bM B (mH B (mI s5 11 ((s5.1 11) + (1 : Int32)))) G)) i134_57 rfl (bM_put (j := 0) (fs := mF B s5) rfl (Nat.le_of_ble_eq_true rfl) hN (gm_fit_i _) rfl) ?_
  refine gm_ev.goto (tgt := 10) i134_60 (by decide) ?_
  exact k
theorem r_read_10_tff {N0 : Nat} {K : Nat → Nat} {d B : Nat} {s : mS} {G : gm_H} {sz sl : Nat} {r3 : Int32} {s5 : mS} (hN : N0 ≤ B) (c1 : (s.1 10) < (s.1 9)) (c2 : ¬ (s.1 11) = (24 : Int32)) (t4 : gm_to N0 K ra_nm (ra_mt K) d 133 [.ref B, .int (s.1 11)] (bM B (mH B s) G) sz (.returned (some (.int r3)), bM B (mH B s5) G, sz, 0)) (c6 : r3 = 0) : gm_ev N0 K ra_nm (ra_mt K) d (some .boolean) (gm_I cX12_read) (gm_lkf (lkX12 false K)) 10 [some (.ref B)] [] (bM B (mH B s) G) sz sl (.returned (some (.int (0 : Int32))), (bM B (mH B s5) G), sz, sl) := by
  refine gm_ev.aload_n i134_10 rfl ?_
  refine gm_ev.getfield (v := .int (s.1 10)) i134_11 rfl (bM_fld (j := 0) (fs := mF B s) rfl rfl) ?_
  refine gm_ev.aload_n i134_14 rfl ?_
  refine gm_ev.getfield (v := .int (s.1 9)) i134_15 rfl (bM_fld (j := 0) (fs := mF B s) rfl rfl) ?_
  refine gm_ev.icmp_lt_t (tgt := 28) i134_18 (by decide) c1 ?_
  refine gm_ev.aload_n i134_28 rfl ?_
  refine gm_ev.getfield (v := .int (s.1 11)) i134_29 rfl (bM_fld (j := 0) (fs := mF B s) rfl rfl) ?_
  refine gm_ev.bipush (v := 24) i134_32 (by decide) ?_
  refine gm_ev.icmp_eq_f i134_34 c2 ?_
  refine gm_ev.aload_n i134_37 rfl ?_
  refine gm_ev.aload_n i134_38 rfl ?_
  refine gm_ev.getfield (v := .int (s.1 11)) i134_39 rfl (bM_fld (j := 0) (fs := mF B s) rfl rfl) ?_
  refine gm_ev.callV gm_mono_run (av := [.int (s.1 11)]) (r := []) (ci := 11) (fs := mF B s) (bM_get (j := 0) rfl) i134_42 rfl rfl rfl (Nat.le_of_ble_eq_true rfl) t4 ?_
  refine gm_ev.if_ne_f i134_45 c6 ?_
  refine gm_ev.iconst (v := 0) i134_48 (by decide) ?_
  exact gm_ev.zret i134_49 rfl (by decide)
theorem r_read_10_ft {N0 : Nat} {K : Nat → Nat} {d B : Nat} {s : mS} {G : gm_H} {sz sl : Nat}  (hN : N0 ≤ B) (c1 : ¬ (s.1 10) < (s.1 9)) (c2 : ¬ (s.1 11) = 0) : gm_ev N0 K ra_nm (ra_mt K) d (some .boolean) (gm_I cX12_read) (gm_lkf (lkX12 false K)) 10 [some (.ref B)] [] (bM B (mH B s) G) sz sl (.returned (some (.int (1 : Int32))), (bM B (mH B s) G), sz, sl) := by
  refine gm_ev.aload_n i134_10 rfl ?_
  refine gm_ev.getfield (v := .int (s.1 10)) i134_11 rfl (bM_fld (j := 0) (fs := mF B s) rfl rfl) ?_
  refine gm_ev.aload_n i134_14 rfl ?_
  refine gm_ev.getfield (v := .int (s.1 9)) i134_15 rfl (bM_fld (j := 0) (fs := mF B s) rfl rfl) ?_
  refine gm_ev.icmp_lt_f i134_18 c1 ?_
  refine gm_ev.aload_n i134_21 rfl ?_
  refine gm_ev.getfield (v := .int (s.1 11)) i134_22 rfl (bM_fld (j := 0) (fs := mF B s) rfl rfl) ?_
  refine gm_ev.if_ne_t (tgt := 63) i134_25 (by decide) c2 ?_
  refine gm_ev.iconst (v := 1) i134_63 (by decide) ?_
  exact gm_ev.zret i134_64 rfl (by decide)
theorem r_read_10_fft {N0 : Nat} {K : Nat → Nat} {d B : Nat} {s : mS} {G : gm_H} {sz sl : Nat}  (hN : N0 ≤ B) (c1 : ¬ (s.1 10) < (s.1 9)) (c2 : (s.1 11) = 0) (c3 : (s.1 11) = (24 : Int32)) : gm_ev N0 K ra_nm (ra_mt K) d (some .boolean) (gm_I cX12_read) (gm_lkf (lkX12 false K)) 10 [some (.ref B)] [] (bM B (mH B s) G) sz sl (.returned (some (.int (0 : Int32))), (bM B (mH B s) G), sz, sl) := by
  refine gm_ev.aload_n i134_10 rfl ?_
  refine gm_ev.getfield (v := .int (s.1 10)) i134_11 rfl (bM_fld (j := 0) (fs := mF B s) rfl rfl) ?_
  refine gm_ev.aload_n i134_14 rfl ?_
  refine gm_ev.getfield (v := .int (s.1 9)) i134_15 rfl (bM_fld (j := 0) (fs := mF B s) rfl rfl) ?_
  refine gm_ev.icmp_lt_f i134_18 c1 ?_
  refine gm_ev.aload_n i134_21 rfl ?_
  refine gm_ev.getfield (v := .int (s.1 11)) i134_22 rfl (bM_fld (j := 0) (fs := mF B s) rfl rfl) ?_
  refine gm_ev.if_ne_f i134_25 c2 ?_
  refine gm_ev.aload_n i134_28 rfl ?_
  refine gm_ev.getfield (v := .int (s.1 11)) i134_29 rfl (bM_fld (j := 0) (fs := mF B s) rfl rfl) ?_
  refine gm_ev.bipush (v := 24) i134_32 (by decide) ?_
  refine gm_ev.icmp_eq_t (tgt := 48) i134_34 (by decide) c3 ?_
  refine gm_ev.iconst (v := 0) i134_48 (by decide) ?_
  exact gm_ev.zret i134_49 rfl (by decide)
theorem r_read_10_ffft_at10 {N0 : Nat} {K : Nat → Nat} {d B : Nat} {s : mS} {G : gm_H} {sz sl : Nat} {R : gm_R} {r4 : Int32} {s6 : mS} (hN : N0 ≤ B) (c1 : ¬ (s.1 10) < (s.1 9)) (c2 : (s.1 11) = 0) (c3 : ¬ (s.1 11) = (24 : Int32)) (t5 : gm_to N0 K ra_nm (ra_mt K) d 133 [.ref B, .int (s.1 11)] (bM B (mH B s) G) sz (.returned (some (.int r4)), bM B (mH B s6) G, sz, 0)) (c7 : ¬ r4 = 0) (k : gm_ev N0 K ra_nm (ra_mt K) d (some .boolean) (gm_I cX12_read) (gm_lkf (lkX12 false K)) 10 [some (.ref B)] [] (bM B (mH B (mI s6 11 ((s6.1 11) + (1 : Int32)))) G) sz sl R) : gm_ev N0 K ra_nm (ra_mt K) d (some .boolean) (gm_I cX12_read) (gm_lkf (lkX12 false K)) 10 [some (.ref B)] [] (bM B (mH B s) G) sz sl R := by
  refine gm_ev.aload_n i134_10 rfl ?_
  refine gm_ev.getfield (v := .int (s.1 10)) i134_11 rfl (bM_fld (j := 0) (fs := mF B s) rfl rfl) ?_
  refine gm_ev.aload_n i134_14 rfl ?_
  refine gm_ev.getfield (v := .int (s.1 9)) i134_15 rfl (bM_fld (j := 0) (fs := mF B s) rfl rfl) ?_
  refine gm_ev.icmp_lt_f i134_18 c1 ?_
  refine gm_ev.aload_n i134_21 rfl ?_
  refine gm_ev.getfield (v := .int (s.1 11)) i134_22 rfl (bM_fld (j := 0) (fs := mF B s) rfl rfl) ?_
  refine gm_ev.if_ne_f i134_25 c2 ?_
  refine gm_ev.aload_n i134_28 rfl ?_
  refine gm_ev.getfield (v := .int (s.1 11)) i134_29 rfl (bM_fld (j := 0) (fs := mF B s) rfl rfl) ?_
  refine gm_ev.bipush (v := 24) i134_32 (by decide) ?_
  refine gm_ev.icmp_eq_f i134_34 c3 ?_
  refine gm_ev.aload_n i134_37 rfl ?_
  refine gm_ev.aload_n i134_38 rfl ?_
  refine gm_ev.getfield (v := .int (s.1 11)) i134_39 rfl (bM_fld (j := 0) (fs := mF B s) rfl rfl) ?_
  refine gm_ev.callV gm_mono_run (av := [.int (s.1 11)]) (r := []) (ci := 11) (fs := mF B s) (bM_get (j := 0) rfl) i134_42 rfl rfl rfl (Nat.le_of_ble_eq_true rfl) t5 ?_
  refine gm_ev.if_ne_t (tgt := 50) i134_45 (by decide) c7 ?_
  refine gm_ev.aload_n i134_50 rfl ?_
  refine gm_ev.dup i134_51 rfl ?_
  refine gm_ev.getfield (v := .int (s6.1 11)) i134_52 rfl (bM_fld (j := 0) (fs := mF B s6) rfl rfl) ?_
  refine gm_ev.iconst (v := 1) i134_55 (by decide) ?_
  refine gm_ev.iadd i134_56 ?_
  refine gm_ev.putfield (M' := (bM B (mH B (mI s6 11 ((s6.1 11) + (1 : Int32)))) G)) i134_57 rfl (bM_put (j := 0) (fs := mF B s6) rfl (Nat.le_of_ble_eq_true rfl) hN (gm_fit_i _) rfl) ?_
  refine gm_ev.goto (tgt := 10) i134_60 (by decide) ?_
  exact k
theorem r_read_10_ffff {N0 : Nat} {K : Nat → Nat} {d B : Nat} {s : mS} {G : gm_H} {sz sl : Nat} {r4 : Int32} {s6 : mS} (hN : N0 ≤ B) (c1 : ¬ (s.1 10) < (s.1 9)) (c2 : (s.1 11) = 0) (c3 : ¬ (s.1 11) = (24 : Int32)) (t5 : gm_to N0 K ra_nm (ra_mt K) d 133 [.ref B, .int (s.1 11)] (bM B (mH B s) G) sz (.returned (some (.int r4)), bM B (mH B s6) G, sz, 0)) (c7 : r4 = 0) : gm_ev N0 K ra_nm (ra_mt K) d (some .boolean) (gm_I cX12_read) (gm_lkf (lkX12 false K)) 10 [some (.ref B)] [] (bM B (mH B s) G) sz sl (.returned (some (.int (0 : Int32))), (bM B (mH B s6) G), sz, sl) := by
  refine gm_ev.aload_n i134_10 rfl ?_
  refine gm_ev.getfield (v := .int (s.1 10)) i134_11 rfl (bM_fld (j := 0) (fs := mF B s) rfl rfl) ?_
  refine gm_ev.aload_n i134_14 rfl ?_
  refine gm_ev.getfield (v := .int (s.1 9)) i134_15 rfl (bM_fld (j := 0) (fs := mF B s) rfl rfl) ?_
  refine gm_ev.icmp_lt_f i134_18 c1 ?_
  refine gm_ev.aload_n i134_21 rfl ?_
  refine gm_ev.getfield (v := .int (s.1 11)) i134_22 rfl (bM_fld (j := 0) (fs := mF B s) rfl rfl) ?_
  refine gm_ev.if_ne_f i134_25 c2 ?_
  refine gm_ev.aload_n i134_28 rfl ?_
  refine gm_ev.getfield (v := .int (s.1 11)) i134_29 rfl (bM_fld (j := 0) (fs := mF B s) rfl rfl) ?_
  refine gm_ev.bipush (v := 24) i134_32 (by decide) ?_
  refine gm_ev.icmp_eq_f i134_34 c3 ?_
  refine gm_ev.aload_n i134_37 rfl ?_
  refine gm_ev.aload_n i134_38 rfl ?_
  refine gm_ev.getfield (v := .int (s.1 11)) i134_39 rfl (bM_fld (j := 0) (fs := mF B s) rfl rfl) ?_
  refine gm_ev.callV gm_mono_run (av := [.int (s.1 11)]) (r := []) (ci := 11) (fs := mF B s) (bM_get (j := 0) rfl) i134_42 rfl rfl rfl (Nat.le_of_ble_eq_true rfl) t5 ?_
  refine gm_ev.if_ne_f i134_45 c7 ?_
  refine gm_ev.iconst (v := 0) i134_48 (by decide) ?_
  exact gm_ev.zret i134_49 rfl (by decide)
theorem r_bits_0__at7 {N0 : Nat} {K : Nat → Nat} {d B : Nat} {s : mS} {G : gm_H} {sz sl : Nat} {R : gm_R} {p0 : Int32} {p1 : Int32} (hN : N0 ≤ B)  (k : gm_ev N0 K ra_nm (ra_mt K) d (some .int) (gm_I cX12_bits) (gm_lkf (lkX12 false K)) 7 [some (.ref B), some (.int p0), some (.int p1), some (.int (0 : Int32)), some (.int ((3 : Int32) * p0)), none] [] (bM B (mH B s) G) sz sl R) : gm_ev N0 K ra_nm (ra_mt K) d (some .int) (gm_I cX12_bits) (gm_lkf (lkX12 false K)) 0 [some (.ref B), some (.int p0), some (.int p1), none, none, none] [] (bM B (mH B s) G) sz sl R := by
  refine gm_ev.iconst (v := 0) i135_0 (by decide) ?_
  refine gm_ev.istore_n (ls' := [some (.ref B), some (.int p0), some (.int p1), some (.int (0 : Int32)), none, none]) i135_1 (Nat.le_of_ble_eq_true rfl) rfl ?_
  refine gm_ev.iconst (v := 3) i135_2 (by decide) ?_
  refine gm_ev.iload_n i135_3 rfl ?_
  refine gm_ev.imul i135_4 ?_
  refine gm_ev.istore (ls' := [some (.ref B), some (.int p0), some (.int p1), some (.int (0 : Int32)), some (.int ((3 : Int32) * p0)), none]) i135_5 (Nat.le_of_ble_eq_true rfl) rfl ?_
  exact k
theorem r_bits_7_t {N0 : Nat} {K : Nat → Nat} {d B : Nat} {s : mS} {G : gm_H} {sz sl : Nat} {x1 : Int32} {x2 : Int32} {x3 : Int32} {x4 : Int32} (hN : N0 ≤ B) (c1 : (((3 : Int32) * x1) + x2) ≤ x4) : gm_ev N0 K ra_nm (ra_mt K) d (some .int) (gm_I cX12_bits) (gm_lkf (lkX12 false K)) 7 [some (.ref B), some (.int x1), some (.int x2), some (.int x3), some (.int x4), none] [] (bM B (mH B s) G) sz sl (.returned (some (.int x3)), (bM B (mH B s) G), sz, sl) := by
  refine gm_ev.iload i135_7 rfl ?_
  refine gm_ev.iconst (v := 3) i135_9 (by decide) ?_
  refine gm_ev.iload_n i135_10 rfl ?_
  refine gm_ev.imul i135_11 ?_
  refine gm_ev.iload_n i135_12 rfl ?_
  refine gm_ev.iadd i135_13 ?_
  refine gm_ev.icmp_ge_t (tgt := 84) i135_14 (by decide) c1 ?_
  refine gm_ev.iload_n i135_84 rfl ?_
  exact gm_ev.iret i135_85 rfl
theorem r_bits_7_f_at23 {N0 : Nat} {K : Nat → Nat} {d B : Nat} {s : mS} {G : gm_H} {sz sl : Nat} {R : gm_R} {x1 : Int32} {x2 : Int32} {x3 : Int32} {x4 : Int32} (hN : N0 ≤ B) (c1 : ¬ (((3 : Int32) * x1) + x2) ≤ x4) (k : gm_ev N0 K ra_nm (ra_mt K) d (some .int) (gm_I cX12_bits) (gm_lkf (lkX12 false K)) 23 [some (.ref B), some (.int x1), some (.int x2), some (.int x3), some (.int x4), some (.int ((3 : Int32) * x4))] [] (bM B (mH B s) G) sz sl R) : gm_ev N0 K ra_nm (ra_mt K) d (some .int) (gm_I cX12_bits) (gm_lkf (lkX12 false K)) 7 [some (.ref B), some (.int x1), some (.int x2), some (.int x3), some (.int x4), none] [] (bM B (mH B s) G) sz sl R := by
  refine gm_ev.iload i135_7 rfl ?_
  refine gm_ev.iconst (v := 3) i135_9 (by decide) ?_
  refine gm_ev.iload_n i135_10 rfl ?_
  refine gm_ev.imul i135_11 ?_
  refine gm_ev.iload_n i135_12 rfl ?_
  refine gm_ev.iadd i135_13 ?_
  refine gm_ev.icmp_ge_f i135_14 c1 ?_
  refine gm_ev.iconst (v := 3) i135_17 (by decide) ?_
  refine gm_ev.iload i135_18 rfl ?_
  refine gm_ev.imul i135_20 ?_
  refine gm_ev.istore (ls' := [some (.ref B), some (.int x1), some (.int x2), some (.int x3), some (.int x4), some (.int ((3 : Int32) * x4))]) i135_21 (Nat.le_of_ble_eq_true rfl) rfl ?_
  exact k
theorem r_bits_23_t_at7 {N0 : Nat} {K : Nat → Nat} {d B : Nat} {s : mS} {G : gm_H} {sz sl : Nat} {R : gm_R} {x1 : Int32} {x2 : Int32} {x3 : Int32} {x4 : Int32} {x5 : Int32} {k1 : Nat} (hN : N0 ≤ B) (ek1 : x4 = nI k1) (lk1 : k1 < 432) (c2 : (((3 : Int32) * x4) + (s.2.1 16 k1)) ≤ x5) (k : gm_ev N0 K ra_nm (ra_mt K) d (some .int) (gm_I cX12_bits) (gm_lkf (lkX12 false K)) 7 [some (.ref B), some (.int x1), some (.int x2), some (.int x3), some (.int (x4 + (1 : Int32))), none] [] (bM B (mH B s) G) sz sl R) : gm_ev N0 K ra_nm (ra_mt K) d (some .int) (gm_I cX12_bits) (gm_lkf (lkX12 false K)) 23 [some (.ref B), some (.int x1), some (.int x2), some (.int x3), some (.int x4), some (.int x5)] [] (bM B (mH B s) G) sz sl R := by
  refine gm_ev.iload i135_23 rfl ?_
  refine gm_ev.iconst (v := 3) i135_25 (by decide) ?_
  refine gm_ev.iload i135_26 rfl ?_
  refine gm_ev.imul i135_28 ?_
  refine gm_ev.aload_n i135_29 rfl ?_
  refine gm_ev.getfield (v := .ref (B + 8)) i135_30 rfl (bM_fld (j := 0) (fs := mF B s) rfl rfl) ?_
  refine gm_ev.iload i135_33 rfl ?_
  refine gm_ev.iaload i135_35 (bM_ai (j := 8) (n := 432) (f := s.2.1 16) rfl ek1 lk1 (by decide)) ?_
  refine gm_ev.iadd i135_36 ?_
  refine gm_ev.icmp_ge_t (tgt := 78) i135_37 (by decide) c2 ?_
  refine gm_ev.iinc (v := x4 + (1 : Int32)) (ls' := [some (.ref B), some (.int x1), some (.int x2), some (.int x3), some (.int (x4 + (1 : Int32))), some (.int x5)]) i135_78 rfl (by rfl) rfl ?_
  refine gm_ev.goto (tgt := 7) i135_81 (by decide) ?_
  refine gm_ev.le (a := [some (.ref B), some (.int x1), some (.int x2), some (.int x3), some (.int (x4 + (1 : Int32))), none]) (gm_leL.le (show gm_leL _ _ from ⟨rfl, ⟨rfl, ⟨rfl, ⟨rfl, ⟨rfl, trivial⟩⟩⟩⟩⟩)) ?_
  exact k
theorem r_bits_23_ft_at23 {N0 : Nat} {K : Nat → Nat} {d B : Nat} {s : mS} {G : gm_H} {sz sl : Nat} {R : gm_R} {x1 : Int32} {x2 : Int32} {x3 : Int32} {x4 : Int32} {x5 : Int32} {k1 : Nat} {k3 : Nat} {r4 : Int32} (hN : N0 ≤ B) (ek1 : x4 = nI k1) (lk1 : k1 < 432) (c2 : ¬ (((3 : Int32) * x4) + (s.2.1 16 k1)) ≤ x5) (ek3 : x5 = nI k3) (lk3 : k3 < 1296) (t5 : gm_to N0 K ra_nm (ra_mt K) d 125 [.int (s.2.1 17 k3)] (bM B (mH B s) G) sz (.returned (some (.int r4)), bM B (mH B s) G, sz, 0)) (c6 : r4 = 0) (k : gm_ev N0 K ra_nm (ra_mt K) d (some .int) (gm_I cX12_bits) (gm_lkf (lkX12 false K)) 23 [some (.ref B), some (.int x1), some (.int x2), some (.int x3), some (.int x4), some (.int (x5 + (1 : Int32)))] [] (bM B (mH B s) G) sz sl R) : gm_ev N0 K ra_nm (ra_mt K) d (some .int) (gm_I cX12_bits) (gm_lkf (lkX12 false K)) 23 [some (.ref B), some (.int x1), some (.int x2), some (.int x3), some (.int x4), some (.int x5)] [] (bM B (mH B s) G) sz sl R := by
  refine gm_ev.iload i135_23 rfl ?_
  refine gm_ev.iconst (v := 3) i135_25 (by decide) ?_
  refine gm_ev.iload i135_26 rfl ?_
  refine gm_ev.imul i135_28 ?_
  refine gm_ev.aload_n i135_29 rfl ?_
  refine gm_ev.getfield (v := .ref (B + 8)) i135_30 rfl (bM_fld (j := 0) (fs := mF B s) rfl rfl) ?_
  refine gm_ev.iload i135_33 rfl ?_
  refine gm_ev.iaload i135_35 (bM_ai (j := 8) (n := 432) (f := s.2.1 16) rfl ek1 lk1 (by decide)) ?_
  refine gm_ev.iadd i135_36 ?_
  refine gm_ev.icmp_ge_f i135_37 c2 ?_
  refine gm_ev.aload_n i135_40 rfl ?_
  refine gm_ev.getfield (v := .ref (B + 9)) i135_41 rfl (bM_fld (j := 0) (fs := mF B s) rfl rfl) ?_
  refine gm_ev.iload i135_44 rfl ?_
  refine gm_ev.iaload i135_46 (bM_ai (j := 9) (n := 1296) (f := s.2.1 17) rfl ek3 lk3 (by decide)) ?_
  refine gm_ev.callS gm_mono_run (av := [.int (s.2.1 17 k3)]) (r := []) i135_47 rfl rfl rfl (Nat.le_of_ble_eq_true rfl) t5 ?_
  refine gm_ev.if_eq_t (tgt := 70) i135_50 (by decide) c6 ?_
  refine gm_ev.iload_n i135_70 rfl ?_
  refine gm_ev.istore_n (ls' := [some (.ref B), some (.int x1), some (.int x2), some (.int x3), some (.int x4), some (.int x5)]) i135_71 (Nat.le_of_ble_eq_true rfl) rfl ?_
  refine gm_ev.iinc (v := x5 + (1 : Int32)) (ls' := [some (.ref B), some (.int x1), some (.int x2), some (.int x3), some (.int x4), some (.int (x5 + (1 : Int32)))]) i135_72 rfl (by rfl) rfl ?_
  refine gm_ev.goto (tgt := 23) i135_75 (by decide) ?_
  exact k
theorem r_bits_23_ff_at23 {N0 : Nat} {K : Nat → Nat} {d B : Nat} {s : mS} {G : gm_H} {sz sl : Nat} {R : gm_R} {x1 : Int32} {x2 : Int32} {x3 : Int32} {x4 : Int32} {x5 : Int32} {k1 : Nat} {k3 : Nat} {r4 : Int32} {k7 : Nat} (hN : N0 ≤ B) (ek1 : x4 = nI k1) (lk1 : k1 < 432) (c2 : ¬ (((3 : Int32) * x4) + (s.2.1 16 k1)) ≤ x5) (ek3 : x5 = nI k3) (lk3 : k3 < 1296) (t5 : gm_to N0 K ra_nm (ra_mt K) d 125 [.int (s.2.1 17 k3)] (bM B (mH B s) G) sz (.returned (some (.int r4)), bM B (mH B s) G, sz, 0)) (c6 : ¬ r4 = 0) (ek7 : x5 = nI k7) (lk7 : k7 < 1296) (k : gm_ev N0 K ra_nm (ra_mt K) d (some .int) (gm_I cX12_bits) (gm_lkf (lkX12 false K)) 23 [some (.ref B), some (.int x1), some (.int x2), some (.int (x3 ||| ((1 : Int32) <<< (((s.2.1 17 k7) - (85 : Int32)) &&& 31)))), some (.int x4), some (.int (x5 + (1 : Int32)))] [] (bM B (mH B s) G) sz sl R) : gm_ev N0 K ra_nm (ra_mt K) d (some .int) (gm_I cX12_bits) (gm_lkf (lkX12 false K)) 23 [some (.ref B), some (.int x1), some (.int x2), some (.int x3), some (.int x4), some (.int x5)] [] (bM B (mH B s) G) sz sl R := by
  refine gm_ev.iload i135_23 rfl ?_
  refine gm_ev.iconst (v := 3) i135_25 (by decide) ?_
  refine gm_ev.iload i135_26 rfl ?_
  refine gm_ev.imul i135_28 ?_
  refine gm_ev.aload_n i135_29 rfl ?_
  refine gm_ev.getfield (v := .ref (B + 8)) i135_30 rfl (bM_fld (j := 0) (fs := mF B s) rfl rfl) ?_
  refine gm_ev.iload i135_33 rfl ?_
  refine gm_ev.iaload i135_35 (bM_ai (j := 8) (n := 432) (f := s.2.1 16) rfl ek1 lk1 (by decide)) ?_
  refine gm_ev.iadd i135_36 ?_
  refine gm_ev.icmp_ge_f i135_37 c2 ?_
  refine gm_ev.aload_n i135_40 rfl ?_
  refine gm_ev.getfield (v := .ref (B + 9)) i135_41 rfl (bM_fld (j := 0) (fs := mF B s) rfl rfl) ?_
  refine gm_ev.iload i135_44 rfl ?_
  refine gm_ev.iaload i135_46 (bM_ai (j := 9) (n := 1296) (f := s.2.1 17) rfl ek3 lk3 (by decide)) ?_
  refine gm_ev.callS gm_mono_run (av := [.int (s.2.1 17 k3)]) (r := []) i135_47 rfl rfl rfl (Nat.le_of_ble_eq_true rfl) t5 ?_
  refine gm_ev.if_eq_f i135_50 c6 ?_
  refine gm_ev.iload_n i135_53 rfl ?_
  refine gm_ev.iconst (v := 1) i135_54 (by decide) ?_
  refine gm_ev.aload_n i135_55 rfl ?_
  refine gm_ev.getfield (v := .ref (B + 9)) i135_56 rfl (bM_fld (j := 0) (fs := mF B s) rfl rfl) ?_
  refine gm_ev.iload i135_59 rfl ?_
  refine gm_ev.iaload i135_61 (bM_ai (j := 9) (n := 1296) (f := s.2.1 17) rfl ek7 lk7 (by decide)) ?_
  refine gm_ev.bipush (v := 85) i135_62 (by decide) ?_
  refine gm_ev.isub i135_64 ?_
  refine gm_ev.ishl i135_65 ?_
  refine gm_ev.ior i135_66 ?_
  refine gm_ev.goto (tgt := 71) i135_67 (by decide) ?_
  refine gm_ev.istore_n (ls' := [some (.ref B), some (.int x1), some (.int x2), some (.int (x3 ||| ((1 : Int32) <<< (((s.2.1 17 k7) - (85 : Int32)) &&& 31)))), some (.int x4), some (.int x5)]) i135_71 (Nat.le_of_ble_eq_true rfl) rfl ?_
  refine gm_ev.iinc (v := x5 + (1 : Int32)) (ls' := [some (.ref B), some (.int x1), some (.int x2), some (.int (x3 ||| ((1 : Int32) <<< (((s.2.1 17 k7) - (85 : Int32)) &&& 31)))), some (.int x4), some (.int (x5 + (1 : Int32)))]) i135_72 rfl (by rfl) rfl ?_
  refine gm_ev.goto (tgt := 23) i135_75 (by decide) ?_
  exact k
theorem r_variables_0_t {N0 : Nat} {K : Nat → Nat} {d B : Nat} {s : mS} {G : gm_H} {sz sl : Nat} {p0 : Int32} {k1 : Nat} {k3 : Nat} {r4 : Int32} (hN : N0 ≤ B) (ek1 : p0 = nI k1) (lk1 : k1 < 144) (c2 : ¬ (s.2.1 13 k1) = (2 : Int32)) (ek3 : p0 = nI k3) (lk3 : k3 < 144) (t5 : gm_to N0 K ra_nm (ra_mt K) d 135 [.ref B, .int p0, .int ((s.2.1 14 k3) &&& (3 : Int32))] (bM B (mH B s) G) sz (.returned (some (.int r4)), bM B (mH B s) G, sz, 0)) : gm_ev N0 K ra_nm (ra_mt K) d (some .int) (gm_I cX12_variables) (gm_lkf (lkX12 false K)) 0 [some (.ref B), some (.int p0)] [] (bM B (mH B s) G) sz sl (.returned (some (.int r4)), (bM B (mH B s) G), sz, sl) := by
  refine gm_ev.aload_n i136_0 rfl ?_
  refine gm_ev.iload_n i136_1 rfl ?_
  refine gm_ev.aload_n i136_2 rfl ?_
  refine gm_ev.getfield (v := .ref (B + 5)) i136_3 rfl (bM_fld (j := 0) (fs := mF B s) rfl rfl) ?_
  refine gm_ev.iload_n i136_6 rfl ?_
  refine gm_ev.iaload i136_7 (bM_ai (j := 5) (n := 144) (f := s.2.1 13) rfl ek1 lk1 (by decide)) ?_
  refine gm_ev.iconst (v := 2) i136_8 (by decide) ?_
  refine gm_ev.icmp_ne_t (tgt := 16) i136_9 (by decide) c2 ?_
  refine gm_ev.aload_n i136_16 rfl ?_
  refine gm_ev.getfield (v := .ref (B + 6)) i136_17 rfl (bM_fld (j := 0) (fs := mF B s) rfl rfl) ?_
  refine gm_ev.iload_n i136_20 rfl ?_
  refine gm_ev.iaload i136_21 (bM_ai (j := 6) (n := 144) (f := s.2.1 14) rfl ek3 lk3 (by decide)) ?_
  refine gm_ev.iconst (v := 3) i136_22 (by decide) ?_
  refine gm_ev.iand i136_23 ?_
  refine gm_ev.callV gm_mono_run (av := [.int p0, .int ((s.2.1 14 k3) &&& (3 : Int32))]) (r := []) (ci := 11) (fs := mF B s) (bM_get (j := 0) rfl) i136_24 rfl rfl rfl (Nat.le_of_ble_eq_true rfl) t5 ?_
  exact gm_ev.iret i136_27 rfl
theorem r_variables_0_f {N0 : Nat} {K : Nat → Nat} {d B : Nat} {s : mS} {G : gm_H} {sz sl : Nat} {p0 : Int32} {k1 : Nat} {r3 : Int32} (hN : N0 ≤ B) (ek1 : p0 = nI k1) (lk1 : k1 < 144) (c2 : (s.2.1 13 k1) = (2 : Int32)) (t4 : gm_to N0 K ra_nm (ra_mt K) d 135 [.ref B, .int p0, .int (2 : Int32)] (bM B (mH B s) G) sz (.returned (some (.int r3)), bM B (mH B s) G, sz, 0)) : gm_ev N0 K ra_nm (ra_mt K) d (some .int) (gm_I cX12_variables) (gm_lkf (lkX12 false K)) 0 [some (.ref B), some (.int p0)] [] (bM B (mH B s) G) sz sl (.returned (some (.int r3)), (bM B (mH B s) G), sz, sl) := by
  refine gm_ev.aload_n i136_0 rfl ?_
  refine gm_ev.iload_n i136_1 rfl ?_
  refine gm_ev.aload_n i136_2 rfl ?_
  refine gm_ev.getfield (v := .ref (B + 5)) i136_3 rfl (bM_fld (j := 0) (fs := mF B s) rfl rfl) ?_
  refine gm_ev.iload_n i136_6 rfl ?_
  refine gm_ev.iaload i136_7 (bM_ai (j := 5) (n := 144) (f := s.2.1 13) rfl ek1 lk1 (by decide)) ?_
  refine gm_ev.iconst (v := 2) i136_8 (by decide) ?_
  refine gm_ev.icmp_ne_f i136_9 c2 ?_
  refine gm_ev.iconst (v := 2) i136_12 (by decide) ?_
  refine gm_ev.goto (tgt := 24) i136_13 (by decide) ?_
  refine gm_ev.callV gm_mono_run (av := [.int p0, .int (2 : Int32)]) (r := []) (ci := 11) (fs := mF B s) (bM_get (j := 0) rfl) i136_24 rfl rfl rfl (Nat.le_of_ble_eq_true rfl) t4 ?_
  exact gm_ev.iret i136_27 rfl
theorem r_isHeadWrong_0_t_at64 {N0 : Nat} {K : Nat → Nat} {d B : Nat} {s : mS} {G : gm_H} {sz sl : Nat} {R : gm_R} {p0 : Int32} {k1 : Nat} (hN : N0 ≤ B) (ek1 : ((6 : Int32) * p0) = nI k1) (lk1 : k1 < 144) (c2 : ((s.2.1 14 k1) / (4 : Int32)) = (84 : Int32)) (k : gm_ev N0 K ra_nm (ra_mt K) d (some .boolean) (gm_I cX12_isHeadWrong) (gm_lkf (lkX12 false K)) 64 [some (.ref B), some (.int p0), none, some (.int (1 : Int32)), some (.int (((6 : Int32) * p0) + (1 : Int32)))] [] (bM B (mH B s) G) sz sl R) : gm_ev N0 K ra_nm (ra_mt K) d (some .boolean) (gm_I cX12_isHeadWrong) (gm_lkf (lkX12 false K)) 0 [some (.ref B), some (.int p0), none, none, none] [] (bM B (mH B s) G) sz sl R := by
  refine gm_ev.aload_n i137_0 rfl ?_
  refine gm_ev.getfield (v := .ref (B + 6)) i137_1 rfl (bM_fld (j := 0) (fs := mF B s) rfl rfl) ?_
  refine gm_ev.bipush (v := 6) i137_4 (by decide) ?_
  refine gm_ev.iload_n i137_6 rfl ?_
  refine gm_ev.imul i137_7 ?_
  refine gm_ev.iaload i137_8 (bM_ai (j := 6) (n := 144) (f := s.2.1 14) rfl ek1 lk1 (by decide)) ?_
  refine gm_ev.iconst (v := 4) i137_9 (by decide) ?_
  refine gm_ev.idiv i137_10 (by decide) ?_
  refine gm_ev.istore_n (ls' := [some (.ref B), some (.int p0), some (.int ((s.2.1 14 k1) / (4 : Int32))), none, none]) i137_11 (Nat.le_of_ble_eq_true rfl) rfl ?_
  refine gm_ev.iload_n i137_12 rfl ?_
  refine gm_ev.bipush (v := 84) i137_13 (by decide) ?_
  refine gm_ev.icmp_eq_t (tgt := 50) i137_15 (by decide) c2 ?_
  refine gm_ev.iconst (v := 1) i137_50 (by decide) ?_
  refine gm_ev.goto (tgt := 55) i137_51 (by decide) ?_
  refine gm_ev.istore_n (ls' := [some (.ref B), some (.int p0), some (.int ((s.2.1 14 k1) / (4 : Int32))), some (.int (1 : Int32)), none]) i137_55 (Nat.le_of_ble_eq_true rfl) rfl ?_
  refine gm_ev.bipush (v := 6) i137_56 (by decide) ?_
  refine gm_ev.iload_n i137_58 rfl ?_
  refine gm_ev.imul i137_59 ?_
  refine gm_ev.iconst (v := 1) i137_60 (by decide) ?_
  refine gm_ev.iadd i137_61 ?_
  refine gm_ev.istore (ls' := [some (.ref B), some (.int p0), some (.int ((s.2.1 14 k1) / (4 : Int32))), some (.int (1 : Int32)), some (.int (((6 : Int32) * p0) + (1 : Int32)))]) i137_62 (Nat.le_of_ble_eq_true rfl) rfl ?_
  refine gm_ev.le (a := [some (.ref B), some (.int p0), none, some (.int (1 : Int32)), some (.int (((6 : Int32) * p0) + (1 : Int32)))]) (gm_leL.le (show gm_leL _ _ from ⟨rfl, ⟨rfl, ⟨rfl, ⟨rfl, trivial⟩⟩⟩⟩)) ?_
  exact k
theorem r_isHeadWrong_0_ft_at64 {N0 : Nat} {K : Nat → Nat} {d B : Nat} {s : mS} {G : gm_H} {sz sl : Nat} {R : gm_R} {p0 : Int32} {k1 : Nat} (hN : N0 ≤ B) (ek1 : ((6 : Int32) * p0) = nI k1) (lk1 : k1 < 144) (c2 : ¬ ((s.2.1 14 k1) / (4 : Int32)) = (84 : Int32)) (c3 : ((s.2.1 14 k1) / (4 : Int32)) = (68 : Int32)) (k : gm_ev N0 K ra_nm (ra_mt K) d (some .boolean) (gm_I cX12_isHeadWrong) (gm_lkf (lkX12 false K)) 64 [some (.ref B), some (.int p0), none, some (.int (1 : Int32)), some (.int (((6 : Int32) * p0) + (1 : Int32)))] [] (bM B (mH B s) G) sz sl R) : gm_ev N0 K ra_nm (ra_mt K) d (some .boolean) (gm_I cX12_isHeadWrong) (gm_lkf (lkX12 false K)) 0 [some (.ref B), some (.int p0), none, none, none] [] (bM B (mH B s) G) sz sl R := by
  refine gm_ev.aload_n i137_0 rfl ?_
  refine gm_ev.getfield (v := .ref (B + 6)) i137_1 rfl (bM_fld (j := 0) (fs := mF B s) rfl rfl) ?_
  refine gm_ev.bipush (v := 6) i137_4 (by decide) ?_
  refine gm_ev.iload_n i137_6 rfl ?_
  refine gm_ev.imul i137_7 ?_
  refine gm_ev.iaload i137_8 (bM_ai (j := 6) (n := 144) (f := s.2.1 14) rfl ek1 lk1 (by decide)) ?_
  refine gm_ev.iconst (v := 4) i137_9 (by decide) ?_
  refine gm_ev.idiv i137_10 (by decide) ?_
  refine gm_ev.istore_n (ls' := [some (.ref B), some (.int p0), some (.int ((s.2.1 14 k1) / (4 : Int32))), none, none]) i137_11 (Nat.le_of_ble_eq_true rfl) rfl ?_
  refine gm_ev.iload_n i137_12 rfl ?_
  refine gm_ev.bipush (v := 84) i137_13 (by decide) ?_
  refine gm_ev.icmp_eq_f i137_15 c2 ?_
  refine gm_ev.iload_n i137_18 rfl ?_
  refine gm_ev.bipush (v := 68) i137_19 (by decide) ?_
  refine gm_ev.icmp_eq_t (tgt := 50) i137_21 (by decide) c3 ?_
  refine gm_ev.iconst (v := 1) i137_50 (by decide) ?_
  refine gm_ev.goto (tgt := 55) i137_51 (by decide) ?_
  refine gm_ev.istore_n (ls' := [some (.ref B), some (.int p0), some (.int ((s.2.1 14 k1) / (4 : Int32))), some (.int (1 : Int32)), none]) i137_55 (Nat.le_of_ble_eq_true rfl) rfl ?_
  refine gm_ev.bipush (v := 6) i137_56 (by decide) ?_
  refine gm_ev.iload_n i137_58 rfl ?_
  refine gm_ev.imul i137_59 ?_
  refine gm_ev.iconst (v := 1) i137_60 (by decide) ?_
  refine gm_ev.iadd i137_61 ?_
  refine gm_ev.istore (ls' := [some (.ref B), some (.int p0), some (.int ((s.2.1 14 k1) / (4 : Int32))), some (.int (1 : Int32)), some (.int (((6 : Int32) * p0) + (1 : Int32)))]) i137_62 (Nat.le_of_ble_eq_true rfl) rfl ?_
  refine gm_ev.le (a := [some (.ref B), some (.int p0), none, some (.int (1 : Int32)), some (.int (((6 : Int32) * p0) + (1 : Int32)))]) (gm_leL.le (show gm_leL _ _ from ⟨rfl, ⟨rfl, ⟨rfl, ⟨rfl, trivial⟩⟩⟩⟩)) ?_
  exact k
theorem r_isHeadWrong_0_fft_at64 {N0 : Nat} {K : Nat → Nat} {d B : Nat} {s : mS} {G : gm_H} {sz sl : Nat} {R : gm_R} {p0 : Int32} {k1 : Nat} (hN : N0 ≤ B) (ek1 : ((6 : Int32) * p0) = nI k1) (lk1 : k1 < 144) (c2 : ¬ ((s.2.1 14 k1) / (4 : Int32)) = (84 : Int32)) (c3 : ¬ ((s.2.1 14 k1) / (4 : Int32)) = (68 : Int32)) (c4 : ¬ ((s.2.1 14 k1) / (4 : Int32)) = (82 : Int32)) (k : gm_ev N0 K ra_nm (ra_mt K) d (some .boolean) (gm_I cX12_isHeadWrong) (gm_lkf (lkX12 false K)) 64 [some (.ref B), some (.int p0), none, some (.int (0 : Int32)), some (.int (((6 : Int32) * p0) + (1 : Int32)))] [] (bM B (mH B s) G) sz sl R) : gm_ev N0 K ra_nm (ra_mt K) d (some .boolean) (gm_I cX12_isHeadWrong) (gm_lkf (lkX12 false K)) 0 [some (.ref B), some (.int p0), none, none, none] [] (bM B (mH B s) G) sz sl R := by
  refine gm_ev.aload_n i137_0 rfl ?_
  refine gm_ev.getfield (v := .ref (B + 6)) i137_1 rfl (bM_fld (j := 0) (fs := mF B s) rfl rfl) ?_
  refine gm_ev.bipush (v := 6) i137_4 (by decide) ?_
  refine gm_ev.iload_n i137_6 rfl ?_
  refine gm_ev.imul i137_7 ?_
  refine gm_ev.iaload i137_8 (bM_ai (j := 6) (n := 144) (f := s.2.1 14) rfl ek1 lk1 (by decide)) ?_
  refine gm_ev.iconst (v := 4) i137_9 (by decide) ?_
  refine gm_ev.idiv i137_10 (by decide) ?_
  refine gm_ev.istore_n (ls' := [some (.ref B), some (.int p0), some (.int ((s.2.1 14 k1) / (4 : Int32))), none, none]) i137_11 (Nat.le_of_ble_eq_true rfl) rfl ?_
  refine gm_ev.iload_n i137_12 rfl ?_
  refine gm_ev.bipush (v := 84) i137_13 (by decide) ?_
  refine gm_ev.icmp_eq_f i137_15 c2 ?_
  refine gm_ev.iload_n i137_18 rfl ?_
  refine gm_ev.bipush (v := 68) i137_19 (by decide) ?_
  refine gm_ev.icmp_eq_f i137_21 c3 ?_
  refine gm_ev.iload_n i137_24 rfl ?_
  refine gm_ev.bipush (v := 82) i137_25 (by decide) ?_
  refine gm_ev.icmp_ne_t (tgt := 54) i137_27 (by decide) c4 ?_
  refine gm_ev.iconst (v := 0) i137_54 (by decide) ?_
  refine gm_ev.istore_n (ls' := [some (.ref B), some (.int p0), some (.int ((s.2.1 14 k1) / (4 : Int32))), some (.int (0 : Int32)), none]) i137_55 (Nat.le_of_ble_eq_true rfl) rfl ?_
  refine gm_ev.bipush (v := 6) i137_56 (by decide) ?_
  refine gm_ev.iload_n i137_58 rfl ?_
  refine gm_ev.imul i137_59 ?_
  refine gm_ev.iconst (v := 1) i137_60 (by decide) ?_
  refine gm_ev.iadd i137_61 ?_
  refine gm_ev.istore (ls' := [some (.ref B), some (.int p0), some (.int ((s.2.1 14 k1) / (4 : Int32))), some (.int (0 : Int32)), some (.int (((6 : Int32) * p0) + (1 : Int32)))]) i137_62 (Nat.le_of_ble_eq_true rfl) rfl ?_
  refine gm_ev.le (a := [some (.ref B), some (.int p0), none, some (.int (0 : Int32)), some (.int (((6 : Int32) * p0) + (1 : Int32)))]) (gm_leL.le (show gm_leL _ _ from ⟨rfl, ⟨rfl, ⟨rfl, ⟨rfl, trivial⟩⟩⟩⟩)) ?_
  exact k
theorem r_isHeadWrong_0_ffft_at64 {N0 : Nat} {K : Nat → Nat} {d B : Nat} {s : mS} {G : gm_H} {sz sl : Nat} {R : gm_R} {p0 : Int32} {k1 : Nat} {k5 : Nat} (hN : N0 ≤ B) (ek1 : ((6 : Int32) * p0) = nI k1) (lk1 : k1 < 144) (c2 : ¬ ((s.2.1 14 k1) / (4 : Int32)) = (84 : Int32)) (c3 : ¬ ((s.2.1 14 k1) / (4 : Int32)) = (68 : Int32)) (c4 : ((s.2.1 14 k1) / (4 : Int32)) = (82 : Int32)) (ek5 : p0 = nI k5) (lk5 : k5 < 24) (c6 : 0 < (s.2.1 12 k5)) (k : gm_ev N0 K ra_nm (ra_mt K) d (some .boolean) (gm_I cX12_isHeadWrong) (gm_lkf (lkX12 false K)) 64 [some (.ref B), some (.int p0), none, some (.int (1 : Int32)), some (.int (((6 : Int32) * p0) + (1 : Int32)))] [] (bM B (mH B s) G) sz sl R) : gm_ev N0 K ra_nm (ra_mt K) d (some .boolean) (gm_I cX12_isHeadWrong) (gm_lkf (lkX12 false K)) 0 [some (.ref B), some (.int p0), none, none, none] [] (bM B (mH B s) G) sz sl R := by
  refine gm_ev.aload_n i137_0 rfl ?_
  refine gm_ev.getfield (v := .ref (B + 6)) i137_1 rfl (bM_fld (j := 0) (fs := mF B s) rfl rfl) ?_
  refine gm_ev.bipush (v := 6) i137_4 (by decide) ?_
  refine gm_ev.iload_n i137_6 rfl ?_
  refine gm_ev.imul i137_7 ?_
  refine gm_ev.iaload i137_8 (bM_ai (j := 6) (n := 144) (f := s.2.1 14) rfl ek1 lk1 (by decide)) ?_
  refine gm_ev.iconst (v := 4) i137_9 (by decide) ?_
  refine gm_ev.idiv i137_10 (by decide) ?_
  refine gm_ev.istore_n (ls' := [some (.ref B), some (.int p0), some (.int ((s.2.1 14 k1) / (4 : Int32))), none, none]) i137_11 (Nat.le_of_ble_eq_true rfl) rfl ?_
  refine gm_ev.iload_n i137_12 rfl ?_
  refine gm_ev.bipush (v := 84) i137_13 (by decide) ?_
  refine gm_ev.icmp_eq_f i137_15 c2 ?_
  refine gm_ev.iload_n i137_18 rfl ?_
  refine gm_ev.bipush (v := 68) i137_19 (by decide) ?_
  refine gm_ev.icmp_eq_f i137_21 c3 ?_
  refine gm_ev.iload_n i137_24 rfl ?_
  refine gm_ev.bipush (v := 82) i137_25 (by decide) ?_
  refine gm_ev.icmp_ne_f i137_27 c4 ?_
  refine gm_ev.aload_n i137_30 rfl ?_
  refine gm_ev.getfield (v := .ref (B + 4)) i137_31 rfl (bM_fld (j := 0) (fs := mF B s) rfl rfl) ?_
  refine gm_ev.iload_n i137_34 rfl ?_
  refine gm_ev.iaload i137_35 (bM_ai (j := 4) (n := 24) (f := s.2.1 12) rfl ek5 lk5 (by decide)) ?_
  refine gm_ev.if_gt_t (tgt := 50) i137_36 (by decide) c6 ?_
  refine gm_ev.iconst (v := 1) i137_50 (by decide) ?_
  refine gm_ev.goto (tgt := 55) i137_51 (by decide) ?_
  refine gm_ev.istore_n (ls' := [some (.ref B), some (.int p0), some (.int ((s.2.1 14 k1) / (4 : Int32))), some (.int (1 : Int32)), none]) i137_55 (Nat.le_of_ble_eq_true rfl) rfl ?_
  refine gm_ev.bipush (v := 6) i137_56 (by decide) ?_
  refine gm_ev.iload_n i137_58 rfl ?_
  refine gm_ev.imul i137_59 ?_
  refine gm_ev.iconst (v := 1) i137_60 (by decide) ?_
  refine gm_ev.iadd i137_61 ?_
  refine gm_ev.istore (ls' := [some (.ref B), some (.int p0), some (.int ((s.2.1 14 k1) / (4 : Int32))), some (.int (1 : Int32)), some (.int (((6 : Int32) * p0) + (1 : Int32)))]) i137_62 (Nat.le_of_ble_eq_true rfl) rfl ?_
  refine gm_ev.le (a := [some (.ref B), some (.int p0), none, some (.int (1 : Int32)), some (.int (((6 : Int32) * p0) + (1 : Int32)))]) (gm_leL.le (show gm_leL _ _ from ⟨rfl, ⟨rfl, ⟨rfl, ⟨rfl, trivial⟩⟩⟩⟩)) ?_
  exact k
theorem r_isHeadWrong_0_fffft_at64 {N0 : Nat} {K : Nat → Nat} {d B : Nat} {s : mS} {G : gm_H} {sz sl : Nat} {R : gm_R} {p0 : Int32} {k1 : Nat} {k5 : Nat} {r7 : Int32} (hN : N0 ≤ B) (ek1 : ((6 : Int32) * p0) = nI k1) (lk1 : k1 < 144) (c2 : ¬ ((s.2.1 14 k1) / (4 : Int32)) = (84 : Int32)) (c3 : ¬ ((s.2.1 14 k1) / (4 : Int32)) = (68 : Int32)) (c4 : ((s.2.1 14 k1) / (4 : Int32)) = (82 : Int32)) (ek5 : p0 = nI k5) (lk5 : k5 < 24) (c6 : ¬ 0 < (s.2.1 12 k5)) (t8 : gm_to N0 K ra_nm (ra_mt K) d 136 [.ref B, .int ((6 : Int32) * p0)] (bM B (mH B s) G) sz (.returned (some (.int r7)), bM B (mH B s) G, sz, 0)) (c9 : r7 = 0) (k : gm_ev N0 K ra_nm (ra_mt K) d (some .boolean) (gm_I cX12_isHeadWrong) (gm_lkf (lkX12 false K)) 64 [some (.ref B), some (.int p0), none, some (.int (0 : Int32)), some (.int (((6 : Int32) * p0) + (1 : Int32)))] [] (bM B (mH B s) G) sz sl R) : gm_ev N0 K ra_nm (ra_mt K) d (some .boolean) (gm_I cX12_isHeadWrong) (gm_lkf (lkX12 false K)) 0 [some (.ref B), some (.int p0), none, none, none] [] (bM B (mH B s) G) sz sl R := by
  refine gm_ev.aload_n i137_0 rfl ?_
  refine gm_ev.getfield (v := .ref (B + 6)) i137_1 rfl (bM_fld (j := 0) (fs := mF B s) rfl rfl) ?_
  refine gm_ev.bipush (v := 6) i137_4 (by decide) ?_
  refine gm_ev.iload_n i137_6 rfl ?_
  refine gm_ev.imul i137_7 ?_
  refine gm_ev.iaload i137_8 (bM_ai (j := 6) (n := 144) (f := s.2.1 14) rfl ek1 lk1 (by decide)) ?_
  refine gm_ev.iconst (v := 4) i137_9 (by decide) ?_
  refine gm_ev.idiv i137_10 (by decide) ?_
  refine gm_ev.istore_n (ls' := [some (.ref B), some (.int p0), some (.int ((s.2.1 14 k1) / (4 : Int32))), none, none]) i137_11 (Nat.le_of_ble_eq_true rfl) rfl ?_
  refine gm_ev.iload_n i137_12 rfl ?_
  refine gm_ev.bipush (v := 84) i137_13 (by decide) ?_
  refine gm_ev.icmp_eq_f i137_15 c2 ?_
  refine gm_ev.iload_n i137_18 rfl ?_
  refine gm_ev.bipush (v := 68) i137_19 (by decide) ?_
  refine gm_ev.icmp_eq_f i137_21 c3 ?_
  refine gm_ev.iload_n i137_24 rfl ?_
  refine gm_ev.bipush (v := 82) i137_25 (by decide) ?_
  refine gm_ev.icmp_ne_f i137_27 c4 ?_
  refine gm_ev.aload_n i137_30 rfl ?_
  refine gm_ev.getfield (v := .ref (B + 4)) i137_31 rfl (bM_fld (j := 0) (fs := mF B s) rfl rfl) ?_
  refine gm_ev.iload_n i137_34 rfl ?_
  refine gm_ev.iaload i137_35 (bM_ai (j := 4) (n := 24) (f := s.2.1 12) rfl ek5 lk5 (by decide)) ?_
  refine gm_ev.if_gt_f i137_36 c6 ?_
  refine gm_ev.aload_n i137_39 rfl ?_
  refine gm_ev.bipush (v := 6) i137_40 (by decide) ?_
  refine gm_ev.iload_n i137_42 rfl ?_
  refine gm_ev.imul i137_43 ?_
  refine gm_ev.callV gm_mono_run (av := [.int ((6 : Int32) * p0)]) (r := []) (ci := 11) (fs := mF B s) (bM_get (j := 0) rfl) i137_44 rfl rfl rfl (Nat.le_of_ble_eq_true rfl) t8 ?_
  refine gm_ev.if_eq_t (tgt := 54) i137_47 (by decide) c9 ?_
  refine gm_ev.iconst (v := 0) i137_54 (by decide) ?_
  refine gm_ev.istore_n (ls' := [some (.ref B), some (.int p0), some (.int ((s.2.1 14 k1) / (4 : Int32))), some (.int (0 : Int32)), none]) i137_55 (Nat.le_of_ble_eq_true rfl) rfl ?_
  refine gm_ev.bipush (v := 6) i137_56 (by decide) ?_
  refine gm_ev.iload_n i137_58 rfl ?_
  refine gm_ev.imul i137_59 ?_
  refine gm_ev.iconst (v := 1) i137_60 (by decide) ?_
  refine gm_ev.iadd i137_61 ?_
  refine gm_ev.istore (ls' := [some (.ref B), some (.int p0), some (.int ((s.2.1 14 k1) / (4 : Int32))), some (.int (0 : Int32)), some (.int (((6 : Int32) * p0) + (1 : Int32)))]) i137_62 (Nat.le_of_ble_eq_true rfl) rfl ?_
  refine gm_ev.le (a := [some (.ref B), some (.int p0), none, some (.int (0 : Int32)), some (.int (((6 : Int32) * p0) + (1 : Int32)))]) (gm_leL.le (show gm_leL _ _ from ⟨rfl, ⟨rfl, ⟨rfl, ⟨rfl, trivial⟩⟩⟩⟩)) ?_
  exact k
theorem r_isHeadWrong_0_fffff_at64 {N0 : Nat} {K : Nat → Nat} {d B : Nat} {s : mS} {G : gm_H} {sz sl : Nat} {R : gm_R} {p0 : Int32} {k1 : Nat} {k5 : Nat} {r7 : Int32} (hN : N0 ≤ B) (ek1 : ((6 : Int32) * p0) = nI k1) (lk1 : k1 < 144) (c2 : ¬ ((s.2.1 14 k1) / (4 : Int32)) = (84 : Int32)) (c3 : ¬ ((s.2.1 14 k1) / (4 : Int32)) = (68 : Int32)) (c4 : ((s.2.1 14 k1) / (4 : Int32)) = (82 : Int32)) (ek5 : p0 = nI k5) (lk5 : k5 < 24) (c6 : ¬ 0 < (s.2.1 12 k5)) (t8 : gm_to N0 K ra_nm (ra_mt K) d 136 [.ref B, .int ((6 : Int32) * p0)] (bM B (mH B s) G) sz (.returned (some (.int r7)), bM B (mH B s) G, sz, 0)) (c9 : ¬ r7 = 0) (k : gm_ev N0 K ra_nm (ra_mt K) d (some .boolean) (gm_I cX12_isHeadWrong) (gm_lkf (lkX12 false K)) 64 [some (.ref B), some (.int p0), none, some (.int (1 : Int32)), some (.int (((6 : Int32) * p0) + (1 : Int32)))] [] (bM B (mH B s) G) sz sl R) : gm_ev N0 K ra_nm (ra_mt K) d (some .boolean) (gm_I cX12_isHeadWrong) (gm_lkf (lkX12 false K)) 0 [some (.ref B), some (.int p0), none, none, none] [] (bM B (mH B s) G) sz sl R := by
  refine gm_ev.aload_n i137_0 rfl ?_
  refine gm_ev.getfield (v := .ref (B + 6)) i137_1 rfl (bM_fld (j := 0) (fs := mF B s) rfl rfl) ?_
  refine gm_ev.bipush (v := 6) i137_4 (by decide) ?_
  refine gm_ev.iload_n i137_6 rfl ?_
  refine gm_ev.imul i137_7 ?_
  refine gm_ev.iaload i137_8 (bM_ai (j := 6) (n := 144) (f := s.2.1 14) rfl ek1 lk1 (by decide)) ?_
  refine gm_ev.iconst (v := 4) i137_9 (by decide) ?_
  refine gm_ev.idiv i137_10 (by decide) ?_
  refine gm_ev.istore_n (ls' := [some (.ref B), some (.int p0), some (.int ((s.2.1 14 k1) / (4 : Int32))), none, none]) i137_11 (Nat.le_of_ble_eq_true rfl) rfl ?_
  refine gm_ev.iload_n i137_12 rfl ?_
  refine gm_ev.bipush (v := 84) i137_13 (by decide) ?_
  refine gm_ev.icmp_eq_f i137_15 c2 ?_
  refine gm_ev.iload_n i137_18 rfl ?_
  refine gm_ev.bipush (v := 68) i137_19 (by decide) ?_
  refine gm_ev.icmp_eq_f i137_21 c3 ?_
  refine gm_ev.iload_n i137_24 rfl ?_
  refine gm_ev.bipush (v := 82) i137_25 (by decide) ?_
  refine gm_ev.icmp_ne_f i137_27 c4 ?_
  refine gm_ev.aload_n i137_30 rfl ?_
  refine gm_ev.getfield (v := .ref (B + 4)) i137_31 rfl (bM_fld (j := 0) (fs := mF B s) rfl rfl) ?_
  refine gm_ev.iload_n i137_34 rfl ?_
  refine gm_ev.iaload i137_35 (bM_ai (j := 4) (n := 24) (f := s.2.1 12) rfl ek5 lk5 (by decide)) ?_
  refine gm_ev.if_gt_f i137_36 c6 ?_
  refine gm_ev.aload_n i137_39 rfl ?_
  refine gm_ev.bipush (v := 6) i137_40 (by decide) ?_
  refine gm_ev.iload_n i137_42 rfl ?_
  refine gm_ev.imul i137_43 ?_
  refine gm_ev.callV gm_mono_run (av := [.int ((6 : Int32) * p0)]) (r := []) (ci := 11) (fs := mF B s) (bM_get (j := 0) rfl) i137_44 rfl rfl rfl (Nat.le_of_ble_eq_true rfl) t8 ?_
  refine gm_ev.if_eq_f i137_47 c9 ?_
  refine gm_ev.iconst (v := 1) i137_50 (by decide) ?_
  refine gm_ev.goto (tgt := 55) i137_51 (by decide) ?_
  refine gm_ev.istore_n (ls' := [some (.ref B), some (.int p0), some (.int ((s.2.1 14 k1) / (4 : Int32))), some (.int (1 : Int32)), none]) i137_55 (Nat.le_of_ble_eq_true rfl) rfl ?_
  refine gm_ev.bipush (v := 6) i137_56 (by decide) ?_
  refine gm_ev.iload_n i137_58 rfl ?_
  refine gm_ev.imul i137_59 ?_
  refine gm_ev.iconst (v := 1) i137_60 (by decide) ?_
  refine gm_ev.iadd i137_61 ?_
  refine gm_ev.istore (ls' := [some (.ref B), some (.int p0), some (.int ((s.2.1 14 k1) / (4 : Int32))), some (.int (1 : Int32)), some (.int (((6 : Int32) * p0) + (1 : Int32)))]) i137_62 (Nat.le_of_ble_eq_true rfl) rfl ?_
  refine gm_ev.le (a := [some (.ref B), some (.int p0), none, some (.int (1 : Int32)), some (.int (((6 : Int32) * p0) + (1 : Int32)))]) (gm_leL.le (show gm_leL _ _ from ⟨rfl, ⟨rfl, ⟨rfl, ⟨rfl, trivial⟩⟩⟩⟩)) ?_
  exact k
theorem r_isHeadWrong_64_t {N0 : Nat} {K : Nat → Nat} {d B : Nat} {s : mS} {G : gm_H} {sz sl : Nat} {x1 : Int32} {x3 : Int32} {x4 : Int32} {k1 : Nat} (hN : N0 ≤ B) (ek1 : x1 = nI k1) (lk1 : k1 < 24) (c2 : (((6 : Int32) * x1) + (s.2.1 12 k1)) < x4) (z3 : x3 = 0 ∨ x3 = 1) : gm_ev N0 K ra_nm (ra_mt K) d (some .boolean) (gm_I cX12_isHeadWrong) (gm_lkf (lkX12 false K)) 64 [some (.ref B), some (.int x1), none, some (.int x3), some (.int x4)] [] (bM B (mH B s) G) sz sl (.returned (some (.int x3)), (bM B (mH B s) G), sz, sl) := by
  refine gm_ev.iload i137_64 rfl ?_
  refine gm_ev.bipush (v := 6) i137_66 (by decide) ?_
  refine gm_ev.iload_n i137_68 rfl ?_
  refine gm_ev.imul i137_69 ?_
  refine gm_ev.aload_n i137_70 rfl ?_
  refine gm_ev.getfield (v := .ref (B + 4)) i137_71 rfl (bM_fld (j := 0) (fs := mF B s) rfl rfl) ?_
  refine gm_ev.iload_n i137_74 rfl ?_
  refine gm_ev.iaload i137_75 (bM_ai (j := 4) (n := 24) (f := s.2.1 12) rfl ek1 lk1 (by decide)) ?_
  refine gm_ev.iadd i137_76 ?_
  refine gm_ev.icmp_gt_t (tgt := 135) i137_77 (by decide) c2 ?_
  refine gm_ev.iload_n i137_135 rfl ?_
  exact gm_ev.zret i137_136 rfl z3
theorem r_isHeadWrong_64_ft_at64 {N0 : Nat} {K : Nat → Nat} {d B : Nat} {s : mS} {G : gm_H} {sz sl : Nat} {R : gm_R} {x1 : Int32} {x3 : Int32} {x4 : Int32} {k1 : Nat} (hN : N0 ≤ B) (ek1 : x1 = nI k1) (lk1 : k1 < 24) (c2 : ¬ (((6 : Int32) * x1) + (s.2.1 12 k1)) < x4) (c3 : ¬ x3 = 0) (k : gm_ev N0 K ra_nm (ra_mt K) d (some .boolean) (gm_I cX12_isHeadWrong) (gm_lkf (lkX12 false K)) 64 [some (.ref B), some (.int x1), none, some (.int (1 : Int32)), some (.int (x4 + (1 : Int32)))] [] (bM B (mH B s) G) sz sl R) : gm_ev N0 K ra_nm (ra_mt K) d (some .boolean) (gm_I cX12_isHeadWrong) (gm_lkf (lkX12 false K)) 64 [some (.ref B), some (.int x1), none, some (.int x3), some (.int x4)] [] (bM B (mH B s) G) sz sl R := by
  refine gm_ev.iload i137_64 rfl ?_
  refine gm_ev.bipush (v := 6) i137_66 (by decide) ?_
  refine gm_ev.iload_n i137_68 rfl ?_
  refine gm_ev.imul i137_69 ?_
  refine gm_ev.aload_n i137_70 rfl ?_
  refine gm_ev.getfield (v := .ref (B + 4)) i137_71 rfl (bM_fld (j := 0) (fs := mF B s) rfl rfl) ?_
  refine gm_ev.iload_n i137_74 rfl ?_
  refine gm_ev.iaload i137_75 (bM_ai (j := 4) (n := 24) (f := s.2.1 12) rfl ek1 lk1 (by decide)) ?_
  refine gm_ev.iadd i137_76 ?_
  refine gm_ev.icmp_gt_f i137_77 c2 ?_
  refine gm_ev.iload_n i137_80 rfl ?_
  refine gm_ev.if_ne_t (tgt := 123) i137_81 (by decide) c3 ?_
  refine gm_ev.iconst (v := 1) i137_123 (by decide) ?_
  refine gm_ev.goto (tgt := 128) i137_124 (by decide) ?_
  refine gm_ev.istore_n (ls' := [some (.ref B), some (.int x1), none, some (.int (1 : Int32)), some (.int x4)]) i137_128 (Nat.le_of_ble_eq_true rfl) rfl ?_
  refine gm_ev.iinc (v := x4 + (1 : Int32)) (ls' := [some (.ref B), some (.int x1), none, some (.int (1 : Int32)), some (.int (x4 + (1 : Int32)))]) i137_129 rfl (by rfl) rfl ?_
  refine gm_ev.goto (tgt := 64) i137_132 (by decide) ?_
  exact k
theorem r_isHeadWrong_64_fft_at64 {N0 : Nat} {K : Nat → Nat} {d B : Nat} {s : mS} {G : gm_H} {sz sl : Nat} {R : gm_R} {x1 : Int32} {x3 : Int32} {x4 : Int32} {k1 : Nat} {k4 : Nat} (hN : N0 ≤ B) (ek1 : x1 = nI k1) (lk1 : k1 < 24) (c2 : ¬ (((6 : Int32) * x1) + (s.2.1 12 k1)) < x4) (c3 : x3 = 0) (ek4 : x4 = nI k4) (lk4 : k4 < 144) (c5 : (2 : Int32) ≤ (s.2.1 13 k4)) (k : gm_ev N0 K ra_nm (ra_mt K) d (some .boolean) (gm_I cX12_isHeadWrong) (gm_lkf (lkX12 false K)) 64 [some (.ref B), some (.int x1), none, some (.int (0 : Int32)), some (.int (x4 + (1 : Int32)))] [] (bM B (mH B s) G) sz sl R) : gm_ev N0 K ra_nm (ra_mt K) d (some .boolean) (gm_I cX12_isHeadWrong) (gm_lkf (lkX12 false K)) 64 [some (.ref B), some (.int x1), none, some (.int x3), some (.int x4)] [] (bM B (mH B s) G) sz sl R := by
  refine gm_ev.iload i137_64 rfl ?_
  refine gm_ev.bipush (v := 6) i137_66 (by decide) ?_
  refine gm_ev.iload_n i137_68 rfl ?_
  refine gm_ev.imul i137_69 ?_
  refine gm_ev.aload_n i137_70 rfl ?_
  refine gm_ev.getfield (v := .ref (B + 4)) i137_71 rfl (bM_fld (j := 0) (fs := mF B s) rfl rfl) ?_
  refine gm_ev.iload_n i137_74 rfl ?_
  refine gm_ev.iaload i137_75 (bM_ai (j := 4) (n := 24) (f := s.2.1 12) rfl ek1 lk1 (by decide)) ?_
  refine gm_ev.iadd i137_76 ?_
  refine gm_ev.icmp_gt_f i137_77 c2 ?_
  refine gm_ev.iload_n i137_80 rfl ?_
  refine gm_ev.if_ne_f i137_81 c3 ?_
  refine gm_ev.aload_n i137_84 rfl ?_
  refine gm_ev.getfield (v := .ref (B + 5)) i137_85 rfl (bM_fld (j := 0) (fs := mF B s) rfl rfl) ?_
  refine gm_ev.iload i137_88 rfl ?_
  refine gm_ev.iaload i137_90 (bM_ai (j := 5) (n := 144) (f := s.2.1 13) rfl ek4 lk4 (by decide)) ?_
  refine gm_ev.iconst (v := 2) i137_91 (by decide) ?_
  refine gm_ev.icmp_ge_t (tgt := 127) i137_92 (by decide) c5 ?_
  refine gm_ev.iconst (v := 0) i137_127 (by decide) ?_
  refine gm_ev.istore_n (ls' := [some (.ref B), some (.int x1), none, some (.int (0 : Int32)), some (.int x4)]) i137_128 (Nat.le_of_ble_eq_true rfl) rfl ?_
  refine gm_ev.iinc (v := x4 + (1 : Int32)) (ls' := [some (.ref B), some (.int x1), none, some (.int (0 : Int32)), some (.int (x4 + (1 : Int32)))]) i137_129 rfl (by rfl) rfl ?_
  refine gm_ev.goto (tgt := 64) i137_132 (by decide) ?_
  exact k
theorem r_isHeadWrong_64_ffft_at64 {N0 : Nat} {K : Nat → Nat} {d B : Nat} {s : mS} {G : gm_H} {sz sl : Nat} {R : gm_R} {x1 : Int32} {x3 : Int32} {x4 : Int32} {k1 : Nat} {k4 : Nat} {k6 : Nat} (hN : N0 ≤ B) (ek1 : x1 = nI k1) (lk1 : k1 < 24) (c2 : ¬ (((6 : Int32) * x1) + (s.2.1 12 k1)) < x4) (c3 : x3 = 0) (ek4 : x4 = nI k4) (lk4 : k4 < 144) (c5 : ¬ (2 : Int32) ≤ (s.2.1 13 k4)) (ek6 : x4 = nI k6) (lk6 : k6 < 144) (c7 : ((s.2.1 14 k6) / (4 : Int32)) = (73 : Int32)) (k : gm_ev N0 K ra_nm (ra_mt K) d (some .boolean) (gm_I cX12_isHeadWrong) (gm_lkf (lkX12 false K)) 64 [some (.ref B), some (.int x1), none, some (.int (1 : Int32)), some (.int (x4 + (1 : Int32)))] [] (bM B (mH B s) G) sz sl R) : gm_ev N0 K ra_nm (ra_mt K) d (some .boolean) (gm_I cX12_isHeadWrong) (gm_lkf (lkX12 false K)) 64 [some (.ref B), some (.int x1), none, some (.int x3), some (.int x4)] [] (bM B (mH B s) G) sz sl R := by
  refine gm_ev.iload i137_64 rfl ?_
  refine gm_ev.bipush (v := 6) i137_66 (by decide) ?_
  refine gm_ev.iload_n i137_68 rfl ?_
  refine gm_ev.imul i137_69 ?_
  refine gm_ev.aload_n i137_70 rfl ?_
  refine gm_ev.getfield (v := .ref (B + 4)) i137_71 rfl (bM_fld (j := 0) (fs := mF B s) rfl rfl) ?_
  refine gm_ev.iload_n i137_74 rfl ?_
  refine gm_ev.iaload i137_75 (bM_ai (j := 4) (n := 24) (f := s.2.1 12) rfl ek1 lk1 (by decide)) ?_
  refine gm_ev.iadd i137_76 ?_
  refine gm_ev.icmp_gt_f i137_77 c2 ?_
  refine gm_ev.iload_n i137_80 rfl ?_
  refine gm_ev.if_ne_f i137_81 c3 ?_
  refine gm_ev.aload_n i137_84 rfl ?_
  refine gm_ev.getfield (v := .ref (B + 5)) i137_85 rfl (bM_fld (j := 0) (fs := mF B s) rfl rfl) ?_
  refine gm_ev.iload i137_88 rfl ?_
  refine gm_ev.iaload i137_90 (bM_ai (j := 5) (n := 144) (f := s.2.1 13) rfl ek4 lk4 (by decide)) ?_
  refine gm_ev.iconst (v := 2) i137_91 (by decide) ?_
  refine gm_ev.icmp_ge_f i137_92 c5 ?_
  refine gm_ev.aload_n i137_95 rfl ?_
  refine gm_ev.getfield (v := .ref (B + 6)) i137_96 rfl (bM_fld (j := 0) (fs := mF B s) rfl rfl) ?_
  refine gm_ev.iload i137_99 rfl ?_
  refine gm_ev.iaload i137_101 (bM_ai (j := 6) (n := 144) (f := s.2.1 14) rfl ek6 lk6 (by decide)) ?_
  refine gm_ev.iconst (v := 4) i137_102 (by decide) ?_
  refine gm_ev.idiv i137_103 (by decide) ?_
  refine gm_ev.bipush (v := 73) i137_104 (by decide) ?_
  refine gm_ev.icmp_eq_t (tgt := 123) i137_106 (by decide) c7 ?_
  refine gm_ev.iconst (v := 1) i137_123 (by decide) ?_
  refine gm_ev.goto (tgt := 128) i137_124 (by decide) ?_
  refine gm_ev.istore_n (ls' := [some (.ref B), some (.int x1), none, some (.int (1 : Int32)), some (.int x4)]) i137_128 (Nat.le_of_ble_eq_true rfl) rfl ?_
  refine gm_ev.iinc (v := x4 + (1 : Int32)) (ls' := [some (.ref B), some (.int x1), none, some (.int (1 : Int32)), some (.int (x4 + (1 : Int32)))]) i137_129 rfl (by rfl) rfl ?_
  refine gm_ev.goto (tgt := 64) i137_132 (by decide) ?_
  exact k
theorem r_isHeadWrong_64_fffft_at64 {N0 : Nat} {K : Nat → Nat} {d B : Nat} {s : mS} {G : gm_H} {sz sl : Nat} {R : gm_R} {x1 : Int32} {x3 : Int32} {x4 : Int32} {k1 : Nat} {k4 : Nat} {k6 : Nat} {k8 : Nat} (hN : N0 ≤ B) (ek1 : x1 = nI k1) (lk1 : k1 < 24) (c2 : ¬ (((6 : Int32) * x1) + (s.2.1 12 k1)) < x4) (c3 : x3 = 0) (ek4 : x4 = nI k4) (lk4 : k4 < 144) (c5 : ¬ (2 : Int32) ≤ (s.2.1 13 k4)) (ek6 : x4 = nI k6) (lk6 : k6 < 144) (c7 : ¬ ((s.2.1 14 k6) / (4 : Int32)) = (73 : Int32)) (ek8 : x4 = nI k8) (lk8 : k8 < 144) (c9 : ¬ ((s.2.1 14 k8) / (4 : Int32)) = (78 : Int32)) (k : gm_ev N0 K ra_nm (ra_mt K) d (some .boolean) (gm_I cX12_isHeadWrong) (gm_lkf (lkX12 false K)) 64 [some (.ref B), some (.int x1), none, some (.int (0 : Int32)), some (.int (x4 + (1 : Int32)))] [] (bM B (mH B s) G) sz sl R) : gm_ev N0 K ra_nm (ra_mt K) d (some .boolean) (gm_I cX12_isHeadWrong) (gm_lkf (lkX12 false K)) 64 [some (.ref B), some (.int x1), none, some (.int x3), some (.int x4)] [] (bM B (mH B s) G) sz sl R := by
  refine gm_ev.iload i137_64 rfl ?_
  refine gm_ev.bipush (v := 6) i137_66 (by decide) ?_
  refine gm_ev.iload_n i137_68 rfl ?_
  refine gm_ev.imul i137_69 ?_
  refine gm_ev.aload_n i137_70 rfl ?_
  refine gm_ev.getfield (v := .ref (B + 4)) i137_71 rfl (bM_fld (j := 0) (fs := mF B s) rfl rfl) ?_
  refine gm_ev.iload_n i137_74 rfl ?_
  refine gm_ev.iaload i137_75 (bM_ai (j := 4) (n := 24) (f := s.2.1 12) rfl ek1 lk1 (by decide)) ?_
  refine gm_ev.iadd i137_76 ?_
  refine gm_ev.icmp_gt_f i137_77 c2 ?_
  refine gm_ev.iload_n i137_80 rfl ?_
  refine gm_ev.if_ne_f i137_81 c3 ?_
  refine gm_ev.aload_n i137_84 rfl ?_
  refine gm_ev.getfield (v := .ref (B + 5)) i137_85 rfl (bM_fld (j := 0) (fs := mF B s) rfl rfl) ?_
  refine gm_ev.iload i137_88 rfl ?_
  refine gm_ev.iaload i137_90 (bM_ai (j := 5) (n := 144) (f := s.2.1 13) rfl ek4 lk4 (by decide)) ?_
  refine gm_ev.iconst (v := 2) i137_91 (by decide) ?_
  refine gm_ev.icmp_ge_f i137_92 c5 ?_
  refine gm_ev.aload_n i137_95 rfl ?_
  refine gm_ev.getfield (v := .ref (B + 6)) i137_96 rfl (bM_fld (j := 0) (fs := mF B s) rfl rfl) ?_
  refine gm_ev.iload i137_99 rfl ?_
  refine gm_ev.iaload i137_101 (bM_ai (j := 6) (n := 144) (f := s.2.1 14) rfl ek6 lk6 (by decide)) ?_
  refine gm_ev.iconst (v := 4) i137_102 (by decide) ?_
  refine gm_ev.idiv i137_103 (by decide) ?_
  refine gm_ev.bipush (v := 73) i137_104 (by decide) ?_
  refine gm_ev.icmp_eq_f i137_106 c7 ?_
  refine gm_ev.aload_n i137_109 rfl ?_
  refine gm_ev.getfield (v := .ref (B + 6)) i137_110 rfl (bM_fld (j := 0) (fs := mF B s) rfl rfl) ?_
  refine gm_ev.iload i137_113 rfl ?_
  refine gm_ev.iaload i137_115 (bM_ai (j := 6) (n := 144) (f := s.2.1 14) rfl ek8 lk8 (by decide)) ?_
  refine gm_ev.iconst (v := 4) i137_116 (by decide) ?_
  refine gm_ev.idiv i137_117 (by decide) ?_
  refine gm_ev.bipush (v := 78) i137_118 (by decide) ?_
  refine gm_ev.icmp_ne_t (tgt := 127) i137_120 (by decide) c9 ?_
  refine gm_ev.iconst (v := 0) i137_127 (by decide) ?_
  refine gm_ev.istore_n (ls' := [some (.ref B), some (.int x1), none, some (.int (0 : Int32)), some (.int x4)]) i137_128 (Nat.le_of_ble_eq_true rfl) rfl ?_
  refine gm_ev.iinc (v := x4 + (1 : Int32)) (ls' := [some (.ref B), some (.int x1), none, some (.int (0 : Int32)), some (.int (x4 + (1 : Int32)))]) i137_129 rfl (by rfl) rfl ?_
  refine gm_ev.goto (tgt := 64) i137_132 (by decide) ?_
  exact k
theorem r_isHeadWrong_64_fffff_at64 {N0 : Nat} {K : Nat → Nat} {d B : Nat} {s : mS} {G : gm_H} {sz sl : Nat} {R : gm_R} {x1 : Int32} {x3 : Int32} {x4 : Int32} {k1 : Nat} {k4 : Nat} {k6 : Nat} {k8 : Nat} (hN : N0 ≤ B) (ek1 : x1 = nI k1) (lk1 : k1 < 24) (c2 : ¬ (((6 : Int32) * x1) + (s.2.1 12 k1)) < x4) (c3 : x3 = 0) (ek4 : x4 = nI k4) (lk4 : k4 < 144) (c5 : ¬ (2 : Int32) ≤ (s.2.1 13 k4)) (ek6 : x4 = nI k6) (lk6 : k6 < 144) (c7 : ¬ ((s.2.1 14 k6) / (4 : Int32)) = (73 : Int32)) (ek8 : x4 = nI k8) (lk8 : k8 < 144) (c9 : ((s.2.1 14 k8) / (4 : Int32)) = (78 : Int32)) (k : gm_ev N0 K ra_nm (ra_mt K) d (some .boolean) (gm_I cX12_isHeadWrong) (gm_lkf (lkX12 false K)) 64 [some (.ref B), some (.int x1), none, some (.int (1 : Int32)), some (.int (x4 + (1 : Int32)))] [] (bM B (mH B s) G) sz sl R) : gm_ev N0 K ra_nm (ra_mt K) d (some .boolean) (gm_I cX12_isHeadWrong) (gm_lkf (lkX12 false K)) 64 [some (.ref B), some (.int x1), none, some (.int x3), some (.int x4)] [] (bM B (mH B s) G) sz sl R := by
  refine gm_ev.iload i137_64 rfl ?_
  refine gm_ev.bipush (v := 6) i137_66 (by decide) ?_
  refine gm_ev.iload_n i137_68 rfl ?_
  refine gm_ev.imul i137_69 ?_
  refine gm_ev.aload_n i137_70 rfl ?_
  refine gm_ev.getfield (v := .ref (B + 4)) i137_71 rfl (bM_fld (j := 0) (fs := mF B s) rfl rfl) ?_
  refine gm_ev.iload_n i137_74 rfl ?_
  refine gm_ev.iaload i137_75 (bM_ai (j := 4) (n := 24) (f := s.2.1 12) rfl ek1 lk1 (by decide)) ?_
  refine gm_ev.iadd i137_76 ?_
  refine gm_ev.icmp_gt_f i137_77 c2 ?_
  refine gm_ev.iload_n i137_80 rfl ?_
  refine gm_ev.if_ne_f i137_81 c3 ?_
  refine gm_ev.aload_n i137_84 rfl ?_
  refine gm_ev.getfield (v := .ref (B + 5)) i137_85 rfl (bM_fld (j := 0) (fs := mF B s) rfl rfl) ?_
  refine gm_ev.iload i137_88 rfl ?_
  refine gm_ev.iaload i137_90 (bM_ai (j := 5) (n := 144) (f := s.2.1 13) rfl ek4 lk4 (by decide)) ?_
  refine gm_ev.iconst (v := 2) i137_91 (by decide) ?_
  refine gm_ev.icmp_ge_f i137_92 c5 ?_
  refine gm_ev.aload_n i137_95 rfl ?_
  refine gm_ev.getfield (v := .ref (B + 6)) i137_96 rfl (bM_fld (j := 0) (fs := mF B s) rfl rfl) ?_
  refine gm_ev.iload i137_99 rfl ?_
  refine gm_ev.iaload i137_101 (bM_ai (j := 6) (n := 144) (f := s.2.1 14) rfl ek6 lk6 (by decide)) ?_
  refine gm_ev.iconst (v := 4) i137_102 (by decide) ?_
  refine gm_ev.idiv i137_103 (by decide) ?_
  refine gm_ev.bipush (v := 73) i137_104 (by decide) ?_
  refine gm_ev.icmp_eq_f i137_106 c7 ?_
  refine gm_ev.aload_n i137_109 rfl ?_
  refine gm_ev.getfield (v := .ref (B + 6)) i137_110 rfl (bM_fld (j := 0) (fs := mF B s) rfl rfl) ?_
  refine gm_ev.iload i137_113 rfl ?_
  refine gm_ev.iaload i137_115 (bM_ai (j := 6) (n := 144) (f := s.2.1 14) rfl ek8 lk8 (by decide)) ?_
  refine gm_ev.iconst (v := 4) i137_116 (by decide) ?_
  refine gm_ev.idiv i137_117 (by decide) ?_
  refine gm_ev.bipush (v := 78) i137_118 (by decide) ?_
  refine gm_ev.icmp_ne_f i137_120 c9 ?_
  refine gm_ev.iconst (v := 1) i137_123 (by decide) ?_
  refine gm_ev.goto (tgt := 128) i137_124 (by decide) ?_
  refine gm_ev.istore_n (ls' := [some (.ref B), some (.int x1), none, some (.int (1 : Int32)), some (.int x4)]) i137_128 (Nat.le_of_ble_eq_true rfl) rfl ?_
  refine gm_ev.iinc (v := x4 + (1 : Int32)) (ls' := [some (.ref B), some (.int x1), none, some (.int (1 : Int32)), some (.int (x4 + (1 : Int32)))]) i137_129 rfl (by rfl) rfl ?_
  refine gm_ev.goto (tgt := 64) i137_132 (by decide) ?_
  exact k
theorem r_isLoose_0__at19 {N0 : Nat} {K : Nat → Nat} {d B : Nat} {s : mS} {G : gm_H} {sz sl : Nat} {R : gm_R} {p0 : Int32} {r1 : Int32} (hN : N0 ≤ B) (t2 : gm_to N0 K ra_nm (ra_mt K) d 136 [.ref B, .int ((6 : Int32) * p0)] (bM B (mH B s) G) sz (.returned (some (.int r1)), bM B (mH B s) G, sz, 0)) (k : gm_ev N0 K ra_nm (ra_mt K) d (some .boolean) (gm_I cX12_isLoose) (gm_lkf (lkX12 false K)) 19 [some (.ref B), some (.int p0), some (.int r1), some (.int (0 : Int32)), some (.int (((6 : Int32) * p0) + (1 : Int32)))] [] (bM B (mH B s) G) sz sl R) : gm_ev N0 K ra_nm (ra_mt K) d (some .boolean) (gm_I cX12_isLoose) (gm_lkf (lkX12 false K)) 0 [some (.ref B), some (.int p0), none, none, none] [] (bM B (mH B s) G) sz sl R := by
  refine gm_ev.aload_n i138_0 rfl ?_
  refine gm_ev.bipush (v := 6) i138_1 (by decide) ?_
  refine gm_ev.iload_n i138_3 rfl ?_
  refine gm_ev.imul i138_4 ?_
  refine gm_ev.callV gm_mono_run (av := [.int ((6 : Int32) * p0)]) (r := []) (ci := 11) (fs := mF B s) (bM_get (j := 0) rfl) i138_5 rfl rfl rfl (Nat.le_of_ble_eq_true rfl) t2 ?_
  refine gm_ev.istore_n (ls' := [some (.ref B), some (.int p0), some (.int r1), none, none]) i138_8 (Nat.le_of_ble_eq_true rfl) rfl ?_
  refine gm_ev.iconst (v := 0) i138_9 (by decide) ?_
  refine gm_ev.istore_n (ls' := [some (.ref B), some (.int p0), some (.int r1), some (.int (0 : Int32)), none]) i138_10 (Nat.le_of_ble_eq_true rfl) rfl ?_
  refine gm_ev.bipush (v := 6) i138_11 (by decide) ?_
  refine gm_ev.iload_n i138_13 rfl ?_
  refine gm_ev.imul i138_14 ?_
  refine gm_ev.iconst (v := 1) i138_15 (by decide) ?_
  refine gm_ev.iadd i138_16 ?_
  refine gm_ev.istore (ls' := [some (.ref B), some (.int p0), some (.int r1), some (.int (0 : Int32)), some (.int (((6 : Int32) * p0) + (1 : Int32)))]) i138_17 (Nat.le_of_ble_eq_true rfl) rfl ?_
  exact k
theorem r_isLoose_19_tt {N0 : Nat} {K : Nat → Nat} {d B : Nat} {s : mS} {G : gm_H} {sz sl : Nat} {x1 : Int32} {x2 : Int32} {x3 : Int32} {x4 : Int32} {k1 : Nat} (hN : N0 ≤ B) (ek1 : x1 = nI k1) (lk1 : k1 < 24) (c2 : (((6 : Int32) * x1) + (s.2.1 12 k1)) < x4) (c3 : (x2 &&& (x3 ^^^ (-1 : Int32))) = 0) : gm_ev N0 K ra_nm (ra_mt K) d (some .boolean) (gm_I cX12_isLoose) (gm_lkf (lkX12 false K)) 19 [some (.ref B), some (.int x1), some (.int x2), some (.int x3), some (.int x4)] [] (bM B (mH B s) G) sz sl (.returned (some (.int (0 : Int32))), (bM B (mH B s) G), sz, sl) := by
  refine gm_ev.iload i138_19 rfl ?_
  refine gm_ev.bipush (v := 6) i138_21 (by decide) ?_
  refine gm_ev.iload_n i138_23 rfl ?_
  refine gm_ev.imul i138_24 ?_
  refine gm_ev.aload_n i138_25 rfl ?_
  refine gm_ev.getfield (v := .ref (B + 4)) i138_26 rfl (bM_fld (j := 0) (fs := mF B s) rfl rfl) ?_
  refine gm_ev.iload_n i138_29 rfl ?_
  refine gm_ev.iaload i138_30 (bM_ai (j := 4) (n := 24) (f := s.2.1 12) rfl ek1 lk1 (by decide)) ?_
  refine gm_ev.iadd i138_31 ?_
  refine gm_ev.icmp_gt_t (tgt := 72) i138_32 (by decide) c2 ?_
  refine gm_ev.iload_n i138_72 rfl ?_
  refine gm_ev.iload_n i138_73 rfl ?_
  refine gm_ev.iconst (v := -1) i138_74 (by decide) ?_
  refine gm_ev.ixor i138_75 ?_
  refine gm_ev.iand i138_76 ?_
  refine gm_ev.if_eq_t (tgt := 84) i138_77 (by decide) c3 ?_
  refine gm_ev.iconst (v := 0) i138_84 (by decide) ?_
  exact gm_ev.zret i138_85 rfl (by decide)
theorem r_isLoose_19_tf {N0 : Nat} {K : Nat → Nat} {d B : Nat} {s : mS} {G : gm_H} {sz sl : Nat} {x1 : Int32} {x2 : Int32} {x3 : Int32} {x4 : Int32} {k1 : Nat} (hN : N0 ≤ B) (ek1 : x1 = nI k1) (lk1 : k1 < 24) (c2 : (((6 : Int32) * x1) + (s.2.1 12 k1)) < x4) (c3 : ¬ (x2 &&& (x3 ^^^ (-1 : Int32))) = 0) : gm_ev N0 K ra_nm (ra_mt K) d (some .boolean) (gm_I cX12_isLoose) (gm_lkf (lkX12 false K)) 19 [some (.ref B), some (.int x1), some (.int x2), some (.int x3), some (.int x4)] [] (bM B (mH B s) G) sz sl (.returned (some (.int (1 : Int32))), (bM B (mH B s) G), sz, sl) := by
  refine gm_ev.iload i138_19 rfl ?_
  refine gm_ev.bipush (v := 6) i138_21 (by decide) ?_
  refine gm_ev.iload_n i138_23 rfl ?_
  refine gm_ev.imul i138_24 ?_
  refine gm_ev.aload_n i138_25 rfl ?_
  refine gm_ev.getfield (v := .ref (B + 4)) i138_26 rfl (bM_fld (j := 0) (fs := mF B s) rfl rfl) ?_
  refine gm_ev.iload_n i138_29 rfl ?_
  refine gm_ev.iaload i138_30 (bM_ai (j := 4) (n := 24) (f := s.2.1 12) rfl ek1 lk1 (by decide)) ?_
  refine gm_ev.iadd i138_31 ?_
  refine gm_ev.icmp_gt_t (tgt := 72) i138_32 (by decide) c2 ?_
  refine gm_ev.iload_n i138_72 rfl ?_
  refine gm_ev.iload_n i138_73 rfl ?_
  refine gm_ev.iconst (v := -1) i138_74 (by decide) ?_
  refine gm_ev.ixor i138_75 ?_
  refine gm_ev.iand i138_76 ?_
  refine gm_ev.if_eq_f i138_77 c3 ?_
  refine gm_ev.iconst (v := 1) i138_80 (by decide) ?_
  refine gm_ev.goto (tgt := 85) i138_81 (by decide) ?_
  exact gm_ev.zret i138_85 rfl (by decide)
theorem r_isLoose_19_ft_at19 {N0 : Nat} {K : Nat → Nat} {d B : Nat} {s : mS} {G : gm_H} {sz sl : Nat} {R : gm_R} {x1 : Int32} {x2 : Int32} {x3 : Int32} {x4 : Int32} {k1 : Nat} {k3 : Nat} {r5 : Int32} (hN : N0 ≤ B) (ek1 : x1 = nI k1) (lk1 : k1 < 24) (c2 : ¬ (((6 : Int32) * x1) + (s.2.1 12 k1)) < x4) (ek3 : x4 = nI k3) (lk3 : k3 < 144) (c4 : ¬ (s.2.1 13 k3) = 0) (t6 : gm_to N0 K ra_nm (ra_mt K) d 136 [.ref B, .int x4] (bM B (mH B s) G) sz (.returned (some (.int r5)), bM B (mH B s) G, sz, 0)) (k : gm_ev N0 K ra_nm (ra_mt K) d (some .boolean) (gm_I cX12_isLoose) (gm_lkf (lkX12 false K)) 19 [some (.ref B), some (.int x1), some (.int (x2 ||| r5)), some (.int x3), some (.int (x4 + (1 : Int32)))] [] (bM B (mH B s) G) sz sl R) : gm_ev N0 K ra_nm (ra_mt K) d (some .boolean) (gm_I cX12_isLoose) (gm_lkf (lkX12 false K)) 19 [some (.ref B), some (.int x1), some (.int x2), some (.int x3), some (.int x4)] [] (bM B (mH B s) G) sz sl R := by
  refine gm_ev.iload i138_19 rfl ?_
  refine gm_ev.bipush (v := 6) i138_21 (by decide) ?_
  refine gm_ev.iload_n i138_23 rfl ?_
  refine gm_ev.imul i138_24 ?_
  refine gm_ev.aload_n i138_25 rfl ?_
  refine gm_ev.getfield (v := .ref (B + 4)) i138_26 rfl (bM_fld (j := 0) (fs := mF B s) rfl rfl) ?_
  refine gm_ev.iload_n i138_29 rfl ?_
  refine gm_ev.iaload i138_30 (bM_ai (j := 4) (n := 24) (f := s.2.1 12) rfl ek1 lk1 (by decide)) ?_
  refine gm_ev.iadd i138_31 ?_
  refine gm_ev.icmp_gt_f i138_32 c2 ?_
  refine gm_ev.aload_n i138_35 rfl ?_
  refine gm_ev.getfield (v := .ref (B + 5)) i138_36 rfl (bM_fld (j := 0) (fs := mF B s) rfl rfl) ?_
  refine gm_ev.iload i138_39 rfl ?_
  refine gm_ev.iaload i138_41 (bM_ai (j := 5) (n := 144) (f := s.2.1 13) rfl ek3 lk3 (by decide)) ?_
  refine gm_ev.if_ne_t (tgt := 57) i138_42 (by decide) c4 ?_
  refine gm_ev.iload_n i138_57 rfl ?_
  refine gm_ev.aload_n i138_58 rfl ?_
  refine gm_ev.iload i138_59 rfl ?_
  refine gm_ev.callV gm_mono_run (av := [.int x4]) (r := [.int x2]) (ci := 11) (fs := mF B s) (bM_get (j := 0) rfl) i138_61 rfl rfl rfl (Nat.le_of_ble_eq_true rfl) t6 ?_
  refine gm_ev.ior i138_64 ?_
  refine gm_ev.istore_n (ls' := [some (.ref B), some (.int x1), some (.int (x2 ||| r5)), some (.int x3), some (.int x4)]) i138_65 (Nat.le_of_ble_eq_true rfl) rfl ?_
  refine gm_ev.iinc (v := x4 + (1 : Int32)) (ls' := [some (.ref B), some (.int x1), some (.int (x2 ||| r5)), some (.int x3), some (.int (x4 + (1 : Int32)))]) i138_66 rfl (by rfl) rfl ?_
  refine gm_ev.goto (tgt := 19) i138_69 (by decide) ?_
  exact k
theorem r_isLoose_19_ff_at19 {N0 : Nat} {K : Nat → Nat} {d B : Nat} {s : mS} {G : gm_H} {sz sl : Nat} {R : gm_R} {x1 : Int32} {x2 : Int32} {x3 : Int32} {x4 : Int32} {k1 : Nat} {k3 : Nat} {r5 : Int32} (hN : N0 ≤ B) (ek1 : x1 = nI k1) (lk1 : k1 < 24) (c2 : ¬ (((6 : Int32) * x1) + (s.2.1 12 k1)) < x4) (ek3 : x4 = nI k3) (lk3 : k3 < 144) (c4 : (s.2.1 13 k3) = 0) (t6 : gm_to N0 K ra_nm (ra_mt K) d 136 [.ref B, .int x4] (bM B (mH B s) G) sz (.returned (some (.int r5)), bM B (mH B s) G, sz, 0)) (k : gm_ev N0 K ra_nm (ra_mt K) d (some .boolean) (gm_I cX12_isLoose) (gm_lkf (lkX12 false K)) 19 [some (.ref B), some (.int x1), some (.int x2), some (.int (x3 ||| r5)), some (.int (x4 + (1 : Int32)))] [] (bM B (mH B s) G) sz sl R) : gm_ev N0 K ra_nm (ra_mt K) d (some .boolean) (gm_I cX12_isLoose) (gm_lkf (lkX12 false K)) 19 [some (.ref B), some (.int x1), some (.int x2), some (.int x3), some (.int x4)] [] (bM B (mH B s) G) sz sl R := by
  refine gm_ev.iload i138_19 rfl ?_
  refine gm_ev.bipush (v := 6) i138_21 (by decide) ?_
  refine gm_ev.iload_n i138_23 rfl ?_
  refine gm_ev.imul i138_24 ?_
  refine gm_ev.aload_n i138_25 rfl ?_
  refine gm_ev.getfield (v := .ref (B + 4)) i138_26 rfl (bM_fld (j := 0) (fs := mF B s) rfl rfl) ?_
  refine gm_ev.iload_n i138_29 rfl ?_
  refine gm_ev.iaload i138_30 (bM_ai (j := 4) (n := 24) (f := s.2.1 12) rfl ek1 lk1 (by decide)) ?_
  refine gm_ev.iadd i138_31 ?_
  refine gm_ev.icmp_gt_f i138_32 c2 ?_
  refine gm_ev.aload_n i138_35 rfl ?_
  refine gm_ev.getfield (v := .ref (B + 5)) i138_36 rfl (bM_fld (j := 0) (fs := mF B s) rfl rfl) ?_
  refine gm_ev.iload i138_39 rfl ?_
  refine gm_ev.iaload i138_41 (bM_ai (j := 5) (n := 144) (f := s.2.1 13) rfl ek3 lk3 (by decide)) ?_
  refine gm_ev.if_ne_f i138_42 c4 ?_
  refine gm_ev.iload_n i138_45 rfl ?_
  refine gm_ev.aload_n i138_46 rfl ?_
  refine gm_ev.iload i138_47 rfl ?_
  refine gm_ev.callV gm_mono_run (av := [.int x4]) (r := [.int x3]) (ci := 11) (fs := mF B s) (bM_get (j := 0) rfl) i138_49 rfl rfl rfl (Nat.le_of_ble_eq_true rfl) t6 ?_
  refine gm_ev.ior i138_52 ?_
  refine gm_ev.istore_n (ls' := [some (.ref B), some (.int x1), some (.int x2), some (.int (x3 ||| r5)), some (.int x4)]) i138_53 (Nat.le_of_ble_eq_true rfl) rfl ?_
  refine gm_ev.goto (tgt := 66) i138_54 (by decide) ?_
  refine gm_ev.iinc (v := x4 + (1 : Int32)) (ls' := [some (.ref B), some (.int x1), some (.int x2), some (.int (x3 ||| r5)), some (.int (x4 + (1 : Int32)))]) i138_66 rfl (by rfl) rfl ?_
  refine gm_ev.goto (tgt := 19) i138_69 (by decide) ?_
  exact k
theorem r_depends_0__at2 {N0 : Nat} {K : Nat → Nat} {d B : Nat} {s : mS} {G : gm_H} {sz sl : Nat} {R : gm_R} {p0 : Int32} (hN : N0 ≤ B)  (k : gm_ev N0 K ra_nm (ra_mt K) d none (gm_I cX12_depends) (gm_lkf (lkX12 false K)) 2 [some (.ref B), some (.int p0), some (.int (0 : Int32)), none, none, none] [] (bM B (mH B s) G) sz sl R) : gm_ev N0 K ra_nm (ra_mt K) d none (gm_I cX12_depends) (gm_lkf (lkX12 false K)) 0 [some (.ref B), some (.int p0), none, none, none, none] [] (bM B (mH B s) G) sz sl R := by
  refine gm_ev.iconst (v := 0) i139_0 (by decide) ?_
  refine gm_ev.istore_n (ls' := [some (.ref B), some (.int p0), some (.int (0 : Int32)), none, none, none]) i139_1 (Nat.le_of_ble_eq_true rfl) rfl ?_
  exact k
theorem r_depends_2_t_at24 {N0 : Nat} {K : Nat → Nat} {d B : Nat} {s : mS} {G : gm_H} {sz sl : Nat} {R : gm_R} {x1 : Int32} {x2 : Int32} (hN : N0 ≤ B) (c1 : (512 : Int32) ≤ x2) (k : gm_ev N0 K ra_nm (ra_mt K) d none (gm_I cX12_depends) (gm_lkf (lkX12 false K)) 24 [some (.ref B), some (.int x1), some (.int (1 : Int32)), none, none, none] [] (bM B (mH B s) G) sz sl R) : gm_ev N0 K ra_nm (ra_mt K) d none (gm_I cX12_depends) (gm_lkf (lkX12 false K)) 2 [some (.ref B), some (.int x1), some (.int x2), none, none, none] [] (bM B (mH B s) G) sz sl R := by
  refine gm_ev.iload_n i139_2 rfl ?_
  refine gm_ev.sipush (v := 512) i139_3 (by decide) ?_
  refine gm_ev.icmp_ge_t (tgt := 22) i139_6 (by decide) c1 ?_
  refine gm_ev.iconst (v := 1) i139_22 (by decide) ?_
  refine gm_ev.istore_n (ls' := [some (.ref B), some (.int x1), some (.int (1 : Int32)), none, none, none]) i139_23 (Nat.le_of_ble_eq_true rfl) rfl ?_
  exact k
theorem r_depends_2_f_at2 {N0 : Nat} {K : Nat → Nat} {d B : Nat} {s : mS} {G : gm_H} {sz sl : Nat} {R : gm_R} {x1 : Int32} {x2 : Int32} {k2 : Nat} (hN : N0 ≤ B) (c1 : ¬ (512 : Int32) ≤ x2) (ek2 : x2 = nI k2) (lk2 : k2 < 512) (k : gm_ev N0 K ra_nm (ra_mt K) d none (gm_I cX12_depends) (gm_lkf (lkX12 false K)) 2 [some (.ref B), some (.int x1), some (.int (x2 + (1 : Int32))), none, none, none] [] (bM B (mH B (mA s 18 (upd (s.2.1 18) k2 (vp_nar .boolean (0 : Int32))))) G) sz sl R) : gm_ev N0 K ra_nm (ra_mt K) d none (gm_I cX12_depends) (gm_lkf (lkX12 false K)) 2 [some (.ref B), some (.int x1), some (.int x2), none, none, none] [] (bM B (mH B s) G) sz sl R := by
  refine gm_ev.iload_n i139_2 rfl ?_
  refine gm_ev.sipush (v := 512) i139_3 (by decide) ?_
  refine gm_ev.icmp_ge_f i139_6 c1 ?_
  refine gm_ev.aload_n i139_9 rfl ?_
  refine gm_ev.getfield (v := .ref (B + 10)) i139_10 rfl (bM_fld (j := 0) (fs := mF B s) rfl rfl) ?_
  refine gm_ev.iload_n i139_13 rfl ?_
  refine gm_ev.iconst (v := 0) i139_14 (by decide) ?_
  refine gm_ev.zastore (M' := (bM B (mH B (mA s 18 (upd (s.2.1 18) k2 (vp_nar .boolean (0 : Int32))))) G)) i139_15 (bM_astn (j := 10) (n := 512) (f := s.2.1 18) rfl ek2 lk2 (by decide) hN rfl) ?_
  refine gm_ev.iinc (v := x2 + (1 : Int32)) (ls' := [some (.ref B), some (.int x1), some (.int (x2 + (1 : Int32))), none, none, none]) i139_16 rfl (by rfl) rfl ?_
  refine gm_ev.goto (tgt := 2) i139_19 (by decide) ?_
  exact k
theorem r_depends_24_t {N0 : Nat} {K : Nat → Nat} {d B : Nat} {s : mS} {G : gm_H} {sz sl : Nat} {x1 : Int32} {x2 : Int32} (hN : N0 ≤ B) (c1 : x2 = 0) : gm_ev N0 K ra_nm (ra_mt K) d none (gm_I cX12_depends) (gm_lkf (lkX12 false K)) 24 [some (.ref B), some (.int x1), some (.int x2), none, none, none] [] (bM B (mH B s) G) sz sl (.returned none, (bM B (mH B s) G), sz, sl) := by
  refine gm_ev.iload_n i139_24 rfl ?_
  refine gm_ev.if_eq_t (tgt := 147) i139_25 (by decide) c1 ?_
  exact gm_ev.vret i139_147 rfl
theorem r_depends_24_f_at32 {N0 : Nat} {K : Nat → Nat} {d B : Nat} {s : mS} {G : gm_H} {sz sl : Nat} {R : gm_R} {x1 : Int32} {x2 : Int32} (hN : N0 ≤ B) (c1 : ¬ x2 = 0) (k : gm_ev N0 K ra_nm (ra_mt K) d none (gm_I cX12_depends) (gm_lkf (lkX12 false K)) 32 [some (.ref B), some (.int x1), some (.int (0 : Int32)), some (.int (0 : Int32)), none, none] [] (bM B (mH B s) G) sz sl R) : gm_ev N0 K ra_nm (ra_mt K) d none (gm_I cX12_depends) (gm_lkf (lkX12 false K)) 24 [some (.ref B), some (.int x1), some (.int x2), none, none, none] [] (bM B (mH B s) G) sz sl R := by
  refine gm_ev.iload_n i139_24 rfl ?_
  refine gm_ev.if_eq_f i139_25 c1 ?_
  refine gm_ev.iconst (v := 0) i139_28 (by decide) ?_
  refine gm_ev.istore_n (ls' := [some (.ref B), some (.int x1), some (.int (0 : Int32)), none, none, none]) i139_29 (Nat.le_of_ble_eq_true rfl) rfl ?_
  refine gm_ev.iconst (v := 0) i139_30 (by decide) ?_
  refine gm_ev.istore_n (ls' := [some (.ref B), some (.int x1), some (.int (0 : Int32)), some (.int (0 : Int32)), none, none]) i139_31 (Nat.le_of_ble_eq_true rfl) rfl ?_
  exact k
theorem r_depends_32_t_at24 {N0 : Nat} {K : Nat → Nat} {d B : Nat} {s : mS} {G : gm_H} {sz sl : Nat} {R : gm_R} {x1 : Int32} {x2 : Int32} {x3 : Int32} (hN : N0 ≤ B) (c1 : (s.1 11) ≤ x3) (k : gm_ev N0 K ra_nm (ra_mt K) d none (gm_I cX12_depends) (gm_lkf (lkX12 false K)) 24 [some (.ref B), some (.int x1), some (.int x2), none, none, none] [] (bM B (mH B s) G) sz sl R) : gm_ev N0 K ra_nm (ra_mt K) d none (gm_I cX12_depends) (gm_lkf (lkX12 false K)) 32 [some (.ref B), some (.int x1), some (.int x2), some (.int x3), none, none] [] (bM B (mH B s) G) sz sl R := by
  refine gm_ev.iload_n i139_32 rfl ?_
  refine gm_ev.aload_n i139_33 rfl ?_
  refine gm_ev.getfield (v := .int (s.1 11)) i139_34 rfl (bM_fld (j := 0) (fs := mF B s) rfl rfl) ?_
  refine gm_ev.icmp_ge_t (tgt := 144) i139_37 (by decide) c1 ?_
  refine gm_ev.goto (tgt := 24) i139_144 (by decide) ?_
  refine gm_ev.le (a := [some (.ref B), some (.int x1), some (.int x2), none, none, none]) (gm_leL.le (show gm_leL _ _ from ⟨rfl, ⟨rfl, ⟨rfl, trivial⟩⟩⟩)) ?_
  exact k
theorem r_depends_32_f_at59 {N0 : Nat} {K : Nat → Nat} {d B : Nat} {s : mS} {G : gm_H} {sz sl : Nat} {R : gm_R} {x1 : Int32} {x2 : Int32} {x3 : Int32} {k2 : Nat} (hN : N0 ≤ B) (c1 : ¬ (s.1 11) ≤ x3) (ek2 : ((6 : Int32) * x3) = nI k2) (lk2 : k2 < 144) (k : gm_ev N0 K ra_nm (ra_mt K) d none (gm_I cX12_depends) (gm_lkf (lkX12 false K)) 59 [some (.ref B), some (.int x1), some (.int x2), some (.int x3), some (.int (s.2.1 14 k2)), some (.int (((6 : Int32) * x3) + (1 : Int32)))] [] (bM B (mH B s) G) sz sl R) : gm_ev N0 K ra_nm (ra_mt K) d none (gm_I cX12_depends) (gm_lkf (lkX12 false K)) 32 [some (.ref B), some (.int x1), some (.int x2), some (.int x3), none, none] [] (bM B (mH B s) G) sz sl R := by
  refine gm_ev.iload_n i139_32 rfl ?_
  refine gm_ev.aload_n i139_33 rfl ?_
  refine gm_ev.getfield (v := .int (s.1 11)) i139_34 rfl (bM_fld (j := 0) (fs := mF B s) rfl rfl) ?_
  refine gm_ev.icmp_ge_f i139_37 c1 ?_
  refine gm_ev.aload_n i139_40 rfl ?_
  refine gm_ev.getfield (v := .ref (B + 6)) i139_41 rfl (bM_fld (j := 0) (fs := mF B s) rfl rfl) ?_
  refine gm_ev.bipush (v := 6) i139_44 (by decide) ?_
  refine gm_ev.iload_n i139_46 rfl ?_
  refine gm_ev.imul i139_47 ?_
  refine gm_ev.iaload i139_48 (bM_ai (j := 6) (n := 144) (f := s.2.1 14) rfl ek2 lk2 (by decide)) ?_
  refine gm_ev.istore (ls' := [some (.ref B), some (.int x1), some (.int x2), some (.int x3), some (.int (s.2.1 14 k2)), none]) i139_49 (Nat.le_of_ble_eq_true rfl) rfl ?_
  refine gm_ev.bipush (v := 6) i139_51 (by decide) ?_
  refine gm_ev.iload_n i139_53 rfl ?_
  refine gm_ev.imul i139_54 ?_
  refine gm_ev.iconst (v := 1) i139_55 (by decide) ?_
  refine gm_ev.iadd i139_56 ?_
  refine gm_ev.istore (ls' := [some (.ref B), some (.int x1), some (.int x2), some (.int x3), some (.int (s.2.1 14 k2)), some (.int (((6 : Int32) * x3) + (1 : Int32)))]) i139_57 (Nat.le_of_ble_eq_true rfl) rfl ?_
  exact k
theorem r_depends_59_t_at32 {N0 : Nat} {K : Nat → Nat} {d B : Nat} {s : mS} {G : gm_H} {sz sl : Nat} {R : gm_R} {x1 : Int32} {x2 : Int32} {x3 : Int32} {x4 : Int32} {x5 : Int32} {k1 : Nat} (hN : N0 ≤ B) (ek1 : x3 = nI k1) (lk1 : k1 < 24) (c2 : (((6 : Int32) * x3) + (s.2.1 12 k1)) < x5) (k : gm_ev N0 K ra_nm (ra_mt K) d none (gm_I cX12_depends) (gm_lkf (lkX12 false K)) 32 [some (.ref B), some (.int x1), some (.int x2), some (.int (x3 + (1 : Int32))), none, none] [] (bM B (mH B s) G) sz sl R) : gm_ev N0 K ra_nm (ra_mt K) d none (gm_I cX12_depends) (gm_lkf (lkX12 false K)) 59 [some (.ref B), some (.int x1), some (.int x2), some (.int x3), some (.int x4), some (.int x5)] [] (bM B (mH B s) G) sz sl R := by
  refine gm_ev.iload i139_59 rfl ?_
  refine gm_ev.bipush (v := 6) i139_61 (by decide) ?_
  refine gm_ev.iload_n i139_63 rfl ?_
  refine gm_ev.imul i139_64 ?_
  refine gm_ev.aload_n i139_65 rfl ?_
  refine gm_ev.getfield (v := .ref (B + 4)) i139_66 rfl (bM_fld (j := 0) (fs := mF B s) rfl rfl) ?_
  refine gm_ev.iload_n i139_69 rfl ?_
  refine gm_ev.iaload i139_70 (bM_ai (j := 4) (n := 24) (f := s.2.1 12) rfl ek1 lk1 (by decide)) ?_
  refine gm_ev.iadd i139_71 ?_
  refine gm_ev.icmp_gt_t (tgt := 138) i139_72 (by decide) c2 ?_
  refine gm_ev.iinc (v := x3 + (1 : Int32)) (ls' := [some (.ref B), some (.int x1), some (.int x2), some (.int (x3 + (1 : Int32))), some (.int x4), some (.int x5)]) i139_138 rfl (by rfl) rfl ?_
  refine gm_ev.goto (tgt := 32) i139_141 (by decide) ?_
  refine gm_ev.le (a := [some (.ref B), some (.int x1), some (.int x2), some (.int (x3 + (1 : Int32))), none, none]) (gm_leL.le (show gm_leL _ _ from ⟨rfl, ⟨rfl, ⟨rfl, ⟨rfl, trivial⟩⟩⟩⟩)) ?_
  exact k
theorem r_depends_59_ftt_at59 {N0 : Nat} {K : Nat → Nat} {d B : Nat} {s : mS} {G : gm_H} {sz sl : Nat} {R : gm_R} {x1 : Int32} {x2 : Int32} {x3 : Int32} {x4 : Int32} {x5 : Int32} {k1 : Nat} {k4 : Nat} (hN : N0 ≤ B) (ek1 : x3 = nI k1) (lk1 : k1 < 24) (c2 : ¬ (((6 : Int32) * x3) + (s.2.1 12 k1)) < x5) (c3 : x4 = x1) (ek4 : x5 = nI k4) (lk4 : k4 < 144) (c5 : (2 : Int32) ≤ (s.2.1 13 k4)) (k : gm_ev N0 K ra_nm (ra_mt K) d none (gm_I cX12_depends) (gm_lkf (lkX12 false K)) 59 [some (.ref B), some (.int x1), some (.int x2), some (.int x3), some (.int x4), some (.int (x5 + (1 : Int32)))] [] (bM B (mH B s) G) sz sl R) : gm_ev N0 K ra_nm (ra_mt K) d none (gm_I cX12_depends) (gm_lkf (lkX12 false K)) 59 [some (.ref B), some (.int x1), some (.int x2), some (.int x3), some (.int x4), some (.int x5)] [] (bM B (mH B s) G) sz sl R := by
  refine gm_ev.iload i139_59 rfl ?_
  refine gm_ev.bipush (v := 6) i139_61 (by decide) ?_
  refine gm_ev.iload_n i139_63 rfl ?_
  refine gm_ev.imul i139_64 ?_
  refine gm_ev.aload_n i139_65 rfl ?_
  refine gm_ev.getfield (v := .ref (B + 4)) i139_66 rfl (bM_fld (j := 0) (fs := mF B s) rfl rfl) ?_
  refine gm_ev.iload_n i139_69 rfl ?_
  refine gm_ev.iaload i139_70 (bM_ai (j := 4) (n := 24) (f := s.2.1 12) rfl ek1 lk1 (by decide)) ?_
  refine gm_ev.iadd i139_71 ?_
  refine gm_ev.icmp_gt_f i139_72 c2 ?_
  refine gm_ev.iload i139_75 rfl ?_
  refine gm_ev.iload_n i139_77 rfl ?_
  refine gm_ev.icmp_eq_t (tgt := 91) i139_78 (by decide) c3 ?_
  refine gm_ev.aload_n i139_91 rfl ?_
  refine gm_ev.getfield (v := .ref (B + 5)) i139_92 rfl (bM_fld (j := 0) (fs := mF B s) rfl rfl) ?_
  refine gm_ev.iload i139_95 rfl ?_
  refine gm_ev.iaload i139_97 (bM_ai (j := 5) (n := 144) (f := s.2.1 13) rfl ek4 lk4 (by decide)) ?_
  refine gm_ev.iconst (v := 2) i139_98 (by decide) ?_
  refine gm_ev.icmp_ge_t (tgt := 132) i139_99 (by decide) c5 ?_
  refine gm_ev.iinc (v := x5 + (1 : Int32)) (ls' := [some (.ref B), some (.int x1), some (.int x2), some (.int x3), some (.int x4), some (.int (x5 + (1 : Int32)))]) i139_132 rfl (by rfl) rfl ?_
  refine gm_ev.goto (tgt := 59) i139_135 (by decide) ?_
  exact k
theorem r_depends_59_ftft_at59 {N0 : Nat} {K : Nat → Nat} {d B : Nat} {s : mS} {G : gm_H} {sz sl : Nat} {R : gm_R} {x1 : Int32} {x2 : Int32} {x3 : Int32} {x4 : Int32} {x5 : Int32} {k1 : Nat} {k4 : Nat} {k6 : Nat} {k7 : Nat} (hN : N0 ≤ B) (ek1 : x3 = nI k1) (lk1 : k1 < 24) (c2 : ¬ (((6 : Int32) * x3) + (s.2.1 12 k1)) < x5) (c3 : x4 = x1) (ek4 : x5 = nI k4) (lk4 : k4 < 144) (c5 : ¬ (2 : Int32) ≤ (s.2.1 13 k4)) (ek6 : x5 = nI k6) (lk6 : k6 < 144) (ek7 : (s.2.1 14 k6) = nI k7) (lk7 : k7 < 512) (c8 : ¬ (s.2.1 18 k7) = 0) (k : gm_ev N0 K ra_nm (ra_mt K) d none (gm_I cX12_depends) (gm_lkf (lkX12 false K)) 59 [some (.ref B), some (.int x1), some (.int x2), some (.int x3), some (.int x4), some (.int (x5 + (1 : Int32)))] [] (bM B (mH B s) G) sz sl R) : gm_ev N0 K ra_nm (ra_mt K) d none (gm_I cX12_depends) (gm_lkf (lkX12 false K)) 59 [some (.ref B), some (.int x1), some (.int x2), some (.int x3), some (.int x4), some (.int x5)] [] (bM B (mH B s) G) sz sl R := by
  refine gm_ev.iload i139_59 rfl ?_
  refine gm_ev.bipush (v := 6) i139_61 (by decide) ?_
  refine gm_ev.iload_n i139_63 rfl ?_
  refine gm_ev.imul i139_64 ?_
  refine gm_ev.aload_n i139_65 rfl ?_
  refine gm_ev.getfield (v := .ref (B + 4)) i139_66 rfl (bM_fld (j := 0) (fs := mF B s) rfl rfl) ?_
  refine gm_ev.iload_n i139_69 rfl ?_
  refine gm_ev.iaload i139_70 (bM_ai (j := 4) (n := 24) (f := s.2.1 12) rfl ek1 lk1 (by decide)) ?_
  refine gm_ev.iadd i139_71 ?_
  refine gm_ev.icmp_gt_f i139_72 c2 ?_
  refine gm_ev.iload i139_75 rfl ?_
  refine gm_ev.iload_n i139_77 rfl ?_
  refine gm_ev.icmp_eq_t (tgt := 91) i139_78 (by decide) c3 ?_
  refine gm_ev.aload_n i139_91 rfl ?_
  refine gm_ev.getfield (v := .ref (B + 5)) i139_92 rfl (bM_fld (j := 0) (fs := mF B s) rfl rfl) ?_
  refine gm_ev.iload i139_95 rfl ?_
  refine gm_ev.iaload i139_97 (bM_ai (j := 5) (n := 144) (f := s.2.1 13) rfl ek4 lk4 (by decide)) ?_
  refine gm_ev.iconst (v := 2) i139_98 (by decide) ?_
  refine gm_ev.icmp_ge_f i139_99 c5 ?_
  refine gm_ev.aload_n i139_102 rfl ?_
  refine gm_ev.getfield (v := .ref (B + 10)) i139_103 rfl (bM_fld (j := 0) (fs := mF B s) rfl rfl) ?_
  refine gm_ev.aload_n i139_106 rfl ?_
  refine gm_ev.getfield (v := .ref (B + 6)) i139_107 rfl (bM_fld (j := 0) (fs := mF B s) rfl rfl) ?_
  refine gm_ev.iload i139_110 rfl ?_
  refine gm_ev.iaload i139_112 (bM_ai (j := 6) (n := 144) (f := s.2.1 14) rfl ek6 lk6 (by decide)) ?_
  refine gm_ev.zaload i139_113 (bM_ai (j := 10) (n := 512) (f := s.2.1 18) rfl ek7 lk7 (by decide)) ?_
  refine gm_ev.if_ne_t (tgt := 132) i139_114 (by decide) c8 ?_
  refine gm_ev.iinc (v := x5 + (1 : Int32)) (ls' := [some (.ref B), some (.int x1), some (.int x2), some (.int x3), some (.int x4), some (.int (x5 + (1 : Int32)))]) i139_132 rfl (by rfl) rfl ?_
  refine gm_ev.goto (tgt := 59) i139_135 (by decide) ?_
  exact k
theorem r_depends_59_ftff_at59 {N0 : Nat} {K : Nat → Nat} {d B : Nat} {s : mS} {G : gm_H} {sz sl : Nat} {R : gm_R} {x1 : Int32} {x2 : Int32} {x3 : Int32} {x4 : Int32} {x5 : Int32} {k1 : Nat} {k4 : Nat} {k6 : Nat} {k7 : Nat} {k9 : Nat} {k10 : Nat} (hN : N0 ≤ B) (ek1 : x3 = nI k1) (lk1 : k1 < 24) (c2 : ¬ (((6 : Int32) * x3) + (s.2.1 12 k1)) < x5) (c3 : x4 = x1) (ek4 : x5 = nI k4) (lk4 : k4 < 144) (c5 : ¬ (2 : Int32) ≤ (s.2.1 13 k4)) (ek6 : x5 = nI k6) (lk6 : k6 < 144) (ek7 : (s.2.1 14 k6) = nI k7) (lk7 : k7 < 512) (c8 : (s.2.1 18 k7) = 0) (ek9 : x5 = nI k9) (lk9 : k9 < 144) (ek10 : (s.2.1 14 k9) = nI k10) (lk10 : k10 < 512) (k : gm_ev N0 K ra_nm (ra_mt K) d none (gm_I cX12_depends) (gm_lkf (lkX12 false K)) 59 [some (.ref B), some (.int x1), some (.int (1 : Int32)), some (.int x3), some (.int x4), some (.int (x5 + (1 : Int32)))] [] (bM B (mH B (mA s 18 (upd (s.2.1 18) k10 (vp_nar .boolean (1 : Int32))))) G) sz sl R) : gm_ev N0 K ra_nm (ra_mt K) d none (gm_I cX12_depends) (gm_lkf (lkX12 false K)) 59 [some (.ref B), some (.int x1), some (.int x2), some (.int x3), some (.int x4), some (.int x5)] [] (bM B (mH B s) G) sz sl R := by
  refine gm_ev.iload i139_59 rfl ?_
  refine gm_ev.bipush (v := 6) i139_61 (by decide) ?_
  refine gm_ev.iload_n i139_63 rfl ?_
  refine gm_ev.imul i139_64 ?_
  refine gm_ev.aload_n i139_65 rfl ?_
  refine gm_ev.getfield (v := .ref (B + 4)) i139_66 rfl (bM_fld (j := 0) (fs := mF B s) rfl rfl) ?_
  refine gm_ev.iload_n i139_69 rfl ?_
  refine gm_ev.iaload i139_70 (bM_ai (j := 4) (n := 24) (f := s.2.1 12) rfl ek1 lk1 (by decide)) ?_
  refine gm_ev.iadd i139_71 ?_
  refine gm_ev.icmp_gt_f i139_72 c2 ?_
  refine gm_ev.iload i139_75 rfl ?_
  refine gm_ev.iload_n i139_77 rfl ?_
  refine gm_ev.icmp_eq_t (tgt := 91) i139_78 (by decide) c3 ?_
  refine gm_ev.aload_n i139_91 rfl ?_
  refine gm_ev.getfield (v := .ref (B + 5)) i139_92 rfl (bM_fld (j := 0) (fs := mF B s) rfl rfl) ?_
  refine gm_ev.iload i139_95 rfl ?_
  refine gm_ev.iaload i139_97 (bM_ai (j := 5) (n := 144) (f := s.2.1 13) rfl ek4 lk4 (by decide)) ?_
  refine gm_ev.iconst (v := 2) i139_98 (by decide) ?_
  refine gm_ev.icmp_ge_f i139_99 c5 ?_
  refine gm_ev.aload_n i139_102 rfl ?_
  refine gm_ev.getfield (v := .ref (B + 10)) i139_103 rfl (bM_fld (j := 0) (fs := mF B s) rfl rfl) ?_
  refine gm_ev.aload_n i139_106 rfl ?_
  refine gm_ev.getfield (v := .ref (B + 6)) i139_107 rfl (bM_fld (j := 0) (fs := mF B s) rfl rfl) ?_
  refine gm_ev.iload i139_110 rfl ?_
  refine gm_ev.iaload i139_112 (bM_ai (j := 6) (n := 144) (f := s.2.1 14) rfl ek6 lk6 (by decide)) ?_
  refine gm_ev.zaload i139_113 (bM_ai (j := 10) (n := 512) (f := s.2.1 18) rfl ek7 lk7 (by decide)) ?_
  refine gm_ev.if_ne_f i139_114 c8 ?_
  refine gm_ev.aload_n i139_117 rfl ?_
  refine gm_ev.getfield (v := .ref (B + 10)) i139_118 rfl (bM_fld (j := 0) (fs := mF B s) rfl rfl) ?_
  refine gm_ev.aload_n i139_121 rfl ?_
  refine gm_ev.getfield (v := .ref (B + 6)) i139_122 rfl (bM_fld (j := 0) (fs := mF B s) rfl rfl) ?_
  refine gm_ev.iload i139_125 rfl ?_
  refine gm_ev.iaload i139_127 (bM_ai (j := 6) (n := 144) (f := s.2.1 14) rfl ek9 lk9 (by decide)) ?_
  refine gm_ev.iconst (v := 1) i139_128 (by decide) ?_
  refine gm_ev.zastore (M' := (bM B (mH B (mA s 18 (upd (s.2.1 18) k10 (vp_nar .boolean (1 : Int32))))) G)) i139_129 (bM_astn (j := 10) (n := 512) (f := s.2.1 18) rfl ek10 lk10 (by decide) hN rfl) ?_
  refine gm_ev.iconst (v := 1) i139_130 (by decide) ?_
  refine gm_ev.istore_n (ls' := [some (.ref B), some (.int x1), some (.int (1 : Int32)), some (.int x3), some (.int x4), some (.int x5)]) i139_131 (Nat.le_of_ble_eq_true rfl) rfl ?_
  refine gm_ev.iinc (v := x5 + (1 : Int32)) (ls' := [some (.ref B), some (.int x1), some (.int (1 : Int32)), some (.int x3), some (.int x4), some (.int (x5 + (1 : Int32)))]) i139_132 rfl (by rfl) rfl ?_
  refine gm_ev.goto (tgt := 59) i139_135 (by decide) ?_
  exact k
theorem r_depends_59_fft_at32 {N0 : Nat} {K : Nat → Nat} {d B : Nat} {s : mS} {G : gm_H} {sz sl : Nat} {R : gm_R} {x1 : Int32} {x2 : Int32} {x3 : Int32} {x4 : Int32} {x5 : Int32} {k1 : Nat} {k4 : Nat} (hN : N0 ≤ B) (ek1 : x3 = nI k1) (lk1 : k1 < 24) (c2 : ¬ (((6 : Int32) * x3) + (s.2.1 12 k1)) < x5) (c3 : ¬ x4 = x1) (ek4 : x4 = nI k4) (lk4 : k4 < 512) (c5 : (s.2.1 18 k4) = 0) (k : gm_ev N0 K ra_nm (ra_mt K) d none (gm_I cX12_depends) (gm_lkf (lkX12 false K)) 32 [some (.ref B), some (.int x1), some (.int x2), some (.int (x3 + (1 : Int32))), none, none] [] (bM B (mH B s) G) sz sl R) : gm_ev N0 K ra_nm (ra_mt K) d none (gm_I cX12_depends) (gm_lkf (lkX12 false K)) 59 [some (.ref B), some (.int x1), some (.int x2), some (.int x3), some (.int x4), some (.int x5)] [] (bM B (mH B s) G) sz sl R := by
  refine gm_ev.iload i139_59 rfl ?_
  refine gm_ev.bipush (v := 6) i139_61 (by decide) ?_
  refine gm_ev.iload_n i139_63 rfl ?_
  refine gm_ev.imul i139_64 ?_
  refine gm_ev.aload_n i139_65 rfl ?_
  refine gm_ev.getfield (v := .ref (B + 4)) i139_66 rfl (bM_fld (j := 0) (fs := mF B s) rfl rfl) ?_
  refine gm_ev.iload_n i139_69 rfl ?_
  refine gm_ev.iaload i139_70 (bM_ai (j := 4) (n := 24) (f := s.2.1 12) rfl ek1 lk1 (by decide)) ?_
  refine gm_ev.iadd i139_71 ?_
  refine gm_ev.icmp_gt_f i139_72 c2 ?_
  refine gm_ev.iload i139_75 rfl ?_
  refine gm_ev.iload_n i139_77 rfl ?_
  refine gm_ev.icmp_eq_f i139_78 c3 ?_
  refine gm_ev.aload_n i139_81 rfl ?_
  refine gm_ev.getfield (v := .ref (B + 10)) i139_82 rfl (bM_fld (j := 0) (fs := mF B s) rfl rfl) ?_
  refine gm_ev.iload i139_85 rfl ?_
  refine gm_ev.zaload i139_87 (bM_ai (j := 10) (n := 512) (f := s.2.1 18) rfl ek4 lk4 (by decide)) ?_
  refine gm_ev.if_eq_t (tgt := 138) i139_88 (by decide) c5 ?_
  refine gm_ev.iinc (v := x3 + (1 : Int32)) (ls' := [some (.ref B), some (.int x1), some (.int x2), some (.int (x3 + (1 : Int32))), some (.int x4), some (.int x5)]) i139_138 rfl (by rfl) rfl ?_
  refine gm_ev.goto (tgt := 32) i139_141 (by decide) ?_
  refine gm_ev.le (a := [some (.ref B), some (.int x1), some (.int x2), some (.int (x3 + (1 : Int32))), none, none]) (gm_leL.le (show gm_leL _ _ from ⟨rfl, ⟨rfl, ⟨rfl, ⟨rfl, trivial⟩⟩⟩⟩)) ?_
  exact k
theorem r_depends_59_ffft_at59 {N0 : Nat} {K : Nat → Nat} {d B : Nat} {s : mS} {G : gm_H} {sz sl : Nat} {R : gm_R} {x1 : Int32} {x2 : Int32} {x3 : Int32} {x4 : Int32} {x5 : Int32} {k1 : Nat} {k4 : Nat} {k6 : Nat} (hN : N0 ≤ B) (ek1 : x3 = nI k1) (lk1 : k1 < 24) (c2 : ¬ (((6 : Int32) * x3) + (s.2.1 12 k1)) < x5) (c3 : ¬ x4 = x1) (ek4 : x4 = nI k4) (lk4 : k4 < 512) (c5 : ¬ (s.2.1 18 k4) = 0) (ek6 : x5 = nI k6) (lk6 : k6 < 144) (c7 : (2 : Int32) ≤ (s.2.1 13 k6)) (k : gm_ev N0 K ra_nm (ra_mt K) d none (gm_I cX12_depends) (gm_lkf (lkX12 false K)) 59 [some (.ref B), some (.int x1), some (.int x2), some (.int x3), some (.int x4), some (.int (x5 + (1 : Int32)))] [] (bM B (mH B s) G) sz sl R) : gm_ev N0 K ra_nm (ra_mt K) d none (gm_I cX12_depends) (gm_lkf (lkX12 false K)) 59 [some (.ref B), some (.int x1), some (.int x2), some (.int x3), some (.int x4), some (.int x5)] [] (bM B (mH B s) G) sz sl R := by
  refine gm_ev.iload i139_59 rfl ?_
  refine gm_ev.bipush (v := 6) i139_61 (by decide) ?_
  refine gm_ev.iload_n i139_63 rfl ?_
  refine gm_ev.imul i139_64 ?_
  refine gm_ev.aload_n i139_65 rfl ?_
  refine gm_ev.getfield (v := .ref (B + 4)) i139_66 rfl (bM_fld (j := 0) (fs := mF B s) rfl rfl) ?_
  refine gm_ev.iload_n i139_69 rfl ?_
  refine gm_ev.iaload i139_70 (bM_ai (j := 4) (n := 24) (f := s.2.1 12) rfl ek1 lk1 (by decide)) ?_
  refine gm_ev.iadd i139_71 ?_
  refine gm_ev.icmp_gt_f i139_72 c2 ?_
  refine gm_ev.iload i139_75 rfl ?_
  refine gm_ev.iload_n i139_77 rfl ?_
  refine gm_ev.icmp_eq_f i139_78 c3 ?_
  refine gm_ev.aload_n i139_81 rfl ?_
  refine gm_ev.getfield (v := .ref (B + 10)) i139_82 rfl (bM_fld (j := 0) (fs := mF B s) rfl rfl) ?_
  refine gm_ev.iload i139_85 rfl ?_
  refine gm_ev.zaload i139_87 (bM_ai (j := 10) (n := 512) (f := s.2.1 18) rfl ek4 lk4 (by decide)) ?_
  refine gm_ev.if_eq_f i139_88 c5 ?_
  refine gm_ev.aload_n i139_91 rfl ?_
  refine gm_ev.getfield (v := .ref (B + 5)) i139_92 rfl (bM_fld (j := 0) (fs := mF B s) rfl rfl) ?_
  refine gm_ev.iload i139_95 rfl ?_
  refine gm_ev.iaload i139_97 (bM_ai (j := 5) (n := 144) (f := s.2.1 13) rfl ek6 lk6 (by decide)) ?_
  refine gm_ev.iconst (v := 2) i139_98 (by decide) ?_
  refine gm_ev.icmp_ge_t (tgt := 132) i139_99 (by decide) c7 ?_
  refine gm_ev.iinc (v := x5 + (1 : Int32)) (ls' := [some (.ref B), some (.int x1), some (.int x2), some (.int x3), some (.int x4), some (.int (x5 + (1 : Int32)))]) i139_132 rfl (by rfl) rfl ?_
  refine gm_ev.goto (tgt := 59) i139_135 (by decide) ?_
  exact k
theorem r_depends_59_fffft_at59 {N0 : Nat} {K : Nat → Nat} {d B : Nat} {s : mS} {G : gm_H} {sz sl : Nat} {R : gm_R} {x1 : Int32} {x2 : Int32} {x3 : Int32} {x4 : Int32} {x5 : Int32} {k1 : Nat} {k4 : Nat} {k6 : Nat} {k8 : Nat} {k9 : Nat} (hN : N0 ≤ B) (ek1 : x3 = nI k1) (lk1 : k1 < 24) (c2 : ¬ (((6 : Int32) * x3) + (s.2.1 12 k1)) < x5) (c3 : ¬ x4 = x1) (ek4 : x4 = nI k4) (lk4 : k4 < 512) (c5 : ¬ (s.2.1 18 k4) = 0) (ek6 : x5 = nI k6) (lk6 : k6 < 144) (c7 : ¬ (2 : Int32) ≤ (s.2.1 13 k6)) (ek8 : x5 = nI k8) (lk8 : k8 < 144) (ek9 : (s.2.1 14 k8) = nI k9) (lk9 : k9 < 512) (c10 : ¬ (s.2.1 18 k9) = 0) (k : gm_ev N0 K ra_nm (ra_mt K) d none (gm_I cX12_depends) (gm_lkf (lkX12 false K)) 59 [some (.ref B), some (.int x1), some (.int x2), some (.int x3), some (.int x4), some (.int (x5 + (1 : Int32)))] [] (bM B (mH B s) G) sz sl R) : gm_ev N0 K ra_nm (ra_mt K) d none (gm_I cX12_depends) (gm_lkf (lkX12 false K)) 59 [some (.ref B), some (.int x1), some (.int x2), some (.int x3), some (.int x4), some (.int x5)] [] (bM B (mH B s) G) sz sl R := by
  refine gm_ev.iload i139_59 rfl ?_
  refine gm_ev.bipush (v := 6) i139_61 (by decide) ?_
  refine gm_ev.iload_n i139_63 rfl ?_
  refine gm_ev.imul i139_64 ?_
  refine gm_ev.aload_n i139_65 rfl ?_
  refine gm_ev.getfield (v := .ref (B + 4)) i139_66 rfl (bM_fld (j := 0) (fs := mF B s) rfl rfl) ?_
  refine gm_ev.iload_n i139_69 rfl ?_
  refine gm_ev.iaload i139_70 (bM_ai (j := 4) (n := 24) (f := s.2.1 12) rfl ek1 lk1 (by decide)) ?_
  refine gm_ev.iadd i139_71 ?_
  refine gm_ev.icmp_gt_f i139_72 c2 ?_
  refine gm_ev.iload i139_75 rfl ?_
  refine gm_ev.iload_n i139_77 rfl ?_
  refine gm_ev.icmp_eq_f i139_78 c3 ?_
  refine gm_ev.aload_n i139_81 rfl ?_
  refine gm_ev.getfield (v := .ref (B + 10)) i139_82 rfl (bM_fld (j := 0) (fs := mF B s) rfl rfl) ?_
  refine gm_ev.iload i139_85 rfl ?_
  refine gm_ev.zaload i139_87 (bM_ai (j := 10) (n := 512) (f := s.2.1 18) rfl ek4 lk4 (by decide)) ?_
  refine gm_ev.if_eq_f i139_88 c5 ?_
  refine gm_ev.aload_n i139_91 rfl ?_
  refine gm_ev.getfield (v := .ref (B + 5)) i139_92 rfl (bM_fld (j := 0) (fs := mF B s) rfl rfl) ?_
  refine gm_ev.iload i139_95 rfl ?_
  refine gm_ev.iaload i139_97 (bM_ai (j := 5) (n := 144) (f := s.2.1 13) rfl ek6 lk6 (by decide)) ?_
  refine gm_ev.iconst (v := 2) i139_98 (by decide) ?_
  refine gm_ev.icmp_ge_f i139_99 c7 ?_
  refine gm_ev.aload_n i139_102 rfl ?_
  refine gm_ev.getfield (v := .ref (B + 10)) i139_103 rfl (bM_fld (j := 0) (fs := mF B s) rfl rfl) ?_
  refine gm_ev.aload_n i139_106 rfl ?_
  refine gm_ev.getfield (v := .ref (B + 6)) i139_107 rfl (bM_fld (j := 0) (fs := mF B s) rfl rfl) ?_
  refine gm_ev.iload i139_110 rfl ?_
  refine gm_ev.iaload i139_112 (bM_ai (j := 6) (n := 144) (f := s.2.1 14) rfl ek8 lk8 (by decide)) ?_
  refine gm_ev.zaload i139_113 (bM_ai (j := 10) (n := 512) (f := s.2.1 18) rfl ek9 lk9 (by decide)) ?_
  refine gm_ev.if_ne_t (tgt := 132) i139_114 (by decide) c10 ?_
  refine gm_ev.iinc (v := x5 + (1 : Int32)) (ls' := [some (.ref B), some (.int x1), some (.int x2), some (.int x3), some (.int x4), some (.int (x5 + (1 : Int32)))]) i139_132 rfl (by rfl) rfl ?_
  refine gm_ev.goto (tgt := 59) i139_135 (by decide) ?_
  exact k
theorem r_depends_59_fffff_at59 {N0 : Nat} {K : Nat → Nat} {d B : Nat} {s : mS} {G : gm_H} {sz sl : Nat} {R : gm_R} {x1 : Int32} {x2 : Int32} {x3 : Int32} {x4 : Int32} {x5 : Int32} {k1 : Nat} {k4 : Nat} {k6 : Nat} {k8 : Nat} {k9 : Nat} {k11 : Nat} {k12 : Nat} (hN : N0 ≤ B) (ek1 : x3 = nI k1) (lk1 : k1 < 24) (c2 : ¬ (((6 : Int32) * x3) + (s.2.1 12 k1)) < x5) (c3 : ¬ x4 = x1) (ek4 : x4 = nI k4) (lk4 : k4 < 512) (c5 : ¬ (s.2.1 18 k4) = 0) (ek6 : x5 = nI k6) (lk6 : k6 < 144) (c7 : ¬ (2 : Int32) ≤ (s.2.1 13 k6)) (ek8 : x5 = nI k8) (lk8 : k8 < 144) (ek9 : (s.2.1 14 k8) = nI k9) (lk9 : k9 < 512) (c10 : (s.2.1 18 k9) = 0) (ek11 : x5 = nI k11) (lk11 : k11 < 144) (ek12 : (s.2.1 14 k11) = nI k12) (lk12 : k12 < 512) (k : gm_ev N0 K ra_nm (ra_mt K) d none (gm_I cX12_depends) (gm_lkf (lkX12 false K)) 59 [some (.ref B), some (.int x1), some (.int (1 : Int32)), some (.int x3), some (.int x4), some (.int (x5 + (1 : Int32)))] [] (bM B (mH B (mA s 18 (upd (s.2.1 18) k12 (vp_nar .boolean (1 : Int32))))) G) sz sl R) : gm_ev N0 K ra_nm (ra_mt K) d none (gm_I cX12_depends) (gm_lkf (lkX12 false K)) 59 [some (.ref B), some (.int x1), some (.int x2), some (.int x3), some (.int x4), some (.int x5)] [] (bM B (mH B s) G) sz sl R := by
  refine gm_ev.iload i139_59 rfl ?_
  refine gm_ev.bipush (v := 6) i139_61 (by decide) ?_
  refine gm_ev.iload_n i139_63 rfl ?_
  refine gm_ev.imul i139_64 ?_
  refine gm_ev.aload_n i139_65 rfl ?_
  refine gm_ev.getfield (v := .ref (B + 4)) i139_66 rfl (bM_fld (j := 0) (fs := mF B s) rfl rfl) ?_
  refine gm_ev.iload_n i139_69 rfl ?_
  refine gm_ev.iaload i139_70 (bM_ai (j := 4) (n := 24) (f := s.2.1 12) rfl ek1 lk1 (by decide)) ?_
  refine gm_ev.iadd i139_71 ?_
  refine gm_ev.icmp_gt_f i139_72 c2 ?_
  refine gm_ev.iload i139_75 rfl ?_
  refine gm_ev.iload_n i139_77 rfl ?_
  refine gm_ev.icmp_eq_f i139_78 c3 ?_
  refine gm_ev.aload_n i139_81 rfl ?_
  refine gm_ev.getfield (v := .ref (B + 10)) i139_82 rfl (bM_fld (j := 0) (fs := mF B s) rfl rfl) ?_
  refine gm_ev.iload i139_85 rfl ?_
  refine gm_ev.zaload i139_87 (bM_ai (j := 10) (n := 512) (f := s.2.1 18) rfl ek4 lk4 (by decide)) ?_
  refine gm_ev.if_eq_f i139_88 c5 ?_
  refine gm_ev.aload_n i139_91 rfl ?_
  refine gm_ev.getfield (v := .ref (B + 5)) i139_92 rfl (bM_fld (j := 0) (fs := mF B s) rfl rfl) ?_
  refine gm_ev.iload i139_95 rfl ?_
  refine gm_ev.iaload i139_97 (bM_ai (j := 5) (n := 144) (f := s.2.1 13) rfl ek6 lk6 (by decide)) ?_
  refine gm_ev.iconst (v := 2) i139_98 (by decide) ?_
  refine gm_ev.icmp_ge_f i139_99 c7 ?_
  refine gm_ev.aload_n i139_102 rfl ?_
  refine gm_ev.getfield (v := .ref (B + 10)) i139_103 rfl (bM_fld (j := 0) (fs := mF B s) rfl rfl) ?_
  refine gm_ev.aload_n i139_106 rfl ?_
  refine gm_ev.getfield (v := .ref (B + 6)) i139_107 rfl (bM_fld (j := 0) (fs := mF B s) rfl rfl) ?_
  refine gm_ev.iload i139_110 rfl ?_
  refine gm_ev.iaload i139_112 (bM_ai (j := 6) (n := 144) (f := s.2.1 14) rfl ek8 lk8 (by decide)) ?_
  refine gm_ev.zaload i139_113 (bM_ai (j := 10) (n := 512) (f := s.2.1 18) rfl ek9 lk9 (by decide)) ?_
  refine gm_ev.if_ne_f i139_114 c10 ?_
  refine gm_ev.aload_n i139_117 rfl ?_
  refine gm_ev.getfield (v := .ref (B + 10)) i139_118 rfl (bM_fld (j := 0) (fs := mF B s) rfl rfl) ?_
  refine gm_ev.aload_n i139_121 rfl ?_
  refine gm_ev.getfield (v := .ref (B + 6)) i139_122 rfl (bM_fld (j := 0) (fs := mF B s) rfl rfl) ?_
  refine gm_ev.iload i139_125 rfl ?_
  refine gm_ev.iaload i139_127 (bM_ai (j := 6) (n := 144) (f := s.2.1 14) rfl ek11 lk11 (by decide)) ?_
  refine gm_ev.iconst (v := 1) i139_128 (by decide) ?_
  refine gm_ev.zastore (M' := (bM B (mH B (mA s 18 (upd (s.2.1 18) k12 (vp_nar .boolean (1 : Int32))))) G)) i139_129 (bM_astn (j := 10) (n := 512) (f := s.2.1 18) rfl ek12 lk12 (by decide) hN rfl) ?_
  refine gm_ev.iconst (v := 1) i139_130 (by decide) ?_
  refine gm_ev.istore_n (ls' := [some (.ref B), some (.int x1), some (.int (1 : Int32)), some (.int x3), some (.int x4), some (.int x5)]) i139_131 (Nat.le_of_ble_eq_true rfl) rfl ?_
  refine gm_ev.iinc (v := x5 + (1 : Int32)) (ls' := [some (.ref B), some (.int x1), some (.int (1 : Int32)), some (.int x3), some (.int x4), some (.int (x5 + (1 : Int32)))]) i139_132 rfl (by rfl) rfl ?_
  refine gm_ev.goto (tgt := 59) i139_135 (by decide) ?_
  exact k
theorem r_isCircular_0__at20 {N0 : Nat} {K : Nat → Nat} {d B : Nat} {s : mS} {G : gm_H} {sz sl : Nat} {R : gm_R} {p0 : Int32} {k1 : Nat} (hN : N0 ≤ B) (ek1 : ((6 : Int32) * p0) = nI k1) (lk1 : k1 < 144) (k : gm_ev N0 K ra_nm (ra_mt K) d (some .boolean) (gm_I cX12_isCircular) (gm_lkf (lkX12 false K)) 20 [some (.ref B), some (.int p0), some (.int (s.2.1 14 k1)), some (.int (0 : Int32)), some (.int (((6 : Int32) * p0) + (1 : Int32)))] [] (bM B (mH B s) G) sz sl R) : gm_ev N0 K ra_nm (ra_mt K) d (some .boolean) (gm_I cX12_isCircular) (gm_lkf (lkX12 false K)) 0 [some (.ref B), some (.int p0), none, none, none] [] (bM B (mH B s) G) sz sl R := by
  refine gm_ev.aload_n i140_0 rfl ?_
  refine gm_ev.getfield (v := .ref (B + 6)) i140_1 rfl (bM_fld (j := 0) (fs := mF B s) rfl rfl) ?_
  refine gm_ev.bipush (v := 6) i140_4 (by decide) ?_
  refine gm_ev.iload_n i140_6 rfl ?_
  refine gm_ev.imul i140_7 ?_
  refine gm_ev.iaload i140_8 (bM_ai (j := 6) (n := 144) (f := s.2.1 14) rfl ek1 lk1 (by decide)) ?_
  refine gm_ev.istore_n (ls' := [some (.ref B), some (.int p0), some (.int (s.2.1 14 k1)), none, none]) i140_9 (Nat.le_of_ble_eq_true rfl) rfl ?_
  refine gm_ev.iconst (v := 0) i140_10 (by decide) ?_
  refine gm_ev.istore_n (ls' := [some (.ref B), some (.int p0), some (.int (s.2.1 14 k1)), some (.int (0 : Int32)), none]) i140_11 (Nat.le_of_ble_eq_true rfl) rfl ?_
  refine gm_ev.bipush (v := 6) i140_12 (by decide) ?_
  refine gm_ev.iload_n i140_14 rfl ?_
  refine gm_ev.imul i140_15 ?_
  refine gm_ev.iconst (v := 1) i140_16 (by decide) ?_
  refine gm_ev.iadd i140_17 ?_
  refine gm_ev.istore (ls' := [some (.ref B), some (.int p0), some (.int (s.2.1 14 k1)), some (.int (0 : Int32)), some (.int (((6 : Int32) * p0) + (1 : Int32)))]) i140_18 (Nat.le_of_ble_eq_true rfl) rfl ?_
  exact k
theorem r_isCircular_20_t {N0 : Nat} {K : Nat → Nat} {d B : Nat} {s : mS} {G : gm_H} {sz sl : Nat} {x1 : Int32} {x2 : Int32} {x3 : Int32} {x4 : Int32} {k1 : Nat} (hN : N0 ≤ B) (ek1 : x1 = nI k1) (lk1 : k1 < 24) (c2 : (((6 : Int32) * x1) + (s.2.1 12 k1)) < x4) (z3 : x3 = 0 ∨ x3 = 1) : gm_ev N0 K ra_nm (ra_mt K) d (some .boolean) (gm_I cX12_isCircular) (gm_lkf (lkX12 false K)) 20 [some (.ref B), some (.int x1), some (.int x2), some (.int x3), some (.int x4)] [] (bM B (mH B s) G) sz sl (.returned (some (.int x3)), (bM B (mH B s) G), sz, sl) := by
  refine gm_ev.iload i140_20 rfl ?_
  refine gm_ev.bipush (v := 6) i140_22 (by decide) ?_
  refine gm_ev.iload_n i140_24 rfl ?_
  refine gm_ev.imul i140_25 ?_
  refine gm_ev.aload_n i140_26 rfl ?_
  refine gm_ev.getfield (v := .ref (B + 4)) i140_27 rfl (bM_fld (j := 0) (fs := mF B s) rfl rfl) ?_
  refine gm_ev.iload_n i140_30 rfl ?_
  refine gm_ev.iaload i140_31 (bM_ai (j := 4) (n := 24) (f := s.2.1 12) rfl ek1 lk1 (by decide)) ?_
  refine gm_ev.iadd i140_32 ?_
  refine gm_ev.icmp_gt_t (tgt := 94) i140_33 (by decide) c2 ?_
  refine gm_ev.iload_n i140_94 rfl ?_
  exact gm_ev.zret i140_95 rfl z3
theorem r_isCircular_20_ft_at20 {N0 : Nat} {K : Nat → Nat} {d B : Nat} {s : mS} {G : gm_H} {sz sl : Nat} {R : gm_R} {x1 : Int32} {x2 : Int32} {x3 : Int32} {x4 : Int32} {k1 : Nat} {k3 : Nat} (hN : N0 ≤ B) (ek1 : x1 = nI k1) (lk1 : k1 < 24) (c2 : ¬ (((6 : Int32) * x1) + (s.2.1 12 k1)) < x4) (ek3 : x4 = nI k3) (lk3 : k3 < 144) (c4 : ¬ (s.2.1 13 k3) = (1 : Int32)) (k : gm_ev N0 K ra_nm (ra_mt K) d (some .boolean) (gm_I cX12_isCircular) (gm_lkf (lkX12 false K)) 20 [some (.ref B), some (.int x1), some (.int x2), some (.int x3), some (.int (x4 + (1 : Int32)))] [] (bM B (mH B s) G) sz sl R) : gm_ev N0 K ra_nm (ra_mt K) d (some .boolean) (gm_I cX12_isCircular) (gm_lkf (lkX12 false K)) 20 [some (.ref B), some (.int x1), some (.int x2), some (.int x3), some (.int x4)] [] (bM B (mH B s) G) sz sl R := by
  refine gm_ev.iload i140_20 rfl ?_
  refine gm_ev.bipush (v := 6) i140_22 (by decide) ?_
  refine gm_ev.iload_n i140_24 rfl ?_
  refine gm_ev.imul i140_25 ?_
  refine gm_ev.aload_n i140_26 rfl ?_
  refine gm_ev.getfield (v := .ref (B + 4)) i140_27 rfl (bM_fld (j := 0) (fs := mF B s) rfl rfl) ?_
  refine gm_ev.iload_n i140_30 rfl ?_
  refine gm_ev.iaload i140_31 (bM_ai (j := 4) (n := 24) (f := s.2.1 12) rfl ek1 lk1 (by decide)) ?_
  refine gm_ev.iadd i140_32 ?_
  refine gm_ev.icmp_gt_f i140_33 c2 ?_
  refine gm_ev.aload_n i140_36 rfl ?_
  refine gm_ev.getfield (v := .ref (B + 5)) i140_37 rfl (bM_fld (j := 0) (fs := mF B s) rfl rfl) ?_
  refine gm_ev.iload i140_40 rfl ?_
  refine gm_ev.iaload i140_42 (bM_ai (j := 5) (n := 144) (f := s.2.1 13) rfl ek3 lk3 (by decide)) ?_
  refine gm_ev.iconst (v := 1) i140_43 (by decide) ?_
  refine gm_ev.icmp_ne_t (tgt := 88) i140_44 (by decide) c4 ?_
  refine gm_ev.iinc (v := x4 + (1 : Int32)) (ls' := [some (.ref B), some (.int x1), some (.int x2), some (.int x3), some (.int (x4 + (1 : Int32)))]) i140_88 rfl (by rfl) rfl ?_
  refine gm_ev.goto (tgt := 20) i140_91 (by decide) ?_
  exact k
theorem r_isCircular_20_fft_at20 {N0 : Nat} {K : Nat → Nat} {d B : Nat} {s : mS} {G : gm_H} {sz sl : Nat} {R : gm_R} {x1 : Int32} {x2 : Int32} {x3 : Int32} {x4 : Int32} {k1 : Nat} {k3 : Nat} {k5 : Nat} {s7 : mS} (hN : N0 ≤ B) (ek1 : x1 = nI k1) (lk1 : k1 < 24) (c2 : ¬ (((6 : Int32) * x1) + (s.2.1 12 k1)) < x4) (ek3 : x4 = nI k3) (lk3 : k3 < 144) (c4 : (s.2.1 13 k3) = (1 : Int32)) (ek5 : x4 = nI k5) (lk5 : k5 < 144) (t6 : gm_to N0 K ra_nm (ra_mt K) d 139 [.ref B, .int (s.2.1 14 k5)] (bM B (mH B s) G) sz (.returned none, bM B (mH B s7) G, sz, 0)) (c8 : ¬ x3 = 0) (k : gm_ev N0 K ra_nm (ra_mt K) d (some .boolean) (gm_I cX12_isCircular) (gm_lkf (lkX12 false K)) 20 [some (.ref B), some (.int x1), some (.int x2), some (.int (1 : Int32)), some (.int (x4 + (1 : Int32)))] [] (bM B (mH B s7) G) sz sl R) : gm_ev N0 K ra_nm (ra_mt K) d (some .boolean) (gm_I cX12_isCircular) (gm_lkf (lkX12 false K)) 20 [some (.ref B), some (.int x1), some (.int x2), some (.int x3), some (.int x4)] [] (bM B (mH B s) G) sz sl R := by
  refine gm_ev.iload i140_20 rfl ?_
  refine gm_ev.bipush (v := 6) i140_22 (by decide) ?_
  refine gm_ev.iload_n i140_24 rfl ?_
  refine gm_ev.imul i140_25 ?_
  refine gm_ev.aload_n i140_26 rfl ?_
  refine gm_ev.getfield (v := .ref (B + 4)) i140_27 rfl (bM_fld (j := 0) (fs := mF B s) rfl rfl) ?_
  refine gm_ev.iload_n i140_30 rfl ?_
  refine gm_ev.iaload i140_31 (bM_ai (j := 4) (n := 24) (f := s.2.1 12) rfl ek1 lk1 (by decide)) ?_
  refine gm_ev.iadd i140_32 ?_
  refine gm_ev.icmp_gt_f i140_33 c2 ?_
  refine gm_ev.aload_n i140_36 rfl ?_
  refine gm_ev.getfield (v := .ref (B + 5)) i140_37 rfl (bM_fld (j := 0) (fs := mF B s) rfl rfl) ?_
  refine gm_ev.iload i140_40 rfl ?_
  refine gm_ev.iaload i140_42 (bM_ai (j := 5) (n := 144) (f := s.2.1 13) rfl ek3 lk3 (by decide)) ?_
  refine gm_ev.iconst (v := 1) i140_43 (by decide) ?_
  refine gm_ev.icmp_ne_f i140_44 c4 ?_
  refine gm_ev.aload_n i140_47 rfl ?_
  refine gm_ev.aload_n i140_48 rfl ?_
  refine gm_ev.getfield (v := .ref (B + 6)) i140_49 rfl (bM_fld (j := 0) (fs := mF B s) rfl rfl) ?_
  refine gm_ev.iload i140_52 rfl ?_
  refine gm_ev.iaload i140_54 (bM_ai (j := 6) (n := 144) (f := s.2.1 14) rfl ek5 lk5 (by decide)) ?_
  refine gm_ev.callV gm_mono_run (av := [.int (s.2.1 14 k5)]) (r := []) (ci := 11) (fs := mF B s) (bM_get (j := 0) rfl) i140_55 rfl rfl rfl (Nat.le_of_ble_eq_true rfl) t6 ?_
  refine gm_ev.iload_n i140_58 rfl ?_
  refine gm_ev.if_ne_t (tgt := 82) i140_59 (by decide) c8 ?_
  refine gm_ev.iconst (v := 1) i140_82 (by decide) ?_
  refine gm_ev.goto (tgt := 87) i140_83 (by decide) ?_
  refine gm_ev.istore_n (ls' := [some (.ref B), some (.int x1), some (.int x2), some (.int (1 : Int32)), some (.int x4)]) i140_87 (Nat.le_of_ble_eq_true rfl) rfl ?_
  refine gm_ev.iinc (v := x4 + (1 : Int32)) (ls' := [some (.ref B), some (.int x1), some (.int x2), some (.int (1 : Int32)), some (.int (x4 + (1 : Int32)))]) i140_88 rfl (by rfl) rfl ?_
  refine gm_ev.goto (tgt := 20) i140_91 (by decide) ?_
  exact k
theorem r_isCircular_20_ffft_at20 {N0 : Nat} {K : Nat → Nat} {d B : Nat} {s : mS} {G : gm_H} {sz sl : Nat} {R : gm_R} {x1 : Int32} {x2 : Int32} {x3 : Int32} {x4 : Int32} {k1 : Nat} {k3 : Nat} {k5 : Nat} {s7 : mS} {k9 : Nat} (hN : N0 ≤ B) (ek1 : x1 = nI k1) (lk1 : k1 < 24) (c2 : ¬ (((6 : Int32) * x1) + (s.2.1 12 k1)) < x4) (ek3 : x4 = nI k3) (lk3 : k3 < 144) (c4 : (s.2.1 13 k3) = (1 : Int32)) (ek5 : x4 = nI k5) (lk5 : k5 < 144) (t6 : gm_to N0 K ra_nm (ra_mt K) d 139 [.ref B, .int (s.2.1 14 k5)] (bM B (mH B s) G) sz (.returned none, bM B (mH B s7) G, sz, 0)) (c8 : x3 = 0) (ek9 : x4 = nI k9) (lk9 : k9 < 144) (c10 : (s7.2.1 14 k9) = x2) (k : gm_ev N0 K ra_nm (ra_mt K) d (some .boolean) (gm_I cX12_isCircular) (gm_lkf (lkX12 false K)) 20 [some (.ref B), some (.int x1), some (.int x2), some (.int (1 : Int32)), some (.int (x4 + (1 : Int32)))] [] (bM B (mH B s7) G) sz sl R) : gm_ev N0 K ra_nm (ra_mt K) d (some .boolean) (gm_I cX12_isCircular) (gm_lkf (lkX12 false K)) 20 [some (.ref B), some (.int x1), some (.int x2), some (.int x3), some (.int x4)] [] (bM B (mH B s) G) sz sl R := by
  refine gm_ev.iload i140_20 rfl ?_
  refine gm_ev.bipush (v := 6) i140_22 (by decide) ?_
  refine gm_ev.iload_n i140_24 rfl ?_
  refine gm_ev.imul i140_25 ?_
  refine gm_ev.aload_n i140_26 rfl ?_
  refine gm_ev.getfield (v := .ref (B + 4)) i140_27 rfl (bM_fld (j := 0) (fs := mF B s) rfl rfl) ?_
  refine gm_ev.iload_n i140_30 rfl ?_
  refine gm_ev.iaload i140_31 (bM_ai (j := 4) (n := 24) (f := s.2.1 12) rfl ek1 lk1 (by decide)) ?_
  refine gm_ev.iadd i140_32 ?_
  refine gm_ev.icmp_gt_f i140_33 c2 ?_
  refine gm_ev.aload_n i140_36 rfl ?_
  refine gm_ev.getfield (v := .ref (B + 5)) i140_37 rfl (bM_fld (j := 0) (fs := mF B s) rfl rfl) ?_
  refine gm_ev.iload i140_40 rfl ?_
  refine gm_ev.iaload i140_42 (bM_ai (j := 5) (n := 144) (f := s.2.1 13) rfl ek3 lk3 (by decide)) ?_
  refine gm_ev.iconst (v := 1) i140_43 (by decide) ?_
  refine gm_ev.icmp_ne_f i140_44 c4 ?_
  refine gm_ev.aload_n i140_47 rfl ?_
  refine gm_ev.aload_n i140_48 rfl ?_
  refine gm_ev.getfield (v := .ref (B + 6)) i140_49 rfl (bM_fld (j := 0) (fs := mF B s) rfl rfl) ?_
  refine gm_ev.iload i140_52 rfl ?_
  refine gm_ev.iaload i140_54 (bM_ai (j := 6) (n := 144) (f := s.2.1 14) rfl ek5 lk5 (by decide)) ?_
  refine gm_ev.callV gm_mono_run (av := [.int (s.2.1 14 k5)]) (r := []) (ci := 11) (fs := mF B s) (bM_get (j := 0) rfl) i140_55 rfl rfl rfl (Nat.le_of_ble_eq_true rfl) t6 ?_
  refine gm_ev.iload_n i140_58 rfl ?_
  refine gm_ev.if_ne_f i140_59 c8 ?_
  refine gm_ev.aload_n i140_62 rfl ?_
  refine gm_ev.getfield (v := .ref (B + 6)) i140_63 rfl (bM_fld (j := 0) (fs := mF B s7) rfl rfl) ?_
  refine gm_ev.iload i140_66 rfl ?_
  refine gm_ev.iaload i140_68 (bM_ai (j := 6) (n := 144) (f := s7.2.1 14) rfl ek9 lk9 (by decide)) ?_
  refine gm_ev.iload_n i140_69 rfl ?_
  refine gm_ev.icmp_eq_t (tgt := 82) i140_70 (by decide) c10 ?_
  refine gm_ev.iconst (v := 1) i140_82 (by decide) ?_
  refine gm_ev.goto (tgt := 87) i140_83 (by decide) ?_
  refine gm_ev.istore_n (ls' := [some (.ref B), some (.int x1), some (.int x2), some (.int (1 : Int32)), some (.int x4)]) i140_87 (Nat.le_of_ble_eq_true rfl) rfl ?_
  refine gm_ev.iinc (v := x4 + (1 : Int32)) (ls' := [some (.ref B), some (.int x1), some (.int x2), some (.int (1 : Int32)), some (.int (x4 + (1 : Int32)))]) i140_88 rfl (by rfl) rfl ?_
  refine gm_ev.goto (tgt := 20) i140_91 (by decide) ?_
  exact k
theorem r_isCircular_20_fffft_at20 {N0 : Nat} {K : Nat → Nat} {d B : Nat} {s : mS} {G : gm_H} {sz sl : Nat} {R : gm_R} {x1 : Int32} {x2 : Int32} {x3 : Int32} {x4 : Int32} {k1 : Nat} {k3 : Nat} {k5 : Nat} {s7 : mS} {k9 : Nat} {k11 : Nat} (hN : N0 ≤ B) (ek1 : x1 = nI k1) (lk1 : k1 < 24) (c2 : ¬ (((6 : Int32) * x1) + (s.2.1 12 k1)) < x4) (ek3 : x4 = nI k3) (lk3 : k3 < 144) (c4 : (s.2.1 13 k3) = (1 : Int32)) (ek5 : x4 = nI k5) (lk5 : k5 < 144) (t6 : gm_to N0 K ra_nm (ra_mt K) d 139 [.ref B, .int (s.2.1 14 k5)] (bM B (mH B s) G) sz (.returned none, bM B (mH B s7) G, sz, 0)) (c8 : x3 = 0) (ek9 : x4 = nI k9) (lk9 : k9 < 144) (c10 : ¬ (s7.2.1 14 k9) = x2) (ek11 : x2 = nI k11) (lk11 : k11 < 512) (c12 : (s7.2.1 18 k11) = 0) (k : gm_ev N0 K ra_nm (ra_mt K) d (some .boolean) (gm_I cX12_isCircular) (gm_lkf (lkX12 false K)) 20 [some (.ref B), some (.int x1), some (.int x2), some (.int (0 : Int32)), some (.int (x4 + (1 : Int32)))] [] (bM B (mH B s7) G) sz sl R) : gm_ev N0 K ra_nm (ra_mt K) d (some .boolean) (gm_I cX12_isCircular) (gm_lkf (lkX12 false K)) 20 [some (.ref B), some (.int x1), some (.int x2), some (.int x3), some (.int x4)] [] (bM B (mH B s) G) sz sl R := by
  refine gm_ev.iload i140_20 rfl ?_
  refine gm_ev.bipush (v := 6) i140_22 (by decide) ?_
  refine gm_ev.iload_n i140_24 rfl ?_
  refine gm_ev.imul i140_25 ?_
  refine gm_ev.aload_n i140_26 rfl ?_
  refine gm_ev.getfield (v := .ref (B + 4)) i140_27 rfl (bM_fld (j := 0) (fs := mF B s) rfl rfl) ?_
  refine gm_ev.iload_n i140_30 rfl ?_
  refine gm_ev.iaload i140_31 (bM_ai (j := 4) (n := 24) (f := s.2.1 12) rfl ek1 lk1 (by decide)) ?_
  refine gm_ev.iadd i140_32 ?_
  refine gm_ev.icmp_gt_f i140_33 c2 ?_
  refine gm_ev.aload_n i140_36 rfl ?_
  refine gm_ev.getfield (v := .ref (B + 5)) i140_37 rfl (bM_fld (j := 0) (fs := mF B s) rfl rfl) ?_
  refine gm_ev.iload i140_40 rfl ?_
  refine gm_ev.iaload i140_42 (bM_ai (j := 5) (n := 144) (f := s.2.1 13) rfl ek3 lk3 (by decide)) ?_
  refine gm_ev.iconst (v := 1) i140_43 (by decide) ?_
  refine gm_ev.icmp_ne_f i140_44 c4 ?_
  refine gm_ev.aload_n i140_47 rfl ?_
  refine gm_ev.aload_n i140_48 rfl ?_
  refine gm_ev.getfield (v := .ref (B + 6)) i140_49 rfl (bM_fld (j := 0) (fs := mF B s) rfl rfl) ?_
  refine gm_ev.iload i140_52 rfl ?_
  refine gm_ev.iaload i140_54 (bM_ai (j := 6) (n := 144) (f := s.2.1 14) rfl ek5 lk5 (by decide)) ?_
  refine gm_ev.callV gm_mono_run (av := [.int (s.2.1 14 k5)]) (r := []) (ci := 11) (fs := mF B s) (bM_get (j := 0) rfl) i140_55 rfl rfl rfl (Nat.le_of_ble_eq_true rfl) t6 ?_
  refine gm_ev.iload_n i140_58 rfl ?_
  refine gm_ev.if_ne_f i140_59 c8 ?_
  refine gm_ev.aload_n i140_62 rfl ?_
  refine gm_ev.getfield (v := .ref (B + 6)) i140_63 rfl (bM_fld (j := 0) (fs := mF B s7) rfl rfl) ?_
  refine gm_ev.iload i140_66 rfl ?_
  refine gm_ev.iaload i140_68 (bM_ai (j := 6) (n := 144) (f := s7.2.1 14) rfl ek9 lk9 (by decide)) ?_
  refine gm_ev.iload_n i140_69 rfl ?_
  refine gm_ev.icmp_eq_f i140_70 c10 ?_
  refine gm_ev.aload_n i140_73 rfl ?_
  refine gm_ev.getfield (v := .ref (B + 10)) i140_74 rfl (bM_fld (j := 0) (fs := mF B s7) rfl rfl) ?_
  refine gm_ev.iload_n i140_77 rfl ?_
  refine gm_ev.zaload i140_78 (bM_ai (j := 10) (n := 512) (f := s7.2.1 18) rfl ek11 lk11 (by decide)) ?_
  refine gm_ev.if_eq_t (tgt := 86) i140_79 (by decide) c12 ?_
  refine gm_ev.iconst (v := 0) i140_86 (by decide) ?_
  refine gm_ev.istore_n (ls' := [some (.ref B), some (.int x1), some (.int x2), some (.int (0 : Int32)), some (.int x4)]) i140_87 (Nat.le_of_ble_eq_true rfl) rfl ?_
  refine gm_ev.iinc (v := x4 + (1 : Int32)) (ls' := [some (.ref B), some (.int x1), some (.int x2), some (.int (0 : Int32)), some (.int (x4 + (1 : Int32)))]) i140_88 rfl (by rfl) rfl ?_
  refine gm_ev.goto (tgt := 20) i140_91 (by decide) ?_
  exact k
theorem r_isCircular_20_fffff_at20 {N0 : Nat} {K : Nat → Nat} {d B : Nat} {s : mS} {G : gm_H} {sz sl : Nat} {R : gm_R} {x1 : Int32} {x2 : Int32} {x3 : Int32} {x4 : Int32} {k1 : Nat} {k3 : Nat} {k5 : Nat} {s7 : mS} {k9 : Nat} {k11 : Nat} (hN : N0 ≤ B) (ek1 : x1 = nI k1) (lk1 : k1 < 24) (c2 : ¬ (((6 : Int32) * x1) + (s.2.1 12 k1)) < x4) (ek3 : x4 = nI k3) (lk3 : k3 < 144) (c4 : (s.2.1 13 k3) = (1 : Int32)) (ek5 : x4 = nI k5) (lk5 : k5 < 144) (t6 : gm_to N0 K ra_nm (ra_mt K) d 139 [.ref B, .int (s.2.1 14 k5)] (bM B (mH B s) G) sz (.returned none, bM B (mH B s7) G, sz, 0)) (c8 : x3 = 0) (ek9 : x4 = nI k9) (lk9 : k9 < 144) (c10 : ¬ (s7.2.1 14 k9) = x2) (ek11 : x2 = nI k11) (lk11 : k11 < 512) (c12 : ¬ (s7.2.1 18 k11) = 0) (k : gm_ev N0 K ra_nm (ra_mt K) d (some .boolean) (gm_I cX12_isCircular) (gm_lkf (lkX12 false K)) 20 [some (.ref B), some (.int x1), some (.int x2), some (.int (1 : Int32)), some (.int (x4 + (1 : Int32)))] [] (bM B (mH B s7) G) sz sl R) : gm_ev N0 K ra_nm (ra_mt K) d (some .boolean) (gm_I cX12_isCircular) (gm_lkf (lkX12 false K)) 20 [some (.ref B), some (.int x1), some (.int x2), some (.int x3), some (.int x4)] [] (bM B (mH B s) G) sz sl R := by
  refine gm_ev.iload i140_20 rfl ?_
  refine gm_ev.bipush (v := 6) i140_22 (by decide) ?_
  refine gm_ev.iload_n i140_24 rfl ?_
  refine gm_ev.imul i140_25 ?_
  refine gm_ev.aload_n i140_26 rfl ?_
  refine gm_ev.getfield (v := .ref (B + 4)) i140_27 rfl (bM_fld (j := 0) (fs := mF B s) rfl rfl) ?_
  refine gm_ev.iload_n i140_30 rfl ?_
  refine gm_ev.iaload i140_31 (bM_ai (j := 4) (n := 24) (f := s.2.1 12) rfl ek1 lk1 (by decide)) ?_
  refine gm_ev.iadd i140_32 ?_
  refine gm_ev.icmp_gt_f i140_33 c2 ?_
  refine gm_ev.aload_n i140_36 rfl ?_
  refine gm_ev.getfield (v := .ref (B + 5)) i140_37 rfl (bM_fld (j := 0) (fs := mF B s) rfl rfl) ?_
  refine gm_ev.iload i140_40 rfl ?_
  refine gm_ev.iaload i140_42 (bM_ai (j := 5) (n := 144) (f := s.2.1 13) rfl ek3 lk3 (by decide)) ?_
  refine gm_ev.iconst (v := 1) i140_43 (by decide) ?_
  refine gm_ev.icmp_ne_f i140_44 c4 ?_
  refine gm_ev.aload_n i140_47 rfl ?_
  refine gm_ev.aload_n i140_48 rfl ?_
  refine gm_ev.getfield (v := .ref (B + 6)) i140_49 rfl (bM_fld (j := 0) (fs := mF B s) rfl rfl) ?_
  refine gm_ev.iload i140_52 rfl ?_
  refine gm_ev.iaload i140_54 (bM_ai (j := 6) (n := 144) (f := s.2.1 14) rfl ek5 lk5 (by decide)) ?_
  refine gm_ev.callV gm_mono_run (av := [.int (s.2.1 14 k5)]) (r := []) (ci := 11) (fs := mF B s) (bM_get (j := 0) rfl) i140_55 rfl rfl rfl (Nat.le_of_ble_eq_true rfl) t6 ?_
  refine gm_ev.iload_n i140_58 rfl ?_
  refine gm_ev.if_ne_f i140_59 c8 ?_
  refine gm_ev.aload_n i140_62 rfl ?_
  refine gm_ev.getfield (v := .ref (B + 6)) i140_63 rfl (bM_fld (j := 0) (fs := mF B s7) rfl rfl) ?_
  refine gm_ev.iload i140_66 rfl ?_
  refine gm_ev.iaload i140_68 (bM_ai (j := 6) (n := 144) (f := s7.2.1 14) rfl ek9 lk9 (by decide)) ?_
  refine gm_ev.iload_n i140_69 rfl ?_
  refine gm_ev.icmp_eq_f i140_70 c10 ?_
  refine gm_ev.aload_n i140_73 rfl ?_
  refine gm_ev.getfield (v := .ref (B + 10)) i140_74 rfl (bM_fld (j := 0) (fs := mF B s7) rfl rfl) ?_
  refine gm_ev.iload_n i140_77 rfl ?_
  refine gm_ev.zaload i140_78 (bM_ai (j := 10) (n := 512) (f := s7.2.1 18) rfl ek11 lk11 (by decide)) ?_
  refine gm_ev.if_eq_f i140_79 c12 ?_
  refine gm_ev.iconst (v := 1) i140_82 (by decide) ?_
  refine gm_ev.goto (tgt := 87) i140_83 (by decide) ?_
  refine gm_ev.istore_n (ls' := [some (.ref B), some (.int x1), some (.int x2), some (.int (1 : Int32)), some (.int x4)]) i140_87 (Nat.le_of_ble_eq_true rfl) rfl ?_
  refine gm_ev.iinc (v := x4 + (1 : Int32)) (ls' := [some (.ref B), some (.int x1), some (.int x2), some (.int (1 : Int32)), some (.int (x4 + (1 : Int32)))]) i140_88 rfl (by rfl) rfl ?_
  refine gm_ev.goto (tgt := 20) i140_91 (by decide) ?_
  exact k
theorem r_isMixed_0_ttt {N0 : Nat} {K : Nat → Nat} {d B : Nat} {s : mS} {G : gm_H} {sz sl : Nat} {p0 : Int32} {k1 : Nat} {k3 : Nat} {s5 : mS} {k6 : Nat} (hN : N0 ≤ B) (ek1 : ((6 : Int32) * p0) = nI k1) (lk1 : k1 < 144) (c2 : ((s.2.1 14 k1) / (4 : Int32)) = (73 : Int32)) (ek3 : ((6 : Int32) * p0) = nI k3) (lk3 : k3 < 144) (t4 : gm_to N0 K ra_nm (ra_mt K) d 139 [.ref B, .int (s.2.1 14 k3)] (bM B (mH B s) G) sz (.returned none, bM B (mH B s5) G, sz, 0)) (ek6 : (274 : Int32) = nI k6) (lk6 : k6 < 512) (c7 : ((s.2.1 14 k1) / (4 : Int32)) = (73 : Int32)) (c8 : ¬ (s5.2.1 18 k6) = 0) : gm_ev N0 K ra_nm (ra_mt K) d (some .boolean) (gm_I cX12_isMixed) (gm_lkf (lkX12 false K)) 0 [some (.ref B), some (.int p0), none, none] [] (bM B (mH B s) G) sz sl (.returned (some (.int (1 : Int32))), (bM B (mH B s5) G), sz, sl) := by
  refine gm_ev.aload_n i141_0 rfl ?_
  refine gm_ev.getfield (v := .ref (B + 6)) i141_1 rfl (bM_fld (j := 0) (fs := mF B s) rfl rfl) ?_
  refine gm_ev.bipush (v := 6) i141_4 (by decide) ?_
  refine gm_ev.iload_n i141_6 rfl ?_
  refine gm_ev.imul i141_7 ?_
  refine gm_ev.iaload i141_8 (bM_ai (j := 6) (n := 144) (f := s.2.1 14) rfl ek1 lk1 (by decide)) ?_
  refine gm_ev.iconst (v := 4) i141_9 (by decide) ?_
  refine gm_ev.idiv i141_10 (by decide) ?_
  refine gm_ev.istore_n (ls' := [some (.ref B), some (.int p0), some (.int ((s.2.1 14 k1) / (4 : Int32))), none]) i141_11 (Nat.le_of_ble_eq_true rfl) rfl ?_
  refine gm_ev.iload_n i141_12 rfl ?_
  refine gm_ev.bipush (v := 73) i141_13 (by decide) ?_
  refine gm_ev.icmp_eq_t (tgt := 38) i141_15 (by decide) c2 ?_
  refine gm_ev.aload_n i141_38 rfl ?_
  refine gm_ev.aload_n i141_39 rfl ?_
  refine gm_ev.getfield (v := .ref (B + 6)) i141_40 rfl (bM_fld (j := 0) (fs := mF B s) rfl rfl) ?_
  refine gm_ev.bipush (v := 6) i141_43 (by decide) ?_
  refine gm_ev.iload_n i141_45 rfl ?_
  refine gm_ev.imul i141_46 ?_
  refine gm_ev.iaload i141_47 (bM_ai (j := 6) (n := 144) (f := s.2.1 14) rfl ek3 lk3 (by decide)) ?_
  refine gm_ev.callV gm_mono_run (av := [.int (s.2.1 14 k3)]) (r := []) (ci := 11) (fs := mF B s) (bM_get (j := 0) rfl) i141_48 rfl rfl rfl (Nat.le_of_ble_eq_true rfl) t4 ?_
  refine gm_ev.aload_n i141_51 rfl ?_
  refine gm_ev.getfield (v := .ref (B + 10)) i141_52 rfl (bM_fld (j := 0) (fs := mF B s5) rfl rfl) ?_
  refine gm_ev.sipush (v := 274) i141_55 (by decide) ?_
  refine gm_ev.zaload i141_58 (bM_ai (j := 10) (n := 512) (f := s5.2.1 18) rfl ek6 lk6 (by decide)) ?_
  refine gm_ev.istore_n (ls' := [some (.ref B), some (.int p0), some (.int ((s.2.1 14 k1) / (4 : Int32))), some (.int (s5.2.1 18 k6))]) i141_59 (Nat.le_of_ble_eq_true rfl) rfl ?_
  refine gm_ev.iload_n i141_60 rfl ?_
  refine gm_ev.bipush (v := 73) i141_61 (by decide) ?_
  refine gm_ev.icmp_eq_t (tgt := 70) i141_63 (by decide) c7 ?_
  refine gm_ev.iload_n i141_70 rfl ?_
  refine gm_ev.if_ne_t (tgt := 118) i141_71 (by decide) c8 ?_
  refine gm_ev.iconst (v := 1) i141_118 (by decide) ?_
  refine gm_ev.goto (tgt := 123) i141_119 (by decide) ?_
  exact gm_ev.zret i141_123 rfl (by decide)
theorem r_isMixed_0_ttft {N0 : Nat} {K : Nat → Nat} {d B : Nat} {s : mS} {G : gm_H} {sz sl : Nat} {p0 : Int32} {k1 : Nat} {k3 : Nat} {s5 : mS} {k6 : Nat} {k9 : Nat} (hN : N0 ≤ B) (ek1 : ((6 : Int32) * p0) = nI k1) (lk1 : k1 < 144) (c2 : ((s.2.1 14 k1) / (4 : Int32)) = (73 : Int32)) (ek3 : ((6 : Int32) * p0) = nI k3) (lk3 : k3 < 144) (t4 : gm_to N0 K ra_nm (ra_mt K) d 139 [.ref B, .int (s.2.1 14 k3)] (bM B (mH B s) G) sz (.returned none, bM B (mH B s5) G, sz, 0)) (ek6 : (274 : Int32) = nI k6) (lk6 : k6 < 512) (c7 : ((s.2.1 14 k1) / (4 : Int32)) = (73 : Int32)) (c8 : (s5.2.1 18 k6) = 0) (ek9 : (337 : Int32) = nI k9) (lk9 : k9 < 512) (c10 : ¬ (s5.2.1 18 k9) = 0) : gm_ev N0 K ra_nm (ra_mt K) d (some .boolean) (gm_I cX12_isMixed) (gm_lkf (lkX12 false K)) 0 [some (.ref B), some (.int p0), none, none] [] (bM B (mH B s) G) sz sl (.returned (some (.int (1 : Int32))), (bM B (mH B s5) G), sz, sl) := by
  refine gm_ev.aload_n i141_0 rfl ?_
  refine gm_ev.getfield (v := .ref (B + 6)) i141_1 rfl (bM_fld (j := 0) (fs := mF B s) rfl rfl) ?_
  refine gm_ev.bipush (v := 6) i141_4 (by decide) ?_
  refine gm_ev.iload_n i141_6 rfl ?_
  refine gm_ev.imul i141_7 ?_
  refine gm_ev.iaload i141_8 (bM_ai (j := 6) (n := 144) (f := s.2.1 14) rfl ek1 lk1 (by decide)) ?_
  refine gm_ev.iconst (v := 4) i141_9 (by decide) ?_
  refine gm_ev.idiv i141_10 (by decide) ?_
  refine gm_ev.istore_n (ls' := [some (.ref B), some (.int p0), some (.int ((s.2.1 14 k1) / (4 : Int32))), none]) i141_11 (Nat.le_of_ble_eq_true rfl) rfl ?_
  refine gm_ev.iload_n i141_12 rfl ?_
  refine gm_ev.bipush (v := 73) i141_13 (by decide) ?_
  refine gm_ev.icmp_eq_t (tgt := 38) i141_15 (by decide) c2 ?_
  refine gm_ev.aload_n i141_38 rfl ?_
  refine gm_ev.aload_n i141_39 rfl ?_
  refine gm_ev.getfield (v := .ref (B + 6)) i141_40 rfl (bM_fld (j := 0) (fs := mF B s) rfl rfl) ?_
  refine gm_ev.bipush (v := 6) i141_43 (by decide) ?_
  refine gm_ev.iload_n i141_45 rfl ?_
  refine gm_ev.imul i141_46 ?_
  refine gm_ev.iaload i141_47 (bM_ai (j := 6) (n := 144) (f := s.2.1 14) rfl ek3 lk3 (by decide)) ?_
  refine gm_ev.callV gm_mono_run (av := [.int (s.2.1 14 k3)]) (r := []) (ci := 11) (fs := mF B s) (bM_get (j := 0) rfl) i141_48 rfl rfl rfl (Nat.le_of_ble_eq_true rfl) t4 ?_
  refine gm_ev.aload_n i141_51 rfl ?_
  refine gm_ev.getfield (v := .ref (B + 10)) i141_52 rfl (bM_fld (j := 0) (fs := mF B s5) rfl rfl) ?_
  refine gm_ev.sipush (v := 274) i141_55 (by decide) ?_
  refine gm_ev.zaload i141_58 (bM_ai (j := 10) (n := 512) (f := s5.2.1 18) rfl ek6 lk6 (by decide)) ?_
  refine gm_ev.istore_n (ls' := [some (.ref B), some (.int p0), some (.int ((s.2.1 14 k1) / (4 : Int32))), some (.int (s5.2.1 18 k6))]) i141_59 (Nat.le_of_ble_eq_true rfl) rfl ?_
  refine gm_ev.iload_n i141_60 rfl ?_
  refine gm_ev.bipush (v := 73) i141_61 (by decide) ?_
  refine gm_ev.icmp_eq_t (tgt := 70) i141_63 (by decide) c7 ?_
  refine gm_ev.iload_n i141_70 rfl ?_
  refine gm_ev.if_ne_f i141_71 c8 ?_
  refine gm_ev.aload_n i141_74 rfl ?_
  refine gm_ev.getfield (v := .ref (B + 10)) i141_75 rfl (bM_fld (j := 0) (fs := mF B s5) rfl rfl) ?_
  refine gm_ev.sipush (v := 337) i141_78 (by decide) ?_
  refine gm_ev.zaload i141_81 (bM_ai (j := 10) (n := 512) (f := s5.2.1 18) rfl ek9 lk9 (by decide)) ?_
  refine gm_ev.if_ne_t (tgt := 118) i141_82 (by decide) c10 ?_
  refine gm_ev.iconst (v := 1) i141_118 (by decide) ?_
  refine gm_ev.goto (tgt := 123) i141_119 (by decide) ?_
  exact gm_ev.zret i141_123 rfl (by decide)
theorem r_isMixed_0_ttfft {N0 : Nat} {K : Nat → Nat} {d B : Nat} {s : mS} {G : gm_H} {sz sl : Nat} {p0 : Int32} {k1 : Nat} {k3 : Nat} {s5 : mS} {k6 : Nat} {k9 : Nat} {k11 : Nat} (hN : N0 ≤ B) (ek1 : ((6 : Int32) * p0) = nI k1) (lk1 : k1 < 144) (c2 : ((s.2.1 14 k1) / (4 : Int32)) = (73 : Int32)) (ek3 : ((6 : Int32) * p0) = nI k3) (lk3 : k3 < 144) (t4 : gm_to N0 K ra_nm (ra_mt K) d 139 [.ref B, .int (s.2.1 14 k3)] (bM B (mH B s) G) sz (.returned none, bM B (mH B s5) G, sz, 0)) (ek6 : (274 : Int32) = nI k6) (lk6 : k6 < 512) (c7 : ((s.2.1 14 k1) / (4 : Int32)) = (73 : Int32)) (c8 : (s5.2.1 18 k6) = 0) (ek9 : (337 : Int32) = nI k9) (lk9 : k9 < 512) (c10 : (s5.2.1 18 k9) = 0) (ek11 : (306 : Int32) = nI k11) (lk11 : k11 < 512) (c12 : ¬ (s5.2.1 18 k11) = 0) : gm_ev N0 K ra_nm (ra_mt K) d (some .boolean) (gm_I cX12_isMixed) (gm_lkf (lkX12 false K)) 0 [some (.ref B), some (.int p0), none, none] [] (bM B (mH B s) G) sz sl (.returned (some (.int (1 : Int32))), (bM B (mH B s5) G), sz, sl) := by
  refine gm_ev.aload_n i141_0 rfl ?_
  refine gm_ev.getfield (v := .ref (B + 6)) i141_1 rfl (bM_fld (j := 0) (fs := mF B s) rfl rfl) ?_
  refine gm_ev.bipush (v := 6) i141_4 (by decide) ?_
  refine gm_ev.iload_n i141_6 rfl ?_
  refine gm_ev.imul i141_7 ?_
  refine gm_ev.iaload i141_8 (bM_ai (j := 6) (n := 144) (f := s.2.1 14) rfl ek1 lk1 (by decide)) ?_
  refine gm_ev.iconst (v := 4) i141_9 (by decide) ?_
  refine gm_ev.idiv i141_10 (by decide) ?_
  refine gm_ev.istore_n (ls' := [some (.ref B), some (.int p0), some (.int ((s.2.1 14 k1) / (4 : Int32))), none]) i141_11 (Nat.le_of_ble_eq_true rfl) rfl ?_
  refine gm_ev.iload_n i141_12 rfl ?_
  refine gm_ev.bipush (v := 73) i141_13 (by decide) ?_
  refine gm_ev.icmp_eq_t (tgt := 38) i141_15 (by decide) c2 ?_
  refine gm_ev.aload_n i141_38 rfl ?_
  refine gm_ev.aload_n i141_39 rfl ?_
  refine gm_ev.getfield (v := .ref (B + 6)) i141_40 rfl (bM_fld (j := 0) (fs := mF B s) rfl rfl) ?_
  refine gm_ev.bipush (v := 6) i141_43 (by decide) ?_
  refine gm_ev.iload_n i141_45 rfl ?_
  refine gm_ev.imul i141_46 ?_
  refine gm_ev.iaload i141_47 (bM_ai (j := 6) (n := 144) (f := s.2.1 14) rfl ek3 lk3 (by decide)) ?_
  refine gm_ev.callV gm_mono_run (av := [.int (s.2.1 14 k3)]) (r := []) (ci := 11) (fs := mF B s) (bM_get (j := 0) rfl) i141_48 rfl rfl rfl (Nat.le_of_ble_eq_true rfl) t4 ?_
  refine gm_ev.aload_n i141_51 rfl ?_
  refine gm_ev.getfield (v := .ref (B + 10)) i141_52 rfl (bM_fld (j := 0) (fs := mF B s5) rfl rfl) ?_
  refine gm_ev.sipush (v := 274) i141_55 (by decide) ?_
  refine gm_ev.zaload i141_58 (bM_ai (j := 10) (n := 512) (f := s5.2.1 18) rfl ek6 lk6 (by decide)) ?_
  refine gm_ev.istore_n (ls' := [some (.ref B), some (.int p0), some (.int ((s.2.1 14 k1) / (4 : Int32))), some (.int (s5.2.1 18 k6))]) i141_59 (Nat.le_of_ble_eq_true rfl) rfl ?_
  refine gm_ev.iload_n i141_60 rfl ?_
  refine gm_ev.bipush (v := 73) i141_61 (by decide) ?_
  refine gm_ev.icmp_eq_t (tgt := 70) i141_63 (by decide) c7 ?_
  refine gm_ev.iload_n i141_70 rfl ?_
  refine gm_ev.if_ne_f i141_71 c8 ?_
  refine gm_ev.aload_n i141_74 rfl ?_
  refine gm_ev.getfield (v := .ref (B + 10)) i141_75 rfl (bM_fld (j := 0) (fs := mF B s5) rfl rfl) ?_
  refine gm_ev.sipush (v := 337) i141_78 (by decide) ?_
  refine gm_ev.zaload i141_81 (bM_ai (j := 10) (n := 512) (f := s5.2.1 18) rfl ek9 lk9 (by decide)) ?_
  refine gm_ev.if_ne_f i141_82 c10 ?_
  refine gm_ev.aload_n i141_85 rfl ?_
  refine gm_ev.getfield (v := .ref (B + 10)) i141_86 rfl (bM_fld (j := 0) (fs := mF B s5) rfl rfl) ?_
  refine gm_ev.sipush (v := 306) i141_89 (by decide) ?_
  refine gm_ev.zaload i141_92 (bM_ai (j := 10) (n := 512) (f := s5.2.1 18) rfl ek11 lk11 (by decide)) ?_
  refine gm_ev.if_ne_t (tgt := 118) i141_93 (by decide) c12 ?_
  refine gm_ev.iconst (v := 1) i141_118 (by decide) ?_
  refine gm_ev.goto (tgt := 123) i141_119 (by decide) ?_
  exact gm_ev.zret i141_123 rfl (by decide)
