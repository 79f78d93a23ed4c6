/-! paths through RuleArenaModel, by program -/
theorem r_looksAt_0_tfftt {N0 : Nat} {K : Nat → Nat} {d B : Nat} {s : mS} {G : gm_H} {sz sl : Nat} {p0 : Int32} {k1 : Nat} {k2 : Nat} {k3 : Nat} {k4 : Nat} {s6 : mS} {r8 : Int32} {r11 : Int32} {s13 : mS} {r14 : Int32} {s16 : mS} {k17 : Nat} (hN : N0 ≤ B) (ek1 : p0 = nI k1) (lk1 : k1 < 61) (ek2 : (p0 + (1 : Int32)) = nI k2) (lk2 : k2 < 61) (ek3 : p0 = nI k3) (lk3 : k3 < 60) (ek4 : p0 = nI k4) (lk4 : k4 < 60) (t5 : gm_to N0 K ra_nm (ra_mt K) d 160 [.ref B, .ref (B + 24), .int ((24 : Int32) * p0), .int (s.2.1 45 k4)] (bM B (mH B (mA (mA s 46 (upd (s.2.1 46) k2 (s.2.1 46 k1))) 48 (upd (s.2.1 48) k3 (0 : Int32)))) G) sz (.returned none, bM B (mH B s6) G, sz, 0)) (c7 : (s6.1 23) = 0) (t9 : gm_to N0 K ra_nm (ra_mt K) d 172 [.ref B] (bM B (mH B s6) G) sz (.returned (some (.int r8)), bM B (mH B s6) G, sz, 0)) (c10 : ¬ r8 = 0) (t12 : gm_to N0 K ra_nm (ra_mt K) d 173 [.ref B, .int (0 : Int32)] (bM B (mH B s6) G) sz (.returned (some (.int r11)), bM B (mH B s13) G, sz, 0)) (t15 : gm_to N0 K ra_nm (ra_mt K) d 173 [.ref B, .int (1 : Int32)] (bM B (mH B s13) G) sz (.returned (some (.int r14)), bM B (mH B s16) G, sz, 0)) (ek17 : p0 = nI k17) (lk17 : k17 < 60) (c18 : ¬ r11 < 0) (c19 : 0 ≤ r14) (c20 : (r11 + r14) = (8 : Int32)) : gm_ev N0 K ra_nm (ra_mt K) d (some .int) (gm_I cX12_looksAt) (gm_lkf (lkX12 false K)) 0 [some (.ref B), some (.int p0), none, none, none, none] [] (bM B (mH B s) G) sz sl (.returned (some (.int (0 : Int32))), (bM B (mH B (mA s16 49 (upd (s16.2.1 49) k17 r11))) G), sz, sl) := by
  refine gm_ev.aload_n i184_0 rfl ?_
  refine gm_ev.getfield (v := .ref (B + 26)) i184_1 rfl (bM_fld (j := 0) (fs := mF B s) rfl rfl) ?_
  refine gm_ev.iload_n i184_4 rfl ?_
  refine gm_ev.iconst (v := 1) i184_5 (by decide) ?_
  refine gm_ev.iadd i184_6 ?_
  refine gm_ev.aload_n i184_7 rfl ?_
  refine gm_ev.getfield (v := .ref (B + 26)) i184_8 rfl (bM_fld (j := 0) (fs := mF B s) rfl rfl) ?_
  refine gm_ev.iload_n i184_11 rfl ?_
  refine gm_ev.iaload i184_12 (bM_ai (j := 26) (n := 61) (f := s.2.1 46) rfl ek1 lk1 (by decide)) ?_
  refine gm_ev.iastore (M' := (bM B (mH B (mA s 46 (upd (s.2.1 46) k2 (s.2.1 46 k1)))) G)) i184_13 (bM_asti (j := 26) (n := 61) (f := s.2.1 46) rfl ek2 lk2 (by decide) hN rfl) ?_
  refine gm_ev.aload_n i184_14 rfl ?_
  refine gm_ev.getfield (v := .ref (B + 28)) i184_15 rfl (bM_fld (j := 0) (fs := mF B (mA s 46 (upd (s.2.1 46) k2 (s.2.1 46 k1)))) rfl rfl) ?_
  refine gm_ev.iload_n i184_18 rfl ?_
  refine gm_ev.iconst (v := 0) i184_19 (by decide) ?_
  refine gm_ev.iastore (M' := (bM B (mH B (mA (mA s 46 (upd (s.2.1 46) k2 (s.2.1 46 k1))) 48 (upd (s.2.1 48) k3 (0 : Int32)))) G)) i184_20 (bM_asti (j := 28) (n := 60) (f := s.2.1 48) rfl ek3 lk3 (by decide) hN rfl) ?_
  refine gm_ev.aload_n i184_21 rfl ?_
  refine gm_ev.aload_n i184_22 rfl ?_
  refine gm_ev.getfield (v := .ref (B + 24)) i184_23 rfl (bM_fld (j := 0) (fs := mF B (mA (mA s 46 (upd (s.2.1 46) k2 (s.2.1 46 k1))) 48 (upd (s.2.1 48) k3 (0 : Int32)))) rfl rfl) ?_
  refine gm_ev.bipush (v := 24) i184_26 (by decide) ?_
  refine gm_ev.iload_n i184_28 rfl ?_
  refine gm_ev.imul i184_29 ?_
  refine gm_ev.aload_n i184_30 rfl ?_
  refine gm_ev.getfield (v := .ref (B + 25)) i184_31 rfl (bM_fld (j := 0) (fs := mF B (mA (mA s 46 (upd (s.2.1 46) k2 (s.2.1 46 k1))) 48 (upd (s.2.1 48) k3 (0 : Int32)))) rfl rfl) ?_
  refine gm_ev.iload_n i184_34 rfl ?_
  refine gm_ev.iaload i184_35 (bM_ai (j := 25) (n := 60) (f := s.2.1 45) rfl ek4 lk4 (by decide)) ?_
  refine gm_ev.callV gm_mono_run (av := [.ref (B + 24), .int ((24 : Int32) * p0), .int (s.2.1 45 k4)]) (r := []) (ci := 11) (fs := mF B (mA (mA s 46 (upd (s.2.1 46) k2 (s.2.1 46 k1))) 48 (upd (s.2.1 48) k3 (0 : Int32)))) (bM_get (j := 0) rfl) i184_36 rfl rfl rfl (Nat.le_of_ble_eq_true rfl) t5 ?_
  refine gm_ev.aload_n i184_39 rfl ?_
  refine gm_ev.getfield (v := .int (s6.1 23)) i184_40 rfl (bM_fld (j := 0) (fs := mF B s6) rfl rfl) ?_
  refine gm_ev.if_eq_t (tgt := 49) i184_43 (by decide) c7 ?_
  refine gm_ev.aload_n i184_49 rfl ?_
  refine gm_ev.callV gm_mono_run (av := []) (r := []) (ci := 11) (fs := mF B s6) (bM_get (j := 0) rfl) i184_50 rfl rfl rfl (Nat.le_of_ble_eq_true rfl) t9 ?_
  refine gm_ev.if_eq_f i184_53 c10 ?_
  refine gm_ev.aload_n i184_56 rfl ?_
  refine gm_ev.iconst (v := 0) i184_57 (by decide) ?_
  refine gm_ev.callV gm_mono_run (av := [.int (0 : Int32)]) (r := []) (ci := 11) (fs := mF B s6) (bM_get (j := 0) rfl) i184_58 rfl rfl rfl (Nat.le_of_ble_eq_true rfl) t12 ?_
  refine gm_ev.istore_n (ls' := [some (.ref B), some (.int p0), some (.int r11), none, none, none]) i184_61 (Nat.le_of_ble_eq_true rfl) rfl ?_
  refine gm_ev.aload_n i184_62 rfl ?_
  refine gm_ev.iconst (v := 1) i184_63 (by decide) ?_
  refine gm_ev.callV gm_mono_run (av := [.int (1 : Int32)]) (r := []) (ci := 11) (fs := mF B s13) (bM_get (j := 0) rfl) i184_64 rfl rfl rfl (Nat.le_of_ble_eq_true rfl) t15 ?_
  refine gm_ev.istore_n (ls' := [some (.ref B), some (.int p0), some (.int r11), some (.int r14), none, none]) i184_67 (Nat.le_of_ble_eq_true rfl) rfl ?_
  refine gm_ev.aload_n i184_68 rfl ?_
  refine gm_ev.getfield (v := .ref (B + 29)) i184_69 rfl (bM_fld (j := 0) (fs := mF B s16) rfl rfl) ?_
  refine gm_ev.iload_n i184_72 rfl ?_
  refine gm_ev.iload_n i184_73 rfl ?_
  refine gm_ev.iastore (M' := (bM B (mH B (mA s16 49 (upd (s16.2.1 49) k17 r11))) G)) i184_74 (bM_asti (j := 29) (n := 60) (f := s16.2.1 49) rfl ek17 lk17 (by decide) hN rfl) ?_
  refine gm_ev.iload_n i184_75 rfl ?_
  refine gm_ev.if_lt_f i184_76 c18 ?_
  refine gm_ev.iload_n i184_79 rfl ?_
  refine gm_ev.if_ge_t (tgt := 87) i184_80 (by decide) c19 ?_
  refine gm_ev.iload_n i184_87 rfl ?_
  refine gm_ev.iload_n i184_88 rfl ?_
  refine gm_ev.iadd i184_89 ?_
  refine gm_ev.bipush (v := 8) i184_90 (by decide) ?_
  refine gm_ev.icmp_eq_t (tgt := 99) i184_92 (by decide) c20 ?_
  refine gm_ev.iconst (v := 0) i184_99 (by decide) ?_
  exact gm_ev.iret i184_100 rfl
theorem r_looksAt_0_tfftf {N0 : Nat} {K : Nat → Nat} {d B : Nat} {s : mS} {G : gm_H} {sz sl : Nat} {p0 : Int32} {k1 : Nat} {k2 : Nat} {k3 : Nat} {k4 : Nat} {s6 : mS} {r8 : Int32} {r11 : Int32} {s13 : mS} {r14 : Int32} {s16 : mS} {k17 : Nat} (hN : N0 ≤ B) (ek1 : p0 = nI k1) (lk1 : k1 < 61) (ek2 : (p0 + (1 : Int32)) = nI k2) (lk2 : k2 < 61) (ek3 : p0 = nI k3) (lk3 : k3 < 60) (ek4 : p0 = nI k4) (lk4 : k4 < 60) (t5 : gm_to N0 K ra_nm (ra_mt K) d 160 [.ref B, .ref (B + 24), .int ((24 : Int32) * p0), .int (s.2.1 45 k4)] (bM B (mH B (mA (mA s 46 (upd (s.2.1 46) k2 (s.2.1 46 k1))) 48 (upd (s.2.1 48) k3 (0 : Int32)))) G) sz (.returned none, bM B (mH B s6) G, sz, 0)) (c7 : (s6.1 23) = 0) (t9 : gm_to N0 K ra_nm (ra_mt K) d 172 [.ref B] (bM B (mH B s6) G) sz (.returned (some (.int r8)), bM B (mH B s6) G, sz, 0)) (c10 : ¬ r8 = 0) (t12 : gm_to N0 K ra_nm (ra_mt K) d 173 [.ref B, .int (0 : Int32)] (bM B (mH B s6) G) sz (.returned (some (.int r11)), bM B (mH B s13) G, sz, 0)) (t15 : gm_to N0 K ra_nm (ra_mt K) d 173 [.ref B, .int (1 : Int32)] (bM B (mH B s13) G) sz (.returned (some (.int r14)), bM B (mH B s16) G, sz, 0)) (ek17 : p0 = nI k17) (lk17 : k17 < 60) (c18 : ¬ r11 < 0) (c19 : 0 ≤ r14) (c20 : ¬ (r11 + r14) = (8 : Int32)) : gm_ev N0 K ra_nm (ra_mt K) d (some .int) (gm_I cX12_looksAt) (gm_lkf (lkX12 false K)) 0 [some (.ref B), some (.int p0), none, none, none, none] [] (bM B (mH B s) G) sz sl (.returned (some (.int (5 : Int32))), (bM B (mH B (mA s16 49 (upd (s16.2.1 49) k17 r11))) G), sz, sl) := by
  refine gm_ev.aload_n i184_0 rfl ?_
  refine gm_ev.getfield (v := .ref (B + 26)) i184_1 rfl (bM_fld (j := 0) (fs := mF B s) rfl rfl) ?_
  refine gm_ev.iload_n i184_4 rfl ?_
  refine gm_ev.iconst (v := 1) i184_5 (by decide) ?_
  refine gm_ev.iadd i184_6 ?_
  refine gm_ev.aload_n i184_7 rfl ?_
  refine gm_ev.getfield (v := .ref (B + 26)) i184_8 rfl (bM_fld (j := 0) (fs := mF B s) rfl rfl) ?_
  refine gm_ev.iload_n i184_11 rfl ?_
  refine gm_ev.iaload i184_12 (bM_ai (j := 26) (n := 61) (f := s.2.1 46) rfl ek1 lk1 (by decide)) ?_
  refine gm_ev.iastore (M' := (bM B (mH B (mA s 46 (upd (s.2.1 46) k2 (s.2.1 46 k1)))) G)) i184_13 (bM_asti (j := 26) (n := 61) (f := s.2.1 46) rfl ek2 lk2 (by decide) hN rfl) ?_
  refine gm_ev.aload_n i184_14 rfl ?_
  refine gm_ev.getfield (v := .ref (B + 28)) i184_15 rfl (bM_fld (j := 0) (fs := mF B (mA s 46 (upd (s.2.1 46) k2 (s.2.1 46 k1)))) rfl rfl) ?_
  refine gm_ev.iload_n i184_18 rfl ?_
  refine gm_ev.iconst (v := 0) i184_19 (by decide) ?_
  refine gm_ev.iastore (M' := (bM B (mH B (mA (mA s 46 (upd (s.2.1 46) k2 (s.2.1 46 k1))) 48 (upd (s.2.1 48) k3 (0 : Int32)))) G)) i184_20 (bM_asti (j := 28) (n := 60) (f := s.2.1 48) rfl ek3 lk3 (by decide) hN rfl) ?_
  refine gm_ev.aload_n i184_21 rfl ?_
  refine gm_ev.aload_n i184_22 rfl ?_
  refine gm_ev.getfield (v := .ref (B + 24)) i184_23 rfl (bM_fld (j := 0) (fs := mF B (mA (mA s 46 (upd (s.2.1 46) k2 (s.2.1 46 k1))) 48 (upd (s.2.1 48) k3 (0 : Int32)))) rfl rfl) ?_
  refine gm_ev.bipush (v := 24) i184_26 (by decide) ?_
  refine gm_ev.iload_n i184_28 rfl ?_
  refine gm_ev.imul i184_29 ?_
  refine gm_ev.aload_n i184_30 rfl ?_
  refine gm_ev.getfield (v := .ref (B + 25)) i184_31 rfl (bM_fld (j := 0) (fs := mF B (mA (mA s 46 (upd (s.2.1 46) k2 (s.2.1 46 k1))) 48 (upd (s.2.1 48) k3 (0 : Int32)))) rfl rfl) ?_
  refine gm_ev.iload_n i184_34 rfl ?_
  refine gm_ev.iaload i184_35 (bM_ai (j := 25) (n := 60) (f := s.2.1 45) rfl ek4 lk4 (by decide)) ?_
  refine gm_ev.callV gm_mono_run (av := [.ref (B + 24), .int ((24 : Int32) * p0), .int (s.2.1 45 k4)]) (r := []) (ci := 11) (fs := mF B (mA (mA s 46 (upd (s.2.1 46) k2 (s.2.1 46 k1))) 48 (upd (s.2.1 48) k3 (0 : Int32)))) (bM_get (j := 0) rfl) i184_36 rfl rfl rfl (Nat.le_of_ble_eq_true rfl) t5 ?_
  refine gm_ev.aload_n i184_39 rfl ?_
  refine gm_ev.getfield (v := .int (s6.1 23)) i184_40 rfl (bM_fld (j := 0) (fs := mF B s6) rfl rfl) ?_
  refine gm_ev.if_eq_t (tgt := 49) i184_43 (by decide) c7 ?_
  refine gm_ev.aload_n i184_49 rfl ?_
  refine gm_ev.callV gm_mono_run (av := []) (r := []) (ci := 11) (fs := mF B s6) (bM_get (j := 0) rfl) i184_50 rfl rfl rfl (Nat.le_of_ble_eq_true rfl) t9 ?_
  refine gm_ev.if_eq_f i184_53 c10 ?_
  refine gm_ev.aload_n i184_56 rfl ?_
  refine gm_ev.iconst (v := 0) i184_57 (by decide) ?_
  refine gm_ev.callV gm_mono_run (av := [.int (0 : Int32)]) (r := []) (ci := 11) (fs := mF B s6) (bM_get (j := 0) rfl) i184_58 rfl rfl rfl (Nat.le_of_ble_eq_true rfl) t12 ?_
  refine gm_ev.istore_n (ls' := [some (.ref B), some (.int p0), some (.int r11), none, none, none]) i184_61 (Nat.le_of_ble_eq_true rfl) rfl ?_
  refine gm_ev.aload_n i184_62 rfl ?_
  refine gm_ev.iconst (v := 1) i184_63 (by decide) ?_
  refine gm_ev.callV gm_mono_run (av := [.int (1 : Int32)]) (r := []) (ci := 11) (fs := mF B s13) (bM_get (j := 0) rfl) i184_64 rfl rfl rfl (Nat.le_of_ble_eq_true rfl) t15 ?_
  refine gm_ev.istore_n (ls' := [some (.ref B), some (.int p0), some (.int r11), some (.int r14), none, none]) i184_67 (Nat.le_of_ble_eq_true rfl) rfl ?_
  refine gm_ev.aload_n i184_68 rfl ?_
  refine gm_ev.getfield (v := .ref (B + 29)) i184_69 rfl (bM_fld (j := 0) (fs := mF B s16) rfl rfl) ?_
  refine gm_ev.iload_n i184_72 rfl ?_
  refine gm_ev.iload_n i184_73 rfl ?_
  refine gm_ev.iastore (M' := (bM B (mH B (mA s16 49 (upd (s16.2.1 49) k17 r11))) G)) i184_74 (bM_asti (j := 29) (n := 60) (f := s16.2.1 49) rfl ek17 lk17 (by decide) hN rfl) ?_
  refine gm_ev.iload_n i184_75 rfl ?_
  refine gm_ev.if_lt_f i184_76 c18 ?_
  refine gm_ev.iload_n i184_79 rfl ?_
  refine gm_ev.if_ge_t (tgt := 87) i184_80 (by decide) c19 ?_
  refine gm_ev.iload_n i184_87 rfl ?_
  refine gm_ev.iload_n i184_88 rfl ?_
  refine gm_ev.iadd i184_89 ?_
  refine gm_ev.bipush (v := 8) i184_90 (by decide) ?_
  refine gm_ev.icmp_eq_f i184_92 c20 ?_
  refine gm_ev.iconst (v := 5) i184_95 (by decide) ?_
  refine gm_ev.goto (tgt := 100) i184_96 (by decide) ?_
  exact gm_ev.iret i184_100 rfl
theorem r_looksAt_0_tfff {N0 : Nat} {K : Nat → Nat} {d B : Nat} {s : mS} {G : gm_H} {sz sl : Nat} {p0 : Int32} {k1 : Nat} {k2 : Nat} {k3 : Nat} {k4 : Nat} {s6 : mS} {r8 : Int32} {r11 : Int32} {s13 : mS} {r14 : Int32} {s16 : mS} {k17 : Nat} (hN : N0 ≤ B) (ek1 : p0 = nI k1) (lk1 : k1 < 61) (ek2 : (p0 + (1 : Int32)) = nI k2) (lk2 : k2 < 61) (ek3 : p0 = nI k3) (lk3 : k3 < 60) (ek4 : p0 = nI k4) (lk4 : k4 < 60) (t5 : gm_to N0 K ra_nm (ra_mt K) d 160 [.ref B, .ref (B + 24), .int ((24 : Int32) * p0), .int (s.2.1 45 k4)] (bM B (mH B (mA (mA s 46 (upd (s.2.1 46) k2 (s.2.1 46 k1))) 48 (upd (s.2.1 48) k3 (0 : Int32)))) G) sz (.returned none, bM B (mH B s6) G, sz, 0)) (c7 : (s6.1 23) = 0) (t9 : gm_to N0 K ra_nm (ra_mt K) d 172 [.ref B] (bM B (mH B s6) G) sz (.returned (some (.int r8)), bM B (mH B s6) G, sz, 0)) (c10 : ¬ r8 = 0) (t12 : gm_to N0 K ra_nm (ra_mt K) d 173 [.ref B, .int (0 : Int32)] (bM B (mH B s6) G) sz (.returned (some (.int r11)), bM B (mH B s13) G, sz, 0)) (t15 : gm_to N0 K ra_nm (ra_mt K) d 173 [.ref B, .int (1 : Int32)] (bM B (mH B s13) G) sz (.returned (some (.int r14)), bM B (mH B s16) G, sz, 0)) (ek17 : p0 = nI k17) (lk17 : k17 < 60) (c18 : ¬ r11 < 0) (c19 : ¬ 0 ≤ r14) : gm_ev N0 K ra_nm (ra_mt K) d (some .int) (gm_I cX12_looksAt) (gm_lkf (lkX12 false K)) 0 [some (.ref B), some (.int p0), none, none, none, none] [] (bM B (mH B s) G) sz sl (.returned (some (.int (4 : Int32))), (bM B (mH B (mA s16 49 (upd (s16.2.1 49) k17 r11))) G), sz, sl) := by
  refine gm_ev.aload_n i184_0 rfl ?_
  refine gm_ev.getfield (v := .ref (B + 26)) i184_1 rfl (bM_fld (j := 0) (fs := mF B s) rfl rfl) ?_
  refine gm_ev.iload_n i184_4 rfl ?_
  refine gm_ev.iconst (v := 1) i184_5 (by decide) ?_
  refine gm_ev.iadd i184_6 ?_
  refine gm_ev.aload_n i184_7 rfl ?_
  refine gm_ev.getfield (v := .ref (B + 26)) i184_8 rfl (bM_fld (j := 0) (fs := mF B s) rfl rfl) ?_
  refine gm_ev.iload_n i184_11 rfl ?_
  refine gm_ev.iaload i184_12 (bM_ai (j := 26) (n := 61) (f := s.2.1 46) rfl ek1 lk1 (by decide)) ?_
  refine gm_ev.iastore (M' := (bM B (mH B (mA s 46 (upd (s.2.1 46) k2 (s.2.1 46 k1)))) G)) i184_13 (bM_asti (j := 26) (n := 61) (f := s.2.1 46) rfl ek2 lk2 (by decide) hN rfl) ?_
  refine gm_ev.aload_n i184_14 rfl ?_
  refine gm_ev.getfield (v := .ref (B + 28)) i184_15 rfl (bM_fld (j := 0) (fs := mF B (mA s 46 (upd (s.2.1 46) k2 (s.2.1 46 k1)))) rfl rfl) ?_
  refine gm_ev.iload_n i184_18 rfl ?_
  refine gm_ev.iconst (v := 0) i184_19 (by decide) ?_
  refine gm_ev.iastore (M' := (bM B (mH B (mA (mA s 46 (upd (s.2.1 46) k2 (s.2.1 46 k1))) 48 (upd (s.2.1 48) k3 (0 : Int32)))) G)) i184_20 (bM_asti (j := 28) (n := 60) (f := s.2.1 48) rfl ek3 lk3 (by decide) hN rfl) ?_
  refine gm_ev.aload_n i184_21 rfl ?_
  refine gm_ev.aload_n i184_22 rfl ?_
  refine gm_ev.getfield (v := .ref (B + 24)) i184_23 rfl (bM_fld (j := 0) (fs := mF B (mA (mA s 46 (upd (s.2.1 46) k2 (s.2.1 46 k1))) 48 (upd (s.2.1 48) k3 (0 : Int32)))) rfl rfl) ?_
  refine gm_ev.bipush (v := 24) i184_26 (by decide) ?_
  refine gm_ev.iload_n i184_28 rfl ?_
  refine gm_ev.imul i184_29 ?_
  refine gm_ev.aload_n i184_30 rfl ?_
  refine gm_ev.getfield (v := .ref (B + 25)) i184_31 rfl (bM_fld (j := 0) (fs := mF B (mA (mA s 46 (upd (s.2.1 46) k2 (s.2.1 46 k1))) 48 (upd (s.2.1 48) k3 (0 : Int32)))) rfl rfl) ?_
  refine gm_ev.iload_n i184_34 rfl ?_
  refine gm_ev.iaload i184_35 (bM_ai (j := 25) (n := 60) (f := s.2.1 45) rfl ek4 lk4 (by decide)) ?_
  refine gm_ev.callV gm_mono_run (av := [.ref (B + 24), .int ((24 : Int32) * p0), .int (s.2.1 45 k4)]) (r := []) (ci := 11) (fs := mF B (mA (mA s 46 (upd (s.2.1 46) k2 (s.2.1 46 k1))) 48 (upd (s.2.1 48) k3 (0 : Int32)))) (bM_get (j := 0) rfl) i184_36 rfl rfl rfl (Nat.le_of_ble_eq_true rfl) t5 ?_
  refine gm_ev.aload_n i184_39 rfl ?_
  refine gm_ev.getfield (v := .int (s6.1 23)) i184_40 rfl (bM_fld (j := 0) (fs := mF B s6) rfl rfl) ?_
  refine gm_ev.if_eq_t (tgt := 49) i184_43 (by decide) c7 ?_
  refine gm_ev.aload_n i184_49 rfl ?_
  refine gm_ev.callV gm_mono_run (av := []) (r := []) (ci := 11) (fs := mF B s6) (bM_get (j := 0) rfl) i184_50 rfl rfl rfl (Nat.le_of_ble_eq_true rfl) t9 ?_
  refine gm_ev.if_eq_f i184_53 c10 ?_
  refine gm_ev.aload_n i184_56 rfl ?_
  refine gm_ev.iconst (v := 0) i184_57 (by decide) ?_
  refine gm_ev.callV gm_mono_run (av := [.int (0 : Int32)]) (r := []) (ci := 11) (fs := mF B s6) (bM_get (j := 0) rfl) i184_58 rfl rfl rfl (Nat.le_of_ble_eq_true rfl) t12 ?_
  refine gm_ev.istore_n (ls' := [some (.ref B), some (.int p0), some (.int r11), none, none, none]) i184_61 (Nat.le_of_ble_eq_true rfl) rfl ?_
  refine gm_ev.aload_n i184_62 rfl ?_
  refine gm_ev.iconst (v := 1) i184_63 (by decide) ?_
  refine gm_ev.callV gm_mono_run (av := [.int (1 : Int32)]) (r := []) (ci := 11) (fs := mF B s13) (bM_get (j := 0) rfl) i184_64 rfl rfl rfl (Nat.le_of_ble_eq_true rfl) t15 ?_
  refine gm_ev.istore_n (ls' := [some (.ref B), some (.int p0), some (.int r11), some (.int r14), none, none]) i184_67 (Nat.le_of_ble_eq_true rfl) rfl ?_
  refine gm_ev.aload_n i184_68 rfl ?_
  refine gm_ev.getfield (v := .ref (B + 29)) i184_69 rfl (bM_fld (j := 0) (fs := mF B s16) rfl rfl) ?_
  refine gm_ev.iload_n i184_72 rfl ?_
  refine gm_ev.iload_n i184_73 rfl ?_
  refine gm_ev.iastore (M' := (bM B (mH B (mA s16 49 (upd (s16.2.1 49) k17 r11))) G)) i184_74 (bM_asti (j := 29) (n := 60) (f := s16.2.1 49) rfl ek17 lk17 (by decide) hN rfl) ?_
  refine gm_ev.iload_n i184_75 rfl ?_
  refine gm_ev.if_lt_f i184_76 c18 ?_
  refine gm_ev.iload_n i184_79 rfl ?_
  refine gm_ev.if_ge_f i184_80 c19 ?_
  refine gm_ev.iconst (v := 4) i184_83 (by decide) ?_
  refine gm_ev.goto (tgt := 100) i184_84 (by decide) ?_
  exact gm_ev.iret i184_100 rfl
theorem r_looksAt_0_f {N0 : Nat} {K : Nat → Nat} {d B : Nat} {s : mS} {G : gm_H} {sz sl : Nat} {p0 : Int32} {k1 : Nat} {k2 : Nat} {k3 : Nat} {k4 : Nat} {s6 : mS} (hN : N0 ≤ B) (ek1 : p0 = nI k1) (lk1 : k1 < 61) (ek2 : (p0 + (1 : Int32)) = nI k2) (lk2 : k2 < 61) (ek3 : p0 = nI k3) (lk3 : k3 < 60) (ek4 : p0 = nI k4) (lk4 : k4 < 60) (t5 : gm_to N0 K ra_nm (ra_mt K) d 160 [.ref B, .ref (B + 24), .int ((24 : Int32) * p0), .int (s.2.1 45 k4)] (bM B (mH B (mA (mA s 46 (upd (s.2.1 46) k2 (s.2.1 46 k1))) 48 (upd (s.2.1 48) k3 (0 : Int32)))) G) sz (.returned none, bM B (mH B s6) G, sz, 0)) (c7 : ¬ (s6.1 23) = 0) : gm_ev N0 K ra_nm (ra_mt K) d (some .int) (gm_I cX12_looksAt) (gm_lkf (lkX12 false K)) 0 [some (.ref B), some (.int p0), none, none, none, none] [] (bM B (mH B s) G) sz sl (.returned (some (.int (7 : Int32))), (bM B (mH B s6) G), sz, sl) := by
  refine gm_ev.aload_n i184_0 rfl ?_
  refine gm_ev.getfield (v := .ref (B + 26)) i184_1 rfl (bM_fld (j := 0) (fs := mF B s) rfl rfl) ?_
  refine gm_ev.iload_n i184_4 rfl ?_
  refine gm_ev.iconst (v := 1) i184_5 (by decide) ?_
  refine gm_ev.iadd i184_6 ?_
  refine gm_ev.aload_n i184_7 rfl ?_
  refine gm_ev.getfield (v := .ref (B + 26)) i184_8 rfl (bM_fld (j := 0) (fs := mF B s) rfl rfl) ?_
  refine gm_ev.iload_n i184_11 rfl ?_
  refine gm_ev.iaload i184_12 (bM_ai (j := 26) (n := 61) (f := s.2.1 46) rfl ek1 lk1 (by decide)) ?_
  refine gm_ev.iastore (M' := (bM B (mH B (mA s 46 (upd (s.2.1 46) k2 (s.2.1 46 k1)))) G)) i184_13 (bM_asti (j := 26) (n := 61) (f := s.2.1 46) rfl ek2 lk2 (by decide) hN rfl) ?_
  refine gm_ev.aload_n i184_14 rfl ?_
  refine gm_ev.getfield (v := .ref (B + 28)) i184_15 rfl (bM_fld (j := 0) (fs := mF B (mA s 46 (upd (s.2.1 46) k2 (s.2.1 46 k1)))) rfl rfl) ?_
  refine gm_ev.iload_n i184_18 rfl ?_
  refine gm_ev.iconst (v := 0) i184_19 (by decide) ?_
  refine gm_ev.iastore (M' := (bM B (mH B (mA (mA s 46 (upd (s.2.1 46) k2 (s.2.1 46 k1))) 48 (upd (s.2.1 48) k3 (0 : Int32)))) G)) i184_20 (bM_asti (j := 28) (n := 60) (f := s.2.1 48) rfl ek3 lk3 (by decide) hN rfl) ?_
  refine gm_ev.aload_n i184_21 rfl ?_
  refine gm_ev.aload_n i184_22 rfl ?_
  refine gm_ev.getfield (v := .ref (B + 24)) i184_23 rfl (bM_fld (j := 0) (fs := mF B (mA (mA s 46 (upd (s.2.1 46) k2 (s.2.1 46 k1))) 48 (upd (s.2.1 48) k3 (0 : Int32)))) rfl rfl) ?_
  refine gm_ev.bipush (v := 24) i184_26 (by decide) ?_
  refine gm_ev.iload_n i184_28 rfl ?_
  refine gm_ev.imul i184_29 ?_
  refine gm_ev.aload_n i184_30 rfl ?_
  refine gm_ev.getfield (v := .ref (B + 25)) i184_31 rfl (bM_fld (j := 0) (fs := mF B (mA (mA s 46 (upd (s.2.1 46) k2 (s.2.1 46 k1))) 48 (upd (s.2.1 48) k3 (0 : Int32)))) rfl rfl) ?_
  refine gm_ev.iload_n i184_34 rfl ?_
  refine gm_ev.iaload i184_35 (bM_ai (j := 25) (n := 60) (f := s.2.1 45) rfl ek4 lk4 (by decide)) ?_
  refine gm_ev.callV gm_mono_run (av := [.ref (B + 24), .int ((24 : Int32) * p0), .int (s.2.1 45 k4)]) (r := []) (ci := 11) (fs := mF B (mA (mA s 46 (upd (s.2.1 46) k2 (s.2.1 46 k1))) 48 (upd (s.2.1 48) k3 (0 : Int32)))) (bM_get (j := 0) rfl) i184_36 rfl rfl rfl (Nat.le_of_ble_eq_true rfl) t5 ?_
  refine gm_ev.aload_n i184_39 rfl ?_
  refine gm_ev.getfield (v := .int (s6.1 23)) i184_40 rfl (bM_fld (j := 0) (fs := mF B s6) rfl rfl) ?_
  refine gm_ev.if_eq_f i184_43 c7 ?_
  refine gm_ev.bipush (v := 7) i184_46 (by decide) ?_
  exact gm_ev.iret i184_48 rfl
theorem r_looksAt_113_t_at149 {N0 : Nat} {K : Nat → Nat} {d B : Nat} {s : mS} {G : gm_H} {sz sl : Nat} {R : gm_R} {x1 : Int32} {x2 : Int32} {x3 : Int32} {s3 : mS} (hN : N0 ≤ B) (c1 : x2 ≤ x3) (t2 : gm_to N0 K ra_nm (ra_mt K) d 171 [.ref B, .int (1 : Int32)] (bM B (mH B s) G) sz (.returned none, bM B (mH B s3) G, sz, 0)) (k : gm_ev N0 K ra_nm (ra_mt K) d (some .int) (gm_I cX12_looksAt) (gm_lkf (lkX12 false K)) 149 [some (.ref B), some (.int x1), some (.int x2), some (.int (s3.1 38)), some (.int (0 : Int32)), none] [] (bM B (mH B s3) G) sz sl R) : gm_ev N0 K ra_nm (ra_mt K) d (some .int) (gm_I cX12_looksAt) (gm_lkf (lkX12 false K)) 113 [some (.ref B), some (.int x1), some (.int x2), some (.int x3), none, none] [] (bM B (mH B s) G) sz sl R := by
  refine gm_ev.iload_n i184_113 rfl ?_
  refine gm_ev.iload_n i184_114 rfl ?_
  refine gm_ev.icmp_ge_t (tgt := 136) i184_115 (by decide) c1 ?_
  refine gm_ev.aload_n i184_136 rfl ?_
  refine gm_ev.iconst (v := 1) i184_137 (by decide) ?_
  refine gm_ev.callV gm_mono_run (av := [.int (1 : Int32)]) (r := []) (ci := 11) (fs := mF B s) (bM_get (j := 0) rfl) i184_138 rfl rfl rfl (Nat.le_of_ble_eq_true rfl) t2 ?_
  refine gm_ev.aload_n i184_141 rfl ?_
  refine gm_ev.getfield (v := .int (s3.1 38)) i184_142 rfl (bM_fld (j := 0) (fs := mF B s3) rfl rfl) ?_
  refine gm_ev.istore_n (ls' := [some (.ref B), some (.int x1), some (.int x2), some (.int (s3.1 38)), none, none]) i184_145 (Nat.le_of_ble_eq_true rfl) rfl ?_
  refine gm_ev.iconst (v := 0) i184_146 (by decide) ?_
  refine gm_ev.istore (ls' := [some (.ref B), some (.int x1), some (.int x2), some (.int (s3.1 38)), some (.int (0 : Int32)), none]) i184_147 (Nat.le_of_ble_eq_true rfl) rfl ?_
  exact k
theorem r_looksAt_113_f_at113 {N0 : Nat} {K : Nat → Nat} {d B : Nat} {s : mS} {G : gm_H} {sz sl : Nat} {R : gm_R} {x1 : Int32} {x2 : Int32} {x3 : Int32} {k2 : Nat} {k3 : Nat} (hN : N0 ≤ B) (c1 : ¬ x2 ≤ x3) (ek2 : x3 = nI k2) (lk2 : k2 < 201) (ek3 : x3 = nI k3) (lk3 : k3 < 201) (k : gm_ev N0 K ra_nm (ra_mt K) d (some .int) (gm_I cX12_looksAt) (gm_lkf (lkX12 false K)) 113 [some (.ref B), some (.int x1), some (.int x2), some (.int (x3 + (1 : Int32))), none, none] [] (bM B (mH B (mL s 39 (vp_updL (s.2.2 39) k3 (s.2.2 37 k2)))) G) sz sl R) : gm_ev N0 K ra_nm (ra_mt K) d (some .int) (gm_I cX12_looksAt) (gm_lkf (lkX12 false K)) 113 [some (.ref B), some (.int x1), some (.int x2), some (.int x3), none, none] [] (bM B (mH B s) G) sz sl R := by
  refine gm_ev.iload_n i184_113 rfl ?_
  refine gm_ev.iload_n i184_114 rfl ?_
  refine gm_ev.icmp_ge_f i184_115 c1 ?_
  refine gm_ev.aload_n i184_118 rfl ?_
  refine gm_ev.getfield (v := .ref (B + 22)) i184_119 rfl (bM_fld (j := 0) (fs := mF B s) rfl rfl) ?_
  refine gm_ev.iload_n i184_122 rfl ?_
  refine gm_ev.aload_n i184_123 rfl ?_
  refine gm_ev.getfield (v := .ref (B + 21)) i184_124 rfl (bM_fld (j := 0) (fs := mF B s) rfl rfl) ?_
  refine gm_ev.iload_n i184_127 rfl ?_
  refine gm_ev.laload i184_128 (bM_al (j := 21) (n := 201) (fl := s.2.2 37) rfl ek2 lk2 (by decide)) ?_
  refine gm_ev.lastore (M' := (bM B (mH B (mL s 39 (vp_updL (s.2.2 39) k3 (s.2.2 37 k2)))) G)) i184_129 (bM_astl (j := 22) (n := 201) (fl := s.2.2 39) rfl ek3 lk3 (by decide) hN rfl) ?_
  refine gm_ev.iinc (v := x3 + (1 : Int32)) (ls' := [some (.ref B), some (.int x1), some (.int x2), some (.int (x3 + (1 : Int32))), none, none]) i184_130 rfl (by rfl) rfl ?_
  refine gm_ev.goto (tgt := 113) i184_133 (by decide) ?_
  exact k
theorem r_looksAt_149_tt {N0 : Nat} {K : Nat → Nat} {d B : Nat} {s : mS} {G : gm_H} {sz sl : Nat} {x1 : Int32} {x2 : Int32} {x3 : Int32} {x4 : Int32} (hN : N0 ≤ B) (c1 : x3 ≤ x4) (c2 : x2 = 0) : gm_ev N0 K ra_nm (ra_mt K) d (some .int) (gm_I cX12_looksAt) (gm_lkf (lkX12 false K)) 149 [some (.ref B), some (.int x1), some (.int x2), some (.int x3), some (.int x4), none] [] (bM B (mH B s) G) sz sl (.returned (some (.int (2 : Int32))), (bM B (mH B s) G), sz, sl) := by
  refine gm_ev.iload i184_149 rfl ?_
  refine gm_ev.iload_n i184_151 rfl ?_
  refine gm_ev.icmp_ge_t (tgt := 175) i184_152 (by decide) c1 ?_
  refine gm_ev.iload_n i184_175 rfl ?_
  refine gm_ev.if_eq_t (tgt := 183) i184_176 (by decide) c2 ?_
  refine gm_ev.iconst (v := 2) i184_183 (by decide) ?_
  exact gm_ev.iret i184_184 rfl
theorem r_looksAt_149_tftt_at207 {N0 : Nat} {K : Nat → Nat} {d B : Nat} {s : mS} {G : gm_H} {sz sl : Nat} {R : gm_R} {x1 : Int32} {x2 : Int32} {x3 : Int32} {x4 : Int32} {k5 : Nat} (hN : N0 ≤ B) (c1 : x3 ≤ x4) (c2 : ¬ x2 = 0) (c3 : ¬ x3 = 0) (c4 : x2 ≤ (1 : Int32)) (ek5 : x1 = nI k5) (lk5 : k5 < 60) (k : gm_ev N0 K ra_nm (ra_mt K) d (some .int) (gm_I cX12_looksAt) (gm_lkf (lkX12 false K)) 207 [some (.ref B), some (.int x1), some (.int x2), some (.int x3), some (.int (0 : Int32)), none] [] (bM B (mH B (mA s 48 (upd (s.2.1 48) k5 x3))) G) sz sl R) : gm_ev N0 K ra_nm (ra_mt K) d (some .int) (gm_I cX12_looksAt) (gm_lkf (lkX12 false K)) 149 [some (.ref B), some (.int x1), some (.int x2), some (.int x3), some (.int x4), none] [] (bM B (mH B s) G) sz sl R := by
  refine gm_ev.iload i184_149 rfl ?_
  refine gm_ev.iload_n i184_151 rfl ?_
  refine gm_ev.icmp_ge_t (tgt := 175) i184_152 (by decide) c1 ?_
  refine gm_ev.iload_n i184_175 rfl ?_
  refine gm_ev.if_eq_f i184_176 c2 ?_
  refine gm_ev.iload_n i184_179 rfl ?_
  refine gm_ev.if_ne_t (tgt := 185) i184_180 (by decide) c3 ?_
  refine gm_ev.iload_n i184_185 rfl ?_
  refine gm_ev.iconst (v := 1) i184_186 (by decide) ?_
  refine gm_ev.icmp_le_t (tgt := 197) i184_187 (by decide) c4 ?_
  refine gm_ev.aload_n i184_197 rfl ?_
  refine gm_ev.getfield (v := .ref (B + 28)) i184_198 rfl (bM_fld (j := 0) (fs := mF B s) rfl rfl) ?_
  refine gm_ev.iload_n i184_201 rfl ?_
  refine gm_ev.iload_n i184_202 rfl ?_
  refine gm_ev.iastore (M' := (bM B (mH B (mA s 48 (upd (s.2.1 48) k5 x3))) G)) i184_203 (bM_asti (j := 28) (n := 60) (f := s.2.1 48) rfl ek5 lk5 (by decide) hN rfl) ?_
  refine gm_ev.iconst (v := 0) i184_204 (by decide) ?_
  refine gm_ev.istore (ls' := [some (.ref B), some (.int x1), some (.int x2), some (.int x3), some (.int (0 : Int32)), none]) i184_205 (Nat.le_of_ble_eq_true rfl) rfl ?_
  exact k
theorem r_looksAt_149_tftft_at207 {N0 : Nat} {K : Nat → Nat} {d B : Nat} {s : mS} {G : gm_H} {sz sl : Nat} {R : gm_R} {x1 : Int32} {x2 : Int32} {x3 : Int32} {x4 : Int32} {k6 : Nat} (hN : N0 ≤ B) (c1 : x3 ≤ x4) (c2 : ¬ x2 = 0) (c3 : ¬ x3 = 0) (c4 : ¬ x2 ≤ (1 : Int32)) (c5 : x3 ≤ (1 : Int32)) (ek6 : x1 = nI k6) (lk6 : k6 < 60) (k : gm_ev N0 K ra_nm (ra_mt K) d (some .int) (gm_I cX12_looksAt) (gm_lkf (lkX12 false K)) 207 [some (.ref B), some (.int x1), some (.int x2), some (.int x3), some (.int (0 : Int32)), none] [] (bM B (mH B (mA s 48 (upd (s.2.1 48) k6 x3))) G) sz sl R) : gm_ev N0 K ra_nm (ra_mt K) d (some .int) (gm_I cX12_looksAt) (gm_lkf (lkX12 false K)) 149 [some (.ref B), some (.int x1), some (.int x2), some (.int x3), some (.int x4), none] [] (bM B (mH B s) G) sz sl R := by
  refine gm_ev.iload i184_149 rfl ?_
  refine gm_ev.iload_n i184_151 rfl ?_
  refine gm_ev.icmp_ge_t (tgt := 175) i184_152 (by decide) c1 ?_
  refine gm_ev.iload_n i184_175 rfl ?_
  refine gm_ev.if_eq_f i184_176 c2 ?_
  refine gm_ev.iload_n i184_179 rfl ?_
  refine gm_ev.if_ne_t (tgt := 185) i184_180 (by decide) c3 ?_
  refine gm_ev.iload_n i184_185 rfl ?_
  refine gm_ev.iconst (v := 1) i184_186 (by decide) ?_
  refine gm_ev.icmp_le_f i184_187 c4 ?_
  refine gm_ev.iload_n i184_190 rfl ?_
  refine gm_ev.iconst (v := 1) i184_191 (by decide) ?_
  refine gm_ev.icmp_le_t (tgt := 197) i184_192 (by decide) c5 ?_
  refine gm_ev.aload_n i184_197 rfl ?_
  refine gm_ev.getfield (v := .ref (B + 28)) i184_198 rfl (bM_fld (j := 0) (fs := mF B s) rfl rfl) ?_
  refine gm_ev.iload_n i184_201 rfl ?_
  refine gm_ev.iload_n i184_202 rfl ?_
  refine gm_ev.iastore (M' := (bM B (mH B (mA s 48 (upd (s.2.1 48) k6 x3))) G)) i184_203 (bM_asti (j := 28) (n := 60) (f := s.2.1 48) rfl ek6 lk6 (by decide) hN rfl) ?_
  refine gm_ev.iconst (v := 0) i184_204 (by decide) ?_
  refine gm_ev.istore (ls' := [some (.ref B), some (.int x1), some (.int x2), some (.int x3), some (.int (0 : Int32)), none]) i184_205 (Nat.le_of_ble_eq_true rfl) rfl ?_
  exact k
theorem r_looksAt_149_tftff {N0 : Nat} {K : Nat → Nat} {d B : Nat} {s : mS} {G : gm_H} {sz sl : Nat} {x1 : Int32} {x2 : Int32} {x3 : Int32} {x4 : Int32} (hN : N0 ≤ B) (c1 : x3 ≤ x4) (c2 : ¬ x2 = 0) (c3 : ¬ x3 = 0) (c4 : ¬ x2 ≤ (1 : Int32)) (c5 : ¬ x3 ≤ (1 : Int32)) : gm_ev N0 K ra_nm (ra_mt K) d (some .int) (gm_I cX12_looksAt) (gm_lkf (lkX12 false K)) 149 [some (.ref B), some (.int x1), some (.int x2), some (.int x3), some (.int x4), none] [] (bM B (mH B s) G) sz sl (.returned (some (.int (3 : Int32))), (bM B (mH B s) G), sz, sl) := by
  refine gm_ev.iload i184_149 rfl ?_
  refine gm_ev.iload_n i184_151 rfl ?_
  refine gm_ev.icmp_ge_t (tgt := 175) i184_152 (by decide) c1 ?_
  refine gm_ev.iload_n i184_175 rfl ?_
  refine gm_ev.if_eq_f i184_176 c2 ?_
  refine gm_ev.iload_n i184_179 rfl ?_
  refine gm_ev.if_ne_t (tgt := 185) i184_180 (by decide) c3 ?_
  refine gm_ev.iload_n i184_185 rfl ?_
  refine gm_ev.iconst (v := 1) i184_186 (by decide) ?_
  refine gm_ev.icmp_le_f i184_187 c4 ?_
  refine gm_ev.iload_n i184_190 rfl ?_
  refine gm_ev.iconst (v := 1) i184_191 (by decide) ?_
  refine gm_ev.icmp_le_f i184_192 c5 ?_
  refine gm_ev.iconst (v := 3) i184_195 (by decide) ?_
  exact gm_ev.iret i184_196 rfl
theorem r_looksAt_149_tff {N0 : Nat} {K : Nat → Nat} {d B : Nat} {s : mS} {G : gm_H} {sz sl : Nat} {x1 : Int32} {x2 : Int32} {x3 : Int32} {x4 : Int32} (hN : N0 ≤ B) (c1 : x3 ≤ x4) (c2 : ¬ x2 = 0) (c3 : x3 = 0) : gm_ev N0 K ra_nm (ra_mt K) d (some .int) (gm_I cX12_looksAt) (gm_lkf (lkX12 false K)) 149 [some (.ref B), some (.int x1), some (.int x2), some (.int x3), some (.int x4), none] [] (bM B (mH B s) G) sz sl (.returned (some (.int (2 : Int32))), (bM B (mH B s) G), sz, sl) := by
  refine gm_ev.iload i184_149 rfl ?_
  refine gm_ev.iload_n i184_151 rfl ?_
  refine gm_ev.icmp_ge_t (tgt := 175) i184_152 (by decide) c1 ?_
  refine gm_ev.iload_n i184_175 rfl ?_
  refine gm_ev.if_eq_f i184_176 c2 ?_
  refine gm_ev.iload_n i184_179 rfl ?_
  refine gm_ev.if_ne_f i184_180 c3 ?_
  refine gm_ev.iconst (v := 2) i184_183 (by decide) ?_
  exact gm_ev.iret i184_184 rfl
theorem r_looksAt_149_f_at149 {N0 : Nat} {K : Nat → Nat} {d B : Nat} {s : mS} {G : gm_H} {sz sl : Nat} {R : gm_R} {x1 : Int32} {x2 : Int32} {x3 : Int32} {x4 : Int32} {k2 : Nat} {k3 : Nat} (hN : N0 ≤ B) (c1 : ¬ x3 ≤ x4) (ek2 : x4 = nI k2) (lk2 : k2 < 201) (ek3 : x4 = nI k3) (lk3 : k3 < 201) (k : gm_ev N0 K ra_nm (ra_mt K) d (some .int) (gm_I cX12_looksAt) (gm_lkf (lkX12 false K)) 149 [some (.ref B), some (.int x1), some (.int x2), some (.int x3), some (.int (x4 + (1 : Int32))), none] [] (bM B (mH B (mL s 40 (vp_updL (s.2.2 40) k3 (s.2.2 37 k2)))) G) sz sl R) : gm_ev N0 K ra_nm (ra_mt K) d (some .int) (gm_I cX12_looksAt) (gm_lkf (lkX12 false K)) 149 [some (.ref B), some (.int x1), some (.int x2), some (.int x3), some (.int x4), none] [] (bM B (mH B s) G) sz sl R := by
  refine gm_ev.iload i184_149 rfl ?_
  refine gm_ev.iload_n i184_151 rfl ?_
  refine gm_ev.icmp_ge_f i184_152 c1 ?_
  refine gm_ev.aload_n i184_155 rfl ?_
  refine gm_ev.getfield (v := .ref (B + 23)) i184_156 rfl (bM_fld (j := 0) (fs := mF B s) rfl rfl) ?_
  refine gm_ev.iload i184_159 rfl ?_
  refine gm_ev.aload_n i184_161 rfl ?_
  refine gm_ev.getfield (v := .ref (B + 21)) i184_162 rfl (bM_fld (j := 0) (fs := mF B s) rfl rfl) ?_
  refine gm_ev.iload i184_165 rfl ?_
  refine gm_ev.laload i184_167 (bM_al (j := 21) (n := 201) (fl := s.2.2 37) rfl ek2 lk2 (by decide)) ?_
  refine gm_ev.lastore (M' := (bM B (mH B (mL s 40 (vp_updL (s.2.2 40) k3 (s.2.2 37 k2)))) G)) i184_168 (bM_astl (j := 23) (n := 201) (fl := s.2.2 40) rfl ek3 lk3 (by decide) hN rfl) ?_
  refine gm_ev.iinc (v := x4 + (1 : Int32)) (ls' := [some (.ref B), some (.int x1), some (.int x2), some (.int x3), some (.int (x4 + (1 : Int32))), none]) i184_169 rfl (by rfl) rfl ?_
  refine gm_ev.goto (tgt := 149) i184_172 (by decide) ?_
  exact k
theorem r_looksAt_207_t {N0 : Nat} {K : Nat → Nat} {d B : Nat} {s : mS} {G : gm_H} {sz sl : Nat} {x1 : Int32} {x2 : Int32} {x3 : Int32} {x4 : Int32} (hN : N0 ≤ B) (c1 : (x2 * x3) ≤ x4) : gm_ev N0 K ra_nm (ra_mt K) d (some .int) (gm_I cX12_looksAt) (gm_lkf (lkX12 false K)) 207 [some (.ref B), some (.int x1), some (.int x2), some (.int x3), some (.int x4), none] [] (bM B (mH B s) G) sz sl (.returned (some (.int (0 : Int32))), (bM B (mH B s) G), sz, sl) := by
  refine gm_ev.iload i184_207 rfl ?_
  refine gm_ev.iload_n i184_209 rfl ?_
  refine gm_ev.iload_n i184_210 rfl ?_
  refine gm_ev.imul i184_211 ?_
  refine gm_ev.icmp_ge_t (tgt := 344) i184_212 (by decide) c1 ?_
  refine gm_ev.iconst (v := 0) i184_344 (by decide) ?_
  exact gm_ev.iret i184_345 rfl
theorem r_looksAt_207_fttt_at207 {N0 : Nat} {K : Nat → Nat} {d B : Nat} {s : mS} {G : gm_H} {sz sl : Nat} {R : gm_R} {x1 : Int32} {x2 : Int32} {x3 : Int32} {x4 : Int32} {k2 : Nat} {k4 : Nat} {k6 : Nat} {r7 : Int32} {s9 : mS} {r11 : Int32} {k15 : Nat} {k16 : Nat} {k17 : Nat} {k18 : Nat} (hN : N0 ≤ B) (c1 : ¬ (x2 * x3) ≤ x4) (ek2 : x1 = nI k2) (lk2 : k2 < 60) (z3 : ¬ x3 = 0) (ek4 : (x4 / x3) = nI k4) (lk4 : k4 < 201) (z5 : ¬ x3 = 0) (ek6 : (x4 - x4 / x3 * x3) = nI k6) (lk6 : k6 < 201) (t8 : gm_to N0 K ra_nm (ra_mt K) d 164 [.ref B, .ref (B + 24), .int ((24 : Int32) * x1), .int (s.2.1 45 k2), .long (s.2.2 39 k4), .long (s.2.2 40 k6)] (bM B (mH B s) G) sz (.returned (some (.int r7)), bM B (mH B s9) G, sz, 0)) (c10 : ¬ r7 = 0) (t12 : gm_to N0 K ra_nm (ra_mt K) d 182 [.ref B, .ref (B + 19), .int (s9.1 34)] (bM B (mH B s9) G) sz (.returned (some (.int r11)), bM B (mH B s9) G, sz, 0)) (c13 : 0 ≤ r11) (c14 : 0 ≤ r11) (ek15 : (x1 + (1 : Int32)) = nI k15) (lk15 : k15 < 61) (ek16 : (s9.2.1 46 k15) = nI k16) (lk16 : k16 < 12500) (ek17 : (x1 + (1 : Int32)) = nI k17) (lk17 : k17 < 61) (ek18 : (x1 + (1 : Int32)) = nI k18) (lk18 : k18 < 61) (k : gm_ev N0 K ra_nm (ra_mt K) d (some .int) (gm_I cX12_looksAt) (gm_lkf (lkX12 false K)) 207 [some (.ref B), some (.int x1), some (.int x2), some (.int x3), some (.int (x4 + (1 : Int32))), none] [] (bM B (mH B (mA (mA s9 47 (upd (s9.2.1 47) k16 r11)) 46 (upd (s9.2.1 46) k18 ((s9.2.1 46 k17) + (1 : Int32))))) G) sz sl R) : gm_ev N0 K ra_nm (ra_mt K) d (some .int) (gm_I cX12_looksAt) (gm_lkf (lkX12 false K)) 207 [some (.ref B), some (.int x1), some (.int x2), some (.int x3), some (.int x4), none] [] (bM B (mH B s) G) sz sl R := by
  refine gm_ev.iload i184_207 rfl ?_
  refine gm_ev.iload_n i184_209 rfl ?_
  refine gm_ev.iload_n i184_210 rfl ?_
  refine gm_ev.imul i184_211 ?_
  refine gm_ev.icmp_ge_f i184_212 c1 ?_
  refine gm_ev.aload_n i184_215 rfl ?_
  refine gm_ev.aload_n i184_216 rfl ?_
  refine gm_ev.getfield (v := .ref (B + 24)) i184_217 rfl (bM_fld (j := 0) (fs := mF B s) rfl rfl) ?_
  refine gm_ev.bipush (v := 24) i184_220 (by decide) ?_
  refine gm_ev.iload_n i184_222 rfl ?_
  refine gm_ev.imul i184_223 ?_
  refine gm_ev.aload_n i184_224 rfl ?_
  refine gm_ev.getfield (v := .ref (B + 25)) i184_225 rfl (bM_fld (j := 0) (fs := mF B s) rfl rfl) ?_
  refine gm_ev.iload_n i184_228 rfl ?_
  refine gm_ev.iaload i184_229 (bM_ai (j := 25) (n := 60) (f := s.2.1 45) rfl ek2 lk2 (by decide)) ?_
  refine gm_ev.aload_n i184_230 rfl ?_
  refine gm_ev.getfield (v := .ref (B + 22)) i184_231 rfl (bM_fld (j := 0) (fs := mF B s) rfl rfl) ?_
  refine gm_ev.iload i184_234 rfl ?_
  refine gm_ev.iload_n i184_236 rfl ?_
  refine gm_ev.idiv i184_237 z3 ?_
  refine gm_ev.laload i184_238 (bM_al (j := 22) (n := 201) (fl := s.2.2 39) rfl ek4 lk4 (by decide)) ?_
  refine gm_ev.aload_n i184_239 rfl ?_
  refine gm_ev.getfield (v := .ref (B + 23)) i184_240 rfl (bM_fld (j := 0) (fs := mF B s) rfl rfl) ?_
  refine gm_ev.iload i184_243 rfl ?_
  refine gm_ev.iload_n i184_245 rfl ?_
  refine gm_ev.irem i184_246 z5 ?_
  refine gm_ev.laload i184_247 (bM_al (j := 23) (n := 201) (fl := s.2.2 40) rfl ek6 lk6 (by decide)) ?_
  refine gm_ev.callV gm_mono_run (av := [.ref (B + 24), .int ((24 : Int32) * x1), .int (s.2.1 45 k2), .long (s.2.2 39 k4), .long (s.2.2 40 k6)]) (r := []) (ci := 11) (fs := mF B s) (bM_get (j := 0) rfl) i184_248 rfl rfl rfl (Nat.le_of_ble_eq_true rfl) t8 ?_
  refine gm_ev.if_ne_t (tgt := 257) i184_251 (by decide) c10 ?_
  refine gm_ev.aload_n i184_257 rfl ?_
  refine gm_ev.aload_n i184_258 rfl ?_
  refine gm_ev.getfield (v := .ref (B + 19)) i184_259 rfl (bM_fld (j := 0) (fs := mF B s9) rfl rfl) ?_
  refine gm_ev.aload_n i184_262 rfl ?_
  refine gm_ev.getfield (v := .int (s9.1 34)) i184_263 rfl (bM_fld (j := 0) (fs := mF B s9) rfl rfl) ?_
  refine gm_ev.callV gm_mono_run (av := [.ref (B + 19), .int (s9.1 34)]) (r := []) (ci := 11) (fs := mF B s9) (bM_get (j := 0) rfl) i184_266 rfl rfl rfl (Nat.le_of_ble_eq_true rfl) t12 ?_
  refine gm_ev.istore (ls' := [some (.ref B), some (.int x1), some (.int x2), some (.int x3), some (.int x4), some (.int r11)]) i184_269 (Nat.le_of_ble_eq_true rfl) rfl ?_
  refine gm_ev.iload i184_271 rfl ?_
  refine gm_ev.if_ge_t (tgt := 288) i184_273 (by decide) c13 ?_
  refine gm_ev.iload i184_288 rfl ?_
  refine gm_ev.if_ge_t (tgt := 311) i184_290 (by decide) c14 ?_
  refine gm_ev.aload_n i184_311 rfl ?_
  refine gm_ev.getfield (v := .ref (B + 27)) i184_312 rfl (bM_fld (j := 0) (fs := mF B s9) rfl rfl) ?_
  refine gm_ev.aload_n i184_315 rfl ?_
  refine gm_ev.getfield (v := .ref (B + 26)) i184_316 rfl (bM_fld (j := 0) (fs := mF B s9) rfl rfl) ?_
  refine gm_ev.iload_n i184_319 rfl ?_
  refine gm_ev.iconst (v := 1) i184_320 (by decide) ?_
  refine gm_ev.iadd i184_321 ?_
  refine gm_ev.iaload i184_322 (bM_ai (j := 26) (n := 61) (f := s9.2.1 46) rfl ek15 lk15 (by decide)) ?_
  refine gm_ev.iload i184_323 rfl ?_
  refine gm_ev.iastore (M' := (bM B (mH B (mA s9 47 (upd (s9.2.1 47) k16 r11))) G)) i184_325 (bM_asti (j := 27) (n := 12500) (f := s9.2.1 47) rfl ek16 lk16 (by decide) hN rfl) ?_
  refine gm_ev.aload_n i184_326 rfl ?_
  refine gm_ev.getfield (v := .ref (B + 26)) i184_327 rfl (bM_fld (j := 0) (fs := mF B (mA s9 47 (upd (s9.2.1 47) k16 r11))) rfl rfl) ?_
  refine gm_ev.iload_n i184_330 rfl ?_
  refine gm_ev.iconst (v := 1) i184_331 (by decide) ?_
  refine gm_ev.iadd i184_332 ?_
  refine gm_ev.dup2 i184_333 rfl rfl ?_
  refine gm_ev.iaload i184_334 (bM_ai (j := 26) (n := 61) (f := s9.2.1 46) rfl ek17 lk17 (by decide)) ?_
  refine gm_ev.iconst (v := 1) i184_335 (by decide) ?_
  refine gm_ev.iadd i184_336 ?_
  refine gm_ev.iastore (M' := (bM B (mH B (mA (mA s9 47 (upd (s9.2.1 47) k16 r11)) 46 (upd (s9.2.1 46) k18 ((s9.2.1 46 k17) + (1 : Int32))))) G)) i184_337 (bM_asti (j := 26) (n := 61) (f := s9.2.1 46) rfl ek18 lk18 (by decide) hN rfl) ?_
  refine gm_ev.iinc (v := x4 + (1 : Int32)) (ls' := [some (.ref B), some (.int x1), some (.int x2), some (.int x3), some (.int (x4 + (1 : Int32))), some (.int r11)]) i184_338 rfl (by rfl) rfl ?_
  refine gm_ev.goto (tgt := 207) i184_341 (by decide) ?_
  refine gm_ev.le (a := [some (.ref B), some (.int x1), some (.int x2), some (.int x3), some (.int (x4 + (1 : Int32))), none]) (gm_leL.le (show gm_leL _ _ from ⟨rfl, ⟨rfl, ⟨rfl, ⟨rfl, ⟨rfl, trivial⟩⟩⟩⟩⟩)) ?_
  exact k
theorem r_looksAt_207_fttf_at207 {N0 : Nat} {K : Nat → Nat} {d B : Nat} {s : mS} {G : gm_H} {sz sl : Nat} {R : gm_R} {x1 : Int32} {x2 : Int32} {x3 : Int32} {x4 : Int32} {k2 : Nat} {k4 : Nat} {k6 : Nat} {r7 : Int32} {s9 : mS} {r11 : Int32} {s16 : mS} {k17 : Nat} {k18 : Nat} {k19 : Nat} {k20 : Nat} (hN : N0 ≤ B) (c1 : ¬ (x2 * x3) ≤ x4) (ek2 : x1 = nI k2) (lk2 : k2 < 60) (z3 : ¬ x3 = 0) (ek4 : (x4 / x3) = nI k4) (lk4 : k4 < 201) (z5 : ¬ x3 = 0) (ek6 : (x4 - x4 / x3 * x3) = nI k6) (lk6 : k6 < 201) (t8 : gm_to N0 K ra_nm (ra_mt K) d 164 [.ref B, .ref (B + 24), .int ((24 : Int32) * x1), .int (s.2.1 45 k2), .long (s.2.2 39 k4), .long (s.2.2 40 k6)] (bM B (mH B s) G) sz (.returned (some (.int r7)), bM B (mH B s9) G, sz, 0)) (c10 : ¬ r7 = 0) (t12 : gm_to N0 K ra_nm (ra_mt K) d 182 [.ref B, .ref (B + 19), .int (s9.1 34)] (bM B (mH B s9) G) sz (.returned (some (.int r11)), bM B (mH B s9) G, sz, 0)) (c13 : 0 ≤ r11) (c14 : ¬ 0 ≤ r11) (t15 : gm_to N0 K ra_nm (ra_mt K) d 183 [.ref B, .ref (B + 19), .int (s9.1 34)] (bM B (mH B s9) G) sz (.returned none, bM B (mH B s16) G, sz, 0)) (ek17 : (x1 + (1 : Int32)) = nI k17) (lk17 : k17 < 61) (ek18 : (s16.2.1 46 k17) = nI k18) (lk18 : k18 < 12500) (ek19 : (x1 + (1 : Int32)) = nI k19) (lk19 : k19 < 61) (ek20 : (x1 + (1 : Int32)) = nI k20) (lk20 : k20 < 61) (k : gm_ev N0 K ra_nm (ra_mt K) d (some .int) (gm_I cX12_looksAt) (gm_lkf (lkX12 false K)) 207 [some (.ref B), some (.int x1), some (.int x2), some (.int x3), some (.int (x4 + (1 : Int32))), none] [] (bM B (mH B (mA (mA s16 47 (upd (s16.2.1 47) k18 (s9.1 43))) 46 (upd (s16.2.1 46) k20 ((s16.2.1 46 k19) + (1 : Int32))))) G) sz sl R) : gm_ev N0 K ra_nm (ra_mt K) d (some .int) (gm_I cX12_looksAt) (gm_lkf (lkX12 false K)) 207 [some (.ref B), some (.int x1), some (.int x2), some (.int x3), some (.int x4), none] [] (bM B (mH B s) G) sz sl R := by
  refine gm_ev.iload i184_207 rfl ?_
  refine gm_ev.iload_n i184_209 rfl ?_
  refine gm_ev.iload_n i184_210 rfl ?_
  refine gm_ev.imul i184_211 ?_
  refine gm_ev.icmp_ge_f i184_212 c1 ?_
  refine gm_ev.aload_n i184_215 rfl ?_
  refine gm_ev.aload_n i184_216 rfl ?_
  refine gm_ev.getfield (v := .ref (B + 24)) i184_217 rfl (bM_fld (j := 0) (fs := mF B s) rfl rfl) ?_
  refine gm_ev.bipush (v := 24) i184_220 (by decide) ?_
  refine gm_ev.iload_n i184_222 rfl ?_
  refine gm_ev.imul i184_223 ?_
  refine gm_ev.aload_n i184_224 rfl ?_
  refine gm_ev.getfield (v := .ref (B + 25)) i184_225 rfl (bM_fld (j := 0) (fs := mF B s) rfl rfl) ?_
  refine gm_ev.iload_n i184_228 rfl ?_
  refine gm_ev.iaload i184_229 (bM_ai (j := 25) (n := 60) (f := s.2.1 45) rfl ek2 lk2 (by decide)) ?_
  refine gm_ev.aload_n i184_230 rfl ?_
  refine gm_ev.getfield (v := .ref (B + 22)) i184_231 rfl (bM_fld (j := 0) (fs := mF B s) rfl rfl) ?_
  refine gm_ev.iload i184_234 rfl ?_
  refine gm_ev.iload_n i184_236 rfl ?_
  refine gm_ev.idiv i184_237 z3 ?_
  refine gm_ev.laload i184_238 (bM_al (j := 22) (n := 201) (fl := s.2.2 39) rfl ek4 lk4 (by decide)) ?_
  refine gm_ev.aload_n i184_239 rfl ?_
  refine gm_ev.getfield (v := .ref (B + 23)) i184_240 rfl (bM_fld (j := 0) (fs := mF B s) rfl rfl) ?_
  refine gm_ev.iload i184_243 rfl ?_
  refine gm_ev.iload_n i184_245 rfl ?_
  refine gm_ev.irem i184_246 z5 ?_
  refine gm_ev.laload i184_247 (bM_al (j := 23) (n := 201) (fl := s.2.2 40) rfl ek6 lk6 (by decide)) ?_
  refine gm_ev.callV gm_mono_run (av := [.ref (B + 24), .int ((24 : Int32) * x1), .int (s.2.1 45 k2), .long (s.2.2 39 k4), .long (s.2.2 40 k6)]) (r := []) (ci := 11) (fs := mF B s) (bM_get (j := 0) rfl) i184_248 rfl rfl rfl (Nat.le_of_ble_eq_true rfl) t8 ?_
  refine gm_ev.if_ne_t (tgt := 257) i184_251 (by decide) c10 ?_
  refine gm_ev.aload_n i184_257 rfl ?_
  refine gm_ev.aload_n i184_258 rfl ?_
  refine gm_ev.getfield (v := .ref (B + 19)) i184_259 rfl (bM_fld (j := 0) (fs := mF B s9) rfl rfl) ?_
  refine gm_ev.aload_n i184_262 rfl ?_
  refine gm_ev.getfield (v := .int (s9.1 34)) i184_263 rfl (bM_fld (j := 0) (fs := mF B s9) rfl rfl) ?_
  refine gm_ev.callV gm_mono_run (av := [.ref (B + 19), .int (s9.1 34)]) (r := []) (ci := 11) (fs := mF B s9) (bM_get (j := 0) rfl) i184_266 rfl rfl rfl (Nat.le_of_ble_eq_true rfl) t12 ?_
  refine gm_ev.istore (ls' := [some (.ref B), some (.int x1), some (.int x2), some (.int x3), some (.int x4), some (.int r11)]) i184_269 (Nat.le_of_ble_eq_true rfl) rfl ?_
  refine gm_ev.iload i184_271 rfl ?_
  refine gm_ev.if_ge_t (tgt := 288) i184_273 (by decide) c13 ?_
  refine gm_ev.iload i184_288 rfl ?_
  refine gm_ev.if_ge_f i184_290 c14 ?_
  refine gm_ev.aload_n i184_293 rfl ?_
  refine gm_ev.getfield (v := .int (s9.1 43)) i184_294 rfl (bM_fld (j := 0) (fs := mF B s9) rfl rfl) ?_
  refine gm_ev.istore (ls' := [some (.ref B), some (.int x1), some (.int x2), some (.int x3), some (.int x4), some (.int (s9.1 43))]) i184_297 (Nat.le_of_ble_eq_true rfl) rfl ?_
  refine gm_ev.aload_n i184_299 rfl ?_
  refine gm_ev.aload_n i184_300 rfl ?_
  refine gm_ev.getfield (v := .ref (B + 19)) i184_301 rfl (bM_fld (j := 0) (fs := mF B s9) rfl rfl) ?_
  refine gm_ev.aload_n i184_304 rfl ?_
  refine gm_ev.getfield (v := .int (s9.1 34)) i184_305 rfl (bM_fld (j := 0) (fs := mF B s9) rfl rfl) ?_
  refine gm_ev.callV gm_mono_run (av := [.ref (B + 19), .int (s9.1 34)]) (r := []) (ci := 11) (fs := mF B s9) (bM_get (j := 0) rfl) i184_308 rfl rfl rfl (Nat.le_of_ble_eq_true rfl) t15 ?_
  refine gm_ev.aload_n i184_311 rfl ?_
  refine gm_ev.getfield (v := .ref (B + 27)) i184_312 rfl (bM_fld (j := 0) (fs := mF B s16) rfl rfl) ?_
  refine gm_ev.aload_n i184_315 rfl ?_
  refine gm_ev.getfield (v := .ref (B + 26)) i184_316 rfl (bM_fld (j := 0) (fs := mF B s16) rfl rfl) ?_
  refine gm_ev.iload_n i184_319 rfl ?_
  refine gm_ev.iconst (v := 1) i184_320 (by decide) ?_
  refine gm_ev.iadd i184_321 ?_
  refine gm_ev.iaload i184_322 (bM_ai (j := 26) (n := 61) (f := s16.2.1 46) rfl ek17 lk17 (by decide)) ?_
  refine gm_ev.iload i184_323 rfl ?_
  refine gm_ev.iastore (M' := (bM B (mH B (mA s16 47 (upd (s16.2.1 47) k18 (s9.1 43)))) G)) i184_325 (bM_asti (j := 27) (n := 12500) (f := s16.2.1 47) rfl ek18 lk18 (by decide) hN rfl) ?_
  refine gm_ev.aload_n i184_326 rfl ?_
  refine gm_ev.getfield (v := .ref (B + 26)) i184_327 rfl (bM_fld (j := 0) (fs := mF B (mA s16 47 (upd (s16.2.1 47) k18 (s9.1 43)))) rfl rfl) ?_
  refine gm_ev.iload_n i184_330 rfl ?_
  refine gm_ev.iconst (v := 1) i184_331 (by decide) ?_
  refine gm_ev.iadd i184_332 ?_
  refine gm_ev.dup2 i184_333 rfl rfl ?_
  refine gm_ev.iaload i184_334 (bM_ai (j := 26) (n := 61) (f := s16.2.1 46) rfl ek19 lk19 (by decide)) ?_
  refine gm_ev.iconst (v := 1) i184_335 (by decide) ?_
  refine gm_ev.iadd i184_336 ?_
  refine gm_ev.iastore (M' := (bM B (mH B (mA (mA s16 47 (upd (s16.2.1 47) k18 (s9.1 43))) 46 (upd (s16.2.1 46) k20 ((s16.2.1 46 k19) + (1 : Int32))))) G)) i184_337 (bM_asti (j := 26) (n := 61) (f := s16.2.1 46) rfl ek20 lk20 (by decide) hN rfl) ?_
  refine gm_ev.iinc (v := x4 + (1 : Int32)) (ls' := [some (.ref B), some (.int x1), some (.int x2), some (.int x3), some (.int (x4 + (1 : Int32))), some (.int (s9.1 43))]) i184_338 rfl (by rfl) rfl ?_
  refine gm_ev.goto (tgt := 207) i184_341 (by decide) ?_
  refine gm_ev.le (a := [some (.ref B), some (.int x1), some (.int x2), some (.int x3), some (.int (x4 + (1 : Int32))), none]) (gm_leL.le (show gm_leL _ _ from ⟨rfl, ⟨rfl, ⟨rfl, ⟨rfl, ⟨rfl, trivial⟩⟩⟩⟩⟩)) ?_
  exact k
theorem r_looksAt_207_ftftt_at207 {N0 : Nat} {K : Nat → Nat} {d B : Nat} {s : mS} {G : gm_H} {sz sl : Nat} {R : gm_R} {x1 : Int32} {x2 : Int32} {x3 : Int32} {x4 : Int32} {k2 : Nat} {k4 : Nat} {k6 : Nat} {r7 : Int32} {s9 : mS} {r11 : Int32} {k16 : Nat} {k17 : Nat} {k18 : Nat} {k19 : Nat} (hN : N0 ≤ B) (c1 : ¬ (x2 * x3) ≤ x4) (ek2 : x1 = nI k2) (lk2 : k2 < 60) (z3 : ¬ x3 = 0) (ek4 : (x4 / x3) = nI k4) (lk4 : k4 < 201) (z5 : ¬ x3 = 0) (ek6 : (x4 - x4 / x3 * x3) = nI k6) (lk6 : k6 < 201) (t8 : gm_to N0 K ra_nm (ra_mt K) d 164 [.ref B, .ref (B + 24), .int ((24 : Int32) * x1), .int (s.2.1 45 k2), .long (s.2.2 39 k4), .long (s.2.2 40 k6)] (bM B (mH B s) G) sz (.returned (some (.int r7)), bM B (mH B s9) G, sz, 0)) (c10 : ¬ r7 = 0) (t12 : gm_to N0 K ra_nm (ra_mt K) d 182 [.ref B, .ref (B + 19), .int (s9.1 34)] (bM B (mH B s9) G) sz (.returned (some (.int r11)), bM B (mH B s9) G, sz, 0)) (c13 : ¬ 0 ≤ r11) (c14 : ¬ (s9.1 43) = (60 : Int32)) (c15 : 0 ≤ r11) (ek16 : (x1 + (1 : Int32)) = nI k16) (lk16 : k16 < 61) (ek17 : (s9.2.1 46 k16) = nI k17) (lk17 : k17 < 12500) (ek18 : (x1 + (1 : Int32)) = nI k18) (lk18 : k18 < 61) (ek19 : (x1 + (1 : Int32)) = nI k19) (lk19 : k19 < 61) (k : gm_ev N0 K ra_nm (ra_mt K) d (some .int) (gm_I cX12_looksAt) (gm_lkf (lkX12 false K)) 207 [some (.ref B), some (.int x1), some (.int x2), some (.int x3), some (.int (x4 + (1 : Int32))), none] [] (bM B (mH B (mA (mA s9 47 (upd (s9.2.1 47) k17 r11)) 46 (upd (s9.2.1 46) k19 ((s9.2.1 46 k18) + (1 : Int32))))) G) sz sl R) : gm_ev N0 K ra_nm (ra_mt K) d (some .int) (gm_I cX12_looksAt) (gm_lkf (lkX12 false K)) 207 [some (.ref B), some (.int x1), some (.int x2), some (.int x3), some (.int x4), none] [] (bM B (mH B s) G) sz sl R := by
  refine gm_ev.iload i184_207 rfl ?_
  refine gm_ev.iload_n i184_209 rfl ?_
  refine gm_ev.iload_n i184_210 rfl ?_
  refine gm_ev.imul i184_211 ?_
  refine gm_ev.icmp_ge_f i184_212 c1 ?_
  refine gm_ev.aload_n i184_215 rfl ?_
  refine gm_ev.aload_n i184_216 rfl ?_
  refine gm_ev.getfield (v := .ref (B + 24)) i184_217 rfl (bM_fld (j := 0) (fs := mF B s) rfl rfl) ?_
  refine gm_ev.bipush (v := 24) i184_220 (by decide) ?_
  refine gm_ev.iload_n i184_222 rfl ?_
  refine gm_ev.imul i184_223 ?_
  refine gm_ev.aload_n i184_224 rfl ?_
  refine gm_ev.getfield (v := .ref (B + 25)) i184_225 rfl (bM_fld (j := 0) (fs := mF B s) rfl rfl) ?_
  refine gm_ev.iload_n i184_228 rfl ?_
  refine gm_ev.iaload i184_229 (bM_ai (j := 25) (n := 60) (f := s.2.1 45) rfl ek2 lk2 (by decide)) ?_
  refine gm_ev.aload_n i184_230 rfl ?_
  refine gm_ev.getfield (v := .ref (B + 22)) i184_231 rfl (bM_fld (j := 0) (fs := mF B s) rfl rfl) ?_
  refine gm_ev.iload i184_234 rfl ?_
  refine gm_ev.iload_n i184_236 rfl ?_
  refine gm_ev.idiv i184_237 z3 ?_
  refine gm_ev.laload i184_238 (bM_al (j := 22) (n := 201) (fl := s.2.2 39) rfl ek4 lk4 (by decide)) ?_
  refine gm_ev.aload_n i184_239 rfl ?_
  refine gm_ev.getfield (v := .ref (B + 23)) i184_240 rfl (bM_fld (j := 0) (fs := mF B s) rfl rfl) ?_
  refine gm_ev.iload i184_243 rfl ?_
  refine gm_ev.iload_n i184_245 rfl ?_
  refine gm_ev.irem i184_246 z5 ?_
  refine gm_ev.laload i184_247 (bM_al (j := 23) (n := 201) (fl := s.2.2 40) rfl ek6 lk6 (by decide)) ?_
  refine gm_ev.callV gm_mono_run (av := [.ref (B + 24), .int ((24 : Int32) * x1), .int (s.2.1 45 k2), .long (s.2.2 39 k4), .long (s.2.2 40 k6)]) (r := []) (ci := 11) (fs := mF B s) (bM_get (j := 0) rfl) i184_248 rfl rfl rfl (Nat.le_of_ble_eq_true rfl) t8 ?_
  refine gm_ev.if_ne_t (tgt := 257) i184_251 (by decide) c10 ?_
  refine gm_ev.aload_n i184_257 rfl ?_
  refine gm_ev.aload_n i184_258 rfl ?_
  refine gm_ev.getfield (v := .ref (B + 19)) i184_259 rfl (bM_fld (j := 0) (fs := mF B s9) rfl rfl) ?_
  refine gm_ev.aload_n i184_262 rfl ?_
  refine gm_ev.getfield (v := .int (s9.1 34)) i184_263 rfl (bM_fld (j := 0) (fs := mF B s9) rfl rfl) ?_
  refine gm_ev.callV gm_mono_run (av := [.ref (B + 19), .int (s9.1 34)]) (r := []) (ci := 11) (fs := mF B s9) (bM_get (j := 0) rfl) i184_266 rfl rfl rfl (Nat.le_of_ble_eq_true rfl) t12 ?_
  refine gm_ev.istore (ls' := [some (.ref B), some (.int x1), some (.int x2), some (.int x3), some (.int x4), some (.int r11)]) i184_269 (Nat.le_of_ble_eq_true rfl) rfl ?_
  refine gm_ev.iload i184_271 rfl ?_
  refine gm_ev.if_ge_f i184_273 c13 ?_
  refine gm_ev.aload_n i184_276 rfl ?_
  refine gm_ev.getfield (v := .int (s9.1 43)) i184_277 rfl (bM_fld (j := 0) (fs := mF B s9) rfl rfl) ?_
  refine gm_ev.bipush (v := 60) i184_280 (by decide) ?_
  refine gm_ev.icmp_ne_t (tgt := 288) i184_282 (by decide) c14 ?_
  refine gm_ev.iload i184_288 rfl ?_
  refine gm_ev.if_ge_t (tgt := 311) i184_290 (by decide) c15 ?_
  refine gm_ev.aload_n i184_311 rfl ?_
  refine gm_ev.getfield (v := .ref (B + 27)) i184_312 rfl (bM_fld (j := 0) (fs := mF B s9) rfl rfl) ?_
  refine gm_ev.aload_n i184_315 rfl ?_
  refine gm_ev.getfield (v := .ref (B + 26)) i184_316 rfl (bM_fld (j := 0) (fs := mF B s9) rfl rfl) ?_
  refine gm_ev.iload_n i184_319 rfl ?_
  refine gm_ev.iconst (v := 1) i184_320 (by decide) ?_
  refine gm_ev.iadd i184_321 ?_
  refine gm_ev.iaload i184_322 (bM_ai (j := 26) (n := 61) (f := s9.2.1 46) rfl ek16 lk16 (by decide)) ?_
  refine gm_ev.iload i184_323 rfl ?_
  refine gm_ev.iastore (M' := (bM B (mH B (mA s9 47 (upd (s9.2.1 47) k17 r11))) G)) i184_325 (bM_asti (j := 27) (n := 12500) (f := s9.2.1 47) rfl ek17 lk17 (by decide) hN rfl) ?_
  refine gm_ev.aload_n i184_326 rfl ?_
  refine gm_ev.getfield (v := .ref (B + 26)) i184_327 rfl (bM_fld (j := 0) (fs := mF B (mA s9 47 (upd (s9.2.1 47) k17 r11))) rfl rfl) ?_
  refine gm_ev.iload_n i184_330 rfl ?_
  refine gm_ev.iconst (v := 1) i184_331 (by decide) ?_
  refine gm_ev.iadd i184_332 ?_
  refine gm_ev.dup2 i184_333 rfl rfl ?_
  refine gm_ev.iaload i184_334 (bM_ai (j := 26) (n := 61) (f := s9.2.1 46) rfl ek18 lk18 (by decide)) ?_
  refine gm_ev.iconst (v := 1) i184_335 (by decide) ?_
  refine gm_ev.iadd i184_336 ?_
  refine gm_ev.iastore (M' := (bM B (mH B (mA (mA s9 47 (upd (s9.2.1 47) k17 r11)) 46 (upd (s9.2.1 46) k19 ((s9.2.1 46 k18) + (1 : Int32))))) G)) i184_337 (bM_asti (j := 26) (n := 61) (f := s9.2.1 46) rfl ek19 lk19 (by decide) hN rfl) ?_
  refine gm_ev.iinc (v := x4 + (1 : Int32)) (ls' := [some (.ref B), some (.int x1), some (.int x2), some (.int x3), some (.int (x4 + (1 : Int32))), some (.int r11)]) i184_338 rfl (by rfl) rfl ?_
  refine gm_ev.goto (tgt := 207) i184_341 (by decide) ?_
  refine gm_ev.le (a := [some (.ref B), some (.int x1), some (.int x2), some (.int x3), some (.int (x4 + (1 : Int32))), none]) (gm_leL.le (show gm_leL _ _ from ⟨rfl, ⟨rfl, ⟨rfl, ⟨rfl, ⟨rfl, trivial⟩⟩⟩⟩⟩)) ?_
  exact k
theorem r_looksAt_207_ftftf_at207 {N0 : Nat} {K : Nat → Nat} {d B : Nat} {s : mS} {G : gm_H} {sz sl : Nat} {R : gm_R} {x1 : Int32} {x2 : Int32} {x3 : Int32} {x4 : Int32} {k2 : Nat} {k4 : Nat} {k6 : Nat} {r7 : Int32} {s9 : mS} {r11 : Int32} {s17 : mS} {k18 : Nat} {k19 : Nat} {k20 : Nat} {k21 : Nat} (hN : N0 ≤ B) (c1 : ¬ (x2 * x3) ≤ x4) (ek2 : x1 = nI k2) (lk2 : k2 < 60) (z3 : ¬ x3 = 0) (ek4 : (x4 / x3) = nI k4) (lk4 : k4 < 201) (z5 : ¬ x3 = 0) (ek6 : (x4 - x4 / x3 * x3) = nI k6) (lk6 : k6 < 201) (t8 : gm_to N0 K ra_nm (ra_mt K) d 164 [.ref B, .ref (B + 24), .int ((24 : Int32) * x1), .int (s.2.1 45 k2), .long (s.2.2 39 k4), .long (s.2.2 40 k6)] (bM B (mH B s) G) sz (.returned (some (.int r7)), bM B (mH B s9) G, sz, 0)) (c10 : ¬ r7 = 0) (t12 : gm_to N0 K ra_nm (ra_mt K) d 182 [.ref B, .ref (B + 19), .int (s9.1 34)] (bM B (mH B s9) G) sz (.returned (some (.int r11)), bM B (mH B s9) G, sz, 0)) (c13 : ¬ 0 ≤ r11) (c14 : ¬ (s9.1 43) = (60 : Int32)) (c15 : ¬ 0 ≤ r11) (t16 : gm_to N0 K ra_nm (ra_mt K) d 183 [.ref B, .ref (B + 19), .int (s9.1 34)] (bM B (mH B s9) G) sz (.returned none, bM B (mH B s17) G, sz, 0)) (ek18 : (x1 + (1 : Int32)) = nI k18) (lk18 : k18 < 61) (ek19 : (s17.2.1 46 k18) = nI k19) (lk19 : k19 < 12500) (ek20 : (x1 + (1 : Int32)) = nI k20) (lk20 : k20 < 61) (ek21 : (x1 + (1 : Int32)) = nI k21) (lk21 : k21 < 61) (k : gm_ev N0 K ra_nm (ra_mt K) d (some .int) (gm_I cX12_looksAt) (gm_lkf (lkX12 false K)) 207 [some (.ref B), some (.int x1), some (.int x2), some (.int x3), some (.int (x4 + (1 : Int32))), none] [] (bM B (mH B (mA (mA s17 47 (upd (s17.2.1 47) k19 (s9.1 43))) 46 (upd (s17.2.1 46) k21 ((s17.2.1 46 k20) + (1 : Int32))))) G) sz sl R) : gm_ev N0 K ra_nm (ra_mt K) d (some .int) (gm_I cX12_looksAt) (gm_lkf (lkX12 false K)) 207 [some (.ref B), some (.int x1), some (.int x2), some (.int x3), some (.int x4), none] [] (bM B (mH B s) G) sz sl R := by
  refine gm_ev.iload i184_207 rfl ?_
  refine gm_ev.iload_n i184_209 rfl ?_
  refine gm_ev.iload_n i184_210 rfl ?_
  refine gm_ev.imul i184_211 ?_
  refine gm_ev.icmp_ge_f i184_212 c1 ?_
  refine gm_ev.aload_n i184_215 rfl ?_
  refine gm_ev.aload_n i184_216 rfl ?_
  refine gm_ev.getfield (v := .ref (B + 24)) i184_217 rfl (bM_fld (j := 0) (fs := mF B s) rfl rfl) ?_
  refine gm_ev.bipush (v := 24) i184_220 (by decide) ?_
  refine gm_ev.iload_n i184_222 rfl ?_
  refine gm_ev.imul i184_223 ?_
  refine gm_ev.aload_n i184_224 rfl ?_
  refine gm_ev.getfield (v := .ref (B + 25)) i184_225 rfl (bM_fld (j := 0) (fs := mF B s) rfl rfl) ?_
  refine gm_ev.iload_n i184_228 rfl ?_
  refine gm_ev.iaload i184_229 (bM_ai (j := 25) (n := 60) (f := s.2.1 45) rfl ek2 lk2 (by decide)) ?_
  refine gm_ev.aload_n i184_230 rfl ?_
  refine gm_ev.getfield (v := .ref (B + 22)) i184_231 rfl (bM_fld (j := 0) (fs := mF B s) rfl rfl) ?_
  refine gm_ev.iload i184_234 rfl ?_
  refine gm_ev.iload_n i184_236 rfl ?_
  refine gm_ev.idiv i184_237 z3 ?_
  refine gm_ev.laload i184_238 (bM_al (j := 22) (n := 201) (fl := s.2.2 39) rfl ek4 lk4 (by decide)) ?_
  refine gm_ev.aload_n i184_239 rfl ?_
  refine gm_ev.getfield (v := .ref (B + 23)) i184_240 rfl (bM_fld (j := 0) (fs := mF B s) rfl rfl) ?_
  refine gm_ev.iload i184_243 rfl ?_
  refine gm_ev.iload_n i184_245 rfl ?_
  refine gm_ev.irem i184_246 z5 ?_
  refine gm_ev.laload i184_247 (bM_al (j := 23) (n := 201) (fl := s.2.2 40) rfl ek6 lk6 (by decide)) ?_
  refine gm_ev.callV gm_mono_run (av := [.ref (B + 24), .int ((24 : Int32) * x1), .int (s.2.1 45 k2), .long (s.2.2 39 k4), .long (s.2.2 40 k6)]) (r := []) (ci := 11) (fs := mF B s) (bM_get (j := 0) rfl) i184_248 rfl rfl rfl (Nat.le_of_ble_eq_true rfl) t8 ?_
  refine gm_ev.if_ne_t (tgt := 257) i184_251 (by decide) c10 ?_
  refine gm_ev.aload_n i184_257 rfl ?_
  refine gm_ev.aload_n i184_258 rfl ?_
  refine gm_ev.getfield (v := .ref (B + 19)) i184_259 rfl (bM_fld (j := 0) (fs := mF B s9) rfl rfl) ?_
  refine gm_ev.aload_n i184_262 rfl ?_
  refine gm_ev.getfield (v := .int (s9.1 34)) i184_263 rfl (bM_fld (j := 0) (fs := mF B s9) rfl rfl) ?_
  refine gm_ev.callV gm_mono_run (av := [.ref (B + 19), .int (s9.1 34)]) (r := []) (ci := 11) (fs := mF B s9) (bM_get (j := 0) rfl) i184_266 rfl rfl rfl (Nat.le_of_ble_eq_true rfl) t12 ?_
  refine gm_ev.istore (ls' := [some (.ref B), some (.int x1), some (.int x2), some (.int x3), some (.int x4), some (.int r11)]) i184_269 (Nat.le_of_ble_eq_true rfl) rfl ?_
  refine gm_ev.iload i184_271 rfl ?_
  refine gm_ev.if_ge_f i184_273 c13 ?_
  refine gm_ev.aload_n i184_276 rfl ?_
  refine gm_ev.getfield (v := .int (s9.1 43)) i184_277 rfl (bM_fld (j := 0) (fs := mF B s9) rfl rfl) ?_
  refine gm_ev.bipush (v := 60) i184_280 (by decide) ?_
  refine gm_ev.icmp_ne_t (tgt := 288) i184_282 (by decide) c14 ?_
  refine gm_ev.iload i184_288 rfl ?_
  refine gm_ev.if_ge_f i184_290 c15 ?_
  refine gm_ev.aload_n i184_293 rfl ?_
  refine gm_ev.getfield (v := .int (s9.1 43)) i184_294 rfl (bM_fld (j := 0) (fs := mF B s9) rfl rfl) ?_
  refine gm_ev.istore (ls' := [some (.ref B), some (.int x1), some (.int x2), some (.int x3), some (.int x4), some (.int (s9.1 43))]) i184_297 (Nat.le_of_ble_eq_true rfl) rfl ?_
  refine gm_ev.aload_n i184_299 rfl ?_
  refine gm_ev.aload_n i184_300 rfl ?_
  refine gm_ev.getfield (v := .ref (B + 19)) i184_301 rfl (bM_fld (j := 0) (fs := mF B s9) rfl rfl) ?_
  refine gm_ev.aload_n i184_304 rfl ?_
  refine gm_ev.getfield (v := .int (s9.1 34)) i184_305 rfl (bM_fld (j := 0) (fs := mF B s9) rfl rfl) ?_
  refine gm_ev.callV gm_mono_run (av := [.ref (B + 19), .int (s9.1 34)]) (r := []) (ci := 11) (fs := mF B s9) (bM_get (j := 0) rfl) i184_308 rfl rfl rfl (Nat.le_of_ble_eq_true rfl) t16 ?_
  refine gm_ev.aload_n i184_311 rfl ?_
  refine gm_ev.getfield (v := .ref (B + 27)) i184_312 rfl (bM_fld (j := 0) (fs := mF B s17) rfl rfl) ?_
  refine gm_ev.aload_n i184_315 rfl ?_
  refine gm_ev.getfield (v := .ref (B + 26)) i184_316 rfl (bM_fld (j := 0) (fs := mF B s17) rfl rfl) ?_
  refine gm_ev.iload_n i184_319 rfl ?_
  refine gm_ev.iconst (v := 1) i184_320 (by decide) ?_
  refine gm_ev.iadd i184_321 ?_
  refine gm_ev.iaload i184_322 (bM_ai (j := 26) (n := 61) (f := s17.2.1 46) rfl ek18 lk18 (by decide)) ?_
  refine gm_ev.iload i184_323 rfl ?_
  refine gm_ev.iastore (M' := (bM B (mH B (mA s17 47 (upd (s17.2.1 47) k19 (s9.1 43)))) G)) i184_325 (bM_asti (j := 27) (n := 12500) (f := s17.2.1 47) rfl ek19 lk19 (by decide) hN rfl) ?_
  refine gm_ev.aload_n i184_326 rfl ?_
  refine gm_ev.getfield (v := .ref (B + 26)) i184_327 rfl (bM_fld (j := 0) (fs := mF B (mA s17 47 (upd (s17.2.1 47) k19 (s9.1 43)))) rfl rfl) ?_
  refine gm_ev.iload_n i184_330 rfl ?_
  refine gm_ev.iconst (v := 1) i184_331 (by decide) ?_
  refine gm_ev.iadd i184_332 ?_
  refine gm_ev.dup2 i184_333 rfl rfl ?_
  refine gm_ev.iaload i184_334 (bM_ai (j := 26) (n := 61) (f := s17.2.1 46) rfl ek20 lk20 (by decide)) ?_
  refine gm_ev.iconst (v := 1) i184_335 (by decide) ?_
  refine gm_ev.iadd i184_336 ?_
  refine gm_ev.iastore (M' := (bM B (mH B (mA (mA s17 47 (upd (s17.2.1 47) k19 (s9.1 43))) 46 (upd (s17.2.1 46) k21 ((s17.2.1 46 k20) + (1 : Int32))))) G)) i184_337 (bM_asti (j := 26) (n := 61) (f := s17.2.1 46) rfl ek21 lk21 (by decide) hN rfl) ?_
  refine gm_ev.iinc (v := x4 + (1 : Int32)) (ls' := [some (.ref B), some (.int x1), some (.int x2), some (.int x3), some (.int (x4 + (1 : Int32))), some (.int (s9.1 43))]) i184_338 rfl (by rfl) rfl ?_
  refine gm_ev.goto (tgt := 207) i184_341 (by decide) ?_
  refine gm_ev.le (a := [some (.ref B), some (.int x1), some (.int x2), some (.int x3), some (.int (x4 + (1 : Int32))), none]) (gm_leL.le (show gm_leL _ _ from ⟨rfl, ⟨rfl, ⟨rfl, ⟨rfl, ⟨rfl, trivial⟩⟩⟩⟩⟩)) ?_
  exact k
theorem r_looksAt_207_ftff {N0 : Nat} {K : Nat → Nat} {d B : Nat} {s : mS} {G : gm_H} {sz sl : Nat} {x1 : Int32} {x2 : Int32} {x3 : Int32} {x4 : Int32} {k2 : Nat} {k4 : Nat} {k6 : Nat} {r7 : Int32} {s9 : mS} {r11 : Int32} (hN : N0 ≤ B) (c1 : ¬ (x2 * x3) ≤ x4) (ek2 : x1 = nI k2) (lk2 : k2 < 60) (z3 : ¬ x3 = 0) (ek4 : (x4 / x3) = nI k4) (lk4 : k4 < 201) (z5 : ¬ x3 = 0) (ek6 : (x4 - x4 / x3 * x3) = nI k6) (lk6 : k6 < 201) (t8 : gm_to N0 K ra_nm (ra_mt K) d 164 [.ref B, .ref (B + 24), .int ((24 : Int32) * x1), .int (s.2.1 45 k2), .long (s.2.2 39 k4), .long (s.2.2 40 k6)] (bM B (mH B s) G) sz (.returned (some (.int r7)), bM B (mH B s9) G, sz, 0)) (c10 : ¬ r7 = 0) (t12 : gm_to N0 K ra_nm (ra_mt K) d 182 [.ref B, .ref (B + 19), .int (s9.1 34)] (bM B (mH B s9) G) sz (.returned (some (.int r11)), bM B (mH B s9) G, sz, 0)) (c13 : ¬ 0 ≤ r11) (c14 : (s9.1 43) = (60 : Int32)) : gm_ev N0 K ra_nm (ra_mt K) d (some .int) (gm_I cX12_looksAt) (gm_lkf (lkX12 false K)) 207 [some (.ref B), some (.int x1), some (.int x2), some (.int x3), some (.int x4), none] [] (bM B (mH B s) G) sz sl (.returned (some (.int (7 : Int32))), (bM B (mH B s9) G), sz, sl) := by
  refine gm_ev.iload i184_207 rfl ?_
  refine gm_ev.iload_n i184_209 rfl ?_
  refine gm_ev.iload_n i184_210 rfl ?_
  refine gm_ev.imul i184_211 ?_
  refine gm_ev.icmp_ge_f i184_212 c1 ?_
  refine gm_ev.aload_n i184_215 rfl ?_
  refine gm_ev.aload_n i184_216 rfl ?_
  refine gm_ev.getfield (v := .ref (B + 24)) i184_217 rfl (bM_fld (j := 0) (fs := mF B s) rfl rfl) ?_
  refine gm_ev.bipush (v := 24) i184_220 (by decide) ?_
  refine gm_ev.iload_n i184_222 rfl ?_
  refine gm_ev.imul i184_223 ?_
  refine gm_ev.aload_n i184_224 rfl ?_
  refine gm_ev.getfield (v := .ref (B + 25)) i184_225 rfl (bM_fld (j := 0) (fs := mF B s) rfl rfl) ?_
  refine gm_ev.iload_n i184_228 rfl ?_
  refine gm_ev.iaload i184_229 (bM_ai (j := 25) (n := 60) (f := s.2.1 45) rfl ek2 lk2 (by decide)) ?_
  refine gm_ev.aload_n i184_230 rfl ?_
  refine gm_ev.getfield (v := .ref (B + 22)) i184_231 rfl (bM_fld (j := 0) (fs := mF B s) rfl rfl) ?_
  refine gm_ev.iload i184_234 rfl ?_
  refine gm_ev.iload_n i184_236 rfl ?_
  refine gm_ev.idiv i184_237 z3 ?_
  refine gm_ev.laload i184_238 (bM_al (j := 22) (n := 201) (fl := s.2.2 39) rfl ek4 lk4 (by decide)) ?_
  refine gm_ev.aload_n i184_239 rfl ?_
  refine gm_ev.getfield (v := .ref (B + 23)) i184_240 rfl (bM_fld (j := 0) (fs := mF B s) rfl rfl) ?_
  refine gm_ev.iload i184_243 rfl ?_
  refine gm_ev.iload_n i184_245 rfl ?_
  refine gm_ev.irem i184_246 z5 ?_
  refine gm_ev.laload i184_247 (bM_al (j := 23) (n := 201) (fl := s.2.2 40) rfl ek6 lk6 (by decide)) ?_
  refine gm_ev.callV gm_mono_run (av := [.ref (B + 24), .int ((24 : Int32) * x1), .int (s.2.1 45 k2), .long (s.2.2 39 k4), .long (s.2.2 40 k6)]) (r := []) (ci := 11) (fs := mF B s) (bM_get (j := 0) rfl) i184_248 rfl rfl rfl (Nat.le_of_ble_eq_true rfl) t8 ?_
  refine gm_ev.if_ne_t (tgt := 257) i184_251 (by decide) c10 ?_
  refine gm_ev.aload_n i184_257 rfl ?_
  refine gm_ev.aload_n i184_258 rfl ?_
  refine gm_ev.getfield (v := .ref (B + 19)) i184_259 rfl (bM_fld (j := 0) (fs := mF B s9) rfl rfl) ?_
  refine gm_ev.aload_n i184_262 rfl ?_
  refine gm_ev.getfield (v := .int (s9.1 34)) i184_263 rfl (bM_fld (j := 0) (fs := mF B s9) rfl rfl) ?_
  refine gm_ev.callV gm_mono_run (av := [.ref (B + 19), .int (s9.1 34)]) (r := []) (ci := 11) (fs := mF B s9) (bM_get (j := 0) rfl) i184_266 rfl rfl rfl (Nat.le_of_ble_eq_true rfl) t12 ?_
  refine gm_ev.istore (ls' := [some (.ref B), some (.int x1), some (.int x2), some (.int x3), some (.int x4), some (.int r11)]) i184_269 (Nat.le_of_ble_eq_true rfl) rfl ?_
  refine gm_ev.iload i184_271 rfl ?_
  refine gm_ev.if_ge_f i184_273 c13 ?_
  refine gm_ev.aload_n i184_276 rfl ?_
  refine gm_ev.getfield (v := .int (s9.1 43)) i184_277 rfl (bM_fld (j := 0) (fs := mF B s9) rfl rfl) ?_
  refine gm_ev.bipush (v := 60) i184_280 (by decide) ?_
  refine gm_ev.icmp_ne_f i184_282 c14 ?_
  refine gm_ev.bipush (v := 7) i184_285 (by decide) ?_
  exact gm_ev.iret i184_287 rfl
theorem r_looksAt_207_ff {N0 : Nat} {K : Nat → Nat} {d B : Nat} {s : mS} {G : gm_H} {sz sl : Nat} {x1 : Int32} {x2 : Int32} {x3 : Int32} {x4 : Int32} {k2 : Nat} {k4 : Nat} {k6 : Nat} {r7 : Int32} {s9 : mS} (hN : N0 ≤ B) (c1 : ¬ (x2 * x3) ≤ x4) (ek2 : x1 = nI k2) (lk2 : k2 < 60) (z3 : ¬ x3 = 0) (ek4 : (x4 / x3) = nI k4) (lk4 : k4 < 201) (z5 : ¬ x3 = 0) (ek6 : (x4 - x4 / x3 * x3) = nI k6) (lk6 : k6 < 201) (t8 : gm_to N0 K ra_nm (ra_mt K) d 164 [.ref B, .ref (B + 24), .int ((24 : Int32) * x1), .int (s.2.1 45 k2), .long (s.2.2 39 k4), .long (s.2.2 40 k6)] (bM B (mH B s) G) sz (.returned (some (.int r7)), bM B (mH B s9) G, sz, 0)) (c10 : r7 = 0) : gm_ev N0 K ra_nm (ra_mt K) d (some .int) (gm_I cX12_looksAt) (gm_lkf (lkX12 false K)) 207 [some (.ref B), some (.int x1), some (.int x2), some (.int x3), some (.int x4), none] [] (bM B (mH B s) G) sz sl (.returned (some (.int (7 : Int32))), (bM B (mH B s9) G), sz, sl) := by
  refine gm_ev.iload i184_207 rfl ?_
  refine gm_ev.iload_n i184_209 rfl ?_
  refine gm_ev.iload_n i184_210 rfl ?_
  refine gm_ev.imul i184_211 ?_
  refine gm_ev.icmp_ge_f i184_212 c1 ?_
  refine gm_ev.aload_n i184_215 rfl ?_
  refine gm_ev.aload_n i184_216 rfl ?_
  refine gm_ev.getfield (v := .ref (B + 24)) i184_217 rfl (bM_fld (j := 0) (fs := mF B s) rfl rfl) ?_
  refine gm_ev.bipush (v := 24) i184_220 (by decide) ?_
  refine gm_ev.iload_n i184_222 rfl ?_
  refine gm_ev.imul i184_223 ?_
  refine gm_ev.aload_n i184_224 rfl ?_
  refine gm_ev.getfield (v := .ref (B + 25)) i184_225 rfl (bM_fld (j := 0) (fs := mF B s) rfl rfl) ?_
  refine gm_ev.iload_n i184_228 rfl ?_
  refine gm_ev.iaload i184_229 (bM_ai (j := 25) (n := 60) (f := s.2.1 45) rfl ek2 lk2 (by decide)) ?_
  refine gm_ev.aload_n i184_230 rfl ?_
  refine gm_ev.getfield (v := .ref (B + 22)) i184_231 rfl (bM_fld (j := 0) (fs := mF B s) rfl rfl) ?_
  refine gm_ev.iload i184_234 rfl ?_
  refine gm_ev.iload_n i184_236 rfl ?_
  refine gm_ev.idiv i184_237 z3 ?_
  refine gm_ev.laload i184_238 (bM_al (j := 22) (n := 201) (fl := s.2.2 39) rfl ek4 lk4 (by decide)) ?_
  refine gm_ev.aload_n i184_239 rfl ?_
  refine gm_ev.getfield (v := .ref (B + 23)) i184_240 rfl (bM_fld (j := 0) (fs := mF B s) rfl rfl) ?_
  refine gm_ev.iload i184_243 rfl ?_
  refine gm_ev.iload_n i184_245 rfl ?_
  refine gm_ev.irem i184_246 z5 ?_
  refine gm_ev.laload i184_247 (bM_al (j := 23) (n := 201) (fl := s.2.2 40) rfl ek6 lk6 (by decide)) ?_
  refine gm_ev.callV gm_mono_run (av := [.ref (B + 24), .int ((24 : Int32) * x1), .int (s.2.1 45 k2), .long (s.2.2 39 k4), .long (s.2.2 40 k6)]) (r := []) (ci := 11) (fs := mF B s) (bM_get (j := 0) rfl) i184_248 rfl rfl rfl (Nat.le_of_ble_eq_true rfl) t8 ?_
  refine gm_ev.if_ne_f i184_251 c10 ?_
  refine gm_ev.bipush (v := 7) i184_254 (by decide) ?_
  exact gm_ev.iret i184_256 rfl
theorem r_weighs_0__at6 {N0 : Nat} {K : Nat → Nat} {d B : Nat} {s : mS} {G : gm_H} {sz sl : Nat} {R : gm_R}  (hN : N0 ≤ B)  (k : gm_ev N0 K ra_nm (ra_mt K) d (some .boolean) (gm_I cX12_weighs) (gm_lkf (lkX12 false K)) 6 [some (.ref B), some (.int (1 : Int32)), some (.int (0 : Int32)), some (.int (0 : Int32)), none, none, none, none] [] (bM B (mH B s) G) sz sl R) : gm_ev N0 K ra_nm (ra_mt K) d (some .boolean) (gm_I cX12_weighs) (gm_lkf (lkX12 false K)) 0 [some (.ref B), none, none, none, none, none, none, none] [] (bM B (mH B s) G) sz sl R := by
  refine gm_ev.iconst (v := 1) i185_0 (by decide) ?_
  refine gm_ev.istore_n (ls' := [some (.ref B), some (.int (1 : Int32)), none, none, none, none, none, none]) i185_1 (Nat.le_of_ble_eq_true rfl) rfl ?_
  refine gm_ev.iconst (v := 0) i185_2 (by decide) ?_
  refine gm_ev.istore_n (ls' := [some (.ref B), some (.int (1 : Int32)), some (.int (0 : Int32)), none, none, none, none, none]) i185_3 (Nat.le_of_ble_eq_true rfl) rfl ?_
  refine gm_ev.iconst (v := 0) i185_4 (by decide) ?_
  refine gm_ev.istore_n (ls' := [some (.ref B), some (.int (1 : Int32)), some (.int (0 : Int32)), some (.int (0 : Int32)), none, none, none, none]) i185_5 (Nat.le_of_ble_eq_true rfl) rfl ?_
  exact k
theorem r_weighs_6_t_at36 {N0 : Nat} {K : Nat → Nat} {d B : Nat} {s : mS} {G : gm_H} {sz sl : Nat} {R : gm_R} {x1 : Int32} {x2 : Int32} {x3 : Int32} (hN : N0 ≤ B) (c1 : (s.1 43) ≤ x3) (k : gm_ev N0 K ra_nm (ra_mt K) d (some .boolean) (gm_I cX12_weighs) (gm_lkf (lkX12 false K)) 36 [some (.ref B), some (.int x1), some (.int x2), none, none, none, none, none] [] (bM B (mH B s) G) sz sl R) : gm_ev N0 K ra_nm (ra_mt K) d (some .boolean) (gm_I cX12_weighs) (gm_lkf (lkX12 false K)) 6 [some (.ref B), some (.int x1), some (.int x2), some (.int x3), none, none, none, none] [] (bM B (mH B s) G) sz sl R := by
  refine gm_ev.iload_n i185_6 rfl ?_
  refine gm_ev.aload_n i185_7 rfl ?_
  refine gm_ev.getfield (v := .int (s.1 43)) i185_8 rfl (bM_fld (j := 0) (fs := mF B s) rfl rfl) ?_
  refine gm_ev.icmp_ge_t (tgt := 36) i185_11 (by decide) c1 ?_
  refine gm_ev.le (a := [some (.ref B), some (.int x1), some (.int x2), none, none, none, none, none]) (gm_leL.le (show gm_leL _ _ from ⟨rfl, ⟨rfl, ⟨rfl, trivial⟩⟩⟩)) ?_
  exact k
theorem r_weighs_6_ft_at6 {N0 : Nat} {K : Nat → Nat} {d B : Nat} {s : mS} {G : gm_H} {sz sl : Nat} {R : gm_R} {x1 : Int32} {x2 : Int32} {x3 : Int32} {k2 : Nat} (hN : N0 ≤ B) (c1 : ¬ (s.1 43) ≤ x3) (ek2 : x3 = nI k2) (lk2 : k2 < 60) (c3 : (s.2.1 48 k2) ≤ 0) (k : gm_ev N0 K ra_nm (ra_mt K) d (some .boolean) (gm_I cX12_weighs) (gm_lkf (lkX12 false K)) 6 [some (.ref B), some (.int x1), some (.int x2), some (.int (x3 + (1 : Int32))), none, none, none, none] [] (bM B (mH B s) G) sz sl R) : gm_ev N0 K ra_nm (ra_mt K) d (some .boolean) (gm_I cX12_weighs) (gm_lkf (lkX12 false K)) 6 [some (.ref B), some (.int x1), some (.int x2), some (.int x3), none, none, none, none] [] (bM B (mH B s) G) sz sl R := by
  refine gm_ev.iload_n i185_6 rfl ?_
  refine gm_ev.aload_n i185_7 rfl ?_
  refine gm_ev.getfield (v := .int (s.1 43)) i185_8 rfl (bM_fld (j := 0) (fs := mF B s) rfl rfl) ?_
  refine gm_ev.icmp_ge_f i185_11 c1 ?_
  refine gm_ev.aload_n i185_14 rfl ?_
  refine gm_ev.getfield (v := .ref (B + 28)) i185_15 rfl (bM_fld (j := 0) (fs := mF B s) rfl rfl) ?_
  refine gm_ev.iload_n i185_18 rfl ?_
  refine gm_ev.iaload i185_19 (bM_ai (j := 28) (n := 60) (f := s.2.1 48) rfl ek2 lk2 (by decide)) ?_
  refine gm_ev.if_le_t (tgt := 30) i185_20 (by decide) c3 ?_
  refine gm_ev.iinc (v := x3 + (1 : Int32)) (ls' := [some (.ref B), some (.int x1), some (.int x2), some (.int (x3 + (1 : Int32))), none, none, none, none]) i185_30 rfl (by rfl) rfl ?_
  refine gm_ev.goto (tgt := 6) i185_33 (by decide) ?_
  exact k
theorem r_weighs_6_ff_at6 {N0 : Nat} {K : Nat → Nat} {d B : Nat} {s : mS} {G : gm_H} {sz sl : Nat} {R : gm_R} {x1 : Int32} {x2 : Int32} {x3 : Int32} {k2 : Nat} {k4 : Nat} (hN : N0 ≤ B) (c1 : ¬ (s.1 43) ≤ x3) (ek2 : x3 = nI k2) (lk2 : k2 < 60) (c3 : ¬ (s.2.1 48 k2) ≤ 0) (ek4 : x3 = nI k4) (lk4 : k4 < 60) (k : gm_ev N0 K ra_nm (ra_mt K) d (some .boolean) (gm_I cX12_weighs) (gm_lkf (lkX12 false K)) 6 [some (.ref B), some (.int x1), some (.int x2), some (.int (x3 + (1 : Int32))), none, none, none, none] [] (bM B (mH B (mA s 49 (upd (s.2.1 49) k4 (-1 : Int32)))) G) sz sl R) : gm_ev N0 K ra_nm (ra_mt K) d (some .boolean) (gm_I cX12_weighs) (gm_lkf (lkX12 false K)) 6 [some (.ref B), some (.int x1), some (.int x2), some (.int x3), none, none, none, none] [] (bM B (mH B s) G) sz sl R := by
  refine gm_ev.iload_n i185_6 rfl ?_
  refine gm_ev.aload_n i185_7 rfl ?_
  refine gm_ev.getfield (v := .int (s.1 43)) i185_8 rfl (bM_fld (j := 0) (fs := mF B s) rfl rfl) ?_
  refine gm_ev.icmp_ge_f i185_11 c1 ?_
  refine gm_ev.aload_n i185_14 rfl ?_
  refine gm_ev.getfield (v := .ref (B + 28)) i185_15 rfl (bM_fld (j := 0) (fs := mF B s) rfl rfl) ?_
  refine gm_ev.iload_n i185_18 rfl ?_
  refine gm_ev.iaload i185_19 (bM_ai (j := 28) (n := 60) (f := s.2.1 48) rfl ek2 lk2 (by decide)) ?_
  refine gm_ev.if_le_f i185_20 c3 ?_
  refine gm_ev.aload_n i185_23 rfl ?_
  refine gm_ev.getfield (v := .ref (B + 29)) i185_24 rfl (bM_fld (j := 0) (fs := mF B s) rfl rfl) ?_
  refine gm_ev.iload_n i185_27 rfl ?_
  refine gm_ev.iconst (v := -1) i185_28 (by decide) ?_
  refine gm_ev.iastore (M' := (bM B (mH B (mA s 49 (upd (s.2.1 49) k4 (-1 : Int32)))) G)) i185_29 (bM_asti (j := 29) (n := 60) (f := s.2.1 49) rfl ek4 lk4 (by decide) hN rfl) ?_
  refine gm_ev.iinc (v := x3 + (1 : Int32)) (ls' := [some (.ref B), some (.int x1), some (.int x2), some (.int (x3 + (1 : Int32))), none, none, none, none]) i185_30 rfl (by rfl) rfl ?_
  refine gm_ev.goto (tgt := 6) i185_33 (by decide) ?_
  exact k
theorem r_weighs_36_tt {N0 : Nat} {K : Nat → Nat} {d B : Nat} {s : mS} {G : gm_H} {sz sl : Nat} {x1 : Int32} {x2 : Int32} (hN : N0 ≤ B) (c1 : x1 = 0) (c2 : ¬ x2 = 0) : gm_ev N0 K ra_nm (ra_mt K) d (some .boolean) (gm_I cX12_weighs) (gm_lkf (lkX12 false K)) 36 [some (.ref B), some (.int x1), some (.int x2), none, none, none, none, none] [] (bM B (mH B s) G) sz sl (.returned (some (.int (0 : Int32))), (bM B (mH B s) G), sz, sl) := by
  refine gm_ev.iload_n i185_36 rfl ?_
  refine gm_ev.if_eq_t (tgt := 215) i185_37 (by decide) c1 ?_
  refine gm_ev.iload_n i185_215 rfl ?_
  refine gm_ev.if_ne_t (tgt := 223) i185_216 (by decide) c2 ?_
  refine gm_ev.iconst (v := 0) i185_223 (by decide) ?_
  exact gm_ev.zret i185_224 rfl (by decide)
theorem r_weighs_36_tf {N0 : Nat} {K : Nat → Nat} {d B : Nat} {s : mS} {G : gm_H} {sz sl : Nat} {x1 : Int32} {x2 : Int32} (hN : N0 ≤ B) (c1 : x1 = 0) (c2 : x2 = 0) : gm_ev N0 K ra_nm (ra_mt K) d (some .boolean) (gm_I cX12_weighs) (gm_lkf (lkX12 false K)) 36 [some (.ref B), some (.int x1), some (.int x2), none, none, none, none, none] [] (bM B (mH B s) G) sz sl (.returned (some (.int (1 : Int32))), (bM B (mH B s) G), sz, sl) := by
  refine gm_ev.iload_n i185_36 rfl ?_
  refine gm_ev.if_eq_t (tgt := 215) i185_37 (by decide) c1 ?_
  refine gm_ev.iload_n i185_215 rfl ?_
  refine gm_ev.if_ne_f i185_216 c2 ?_
  refine gm_ev.iconst (v := 1) i185_219 (by decide) ?_
  refine gm_ev.goto (tgt := 224) i185_220 (by decide) ?_
  exact gm_ev.zret i185_224 rfl (by decide)
theorem r_weighs_36_f_at46 {N0 : Nat} {K : Nat → Nat} {d B : Nat} {s : mS} {G : gm_H} {sz sl : Nat} {R : gm_R} {x1 : Int32} {x2 : Int32} (hN : N0 ≤ B) (c1 : ¬ x1 = 0) (k : gm_ev N0 K ra_nm (ra_mt K) d (some .boolean) (gm_I cX12_weighs) (gm_lkf (lkX12 false K)) 46 [some (.ref B), some (.int (0 : Int32)), some (.int (0 : Int32)), some (.int (0 : Int32)), none, none, none, none] [] (bM B (mH B s) G) sz sl R) : gm_ev N0 K ra_nm (ra_mt K) d (some .boolean) (gm_I cX12_weighs) (gm_lkf (lkX12 false K)) 36 [some (.ref B), some (.int x1), some (.int x2), none, none, none, none, none] [] (bM B (mH B s) G) sz sl R := by
  refine gm_ev.iload_n i185_36 rfl ?_
  refine gm_ev.if_eq_f i185_37 c1 ?_
  refine gm_ev.iconst (v := 0) i185_40 (by decide) ?_
  refine gm_ev.istore_n (ls' := [some (.ref B), some (.int (0 : Int32)), some (.int x2), none, none, none, none, none]) i185_41 (Nat.le_of_ble_eq_true rfl) rfl ?_
  refine gm_ev.iconst (v := 0) i185_42 (by decide) ?_
  refine gm_ev.istore_n (ls' := [some (.ref B), some (.int (0 : Int32)), some (.int (0 : Int32)), none, none, none, none, none]) i185_43 (Nat.le_of_ble_eq_true rfl) rfl ?_
  refine gm_ev.iconst (v := 0) i185_44 (by decide) ?_
  refine gm_ev.istore_n (ls' := [some (.ref B), some (.int (0 : Int32)), some (.int (0 : Int32)), some (.int (0 : Int32)), none, none, none, none]) i185_45 (Nat.le_of_ble_eq_true rfl) rfl ?_
  exact k
theorem r_weighs_46_t_at36 {N0 : Nat} {K : Nat → Nat} {d B : Nat} {s : mS} {G : gm_H} {sz sl : Nat} {R : gm_R} {x1 : Int32} {x2 : Int32} {x3 : Int32} (hN : N0 ≤ B) (c1 : (s.1 43) ≤ x3) (k : gm_ev N0 K ra_nm (ra_mt K) d (some .boolean) (gm_I cX12_weighs) (gm_lkf (lkX12 false K)) 36 [some (.ref B), some (.int x1), some (.int x2), none, none, none, none, none] [] (bM B (mH B s) G) sz sl R) : gm_ev N0 K ra_nm (ra_mt K) d (some .boolean) (gm_I cX12_weighs) (gm_lkf (lkX12 false K)) 46 [some (.ref B), some (.int x1), some (.int x2), some (.int x3), none, none, none, none] [] (bM B (mH B s) G) sz sl R := by
  refine gm_ev.iload_n i185_46 rfl ?_
  refine gm_ev.aload_n i185_47 rfl ?_
  refine gm_ev.getfield (v := .int (s.1 43)) i185_48 rfl (bM_fld (j := 0) (fs := mF B s) rfl rfl) ?_
  refine gm_ev.icmp_ge_t (tgt := 212) i185_51 (by decide) c1 ?_
  refine gm_ev.goto (tgt := 36) i185_212 (by decide) ?_
  refine gm_ev.le (a := [some (.ref B), some (.int x1), some (.int x2), none, none, none, none, none]) (gm_leL.le (show gm_leL _ _ from ⟨rfl, ⟨rfl, ⟨rfl, trivial⟩⟩⟩)) ?_
  exact k
theorem r_weighs_46_ft_at83 {N0 : Nat} {K : Nat → Nat} {d B : Nat} {s : mS} {G : gm_H} {sz sl : Nat} {R : gm_R} {x1 : Int32} {x2 : Int32} {x3 : Int32} {k2 : Nat} {k4 : Nat} (hN : N0 ≤ B) (c1 : ¬ (s.1 43) ≤ x3) (ek2 : x3 = nI k2) (lk2 : k2 < 60) (c3 : (s.2.1 49 k2) < 0) (ek4 : x3 = nI k4) (lk4 : k4 < 61) (k : gm_ev N0 K ra_nm (ra_mt K) d (some .boolean) (gm_I cX12_weighs) (gm_lkf (lkX12 false K)) 83 [some (.ref B), some (.int x1), some (.int (x2 + (1 : Int32))), some (.int x3), some (.int (-1 : Int32)), some (.int (1 : Int32)), some (.int (s.2.1 46 k4)), none] [] (bM B (mH B s) G) sz sl R) : gm_ev N0 K ra_nm (ra_mt K) d (some .boolean) (gm_I cX12_weighs) (gm_lkf (lkX12 false K)) 46 [some (.ref B), some (.int x1), some (.int x2), some (.int x3), none, none, none, none] [] (bM B (mH B s) G) sz sl R := by
  refine gm_ev.iload_n i185_46 rfl ?_
  refine gm_ev.aload_n i185_47 rfl ?_
  refine gm_ev.getfield (v := .int (s.1 43)) i185_48 rfl (bM_fld (j := 0) (fs := mF B s) rfl rfl) ?_
  refine gm_ev.icmp_ge_f i185_51 c1 ?_
  refine gm_ev.aload_n i185_54 rfl ?_
  refine gm_ev.getfield (v := .ref (B + 29)) i185_55 rfl (bM_fld (j := 0) (fs := mF B s) rfl rfl) ?_
  refine gm_ev.iload_n i185_58 rfl ?_
  refine gm_ev.iaload i185_59 (bM_ai (j := 29) (n := 60) (f := s.2.1 49) rfl ek2 lk2 (by decide)) ?_
  refine gm_ev.if_lt_t (tgt := 66) i185_60 (by decide) c3 ?_
  refine gm_ev.iinc (v := x2 + (1 : Int32)) (ls' := [some (.ref B), some (.int x1), some (.int (x2 + (1 : Int32))), some (.int x3), none, none, none, none]) i185_66 rfl (by rfl) rfl ?_
  refine gm_ev.iconst (v := -1) i185_69 (by decide) ?_
  refine gm_ev.istore (ls' := [some (.ref B), some (.int x1), some (.int (x2 + (1 : Int32))), some (.int x3), some (.int (-1 : Int32)), none, none, none]) i185_70 (Nat.le_of_ble_eq_true rfl) rfl ?_
  refine gm_ev.iconst (v := 1) i185_72 (by decide) ?_
  refine gm_ev.istore (ls' := [some (.ref B), some (.int x1), some (.int (x2 + (1 : Int32))), some (.int x3), some (.int (-1 : Int32)), some (.int (1 : Int32)), none, none]) i185_73 (Nat.le_of_ble_eq_true rfl) rfl ?_
  refine gm_ev.aload_n i185_75 rfl ?_
  refine gm_ev.getfield (v := .ref (B + 26)) i185_76 rfl (bM_fld (j := 0) (fs := mF B s) rfl rfl) ?_
  refine gm_ev.iload_n i185_79 rfl ?_
  refine gm_ev.iaload i185_80 (bM_ai (j := 26) (n := 61) (f := s.2.1 46) rfl ek4 lk4 (by decide)) ?_
  refine gm_ev.istore (ls' := [some (.ref B), some (.int x1), some (.int (x2 + (1 : Int32))), some (.int x3), some (.int (-1 : Int32)), some (.int (1 : Int32)), some (.int (s.2.1 46 k4)), none]) i185_81 (Nat.le_of_ble_eq_true rfl) rfl ?_
  exact k
theorem r_weighs_46_ff_at46 {N0 : Nat} {K : Nat → Nat} {d B : Nat} {s : mS} {G : gm_H} {sz sl : Nat} {R : gm_R} {x1 : Int32} {x2 : Int32} {x3 : Int32} {k2 : Nat} (hN : N0 ≤ B) (c1 : ¬ (s.1 43) ≤ x3) (ek2 : x3 = nI k2) (lk2 : k2 < 60) (c3 : ¬ (s.2.1 49 k2) < 0) (k : gm_ev N0 K ra_nm (ra_mt K) d (some .boolean) (gm_I cX12_weighs) (gm_lkf (lkX12 false K)) 46 [some (.ref B), some (.int x1), some (.int x2), some (.int (x3 + (1 : Int32))), none, none, none, none] [] (bM B (mH B s) G) sz sl R) : gm_ev N0 K ra_nm (ra_mt K) d (some .boolean) (gm_I cX12_weighs) (gm_lkf (lkX12 false K)) 46 [some (.ref B), some (.int x1), some (.int x2), some (.int x3), none, none, none, none] [] (bM B (mH B s) G) sz sl R := by
  refine gm_ev.iload_n i185_46 rfl ?_
  refine gm_ev.aload_n i185_47 rfl ?_
  refine gm_ev.getfield (v := .int (s.1 43)) i185_48 rfl (bM_fld (j := 0) (fs := mF B s) rfl rfl) ?_
  refine gm_ev.icmp_ge_f i185_51 c1 ?_
  refine gm_ev.aload_n i185_54 rfl ?_
  refine gm_ev.getfield (v := .ref (B + 29)) i185_55 rfl (bM_fld (j := 0) (fs := mF B s) rfl rfl) ?_
  refine gm_ev.iload_n i185_58 rfl ?_
  refine gm_ev.iaload i185_59 (bM_ai (j := 29) (n := 60) (f := s.2.1 49) rfl ek2 lk2 (by decide)) ?_
  refine gm_ev.if_lt_f i185_60 c3 ?_
  refine gm_ev.goto (tgt := 206) i185_63 (by decide) ?_
  refine gm_ev.iinc (v := x3 + (1 : Int32)) (ls' := [some (.ref B), some (.int x1), some (.int x2), some (.int (x3 + (1 : Int32))), none, none, none, none]) i185_206 rfl (by rfl) rfl ?_
  refine gm_ev.goto (tgt := 46) i185_209 (by decide) ?_
  exact k
theorem r_weighs_83_ttt_at46 {N0 : Nat} {K : Nat → Nat} {d B : Nat} {s : mS} {G : gm_H} {sz sl : Nat} {R : gm_R} {x1 : Int32} {x2 : Int32} {x3 : Int32} {x4 : Int32} {x5 : Int32} {x6 : Int32} {k1 : Nat} {k4 : Nat} (hN : N0 ≤ B) (ek1 : (x3 + (1 : Int32)) = nI k1) (lk1 : k1 < 61) (c2 : (s.2.1 46 k1) ≤ x6) (c3 : x5 = 0) (ek4 : x3 = nI k4) (lk4 : k4 < 60) (c5 : ¬ x1 = 0) (k : gm_ev N0 K ra_nm (ra_mt K) d (some .boolean) (gm_I cX12_weighs) (gm_lkf (lkX12 false K)) 46 [some (.ref B), some (.int (1 : Int32)), some (.int x2), some (.int (x3 + (1 : Int32))), none, none, none, none] [] (bM B (mH B (mA s 49 (upd (s.2.1 49) k4 (-1 : Int32)))) G) sz sl R) : gm_ev N0 K ra_nm (ra_mt K) d (some .boolean) (gm_I cX12_weighs) (gm_lkf (lkX12 false K)) 83 [some (.ref B), some (.int x1), some (.int x2), some (.int x3), some (.int x4), some (.int x5), some (.int x6), none] [] (bM B (mH B s) G) sz sl R := by
  refine gm_ev.iload i185_83 rfl ?_
  refine gm_ev.aload_n i185_85 rfl ?_
  refine gm_ev.getfield (v := .ref (B + 26)) i185_86 rfl (bM_fld (j := 0) (fs := mF B s) rfl rfl) ?_
  refine gm_ev.iload_n i185_89 rfl ?_
  refine gm_ev.iconst (v := 1) i185_90 (by decide) ?_
  refine gm_ev.iadd i185_91 ?_
  refine gm_ev.iaload i185_92 (bM_ai (j := 26) (n := 61) (f := s.2.1 46) rfl ek1 lk1 (by decide)) ?_
  refine gm_ev.icmp_ge_t (tgt := 174) i185_93 (by decide) c2 ?_
  refine gm_ev.aload_n i185_174 rfl ?_
  refine gm_ev.getfield (v := .ref (B + 29)) i185_175 rfl (bM_fld (j := 0) (fs := mF B s) rfl rfl) ?_
  refine gm_ev.iload_n i185_178 rfl ?_
  refine gm_ev.iload i185_179 rfl ?_
  refine gm_ev.if_eq_t (tgt := 189) i185_181 (by decide) c3 ?_
  refine gm_ev.iconst (v := -1) i185_189 (by decide) ?_
  refine gm_ev.iastore (M' := (bM B (mH B (mA s 49 (upd (s.2.1 49) k4 (-1 : Int32)))) G)) i185_190 (bM_asti (j := 29) (n := 60) (f := s.2.1 49) rfl ek4 lk4 (by decide) hN rfl) ?_
  refine gm_ev.iload_n i185_191 rfl ?_
  refine gm_ev.if_ne_t (tgt := 200) i185_192 (by decide) c5 ?_
  refine gm_ev.iconst (v := 1) i185_200 (by decide) ?_
  refine gm_ev.goto (tgt := 205) i185_201 (by decide) ?_
  refine gm_ev.istore_n (ls' := [some (.ref B), some (.int (1 : Int32)), some (.int x2), some (.int x3), some (.int x4), some (.int x5), some (.int x6), none]) i185_205 (Nat.le_of_ble_eq_true rfl) rfl ?_
  refine gm_ev.iinc (v := x3 + (1 : Int32)) (ls' := [some (.ref B), some (.int (1 : Int32)), some (.int x2), some (.int (x3 + (1 : Int32))), some (.int x4), some (.int x5), some (.int x6), none]) i185_206 rfl (by rfl) rfl ?_
  refine gm_ev.goto (tgt := 46) i185_209 (by decide) ?_
  refine gm_ev.le (a := [some (.ref B), some (.int (1 : Int32)), some (.int x2), some (.int (x3 + (1 : Int32))), none, none, none, none]) (gm_leL.le (show gm_leL _ _ from ⟨rfl, ⟨rfl, ⟨rfl, ⟨rfl, trivial⟩⟩⟩⟩)) ?_
  exact k
theorem r_weighs_83_ttft_at46 {N0 : Nat} {K : Nat → Nat} {d B : Nat} {s : mS} {G : gm_H} {sz sl : Nat} {R : gm_R} {x1 : Int32} {x2 : Int32} {x3 : Int32} {x4 : Int32} {x5 : Int32} {x6 : Int32} {k1 : Nat} {k4 : Nat} (hN : N0 ≤ B) (ek1 : (x3 + (1 : Int32)) = nI k1) (lk1 : k1 < 61) (c2 : (s.2.1 46 k1) ≤ x6) (c3 : x5 = 0) (ek4 : x3 = nI k4) (lk4 : k4 < 60) (c5 : x1 = 0) (c6 : x5 = 0) (k : gm_ev N0 K ra_nm (ra_mt K) d (some .boolean) (gm_I cX12_weighs) (gm_lkf (lkX12 false K)) 46 [some (.ref B), some (.int (0 : Int32)), some (.int x2), some (.int (x3 + (1 : Int32))), none, none, none, none] [] (bM B (mH B (mA s 49 (upd (s.2.1 49) k4 (-1 : Int32)))) G) sz sl R) : gm_ev N0 K ra_nm (ra_mt K) d (some .boolean) (gm_I cX12_weighs) (gm_lkf (lkX12 false K)) 83 [some (.ref B), some (.int x1), some (.int x2), some (.int x3), some (.int x4), some (.int x5), some (.int x6), none] [] (bM B (mH B s) G) sz sl R := by
  refine gm_ev.iload i185_83 rfl ?_
  refine gm_ev.aload_n i185_85 rfl ?_
  refine gm_ev.getfield (v := .ref (B + 26)) i185_86 rfl (bM_fld (j := 0) (fs := mF B s) rfl rfl) ?_
  refine gm_ev.iload_n i185_89 rfl ?_
  refine gm_ev.iconst (v := 1) i185_90 (by decide) ?_
  refine gm_ev.iadd i185_91 ?_
  refine gm_ev.iaload i185_92 (bM_ai (j := 26) (n := 61) (f := s.2.1 46) rfl ek1 lk1 (by decide)) ?_
  refine gm_ev.icmp_ge_t (tgt := 174) i185_93 (by decide) c2 ?_
  refine gm_ev.aload_n i185_174 rfl ?_
  refine gm_ev.getfield (v := .ref (B + 29)) i185_175 rfl (bM_fld (j := 0) (fs := mF B s) rfl rfl) ?_
  refine gm_ev.iload_n i185_178 rfl ?_
  refine gm_ev.iload i185_179 rfl ?_
  refine gm_ev.if_eq_t (tgt := 189) i185_181 (by decide) c3 ?_
  refine gm_ev.iconst (v := -1) i185_189 (by decide) ?_
  refine gm_ev.iastore (M' := (bM B (mH B (mA s 49 (upd (s.2.1 49) k4 (-1 : Int32)))) G)) i185_190 (bM_asti (j := 29) (n := 60) (f := s.2.1 49) rfl ek4 lk4 (by decide) hN rfl) ?_
  refine gm_ev.iload_n i185_191 rfl ?_
  refine gm_ev.if_ne_f i185_192 c5 ?_
  refine gm_ev.iload i185_195 rfl ?_
  refine gm_ev.if_eq_t (tgt := 204) i185_197 (by decide) c6 ?_
  refine gm_ev.iconst (v := 0) i185_204 (by decide) ?_
  refine gm_ev.istore_n (ls' := [some (.ref B), some (.int (0 : Int32)), some (.int x2), some (.int x3), some (.int x4), some (.int x5), some (.int x6), none]) i185_205 (Nat.le_of_ble_eq_true rfl) rfl ?_
  refine gm_ev.iinc (v := x3 + (1 : Int32)) (ls' := [some (.ref B), some (.int (0 : Int32)), some (.int x2), some (.int (x3 + (1 : Int32))), some (.int x4), some (.int x5), some (.int x6), none]) i185_206 rfl (by rfl) rfl ?_
  refine gm_ev.goto (tgt := 46) i185_209 (by decide) ?_
  refine gm_ev.le (a := [some (.ref B), some (.int (0 : Int32)), some (.int x2), some (.int (x3 + (1 : Int32))), none, none, none, none]) (gm_leL.le (show gm_leL _ _ from ⟨rfl, ⟨rfl, ⟨rfl, ⟨rfl, trivial⟩⟩⟩⟩)) ?_
  exact k
theorem r_weighs_83_ttff_at46 {N0 : Nat} {K : Nat → Nat} {d B : Nat} {s : mS} {G : gm_H} {sz sl : Nat} {R : gm_R} {x1 : Int32} {x2 : Int32} {x3 : Int32} {x4 : Int32} {x5 : Int32} {x6 : Int32} {k1 : Nat} {k4 : Nat} (hN : N0 ≤ B) (ek1 : (x3 + (1 : Int32)) = nI k1) (lk1 : k1 < 61) (c2 : (s.2.1 46 k1) ≤ x6) (c3 : x5 = 0) (ek4 : x3 = nI k4) (lk4 : k4 < 60) (c5 : x1 = 0) (c6 : ¬ x5 = 0) (k : gm_ev N0 K ra_nm (ra_mt K) d (some .boolean) (gm_I cX12_weighs) (gm_lkf (lkX12 false K)) 46 [some (.ref B), some (.int (1 : Int32)), some (.int x2), some (.int (x3 + (1 : Int32))), none, none, none, none] [] (bM B (mH B (mA s 49 (upd (s.2.1 49) k4 (-1 : Int32)))) G) sz sl R) : gm_ev N0 K ra_nm (ra_mt K) d (some .boolean) (gm_I cX12_weighs) (gm_lkf (lkX12 false K)) 83 [some (.ref B), some (.int x1), some (.int x2), some (.int x3), some (.int x4), some (.int x5), some (.int x6), none] [] (bM B (mH B s) G) sz sl R := by
  refine gm_ev.iload i185_83 rfl ?_
  refine gm_ev.aload_n i185_85 rfl ?_
  refine gm_ev.getfield (v := .ref (B + 26)) i185_86 rfl (bM_fld (j := 0) (fs := mF B s) rfl rfl) ?_
  refine gm_ev.iload_n i185_89 rfl ?_
  refine gm_ev.iconst (v := 1) i185_90 (by decide) ?_
  refine gm_ev.iadd i185_91 ?_
  refine gm_ev.iaload i185_92 (bM_ai (j := 26) (n := 61) (f := s.2.1 46) rfl ek1 lk1 (by decide)) ?_
  refine gm_ev.icmp_ge_t (tgt := 174) i185_93 (by decide) c2 ?_
  refine gm_ev.aload_n i185_174 rfl ?_
  refine gm_ev.getfield (v := .ref (B + 29)) i185_175 rfl (bM_fld (j := 0) (fs := mF B s) rfl rfl) ?_
  refine gm_ev.iload_n i185_178 rfl ?_
  refine gm_ev.iload i185_179 rfl ?_
  refine gm_ev.if_eq_t (tgt := 189) i185_181 (by decide) c3 ?_
  refine gm_ev.iconst (v := -1) i185_189 (by decide) ?_
  refine gm_ev.iastore (M' := (bM B (mH B (mA s 49 (upd (s.2.1 49) k4 (-1 : Int32)))) G)) i185_190 (bM_asti (j := 29) (n := 60) (f := s.2.1 49) rfl ek4 lk4 (by decide) hN rfl) ?_
  refine gm_ev.iload_n i185_191 rfl ?_
  refine gm_ev.if_ne_f i185_192 c5 ?_
  refine gm_ev.iload i185_195 rfl ?_
  refine gm_ev.if_eq_f i185_197 c6 ?_
  refine gm_ev.iconst (v := 1) i185_200 (by decide) ?_
  refine gm_ev.goto (tgt := 205) i185_201 (by decide) ?_
  refine gm_ev.istore_n (ls' := [some (.ref B), some (.int (1 : Int32)), some (.int x2), some (.int x3), some (.int x4), some (.int x5), some (.int x6), none]) i185_205 (Nat.le_of_ble_eq_true rfl) rfl ?_
  refine gm_ev.iinc (v := x3 + (1 : Int32)) (ls' := [some (.ref B), some (.int (1 : Int32)), some (.int x2), some (.int (x3 + (1 : Int32))), some (.int x4), some (.int x5), some (.int x6), none]) i185_206 rfl (by rfl) rfl ?_
  refine gm_ev.goto (tgt := 46) i185_209 (by decide) ?_
  refine gm_ev.le (a := [some (.ref B), some (.int (1 : Int32)), some (.int x2), some (.int (x3 + (1 : Int32))), none, none, none, none]) (gm_leL.le (show gm_leL _ _ from ⟨rfl, ⟨rfl, ⟨rfl, ⟨rfl, trivial⟩⟩⟩⟩)) ?_
  exact k
theorem r_weighs_83_tft_at46 {N0 : Nat} {K : Nat → Nat} {d B : Nat} {s : mS} {G : gm_H} {sz sl : Nat} {R : gm_R} {x1 : Int32} {x2 : Int32} {x3 : Int32} {x4 : Int32} {x5 : Int32} {x6 : Int32} {k1 : Nat} {k4 : Nat} (hN : N0 ≤ B) (ek1 : (x3 + (1 : Int32)) = nI k1) (lk1 : k1 < 61) (c2 : (s.2.1 46 k1) ≤ x6) (c3 : ¬ x5 = 0) (ek4 : x3 = nI k4) (lk4 : k4 < 60) (c5 : ¬ x1 = 0) (k : gm_ev N0 K ra_nm (ra_mt K) d (some .boolean) (gm_I cX12_weighs) (gm_lkf (lkX12 false K)) 46 [some (.ref B), some (.int (1 : Int32)), some (.int x2), some (.int (x3 + (1 : Int32))), none, none, none, none] [] (bM B (mH B (mA s 49 (upd (s.2.1 49) k4 x4))) G) sz sl R) : gm_ev N0 K ra_nm (ra_mt K) d (some .boolean) (gm_I cX12_weighs) (gm_lkf (lkX12 false K)) 83 [some (.ref B), some (.int x1), some (.int x2), some (.int x3), some (.int x4), some (.int x5), some (.int x6), none] [] (bM B (mH B s) G) sz sl R := by
  refine gm_ev.iload i185_83 rfl ?_
  refine gm_ev.aload_n i185_85 rfl ?_
  refine gm_ev.getfield (v := .ref (B + 26)) i185_86 rfl (bM_fld (j := 0) (fs := mF B s) rfl rfl) ?_
  refine gm_ev.iload_n i185_89 rfl ?_
  refine gm_ev.iconst (v := 1) i185_90 (by decide) ?_
  refine gm_ev.iadd i185_91 ?_
  refine gm_ev.iaload i185_92 (bM_ai (j := 26) (n := 61) (f := s.2.1 46) rfl ek1 lk1 (by decide)) ?_
  refine gm_ev.icmp_ge_t (tgt := 174) i185_93 (by decide) c2 ?_
  refine gm_ev.aload_n i185_174 rfl ?_
  refine gm_ev.getfield (v := .ref (B + 29)) i185_175 rfl (bM_fld (j := 0) (fs := mF B s) rfl rfl) ?_
  refine gm_ev.iload_n i185_178 rfl ?_
  refine gm_ev.iload i185_179 rfl ?_
  refine gm_ev.if_eq_f i185_181 c3 ?_
  refine gm_ev.iload i185_184 rfl ?_
  refine gm_ev.goto (tgt := 190) i185_186 (by decide) ?_
  refine gm_ev.iastore (M' := (bM B (mH B (mA s 49 (upd (s.2.1 49) k4 x4))) G)) i185_190 (bM_asti (j := 29) (n := 60) (f := s.2.1 49) rfl ek4 lk4 (by decide) hN rfl) ?_
  refine gm_ev.iload_n i185_191 rfl ?_
  refine gm_ev.if_ne_t (tgt := 200) i185_192 (by decide) c5 ?_
  refine gm_ev.iconst (v := 1) i185_200 (by decide) ?_
  refine gm_ev.goto (tgt := 205) i185_201 (by decide) ?_
  refine gm_ev.istore_n (ls' := [some (.ref B), some (.int (1 : Int32)), some (.int x2), some (.int x3), some (.int x4), some (.int x5), some (.int x6), none]) i185_205 (Nat.le_of_ble_eq_true rfl) rfl ?_
  refine gm_ev.iinc (v := x3 + (1 : Int32)) (ls' := [some (.ref B), some (.int (1 : Int32)), some (.int x2), some (.int (x3 + (1 : Int32))), some (.int x4), some (.int x5), some (.int x6), none]) i185_206 rfl (by rfl) rfl ?_
  refine gm_ev.goto (tgt := 46) i185_209 (by decide) ?_
  refine gm_ev.le (a := [some (.ref B), some (.int (1 : Int32)), some (.int x2), some (.int (x3 + (1 : Int32))), none, none, none, none]) (gm_leL.le (show gm_leL _ _ from ⟨rfl, ⟨rfl, ⟨rfl, ⟨rfl, trivial⟩⟩⟩⟩)) ?_
  exact k
theorem r_weighs_83_tfft_at46 {N0 : Nat} {K : Nat → Nat} {d B : Nat} {s : mS} {G : gm_H} {sz sl : Nat} {R : gm_R} {x1 : Int32} {x2 : Int32} {x3 : Int32} {x4 : Int32} {x5 : Int32} {x6 : Int32} {k1 : Nat} {k4 : Nat} (hN : N0 ≤ B) (ek1 : (x3 + (1 : Int32)) = nI k1) (lk1 : k1 < 61) (c2 : (s.2.1 46 k1) ≤ x6) (c3 : ¬ x5 = 0) (ek4 : x3 = nI k4) (lk4 : k4 < 60) (c5 : x1 = 0) (c6 : x5 = 0) (k : gm_ev N0 K ra_nm (ra_mt K) d (some .boolean) (gm_I cX12_weighs) (gm_lkf (lkX12 false K)) 46 [some (.ref B), some (.int (0 : Int32)), some (.int x2), some (.int (x3 + (1 : Int32))), none, none, none, none] [] (bM B (mH B (mA s 49 (upd (s.2.1 49) k4 x4))) G) sz sl R) : gm_ev N0 K ra_nm (ra_mt K) d (some .boolean) (gm_I cX12_weighs) (gm_lkf (lkX12 false K)) 83 [some (.ref B), some (.int x1), some (.int x2), some (.int x3), some (.int x4), some (.int x5), some (.int x6), none] [] (bM B (mH B s) G) sz sl R := by
  refine gm_ev.iload i185_83 rfl ?_
  refine gm_ev.aload_n i185_85 rfl ?_
  refine gm_ev.getfield (v := .ref (B + 26)) i185_86 rfl (bM_fld (j := 0) (fs := mF B s) rfl rfl) ?_
  refine gm_ev.iload_n i185_89 rfl ?_
  refine gm_ev.iconst (v := 1) i185_90 (by decide) ?_
  refine gm_ev.iadd i185_91 ?_
  refine gm_ev.iaload i185_92 (bM_ai (j := 26) (n := 61) (f := s.2.1 46) rfl ek1 lk1 (by decide)) ?_
  refine gm_ev.icmp_ge_t (tgt := 174) i185_93 (by decide) c2 ?_
  refine gm_ev.aload_n i185_174 rfl ?_
  refine gm_ev.getfield (v := .ref (B + 29)) i185_175 rfl (bM_fld (j := 0) (fs := mF B s) rfl rfl) ?_
  refine gm_ev.iload_n i185_178 rfl ?_
  refine gm_ev.iload i185_179 rfl ?_
  refine gm_ev.if_eq_f i185_181 c3 ?_
  refine gm_ev.iload i185_184 rfl ?_
  refine gm_ev.goto (tgt := 190) i185_186 (by decide) ?_
  refine gm_ev.iastore (M' := (bM B (mH B (mA s 49 (upd (s.2.1 49) k4 x4))) G)) i185_190 (bM_asti (j := 29) (n := 60) (f := s.2.1 49) rfl ek4 lk4 (by decide) hN rfl) ?_
  refine gm_ev.iload_n i185_191 rfl ?_
  refine gm_ev.if_ne_f i185_192 c5 ?_
  refine gm_ev.iload i185_195 rfl ?_
  refine gm_ev.if_eq_t (tgt := 204) i185_197 (by decide) c6 ?_
  refine gm_ev.iconst (v := 0) i185_204 (by decide) ?_
  refine gm_ev.istore_n (ls' := [some (.ref B), some (.int (0 : Int32)), some (.int x2), some (.int x3), some (.int x4), some (.int x5), some (.int x6), none]) i185_205 (Nat.le_of_ble_eq_true rfl) rfl ?_
  refine gm_ev.iinc (v := x3 + (1 : Int32)) (ls' := [some (.ref B), some (.int (0 : Int32)), some (.int x2), some (.int (x3 + (1 : Int32))), some (.int x4), some (.int x5), some (.int x6), none]) i185_206 rfl (by rfl) rfl ?_
  refine gm_ev.goto (tgt := 46) i185_209 (by decide) ?_
  refine gm_ev.le (a := [some (.ref B), some (.int (0 : Int32)), some (.int x2), some (.int (x3 + (1 : Int32))), none, none, none, none]) (gm_leL.le (show gm_leL _ _ from ⟨rfl, ⟨rfl, ⟨rfl, ⟨rfl, trivial⟩⟩⟩⟩)) ?_
  exact k
theorem r_weighs_83_tfff_at46 {N0 : Nat} {K : Nat → Nat} {d B : Nat} {s : mS} {G : gm_H} {sz sl : Nat} {R : gm_R} {x1 : Int32} {x2 : Int32} {x3 : Int32} {x4 : Int32} {x5 : Int32} {x6 : Int32} {k1 : Nat} {k4 : Nat} (hN : N0 ≤ B) (ek1 : (x3 + (1 : Int32)) = nI k1) (lk1 : k1 < 61) (c2 : (s.2.1 46 k1) ≤ x6) (c3 : ¬ x5 = 0) (ek4 : x3 = nI k4) (lk4 : k4 < 60) (c5 : x1 = 0) (c6 : ¬ x5 = 0) (k : gm_ev N0 K ra_nm (ra_mt K) d (some .boolean) (gm_I cX12_weighs) (gm_lkf (lkX12 false K)) 46 [some (.ref B), some (.int (1 : Int32)), some (.int x2), some (.int (x3 + (1 : Int32))), none, none, none, none] [] (bM B (mH B (mA s 49 (upd (s.2.1 49) k4 x4))) G) sz sl R) : gm_ev N0 K ra_nm (ra_mt K) d (some .boolean) (gm_I cX12_weighs) (gm_lkf (lkX12 false K)) 83 [some (.ref B), some (.int x1), some (.int x2), some (.int x3), some (.int x4), some (.int x5), some (.int x6), none] [] (bM B (mH B s) G) sz sl R := by
  refine gm_ev.iload i185_83 rfl ?_
  refine gm_ev.aload_n i185_85 rfl ?_
  refine gm_ev.getfield (v := .ref (B + 26)) i185_86 rfl (bM_fld (j := 0) (fs := mF B s) rfl rfl) ?_
  refine gm_ev.iload_n i185_89 rfl ?_
  refine gm_ev.iconst (v := 1) i185_90 (by decide) ?_
  refine gm_ev.iadd i185_91 ?_
  refine gm_ev.iaload i185_92 (bM_ai (j := 26) (n := 61) (f := s.2.1 46) rfl ek1 lk1 (by decide)) ?_
  refine gm_ev.icmp_ge_t (tgt := 174) i185_93 (by decide) c2 ?_
  refine gm_ev.aload_n i185_174 rfl ?_
  refine gm_ev.getfield (v := .ref (B + 29)) i185_175 rfl (bM_fld (j := 0) (fs := mF B s) rfl rfl) ?_
  refine gm_ev.iload_n i185_178 rfl ?_
  refine gm_ev.iload i185_179 rfl ?_
  refine gm_ev.if_eq_f i185_181 c3 ?_
  refine gm_ev.iload i185_184 rfl ?_
  refine gm_ev.goto (tgt := 190) i185_186 (by decide) ?_
  refine gm_ev.iastore (M' := (bM B (mH B (mA s 49 (upd (s.2.1 49) k4 x4))) G)) i185_190 (bM_asti (j := 29) (n := 60) (f := s.2.1 49) rfl ek4 lk4 (by decide) hN rfl) ?_
  refine gm_ev.iload_n i185_191 rfl ?_
  refine gm_ev.if_ne_f i185_192 c5 ?_
  refine gm_ev.iload i185_195 rfl ?_
  refine gm_ev.if_eq_f i185_197 c6 ?_
  refine gm_ev.iconst (v := 1) i185_200 (by decide) ?_
  refine gm_ev.goto (tgt := 205) i185_201 (by decide) ?_
  refine gm_ev.istore_n (ls' := [some (.ref B), some (.int (1 : Int32)), some (.int x2), some (.int x3), some (.int x4), some (.int x5), some (.int x6), none]) i185_205 (Nat.le_of_ble_eq_true rfl) rfl ?_
  refine gm_ev.iinc (v := x3 + (1 : Int32)) (ls' := [some (.ref B), some (.int (1 : Int32)), some (.int x2), some (.int (x3 + (1 : Int32))), some (.int x4), some (.int x5), some (.int x6), none]) i185_206 rfl (by rfl) rfl ?_
  refine gm_ev.goto (tgt := 46) i185_209 (by decide) ?_
  refine gm_ev.le (a := [some (.ref B), some (.int (1 : Int32)), some (.int x2), some (.int (x3 + (1 : Int32))), none, none, none, none]) (gm_leL.le (show gm_leL _ _ from ⟨rfl, ⟨rfl, ⟨rfl, ⟨rfl, trivial⟩⟩⟩⟩)) ?_
  exact k
theorem r_weighs_83_ftt_at83 {N0 : Nat} {K : Nat → Nat} {d B : Nat} {s : mS} {G : gm_H} {sz sl : Nat} {R : gm_R} {x1 : Int32} {x2 : Int32} {x3 : Int32} {x4 : Int32} {x5 : Int32} {x6 : Int32} {k1 : Nat} {k3 : Nat} {k4 : Nat} (hN : N0 ≤ B) (ek1 : (x3 + (1 : Int32)) = nI k1) (lk1 : k1 < 61) (c2 : ¬ (s.2.1 46 k1) ≤ x6) (ek3 : x6 = nI k3) (lk3 : k3 < 12500) (ek4 : (s.2.1 47 k3) = nI k4) (lk4 : k4 < 60) (c5 : x5 = 0) (c6 : x4 < 0) (k : gm_ev N0 K ra_nm (ra_mt K) d (some .boolean) (gm_I cX12_weighs) (gm_lkf (lkX12 false K)) 83 [some (.ref B), some (.int x1), some (.int x2), some (.int x3), some (.int (s.2.1 49 k4)), some (.int (0 : Int32)), some (.int (x6 + (1 : Int32))), none] [] (bM B (mH B s) G) sz sl R) : gm_ev N0 K ra_nm (ra_mt K) d (some .boolean) (gm_I cX12_weighs) (gm_lkf (lkX12 false K)) 83 [some (.ref B), some (.int x1), some (.int x2), some (.int x3), some (.int x4), some (.int x5), some (.int x6), none] [] (bM B (mH B s) G) sz sl R := by
  refine gm_ev.iload i185_83 rfl ?_
  refine gm_ev.aload_n i185_85 rfl ?_
  refine gm_ev.getfield (v := .ref (B + 26)) i185_86 rfl (bM_fld (j := 0) (fs := mF B s) rfl rfl) ?_
  refine gm_ev.iload_n i185_89 rfl ?_
  refine gm_ev.iconst (v := 1) i185_90 (by decide) ?_
  refine gm_ev.iadd i185_91 ?_
  refine gm_ev.iaload i185_92 (bM_ai (j := 26) (n := 61) (f := s.2.1 46) rfl ek1 lk1 (by decide)) ?_
  refine gm_ev.icmp_ge_f i185_93 c2 ?_
  refine gm_ev.aload_n i185_96 rfl ?_
  refine gm_ev.getfield (v := .ref (B + 29)) i185_97 rfl (bM_fld (j := 0) (fs := mF B s) rfl rfl) ?_
  refine gm_ev.aload_n i185_100 rfl ?_
  refine gm_ev.getfield (v := .ref (B + 27)) i185_101 rfl (bM_fld (j := 0) (fs := mF B s) rfl rfl) ?_
  refine gm_ev.iload i185_104 rfl ?_
  refine gm_ev.iaload i185_106 (bM_ai (j := 27) (n := 12500) (f := s.2.1 47) rfl ek3 lk3 (by decide)) ?_
  refine gm_ev.iaload i185_107 (bM_ai (j := 29) (n := 60) (f := s.2.1 49) rfl ek4 lk4 (by decide)) ?_
  refine gm_ev.istore (ls' := [some (.ref B), some (.int x1), some (.int x2), some (.int x3), some (.int x4), some (.int x5), some (.int x6), some (.int (s.2.1 49 k4))]) i185_108 (Nat.le_of_ble_eq_true rfl) rfl ?_
  refine gm_ev.iload i185_110 rfl ?_
  refine gm_ev.if_eq_t (tgt := 124) i185_112 (by decide) c5 ?_
  refine gm_ev.iconst (v := 0) i185_124 (by decide) ?_
  refine gm_ev.istore (ls' := [some (.ref B), some (.int x1), some (.int x2), some (.int x3), some (.int x4), some (.int (0 : Int32)), some (.int x6), some (.int (s.2.1 49 k4))]) i185_125 (Nat.le_of_ble_eq_true rfl) rfl ?_
  refine gm_ev.iload i185_127 rfl ?_
  refine gm_ev.if_lt_t (tgt := 159) i185_129 (by decide) c6 ?_
  refine gm_ev.iload i185_159 rfl ?_
  refine gm_ev.goto (tgt := 166) i185_161 (by decide) ?_
  refine gm_ev.istore (ls' := [some (.ref B), some (.int x1), some (.int x2), some (.int x3), some (.int (s.2.1 49 k4)), some (.int (0 : Int32)), some (.int x6), some (.int (s.2.1 49 k4))]) i185_166 (Nat.le_of_ble_eq_true rfl) rfl ?_
  refine gm_ev.iinc (v := x6 + (1 : Int32)) (ls' := [some (.ref B), some (.int x1), some (.int x2), some (.int x3), some (.int (s.2.1 49 k4)), some (.int (0 : Int32)), some (.int (x6 + (1 : Int32))), some (.int (s.2.1 49 k4))]) i185_168 rfl (by rfl) rfl ?_
  refine gm_ev.goto (tgt := 83) i185_171 (by decide) ?_
  refine gm_ev.le (a := [some (.ref B), some (.int x1), some (.int x2), some (.int x3), some (.int (s.2.1 49 k4)), some (.int (0 : Int32)), some (.int (x6 + (1 : Int32))), none]) (gm_leL.le (show gm_leL _ _ from ⟨rfl, ⟨rfl, ⟨rfl, ⟨rfl, ⟨rfl, ⟨rfl, ⟨rfl, trivial⟩⟩⟩⟩⟩⟩⟩)) ?_
  exact k
theorem r_weighs_83_ftftt_at83 {N0 : Nat} {K : Nat → Nat} {d B : Nat} {s : mS} {G : gm_H} {sz sl : Nat} {R : gm_R} {x1 : Int32} {x2 : Int32} {x3 : Int32} {x4 : Int32} {x5 : Int32} {x6 : Int32} {k1 : Nat} {k3 : Nat} {k4 : Nat} {k7 : Nat} (hN : N0 ≤ B) (ek1 : (x3 + (1 : Int32)) = nI k1) (lk1 : k1 < 61) (c2 : ¬ (s.2.1 46 k1) ≤ x6) (ek3 : x6 = nI k3) (lk3 : k3 < 12500) (ek4 : (s.2.1 47 k3) = nI k4) (lk4 : k4 < 60) (c5 : x5 = 0) (c6 : ¬ x4 < 0) (ek7 : x3 = nI k7) (lk7 : k7 < 60) (c8 : ¬ (s.2.1 48 k7) = (1 : Int32)) (c9 : x4 ≤ (s.2.1 49 k4)) (k : gm_ev N0 K ra_nm (ra_mt K) d (some .boolean) (gm_I cX12_weighs) (gm_lkf (lkX12 false K)) 83 [some (.ref B), some (.int x1), some (.int x2), some (.int x3), some (.int x4), some (.int (0 : Int32)), some (.int (x6 + (1 : Int32))), none] [] (bM B (mH B s) G) sz sl R) : gm_ev N0 K ra_nm (ra_mt K) d (some .boolean) (gm_I cX12_weighs) (gm_lkf (lkX12 false K)) 83 [some (.ref B), some (.int x1), some (.int x2), some (.int x3), some (.int x4), some (.int x5), some (.int x6), none] [] (bM B (mH B s) G) sz sl R := by
  refine gm_ev.iload i185_83 rfl ?_
  refine gm_ev.aload_n i185_85 rfl ?_
  refine gm_ev.getfield (v := .ref (B + 26)) i185_86 rfl (bM_fld (j := 0) (fs := mF B s) rfl rfl) ?_
  refine gm_ev.iload_n i185_89 rfl ?_
  refine gm_ev.iconst (v := 1) i185_90 (by decide) ?_
  refine gm_ev.iadd i185_91 ?_
  refine gm_ev.iaload i185_92 (bM_ai (j := 26) (n := 61) (f := s.2.1 46) rfl ek1 lk1 (by decide)) ?_
  refine gm_ev.icmp_ge_f i185_93 c2 ?_
  refine gm_ev.aload_n i185_96 rfl ?_
  refine gm_ev.getfield (v := .ref (B + 29)) i185_97 rfl (bM_fld (j := 0) (fs := mF B s) rfl rfl) ?_
  refine gm_ev.aload_n i185_100 rfl ?_
  refine gm_ev.getfield (v := .ref (B + 27)) i185_101 rfl (bM_fld (j := 0) (fs := mF B s) rfl rfl) ?_
  refine gm_ev.iload i185_104 rfl ?_
  refine gm_ev.iaload i185_106 (bM_ai (j := 27) (n := 12500) (f := s.2.1 47) rfl ek3 lk3 (by decide)) ?_
  refine gm_ev.iaload i185_107 (bM_ai (j := 29) (n := 60) (f := s.2.1 49) rfl ek4 lk4 (by decide)) ?_
  refine gm_ev.istore (ls' := [some (.ref B), some (.int x1), some (.int x2), some (.int x3), some (.int x4), some (.int x5), some (.int x6), some (.int (s.2.1 49 k4))]) i185_108 (Nat.le_of_ble_eq_true rfl) rfl ?_
  refine gm_ev.iload i185_110 rfl ?_
  refine gm_ev.if_eq_t (tgt := 124) i185_112 (by decide) c5 ?_
  refine gm_ev.iconst (v := 0) i185_124 (by decide) ?_
  refine gm_ev.istore (ls' := [some (.ref B), some (.int x1), some (.int x2), some (.int x3), some (.int x4), some (.int (0 : Int32)), some (.int x6), some (.int (s.2.1 49 k4))]) i185_125 (Nat.le_of_ble_eq_true rfl) rfl ?_
  refine gm_ev.iload i185_127 rfl ?_
  refine gm_ev.if_lt_f i185_129 c6 ?_
  refine gm_ev.aload_n i185_132 rfl ?_
  refine gm_ev.getfield (v := .ref (B + 28)) i185_133 rfl (bM_fld (j := 0) (fs := mF B s) rfl rfl) ?_
  refine gm_ev.iload_n i185_136 rfl ?_
  refine gm_ev.iaload i185_137 (bM_ai (j := 28) (n := 60) (f := s.2.1 48) rfl ek7 lk7 (by decide)) ?_
  refine gm_ev.iconst (v := 1) i185_138 (by decide) ?_
  refine gm_ev.icmp_ne_t (tgt := 152) i185_139 (by decide) c8 ?_
  refine gm_ev.iload i185_152 rfl ?_
  refine gm_ev.iload i185_154 rfl ?_
  refine gm_ev.icmp_ge_t (tgt := 164) i185_156 (by decide) c9 ?_
  refine gm_ev.iload i185_164 rfl ?_
  refine gm_ev.istore (ls' := [some (.ref B), some (.int x1), some (.int x2), some (.int x3), some (.int x4), some (.int (0 : Int32)), some (.int x6), some (.int (s.2.1 49 k4))]) i185_166 (Nat.le_of_ble_eq_true rfl) rfl ?_
  refine gm_ev.iinc (v := x6 + (1 : Int32)) (ls' := [some (.ref B), some (.int x1), some (.int x2), some (.int x3), some (.int x4), some (.int (0 : Int32)), some (.int (x6 + (1 : Int32))), some (.int (s.2.1 49 k4))]) i185_168 rfl (by rfl) rfl ?_
  refine gm_ev.goto (tgt := 83) i185_171 (by decide) ?_
  refine gm_ev.le (a := [some (.ref B), some (.int x1), some (.int x2), some (.int x3), some (.int x4), some (.int (0 : Int32)), some (.int (x6 + (1 : Int32))), none]) (gm_leL.le (show gm_leL _ _ from ⟨rfl, ⟨rfl, ⟨rfl, ⟨rfl, ⟨rfl, ⟨rfl, ⟨rfl, trivial⟩⟩⟩⟩⟩⟩⟩)) ?_
  exact k
theorem r_weighs_83_ftftf_at83 {N0 : Nat} {K : Nat → Nat} {d B : Nat} {s : mS} {G : gm_H} {sz sl : Nat} {R : gm_R} {x1 : Int32} {x2 : Int32} {x3 : Int32} {x4 : Int32} {x5 : Int32} {x6 : Int32} {k1 : Nat} {k3 : Nat} {k4 : Nat} {k7 : Nat} (hN : N0 ≤ B) (ek1 : (x3 + (1 : Int32)) = nI k1) (lk1 : k1 < 61) (c2 : ¬ (s.2.1 46 k1) ≤ x6) (ek3 : x6 = nI k3) (lk3 : k3 < 12500) (ek4 : (s.2.1 47 k3) = nI k4) (lk4 : k4 < 60) (c5 : x5 = 0) (c6 : ¬ x4 < 0) (ek7 : x3 = nI k7) (lk7 : k7 < 60) (c8 : ¬ (s.2.1 48 k7) = (1 : Int32)) (c9 : ¬ x4 ≤ (s.2.1 49 k4)) (k : gm_ev N0 K ra_nm (ra_mt K) d (some .boolean) (gm_I cX12_weighs) (gm_lkf (lkX12 false K)) 83 [some (.ref B), some (.int x1), some (.int x2), some (.int x3), some (.int (s.2.1 49 k4)), some (.int (0 : Int32)), some (.int (x6 + (1 : Int32))), none] [] (bM B (mH B s) G) sz sl R) : gm_ev N0 K ra_nm (ra_mt K) d (some .boolean) (gm_I cX12_weighs) (gm_lkf (lkX12 false K)) 83 [some (.ref B), some (.int x1), some (.int x2), some (.int x3), some (.int x4), some (.int x5), some (.int x6), none] [] (bM B (mH B s) G) sz sl R := by
  refine gm_ev.iload i185_83 rfl ?_
  refine gm_ev.aload_n i185_85 rfl ?_
  refine gm_ev.getfield (v := .ref (B + 26)) i185_86 rfl (bM_fld (j := 0) (fs := mF B s) rfl rfl) ?_
  refine gm_ev.iload_n i185_89 rfl ?_
  refine gm_ev.iconst (v := 1) i185_90 (by decide) ?_
  refine gm_ev.iadd i185_91 ?_
  refine gm_ev.iaload i185_92 (bM_ai (j := 26) (n := 61) (f := s.2.1 46) rfl ek1 lk1 (by decide)) ?_
  refine gm_ev.icmp_ge_f i185_93 c2 ?_
  refine gm_ev.aload_n i185_96 rfl ?_
  refine gm_ev.getfield (v := .ref (B + 29)) i185_97 rfl (bM_fld (j := 0) (fs := mF B s) rfl rfl) ?_
  refine gm_ev.aload_n i185_100 rfl ?_
  refine gm_ev.getfield (v := .ref (B + 27)) i185_101 rfl (bM_fld (j := 0) (fs := mF B s) rfl rfl) ?_
  refine gm_ev.iload i185_104 rfl ?_
  refine gm_ev.iaload i185_106 (bM_ai (j := 27) (n := 12500) (f := s.2.1 47) rfl ek3 lk3 (by decide)) ?_
  refine gm_ev.iaload i185_107 (bM_ai (j := 29) (n := 60) (f := s.2.1 49) rfl ek4 lk4 (by decide)) ?_
  refine gm_ev.istore (ls' := [some (.ref B), some (.int x1), some (.int x2), some (.int x3), some (.int x4), some (.int x5), some (.int x6), some (.int (s.2.1 49 k4))]) i185_108 (Nat.le_of_ble_eq_true rfl) rfl ?_
  refine gm_ev.iload i185_110 rfl ?_
  refine gm_ev.if_eq_t (tgt := 124) i185_112 (by decide) c5 ?_
  refine gm_ev.iconst (v := 0) i185_124 (by decide) ?_
  refine gm_ev.istore (ls' := [some (.ref B), some (.int x1), some (.int x2), some (.int x3), some (.int x4), some (.int (0 : Int32)), some (.int x6), some (.int (s.2.1 49 k4))]) i185_125 (Nat.le_of_ble_eq_true rfl) rfl ?_
  refine gm_ev.iload i185_127 rfl ?_
  refine gm_ev.if_lt_f i185_129 c6 ?_
  refine gm_ev.aload_n i185_132 rfl ?_
  refine gm_ev.getfield (v := .ref (B + 28)) i185_133 rfl (bM_fld (j := 0) (fs := mF B s) rfl rfl) ?_
  refine gm_ev.iload_n i185_136 rfl ?_
  refine gm_ev.iaload i185_137 (bM_ai (j := 28) (n := 60) (f := s.2.1 48) rfl ek7 lk7 (by decide)) ?_
  refine gm_ev.iconst (v := 1) i185_138 (by decide) ?_
  refine gm_ev.icmp_ne_t (tgt := 152) i185_139 (by decide) c8 ?_
  refine gm_ev.iload i185_152 rfl ?_
  refine gm_ev.iload i185_154 rfl ?_
  refine gm_ev.icmp_ge_f i185_156 c9 ?_
  refine gm_ev.iload i185_159 rfl ?_
  refine gm_ev.goto (tgt := 166) i185_161 (by decide) ?_
  refine gm_ev.istore (ls' := [some (.ref B), some (.int x1), some (.int x2), some (.int x3), some (.int (s.2.1 49 k4)), some (.int (0 : Int32)), some (.int x6), some (.int (s.2.1 49 k4))]) i185_166 (Nat.le_of_ble_eq_true rfl) rfl ?_
  refine gm_ev.iinc (v := x6 + (1 : Int32)) (ls' := [some (.ref B), some (.int x1), some (.int x2), some (.int x3), some (.int (s.2.1 49 k4)), some (.int (0 : Int32)), some (.int (x6 + (1 : Int32))), some (.int (s.2.1 49 k4))]) i185_168 rfl (by rfl) rfl ?_
  refine gm_ev.goto (tgt := 83) i185_171 (by decide) ?_
  refine gm_ev.le (a := [some (.ref B), some (.int x1), some (.int x2), some (.int x3), some (.int (s.2.1 49 k4)), some (.int (0 : Int32)), some (.int (x6 + (1 : Int32))), none]) (gm_leL.le (show gm_leL _ _ from ⟨rfl, ⟨rfl, ⟨rfl, ⟨rfl, ⟨rfl, ⟨rfl, ⟨rfl, trivial⟩⟩⟩⟩⟩⟩⟩)) ?_
  exact k
theorem r_weighs_83_ftfft_at83 {N0 : Nat} {K : Nat → Nat} {d B : Nat} {s : mS} {G : gm_H} {sz sl : Nat} {R : gm_R} {x1 : Int32} {x2 : Int32} {x3 : Int32} {x4 : Int32} {x5 : Int32} {x6 : Int32} {k1 : Nat} {k3 : Nat} {k4 : Nat} {k7 : Nat} (hN : N0 ≤ B) (ek1 : (x3 + (1 : Int32)) = nI k1) (lk1 : k1 < 61) (c2 : ¬ (s.2.1 46 k1) ≤ x6) (ek3 : x6 = nI k3) (lk3 : k3 < 12500) (ek4 : (s.2.1 47 k3) = nI k4) (lk4 : k4 < 60) (c5 : x5 = 0) (c6 : ¬ x4 < 0) (ek7 : x3 = nI k7) (lk7 : k7 < 60) (c8 : (s.2.1 48 k7) = (1 : Int32)) (c9 : (s.2.1 49 k4) ≤ x4) (k : gm_ev N0 K ra_nm (ra_mt K) d (some .boolean) (gm_I cX12_weighs) (gm_lkf (lkX12 false K)) 83 [some (.ref B), some (.int x1), some (.int x2), some (.int x3), some (.int x4), some (.int (0 : Int32)), some (.int (x6 + (1 : Int32))), none] [] (bM B (mH B s) G) sz sl R) : gm_ev N0 K ra_nm (ra_mt K) d (some .boolean) (gm_I cX12_weighs) (gm_lkf (lkX12 false K)) 83 [some (.ref B), some (.int x1), some (.int x2), some (.int x3), some (.int x4), some (.int x5), some (.int x6), none] [] (bM B (mH B s) G) sz sl R := by
  refine gm_ev.iload i185_83 rfl ?_
  refine gm_ev.aload_n i185_85 rfl ?_
  refine gm_ev.getfield (v := .ref (B + 26)) i185_86 rfl (bM_fld (j := 0) (fs := mF B s) rfl rfl) ?_
  refine gm_ev.iload_n i185_89 rfl ?_
  refine gm_ev.iconst (v := 1) i185_90 (by decide) ?_
  refine gm_ev.iadd i185_91 ?_
  refine gm_ev.iaload i185_92 (bM_ai (j := 26) (n := 61) (f := s.2.1 46) rfl ek1 lk1 (by decide)) ?_
  refine gm_ev.icmp_ge_f i185_93 c2 ?_
  refine gm_ev.aload_n i185_96 rfl ?_
  refine gm_ev.getfield (v := .ref (B + 29)) i185_97 rfl (bM_fld (j := 0) (fs := mF B s) rfl rfl) ?_
  refine gm_ev.aload_n i185_100 rfl ?_
  refine gm_ev.getfield (v := .ref (B + 27)) i185_101 rfl (bM_fld (j := 0) (fs := mF B s) rfl rfl) ?_
  refine gm_ev.iload i185_104 rfl ?_
  refine gm_ev.iaload i185_106 (bM_ai (j := 27) (n := 12500) (f := s.2.1 47) rfl ek3 lk3 (by decide)) ?_
  refine gm_ev.iaload i185_107 (bM_ai (j := 29) (n := 60) (f := s.2.1 49) rfl ek4 lk4 (by decide)) ?_
  refine gm_ev.istore (ls' := [some (.ref B), some (.int x1), some (.int x2), some (.int x3), some (.int x4), some (.int x5), some (.int x6), some (.int (s.2.1 49 k4))]) i185_108 (Nat.le_of_ble_eq_true rfl) rfl ?_
  refine gm_ev.iload i185_110 rfl ?_
  refine gm_ev.if_eq_t (tgt := 124) i185_112 (by decide) c5 ?_
  refine gm_ev.iconst (v := 0) i185_124 (by decide) ?_
  refine gm_ev.istore (ls' := [some (.ref B), some (.int x1), some (.int x2), some (.int x3), some (.int x4), some (.int (0 : Int32)), some (.int x6), some (.int (s.2.1 49 k4))]) i185_125 (Nat.le_of_ble_eq_true rfl) rfl ?_
  refine gm_ev.iload i185_127 rfl ?_
  refine gm_ev.if_lt_f i185_129 c6 ?_
  refine gm_ev.aload_n i185_132 rfl ?_
  refine gm_ev.getfield (v := .ref (B + 28)) i185_133 rfl (bM_fld (j := 0) (fs := mF B s) rfl rfl) ?_
  refine gm_ev.iload_n i185_136 rfl ?_
  refine gm_ev.iaload i185_137 (bM_ai (j := 28) (n := 60) (f := s.2.1 48) rfl ek7 lk7 (by decide)) ?_
  refine gm_ev.iconst (v := 1) i185_138 (by decide) ?_
  refine gm_ev.icmp_ne_f i185_139 c8 ?_
  refine gm_ev.iload i185_142 rfl ?_
  refine gm_ev.iload i185_144 rfl ?_
  refine gm_ev.icmp_le_t (tgt := 164) i185_146 (by decide) c9 ?_
  refine gm_ev.iload i185_164 rfl ?_
  refine gm_ev.istore (ls' := [some (.ref B), some (.int x1), some (.int x2), some (.int x3), some (.int x4), some (.int (0 : Int32)), some (.int x6), some (.int (s.2.1 49 k4))]) i185_166 (Nat.le_of_ble_eq_true rfl) rfl ?_
  refine gm_ev.iinc (v := x6 + (1 : Int32)) (ls' := [some (.ref B), some (.int x1), some (.int x2), some (.int x3), some (.int x4), some (.int (0 : Int32)), some (.int (x6 + (1 : Int32))), some (.int (s.2.1 49 k4))]) i185_168 rfl (by rfl) rfl ?_
  refine gm_ev.goto (tgt := 83) i185_171 (by decide) ?_
  refine gm_ev.le (a := [some (.ref B), some (.int x1), some (.int x2), some (.int x3), some (.int x4), some (.int (0 : Int32)), some (.int (x6 + (1 : Int32))), none]) (gm_leL.le (show gm_leL _ _ from ⟨rfl, ⟨rfl, ⟨rfl, ⟨rfl, ⟨rfl, ⟨rfl, ⟨rfl, trivial⟩⟩⟩⟩⟩⟩⟩)) ?_
  exact k
theorem r_weighs_83_ftfff_at83 {N0 : Nat} {K : Nat → Nat} {d B : Nat} {s : mS} {G : gm_H} {sz sl : Nat} {R : gm_R} {x1 : Int32} {x2 : Int32} {x3 : Int32} {x4 : Int32} {x5 : Int32} {x6 : Int32} {k1 : Nat} {k3 : Nat} {k4 : Nat} {k7 : Nat} (hN : N0 ≤ B) (ek1 : (x3 + (1 : Int32)) = nI k1) (lk1 : k1 < 61) (c2 : ¬ (s.2.1 46 k1) ≤ x6) (ek3 : x6 = nI k3) (lk3 : k3 < 12500) (ek4 : (s.2.1 47 k3) = nI k4) (lk4 : k4 < 60) (c5 : x5 = 0) (c6 : ¬ x4 < 0) (ek7 : x3 = nI k7) (lk7 : k7 < 60) (c8 : (s.2.1 48 k7) = (1 : Int32)) (c9 : ¬ (s.2.1 49 k4) ≤ x4) (k : gm_ev N0 K ra_nm (ra_mt K) d (some .boolean) (gm_I cX12_weighs) (gm_lkf (lkX12 false K)) 83 [some (.ref B), some (.int x1), some (.int x2), some (.int x3), some (.int (s.2.1 49 k4)), some (.int (0 : Int32)), some (.int (x6 + (1 : Int32))), none] [] (bM B (mH B s) G) sz sl R) : gm_ev N0 K ra_nm (ra_mt K) d (some .boolean) (gm_I cX12_weighs) (gm_lkf (lkX12 false K)) 83 [some (.ref B), some (.int x1), some (.int x2), some (.int x3), some (.int x4), some (.int x5), some (.int x6), none] [] (bM B (mH B s) G) sz sl R := by
  refine gm_ev.iload i185_83 rfl ?_
  refine gm_ev.aload_n i185_85 rfl ?_
  refine gm_ev.getfield (v := .ref (B + 26)) i185_86 rfl (bM_fld (j := 0) (fs := mF B s) rfl rfl) ?_
  refine gm_ev.iload_n i185_89 rfl ?_
  refine gm_ev.iconst (v := 1) i185_90 (by decide) ?_
  refine gm_ev.iadd i185_91 ?_
  refine gm_ev.iaload i185_92 (bM_ai (j := 26) (n := 61) (f := s.2.1 46) rfl ek1 lk1 (by decide)) ?_
  refine gm_ev.icmp_ge_f i185_93 c2 ?_
  refine gm_ev.aload_n i185_96 rfl ?_
  refine gm_ev.getfield (v := .ref (B + 29)) i185_97 rfl (bM_fld (j := 0) (fs := mF B s) rfl rfl) ?_
  refine gm_ev.aload_n i185_100 rfl ?_
  refine gm_ev.getfield (v := .ref (B + 27)) i185_101 rfl (bM_fld (j := 0) (fs := mF B s) rfl rfl) ?_
  refine gm_ev.iload i185_104 rfl ?_
  refine gm_ev.iaload i185_106 (bM_ai (j := 27) (n := 12500) (f := s.2.1 47) rfl ek3 lk3 (by decide)) ?_
  refine gm_ev.iaload i185_107 (bM_ai (j := 29) (n := 60) (f := s.2.1 49) rfl ek4 lk4 (by decide)) ?_
  refine gm_ev.istore (ls' := [some (.ref B), some (.int x1), some (.int x2), some (.int x3), some (.int x4), some (.int x5), some (.int x6), some (.int (s.2.1 49 k4))]) i185_108 (Nat.le_of_ble_eq_true rfl) rfl ?_
  refine gm_ev.iload i185_110 rfl ?_
  refine gm_ev.if_eq_t (tgt := 124) i185_112 (by decide) c5 ?_
  refine gm_ev.iconst (v := 0) i185_124 (by decide) ?_
  refine gm_ev.istore (ls' := [some (.ref B), some (.int x1), some (.int x2), some (.int x3), some (.int x4), some (.int (0 : Int32)), some (.int x6), some (.int (s.2.1 49 k4))]) i185_125 (Nat.le_of_ble_eq_true rfl) rfl ?_
  refine gm_ev.iload i185_127 rfl ?_
  refine gm_ev.if_lt_f i185_129 c6 ?_
  refine gm_ev.aload_n i185_132 rfl ?_
  refine gm_ev.getfield (v := .ref (B + 28)) i185_133 rfl (bM_fld (j := 0) (fs := mF B s) rfl rfl) ?_
  refine gm_ev.iload_n i185_136 rfl ?_
  refine gm_ev.iaload i185_137 (bM_ai (j := 28) (n := 60) (f := s.2.1 48) rfl ek7 lk7 (by decide)) ?_
  refine gm_ev.iconst (v := 1) i185_138 (by decide) ?_
  refine gm_ev.icmp_ne_f i185_139 c8 ?_
  refine gm_ev.iload i185_142 rfl ?_
  refine gm_ev.iload i185_144 rfl ?_
  refine gm_ev.icmp_le_f i185_146 c9 ?_
  refine gm_ev.goto (tgt := 159) i185_149 (by decide) ?_
  refine gm_ev.iload i185_159 rfl ?_
  refine gm_ev.goto (tgt := 166) i185_161 (by decide) ?_
  refine gm_ev.istore (ls' := [some (.ref B), some (.int x1), some (.int x2), some (.int x3), some (.int (s.2.1 49 k4)), some (.int (0 : Int32)), some (.int x6), some (.int (s.2.1 49 k4))]) i185_166 (Nat.le_of_ble_eq_true rfl) rfl ?_
  refine gm_ev.iinc (v := x6 + (1 : Int32)) (ls' := [some (.ref B), some (.int x1), some (.int x2), some (.int x3), some (.int (s.2.1 49 k4)), some (.int (0 : Int32)), some (.int (x6 + (1 : Int32))), some (.int (s.2.1 49 k4))]) i185_168 rfl (by rfl) rfl ?_
  refine gm_ev.goto (tgt := 83) i185_171 (by decide) ?_
  refine gm_ev.le (a := [some (.ref B), some (.int x1), some (.int x2), some (.int x3), some (.int (s.2.1 49 k4)), some (.int (0 : Int32)), some (.int (x6 + (1 : Int32))), none]) (gm_leL.le (show gm_leL _ _ from ⟨rfl, ⟨rfl, ⟨rfl, ⟨rfl, ⟨rfl, ⟨rfl, ⟨rfl, trivial⟩⟩⟩⟩⟩⟩⟩)) ?_
  exact k
theorem r_weighs_83_fftt_at83 {N0 : Nat} {K : Nat → Nat} {d B : Nat} {s : mS} {G : gm_H} {sz sl : Nat} {R : gm_R} {x1 : Int32} {x2 : Int32} {x3 : Int32} {x4 : Int32} {x5 : Int32} {x6 : Int32} {k1 : Nat} {k3 : Nat} {k4 : Nat} (hN : N0 ≤ B) (ek1 : (x3 + (1 : Int32)) = nI k1) (lk1 : k1 < 61) (c2 : ¬ (s.2.1 46 k1) ≤ x6) (ek3 : x6 = nI k3) (lk3 : k3 < 12500) (ek4 : (s.2.1 47 k3) = nI k4) (lk4 : k4 < 60) (c5 : ¬ x5 = 0) (c6 : (s.2.1 49 k4) < 0) (c7 : x4 < 0) (k : gm_ev N0 K ra_nm (ra_mt K) d (some .boolean) (gm_I cX12_weighs) (gm_lkf (lkX12 false K)) 83 [some (.ref B), some (.int x1), some (.int x2), some (.int x3), some (.int (s.2.1 49 k4)), some (.int (0 : Int32)), some (.int (x6 + (1 : Int32))), none] [] (bM B (mH B s) G) sz sl R) : gm_ev N0 K ra_nm (ra_mt K) d (some .boolean) (gm_I cX12_weighs) (gm_lkf (lkX12 false K)) 83 [some (.ref B), some (.int x1), some (.int x2), some (.int x3), some (.int x4), some (.int x5), some (.int x6), none] [] (bM B (mH B s) G) sz sl R := by
  refine gm_ev.iload i185_83 rfl ?_
  refine gm_ev.aload_n i185_85 rfl ?_
  refine gm_ev.getfield (v := .ref (B + 26)) i185_86 rfl (bM_fld (j := 0) (fs := mF B s) rfl rfl) ?_
  refine gm_ev.iload_n i185_89 rfl ?_
  refine gm_ev.iconst (v := 1) i185_90 (by decide) ?_
  refine gm_ev.iadd i185_91 ?_
  refine gm_ev.iaload i185_92 (bM_ai (j := 26) (n := 61) (f := s.2.1 46) rfl ek1 lk1 (by decide)) ?_
  refine gm_ev.icmp_ge_f i185_93 c2 ?_
  refine gm_ev.aload_n i185_96 rfl ?_
  refine gm_ev.getfield (v := .ref (B + 29)) i185_97 rfl (bM_fld (j := 0) (fs := mF B s) rfl rfl) ?_
  refine gm_ev.aload_n i185_100 rfl ?_
  refine gm_ev.getfield (v := .ref (B + 27)) i185_101 rfl (bM_fld (j := 0) (fs := mF B s) rfl rfl) ?_
  refine gm_ev.iload i185_104 rfl ?_
  refine gm_ev.iaload i185_106 (bM_ai (j := 27) (n := 12500) (f := s.2.1 47) rfl ek3 lk3 (by decide)) ?_
  refine gm_ev.iaload i185_107 (bM_ai (j := 29) (n := 60) (f := s.2.1 49) rfl ek4 lk4 (by decide)) ?_
  refine gm_ev.istore (ls' := [some (.ref B), some (.int x1), some (.int x2), some (.int x3), some (.int x4), some (.int x5), some (.int x6), some (.int (s.2.1 49 k4))]) i185_108 (Nat.le_of_ble_eq_true rfl) rfl ?_
  refine gm_ev.iload i185_110 rfl ?_
  refine gm_ev.if_eq_f i185_112 c5 ?_
  refine gm_ev.iload i185_115 rfl ?_
  refine gm_ev.if_lt_t (tgt := 124) i185_117 (by decide) c6 ?_
  refine gm_ev.iconst (v := 0) i185_124 (by decide) ?_
  refine gm_ev.istore (ls' := [some (.ref B), some (.int x1), some (.int x2), some (.int x3), some (.int x4), some (.int (0 : Int32)), some (.int x6), some (.int (s.2.1 49 k4))]) i185_125 (Nat.le_of_ble_eq_true rfl) rfl ?_
  refine gm_ev.iload i185_127 rfl ?_
  refine gm_ev.if_lt_t (tgt := 159) i185_129 (by decide) c7 ?_
  refine gm_ev.iload i185_159 rfl ?_
  refine gm_ev.goto (tgt := 166) i185_161 (by decide) ?_
  refine gm_ev.istore (ls' := [some (.ref B), some (.int x1), some (.int x2), some (.int x3), some (.int (s.2.1 49 k4)), some (.int (0 : Int32)), some (.int x6), some (.int (s.2.1 49 k4))]) i185_166 (Nat.le_of_ble_eq_true rfl) rfl ?_
  refine gm_ev.iinc (v := x6 + (1 : Int32)) (ls' := [some (.ref B), some (.int x1), some (.int x2), some (.int x3), some (.int (s.2.1 49 k4)), some (.int (0 : Int32)), some (.int (x6 + (1 : Int32))), some (.int (s.2.1 49 k4))]) i185_168 rfl (by rfl) rfl ?_
  refine gm_ev.goto (tgt := 83) i185_171 (by decide) ?_
  refine gm_ev.le (a := [some (.ref B), some (.int x1), some (.int x2), some (.int x3), some (.int (s.2.1 49 k4)), some (.int (0 : Int32)), some (.int (x6 + (1 : Int32))), none]) (gm_leL.le (show gm_leL _ _ from ⟨rfl, ⟨rfl, ⟨rfl, ⟨rfl, ⟨rfl, ⟨rfl, ⟨rfl, trivial⟩⟩⟩⟩⟩⟩⟩)) ?_
  exact k
theorem r_weighs_83_fftftt_at83 {N0 : Nat} {K : Nat → Nat} {d B : Nat} {s : mS} {G : gm_H} {sz sl : Nat} {R : gm_R} {x1 : Int32} {x2 : Int32} {x3 : Int32} {x4 : Int32} {x5 : Int32} {x6 : Int32} {k1 : Nat} {k3 : Nat} {k4 : Nat} {k8 : Nat} (hN : N0 ≤ B) (ek1 : (x3 + (1 : Int32)) = nI k1) (lk1 : k1 < 61) (c2 : ¬ (s.2.1 46 k1) ≤ x6) (ek3 : x6 = nI k3) (lk3 : k3 < 12500) (ek4 : (s.2.1 47 k3) = nI k4) (lk4 : k4 < 60) (c5 : ¬ x5 = 0) (c6 : (s.2.1 49 k4) < 0) (c7 : ¬ x4 < 0) (ek8 : x3 = nI k8) (lk8 : k8 < 60) (c9 : ¬ (s.2.1 48 k8) = (1 : Int32)) (c10 : x4 ≤ (s.2.1 49 k4)) (k : gm_ev N0 K ra_nm (ra_mt K) d (some .boolean) (gm_I cX12_weighs) (gm_lkf (lkX12 false K)) 83 [some (.ref B), some (.int x1), some (.int x2), some (.int x3), some (.int x4), some (.int (0 : Int32)), some (.int (x6 + (1 : Int32))), none] [] (bM B (mH B s) G) sz sl R) : gm_ev N0 K ra_nm (ra_mt K) d (some .boolean) (gm_I cX12_weighs) (gm_lkf (lkX12 false K)) 83 [some (.ref B), some (.int x1), some (.int x2), some (.int x3), some (.int x4), some (.int x5), some (.int x6), none] [] (bM B (mH B s) G) sz sl R := by
  refine gm_ev.iload i185_83 rfl ?_
  refine gm_ev.aload_n i185_85 rfl ?_
  refine gm_ev.getfield (v := .ref (B + 26)) i185_86 rfl (bM_fld (j := 0) (fs := mF B s) rfl rfl) ?_
  refine gm_ev.iload_n i185_89 rfl ?_
  refine gm_ev.iconst (v := 1) i185_90 (by decide) ?_
  refine gm_ev.iadd i185_91 ?_
  refine gm_ev.iaload i185_92 (bM_ai (j := 26) (n := 61) (f := s.2.1 46) rfl ek1 lk1 (by decide)) ?_
  refine gm_ev.icmp_ge_f i185_93 c2 ?_
  refine gm_ev.aload_n i185_96 rfl ?_
  refine gm_ev.getfield (v := .ref (B + 29)) i185_97 rfl (bM_fld (j := 0) (fs := mF B s) rfl rfl) ?_
  refine gm_ev.aload_n i185_100 rfl ?_
  refine gm_ev.getfield (v := .ref (B + 27)) i185_101 rfl (bM_fld (j := 0) (fs := mF B s) rfl rfl) ?_
  refine gm_ev.iload i185_104 rfl ?_
  refine gm_ev.iaload i185_106 (bM_ai (j := 27) (n := 12500) (f := s.2.1 47) rfl ek3 lk3 (by decide)) ?_
  refine gm_ev.iaload i185_107 (bM_ai (j := 29) (n := 60) (f := s.2.1 49) rfl ek4 lk4 (by decide)) ?_
  refine gm_ev.istore (ls' := [some (.ref B), some (.int x1), some (.int x2), some (.int x3), some (.int x4), some (.int x5), some (.int x6), some (.int (s.2.1 49 k4))]) i185_108 (Nat.le_of_ble_eq_true rfl) rfl ?_
  refine gm_ev.iload i185_110 rfl ?_
  refine gm_ev.if_eq_f i185_112 c5 ?_
  refine gm_ev.iload i185_115 rfl ?_
  refine gm_ev.if_lt_t (tgt := 124) i185_117 (by decide) c6 ?_
  refine gm_ev.iconst (v := 0) i185_124 (by decide) ?_
  refine gm_ev.istore (ls' := [some (.ref B), some (.int x1), some (.int x2), some (.int x3), some (.int x4), some (.int (0 : Int32)), some (.int x6), some (.int (s.2.1 49 k4))]) i185_125 (Nat.le_of_ble_eq_true rfl) rfl ?_
  refine gm_ev.iload i185_127 rfl ?_
  refine gm_ev.if_lt_f i185_129 c7 ?_
  refine gm_ev.aload_n i185_132 rfl ?_
  refine gm_ev.getfield (v := .ref (B + 28)) i185_133 rfl (bM_fld (j := 0) (fs := mF B s) rfl rfl) ?_
  refine gm_ev.iload_n i185_136 rfl ?_
  refine gm_ev.iaload i185_137 (bM_ai (j := 28) (n := 60) (f := s.2.1 48) rfl ek8 lk8 (by decide)) ?_
  refine gm_ev.iconst (v := 1) i185_138 (by decide) ?_
  refine gm_ev.icmp_ne_t (tgt := 152) i185_139 (by decide) c9 ?_
  refine gm_ev.iload i185_152 rfl ?_
  refine gm_ev.iload i185_154 rfl ?_
  refine gm_ev.icmp_ge_t (tgt := 164) i185_156 (by decide) c10 ?_
  refine gm_ev.iload i185_164 rfl ?_
  refine gm_ev.istore (ls' := [some (.ref B), some (.int x1), some (.int x2), some (.int x3), some (.int x4), some (.int (0 : Int32)), some (.int x6), some (.int (s.2.1 49 k4))]) i185_166 (Nat.le_of_ble_eq_true rfl) rfl ?_
  refine gm_ev.iinc (v := x6 + (1 : Int32)) (ls' := [some (.ref B), some (.int x1), some (.int x2), some (.int x3), some (.int x4), some (.int (0 : Int32)), some (.int (x6 + (1 : Int32))), some (.int (s.2.1 49 k4))]) i185_168 rfl (by rfl) rfl ?_
  refine gm_ev.goto (tgt := 83) i185_171 (by decide) ?_
  refine gm_ev.le (a := [some (.ref B), some (.int x1), some (.int x2), some (.int x3), some (.int x4), some (.int (0 : Int32)), some (.int (x6 + (1 : Int32))), none]) (gm_leL.le (show gm_leL _ _ from ⟨rfl, ⟨rfl, ⟨rfl, ⟨rfl, ⟨rfl, ⟨rfl, ⟨rfl, trivial⟩⟩⟩⟩⟩⟩⟩)) ?_
  exact k
theorem r_weighs_83_fftftf_at83 {N0 : Nat} {K : Nat → Nat} {d B : Nat} {s : mS} {G : gm_H} {sz sl : Nat} {R : gm_R} {x1 : Int32} {x2 : Int32} {x3 : Int32} {x4 : Int32} {x5 : Int32} {x6 : Int32} {k1 : Nat} {k3 : Nat} {k4 : Nat} {k8 : Nat} (hN : N0 ≤ B) (ek1 : (x3 + (1 : Int32)) = nI k1) (lk1 : k1 < 61) (c2 : ¬ (s.2.1 46 k1) ≤ x6) (ek3 : x6 = nI k3) (lk3 : k3 < 12500) (ek4 : (s.2.1 47 k3) = nI k4) (lk4 : k4 < 60) (c5 : ¬ x5 = 0) (c6 : (s.2.1 49 k4) < 0) (c7 : ¬ x4 < 0) (ek8 : x3 = nI k8) (lk8 : k8 < 60) (c9 : ¬ (s.2.1 48 k8) = (1 : Int32)) (c10 : ¬ x4 ≤ (s.2.1 49 k4)) (k : gm_ev N0 K ra_nm (ra_mt K) d (some .boolean) (gm_I cX12_weighs) (gm_lkf (lkX12 false K)) 83 [some (.ref B), some (.int x1), some (.int x2), some (.int x3), some (.int (s.2.1 49 k4)), some (.int (0 : Int32)), some (.int (x6 + (1 : Int32))), none] [] (bM B (mH B s) G) sz sl R) : gm_ev N0 K ra_nm (ra_mt K) d (some .boolean) (gm_I cX12_weighs) (gm_lkf (lkX12 false K)) 83 [some (.ref B), some (.int x1), some (.int x2), some (.int x3), some (.int x4), some (.int x5), some (.int x6), none] [] (bM B (mH B s) G) sz sl R := by
  refine gm_ev.iload i185_83 rfl ?_
  refine gm_ev.aload_n i185_85 rfl ?_
  refine gm_ev.getfield (v := .ref (B + 26)) i185_86 rfl (bM_fld (j := 0) (fs := mF B s) rfl rfl) ?_
  refine gm_ev.iload_n i185_89 rfl ?_
  refine gm_ev.iconst (v := 1) i185_90 (by decide) ?_
  refine gm_ev.iadd i185_91 ?_
  refine gm_ev.iaload i185_92 (bM_ai (j := 26) (n := 61) (f := s.2.1 46) rfl ek1 lk1 (by decide)) ?_
  refine gm_ev.icmp_ge_f i185_93 c2 ?_
  refine gm_ev.aload_n i185_96 rfl ?_
  refine gm_ev.getfield (v := .ref (B + 29)) i185_97 rfl (bM_fld (j := 0) (fs := mF B s) rfl rfl) ?_
  refine gm_ev.aload_n i185_100 rfl ?_
  refine gm_ev.getfield (v := .ref (B + 27)) i185_101 rfl (bM_fld (j := 0) (fs := mF B s) rfl rfl) ?_
  refine gm_ev.iload i185_104 rfl ?_
  refine gm_ev.iaload i185_106 (bM_ai (j := 27) (n := 12500) (f := s.2.1 47) rfl ek3 lk3 (by decide)) ?_
  refine gm_ev.iaload i185_107 (bM_ai (j := 29) (n := 60) (f := s.2.1 49) rfl ek4 lk4 (by decide)) ?_
  refine gm_ev.istore (ls' := [some (.ref B), some (.int x1), some (.int x2), some (.int x3), some (.int x4), some (.int x5), some (.int x6), some (.int (s.2.1 49 k4))]) i185_108 (Nat.le_of_ble_eq_true rfl) rfl ?_
  refine gm_ev.iload i185_110 rfl ?_
  refine gm_ev.if_eq_f i185_112 c5 ?_
  refine gm_ev.iload i185_115 rfl ?_
  refine gm_ev.if_lt_t (tgt := 124) i185_117 (by decide) c6 ?_
  refine gm_ev.iconst (v := 0) i185_124 (by decide) ?_
  refine gm_ev.istore (ls' := [some (.ref B), some (.int x1), some (.int x2), some (.int x3), some (.int x4), some (.int (0 : Int32)), some (.int x6), some (.int (s.2.1 49 k4))]) i185_125 (Nat.le_of_ble_eq_true rfl) rfl ?_
  refine gm_ev.iload i185_127 rfl ?_
  refine gm_ev.if_lt_f i185_129 c7 ?_
  refine gm_ev.aload_n i185_132 rfl ?_
  refine gm_ev.getfield (v := .ref (B + 28)) i185_133 rfl (bM_fld (j := 0) (fs := mF B s) rfl rfl) ?_
  refine gm_ev.iload_n i185_136 rfl ?_
  refine gm_ev.iaload i185_137 (bM_ai (j := 28) (n := 60) (f := s.2.1 48) rfl ek8 lk8 (by decide)) ?_
  refine gm_ev.iconst (v := 1) i185_138 (by decide) ?_
  refine gm_ev.icmp_ne_t (tgt := 152) i185_139 (by decide) c9 ?_
  refine gm_ev.iload i185_152 rfl ?_
  refine gm_ev.iload i185_154 rfl ?_
  refine gm_ev.icmp_ge_f i185_156 c10 ?_
  refine gm_ev.iload i185_159 rfl ?_
  refine gm_ev.goto (tgt := 166) i185_161 (by decide) ?_
  refine gm_ev.istore (ls' := [some (.ref B), some (.int x1), some (.int x2), some (.int x3), some (.int (s.2.1 49 k4)), some (.int (0 : Int32)), some (.int x6), some (.int (s.2.1 49 k4))]) i185_166 (Nat.le_of_ble_eq_true rfl) rfl ?_
  refine gm_ev.iinc (v := x6 + (1 : Int32)) (ls' := [some (.ref B), some (.int x1), some (.int x2), some (.int x3), some (.int (s.2.1 49 k4)), some (.int (0 : Int32)), some (.int (x6 + (1 : Int32))), some (.int (s.2.1 49 k4))]) i185_168 rfl (by rfl) rfl ?_
  refine gm_ev.goto (tgt := 83) i185_171 (by decide) ?_
  refine gm_ev.le (a := [some (.ref B), some (.int x1), some (.int x2), some (.int x3), some (.int (s.2.1 49 k4)), some (.int (0 : Int32)), some (.int (x6 + (1 : Int32))), none]) (gm_leL.le (show gm_leL _ _ from ⟨rfl, ⟨rfl, ⟨rfl, ⟨rfl, ⟨rfl, ⟨rfl, ⟨rfl, trivial⟩⟩⟩⟩⟩⟩⟩)) ?_
  exact k
theorem r_weighs_83_fftfft_at83 {N0 : Nat} {K : Nat → Nat} {d B : Nat} {s : mS} {G : gm_H} {sz sl : Nat} {R : gm_R} {x1 : Int32} {x2 : Int32} {x3 : Int32} {x4 : Int32} {x5 : Int32} {x6 : Int32} {k1 : Nat} {k3 : Nat} {k4 : Nat} {k8 : Nat} (hN : N0 ≤ B) (ek1 : (x3 + (1 : Int32)) = nI k1) (lk1 : k1 < 61) (c2 : ¬ (s.2.1 46 k1) ≤ x6) (ek3 : x6 = nI k3) (lk3 : k3 < 12500) (ek4 : (s.2.1 47 k3) = nI k4) (lk4 : k4 < 60) (c5 : ¬ x5 = 0) (c6 : (s.2.1 49 k4) < 0) (c7 : ¬ x4 < 0) (ek8 : x3 = nI k8) (lk8 : k8 < 60) (c9 : (s.2.1 48 k8) = (1 : Int32)) (c10 : (s.2.1 49 k4) ≤ x4) (k : gm_ev N0 K ra_nm (ra_mt K) d (some .boolean) (gm_I cX12_weighs) (gm_lkf (lkX12 false K)) 83 [some (.ref B), some (.int x1), some (.int x2), some (.int x3), some (.int x4), some (.int (0 : Int32)), some (.int (x6 + (1 : Int32))), none] [] (bM B (mH B s) G) sz sl R) : gm_ev N0 K ra_nm (ra_mt K) d (some .boolean) (gm_I cX12_weighs) (gm_lkf (lkX12 false K)) 83 [some (.ref B), some (.int x1), some (.int x2), some (.int x3), some (.int x4), some (.int x5), some (.int x6), none] [] (bM B (mH B s) G) sz sl R := by
  refine gm_ev.iload i185_83 rfl ?_
  refine gm_ev.aload_n i185_85 rfl ?_
  refine gm_ev.getfield (v := .ref (B + 26)) i185_86 rfl (bM_fld (j := 0) (fs := mF B s) rfl rfl) ?_
  refine gm_ev.iload_n i185_89 rfl ?_
  refine gm_ev.iconst (v := 1) i185_90 (by decide) ?_
  refine gm_ev.iadd i185_91 ?_
  refine gm_ev.iaload i185_92 (bM_ai (j := 26) (n := 61) (f := s.2.1 46) rfl ek1 lk1 (by decide)) ?_
  refine gm_ev.icmp_ge_f i185_93 c2 ?_
  refine gm_ev.aload_n i185_96 rfl ?_
  refine gm_ev.getfield (v := .ref (B + 29)) i185_97 rfl (bM_fld (j := 0) (fs := mF B s) rfl rfl) ?_
  refine gm_ev.aload_n i185_100 rfl ?_
  refine gm_ev.getfield (v := .ref (B + 27)) i185_101 rfl (bM_fld (j := 0) (fs := mF B s) rfl rfl) ?_
  refine gm_ev.iload i185_104 rfl ?_
  refine gm_ev.iaload i185_106 (bM_ai (j := 27) (n := 12500) (f := s.2.1 47) rfl ek3 lk3 (by decide)) ?_
  refine gm_ev.iaload i185_107 (bM_ai (j := 29) (n := 60) (f := s.2.1 49) rfl ek4 lk4 (by decide)) ?_
  refine gm_ev.istore (ls' := [some (.ref B), some (.int x1), some (.int x2), some (.int x3), some (.int x4), some (.int x5), some (.int x6), some (.int (s.2.1 49 k4))]) i185_108 (Nat.le_of_ble_eq_true rfl) rfl ?_
  refine gm_ev.iload i185_110 rfl ?_
  refine gm_ev.if_eq_f i185_112 c5 ?_
  refine gm_ev.iload i185_115 rfl ?_
  refine gm_ev.if_lt_t (tgt := 124) i185_117 (by decide) c6 ?_
  refine gm_ev.iconst (v := 0) i185_124 (by decide) ?_
  refine gm_ev.istore (ls' := [some (.ref B), some (.int x1), some (.int x2), some (.int x3), some (.int x4), some (.int (0 : Int32)), some (.int x6), some (.int (s.2.1 49 k4))]) i185_125 (Nat.le_of_ble_eq_true rfl) rfl ?_
  refine gm_ev.iload i185_127 rfl ?_
  refine gm_ev.if_lt_f i185_129 c7 ?_
  refine gm_ev.aload_n i185_132 rfl ?_
  refine gm_ev.getfield (v := .ref (B + 28)) i185_133 rfl (bM_fld (j := 0) (fs := mF B s) rfl rfl) ?_
  refine gm_ev.iload_n i185_136 rfl ?_
  refine gm_ev.iaload i185_137 (bM_ai (j := 28) (n := 60) (f := s.2.1 48) rfl ek8 lk8 (by decide)) ?_
  refine gm_ev.iconst (v := 1) i185_138 (by decide) ?_
  refine gm_ev.icmp_ne_f i185_139 c9 ?_
  refine gm_ev.iload i185_142 rfl ?_
  refine gm_ev.iload i185_144 rfl ?_
  refine gm_ev.icmp_le_t (tgt := 164) i185_146 (by decide) c10 ?_
  refine gm_ev.iload i185_164 rfl ?_
  refine gm_ev.istore (ls' := [some (.ref B), some (.int x1), some (.int x2), some (.int x3), some (.int x4), some (.int (0 : Int32)), some (.int x6), some (.int (s.2.1 49 k4))]) i185_166 (Nat.le_of_ble_eq_true rfl) rfl ?_
  refine gm_ev.iinc (v := x6 + (1 : Int32)) (ls' := [some (.ref B), some (.int x1), some (.int x2), some (.int x3), some (.int x4), some (.int (0 : Int32)), some (.int (x6 + (1 : Int32))), some (.int (s.2.1 49 k4))]) i185_168 rfl (by rfl) rfl ?_
  refine gm_ev.goto (tgt := 83) i185_171 (by decide) ?_
  refine gm_ev.le (a := [some (.ref B), some (.int x1), some (.int x2), some (.int x3), some (.int x4), some (.int (0 : Int32)), some (.int (x6 + (1 : Int32))), none]) (gm_leL.le (show gm_leL _ _ from ⟨rfl, ⟨rfl, ⟨rfl, ⟨rfl, ⟨rfl, ⟨rfl, ⟨rfl, trivial⟩⟩⟩⟩⟩⟩⟩)) ?_
  exact k
theorem r_weighs_83_fftfff_at83 {N0 : Nat} {K : Nat → Nat} {d B : Nat} {s : mS} {G : gm_H} {sz sl : Nat} {R : gm_R} {x1 : Int32} {x2 : Int32} {x3 : Int32} {x4 : Int32} {x5 : Int32} {x6 : Int32} {k1 : Nat} {k3 : Nat} {k4 : Nat} {k8 : Nat} (hN : N0 ≤ B) (ek1 : (x3 + (1 : Int32)) = nI k1) (lk1 : k1 < 61) (c2 : ¬ (s.2.1 46 k1) ≤ x6) (ek3 : x6 = nI k3) (lk3 : k3 < 12500) (ek4 : (s.2.1 47 k3) = nI k4) (lk4 : k4 < 60) (c5 : ¬ x5 = 0) (c6 : (s.2.1 49 k4) < 0) (c7 : ¬ x4 < 0) (ek8 : x3 = nI k8) (lk8 : k8 < 60) (c9 : (s.2.1 48 k8) = (1 : Int32)) (c10 : ¬ (s.2.1 49 k4) ≤ x4) (k : gm_ev N0 K ra_nm (ra_mt K) d (some .boolean) (gm_I cX12_weighs) (gm_lkf (lkX12 false K)) 83 [some (.ref B), some (.int x1), some (.int x2), some (.int x3), some (.int (s.2.1 49 k4)), some (.int (0 : Int32)), some (.int (x6 + (1 : Int32))), none] [] (bM B (mH B s) G) sz sl R) : gm_ev N0 K ra_nm (ra_mt K) d (some .boolean) (gm_I cX12_weighs) (gm_lkf (lkX12 false K)) 83 [some (.ref B), some (.int x1), some (.int x2), some (.int x3), some (.int x4), some (.int x5), some (.int x6), none] [] (bM B (mH B s) G) sz sl R := by
  refine gm_ev.iload i185_83 rfl ?_
  refine gm_ev.aload_n i185_85 rfl ?_
  refine gm_ev.getfield (v := .ref (B + 26)) i185_86 rfl (bM_fld (j := 0) (fs := mF B s) rfl rfl) ?_
  refine gm_ev.iload_n i185_89 rfl ?_
  refine gm_ev.iconst (v := 1) i185_90 (by decide) ?_
  refine gm_ev.iadd i185_91 ?_
  refine gm_ev.iaload i185_92 (bM_ai (j := 26) (n := 61) (f := s.2.1 46) rfl ek1 lk1 (by decide)) ?_
  refine gm_ev.icmp_ge_f i185_93 c2 ?_
  refine gm_ev.aload_n i185_96 rfl ?_
  refine gm_ev.getfield (v := .ref (B + 29)) i185_97 rfl (bM_fld (j := 0) (fs := mF B s) rfl rfl) ?_
  refine gm_ev.aload_n i185_100 rfl ?_
  refine gm_ev.getfield (v := .ref (B + 27)) i185_101 rfl (bM_fld (j := 0) (fs := mF B s) rfl rfl) ?_
  refine gm_ev.iload i185_104 rfl ?_
  refine gm_ev.iaload i185_106 (bM_ai (j := 27) (n := 12500) (f := s.2.1 47) rfl ek3 lk3 (by decide)) ?_
  refine gm_ev.iaload i185_107 (bM_ai (j := 29) (n := 60) (f := s.2.1 49) rfl ek4 lk4 (by decide)) ?_
  refine gm_ev.istore (ls' := [some (.ref B), some (.int x1), some (.int x2), some (.int x3), some (.int x4), some (.int x5), some (.int x6), some (.int (s.2.1 49 k4))]) i185_108 (Nat.le_of_ble_eq_true rfl) rfl ?_
  refine gm_ev.iload i185_110 rfl ?_
  refine gm_ev.if_eq_f i185_112 c5 ?_
  refine gm_ev.iload i185_115 rfl ?_
  refine gm_ev.if_lt_t (tgt := 124) i185_117 (by decide) c6 ?_
  refine gm_ev.iconst (v := 0) i185_124 (by decide) ?_
  refine gm_ev.istore (ls' := [some (.ref B), some (.int x1), some (.int x2), some (.int x3), some (.int x4), some (.int (0 : Int32)), some (.int x6), some (.int (s.2.1 49 k4))]) i185_125 (Nat.le_of_ble_eq_true rfl) rfl ?_
  refine gm_ev.iload i185_127 rfl ?_
  refine gm_ev.if_lt_f i185_129 c7 ?_
  refine gm_ev.aload_n i185_132 rfl ?_
  refine gm_ev.getfield (v := .ref (B + 28)) i185_133 rfl (bM_fld (j := 0) (fs := mF B s) rfl rfl) ?_
  refine gm_ev.iload_n i185_136 rfl ?_
  refine gm_ev.iaload i185_137 (bM_ai (j := 28) (n := 60) (f := s.2.1 48) rfl ek8 lk8 (by decide)) ?_
  refine gm_ev.iconst (v := 1) i185_138 (by decide) ?_
  refine gm_ev.icmp_ne_f i185_139 c9 ?_
  refine gm_ev.iload i185_142 rfl ?_
  refine gm_ev.iload i185_144 rfl ?_
  refine gm_ev.icmp_le_f i185_146 c10 ?_
  refine gm_ev.goto (tgt := 159) i185_149 (by decide) ?_
  refine gm_ev.iload i185_159 rfl ?_
  refine gm_ev.goto (tgt := 166) i185_161 (by decide) ?_
  refine gm_ev.istore (ls' := [some (.ref B), some (.int x1), some (.int x2), some (.int x3), some (.int (s.2.1 49 k4)), some (.int (0 : Int32)), some (.int x6), some (.int (s.2.1 49 k4))]) i185_166 (Nat.le_of_ble_eq_true rfl) rfl ?_
  refine gm_ev.iinc (v := x6 + (1 : Int32)) (ls' := [some (.ref B), some (.int x1), some (.int x2), some (.int x3), some (.int (s.2.1 49 k4)), some (.int (0 : Int32)), some (.int (x6 + (1 : Int32))), some (.int (s.2.1 49 k4))]) i185_168 rfl (by rfl) rfl ?_
  refine gm_ev.goto (tgt := 83) i185_171 (by decide) ?_
  refine gm_ev.le (a := [some (.ref B), some (.int x1), some (.int x2), some (.int x3), some (.int (s.2.1 49 k4)), some (.int (0 : Int32)), some (.int (x6 + (1 : Int32))), none]) (gm_leL.le (show gm_leL _ _ from ⟨rfl, ⟨rfl, ⟨rfl, ⟨rfl, ⟨rfl, ⟨rfl, ⟨rfl, trivial⟩⟩⟩⟩⟩⟩⟩)) ?_
  exact k
theorem r_weighs_83_ffft_at83 {N0 : Nat} {K : Nat → Nat} {d B : Nat} {s : mS} {G : gm_H} {sz sl : Nat} {R : gm_R} {x1 : Int32} {x2 : Int32} {x3 : Int32} {x4 : Int32} {x5 : Int32} {x6 : Int32} {k1 : Nat} {k3 : Nat} {k4 : Nat} (hN : N0 ≤ B) (ek1 : (x3 + (1 : Int32)) = nI k1) (lk1 : k1 < 61) (c2 : ¬ (s.2.1 46 k1) ≤ x6) (ek3 : x6 = nI k3) (lk3 : k3 < 12500) (ek4 : (s.2.1 47 k3) = nI k4) (lk4 : k4 < 60) (c5 : ¬ x5 = 0) (c6 : ¬ (s.2.1 49 k4) < 0) (c7 : x4 < 0) (k : gm_ev N0 K ra_nm (ra_mt K) d (some .boolean) (gm_I cX12_weighs) (gm_lkf (lkX12 false K)) 83 [some (.ref B), some (.int x1), some (.int x2), some (.int x3), some (.int (s.2.1 49 k4)), some (.int (1 : Int32)), some (.int (x6 + (1 : Int32))), none] [] (bM B (mH B s) G) sz sl R) : gm_ev N0 K ra_nm (ra_mt K) d (some .boolean) (gm_I cX12_weighs) (gm_lkf (lkX12 false K)) 83 [some (.ref B), some (.int x1), some (.int x2), some (.int x3), some (.int x4), some (.int x5), some (.int x6), none] [] (bM B (mH B s) G) sz sl R := by
  refine gm_ev.iload i185_83 rfl ?_
  refine gm_ev.aload_n i185_85 rfl ?_
  refine gm_ev.getfield (v := .ref (B + 26)) i185_86 rfl (bM_fld (j := 0) (fs := mF B s) rfl rfl) ?_
  refine gm_ev.iload_n i185_89 rfl ?_
  refine gm_ev.iconst (v := 1) i185_90 (by decide) ?_
  refine gm_ev.iadd i185_91 ?_
  refine gm_ev.iaload i185_92 (bM_ai (j := 26) (n := 61) (f := s.2.1 46) rfl ek1 lk1 (by decide)) ?_
  refine gm_ev.icmp_ge_f i185_93 c2 ?_
  refine gm_ev.aload_n i185_96 rfl ?_
  refine gm_ev.getfield (v := .ref (B + 29)) i185_97 rfl (bM_fld (j := 0) (fs := mF B s) rfl rfl) ?_
  refine gm_ev.aload_n i185_100 rfl ?_
  refine gm_ev.getfield (v := .ref (B + 27)) i185_101 rfl (bM_fld (j := 0) (fs := mF B s) rfl rfl) ?_
  refine gm_ev.iload i185_104 rfl ?_
  refine gm_ev.iaload i185_106 (bM_ai (j := 27) (n := 12500) (f := s.2.1 47) rfl ek3 lk3 (by decide)) ?_
  refine gm_ev.iaload i185_107 (bM_ai (j := 29) (n := 60) (f := s.2.1 49) rfl ek4 lk4 (by decide)) ?_
  refine gm_ev.istore (ls' := [some (.ref B), some (.int x1), some (.int x2), some (.int x3), some (.int x4), some (.int x5), some (.int x6), some (.int (s.2.1 49 k4))]) i185_108 (Nat.le_of_ble_eq_true rfl) rfl ?_
  refine gm_ev.iload i185_110 rfl ?_
  refine gm_ev.if_eq_f i185_112 c5 ?_
  refine gm_ev.iload i185_115 rfl ?_
  refine gm_ev.if_lt_f i185_117 c6 ?_
  refine gm_ev.iconst (v := 1) i185_120 (by decide) ?_
  refine gm_ev.goto (tgt := 125) i185_121 (by decide) ?_
  refine gm_ev.istore (ls' := [some (.ref B), some (.int x1), some (.int x2), some (.int x3), some (.int x4), some (.int (1 : Int32)), some (.int x6), some (.int (s.2.1 49 k4))]) i185_125 (Nat.le_of_ble_eq_true rfl) rfl ?_
  refine gm_ev.iload i185_127 rfl ?_
  refine gm_ev.if_lt_t (tgt := 159) i185_129 (by decide) c7 ?_
  refine gm_ev.iload i185_159 rfl ?_
  refine gm_ev.goto (tgt := 166) i185_161 (by decide) ?_
  refine gm_ev.istore (ls' := [some (.ref B), some (.int x1), some (.int x2), some (.int x3), some (.int (s.2.1 49 k4)), some (.int (1 : Int32)), some (.int x6), some (.int (s.2.1 49 k4))]) i185_166 (Nat.le_of_ble_eq_true rfl) rfl ?_
  refine gm_ev.iinc (v := x6 + (1 : Int32)) (ls' := [some (.ref B), some (.int x1), some (.int x2), some (.int x3), some (.int (s.2.1 49 k4)), some (.int (1 : Int32)), some (.int (x6 + (1 : Int32))), some (.int (s.2.1 49 k4))]) i185_168 rfl (by rfl) rfl ?_
  refine gm_ev.goto (tgt := 83) i185_171 (by decide) ?_
  refine gm_ev.le (a := [some (.ref B), some (.int x1), some (.int x2), some (.int x3), some (.int (s.2.1 49 k4)), some (.int (1 : Int32)), some (.int (x6 + (1 : Int32))), none]) (gm_leL.le (show gm_leL _ _ from ⟨rfl, ⟨rfl, ⟨rfl, ⟨rfl, ⟨rfl, ⟨rfl, ⟨rfl, trivial⟩⟩⟩⟩⟩⟩⟩)) ?_
  exact k
theorem r_weighs_83_fffftt_at83 {N0 : Nat} {K : Nat → Nat} {d B : Nat} {s : mS} {G : gm_H} {sz sl : Nat} {R : gm_R} {x1 : Int32} {x2 : Int32} {x3 : Int32} {x4 : Int32} {x5 : Int32} {x6 : Int32} {k1 : Nat} {k3 : Nat} {k4 : Nat} {k8 : Nat} (hN : N0 ≤ B) (ek1 : (x3 + (1 : Int32)) = nI k1) (lk1 : k1 < 61) (c2 : ¬ (s.2.1 46 k1) ≤ x6) (ek3 : x6 = nI k3) (lk3 : k3 < 12500) (ek4 : (s.2.1 47 k3) = nI k4) (lk4 : k4 < 60) (c5 : ¬ x5 = 0) (c6 : ¬ (s.2.1 49 k4) < 0) (c7 : ¬ x4 < 0) (ek8 : x3 = nI k8) (lk8 : k8 < 60) (c9 : ¬ (s.2.1 48 k8) = (1 : Int32)) (c10 : x4 ≤ (s.2.1 49 k4)) (k : gm_ev N0 K ra_nm (ra_mt K) d (some .boolean) (gm_I cX12_weighs) (gm_lkf (lkX12 false K)) 83 [some (.ref B), some (.int x1), some (.int x2), some (.int x3), some (.int x4), some (.int (1 : Int32)), some (.int (x6 + (1 : Int32))), none] [] (bM B (mH B s) G) sz sl R) : gm_ev N0 K ra_nm (ra_mt K) d (some .boolean) (gm_I cX12_weighs) (gm_lkf (lkX12 false K)) 83 [some (.ref B), some (.int x1), some (.int x2), some (.int x3), some (.int x4), some (.int x5), some (.int x6), none] [] (bM B (mH B s) G) sz sl R := by
  refine gm_ev.iload i185_83 rfl ?_
  refine gm_ev.aload_n i185_85 rfl ?_
  refine gm_ev.getfield (v := .ref (B + 26)) i185_86 rfl (bM_fld (j := 0) (fs := mF B s) rfl rfl) ?_
  refine gm_ev.iload_n i185_89 rfl ?_
  refine gm_ev.iconst (v := 1) i185_90 (by decide) ?_
  refine gm_ev.iadd i185_91 ?_
  refine gm_ev.iaload i185_92 (bM_ai (j := 26) (n := 61) (f := s.2.1 46) rfl ek1 lk1 (by decide)) ?_
  refine gm_ev.icmp_ge_f i185_93 c2 ?_
  refine gm_ev.aload_n i185_96 rfl ?_
  refine gm_ev.getfield (v := .ref (B + 29)) i185_97 rfl (bM_fld (j := 0) (fs := mF B s) rfl rfl) ?_
  refine gm_ev.aload_n i185_100 rfl ?_
  refine gm_ev.getfield (v := .ref (B + 27)) i185_101 rfl (bM_fld (j := 0) (fs := mF B s) rfl rfl) ?_
  refine gm_ev.iload i185_104 rfl ?_
  refine gm_ev.iaload i185_106 (bM_ai (j := 27) (n := 12500) (f := s.2.1 47) rfl ek3 lk3 (by decide)) ?_
  refine gm_ev.iaload i185_107 (bM_ai (j := 29) (n := 60) (f := s.2.1 49) rfl ek4 lk4 (by decide)) ?_
  refine gm_ev.istore (ls' := [some (.ref B), some (.int x1), some (.int x2), some (.int x3), some (.int x4), some (.int x5), some (.int x6), some (.int (s.2.1 49 k4))]) i185_108 (Nat.le_of_ble_eq_true rfl) rfl ?_
  refine gm_ev.iload i185_110 rfl ?_
  refine gm_ev.if_eq_f i185_112 c5 ?_
  refine gm_ev.iload i185_115 rfl ?_
  refine gm_ev.if_lt_f i185_117 c6 ?_
  refine gm_ev.iconst (v := 1) i185_120 (by decide) ?_
  refine gm_ev.goto (tgt := 125) i185_121 (by decide) ?_
  refine gm_ev.istore (ls' := [some (.ref B), some (.int x1), some (.int x2), some (.int x3), some (.int x4), some (.int (1 : Int32)), some (.int x6), some (.int (s.2.1 49 k4))]) i185_125 (Nat.le_of_ble_eq_true rfl) rfl ?_
  refine gm_ev.iload i185_127 rfl ?_
  refine gm_ev.if_lt_f i185_129 c7 ?_
  refine gm_ev.aload_n i185_132 rfl ?_
  refine gm_ev.getfield (v := .ref (B + 28)) i185_133 rfl (bM_fld (j := 0) (fs := mF B s) rfl rfl) ?_
  refine gm_ev.iload_n i185_136 rfl ?_
  refine gm_ev.iaload i185_137 (bM_ai (j := 28) (n := 60) (f := s.2.1 48) rfl ek8 lk8 (by decide)) ?_
  refine gm_ev.iconst (v := 1) i185_138 (by decide) ?_
  refine gm_ev.icmp_ne_t (tgt := 152) i185_139 (by decide) c9 ?_
  refine gm_ev.iload i185_152 rfl ?_
  refine gm_ev.iload i185_154 rfl ?_
  refine gm_ev.icmp_ge_t (tgt := 164) i185_156 (by decide) c10 ?_
  refine gm_ev.iload i185_164 rfl ?_
  refine gm_ev.istore (ls' := [some (.ref B), some (.int x1), some (.int x2), some (.int x3), some (.int x4), some (.int (1 : Int32)), some (.int x6), some (.int (s.2.1 49 k4))]) i185_166 (Nat.le_of_ble_eq_true rfl) rfl ?_
  refine gm_ev.iinc (v := x6 + (1 : Int32)) (ls' := [some (.ref B), some (.int x1), some (.int x2), some (.int x3), some (.int x4), some (.int (1 : Int32)), some (.int (x6 + (1 : Int32))), some (.int (s.2.1 49 k4))]) i185_168 rfl (by rfl) rfl ?_
  refine gm_ev.goto (tgt := 83) i185_171 (by decide) ?_
  refine gm_ev.le (a := [some (.ref B), some (.int x1), some (.int x2), some (.int x3), some (.int x4), some (.int (1 : Int32)), some (.int (x6 + (1 : Int32))), none]) (gm_leL.le (show gm_leL _ _ from ⟨rfl, ⟨rfl, ⟨rfl, ⟨rfl, ⟨rfl, ⟨rfl, ⟨rfl, trivial⟩⟩⟩⟩⟩⟩⟩)) ?_
  exact k
theorem r_weighs_83_fffftf_at83 {N0 : Nat} {K : Nat → Nat} {d B : Nat} {s : mS} {G : gm_H} {sz sl : Nat} {R : gm_R} {x1 : Int32} {x2 : Int32} {x3 : Int32} {x4 : Int32} {x5 : Int32} {x6 : Int32} {k1 : Nat} {k3 : Nat} {k4 : Nat} {k8 : Nat} (hN : N0 ≤ B) (ek1 : (x3 + (1 : Int32)) = nI k1) (lk1 : k1 < 61) (c2 : ¬ (s.2.1 46 k1) ≤ x6) (ek3 : x6 = nI k3) (lk3 : k3 < 12500) (ek4 : (s.2.1 47 k3) = nI k4) (lk4 : k4 < 60) (c5 : ¬ x5 = 0) (c6 : ¬ (s.2.1 49 k4) < 0) (c7 : ¬ x4 < 0) (ek8 : x3 = nI k8) (lk8 : k8 < 60) (c9 : ¬ (s.2.1 48 k8) = (1 : Int32)) (c10 : ¬ x4 ≤ (s.2.1 49 k4)) (k : gm_ev N0 K ra_nm (ra_mt K) d (some .boolean) (gm_I cX12_weighs) (gm_lkf (lkX12 false K)) 83 [some (.ref B), some (.int x1), some (.int x2), some (.int x3), some (.int (s.2.1 49 k4)), some (.int (1 : Int32)), some (.int (x6 + (1 : Int32))), none] [] (bM B (mH B s) G) sz sl R) : gm_ev N0 K ra_nm (ra_mt K) d (some .boolean) (gm_I cX12_weighs) (gm_lkf (lkX12 false K)) 83 [some (.ref B), some (.int x1), some (.int x2), some (.int x3), some (.int x4), some (.int x5), some (.int x6), none] [] (bM B (mH B s) G) sz sl R := by
  refine gm_ev.iload i185_83 rfl ?_
  refine gm_ev.aload_n i185_85 rfl ?_
  refine gm_ev.getfield (v := .ref (B + 26)) i185_86 rfl (bM_fld (j := 0) (fs := mF B s) rfl rfl) ?_
  refine gm_ev.iload_n i185_89 rfl ?_
  refine gm_ev.iconst (v := 1) i185_90 (by decide) ?_
  refine gm_ev.iadd i185_91 ?_
  refine gm_ev.iaload i185_92 (bM_ai (j := 26) (n := 61) (f := s.2.1 46) rfl ek1 lk1 (by decide)) ?_
  refine gm_ev.icmp_ge_f i185_93 c2 ?_
  refine gm_ev.aload_n i185_96 rfl ?_
  refine gm_ev.getfield (v := .ref (B + 29)) i185_97 rfl (bM_fld (j := 0) (fs := mF B s) rfl rfl) ?_
  refine gm_ev.aload_n i185_100 rfl ?_
  refine gm_ev.getfield (v := .ref (B + 27)) i185_101 rfl (bM_fld (j := 0) (fs := mF B s) rfl rfl) ?_
  refine gm_ev.iload i185_104 rfl ?_
  refine gm_ev.iaload i185_106 (bM_ai (j := 27) (n := 12500) (f := s.2.1 47) rfl ek3 lk3 (by decide)) ?_
  refine gm_ev.iaload i185_107 (bM_ai (j := 29) (n := 60) (f := s.2.1 49) rfl ek4 lk4 (by decide)) ?_
  refine gm_ev.istore (ls' := [some (.ref B), some (.int x1), some (.int x2), some (.int x3), some (.int x4), some (.int x5), some (.int x6), some (.int (s.2.1 49 k4))]) i185_108 (Nat.le_of_ble_eq_true rfl) rfl ?_
  refine gm_ev.iload i185_110 rfl ?_
  refine gm_ev.if_eq_f i185_112 c5 ?_
  refine gm_ev.iload i185_115 rfl ?_
  refine gm_ev.if_lt_f i185_117 c6 ?_
  refine gm_ev.iconst (v := 1) i185_120 (by decide) ?_
  refine gm_ev.goto (tgt := 125) i185_121 (by decide) ?_
  refine gm_ev.istore (ls' := [some (.ref B), some (.int x1), some (.int x2), some (.int x3), some (.int x4), some (.int (1 : Int32)), some (.int x6), some (.int (s.2.1 49 k4))]) i185_125 (Nat.le_of_ble_eq_true rfl) rfl ?_
  refine gm_ev.iload i185_127 rfl ?_
  refine gm_ev.if_lt_f i185_129 c7 ?_
  refine gm_ev.aload_n i185_132 rfl ?_
  refine gm_ev.getfield (v := .ref (B + 28)) i185_133 rfl (bM_fld (j := 0) (fs := mF B s) rfl rfl) ?_
  refine gm_ev.iload_n i185_136 rfl ?_
  refine gm_ev.iaload i185_137 (bM_ai (j := 28) (n := 60) (f := s.2.1 48) rfl ek8 lk8 (by decide)) ?_
  refine gm_ev.iconst (v := 1) i185_138 (by decide) ?_
  refine gm_ev.icmp_ne_t (tgt := 152) i185_139 (by decide) c9 ?_
  refine gm_ev.iload i185_152 rfl ?_
  refine gm_ev.iload i185_154 rfl ?_
  refine gm_ev.icmp_ge_f i185_156 c10 ?_
  refine gm_ev.iload i185_159 rfl ?_
  refine gm_ev.goto (tgt := 166) i185_161 (by decide) ?_
  refine gm_ev.istore (ls' := [some (.ref B), some (.int x1), some (.int x2), some (.int x3), some (.int (s.2.1 49 k4)), some (.int (1 : Int32)), some (.int x6), some (.int (s.2.1 49 k4))]) i185_166 (Nat.le_of_ble_eq_true rfl) rfl ?_
  refine gm_ev.iinc (v := x6 + (1 : Int32)) (ls' := [some (.ref B), some (.int x1), some (.int x2), some (.int x3), some (.int (s.2.1 49 k4)), some (.int (1 : Int32)), some (.int (x6 + (1 : Int32))), some (.int (s.2.1 49 k4))]) i185_168 rfl (by rfl) rfl ?_
  refine gm_ev.goto (tgt := 83) i185_171 (by decide) ?_
  refine gm_ev.le (a := [some (.ref B), some (.int x1), some (.int x2), some (.int x3), some (.int (s.2.1 49 k4)), some (.int (1 : Int32)), some (.int (x6 + (1 : Int32))), none]) (gm_leL.le (show gm_leL _ _ from ⟨rfl, ⟨rfl, ⟨rfl, ⟨rfl, ⟨rfl, ⟨rfl, ⟨rfl, trivial⟩⟩⟩⟩⟩⟩⟩)) ?_
  exact k
theorem r_weighs_83_ffffft_at83 {N0 : Nat} {K : Nat → Nat} {d B : Nat} {s : mS} {G : gm_H} {sz sl : Nat} {R : gm_R} {x1 : Int32} {x2 : Int32} {x3 : Int32} {x4 : Int32} {x5 : Int32} {x6 : Int32} {k1 : Nat} {k3 : Nat} {k4 : Nat} {k8 : Nat} (hN : N0 ≤ B) (ek1 : (x3 + (1 : Int32)) = nI k1) (lk1 : k1 < 61) (c2 : ¬ (s.2.1 46 k1) ≤ x6) (ek3 : x6 = nI k3) (lk3 : k3 < 12500) (ek4 : (s.2.1 47 k3) = nI k4) (lk4 : k4 < 60) (c5 : ¬ x5 = 0) (c6 : ¬ (s.2.1 49 k4) < 0) (c7 : ¬ x4 < 0) (ek8 : x3 = nI k8) (lk8 : k8 < 60) (c9 : (s.2.1 48 k8) = (1 : Int32)) (c10 : (s.2.1 49 k4) ≤ x4) (k : gm_ev N0 K ra_nm (ra_mt K) d (some .boolean) (gm_I cX12_weighs) (gm_lkf (lkX12 false K)) 83 [some (.ref B), some (.int x1), some (.int x2), some (.int x3), some (.int x4), some (.int (1 : Int32)), some (.int (x6 + (1 : Int32))), none] [] (bM B (mH B s) G) sz sl R) : gm_ev N0 K ra_nm (ra_mt K) d (some .boolean) (gm_I cX12_weighs) (gm_lkf (lkX12 false K)) 83 [some (.ref B), some (.int x1), some (.int x2), some (.int x3), some (.int x4), some (.int x5), some (.int x6), none] [] (bM B (mH B s) G) sz sl R := by
  refine gm_ev.iload i185_83 rfl ?_
  refine gm_ev.aload_n i185_85 rfl ?_
  refine gm_ev.getfield (v := .ref (B + 26)) i185_86 rfl (bM_fld (j := 0) (fs := mF B s) rfl rfl) ?_
  refine gm_ev.iload_n i185_89 rfl ?_
  refine gm_ev.iconst (v := 1) i185_90 (by decide) ?_
  refine gm_ev.iadd i185_91 ?_
  refine gm_ev.iaload i185_92 (bM_ai (j := 26) (n := 61) (f := s.2.1 46) rfl ek1 lk1 (by decide)) ?_
  refine gm_ev.icmp_ge_f i185_93 c2 ?_
  refine gm_ev.aload_n i185_96 rfl ?_
  refine gm_ev.getfield (v := .ref (B + 29)) i185_97 rfl (bM_fld (j := 0) (fs := mF B s) rfl rfl) ?_
  refine gm_ev.aload_n i185_100 rfl ?_
  refine gm_ev.getfield (v := .ref (B + 27)) i185_101 rfl (bM_fld (j := 0) (fs := mF B s) rfl rfl) ?_
  refine gm_ev.iload i185_104 rfl ?_
  refine gm_ev.iaload i185_106 (bM_ai (j := 27) (n := 12500) (f := s.2.1 47) rfl ek3 lk3 (by decide)) ?_
  refine gm_ev.iaload i185_107 (bM_ai (j := 29) (n := 60) (f := s.2.1 49) rfl ek4 lk4 (by decide)) ?_
  refine gm_ev.istore (ls' := [some (.ref B), some (.int x1), some (.int x2), some (.int x3), some (.int x4), some (.int x5), some (.int x6), some (.int (s.2.1 49 k4))]) i185_108 (Nat.le_of_ble_eq_true rfl) rfl ?_
  refine gm_ev.iload i185_110 rfl ?_
  refine gm_ev.if_eq_f i185_112 c5 ?_
  refine gm_ev.iload i185_115 rfl ?_
  refine gm_ev.if_lt_f i185_117 c6 ?_
  refine gm_ev.iconst (v := 1) i185_120 (by decide) ?_
  refine gm_ev.goto (tgt := 125) i185_121 (by decide) ?_
  refine gm_ev.istore (ls' := [some (.ref B), some (.int x1), some (.int x2), some (.int x3), some (.int x4), some (.int (1 : Int32)), some (.int x6), some (.int (s.2.1 49 k4))]) i185_125 (Nat.le_of_ble_eq_true rfl) rfl ?_
  refine gm_ev.iload i185_127 rfl ?_
  refine gm_ev.if_lt_f i185_129 c7 ?_
  refine gm_ev.aload_n i185_132 rfl ?_
  refine gm_ev.getfield (v := .ref (B + 28)) i185_133 rfl (bM_fld (j := 0) (fs := mF B s) rfl rfl) ?_
  refine gm_ev.iload_n i185_136 rfl ?_
  refine gm_ev.iaload i185_137 (bM_ai (j := 28) (n := 60) (f := s.2.1 48) rfl ek8 lk8 (by decide)) ?_
  refine gm_ev.iconst (v := 1) i185_138 (by decide) ?_
  refine gm_ev.icmp_ne_f i185_139 c9 ?_
  refine gm_ev.iload i185_142 rfl ?_
  refine gm_ev.iload i185_144 rfl ?_
  refine gm_ev.icmp_le_t (tgt := 164) i185_146 (by decide) c10 ?_
  refine gm_ev.iload i185_164 rfl ?_
  refine gm_ev.istore (ls' := [some (.ref B), some (.int x1), some (.int x2), some (.int x3), some (.int x4), some (.int (1 : Int32)), some (.int x6), some (.int (s.2.1 49 k4))]) i185_166 (Nat.le_of_ble_eq_true rfl) rfl ?_
  refine gm_ev.iinc (v := x6 + (1 : Int32)) (ls' := [some (.ref B), some (.int x1), some (.int x2), some (.int x3), some (.int x4), some (.int (1 : Int32)), some (.int (x6 + (1 : Int32))), some (.int (s.2.1 49 k4))]) i185_168 rfl (by rfl) rfl ?_
  refine gm_ev.goto (tgt := 83) i185_171 (by decide) ?_
  refine gm_ev.le (a := [some (.ref B), some (.int x1), some (.int x2), some (.int x3), some (.int x4), some (.int (1 : Int32)), some (.int (x6 + (1 : Int32))), none]) (gm_leL.le (show gm_leL _ _ from ⟨rfl, ⟨rfl, ⟨rfl, ⟨rfl, ⟨rfl, ⟨rfl, ⟨rfl, trivial⟩⟩⟩⟩⟩⟩⟩)) ?_
  exact k
theorem r_weighs_83_ffffff_at83 {N0 : Nat} {K : Nat → Nat} {d B : Nat} {s : mS} {G : gm_H} {sz sl : Nat} {R : gm_R} {x1 : Int32} {x2 : Int32} {x3 : Int32} {x4 : Int32} {x5 : Int32} {x6 : Int32} {k1 : Nat} {k3 : Nat} {k4 : Nat} {k8 : Nat} (hN : N0 ≤ B) (ek1 : (x3 + (1 : Int32)) = nI k1) (lk1 : k1 < 61) (c2 : ¬ (s.2.1 46 k1) ≤ x6) (ek3 : x6 = nI k3) (lk3 : k3 < 12500) (ek4 : (s.2.1 47 k3) = nI k4) (lk4 : k4 < 60) (c5 : ¬ x5 = 0) (c6 : ¬ (s.2.1 49 k4) < 0) (c7 : ¬ x4 < 0) (ek8 : x3 = nI k8) (lk8 : k8 < 60) (c9 : (s.2.1 48 k8) = (1 : Int32)) (c10 : ¬ (s.2.1 49 k4) ≤ x4) (k : gm_ev N0 K ra_nm (ra_mt K) d (some .boolean) (gm_I cX12_weighs) (gm_lkf (lkX12 false K)) 83 [some (.ref B), some (.int x1), some (.int x2), some (.int x3), some (.int (s.2.1 49 k4)), some (.int (1 : Int32)), some (.int (x6 + (1 : Int32))), none] [] (bM B (mH B s) G) sz sl R) : gm_ev N0 K ra_nm (ra_mt K) d (some .boolean) (gm_I cX12_weighs) (gm_lkf (lkX12 false K)) 83 [some (.ref B), some (.int x1), some (.int x2), some (.int x3), some (.int x4), some (.int x5), some (.int x6), none] [] (bM B (mH B s) G) sz sl R := by
  refine gm_ev.iload i185_83 rfl ?_
  refine gm_ev.aload_n i185_85 rfl ?_
  refine gm_ev.getfield (v := .ref (B + 26)) i185_86 rfl (bM_fld (j := 0) (fs := mF B s) rfl rfl) ?_
  refine gm_ev.iload_n i185_89 rfl ?_
  refine gm_ev.iconst (v := 1) i185_90 (by decide) ?_
  refine gm_ev.iadd i185_91 ?_
  refine gm_ev.iaload i185_92 (bM_ai (j := 26) (n := 61) (f := s.2.1 46) rfl ek1 lk1 (by decide)) ?_
  refine gm_ev.icmp_ge_f i185_93 c2 ?_
  refine gm_ev.aload_n i185_96 rfl ?_
  refine gm_ev.getfield (v := .ref (B + 29)) i185_97 rfl (bM_fld (j := 0) (fs := mF B s) rfl rfl) ?_
  refine gm_ev.aload_n i185_100 rfl ?_
  refine gm_ev.getfield (v := .ref (B + 27)) i185_101 rfl (bM_fld (j := 0) (fs := mF B s) rfl rfl) ?_
  refine gm_ev.iload i185_104 rfl ?_
  refine gm_ev.iaload i185_106 (bM_ai (j := 27) (n := 12500) (f := s.2.1 47) rfl ek3 lk3 (by decide)) ?_
  refine gm_ev.iaload i185_107 (bM_ai (j := 29) (n := 60) (f := s.2.1 49) rfl ek4 lk4 (by decide)) ?_
  refine gm_ev.istore (ls' := [some (.ref B), some (.int x1), some (.int x2), some (.int x3), some (.int x4), some (.int x5), some (.int x6), some (.int (s.2.1 49 k4))]) i185_108 (Nat.le_of_ble_eq_true rfl) rfl ?_
  refine gm_ev.iload i185_110 rfl ?_
  refine gm_ev.if_eq_f i185_112 c5 ?_
  refine gm_ev.iload i185_115 rfl ?_
  refine gm_ev.if_lt_f i185_117 c6 ?_
  refine gm_ev.iconst (v := 1) i185_120 (by decide) ?_
  refine gm_ev.goto (tgt := 125) i185_121 (by decide) ?_
  refine gm_ev.istore (ls' := [some (.ref B), some (.int x1), some (.int x2), some (.int x3), some (.int x4), some (.int (1 : Int32)), some (.int x6), some (.int (s.2.1 49 k4))]) i185_125 (Nat.le_of_ble_eq_true rfl) rfl ?_
  refine gm_ev.iload i185_127 rfl ?_
  refine gm_ev.if_lt_f i185_129 c7 ?_
  refine gm_ev.aload_n i185_132 rfl ?_
  refine gm_ev.getfield (v := .ref (B + 28)) i185_133 rfl (bM_fld (j := 0) (fs := mF B s) rfl rfl) ?_
  refine gm_ev.iload_n i185_136 rfl ?_
  refine gm_ev.iaload i185_137 (bM_ai (j := 28) (n := 60) (f := s.2.1 48) rfl ek8 lk8 (by decide)) ?_
  refine gm_ev.iconst (v := 1) i185_138 (by decide) ?_
  refine gm_ev.icmp_ne_f i185_139 c9 ?_
  refine gm_ev.iload i185_142 rfl ?_
  refine gm_ev.iload i185_144 rfl ?_
  refine gm_ev.icmp_le_f i185_146 c10 ?_
  refine gm_ev.goto (tgt := 159) i185_149 (by decide) ?_
  refine gm_ev.iload i185_159 rfl ?_
  refine gm_ev.goto (tgt := 166) i185_161 (by decide) ?_
  refine gm_ev.istore (ls' := [some (.ref B), some (.int x1), some (.int x2), some (.int x3), some (.int (s.2.1 49 k4)), some (.int (1 : Int32)), some (.int x6), some (.int (s.2.1 49 k4))]) i185_166 (Nat.le_of_ble_eq_true rfl) rfl ?_
  refine gm_ev.iinc (v := x6 + (1 : Int32)) (ls' := [some (.ref B), some (.int x1), some (.int x2), some (.int x3), some (.int (s.2.1 49 k4)), some (.int (1 : Int32)), some (.int (x6 + (1 : Int32))), some (.int (s.2.1 49 k4))]) i185_168 rfl (by rfl) rfl ?_
  refine gm_ev.goto (tgt := 83) i185_171 (by decide) ?_
  refine gm_ev.le (a := [some (.ref B), some (.int x1), some (.int x2), some (.int x3), some (.int (s.2.1 49 k4)), some (.int (1 : Int32)), some (.int (x6 + (1 : Int32))), none]) (gm_leL.le (show gm_leL _ _ from ⟨rfl, ⟨rfl, ⟨rfl, ⟨rfl, ⟨rfl, ⟨rfl, ⟨rfl, trivial⟩⟩⟩⟩⟩⟩⟩)) ?_
  exact k
theorem r_examine_0_t_at46 {N0 : Nat} {K : Nat → Nat} {d B : Nat} {s : mS} {G : gm_H} {sz sl : Nat} {R : gm_R} {s2 : mS} {k4 : Nat} (hN : N0 ≤ B) (t1 : gm_to N0 K ra_nm (ra_mt K) d 183 [.ref B, .ref (B + 18), .int (s.1 32)] (bM B (mH B (mI (mI (mI s 41 (1 : Int32)) 24 (0 : Int32)) 43 (0 : Int32))) G) sz (.returned none, bM B (mH B s2) G, sz, 0)) (c3 : (s2.1 36) = (2 : Int32)) (ek4 : (0 : Int32) = nI k4) (lk4 : k4 < 61) (k : gm_ev N0 K ra_nm (ra_mt K) d (some .int) (gm_I cX12_examine) (gm_lkf (lkX12 false K)) 46 [some (.ref B), some (.int (0 : Int32)), none] [] (bM B (mH B (mA s2 46 (upd (s2.2.1 46) k4 (0 : Int32)))) G) sz sl R) : gm_ev N0 K ra_nm (ra_mt K) d (some .int) (gm_I cX12_examine) (gm_lkf (lkX12 false K)) 0 [some (.ref B), none, none] [] (bM B (mH B s) G) sz sl R := by
  refine gm_ev.aload_n i186_0 rfl ?_
  refine gm_ev.iconst (v := 1) i186_1 (by decide) ?_
  refine gm_ev.putfield (M' := (bM B (mH B (mI s 41 (1 : Int32))) G)) i186_2 rfl (bM_put (j := 0) (fs := mF B s) rfl (Nat.le_of_ble_eq_true rfl) hN (gm_fit_z (by decide)) rfl) ?_
  refine gm_ev.aload_n i186_5 rfl ?_
  refine gm_ev.iconst (v := 0) i186_6 (by decide) ?_
  refine gm_ev.putfield (M' := (bM B (mH B (mI (mI s 41 (1 : Int32)) 24 (0 : Int32))) G)) i186_7 rfl (bM_put (j := 0) (fs := mF B (mI s 41 (1 : Int32))) rfl (Nat.le_of_ble_eq_true rfl) hN (gm_fit_z (by decide)) rfl) ?_
  refine gm_ev.aload_n i186_10 rfl ?_
  refine gm_ev.iconst (v := 0) i186_11 (by decide) ?_
  refine gm_ev.putfield (M' := (bM B (mH B (mI (mI (mI s 41 (1 : Int32)) 24 (0 : Int32)) 43 (0 : Int32))) G)) i186_12 rfl (bM_put (j := 0) (fs := mF B (mI (mI s 41 (1 : Int32)) 24 (0 : Int32))) rfl (Nat.le_of_ble_eq_true rfl) hN (gm_fit_i _) rfl) ?_
  refine gm_ev.aload_n i186_15 rfl ?_
  refine gm_ev.aload_n i186_16 rfl ?_
  refine gm_ev.getfield (v := .ref (B + 18)) i186_17 rfl (bM_fld (j := 0) (fs := mF B (mI (mI (mI s 41 (1 : Int32)) 24 (0 : Int32)) 43 (0 : Int32))) rfl rfl) ?_
  refine gm_ev.aload_n i186_20 rfl ?_
  refine gm_ev.getfield (v := .int (s.1 32)) i186_21 rfl (bM_fld (j := 0) (fs := mF B (mI (mI (mI s 41 (1 : Int32)) 24 (0 : Int32)) 43 (0 : Int32))) rfl rfl) ?_
  refine gm_ev.callV gm_mono_run (av := [.ref (B + 18), .int (s.1 32)]) (r := []) (ci := 11) (fs := mF B (mI (mI (mI s 41 (1 : Int32)) 24 (0 : Int32)) 43 (0 : Int32))) (bM_get (j := 0) rfl) i186_24 rfl rfl rfl (Nat.le_of_ble_eq_true rfl) t1 ?_
  refine gm_ev.aload_n i186_27 rfl ?_
  refine gm_ev.getfield (v := .int (s2.1 36)) i186_28 rfl (bM_fld (j := 0) (fs := mF B s2) rfl rfl) ?_
  refine gm_ev.iconst (v := 2) i186_31 (by decide) ?_
  refine gm_ev.icmp_eq_t (tgt := 37) i186_32 (by decide) c3 ?_
  refine gm_ev.aload_n i186_37 rfl ?_
  refine gm_ev.getfield (v := .ref (B + 26)) i186_38 rfl (bM_fld (j := 0) (fs := mF B s2) rfl rfl) ?_
  refine gm_ev.iconst (v := 0) i186_41 (by decide) ?_
  refine gm_ev.iconst (v := 0) i186_42 (by decide) ?_
  refine gm_ev.iastore (M' := (bM B (mH B (mA s2 46 (upd (s2.2.1 46) k4 (0 : Int32)))) G)) i186_43 (bM_asti (j := 26) (n := 61) (f := s2.2.1 46) rfl ek4 lk4 (by decide) hN rfl) ?_
  refine gm_ev.iconst (v := 0) i186_44 (by decide) ?_
  refine gm_ev.istore_n (ls' := [some (.ref B), some (.int (0 : Int32)), none]) i186_45 (Nat.le_of_ble_eq_true rfl) rfl ?_
  exact k
