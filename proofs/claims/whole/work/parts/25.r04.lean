/-! paths through RuleArenaModel, by program -/
theorem r_isMixed_0_ttffft {N0 : Nat} {K : Nat → Nat} {d B : Nat} {s : mS} {G : gm_H} {sz sl : Nat} {p0 : Int32} {k1 : Nat} {k3 : Nat} {s5 : mS} {k6 : Nat} {k9 : Nat} {k11 : Nat} {k13 : Nat} (hN : N0 ≤ B) (ek1 : ((6 : Int32) * p0) = nI k1) (lk1 : k1 < 144) (c2 : ((s.2.1 14 k1) / (4 : Int32)) = (73 : Int32)) (ek3 : ((6 : Int32) * p0) = nI k3) (lk3 : k3 < 144) (t4 : gm_to N0 K ra_nm (ra_mt K) d 139 [.ref B, .int (s.2.1 14 k3)] (bM B (mH B s) G) sz (.returned none, bM B (mH B s5) G, sz, 0)) (ek6 : (274 : Int32) = nI k6) (lk6 : k6 < 512) (c7 : ((s.2.1 14 k1) / (4 : Int32)) = (73 : Int32)) (c8 : (s5.2.1 18 k6) = 0) (ek9 : (337 : Int32) = nI k9) (lk9 : k9 < 512) (c10 : (s5.2.1 18 k9) = 0) (ek11 : (306 : Int32) = nI k11) (lk11 : k11 < 512) (c12 : (s5.2.1 18 k11) = 0) (ek13 : (286 : Int32) = nI k13) (lk13 : k13 < 512) (c14 : ¬ (s5.2.1 18 k13) = 0) : gm_ev N0 K ra_nm (ra_mt K) d (some .boolean) (gm_I cX12_isMixed) (gm_lkf (lkX12 false K)) 0 [some (.ref B), some (.int p0), none, none] [] (bM B (mH B s) G) sz sl (.returned (some (.int (1 : Int32))), (bM B (mH B s5) G), sz, sl) := by
  refine gm_ev.aload_n i141_0 rfl ?_
  refine gm_ev.getfield (v := .ref (B + 6)) i141_1 rfl (bM_fld (j := 0) (fs := mF B s) rfl rfl) ?_
  refine gm_ev.bipush (v := 6) i141_4 (by decide) ?_
  refine gm_ev.iload_n i141_6 rfl ?_
  refine gm_ev.imul i141_7 ?_
  refine gm_ev.iaload i141_8 (bM_ai (j := 6) (n := 144) (f := s.2.1 14) rfl ek1 lk1 (by decide)) ?_
  refine gm_ev.iconst (v := 4) i141_9 (by decide) ?_
  refine gm_ev.idiv i141_10 (by decide) ?_
  refine gm_ev.istore_n (ls' := [some (.ref B), some (.int p0), some (.int ((s.2.1 14 k1) / (4 : Int32))), none]) i141_11 (Nat.le_of_ble_eq_true rfl) rfl ?_
  refine gm_ev.iload_n i141_12 rfl ?_
  refine gm_ev.bipush (v := 73) i141_13 (by decide) ?_
  refine gm_ev.icmp_eq_t (tgt := 38) i141_15 (by decide) c2 ?_
  refine gm_ev.aload_n i141_38 rfl ?_
  refine gm_ev.aload_n i141_39 rfl ?_
  refine gm_ev.getfield (v := .ref (B + 6)) i141_40 rfl (bM_fld (j := 0) (fs := mF B s) rfl rfl) ?_
  refine gm_ev.bipush (v := 6) i141_43 (by decide) ?_
  refine gm_ev.iload_n i141_45 rfl ?_
  refine gm_ev.imul i141_46 ?_
  refine gm_ev.iaload i141_47 (bM_ai (j := 6) (n := 144) (f := s.2.1 14) rfl ek3 lk3 (by decide)) ?_
  refine gm_ev.callV gm_mono_run (av := [.int (s.2.1 14 k3)]) (r := []) (ci := 11) (fs := mF B s) (bM_get (j := 0) rfl) i141_48 rfl rfl rfl (Nat.le_of_ble_eq_true rfl) t4 ?_
  refine gm_ev.aload_n i141_51 rfl ?_
  refine gm_ev.getfield (v := .ref (B + 10)) i141_52 rfl (bM_fld (j := 0) (fs := mF B s5) rfl rfl) ?_
  refine gm_ev.sipush (v := 274) i141_55 (by decide) ?_
  refine gm_ev.zaload i141_58 (bM_ai (j := 10) (n := 512) (f := s5.2.1 18) rfl ek6 lk6 (by decide)) ?_
  refine gm_ev.istore_n (ls' := [some (.ref B), some (.int p0), some (.int ((s.2.1 14 k1) / (4 : Int32))), some (.int (s5.2.1 18 k6))]) i141_59 (Nat.le_of_ble_eq_true rfl) rfl ?_
  refine gm_ev.iload_n i141_60 rfl ?_
  refine gm_ev.bipush (v := 73) i141_61 (by decide) ?_
  refine gm_ev.icmp_eq_t (tgt := 70) i141_63 (by decide) c7 ?_
  refine gm_ev.iload_n i141_70 rfl ?_
  refine gm_ev.if_ne_f i141_71 c8 ?_
  refine gm_ev.aload_n i141_74 rfl ?_
  refine gm_ev.getfield (v := .ref (B + 10)) i141_75 rfl (bM_fld (j := 0) (fs := mF B s5) rfl rfl) ?_
  refine gm_ev.sipush (v := 337) i141_78 (by decide) ?_
  refine gm_ev.zaload i141_81 (bM_ai (j := 10) (n := 512) (f := s5.2.1 18) rfl ek9 lk9 (by decide)) ?_
  refine gm_ev.if_ne_f i141_82 c10 ?_
  refine gm_ev.aload_n i141_85 rfl ?_
  refine gm_ev.getfield (v := .ref (B + 10)) i141_86 rfl (bM_fld (j := 0) (fs := mF B s5) rfl rfl) ?_
  refine gm_ev.sipush (v := 306) i141_89 (by decide) ?_
  refine gm_ev.zaload i141_92 (bM_ai (j := 10) (n := 512) (f := s5.2.1 18) rfl ek11 lk11 (by decide)) ?_
  refine gm_ev.if_ne_f i141_93 c12 ?_
  refine gm_ev.aload_n i141_96 rfl ?_
  refine gm_ev.getfield (v := .ref (B + 10)) i141_97 rfl (bM_fld (j := 0) (fs := mF B s5) rfl rfl) ?_
  refine gm_ev.sipush (v := 286) i141_100 (by decide) ?_
  refine gm_ev.zaload i141_103 (bM_ai (j := 10) (n := 512) (f := s5.2.1 18) rfl ek13 lk13 (by decide)) ?_
  refine gm_ev.if_ne_t (tgt := 118) i141_104 (by decide) c14 ?_
  refine gm_ev.iconst (v := 1) i141_118 (by decide) ?_
  refine gm_ev.goto (tgt := 123) i141_119 (by decide) ?_
  exact gm_ev.zret i141_123 rfl (by decide)
theorem r_isMixed_0_ttfffft {N0 : Nat} {K : Nat → Nat} {d B : Nat} {s : mS} {G : gm_H} {sz sl : Nat} {p0 : Int32} {k1 : Nat} {k3 : Nat} {s5 : mS} {k6 : Nat} {k9 : Nat} {k11 : Nat} {k13 : Nat} {k15 : Nat} (hN : N0 ≤ B) (ek1 : ((6 : Int32) * p0) = nI k1) (lk1 : k1 < 144) (c2 : ((s.2.1 14 k1) / (4 : Int32)) = (73 : Int32)) (ek3 : ((6 : Int32) * p0) = nI k3) (lk3 : k3 < 144) (t4 : gm_to N0 K ra_nm (ra_mt K) d 139 [.ref B, .int (s.2.1 14 k3)] (bM B (mH B s) G) sz (.returned none, bM B (mH B s5) G, sz, 0)) (ek6 : (274 : Int32) = nI k6) (lk6 : k6 < 512) (c7 : ((s.2.1 14 k1) / (4 : Int32)) = (73 : Int32)) (c8 : (s5.2.1 18 k6) = 0) (ek9 : (337 : Int32) = nI k9) (lk9 : k9 < 512) (c10 : (s5.2.1 18 k9) = 0) (ek11 : (306 : Int32) = nI k11) (lk11 : k11 < 512) (c12 : (s5.2.1 18 k11) = 0) (ek13 : (286 : Int32) = nI k13) (lk13 : k13 < 512) (c14 : (s5.2.1 18 k13) = 0) (ek15 : (276 : Int32) = nI k15) (lk15 : k15 < 512) (c16 : (s5.2.1 18 k15) = 0) : gm_ev N0 K ra_nm (ra_mt K) d (some .boolean) (gm_I cX12_isMixed) (gm_lkf (lkX12 false K)) 0 [some (.ref B), some (.int p0), none, none] [] (bM B (mH B s) G) sz sl (.returned (some (.int (0 : Int32))), (bM B (mH B s5) G), sz, sl) := by
  refine gm_ev.aload_n i141_0 rfl ?_
  refine gm_ev.getfield (v := .ref (B + 6)) i141_1 rfl (bM_fld (j := 0) (fs := mF B s) rfl rfl) ?_
  refine gm_ev.bipush (v := 6) i141_4 (by decide) ?_
  refine gm_ev.iload_n i141_6 rfl ?_
  refine gm_ev.imul i141_7 ?_
  refine gm_ev.iaload i141_8 (bM_ai (j := 6) (n := 144) (f := s.2.1 14) rfl ek1 lk1 (by decide)) ?_
  refine gm_ev.iconst (v := 4) i141_9 (by decide) ?_
  refine gm_ev.idiv i141_10 (by decide) ?_
  refine gm_ev.istore_n (ls' := [some (.ref B), some (.int p0), some (.int ((s.2.1 14 k1) / (4 : Int32))), none]) i141_11 (Nat.le_of_ble_eq_true rfl) rfl ?_
  refine gm_ev.iload_n i141_12 rfl ?_
  refine gm_ev.bipush (v := 73) i141_13 (by decide) ?_
  refine gm_ev.icmp_eq_t (tgt := 38) i141_15 (by decide) c2 ?_
  refine gm_ev.aload_n i141_38 rfl ?_
  refine gm_ev.aload_n i141_39 rfl ?_
  refine gm_ev.getfield (v := .ref (B + 6)) i141_40 rfl (bM_fld (j := 0) (fs := mF B s) rfl rfl) ?_
  refine gm_ev.bipush (v := 6) i141_43 (by decide) ?_
  refine gm_ev.iload_n i141_45 rfl ?_
  refine gm_ev.imul i141_46 ?_
  refine gm_ev.iaload i141_47 (bM_ai (j := 6) (n := 144) (f := s.2.1 14) rfl ek3 lk3 (by decide)) ?_
  refine gm_ev.callV gm_mono_run (av := [.int (s.2.1 14 k3)]) (r := []) (ci := 11) (fs := mF B s) (bM_get (j := 0) rfl) i141_48 rfl rfl rfl (Nat.le_of_ble_eq_true rfl) t4 ?_
  refine gm_ev.aload_n i141_51 rfl ?_
  refine gm_ev.getfield (v := .ref (B + 10)) i141_52 rfl (bM_fld (j := 0) (fs := mF B s5) rfl rfl) ?_
  refine gm_ev.sipush (v := 274) i141_55 (by decide) ?_
  refine gm_ev.zaload i141_58 (bM_ai (j := 10) (n := 512) (f := s5.2.1 18) rfl ek6 lk6 (by decide)) ?_
  refine gm_ev.istore_n (ls' := [some (.ref B), some (.int p0), some (.int ((s.2.1 14 k1) / (4 : Int32))), some (.int (s5.2.1 18 k6))]) i141_59 (Nat.le_of_ble_eq_true rfl) rfl ?_
  refine gm_ev.iload_n i141_60 rfl ?_
  refine gm_ev.bipush (v := 73) i141_61 (by decide) ?_
  refine gm_ev.icmp_eq_t (tgt := 70) i141_63 (by decide) c7 ?_
  refine gm_ev.iload_n i141_70 rfl ?_
  refine gm_ev.if_ne_f i141_71 c8 ?_
  refine gm_ev.aload_n i141_74 rfl ?_
  refine gm_ev.getfield (v := .ref (B + 10)) i141_75 rfl (bM_fld (j := 0) (fs := mF B s5) rfl rfl) ?_
  refine gm_ev.sipush (v := 337) i141_78 (by decide) ?_
  refine gm_ev.zaload i141_81 (bM_ai (j := 10) (n := 512) (f := s5.2.1 18) rfl ek9 lk9 (by decide)) ?_
  refine gm_ev.if_ne_f i141_82 c10 ?_
  refine gm_ev.aload_n i141_85 rfl ?_
  refine gm_ev.getfield (v := .ref (B + 10)) i141_86 rfl (bM_fld (j := 0) (fs := mF B s5) rfl rfl) ?_
  refine gm_ev.sipush (v := 306) i141_89 (by decide) ?_
  refine gm_ev.zaload i141_92 (bM_ai (j := 10) (n := 512) (f := s5.2.1 18) rfl ek11 lk11 (by decide)) ?_
  refine gm_ev.if_ne_f i141_93 c12 ?_
  refine gm_ev.aload_n i141_96 rfl ?_
  refine gm_ev.getfield (v := .ref (B + 10)) i141_97 rfl (bM_fld (j := 0) (fs := mF B s5) rfl rfl) ?_
  refine gm_ev.sipush (v := 286) i141_100 (by decide) ?_
  refine gm_ev.zaload i141_103 (bM_ai (j := 10) (n := 512) (f := s5.2.1 18) rfl ek13 lk13 (by decide)) ?_
  refine gm_ev.if_ne_f i141_104 c14 ?_
  refine gm_ev.aload_n i141_107 rfl ?_
  refine gm_ev.getfield (v := .ref (B + 10)) i141_108 rfl (bM_fld (j := 0) (fs := mF B s5) rfl rfl) ?_
  refine gm_ev.sipush (v := 276) i141_111 (by decide) ?_
  refine gm_ev.zaload i141_114 (bM_ai (j := 10) (n := 512) (f := s5.2.1 18) rfl ek15 lk15 (by decide)) ?_
  refine gm_ev.if_eq_t (tgt := 122) i141_115 (by decide) c16 ?_
  refine gm_ev.iconst (v := 0) i141_122 (by decide) ?_
  exact gm_ev.zret i141_123 rfl (by decide)
theorem r_isMixed_0_ttfffff {N0 : Nat} {K : Nat → Nat} {d B : Nat} {s : mS} {G : gm_H} {sz sl : Nat} {p0 : Int32} {k1 : Nat} {k3 : Nat} {s5 : mS} {k6 : Nat} {k9 : Nat} {k11 : Nat} {k13 : Nat} {k15 : Nat} (hN : N0 ≤ B) (ek1 : ((6 : Int32) * p0) = nI k1) (lk1 : k1 < 144) (c2 : ((s.2.1 14 k1) / (4 : Int32)) = (73 : Int32)) (ek3 : ((6 : Int32) * p0) = nI k3) (lk3 : k3 < 144) (t4 : gm_to N0 K ra_nm (ra_mt K) d 139 [.ref B, .int (s.2.1 14 k3)] (bM B (mH B s) G) sz (.returned none, bM B (mH B s5) G, sz, 0)) (ek6 : (274 : Int32) = nI k6) (lk6 : k6 < 512) (c7 : ((s.2.1 14 k1) / (4 : Int32)) = (73 : Int32)) (c8 : (s5.2.1 18 k6) = 0) (ek9 : (337 : Int32) = nI k9) (lk9 : k9 < 512) (c10 : (s5.2.1 18 k9) = 0) (ek11 : (306 : Int32) = nI k11) (lk11 : k11 < 512) (c12 : (s5.2.1 18 k11) = 0) (ek13 : (286 : Int32) = nI k13) (lk13 : k13 < 512) (c14 : (s5.2.1 18 k13) = 0) (ek15 : (276 : Int32) = nI k15) (lk15 : k15 < 512) (c16 : ¬ (s5.2.1 18 k15) = 0) : gm_ev N0 K ra_nm (ra_mt K) d (some .boolean) (gm_I cX12_isMixed) (gm_lkf (lkX12 false K)) 0 [some (.ref B), some (.int p0), none, none] [] (bM B (mH B s) G) sz sl (.returned (some (.int (1 : Int32))), (bM B (mH B s5) G), sz, sl) := by
  refine gm_ev.aload_n i141_0 rfl ?_
  refine gm_ev.getfield (v := .ref (B + 6)) i141_1 rfl (bM_fld (j := 0) (fs := mF B s) rfl rfl) ?_
  refine gm_ev.bipush (v := 6) i141_4 (by decide) ?_
  refine gm_ev.iload_n i141_6 rfl ?_
  refine gm_ev.imul i141_7 ?_
  refine gm_ev.iaload i141_8 (bM_ai (j := 6) (n := 144) (f := s.2.1 14) rfl ek1 lk1 (by decide)) ?_
  refine gm_ev.iconst (v := 4) i141_9 (by decide) ?_
  refine gm_ev.idiv i141_10 (by decide) ?_
  refine gm_ev.istore_n (ls' := [some (.ref B), some (.int p0), some (.int ((s.2.1 14 k1) / (4 : Int32))), none]) i141_11 (Nat.le_of_ble_eq_true rfl) rfl ?_
  refine gm_ev.iload_n i141_12 rfl ?_
  refine gm_ev.bipush (v := 73) i141_13 (by decide) ?_
  refine gm_ev.icmp_eq_t (tgt := 38) i141_15 (by decide) c2 ?_
  refine gm_ev.aload_n i141_38 rfl ?_
  refine gm_ev.aload_n i141_39 rfl ?_
  refine gm_ev.getfield (v := .ref (B + 6)) i141_40 rfl (bM_fld (j := 0) (fs := mF B s) rfl rfl) ?_
  refine gm_ev.bipush (v := 6) i141_43 (by decide) ?_
  refine gm_ev.iload_n i141_45 rfl ?_
  refine gm_ev.imul i141_46 ?_
  refine gm_ev.iaload i141_47 (bM_ai (j := 6) (n := 144) (f := s.2.1 14) rfl ek3 lk3 (by decide)) ?_
  refine gm_ev.callV gm_mono_run (av := [.int (s.2.1 14 k3)]) (r := []) (ci := 11) (fs := mF B s) (bM_get (j := 0) rfl) i141_48 rfl rfl rfl (Nat.le_of_ble_eq_true rfl) t4 ?_
  refine gm_ev.aload_n i141_51 rfl ?_
  refine gm_ev.getfield (v := .ref (B + 10)) i141_52 rfl (bM_fld (j := 0) (fs := mF B s5) rfl rfl) ?_
  refine gm_ev.sipush (v := 274) i141_55 (by decide) ?_
  refine gm_ev.zaload i141_58 (bM_ai (j := 10) (n := 512) (f := s5.2.1 18) rfl ek6 lk6 (by decide)) ?_
  refine gm_ev.istore_n (ls' := [some (.ref B), some (.int p0), some (.int ((s.2.1 14 k1) / (4 : Int32))), some (.int (s5.2.1 18 k6))]) i141_59 (Nat.le_of_ble_eq_true rfl) rfl ?_
  refine gm_ev.iload_n i141_60 rfl ?_
  refine gm_ev.bipush (v := 73) i141_61 (by decide) ?_
  refine gm_ev.icmp_eq_t (tgt := 70) i141_63 (by decide) c7 ?_
  refine gm_ev.iload_n i141_70 rfl ?_
  refine gm_ev.if_ne_f i141_71 c8 ?_
  refine gm_ev.aload_n i141_74 rfl ?_
  refine gm_ev.getfield (v := .ref (B + 10)) i141_75 rfl (bM_fld (j := 0) (fs := mF B s5) rfl rfl) ?_
  refine gm_ev.sipush (v := 337) i141_78 (by decide) ?_
  refine gm_ev.zaload i141_81 (bM_ai (j := 10) (n := 512) (f := s5.2.1 18) rfl ek9 lk9 (by decide)) ?_
  refine gm_ev.if_ne_f i141_82 c10 ?_
  refine gm_ev.aload_n i141_85 rfl ?_
  refine gm_ev.getfield (v := .ref (B + 10)) i141_86 rfl (bM_fld (j := 0) (fs := mF B s5) rfl rfl) ?_
  refine gm_ev.sipush (v := 306) i141_89 (by decide) ?_
  refine gm_ev.zaload i141_92 (bM_ai (j := 10) (n := 512) (f := s5.2.1 18) rfl ek11 lk11 (by decide)) ?_
  refine gm_ev.if_ne_f i141_93 c12 ?_
  refine gm_ev.aload_n i141_96 rfl ?_
  refine gm_ev.getfield (v := .ref (B + 10)) i141_97 rfl (bM_fld (j := 0) (fs := mF B s5) rfl rfl) ?_
  refine gm_ev.sipush (v := 286) i141_100 (by decide) ?_
  refine gm_ev.zaload i141_103 (bM_ai (j := 10) (n := 512) (f := s5.2.1 18) rfl ek13 lk13 (by decide)) ?_
  refine gm_ev.if_ne_f i141_104 c14 ?_
  refine gm_ev.aload_n i141_107 rfl ?_
  refine gm_ev.getfield (v := .ref (B + 10)) i141_108 rfl (bM_fld (j := 0) (fs := mF B s5) rfl rfl) ?_
  refine gm_ev.sipush (v := 276) i141_111 (by decide) ?_
  refine gm_ev.zaload i141_114 (bM_ai (j := 10) (n := 512) (f := s5.2.1 18) rfl ek15 lk15 (by decide)) ?_
  refine gm_ev.if_eq_f i141_115 c16 ?_
  refine gm_ev.iconst (v := 1) i141_118 (by decide) ?_
  refine gm_ev.goto (tgt := 123) i141_119 (by decide) ?_
  exact gm_ev.zret i141_123 rfl (by decide)
theorem r_isMixed_0_tf {N0 : Nat} {K : Nat → Nat} {d B : Nat} {s : mS} {G : gm_H} {sz sl : Nat} {p0 : Int32} {k1 : Nat} {k3 : Nat} {s5 : mS} {k6 : Nat} (hN : N0 ≤ B) (ek1 : ((6 : Int32) * p0) = nI k1) (lk1 : k1 < 144) (c2 : ((s.2.1 14 k1) / (4 : Int32)) = (73 : Int32)) (ek3 : ((6 : Int32) * p0) = nI k3) (lk3 : k3 < 144) (t4 : gm_to N0 K ra_nm (ra_mt K) d 139 [.ref B, .int (s.2.1 14 k3)] (bM B (mH B s) G) sz (.returned none, bM B (mH B s5) G, sz, 0)) (ek6 : (274 : Int32) = nI k6) (lk6 : k6 < 512) (c7 : ¬ ((s.2.1 14 k1) / (4 : Int32)) = (73 : Int32)) (z8 : (s5.2.1 18 k6) = 0 ∨ (s5.2.1 18 k6) = 1) : gm_ev N0 K ra_nm (ra_mt K) d (some .boolean) (gm_I cX12_isMixed) (gm_lkf (lkX12 false K)) 0 [some (.ref B), some (.int p0), none, none] [] (bM B (mH B s) G) sz sl (.returned (some (.int (s5.2.1 18 k6))), (bM B (mH B s5) G), sz, sl) := by
  refine gm_ev.aload_n i141_0 rfl ?_
  refine gm_ev.getfield (v := .ref (B + 6)) i141_1 rfl (bM_fld (j := 0) (fs := mF B s) rfl rfl) ?_
  refine gm_ev.bipush (v := 6) i141_4 (by decide) ?_
  refine gm_ev.iload_n i141_6 rfl ?_
  refine gm_ev.imul i141_7 ?_
  refine gm_ev.iaload i141_8 (bM_ai (j := 6) (n := 144) (f := s.2.1 14) rfl ek1 lk1 (by decide)) ?_
  refine gm_ev.iconst (v := 4) i141_9 (by decide) ?_
  refine gm_ev.idiv i141_10 (by decide) ?_
  refine gm_ev.istore_n (ls' := [some (.ref B), some (.int p0), some (.int ((s.2.1 14 k1) / (4 : Int32))), none]) i141_11 (Nat.le_of_ble_eq_true rfl) rfl ?_
  refine gm_ev.iload_n i141_12 rfl ?_
  refine gm_ev.bipush (v := 73) i141_13 (by decide) ?_
  refine gm_ev.icmp_eq_t (tgt := 38) i141_15 (by decide) c2 ?_
  refine gm_ev.aload_n i141_38 rfl ?_
  refine gm_ev.aload_n i141_39 rfl ?_
  refine gm_ev.getfield (v := .ref (B + 6)) i141_40 rfl (bM_fld (j := 0) (fs := mF B s) rfl rfl) ?_
  refine gm_ev.bipush (v := 6) i141_43 (by decide) ?_
  refine gm_ev.iload_n i141_45 rfl ?_
  refine gm_ev.imul i141_46 ?_
  refine gm_ev.iaload i141_47 (bM_ai (j := 6) (n := 144) (f := s.2.1 14) rfl ek3 lk3 (by decide)) ?_
  refine gm_ev.callV gm_mono_run (av := [.int (s.2.1 14 k3)]) (r := []) (ci := 11) (fs := mF B s) (bM_get (j := 0) rfl) i141_48 rfl rfl rfl (Nat.le_of_ble_eq_true rfl) t4 ?_
  refine gm_ev.aload_n i141_51 rfl ?_
  refine gm_ev.getfield (v := .ref (B + 10)) i141_52 rfl (bM_fld (j := 0) (fs := mF B s5) rfl rfl) ?_
  refine gm_ev.sipush (v := 274) i141_55 (by decide) ?_
  refine gm_ev.zaload i141_58 (bM_ai (j := 10) (n := 512) (f := s5.2.1 18) rfl ek6 lk6 (by decide)) ?_
  refine gm_ev.istore_n (ls' := [some (.ref B), some (.int p0), some (.int ((s.2.1 14 k1) / (4 : Int32))), some (.int (s5.2.1 18 k6))]) i141_59 (Nat.le_of_ble_eq_true rfl) rfl ?_
  refine gm_ev.iload_n i141_60 rfl ?_
  refine gm_ev.bipush (v := 73) i141_61 (by decide) ?_
  refine gm_ev.icmp_eq_f i141_63 c7 ?_
  refine gm_ev.iload_n i141_66 rfl ?_
  refine gm_ev.goto (tgt := 123) i141_67 (by decide) ?_
  exact gm_ev.zret i141_123 rfl z8
theorem r_isMixed_0_fttt {N0 : Nat} {K : Nat → Nat} {d B : Nat} {s : mS} {G : gm_H} {sz sl : Nat} {p0 : Int32} {k1 : Nat} {k4 : Nat} {s6 : mS} {k7 : Nat} (hN : N0 ≤ B) (ek1 : ((6 : Int32) * p0) = nI k1) (lk1 : k1 < 144) (c2 : ¬ ((s.2.1 14 k1) / (4 : Int32)) = (73 : Int32)) (c3 : ((s.2.1 14 k1) / (4 : Int32)) = (76 : Int32)) (ek4 : ((6 : Int32) * p0) = nI k4) (lk4 : k4 < 144) (t5 : gm_to N0 K ra_nm (ra_mt K) d 139 [.ref B, .int (s.2.1 14 k4)] (bM B (mH B s) G) sz (.returned none, bM B (mH B s6) G, sz, 0)) (ek7 : (274 : Int32) = nI k7) (lk7 : k7 < 512) (c8 : ((s.2.1 14 k1) / (4 : Int32)) = (73 : Int32)) (c9 : ¬ (s6.2.1 18 k7) = 0) : gm_ev N0 K ra_nm (ra_mt K) d (some .boolean) (gm_I cX12_isMixed) (gm_lkf (lkX12 false K)) 0 [some (.ref B), some (.int p0), none, none] [] (bM B (mH B s) G) sz sl (.returned (some (.int (1 : Int32))), (bM B (mH B s6) G), sz, sl) := by
  refine gm_ev.aload_n i141_0 rfl ?_
  refine gm_ev.getfield (v := .ref (B + 6)) i141_1 rfl (bM_fld (j := 0) (fs := mF B s) rfl rfl) ?_
  refine gm_ev.bipush (v := 6) i141_4 (by decide) ?_
  refine gm_ev.iload_n i141_6 rfl ?_
  refine gm_ev.imul i141_7 ?_
  refine gm_ev.iaload i141_8 (bM_ai (j := 6) (n := 144) (f := s.2.1 14) rfl ek1 lk1 (by decide)) ?_
  refine gm_ev.iconst (v := 4) i141_9 (by decide) ?_
  refine gm_ev.idiv i141_10 (by decide) ?_
  refine gm_ev.istore_n (ls' := [some (.ref B), some (.int p0), some (.int ((s.2.1 14 k1) / (4 : Int32))), none]) i141_11 (Nat.le_of_ble_eq_true rfl) rfl ?_
  refine gm_ev.iload_n i141_12 rfl ?_
  refine gm_ev.bipush (v := 73) i141_13 (by decide) ?_
  refine gm_ev.icmp_eq_f i141_15 c2 ?_
  refine gm_ev.iload_n i141_18 rfl ?_
  refine gm_ev.bipush (v := 76) i141_19 (by decide) ?_
  refine gm_ev.icmp_eq_t (tgt := 38) i141_21 (by decide) c3 ?_
  refine gm_ev.aload_n i141_38 rfl ?_
  refine gm_ev.aload_n i141_39 rfl ?_
  refine gm_ev.getfield (v := .ref (B + 6)) i141_40 rfl (bM_fld (j := 0) (fs := mF B s) rfl rfl) ?_
  refine gm_ev.bipush (v := 6) i141_43 (by decide) ?_
  refine gm_ev.iload_n i141_45 rfl ?_
  refine gm_ev.imul i141_46 ?_
  refine gm_ev.iaload i141_47 (bM_ai (j := 6) (n := 144) (f := s.2.1 14) rfl ek4 lk4 (by decide)) ?_
  refine gm_ev.callV gm_mono_run (av := [.int (s.2.1 14 k4)]) (r := []) (ci := 11) (fs := mF B s) (bM_get (j := 0) rfl) i141_48 rfl rfl rfl (Nat.le_of_ble_eq_true rfl) t5 ?_
  refine gm_ev.aload_n i141_51 rfl ?_
  refine gm_ev.getfield (v := .ref (B + 10)) i141_52 rfl (bM_fld (j := 0) (fs := mF B s6) rfl rfl) ?_
  refine gm_ev.sipush (v := 274) i141_55 (by decide) ?_
  refine gm_ev.zaload i141_58 (bM_ai (j := 10) (n := 512) (f := s6.2.1 18) rfl ek7 lk7 (by decide)) ?_
  refine gm_ev.istore_n (ls' := [some (.ref B), some (.int p0), some (.int ((s.2.1 14 k1) / (4 : Int32))), some (.int (s6.2.1 18 k7))]) i141_59 (Nat.le_of_ble_eq_true rfl) rfl ?_
  refine gm_ev.iload_n i141_60 rfl ?_
  refine gm_ev.bipush (v := 73) i141_61 (by decide) ?_
  refine gm_ev.icmp_eq_t (tgt := 70) i141_63 (by decide) c8 ?_
  refine gm_ev.iload_n i141_70 rfl ?_
  refine gm_ev.if_ne_t (tgt := 118) i141_71 (by decide) c9 ?_
  refine gm_ev.iconst (v := 1) i141_118 (by decide) ?_
  refine gm_ev.goto (tgt := 123) i141_119 (by decide) ?_
  exact gm_ev.zret i141_123 rfl (by decide)
theorem r_isMixed_0_fttft {N0 : Nat} {K : Nat → Nat} {d B : Nat} {s : mS} {G : gm_H} {sz sl : Nat} {p0 : Int32} {k1 : Nat} {k4 : Nat} {s6 : mS} {k7 : Nat} {k10 : Nat} (hN : N0 ≤ B) (ek1 : ((6 : Int32) * p0) = nI k1) (lk1 : k1 < 144) (c2 : ¬ ((s.2.1 14 k1) / (4 : Int32)) = (73 : Int32)) (c3 : ((s.2.1 14 k1) / (4 : Int32)) = (76 : Int32)) (ek4 : ((6 : Int32) * p0) = nI k4) (lk4 : k4 < 144) (t5 : gm_to N0 K ra_nm (ra_mt K) d 139 [.ref B, .int (s.2.1 14 k4)] (bM B (mH B s) G) sz (.returned none, bM B (mH B s6) G, sz, 0)) (ek7 : (274 : Int32) = nI k7) (lk7 : k7 < 512) (c8 : ((s.2.1 14 k1) / (4 : Int32)) = (73 : Int32)) (c9 : (s6.2.1 18 k7) = 0) (ek10 : (337 : Int32) = nI k10) (lk10 : k10 < 512) (c11 : ¬ (s6.2.1 18 k10) = 0) : gm_ev N0 K ra_nm (ra_mt K) d (some .boolean) (gm_I cX12_isMixed) (gm_lkf (lkX12 false K)) 0 [some (.ref B), some (.int p0), none, none] [] (bM B (mH B s) G) sz sl (.returned (some (.int (1 : Int32))), (bM B (mH B s6) G), sz, sl) := by
  refine gm_ev.aload_n i141_0 rfl ?_
  refine gm_ev.getfield (v := .ref (B + 6)) i141_1 rfl (bM_fld (j := 0) (fs := mF B s) rfl rfl) ?_
  refine gm_ev.bipush (v := 6) i141_4 (by decide) ?_
  refine gm_ev.iload_n i141_6 rfl ?_
  refine gm_ev.imul i141_7 ?_
  refine gm_ev.iaload i141_8 (bM_ai (j := 6) (n := 144) (f := s.2.1 14) rfl ek1 lk1 (by decide)) ?_
  refine gm_ev.iconst (v := 4) i141_9 (by decide) ?_
  refine gm_ev.idiv i141_10 (by decide) ?_
  refine gm_ev.istore_n (ls' := [some (.ref B), some (.int p0), some (.int ((s.2.1 14 k1) / (4 : Int32))), none]) i141_11 (Nat.le_of_ble_eq_true rfl) rfl ?_
  refine gm_ev.iload_n i141_12 rfl ?_
  refine gm_ev.bipush (v := 73) i141_13 (by decide) ?_
  refine gm_ev.icmp_eq_f i141_15 c2 ?_
  refine gm_ev.iload_n i141_18 rfl ?_
  refine gm_ev.bipush (v := 76) i141_19 (by decide) ?_
  refine gm_ev.icmp_eq_t (tgt := 38) i141_21 (by decide) c3 ?_
  refine gm_ev.aload_n i141_38 rfl ?_
  refine gm_ev.aload_n i141_39 rfl ?_
  refine gm_ev.getfield (v := .ref (B + 6)) i141_40 rfl (bM_fld (j := 0) (fs := mF B s) rfl rfl) ?_
  refine gm_ev.bipush (v := 6) i141_43 (by decide) ?_
  refine gm_ev.iload_n i141_45 rfl ?_
  refine gm_ev.imul i141_46 ?_
  refine gm_ev.iaload i141_47 (bM_ai (j := 6) (n := 144) (f := s.2.1 14) rfl ek4 lk4 (by decide)) ?_
  refine gm_ev.callV gm_mono_run (av := [.int (s.2.1 14 k4)]) (r := []) (ci := 11) (fs := mF B s) (bM_get (j := 0) rfl) i141_48 rfl rfl rfl (Nat.le_of_ble_eq_true rfl) t5 ?_
  refine gm_ev.aload_n i141_51 rfl ?_
  refine gm_ev.getfield (v := .ref (B + 10)) i141_52 rfl (bM_fld (j := 0) (fs := mF B s6) rfl rfl) ?_
  refine gm_ev.sipush (v := 274) i141_55 (by decide) ?_
  refine gm_ev.zaload i141_58 (bM_ai (j := 10) (n := 512) (f := s6.2.1 18) rfl ek7 lk7 (by decide)) ?_
  refine gm_ev.istore_n (ls' := [some (.ref B), some (.int p0), some (.int ((s.2.1 14 k1) / (4 : Int32))), some (.int (s6.2.1 18 k7))]) i141_59 (Nat.le_of_ble_eq_true rfl) rfl ?_
  refine gm_ev.iload_n i141_60 rfl ?_
  refine gm_ev.bipush (v := 73) i141_61 (by decide) ?_
  refine gm_ev.icmp_eq_t (tgt := 70) i141_63 (by decide) c8 ?_
  refine gm_ev.iload_n i141_70 rfl ?_
  refine gm_ev.if_ne_f i141_71 c9 ?_
  refine gm_ev.aload_n i141_74 rfl ?_
  refine gm_ev.getfield (v := .ref (B + 10)) i141_75 rfl (bM_fld (j := 0) (fs := mF B s6) rfl rfl) ?_
  refine gm_ev.sipush (v := 337) i141_78 (by decide) ?_
  refine gm_ev.zaload i141_81 (bM_ai (j := 10) (n := 512) (f := s6.2.1 18) rfl ek10 lk10 (by decide)) ?_
  refine gm_ev.if_ne_t (tgt := 118) i141_82 (by decide) c11 ?_
  refine gm_ev.iconst (v := 1) i141_118 (by decide) ?_
  refine gm_ev.goto (tgt := 123) i141_119 (by decide) ?_
  exact gm_ev.zret i141_123 rfl (by decide)
theorem r_isMixed_0_fttfft {N0 : Nat} {K : Nat → Nat} {d B : Nat} {s : mS} {G : gm_H} {sz sl : Nat} {p0 : Int32} {k1 : Nat} {k4 : Nat} {s6 : mS} {k7 : Nat} {k10 : Nat} {k12 : Nat} (hN : N0 ≤ B) (ek1 : ((6 : Int32) * p0) = nI k1) (lk1 : k1 < 144) (c2 : ¬ ((s.2.1 14 k1) / (4 : Int32)) = (73 : Int32)) (c3 : ((s.2.1 14 k1) / (4 : Int32)) = (76 : Int32)) (ek4 : ((6 : Int32) * p0) = nI k4) (lk4 : k4 < 144) (t5 : gm_to N0 K ra_nm (ra_mt K) d 139 [.ref B, .int (s.2.1 14 k4)] (bM B (mH B s) G) sz (.returned none, bM B (mH B s6) G, sz, 0)) (ek7 : (274 : Int32) = nI k7) (lk7 : k7 < 512) (c8 : ((s.2.1 14 k1) / (4 : Int32)) = (73 : Int32)) (c9 : (s6.2.1 18 k7) = 0) (ek10 : (337 : Int32) = nI k10) (lk10 : k10 < 512) (c11 : (s6.2.1 18 k10) = 0) (ek12 : (306 : Int32) = nI k12) (lk12 : k12 < 512) (c13 : ¬ (s6.2.1 18 k12) = 0) : gm_ev N0 K ra_nm (ra_mt K) d (some .boolean) (gm_I cX12_isMixed) (gm_lkf (lkX12 false K)) 0 [some (.ref B), some (.int p0), none, none] [] (bM B (mH B s) G) sz sl (.returned (some (.int (1 : Int32))), (bM B (mH B s6) G), sz, sl) := by
  refine gm_ev.aload_n i141_0 rfl ?_
  refine gm_ev.getfield (v := .ref (B + 6)) i141_1 rfl (bM_fld (j := 0) (fs := mF B s) rfl rfl) ?_
  refine gm_ev.bipush (v := 6) i141_4 (by decide) ?_
  refine gm_ev.iload_n i141_6 rfl ?_
  refine gm_ev.imul i141_7 ?_
  refine gm_ev.iaload i141_8 (bM_ai (j := 6) (n := 144) (f := s.2.1 14) rfl ek1 lk1 (by decide)) ?_
  refine gm_ev.iconst (v := 4) i141_9 (by decide) ?_
  refine gm_ev.idiv i141_10 (by decide) ?_
  refine gm_ev.istore_n (ls' := [some (.ref B), some (.int p0), some (.int ((s.2.1 14 k1) / (4 : Int32))), none]) i141_11 (Nat.le_of_ble_eq_true rfl) rfl ?_
  refine gm_ev.iload_n i141_12 rfl ?_
  refine gm_ev.bipush (v := 73) i141_13 (by decide) ?_
  refine gm_ev.icmp_eq_f i141_15 c2 ?_
  refine gm_ev.iload_n i141_18 rfl ?_
  refine gm_ev.bipush (v := 76) i141_19 (by decide) ?_
  refine gm_ev.icmp_eq_t (tgt := 38) i141_21 (by decide) c3 ?_
  refine gm_ev.aload_n i141_38 rfl ?_
  refine gm_ev.aload_n i141_39 rfl ?_
  refine gm_ev.getfield (v := .ref (B + 6)) i141_40 rfl (bM_fld (j := 0) (fs := mF B s) rfl rfl) ?_
  refine gm_ev.bipush (v := 6) i141_43 (by decide) ?_
  refine gm_ev.iload_n i141_45 rfl ?_
  refine gm_ev.imul i141_46 ?_
  refine gm_ev.iaload i141_47 (bM_ai (j := 6) (n := 144) (f := s.2.1 14) rfl ek4 lk4 (by decide)) ?_
  refine gm_ev.callV gm_mono_run (av := [.int (s.2.1 14 k4)]) (r := []) (ci := 11) (fs := mF B s) (bM_get (j := 0) rfl) i141_48 rfl rfl rfl (Nat.le_of_ble_eq_true rfl) t5 ?_
  refine gm_ev.aload_n i141_51 rfl ?_
  refine gm_ev.getfield (v := .ref (B + 10)) i141_52 rfl (bM_fld (j := 0) (fs := mF B s6) rfl rfl) ?_
  refine gm_ev.sipush (v := 274) i141_55 (by decide) ?_
  refine gm_ev.zaload i141_58 (bM_ai (j := 10) (n := 512) (f := s6.2.1 18) rfl ek7 lk7 (by decide)) ?_
  refine gm_ev.istore_n (ls' := [some (.ref B), some (.int p0), some (.int ((s.2.1 14 k1) / (4 : Int32))), some (.int (s6.2.1 18 k7))]) i141_59 (Nat.le_of_ble_eq_true rfl) rfl ?_
  refine gm_ev.iload_n i141_60 rfl ?_
  refine gm_ev.bipush (v := 73) i141_61 (by decide) ?_
  refine gm_ev.icmp_eq_t (tgt := 70) i141_63 (by decide) c8 ?_
  refine gm_ev.iload_n i141_70 rfl ?_
  refine gm_ev.if_ne_f i141_71 c9 ?_
  refine gm_ev.aload_n i141_74 rfl ?_
  refine gm_ev.getfield (v := .ref (B + 10)) i141_75 rfl (bM_fld (j := 0) (fs := mF B s6) rfl rfl) ?_
  refine gm_ev.sipush (v := 337) i141_78 (by decide) ?_
  refine gm_ev.zaload i141_81 (bM_ai (j := 10) (n := 512) (f := s6.2.1 18) rfl ek10 lk10 (by decide)) ?_
  refine gm_ev.if_ne_f i141_82 c11 ?_
  refine gm_ev.aload_n i141_85 rfl ?_
  refine gm_ev.getfield (v := .ref (B + 10)) i141_86 rfl (bM_fld (j := 0) (fs := mF B s6) rfl rfl) ?_
  refine gm_ev.sipush (v := 306) i141_89 (by decide) ?_
  refine gm_ev.zaload i141_92 (bM_ai (j := 10) (n := 512) (f := s6.2.1 18) rfl ek12 lk12 (by decide)) ?_
  refine gm_ev.if_ne_t (tgt := 118) i141_93 (by decide) c13 ?_
  refine gm_ev.iconst (v := 1) i141_118 (by decide) ?_
  refine gm_ev.goto (tgt := 123) i141_119 (by decide) ?_
  exact gm_ev.zret i141_123 rfl (by decide)
theorem r_isMixed_0_fttffft {N0 : Nat} {K : Nat → Nat} {d B : Nat} {s : mS} {G : gm_H} {sz sl : Nat} {p0 : Int32} {k1 : Nat} {k4 : Nat} {s6 : mS} {k7 : Nat} {k10 : Nat} {k12 : Nat} {k14 : Nat} (hN : N0 ≤ B) (ek1 : ((6 : Int32) * p0) = nI k1) (lk1 : k1 < 144) (c2 : ¬ ((s.2.1 14 k1) / (4 : Int32)) = (73 : Int32)) (c3 : ((s.2.1 14 k1) / (4 : Int32)) = (76 : Int32)) (ek4 : ((6 : Int32) * p0) = nI k4) (lk4 : k4 < 144) (t5 : gm_to N0 K ra_nm (ra_mt K) d 139 [.ref B, .int (s.2.1 14 k4)] (bM B (mH B s) G) sz (.returned none, bM B (mH B s6) G, sz, 0)) (ek7 : (274 : Int32) = nI k7) (lk7 : k7 < 512) (c8 : ((s.2.1 14 k1) / (4 : Int32)) = (73 : Int32)) (c9 : (s6.2.1 18 k7) = 0) (ek10 : (337 : Int32) = nI k10) (lk10 : k10 < 512) (c11 : (s6.2.1 18 k10) = 0) (ek12 : (306 : Int32) = nI k12) (lk12 : k12 < 512) (c13 : (s6.2.1 18 k12) = 0) (ek14 : (286 : Int32) = nI k14) (lk14 : k14 < 512) (c15 : ¬ (s6.2.1 18 k14) = 0) : gm_ev N0 K ra_nm (ra_mt K) d (some .boolean) (gm_I cX12_isMixed) (gm_lkf (lkX12 false K)) 0 [some (.ref B), some (.int p0), none, none] [] (bM B (mH B s) G) sz sl (.returned (some (.int (1 : Int32))), (bM B (mH B s6) G), sz, sl) := by
  refine gm_ev.aload_n i141_0 rfl ?_
  refine gm_ev.getfield (v := .ref (B + 6)) i141_1 rfl (bM_fld (j := 0) (fs := mF B s) rfl rfl) ?_
  refine gm_ev.bipush (v := 6) i141_4 (by decide) ?_
  refine gm_ev.iload_n i141_6 rfl ?_
  refine gm_ev.imul i141_7 ?_
  refine gm_ev.iaload i141_8 (bM_ai (j := 6) (n := 144) (f := s.2.1 14) rfl ek1 lk1 (by decide)) ?_
  refine gm_ev.iconst (v := 4) i141_9 (by decide) ?_
  refine gm_ev.idiv i141_10 (by decide) ?_
  refine gm_ev.istore_n (ls' := [some (.ref B), some (.int p0), some (.int ((s.2.1 14 k1) / (4 : Int32))), none]) i141_11 (Nat.le_of_ble_eq_true rfl) rfl ?_
  refine gm_ev.iload_n i141_12 rfl ?_
  refine gm_ev.bipush (v := 73) i141_13 (by decide) ?_
  refine gm_ev.icmp_eq_f i141_15 c2 ?_
  refine gm_ev.iload_n i141_18 rfl ?_
  refine gm_ev.bipush (v := 76) i141_19 (by decide) ?_
  refine gm_ev.icmp_eq_t (tgt := 38) i141_21 (by decide) c3 ?_
  refine gm_ev.aload_n i141_38 rfl ?_
  refine gm_ev.aload_n i141_39 rfl ?_
  refine gm_ev.getfield (v := .ref (B + 6)) i141_40 rfl (bM_fld (j := 0) (fs := mF B s) rfl rfl) ?_
  refine gm_ev.bipush (v := 6) i141_43 (by decide) ?_
  refine gm_ev.iload_n i141_45 rfl ?_
  refine gm_ev.imul i141_46 ?_
  refine gm_ev.iaload i141_47 (bM_ai (j := 6) (n := 144) (f := s.2.1 14) rfl ek4 lk4 (by decide)) ?_
  refine gm_ev.callV gm_mono_run (av := [.int (s.2.1 14 k4)]) (r := []) (ci := 11) (fs := mF B s) (bM_get (j := 0) rfl) i141_48 rfl rfl rfl (Nat.le_of_ble_eq_true rfl) t5 ?_
  refine gm_ev.aload_n i141_51 rfl ?_
  refine gm_ev.getfield (v := .ref (B + 10)) i141_52 rfl (bM_fld (j := 0) (fs := mF B s6) rfl rfl) ?_
  refine gm_ev.sipush (v := 274) i141_55 (by decide) ?_
  refine gm_ev.zaload i141_58 (bM_ai (j := 10) (n := 512) (f := s6.2.1 18) rfl ek7 lk7 (by decide)) ?_
  refine gm_ev.istore_n (ls' := [some (.ref B), some (.int p0), some (.int ((s.2.1 14 k1) / (4 : Int32))), some (.int (s6.2.1 18 k7))]) i141_59 (Nat.le_of_ble_eq_true rfl) rfl ?_
  refine gm_ev.iload_n i141_60 rfl ?_
  refine gm_ev.bipush (v := 73) i141_61 (by decide) ?_
  refine gm_ev.icmp_eq_t (tgt := 70) i141_63 (by decide) c8 ?_
  refine gm_ev.iload_n i141_70 rfl ?_
  refine gm_ev.if_ne_f i141_71 c9 ?_
  refine gm_ev.aload_n i141_74 rfl ?_
  refine gm_ev.getfield (v := .ref (B + 10)) i141_75 rfl (bM_fld (j := 0) (fs := mF B s6) rfl rfl) ?_
  refine gm_ev.sipush (v := 337) i141_78 (by decide) ?_
  refine gm_ev.zaload i141_81 (bM_ai (j := 10) (n := 512) (f := s6.2.1 18) rfl ek10 lk10 (by decide)) ?_
  refine gm_ev.if_ne_f i141_82 c11 ?_
  refine gm_ev.aload_n i141_85 rfl ?_
  refine gm_ev.getfield (v := .ref (B + 10)) i141_86 rfl (bM_fld (j := 0) (fs := mF B s6) rfl rfl) ?_
  refine gm_ev.sipush (v := 306) i141_89 (by decide) ?_
  refine gm_ev.zaload i141_92 (bM_ai (j := 10) (n := 512) (f := s6.2.1 18) rfl ek12 lk12 (by decide)) ?_
  refine gm_ev.if_ne_f i141_93 c13 ?_
  refine gm_ev.aload_n i141_96 rfl ?_
  refine gm_ev.getfield (v := .ref (B + 10)) i141_97 rfl (bM_fld (j := 0) (fs := mF B s6) rfl rfl) ?_
  refine gm_ev.sipush (v := 286) i141_100 (by decide) ?_
  refine gm_ev.zaload i141_103 (bM_ai (j := 10) (n := 512) (f := s6.2.1 18) rfl ek14 lk14 (by decide)) ?_
  refine gm_ev.if_ne_t (tgt := 118) i141_104 (by decide) c15 ?_
  refine gm_ev.iconst (v := 1) i141_118 (by decide) ?_
  refine gm_ev.goto (tgt := 123) i141_119 (by decide) ?_
  exact gm_ev.zret i141_123 rfl (by decide)
theorem r_isMixed_0_fttfffft {N0 : Nat} {K : Nat → Nat} {d B : Nat} {s : mS} {G : gm_H} {sz sl : Nat} {p0 : Int32} {k1 : Nat} {k4 : Nat} {s6 : mS} {k7 : Nat} {k10 : Nat} {k12 : Nat} {k14 : Nat} {k16 : Nat} (hN : N0 ≤ B) (ek1 : ((6 : Int32) * p0) = nI k1) (lk1 : k1 < 144) (c2 : ¬ ((s.2.1 14 k1) / (4 : Int32)) = (73 : Int32)) (c3 : ((s.2.1 14 k1) / (4 : Int32)) = (76 : Int32)) (ek4 : ((6 : Int32) * p0) = nI k4) (lk4 : k4 < 144) (t5 : gm_to N0 K ra_nm (ra_mt K) d 139 [.ref B, .int (s.2.1 14 k4)] (bM B (mH B s) G) sz (.returned none, bM B (mH B s6) G, sz, 0)) (ek7 : (274 : Int32) = nI k7) (lk7 : k7 < 512) (c8 : ((s.2.1 14 k1) / (4 : Int32)) = (73 : Int32)) (c9 : (s6.2.1 18 k7) = 0) (ek10 : (337 : Int32) = nI k10) (lk10 : k10 < 512) (c11 : (s6.2.1 18 k10) = 0) (ek12 : (306 : Int32) = nI k12) (lk12 : k12 < 512) (c13 : (s6.2.1 18 k12) = 0) (ek14 : (286 : Int32) = nI k14) (lk14 : k14 < 512) (c15 : (s6.2.1 18 k14) = 0) (ek16 : (276 : Int32) = nI k16) (lk16 : k16 < 512) (c17 : (s6.2.1 18 k16) = 0) : gm_ev N0 K ra_nm (ra_mt K) d (some .boolean) (gm_I cX12_isMixed) (gm_lkf (lkX12 false K)) 0 [some (.ref B), some (.int p0), none, none] [] (bM B (mH B s) G) sz sl (.returned (some (.int (0 : Int32))), (bM B (mH B s6) G), sz, sl) := by
  refine gm_ev.aload_n i141_0 rfl ?_
  refine gm_ev.getfield (v := .ref (B + 6)) i141_1 rfl (bM_fld (j := 0) (fs := mF B s) rfl rfl) ?_
  refine gm_ev.bipush (v := 6) i141_4 (by decide) ?_
  refine gm_ev.iload_n i141_6 rfl ?_
  refine gm_ev.imul i141_7 ?_
  refine gm_ev.iaload i141_8 (bM_ai (j := 6) (n := 144) (f := s.2.1 14) rfl ek1 lk1 (by decide)) ?_
  refine gm_ev.iconst (v := 4) i141_9 (by decide) ?_
  refine gm_ev.idiv i141_10 (by decide) ?_
  refine gm_ev.istore_n (ls' := [some (.ref B), some (.int p0), some (.int ((s.2.1 14 k1) / (4 : Int32))), none]) i141_11 (Nat.le_of_ble_eq_true rfl) rfl ?_
  refine gm_ev.iload_n i141_12 rfl ?_
  refine gm_ev.bipush (v := 73) i141_13 (by decide) ?_
  refine gm_ev.icmp_eq_f i141_15 c2 ?_
  refine gm_ev.iload_n i141_18 rfl ?_
  refine gm_ev.bipush (v := 76) i141_19 (by decide) ?_
  refine gm_ev.icmp_eq_t (tgt := 38) i141_21 (by decide) c3 ?_
  refine gm_ev.aload_n i141_38 rfl ?_
  refine gm_ev.aload_n i141_39 rfl ?_
  refine gm_ev.getfield (v := .ref (B + 6)) i141_40 rfl (bM_fld (j := 0) (fs := mF B s) rfl rfl) ?_
  refine gm_ev.bipush (v := 6) i141_43 (by decide) ?_
  refine gm_ev.iload_n i141_45 rfl ?_
  refine gm_ev.imul i141_46 ?_
  refine gm_ev.iaload i141_47 (bM_ai (j := 6) (n := 144) (f := s.2.1 14) rfl ek4 lk4 (by decide)) ?_
  refine gm_ev.callV gm_mono_run (av := [.int (s.2.1 14 k4)]) (r := []) (ci := 11) (fs := mF B s) (bM_get (j := 0) rfl) i141_48 rfl rfl rfl (Nat.le_of_ble_eq_true rfl) t5 ?_
  refine gm_ev.aload_n i141_51 rfl ?_
  refine gm_ev.getfield (v := .ref (B + 10)) i141_52 rfl (bM_fld (j := 0) (fs := mF B s6) rfl rfl) ?_
  refine gm_ev.sipush (v := 274) i141_55 (by decide) ?_
  refine gm_ev.zaload i141_58 (bM_ai (j := 10) (n := 512) (f := s6.2.1 18) rfl ek7 lk7 (by decide)) ?_
  refine gm_ev.istore_n (ls' := [some (.ref B), some (.int p0), some (.int ((s.2.1 14 k1) / (4 : Int32))), some (.int (s6.2.1 18 k7))]) i141_59 (Nat.le_of_ble_eq_true rfl) rfl ?_
  refine gm_ev.iload_n i141_60 rfl ?_
  refine gm_ev.bipush (v := 73) i141_61 (by decide) ?_
  refine gm_ev.icmp_eq_t (tgt := 70) i141_63 (by decide) c8 ?_
  refine gm_ev.iload_n i141_70 rfl ?_
  refine gm_ev.if_ne_f i141_71 c9 ?_
  refine gm_ev.aload_n i141_74 rfl ?_
  refine gm_ev.getfield (v := .ref (B + 10)) i141_75 rfl (bM_fld (j := 0) (fs := mF B s6) rfl rfl) ?_
  refine gm_ev.sipush (v := 337) i141_78 (by decide) ?_
  refine gm_ev.zaload i141_81 (bM_ai (j := 10) (n := 512) (f := s6.2.1 18) rfl ek10 lk10 (by decide)) ?_
  refine gm_ev.if_ne_f i141_82 c11 ?_
  refine gm_ev.aload_n i141_85 rfl ?_
  refine gm_ev.getfield (v := .ref (B + 10)) i141_86 rfl (bM_fld (j := 0) (fs := mF B s6) rfl rfl) ?_
  refine gm_ev.sipush (v := 306) i141_89 (by decide) ?_
  refine gm_ev.zaload i141_92 (bM_ai (j := 10) (n := 512) (f := s6.2.1 18) rfl ek12 lk12 (by decide)) ?_
  refine gm_ev.if_ne_f i141_93 c13 ?_
  refine gm_ev.aload_n i141_96 rfl ?_
  refine gm_ev.getfield (v := .ref (B + 10)) i141_97 rfl (bM_fld (j := 0) (fs := mF B s6) rfl rfl) ?_
  refine gm_ev.sipush (v := 286) i141_100 (by decide) ?_
  refine gm_ev.zaload i141_103 (bM_ai (j := 10) (n := 512) (f := s6.2.1 18) rfl ek14 lk14 (by decide)) ?_
  refine gm_ev.if_ne_f i141_104 c15 ?_
  refine gm_ev.aload_n i141_107 rfl ?_
  refine gm_ev.getfield (v := .ref (B + 10)) i141_108 rfl (bM_fld (j := 0) (fs := mF B s6) rfl rfl) ?_
  refine gm_ev.sipush (v := 276) i141_111 (by decide) ?_
  refine gm_ev.zaload i141_114 (bM_ai (j := 10) (n := 512) (f := s6.2.1 18) rfl ek16 lk16 (by decide)) ?_
  refine gm_ev.if_eq_t (tgt := 122) i141_115 (by decide) c17 ?_
  refine gm_ev.iconst (v := 0) i141_122 (by decide) ?_
  exact gm_ev.zret i141_123 rfl (by decide)
theorem r_isMixed_0_fttfffff {N0 : Nat} {K : Nat → Nat} {d B : Nat} {s : mS} {G : gm_H} {sz sl : Nat} {p0 : Int32} {k1 : Nat} {k4 : Nat} {s6 : mS} {k7 : Nat} {k10 : Nat} {k12 : Nat} {k14 : Nat} {k16 : Nat} (hN : N0 ≤ B) (ek1 : ((6 : Int32) * p0) = nI k1) (lk1 : k1 < 144) (c2 : ¬ ((s.2.1 14 k1) / (4 : Int32)) = (73 : Int32)) (c3 : ((s.2.1 14 k1) / (4 : Int32)) = (76 : Int32)) (ek4 : ((6 : Int32) * p0) = nI k4) (lk4 : k4 < 144) (t5 : gm_to N0 K ra_nm (ra_mt K) d 139 [.ref B, .int (s.2.1 14 k4)] (bM B (mH B s) G) sz (.returned none, bM B (mH B s6) G, sz, 0)) (ek7 : (274 : Int32) = nI k7) (lk7 : k7 < 512) (c8 : ((s.2.1 14 k1) / (4 : Int32)) = (73 : Int32)) (c9 : (s6.2.1 18 k7) = 0) (ek10 : (337 : Int32) = nI k10) (lk10 : k10 < 512) (c11 : (s6.2.1 18 k10) = 0) (ek12 : (306 : Int32) = nI k12) (lk12 : k12 < 512) (c13 : (s6.2.1 18 k12) = 0) (ek14 : (286 : Int32) = nI k14) (lk14 : k14 < 512) (c15 : (s6.2.1 18 k14) = 0) (ek16 : (276 : Int32) = nI k16) (lk16 : k16 < 512) (c17 : ¬ (s6.2.1 18 k16) = 0) : gm_ev N0 K ra_nm (ra_mt K) d (some .boolean) (gm_I cX12_isMixed) (gm_lkf (lkX12 false K)) 0 [some (.ref B), some (.int p0), none, none] [] (bM B (mH B s) G) sz sl (.returned (some (.int (1 : Int32))), (bM B (mH B s6) G), sz, sl) := by
  refine gm_ev.aload_n i141_0 rfl ?_
  refine gm_ev.getfield (v := .ref (B + 6)) i141_1 rfl (bM_fld (j := 0) (fs := mF B s) rfl rfl) ?_
  refine gm_ev.bipush (v := 6) i141_4 (by decide) ?_
  refine gm_ev.iload_n i141_6 rfl ?_
  refine gm_ev.imul i141_7 ?_
  refine gm_ev.iaload i141_8 (bM_ai (j := 6) (n := 144) (f := s.2.1 14) rfl ek1 lk1 (by decide)) ?_
  refine gm_ev.iconst (v := 4) i141_9 (by decide) ?_
  refine gm_ev.idiv i141_10 (by decide) ?_
  refine gm_ev.istore_n (ls' := [some (.ref B), some (.int p0), some (.int ((s.2.1 14 k1) / (4 : Int32))), none]) i141_11 (Nat.le_of_ble_eq_true rfl) rfl ?_
  refine gm_ev.iload_n i141_12 rfl ?_
  refine gm_ev.bipush (v := 73) i141_13 (by decide) ?_
  refine gm_ev.icmp_eq_f i141_15 c2 ?_
  refine gm_ev.iload_n i141_18 rfl ?_
  refine gm_ev.bipush (v := 76) i141_19 (by decide) ?_
  refine gm_ev.icmp_eq_t (tgt := 38) i141_21 (by decide) c3 ?_
  refine gm_ev.aload_n i141_38 rfl ?_
  refine gm_ev.aload_n i141_39 rfl ?_
  refine gm_ev.getfield (v := .ref (B + 6)) i141_40 rfl (bM_fld (j := 0) (fs := mF B s) rfl rfl) ?_
  refine gm_ev.bipush (v := 6) i141_43 (by decide) ?_
  refine gm_ev.iload_n i141_45 rfl ?_
  refine gm_ev.imul i141_46 ?_
  refine gm_ev.iaload i141_47 (bM_ai (j := 6) (n := 144) (f := s.2.1 14) rfl ek4 lk4 (by decide)) ?_
  refine gm_ev.callV gm_mono_run (av := [.int (s.2.1 14 k4)]) (r := []) (ci := 11) (fs := mF B s) (bM_get (j := 0) rfl) i141_48 rfl rfl rfl (Nat.le_of_ble_eq_true rfl) t5 ?_
  refine gm_ev.aload_n i141_51 rfl ?_
  refine gm_ev.getfield (v := .ref (B + 10)) i141_52 rfl (bM_fld (j := 0) (fs := mF B s6) rfl rfl) ?_
  refine gm_ev.sipush (v := 274) i141_55 (by decide) ?_
  refine gm_ev.zaload i141_58 (bM_ai (j := 10) (n := 512) (f := s6.2.1 18) rfl ek7 lk7 (by decide)) ?_
  refine gm_ev.istore_n (ls' := [some (.ref B), some (.int p0), some (.int ((s.2.1 14 k1) / (4 : Int32))), some (.int (s6.2.1 18 k7))]) i141_59 (Nat.le_of_ble_eq_true rfl) rfl ?_
  refine gm_ev.iload_n i141_60 rfl ?_
  refine gm_ev.bipush (v := 73) i141_61 (by decide) ?_
  refine gm_ev.icmp_eq_t (tgt := 70) i141_63 (by decide) c8 ?_
  refine gm_ev.iload_n i141_70 rfl ?_
  refine gm_ev.if_ne_f i141_71 c9 ?_
  refine gm_ev.aload_n i141_74 rfl ?_
  refine gm_ev.getfield (v := .ref (B + 10)) i141_75 rfl (bM_fld (j := 0) (fs := mF B s6) rfl rfl) ?_
  refine gm_ev.sipush (v := 337) i141_78 (by decide) ?_
  refine gm_ev.zaload i141_81 (bM_ai (j := 10) (n := 512) (f := s6.2.1 18) rfl ek10 lk10 (by decide)) ?_
  refine gm_ev.if_ne_f i141_82 c11 ?_
  refine gm_ev.aload_n i141_85 rfl ?_
  refine gm_ev.getfield (v := .ref (B + 10)) i141_86 rfl (bM_fld (j := 0) (fs := mF B s6) rfl rfl) ?_
  refine gm_ev.sipush (v := 306) i141_89 (by decide) ?_
  refine gm_ev.zaload i141_92 (bM_ai (j := 10) (n := 512) (f := s6.2.1 18) rfl ek12 lk12 (by decide)) ?_
  refine gm_ev.if_ne_f i141_93 c13 ?_
  refine gm_ev.aload_n i141_96 rfl ?_
  refine gm_ev.getfield (v := .ref (B + 10)) i141_97 rfl (bM_fld (j := 0) (fs := mF B s6) rfl rfl) ?_
  refine gm_ev.sipush (v := 286) i141_100 (by decide) ?_
  refine gm_ev.zaload i141_103 (bM_ai (j := 10) (n := 512) (f := s6.2.1 18) rfl ek14 lk14 (by decide)) ?_
  refine gm_ev.if_ne_f i141_104 c15 ?_
  refine gm_ev.aload_n i141_107 rfl ?_
  refine gm_ev.getfield (v := .ref (B + 10)) i141_108 rfl (bM_fld (j := 0) (fs := mF B s6) rfl rfl) ?_
  refine gm_ev.sipush (v := 276) i141_111 (by decide) ?_
  refine gm_ev.zaload i141_114 (bM_ai (j := 10) (n := 512) (f := s6.2.1 18) rfl ek16 lk16 (by decide)) ?_
  refine gm_ev.if_eq_f i141_115 c17 ?_
  refine gm_ev.iconst (v := 1) i141_118 (by decide) ?_
  refine gm_ev.goto (tgt := 123) i141_119 (by decide) ?_
  exact gm_ev.zret i141_123 rfl (by decide)
theorem r_isMixed_0_ftf {N0 : Nat} {K : Nat → Nat} {d B : Nat} {s : mS} {G : gm_H} {sz sl : Nat} {p0 : Int32} {k1 : Nat} {k4 : Nat} {s6 : mS} {k7 : Nat} (hN : N0 ≤ B) (ek1 : ((6 : Int32) * p0) = nI k1) (lk1 : k1 < 144) (c2 : ¬ ((s.2.1 14 k1) / (4 : Int32)) = (73 : Int32)) (c3 : ((s.2.1 14 k1) / (4 : Int32)) = (76 : Int32)) (ek4 : ((6 : Int32) * p0) = nI k4) (lk4 : k4 < 144) (t5 : gm_to N0 K ra_nm (ra_mt K) d 139 [.ref B, .int (s.2.1 14 k4)] (bM B (mH B s) G) sz (.returned none, bM B (mH B s6) G, sz, 0)) (ek7 : (274 : Int32) = nI k7) (lk7 : k7 < 512) (c8 : ¬ ((s.2.1 14 k1) / (4 : Int32)) = (73 : Int32)) (z9 : (s6.2.1 18 k7) = 0 ∨ (s6.2.1 18 k7) = 1) : gm_ev N0 K ra_nm (ra_mt K) d (some .boolean) (gm_I cX12_isMixed) (gm_lkf (lkX12 false K)) 0 [some (.ref B), some (.int p0), none, none] [] (bM B (mH B s) G) sz sl (.returned (some (.int (s6.2.1 18 k7))), (bM B (mH B s6) G), sz, sl) := by
  refine gm_ev.aload_n i141_0 rfl ?_
  refine gm_ev.getfield (v := .ref (B + 6)) i141_1 rfl (bM_fld (j := 0) (fs := mF B s) rfl rfl) ?_
  refine gm_ev.bipush (v := 6) i141_4 (by decide) ?_
  refine gm_ev.iload_n i141_6 rfl ?_
  refine gm_ev.imul i141_7 ?_
  refine gm_ev.iaload i141_8 (bM_ai (j := 6) (n := 144) (f := s.2.1 14) rfl ek1 lk1 (by decide)) ?_
  refine gm_ev.iconst (v := 4) i141_9 (by decide) ?_
  refine gm_ev.idiv i141_10 (by decide) ?_
  refine gm_ev.istore_n (ls' := [some (.ref B), some (.int p0), some (.int ((s.2.1 14 k1) / (4 : Int32))), none]) i141_11 (Nat.le_of_ble_eq_true rfl) rfl ?_
  refine gm_ev.iload_n i141_12 rfl ?_
  refine gm_ev.bipush (v := 73) i141_13 (by decide) ?_
  refine gm_ev.icmp_eq_f i141_15 c2 ?_
  refine gm_ev.iload_n i141_18 rfl ?_
  refine gm_ev.bipush (v := 76) i141_19 (by decide) ?_
  refine gm_ev.icmp_eq_t (tgt := 38) i141_21 (by decide) c3 ?_
  refine gm_ev.aload_n i141_38 rfl ?_
  refine gm_ev.aload_n i141_39 rfl ?_
  refine gm_ev.getfield (v := .ref (B + 6)) i141_40 rfl (bM_fld (j := 0) (fs := mF B s) rfl rfl) ?_
  refine gm_ev.bipush (v := 6) i141_43 (by decide) ?_
  refine gm_ev.iload_n i141_45 rfl ?_
  refine gm_ev.imul i141_46 ?_
  refine gm_ev.iaload i141_47 (bM_ai (j := 6) (n := 144) (f := s.2.1 14) rfl ek4 lk4 (by decide)) ?_
  refine gm_ev.callV gm_mono_run (av := [.int (s.2.1 14 k4)]) (r := []) (ci := 11) (fs := mF B s) (bM_get (j := 0) rfl) i141_48 rfl rfl rfl (Nat.le_of_ble_eq_true rfl) t5 ?_
  refine gm_ev.aload_n i141_51 rfl ?_
  refine gm_ev.getfield (v := .ref (B + 10)) i141_52 rfl (bM_fld (j := 0) (fs := mF B s6) rfl rfl) ?_
  refine gm_ev.sipush (v := 274) i141_55 (by decide) ?_
  refine gm_ev.zaload i141_58 (bM_ai (j := 10) (n := 512) (f := s6.2.1 18) rfl ek7 lk7 (by decide)) ?_
  refine gm_ev.istore_n (ls' := [some (.ref B), some (.int p0), some (.int ((s.2.1 14 k1) / (4 : Int32))), some (.int (s6.2.1 18 k7))]) i141_59 (Nat.le_of_ble_eq_true rfl) rfl ?_
  refine gm_ev.iload_n i141_60 rfl ?_
  refine gm_ev.bipush (v := 73) i141_61 (by decide) ?_
  refine gm_ev.icmp_eq_f i141_63 c8 ?_
  refine gm_ev.iload_n i141_66 rfl ?_
  refine gm_ev.goto (tgt := 123) i141_67 (by decide) ?_
  exact gm_ev.zret i141_123 rfl z9
theorem r_isMixed_0_ffttt {N0 : Nat} {K : Nat → Nat} {d B : Nat} {s : mS} {G : gm_H} {sz sl : Nat} {p0 : Int32} {k1 : Nat} {k5 : Nat} {s7 : mS} {k8 : Nat} (hN : N0 ≤ B) (ek1 : ((6 : Int32) * p0) = nI k1) (lk1 : k1 < 144) (c2 : ¬ ((s.2.1 14 k1) / (4 : Int32)) = (73 : Int32)) (c3 : ¬ ((s.2.1 14 k1) / (4 : Int32)) = (76 : Int32)) (c4 : ((s.2.1 14 k1) / (4 : Int32)) = (71 : Int32)) (ek5 : ((6 : Int32) * p0) = nI k5) (lk5 : k5 < 144) (t6 : gm_to N0 K ra_nm (ra_mt K) d 139 [.ref B, .int (s.2.1 14 k5)] (bM B (mH B s) G) sz (.returned none, bM B (mH B s7) G, sz, 0)) (ek8 : (274 : Int32) = nI k8) (lk8 : k8 < 512) (c9 : ((s.2.1 14 k1) / (4 : Int32)) = (73 : Int32)) (c10 : ¬ (s7.2.1 18 k8) = 0) : gm_ev N0 K ra_nm (ra_mt K) d (some .boolean) (gm_I cX12_isMixed) (gm_lkf (lkX12 false K)) 0 [some (.ref B), some (.int p0), none, none] [] (bM B (mH B s) G) sz sl (.returned (some (.int (1 : Int32))), (bM B (mH B s7) G), sz, sl) := by
  refine gm_ev.aload_n i141_0 rfl ?_
  refine gm_ev.getfield (v := .ref (B + 6)) i141_1 rfl (bM_fld (j := 0) (fs := mF B s) rfl rfl) ?_
  refine gm_ev.bipush (v := 6) i141_4 (by decide) ?_
  refine gm_ev.iload_n i141_6 rfl ?_
  refine gm_ev.imul i141_7 ?_
  refine gm_ev.iaload i141_8 (bM_ai (j := 6) (n := 144) (f := s.2.1 14) rfl ek1 lk1 (by decide)) ?_
  refine gm_ev.iconst (v := 4) i141_9 (by decide) ?_
  refine gm_ev.idiv i141_10 (by decide) ?_
  refine gm_ev.istore_n (ls' := [some (.ref B), some (.int p0), some (.int ((s.2.1 14 k1) / (4 : Int32))), none]) i141_11 (Nat.le_of_ble_eq_true rfl) rfl ?_
  refine gm_ev.iload_n i141_12 rfl ?_
  refine gm_ev.bipush (v := 73) i141_13 (by decide) ?_
  refine gm_ev.icmp_eq_f i141_15 c2 ?_
  refine gm_ev.iload_n i141_18 rfl ?_
  refine gm_ev.bipush (v := 76) i141_19 (by decide) ?_
  refine gm_ev.icmp_eq_f i141_21 c3 ?_
  refine gm_ev.iload_n i141_24 rfl ?_
  refine gm_ev.bipush (v := 71) i141_25 (by decide) ?_
  refine gm_ev.icmp_eq_t (tgt := 38) i141_27 (by decide) c4 ?_
  refine gm_ev.aload_n i141_38 rfl ?_
  refine gm_ev.aload_n i141_39 rfl ?_
  refine gm_ev.getfield (v := .ref (B + 6)) i141_40 rfl (bM_fld (j := 0) (fs := mF B s) rfl rfl) ?_
  refine gm_ev.bipush (v := 6) i141_43 (by decide) ?_
  refine gm_ev.iload_n i141_45 rfl ?_
  refine gm_ev.imul i141_46 ?_
  refine gm_ev.iaload i141_47 (bM_ai (j := 6) (n := 144) (f := s.2.1 14) rfl ek5 lk5 (by decide)) ?_
  refine gm_ev.callV gm_mono_run (av := [.int (s.2.1 14 k5)]) (r := []) (ci := 11) (fs := mF B s) (bM_get (j := 0) rfl) i141_48 rfl rfl rfl (Nat.le_of_ble_eq_true rfl) t6 ?_
  refine gm_ev.aload_n i141_51 rfl ?_
  refine gm_ev.getfield (v := .ref (B + 10)) i141_52 rfl (bM_fld (j := 0) (fs := mF B s7) rfl rfl) ?_
  refine gm_ev.sipush (v := 274) i141_55 (by decide) ?_
  refine gm_ev.zaload i141_58 (bM_ai (j := 10) (n := 512) (f := s7.2.1 18) rfl ek8 lk8 (by decide)) ?_
  refine gm_ev.istore_n (ls' := [some (.ref B), some (.int p0), some (.int ((s.2.1 14 k1) / (4 : Int32))), some (.int (s7.2.1 18 k8))]) i141_59 (Nat.le_of_ble_eq_true rfl) rfl ?_
  refine gm_ev.iload_n i141_60 rfl ?_
  refine gm_ev.bipush (v := 73) i141_61 (by decide) ?_
  refine gm_ev.icmp_eq_t (tgt := 70) i141_63 (by decide) c9 ?_
  refine gm_ev.iload_n i141_70 rfl ?_
  refine gm_ev.if_ne_t (tgt := 118) i141_71 (by decide) c10 ?_
  refine gm_ev.iconst (v := 1) i141_118 (by decide) ?_
  refine gm_ev.goto (tgt := 123) i141_119 (by decide) ?_
  exact gm_ev.zret i141_123 rfl (by decide)
theorem r_isMixed_0_ffttft {N0 : Nat} {K : Nat → Nat} {d B : Nat} {s : mS} {G : gm_H} {sz sl : Nat} {p0 : Int32} {k1 : Nat} {k5 : Nat} {s7 : mS} {k8 : Nat} {k11 : Nat} (hN : N0 ≤ B) (ek1 : ((6 : Int32) * p0) = nI k1) (lk1 : k1 < 144) (c2 : ¬ ((s.2.1 14 k1) / (4 : Int32)) = (73 : Int32)) (c3 : ¬ ((s.2.1 14 k1) / (4 : Int32)) = (76 : Int32)) (c4 : ((s.2.1 14 k1) / (4 : Int32)) = (71 : Int32)) (ek5 : ((6 : Int32) * p0) = nI k5) (lk5 : k5 < 144) (t6 : gm_to N0 K ra_nm (ra_mt K) d 139 [.ref B, .int (s.2.1 14 k5)] (bM B (mH B s) G) sz (.returned none, bM B (mH B s7) G, sz, 0)) (ek8 : (274 : Int32) = nI k8) (lk8 : k8 < 512) (c9 : ((s.2.1 14 k1) / (4 : Int32)) = (73 : Int32)) (c10 : (s7.2.1 18 k8) = 0) (ek11 : (337 : Int32) = nI k11) (lk11 : k11 < 512) (c12 : ¬ (s7.2.1 18 k11) = 0) : gm_ev N0 K ra_nm (ra_mt K) d (some .boolean) (gm_I cX12_isMixed) (gm_lkf (lkX12 false K)) 0 [some (.ref B), some (.int p0), none, none] [] (bM B (mH B s) G) sz sl (.returned (some (.int (1 : Int32))), (bM B (mH B s7) G), sz, sl) := by
  refine gm_ev.aload_n i141_0 rfl ?_
  refine gm_ev.getfield (v := .ref (B + 6)) i141_1 rfl (bM_fld (j := 0) (fs := mF B s) rfl rfl) ?_
  refine gm_ev.bipush (v := 6) i141_4 (by decide) ?_
  refine gm_ev.iload_n i141_6 rfl ?_
  refine gm_ev.imul i141_7 ?_
  refine gm_ev.iaload i141_8 (bM_ai (j := 6) (n := 144) (f := s.2.1 14) rfl ek1 lk1 (by decide)) ?_
  refine gm_ev.iconst (v := 4) i141_9 (by decide) ?_
  refine gm_ev.idiv i141_10 (by decide) ?_
  refine gm_ev.istore_n (ls' := [some (.ref B), some (.int p0), some (.int ((s.2.1 14 k1) / (4 : Int32))), none]) i141_11 (Nat.le_of_ble_eq_true rfl) rfl ?_
  refine gm_ev.iload_n i141_12 rfl ?_
  refine gm_ev.bipush (v := 73) i141_13 (by decide) ?_
  refine gm_ev.icmp_eq_f i141_15 c2 ?_
  refine gm_ev.iload_n i141_18 rfl ?_
  refine gm_ev.bipush (v := 76) i141_19 (by decide) ?_
  refine gm_ev.icmp_eq_f i141_21 c3 ?_
  refine gm_ev.iload_n i141_24 rfl ?_
  refine gm_ev.bipush (v := 71) i141_25 (by decide) ?_
  refine gm_ev.icmp_eq_t (tgt := 38) i141_27 (by decide) c4 ?_
  refine gm_ev.aload_n i141_38 rfl ?_
  refine gm_ev.aload_n i141_39 rfl ?_
  refine gm_ev.getfield (v := .ref (B + 6)) i141_40 rfl (bM_fld (j := 0) (fs := mF B s) rfl rfl) ?_
  refine gm_ev.bipush (v := 6) i141_43 (by decide) ?_
  refine gm_ev.iload_n i141_45 rfl ?_
  refine gm_ev.imul i141_46 ?_
  refine gm_ev.iaload i141_47 (bM_ai (j := 6) (n := 144) (f := s.2.1 14) rfl ek5 lk5 (by decide)) ?_
  refine gm_ev.callV gm_mono_run (av := [.int (s.2.1 14 k5)]) (r := []) (ci := 11) (fs := mF B s) (bM_get (j := 0) rfl) i141_48 rfl rfl rfl (Nat.le_of_ble_eq_true rfl) t6 ?_
  refine gm_ev.aload_n i141_51 rfl ?_
  refine gm_ev.getfield (v := .ref (B + 10)) i141_52 rfl (bM_fld (j := 0) (fs := mF B s7) rfl rfl) ?_
  refine gm_ev.sipush (v := 274) i141_55 (by decide) ?_
  refine gm_ev.zaload i141_58 (bM_ai (j := 10) (n := 512) (f := s7.2.1 18) rfl ek8 lk8 (by decide)) ?_
  refine gm_ev.istore_n (ls' := [some (.ref B), some (.int p0), some (.int ((s.2.1 14 k1) / (4 : Int32))), some (.int (s7.2.1 18 k8))]) i141_59 (Nat.le_of_ble_eq_true rfl) rfl ?_
  refine gm_ev.iload_n i141_60 rfl ?_
  refine gm_ev.bipush (v := 73) i141_61 (by decide) ?_
  refine gm_ev.icmp_eq_t (tgt := 70) i141_63 (by decide) c9 ?_
  refine gm_ev.iload_n i141_70 rfl ?_
  refine gm_ev.if_ne_f i141_71 c10 ?_
  refine gm_ev.aload_n i141_74 rfl ?_
  refine gm_ev.getfield (v := .ref (B + 10)) i141_75 rfl (bM_fld (j := 0) (fs := mF B s7) rfl rfl) ?_
  refine gm_ev.sipush (v := 337) i141_78 (by decide) ?_
  refine gm_ev.zaload i141_81 (bM_ai (j := 10) (n := 512) (f := s7.2.1 18) rfl ek11 lk11 (by decide)) ?_
  refine gm_ev.if_ne_t (tgt := 118) i141_82 (by decide) c12 ?_
  refine gm_ev.iconst (v := 1) i141_118 (by decide) ?_
  refine gm_ev.goto (tgt := 123) i141_119 (by decide) ?_
  exact gm_ev.zret i141_123 rfl (by decide)
theorem r_isMixed_0_ffttfft {N0 : Nat} {K : Nat → Nat} {d B : Nat} {s : mS} {G : gm_H} {sz sl : Nat} {p0 : Int32} {k1 : Nat} {k5 : Nat} {s7 : mS} {k8 : Nat} {k11 : Nat} {k13 : Nat} (hN : N0 ≤ B) (ek1 : ((6 : Int32) * p0) = nI k1) (lk1 : k1 < 144) (c2 : ¬ ((s.2.1 14 k1) / (4 : Int32)) = (73 : Int32)) (c3 : ¬ ((s.2.1 14 k1) / (4 : Int32)) = (76 : Int32)) (c4 : ((s.2.1 14 k1) / (4 : Int32)) = (71 : Int32)) (ek5 : ((6 : Int32) * p0) = nI k5) (lk5 : k5 < 144) (t6 : gm_to N0 K ra_nm (ra_mt K) d 139 [.ref B, .int (s.2.1 14 k5)] (bM B (mH B s) G) sz (.returned none, bM B (mH B s7) G, sz, 0)) (ek8 : (274 : Int32) = nI k8) (lk8 : k8 < 512) (c9 : ((s.2.1 14 k1) / (4 : Int32)) = (73 : Int32)) (c10 : (s7.2.1 18 k8) = 0) (ek11 : (337 : Int32) = nI k11) (lk11 : k11 < 512) (c12 : (s7.2.1 18 k11) = 0) (ek13 : (306 : Int32) = nI k13) (lk13 : k13 < 512) (c14 : ¬ (s7.2.1 18 k13) = 0) : gm_ev N0 K ra_nm (ra_mt K) d (some .boolean) (gm_I cX12_isMixed) (gm_lkf (lkX12 false K)) 0 [some (.ref B), some (.int p0), none, none] [] (bM B (mH B s) G) sz sl (.returned (some (.int (1 : Int32))), (bM B (mH B s7) G), sz, sl) := by
  refine gm_ev.aload_n i141_0 rfl ?_
  refine gm_ev.getfield (v := .ref (B + 6)) i141_1 rfl (bM_fld (j := 0) (fs := mF B s) rfl rfl) ?_
  refine gm_ev.bipush (v := 6) i141_4 (by decide) ?_
  refine gm_ev.iload_n i141_6 rfl ?_
  refine gm_ev.imul i141_7 ?_
  refine gm_ev.iaload i141_8 (bM_ai (j := 6) (n := 144) (f := s.2.1 14) rfl ek1 lk1 (by decide)) ?_
  refine gm_ev.iconst (v := 4) i141_9 (by decide) ?_
  refine gm_ev.idiv i141_10 (by decide) ?_
  refine gm_ev.istore_n (ls' := [some (.ref B), some (.int p0), some (.int ((s.2.1 14 k1) / (4 : Int32))), none]) i141_11 (Nat.le_of_ble_eq_true rfl) rfl ?_
  refine gm_ev.iload_n i141_12 rfl ?_
  refine gm_ev.bipush (v := 73) i141_13 (by decide) ?_
  refine gm_ev.icmp_eq_f i141_15 c2 ?_
  refine gm_ev.iload_n i141_18 rfl ?_
  refine gm_ev.bipush (v := 76) i141_19 (by decide) ?_
  refine gm_ev.icmp_eq_f i141_21 c3 ?_
  refine gm_ev.iload_n i141_24 rfl ?_
  refine gm_ev.bipush (v := 71) i141_25 (by decide) ?_
  refine gm_ev.icmp_eq_t (tgt := 38) i141_27 (by decide) c4 ?_
  refine gm_ev.aload_n i141_38 rfl ?_
  refine gm_ev.aload_n i141_39 rfl ?_
  refine gm_ev.getfield (v := .ref (B + 6)) i141_40 rfl (bM_fld (j := 0) (fs := mF B s) rfl rfl) ?_
  refine gm_ev.bipush (v := 6) i141_43 (by decide) ?_
  refine gm_ev.iload_n i141_45 rfl ?_
  refine gm_ev.imul i141_46 ?_
  refine gm_ev.iaload i141_47 (bM_ai (j := 6) (n := 144) (f := s.2.1 14) rfl ek5 lk5 (by decide)) ?_
  refine gm_ev.callV gm_mono_run (av := [.int (s.2.1 14 k5)]) (r := []) (ci := 11) (fs := mF B s) (bM_get (j := 0) rfl) i141_48 rfl rfl rfl (Nat.le_of_ble_eq_true rfl) t6 ?_
  refine gm_ev.aload_n i141_51 rfl ?_
  refine gm_ev.getfield (v := .ref (B + 10)) i141_52 rfl (bM_fld (j := 0) (fs := mF B s7) rfl rfl) ?_
  refine gm_ev.sipush (v := 274) i141_55 (by decide) ?_
  refine gm_ev.zaload i141_58 (bM_ai (j := 10) (n := 512) (f := s7.2.1 18) rfl ek8 lk8 (by decide)) ?_
  refine gm_ev.istore_n (ls' := [some (.ref B), some (.int p0), some (.int ((s.2.1 14 k1) / (4 : Int32))), some (.int (s7.2.1 18 k8))]) i141_59 (Nat.le_of_ble_eq_true rfl) rfl ?_
  refine gm_ev.iload_n i141_60 rfl ?_
  refine gm_ev.bipush (v := 73) i141_61 (by decide) ?_
  refine gm_ev.icmp_eq_t (tgt := 70) i141_63 (by decide) c9 ?_
  refine gm_ev.iload_n i141_70 rfl ?_
  refine gm_ev.if_ne_f i141_71 c10 ?_
  refine gm_ev.aload_n i141_74 rfl ?_
  refine gm_ev.getfield (v := .ref (B + 10)) i141_75 rfl (bM_fld (j := 0) (fs := mF B s7) rfl rfl) ?_
  refine gm_ev.sipush (v := 337) i141_78 (by decide) ?_
  refine gm_ev.zaload i141_81 (bM_ai (j := 10) (n := 512) (f := s7.2.1 18) rfl ek11 lk11 (by decide)) ?_
  refine gm_ev.if_ne_f i141_82 c12 ?_
  refine gm_ev.aload_n i141_85 rfl ?_
  refine gm_ev.getfield (v := .ref (B + 10)) i141_86 rfl (bM_fld (j := 0) (fs := mF B s7) rfl rfl) ?_
  refine gm_ev.sipush (v := 306) i141_89 (by decide) ?_
  refine gm_ev.zaload i141_92 (bM_ai (j := 10) (n := 512) (f := s7.2.1 18) rfl ek13 lk13 (by decide)) ?_
  refine gm_ev.if_ne_t (tgt := 118) i141_93 (by decide) c14 ?_
  refine gm_ev.iconst (v := 1) i141_118 (by decide) ?_
  refine gm_ev.goto (tgt := 123) i141_119 (by decide) ?_
  exact gm_ev.zret i141_123 rfl (by decide)
theorem r_isMixed_0_ffttffft {N0 : Nat} {K : Nat → Nat} {d B : Nat} {s : mS} {G : gm_H} {sz sl : Nat} {p0 : Int32} {k1 : Nat} {k5 : Nat} {s7 : mS} {k8 : Nat} {k11 : Nat} {k13 : Nat} {k15 : Nat} (hN : N0 ≤ B) (ek1 : ((6 : Int32) * p0) = nI k1) (lk1 : k1 < 144) (c2 : ¬ ((s.2.1 14 k1) / (4 : Int32)) = (73 : Int32)) (c3 : ¬ ((s.2.1 14 k1) / (4 : Int32)) = (76 : Int32)) (c4 : ((s.2.1 14 k1) / (4 : Int32)) = (71 : Int32)) (ek5 : ((6 : Int32) * p0) = nI k5) (lk5 : k5 < 144) (t6 : gm_to N0 K ra_nm (ra_mt K) d 139 [.ref B, .int (s.2.1 14 k5)] (bM B (mH B s) G) sz (.returned none, bM B (mH B s7) G, sz, 0)) (ek8 : (274 : Int32) = nI k8) (lk8 : k8 < 512) (c9 : ((s.2.1 14 k1) / (4 : Int32)) = (73 : Int32)) (c10 : (s7.2.1 18 k8) = 0) (ek11 : (337 : Int32) = nI k11) (lk11 : k11 < 512) (c12 : (s7.2.1 18 k11) = 0) (ek13 : (306 : Int32) = nI k13) (lk13 : k13 < 512) (c14 : (s7.2.1 18 k13) = 0) (ek15 : (286 : Int32) = nI k15) (lk15 : k15 < 512) (c16 : ¬ (s7.2.1 18 k15) = 0) : gm_ev N0 K ra_nm (ra_mt K) d (some .boolean) (gm_I cX12_isMixed) (gm_lkf (lkX12 false K)) 0 [some (.ref B), some (.int p0), none, none] [] (bM B (mH B s) G) sz sl (.returned (some (.int (1 : Int32))), (bM B (mH B s7) G), sz, sl) := by
  refine gm_ev.aload_n i141_0 rfl ?_
  refine gm_ev.getfield (v := .ref (B + 6)) i141_1 rfl (bM_fld (j := 0) (fs := mF B s) rfl rfl) ?_
  refine gm_ev.bipush (v := 6) i141_4 (by decide) ?_
  refine gm_ev.iload_n i141_6 rfl ?_
  refine gm_ev.imul i141_7 ?_
  refine gm_ev.iaload i141_8 (bM_ai (j := 6) (n := 144) (f := s.2.1 14) rfl ek1 lk1 (by decide)) ?_
  refine gm_ev.iconst (v := 4) i141_9 (by decide) ?_
  refine gm_ev.idiv i141_10 (by decide) ?_
  refine gm_ev.istore_n (ls' := [some (.ref B), some (.int p0), some (.int ((s.2.1 14 k1) / (4 : Int32))), none]) i141_11 (Nat.le_of_ble_eq_true rfl) rfl ?_
  refine gm_ev.iload_n i141_12 rfl ?_
  refine gm_ev.bipush (v := 73) i141_13 (by decide) ?_
  refine gm_ev.icmp_eq_f i141_15 c2 ?_
  refine gm_ev.iload_n i141_18 rfl ?_
  refine gm_ev.bipush (v := 76) i141_19 (by decide) ?_
  refine gm_ev.icmp_eq_f i141_21 c3 ?_
  refine gm_ev.iload_n i141_24 rfl ?_
  refine gm_ev.bipush (v := 71) i141_25 (by decide) ?_
  refine gm_ev.icmp_eq_t (tgt := 38) i141_27 (by decide) c4 ?_
  refine gm_ev.aload_n i141_38 rfl ?_
  refine gm_ev.aload_n i141_39 rfl ?_
  refine gm_ev.getfield (v := .ref (B + 6)) i141_40 rfl (bM_fld (j := 0) (fs := mF B s) rfl rfl) ?_
  refine gm_ev.bipush (v := 6) i141_43 (by decide) ?_
  refine gm_ev.iload_n i141_45 rfl ?_
  refine gm_ev.imul i141_46 ?_
  refine gm_ev.iaload i141_47 (bM_ai (j := 6) (n := 144) (f := s.2.1 14) rfl ek5 lk5 (by decide)) ?_
  refine gm_ev.callV gm_mono_run (av := [.int (s.2.1 14 k5)]) (r := []) (ci := 11) (fs := mF B s) (bM_get (j := 0) rfl) i141_48 rfl rfl rfl (Nat.le_of_ble_eq_true rfl) t6 ?_
  refine gm_ev.aload_n i141_51 rfl ?_
  refine gm_ev.getfield (v := .ref (B + 10)) i141_52 rfl (bM_fld (j := 0) (fs := mF B s7) rfl rfl) ?_
  refine gm_ev.sipush (v := 274) i141_55 (by decide) ?_
  refine gm_ev.zaload i141_58 (bM_ai (j := 10) (n := 512) (f := s7.2.1 18) rfl ek8 lk8 (by decide)) ?_
  refine gm_ev.istore_n (ls' := [some (.ref B), some (.int p0), some (.int ((s.2.1 14 k1) / (4 : Int32))), some (.int (s7.2.1 18 k8))]) i141_59 (Nat.le_of_ble_eq_true rfl) rfl ?_
  refine gm_ev.iload_n i141_60 rfl ?_
  refine gm_ev.bipush (v := 73) i141_61 (by decide) ?_
  refine gm_ev.icmp_eq_t (tgt := 70) i141_63 (by decide) c9 ?_
  refine gm_ev.iload_n i141_70 rfl ?_
  refine gm_ev.if_ne_f i141_71 c10 ?_
  refine gm_ev.aload_n i141_74 rfl ?_
  refine gm_ev.getfield (v := .ref (B + 10)) i141_75 rfl (bM_fld (j := 0) (fs := mF B s7) rfl rfl) ?_
  refine gm_ev.sipush (v := 337) i141_78 (by decide) ?_
  refine gm_ev.zaload i141_81 (bM_ai (j := 10) (n := 512) (f := s7.2.1 18) rfl ek11 lk11 (by decide)) ?_
  refine gm_ev.if_ne_f i141_82 c12 ?_
  refine gm_ev.aload_n i141_85 rfl ?_
  refine gm_ev.getfield (v := .ref (B + 10)) i141_86 rfl (bM_fld (j := 0) (fs := mF B s7) rfl rfl) ?_
  refine gm_ev.sipush (v := 306) i141_89 (by decide) ?_
  refine gm_ev.zaload i141_92 (bM_ai (j := 10) (n := 512) (f := s7.2.1 18) rfl ek13 lk13 (by decide)) ?_
  refine gm_ev.if_ne_f i141_93 c14 ?_
  refine gm_ev.aload_n i141_96 rfl ?_
  refine gm_ev.getfield (v := .ref (B + 10)) i141_97 rfl (bM_fld (j := 0) (fs := mF B s7) rfl rfl) ?_
  refine gm_ev.sipush (v := 286) i141_100 (by decide) ?_
  refine gm_ev.zaload i141_103 (bM_ai (j := 10) (n := 512) (f := s7.2.1 18) rfl ek15 lk15 (by decide)) ?_
  refine gm_ev.if_ne_t (tgt := 118) i141_104 (by decide) c16 ?_
  refine gm_ev.iconst (v := 1) i141_118 (by decide) ?_
  refine gm_ev.goto (tgt := 123) i141_119 (by decide) ?_
  exact gm_ev.zret i141_123 rfl (by decide)
theorem r_isMixed_0_ffttfffft {N0 : Nat} {K : Nat → Nat} {d B : Nat} {s : mS} {G : gm_H} {sz sl : Nat} {p0 : Int32} {k1 : Nat} {k5 : Nat} {s7 : mS} {k8 : Nat} {k11 : Nat} {k13 : Nat} {k15 : Nat} {k17 : Nat} (hN : N0 ≤ B) (ek1 : ((6 : Int32) * p0) = nI k1) (lk1 : k1 < 144) (c2 : ¬ ((s.2.1 14 k1) / (4 : Int32)) = (73 : Int32)) (c3 : ¬ ((s.2.1 14 k1) / (4 : Int32)) = (76 : Int32)) (c4 : ((s.2.1 14 k1) / (4 : Int32)) = (71 : Int32)) (ek5 : ((6 : Int32) * p0) = nI k5) (lk5 : k5 < 144) (t6 : gm_to N0 K ra_nm (ra_mt K) d 139 [.ref B, .int (s.2.1 14 k5)] (bM B (mH B s) G) sz (.returned none, bM B (mH B s7) G, sz, 0)) (ek8 : (274 : Int32) = nI k8) (lk8 : k8 < 512) (c9 : ((s.2.1 14 k1) / (4 : Int32)) = (73 : Int32)) (c10 : (s7.2.1 18 k8) = 0) (ek11 : (337 : Int32) = nI k11) (lk11 : k11 < 512) (c12 : (s7.2.1 18 k11) = 0) (ek13 : (306 : Int32) = nI k13) (lk13 : k13 < 512) (c14 : (s7.2.1 18 k13) = 0) (ek15 : (286 : Int32) = nI k15) (lk15 : k15 < 512) (c16 : (s7.2.1 18 k15) = 0) (ek17 : (276 : Int32) = nI k17) (lk17 : k17 < 512) (c18 : (s7.2.1 18 k17) = 0) : gm_ev N0 K ra_nm (ra_mt K) d (some .boolean) (gm_I cX12_isMixed) (gm_lkf (lkX12 false K)) 0 [some (.ref B), some (.int p0), none, none] [] (bM B (mH B s) G) sz sl (.returned (some (.int (0 : Int32))), (bM B (mH B s7) G), sz, sl) := by
  refine gm_ev.aload_n i141_0 rfl ?_
  refine gm_ev.getfield (v := .ref (B + 6)) i141_1 rfl (bM_fld (j := 0) (fs := mF B s) rfl rfl) ?_
  refine gm_ev.bipush (v := 6) i141_4 (by decide) ?_
  refine gm_ev.iload_n i141_6 rfl ?_
  refine gm_ev.imul i141_7 ?_
  refine gm_ev.iaload i141_8 (bM_ai (j := 6) (n := 144) (f := s.2.1 14) rfl ek1 lk1 (by decide)) ?_
  refine gm_ev.iconst (v := 4) i141_9 (by decide) ?_
  refine gm_ev.idiv i141_10 (by decide) ?_
  refine gm_ev.istore_n (ls' := [some (.ref B), some (.int p0), some (.int ((s.2.1 14 k1) / (4 : Int32))), none]) i141_11 (Nat.le_of_ble_eq_true rfl) rfl ?_
  refine gm_ev.iload_n i141_12 rfl ?_
  refine gm_ev.bipush (v := 73) i141_13 (by decide) ?_
  refine gm_ev.icmp_eq_f i141_15 c2 ?_
  refine gm_ev.iload_n i141_18 rfl ?_
  refine gm_ev.bipush (v := 76) i141_19 (by decide) ?_
  refine gm_ev.icmp_eq_f i141_21 c3 ?_
  refine gm_ev.iload_n i141_24 rfl ?_
  refine gm_ev.bipush (v := 71) i141_25 (by decide) ?_
  refine gm_ev.icmp_eq_t (tgt := 38) i141_27 (by decide) c4 ?_
  refine gm_ev.aload_n i141_38 rfl ?_
  refine gm_ev.aload_n i141_39 rfl ?_
  refine gm_ev.getfield (v := .ref (B + 6)) i141_40 rfl (bM_fld (j := 0) (fs := mF B s) rfl rfl) ?_
  refine gm_ev.bipush (v := 6) i141_43 (by decide) ?_
  refine gm_ev.iload_n i141_45 rfl ?_
  refine gm_ev.imul i141_46 ?_
  refine gm_ev.iaload i141_47 (bM_ai (j := 6) (n := 144) (f := s.2.1 14) rfl ek5 lk5 (by decide)) ?_
  refine gm_ev.callV gm_mono_run (av := [.int (s.2.1 14 k5)]) (r := []) (ci := 11) (fs := mF B s) (bM_get (j := 0) rfl) i141_48 rfl rfl rfl (Nat.le_of_ble_eq_true rfl) t6 ?_
  refine gm_ev.aload_n i141_51 rfl ?_
  refine gm_ev.getfield (v := .ref (B + 10)) i141_52 rfl (bM_fld (j := 0) (fs := mF B s7) rfl rfl) ?_
  refine gm_ev.sipush (v := 274) i141_55 (by decide) ?_
  refine gm_ev.zaload i141_58 (bM_ai (j := 10) (n := 512) (f := s7.2.1 18) rfl ek8 lk8 (by decide)) ?_
  refine gm_ev.istore_n (ls' := [some (.ref B), some (.int p0), some (.int ((s.2.1 14 k1) / (4 : Int32))), some (.int (s7.2.1 18 k8))]) i141_59 (Nat.le_of_ble_eq_true rfl) rfl ?_
  refine gm_ev.iload_n i141_60 rfl ?_
  refine gm_ev.bipush (v := 73) i141_61 (by decide) ?_
  refine gm_ev.icmp_eq_t (tgt := 70) i141_63 (by decide) c9 ?_
  refine gm_ev.iload_n i141_70 rfl ?_
  refine gm_ev.if_ne_f i141_71 c10 ?_
  refine gm_ev.aload_n i141_74 rfl ?_
  refine gm_ev.getfield (v := .ref (B + 10)) i141_75 rfl (bM_fld (j := 0) (fs := mF B s7) rfl rfl) ?_
  refine gm_ev.sipush (v := 337) i141_78 (by decide) ?_
  refine gm_ev.zaload i141_81 (bM_ai (j := 10) (n := 512) (f := s7.2.1 18) rfl ek11 lk11 (by decide)) ?_
  refine gm_ev.if_ne_f i141_82 c12 ?_
  refine gm_ev.aload_n i141_85 rfl ?_
  refine gm_ev.getfield (v := .ref (B + 10)) i141_86 rfl (bM_fld (j := 0) (fs := mF B s7) rfl rfl) ?_
  refine gm_ev.sipush (v := 306) i141_89 (by decide) ?_
  refine gm_ev.zaload i141_92 (bM_ai (j := 10) (n := 512) (f := s7.2.1 18) rfl ek13 lk13 (by decide)) ?_
  refine gm_ev.if_ne_f i141_93 c14 ?_
  refine gm_ev.aload_n i141_96 rfl ?_
  refine gm_ev.getfield (v := .ref (B + 10)) i141_97 rfl (bM_fld (j := 0) (fs := mF B s7) rfl rfl) ?_
  refine gm_ev.sipush (v := 286) i141_100 (by decide) ?_
  refine gm_ev.zaload i141_103 (bM_ai (j := 10) (n := 512) (f := s7.2.1 18) rfl ek15 lk15 (by decide)) ?_
  refine gm_ev.if_ne_f i141_104 c16 ?_
  refine gm_ev.aload_n i141_107 rfl ?_
  refine gm_ev.getfield (v := .ref (B + 10)) i141_108 rfl (bM_fld (j := 0) (fs := mF B s7) rfl rfl) ?_
  refine gm_ev.sipush (v := 276) i141_111 (by decide) ?_
  refine gm_ev.zaload i141_114 (bM_ai (j := 10) (n := 512) (f := s7.2.1 18) rfl ek17 lk17 (by decide)) ?_
  refine gm_ev.if_eq_t (tgt := 122) i141_115 (by decide) c18 ?_
  refine gm_ev.iconst (v := 0) i141_122 (by decide) ?_
  exact gm_ev.zret i141_123 rfl (by decide)
theorem r_isMixed_0_ffttfffff {N0 : Nat} {K : Nat → Nat} {d B : Nat} {s : mS} {G : gm_H} {sz sl : Nat} {p0 : Int32} {k1 : Nat} {k5 : Nat} {s7 : mS} {k8 : Nat} {k11 : Nat} {k13 : Nat} {k15 : Nat} {k17 : Nat} (hN : N0 ≤ B) (ek1 : ((6 : Int32) * p0) = nI k1) (lk1 : k1 < 144) (c2 : ¬ ((s.2.1 14 k1) / (4 : Int32)) = (73 : Int32)) (c3 : ¬ ((s.2.1 14 k1) / (4 : Int32)) = (76 : Int32)) (c4 : ((s.2.1 14 k1) / (4 : Int32)) = (71 : Int32)) (ek5 : ((6 : Int32) * p0) = nI k5) (lk5 : k5 < 144) (t6 : gm_to N0 K ra_nm (ra_mt K) d 139 [.ref B, .int (s.2.1 14 k5)] (bM B (mH B s) G) sz (.returned none, bM B (mH B s7) G, sz, 0)) (ek8 : (274 : Int32) = nI k8) (lk8 : k8 < 512) (c9 : ((s.2.1 14 k1) / (4 : Int32)) = (73 : Int32)) (c10 : (s7.2.1 18 k8) = 0) (ek11 : (337 : Int32) = nI k11) (lk11 : k11 < 512) (c12 : (s7.2.1 18 k11) = 0) (ek13 : (306 : Int32) = nI k13) (lk13 : k13 < 512) (c14 : (s7.2.1 18 k13) = 0) (ek15 : (286 : Int32) = nI k15) (lk15 : k15 < 512) (c16 : (s7.2.1 18 k15) = 0) (ek17 : (276 : Int32) = nI k17) (lk17 : k17 < 512) (c18 : ¬ (s7.2.1 18 k17) = 0) : gm_ev N0 K ra_nm (ra_mt K) d (some .boolean) (gm_I cX12_isMixed) (gm_lkf (lkX12 false K)) 0 [some (.ref B), some (.int p0), none, none] [] (bM B (mH B s) G) sz sl (.returned (some (.int (1 : Int32))), (bM B (mH B s7) G), sz, sl) := by
  refine gm_ev.aload_n i141_0 rfl ?_
  refine gm_ev.getfield (v := .ref (B + 6)) i141_1 rfl (bM_fld (j := 0) (fs := mF B s) rfl rfl) ?_
  refine gm_ev.bipush (v := 6) i141_4 (by decide) ?_
  refine gm_ev.iload_n i141_6 rfl ?_
  refine gm_ev.imul i141_7 ?_
  refine gm_ev.iaload i141_8 (bM_ai (j := 6) (n := 144) (f := s.2.1 14) rfl ek1 lk1 (by decide)) ?_
  refine gm_ev.iconst (v := 4) i141_9 (by decide) ?_
  refine gm_ev.idiv i141_10 (by decide) ?_
  refine gm_ev.istore_n (ls' := [some (.ref B), some (.int p0), some (.int ((s.2.1 14 k1) / (4 : Int32))), none]) i141_11 (Nat.le_of_ble_eq_true rfl) rfl ?_
  refine gm_ev.iload_n i141_12 rfl ?_
  refine gm_ev.bipush (v := 73) i141_13 (by decide) ?_
  refine gm_ev.icmp_eq_f i141_15 c2 ?_
  refine gm_ev.iload_n i141_18 rfl ?_
  refine gm_ev.bipush (v := 76) i141_19 (by decide) ?_
  refine gm_ev.icmp_eq_f i141_21 c3 ?_
  refine gm_ev.iload_n i141_24 rfl ?_
  refine gm_ev.bipush (v := 71) i141_25 (by decide) ?_
  refine gm_ev.icmp_eq_t (tgt := 38) i141_27 (by decide) c4 ?_
  refine gm_ev.aload_n i141_38 rfl ?_
  refine gm_ev.aload_n i141_39 rfl ?_
  refine gm_ev.getfield (v := .ref (B + 6)) i141_40 rfl (bM_fld (j := 0) (fs := mF B s) rfl rfl) ?_
  refine gm_ev.bipush (v := 6) i141_43 (by decide) ?_
  refine gm_ev.iload_n i141_45 rfl ?_
  refine gm_ev.imul i141_46 ?_
  refine gm_ev.iaload i141_47 (bM_ai (j := 6) (n := 144) (f := s.2.1 14) rfl ek5 lk5 (by decide)) ?_
  refine gm_ev.callV gm_mono_run (av := [.int (s.2.1 14 k5)]) (r := []) (ci := 11) (fs := mF B s) (bM_get (j := 0) rfl) i141_48 rfl rfl rfl (Nat.le_of_ble_eq_true rfl) t6 ?_
  refine gm_ev.aload_n i141_51 rfl ?_
  refine gm_ev.getfield (v := .ref (B + 10)) i141_52 rfl (bM_fld (j := 0) (fs := mF B s7) rfl rfl) ?_
  refine gm_ev.sipush (v := 274) i141_55 (by decide) ?_
  refine gm_ev.zaload i141_58 (bM_ai (j := 10) (n := 512) (f := s7.2.1 18) rfl ek8 lk8 (by decide)) ?_
  refine gm_ev.istore_n (ls' := [some (.ref B), some (.int p0), some (.int ((s.2.1 14 k1) / (4 : Int32))), some (.int (s7.2.1 18 k8))]) i141_59 (Nat.le_of_ble_eq_true rfl) rfl ?_
  refine gm_ev.iload_n i141_60 rfl ?_
  refine gm_ev.bipush (v := 73) i141_61 (by decide) ?_
  refine gm_ev.icmp_eq_t (tgt := 70) i141_63 (by decide) c9 ?_
  refine gm_ev.iload_n i141_70 rfl ?_
  refine gm_ev.if_ne_f i141_71 c10 ?_
  refine gm_ev.aload_n i141_74 rfl ?_
  refine gm_ev.getfield (v := .ref (B + 10)) i141_75 rfl (bM_fld (j := 0) (fs := mF B s7) rfl rfl) ?_
  refine gm_ev.sipush (v := 337) i141_78 (by decide) ?_
  refine gm_ev.zaload i141_81 (bM_ai (j := 10) (n := 512) (f := s7.2.1 18) rfl ek11 lk11 (by decide)) ?_
  refine gm_ev.if_ne_f i141_82 c12 ?_
  refine gm_ev.aload_n i141_85 rfl ?_
  refine gm_ev.getfield (v := .ref (B + 10)) i141_86 rfl (bM_fld (j := 0) (fs := mF B s7) rfl rfl) ?_
  refine gm_ev.sipush (v := 306) i141_89 (by decide) ?_
  refine gm_ev.zaload i141_92 (bM_ai (j := 10) (n := 512) (f := s7.2.1 18) rfl ek13 lk13 (by decide)) ?_
  refine gm_ev.if_ne_f i141_93 c14 ?_
  refine gm_ev.aload_n i141_96 rfl ?_
  refine gm_ev.getfield (v := .ref (B + 10)) i141_97 rfl (bM_fld (j := 0) (fs := mF B s7) rfl rfl) ?_
  refine gm_ev.sipush (v := 286) i141_100 (by decide) ?_
  refine gm_ev.zaload i141_103 (bM_ai (j := 10) (n := 512) (f := s7.2.1 18) rfl ek15 lk15 (by decide)) ?_
  refine gm_ev.if_ne_f i141_104 c16 ?_
  refine gm_ev.aload_n i141_107 rfl ?_
  refine gm_ev.getfield (v := .ref (B + 10)) i141_108 rfl (bM_fld (j := 0) (fs := mF B s7) rfl rfl) ?_
  refine gm_ev.sipush (v := 276) i141_111 (by decide) ?_
  refine gm_ev.zaload i141_114 (bM_ai (j := 10) (n := 512) (f := s7.2.1 18) rfl ek17 lk17 (by decide)) ?_
  refine gm_ev.if_eq_f i141_115 c18 ?_
  refine gm_ev.iconst (v := 1) i141_118 (by decide) ?_
  refine gm_ev.goto (tgt := 123) i141_119 (by decide) ?_
  exact gm_ev.zret i141_123 rfl (by decide)
theorem r_isMixed_0_fftf {N0 : Nat} {K : Nat → Nat} {d B : Nat} {s : mS} {G : gm_H} {sz sl : Nat} {p0 : Int32} {k1 : Nat} {k5 : Nat} {s7 : mS} {k8 : Nat} (hN : N0 ≤ B) (ek1 : ((6 : Int32) * p0) = nI k1) (lk1 : k1 < 144) (c2 : ¬ ((s.2.1 14 k1) / (4 : Int32)) = (73 : Int32)) (c3 : ¬ ((s.2.1 14 k1) / (4 : Int32)) = (76 : Int32)) (c4 : ((s.2.1 14 k1) / (4 : Int32)) = (71 : Int32)) (ek5 : ((6 : Int32) * p0) = nI k5) (lk5 : k5 < 144) (t6 : gm_to N0 K ra_nm (ra_mt K) d 139 [.ref B, .int (s.2.1 14 k5)] (bM B (mH B s) G) sz (.returned none, bM B (mH B s7) G, sz, 0)) (ek8 : (274 : Int32) = nI k8) (lk8 : k8 < 512) (c9 : ¬ ((s.2.1 14 k1) / (4 : Int32)) = (73 : Int32)) (z10 : (s7.2.1 18 k8) = 0 ∨ (s7.2.1 18 k8) = 1) : gm_ev N0 K ra_nm (ra_mt K) d (some .boolean) (gm_I cX12_isMixed) (gm_lkf (lkX12 false K)) 0 [some (.ref B), some (.int p0), none, none] [] (bM B (mH B s) G) sz sl (.returned (some (.int (s7.2.1 18 k8))), (bM B (mH B s7) G), sz, sl) := by
  refine gm_ev.aload_n i141_0 rfl ?_
  refine gm_ev.getfield (v := .ref (B + 6)) i141_1 rfl (bM_fld (j := 0) (fs := mF B s) rfl rfl) ?_
  refine gm_ev.bipush (v := 6) i141_4 (by decide) ?_
  refine gm_ev.iload_n i141_6 rfl ?_
  refine gm_ev.imul i141_7 ?_
  refine gm_ev.iaload i141_8 (bM_ai (j := 6) (n := 144) (f := s.2.1 14) rfl ek1 lk1 (by decide)) ?_
  refine gm_ev.iconst (v := 4) i141_9 (by decide) ?_
  refine gm_ev.idiv i141_10 (by decide) ?_
  refine gm_ev.istore_n (ls' := [some (.ref B), some (.int p0), some (.int ((s.2.1 14 k1) / (4 : Int32))), none]) i141_11 (Nat.le_of_ble_eq_true rfl) rfl ?_
  refine gm_ev.iload_n i141_12 rfl ?_
  refine gm_ev.bipush (v := 73) i141_13 (by decide) ?_
  refine gm_ev.icmp_eq_f i141_15 c2 ?_
  refine gm_ev.iload_n i141_18 rfl ?_
  refine gm_ev.bipush (v := 76) i141_19 (by decide) ?_
  refine gm_ev.icmp_eq_f i141_21 c3 ?_
  refine gm_ev.iload_n i141_24 rfl ?_
  refine gm_ev.bipush (v := 71) i141_25 (by decide) ?_
  refine gm_ev.icmp_eq_t (tgt := 38) i141_27 (by decide) c4 ?_
  refine gm_ev.aload_n i141_38 rfl ?_
  refine gm_ev.aload_n i141_39 rfl ?_
  refine gm_ev.getfield (v := .ref (B + 6)) i141_40 rfl (bM_fld (j := 0) (fs := mF B s) rfl rfl) ?_
  refine gm_ev.bipush (v := 6) i141_43 (by decide) ?_
  refine gm_ev.iload_n i141_45 rfl ?_
  refine gm_ev.imul i141_46 ?_
  refine gm_ev.iaload i141_47 (bM_ai (j := 6) (n := 144) (f := s.2.1 14) rfl ek5 lk5 (by decide)) ?_
  refine gm_ev.callV gm_mono_run (av := [.int (s.2.1 14 k5)]) (r := []) (ci := 11) (fs := mF B s) (bM_get (j := 0) rfl) i141_48 rfl rfl rfl (Nat.le_of_ble_eq_true rfl) t6 ?_
  refine gm_ev.aload_n i141_51 rfl ?_
  refine gm_ev.getfield (v := .ref (B + 10)) i141_52 rfl (bM_fld (j := 0) (fs := mF B s7) rfl rfl) ?_
  refine gm_ev.sipush (v := 274) i141_55 (by decide) ?_
  refine gm_ev.zaload i141_58 (bM_ai (j := 10) (n := 512) (f := s7.2.1 18) rfl ek8 lk8 (by decide)) ?_
  refine gm_ev.istore_n (ls' := [some (.ref B), some (.int p0), some (.int ((s.2.1 14 k1) / (4 : Int32))), some (.int (s7.2.1 18 k8))]) i141_59 (Nat.le_of_ble_eq_true rfl) rfl ?_
  refine gm_ev.iload_n i141_60 rfl ?_
  refine gm_ev.bipush (v := 73) i141_61 (by decide) ?_
  refine gm_ev.icmp_eq_f i141_63 c9 ?_
  refine gm_ev.iload_n i141_66 rfl ?_
  refine gm_ev.goto (tgt := 123) i141_67 (by decide) ?_
  exact gm_ev.zret i141_123 rfl z10
theorem r_isMixed_0_fffttt {N0 : Nat} {K : Nat → Nat} {d B : Nat} {s : mS} {G : gm_H} {sz sl : Nat} {p0 : Int32} {k1 : Nat} {k6 : Nat} {s8 : mS} {k9 : Nat} (hN : N0 ≤ B) (ek1 : ((6 : Int32) * p0) = nI k1) (lk1 : k1 < 144) (c2 : ¬ ((s.2.1 14 k1) / (4 : Int32)) = (73 : Int32)) (c3 : ¬ ((s.2.1 14 k1) / (4 : Int32)) = (76 : Int32)) (c4 : ¬ ((s.2.1 14 k1) / (4 : Int32)) = (71 : Int32)) (c5 : ((s.2.1 14 k1) / (4 : Int32)) = (69 : Int32)) (ek6 : ((6 : Int32) * p0) = nI k6) (lk6 : k6 < 144) (t7 : gm_to N0 K ra_nm (ra_mt K) d 139 [.ref B, .int (s.2.1 14 k6)] (bM B (mH B s) G) sz (.returned none, bM B (mH B s8) G, sz, 0)) (ek9 : (274 : Int32) = nI k9) (lk9 : k9 < 512) (c10 : ((s.2.1 14 k1) / (4 : Int32)) = (73 : Int32)) (c11 : ¬ (s8.2.1 18 k9) = 0) : gm_ev N0 K ra_nm (ra_mt K) d (some .boolean) (gm_I cX12_isMixed) (gm_lkf (lkX12 false K)) 0 [some (.ref B), some (.int p0), none, none] [] (bM B (mH B s) G) sz sl (.returned (some (.int (1 : Int32))), (bM B (mH B s8) G), sz, sl) := by
  refine gm_ev.aload_n i141_0 rfl ?_
  refine gm_ev.getfield (v := .ref (B + 6)) i141_1 rfl (bM_fld (j := 0) (fs := mF B s) rfl rfl) ?_
  refine gm_ev.bipush (v := 6) i141_4 (by decide) ?_
  refine gm_ev.iload_n i141_6 rfl ?_
  refine gm_ev.imul i141_7 ?_
  refine gm_ev.iaload i141_8 (bM_ai (j := 6) (n := 144) (f := s.2.1 14) rfl ek1 lk1 (by decide)) ?_
  refine gm_ev.iconst (v := 4) i141_9 (by decide) ?_
  refine gm_ev.idiv i141_10 (by decide) ?_
  refine gm_ev.istore_n (ls' := [some (.ref B), some (.int p0), some (.int ((s.2.1 14 k1) / (4 : Int32))), none]) i141_11 (Nat.le_of_ble_eq_true rfl) rfl ?_
  refine gm_ev.iload_n i141_12 rfl ?_
  refine gm_ev.bipush (v := 73) i141_13 (by decide) ?_
  refine gm_ev.icmp_eq_f i141_15 c2 ?_
  refine gm_ev.iload_n i141_18 rfl ?_
  refine gm_ev.bipush (v := 76) i141_19 (by decide) ?_
  refine gm_ev.icmp_eq_f i141_21 c3 ?_
  refine gm_ev.iload_n i141_24 rfl ?_
  refine gm_ev.bipush (v := 71) i141_25 (by decide) ?_
  refine gm_ev.icmp_eq_f i141_27 c4 ?_
  refine gm_ev.iload_n i141_30 rfl ?_
  refine gm_ev.bipush (v := 69) i141_31 (by decide) ?_
  refine gm_ev.icmp_eq_t (tgt := 38) i141_33 (by decide) c5 ?_
  refine gm_ev.aload_n i141_38 rfl ?_
  refine gm_ev.aload_n i141_39 rfl ?_
  refine gm_ev.getfield (v := .ref (B + 6)) i141_40 rfl (bM_fld (j := 0) (fs := mF B s) rfl rfl) ?_
  refine gm_ev.bipush (v := 6) i141_43 (by decide) ?_
  refine gm_ev.iload_n i141_45 rfl ?_
  refine gm_ev.imul i141_46 ?_
  refine gm_ev.iaload i141_47 (bM_ai (j := 6) (n := 144) (f := s.2.1 14) rfl ek6 lk6 (by decide)) ?_
  refine gm_ev.callV gm_mono_run (av := [.int (s.2.1 14 k6)]) (r := []) (ci := 11) (fs := mF B s) (bM_get (j := 0) rfl) i141_48 rfl rfl rfl (Nat.le_of_ble_eq_true rfl) t7 ?_
  refine gm_ev.aload_n i141_51 rfl ?_
  refine gm_ev.getfield (v := .ref (B + 10)) i141_52 rfl (bM_fld (j := 0) (fs := mF B s8) rfl rfl) ?_
  refine gm_ev.sipush (v := 274) i141_55 (by decide) ?_
  refine gm_ev.zaload i141_58 (bM_ai (j := 10) (n := 512) (f := s8.2.1 18) rfl ek9 lk9 (by decide)) ?_
  refine gm_ev.istore_n (ls' := [some (.ref B), some (.int p0), some (.int ((s.2.1 14 k1) / (4 : Int32))), some (.int (s8.2.1 18 k9))]) i141_59 (Nat.le_of_ble_eq_true rfl) rfl ?_
  refine gm_ev.iload_n i141_60 rfl ?_
  refine gm_ev.bipush (v := 73) i141_61 (by decide) ?_
  refine gm_ev.icmp_eq_t (tgt := 70) i141_63 (by decide) c10 ?_
  refine gm_ev.iload_n i141_70 rfl ?_
  refine gm_ev.if_ne_t (tgt := 118) i141_71 (by decide) c11 ?_
  refine gm_ev.iconst (v := 1) i141_118 (by decide) ?_
  refine gm_ev.goto (tgt := 123) i141_119 (by decide) ?_
  exact gm_ev.zret i141_123 rfl (by decide)
theorem r_isMixed_0_fffttft {N0 : Nat} {K : Nat → Nat} {d B : Nat} {s : mS} {G : gm_H} {sz sl : Nat} {p0 : Int32} {k1 : Nat} {k6 : Nat} {s8 : mS} {k9 : Nat} {k12 : Nat} (hN : N0 ≤ B) (ek1 : ((6 : Int32) * p0) = nI k1) (lk1 : k1 < 144) (c2 : ¬ ((s.2.1 14 k1) / (4 : Int32)) = (73 : Int32)) (c3 : ¬ ((s.2.1 14 k1) / (4 : Int32)) = (76 : Int32)) (c4 : ¬ ((s.2.1 14 k1) / (4 : Int32)) = (71 : Int32)) (c5 : ((s.2.1 14 k1) / (4 : Int32)) = (69 : Int32)) (ek6 : ((6 : Int32) * p0) = nI k6) (lk6 : k6 < 144) (t7 : gm_to N0 K ra_nm (ra_mt K) d 139 [.ref B, .int (s.2.1 14 k6)] (bM B (mH B s) G) sz (.returned none, bM B (mH B s8) G, sz, 0)) (ek9 : (274 : Int32) = nI k9) (lk9 : k9 < 512) (c10 : ((s.2.1 14 k1) / (4 : Int32)) = (73 : Int32)) (c11 : (s8.2.1 18 k9) = 0) (ek12 : (337 : Int32) = nI k12) (lk12 : k12 < 512) (c13 : ¬ (s8.2.1 18 k12) = 0) : gm_ev N0 K ra_nm (ra_mt K) d (some .boolean) (gm_I cX12_isMixed) (gm_lkf (lkX12 false K)) 0 [some (.ref B), some (.int p0), none, none] [] (bM B (mH B s) G) sz sl (.returned (some (.int (1 : Int32))), (bM B (mH B s8) G), sz, sl) := by
  refine gm_ev.aload_n i141_0 rfl ?_
  refine gm_ev.getfield (v := .ref (B + 6)) i141_1 rfl (bM_fld (j := 0) (fs := mF B s) rfl rfl) ?_
  refine gm_ev.bipush (v := 6) i141_4 (by decide) ?_
  refine gm_ev.iload_n i141_6 rfl ?_
  refine gm_ev.imul i141_7 ?_
  refine gm_ev.iaload i141_8 (bM_ai (j := 6) (n := 144) (f := s.2.1 14) rfl ek1 lk1 (by decide)) ?_
  refine gm_ev.iconst (v := 4) i141_9 (by decide) ?_
  refine gm_ev.idiv i141_10 (by decide) ?_
  refine gm_ev.istore_n (ls' := [some (.ref B), some (.int p0), some (.int ((s.2.1 14 k1) / (4 : Int32))), none]) i141_11 (Nat.le_of_ble_eq_true rfl) rfl ?_
  refine gm_ev.iload_n i141_12 rfl ?_
  refine gm_ev.bipush (v := 73) i141_13 (by decide) ?_
  refine gm_ev.icmp_eq_f i141_15 c2 ?_
  refine gm_ev.iload_n i141_18 rfl ?_
  refine gm_ev.bipush (v := 76) i141_19 (by decide) ?_
  refine gm_ev.icmp_eq_f i141_21 c3 ?_
  refine gm_ev.iload_n i141_24 rfl ?_
  refine gm_ev.bipush (v := 71) i141_25 (by decide) ?_
  refine gm_ev.icmp_eq_f i141_27 c4 ?_
  refine gm_ev.iload_n i141_30 rfl ?_
  refine gm_ev.bipush (v := 69) i141_31 (by decide) ?_
  refine gm_ev.icmp_eq_t (tgt := 38) i141_33 (by decide) c5 ?_
  refine gm_ev.aload_n i141_38 rfl ?_
  refine gm_ev.aload_n i141_39 rfl ?_
  refine gm_ev.getfield (v := .ref (B + 6)) i141_40 rfl (bM_fld (j := 0) (fs := mF B s) rfl rfl) ?_
  refine gm_ev.bipush (v := 6) i141_43 (by decide) ?_
  refine gm_ev.iload_n i141_45 rfl ?_
  refine gm_ev.imul i141_46 ?_
  refine gm_ev.iaload i141_47 (bM_ai (j := 6) (n := 144) (f := s.2.1 14) rfl ek6 lk6 (by decide)) ?_
  refine gm_ev.callV gm_mono_run (av := [.int (s.2.1 14 k6)]) (r := []) (ci := 11) (fs := mF B s) (bM_get (j := 0) rfl) i141_48 rfl rfl rfl (Nat.le_of_ble_eq_true rfl) t7 ?_
  refine gm_ev.aload_n i141_51 rfl ?_
  refine gm_ev.getfield (v := .ref (B + 10)) i141_52 rfl (bM_fld (j := 0) (fs := mF B s8) rfl rfl) ?_
  refine gm_ev.sipush (v := 274) i141_55 (by decide) ?_
  refine gm_ev.zaload i141_58 (bM_ai (j := 10) (n := 512) (f := s8.2.1 18) rfl ek9 lk9 (by decide)) ?_
  refine gm_ev.istore_n (ls' := [some (.ref B), some (.int p0), some (.int ((s.2.1 14 k1) / (4 : Int32))), some (.int (s8.2.1 18 k9))]) i141_59 (Nat.le_of_ble_eq_true rfl) rfl ?_
  refine gm_ev.iload_n i141_60 rfl ?_
  refine gm_ev.bipush (v := 73) i141_61 (by decide) ?_
  refine gm_ev.icmp_eq_t (tgt := 70) i141_63 (by decide) c10 ?_
  refine gm_ev.iload_n i141_70 rfl ?_
  refine gm_ev.if_ne_f i141_71 c11 ?_
  refine gm_ev.aload_n i141_74 rfl ?_
  refine gm_ev.getfield (v := .ref (B + 10)) i141_75 rfl (bM_fld (j := 0) (fs := mF B s8) rfl rfl) ?_
  refine gm_ev.sipush (v := 337) i141_78 (by decide) ?_
  refine gm_ev.zaload i141_81 (bM_ai (j := 10) (n := 512) (f := s8.2.1 18) rfl ek12 lk12 (by decide)) ?_
  refine gm_ev.if_ne_t (tgt := 118) i141_82 (by decide) c13 ?_
  refine gm_ev.iconst (v := 1) i141_118 (by decide) ?_
  refine gm_ev.goto (tgt := 123) i141_119 (by decide) ?_
  exact gm_ev.zret i141_123 rfl (by decide)
theorem r_isMixed_0_fffttfft {N0 : Nat} {K : Nat → Nat} {d B : Nat} {s : mS} {G : gm_H} {sz sl : Nat} {p0 : Int32} {k1 : Nat} {k6 : Nat} {s8 : mS} {k9 : Nat} {k12 : Nat} {k14 : Nat} (hN : N0 ≤ B) (ek1 : ((6 : Int32) * p0) = nI k1) (lk1 : k1 < 144) (c2 : ¬ ((s.2.1 14 k1) / (4 : Int32)) = (73 : Int32)) (c3 : ¬ ((s.2.1 14 k1) / (4 : Int32)) = (76 : Int32)) (c4 : ¬ ((s.2.1 14 k1) / (4 : Int32)) = (71 : Int32)) (c5 : ((s.2.1 14 k1) / (4 : Int32)) = (69 : Int32)) (ek6 : ((6 : Int32) * p0) = nI k6) (lk6 : k6 < 144) (t7 : gm_to N0 K ra_nm (ra_mt K) d 139 [.ref B, .int (s.2.1 14 k6)] (bM B (mH B s) G) sz (.returned none, bM B (mH B s8) G, sz, 0)) (ek9 : (274 : Int32) = nI k9) (lk9 : k9 < 512) (c10 : ((s.2.1 14 k1) / (4 : Int32)) = (73 : Int32)) (c11 : (s8.2.1 18 k9) = 0) (ek12 : (337 : Int32) = nI k12) (lk12 : k12 < 512) (c13 : (s8.2.1 18 k12) = 0) (ek14 : (306 : Int32) = nI k14) (lk14 : k14 < 512) (c15 : ¬ (s8.2.1 18 k14) = 0) : gm_ev N0 K ra_nm (ra_mt K) d (some .boolean) (gm_I cX12_isMixed) (gm_lkf (lkX12 false K)) 0 [some (.ref B), some (.int p0), none, none] [] (bM B (mH B s) G) sz sl (.returned (some (.int (1 : Int32))), (bM B (mH B s8) G), sz, sl) := by
  refine gm_ev.aload_n i141_0 rfl ?_
  refine gm_ev.getfield (v := .ref (B + 6)) i141_1 rfl (bM_fld (j := 0) (fs := mF B s) rfl rfl) ?_
  refine gm_ev.bipush (v := 6) i141_4 (by decide) ?_
  refine gm_ev.iload_n i141_6 rfl ?_
  refine gm_ev.imul i141_7 ?_
  refine gm_ev.iaload i141_8 (bM_ai (j := 6) (n := 144) (f := s.2.1 14) rfl ek1 lk1 (by decide)) ?_
  refine gm_ev.iconst (v := 4) i141_9 (by decide) ?_
  refine gm_ev.idiv i141_10 (by decide) ?_
  refine gm_ev.istore_n (ls' := [some (.ref B), some (.int p0), some (.int ((s.2.1 14 k1) / (4 : Int32))), none]) i141_11 (Nat.le_of_ble_eq_true rfl) rfl ?_
  refine gm_ev.iload_n i141_12 rfl ?_
  refine gm_ev.bipush (v := 73) i141_13 (by decide) ?_
  refine gm_ev.icmp_eq_f i141_15 c2 ?_
  refine gm_ev.iload_n i141_18 rfl ?_
  refine gm_ev.bipush (v := 76) i141_19 (by decide) ?_
  refine gm_ev.icmp_eq_f i141_21 c3 ?_
  refine gm_ev.iload_n i141_24 rfl ?_
  refine gm_ev.bipush (v := 71) i141_25 (by decide) ?_
  refine gm_ev.icmp_eq_f i141_27 c4 ?_
  refine gm_ev.iload_n i141_30 rfl ?_
  refine gm_ev.bipush (v := 69) i141_31 (by decide) ?_
  refine gm_ev.icmp_eq_t (tgt := 38) i141_33 (by decide) c5 ?_
  refine gm_ev.aload_n i141_38 rfl ?_
  refine gm_ev.aload_n i141_39 rfl ?_
  refine gm_ev.getfield (v := .ref (B + 6)) i141_40 rfl (bM_fld (j := 0) (fs := mF B s) rfl rfl) ?_
  refine gm_ev.bipush (v := 6) i141_43 (by decide) ?_
  refine gm_ev.iload_n i141_45 rfl ?_
  refine gm_ev.imul i141_46 ?_
  refine gm_ev.iaload i141_47 (bM_ai (j := 6) (n := 144) (f := s.2.1 14) rfl ek6 lk6 (by decide)) ?_
  refine gm_ev.callV gm_mono_run (av := [.int (s.2.1 14 k6)]) (r := []) (ci := 11) (fs := mF B s) (bM_get (j := 0) rfl) i141_48 rfl rfl rfl (Nat.le_of_ble_eq_true rfl) t7 ?_
  refine gm_ev.aload_n i141_51 rfl ?_
  refine gm_ev.getfield (v := .ref (B + 10)) i141_52 rfl (bM_fld (j := 0) (fs := mF B s8) rfl rfl) ?_
  refine gm_ev.sipush (v := 274) i141_55 (by decide) ?_
  refine gm_ev.zaload i141_58 (bM_ai (j := 10) (n := 512) (f := s8.2.1 18) rfl ek9 lk9 (by decide)) ?_
  refine gm_ev.istore_n (ls' := [some (.ref B), some (.int p0), some (.int ((s.2.1 14 k1) / (4 : Int32))), some (.int (s8.2.1 18 k9))]) i141_59 (Nat.le_of_ble_eq_true rfl) rfl ?_
  refine gm_ev.iload_n i141_60 rfl ?_
  refine gm_ev.bipush (v := 73) i141_61 (by decide) ?_
  refine gm_ev.icmp_eq_t (tgt := 70) i141_63 (by decide) c10 ?_
  refine gm_ev.iload_n i141_70 rfl ?_
  refine gm_ev.if_ne_f i141_71 c11 ?_
  refine gm_ev.aload_n i141_74 rfl ?_
  refine gm_ev.getfield (v := .ref (B + 10)) i141_75 rfl (bM_fld (j := 0) (fs := mF B s8) rfl rfl) ?_
  refine gm_ev.sipush (v := 337) i141_78 (by decide) ?_
  refine gm_ev.zaload i141_81 (bM_ai (j := 10) (n := 512) (f := s8.2.1 18) rfl ek12 lk12 (by decide)) ?_
  refine gm_ev.if_ne_f i141_82 c13 ?_
  refine gm_ev.aload_n i141_85 rfl ?_
  refine gm_ev.getfield (v := .ref (B + 10)) i141_86 rfl (bM_fld (j := 0) (fs := mF B s8) rfl rfl) ?_
  refine gm_ev.sipush (v := 306) i141_89 (by decide) ?_
  refine gm_ev.zaload i141_92 (bM_ai (j := 10) (n := 512) (f := s8.2.1 18) rfl ek14 lk14 (by decide)) ?_
  refine gm_ev.if_ne_t (tgt := 118) i141_93 (by decide) c15 ?_
  refine gm_ev.iconst (v := 1) i141_118 (by decide) ?_
  refine gm_ev.goto (tgt := 123) i141_119 (by decide) ?_
  exact gm_ev.zret i141_123 rfl (by decide)
theorem r_isMixed_0_fffttffft {N0 : Nat} {K : Nat → Nat} {d B : Nat} {s : mS} {G : gm_H} {sz sl : Nat} {p0 : Int32} {k1 : Nat} {k6 : Nat} {s8 : mS} {k9 : Nat} {k12 : Nat} {k14 : Nat} {k16 : Nat} (hN : N0 ≤ B) (ek1 : ((6 : Int32) * p0) = nI k1) (lk1 : k1 < 144) (c2 : ¬ ((s.2.1 14 k1) / (4 : Int32)) = (73 : Int32)) (c3 : ¬ ((s.2.1 14 k1) / (4 : Int32)) = (76 : Int32)) (c4 : ¬ ((s.2.1 14 k1) / (4 : Int32)) = (71 : Int32)) (c5 : ((s.2.1 14 k1) / (4 : Int32)) = (69 : Int32)) (ek6 : ((6 : Int32) * p0) = nI k6) (lk6 : k6 < 144) (t7 : gm_to N0 K ra_nm (ra_mt K) d 139 [.ref B, .int (s.2.1 14 k6)] (bM B (mH B s) G) sz (.returned none, bM B (mH B s8) G, sz, 0)) (ek9 : (274 : Int32) = nI k9) (lk9 : k9 < 512) (c10 : ((s.2.1 14 k1) / (4 : Int32)) = (73 : Int32)) (c11 : (s8.2.1 18 k9) = 0) (ek12 : (337 : Int32) = nI k12) (lk12 : k12 < 512) (c13 : (s8.2.1 18 k12) = 0) (ek14 : (306 : Int32) = nI k14) (lk14 : k14 < 512) (c15 : (s8.2.1 18 k14) = 0) (ek16 : (286 : Int32) = nI k16) (lk16 : k16 < 512) (c17 : ¬ (s8.2.1 18 k16) = 0) : gm_ev N0 K ra_nm (ra_mt K) d (some .boolean) (gm_I cX12_isMixed) (gm_lkf (lkX12 false K)) 0 [some (.ref B), some (.int p0), none, none] [] (bM B (mH B s) G) sz sl (.returned (some (.int (1 : Int32))), (bM B (mH B s8) G), sz, sl) := by
  refine gm_ev.aload_n i141_0 rfl ?_
  refine gm_ev.getfield (v := .ref (B + 6)) i141_1 rfl (bM_fld (j := 0) (fs := mF B s) rfl rfl) ?_
  refine gm_ev.bipush (v := 6) i141_4 (by decide) ?_
  refine gm_ev.iload_n i141_6 rfl ?_
  refine gm_ev.imul i141_7 ?_
  refine gm_ev.iaload i141_8 (bM_ai (j := 6) (n := 144) (f := s.2.1 14) rfl ek1 lk1 (by decide)) ?_
  refine gm_ev.iconst (v := 4) i141_9 (by decide) ?_
  refine gm_ev.idiv i141_10 (by decide) ?_
  refine gm_ev.istore_n (ls' := [some (.ref B), some (.int p0), some (.int ((s.2.1 14 k1) / (4 : Int32))), none]) i141_11 (Nat.le_of_ble_eq_true rfl) rfl ?_
  refine gm_ev.iload_n i141_12 rfl ?_
  refine gm_ev.bipush (v := 73) i141_13 (by decide) ?_
  refine gm_ev.icmp_eq_f i141_15 c2 ?_
  refine gm_ev.iload_n i141_18 rfl ?_
  refine gm_ev.bipush (v := 76) i141_19 (by decide) ?_
  refine gm_ev.icmp_eq_f i141_21 c3 ?_
  refine gm_ev.iload_n i141_24 rfl ?_
  refine gm_ev.bipush (v := 71) i141_25 (by decide) ?_
  refine gm_ev.icmp_eq_f i141_27 c4 ?_
  refine gm_ev.iload_n i141_30 rfl ?_
  refine gm_ev.bipush (v := 69) i141_31 (by decide) ?_
  refine gm_ev.icmp_eq_t (tgt := 38) i141_33 (by decide) c5 ?_
  refine gm_ev.aload_n i141_38 rfl ?_
  refine gm_ev.aload_n i141_39 rfl ?_
  refine gm_ev.getfield (v := .ref (B + 6)) i141_40 rfl (bM_fld (j := 0) (fs := mF B s) rfl rfl) ?_
  refine gm_ev.bipush (v := 6) i141_43 (by decide) ?_
  refine gm_ev.iload_n i141_45 rfl ?_
  refine gm_ev.imul i141_46 ?_
  refine gm_ev.iaload i141_47 (bM_ai (j := 6) (n := 144) (f := s.2.1 14) rfl ek6 lk6 (by decide)) ?_
  refine gm_ev.callV gm_mono_run (av := [.int (s.2.1 14 k6)]) (r := []) (ci := 11) (fs := mF B s) (bM_get (j := 0) rfl) i141_48 rfl rfl rfl (Nat.le_of_ble_eq_true rfl) t7 ?_
  refine gm_ev.aload_n i141_51 rfl ?_
  refine gm_ev.getfield (v := .ref (B + 10)) i141_52 rfl (bM_fld (j := 0) (fs := mF B s8) rfl rfl) ?_
  refine gm_ev.sipush (v := 274) i141_55 (by decide) ?_
  refine gm_ev.zaload i141_58 (bM_ai (j := 10) (n := 512) (f := s8.2.1 18) rfl ek9 lk9 (by decide)) ?_
  refine gm_ev.istore_n (ls' := [some (.ref B), some (.int p0), some (.int ((s.2.1 14 k1) / (4 : Int32))), some (.int (s8.2.1 18 k9))]) i141_59 (Nat.le_of_ble_eq_true rfl) rfl ?_
  refine gm_ev.iload_n i141_60 rfl ?_
  refine gm_ev.bipush (v := 73) i141_61 (by decide) ?_
  refine gm_ev.icmp_eq_t (tgt := 70) i141_63 (by decide) c10 ?_
  refine gm_ev.iload_n i141_70 rfl ?_
  refine gm_ev.if_ne_f i141_71 c11 ?_
  refine gm_ev.aload_n i141_74 rfl ?_
  refine gm_ev.getfield (v := .ref (B + 10)) i141_75 rfl (bM_fld (j := 0) (fs := mF B s8) rfl rfl) ?_
  refine gm_ev.sipush (v := 337) i141_78 (by decide) ?_
  refine gm_ev.zaload i141_81 (bM_ai (j := 10) (n := 512) (f := s8.2.1 18) rfl ek12 lk12 (by decide)) ?_
  refine gm_ev.if_ne_f i141_82 c13 ?_
  refine gm_ev.aload_n i141_85 rfl ?_
  refine gm_ev.getfield (v := .ref (B + 10)) i141_86 rfl (bM_fld (j := 0) (fs := mF B s8) rfl rfl) ?_
  refine gm_ev.sipush (v := 306) i141_89 (by decide) ?_
  refine gm_ev.zaload i141_92 (bM_ai (j := 10) (n := 512) (f := s8.2.1 18) rfl ek14 lk14 (by decide)) ?_
  refine gm_ev.if_ne_f i141_93 c15 ?_
  refine gm_ev.aload_n i141_96 rfl ?_
  refine gm_ev.getfield (v := .ref (B + 10)) i141_97 rfl (bM_fld (j := 0) (fs := mF B s8) rfl rfl) ?_
  refine gm_ev.sipush (v := 286) i141_100 (by decide) ?_
  refine gm_ev.zaload i141_103 (bM_ai (j := 10) (n := 512) (f := s8.2.1 18) rfl ek16 lk16 (by decide)) ?_
  refine gm_ev.if_ne_t (tgt := 118) i141_104 (by decide) c17 ?_
  refine gm_ev.iconst (v := 1) i141_118 (by decide) ?_
  refine gm_ev.goto (tgt := 123) i141_119 (by decide) ?_
  exact gm_ev.zret i141_123 rfl (by decide)
theorem r_isMixed_0_fffttfffft {N0 : Nat} {K : Nat → Nat} {d B : Nat} {s : mS} {G : gm_H} {sz sl : Nat} {p0 : Int32} {k1 : Nat} {k6 : Nat} {s8 : mS} {k9 : Nat} {k12 : Nat} {k14 : Nat} {k16 : Nat} {k18 : Nat} (hN : N0 ≤ B) (ek1 : ((6 : Int32) * p0) = nI k1) (lk1 : k1 < 144) (c2 : ¬ ((s.2.1 14 k1) / (4 : Int32)) = (73 : Int32)) (c3 : ¬ ((s.2.1 14 k1) / (4 : Int32)) = (76 : Int32)) (c4 : ¬ ((s.2.1 14 k1) / (4 : Int32)) = (71 : Int32)) (c5 : ((s.2.1 14 k1) / (4 : Int32)) = (69 : Int32)) (ek6 : ((6 : Int32) * p0) = nI k6) (lk6 : k6 < 144) (t7 : gm_to N0 K ra_nm (ra_mt K) d 139 [.ref B, .int (s.2.1 14 k6)] (bM B (mH B s) G) sz (.returned none, bM B (mH B s8) G, sz, 0)) (ek9 : (274 : Int32) = nI k9) (lk9 : k9 < 512) (c10 : ((s.2.1 14 k1) / (4 : Int32)) = (73 : Int32)) (c11 : (s8.2.1 18 k9) = 0) (ek12 : (337 : Int32) = nI k12) (lk12 : k12 < 512) (c13 : (s8.2.1 18 k12) = 0) (ek14 : (306 : Int32) = nI k14) (lk14 : k14 < 512) (c15 : (s8.2.1 18 k14) = 0) (ek16 : (286 : Int32) = nI k16) (lk16 : k16 < 512) (c17 : (s8.2.1 18 k16) = 0) (ek18 : (276 : Int32) = nI k18) (lk18 : k18 < 512) (c19 : (s8.2.1 18 k18) = 0) : gm_ev N0 K ra_nm (ra_mt K) d (some .boolean) (gm_I cX12_isMixed) (gm_lkf (lkX12 false K)) 0 [some (.ref B), some (.int p0), none, none] [] (bM B (mH B s) G) sz sl (.returned (some (.int (0 : Int32))), (bM B (mH B s8) G), sz, sl) := by
  refine gm_ev.aload_n i141_0 rfl ?_
  refine gm_ev.getfield (v := .ref (B + 6)) i141_1 rfl (bM_fld (j := 0) (fs := mF B s) rfl rfl) ?_
  refine gm_ev.bipush (v := 6) i141_4 (by decide) ?_
  refine gm_ev.iload_n i141_6 rfl ?_
  refine gm_ev.imul i141_7 ?_
  refine gm_ev.iaload i141_8 (bM_ai (j := 6) (n := 144) (f := s.2.1 14) rfl ek1 lk1 (by decide)) ?_
  refine gm_ev.iconst (v := 4) i141_9 (by decide) ?_
  refine gm_ev.idiv i141_10 (by decide) ?_
  refine gm_ev.istore_n (ls' := [some (.ref B), some (.int p0), some (.int ((s.2.1 14 k1) / (4 : Int32))), none]) i141_11 (Nat.le_of_ble_eq_true rfl) rfl ?_
  refine gm_ev.iload_n i141_12 rfl ?_
  refine gm_ev.bipush (v := 73) i141_13 (by decide) ?_
  refine gm_ev.icmp_eq_f i141_15 c2 ?_
  refine gm_ev.iload_n i141_18 rfl ?_
  refine gm_ev.bipush (v := 76) i141_19 (by decide) ?_
  refine gm_ev.icmp_eq_f i141_21 c3 ?_
  refine gm_ev.iload_n i141_24 rfl ?_
  refine gm_ev.bipush (v := 71) i141_25 (by decide) ?_
  refine gm_ev.icmp_eq_f i141_27 c4 ?_
  refine gm_ev.iload_n i141_30 rfl ?_
  refine gm_ev.bipush (v := 69) i141_31 (by decide) ?_
  refine gm_ev.icmp_eq_t (tgt := 38) i141_33 (by decide) c5 ?_
  refine gm_ev.aload_n i141_38 rfl ?_
  refine gm_ev.aload_n i141_39 rfl ?_
  refine gm_ev.getfield (v := .ref (B + 6)) i141_40 rfl (bM_fld (j := 0) (fs := mF B s) rfl rfl) ?_
  refine gm_ev.bipush (v := 6) i141_43 (by decide) ?_
  refine gm_ev.iload_n i141_45 rfl ?_
  refine gm_ev.imul i141_46 ?_
  refine gm_ev.iaload i141_47 (bM_ai (j := 6) (n := 144) (f := s.2.1 14) rfl ek6 lk6 (by decide)) ?_
  refine gm_ev.callV gm_mono_run (av := [.int (s.2.1 14 k6)]) (r := []) (ci := 11) (fs := mF B s) (bM_get (j := 0) rfl) i141_48 rfl rfl rfl (Nat.le_of_ble_eq_true rfl) t7 ?_
  refine gm_ev.aload_n i141_51 rfl ?_
  refine gm_ev.getfield (v := .ref (B + 10)) i141_52 rfl (bM_fld (j := 0) (fs := mF B s8) rfl rfl) ?_
  refine gm_ev.sipush (v := 274) i141_55 (by decide) ?_
  refine gm_ev.zaload i141_58 (bM_ai (j := 10) (n := 512) (f := s8.2.1 18) rfl ek9 lk9 (by decide)) ?_
  refine gm_ev.istore_n (ls' := [some (.ref B), some (.int p0), some (.int ((s.2.1 14 k1) / (4 : Int32))), some (.int (s8.2.1 18 k9))]) i141_59 (Nat.le_of_ble_eq_true rfl) rfl ?_
  refine gm_ev.iload_n i141_60 rfl ?_
  refine gm_ev.bipush (v := 73) i141_61 (by decide) ?_
  refine gm_ev.icmp_eq_t (tgt := 70) i141_63 (by decide) c10 ?_
  refine gm_ev.iload_n i141_70 rfl ?_
  refine gm_ev.if_ne_f i141_71 c11 ?_
  refine gm_ev.aload_n i141_74 rfl ?_
  refine gm_ev.getfield (v := .ref (B + 10)) i141_75 rfl (bM_fld (j := 0) (fs := mF B s8) rfl rfl) ?_
  refine gm_ev.sipush (v := 337) i141_78 (by decide) ?_
  refine gm_ev.zaload i141_81 (bM_ai (j := 10) (n := 512) (f := s8.2.1 18) rfl ek12 lk12 (by decide)) ?_
  refine gm_ev.if_ne_f i141_82 c13 ?_
  refine gm_ev.aload_n i141_85 rfl ?_
  refine gm_ev.getfield (v := .ref (B + 10)) i141_86 rfl (bM_fld (j := 0) (fs := mF B s8) rfl rfl) ?_
  refine gm_ev.sipush (v := 306) i141_89 (by decide) ?_
  refine gm_ev.zaload i141_92 (bM_ai (j := 10) (n := 512) (f := s8.2.1 18) rfl ek14 lk14 (by decide)) ?_
  refine gm_ev.if_ne_f i141_93 c15 ?_
  refine gm_ev.aload_n i141_96 rfl ?_
  refine gm_ev.getfield (v := .ref (B + 10)) i141_97 rfl (bM_fld (j := 0) (fs := mF B s8) rfl rfl) ?_
  refine gm_ev.sipush (v := 286) i141_100 (by decide) ?_
  refine gm_ev.zaload i141_103 (bM_ai (j := 10) (n := 512) (f := s8.2.1 18) rfl ek16 lk16 (by decide)) ?_
  refine gm_ev.if_ne_f i141_104 c17 ?_
  refine gm_ev.aload_n i141_107 rfl ?_
  refine gm_ev.getfield (v := .ref (B + 10)) i141_108 rfl (bM_fld (j := 0) (fs := mF B s8) rfl rfl) ?_
  refine gm_ev.sipush (v := 276) i141_111 (by decide) ?_
  refine gm_ev.zaload i141_114 (bM_ai (j := 10) (n := 512) (f := s8.2.1 18) rfl ek18 lk18 (by decide)) ?_
  refine gm_ev.if_eq_t (tgt := 122) i141_115 (by decide) c19 ?_
  refine gm_ev.iconst (v := 0) i141_122 (by decide) ?_
  exact gm_ev.zret i141_123 rfl (by decide)
theorem r_isMixed_0_fffttfffff {N0 : Nat} {K : Nat → Nat} {d B : Nat} {s : mS} {G : gm_H} {sz sl : Nat} {p0 : Int32} {k1 : Nat} {k6 : Nat} {s8 : mS} {k9 : Nat} {k12 : Nat} {k14 : Nat} {k16 : Nat} {k18 : Nat} (hN : N0 ≤ B) (ek1 : ((6 : Int32) * p0) = nI k1) (lk1 : k1 < 144) (c2 : ¬ ((s.2.1 14 k1) / (4 : Int32)) = (73 : Int32)) (c3 : ¬ ((s.2.1 14 k1) / (4 : Int32)) = (76 : Int32)) (c4 : ¬ ((s.2.1 14 k1) / (4 : Int32)) = (71 : Int32)) (c5 : ((s.2.1 14 k1) / (4 : Int32)) = (69 : Int32)) (ek6 : ((6 : Int32) * p0) = nI k6) (lk6 : k6 < 144) (t7 : gm_to N0 K ra_nm (ra_mt K) d 139 [.ref B, .int (s.2.1 14 k6)] (bM B (mH B s) G) sz (.returned none, bM B (mH B s8) G, sz, 0)) (ek9 : (274 : Int32) = nI k9) (lk9 : k9 < 512) (c10 : ((s.2.1 14 k1) / (4 : Int32)) = (73 : Int32)) (c11 : (s8.2.1 18 k9) = 0) (ek12 : (337 : Int32) = nI k12) (lk12 : k12 < 512) (c13 : (s8.2.1 18 k12) = 0) (ek14 : (306 : Int32) = nI k14) (lk14 : k14 < 512) (c15 : (s8.2.1 18 k14) = 0) (ek16 : (286 : Int32) = nI k16) (lk16 : k16 < 512) (c17 : (s8.2.1 18 k16) = 0) (ek18 : (276 : Int32) = nI k18) (lk18 : k18 < 512) (c19 : ¬ (s8.2.1 18 k18) = 0) : gm_ev N0 K ra_nm (ra_mt K) d (some .boolean) (gm_I cX12_isMixed) (gm_lkf (lkX12 false K)) 0 [some (.ref B), some (.int p0), none, none] [] (bM B (mH B s) G) sz sl (.returned (some (.int (1 : Int32))), (bM B (mH B s8) G), sz, sl) := by
  refine gm_ev.aload_n i141_0 rfl ?_
  refine gm_ev.getfield (v := .ref (B + 6)) i141_1 rfl (bM_fld (j := 0) (fs := mF B s) rfl rfl) ?_
  refine gm_ev.bipush (v := 6) i141_4 (by decide) ?_
  refine gm_ev.iload_n i141_6 rfl ?_
  refine gm_ev.imul i141_7 ?_
  refine gm_ev.iaload i141_8 (bM_ai (j := 6) (n := 144) (f := s.2.1 14) rfl ek1 lk1 (by decide)) ?_
  refine gm_ev.iconst (v := 4) i141_9 (by decide) ?_
  refine gm_ev.idiv i141_10 (by decide) ?_
  refine gm_ev.istore_n (ls' := [some (.ref B), some (.int p0), some (.int ((s.2.1 14 k1) / (4 : Int32))), none]) i141_11 (Nat.le_of_ble_eq_true rfl) rfl ?_
  refine gm_ev.iload_n i141_12 rfl ?_
  refine gm_ev.bipush (v := 73) i141_13 (by decide) ?_
  refine gm_ev.icmp_eq_f i141_15 c2 ?_
  refine gm_ev.iload_n i141_18 rfl ?_
  refine gm_ev.bipush (v := 76) i141_19 (by decide) ?_
  refine gm_ev.icmp_eq_f i141_21 c3 ?_
  refine gm_ev.iload_n i141_24 rfl ?_
  refine gm_ev.bipush (v := 71) i141_25 (by decide) ?_
  refine gm_ev.icmp_eq_f i141_27 c4 ?_
  refine gm_ev.iload_n i141_30 rfl ?_
  refine gm_ev.bipush (v := 69) i141_31 (by decide) ?_
  refine gm_ev.icmp_eq_t (tgt := 38) i141_33 (by decide) c5 ?_
  refine gm_ev.aload_n i141_38 rfl ?_
  refine gm_ev.aload_n i141_39 rfl ?_
  refine gm_ev.getfield (v := .ref (B + 6)) i141_40 rfl (bM_fld (j := 0) (fs := mF B s) rfl rfl) ?_
  refine gm_ev.bipush (v := 6) i141_43 (by decide) ?_
  refine gm_ev.iload_n i141_45 rfl ?_
  refine gm_ev.imul i141_46 ?_
  refine gm_ev.iaload i141_47 (bM_ai (j := 6) (n := 144) (f := s.2.1 14) rfl ek6 lk6 (by decide)) ?_
  refine gm_ev.callV gm_mono_run (av := [.int (s.2.1 14 k6)]) (r := []) (ci := 11) (fs := mF B s) (bM_get (j := 0) rfl) i141_48 rfl rfl rfl (Nat.le_of_ble_eq_true rfl) t7 ?_
  refine gm_ev.aload_n i141_51 rfl ?_
  refine gm_ev.getfield (v := .ref (B + 10)) i141_52 rfl (bM_fld (j := 0) (fs := mF B s8) rfl rfl) ?_
  refine gm_ev.sipush (v := 274) i141_55 (by decide) ?_
  refine gm_ev.zaload i141_58 (bM_ai (j := 10) (n := 512) (f := s8.2.1 18) rfl ek9 lk9 (by decide)) ?_
  refine gm_ev.istore_n (ls' := [some (.ref B), some (.int p0), some (.int ((s.2.1 14 k1) / (4 : Int32))), some (.int (s8.2.1 18 k9))]) i141_59 (Nat.le_of_ble_eq_true rfl) rfl ?_
  refine gm_ev.iload_n i141_60 rfl ?_
  refine gm_ev.bipush (v := 73) i141_61 (by decide) ?_
  refine gm_ev.icmp_eq_t (tgt := 70) i141_63 (by decide) c10 ?_
  refine gm_ev.iload_n i141_70 rfl ?_
  refine gm_ev.if_ne_f i141_71 c11 ?_
  refine gm_ev.aload_n i141_74 rfl ?_
  refine gm_ev.getfield (v := .ref (B + 10)) i141_75 rfl (bM_fld (j := 0) (fs := mF B s8) rfl rfl) ?_
  refine gm_ev.sipush (v := 337) i141_78 (by decide) ?_
  refine gm_ev.zaload i141_81 (bM_ai (j := 10) (n := 512) (f := s8.2.1 18) rfl ek12 lk12 (by decide)) ?_
  refine gm_ev.if_ne_f i141_82 c13 ?_
  refine gm_ev.aload_n i141_85 rfl ?_
  refine gm_ev.getfield (v := .ref (B + 10)) i141_86 rfl (bM_fld (j := 0) (fs := mF B s8) rfl rfl) ?_
  refine gm_ev.sipush (v := 306) i141_89 (by decide) ?_
  refine gm_ev.zaload i141_92 (bM_ai (j := 10) (n := 512) (f := s8.2.1 18) rfl ek14 lk14 (by decide)) ?_
  refine gm_ev.if_ne_f i141_93 c15 ?_
  refine gm_ev.aload_n i141_96 rfl ?_
  refine gm_ev.getfield (v := .ref (B + 10)) i141_97 rfl (bM_fld (j := 0) (fs := mF B s8) rfl rfl) ?_
  refine gm_ev.sipush (v := 286) i141_100 (by decide) ?_
  refine gm_ev.zaload i141_103 (bM_ai (j := 10) (n := 512) (f := s8.2.1 18) rfl ek16 lk16 (by decide)) ?_
  refine gm_ev.if_ne_f i141_104 c17 ?_
  refine gm_ev.aload_n i141_107 rfl ?_
  refine gm_ev.getfield (v := .ref (B + 10)) i141_108 rfl (bM_fld (j := 0) (fs := mF B s8) rfl rfl) ?_
  refine gm_ev.sipush (v := 276) i141_111 (by decide) ?_
  refine gm_ev.zaload i141_114 (bM_ai (j := 10) (n := 512) (f := s8.2.1 18) rfl ek18 lk18 (by decide)) ?_
  refine gm_ev.if_eq_f i141_115 c19 ?_
  refine gm_ev.iconst (v := 1) i141_118 (by decide) ?_
  refine gm_ev.goto (tgt := 123) i141_119 (by decide) ?_
  exact gm_ev.zret i141_123 rfl (by decide)
theorem r_isMixed_0_ffftf {N0 : Nat} {K : Nat → Nat} {d B : Nat} {s : mS} {G : gm_H} {sz sl : Nat} {p0 : Int32} {k1 : Nat} {k6 : Nat} {s8 : mS} {k9 : Nat} (hN : N0 ≤ B) (ek1 : ((6 : Int32) * p0) = nI k1) (lk1 : k1 < 144) (c2 : ¬ ((s.2.1 14 k1) / (4 : Int32)) = (73 : Int32)) (c3 : ¬ ((s.2.1 14 k1) / (4 : Int32)) = (76 : Int32)) (c4 : ¬ ((s.2.1 14 k1) / (4 : Int32)) = (71 : Int32)) (c5 : ((s.2.1 14 k1) / (4 : Int32)) = (69 : Int32)) (ek6 : ((6 : Int32) * p0) = nI k6) (lk6 : k6 < 144) (t7 : gm_to N0 K ra_nm (ra_mt K) d 139 [.ref B, .int (s.2.1 14 k6)] (bM B (mH B s) G) sz (.returned none, bM B (mH B s8) G, sz, 0)) (ek9 : (274 : Int32) = nI k9) (lk9 : k9 < 512) (c10 : ¬ ((s.2.1 14 k1) / (4 : Int32)) = (73 : Int32)) (z11 : (s8.2.1 18 k9) = 0 ∨ (s8.2.1 18 k9) = 1) : gm_ev N0 K ra_nm (ra_mt K) d (some .boolean) (gm_I cX12_isMixed) (gm_lkf (lkX12 false K)) 0 [some (.ref B), some (.int p0), none, none] [] (bM B (mH B s) G) sz sl (.returned (some (.int (s8.2.1 18 k9))), (bM B (mH B s8) G), sz, sl) := by
  refine gm_ev.aload_n i141_0 rfl ?_
  refine gm_ev.getfield (v := .ref (B + 6)) i141_1 rfl (bM_fld (j := 0) (fs := mF B s) rfl rfl) ?_
  refine gm_ev.bipush (v := 6) i141_4 (by decide) ?_
  refine gm_ev.iload_n i141_6 rfl ?_
  refine gm_ev.imul i141_7 ?_
  refine gm_ev.iaload i141_8 (bM_ai (j := 6) (n := 144) (f := s.2.1 14) rfl ek1 lk1 (by decide)) ?_
  refine gm_ev.iconst (v := 4) i141_9 (by decide) ?_
  refine gm_ev.idiv i141_10 (by decide) ?_
  refine gm_ev.istore_n (ls' := [some (.ref B), some (.int p0), some (.int ((s.2.1 14 k1) / (4 : Int32))), none]) i141_11 (Nat.le_of_ble_eq_true rfl) rfl ?_
  refine gm_ev.iload_n i141_12 rfl ?_
  refine gm_ev.bipush (v := 73) i141_13 (by decide) ?_
  refine gm_ev.icmp_eq_f i141_15 c2 ?_
  refine gm_ev.iload_n i141_18 rfl ?_
  refine gm_ev.bipush (v := 76) i141_19 (by decide) ?_
  refine gm_ev.icmp_eq_f i141_21 c3 ?_
  refine gm_ev.iload_n i141_24 rfl ?_
  refine gm_ev.bipush (v := 71) i141_25 (by decide) ?_
  refine gm_ev.icmp_eq_f i141_27 c4 ?_
  refine gm_ev.iload_n i141_30 rfl ?_
  refine gm_ev.bipush (v := 69) i141_31 (by decide) ?_
  refine gm_ev.icmp_eq_t (tgt := 38) i141_33 (by decide) c5 ?_
  refine gm_ev.aload_n i141_38 rfl ?_
  refine gm_ev.aload_n i141_39 rfl ?_
  refine gm_ev.getfield (v := .ref (B + 6)) i141_40 rfl (bM_fld (j := 0) (fs := mF B s) rfl rfl) ?_
  refine gm_ev.bipush (v := 6) i141_43 (by decide) ?_
  refine gm_ev.iload_n i141_45 rfl ?_
  refine gm_ev.imul i141_46 ?_
  refine gm_ev.iaload i141_47 (bM_ai (j := 6) (n := 144) (f := s.2.1 14) rfl ek6 lk6 (by decide)) ?_
  refine gm_ev.callV gm_mono_run (av := [.int (s.2.1 14 k6)]) (r := []) (ci := 11) (fs := mF B s) (bM_get (j := 0) rfl) i141_48 rfl rfl rfl (Nat.le_of_ble_eq_true rfl) t7 ?_
  refine gm_ev.aload_n i141_51 rfl ?_
  refine gm_ev.getfield (v := .ref (B + 10)) i141_52 rfl (bM_fld (j := 0) (fs := mF B s8) rfl rfl) ?_
  refine gm_ev.sipush (v := 274) i141_55 (by decide) ?_
  refine gm_ev.zaload i141_58 (bM_ai (j := 10) (n := 512) (f := s8.2.1 18) rfl ek9 lk9 (by decide)) ?_
  refine gm_ev.istore_n (ls' := [some (.ref B), some (.int p0), some (.int ((s.2.1 14 k1) / (4 : Int32))), some (.int (s8.2.1 18 k9))]) i141_59 (Nat.le_of_ble_eq_true rfl) rfl ?_
  refine gm_ev.iload_n i141_60 rfl ?_
  refine gm_ev.bipush (v := 73) i141_61 (by decide) ?_
  refine gm_ev.icmp_eq_f i141_63 c10 ?_
  refine gm_ev.iload_n i141_66 rfl ?_
  refine gm_ev.goto (tgt := 123) i141_67 (by decide) ?_
  exact gm_ev.zret i141_123 rfl z11
theorem r_isMixed_0_ffff {N0 : Nat} {K : Nat → Nat} {d B : Nat} {s : mS} {G : gm_H} {sz sl : Nat} {p0 : Int32} {k1 : Nat} (hN : N0 ≤ B) (ek1 : ((6 : Int32) * p0) = nI k1) (lk1 : k1 < 144) (c2 : ¬ ((s.2.1 14 k1) / (4 : Int32)) = (73 : Int32)) (c3 : ¬ ((s.2.1 14 k1) / (4 : Int32)) = (76 : Int32)) (c4 : ¬ ((s.2.1 14 k1) / (4 : Int32)) = (71 : Int32)) (c5 : ¬ ((s.2.1 14 k1) / (4 : Int32)) = (69 : Int32)) : gm_ev N0 K ra_nm (ra_mt K) d (some .boolean) (gm_I cX12_isMixed) (gm_lkf (lkX12 false K)) 0 [some (.ref B), some (.int p0), none, none] [] (bM B (mH B s) G) sz sl (.returned (some (.int (0 : Int32))), (bM B (mH B s) G), sz, sl) := by
  refine gm_ev.aload_n i141_0 rfl ?_
  refine gm_ev.getfield (v := .ref (B + 6)) i141_1 rfl (bM_fld (j := 0) (fs := mF B s) rfl rfl) ?_
  refine gm_ev.bipush (v := 6) i141_4 (by decide) ?_
  refine gm_ev.iload_n i141_6 rfl ?_
  refine gm_ev.imul i141_7 ?_
  refine gm_ev.iaload i141_8 (bM_ai (j := 6) (n := 144) (f := s.2.1 14) rfl ek1 lk1 (by decide)) ?_
  refine gm_ev.iconst (v := 4) i141_9 (by decide) ?_
  refine gm_ev.idiv i141_10 (by decide) ?_
  refine gm_ev.istore_n (ls' := [some (.ref B), some (.int p0), some (.int ((s.2.1 14 k1) / (4 : Int32))), none]) i141_11 (Nat.le_of_ble_eq_true rfl) rfl ?_
  refine gm_ev.iload_n i141_12 rfl ?_
  refine gm_ev.bipush (v := 73) i141_13 (by decide) ?_
  refine gm_ev.icmp_eq_f i141_15 c2 ?_
  refine gm_ev.iload_n i141_18 rfl ?_
  refine gm_ev.bipush (v := 76) i141_19 (by decide) ?_
  refine gm_ev.icmp_eq_f i141_21 c3 ?_
  refine gm_ev.iload_n i141_24 rfl ?_
  refine gm_ev.bipush (v := 71) i141_25 (by decide) ?_
  refine gm_ev.icmp_eq_f i141_27 c4 ?_
  refine gm_ev.iload_n i141_30 rfl ?_
  refine gm_ev.bipush (v := 69) i141_31 (by decide) ?_
  refine gm_ev.icmp_eq_f i141_33 c5 ?_
  refine gm_ev.iconst (v := 0) i141_36 (by decide) ?_
  exact gm_ev.zret i141_37 rfl (by decide)
theorem r_isWell_0_t_at34 {N0 : Nat} {K : Nat → Nat} {d B : Nat} {s : mS} {G : gm_H} {sz sl : Nat} {R : gm_R} {r1 : Int32} {s3 : mS} (hN : N0 ≤ B) (t2 : gm_to N0 K ra_nm (ra_mt K) d 134 [.ref B] (bM B (mH B (mI (mI s 6 (0 : Int32)) 7 (0 : Int32))) G) sz (.returned (some (.int r1)), bM B (mH B s3) G, sz, 0)) (c4 : ¬ r1 = 0) (k : gm_ev N0 K ra_nm (ra_mt K) d (some .boolean) (gm_I cX12_isWell) (gm_lkf (lkX12 false K)) 34 [some (.ref B), some (.int (2 : Int32)), none] [] (bM B (mH B s3) G) sz sl R) : gm_ev N0 K ra_nm (ra_mt K) d (some .boolean) (gm_I cX12_isWell) (gm_lkf (lkX12 false K)) 0 [some (.ref B), none, none] [] (bM B (mH B s) G) sz sl R := by
  refine gm_ev.aload_n i142_0 rfl ?_
  refine gm_ev.iconst (v := 0) i142_1 (by decide) ?_
  refine gm_ev.putfield (M' := (bM B (mH B (mI s 6 (0 : Int32))) G)) i142_2 rfl (bM_put (j := 0) (fs := mF B s) rfl (Nat.le_of_ble_eq_true rfl) hN (gm_fit_i _) rfl) ?_
  refine gm_ev.aload_n i142_5 rfl ?_
  refine gm_ev.iconst (v := 0) i142_6 (by decide) ?_
  refine gm_ev.putfield (M' := (bM B (mH B (mI (mI s 6 (0 : Int32)) 7 (0 : Int32))) G)) i142_7 rfl (bM_put (j := 0) (fs := mF B (mI s 6 (0 : Int32))) rfl (Nat.le_of_ble_eq_true rfl) hN (gm_fit_i _) rfl) ?_
  refine gm_ev.aload_n i142_10 rfl ?_
  refine gm_ev.callV gm_mono_run (av := []) (r := []) (ci := 11) (fs := mF B (mI (mI s 6 (0 : Int32)) 7 (0 : Int32))) (bM_get (j := 0) rfl) i142_11 rfl rfl rfl (Nat.le_of_ble_eq_true rfl) t2 ?_
  refine gm_ev.if_ne_t (tgt := 32) i142_14 (by decide) c4 ?_
  refine gm_ev.iconst (v := 2) i142_32 (by decide) ?_
  refine gm_ev.istore_n (ls' := [some (.ref B), some (.int (2 : Int32)), none]) i142_33 (Nat.le_of_ble_eq_true rfl) rfl ?_
  exact k
theorem r_isWell_0_f {N0 : Nat} {K : Nat → Nat} {d B : Nat} {s : mS} {G : gm_H} {sz sl : Nat} {r1 : Int32} {s3 : mS} (hN : N0 ≤ B) (t2 : gm_to N0 K ra_nm (ra_mt K) d 134 [.ref B] (bM B (mH B (mI (mI s 6 (0 : Int32)) 7 (0 : Int32))) G) sz (.returned (some (.int r1)), bM B (mH B s3) G, sz, 0)) (c4 : r1 = 0) : gm_ev N0 K ra_nm (ra_mt K) d (some .boolean) (gm_I cX12_isWell) (gm_lkf (lkX12 false K)) 0 [some (.ref B), none, none] [] (bM B (mH B s) G) sz sl (.returned (some (.int (0 : Int32))), (bM B (mH B (mI (mI s3 6 (1 : Int32)) 7 (s3.1 10))) G), sz, sl) := by
  refine gm_ev.aload_n i142_0 rfl ?_
  refine gm_ev.iconst (v := 0) i142_1 (by decide) ?_
  refine gm_ev.putfield (M' := (bM B (mH B (mI s 6 (0 : Int32))) G)) i142_2 rfl (bM_put (j := 0) (fs := mF B s) rfl (Nat.le_of_ble_eq_true rfl) hN (gm_fit_i _) rfl) ?_
  refine gm_ev.aload_n i142_5 rfl ?_
  refine gm_ev.iconst (v := 0) i142_6 (by decide) ?_
  refine gm_ev.putfield (M' := (bM B (mH B (mI (mI s 6 (0 : Int32)) 7 (0 : Int32))) G)) i142_7 rfl (bM_put (j := 0) (fs := mF B (mI s 6 (0 : Int32))) rfl (Nat.le_of_ble_eq_true rfl) hN (gm_fit_i _) rfl) ?_
  refine gm_ev.aload_n i142_10 rfl ?_
  refine gm_ev.callV gm_mono_run (av := []) (r := []) (ci := 11) (fs := mF B (mI (mI s 6 (0 : Int32)) 7 (0 : Int32))) (bM_get (j := 0) rfl) i142_11 rfl rfl rfl (Nat.le_of_ble_eq_true rfl) t2 ?_
  refine gm_ev.if_ne_f i142_14 c4 ?_
  refine gm_ev.aload_n i142_17 rfl ?_
  refine gm_ev.iconst (v := 1) i142_18 (by decide) ?_
  refine gm_ev.putfield (M' := (bM B (mH B (mI s3 6 (1 : Int32))) G)) i142_19 rfl (bM_put (j := 0) (fs := mF B s3) rfl (Nat.le_of_ble_eq_true rfl) hN (gm_fit_i _) rfl) ?_
  refine gm_ev.aload_n i142_22 rfl ?_
  refine gm_ev.aload_n i142_23 rfl ?_
  refine gm_ev.getfield (v := .int (s3.1 10)) i142_24 rfl (bM_fld (j := 0) (fs := mF B (mI s3 6 (1 : Int32))) rfl rfl) ?_
  refine gm_ev.putfield (M' := (bM B (mH B (mI (mI s3 6 (1 : Int32)) 7 (s3.1 10))) G)) i142_27 rfl (bM_put (j := 0) (fs := mF B (mI s3 6 (1 : Int32))) rfl (Nat.le_of_ble_eq_true rfl) hN (gm_fit_i _) rfl) ?_
  refine gm_ev.iconst (v := 0) i142_30 (by decide) ?_
  exact gm_ev.zret i142_31 rfl (by decide)
theorem r_isWell_34_t {N0 : Nat} {K : Nat → Nat} {d B : Nat} {s : mS} {G : gm_H} {sz sl : Nat} {x1 : Int32} {s3 : mS} (hN : N0 ≤ B) (c1 : (6 : Int32) ≤ x1) (t2 : gm_to N0 K ra_nm (ra_mt K) d 143 [.ref B] (bM B (mH B s) G) sz (.returned none, bM B (mH B s3) G, sz, 0)) : gm_ev N0 K ra_nm (ra_mt K) d (some .boolean) (gm_I cX12_isWell) (gm_lkf (lkX12 false K)) 34 [some (.ref B), some (.int x1), none] [] (bM B (mH B s) G) sz sl (.returned (some (.int (1 : Int32))), (bM B (mH B s3) G), sz, sl) := by
  refine gm_ev.iload_n i142_34 rfl ?_
  refine gm_ev.bipush (v := 6) i142_35 (by decide) ?_
  refine gm_ev.icmp_ge_t (tgt := 130) i142_37 (by decide) c1 ?_
  refine gm_ev.aload_n i142_130 rfl ?_
  refine gm_ev.callV gm_mono_run (av := []) (r := []) (ci := 11) (fs := mF B s) (bM_get (j := 0) rfl) i142_131 rfl rfl rfl (Nat.le_of_ble_eq_true rfl) t2 ?_
  refine gm_ev.iconst (v := 1) i142_134 (by decide) ?_
  exact gm_ev.zret i142_135 rfl (by decide)
theorem r_isWell_34_f_at42 {N0 : Nat} {K : Nat → Nat} {d B : Nat} {s : mS} {G : gm_H} {sz sl : Nat} {R : gm_R} {x1 : Int32} (hN : N0 ≤ B) (c1 : ¬ (6 : Int32) ≤ x1) (k : gm_ev N0 K ra_nm (ra_mt K) d (some .boolean) (gm_I cX12_isWell) (gm_lkf (lkX12 false K)) 42 [some (.ref B), some (.int x1), some (.int (0 : Int32))] [] (bM B (mH B s) G) sz sl R) : gm_ev N0 K ra_nm (ra_mt K) d (some .boolean) (gm_I cX12_isWell) (gm_lkf (lkX12 false K)) 34 [some (.ref B), some (.int x1), none] [] (bM B (mH B s) G) sz sl R := by
  refine gm_ev.iload_n i142_34 rfl ?_
  refine gm_ev.bipush (v := 6) i142_35 (by decide) ?_
  refine gm_ev.icmp_ge_f i142_37 c1 ?_
  refine gm_ev.iconst (v := 0) i142_40 (by decide) ?_
  refine gm_ev.istore_n (ls' := [some (.ref B), some (.int x1), some (.int (0 : Int32))]) i142_41 (Nat.le_of_ble_eq_true rfl) rfl ?_
  exact k
theorem r_isWell_42_t_at34 {N0 : Nat} {K : Nat → Nat} {d B : Nat} {s : mS} {G : gm_H} {sz sl : Nat} {R : gm_R} {x1 : Int32} {x2 : Int32} (hN : N0 ≤ B) (c1 : (s.1 11) ≤ x2) (k : gm_ev N0 K ra_nm (ra_mt K) d (some .boolean) (gm_I cX12_isWell) (gm_lkf (lkX12 false K)) 34 [some (.ref B), some (.int (x1 + (1 : Int32))), none] [] (bM B (mH B s) G) sz sl R) : gm_ev N0 K ra_nm (ra_mt K) d (some .boolean) (gm_I cX12_isWell) (gm_lkf (lkX12 false K)) 42 [some (.ref B), some (.int x1), some (.int x2)] [] (bM B (mH B s) G) sz sl R := by
  refine gm_ev.iload_n i142_42 rfl ?_
  refine gm_ev.aload_n i142_43 rfl ?_
  refine gm_ev.getfield (v := .int (s.1 11)) i142_44 rfl (bM_fld (j := 0) (fs := mF B s) rfl rfl) ?_
  refine gm_ev.icmp_ge_t (tgt := 124) i142_47 (by decide) c1 ?_
  refine gm_ev.iinc (v := x1 + (1 : Int32)) (ls' := [some (.ref B), some (.int (x1 + (1 : Int32))), some (.int x2)]) i142_124 rfl (by rfl) rfl ?_
  refine gm_ev.goto (tgt := 34) i142_127 (by decide) ?_
  refine gm_ev.le (a := [some (.ref B), some (.int (x1 + (1 : Int32))), none]) (gm_leL.le (show gm_leL _ _ from ⟨rfl, ⟨rfl, trivial⟩⟩)) ?_
  exact k
theorem r_isWell_42_ftttt_at42 {N0 : Nat} {K : Nat → Nat} {d B : Nat} {s : mS} {G : gm_H} {sz sl : Nat} {R : gm_R} {x1 : Int32} {x2 : Int32} {r5 : Int32} {s7 : mS} (hN : N0 ≤ B) (c1 : ¬ (s.1 11) ≤ x2) (c2 : ¬ x1 = (2 : Int32)) (c3 : ¬ x1 = (3 : Int32)) (c4 : ¬ x1 = (4 : Int32)) (t6 : gm_to N0 K ra_nm (ra_mt K) d 141 [.ref B, .int x2] (bM B (mH B s) G) sz (.returned (some (.int r5)), bM B (mH B s7) G, sz, 0)) (c8 : r5 = 0) (k : gm_ev N0 K ra_nm (ra_mt K) d (some .boolean) (gm_I cX12_isWell) (gm_lkf (lkX12 false K)) 42 [some (.ref B), some (.int x1), some (.int (x2 + (1 : Int32)))] [] (bM B (mH B s7) G) sz sl R) : gm_ev N0 K ra_nm (ra_mt K) d (some .boolean) (gm_I cX12_isWell) (gm_lkf (lkX12 false K)) 42 [some (.ref B), some (.int x1), some (.int x2)] [] (bM B (mH B s) G) sz sl R := by
  refine gm_ev.iload_n i142_42 rfl ?_
  refine gm_ev.aload_n i142_43 rfl ?_
  refine gm_ev.getfield (v := .int (s.1 11)) i142_44 rfl (bM_fld (j := 0) (fs := mF B s) rfl rfl) ?_
  refine gm_ev.icmp_ge_f i142_47 c1 ?_
  refine gm_ev.iload_n i142_50 rfl ?_
  refine gm_ev.iconst (v := 2) i142_51 (by decide) ?_
  refine gm_ev.icmp_ne_t (tgt := 66) i142_52 (by decide) c2 ?_
  refine gm_ev.iload_n i142_66 rfl ?_
  refine gm_ev.iconst (v := 3) i142_67 (by decide) ?_
  refine gm_ev.icmp_ne_t (tgt := 82) i142_68 (by decide) c3 ?_
  refine gm_ev.iload_n i142_82 rfl ?_
  refine gm_ev.iconst (v := 4) i142_83 (by decide) ?_
  refine gm_ev.icmp_ne_t (tgt := 98) i142_84 (by decide) c4 ?_
  refine gm_ev.aload_n i142_98 rfl ?_
  refine gm_ev.iload_n i142_99 rfl ?_
  refine gm_ev.callV gm_mono_run (av := [.int x2]) (r := []) (ci := 11) (fs := mF B s) (bM_get (j := 0) rfl) i142_100 rfl rfl rfl (Nat.le_of_ble_eq_true rfl) t6 ?_
  refine gm_ev.if_eq_t (tgt := 118) i142_103 (by decide) c8 ?_
  refine gm_ev.iinc (v := x2 + (1 : Int32)) (ls' := [some (.ref B), some (.int x1), some (.int (x2 + (1 : Int32)))]) i142_118 rfl (by rfl) rfl ?_
  refine gm_ev.goto (tgt := 42) i142_121 (by decide) ?_
  exact k
theorem r_isWell_42_ftttf {N0 : Nat} {K : Nat → Nat} {d B : Nat} {s : mS} {G : gm_H} {sz sl : Nat} {x1 : Int32} {x2 : Int32} {r5 : Int32} {s7 : mS} (hN : N0 ≤ B) (c1 : ¬ (s.1 11) ≤ x2) (c2 : ¬ x1 = (2 : Int32)) (c3 : ¬ x1 = (3 : Int32)) (c4 : ¬ x1 = (4 : Int32)) (t6 : gm_to N0 K ra_nm (ra_mt K) d 141 [.ref B, .int x2] (bM B (mH B s) G) sz (.returned (some (.int r5)), bM B (mH B s7) G, sz, 0)) (c8 : ¬ r5 = 0) : gm_ev N0 K ra_nm (ra_mt K) d (some .boolean) (gm_I cX12_isWell) (gm_lkf (lkX12 false K)) 42 [some (.ref B), some (.int x1), some (.int x2)] [] (bM B (mH B s) G) sz sl (.returned (some (.int (0 : Int32))), (bM B (mH B (mI (mI s7 6 x1) 7 x2)) G), sz, sl) := by
  refine gm_ev.iload_n i142_42 rfl ?_
  refine gm_ev.aload_n i142_43 rfl ?_
  refine gm_ev.getfield (v := .int (s.1 11)) i142_44 rfl (bM_fld (j := 0) (fs := mF B s) rfl rfl) ?_
  refine gm_ev.icmp_ge_f i142_47 c1 ?_
  refine gm_ev.iload_n i142_50 rfl ?_
  refine gm_ev.iconst (v := 2) i142_51 (by decide) ?_
  refine gm_ev.icmp_ne_t (tgt := 66) i142_52 (by decide) c2 ?_
  refine gm_ev.iload_n i142_66 rfl ?_
  refine gm_ev.iconst (v := 3) i142_67 (by decide) ?_
  refine gm_ev.icmp_ne_t (tgt := 82) i142_68 (by decide) c3 ?_
  refine gm_ev.iload_n i142_82 rfl ?_
  refine gm_ev.iconst (v := 4) i142_83 (by decide) ?_
  refine gm_ev.icmp_ne_t (tgt := 98) i142_84 (by decide) c4 ?_
  refine gm_ev.aload_n i142_98 rfl ?_
  refine gm_ev.iload_n i142_99 rfl ?_
  refine gm_ev.callV gm_mono_run (av := [.int x2]) (r := []) (ci := 11) (fs := mF B s) (bM_get (j := 0) rfl) i142_100 rfl rfl rfl (Nat.le_of_ble_eq_true rfl) t6 ?_
  refine gm_ev.if_eq_f i142_103 c8 ?_
  refine gm_ev.aload_n i142_106 rfl ?_
  refine gm_ev.iload_n i142_107 rfl ?_
  refine gm_ev.putfield (M' := (bM B (mH B (mI s7 6 x1)) G)) i142_108 rfl (bM_put (j := 0) (fs := mF B s7) rfl (Nat.le_of_ble_eq_true rfl) hN (gm_fit_i _) rfl) ?_
  refine gm_ev.aload_n i142_111 rfl ?_
  refine gm_ev.iload_n i142_112 rfl ?_
  refine gm_ev.putfield (M' := (bM B (mH B (mI (mI s7 6 x1) 7 x2)) G)) i142_113 rfl (bM_put (j := 0) (fs := mF B (mI s7 6 x1)) rfl (Nat.le_of_ble_eq_true rfl) hN (gm_fit_i _) rfl) ?_
  refine gm_ev.iconst (v := 0) i142_116 (by decide) ?_
  exact gm_ev.zret i142_117 rfl (by decide)
theorem r_isWell_42_fttft_at42 {N0 : Nat} {K : Nat → Nat} {d B : Nat} {s : mS} {G : gm_H} {sz sl : Nat} {R : gm_R} {x1 : Int32} {x2 : Int32} {r5 : Int32} {s7 : mS} (hN : N0 ≤ B) (c1 : ¬ (s.1 11) ≤ x2) (c2 : ¬ x1 = (2 : Int32)) (c3 : ¬ x1 = (3 : Int32)) (c4 : x1 = (4 : Int32)) (t6 : gm_to N0 K ra_nm (ra_mt K) d 140 [.ref B, .int x2] (bM B (mH B s) G) sz (.returned (some (.int r5)), bM B (mH B s7) G, sz, 0)) (c8 : r5 = 0) (k : gm_ev N0 K ra_nm (ra_mt K) d (some .boolean) (gm_I cX12_isWell) (gm_lkf (lkX12 false K)) 42 [some (.ref B), some (.int x1), some (.int (x2 + (1 : Int32)))] [] (bM B (mH B s7) G) sz sl R) : gm_ev N0 K ra_nm (ra_mt K) d (some .boolean) (gm_I cX12_isWell) (gm_lkf (lkX12 false K)) 42 [some (.ref B), some (.int x1), some (.int x2)] [] (bM B (mH B s) G) sz sl R := by
  refine gm_ev.iload_n i142_42 rfl ?_
  refine gm_ev.aload_n i142_43 rfl ?_
  refine gm_ev.getfield (v := .int (s.1 11)) i142_44 rfl (bM_fld (j := 0) (fs := mF B s) rfl rfl) ?_
  refine gm_ev.icmp_ge_f i142_47 c1 ?_
  refine gm_ev.iload_n i142_50 rfl ?_
  refine gm_ev.iconst (v := 2) i142_51 (by decide) ?_
  refine gm_ev.icmp_ne_t (tgt := 66) i142_52 (by decide) c2 ?_
  refine gm_ev.iload_n i142_66 rfl ?_
  refine gm_ev.iconst (v := 3) i142_67 (by decide) ?_
  refine gm_ev.icmp_ne_t (tgt := 82) i142_68 (by decide) c3 ?_
  refine gm_ev.iload_n i142_82 rfl ?_
  refine gm_ev.iconst (v := 4) i142_83 (by decide) ?_
  refine gm_ev.icmp_ne_f i142_84 c4 ?_
  refine gm_ev.aload_n i142_87 rfl ?_
  refine gm_ev.iload_n i142_88 rfl ?_
  refine gm_ev.callV gm_mono_run (av := [.int x2]) (r := []) (ci := 11) (fs := mF B s) (bM_get (j := 0) rfl) i142_89 rfl rfl rfl (Nat.le_of_ble_eq_true rfl) t6 ?_
  refine gm_ev.if_eq_t (tgt := 118) i142_92 (by decide) c8 ?_
  refine gm_ev.iinc (v := x2 + (1 : Int32)) (ls' := [some (.ref B), some (.int x1), some (.int (x2 + (1 : Int32)))]) i142_118 rfl (by rfl) rfl ?_
  refine gm_ev.goto (tgt := 42) i142_121 (by decide) ?_
  exact k
theorem r_isWell_42_fttff {N0 : Nat} {K : Nat → Nat} {d B : Nat} {s : mS} {G : gm_H} {sz sl : Nat} {x1 : Int32} {x2 : Int32} {r5 : Int32} {s7 : mS} (hN : N0 ≤ B) (c1 : ¬ (s.1 11) ≤ x2) (c2 : ¬ x1 = (2 : Int32)) (c3 : ¬ x1 = (3 : Int32)) (c4 : x1 = (4 : Int32)) (t6 : gm_to N0 K ra_nm (ra_mt K) d 140 [.ref B, .int x2] (bM B (mH B s) G) sz (.returned (some (.int r5)), bM B (mH B s7) G, sz, 0)) (c8 : ¬ r5 = 0) : gm_ev N0 K ra_nm (ra_mt K) d (some .boolean) (gm_I cX12_isWell) (gm_lkf (lkX12 false K)) 42 [some (.ref B), some (.int x1), some (.int x2)] [] (bM B (mH B s) G) sz sl (.returned (some (.int (0 : Int32))), (bM B (mH B (mI (mI s7 6 x1) 7 x2)) G), sz, sl) := by
  refine gm_ev.iload_n i142_42 rfl ?_
  refine gm_ev.aload_n i142_43 rfl ?_
  refine gm_ev.getfield (v := .int (s.1 11)) i142_44 rfl (bM_fld (j := 0) (fs := mF B s) rfl rfl) ?_
  refine gm_ev.icmp_ge_f i142_47 c1 ?_
  refine gm_ev.iload_n i142_50 rfl ?_
  refine gm_ev.iconst (v := 2) i142_51 (by decide) ?_
  refine gm_ev.icmp_ne_t (tgt := 66) i142_52 (by decide) c2 ?_
  refine gm_ev.iload_n i142_66 rfl ?_
  refine gm_ev.iconst (v := 3) i142_67 (by decide) ?_
  refine gm_ev.icmp_ne_t (tgt := 82) i142_68 (by decide) c3 ?_
  refine gm_ev.iload_n i142_82 rfl ?_
  refine gm_ev.iconst (v := 4) i142_83 (by decide) ?_
  refine gm_ev.icmp_ne_f i142_84 c4 ?_
  refine gm_ev.aload_n i142_87 rfl ?_
  refine gm_ev.iload_n i142_88 rfl ?_
  refine gm_ev.callV gm_mono_run (av := [.int x2]) (r := []) (ci := 11) (fs := mF B s) (bM_get (j := 0) rfl) i142_89 rfl rfl rfl (Nat.le_of_ble_eq_true rfl) t6 ?_
  refine gm_ev.if_eq_f i142_92 c8 ?_
  refine gm_ev.goto (tgt := 106) i142_95 (by decide) ?_
  refine gm_ev.aload_n i142_106 rfl ?_
  refine gm_ev.iload_n i142_107 rfl ?_
  refine gm_ev.putfield (M' := (bM B (mH B (mI s7 6 x1)) G)) i142_108 rfl (bM_put (j := 0) (fs := mF B s7) rfl (Nat.le_of_ble_eq_true rfl) hN (gm_fit_i _) rfl) ?_
  refine gm_ev.aload_n i142_111 rfl ?_
  refine gm_ev.iload_n i142_112 rfl ?_
  refine gm_ev.putfield (M' := (bM B (mH B (mI (mI s7 6 x1) 7 x2)) G)) i142_113 rfl (bM_put (j := 0) (fs := mF B (mI s7 6 x1)) rfl (Nat.le_of_ble_eq_true rfl) hN (gm_fit_i _) rfl) ?_
  refine gm_ev.iconst (v := 0) i142_116 (by decide) ?_
  exact gm_ev.zret i142_117 rfl (by decide)
theorem r_isWell_42_ftft_at42 {N0 : Nat} {K : Nat → Nat} {d B : Nat} {s : mS} {G : gm_H} {sz sl : Nat} {R : gm_R} {x1 : Int32} {x2 : Int32} {r4 : Int32} (hN : N0 ≤ B) (c1 : ¬ (s.1 11) ≤ x2) (c2 : ¬ x1 = (2 : Int32)) (c3 : x1 = (3 : Int32)) (t5 : gm_to N0 K ra_nm (ra_mt K) d 138 [.ref B, .int x2] (bM B (mH B s) G) sz (.returned (some (.int r4)), bM B (mH B s) G, sz, 0)) (c6 : r4 = 0) (k : gm_ev N0 K ra_nm (ra_mt K) d (some .boolean) (gm_I cX12_isWell) (gm_lkf (lkX12 false K)) 42 [some (.ref B), some (.int x1), some (.int (x2 + (1 : Int32)))] [] (bM B (mH B s) G) sz sl R) : gm_ev N0 K ra_nm (ra_mt K) d (some .boolean) (gm_I cX12_isWell) (gm_lkf (lkX12 false K)) 42 [some (.ref B), some (.int x1), some (.int x2)] [] (bM B (mH B s) G) sz sl R := by
  refine gm_ev.iload_n i142_42 rfl ?_
  refine gm_ev.aload_n i142_43 rfl ?_
  refine gm_ev.getfield (v := .int (s.1 11)) i142_44 rfl (bM_fld (j := 0) (fs := mF B s) rfl rfl) ?_
  refine gm_ev.icmp_ge_f i142_47 c1 ?_
  refine gm_ev.iload_n i142_50 rfl ?_
  refine gm_ev.iconst (v := 2) i142_51 (by decide) ?_
  refine gm_ev.icmp_ne_t (tgt := 66) i142_52 (by decide) c2 ?_
  refine gm_ev.iload_n i142_66 rfl ?_
  refine gm_ev.iconst (v := 3) i142_67 (by decide) ?_
  refine gm_ev.icmp_ne_f i142_68 c3 ?_
  refine gm_ev.aload_n i142_71 rfl ?_
  refine gm_ev.iload_n i142_72 rfl ?_
  refine gm_ev.callV gm_mono_run (av := [.int x2]) (r := []) (ci := 11) (fs := mF B s) (bM_get (j := 0) rfl) i142_73 rfl rfl rfl (Nat.le_of_ble_eq_true rfl) t5 ?_
  refine gm_ev.if_eq_t (tgt := 118) i142_76 (by decide) c6 ?_
  refine gm_ev.iinc (v := x2 + (1 : Int32)) (ls' := [some (.ref B), some (.int x1), some (.int (x2 + (1 : Int32)))]) i142_118 rfl (by rfl) rfl ?_
  refine gm_ev.goto (tgt := 42) i142_121 (by decide) ?_
  exact k
theorem r_isWell_42_ftff {N0 : Nat} {K : Nat → Nat} {d B : Nat} {s : mS} {G : gm_H} {sz sl : Nat} {x1 : Int32} {x2 : Int32} {r4 : Int32} (hN : N0 ≤ B) (c1 : ¬ (s.1 11) ≤ x2) (c2 : ¬ x1 = (2 : Int32)) (c3 : x1 = (3 : Int32)) (t5 : gm_to N0 K ra_nm (ra_mt K) d 138 [.ref B, .int x2] (bM B (mH B s) G) sz (.returned (some (.int r4)), bM B (mH B s) G, sz, 0)) (c6 : ¬ r4 = 0) : gm_ev N0 K ra_nm (ra_mt K) d (some .boolean) (gm_I cX12_isWell) (gm_lkf (lkX12 false K)) 42 [some (.ref B), some (.int x1), some (.int x2)] [] (bM B (mH B s) G) sz sl (.returned (some (.int (0 : Int32))), (bM B (mH B (mI (mI s 6 x1) 7 x2)) G), sz, sl) := by
  refine gm_ev.iload_n i142_42 rfl ?_
  refine gm_ev.aload_n i142_43 rfl ?_
  refine gm_ev.getfield (v := .int (s.1 11)) i142_44 rfl (bM_fld (j := 0) (fs := mF B s) rfl rfl) ?_
  refine gm_ev.icmp_ge_f i142_47 c1 ?_
  refine gm_ev.iload_n i142_50 rfl ?_
  refine gm_ev.iconst (v := 2) i142_51 (by decide) ?_
  refine gm_ev.icmp_ne_t (tgt := 66) i142_52 (by decide) c2 ?_
  refine gm_ev.iload_n i142_66 rfl ?_
  refine gm_ev.iconst (v := 3) i142_67 (by decide) ?_
  refine gm_ev.icmp_ne_f i142_68 c3 ?_
  refine gm_ev.aload_n i142_71 rfl ?_
  refine gm_ev.iload_n i142_72 rfl ?_
  refine gm_ev.callV gm_mono_run (av := [.int x2]) (r := []) (ci := 11) (fs := mF B s) (bM_get (j := 0) rfl) i142_73 rfl rfl rfl (Nat.le_of_ble_eq_true rfl) t5 ?_
  refine gm_ev.if_eq_f i142_76 c6 ?_
  refine gm_ev.goto (tgt := 106) i142_79 (by decide) ?_
  refine gm_ev.aload_n i142_106 rfl ?_
  refine gm_ev.iload_n i142_107 rfl ?_
  refine gm_ev.putfield (M' := (bM B (mH B (mI s 6 x1)) G)) i142_108 rfl (bM_put (j := 0) (fs := mF B s) rfl (Nat.le_of_ble_eq_true rfl) hN (gm_fit_i _) rfl) ?_
  refine gm_ev.aload_n i142_111 rfl ?_
  refine gm_ev.iload_n i142_112 rfl ?_
  refine gm_ev.putfield (M' := (bM B (mH B (mI (mI s 6 x1) 7 x2)) G)) i142_113 rfl (bM_put (j := 0) (fs := mF B (mI s 6 x1)) rfl (Nat.le_of_ble_eq_true rfl) hN (gm_fit_i _) rfl) ?_
  refine gm_ev.iconst (v := 0) i142_116 (by decide) ?_
  exact gm_ev.zret i142_117 rfl (by decide)
theorem r_isWell_42_fft_at42 {N0 : Nat} {K : Nat → Nat} {d B : Nat} {s : mS} {G : gm_H} {sz sl : Nat} {R : gm_R} {x1 : Int32} {x2 : Int32} {r3 : Int32} (hN : N0 ≤ B) (c1 : ¬ (s.1 11) ≤ x2) (c2 : x1 = (2 : Int32)) (t4 : gm_to N0 K ra_nm (ra_mt K) d 137 [.ref B, .int x2] (bM B (mH B s) G) sz (.returned (some (.int r3)), bM B (mH B s) G, sz, 0)) (c5 : r3 = 0) (k : gm_ev N0 K ra_nm (ra_mt K) d (some .boolean) (gm_I cX12_isWell) (gm_lkf (lkX12 false K)) 42 [some (.ref B), some (.int x1), some (.int (x2 + (1 : Int32)))] [] (bM B (mH B s) G) sz sl R) : gm_ev N0 K ra_nm (ra_mt K) d (some .boolean) (gm_I cX12_isWell) (gm_lkf (lkX12 false K)) 42 [some (.ref B), some (.int x1), some (.int x2)] [] (bM B (mH B s) G) sz sl R := by
  refine gm_ev.iload_n i142_42 rfl ?_
  refine gm_ev.aload_n i142_43 rfl ?_
  refine gm_ev.getfield (v := .int (s.1 11)) i142_44 rfl (bM_fld (j := 0) (fs := mF B s) rfl rfl) ?_
  refine gm_ev.icmp_ge_f i142_47 c1 ?_
  refine gm_ev.iload_n i142_50 rfl ?_
  refine gm_ev.iconst (v := 2) i142_51 (by decide) ?_
  refine gm_ev.icmp_ne_f i142_52 c2 ?_
  refine gm_ev.aload_n i142_55 rfl ?_
  refine gm_ev.iload_n i142_56 rfl ?_
  refine gm_ev.callV gm_mono_run (av := [.int x2]) (r := []) (ci := 11) (fs := mF B s) (bM_get (j := 0) rfl) i142_57 rfl rfl rfl (Nat.le_of_ble_eq_true rfl) t4 ?_
  refine gm_ev.if_eq_t (tgt := 118) i142_60 (by decide) c5 ?_
  refine gm_ev.iinc (v := x2 + (1 : Int32)) (ls' := [some (.ref B), some (.int x1), some (.int (x2 + (1 : Int32)))]) i142_118 rfl (by rfl) rfl ?_
  refine gm_ev.goto (tgt := 42) i142_121 (by decide) ?_
  exact k
theorem r_isWell_42_fff {N0 : Nat} {K : Nat → Nat} {d B : Nat} {s : mS} {G : gm_H} {sz sl : Nat} {x1 : Int32} {x2 : Int32} {r3 : Int32} (hN : N0 ≤ B) (c1 : ¬ (s.1 11) ≤ x2) (c2 : x1 = (2 : Int32)) (t4 : gm_to N0 K ra_nm (ra_mt K) d 137 [.ref B, .int x2] (bM B (mH B s) G) sz (.returned (some (.int r3)), bM B (mH B s) G, sz, 0)) (c5 : ¬ r3 = 0) : gm_ev N0 K ra_nm (ra_mt K) d (some .boolean) (gm_I cX12_isWell) (gm_lkf (lkX12 false K)) 42 [some (.ref B), some (.int x1), some (.int x2)] [] (bM B (mH B s) G) sz sl (.returned (some (.int (0 : Int32))), (bM B (mH B (mI (mI s 6 x1) 7 x2)) G), sz, sl) := by
  refine gm_ev.iload_n i142_42 rfl ?_
  refine gm_ev.aload_n i142_43 rfl ?_
  refine gm_ev.getfield (v := .int (s.1 11)) i142_44 rfl (bM_fld (j := 0) (fs := mF B s) rfl rfl) ?_
  refine gm_ev.icmp_ge_f i142_47 c1 ?_
  refine gm_ev.iload_n i142_50 rfl ?_
  refine gm_ev.iconst (v := 2) i142_51 (by decide) ?_
  refine gm_ev.icmp_ne_f i142_52 c2 ?_
  refine gm_ev.aload_n i142_55 rfl ?_
  refine gm_ev.iload_n i142_56 rfl ?_
  refine gm_ev.callV gm_mono_run (av := [.int x2]) (r := []) (ci := 11) (fs := mF B s) (bM_get (j := 0) rfl) i142_57 rfl rfl rfl (Nat.le_of_ble_eq_true rfl) t4 ?_
  refine gm_ev.if_eq_f i142_60 c5 ?_
  refine gm_ev.goto (tgt := 106) i142_63 (by decide) ?_
  refine gm_ev.aload_n i142_106 rfl ?_
  refine gm_ev.iload_n i142_107 rfl ?_
  refine gm_ev.putfield (M' := (bM B (mH B (mI s 6 x1)) G)) i142_108 rfl (bM_put (j := 0) (fs := mF B s) rfl (Nat.le_of_ble_eq_true rfl) hN (gm_fit_i _) rfl) ?_
  refine gm_ev.aload_n i142_111 rfl ?_
  refine gm_ev.iload_n i142_112 rfl ?_
  refine gm_ev.putfield (M' := (bM B (mH B (mI (mI s 6 x1) 7 x2)) G)) i142_113 rfl (bM_put (j := 0) (fs := mF B (mI s 6 x1)) rfl (Nat.le_of_ble_eq_true rfl) hN (gm_fit_i _) rfl) ?_
  refine gm_ev.iconst (v := 0) i142_116 (by decide) ?_
  exact gm_ev.zret i142_117 rfl (by decide)
theorem r_layers_0__at2 {N0 : Nat} {K : Nat → Nat} {d B : Nat} {s : mS} {G : gm_H} {sz sl : Nat} {R : gm_R}  (hN : N0 ≤ B)  (k : gm_ev N0 K ra_nm (ra_mt K) d none (gm_I cX12_layers) (gm_lkf (lkX12 false K)) 2 [some (.ref B), some (.int (0 : Int32)), none, none, none, none] [] (bM B (mH B s) G) sz sl R) : gm_ev N0 K ra_nm (ra_mt K) d none (gm_I cX12_layers) (gm_lkf (lkX12 false K)) 0 [some (.ref B), none, none, none, none, none] [] (bM B (mH B s) G) sz sl R := by
  refine gm_ev.iconst (v := 0) i143_0 (by decide) ?_
  refine gm_ev.istore_n (ls' := [some (.ref B), some (.int (0 : Int32)), none, none, none, none]) i143_1 (Nat.le_of_ble_eq_true rfl) rfl ?_
  exact k
theorem r_layers_2_t_at24 {N0 : Nat} {K : Nat → Nat} {d B : Nat} {s : mS} {G : gm_H} {sz sl : Nat} {R : gm_R} {x1 : Int32} (hN : N0 ≤ B) (c1 : (512 : Int32) ≤ x1) (k : gm_ev N0 K ra_nm (ra_mt K) d none (gm_I cX12_layers) (gm_lkf (lkX12 false K)) 24 [some (.ref B), some (.int (1 : Int32)), none, none, none, none] [] (bM B (mH B s) G) sz sl R) : gm_ev N0 K ra_nm (ra_mt K) d none (gm_I cX12_layers) (gm_lkf (lkX12 false K)) 2 [some (.ref B), some (.int x1), none, none, none, none] [] (bM B (mH B s) G) sz sl R := by
  refine gm_ev.iload_n i143_2 rfl ?_
  refine gm_ev.sipush (v := 512) i143_3 (by decide) ?_
  refine gm_ev.icmp_ge_t (tgt := 22) i143_6 (by decide) c1 ?_
  refine gm_ev.iconst (v := 1) i143_22 (by decide) ?_
  refine gm_ev.istore_n (ls' := [some (.ref B), some (.int (1 : Int32)), none, none, none, none]) i143_23 (Nat.le_of_ble_eq_true rfl) rfl ?_
  exact k
theorem r_layers_2_f_at2 {N0 : Nat} {K : Nat → Nat} {d B : Nat} {s : mS} {G : gm_H} {sz sl : Nat} {R : gm_R} {x1 : Int32} {k2 : Nat} (hN : N0 ≤ B) (c1 : ¬ (512 : Int32) ≤ x1) (ek2 : x1 = nI k2) (lk2 : k2 < 512) (k : gm_ev N0 K ra_nm (ra_mt K) d none (gm_I cX12_layers) (gm_lkf (lkX12 false K)) 2 [some (.ref B), some (.int (x1 + (1 : Int32))), none, none, none, none] [] (bM B (mH B (mA s 19 (upd (s.2.1 19) k2 (0 : Int32)))) G) sz sl R) : gm_ev N0 K ra_nm (ra_mt K) d none (gm_I cX12_layers) (gm_lkf (lkX12 false K)) 2 [some (.ref B), some (.int x1), none, none, none, none] [] (bM B (mH B s) G) sz sl R := by
  refine gm_ev.iload_n i143_2 rfl ?_
  refine gm_ev.sipush (v := 512) i143_3 (by decide) ?_
  refine gm_ev.icmp_ge_f i143_6 c1 ?_
  refine gm_ev.aload_n i143_9 rfl ?_
  refine gm_ev.getfield (v := .ref (B + 11)) i143_10 rfl (bM_fld (j := 0) (fs := mF B s) rfl rfl) ?_
  refine gm_ev.iload_n i143_13 rfl ?_
  refine gm_ev.iconst (v := 0) i143_14 (by decide) ?_
  refine gm_ev.iastore (M' := (bM B (mH B (mA s 19 (upd (s.2.1 19) k2 (0 : Int32)))) G)) i143_15 (bM_asti (j := 11) (n := 512) (f := s.2.1 19) rfl ek2 lk2 (by decide) hN rfl) ?_
  refine gm_ev.iinc (v := x1 + (1 : Int32)) (ls' := [some (.ref B), some (.int (x1 + (1 : Int32))), none, none, none, none]) i143_16 rfl (by rfl) rfl ?_
  refine gm_ev.goto (tgt := 2) i143_19 (by decide) ?_
  exact k
theorem r_layers_24_t {N0 : Nat} {K : Nat → Nat} {d B : Nat} {s : mS} {G : gm_H} {sz sl : Nat} {x1 : Int32} (hN : N0 ≤ B) (c1 : x1 = 0) : gm_ev N0 K ra_nm (ra_mt K) d none (gm_I cX12_layers) (gm_lkf (lkX12 false K)) 24 [some (.ref B), some (.int x1), none, none, none, none] [] (bM B (mH B s) G) sz sl (.returned none, (bM B (mH B s) G), sz, sl) := by
  refine gm_ev.iload_n i143_24 rfl ?_
  refine gm_ev.if_eq_t (tgt := 147) i143_25 (by decide) c1 ?_
  exact gm_ev.vret i143_147 rfl
theorem r_layers_24_f_at32 {N0 : Nat} {K : Nat → Nat} {d B : Nat} {s : mS} {G : gm_H} {sz sl : Nat} {R : gm_R} {x1 : Int32} (hN : N0 ≤ B) (c1 : ¬ x1 = 0) (k : gm_ev N0 K ra_nm (ra_mt K) d none (gm_I cX12_layers) (gm_lkf (lkX12 false K)) 32 [some (.ref B), some (.int (0 : Int32)), some (.int (0 : Int32)), none, none, none] [] (bM B (mH B s) G) sz sl R) : gm_ev N0 K ra_nm (ra_mt K) d none (gm_I cX12_layers) (gm_lkf (lkX12 false K)) 24 [some (.ref B), some (.int x1), none, none, none, none] [] (bM B (mH B s) G) sz sl R := by
  refine gm_ev.iload_n i143_24 rfl ?_
  refine gm_ev.if_eq_f i143_25 c1 ?_
  refine gm_ev.iconst (v := 0) i143_28 (by decide) ?_
  refine gm_ev.istore_n (ls' := [some (.ref B), some (.int (0 : Int32)), none, none, none, none]) i143_29 (Nat.le_of_ble_eq_true rfl) rfl ?_
  refine gm_ev.iconst (v := 0) i143_30 (by decide) ?_
  refine gm_ev.istore_n (ls' := [some (.ref B), some (.int (0 : Int32)), some (.int (0 : Int32)), none, none, none]) i143_31 (Nat.le_of_ble_eq_true rfl) rfl ?_
  exact k
theorem r_layers_32_t_at24 {N0 : Nat} {K : Nat → Nat} {d B : Nat} {s : mS} {G : gm_H} {sz sl : Nat} {R : gm_R} {x1 : Int32} {x2 : Int32} (hN : N0 ≤ B) (c1 : (s.1 11) ≤ x2) (k : gm_ev N0 K ra_nm (ra_mt K) d none (gm_I cX12_layers) (gm_lkf (lkX12 false K)) 24 [some (.ref B), some (.int x1), none, none, none, none] [] (bM B (mH B s) G) sz sl R) : gm_ev N0 K ra_nm (ra_mt K) d none (gm_I cX12_layers) (gm_lkf (lkX12 false K)) 32 [some (.ref B), some (.int x1), some (.int x2), none, none, none] [] (bM B (mH B s) G) sz sl R := by
  refine gm_ev.iload_n i143_32 rfl ?_
  refine gm_ev.aload_n i143_33 rfl ?_
  refine gm_ev.getfield (v := .int (s.1 11)) i143_34 rfl (bM_fld (j := 0) (fs := mF B s) rfl rfl) ?_
  refine gm_ev.icmp_ge_t (tgt := 144) i143_37 (by decide) c1 ?_
  refine gm_ev.goto (tgt := 24) i143_144 (by decide) ?_
  refine gm_ev.le (a := [some (.ref B), some (.int x1), none, none, none, none]) (gm_leL.le (show gm_leL _ _ from ⟨rfl, ⟨rfl, trivial⟩⟩)) ?_
  exact k
theorem r_layers_32_f_at58 {N0 : Nat} {K : Nat → Nat} {d B : Nat} {s : mS} {G : gm_H} {sz sl : Nat} {R : gm_R} {x1 : Int32} {x2 : Int32} {k2 : Nat} (hN : N0 ≤ B) (c1 : ¬ (s.1 11) ≤ x2) (ek2 : ((6 : Int32) * x2) = nI k2) (lk2 : k2 < 144) (k : gm_ev N0 K ra_nm (ra_mt K) d none (gm_I cX12_layers) (gm_lkf (lkX12 false K)) 58 [some (.ref B), some (.int x1), some (.int x2), some (.int (s.2.1 14 k2)), some (.int (((6 : Int32) * x2) + (1 : Int32))), none] [] (bM B (mH B s) G) sz sl R) : gm_ev N0 K ra_nm (ra_mt K) d none (gm_I cX12_layers) (gm_lkf (lkX12 false K)) 32 [some (.ref B), some (.int x1), some (.int x2), none, none, none] [] (bM B (mH B s) G) sz sl R := by
  refine gm_ev.iload_n i143_32 rfl ?_
  refine gm_ev.aload_n i143_33 rfl ?_
  refine gm_ev.getfield (v := .int (s.1 11)) i143_34 rfl (bM_fld (j := 0) (fs := mF B s) rfl rfl) ?_
  refine gm_ev.icmp_ge_f i143_37 c1 ?_
  refine gm_ev.aload_n i143_40 rfl ?_
  refine gm_ev.getfield (v := .ref (B + 6)) i143_41 rfl (bM_fld (j := 0) (fs := mF B s) rfl rfl) ?_
  refine gm_ev.bipush (v := 6) i143_44 (by decide) ?_
  refine gm_ev.iload_n i143_46 rfl ?_
  refine gm_ev.imul i143_47 ?_
  refine gm_ev.iaload i143_48 (bM_ai (j := 6) (n := 144) (f := s.2.1 14) rfl ek2 lk2 (by decide)) ?_
  refine gm_ev.istore_n (ls' := [some (.ref B), some (.int x1), some (.int x2), some (.int (s.2.1 14 k2)), none, none]) i143_49 (Nat.le_of_ble_eq_true rfl) rfl ?_
  refine gm_ev.bipush (v := 6) i143_50 (by decide) ?_
  refine gm_ev.iload_n i143_52 rfl ?_
  refine gm_ev.imul i143_53 ?_
  refine gm_ev.iconst (v := 1) i143_54 (by decide) ?_
  refine gm_ev.iadd i143_55 ?_
  refine gm_ev.istore (ls' := [some (.ref B), some (.int x1), some (.int x2), some (.int (s.2.1 14 k2)), some (.int (((6 : Int32) * x2) + (1 : Int32))), none]) i143_56 (Nat.le_of_ble_eq_true rfl) rfl ?_
  exact k
theorem r_layers_58_t_at32 {N0 : Nat} {K : Nat → Nat} {d B : Nat} {s : mS} {G : gm_H} {sz sl : Nat} {R : gm_R} {x1 : Int32} {x2 : Int32} {x3 : Int32} {x4 : Int32} {k1 : Nat} (hN : N0 ≤ B) (ek1 : x2 = nI k1) (lk1 : k1 < 24) (c2 : (((6 : Int32) * x2) + (s.2.1 12 k1)) < x4) (k : gm_ev N0 K ra_nm (ra_mt K) d none (gm_I cX12_layers) (gm_lkf (lkX12 false K)) 32 [some (.ref B), some (.int x1), some (.int (x2 + (1 : Int32))), none, none, none] [] (bM B (mH B s) G) sz sl R) : gm_ev N0 K ra_nm (ra_mt K) d none (gm_I cX12_layers) (gm_lkf (lkX12 false K)) 58 [some (.ref B), some (.int x1), some (.int x2), some (.int x3), some (.int x4), none] [] (bM B (mH B s) G) sz sl R := by
  refine gm_ev.iload i143_58 rfl ?_
  refine gm_ev.bipush (v := 6) i143_60 (by decide) ?_
  refine gm_ev.iload_n i143_62 rfl ?_
  refine gm_ev.imul i143_63 ?_
  refine gm_ev.aload_n i143_64 rfl ?_
  refine gm_ev.getfield (v := .ref (B + 4)) i143_65 rfl (bM_fld (j := 0) (fs := mF B s) rfl rfl) ?_
  refine gm_ev.iload_n i143_68 rfl ?_
  refine gm_ev.iaload i143_69 (bM_ai (j := 4) (n := 24) (f := s.2.1 12) rfl ek1 lk1 (by decide)) ?_
  refine gm_ev.iadd i143_70 ?_
  refine gm_ev.icmp_gt_t (tgt := 138) i143_71 (by decide) c2 ?_
  refine gm_ev.iinc (v := x2 + (1 : Int32)) (ls' := [some (.ref B), some (.int x1), some (.int (x2 + (1 : Int32))), some (.int x3), some (.int x4), none]) i143_138 rfl (by rfl) rfl ?_
  refine gm_ev.goto (tgt := 32) i143_141 (by decide) ?_
  refine gm_ev.le (a := [some (.ref B), some (.int x1), some (.int (x2 + (1 : Int32))), none, none, none]) (gm_leL.le (show gm_leL _ _ from ⟨rfl, ⟨rfl, ⟨rfl, trivial⟩⟩⟩)) ?_
  exact k
