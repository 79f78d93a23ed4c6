/-! paths through RuleArenaModel, by program -/
theorem r_atom_75_ftfttt {N0 : Nat} {K : Nat → Nat} {d B : Nat} {s : mS} {G : gm_H} {sz sl : Nat} {x1 : Int32} {x2 : Int32} {x3 : Int32} {x4 : Int32} {r2 : Int32} {s4 : mS} {k6 : Nat} (hN : N0 ≤ B) (c1 : ¬ (3 : Int32) < x4) (t3 : gm_to N0 K ra_nm (ra_mt K) d 129 [.ref B, .int ((((3 : Int32) * x1) + x4) - (1 : Int32))] (bM B (mH B s) G) sz (.returned (some (.int r2)), bM B (mH B s4) G, sz, 0)) (c5 : ¬ r2 = 0) (ek6 : x1 = nI k6) (lk6 : k6 < 144) (c7 : ¬ x3 < 0) (c8 : ¬ x4 = x3) (c9 : 0 ≤ x3) (c10 : x4 = x3) : gm_ev N0 K ra_nm (ra_mt K) d (some .boolean) (gm_I cX12_atom) (gm_lkf (lkX12 false K)) 75 [some (.ref B), some (.int x1), some (.int x2), some (.int x3), some (.int x4)] [] (bM B (mH B s) G) sz sl (.returned (some (.int (0 : Int32))), (bM B (mH B (mA s4 14 (upd (s4.2.1 14) k6 (((4 : Int32) * x2) + x4)))) G), sz, sl) := by
  refine gm_ev.iload i130_75 rfl ?_
  refine gm_ev.iconst (v := 3) i130_77 (by decide) ?_
  refine gm_ev.icmp_gt_f i130_78 c1 ?_
  refine gm_ev.aload_n i130_81 rfl ?_
  refine gm_ev.iconst (v := 3) i130_82 (by decide) ?_
  refine gm_ev.iload_n i130_83 rfl ?_
  refine gm_ev.imul i130_84 ?_
  refine gm_ev.iload i130_85 rfl ?_
  refine gm_ev.iadd i130_87 ?_
  refine gm_ev.iconst (v := 1) i130_88 (by decide) ?_
  refine gm_ev.isub i130_89 ?_
  refine gm_ev.callV gm_mono_run (av := [.int ((((3 : Int32) * x1) + x4) - (1 : Int32))]) (r := []) (ci := 11) (fs := mF B s) (bM_get (j := 0) rfl) i130_90 rfl rfl rfl (Nat.le_of_ble_eq_true rfl) t3 ?_
  refine gm_ev.if_ne_t (tgt := 98) i130_93 (by decide) c5 ?_
  refine gm_ev.aload_n i130_98 rfl ?_
  refine gm_ev.getfield (v := .ref (B + 6)) i130_99 rfl (bM_fld (j := 0) (fs := mF B s4) rfl rfl) ?_
  refine gm_ev.iload_n i130_102 rfl ?_
  refine gm_ev.iconst (v := 4) i130_103 (by decide) ?_
  refine gm_ev.iload_n i130_104 rfl ?_
  refine gm_ev.imul i130_105 ?_
  refine gm_ev.iload i130_106 rfl ?_
  refine gm_ev.iadd i130_108 ?_
  refine gm_ev.iastore (M' := (bM B (mH B (mA s4 14 (upd (s4.2.1 14) k6 (((4 : Int32) * x2) + x4)))) G)) i130_109 (bM_asti (j := 6) (n := 144) (f := s4.2.1 14) rfl ek6 lk6 (by decide) hN rfl) ?_
  refine gm_ev.iload_n i130_110 rfl ?_
  refine gm_ev.if_lt_f i130_111 c7 ?_
  refine gm_ev.iload i130_114 rfl ?_
  refine gm_ev.iload_n i130_116 rfl ?_
  refine gm_ev.icmp_ne_t (tgt := 131) i130_117 (by decide) c8 ?_
  refine gm_ev.iload i130_131 rfl ?_
  refine gm_ev.iload_n i130_133 rfl ?_
  refine gm_ev.if_ge_t (tgt := 141) i130_134 (by decide) c9 ?_
  refine gm_ev.iload_n i130_141 rfl ?_
  refine gm_ev.icmp_eq_t (tgt := 154) i130_142 (by decide) c10 ?_
  refine gm_ev.iconst (v := 0) i130_154 (by decide) ?_
  exact gm_ev.zret i130_155 rfl (by decide)
theorem r_atom_75_ftfttft_at75 {N0 : Nat} {K : Nat → Nat} {d B : Nat} {s : mS} {G : gm_H} {sz sl : Nat} {R : gm_R} {x1 : Int32} {x2 : Int32} {x3 : Int32} {x4 : Int32} {r2 : Int32} {s4 : mS} {k6 : Nat} {r11 : Int32} {s13 : mS} (hN : N0 ≤ B) (c1 : ¬ (3 : Int32) < x4) (t3 : gm_to N0 K ra_nm (ra_mt K) d 129 [.ref B, .int ((((3 : Int32) * x1) + x4) - (1 : Int32))] (bM B (mH B s) G) sz (.returned (some (.int r2)), bM B (mH B s4) G, sz, 0)) (c5 : ¬ r2 = 0) (ek6 : x1 = nI k6) (lk6 : k6 < 144) (c7 : ¬ x3 < 0) (c8 : ¬ x4 = x3) (c9 : 0 ≤ x3) (c10 : ¬ x4 = x3) (t12 : gm_to N0 K ra_nm (ra_mt K) d 128 [.ref B, .int (44 : Int32)] (bM B (mH B (mA s4 14 (upd (s4.2.1 14) k6 (((4 : Int32) * x2) + x4)))) G) sz (.returned (some (.int r11)), bM B (mH B s13) G, sz, 0)) (c14 : ¬ r11 = 0) (k : gm_ev N0 K ra_nm (ra_mt K) d (some .boolean) (gm_I cX12_atom) (gm_lkf (lkX12 false K)) 75 [some (.ref B), some (.int x1), some (.int x2), some (.int x3), some (.int (x4 + (1 : Int32)))] [] (bM B (mH B s13) G) sz sl R) : gm_ev N0 K ra_nm (ra_mt K) d (some .boolean) (gm_I cX12_atom) (gm_lkf (lkX12 false K)) 75 [some (.ref B), some (.int x1), some (.int x2), some (.int x3), some (.int x4)] [] (bM B (mH B s) G) sz sl R := by
  refine gm_ev.iload i130_75 rfl ?_
  refine gm_ev.iconst (v := 3) i130_77 (by decide) ?_
  refine gm_ev.icmp_gt_f i130_78 c1 ?_
  refine gm_ev.aload_n i130_81 rfl ?_
  refine gm_ev.iconst (v := 3) i130_82 (by decide) ?_
  refine gm_ev.iload_n i130_83 rfl ?_
  refine gm_ev.imul i130_84 ?_
  refine gm_ev.iload i130_85 rfl ?_
  refine gm_ev.iadd i130_87 ?_
  refine gm_ev.iconst (v := 1) i130_88 (by decide) ?_
  refine gm_ev.isub i130_89 ?_
  refine gm_ev.callV gm_mono_run (av := [.int ((((3 : Int32) * x1) + x4) - (1 : Int32))]) (r := []) (ci := 11) (fs := mF B s) (bM_get (j := 0) rfl) i130_90 rfl rfl rfl (Nat.le_of_ble_eq_true rfl) t3 ?_
  refine gm_ev.if_ne_t (tgt := 98) i130_93 (by decide) c5 ?_
  refine gm_ev.aload_n i130_98 rfl ?_
  refine gm_ev.getfield (v := .ref (B + 6)) i130_99 rfl (bM_fld (j := 0) (fs := mF B s4) rfl rfl) ?_
  refine gm_ev.iload_n i130_102 rfl ?_
  refine gm_ev.iconst (v := 4) i130_103 (by decide) ?_
  refine gm_ev.iload_n i130_104 rfl ?_
  refine gm_ev.imul i130_105 ?_
  refine gm_ev.iload i130_106 rfl ?_
  refine gm_ev.iadd i130_108 ?_
  refine gm_ev.iastore (M' := (bM B (mH B (mA s4 14 (upd (s4.2.1 14) k6 (((4 : Int32) * x2) + x4)))) G)) i130_109 (bM_asti (j := 6) (n := 144) (f := s4.2.1 14) rfl ek6 lk6 (by decide) hN rfl) ?_
  refine gm_ev.iload_n i130_110 rfl ?_
  refine gm_ev.if_lt_f i130_111 c7 ?_
  refine gm_ev.iload i130_114 rfl ?_
  refine gm_ev.iload_n i130_116 rfl ?_
  refine gm_ev.icmp_ne_t (tgt := 131) i130_117 (by decide) c8 ?_
  refine gm_ev.iload i130_131 rfl ?_
  refine gm_ev.iload_n i130_133 rfl ?_
  refine gm_ev.if_ge_t (tgt := 141) i130_134 (by decide) c9 ?_
  refine gm_ev.iload_n i130_141 rfl ?_
  refine gm_ev.icmp_eq_f i130_142 c10 ?_
  refine gm_ev.aload_n i130_145 rfl ?_
  refine gm_ev.bipush (v := 44) i130_146 (by decide) ?_
  refine gm_ev.callV gm_mono_run (av := [.int (44 : Int32)]) (r := []) (ci := 11) (fs := mF B (mA s4 14 (upd (s4.2.1 14) k6 (((4 : Int32) * x2) + x4)))) (bM_get (j := 0) rfl) i130_148 rfl rfl rfl (Nat.le_of_ble_eq_true rfl) t12 ?_
  refine gm_ev.if_ne_t (tgt := 156) i130_151 (by decide) c14 ?_
  refine gm_ev.iinc (v := x4 + (1 : Int32)) (ls' := [some (.ref B), some (.int x1), some (.int x2), some (.int x3), some (.int (x4 + (1 : Int32)))]) i130_156 rfl (by rfl) rfl ?_
  refine gm_ev.goto (tgt := 75) i130_159 (by decide) ?_
  exact k
theorem r_atom_75_ftfttff {N0 : Nat} {K : Nat → Nat} {d B : Nat} {s : mS} {G : gm_H} {sz sl : Nat} {x1 : Int32} {x2 : Int32} {x3 : Int32} {x4 : Int32} {r2 : Int32} {s4 : mS} {k6 : Nat} {r11 : Int32} {s13 : mS} (hN : N0 ≤ B) (c1 : ¬ (3 : Int32) < x4) (t3 : gm_to N0 K ra_nm (ra_mt K) d 129 [.ref B, .int ((((3 : Int32) * x1) + x4) - (1 : Int32))] (bM B (mH B s) G) sz (.returned (some (.int r2)), bM B (mH B s4) G, sz, 0)) (c5 : ¬ r2 = 0) (ek6 : x1 = nI k6) (lk6 : k6 < 144) (c7 : ¬ x3 < 0) (c8 : ¬ x4 = x3) (c9 : 0 ≤ x3) (c10 : ¬ x4 = x3) (t12 : gm_to N0 K ra_nm (ra_mt K) d 128 [.ref B, .int (44 : Int32)] (bM B (mH B (mA s4 14 (upd (s4.2.1 14) k6 (((4 : Int32) * x2) + x4)))) G) sz (.returned (some (.int r11)), bM B (mH B s13) G, sz, 0)) (c14 : r11 = 0) : gm_ev N0 K ra_nm (ra_mt K) d (some .boolean) (gm_I cX12_atom) (gm_lkf (lkX12 false K)) 75 [some (.ref B), some (.int x1), some (.int x2), some (.int x3), some (.int x4)] [] (bM B (mH B s) G) sz sl (.returned (some (.int (0 : Int32))), (bM B (mH B s13) G), sz, sl) := by
  refine gm_ev.iload i130_75 rfl ?_
  refine gm_ev.iconst (v := 3) i130_77 (by decide) ?_
  refine gm_ev.icmp_gt_f i130_78 c1 ?_
  refine gm_ev.aload_n i130_81 rfl ?_
  refine gm_ev.iconst (v := 3) i130_82 (by decide) ?_
  refine gm_ev.iload_n i130_83 rfl ?_
  refine gm_ev.imul i130_84 ?_
  refine gm_ev.iload i130_85 rfl ?_
  refine gm_ev.iadd i130_87 ?_
  refine gm_ev.iconst (v := 1) i130_88 (by decide) ?_
  refine gm_ev.isub i130_89 ?_
  refine gm_ev.callV gm_mono_run (av := [.int ((((3 : Int32) * x1) + x4) - (1 : Int32))]) (r := []) (ci := 11) (fs := mF B s) (bM_get (j := 0) rfl) i130_90 rfl rfl rfl (Nat.le_of_ble_eq_true rfl) t3 ?_
  refine gm_ev.if_ne_t (tgt := 98) i130_93 (by decide) c5 ?_
  refine gm_ev.aload_n i130_98 rfl ?_
  refine gm_ev.getfield (v := .ref (B + 6)) i130_99 rfl (bM_fld (j := 0) (fs := mF B s4) rfl rfl) ?_
  refine gm_ev.iload_n i130_102 rfl ?_
  refine gm_ev.iconst (v := 4) i130_103 (by decide) ?_
  refine gm_ev.iload_n i130_104 rfl ?_
  refine gm_ev.imul i130_105 ?_
  refine gm_ev.iload i130_106 rfl ?_
  refine gm_ev.iadd i130_108 ?_
  refine gm_ev.iastore (M' := (bM B (mH B (mA s4 14 (upd (s4.2.1 14) k6 (((4 : Int32) * x2) + x4)))) G)) i130_109 (bM_asti (j := 6) (n := 144) (f := s4.2.1 14) rfl ek6 lk6 (by decide) hN rfl) ?_
  refine gm_ev.iload_n i130_110 rfl ?_
  refine gm_ev.if_lt_f i130_111 c7 ?_
  refine gm_ev.iload i130_114 rfl ?_
  refine gm_ev.iload_n i130_116 rfl ?_
  refine gm_ev.icmp_ne_t (tgt := 131) i130_117 (by decide) c8 ?_
  refine gm_ev.iload i130_131 rfl ?_
  refine gm_ev.iload_n i130_133 rfl ?_
  refine gm_ev.if_ge_t (tgt := 141) i130_134 (by decide) c9 ?_
  refine gm_ev.iload_n i130_141 rfl ?_
  refine gm_ev.icmp_eq_f i130_142 c10 ?_
  refine gm_ev.aload_n i130_145 rfl ?_
  refine gm_ev.bipush (v := 44) i130_146 (by decide) ?_
  refine gm_ev.callV gm_mono_run (av := [.int (44 : Int32)]) (r := []) (ci := 11) (fs := mF B (mA s4 14 (upd (s4.2.1 14) k6 (((4 : Int32) * x2) + x4)))) (bM_get (j := 0) rfl) i130_148 rfl rfl rfl (Nat.le_of_ble_eq_true rfl) t12 ?_
  refine gm_ev.if_ne_f i130_151 c14 ?_
  refine gm_ev.iconst (v := 0) i130_154 (by decide) ?_
  exact gm_ev.zret i130_155 rfl (by decide)
theorem r_atom_75_ftftft {N0 : Nat} {K : Nat → Nat} {d B : Nat} {s : mS} {G : gm_H} {sz sl : Nat} {x1 : Int32} {x2 : Int32} {x3 : Int32} {x4 : Int32} {r2 : Int32} {s4 : mS} {k6 : Nat} (hN : N0 ≤ B) (c1 : ¬ (3 : Int32) < x4) (t3 : gm_to N0 K ra_nm (ra_mt K) d 129 [.ref B, .int ((((3 : Int32) * x1) + x4) - (1 : Int32))] (bM B (mH B s) G) sz (.returned (some (.int r2)), bM B (mH B s4) G, sz, 0)) (c5 : ¬ r2 = 0) (ek6 : x1 = nI k6) (lk6 : k6 < 144) (c7 : ¬ x3 < 0) (c8 : ¬ x4 = x3) (c9 : ¬ 0 ≤ x3) (c10 : x4 = (3 : Int32)) : gm_ev N0 K ra_nm (ra_mt K) d (some .boolean) (gm_I cX12_atom) (gm_lkf (lkX12 false K)) 75 [some (.ref B), some (.int x1), some (.int x2), some (.int x3), some (.int x4)] [] (bM B (mH B s) G) sz sl (.returned (some (.int (0 : Int32))), (bM B (mH B (mA s4 14 (upd (s4.2.1 14) k6 (((4 : Int32) * x2) + x4)))) G), sz, sl) := by
  refine gm_ev.iload i130_75 rfl ?_
  refine gm_ev.iconst (v := 3) i130_77 (by decide) ?_
  refine gm_ev.icmp_gt_f i130_78 c1 ?_
  refine gm_ev.aload_n i130_81 rfl ?_
  refine gm_ev.iconst (v := 3) i130_82 (by decide) ?_
  refine gm_ev.iload_n i130_83 rfl ?_
  refine gm_ev.imul i130_84 ?_
  refine gm_ev.iload i130_85 rfl ?_
  refine gm_ev.iadd i130_87 ?_
  refine gm_ev.iconst (v := 1) i130_88 (by decide) ?_
  refine gm_ev.isub i130_89 ?_
  refine gm_ev.callV gm_mono_run (av := [.int ((((3 : Int32) * x1) + x4) - (1 : Int32))]) (r := []) (ci := 11) (fs := mF B s) (bM_get (j := 0) rfl) i130_90 rfl rfl rfl (Nat.le_of_ble_eq_true rfl) t3 ?_
  refine gm_ev.if_ne_t (tgt := 98) i130_93 (by decide) c5 ?_
  refine gm_ev.aload_n i130_98 rfl ?_
  refine gm_ev.getfield (v := .ref (B + 6)) i130_99 rfl (bM_fld (j := 0) (fs := mF B s4) rfl rfl) ?_
  refine gm_ev.iload_n i130_102 rfl ?_
  refine gm_ev.iconst (v := 4) i130_103 (by decide) ?_
  refine gm_ev.iload_n i130_104 rfl ?_
  refine gm_ev.imul i130_105 ?_
  refine gm_ev.iload i130_106 rfl ?_
  refine gm_ev.iadd i130_108 ?_
  refine gm_ev.iastore (M' := (bM B (mH B (mA s4 14 (upd (s4.2.1 14) k6 (((4 : Int32) * x2) + x4)))) G)) i130_109 (bM_asti (j := 6) (n := 144) (f := s4.2.1 14) rfl ek6 lk6 (by decide) hN rfl) ?_
  refine gm_ev.iload_n i130_110 rfl ?_
  refine gm_ev.if_lt_f i130_111 c7 ?_
  refine gm_ev.iload i130_114 rfl ?_
  refine gm_ev.iload_n i130_116 rfl ?_
  refine gm_ev.icmp_ne_t (tgt := 131) i130_117 (by decide) c8 ?_
  refine gm_ev.iload i130_131 rfl ?_
  refine gm_ev.iload_n i130_133 rfl ?_
  refine gm_ev.if_ge_f i130_134 c9 ?_
  refine gm_ev.iconst (v := 3) i130_137 (by decide) ?_
  refine gm_ev.goto (tgt := 142) i130_138 (by decide) ?_
  refine gm_ev.icmp_eq_t (tgt := 154) i130_142 (by decide) c10 ?_
  refine gm_ev.iconst (v := 0) i130_154 (by decide) ?_
  exact gm_ev.zret i130_155 rfl (by decide)
theorem r_atom_75_ftftfft_at75 {N0 : Nat} {K : Nat → Nat} {d B : Nat} {s : mS} {G : gm_H} {sz sl : Nat} {R : gm_R} {x1 : Int32} {x2 : Int32} {x3 : Int32} {x4 : Int32} {r2 : Int32} {s4 : mS} {k6 : Nat} {r11 : Int32} {s13 : mS} (hN : N0 ≤ B) (c1 : ¬ (3 : Int32) < x4) (t3 : gm_to N0 K ra_nm (ra_mt K) d 129 [.ref B, .int ((((3 : Int32) * x1) + x4) - (1 : Int32))] (bM B (mH B s) G) sz (.returned (some (.int r2)), bM B (mH B s4) G, sz, 0)) (c5 : ¬ r2 = 0) (ek6 : x1 = nI k6) (lk6 : k6 < 144) (c7 : ¬ x3 < 0) (c8 : ¬ x4 = x3) (c9 : ¬ 0 ≤ x3) (c10 : ¬ x4 = (3 : Int32)) (t12 : gm_to N0 K ra_nm (ra_mt K) d 128 [.ref B, .int (44 : Int32)] (bM B (mH B (mA s4 14 (upd (s4.2.1 14) k6 (((4 : Int32) * x2) + x4)))) G) sz (.returned (some (.int r11)), bM B (mH B s13) G, sz, 0)) (c14 : ¬ r11 = 0) (k : gm_ev N0 K ra_nm (ra_mt K) d (some .boolean) (gm_I cX12_atom) (gm_lkf (lkX12 false K)) 75 [some (.ref B), some (.int x1), some (.int x2), some (.int x3), some (.int (x4 + (1 : Int32)))] [] (bM B (mH B s13) G) sz sl R) : gm_ev N0 K ra_nm (ra_mt K) d (some .boolean) (gm_I cX12_atom) (gm_lkf (lkX12 false K)) 75 [some (.ref B), some (.int x1), some (.int x2), some (.int x3), some (.int x4)] [] (bM B (mH B s) G) sz sl R := by
  refine gm_ev.iload i130_75 rfl ?_
  refine gm_ev.iconst (v := 3) i130_77 (by decide) ?_
  refine gm_ev.icmp_gt_f i130_78 c1 ?_
  refine gm_ev.aload_n i130_81 rfl ?_
  refine gm_ev.iconst (v := 3) i130_82 (by decide) ?_
  refine gm_ev.iload_n i130_83 rfl ?_
  refine gm_ev.imul i130_84 ?_
  refine gm_ev.iload i130_85 rfl ?_
  refine gm_ev.iadd i130_87 ?_
  refine gm_ev.iconst (v := 1) i130_88 (by decide) ?_
  refine gm_ev.isub i130_89 ?_
  refine gm_ev.callV gm_mono_run (av := [.int ((((3 : Int32) * x1) + x4) - (1 : Int32))]) (r := []) (ci := 11) (fs := mF B s) (bM_get (j := 0) rfl) i130_90 rfl rfl rfl (Nat.le_of_ble_eq_true rfl) t3 ?_
  refine gm_ev.if_ne_t (tgt := 98) i130_93 (by decide) c5 ?_
  refine gm_ev.aload_n i130_98 rfl ?_
  refine gm_ev.getfield (v := .ref (B + 6)) i130_99 rfl (bM_fld (j := 0) (fs := mF B s4) rfl rfl) ?_
  refine gm_ev.iload_n i130_102 rfl ?_
  refine gm_ev.iconst (v := 4) i130_103 (by decide) ?_
  refine gm_ev.iload_n i130_104 rfl ?_
  refine gm_ev.imul i130_105 ?_
  refine gm_ev.iload i130_106 rfl ?_
  refine gm_ev.iadd i130_108 ?_
  refine gm_ev.iastore (M' := (bM B (mH B (mA s4 14 (upd (s4.2.1 14) k6 (((4 : Int32) * x2) + x4)))) G)) i130_109 (bM_asti (j := 6) (n := 144) (f := s4.2.1 14) rfl ek6 lk6 (by decide) hN rfl) ?_
  refine gm_ev.iload_n i130_110 rfl ?_
  refine gm_ev.if_lt_f i130_111 c7 ?_
  refine gm_ev.iload i130_114 rfl ?_
  refine gm_ev.iload_n i130_116 rfl ?_
  refine gm_ev.icmp_ne_t (tgt := 131) i130_117 (by decide) c8 ?_
  refine gm_ev.iload i130_131 rfl ?_
  refine gm_ev.iload_n i130_133 rfl ?_
  refine gm_ev.if_ge_f i130_134 c9 ?_
  refine gm_ev.iconst (v := 3) i130_137 (by decide) ?_
  refine gm_ev.goto (tgt := 142) i130_138 (by decide) ?_
  refine gm_ev.icmp_eq_f i130_142 c10 ?_
  refine gm_ev.aload_n i130_145 rfl ?_
  refine gm_ev.bipush (v := 44) i130_146 (by decide) ?_
  refine gm_ev.callV gm_mono_run (av := [.int (44 : Int32)]) (r := []) (ci := 11) (fs := mF B (mA s4 14 (upd (s4.2.1 14) k6 (((4 : Int32) * x2) + x4)))) (bM_get (j := 0) rfl) i130_148 rfl rfl rfl (Nat.le_of_ble_eq_true rfl) t12 ?_
  refine gm_ev.if_ne_t (tgt := 156) i130_151 (by decide) c14 ?_
  refine gm_ev.iinc (v := x4 + (1 : Int32)) (ls' := [some (.ref B), some (.int x1), some (.int x2), some (.int x3), some (.int (x4 + (1 : Int32)))]) i130_156 rfl (by rfl) rfl ?_
  refine gm_ev.goto (tgt := 75) i130_159 (by decide) ?_
  exact k
theorem r_atom_75_ftftfff {N0 : Nat} {K : Nat → Nat} {d B : Nat} {s : mS} {G : gm_H} {sz sl : Nat} {x1 : Int32} {x2 : Int32} {x3 : Int32} {x4 : Int32} {r2 : Int32} {s4 : mS} {k6 : Nat} {r11 : Int32} {s13 : mS} (hN : N0 ≤ B) (c1 : ¬ (3 : Int32) < x4) (t3 : gm_to N0 K ra_nm (ra_mt K) d 129 [.ref B, .int ((((3 : Int32) * x1) + x4) - (1 : Int32))] (bM B (mH B s) G) sz (.returned (some (.int r2)), bM B (mH B s4) G, sz, 0)) (c5 : ¬ r2 = 0) (ek6 : x1 = nI k6) (lk6 : k6 < 144) (c7 : ¬ x3 < 0) (c8 : ¬ x4 = x3) (c9 : ¬ 0 ≤ x3) (c10 : ¬ x4 = (3 : Int32)) (t12 : gm_to N0 K ra_nm (ra_mt K) d 128 [.ref B, .int (44 : Int32)] (bM B (mH B (mA s4 14 (upd (s4.2.1 14) k6 (((4 : Int32) * x2) + x4)))) G) sz (.returned (some (.int r11)), bM B (mH B s13) G, sz, 0)) (c14 : r11 = 0) : gm_ev N0 K ra_nm (ra_mt K) d (some .boolean) (gm_I cX12_atom) (gm_lkf (lkX12 false K)) 75 [some (.ref B), some (.int x1), some (.int x2), some (.int x3), some (.int x4)] [] (bM B (mH B s) G) sz sl (.returned (some (.int (0 : Int32))), (bM B (mH B s13) G), sz, sl) := by
  refine gm_ev.iload i130_75 rfl ?_
  refine gm_ev.iconst (v := 3) i130_77 (by decide) ?_
  refine gm_ev.icmp_gt_f i130_78 c1 ?_
  refine gm_ev.aload_n i130_81 rfl ?_
  refine gm_ev.iconst (v := 3) i130_82 (by decide) ?_
  refine gm_ev.iload_n i130_83 rfl ?_
  refine gm_ev.imul i130_84 ?_
  refine gm_ev.iload i130_85 rfl ?_
  refine gm_ev.iadd i130_87 ?_
  refine gm_ev.iconst (v := 1) i130_88 (by decide) ?_
  refine gm_ev.isub i130_89 ?_
  refine gm_ev.callV gm_mono_run (av := [.int ((((3 : Int32) * x1) + x4) - (1 : Int32))]) (r := []) (ci := 11) (fs := mF B s) (bM_get (j := 0) rfl) i130_90 rfl rfl rfl (Nat.le_of_ble_eq_true rfl) t3 ?_
  refine gm_ev.if_ne_t (tgt := 98) i130_93 (by decide) c5 ?_
  refine gm_ev.aload_n i130_98 rfl ?_
  refine gm_ev.getfield (v := .ref (B + 6)) i130_99 rfl (bM_fld (j := 0) (fs := mF B s4) rfl rfl) ?_
  refine gm_ev.iload_n i130_102 rfl ?_
  refine gm_ev.iconst (v := 4) i130_103 (by decide) ?_
  refine gm_ev.iload_n i130_104 rfl ?_
  refine gm_ev.imul i130_105 ?_
  refine gm_ev.iload i130_106 rfl ?_
  refine gm_ev.iadd i130_108 ?_
  refine gm_ev.iastore (M' := (bM B (mH B (mA s4 14 (upd (s4.2.1 14) k6 (((4 : Int32) * x2) + x4)))) G)) i130_109 (bM_asti (j := 6) (n := 144) (f := s4.2.1 14) rfl ek6 lk6 (by decide) hN rfl) ?_
  refine gm_ev.iload_n i130_110 rfl ?_
  refine gm_ev.if_lt_f i130_111 c7 ?_
  refine gm_ev.iload i130_114 rfl ?_
  refine gm_ev.iload_n i130_116 rfl ?_
  refine gm_ev.icmp_ne_t (tgt := 131) i130_117 (by decide) c8 ?_
  refine gm_ev.iload i130_131 rfl ?_
  refine gm_ev.iload_n i130_133 rfl ?_
  refine gm_ev.if_ge_f i130_134 c9 ?_
  refine gm_ev.iconst (v := 3) i130_137 (by decide) ?_
  refine gm_ev.goto (tgt := 142) i130_138 (by decide) ?_
  refine gm_ev.icmp_eq_f i130_142 c10 ?_
  refine gm_ev.aload_n i130_145 rfl ?_
  refine gm_ev.bipush (v := 44) i130_146 (by decide) ?_
  refine gm_ev.callV gm_mono_run (av := [.int (44 : Int32)]) (r := []) (ci := 11) (fs := mF B (mA s4 14 (upd (s4.2.1 14) k6 (((4 : Int32) * x2) + x4)))) (bM_get (j := 0) rfl) i130_148 rfl rfl rfl (Nat.le_of_ble_eq_true rfl) t12 ?_
  refine gm_ev.if_ne_f i130_151 c14 ?_
  refine gm_ev.iconst (v := 0) i130_154 (by decide) ?_
  exact gm_ev.zret i130_155 rfl (by decide)
theorem r_atom_75_ftffttt {N0 : Nat} {K : Nat → Nat} {d B : Nat} {s : mS} {G : gm_H} {sz sl : Nat} {x1 : Int32} {x2 : Int32} {x3 : Int32} {x4 : Int32} {r2 : Int32} {s4 : mS} {k6 : Nat} {r9 : Int32} {s11 : mS} (hN : N0 ≤ B) (c1 : ¬ (3 : Int32) < x4) (t3 : gm_to N0 K ra_nm (ra_mt K) d 129 [.ref B, .int ((((3 : Int32) * x1) + x4) - (1 : Int32))] (bM B (mH B s) G) sz (.returned (some (.int r2)), bM B (mH B s4) G, sz, 0)) (c5 : ¬ r2 = 0) (ek6 : x1 = nI k6) (lk6 : k6 < 144) (c7 : ¬ x3 < 0) (c8 : x4 = x3) (t10 : gm_to N0 K ra_nm (ra_mt K) d 128 [.ref B, .int (41 : Int32)] (bM B (mH B (mA s4 14 (upd (s4.2.1 14) k6 (((4 : Int32) * x2) + x4)))) G) sz (.returned (some (.int r9)), bM B (mH B s11) G, sz, 0)) (c12 : r9 = 0) (c13 : 0 ≤ x3) (c14 : x4 = x3) : gm_ev N0 K ra_nm (ra_mt K) d (some .boolean) (gm_I cX12_atom) (gm_lkf (lkX12 false K)) 75 [some (.ref B), some (.int x1), some (.int x2), some (.int x3), some (.int x4)] [] (bM B (mH B s) G) sz sl (.returned (some (.int (0 : Int32))), (bM B (mH B s11) G), sz, sl) := by
  refine gm_ev.iload i130_75 rfl ?_
  refine gm_ev.iconst (v := 3) i130_77 (by decide) ?_
  refine gm_ev.icmp_gt_f i130_78 c1 ?_
  refine gm_ev.aload_n i130_81 rfl ?_
  refine gm_ev.iconst (v := 3) i130_82 (by decide) ?_
  refine gm_ev.iload_n i130_83 rfl ?_
  refine gm_ev.imul i130_84 ?_
  refine gm_ev.iload i130_85 rfl ?_
  refine gm_ev.iadd i130_87 ?_
  refine gm_ev.iconst (v := 1) i130_88 (by decide) ?_
  refine gm_ev.isub i130_89 ?_
  refine gm_ev.callV gm_mono_run (av := [.int ((((3 : Int32) * x1) + x4) - (1 : Int32))]) (r := []) (ci := 11) (fs := mF B s) (bM_get (j := 0) rfl) i130_90 rfl rfl rfl (Nat.le_of_ble_eq_true rfl) t3 ?_
  refine gm_ev.if_ne_t (tgt := 98) i130_93 (by decide) c5 ?_
  refine gm_ev.aload_n i130_98 rfl ?_
  refine gm_ev.getfield (v := .ref (B + 6)) i130_99 rfl (bM_fld (j := 0) (fs := mF B s4) rfl rfl) ?_
  refine gm_ev.iload_n i130_102 rfl ?_
  refine gm_ev.iconst (v := 4) i130_103 (by decide) ?_
  refine gm_ev.iload_n i130_104 rfl ?_
  refine gm_ev.imul i130_105 ?_
  refine gm_ev.iload i130_106 rfl ?_
  refine gm_ev.iadd i130_108 ?_
  refine gm_ev.iastore (M' := (bM B (mH B (mA s4 14 (upd (s4.2.1 14) k6 (((4 : Int32) * x2) + x4)))) G)) i130_109 (bM_asti (j := 6) (n := 144) (f := s4.2.1 14) rfl ek6 lk6 (by decide) hN rfl) ?_
  refine gm_ev.iload_n i130_110 rfl ?_
  refine gm_ev.if_lt_f i130_111 c7 ?_
  refine gm_ev.iload i130_114 rfl ?_
  refine gm_ev.iload_n i130_116 rfl ?_
  refine gm_ev.icmp_ne_f i130_117 c8 ?_
  refine gm_ev.aload_n i130_120 rfl ?_
  refine gm_ev.bipush (v := 41) i130_121 (by decide) ?_
  refine gm_ev.callV gm_mono_run (av := [.int (41 : Int32)]) (r := []) (ci := 11) (fs := mF B (mA s4 14 (upd (s4.2.1 14) k6 (((4 : Int32) * x2) + x4)))) (bM_get (j := 0) rfl) i130_123 rfl rfl rfl (Nat.le_of_ble_eq_true rfl) t10 ?_
  refine gm_ev.if_eq_t (tgt := 131) i130_126 (by decide) c12 ?_
  refine gm_ev.iload i130_131 rfl ?_
  refine gm_ev.iload_n i130_133 rfl ?_
  refine gm_ev.if_ge_t (tgt := 141) i130_134 (by decide) c13 ?_
  refine gm_ev.iload_n i130_141 rfl ?_
  refine gm_ev.icmp_eq_t (tgt := 154) i130_142 (by decide) c14 ?_
  refine gm_ev.iconst (v := 0) i130_154 (by decide) ?_
  exact gm_ev.zret i130_155 rfl (by decide)
theorem r_atom_75_ftffttft_at75 {N0 : Nat} {K : Nat → Nat} {d B : Nat} {s : mS} {G : gm_H} {sz sl : Nat} {R : gm_R} {x1 : Int32} {x2 : Int32} {x3 : Int32} {x4 : Int32} {r2 : Int32} {s4 : mS} {k6 : Nat} {r9 : Int32} {s11 : mS} {r15 : Int32} {s17 : mS} (hN : N0 ≤ B) (c1 : ¬ (3 : Int32) < x4) (t3 : gm_to N0 K ra_nm (ra_mt K) d 129 [.ref B, .int ((((3 : Int32) * x1) + x4) - (1 : Int32))] (bM B (mH B s) G) sz (.returned (some (.int r2)), bM B (mH B s4) G, sz, 0)) (c5 : ¬ r2 = 0) (ek6 : x1 = nI k6) (lk6 : k6 < 144) (c7 : ¬ x3 < 0) (c8 : x4 = x3) (t10 : gm_to N0 K ra_nm (ra_mt K) d 128 [.ref B, .int (41 : Int32)] (bM B (mH B (mA s4 14 (upd (s4.2.1 14) k6 (((4 : Int32) * x2) + x4)))) G) sz (.returned (some (.int r9)), bM B (mH B s11) G, sz, 0)) (c12 : r9 = 0) (c13 : 0 ≤ x3) (c14 : ¬ x4 = x3) (t16 : gm_to N0 K ra_nm (ra_mt K) d 128 [.ref B, .int (44 : Int32)] (bM B (mH B s11) G) sz (.returned (some (.int r15)), bM B (mH B s17) G, sz, 0)) (c18 : ¬ r15 = 0) (k : gm_ev N0 K ra_nm (ra_mt K) d (some .boolean) (gm_I cX12_atom) (gm_lkf (lkX12 false K)) 75 [some (.ref B), some (.int x1), some (.int x2), some (.int x3), some (.int (x4 + (1 : Int32)))] [] (bM B (mH B s17) G) sz sl R) : gm_ev N0 K ra_nm (ra_mt K) d (some .boolean) (gm_I cX12_atom) (gm_lkf (lkX12 false K)) 75 [some (.ref B), some (.int x1), some (.int x2), some (.int x3), some (.int x4)] [] (bM B (mH B s) G) sz sl R := by
  refine gm_ev.iload i130_75 rfl ?_
  refine gm_ev.iconst (v := 3) i130_77 (by decide) ?_
  refine gm_ev.icmp_gt_f i130_78 c1 ?_
  refine gm_ev.aload_n i130_81 rfl ?_
  refine gm_ev.iconst (v := 3) i130_82 (by decide) ?_
  refine gm_ev.iload_n i130_83 rfl ?_
  refine gm_ev.imul i130_84 ?_
  refine gm_ev.iload i130_85 rfl ?_
  refine gm_ev.iadd i130_87 ?_
  refine gm_ev.iconst (v := 1) i130_88 (by decide) ?_
  refine gm_ev.isub i130_89 ?_
  refine gm_ev.callV gm_mono_run (av := [.int ((((3 : Int32) * x1) + x4) - (1 : Int32))]) (r := []) (ci := 11) (fs := mF B s) (bM_get (j := 0) rfl) i130_90 rfl rfl rfl (Nat.le_of_ble_eq_true rfl) t3 ?_
  refine gm_ev.if_ne_t (tgt := 98) i130_93 (by decide) c5 ?_
  refine gm_ev.aload_n i130_98 rfl ?_
  refine gm_ev.getfield (v := .ref (B + 6)) i130_99 rfl (bM_fld (j := 0) (fs := mF B s4) rfl rfl) ?_
  refine gm_ev.iload_n i130_102 rfl ?_
  refine gm_ev.iconst (v := 4) i130_103 (by decide) ?_
  refine gm_ev.iload_n i130_104 rfl ?_
  refine gm_ev.imul i130_105 ?_
  refine gm_ev.iload i130_106 rfl ?_
  refine gm_ev.iadd i130_108 ?_
  refine gm_ev.iastore (M' := (bM B (mH B (mA s4 14 (upd (s4.2.1 14) k6 (((4 : Int32) * x2) + x4)))) G)) i130_109 (bM_asti (j := 6) (n := 144) (f := s4.2.1 14) rfl ek6 lk6 (by decide) hN rfl) ?_
  refine gm_ev.iload_n i130_110 rfl ?_
  refine gm_ev.if_lt_f i130_111 c7 ?_
  refine gm_ev.iload i130_114 rfl ?_
  refine gm_ev.iload_n i130_116 rfl ?_
  refine gm_ev.icmp_ne_f i130_117 c8 ?_
  refine gm_ev.aload_n i130_120 rfl ?_
  refine gm_ev.bipush (v := 41) i130_121 (by decide) ?_
  refine gm_ev.callV gm_mono_run (av := [.int (41 : Int32)]) (r := []) (ci := 11) (fs := mF B (mA s4 14 (upd (s4.2.1 14) k6 (((4 : Int32) * x2) + x4)))) (bM_get (j := 0) rfl) i130_123 rfl rfl rfl (Nat.le_of_ble_eq_true rfl) t10 ?_
  refine gm_ev.if_eq_t (tgt := 131) i130_126 (by decide) c12 ?_
  refine gm_ev.iload i130_131 rfl ?_
  refine gm_ev.iload_n i130_133 rfl ?_
  refine gm_ev.if_ge_t (tgt := 141) i130_134 (by decide) c13 ?_
  refine gm_ev.iload_n i130_141 rfl ?_
  refine gm_ev.icmp_eq_f i130_142 c14 ?_
  refine gm_ev.aload_n i130_145 rfl ?_
  refine gm_ev.bipush (v := 44) i130_146 (by decide) ?_
  refine gm_ev.callV gm_mono_run (av := [.int (44 : Int32)]) (r := []) (ci := 11) (fs := mF B s11) (bM_get (j := 0) rfl) i130_148 rfl rfl rfl (Nat.le_of_ble_eq_true rfl) t16 ?_
  refine gm_ev.if_ne_t (tgt := 156) i130_151 (by decide) c18 ?_
  refine gm_ev.iinc (v := x4 + (1 : Int32)) (ls' := [some (.ref B), some (.int x1), some (.int x2), some (.int x3), some (.int (x4 + (1 : Int32)))]) i130_156 rfl (by rfl) rfl ?_
  refine gm_ev.goto (tgt := 75) i130_159 (by decide) ?_
  exact k
theorem r_atom_75_ftffttff {N0 : Nat} {K : Nat → Nat} {d B : Nat} {s : mS} {G : gm_H} {sz sl : Nat} {x1 : Int32} {x2 : Int32} {x3 : Int32} {x4 : Int32} {r2 : Int32} {s4 : mS} {k6 : Nat} {r9 : Int32} {s11 : mS} {r15 : Int32} {s17 : mS} (hN : N0 ≤ B) (c1 : ¬ (3 : Int32) < x4) (t3 : gm_to N0 K ra_nm (ra_mt K) d 129 [.ref B, .int ((((3 : Int32) * x1) + x4) - (1 : Int32))] (bM B (mH B s) G) sz (.returned (some (.int r2)), bM B (mH B s4) G, sz, 0)) (c5 : ¬ r2 = 0) (ek6 : x1 = nI k6) (lk6 : k6 < 144) (c7 : ¬ x3 < 0) (c8 : x4 = x3) (t10 : gm_to N0 K ra_nm (ra_mt K) d 128 [.ref B, .int (41 : Int32)] (bM B (mH B (mA s4 14 (upd (s4.2.1 14) k6 (((4 : Int32) * x2) + x4)))) G) sz (.returned (some (.int r9)), bM B (mH B s11) G, sz, 0)) (c12 : r9 = 0) (c13 : 0 ≤ x3) (c14 : ¬ x4 = x3) (t16 : gm_to N0 K ra_nm (ra_mt K) d 128 [.ref B, .int (44 : Int32)] (bM B (mH B s11) G) sz (.returned (some (.int r15)), bM B (mH B s17) G, sz, 0)) (c18 : r15 = 0) : gm_ev N0 K ra_nm (ra_mt K) d (some .boolean) (gm_I cX12_atom) (gm_lkf (lkX12 false K)) 75 [some (.ref B), some (.int x1), some (.int x2), some (.int x3), some (.int x4)] [] (bM B (mH B s) G) sz sl (.returned (some (.int (0 : Int32))), (bM B (mH B s17) G), sz, sl) := by
  refine gm_ev.iload i130_75 rfl ?_
  refine gm_ev.iconst (v := 3) i130_77 (by decide) ?_
  refine gm_ev.icmp_gt_f i130_78 c1 ?_
  refine gm_ev.aload_n i130_81 rfl ?_
  refine gm_ev.iconst (v := 3) i130_82 (by decide) ?_
  refine gm_ev.iload_n i130_83 rfl ?_
  refine gm_ev.imul i130_84 ?_
  refine gm_ev.iload i130_85 rfl ?_
  refine gm_ev.iadd i130_87 ?_
  refine gm_ev.iconst (v := 1) i130_88 (by decide) ?_
  refine gm_ev.isub i130_89 ?_
  refine gm_ev.callV gm_mono_run (av := [.int ((((3 : Int32) * x1) + x4) - (1 : Int32))]) (r := []) (ci := 11) (fs := mF B s) (bM_get (j := 0) rfl) i130_90 rfl rfl rfl (Nat.le_of_ble_eq_true rfl) t3 ?_
  refine gm_ev.if_ne_t (tgt := 98) i130_93 (by decide) c5 ?_
  refine gm_ev.aload_n i130_98 rfl ?_
  refine gm_ev.getfield (v := .ref (B + 6)) i130_99 rfl (bM_fld (j := 0) (fs := mF B s4) rfl rfl) ?_
  refine gm_ev.iload_n i130_102 rfl ?_
  refine gm_ev.iconst (v := 4) i130_103 (by decide) ?_
  refine gm_ev.iload_n i130_104 rfl ?_
  refine gm_ev.imul i130_105 ?_
  refine gm_ev.iload i130_106 rfl ?_
  refine gm_ev.iadd i130_108 ?_
  refine gm_ev.iastore (M' := (bM B (mH B (mA s4 14 (upd (s4.2.1 14) k6 (((4 : Int32) * x2) + x4)))) G)) i130_109 (bM_asti (j := 6) (n := 144) (f := s4.2.1 14) rfl ek6 lk6 (by decide) hN rfl) ?_
  refine gm_ev.iload_n i130_110 rfl ?_
  refine gm_ev.if_lt_f i130_111 c7 ?_
  refine gm_ev.iload i130_114 rfl ?_
  refine gm_ev.iload_n i130_116 rfl ?_
  refine gm_ev.icmp_ne_f i130_117 c8 ?_
  refine gm_ev.aload_n i130_120 rfl ?_
  refine gm_ev.bipush (v := 41) i130_121 (by decide) ?_
  refine gm_ev.callV gm_mono_run (av := [.int (41 : Int32)]) (r := []) (ci := 11) (fs := mF B (mA s4 14 (upd (s4.2.1 14) k6 (((4 : Int32) * x2) + x4)))) (bM_get (j := 0) rfl) i130_123 rfl rfl rfl (Nat.le_of_ble_eq_true rfl) t10 ?_
  refine gm_ev.if_eq_t (tgt := 131) i130_126 (by decide) c12 ?_
  refine gm_ev.iload i130_131 rfl ?_
  refine gm_ev.iload_n i130_133 rfl ?_
  refine gm_ev.if_ge_t (tgt := 141) i130_134 (by decide) c13 ?_
  refine gm_ev.iload_n i130_141 rfl ?_
  refine gm_ev.icmp_eq_f i130_142 c14 ?_
  refine gm_ev.aload_n i130_145 rfl ?_
  refine gm_ev.bipush (v := 44) i130_146 (by decide) ?_
  refine gm_ev.callV gm_mono_run (av := [.int (44 : Int32)]) (r := []) (ci := 11) (fs := mF B s11) (bM_get (j := 0) rfl) i130_148 rfl rfl rfl (Nat.le_of_ble_eq_true rfl) t16 ?_
  refine gm_ev.if_ne_f i130_151 c18 ?_
  refine gm_ev.iconst (v := 0) i130_154 (by decide) ?_
  exact gm_ev.zret i130_155 rfl (by decide)
theorem r_atom_75_ftfftft {N0 : Nat} {K : Nat → Nat} {d B : Nat} {s : mS} {G : gm_H} {sz sl : Nat} {x1 : Int32} {x2 : Int32} {x3 : Int32} {x4 : Int32} {r2 : Int32} {s4 : mS} {k6 : Nat} {r9 : Int32} {s11 : mS} (hN : N0 ≤ B) (c1 : ¬ (3 : Int32) < x4) (t3 : gm_to N0 K ra_nm (ra_mt K) d 129 [.ref B, .int ((((3 : Int32) * x1) + x4) - (1 : Int32))] (bM B (mH B s) G) sz (.returned (some (.int r2)), bM B (mH B s4) G, sz, 0)) (c5 : ¬ r2 = 0) (ek6 : x1 = nI k6) (lk6 : k6 < 144) (c7 : ¬ x3 < 0) (c8 : x4 = x3) (t10 : gm_to N0 K ra_nm (ra_mt K) d 128 [.ref B, .int (41 : Int32)] (bM B (mH B (mA s4 14 (upd (s4.2.1 14) k6 (((4 : Int32) * x2) + x4)))) G) sz (.returned (some (.int r9)), bM B (mH B s11) G, sz, 0)) (c12 : r9 = 0) (c13 : ¬ 0 ≤ x3) (c14 : x4 = (3 : Int32)) : gm_ev N0 K ra_nm (ra_mt K) d (some .boolean) (gm_I cX12_atom) (gm_lkf (lkX12 false K)) 75 [some (.ref B), some (.int x1), some (.int x2), some (.int x3), some (.int x4)] [] (bM B (mH B s) G) sz sl (.returned (some (.int (0 : Int32))), (bM B (mH B s11) G), sz, sl) := by
  refine gm_ev.iload i130_75 rfl ?_
  refine gm_ev.iconst (v := 3) i130_77 (by decide) ?_
  refine gm_ev.icmp_gt_f i130_78 c1 ?_
  refine gm_ev.aload_n i130_81 rfl ?_
  refine gm_ev.iconst (v := 3) i130_82 (by decide) ?_
  refine gm_ev.iload_n i130_83 rfl ?_
  refine gm_ev.imul i130_84 ?_
  refine gm_ev.iload i130_85 rfl ?_
  refine gm_ev.iadd i130_87 ?_
  refine gm_ev.iconst (v := 1) i130_88 (by decide) ?_
  refine gm_ev.isub i130_89 ?_
  refine gm_ev.callV gm_mono_run (av := [.int ((((3 : Int32) * x1) + x4) - (1 : Int32))]) (r := []) (ci := 11) (fs := mF B s) (bM_get (j := 0) rfl) i130_90 rfl rfl rfl (Nat.le_of_ble_eq_true rfl) t3 ?_
  refine gm_ev.if_ne_t (tgt := 98) i130_93 (by decide) c5 ?_
  refine gm_ev.aload_n i130_98 rfl ?_
  refine gm_ev.getfield (v := .ref (B + 6)) i130_99 rfl (bM_fld (j := 0) (fs := mF B s4) rfl rfl) ?_
  refine gm_ev.iload_n i130_102 rfl ?_
  refine gm_ev.iconst (v := 4) i130_103 (by decide) ?_
  refine gm_ev.iload_n i130_104 rfl ?_
  refine gm_ev.imul i130_105 ?_
  refine gm_ev.iload i130_106 rfl ?_
  refine gm_ev.iadd i130_108 ?_
  refine gm_ev.iastore (M' := (bM B (mH B (mA s4 14 (upd (s4.2.1 14) k6 (((4 : Int32) * x2) + x4)))) G)) i130_109 (bM_asti (j := 6) (n := 144) (f := s4.2.1 14) rfl ek6 lk6 (by decide) hN rfl) ?_
  refine gm_ev.iload_n i130_110 rfl ?_
  refine gm_ev.if_lt_f i130_111 c7 ?_
  refine gm_ev.iload i130_114 rfl ?_
  refine gm_ev.iload_n i130_116 rfl ?_
  refine gm_ev.icmp_ne_f i130_117 c8 ?_
  refine gm_ev.aload_n i130_120 rfl ?_
  refine gm_ev.bipush (v := 41) i130_121 (by decide) ?_
  refine gm_ev.callV gm_mono_run (av := [.int (41 : Int32)]) (r := []) (ci := 11) (fs := mF B (mA s4 14 (upd (s4.2.1 14) k6 (((4 : Int32) * x2) + x4)))) (bM_get (j := 0) rfl) i130_123 rfl rfl rfl (Nat.le_of_ble_eq_true rfl) t10 ?_
  refine gm_ev.if_eq_t (tgt := 131) i130_126 (by decide) c12 ?_
  refine gm_ev.iload i130_131 rfl ?_
  refine gm_ev.iload_n i130_133 rfl ?_
  refine gm_ev.if_ge_f i130_134 c13 ?_
  refine gm_ev.iconst (v := 3) i130_137 (by decide) ?_
  refine gm_ev.goto (tgt := 142) i130_138 (by decide) ?_
  refine gm_ev.icmp_eq_t (tgt := 154) i130_142 (by decide) c14 ?_
  refine gm_ev.iconst (v := 0) i130_154 (by decide) ?_
  exact gm_ev.zret i130_155 rfl (by decide)
theorem r_atom_75_ftfftfft_at75 {N0 : Nat} {K : Nat → Nat} {d B : Nat} {s : mS} {G : gm_H} {sz sl : Nat} {R : gm_R} {x1 : Int32} {x2 : Int32} {x3 : Int32} {x4 : Int32} {r2 : Int32} {s4 : mS} {k6 : Nat} {r9 : Int32} {s11 : mS} {r15 : Int32} {s17 : mS} (hN : N0 ≤ B) (c1 : ¬ (3 : Int32) < x4) (t3 : gm_to N0 K ra_nm (ra_mt K) d 129 [.ref B, .int ((((3 : Int32) * x1) + x4) - (1 : Int32))] (bM B (mH B s) G) sz (.returned (some (.int r2)), bM B (mH B s4) G, sz, 0)) (c5 : ¬ r2 = 0) (ek6 : x1 = nI k6) (lk6 : k6 < 144) (c7 : ¬ x3 < 0) (c8 : x4 = x3) (t10 : gm_to N0 K ra_nm (ra_mt K) d 128 [.ref B, .int (41 : Int32)] (bM B (mH B (mA s4 14 (upd (s4.2.1 14) k6 (((4 : Int32) * x2) + x4)))) G) sz (.returned (some (.int r9)), bM B (mH B s11) G, sz, 0)) (c12 : r9 = 0) (c13 : ¬ 0 ≤ x3) (c14 : ¬ x4 = (3 : Int32)) (t16 : gm_to N0 K ra_nm (ra_mt K) d 128 [.ref B, .int (44 : Int32)] (bM B (mH B s11) G) sz (.returned (some (.int r15)), bM B (mH B s17) G, sz, 0)) (c18 : ¬ r15 = 0) (k : gm_ev N0 K ra_nm (ra_mt K) d (some .boolean) (gm_I cX12_atom) (gm_lkf (lkX12 false K)) 75 [some (.ref B), some (.int x1), some (.int x2), some (.int x3), some (.int (x4 + (1 : Int32)))] [] (bM B (mH B s17) G) sz sl R) : gm_ev N0 K ra_nm (ra_mt K) d (some .boolean) (gm_I cX12_atom) (gm_lkf (lkX12 false K)) 75 [some (.ref B), some (.int x1), some (.int x2), some (.int x3), some (.int x4)] [] (bM B (mH B s) G) sz sl R := by
  refine gm_ev.iload i130_75 rfl ?_
  refine gm_ev.iconst (v := 3) i130_77 (by decide) ?_
  refine gm_ev.icmp_gt_f i130_78 c1 ?_
  refine gm_ev.aload_n i130_81 rfl ?_
  refine gm_ev.iconst (v := 3) i130_82 (by decide) ?_
  refine gm_ev.iload_n i130_83 rfl ?_
  refine gm_ev.imul i130_84 ?_
  refine gm_ev.iload i130_85 rfl ?_
  refine gm_ev.iadd i130_87 ?_
  refine gm_ev.iconst (v := 1) i130_88 (by decide) ?_
  refine gm_ev.isub i130_89 ?_
  refine gm_ev.callV gm_mono_run (av := [.int ((((3 : Int32) * x1) + x4) - (1 : Int32))]) (r := []) (ci := 11) (fs := mF B s) (bM_get (j := 0) rfl) i130_90 rfl rfl rfl (Nat.le_of_ble_eq_true rfl) t3 ?_
  refine gm_ev.if_ne_t (tgt := 98) i130_93 (by decide) c5 ?_
  refine gm_ev.aload_n i130_98 rfl ?_
  refine gm_ev.getfield (v := .ref (B + 6)) i130_99 rfl (bM_fld (j := 0) (fs := mF B s4) rfl rfl) ?_
  refine gm_ev.iload_n i130_102 rfl ?_
  refine gm_ev.iconst (v := 4) i130_103 (by decide) ?_
  refine gm_ev.iload_n i130_104 rfl ?_
  refine gm_ev.imul i130_105 ?_
  refine gm_ev.iload i130_106 rfl ?_
  refine gm_ev.iadd i130_108 ?_
  refine gm_ev.iastore (M' := (bM B (mH B (mA s4 14 (upd (s4.2.1 14) k6 (((4 : Int32) * x2) + x4)))) G)) i130_109 (bM_asti (j := 6) (n := 144) (f := s4.2.1 14) rfl ek6 lk6 (by decide) hN rfl) ?_
  refine gm_ev.iload_n i130_110 rfl ?_
  refine gm_ev.if_lt_f i130_111 c7 ?_
  refine gm_ev.iload i130_114 rfl ?_
  refine gm_ev.iload_n i130_116 rfl ?_
  refine gm_ev.icmp_ne_f i130_117 c8 ?_
  refine gm_ev.aload_n i130_120 rfl ?_
  refine gm_ev.bipush (v := 41) i130_121 (by decide) ?_
  refine gm_ev.callV gm_mono_run (av := [.int (41 : Int32)]) (r := []) (ci := 11) (fs := mF B (mA s4 14 (upd (s4.2.1 14) k6 (((4 : Int32) * x2) + x4)))) (bM_get (j := 0) rfl) i130_123 rfl rfl rfl (Nat.le_of_ble_eq_true rfl) t10 ?_
  refine gm_ev.if_eq_t (tgt := 131) i130_126 (by decide) c12 ?_
  refine gm_ev.iload i130_131 rfl ?_
  refine gm_ev.iload_n i130_133 rfl ?_
  refine gm_ev.if_ge_f i130_134 c13 ?_
  refine gm_ev.iconst (v := 3) i130_137 (by decide) ?_
  refine gm_ev.goto (tgt := 142) i130_138 (by decide) ?_
  refine gm_ev.icmp_eq_f i130_142 c14 ?_
  refine gm_ev.aload_n i130_145 rfl ?_
  refine gm_ev.bipush (v := 44) i130_146 (by decide) ?_
  refine gm_ev.callV gm_mono_run (av := [.int (44 : Int32)]) (r := []) (ci := 11) (fs := mF B s11) (bM_get (j := 0) rfl) i130_148 rfl rfl rfl (Nat.le_of_ble_eq_true rfl) t16 ?_
  refine gm_ev.if_ne_t (tgt := 156) i130_151 (by decide) c18 ?_
  refine gm_ev.iinc (v := x4 + (1 : Int32)) (ls' := [some (.ref B), some (.int x1), some (.int x2), some (.int x3), some (.int (x4 + (1 : Int32)))]) i130_156 rfl (by rfl) rfl ?_
  refine gm_ev.goto (tgt := 75) i130_159 (by decide) ?_
  exact k
theorem r_atom_75_ftfftfff {N0 : Nat} {K : Nat → Nat} {d B : Nat} {s : mS} {G : gm_H} {sz sl : Nat} {x1 : Int32} {x2 : Int32} {x3 : Int32} {x4 : Int32} {r2 : Int32} {s4 : mS} {k6 : Nat} {r9 : Int32} {s11 : mS} {r15 : Int32} {s17 : mS} (hN : N0 ≤ B) (c1 : ¬ (3 : Int32) < x4) (t3 : gm_to N0 K ra_nm (ra_mt K) d 129 [.ref B, .int ((((3 : Int32) * x1) + x4) - (1 : Int32))] (bM B (mH B s) G) sz (.returned (some (.int r2)), bM B (mH B s4) G, sz, 0)) (c5 : ¬ r2 = 0) (ek6 : x1 = nI k6) (lk6 : k6 < 144) (c7 : ¬ x3 < 0) (c8 : x4 = x3) (t10 : gm_to N0 K ra_nm (ra_mt K) d 128 [.ref B, .int (41 : Int32)] (bM B (mH B (mA s4 14 (upd (s4.2.1 14) k6 (((4 : Int32) * x2) + x4)))) G) sz (.returned (some (.int r9)), bM B (mH B s11) G, sz, 0)) (c12 : r9 = 0) (c13 : ¬ 0 ≤ x3) (c14 : ¬ x4 = (3 : Int32)) (t16 : gm_to N0 K ra_nm (ra_mt K) d 128 [.ref B, .int (44 : Int32)] (bM B (mH B s11) G) sz (.returned (some (.int r15)), bM B (mH B s17) G, sz, 0)) (c18 : r15 = 0) : gm_ev N0 K ra_nm (ra_mt K) d (some .boolean) (gm_I cX12_atom) (gm_lkf (lkX12 false K)) 75 [some (.ref B), some (.int x1), some (.int x2), some (.int x3), some (.int x4)] [] (bM B (mH B s) G) sz sl (.returned (some (.int (0 : Int32))), (bM B (mH B s17) G), sz, sl) := by
  refine gm_ev.iload i130_75 rfl ?_
  refine gm_ev.iconst (v := 3) i130_77 (by decide) ?_
  refine gm_ev.icmp_gt_f i130_78 c1 ?_
  refine gm_ev.aload_n i130_81 rfl ?_
  refine gm_ev.iconst (v := 3) i130_82 (by decide) ?_
  refine gm_ev.iload_n i130_83 rfl ?_
  refine gm_ev.imul i130_84 ?_
  refine gm_ev.iload i130_85 rfl ?_
  refine gm_ev.iadd i130_87 ?_
  refine gm_ev.iconst (v := 1) i130_88 (by decide) ?_
  refine gm_ev.isub i130_89 ?_
  refine gm_ev.callV gm_mono_run (av := [.int ((((3 : Int32) * x1) + x4) - (1 : Int32))]) (r := []) (ci := 11) (fs := mF B s) (bM_get (j := 0) rfl) i130_90 rfl rfl rfl (Nat.le_of_ble_eq_true rfl) t3 ?_
  refine gm_ev.if_ne_t (tgt := 98) i130_93 (by decide) c5 ?_
  refine gm_ev.aload_n i130_98 rfl ?_
  refine gm_ev.getfield (v := .ref (B + 6)) i130_99 rfl (bM_fld (j := 0) (fs := mF B s4) rfl rfl) ?_
  refine gm_ev.iload_n i130_102 rfl ?_
  refine gm_ev.iconst (v := 4) i130_103 (by decide) ?_
  refine gm_ev.iload_n i130_104 rfl ?_
  refine gm_ev.imul i130_105 ?_
  refine gm_ev.iload i130_106 rfl ?_
  refine gm_ev.iadd i130_108 ?_
  refine gm_ev.iastore (M' := (bM B (mH B (mA s4 14 (upd (s4.2.1 14) k6 (((4 : Int32) * x2) + x4)))) G)) i130_109 (bM_asti (j := 6) (n := 144) (f := s4.2.1 14) rfl ek6 lk6 (by decide) hN rfl) ?_
  refine gm_ev.iload_n i130_110 rfl ?_
  refine gm_ev.if_lt_f i130_111 c7 ?_
  refine gm_ev.iload i130_114 rfl ?_
  refine gm_ev.iload_n i130_116 rfl ?_
  refine gm_ev.icmp_ne_f i130_117 c8 ?_
  refine gm_ev.aload_n i130_120 rfl ?_
  refine gm_ev.bipush (v := 41) i130_121 (by decide) ?_
  refine gm_ev.callV gm_mono_run (av := [.int (41 : Int32)]) (r := []) (ci := 11) (fs := mF B (mA s4 14 (upd (s4.2.1 14) k6 (((4 : Int32) * x2) + x4)))) (bM_get (j := 0) rfl) i130_123 rfl rfl rfl (Nat.le_of_ble_eq_true rfl) t10 ?_
  refine gm_ev.if_eq_t (tgt := 131) i130_126 (by decide) c12 ?_
  refine gm_ev.iload i130_131 rfl ?_
  refine gm_ev.iload_n i130_133 rfl ?_
  refine gm_ev.if_ge_f i130_134 c13 ?_
  refine gm_ev.iconst (v := 3) i130_137 (by decide) ?_
  refine gm_ev.goto (tgt := 142) i130_138 (by decide) ?_
  refine gm_ev.icmp_eq_f i130_142 c14 ?_
  refine gm_ev.aload_n i130_145 rfl ?_
  refine gm_ev.bipush (v := 44) i130_146 (by decide) ?_
  refine gm_ev.callV gm_mono_run (av := [.int (44 : Int32)]) (r := []) (ci := 11) (fs := mF B s11) (bM_get (j := 0) rfl) i130_148 rfl rfl rfl (Nat.le_of_ble_eq_true rfl) t16 ?_
  refine gm_ev.if_ne_f i130_151 c18 ?_
  refine gm_ev.iconst (v := 0) i130_154 (by decide) ?_
  exact gm_ev.zret i130_155 rfl (by decide)
theorem r_atom_75_ftfff {N0 : Nat} {K : Nat → Nat} {d B : Nat} {s : mS} {G : gm_H} {sz sl : Nat} {x1 : Int32} {x2 : Int32} {x3 : Int32} {x4 : Int32} {r2 : Int32} {s4 : mS} {k6 : Nat} {r9 : Int32} {s11 : mS} (hN : N0 ≤ B) (c1 : ¬ (3 : Int32) < x4) (t3 : gm_to N0 K ra_nm (ra_mt K) d 129 [.ref B, .int ((((3 : Int32) * x1) + x4) - (1 : Int32))] (bM B (mH B s) G) sz (.returned (some (.int r2)), bM B (mH B s4) G, sz, 0)) (c5 : ¬ r2 = 0) (ek6 : x1 = nI k6) (lk6 : k6 < 144) (c7 : ¬ x3 < 0) (c8 : x4 = x3) (t10 : gm_to N0 K ra_nm (ra_mt K) d 128 [.ref B, .int (41 : Int32)] (bM B (mH B (mA s4 14 (upd (s4.2.1 14) k6 (((4 : Int32) * x2) + x4)))) G) sz (.returned (some (.int r9)), bM B (mH B s11) G, sz, 0)) (c12 : ¬ r9 = 0) : gm_ev N0 K ra_nm (ra_mt K) d (some .boolean) (gm_I cX12_atom) (gm_lkf (lkX12 false K)) 75 [some (.ref B), some (.int x1), some (.int x2), some (.int x3), some (.int x4)] [] (bM B (mH B s) G) sz sl (.returned (some (.int (1 : Int32))), (bM B (mH B s11) G), sz, sl) := by
  refine gm_ev.iload i130_75 rfl ?_
  refine gm_ev.iconst (v := 3) i130_77 (by decide) ?_
  refine gm_ev.icmp_gt_f i130_78 c1 ?_
  refine gm_ev.aload_n i130_81 rfl ?_
  refine gm_ev.iconst (v := 3) i130_82 (by decide) ?_
  refine gm_ev.iload_n i130_83 rfl ?_
  refine gm_ev.imul i130_84 ?_
  refine gm_ev.iload i130_85 rfl ?_
  refine gm_ev.iadd i130_87 ?_
  refine gm_ev.iconst (v := 1) i130_88 (by decide) ?_
  refine gm_ev.isub i130_89 ?_
  refine gm_ev.callV gm_mono_run (av := [.int ((((3 : Int32) * x1) + x4) - (1 : Int32))]) (r := []) (ci := 11) (fs := mF B s) (bM_get (j := 0) rfl) i130_90 rfl rfl rfl (Nat.le_of_ble_eq_true rfl) t3 ?_
  refine gm_ev.if_ne_t (tgt := 98) i130_93 (by decide) c5 ?_
  refine gm_ev.aload_n i130_98 rfl ?_
  refine gm_ev.getfield (v := .ref (B + 6)) i130_99 rfl (bM_fld (j := 0) (fs := mF B s4) rfl rfl) ?_
  refine gm_ev.iload_n i130_102 rfl ?_
  refine gm_ev.iconst (v := 4) i130_103 (by decide) ?_
  refine gm_ev.iload_n i130_104 rfl ?_
  refine gm_ev.imul i130_105 ?_
  refine gm_ev.iload i130_106 rfl ?_
  refine gm_ev.iadd i130_108 ?_
  refine gm_ev.iastore (M' := (bM B (mH B (mA s4 14 (upd (s4.2.1 14) k6 (((4 : Int32) * x2) + x4)))) G)) i130_109 (bM_asti (j := 6) (n := 144) (f := s4.2.1 14) rfl ek6 lk6 (by decide) hN rfl) ?_
  refine gm_ev.iload_n i130_110 rfl ?_
  refine gm_ev.if_lt_f i130_111 c7 ?_
  refine gm_ev.iload i130_114 rfl ?_
  refine gm_ev.iload_n i130_116 rfl ?_
  refine gm_ev.icmp_ne_f i130_117 c8 ?_
  refine gm_ev.aload_n i130_120 rfl ?_
  refine gm_ev.bipush (v := 41) i130_121 (by decide) ?_
  refine gm_ev.callV gm_mono_run (av := [.int (41 : Int32)]) (r := []) (ci := 11) (fs := mF B (mA s4 14 (upd (s4.2.1 14) k6 (((4 : Int32) * x2) + x4)))) (bM_get (j := 0) rfl) i130_123 rfl rfl rfl (Nat.le_of_ble_eq_true rfl) t10 ?_
  refine gm_ev.if_eq_f i130_126 c12 ?_
  refine gm_ev.iconst (v := 1) i130_129 (by decide) ?_
  exact gm_ev.zret i130_130 rfl (by decide)
theorem r_atom_75_ff {N0 : Nat} {K : Nat → Nat} {d B : Nat} {s : mS} {G : gm_H} {sz sl : Nat} {x1 : Int32} {x2 : Int32} {x3 : Int32} {x4 : Int32} {r2 : Int32} {s4 : mS} (hN : N0 ≤ B) (c1 : ¬ (3 : Int32) < x4) (t3 : gm_to N0 K ra_nm (ra_mt K) d 129 [.ref B, .int ((((3 : Int32) * x1) + x4) - (1 : Int32))] (bM B (mH B s) G) sz (.returned (some (.int r2)), bM B (mH B s4) G, sz, 0)) (c5 : r2 = 0) : gm_ev N0 K ra_nm (ra_mt K) d (some .boolean) (gm_I cX12_atom) (gm_lkf (lkX12 false K)) 75 [some (.ref B), some (.int x1), some (.int x2), some (.int x3), some (.int x4)] [] (bM B (mH B s) G) sz sl (.returned (some (.int (0 : Int32))), (bM B (mH B s4) G), sz, sl) := by
  refine gm_ev.iload i130_75 rfl ?_
  refine gm_ev.iconst (v := 3) i130_77 (by decide) ?_
  refine gm_ev.icmp_gt_f i130_78 c1 ?_
  refine gm_ev.aload_n i130_81 rfl ?_
  refine gm_ev.iconst (v := 3) i130_82 (by decide) ?_
  refine gm_ev.iload_n i130_83 rfl ?_
  refine gm_ev.imul i130_84 ?_
  refine gm_ev.iload i130_85 rfl ?_
  refine gm_ev.iadd i130_87 ?_
  refine gm_ev.iconst (v := 1) i130_88 (by decide) ?_
  refine gm_ev.isub i130_89 ?_
  refine gm_ev.callV gm_mono_run (av := [.int ((((3 : Int32) * x1) + x4) - (1 : Int32))]) (r := []) (ci := 11) (fs := mF B s) (bM_get (j := 0) rfl) i130_90 rfl rfl rfl (Nat.le_of_ble_eq_true rfl) t3 ?_
  refine gm_ev.if_ne_f i130_93 c5 ?_
  refine gm_ev.iconst (v := 0) i130_96 (by decide) ?_
  exact gm_ev.zret i130_97 rfl (by decide)
theorem r_becomesTerm_0__at11 {N0 : Nat} {K : Nat → Nat} {d B : Nat} {s : mS} {G : gm_H} {sz sl : Nat} {R : gm_R} {p0 : Int32} {k1 : Nat} (hN : N0 ≤ B) (ek1 : p0 = nI k1) (lk1 : k1 < 144) (k : gm_ev N0 K ra_nm (ra_mt K) d (some .boolean) (gm_I cX12_becomesTerm) (gm_lkf (lkX12 false K)) 11 [some (.ref B), some (.int p0), some (.int ((s.2.1 14 k1) &&& (3 : Int32))), some (.int (0 : Int32)), none] [] (bM B (mH B s) G) sz sl R) : gm_ev N0 K ra_nm (ra_mt K) d (some .boolean) (gm_I cX12_becomesTerm) (gm_lkf (lkX12 false K)) 0 [some (.ref B), some (.int p0), none, none, none] [] (bM B (mH B s) G) sz sl R := by
  refine gm_ev.aload_n i131_0 rfl ?_
  refine gm_ev.getfield (v := .ref (B + 6)) i131_1 rfl (bM_fld (j := 0) (fs := mF B s) rfl rfl) ?_
  refine gm_ev.iload_n i131_4 rfl ?_
  refine gm_ev.iaload i131_5 (bM_ai (j := 6) (n := 144) (f := s.2.1 14) rfl ek1 lk1 (by decide)) ?_
  refine gm_ev.iconst (v := 3) i131_6 (by decide) ?_
  refine gm_ev.iand i131_7 ?_
  refine gm_ev.istore_n (ls' := [some (.ref B), some (.int p0), some (.int ((s.2.1 14 k1) &&& (3 : Int32))), none, none]) i131_8 (Nat.le_of_ble_eq_true rfl) rfl ?_
  refine gm_ev.iconst (v := 0) i131_9 (by decide) ?_
  refine gm_ev.istore_n (ls' := [some (.ref B), some (.int p0), some (.int ((s.2.1 14 k1) &&& (3 : Int32))), some (.int (0 : Int32)), none]) i131_10 (Nat.le_of_ble_eq_true rfl) rfl ?_
  exact k
theorem r_becomesTerm_11_t_at51 {N0 : Nat} {K : Nat → Nat} {d B : Nat} {s : mS} {G : gm_H} {sz sl : Nat} {R : gm_R} {x1 : Int32} {x2 : Int32} {x3 : Int32} {k2 : Nat} (hN : N0 ≤ B) (c1 : x2 ≤ x3) (ek2 : x1 = nI k2) (lk2 : k2 < 144) (k : gm_ev N0 K ra_nm (ra_mt K) d (some .boolean) (gm_I cX12_becomesTerm) (gm_lkf (lkX12 false K)) 51 [some (.ref B), some (.int x1), some (.int x2), some (.int ((s.2.1 14 k2) / (4 : Int32))), some (.int (x2 - (1 : Int32)))] [] (bM B (mH B s) G) sz sl R) : gm_ev N0 K ra_nm (ra_mt K) d (some .boolean) (gm_I cX12_becomesTerm) (gm_lkf (lkX12 false K)) 11 [some (.ref B), some (.int x1), some (.int x2), some (.int x3), none] [] (bM B (mH B s) G) sz sl R := by
  refine gm_ev.iload_n i131_11 rfl ?_
  refine gm_ev.iload_n i131_12 rfl ?_
  refine gm_ev.icmp_ge_t (tgt := 37) i131_13 (by decide) c1 ?_
  refine gm_ev.aload_n i131_37 rfl ?_
  refine gm_ev.getfield (v := .ref (B + 6)) i131_38 rfl (bM_fld (j := 0) (fs := mF B s) rfl rfl) ?_
  refine gm_ev.iload_n i131_41 rfl ?_
  refine gm_ev.iaload i131_42 (bM_ai (j := 6) (n := 144) (f := s.2.1 14) rfl ek2 lk2 (by decide)) ?_
  refine gm_ev.iconst (v := 4) i131_43 (by decide) ?_
  refine gm_ev.idiv i131_44 (by decide) ?_
  refine gm_ev.istore_n (ls' := [some (.ref B), some (.int x1), some (.int x2), some (.int ((s.2.1 14 k2) / (4 : Int32))), none]) i131_45 (Nat.le_of_ble_eq_true rfl) rfl ?_
  refine gm_ev.iload_n i131_46 rfl ?_
  refine gm_ev.iconst (v := 1) i131_47 (by decide) ?_
  refine gm_ev.isub i131_48 ?_
  refine gm_ev.istore (ls' := [some (.ref B), some (.int x1), some (.int x2), some (.int ((s.2.1 14 k2) / (4 : Int32))), some (.int (x2 - (1 : Int32)))]) i131_49 (Nat.le_of_ble_eq_true rfl) rfl ?_
  exact k
theorem r_becomesTerm_11_ft_at11 {N0 : Nat} {K : Nat → Nat} {d B : Nat} {s : mS} {G : gm_H} {sz sl : Nat} {R : gm_R} {x1 : Int32} {x2 : Int32} {x3 : Int32} {k2 : Nat} (hN : N0 ≤ B) (c1 : ¬ x2 ≤ x3) (ek2 : (((3 : Int32) * x1) + x3) = nI k2) (lk2 : k2 < 432) (c3 : (s.2.1 15 k2) = 0) (k : gm_ev N0 K ra_nm (ra_mt K) d (some .boolean) (gm_I cX12_becomesTerm) (gm_lkf (lkX12 false K)) 11 [some (.ref B), some (.int x1), some (.int x2), some (.int (x3 + (1 : Int32))), none] [] (bM B (mH B s) G) sz sl R) : gm_ev N0 K ra_nm (ra_mt K) d (some .boolean) (gm_I cX12_becomesTerm) (gm_lkf (lkX12 false K)) 11 [some (.ref B), some (.int x1), some (.int x2), some (.int x3), none] [] (bM B (mH B s) G) sz sl R := by
  refine gm_ev.iload_n i131_11 rfl ?_
  refine gm_ev.iload_n i131_12 rfl ?_
  refine gm_ev.icmp_ge_f i131_13 c1 ?_
  refine gm_ev.aload_n i131_16 rfl ?_
  refine gm_ev.getfield (v := .ref (B + 7)) i131_17 rfl (bM_fld (j := 0) (fs := mF B s) rfl rfl) ?_
  refine gm_ev.iconst (v := 3) i131_20 (by decide) ?_
  refine gm_ev.iload_n i131_21 rfl ?_
  refine gm_ev.imul i131_22 ?_
  refine gm_ev.iload_n i131_23 rfl ?_
  refine gm_ev.iadd i131_24 ?_
  refine gm_ev.iaload i131_25 (bM_ai (j := 7) (n := 432) (f := s.2.1 15) rfl ek2 lk2 (by decide)) ?_
  refine gm_ev.if_eq_t (tgt := 31) i131_26 (by decide) c3 ?_
  refine gm_ev.iinc (v := x3 + (1 : Int32)) (ls' := [some (.ref B), some (.int x1), some (.int x2), some (.int (x3 + (1 : Int32))), none]) i131_31 rfl (by rfl) rfl ?_
  refine gm_ev.goto (tgt := 11) i131_34 (by decide) ?_
  exact k
theorem r_becomesTerm_11_ff {N0 : Nat} {K : Nat → Nat} {d B : Nat} {s : mS} {G : gm_H} {sz sl : Nat} {x1 : Int32} {x2 : Int32} {x3 : Int32} {k2 : Nat} (hN : N0 ≤ B) (c1 : ¬ x2 ≤ x3) (ek2 : (((3 : Int32) * x1) + x3) = nI k2) (lk2 : k2 < 432) (c3 : ¬ (s.2.1 15 k2) = 0) : gm_ev N0 K ra_nm (ra_mt K) d (some .boolean) (gm_I cX12_becomesTerm) (gm_lkf (lkX12 false K)) 11 [some (.ref B), some (.int x1), some (.int x2), some (.int x3), none] [] (bM B (mH B s) G) sz sl (.returned (some (.int (0 : Int32))), (bM B (mH B s) G), sz, sl) := by
  refine gm_ev.iload_n i131_11 rfl ?_
  refine gm_ev.iload_n i131_12 rfl ?_
  refine gm_ev.icmp_ge_f i131_13 c1 ?_
  refine gm_ev.aload_n i131_16 rfl ?_
  refine gm_ev.getfield (v := .ref (B + 7)) i131_17 rfl (bM_fld (j := 0) (fs := mF B s) rfl rfl) ?_
  refine gm_ev.iconst (v := 3) i131_20 (by decide) ?_
  refine gm_ev.iload_n i131_21 rfl ?_
  refine gm_ev.imul i131_22 ?_
  refine gm_ev.iload_n i131_23 rfl ?_
  refine gm_ev.iadd i131_24 ?_
  refine gm_ev.iaload i131_25 (bM_ai (j := 7) (n := 432) (f := s.2.1 15) rfl ek2 lk2 (by decide)) ?_
  refine gm_ev.if_eq_f i131_26 c3 ?_
  refine gm_ev.iconst (v := 0) i131_29 (by decide) ?_
  exact gm_ev.zret i131_30 rfl (by decide)
theorem r_becomesTerm_51_tttt {N0 : Nat} {K : Nat → Nat} {d B : Nat} {s : mS} {G : gm_H} {sz sl : Nat} {x1 : Int32} {x2 : Int32} {x3 : Int32} {x4 : Int32} {k3 : Nat} {k5 : Nat} {k7 : Nat} {k8 : Nat} (hN : N0 ≤ B) (c1 : x4 < 0) (c2 : ¬ x2 = 0) (ek3 : ((3 : Int32) * x1) = nI k3) (lk3 : k3 < 432) (c4 : ¬ x2 = 0) (ek5 : ((3 : Int32) * x1) = nI k5) (lk5 : k5 < 432) (c6 : ¬ x2 = 0) (ek7 : ((9 : Int32) * x1) = nI k7) (lk7 : k7 < 1296) (ek8 : ((9 : Int32) * x1) = nI k8) (lk8 : k8 < 1296) : gm_ev N0 K ra_nm (ra_mt K) d (some .boolean) (gm_I cX12_becomesTerm) (gm_lkf (lkX12 false K)) 51 [some (.ref B), some (.int x1), some (.int x2), some (.int x3), some (.int x4)] [] (bM B (mH B s) G) sz sl (.returned (some (.int (1 : Int32))), (bM B (mH B (mA (mA (mA s 15 (upd (s.2.1 15) k3 x3)) 16 (upd (s.2.1 16) k5 x2)) 17 (upd (s.2.1 17) k8 (s.2.1 17 k7)))) G), sz, sl) := by
  refine gm_ev.iload i131_51 rfl ?_
  refine gm_ev.if_lt_t (tgt := 88) i131_53 (by decide) c1 ?_
  refine gm_ev.aload_n i131_88 rfl ?_
  refine gm_ev.getfield (v := .ref (B + 7)) i131_89 rfl (bM_fld (j := 0) (fs := mF B s) rfl rfl) ?_
  refine gm_ev.iconst (v := 3) i131_92 (by decide) ?_
  refine gm_ev.iload_n i131_93 rfl ?_
  refine gm_ev.imul i131_94 ?_
  refine gm_ev.iload_n i131_95 rfl ?_
  refine gm_ev.if_ne_t (tgt := 103) i131_96 (by decide) c2 ?_
  refine gm_ev.iload_n i131_103 rfl ?_
  refine gm_ev.iastore (M' := (bM B (mH B (mA s 15 (upd (s.2.1 15) k3 x3))) G)) i131_104 (bM_asti (j := 7) (n := 432) (f := s.2.1 15) rfl ek3 lk3 (by decide) hN rfl) ?_
  refine gm_ev.aload_n i131_105 rfl ?_
  refine gm_ev.getfield (v := .ref (B + 8)) i131_106 rfl (bM_fld (j := 0) (fs := mF B (mA s 15 (upd (s.2.1 15) k3 x3))) rfl rfl) ?_
  refine gm_ev.iconst (v := 3) i131_109 (by decide) ?_
  refine gm_ev.iload_n i131_110 rfl ?_
  refine gm_ev.imul i131_111 ?_
  refine gm_ev.iload_n i131_112 rfl ?_
  refine gm_ev.if_ne_t (tgt := 120) i131_113 (by decide) c4 ?_
  refine gm_ev.iload_n i131_120 rfl ?_
  refine gm_ev.iastore (M' := (bM B (mH B (mA (mA s 15 (upd (s.2.1 15) k3 x3)) 16 (upd (s.2.1 16) k5 x2))) G)) i131_121 (bM_asti (j := 8) (n := 432) (f := s.2.1 16) rfl ek5 lk5 (by decide) hN rfl) ?_
  refine gm_ev.aload_n i131_122 rfl ?_
  refine gm_ev.getfield (v := .ref (B + 9)) i131_123 rfl (bM_fld (j := 0) (fs := mF B (mA (mA s 15 (upd (s.2.1 15) k3 x3)) 16 (upd (s.2.1 16) k5 x2))) rfl rfl) ?_
  refine gm_ev.bipush (v := 9) i131_126 (by decide) ?_
  refine gm_ev.iload_n i131_128 rfl ?_
  refine gm_ev.imul i131_129 ?_
  refine gm_ev.iload_n i131_130 rfl ?_
  refine gm_ev.if_ne_t (tgt := 138) i131_131 (by decide) c6 ?_
  refine gm_ev.aload_n i131_138 rfl ?_
  refine gm_ev.getfield (v := .ref (B + 9)) i131_139 rfl (bM_fld (j := 0) (fs := mF B (mA (mA s 15 (upd (s.2.1 15) k3 x3)) 16 (upd (s.2.1 16) k5 x2))) rfl rfl) ?_
  refine gm_ev.bipush (v := 9) i131_142 (by decide) ?_
  refine gm_ev.iload_n i131_144 rfl ?_
  refine gm_ev.imul i131_145 ?_
  refine gm_ev.iaload i131_146 (bM_ai (j := 9) (n := 1296) (f := s.2.1 17) rfl ek7 lk7 (by decide)) ?_
  refine gm_ev.iastore (M' := (bM B (mH B (mA (mA (mA s 15 (upd (s.2.1 15) k3 x3)) 16 (upd (s.2.1 16) k5 x2)) 17 (upd (s.2.1 17) k8 (s.2.1 17 k7)))) G)) i131_147 (bM_asti (j := 9) (n := 1296) (f := s.2.1 17) rfl ek8 lk8 (by decide) hN rfl) ?_
  refine gm_ev.iconst (v := 1) i131_148 (by decide) ?_
  exact gm_ev.zret i131_149 rfl (by decide)
theorem r_becomesTerm_51_tttf {N0 : Nat} {K : Nat → Nat} {d B : Nat} {s : mS} {G : gm_H} {sz sl : Nat} {x1 : Int32} {x2 : Int32} {x3 : Int32} {x4 : Int32} {k3 : Nat} {k5 : Nat} {k7 : Nat} (hN : N0 ≤ B) (c1 : x4 < 0) (c2 : ¬ x2 = 0) (ek3 : ((3 : Int32) * x1) = nI k3) (lk3 : k3 < 432) (c4 : ¬ x2 = 0) (ek5 : ((3 : Int32) * x1) = nI k5) (lk5 : k5 < 432) (c6 : x2 = 0) (ek7 : ((9 : Int32) * x1) = nI k7) (lk7 : k7 < 1296) : gm_ev N0 K ra_nm (ra_mt K) d (some .boolean) (gm_I cX12_becomesTerm) (gm_lkf (lkX12 false K)) 51 [some (.ref B), some (.int x1), some (.int x2), some (.int x3), some (.int x4)] [] (bM B (mH B s) G) sz sl (.returned (some (.int (1 : Int32))), (bM B (mH B (mA (mA (mA s 15 (upd (s.2.1 15) k3 x3)) 16 (upd (s.2.1 16) k5 x2)) 17 (upd (s.2.1 17) k7 x3))) G), sz, sl) := by
  refine gm_ev.iload i131_51 rfl ?_
  refine gm_ev.if_lt_t (tgt := 88) i131_53 (by decide) c1 ?_
  refine gm_ev.aload_n i131_88 rfl ?_
  refine gm_ev.getfield (v := .ref (B + 7)) i131_89 rfl (bM_fld (j := 0) (fs := mF B s) rfl rfl) ?_
  refine gm_ev.iconst (v := 3) i131_92 (by decide) ?_
  refine gm_ev.iload_n i131_93 rfl ?_
  refine gm_ev.imul i131_94 ?_
  refine gm_ev.iload_n i131_95 rfl ?_
  refine gm_ev.if_ne_t (tgt := 103) i131_96 (by decide) c2 ?_
  refine gm_ev.iload_n i131_103 rfl ?_
  refine gm_ev.iastore (M' := (bM B (mH B (mA s 15 (upd (s.2.1 15) k3 x3))) G)) i131_104 (bM_asti (j := 7) (n := 432) (f := s.2.1 15) rfl ek3 lk3 (by decide) hN rfl) ?_
  refine gm_ev.aload_n i131_105 rfl ?_
  refine gm_ev.getfield (v := .ref (B + 8)) i131_106 rfl (bM_fld (j := 0) (fs := mF B (mA s 15 (upd (s.2.1 15) k3 x3))) rfl rfl) ?_
  refine gm_ev.iconst (v := 3) i131_109 (by decide) ?_
  refine gm_ev.iload_n i131_110 rfl ?_
  refine gm_ev.imul i131_111 ?_
  refine gm_ev.iload_n i131_112 rfl ?_
  refine gm_ev.if_ne_t (tgt := 120) i131_113 (by decide) c4 ?_
  refine gm_ev.iload_n i131_120 rfl ?_
  refine gm_ev.iastore (M' := (bM B (mH B (mA (mA s 15 (upd (s.2.1 15) k3 x3)) 16 (upd (s.2.1 16) k5 x2))) G)) i131_121 (bM_asti (j := 8) (n := 432) (f := s.2.1 16) rfl ek5 lk5 (by decide) hN rfl) ?_
  refine gm_ev.aload_n i131_122 rfl ?_
  refine gm_ev.getfield (v := .ref (B + 9)) i131_123 rfl (bM_fld (j := 0) (fs := mF B (mA (mA s 15 (upd (s.2.1 15) k3 x3)) 16 (upd (s.2.1 16) k5 x2))) rfl rfl) ?_
  refine gm_ev.bipush (v := 9) i131_126 (by decide) ?_
  refine gm_ev.iload_n i131_128 rfl ?_
  refine gm_ev.imul i131_129 ?_
  refine gm_ev.iload_n i131_130 rfl ?_
  refine gm_ev.if_ne_f i131_131 c6 ?_
  refine gm_ev.iload_n i131_134 rfl ?_
  refine gm_ev.goto (tgt := 147) i131_135 (by decide) ?_
  refine gm_ev.iastore (M' := (bM B (mH B (mA (mA (mA s 15 (upd (s.2.1 15) k3 x3)) 16 (upd (s.2.1 16) k5 x2)) 17 (upd (s.2.1 17) k7 x3))) G)) i131_147 (bM_asti (j := 9) (n := 1296) (f := s.2.1 17) rfl ek7 lk7 (by decide) hN rfl) ?_
  refine gm_ev.iconst (v := 1) i131_148 (by decide) ?_
  exact gm_ev.zret i131_149 rfl (by decide)
theorem r_becomesTerm_51_ttft {N0 : Nat} {K : Nat → Nat} {d B : Nat} {s : mS} {G : gm_H} {sz sl : Nat} {x1 : Int32} {x2 : Int32} {x3 : Int32} {x4 : Int32} {k3 : Nat} {k5 : Nat} {k7 : Nat} {k8 : Nat} (hN : N0 ≤ B) (c1 : x4 < 0) (c2 : ¬ x2 = 0) (ek3 : ((3 : Int32) * x1) = nI k3) (lk3 : k3 < 432) (c4 : x2 = 0) (ek5 : ((3 : Int32) * x1) = nI k5) (lk5 : k5 < 432) (c6 : ¬ x2 = 0) (ek7 : ((9 : Int32) * x1) = nI k7) (lk7 : k7 < 1296) (ek8 : ((9 : Int32) * x1) = nI k8) (lk8 : k8 < 1296) : gm_ev N0 K ra_nm (ra_mt K) d (some .boolean) (gm_I cX12_becomesTerm) (gm_lkf (lkX12 false K)) 51 [some (.ref B), some (.int x1), some (.int x2), some (.int x3), some (.int x4)] [] (bM B (mH B s) G) sz sl (.returned (some (.int (1 : Int32))), (bM B (mH B (mA (mA (mA s 15 (upd (s.2.1 15) k3 x3)) 16 (upd (s.2.1 16) k5 (1 : Int32))) 17 (upd (s.2.1 17) k8 (s.2.1 17 k7)))) G), sz, sl) := by
  refine gm_ev.iload i131_51 rfl ?_
  refine gm_ev.if_lt_t (tgt := 88) i131_53 (by decide) c1 ?_
  refine gm_ev.aload_n i131_88 rfl ?_
  refine gm_ev.getfield (v := .ref (B + 7)) i131_89 rfl (bM_fld (j := 0) (fs := mF B s) rfl rfl) ?_
  refine gm_ev.iconst (v := 3) i131_92 (by decide) ?_
  refine gm_ev.iload_n i131_93 rfl ?_
  refine gm_ev.imul i131_94 ?_
  refine gm_ev.iload_n i131_95 rfl ?_
  refine gm_ev.if_ne_t (tgt := 103) i131_96 (by decide) c2 ?_
  refine gm_ev.iload_n i131_103 rfl ?_
  refine gm_ev.iastore (M' := (bM B (mH B (mA s 15 (upd (s.2.1 15) k3 x3))) G)) i131_104 (bM_asti (j := 7) (n := 432) (f := s.2.1 15) rfl ek3 lk3 (by decide) hN rfl) ?_
  refine gm_ev.aload_n i131_105 rfl ?_
  refine gm_ev.getfield (v := .ref (B + 8)) i131_106 rfl (bM_fld (j := 0) (fs := mF B (mA s 15 (upd (s.2.1 15) k3 x3))) rfl rfl) ?_
  refine gm_ev.iconst (v := 3) i131_109 (by decide) ?_
  refine gm_ev.iload_n i131_110 rfl ?_
  refine gm_ev.imul i131_111 ?_
  refine gm_ev.iload_n i131_112 rfl ?_
  refine gm_ev.if_ne_f i131_113 c4 ?_
  refine gm_ev.iconst (v := 1) i131_116 (by decide) ?_
  refine gm_ev.goto (tgt := 121) i131_117 (by decide) ?_
  refine gm_ev.iastore (M' := (bM B (mH B (mA (mA s 15 (upd (s.2.1 15) k3 x3)) 16 (upd (s.2.1 16) k5 (1 : Int32)))) G)) i131_121 (bM_asti (j := 8) (n := 432) (f := s.2.1 16) rfl ek5 lk5 (by decide) hN rfl) ?_
  refine gm_ev.aload_n i131_122 rfl ?_
  refine gm_ev.getfield (v := .ref (B + 9)) i131_123 rfl (bM_fld (j := 0) (fs := mF B (mA (mA s 15 (upd (s.2.1 15) k3 x3)) 16 (upd (s.2.1 16) k5 (1 : Int32)))) rfl rfl) ?_
  refine gm_ev.bipush (v := 9) i131_126 (by decide) ?_
  refine gm_ev.iload_n i131_128 rfl ?_
  refine gm_ev.imul i131_129 ?_
  refine gm_ev.iload_n i131_130 rfl ?_
  refine gm_ev.if_ne_t (tgt := 138) i131_131 (by decide) c6 ?_
  refine gm_ev.aload_n i131_138 rfl ?_
  refine gm_ev.getfield (v := .ref (B + 9)) i131_139 rfl (bM_fld (j := 0) (fs := mF B (mA (mA s 15 (upd (s.2.1 15) k3 x3)) 16 (upd (s.2.1 16) k5 (1 : Int32)))) rfl rfl) ?_
  refine gm_ev.bipush (v := 9) i131_142 (by decide) ?_
  refine gm_ev.iload_n i131_144 rfl ?_
  refine gm_ev.imul i131_145 ?_
  refine gm_ev.iaload i131_146 (bM_ai (j := 9) (n := 1296) (f := s.2.1 17) rfl ek7 lk7 (by decide)) ?_
  refine gm_ev.iastore (M' := (bM B (mH B (mA (mA (mA s 15 (upd (s.2.1 15) k3 x3)) 16 (upd (s.2.1 16) k5 (1 : Int32))) 17 (upd (s.2.1 17) k8 (s.2.1 17 k7)))) G)) i131_147 (bM_asti (j := 9) (n := 1296) (f := s.2.1 17) rfl ek8 lk8 (by decide) hN rfl) ?_
  refine gm_ev.iconst (v := 1) i131_148 (by decide) ?_
  exact gm_ev.zret i131_149 rfl (by decide)
theorem r_becomesTerm_51_ttff {N0 : Nat} {K : Nat → Nat} {d B : Nat} {s : mS} {G : gm_H} {sz sl : Nat} {x1 : Int32} {x2 : Int32} {x3 : Int32} {x4 : Int32} {k3 : Nat} {k5 : Nat} {k7 : Nat} (hN : N0 ≤ B) (c1 : x4 < 0) (c2 : ¬ x2 = 0) (ek3 : ((3 : Int32) * x1) = nI k3) (lk3 : k3 < 432) (c4 : x2 = 0) (ek5 : ((3 : Int32) * x1) = nI k5) (lk5 : k5 < 432) (c6 : x2 = 0) (ek7 : ((9 : Int32) * x1) = nI k7) (lk7 : k7 < 1296) : gm_ev N0 K ra_nm (ra_mt K) d (some .boolean) (gm_I cX12_becomesTerm) (gm_lkf (lkX12 false K)) 51 [some (.ref B), some (.int x1), some (.int x2), some (.int x3), some (.int x4)] [] (bM B (mH B s) G) sz sl (.returned (some (.int (1 : Int32))), (bM B (mH B (mA (mA (mA s 15 (upd (s.2.1 15) k3 x3)) 16 (upd (s.2.1 16) k5 (1 : Int32))) 17 (upd (s.2.1 17) k7 x3))) G), sz, sl) := by
  refine gm_ev.iload i131_51 rfl ?_
  refine gm_ev.if_lt_t (tgt := 88) i131_53 (by decide) c1 ?_
  refine gm_ev.aload_n i131_88 rfl ?_
  refine gm_ev.getfield (v := .ref (B + 7)) i131_89 rfl (bM_fld (j := 0) (fs := mF B s) rfl rfl) ?_
  refine gm_ev.iconst (v := 3) i131_92 (by decide) ?_
  refine gm_ev.iload_n i131_93 rfl ?_
  refine gm_ev.imul i131_94 ?_
  refine gm_ev.iload_n i131_95 rfl ?_
  refine gm_ev.if_ne_t (tgt := 103) i131_96 (by decide) c2 ?_
  refine gm_ev.iload_n i131_103 rfl ?_
  refine gm_ev.iastore (M' := (bM B (mH B (mA s 15 (upd (s.2.1 15) k3 x3))) G)) i131_104 (bM_asti (j := 7) (n := 432) (f := s.2.1 15) rfl ek3 lk3 (by decide) hN rfl) ?_
  refine gm_ev.aload_n i131_105 rfl ?_
  refine gm_ev.getfield (v := .ref (B + 8)) i131_106 rfl (bM_fld (j := 0) (fs := mF B (mA s 15 (upd (s.2.1 15) k3 x3))) rfl rfl) ?_
  refine gm_ev.iconst (v := 3) i131_109 (by decide) ?_
  refine gm_ev.iload_n i131_110 rfl ?_
  refine gm_ev.imul i131_111 ?_
  refine gm_ev.iload_n i131_112 rfl ?_
  refine gm_ev.if_ne_f i131_113 c4 ?_
  refine gm_ev.iconst (v := 1) i131_116 (by decide) ?_
  refine gm_ev.goto (tgt := 121) i131_117 (by decide) ?_
  refine gm_ev.iastore (M' := (bM B (mH B (mA (mA s 15 (upd (s.2.1 15) k3 x3)) 16 (upd (s.2.1 16) k5 (1 : Int32)))) G)) i131_121 (bM_asti (j := 8) (n := 432) (f := s.2.1 16) rfl ek5 lk5 (by decide) hN rfl) ?_
  refine gm_ev.aload_n i131_122 rfl ?_
  refine gm_ev.getfield (v := .ref (B + 9)) i131_123 rfl (bM_fld (j := 0) (fs := mF B (mA (mA s 15 (upd (s.2.1 15) k3 x3)) 16 (upd (s.2.1 16) k5 (1 : Int32)))) rfl rfl) ?_
  refine gm_ev.bipush (v := 9) i131_126 (by decide) ?_
  refine gm_ev.iload_n i131_128 rfl ?_
  refine gm_ev.imul i131_129 ?_
  refine gm_ev.iload_n i131_130 rfl ?_
  refine gm_ev.if_ne_f i131_131 c6 ?_
  refine gm_ev.iload_n i131_134 rfl ?_
  refine gm_ev.goto (tgt := 147) i131_135 (by decide) ?_
  refine gm_ev.iastore (M' := (bM B (mH B (mA (mA (mA s 15 (upd (s.2.1 15) k3 x3)) 16 (upd (s.2.1 16) k5 (1 : Int32))) 17 (upd (s.2.1 17) k7 x3))) G)) i131_147 (bM_asti (j := 9) (n := 1296) (f := s.2.1 17) rfl ek7 lk7 (by decide) hN rfl) ?_
  refine gm_ev.iconst (v := 1) i131_148 (by decide) ?_
  exact gm_ev.zret i131_149 rfl (by decide)
theorem r_becomesTerm_51_tftt {N0 : Nat} {K : Nat → Nat} {d B : Nat} {s : mS} {G : gm_H} {sz sl : Nat} {x1 : Int32} {x2 : Int32} {x3 : Int32} {x4 : Int32} {k3 : Nat} {k5 : Nat} {k7 : Nat} {k8 : Nat} (hN : N0 ≤ B) (c1 : x4 < 0) (c2 : x2 = 0) (ek3 : ((3 : Int32) * x1) = nI k3) (lk3 : k3 < 432) (c4 : ¬ x2 = 0) (ek5 : ((3 : Int32) * x1) = nI k5) (lk5 : k5 < 432) (c6 : ¬ x2 = 0) (ek7 : ((9 : Int32) * x1) = nI k7) (lk7 : k7 < 1296) (ek8 : ((9 : Int32) * x1) = nI k8) (lk8 : k8 < 1296) : gm_ev N0 K ra_nm (ra_mt K) d (some .boolean) (gm_I cX12_becomesTerm) (gm_lkf (lkX12 false K)) 51 [some (.ref B), some (.int x1), some (.int x2), some (.int x3), some (.int x4)] [] (bM B (mH B s) G) sz sl (.returned (some (.int (1 : Int32))), (bM B (mH B (mA (mA (mA s 15 (upd (s.2.1 15) k3 (0 : Int32))) 16 (upd (s.2.1 16) k5 x2)) 17 (upd (s.2.1 17) k8 (s.2.1 17 k7)))) G), sz, sl) := by
  refine gm_ev.iload i131_51 rfl ?_
  refine gm_ev.if_lt_t (tgt := 88) i131_53 (by decide) c1 ?_
  refine gm_ev.aload_n i131_88 rfl ?_
  refine gm_ev.getfield (v := .ref (B + 7)) i131_89 rfl (bM_fld (j := 0) (fs := mF B s) rfl rfl) ?_
  refine gm_ev.iconst (v := 3) i131_92 (by decide) ?_
  refine gm_ev.iload_n i131_93 rfl ?_
  refine gm_ev.imul i131_94 ?_
  refine gm_ev.iload_n i131_95 rfl ?_
  refine gm_ev.if_ne_f i131_96 c2 ?_
  refine gm_ev.iconst (v := 0) i131_99 (by decide) ?_
  refine gm_ev.goto (tgt := 104) i131_100 (by decide) ?_
  refine gm_ev.iastore (M' := (bM B (mH B (mA s 15 (upd (s.2.1 15) k3 (0 : Int32)))) G)) i131_104 (bM_asti (j := 7) (n := 432) (f := s.2.1 15) rfl ek3 lk3 (by decide) hN rfl) ?_
  refine gm_ev.aload_n i131_105 rfl ?_
  refine gm_ev.getfield (v := .ref (B + 8)) i131_106 rfl (bM_fld (j := 0) (fs := mF B (mA s 15 (upd (s.2.1 15) k3 (0 : Int32)))) rfl rfl) ?_
  refine gm_ev.iconst (v := 3) i131_109 (by decide) ?_
  refine gm_ev.iload_n i131_110 rfl ?_
  refine gm_ev.imul i131_111 ?_
  refine gm_ev.iload_n i131_112 rfl ?_
  refine gm_ev.if_ne_t (tgt := 120) i131_113 (by decide) c4 ?_
  refine gm_ev.iload_n i131_120 rfl ?_
  refine gm_ev.iastore (M' := (bM B (mH B (mA (mA s 15 (upd (s.2.1 15) k3 (0 : Int32))) 16 (upd (s.2.1 16) k5 x2))) G)) i131_121 (bM_asti (j := 8) (n := 432) (f := s.2.1 16) rfl ek5 lk5 (by decide) hN rfl) ?_
  refine gm_ev.aload_n i131_122 rfl ?_
  refine gm_ev.getfield (v := .ref (B + 9)) i131_123 rfl (bM_fld (j := 0) (fs := mF B (mA (mA s 15 (upd (s.2.1 15) k3 (0 : Int32))) 16 (upd (s.2.1 16) k5 x2))) rfl rfl) ?_
  refine gm_ev.bipush (v := 9) i131_126 (by decide) ?_
  refine gm_ev.iload_n i131_128 rfl ?_
  refine gm_ev.imul i131_129 ?_
  refine gm_ev.iload_n i131_130 rfl ?_
  refine gm_ev.if_ne_t (tgt := 138) i131_131 (by decide) c6 ?_
  refine gm_ev.aload_n i131_138 rfl ?_
  refine gm_ev.getfield (v := .ref (B + 9)) i131_139 rfl (bM_fld (j := 0) (fs := mF B (mA (mA s 15 (upd (s.2.1 15) k3 (0 : Int32))) 16 (upd (s.2.1 16) k5 x2))) rfl rfl) ?_
  refine gm_ev.bipush (v := 9) i131_142 (by decide) ?_
  refine gm_ev.iload_n i131_144 rfl ?_
  refine gm_ev.imul i131_145 ?_
  refine gm_ev.iaload i131_146 (bM_ai (j := 9) (n := 1296) (f := s.2.1 17) rfl ek7 lk7 (by decide)) ?_
  refine gm_ev.iastore (M' := (bM B (mH B (mA (mA (mA s 15 (upd (s.2.1 15) k3 (0 : Int32))) 16 (upd (s.2.1 16) k5 x2)) 17 (upd (s.2.1 17) k8 (s.2.1 17 k7)))) G)) i131_147 (bM_asti (j := 9) (n := 1296) (f := s.2.1 17) rfl ek8 lk8 (by decide) hN rfl) ?_
  refine gm_ev.iconst (v := 1) i131_148 (by decide) ?_
  exact gm_ev.zret i131_149 rfl (by decide)
theorem r_becomesTerm_51_tftf {N0 : Nat} {K : Nat → Nat} {d B : Nat} {s : mS} {G : gm_H} {sz sl : Nat} {x1 : Int32} {x2 : Int32} {x3 : Int32} {x4 : Int32} {k3 : Nat} {k5 : Nat} {k7 : Nat} (hN : N0 ≤ B) (c1 : x4 < 0) (c2 : x2 = 0) (ek3 : ((3 : Int32) * x1) = nI k3) (lk3 : k3 < 432) (c4 : ¬ x2 = 0) (ek5 : ((3 : Int32) * x1) = nI k5) (lk5 : k5 < 432) (c6 : x2 = 0) (ek7 : ((9 : Int32) * x1) = nI k7) (lk7 : k7 < 1296) : gm_ev N0 K ra_nm (ra_mt K) d (some .boolean) (gm_I cX12_becomesTerm) (gm_lkf (lkX12 false K)) 51 [some (.ref B), some (.int x1), some (.int x2), some (.int x3), some (.int x4)] [] (bM B (mH B s) G) sz sl (.returned (some (.int (1 : Int32))), (bM B (mH B (mA (mA (mA s 15 (upd (s.2.1 15) k3 (0 : Int32))) 16 (upd (s.2.1 16) k5 x2)) 17 (upd (s.2.1 17) k7 x3))) G), sz, sl) := by
  refine gm_ev.iload i131_51 rfl ?_
  refine gm_ev.if_lt_t (tgt := 88) i131_53 (by decide) c1 ?_
  refine gm_ev.aload_n i131_88 rfl ?_
  refine gm_ev.getfield (v := .ref (B + 7)) i131_89 rfl (bM_fld (j := 0) (fs := mF B s) rfl rfl) ?_
  refine gm_ev.iconst (v := 3) i131_92 (by decide) ?_
  refine gm_ev.iload_n i131_93 rfl ?_
  refine gm_ev.imul i131_94 ?_
  refine gm_ev.iload_n i131_95 rfl ?_
  refine gm_ev.if_ne_f i131_96 c2 ?_
  refine gm_ev.iconst (v := 0) i131_99 (by decide) ?_
  refine gm_ev.goto (tgt := 104) i131_100 (by decide) ?_
  refine gm_ev.iastore (M' := (bM B (mH B (mA s 15 (upd (s.2.1 15) k3 (0 : Int32)))) G)) i131_104 (bM_asti (j := 7) (n := 432) (f := s.2.1 15) rfl ek3 lk3 (by decide) hN rfl) ?_
  refine gm_ev.aload_n i131_105 rfl ?_
  refine gm_ev.getfield (v := .ref (B + 8)) i131_106 rfl (bM_fld (j := 0) (fs := mF B (mA s 15 (upd (s.2.1 15) k3 (0 : Int32)))) rfl rfl) ?_
  refine gm_ev.iconst (v := 3) i131_109 (by decide) ?_
  refine gm_ev.iload_n i131_110 rfl ?_
  refine gm_ev.imul i131_111 ?_
  refine gm_ev.iload_n i131_112 rfl ?_
  refine gm_ev.if_ne_t (tgt := 120) i131_113 (by decide) c4 ?_
  refine gm_ev.iload_n i131_120 rfl ?_
  refine gm_ev.iastore (M' := (bM B (mH B (mA (mA s 15 (upd (s.2.1 15) k3 (0 : Int32))) 16 (upd (s.2.1 16) k5 x2))) G)) i131_121 (bM_asti (j := 8) (n := 432) (f := s.2.1 16) rfl ek5 lk5 (by decide) hN rfl) ?_
  refine gm_ev.aload_n i131_122 rfl ?_
  refine gm_ev.getfield (v := .ref (B + 9)) i131_123 rfl (bM_fld (j := 0) (fs := mF B (mA (mA s 15 (upd (s.2.1 15) k3 (0 : Int32))) 16 (upd (s.2.1 16) k5 x2))) rfl rfl) ?_
  refine gm_ev.bipush (v := 9) i131_126 (by decide) ?_
  refine gm_ev.iload_n i131_128 rfl ?_
  refine gm_ev.imul i131_129 ?_
  refine gm_ev.iload_n i131_130 rfl ?_
  refine gm_ev.if_ne_f i131_131 c6 ?_
  refine gm_ev.iload_n i131_134 rfl ?_
  refine gm_ev.goto (tgt := 147) i131_135 (by decide) ?_
  refine gm_ev.iastore (M' := (bM B (mH B (mA (mA (mA s 15 (upd (s.2.1 15) k3 (0 : Int32))) 16 (upd (s.2.1 16) k5 x2)) 17 (upd (s.2.1 17) k7 x3))) G)) i131_147 (bM_asti (j := 9) (n := 1296) (f := s.2.1 17) rfl ek7 lk7 (by decide) hN rfl) ?_
  refine gm_ev.iconst (v := 1) i131_148 (by decide) ?_
  exact gm_ev.zret i131_149 rfl (by decide)
theorem r_becomesTerm_51_tfft {N0 : Nat} {K : Nat → Nat} {d B : Nat} {s : mS} {G : gm_H} {sz sl : Nat} {x1 : Int32} {x2 : Int32} {x3 : Int32} {x4 : Int32} {k3 : Nat} {k5 : Nat} {k7 : Nat} {k8 : Nat} (hN : N0 ≤ B) (c1 : x4 < 0) (c2 : x2 = 0) (ek3 : ((3 : Int32) * x1) = nI k3) (lk3 : k3 < 432) (c4 : x2 = 0) (ek5 : ((3 : Int32) * x1) = nI k5) (lk5 : k5 < 432) (c6 : ¬ x2 = 0) (ek7 : ((9 : Int32) * x1) = nI k7) (lk7 : k7 < 1296) (ek8 : ((9 : Int32) * x1) = nI k8) (lk8 : k8 < 1296) : gm_ev N0 K ra_nm (ra_mt K) d (some .boolean) (gm_I cX12_becomesTerm) (gm_lkf (lkX12 false K)) 51 [some (.ref B), some (.int x1), some (.int x2), some (.int x3), some (.int x4)] [] (bM B (mH B s) G) sz sl (.returned (some (.int (1 : Int32))), (bM B (mH B (mA (mA (mA s 15 (upd (s.2.1 15) k3 (0 : Int32))) 16 (upd (s.2.1 16) k5 (1 : Int32))) 17 (upd (s.2.1 17) k8 (s.2.1 17 k7)))) G), sz, sl) := by
  refine gm_ev.iload i131_51 rfl ?_
  refine gm_ev.if_lt_t (tgt := 88) i131_53 (by decide) c1 ?_
  refine gm_ev.aload_n i131_88 rfl ?_
  refine gm_ev.getfield (v := .ref (B + 7)) i131_89 rfl (bM_fld (j := 0) (fs := mF B s) rfl rfl) ?_
  refine gm_ev.iconst (v := 3) i131_92 (by decide) ?_
  refine gm_ev.iload_n i131_93 rfl ?_
  refine gm_ev.imul i131_94 ?_
  refine gm_ev.iload_n i131_95 rfl ?_
  refine gm_ev.if_ne_f i131_96 c2 ?_
  refine gm_ev.iconst (v := 0) i131_99 (by decide) ?_
  refine gm_ev.goto (tgt := 104) i131_100 (by decide) ?_
  refine gm_ev.iastore (M' := (bM B (mH B (mA s 15 (upd (s.2.1 15) k3 (0 : Int32)))) G)) i131_104 (bM_asti (j := 7) (n := 432) (f := s.2.1 15) rfl ek3 lk3 (by decide) hN rfl) ?_
  refine gm_ev.aload_n i131_105 rfl ?_
  refine gm_ev.getfield (v := .ref (B + 8)) i131_106 rfl (bM_fld (j := 0) (fs := mF B (mA s 15 (upd (s.2.1 15) k3 (0 : Int32)))) rfl rfl) ?_
  refine gm_ev.iconst (v := 3) i131_109 (by decide) ?_
  refine gm_ev.iload_n i131_110 rfl ?_
  refine gm_ev.imul i131_111 ?_
  refine gm_ev.iload_n i131_112 rfl ?_
  refine gm_ev.if_ne_f i131_113 c4 ?_
  refine gm_ev.iconst (v := 1) i131_116 (by decide) ?_
  refine gm_ev.goto (tgt := 121) i131_117 (by decide) ?_
  refine gm_ev.iastore (M' := (bM B (mH B (mA (mA s 15 (upd (s.2.1 15) k3 (0 : Int32))) 16 (upd (s.2.1 16) k5 (1 : Int32)))) G)) i131_121 (bM_asti (j := 8) (n := 432) (f := s.2.1 16) rfl ek5 lk5 (by decide) hN rfl) ?_
  refine gm_ev.aload_n i131_122 rfl ?_
  refine gm_ev.getfield (v := .ref (B + 9)) i131_123 rfl (bM_fld (j := 0) (fs := mF B (mA (mA s 15 (upd (s.2.1 15) k3 (0 : Int32))) 16 (upd (s.2.1 16) k5 (1 : Int32)))) rfl rfl) ?_
  refine gm_ev.bipush (v := 9) i131_126 (by decide) ?_
  refine gm_ev.iload_n i131_128 rfl ?_
  refine gm_ev.imul i131_129 ?_
  refine gm_ev.iload_n i131_130 rfl ?_
  refine gm_ev.if_ne_t (tgt := 138) i131_131 (by decide) c6 ?_
  refine gm_ev.aload_n i131_138 rfl ?_
  refine gm_ev.getfield (v := .ref (B + 9)) i131_139 rfl (bM_fld (j := 0) (fs := mF B (mA (mA s 15 (upd (s.2.1 15) k3 (0 : Int32))) 16 (upd (s.2.1 16) k5 (1 : Int32)))) rfl rfl) ?_
  refine gm_ev.bipush (v := 9) i131_142 (by decide) ?_
  refine gm_ev.iload_n i131_144 rfl ?_
  refine gm_ev.imul i131_145 ?_
  refine gm_ev.iaload i131_146 (bM_ai (j := 9) (n := 1296) (f := s.2.1 17) rfl ek7 lk7 (by decide)) ?_
  refine gm_ev.iastore (M' := (bM B (mH B (mA (mA (mA s 15 (upd (s.2.1 15) k3 (0 : Int32))) 16 (upd (s.2.1 16) k5 (1 : Int32))) 17 (upd (s.2.1 17) k8 (s.2.1 17 k7)))) G)) i131_147 (bM_asti (j := 9) (n := 1296) (f := s.2.1 17) rfl ek8 lk8 (by decide) hN rfl) ?_
  refine gm_ev.iconst (v := 1) i131_148 (by decide) ?_
  exact gm_ev.zret i131_149 rfl (by decide)
theorem r_becomesTerm_51_tfff {N0 : Nat} {K : Nat → Nat} {d B : Nat} {s : mS} {G : gm_H} {sz sl : Nat} {x1 : Int32} {x2 : Int32} {x3 : Int32} {x4 : Int32} {k3 : Nat} {k5 : Nat} {k7 : Nat} (hN : N0 ≤ B) (c1 : x4 < 0) (c2 : x2 = 0) (ek3 : ((3 : Int32) * x1) = nI k3) (lk3 : k3 < 432) (c4 : x2 = 0) (ek5 : ((3 : Int32) * x1) = nI k5) (lk5 : k5 < 432) (c6 : x2 = 0) (ek7 : ((9 : Int32) * x1) = nI k7) (lk7 : k7 < 1296) : gm_ev N0 K ra_nm (ra_mt K) d (some .boolean) (gm_I cX12_becomesTerm) (gm_lkf (lkX12 false K)) 51 [some (.ref B), some (.int x1), some (.int x2), some (.int x3), some (.int x4)] [] (bM B (mH B s) G) sz sl (.returned (some (.int (1 : Int32))), (bM B (mH B (mA (mA (mA s 15 (upd (s.2.1 15) k3 (0 : Int32))) 16 (upd (s.2.1 16) k5 (1 : Int32))) 17 (upd (s.2.1 17) k7 x3))) G), sz, sl) := by
  refine gm_ev.iload i131_51 rfl ?_
  refine gm_ev.if_lt_t (tgt := 88) i131_53 (by decide) c1 ?_
  refine gm_ev.aload_n i131_88 rfl ?_
  refine gm_ev.getfield (v := .ref (B + 7)) i131_89 rfl (bM_fld (j := 0) (fs := mF B s) rfl rfl) ?_
  refine gm_ev.iconst (v := 3) i131_92 (by decide) ?_
  refine gm_ev.iload_n i131_93 rfl ?_
  refine gm_ev.imul i131_94 ?_
  refine gm_ev.iload_n i131_95 rfl ?_
  refine gm_ev.if_ne_f i131_96 c2 ?_
  refine gm_ev.iconst (v := 0) i131_99 (by decide) ?_
  refine gm_ev.goto (tgt := 104) i131_100 (by decide) ?_
  refine gm_ev.iastore (M' := (bM B (mH B (mA s 15 (upd (s.2.1 15) k3 (0 : Int32)))) G)) i131_104 (bM_asti (j := 7) (n := 432) (f := s.2.1 15) rfl ek3 lk3 (by decide) hN rfl) ?_
  refine gm_ev.aload_n i131_105 rfl ?_
  refine gm_ev.getfield (v := .ref (B + 8)) i131_106 rfl (bM_fld (j := 0) (fs := mF B (mA s 15 (upd (s.2.1 15) k3 (0 : Int32)))) rfl rfl) ?_
  refine gm_ev.iconst (v := 3) i131_109 (by decide) ?_
  refine gm_ev.iload_n i131_110 rfl ?_
  refine gm_ev.imul i131_111 ?_
  refine gm_ev.iload_n i131_112 rfl ?_
  refine gm_ev.if_ne_f i131_113 c4 ?_
  refine gm_ev.iconst (v := 1) i131_116 (by decide) ?_
  refine gm_ev.goto (tgt := 121) i131_117 (by decide) ?_
  refine gm_ev.iastore (M' := (bM B (mH B (mA (mA s 15 (upd (s.2.1 15) k3 (0 : Int32))) 16 (upd (s.2.1 16) k5 (1 : Int32)))) G)) i131_121 (bM_asti (j := 8) (n := 432) (f := s.2.1 16) rfl ek5 lk5 (by decide) hN rfl) ?_
  refine gm_ev.aload_n i131_122 rfl ?_
  refine gm_ev.getfield (v := .ref (B + 9)) i131_123 rfl (bM_fld (j := 0) (fs := mF B (mA (mA s 15 (upd (s.2.1 15) k3 (0 : Int32))) 16 (upd (s.2.1 16) k5 (1 : Int32)))) rfl rfl) ?_
  refine gm_ev.bipush (v := 9) i131_126 (by decide) ?_
  refine gm_ev.iload_n i131_128 rfl ?_
  refine gm_ev.imul i131_129 ?_
  refine gm_ev.iload_n i131_130 rfl ?_
  refine gm_ev.if_ne_f i131_131 c6 ?_
  refine gm_ev.iload_n i131_134 rfl ?_
  refine gm_ev.goto (tgt := 147) i131_135 (by decide) ?_
  refine gm_ev.iastore (M' := (bM B (mH B (mA (mA (mA s 15 (upd (s.2.1 15) k3 (0 : Int32))) 16 (upd (s.2.1 16) k5 (1 : Int32))) 17 (upd (s.2.1 17) k7 x3))) G)) i131_147 (bM_asti (j := 9) (n := 1296) (f := s.2.1 17) rfl ek7 lk7 (by decide) hN rfl) ?_
  refine gm_ev.iconst (v := 1) i131_148 (by decide) ?_
  exact gm_ev.zret i131_149 rfl (by decide)
theorem r_becomesTerm_51_f_at51 {N0 : Nat} {K : Nat → Nat} {d B : Nat} {s : mS} {G : gm_H} {sz sl : Nat} {R : gm_R} {x1 : Int32} {x2 : Int32} {x3 : Int32} {x4 : Int32} {k2 : Nat} {k3 : Nat} (hN : N0 ≤ B) (c1 : ¬ x4 < 0) (ek2 : (((9 : Int32) * x1) + ((3 : Int32) * x4)) = nI k2) (lk2 : k2 < 1296) (ek3 : (((9 : Int32) * x1) + x4) = nI k3) (lk3 : k3 < 1296) (k : gm_ev N0 K ra_nm (ra_mt K) d (some .boolean) (gm_I cX12_becomesTerm) (gm_lkf (lkX12 false K)) 51 [some (.ref B), some (.int x1), some (.int x2), some (.int x3), some (.int (x4 + (-1 : Int32)))] [] (bM B (mH B (mA s 17 (upd (s.2.1 17) k3 (s.2.1 17 k2)))) G) sz sl R) : gm_ev N0 K ra_nm (ra_mt K) d (some .boolean) (gm_I cX12_becomesTerm) (gm_lkf (lkX12 false K)) 51 [some (.ref B), some (.int x1), some (.int x2), some (.int x3), some (.int x4)] [] (bM B (mH B s) G) sz sl R := by
  refine gm_ev.iload i131_51 rfl ?_
  refine gm_ev.if_lt_f i131_53 c1 ?_
  refine gm_ev.aload_n i131_56 rfl ?_
  refine gm_ev.getfield (v := .ref (B + 9)) i131_57 rfl (bM_fld (j := 0) (fs := mF B s) rfl rfl) ?_
  refine gm_ev.bipush (v := 9) i131_60 (by decide) ?_
  refine gm_ev.iload_n i131_62 rfl ?_
  refine gm_ev.imul i131_63 ?_
  refine gm_ev.iload i131_64 rfl ?_
  refine gm_ev.iadd i131_66 ?_
  refine gm_ev.aload_n i131_67 rfl ?_
  refine gm_ev.getfield (v := .ref (B + 9)) i131_68 rfl (bM_fld (j := 0) (fs := mF B s) rfl rfl) ?_
  refine gm_ev.bipush (v := 9) i131_71 (by decide) ?_
  refine gm_ev.iload_n i131_73 rfl ?_
  refine gm_ev.imul i131_74 ?_
  refine gm_ev.iconst (v := 3) i131_75 (by decide) ?_
  refine gm_ev.iload i131_76 rfl ?_
  refine gm_ev.imul i131_78 ?_
  refine gm_ev.iadd i131_79 ?_
  refine gm_ev.iaload i131_80 (bM_ai (j := 9) (n := 1296) (f := s.2.1 17) rfl ek2 lk2 (by decide)) ?_
  refine gm_ev.iastore (M' := (bM B (mH B (mA s 17 (upd (s.2.1 17) k3 (s.2.1 17 k2)))) G)) i131_81 (bM_asti (j := 9) (n := 1296) (f := s.2.1 17) rfl ek3 lk3 (by decide) hN rfl) ?_
  refine gm_ev.iinc (v := x4 + (-1 : Int32)) (ls' := [some (.ref B), some (.int x1), some (.int x2), some (.int x3), some (.int (x4 + (-1 : Int32)))]) i131_82 rfl (by rfl) rfl ?_
  refine gm_ev.goto (tgt := 51) i131_85 (by decide) ?_
  exact k
theorem r_literal_0_tttt {N0 : Nat} {K : Nat → Nat} {d B : Nat} {s : mS} {G : gm_H} {sz sl : Nat} {p0 : Int32} {k1 : Nat} {r2 : Int32} {s4 : mS} {r6 : Int32} {r8 : Int32} {r11 : Int32} {s13 : mS} {r15 : Int32} (hN : N0 ≤ B) (ek1 : p0 = nI k1) (lk1 : k1 < 144) (t3 : gm_to N0 K ra_nm (ra_mt K) d 128 [.ref B, .int (126 : Int32)] (bM B (mH B (mA s 13 (upd (s.2.1 13) k1 (0 : Int32)))) G) sz (.returned (some (.int r2)), bM B (mH B s4) G, sz, 0)) (c5 : r2 = 0) (t7 : gm_to N0 K ra_nm (ra_mt K) d 123 [.ref B] (bM B (mH B s4) G) sz (.returned (some (.int r6)), bM B (mH B s4) G, sz, 0)) (t9 : gm_to N0 K ra_nm (ra_mt K) d 124 [.int r6] (bM B (mH B s4) G) sz (.returned (some (.int r8)), bM B (mH B s4) G, sz, 0)) (c10 : ¬ r8 = 0) (t12 : gm_to N0 K ra_nm (ra_mt K) d 130 [.ref B, .int p0] (bM B (mH B s4) G) sz (.returned (some (.int r11)), bM B (mH B s13) G, sz, 0)) (c14 : ¬ r11 = 0) (t16 : gm_to N0 K ra_nm (ra_mt K) d 123 [.ref B] (bM B (mH B s13) G) sz (.returned (some (.int r15)), bM B (mH B s13) G, sz, 0)) (c17 : ¬ r15 = (35 : Int32)) : gm_ev N0 K ra_nm (ra_mt K) d (some .boolean) (gm_I cX12_literal) (gm_lkf (lkX12 false K)) 0 [some (.ref B), some (.int p0), none] [] (bM B (mH B s) G) sz sl (.returned (some (.int (1 : Int32))), (bM B (mH B s13) G), sz, sl) := by
  refine gm_ev.aload_n i132_0 rfl ?_
  refine gm_ev.getfield (v := .ref (B + 5)) i132_1 rfl (bM_fld (j := 0) (fs := mF B s) rfl rfl) ?_
  refine gm_ev.iload_n i132_4 rfl ?_
  refine gm_ev.iconst (v := 0) i132_5 (by decide) ?_
  refine gm_ev.iastore (M' := (bM B (mH B (mA s 13 (upd (s.2.1 13) k1 (0 : Int32)))) G)) i132_6 (bM_asti (j := 5) (n := 144) (f := s.2.1 13) rfl ek1 lk1 (by decide) hN rfl) ?_
  refine gm_ev.aload_n i132_7 rfl ?_
  refine gm_ev.bipush (v := 126) i132_8 (by decide) ?_
  refine gm_ev.callV gm_mono_run (av := [.int (126 : Int32)]) (r := []) (ci := 11) (fs := mF B (mA s 13 (upd (s.2.1 13) k1 (0 : Int32)))) (bM_get (j := 0) rfl) i132_10 rfl rfl rfl (Nat.le_of_ble_eq_true rfl) t3 ?_
  refine gm_ev.if_eq_t (tgt := 29) i132_13 (by decide) c5 ?_
  refine gm_ev.aload_n i132_29 rfl ?_
  refine gm_ev.callV gm_mono_run (av := []) (r := []) (ci := 11) (fs := mF B s4) (bM_get (j := 0) rfl) i132_30 rfl rfl rfl (Nat.le_of_ble_eq_true rfl) t7 ?_
  refine gm_ev.istore_n (ls' := [some (.ref B), some (.int p0), some (.int r6)]) i132_33 (Nat.le_of_ble_eq_true rfl) rfl ?_
  refine gm_ev.iload_n i132_34 rfl ?_
  refine gm_ev.callS gm_mono_run (av := [.int r6]) (r := []) i132_35 rfl rfl rfl (Nat.le_of_ble_eq_true rfl) t9 ?_
  refine gm_ev.if_ne_t (tgt := 48) i132_38 (by decide) c10 ?_
  refine gm_ev.aload_n i132_48 rfl ?_
  refine gm_ev.iload_n i132_49 rfl ?_
  refine gm_ev.callV gm_mono_run (av := [.int p0]) (r := []) (ci := 11) (fs := mF B s4) (bM_get (j := 0) rfl) i132_50 rfl rfl rfl (Nat.le_of_ble_eq_true rfl) t12 ?_
  refine gm_ev.if_ne_t (tgt := 58) i132_53 (by decide) c14 ?_
  refine gm_ev.aload_n i132_58 rfl ?_
  refine gm_ev.callV gm_mono_run (av := []) (r := []) (ci := 11) (fs := mF B s13) (bM_get (j := 0) rfl) i132_59 rfl rfl rfl (Nat.le_of_ble_eq_true rfl) t16 ?_
  refine gm_ev.bipush (v := 35) i132_62 (by decide) ?_
  refine gm_ev.icmp_ne_t (tgt := 82) i132_64 (by decide) c17 ?_
  refine gm_ev.iconst (v := 1) i132_82 (by decide) ?_
  exact gm_ev.zret i132_83 rfl (by decide)
theorem r_literal_0_tttft {N0 : Nat} {K : Nat → Nat} {d B : Nat} {s : mS} {G : gm_H} {sz sl : Nat} {p0 : Int32} {k1 : Nat} {r2 : Int32} {s4 : mS} {r6 : Int32} {r8 : Int32} {r11 : Int32} {s13 : mS} {r15 : Int32} {r18 : Int32} (hN : N0 ≤ B) (ek1 : p0 = nI k1) (lk1 : k1 < 144) (t3 : gm_to N0 K ra_nm (ra_mt K) d 128 [.ref B, .int (126 : Int32)] (bM B (mH B (mA s 13 (upd (s.2.1 13) k1 (0 : Int32)))) G) sz (.returned (some (.int r2)), bM B (mH B s4) G, sz, 0)) (c5 : r2 = 0) (t7 : gm_to N0 K ra_nm (ra_mt K) d 123 [.ref B] (bM B (mH B s4) G) sz (.returned (some (.int r6)), bM B (mH B s4) G, sz, 0)) (t9 : gm_to N0 K ra_nm (ra_mt K) d 124 [.int r6] (bM B (mH B s4) G) sz (.returned (some (.int r8)), bM B (mH B s4) G, sz, 0)) (c10 : ¬ r8 = 0) (t12 : gm_to N0 K ra_nm (ra_mt K) d 130 [.ref B, .int p0] (bM B (mH B s4) G) sz (.returned (some (.int r11)), bM B (mH B s13) G, sz, 0)) (c14 : ¬ r11 = 0) (t16 : gm_to N0 K ra_nm (ra_mt K) d 123 [.ref B] (bM B (mH B s13) G) sz (.returned (some (.int r15)), bM B (mH B s13) G, sz, 0)) (c17 : r15 = (35 : Int32)) (t19 : gm_to N0 K ra_nm (ra_mt K) d 124 [.int r6] (bM B (mH B s13) G) sz (.returned (some (.int r18)), bM B (mH B s13) G, sz, 0)) (c20 : r18 = 0) : gm_ev N0 K ra_nm (ra_mt K) d (some .boolean) (gm_I cX12_literal) (gm_lkf (lkX12 false K)) 0 [some (.ref B), some (.int p0), none] [] (bM B (mH B s) G) sz sl (.returned (some (.int (1 : Int32))), (bM B (mH B s13) G), sz, sl) := by
  refine gm_ev.aload_n i132_0 rfl ?_
  refine gm_ev.getfield (v := .ref (B + 5)) i132_1 rfl (bM_fld (j := 0) (fs := mF B s) rfl rfl) ?_
  refine gm_ev.iload_n i132_4 rfl ?_
  refine gm_ev.iconst (v := 0) i132_5 (by decide) ?_
  refine gm_ev.iastore (M' := (bM B (mH B (mA s 13 (upd (s.2.1 13) k1 (0 : Int32)))) G)) i132_6 (bM_asti (j := 5) (n := 144) (f := s.2.1 13) rfl ek1 lk1 (by decide) hN rfl) ?_
  refine gm_ev.aload_n i132_7 rfl ?_
  refine gm_ev.bipush (v := 126) i132_8 (by decide) ?_
  refine gm_ev.callV gm_mono_run (av := [.int (126 : Int32)]) (r := []) (ci := 11) (fs := mF B (mA s 13 (upd (s.2.1 13) k1 (0 : Int32)))) (bM_get (j := 0) rfl) i132_10 rfl rfl rfl (Nat.le_of_ble_eq_true rfl) t3 ?_
  refine gm_ev.if_eq_t (tgt := 29) i132_13 (by decide) c5 ?_
  refine gm_ev.aload_n i132_29 rfl ?_
  refine gm_ev.callV gm_mono_run (av := []) (r := []) (ci := 11) (fs := mF B s4) (bM_get (j := 0) rfl) i132_30 rfl rfl rfl (Nat.le_of_ble_eq_true rfl) t7 ?_
  refine gm_ev.istore_n (ls' := [some (.ref B), some (.int p0), some (.int r6)]) i132_33 (Nat.le_of_ble_eq_true rfl) rfl ?_
  refine gm_ev.iload_n i132_34 rfl ?_
  refine gm_ev.callS gm_mono_run (av := [.int r6]) (r := []) i132_35 rfl rfl rfl (Nat.le_of_ble_eq_true rfl) t9 ?_
  refine gm_ev.if_ne_t (tgt := 48) i132_38 (by decide) c10 ?_
  refine gm_ev.aload_n i132_48 rfl ?_
  refine gm_ev.iload_n i132_49 rfl ?_
  refine gm_ev.callV gm_mono_run (av := [.int p0]) (r := []) (ci := 11) (fs := mF B s4) (bM_get (j := 0) rfl) i132_50 rfl rfl rfl (Nat.le_of_ble_eq_true rfl) t12 ?_
  refine gm_ev.if_ne_t (tgt := 58) i132_53 (by decide) c14 ?_
  refine gm_ev.aload_n i132_58 rfl ?_
  refine gm_ev.callV gm_mono_run (av := []) (r := []) (ci := 11) (fs := mF B s13) (bM_get (j := 0) rfl) i132_59 rfl rfl rfl (Nat.le_of_ble_eq_true rfl) t16 ?_
  refine gm_ev.bipush (v := 35) i132_62 (by decide) ?_
  refine gm_ev.icmp_ne_f i132_64 c17 ?_
  refine gm_ev.iload_n i132_67 rfl ?_
  refine gm_ev.callS gm_mono_run (av := [.int r6]) (r := []) i132_68 rfl rfl rfl (Nat.le_of_ble_eq_true rfl) t19 ?_
  refine gm_ev.if_eq_t (tgt := 82) i132_71 (by decide) c20 ?_
  refine gm_ev.iconst (v := 1) i132_82 (by decide) ?_
  exact gm_ev.zret i132_83 rfl (by decide)
theorem r_literal_0_tttfftt {N0 : Nat} {K : Nat → Nat} {d B : Nat} {s : mS} {G : gm_H} {sz sl : Nat} {p0 : Int32} {k1 : Nat} {r2 : Int32} {s4 : mS} {r6 : Int32} {r8 : Int32} {r11 : Int32} {s13 : mS} {r15 : Int32} {r18 : Int32} {r21 : Int32} {s23 : mS} {k25 : Nat} {r26 : Int32} {s28 : mS} (hN : N0 ≤ B) (ek1 : p0 = nI k1) (lk1 : k1 < 144) (t3 : gm_to N0 K ra_nm (ra_mt K) d 128 [.ref B, .int (126 : Int32)] (bM B (mH B (mA s 13 (upd (s.2.1 13) k1 (0 : Int32)))) G) sz (.returned (some (.int r2)), bM B (mH B s4) G, sz, 0)) (c5 : r2 = 0) (t7 : gm_to N0 K ra_nm (ra_mt K) d 123 [.ref B] (bM B (mH B s4) G) sz (.returned (some (.int r6)), bM B (mH B s4) G, sz, 0)) (t9 : gm_to N0 K ra_nm (ra_mt K) d 124 [.int r6] (bM B (mH B s4) G) sz (.returned (some (.int r8)), bM B (mH B s4) G, sz, 0)) (c10 : ¬ r8 = 0) (t12 : gm_to N0 K ra_nm (ra_mt K) d 130 [.ref B, .int p0] (bM B (mH B s4) G) sz (.returned (some (.int r11)), bM B (mH B s13) G, sz, 0)) (c14 : ¬ r11 = 0) (t16 : gm_to N0 K ra_nm (ra_mt K) d 123 [.ref B] (bM B (mH B s13) G) sz (.returned (some (.int r15)), bM B (mH B s13) G, sz, 0)) (c17 : r15 = (35 : Int32)) (t19 : gm_to N0 K ra_nm (ra_mt K) d 124 [.int r6] (bM B (mH B s13) G) sz (.returned (some (.int r18)), bM B (mH B s13) G, sz, 0)) (c20 : ¬ r18 = 0) (t22 : gm_to N0 K ra_nm (ra_mt K) d 131 [.ref B, .int p0] (bM B (mH B s13) G) sz (.returned (some (.int r21)), bM B (mH B s23) G, sz, 0)) (c24 : ¬ r21 = 0) (ek25 : p0 = nI k25) (lk25 : k25 < 144) (t27 : gm_to N0 K ra_nm (ra_mt K) d 128 [.ref B, .int (35 : Int32)] (bM B (mH B (mA s23 13 (upd (s23.2.1 13) k25 (2 : Int32)))) G) sz (.returned (some (.int r26)), bM B (mH B s28) G, sz, 0)) (c29 : r26 = 0) : gm_ev N0 K ra_nm (ra_mt K) d (some .boolean) (gm_I cX12_literal) (gm_lkf (lkX12 false K)) 0 [some (.ref B), some (.int p0), none] [] (bM B (mH B s) G) sz sl (.returned (some (.int (0 : Int32))), (bM B (mH B s28) G), sz, sl) := by
  refine gm_ev.aload_n i132_0 rfl ?_
  refine gm_ev.getfield (v := .ref (B + 5)) i132_1 rfl (bM_fld (j := 0) (fs := mF B s) rfl rfl) ?_
  refine gm_ev.iload_n i132_4 rfl ?_
  refine gm_ev.iconst (v := 0) i132_5 (by decide) ?_
  refine gm_ev.iastore (M' := (bM B (mH B (mA s 13 (upd (s.2.1 13) k1 (0 : Int32)))) G)) i132_6 (bM_asti (j := 5) (n := 144) (f := s.2.1 13) rfl ek1 lk1 (by decide) hN rfl) ?_
  refine gm_ev.aload_n i132_7 rfl ?_
  refine gm_ev.bipush (v := 126) i132_8 (by decide) ?_
  refine gm_ev.callV gm_mono_run (av := [.int (126 : Int32)]) (r := []) (ci := 11) (fs := mF B (mA s 13 (upd (s.2.1 13) k1 (0 : Int32)))) (bM_get (j := 0) rfl) i132_10 rfl rfl rfl (Nat.le_of_ble_eq_true rfl) t3 ?_
  refine gm_ev.if_eq_t (tgt := 29) i132_13 (by decide) c5 ?_
  refine gm_ev.aload_n i132_29 rfl ?_
  refine gm_ev.callV gm_mono_run (av := []) (r := []) (ci := 11) (fs := mF B s4) (bM_get (j := 0) rfl) i132_30 rfl rfl rfl (Nat.le_of_ble_eq_true rfl) t7 ?_
  refine gm_ev.istore_n (ls' := [some (.ref B), some (.int p0), some (.int r6)]) i132_33 (Nat.le_of_ble_eq_true rfl) rfl ?_
  refine gm_ev.iload_n i132_34 rfl ?_
  refine gm_ev.callS gm_mono_run (av := [.int r6]) (r := []) i132_35 rfl rfl rfl (Nat.le_of_ble_eq_true rfl) t9 ?_
  refine gm_ev.if_ne_t (tgt := 48) i132_38 (by decide) c10 ?_
  refine gm_ev.aload_n i132_48 rfl ?_
  refine gm_ev.iload_n i132_49 rfl ?_
  refine gm_ev.callV gm_mono_run (av := [.int p0]) (r := []) (ci := 11) (fs := mF B s4) (bM_get (j := 0) rfl) i132_50 rfl rfl rfl (Nat.le_of_ble_eq_true rfl) t12 ?_
  refine gm_ev.if_ne_t (tgt := 58) i132_53 (by decide) c14 ?_
  refine gm_ev.aload_n i132_58 rfl ?_
  refine gm_ev.callV gm_mono_run (av := []) (r := []) (ci := 11) (fs := mF B s13) (bM_get (j := 0) rfl) i132_59 rfl rfl rfl (Nat.le_of_ble_eq_true rfl) t16 ?_
  refine gm_ev.bipush (v := 35) i132_62 (by decide) ?_
  refine gm_ev.icmp_ne_f i132_64 c17 ?_
  refine gm_ev.iload_n i132_67 rfl ?_
  refine gm_ev.callS gm_mono_run (av := [.int r6]) (r := []) i132_68 rfl rfl rfl (Nat.le_of_ble_eq_true rfl) t19 ?_
  refine gm_ev.if_eq_f i132_71 c20 ?_
  refine gm_ev.aload_n i132_74 rfl ?_
  refine gm_ev.iload_n i132_75 rfl ?_
  refine gm_ev.callV gm_mono_run (av := [.int p0]) (r := []) (ci := 11) (fs := mF B s13) (bM_get (j := 0) rfl) i132_76 rfl rfl rfl (Nat.le_of_ble_eq_true rfl) t22 ?_
  refine gm_ev.if_ne_t (tgt := 96) i132_79 (by decide) c24 ?_
  refine gm_ev.aload_n i132_96 rfl ?_
  refine gm_ev.getfield (v := .ref (B + 5)) i132_97 rfl (bM_fld (j := 0) (fs := mF B s23) rfl rfl) ?_
  refine gm_ev.iload_n i132_100 rfl ?_
  refine gm_ev.iconst (v := 2) i132_101 (by decide) ?_
  refine gm_ev.iastore (M' := (bM B (mH B (mA s23 13 (upd (s23.2.1 13) k25 (2 : Int32)))) G)) i132_102 (bM_asti (j := 5) (n := 144) (f := s23.2.1 13) rfl ek25 lk25 (by decide) hN rfl) ?_
  refine gm_ev.aload_n i132_103 rfl ?_
  refine gm_ev.bipush (v := 35) i132_104 (by decide) ?_
  refine gm_ev.callV gm_mono_run (av := [.int (35 : Int32)]) (r := []) (ci := 11) (fs := mF B (mA s23 13 (upd (s23.2.1 13) k25 (2 : Int32)))) (bM_get (j := 0) rfl) i132_106 rfl rfl rfl (Nat.le_of_ble_eq_true rfl) t27 ?_
  refine gm_ev.if_eq_t (tgt := 128) i132_109 (by decide) c29 ?_
  refine gm_ev.iconst (v := 0) i132_128 (by decide) ?_
  exact gm_ev.zret i132_129 rfl (by decide)
theorem r_literal_0_tttfftft {N0 : Nat} {K : Nat → Nat} {d B : Nat} {s : mS} {G : gm_H} {sz sl : Nat} {p0 : Int32} {k1 : Nat} {r2 : Int32} {s4 : mS} {r6 : Int32} {r8 : Int32} {r11 : Int32} {s13 : mS} {r15 : Int32} {r18 : Int32} {r21 : Int32} {s23 : mS} {k25 : Nat} {r26 : Int32} {s28 : mS} {r30 : Int32} {s32 : mS} (hN : N0 ≤ B) (ek1 : p0 = nI k1) (lk1 : k1 < 144) (t3 : gm_to N0 K ra_nm (ra_mt K) d 128 [.ref B, .int (126 : Int32)] (bM B (mH B (mA s 13 (upd (s.2.1 13) k1 (0 : Int32)))) G) sz (.returned (some (.int r2)), bM B (mH B s4) G, sz, 0)) (c5 : r2 = 0) (t7 : gm_to N0 K ra_nm (ra_mt K) d 123 [.ref B] (bM B (mH B s4) G) sz (.returned (some (.int r6)), bM B (mH B s4) G, sz, 0)) (t9 : gm_to N0 K ra_nm (ra_mt K) d 124 [.int r6] (bM B (mH B s4) G) sz (.returned (some (.int r8)), bM B (mH B s4) G, sz, 0)) (c10 : ¬ r8 = 0) (t12 : gm_to N0 K ra_nm (ra_mt K) d 130 [.ref B, .int p0] (bM B (mH B s4) G) sz (.returned (some (.int r11)), bM B (mH B s13) G, sz, 0)) (c14 : ¬ r11 = 0) (t16 : gm_to N0 K ra_nm (ra_mt K) d 123 [.ref B] (bM B (mH B s13) G) sz (.returned (some (.int r15)), bM B (mH B s13) G, sz, 0)) (c17 : r15 = (35 : Int32)) (t19 : gm_to N0 K ra_nm (ra_mt K) d 124 [.int r6] (bM B (mH B s13) G) sz (.returned (some (.int r18)), bM B (mH B s13) G, sz, 0)) (c20 : ¬ r18 = 0) (t22 : gm_to N0 K ra_nm (ra_mt K) d 131 [.ref B, .int p0] (bM B (mH B s13) G) sz (.returned (some (.int r21)), bM B (mH B s23) G, sz, 0)) (c24 : ¬ r21 = 0) (ek25 : p0 = nI k25) (lk25 : k25 < 144) (t27 : gm_to N0 K ra_nm (ra_mt K) d 128 [.ref B, .int (35 : Int32)] (bM B (mH B (mA s23 13 (upd (s23.2.1 13) k25 (2 : Int32)))) G) sz (.returned (some (.int r26)), bM B (mH B s28) G, sz, 0)) (c29 : ¬ r26 = 0) (t31 : gm_to N0 K ra_nm (ra_mt K) d 129 [.ref B, .int (((3 : Int32) * p0) + (1 : Int32))] (bM B (mH B s28) G) sz (.returned (some (.int r30)), bM B (mH B s32) G, sz, 0)) (c33 : r30 = 0) : gm_ev N0 K ra_nm (ra_mt K) d (some .boolean) (gm_I cX12_literal) (gm_lkf (lkX12 false K)) 0 [some (.ref B), some (.int p0), none] [] (bM B (mH B s) G) sz sl (.returned (some (.int (0 : Int32))), (bM B (mH B s32) G), sz, sl) := by
  refine gm_ev.aload_n i132_0 rfl ?_
  refine gm_ev.getfield (v := .ref (B + 5)) i132_1 rfl (bM_fld (j := 0) (fs := mF B s) rfl rfl) ?_
  refine gm_ev.iload_n i132_4 rfl ?_
  refine gm_ev.iconst (v := 0) i132_5 (by decide) ?_
  refine gm_ev.iastore (M' := (bM B (mH B (mA s 13 (upd (s.2.1 13) k1 (0 : Int32)))) G)) i132_6 (bM_asti (j := 5) (n := 144) (f := s.2.1 13) rfl ek1 lk1 (by decide) hN rfl) ?_
  refine gm_ev.aload_n i132_7 rfl ?_
  refine gm_ev.bipush (v := 126) i132_8 (by decide) ?_
  refine gm_ev.callV gm_mono_run (av := [.int (126 : Int32)]) (r := []) (ci := 11) (fs := mF B (mA s 13 (upd (s.2.1 13) k1 (0 : Int32)))) (bM_get (j := 0) rfl) i132_10 rfl rfl rfl (Nat.le_of_ble_eq_true rfl) t3 ?_
  refine gm_ev.if_eq_t (tgt := 29) i132_13 (by decide) c5 ?_
  refine gm_ev.aload_n i132_29 rfl ?_
  refine gm_ev.callV gm_mono_run (av := []) (r := []) (ci := 11) (fs := mF B s4) (bM_get (j := 0) rfl) i132_30 rfl rfl rfl (Nat.le_of_ble_eq_true rfl) t7 ?_
  refine gm_ev.istore_n (ls' := [some (.ref B), some (.int p0), some (.int r6)]) i132_33 (Nat.le_of_ble_eq_true rfl) rfl ?_
  refine gm_ev.iload_n i132_34 rfl ?_
  refine gm_ev.callS gm_mono_run (av := [.int r6]) (r := []) i132_35 rfl rfl rfl (Nat.le_of_ble_eq_true rfl) t9 ?_
  refine gm_ev.if_ne_t (tgt := 48) i132_38 (by decide) c10 ?_
  refine gm_ev.aload_n i132_48 rfl ?_
  refine gm_ev.iload_n i132_49 rfl ?_
  refine gm_ev.callV gm_mono_run (av := [.int p0]) (r := []) (ci := 11) (fs := mF B s4) (bM_get (j := 0) rfl) i132_50 rfl rfl rfl (Nat.le_of_ble_eq_true rfl) t12 ?_
  refine gm_ev.if_ne_t (tgt := 58) i132_53 (by decide) c14 ?_
  refine gm_ev.aload_n i132_58 rfl ?_
  refine gm_ev.callV gm_mono_run (av := []) (r := []) (ci := 11) (fs := mF B s13) (bM_get (j := 0) rfl) i132_59 rfl rfl rfl (Nat.le_of_ble_eq_true rfl) t16 ?_
  refine gm_ev.bipush (v := 35) i132_62 (by decide) ?_
  refine gm_ev.icmp_ne_f i132_64 c17 ?_
  refine gm_ev.iload_n i132_67 rfl ?_
  refine gm_ev.callS gm_mono_run (av := [.int r6]) (r := []) i132_68 rfl rfl rfl (Nat.le_of_ble_eq_true rfl) t19 ?_
  refine gm_ev.if_eq_f i132_71 c20 ?_
  refine gm_ev.aload_n i132_74 rfl ?_
  refine gm_ev.iload_n i132_75 rfl ?_
  refine gm_ev.callV gm_mono_run (av := [.int p0]) (r := []) (ci := 11) (fs := mF B s13) (bM_get (j := 0) rfl) i132_76 rfl rfl rfl (Nat.le_of_ble_eq_true rfl) t22 ?_
  refine gm_ev.if_ne_t (tgt := 96) i132_79 (by decide) c24 ?_
  refine gm_ev.aload_n i132_96 rfl ?_
  refine gm_ev.getfield (v := .ref (B + 5)) i132_97 rfl (bM_fld (j := 0) (fs := mF B s23) rfl rfl) ?_
  refine gm_ev.iload_n i132_100 rfl ?_
  refine gm_ev.iconst (v := 2) i132_101 (by decide) ?_
  refine gm_ev.iastore (M' := (bM B (mH B (mA s23 13 (upd (s23.2.1 13) k25 (2 : Int32)))) G)) i132_102 (bM_asti (j := 5) (n := 144) (f := s23.2.1 13) rfl ek25 lk25 (by decide) hN rfl) ?_
  refine gm_ev.aload_n i132_103 rfl ?_
  refine gm_ev.bipush (v := 35) i132_104 (by decide) ?_
  refine gm_ev.callV gm_mono_run (av := [.int (35 : Int32)]) (r := []) (ci := 11) (fs := mF B (mA s23 13 (upd (s23.2.1 13) k25 (2 : Int32)))) (bM_get (j := 0) rfl) i132_106 rfl rfl rfl (Nat.le_of_ble_eq_true rfl) t27 ?_
  refine gm_ev.if_eq_f i132_109 c29 ?_
  refine gm_ev.aload_n i132_112 rfl ?_
  refine gm_ev.iconst (v := 3) i132_113 (by decide) ?_
  refine gm_ev.iload_n i132_114 rfl ?_
  refine gm_ev.imul i132_115 ?_
  refine gm_ev.iconst (v := 1) i132_116 (by decide) ?_
  refine gm_ev.iadd i132_117 ?_
  refine gm_ev.callV gm_mono_run (av := [.int (((3 : Int32) * p0) + (1 : Int32))]) (r := []) (ci := 11) (fs := mF B s28) (bM_get (j := 0) rfl) i132_118 rfl rfl rfl (Nat.le_of_ble_eq_true rfl) t31 ?_
  refine gm_ev.if_eq_t (tgt := 128) i132_121 (by decide) c33 ?_
  refine gm_ev.iconst (v := 0) i132_128 (by decide) ?_
  exact gm_ev.zret i132_129 rfl (by decide)
theorem r_literal_0_tttfftff {N0 : Nat} {K : Nat → Nat} {d B : Nat} {s : mS} {G : gm_H} {sz sl : Nat} {p0 : Int32} {k1 : Nat} {r2 : Int32} {s4 : mS} {r6 : Int32} {r8 : Int32} {r11 : Int32} {s13 : mS} {r15 : Int32} {r18 : Int32} {r21 : Int32} {s23 : mS} {k25 : Nat} {r26 : Int32} {s28 : mS} {r30 : Int32} {s32 : mS} (hN : N0 ≤ B) (ek1 : p0 = nI k1) (lk1 : k1 < 144) (t3 : gm_to N0 K ra_nm (ra_mt K) d 128 [.ref B, .int (126 : Int32)] (bM B (mH B (mA s 13 (upd (s.2.1 13) k1 (0 : Int32)))) G) sz (.returned (some (.int r2)), bM B (mH B s4) G, sz, 0)) (c5 : r2 = 0) (t7 : gm_to N0 K ra_nm (ra_mt K) d 123 [.ref B] (bM B (mH B s4) G) sz (.returned (some (.int r6)), bM B (mH B s4) G, sz, 0)) (t9 : gm_to N0 K ra_nm (ra_mt K) d 124 [.int r6] (bM B (mH B s4) G) sz (.returned (some (.int r8)), bM B (mH B s4) G, sz, 0)) (c10 : ¬ r8 = 0) (t12 : gm_to N0 K ra_nm (ra_mt K) d 130 [.ref B, .int p0] (bM B (mH B s4) G) sz (.returned (some (.int r11)), bM B (mH B s13) G, sz, 0)) (c14 : ¬ r11 = 0) (t16 : gm_to N0 K ra_nm (ra_mt K) d 123 [.ref B] (bM B (mH B s13) G) sz (.returned (some (.int r15)), bM B (mH B s13) G, sz, 0)) (c17 : r15 = (35 : Int32)) (t19 : gm_to N0 K ra_nm (ra_mt K) d 124 [.int r6] (bM B (mH B s13) G) sz (.returned (some (.int r18)), bM B (mH B s13) G, sz, 0)) (c20 : ¬ r18 = 0) (t22 : gm_to N0 K ra_nm (ra_mt K) d 131 [.ref B, .int p0] (bM B (mH B s13) G) sz (.returned (some (.int r21)), bM B (mH B s23) G, sz, 0)) (c24 : ¬ r21 = 0) (ek25 : p0 = nI k25) (lk25 : k25 < 144) (t27 : gm_to N0 K ra_nm (ra_mt K) d 128 [.ref B, .int (35 : Int32)] (bM B (mH B (mA s23 13 (upd (s23.2.1 13) k25 (2 : Int32)))) G) sz (.returned (some (.int r26)), bM B (mH B s28) G, sz, 0)) (c29 : ¬ r26 = 0) (t31 : gm_to N0 K ra_nm (ra_mt K) d 129 [.ref B, .int (((3 : Int32) * p0) + (1 : Int32))] (bM B (mH B s28) G) sz (.returned (some (.int r30)), bM B (mH B s32) G, sz, 0)) (c33 : ¬ r30 = 0) : gm_ev N0 K ra_nm (ra_mt K) d (some .boolean) (gm_I cX12_literal) (gm_lkf (lkX12 false K)) 0 [some (.ref B), some (.int p0), none] [] (bM B (mH B s) G) sz sl (.returned (some (.int (1 : Int32))), (bM B (mH B s32) G), sz, sl) := by
  refine gm_ev.aload_n i132_0 rfl ?_
  refine gm_ev.getfield (v := .ref (B + 5)) i132_1 rfl (bM_fld (j := 0) (fs := mF B s) rfl rfl) ?_
  refine gm_ev.iload_n i132_4 rfl ?_
  refine gm_ev.iconst (v := 0) i132_5 (by decide) ?_
  refine gm_ev.iastore (M' := (bM B (mH B (mA s 13 (upd (s.2.1 13) k1 (0 : Int32)))) G)) i132_6 (bM_asti (j := 5) (n := 144) (f := s.2.1 13) rfl ek1 lk1 (by decide) hN rfl) ?_
  refine gm_ev.aload_n i132_7 rfl ?_
  refine gm_ev.bipush (v := 126) i132_8 (by decide) ?_
  refine gm_ev.callV gm_mono_run (av := [.int (126 : Int32)]) (r := []) (ci := 11) (fs := mF B (mA s 13 (upd (s.2.1 13) k1 (0 : Int32)))) (bM_get (j := 0) rfl) i132_10 rfl rfl rfl (Nat.le_of_ble_eq_true rfl) t3 ?_
  refine gm_ev.if_eq_t (tgt := 29) i132_13 (by decide) c5 ?_
  refine gm_ev.aload_n i132_29 rfl ?_
  refine gm_ev.callV gm_mono_run (av := []) (r := []) (ci := 11) (fs := mF B s4) (bM_get (j := 0) rfl) i132_30 rfl rfl rfl (Nat.le_of_ble_eq_true rfl) t7 ?_
  refine gm_ev.istore_n (ls' := [some (.ref B), some (.int p0), some (.int r6)]) i132_33 (Nat.le_of_ble_eq_true rfl) rfl ?_
  refine gm_ev.iload_n i132_34 rfl ?_
  refine gm_ev.callS gm_mono_run (av := [.int r6]) (r := []) i132_35 rfl rfl rfl (Nat.le_of_ble_eq_true rfl) t9 ?_
  refine gm_ev.if_ne_t (tgt := 48) i132_38 (by decide) c10 ?_
  refine gm_ev.aload_n i132_48 rfl ?_
  refine gm_ev.iload_n i132_49 rfl ?_
  refine gm_ev.callV gm_mono_run (av := [.int p0]) (r := []) (ci := 11) (fs := mF B s4) (bM_get (j := 0) rfl) i132_50 rfl rfl rfl (Nat.le_of_ble_eq_true rfl) t12 ?_
  refine gm_ev.if_ne_t (tgt := 58) i132_53 (by decide) c14 ?_
  refine gm_ev.aload_n i132_58 rfl ?_
  refine gm_ev.callV gm_mono_run (av := []) (r := []) (ci := 11) (fs := mF B s13) (bM_get (j := 0) rfl) i132_59 rfl rfl rfl (Nat.le_of_ble_eq_true rfl) t16 ?_
  refine gm_ev.bipush (v := 35) i132_62 (by decide) ?_
  refine gm_ev.icmp_ne_f i132_64 c17 ?_
  refine gm_ev.iload_n i132_67 rfl ?_
  refine gm_ev.callS gm_mono_run (av := [.int r6]) (r := []) i132_68 rfl rfl rfl (Nat.le_of_ble_eq_true rfl) t19 ?_
  refine gm_ev.if_eq_f i132_71 c20 ?_
  refine gm_ev.aload_n i132_74 rfl ?_
  refine gm_ev.iload_n i132_75 rfl ?_
  refine gm_ev.callV gm_mono_run (av := [.int p0]) (r := []) (ci := 11) (fs := mF B s13) (bM_get (j := 0) rfl) i132_76 rfl rfl rfl (Nat.le_of_ble_eq_true rfl) t22 ?_
  refine gm_ev.if_ne_t (tgt := 96) i132_79 (by decide) c24 ?_
  refine gm_ev.aload_n i132_96 rfl ?_
  refine gm_ev.getfield (v := .ref (B + 5)) i132_97 rfl (bM_fld (j := 0) (fs := mF B s23) rfl rfl) ?_
  refine gm_ev.iload_n i132_100 rfl ?_
  refine gm_ev.iconst (v := 2) i132_101 (by decide) ?_
  refine gm_ev.iastore (M' := (bM B (mH B (mA s23 13 (upd (s23.2.1 13) k25 (2 : Int32)))) G)) i132_102 (bM_asti (j := 5) (n := 144) (f := s23.2.1 13) rfl ek25 lk25 (by decide) hN rfl) ?_
  refine gm_ev.aload_n i132_103 rfl ?_
  refine gm_ev.bipush (v := 35) i132_104 (by decide) ?_
  refine gm_ev.callV gm_mono_run (av := [.int (35 : Int32)]) (r := []) (ci := 11) (fs := mF B (mA s23 13 (upd (s23.2.1 13) k25 (2 : Int32)))) (bM_get (j := 0) rfl) i132_106 rfl rfl rfl (Nat.le_of_ble_eq_true rfl) t27 ?_
  refine gm_ev.if_eq_f i132_109 c29 ?_
  refine gm_ev.aload_n i132_112 rfl ?_
  refine gm_ev.iconst (v := 3) i132_113 (by decide) ?_
  refine gm_ev.iload_n i132_114 rfl ?_
  refine gm_ev.imul i132_115 ?_
  refine gm_ev.iconst (v := 1) i132_116 (by decide) ?_
  refine gm_ev.iadd i132_117 ?_
  refine gm_ev.callV gm_mono_run (av := [.int (((3 : Int32) * p0) + (1 : Int32))]) (r := []) (ci := 11) (fs := mF B s28) (bM_get (j := 0) rfl) i132_118 rfl rfl rfl (Nat.le_of_ble_eq_true rfl) t31 ?_
  refine gm_ev.if_eq_f i132_121 c33 ?_
  refine gm_ev.iconst (v := 1) i132_124 (by decide) ?_
  refine gm_ev.goto (tgt := 129) i132_125 (by decide) ?_
  exact gm_ev.zret i132_129 rfl (by decide)
theorem r_literal_0_tttfff {N0 : Nat} {K : Nat → Nat} {d B : Nat} {s : mS} {G : gm_H} {sz sl : Nat} {p0 : Int32} {k1 : Nat} {r2 : Int32} {s4 : mS} {r6 : Int32} {r8 : Int32} {r11 : Int32} {s13 : mS} {r15 : Int32} {r18 : Int32} {r21 : Int32} {s23 : mS} (hN : N0 ≤ B) (ek1 : p0 = nI k1) (lk1 : k1 < 144) (t3 : gm_to N0 K ra_nm (ra_mt K) d 128 [.ref B, .int (126 : Int32)] (bM B (mH B (mA s 13 (upd (s.2.1 13) k1 (0 : Int32)))) G) sz (.returned (some (.int r2)), bM B (mH B s4) G, sz, 0)) (c5 : r2 = 0) (t7 : gm_to N0 K ra_nm (ra_mt K) d 123 [.ref B] (bM B (mH B s4) G) sz (.returned (some (.int r6)), bM B (mH B s4) G, sz, 0)) (t9 : gm_to N0 K ra_nm (ra_mt K) d 124 [.int r6] (bM B (mH B s4) G) sz (.returned (some (.int r8)), bM B (mH B s4) G, sz, 0)) (c10 : ¬ r8 = 0) (t12 : gm_to N0 K ra_nm (ra_mt K) d 130 [.ref B, .int p0] (bM B (mH B s4) G) sz (.returned (some (.int r11)), bM B (mH B s13) G, sz, 0)) (c14 : ¬ r11 = 0) (t16 : gm_to N0 K ra_nm (ra_mt K) d 123 [.ref B] (bM B (mH B s13) G) sz (.returned (some (.int r15)), bM B (mH B s13) G, sz, 0)) (c17 : r15 = (35 : Int32)) (t19 : gm_to N0 K ra_nm (ra_mt K) d 124 [.int r6] (bM B (mH B s13) G) sz (.returned (some (.int r18)), bM B (mH B s13) G, sz, 0)) (c20 : ¬ r18 = 0) (t22 : gm_to N0 K ra_nm (ra_mt K) d 131 [.ref B, .int p0] (bM B (mH B s13) G) sz (.returned (some (.int r21)), bM B (mH B s23) G, sz, 0)) (c24 : r21 = 0) : gm_ev N0 K ra_nm (ra_mt K) d (some .boolean) (gm_I cX12_literal) (gm_lkf (lkX12 false K)) 0 [some (.ref B), some (.int p0), none] [] (bM B (mH B s) G) sz sl (.returned (some (.int (1 : Int32))), (bM B (mH B s23) G), sz, sl) := by
  refine gm_ev.aload_n i132_0 rfl ?_
  refine gm_ev.getfield (v := .ref (B + 5)) i132_1 rfl (bM_fld (j := 0) (fs := mF B s) rfl rfl) ?_
  refine gm_ev.iload_n i132_4 rfl ?_
  refine gm_ev.iconst (v := 0) i132_5 (by decide) ?_
  refine gm_ev.iastore (M' := (bM B (mH B (mA s 13 (upd (s.2.1 13) k1 (0 : Int32)))) G)) i132_6 (bM_asti (j := 5) (n := 144) (f := s.2.1 13) rfl ek1 lk1 (by decide) hN rfl) ?_
  refine gm_ev.aload_n i132_7 rfl ?_
  refine gm_ev.bipush (v := 126) i132_8 (by decide) ?_
  refine gm_ev.callV gm_mono_run (av := [.int (126 : Int32)]) (r := []) (ci := 11) (fs := mF B (mA s 13 (upd (s.2.1 13) k1 (0 : Int32)))) (bM_get (j := 0) rfl) i132_10 rfl rfl rfl (Nat.le_of_ble_eq_true rfl) t3 ?_
  refine gm_ev.if_eq_t (tgt := 29) i132_13 (by decide) c5 ?_
  refine gm_ev.aload_n i132_29 rfl ?_
  refine gm_ev.callV gm_mono_run (av := []) (r := []) (ci := 11) (fs := mF B s4) (bM_get (j := 0) rfl) i132_30 rfl rfl rfl (Nat.le_of_ble_eq_true rfl) t7 ?_
  refine gm_ev.istore_n (ls' := [some (.ref B), some (.int p0), some (.int r6)]) i132_33 (Nat.le_of_ble_eq_true rfl) rfl ?_
  refine gm_ev.iload_n i132_34 rfl ?_
  refine gm_ev.callS gm_mono_run (av := [.int r6]) (r := []) i132_35 rfl rfl rfl (Nat.le_of_ble_eq_true rfl) t9 ?_
  refine gm_ev.if_ne_t (tgt := 48) i132_38 (by decide) c10 ?_
  refine gm_ev.aload_n i132_48 rfl ?_
  refine gm_ev.iload_n i132_49 rfl ?_
  refine gm_ev.callV gm_mono_run (av := [.int p0]) (r := []) (ci := 11) (fs := mF B s4) (bM_get (j := 0) rfl) i132_50 rfl rfl rfl (Nat.le_of_ble_eq_true rfl) t12 ?_
  refine gm_ev.if_ne_t (tgt := 58) i132_53 (by decide) c14 ?_
  refine gm_ev.aload_n i132_58 rfl ?_
  refine gm_ev.callV gm_mono_run (av := []) (r := []) (ci := 11) (fs := mF B s13) (bM_get (j := 0) rfl) i132_59 rfl rfl rfl (Nat.le_of_ble_eq_true rfl) t16 ?_
  refine gm_ev.bipush (v := 35) i132_62 (by decide) ?_
  refine gm_ev.icmp_ne_f i132_64 c17 ?_
  refine gm_ev.iload_n i132_67 rfl ?_
  refine gm_ev.callS gm_mono_run (av := [.int r6]) (r := []) i132_68 rfl rfl rfl (Nat.le_of_ble_eq_true rfl) t19 ?_
  refine gm_ev.if_eq_f i132_71 c20 ?_
  refine gm_ev.aload_n i132_74 rfl ?_
  refine gm_ev.iload_n i132_75 rfl ?_
  refine gm_ev.callV gm_mono_run (av := [.int p0]) (r := []) (ci := 11) (fs := mF B s13) (bM_get (j := 0) rfl) i132_76 rfl rfl rfl (Nat.le_of_ble_eq_true rfl) t22 ?_
  refine gm_ev.if_ne_f i132_79 c24 ?_
  refine gm_ev.iconst (v := 1) i132_82 (by decide) ?_
  exact gm_ev.zret i132_83 rfl (by decide)
theorem r_literal_0_ttf {N0 : Nat} {K : Nat → Nat} {d B : Nat} {s : mS} {G : gm_H} {sz sl : Nat} {p0 : Int32} {k1 : Nat} {r2 : Int32} {s4 : mS} {r6 : Int32} {r8 : Int32} {r11 : Int32} {s13 : mS} (hN : N0 ≤ B) (ek1 : p0 = nI k1) (lk1 : k1 < 144) (t3 : gm_to N0 K ra_nm (ra_mt K) d 128 [.ref B, .int (126 : Int32)] (bM B (mH B (mA s 13 (upd (s.2.1 13) k1 (0 : Int32)))) G) sz (.returned (some (.int r2)), bM B (mH B s4) G, sz, 0)) (c5 : r2 = 0) (t7 : gm_to N0 K ra_nm (ra_mt K) d 123 [.ref B] (bM B (mH B s4) G) sz (.returned (some (.int r6)), bM B (mH B s4) G, sz, 0)) (t9 : gm_to N0 K ra_nm (ra_mt K) d 124 [.int r6] (bM B (mH B s4) G) sz (.returned (some (.int r8)), bM B (mH B s4) G, sz, 0)) (c10 : ¬ r8 = 0) (t12 : gm_to N0 K ra_nm (ra_mt K) d 130 [.ref B, .int p0] (bM B (mH B s4) G) sz (.returned (some (.int r11)), bM B (mH B s13) G, sz, 0)) (c14 : r11 = 0) : gm_ev N0 K ra_nm (ra_mt K) d (some .boolean) (gm_I cX12_literal) (gm_lkf (lkX12 false K)) 0 [some (.ref B), some (.int p0), none] [] (bM B (mH B s) G) sz sl (.returned (some (.int (0 : Int32))), (bM B (mH B s13) G), sz, sl) := by
  refine gm_ev.aload_n i132_0 rfl ?_
  refine gm_ev.getfield (v := .ref (B + 5)) i132_1 rfl (bM_fld (j := 0) (fs := mF B s) rfl rfl) ?_
  refine gm_ev.iload_n i132_4 rfl ?_
  refine gm_ev.iconst (v := 0) i132_5 (by decide) ?_
  refine gm_ev.iastore (M' := (bM B (mH B (mA s 13 (upd (s.2.1 13) k1 (0 : Int32)))) G)) i132_6 (bM_asti (j := 5) (n := 144) (f := s.2.1 13) rfl ek1 lk1 (by decide) hN rfl) ?_
  refine gm_ev.aload_n i132_7 rfl ?_
  refine gm_ev.bipush (v := 126) i132_8 (by decide) ?_
  refine gm_ev.callV gm_mono_run (av := [.int (126 : Int32)]) (r := []) (ci := 11) (fs := mF B (mA s 13 (upd (s.2.1 13) k1 (0 : Int32)))) (bM_get (j := 0) rfl) i132_10 rfl rfl rfl (Nat.le_of_ble_eq_true rfl) t3 ?_
  refine gm_ev.if_eq_t (tgt := 29) i132_13 (by decide) c5 ?_
  refine gm_ev.aload_n i132_29 rfl ?_
  refine gm_ev.callV gm_mono_run (av := []) (r := []) (ci := 11) (fs := mF B s4) (bM_get (j := 0) rfl) i132_30 rfl rfl rfl (Nat.le_of_ble_eq_true rfl) t7 ?_
  refine gm_ev.istore_n (ls' := [some (.ref B), some (.int p0), some (.int r6)]) i132_33 (Nat.le_of_ble_eq_true rfl) rfl ?_
  refine gm_ev.iload_n i132_34 rfl ?_
  refine gm_ev.callS gm_mono_run (av := [.int r6]) (r := []) i132_35 rfl rfl rfl (Nat.le_of_ble_eq_true rfl) t9 ?_
  refine gm_ev.if_ne_t (tgt := 48) i132_38 (by decide) c10 ?_
  refine gm_ev.aload_n i132_48 rfl ?_
  refine gm_ev.iload_n i132_49 rfl ?_
  refine gm_ev.callV gm_mono_run (av := [.int p0]) (r := []) (ci := 11) (fs := mF B s4) (bM_get (j := 0) rfl) i132_50 rfl rfl rfl (Nat.le_of_ble_eq_true rfl) t12 ?_
  refine gm_ev.if_ne_f i132_53 c14 ?_
  refine gm_ev.iconst (v := 0) i132_56 (by decide) ?_
  exact gm_ev.zret i132_57 rfl (by decide)
theorem r_literal_0_tfttt {N0 : Nat} {K : Nat → Nat} {d B : Nat} {s : mS} {G : gm_H} {sz sl : Nat} {p0 : Int32} {k1 : Nat} {r2 : Int32} {s4 : mS} {r6 : Int32} {r8 : Int32} {r11 : Int32} {r14 : Int32} {s16 : mS} {k18 : Nat} {r19 : Int32} {s21 : mS} (hN : N0 ≤ B) (ek1 : p0 = nI k1) (lk1 : k1 < 144) (t3 : gm_to N0 K ra_nm (ra_mt K) d 128 [.ref B, .int (126 : Int32)] (bM B (mH B (mA s 13 (upd (s.2.1 13) k1 (0 : Int32)))) G) sz (.returned (some (.int r2)), bM B (mH B s4) G, sz, 0)) (c5 : r2 = 0) (t7 : gm_to N0 K ra_nm (ra_mt K) d 123 [.ref B] (bM B (mH B s4) G) sz (.returned (some (.int r6)), bM B (mH B s4) G, sz, 0)) (t9 : gm_to N0 K ra_nm (ra_mt K) d 124 [.int r6] (bM B (mH B s4) G) sz (.returned (some (.int r8)), bM B (mH B s4) G, sz, 0)) (c10 : r8 = 0) (t12 : gm_to N0 K ra_nm (ra_mt K) d 127 [.int r6] (bM B (mH B s4) G) sz (.returned (some (.int r11)), bM B (mH B s4) G, sz, 0)) (c13 : r11 < 0) (t15 : gm_to N0 K ra_nm (ra_mt K) d 129 [.ref B, .int ((3 : Int32) * p0)] (bM B (mH B s4) G) sz (.returned (some (.int r14)), bM B (mH B s16) G, sz, 0)) (c17 : ¬ r14 = 0) (ek18 : p0 = nI k18) (lk18 : k18 < 144) (t20 : gm_to N0 K ra_nm (ra_mt K) d 128 [.ref B, .int (35 : Int32)] (bM B (mH B (mA s16 13 (upd (s16.2.1 13) k18 (2 : Int32)))) G) sz (.returned (some (.int r19)), bM B (mH B s21) G, sz, 0)) (c22 : r19 = 0) : gm_ev N0 K ra_nm (ra_mt K) d (some .boolean) (gm_I cX12_literal) (gm_lkf (lkX12 false K)) 0 [some (.ref B), some (.int p0), none] [] (bM B (mH B s) G) sz sl (.returned (some (.int (0 : Int32))), (bM B (mH B s21) G), sz, sl) := by
  refine gm_ev.aload_n i132_0 rfl ?_
  refine gm_ev.getfield (v := .ref (B + 5)) i132_1 rfl (bM_fld (j := 0) (fs := mF B s) rfl rfl) ?_
  refine gm_ev.iload_n i132_4 rfl ?_
  refine gm_ev.iconst (v := 0) i132_5 (by decide) ?_
  refine gm_ev.iastore (M' := (bM B (mH B (mA s 13 (upd (s.2.1 13) k1 (0 : Int32)))) G)) i132_6 (bM_asti (j := 5) (n := 144) (f := s.2.1 13) rfl ek1 lk1 (by decide) hN rfl) ?_
  refine gm_ev.aload_n i132_7 rfl ?_
  refine gm_ev.bipush (v := 126) i132_8 (by decide) ?_
  refine gm_ev.callV gm_mono_run (av := [.int (126 : Int32)]) (r := []) (ci := 11) (fs := mF B (mA s 13 (upd (s.2.1 13) k1 (0 : Int32)))) (bM_get (j := 0) rfl) i132_10 rfl rfl rfl (Nat.le_of_ble_eq_true rfl) t3 ?_
  refine gm_ev.if_eq_t (tgt := 29) i132_13 (by decide) c5 ?_
  refine gm_ev.aload_n i132_29 rfl ?_
  refine gm_ev.callV gm_mono_run (av := []) (r := []) (ci := 11) (fs := mF B s4) (bM_get (j := 0) rfl) i132_30 rfl rfl rfl (Nat.le_of_ble_eq_true rfl) t7 ?_
  refine gm_ev.istore_n (ls' := [some (.ref B), some (.int p0), some (.int r6)]) i132_33 (Nat.le_of_ble_eq_true rfl) rfl ?_
  refine gm_ev.iload_n i132_34 rfl ?_
  refine gm_ev.callS gm_mono_run (av := [.int r6]) (r := []) i132_35 rfl rfl rfl (Nat.le_of_ble_eq_true rfl) t9 ?_
  refine gm_ev.if_ne_f i132_38 c10 ?_
  refine gm_ev.iload_n i132_41 rfl ?_
  refine gm_ev.callS gm_mono_run (av := [.int r6]) (r := []) i132_42 rfl rfl rfl (Nat.le_of_ble_eq_true rfl) t12 ?_
  refine gm_ev.if_lt_t (tgt := 84) i132_45 (by decide) c13 ?_
  refine gm_ev.aload_n i132_84 rfl ?_
  refine gm_ev.iconst (v := 3) i132_85 (by decide) ?_
  refine gm_ev.iload_n i132_86 rfl ?_
  refine gm_ev.imul i132_87 ?_
  refine gm_ev.callV gm_mono_run (av := [.int ((3 : Int32) * p0)]) (r := []) (ci := 11) (fs := mF B s4) (bM_get (j := 0) rfl) i132_88 rfl rfl rfl (Nat.le_of_ble_eq_true rfl) t15 ?_
  refine gm_ev.if_ne_t (tgt := 96) i132_91 (by decide) c17 ?_
  refine gm_ev.aload_n i132_96 rfl ?_
  refine gm_ev.getfield (v := .ref (B + 5)) i132_97 rfl (bM_fld (j := 0) (fs := mF B s16) rfl rfl) ?_
  refine gm_ev.iload_n i132_100 rfl ?_
  refine gm_ev.iconst (v := 2) i132_101 (by decide) ?_
  refine gm_ev.iastore (M' := (bM B (mH B (mA s16 13 (upd (s16.2.1 13) k18 (2 : Int32)))) G)) i132_102 (bM_asti (j := 5) (n := 144) (f := s16.2.1 13) rfl ek18 lk18 (by decide) hN rfl) ?_
  refine gm_ev.aload_n i132_103 rfl ?_
  refine gm_ev.bipush (v := 35) i132_104 (by decide) ?_
  refine gm_ev.callV gm_mono_run (av := [.int (35 : Int32)]) (r := []) (ci := 11) (fs := mF B (mA s16 13 (upd (s16.2.1 13) k18 (2 : Int32)))) (bM_get (j := 0) rfl) i132_106 rfl rfl rfl (Nat.le_of_ble_eq_true rfl) t20 ?_
  refine gm_ev.if_eq_t (tgt := 128) i132_109 (by decide) c22 ?_
  refine gm_ev.iconst (v := 0) i132_128 (by decide) ?_
  exact gm_ev.zret i132_129 rfl (by decide)
theorem r_literal_0_tfttft {N0 : Nat} {K : Nat → Nat} {d B : Nat} {s : mS} {G : gm_H} {sz sl : Nat} {p0 : Int32} {k1 : Nat} {r2 : Int32} {s4 : mS} {r6 : Int32} {r8 : Int32} {r11 : Int32} {r14 : Int32} {s16 : mS} {k18 : Nat} {r19 : Int32} {s21 : mS} {r23 : Int32} {s25 : mS} (hN : N0 ≤ B) (ek1 : p0 = nI k1) (lk1 : k1 < 144) (t3 : gm_to N0 K ra_nm (ra_mt K) d 128 [.ref B, .int (126 : Int32)] (bM B (mH B (mA s 13 (upd (s.2.1 13) k1 (0 : Int32)))) G) sz (.returned (some (.int r2)), bM B (mH B s4) G, sz, 0)) (c5 : r2 = 0) (t7 : gm_to N0 K ra_nm (ra_mt K) d 123 [.ref B] (bM B (mH B s4) G) sz (.returned (some (.int r6)), bM B (mH B s4) G, sz, 0)) (t9 : gm_to N0 K ra_nm (ra_mt K) d 124 [.int r6] (bM B (mH B s4) G) sz (.returned (some (.int r8)), bM B (mH B s4) G, sz, 0)) (c10 : r8 = 0) (t12 : gm_to N0 K ra_nm (ra_mt K) d 127 [.int r6] (bM B (mH B s4) G) sz (.returned (some (.int r11)), bM B (mH B s4) G, sz, 0)) (c13 : r11 < 0) (t15 : gm_to N0 K ra_nm (ra_mt K) d 129 [.ref B, .int ((3 : Int32) * p0)] (bM B (mH B s4) G) sz (.returned (some (.int r14)), bM B (mH B s16) G, sz, 0)) (c17 : ¬ r14 = 0) (ek18 : p0 = nI k18) (lk18 : k18 < 144) (t20 : gm_to N0 K ra_nm (ra_mt K) d 128 [.ref B, .int (35 : Int32)] (bM B (mH B (mA s16 13 (upd (s16.2.1 13) k18 (2 : Int32)))) G) sz (.returned (some (.int r19)), bM B (mH B s21) G, sz, 0)) (c22 : ¬ r19 = 0) (t24 : gm_to N0 K ra_nm (ra_mt K) d 129 [.ref B, .int (((3 : Int32) * p0) + (1 : Int32))] (bM B (mH B s21) G) sz (.returned (some (.int r23)), bM B (mH B s25) G, sz, 0)) (c26 : r23 = 0) : gm_ev N0 K ra_nm (ra_mt K) d (some .boolean) (gm_I cX12_literal) (gm_lkf (lkX12 false K)) 0 [some (.ref B), some (.int p0), none] [] (bM B (mH B s) G) sz sl (.returned (some (.int (0 : Int32))), (bM B (mH B s25) G), sz, sl) := by
  refine gm_ev.aload_n i132_0 rfl ?_
  refine gm_ev.getfield (v := .ref (B + 5)) i132_1 rfl (bM_fld (j := 0) (fs := mF B s) rfl rfl) ?_
  refine gm_ev.iload_n i132_4 rfl ?_
  refine gm_ev.iconst (v := 0) i132_5 (by decide) ?_
  refine gm_ev.iastore (M' := (bM B (mH B (mA s 13 (upd (s.2.1 13) k1 (0 : Int32)))) G)) i132_6 (bM_asti (j := 5) (n := 144) (f := s.2.1 13) rfl ek1 lk1 (by decide) hN rfl) ?_
  refine gm_ev.aload_n i132_7 rfl ?_
  refine gm_ev.bipush (v := 126) i132_8 (by decide) ?_
  refine gm_ev.callV gm_mono_run (av := [.int (126 : Int32)]) (r := []) (ci := 11) (fs := mF B (mA s 13 (upd (s.2.1 13) k1 (0 : Int32)))) (bM_get (j := 0) rfl) i132_10 rfl rfl rfl (Nat.le_of_ble_eq_true rfl) t3 ?_
  refine gm_ev.if_eq_t (tgt := 29) i132_13 (by decide) c5 ?_
  refine gm_ev.aload_n i132_29 rfl ?_
  refine gm_ev.callV gm_mono_run (av := []) (r := []) (ci := 11) (fs := mF B s4) (bM_get (j := 0) rfl) i132_30 rfl rfl rfl (Nat.le_of_ble_eq_true rfl) t7 ?_
  refine gm_ev.istore_n (ls' := [some (.ref B), some (.int p0), some (.int r6)]) i132_33 (Nat.le_of_ble_eq_true rfl) rfl ?_
  refine gm_ev.iload_n i132_34 rfl ?_
  refine gm_ev.callS gm_mono_run (av := [.int r6]) (r := []) i132_35 rfl rfl rfl (Nat.le_of_ble_eq_true rfl) t9 ?_
  refine gm_ev.if_ne_f i132_38 c10 ?_
  refine gm_ev.iload_n i132_41 rfl ?_
  refine gm_ev.callS gm_mono_run (av := [.int r6]) (r := []) i132_42 rfl rfl rfl (Nat.le_of_ble_eq_true rfl) t12 ?_
  refine gm_ev.if_lt_t (tgt := 84) i132_45 (by decide) c13 ?_
  refine gm_ev.aload_n i132_84 rfl ?_
  refine gm_ev.iconst (v := 3) i132_85 (by decide) ?_
  refine gm_ev.iload_n i132_86 rfl ?_
  refine gm_ev.imul i132_87 ?_
  refine gm_ev.callV gm_mono_run (av := [.int ((3 : Int32) * p0)]) (r := []) (ci := 11) (fs := mF B s4) (bM_get (j := 0) rfl) i132_88 rfl rfl rfl (Nat.le_of_ble_eq_true rfl) t15 ?_
  refine gm_ev.if_ne_t (tgt := 96) i132_91 (by decide) c17 ?_
  refine gm_ev.aload_n i132_96 rfl ?_
  refine gm_ev.getfield (v := .ref (B + 5)) i132_97 rfl (bM_fld (j := 0) (fs := mF B s16) rfl rfl) ?_
  refine gm_ev.iload_n i132_100 rfl ?_
  refine gm_ev.iconst (v := 2) i132_101 (by decide) ?_
  refine gm_ev.iastore (M' := (bM B (mH B (mA s16 13 (upd (s16.2.1 13) k18 (2 : Int32)))) G)) i132_102 (bM_asti (j := 5) (n := 144) (f := s16.2.1 13) rfl ek18 lk18 (by decide) hN rfl) ?_
  refine gm_ev.aload_n i132_103 rfl ?_
  refine gm_ev.bipush (v := 35) i132_104 (by decide) ?_
  refine gm_ev.callV gm_mono_run (av := [.int (35 : Int32)]) (r := []) (ci := 11) (fs := mF B (mA s16 13 (upd (s16.2.1 13) k18 (2 : Int32)))) (bM_get (j := 0) rfl) i132_106 rfl rfl rfl (Nat.le_of_ble_eq_true rfl) t20 ?_
  refine gm_ev.if_eq_f i132_109 c22 ?_
  refine gm_ev.aload_n i132_112 rfl ?_
  refine gm_ev.iconst (v := 3) i132_113 (by decide) ?_
  refine gm_ev.iload_n i132_114 rfl ?_
  refine gm_ev.imul i132_115 ?_
  refine gm_ev.iconst (v := 1) i132_116 (by decide) ?_
  refine gm_ev.iadd i132_117 ?_
  refine gm_ev.callV gm_mono_run (av := [.int (((3 : Int32) * p0) + (1 : Int32))]) (r := []) (ci := 11) (fs := mF B s21) (bM_get (j := 0) rfl) i132_118 rfl rfl rfl (Nat.le_of_ble_eq_true rfl) t24 ?_
  refine gm_ev.if_eq_t (tgt := 128) i132_121 (by decide) c26 ?_
  refine gm_ev.iconst (v := 0) i132_128 (by decide) ?_
  exact gm_ev.zret i132_129 rfl (by decide)
theorem r_literal_0_tfttff {N0 : Nat} {K : Nat → Nat} {d B : Nat} {s : mS} {G : gm_H} {sz sl : Nat} {p0 : Int32} {k1 : Nat} {r2 : Int32} {s4 : mS} {r6 : Int32} {r8 : Int32} {r11 : Int32} {r14 : Int32} {s16 : mS} {k18 : Nat} {r19 : Int32} {s21 : mS} {r23 : Int32} {s25 : mS} (hN : N0 ≤ B) (ek1 : p0 = nI k1) (lk1 : k1 < 144) (t3 : gm_to N0 K ra_nm (ra_mt K) d 128 [.ref B, .int (126 : Int32)] (bM B (mH B (mA s 13 (upd (s.2.1 13) k1 (0 : Int32)))) G) sz (.returned (some (.int r2)), bM B (mH B s4) G, sz, 0)) (c5 : r2 = 0) (t7 : gm_to N0 K ra_nm (ra_mt K) d 123 [.ref B] (bM B (mH B s4) G) sz (.returned (some (.int r6)), bM B (mH B s4) G, sz, 0)) (t9 : gm_to N0 K ra_nm (ra_mt K) d 124 [.int r6] (bM B (mH B s4) G) sz (.returned (some (.int r8)), bM B (mH B s4) G, sz, 0)) (c10 : r8 = 0) (t12 : gm_to N0 K ra_nm (ra_mt K) d 127 [.int r6] (bM B (mH B s4) G) sz (.returned (some (.int r11)), bM B (mH B s4) G, sz, 0)) (c13 : r11 < 0) (t15 : gm_to N0 K ra_nm (ra_mt K) d 129 [.ref B, .int ((3 : Int32) * p0)] (bM B (mH B s4) G) sz (.returned (some (.int r14)), bM B (mH B s16) G, sz, 0)) (c17 : ¬ r14 = 0) (ek18 : p0 = nI k18) (lk18 : k18 < 144) (t20 : gm_to N0 K ra_nm (ra_mt K) d 128 [.ref B, .int (35 : Int32)] (bM B (mH B (mA s16 13 (upd (s16.2.1 13) k18 (2 : Int32)))) G) sz (.returned (some (.int r19)), bM B (mH B s21) G, sz, 0)) (c22 : ¬ r19 = 0) (t24 : gm_to N0 K ra_nm (ra_mt K) d 129 [.ref B, .int (((3 : Int32) * p0) + (1 : Int32))] (bM B (mH B s21) G) sz (.returned (some (.int r23)), bM B (mH B s25) G, sz, 0)) (c26 : ¬ r23 = 0) : gm_ev N0 K ra_nm (ra_mt K) d (some .boolean) (gm_I cX12_literal) (gm_lkf (lkX12 false K)) 0 [some (.ref B), some (.int p0), none] [] (bM B (mH B s) G) sz sl (.returned (some (.int (1 : Int32))), (bM B (mH B s25) G), sz, sl) := by
  refine gm_ev.aload_n i132_0 rfl ?_
  refine gm_ev.getfield (v := .ref (B + 5)) i132_1 rfl (bM_fld (j := 0) (fs := mF B s) rfl rfl) ?_
  refine gm_ev.iload_n i132_4 rfl ?_
  refine gm_ev.iconst (v := 0) i132_5 (by decide) ?_
  refine gm_ev.iastore (M' := (bM B (mH B (mA s 13 (upd (s.2.1 13) k1 (0 : Int32)))) G)) i132_6 (bM_asti (j := 5) (n := 144) (f := s.2.1 13) rfl ek1 lk1 (by decide) hN rfl) ?_
  refine gm_ev.aload_n i132_7 rfl ?_
  refine gm_ev.bipush (v := 126) i132_8 (by decide) ?_
  refine gm_ev.callV gm_mono_run (av := [.int (126 : Int32)]) (r := []) (ci := 11) (fs := mF B (mA s 13 (upd (s.2.1 13) k1 (0 : Int32)))) (bM_get (j := 0) rfl) i132_10 rfl rfl rfl (Nat.le_of_ble_eq_true rfl) t3 ?_
  refine gm_ev.if_eq_t (tgt := 29) i132_13 (by decide) c5 ?_
  refine gm_ev.aload_n i132_29 rfl ?_
  refine gm_ev.callV gm_mono_run (av := []) (r := []) (ci := 11) (fs := mF B s4) (bM_get (j := 0) rfl) i132_30 rfl rfl rfl (Nat.le_of_ble_eq_true rfl) t7 ?_
  refine gm_ev.istore_n (ls' := [some (.ref B), some (.int p0), some (.int r6)]) i132_33 (Nat.le_of_ble_eq_true rfl) rfl ?_
  refine gm_ev.iload_n i132_34 rfl ?_
  refine gm_ev.callS gm_mono_run (av := [.int r6]) (r := []) i132_35 rfl rfl rfl (Nat.le_of_ble_eq_true rfl) t9 ?_
  refine gm_ev.if_ne_f i132_38 c10 ?_
  refine gm_ev.iload_n i132_41 rfl ?_
  refine gm_ev.callS gm_mono_run (av := [.int r6]) (r := []) i132_42 rfl rfl rfl (Nat.le_of_ble_eq_true rfl) t12 ?_
  refine gm_ev.if_lt_t (tgt := 84) i132_45 (by decide) c13 ?_
  refine gm_ev.aload_n i132_84 rfl ?_
  refine gm_ev.iconst (v := 3) i132_85 (by decide) ?_
  refine gm_ev.iload_n i132_86 rfl ?_
  refine gm_ev.imul i132_87 ?_
  refine gm_ev.callV gm_mono_run (av := [.int ((3 : Int32) * p0)]) (r := []) (ci := 11) (fs := mF B s4) (bM_get (j := 0) rfl) i132_88 rfl rfl rfl (Nat.le_of_ble_eq_true rfl) t15 ?_
  refine gm_ev.if_ne_t (tgt := 96) i132_91 (by decide) c17 ?_
  refine gm_ev.aload_n i132_96 rfl ?_
  refine gm_ev.getfield (v := .ref (B + 5)) i132_97 rfl (bM_fld (j := 0) (fs := mF B s16) rfl rfl) ?_
  refine gm_ev.iload_n i132_100 rfl ?_
  refine gm_ev.iconst (v := 2) i132_101 (by decide) ?_
  refine gm_ev.iastore (M' := (bM B (mH B (mA s16 13 (upd (s16.2.1 13) k18 (2 : Int32)))) G)) i132_102 (bM_asti (j := 5) (n := 144) (f := s16.2.1 13) rfl ek18 lk18 (by decide) hN rfl) ?_
  refine gm_ev.aload_n i132_103 rfl ?_
  refine gm_ev.bipush (v := 35) i132_104 (by decide) ?_
  refine gm_ev.callV gm_mono_run (av := [.int (35 : Int32)]) (r := []) (ci := 11) (fs := mF B (mA s16 13 (upd (s16.2.1 13) k18 (2 : Int32)))) (bM_get (j := 0) rfl) i132_106 rfl rfl rfl (Nat.le_of_ble_eq_true rfl) t20 ?_
  refine gm_ev.if_eq_f i132_109 c22 ?_
  refine gm_ev.aload_n i132_112 rfl ?_
  refine gm_ev.iconst (v := 3) i132_113 (by decide) ?_
  refine gm_ev.iload_n i132_114 rfl ?_
  refine gm_ev.imul i132_115 ?_
  refine gm_ev.iconst (v := 1) i132_116 (by decide) ?_
  refine gm_ev.iadd i132_117 ?_
  refine gm_ev.callV gm_mono_run (av := [.int (((3 : Int32) * p0) + (1 : Int32))]) (r := []) (ci := 11) (fs := mF B s21) (bM_get (j := 0) rfl) i132_118 rfl rfl rfl (Nat.le_of_ble_eq_true rfl) t24 ?_
  refine gm_ev.if_eq_f i132_121 c26 ?_
  refine gm_ev.iconst (v := 1) i132_124 (by decide) ?_
  refine gm_ev.goto (tgt := 129) i132_125 (by decide) ?_
  exact gm_ev.zret i132_129 rfl (by decide)
theorem r_literal_0_tftf {N0 : Nat} {K : Nat → Nat} {d B : Nat} {s : mS} {G : gm_H} {sz sl : Nat} {p0 : Int32} {k1 : Nat} {r2 : Int32} {s4 : mS} {r6 : Int32} {r8 : Int32} {r11 : Int32} {r14 : Int32} {s16 : mS} (hN : N0 ≤ B) (ek1 : p0 = nI k1) (lk1 : k1 < 144) (t3 : gm_to N0 K ra_nm (ra_mt K) d 128 [.ref B, .int (126 : Int32)] (bM B (mH B (mA s 13 (upd (s.2.1 13) k1 (0 : Int32)))) G) sz (.returned (some (.int r2)), bM B (mH B s4) G, sz, 0)) (c5 : r2 = 0) (t7 : gm_to N0 K ra_nm (ra_mt K) d 123 [.ref B] (bM B (mH B s4) G) sz (.returned (some (.int r6)), bM B (mH B s4) G, sz, 0)) (t9 : gm_to N0 K ra_nm (ra_mt K) d 124 [.int r6] (bM B (mH B s4) G) sz (.returned (some (.int r8)), bM B (mH B s4) G, sz, 0)) (c10 : r8 = 0) (t12 : gm_to N0 K ra_nm (ra_mt K) d 127 [.int r6] (bM B (mH B s4) G) sz (.returned (some (.int r11)), bM B (mH B s4) G, sz, 0)) (c13 : r11 < 0) (t15 : gm_to N0 K ra_nm (ra_mt K) d 129 [.ref B, .int ((3 : Int32) * p0)] (bM B (mH B s4) G) sz (.returned (some (.int r14)), bM B (mH B s16) G, sz, 0)) (c17 : r14 = 0) : gm_ev N0 K ra_nm (ra_mt K) d (some .boolean) (gm_I cX12_literal) (gm_lkf (lkX12 false K)) 0 [some (.ref B), some (.int p0), none] [] (bM B (mH B s) G) sz sl (.returned (some (.int (0 : Int32))), (bM B (mH B s16) G), sz, sl) := by
  refine gm_ev.aload_n i132_0 rfl ?_
  refine gm_ev.getfield (v := .ref (B + 5)) i132_1 rfl (bM_fld (j := 0) (fs := mF B s) rfl rfl) ?_
  refine gm_ev.iload_n i132_4 rfl ?_
  refine gm_ev.iconst (v := 0) i132_5 (by decide) ?_
  refine gm_ev.iastore (M' := (bM B (mH B (mA s 13 (upd (s.2.1 13) k1 (0 : Int32)))) G)) i132_6 (bM_asti (j := 5) (n := 144) (f := s.2.1 13) rfl ek1 lk1 (by decide) hN rfl) ?_
  refine gm_ev.aload_n i132_7 rfl ?_
  refine gm_ev.bipush (v := 126) i132_8 (by decide) ?_
  refine gm_ev.callV gm_mono_run (av := [.int (126 : Int32)]) (r := []) (ci := 11) (fs := mF B (mA s 13 (upd (s.2.1 13) k1 (0 : Int32)))) (bM_get (j := 0) rfl) i132_10 rfl rfl rfl (Nat.le_of_ble_eq_true rfl) t3 ?_
  refine gm_ev.if_eq_t (tgt := 29) i132_13 (by decide) c5 ?_
  refine gm_ev.aload_n i132_29 rfl ?_
  refine gm_ev.callV gm_mono_run (av := []) (r := []) (ci := 11) (fs := mF B s4) (bM_get (j := 0) rfl) i132_30 rfl rfl rfl (Nat.le_of_ble_eq_true rfl) t7 ?_
  refine gm_ev.istore_n (ls' := [some (.ref B), some (.int p0), some (.int r6)]) i132_33 (Nat.le_of_ble_eq_true rfl) rfl ?_
  refine gm_ev.iload_n i132_34 rfl ?_
  refine gm_ev.callS gm_mono_run (av := [.int r6]) (r := []) i132_35 rfl rfl rfl (Nat.le_of_ble_eq_true rfl) t9 ?_
  refine gm_ev.if_ne_f i132_38 c10 ?_
  refine gm_ev.iload_n i132_41 rfl ?_
  refine gm_ev.callS gm_mono_run (av := [.int r6]) (r := []) i132_42 rfl rfl rfl (Nat.le_of_ble_eq_true rfl) t12 ?_
  refine gm_ev.if_lt_t (tgt := 84) i132_45 (by decide) c13 ?_
  refine gm_ev.aload_n i132_84 rfl ?_
  refine gm_ev.iconst (v := 3) i132_85 (by decide) ?_
  refine gm_ev.iload_n i132_86 rfl ?_
  refine gm_ev.imul i132_87 ?_
  refine gm_ev.callV gm_mono_run (av := [.int ((3 : Int32) * p0)]) (r := []) (ci := 11) (fs := mF B s4) (bM_get (j := 0) rfl) i132_88 rfl rfl rfl (Nat.le_of_ble_eq_true rfl) t15 ?_
  refine gm_ev.if_ne_f i132_91 c17 ?_
  refine gm_ev.iconst (v := 0) i132_94 (by decide) ?_
  exact gm_ev.zret i132_95 rfl (by decide)
theorem r_literal_0_tfftt {N0 : Nat} {K : Nat → Nat} {d B : Nat} {s : mS} {G : gm_H} {sz sl : Nat} {p0 : Int32} {k1 : Nat} {r2 : Int32} {s4 : mS} {r6 : Int32} {r8 : Int32} {r11 : Int32} {r14 : Int32} {s16 : mS} {r18 : Int32} (hN : N0 ≤ B) (ek1 : p0 = nI k1) (lk1 : k1 < 144) (t3 : gm_to N0 K ra_nm (ra_mt K) d 128 [.ref B, .int (126 : Int32)] (bM B (mH B (mA s 13 (upd (s.2.1 13) k1 (0 : Int32)))) G) sz (.returned (some (.int r2)), bM B (mH B s4) G, sz, 0)) (c5 : r2 = 0) (t7 : gm_to N0 K ra_nm (ra_mt K) d 123 [.ref B] (bM B (mH B s4) G) sz (.returned (some (.int r6)), bM B (mH B s4) G, sz, 0)) (t9 : gm_to N0 K ra_nm (ra_mt K) d 124 [.int r6] (bM B (mH B s4) G) sz (.returned (some (.int r8)), bM B (mH B s4) G, sz, 0)) (c10 : r8 = 0) (t12 : gm_to N0 K ra_nm (ra_mt K) d 127 [.int r6] (bM B (mH B s4) G) sz (.returned (some (.int r11)), bM B (mH B s4) G, sz, 0)) (c13 : ¬ r11 < 0) (t15 : gm_to N0 K ra_nm (ra_mt K) d 130 [.ref B, .int p0] (bM B (mH B s4) G) sz (.returned (some (.int r14)), bM B (mH B s16) G, sz, 0)) (c17 : ¬ r14 = 0) (t19 : gm_to N0 K ra_nm (ra_mt K) d 123 [.ref B] (bM B (mH B s16) G) sz (.returned (some (.int r18)), bM B (mH B s16) G, sz, 0)) (c20 : ¬ r18 = (35 : Int32)) : gm_ev N0 K ra_nm (ra_mt K) d (some .boolean) (gm_I cX12_literal) (gm_lkf (lkX12 false K)) 0 [some (.ref B), some (.int p0), none] [] (bM B (mH B s) G) sz sl (.returned (some (.int (1 : Int32))), (bM B (mH B s16) G), sz, sl) := by
  refine gm_ev.aload_n i132_0 rfl ?_
  refine gm_ev.getfield (v := .ref (B + 5)) i132_1 rfl (bM_fld (j := 0) (fs := mF B s) rfl rfl) ?_
  refine gm_ev.iload_n i132_4 rfl ?_
  refine gm_ev.iconst (v := 0) i132_5 (by decide) ?_
  refine gm_ev.iastore (M' := (bM B (mH B (mA s 13 (upd (s.2.1 13) k1 (0 : Int32)))) G)) i132_6 (bM_asti (j := 5) (n := 144) (f := s.2.1 13) rfl ek1 lk1 (by decide) hN rfl) ?_
  refine gm_ev.aload_n i132_7 rfl ?_
  refine gm_ev.bipush (v := 126) i132_8 (by decide) ?_
  refine gm_ev.callV gm_mono_run (av := [.int (126 : Int32)]) (r := []) (ci := 11) (fs := mF B (mA s 13 (upd (s.2.1 13) k1 (0 : Int32)))) (bM_get (j := 0) rfl) i132_10 rfl rfl rfl (Nat.le_of_ble_eq_true rfl) t3 ?_
  refine gm_ev.if_eq_t (tgt := 29) i132_13 (by decide) c5 ?_
  refine gm_ev.aload_n i132_29 rfl ?_
  refine gm_ev.callV gm_mono_run (av := []) (r := []) (ci := 11) (fs := mF B s4) (bM_get (j := 0) rfl) i132_30 rfl rfl rfl (Nat.le_of_ble_eq_true rfl) t7 ?_
  refine gm_ev.istore_n (ls' := [some (.ref B), some (.int p0), some (.int r6)]) i132_33 (Nat.le_of_ble_eq_true rfl) rfl ?_
  refine gm_ev.iload_n i132_34 rfl ?_
  refine gm_ev.callS gm_mono_run (av := [.int r6]) (r := []) i132_35 rfl rfl rfl (Nat.le_of_ble_eq_true rfl) t9 ?_
  refine gm_ev.if_ne_f i132_38 c10 ?_
  refine gm_ev.iload_n i132_41 rfl ?_
  refine gm_ev.callS gm_mono_run (av := [.int r6]) (r := []) i132_42 rfl rfl rfl (Nat.le_of_ble_eq_true rfl) t12 ?_
  refine gm_ev.if_lt_f i132_45 c13 ?_
  refine gm_ev.aload_n i132_48 rfl ?_
  refine gm_ev.iload_n i132_49 rfl ?_
  refine gm_ev.callV gm_mono_run (av := [.int p0]) (r := []) (ci := 11) (fs := mF B s4) (bM_get (j := 0) rfl) i132_50 rfl rfl rfl (Nat.le_of_ble_eq_true rfl) t15 ?_
  refine gm_ev.if_ne_t (tgt := 58) i132_53 (by decide) c17 ?_
  refine gm_ev.aload_n i132_58 rfl ?_
  refine gm_ev.callV gm_mono_run (av := []) (r := []) (ci := 11) (fs := mF B s16) (bM_get (j := 0) rfl) i132_59 rfl rfl rfl (Nat.le_of_ble_eq_true rfl) t19 ?_
  refine gm_ev.bipush (v := 35) i132_62 (by decide) ?_
  refine gm_ev.icmp_ne_t (tgt := 82) i132_64 (by decide) c20 ?_
  refine gm_ev.iconst (v := 1) i132_82 (by decide) ?_
  exact gm_ev.zret i132_83 rfl (by decide)
theorem r_literal_0_tfftft {N0 : Nat} {K : Nat → Nat} {d B : Nat} {s : mS} {G : gm_H} {sz sl : Nat} {p0 : Int32} {k1 : Nat} {r2 : Int32} {s4 : mS} {r6 : Int32} {r8 : Int32} {r11 : Int32} {r14 : Int32} {s16 : mS} {r18 : Int32} {r21 : Int32} (hN : N0 ≤ B) (ek1 : p0 = nI k1) (lk1 : k1 < 144) (t3 : gm_to N0 K ra_nm (ra_mt K) d 128 [.ref B, .int (126 : Int32)] (bM B (mH B (mA s 13 (upd (s.2.1 13) k1 (0 : Int32)))) G) sz (.returned (some (.int r2)), bM B (mH B s4) G, sz, 0)) (c5 : r2 = 0) (t7 : gm_to N0 K ra_nm (ra_mt K) d 123 [.ref B] (bM B (mH B s4) G) sz (.returned (some (.int r6)), bM B (mH B s4) G, sz, 0)) (t9 : gm_to N0 K ra_nm (ra_mt K) d 124 [.int r6] (bM B (mH B s4) G) sz (.returned (some (.int r8)), bM B (mH B s4) G, sz, 0)) (c10 : r8 = 0) (t12 : gm_to N0 K ra_nm (ra_mt K) d 127 [.int r6] (bM B (mH B s4) G) sz (.returned (some (.int r11)), bM B (mH B s4) G, sz, 0)) (c13 : ¬ r11 < 0) (t15 : gm_to N0 K ra_nm (ra_mt K) d 130 [.ref B, .int p0] (bM B (mH B s4) G) sz (.returned (some (.int r14)), bM B (mH B s16) G, sz, 0)) (c17 : ¬ r14 = 0) (t19 : gm_to N0 K ra_nm (ra_mt K) d 123 [.ref B] (bM B (mH B s16) G) sz (.returned (some (.int r18)), bM B (mH B s16) G, sz, 0)) (c20 : r18 = (35 : Int32)) (t22 : gm_to N0 K ra_nm (ra_mt K) d 124 [.int r6] (bM B (mH B s16) G) sz (.returned (some (.int r21)), bM B (mH B s16) G, sz, 0)) (c23 : r21 = 0) : gm_ev N0 K ra_nm (ra_mt K) d (some .boolean) (gm_I cX12_literal) (gm_lkf (lkX12 false K)) 0 [some (.ref B), some (.int p0), none] [] (bM B (mH B s) G) sz sl (.returned (some (.int (1 : Int32))), (bM B (mH B s16) G), sz, sl) := by
  refine gm_ev.aload_n i132_0 rfl ?_
  refine gm_ev.getfield (v := .ref (B + 5)) i132_1 rfl (bM_fld (j := 0) (fs := mF B s) rfl rfl) ?_
  refine gm_ev.iload_n i132_4 rfl ?_
  refine gm_ev.iconst (v := 0) i132_5 (by decide) ?_
  refine gm_ev.iastore (M' := (bM B (mH B (mA s 13 (upd (s.2.1 13) k1 (0 : Int32)))) G)) i132_6 (bM_asti (j := 5) (n := 144) (f := s.2.1 13) rfl ek1 lk1 (by decide) hN rfl) ?_
  refine gm_ev.aload_n i132_7 rfl ?_
  refine gm_ev.bipush (v := 126) i132_8 (by decide) ?_
  refine gm_ev.callV gm_mono_run (av := [.int (126 : Int32)]) (r := []) (ci := 11) (fs := mF B (mA s 13 (upd (s.2.1 13) k1 (0 : Int32)))) (bM_get (j := 0) rfl) i132_10 rfl rfl rfl (Nat.le_of_ble_eq_true rfl) t3 ?_
  refine gm_ev.if_eq_t (tgt := 29) i132_13 (by decide) c5 ?_
  refine gm_ev.aload_n i132_29 rfl ?_
  refine gm_ev.callV gm_mono_run (av := []) (r := []) (ci := 11) (fs := mF B s4) (bM_get (j := 0) rfl) i132_30 rfl rfl rfl (Nat.le_of_ble_eq_true rfl) t7 ?_
  refine gm_ev.istore_n (ls' := [some (.ref B), some (.int p0), some (.int r6)]) i132_33 (Nat.le_of_ble_eq_true rfl) rfl ?_
  refine gm_ev.iload_n i132_34 rfl ?_
  refine gm_ev.callS gm_mono_run (av := [.int r6]) (r := []) i132_35 rfl rfl rfl (Nat.le_of_ble_eq_true rfl) t9 ?_
  refine gm_ev.if_ne_f i132_38 c10 ?_
  refine gm_ev.iload_n i132_41 rfl ?_
  refine gm_ev.callS gm_mono_run (av := [.int r6]) (r := []) i132_42 rfl rfl rfl (Nat.le_of_ble_eq_true rfl) t12 ?_
  refine gm_ev.if_lt_f i132_45 c13 ?_
  refine gm_ev.aload_n i132_48 rfl ?_
  refine gm_ev.iload_n i132_49 rfl ?_
  refine gm_ev.callV gm_mono_run (av := [.int p0]) (r := []) (ci := 11) (fs := mF B s4) (bM_get (j := 0) rfl) i132_50 rfl rfl rfl (Nat.le_of_ble_eq_true rfl) t15 ?_
  refine gm_ev.if_ne_t (tgt := 58) i132_53 (by decide) c17 ?_
  refine gm_ev.aload_n i132_58 rfl ?_
  refine gm_ev.callV gm_mono_run (av := []) (r := []) (ci := 11) (fs := mF B s16) (bM_get (j := 0) rfl) i132_59 rfl rfl rfl (Nat.le_of_ble_eq_true rfl) t19 ?_
  refine gm_ev.bipush (v := 35) i132_62 (by decide) ?_
  refine gm_ev.icmp_ne_f i132_64 c20 ?_
  refine gm_ev.iload_n i132_67 rfl ?_
  refine gm_ev.callS gm_mono_run (av := [.int r6]) (r := []) i132_68 rfl rfl rfl (Nat.le_of_ble_eq_true rfl) t22 ?_
  refine gm_ev.if_eq_t (tgt := 82) i132_71 (by decide) c23 ?_
  refine gm_ev.iconst (v := 1) i132_82 (by decide) ?_
  exact gm_ev.zret i132_83 rfl (by decide)
theorem r_literal_0_tfftfftt {N0 : Nat} {K : Nat → Nat} {d B : Nat} {s : mS} {G : gm_H} {sz sl : Nat} {p0 : Int32} {k1 : Nat} {r2 : Int32} {s4 : mS} {r6 : Int32} {r8 : Int32} {r11 : Int32} {r14 : Int32} {s16 : mS} {r18 : Int32} {r21 : Int32} {r24 : Int32} {s26 : mS} {k28 : Nat} {r29 : Int32} {s31 : mS} (hN : N0 ≤ B) (ek1 : p0 = nI k1) (lk1 : k1 < 144) (t3 : gm_to N0 K ra_nm (ra_mt K) d 128 [.ref B, .int (126 : Int32)] (bM B (mH B (mA s 13 (upd (s.2.1 13) k1 (0 : Int32)))) G) sz (.returned (some (.int r2)), bM B (mH B s4) G, sz, 0)) (c5 : r2 = 0) (t7 : gm_to N0 K ra_nm (ra_mt K) d 123 [.ref B] (bM B (mH B s4) G) sz (.returned (some (.int r6)), bM B (mH B s4) G, sz, 0)) (t9 : gm_to N0 K ra_nm (ra_mt K) d 124 [.int r6] (bM B (mH B s4) G) sz (.returned (some (.int r8)), bM B (mH B s4) G, sz, 0)) (c10 : r8 = 0) (t12 : gm_to N0 K ra_nm (ra_mt K) d 127 [.int r6] (bM B (mH B s4) G) sz (.returned (some (.int r11)), bM B (mH B s4) G, sz, 0)) (c13 : ¬ r11 < 0) (t15 : gm_to N0 K ra_nm (ra_mt K) d 130 [.ref B, .int p0] (bM B (mH B s4) G) sz (.returned (some (.int r14)), bM B (mH B s16) G, sz, 0)) (c17 : ¬ r14 = 0) (t19 : gm_to N0 K ra_nm (ra_mt K) d 123 [.ref B] (bM B (mH B s16) G) sz (.returned (some (.int r18)), bM B (mH B s16) G, sz, 0)) (c20 : r18 = (35 : Int32)) (t22 : gm_to N0 K ra_nm (ra_mt K) d 124 [.int r6] (bM B (mH B s16) G) sz (.returned (some (.int r21)), bM B (mH B s16) G, sz, 0)) (c23 : ¬ r21 = 0) (t25 : gm_to N0 K ra_nm (ra_mt K) d 131 [.ref B, .int p0] (bM B (mH B s16) G) sz (.returned (some (.int r24)), bM B (mH B s26) G, sz, 0)) (c27 : ¬ r24 = 0) (ek28 : p0 = nI k28) (lk28 : k28 < 144) (t30 : gm_to N0 K ra_nm (ra_mt K) d 128 [.ref B, .int (35 : Int32)] (bM B (mH B (mA s26 13 (upd (s26.2.1 13) k28 (2 : Int32)))) G) sz (.returned (some (.int r29)), bM B (mH B s31) G, sz, 0)) (c32 : r29 = 0) : gm_ev N0 K ra_nm (ra_mt K) d (some .boolean) (gm_I cX12_literal) (gm_lkf (lkX12 false K)) 0 [some (.ref B), some (.int p0), none] [] (bM B (mH B s) G) sz sl (.returned (some (.int (0 : Int32))), (bM B (mH B s31) G), sz, sl) := by
  refine gm_ev.aload_n i132_0 rfl ?_
  refine gm_ev.getfield (v := .ref (B + 5)) i132_1 rfl (bM_fld (j := 0) (fs := mF B s) rfl rfl) ?_
  refine gm_ev.iload_n i132_4 rfl ?_
  refine gm_ev.iconst (v := 0) i132_5 (by decide) ?_
  refine gm_ev.iastore (M' := (bM B (mH B (mA s 13 (upd (s.2.1 13) k1 (0 : Int32)))) G)) i132_6 (bM_asti (j := 5) (n := 144) (f := s.2.1 13) rfl ek1 lk1 (by decide) hN rfl) ?_
  refine gm_ev.aload_n i132_7 rfl ?_
  refine gm_ev.bipush (v := 126) i132_8 (by decide) ?_
  refine gm_ev.callV gm_mono_run (av := [.int (126 : Int32)]) (r := []) (ci := 11) (fs := mF B (mA s 13 (upd (s.2.1 13) k1 (0 : Int32)))) (bM_get (j := 0) rfl) i132_10 rfl rfl rfl (Nat.le_of_ble_eq_true rfl) t3 ?_
  refine gm_ev.if_eq_t (tgt := 29) i132_13 (by decide) c5 ?_
  refine gm_ev.aload_n i132_29 rfl ?_
  refine gm_ev.callV gm_mono_run (av := []) (r := []) (ci := 11) (fs := mF B s4) (bM_get (j := 0) rfl) i132_30 rfl rfl rfl (Nat.le_of_ble_eq_true rfl) t7 ?_
  refine gm_ev.istore_n (ls' := [some (.ref B), some (.int p0), some (.int r6)]) i132_33 (Nat.le_of_ble_eq_true rfl) rfl ?_
  refine gm_ev.iload_n i132_34 rfl ?_
  refine gm_ev.callS gm_mono_run (av := [.int r6]) (r := []) i132_35 rfl rfl rfl (Nat.le_of_ble_eq_true rfl) t9 ?_
  refine gm_ev.if_ne_f i132_38 c10 ?_
  refine gm_ev.iload_n i132_41 rfl ?_
  refine gm_ev.callS gm_mono_run (av := [.int r6]) (r := []) i132_42 rfl rfl rfl (Nat.le_of_ble_eq_true rfl) t12 ?_
  refine gm_ev.if_lt_f i132_45 c13 ?_
  refine gm_ev.aload_n i132_48 rfl ?_
  refine gm_ev.iload_n i132_49 rfl ?_
  refine gm_ev.callV gm_mono_run (av := [.int p0]) (r := []) (ci := 11) (fs := mF B s4) (bM_get (j := 0) rfl) i132_50 rfl rfl rfl (Nat.le_of_ble_eq_true rfl) t15 ?_
  refine gm_ev.if_ne_t (tgt := 58) i132_53 (by decide) c17 ?_
  refine gm_ev.aload_n i132_58 rfl ?_
  refine gm_ev.callV gm_mono_run (av := []) (r := []) (ci := 11) (fs := mF B s16) (bM_get (j := 0) rfl) i132_59 rfl rfl rfl (Nat.le_of_ble_eq_true rfl) t19 ?_
  refine gm_ev.bipush (v := 35) i132_62 (by decide) ?_
  refine gm_ev.icmp_ne_f i132_64 c20 ?_
  refine gm_ev.iload_n i132_67 rfl ?_
  refine gm_ev.callS gm_mono_run (av := [.int r6]) (r := []) i132_68 rfl rfl rfl (Nat.le_of_ble_eq_true rfl) t22 ?_
  refine gm_ev.if_eq_f i132_71 c23 ?_
  refine gm_ev.aload_n i132_74 rfl ?_
  refine gm_ev.iload_n i132_75 rfl ?_
  refine gm_ev.callV gm_mono_run (av := [.int p0]) (r := []) (ci := 11) (fs := mF B s16) (bM_get (j := 0) rfl) i132_76 rfl rfl rfl (Nat.le_of_ble_eq_true rfl) t25 ?_
  refine gm_ev.if_ne_t (tgt := 96) i132_79 (by decide) c27 ?_
  refine gm_ev.aload_n i132_96 rfl ?_
  refine gm_ev.getfield (v := .ref (B + 5)) i132_97 rfl (bM_fld (j := 0) (fs := mF B s26) rfl rfl) ?_
  refine gm_ev.iload_n i132_100 rfl ?_
  refine gm_ev.iconst (v := 2) i132_101 (by decide) ?_
  refine gm_ev.iastore (M' := (bM B (mH B (mA s26 13 (upd (s26.2.1 13) k28 (2 : Int32)))) G)) i132_102 (bM_asti (j := 5) (n := 144) (f := s26.2.1 13) rfl ek28 lk28 (by decide) hN rfl) ?_
  refine gm_ev.aload_n i132_103 rfl ?_
  refine gm_ev.bipush (v := 35) i132_104 (by decide) ?_
  refine gm_ev.callV gm_mono_run (av := [.int (35 : Int32)]) (r := []) (ci := 11) (fs := mF B (mA s26 13 (upd (s26.2.1 13) k28 (2 : Int32)))) (bM_get (j := 0) rfl) i132_106 rfl rfl rfl (Nat.le_of_ble_eq_true rfl) t30 ?_
  refine gm_ev.if_eq_t (tgt := 128) i132_109 (by decide) c32 ?_
  refine gm_ev.iconst (v := 0) i132_128 (by decide) ?_
  exact gm_ev.zret i132_129 rfl (by decide)
theorem r_literal_0_tfftfftft {N0 : Nat} {K : Nat → Nat} {d B : Nat} {s : mS} {G : gm_H} {sz sl : Nat} {p0 : Int32} {k1 : Nat} {r2 : Int32} {s4 : mS} {r6 : Int32} {r8 : Int32} {r11 : Int32} {r14 : Int32} {s16 : mS} {r18 : Int32} {r21 : Int32} {r24 : Int32} {s26 : mS} {k28 : Nat} {r29 : Int32} {s31 : mS} {r33 : Int32} {s35 : mS} (hN : N0 ≤ B) (ek1 : p0 = nI k1) (lk1 : k1 < 144) (t3 : gm_to N0 K ra_nm (ra_mt K) d 128 [.ref B, .int (126 : Int32)] (bM B (mH B (mA s 13 (upd (s.2.1 13) k1 (0 : Int32)))) G) sz (.returned (some (.int r2)), bM B (mH B s4) G, sz, 0)) (c5 : r2 = 0) (t7 : gm_to N0 K ra_nm (ra_mt K) d 123 [.ref B] (bM B (mH B s4) G) sz (.returned (some (.int r6)), bM B (mH B s4) G, sz, 0)) (t9 : gm_to N0 K ra_nm (ra_mt K) d 124 [.int r6] (bM B (mH B s4) G) sz (.returned (some (.int r8)), bM B (mH B s4) G, sz, 0)) (c10 : r8 = 0) (t12 : gm_to N0 K ra_nm (ra_mt K) d 127 [.int r6] (bM B (mH B s4) G) sz (.returned (some (.int r11)), bM B (mH B s4) G, sz, 0)) (c13 : ¬ r11 < 0) (t15 : gm_to N0 K ra_nm (ra_mt K) d 130 [.ref B, .int p0] (bM B (mH B s4) G) sz (.returned (some (.int r14)), bM B (mH B s16) G, sz, 0)) (c17 : ¬ r14 = 0) (t19 : gm_to N0 K ra_nm (ra_mt K) d 123 [.ref B] (bM B (mH B s16) G) sz (.returned (some (.int r18)), bM B (mH B s16) G, sz, 0)) (c20 : r18 = (35 : Int32)) (t22 : gm_to N0 K ra_nm (ra_mt K) d 124 [.int r6] (bM B (mH B s16) G) sz (.returned (some (.int r21)), bM B (mH B s16) G, sz, 0)) (c23 : ¬ r21 = 0) (t25 : gm_to N0 K ra_nm (ra_mt K) d 131 [.ref B, .int p0] (bM B (mH B s16) G) sz (.returned (some (.int r24)), bM B (mH B s26) G, sz, 0)) (c27 : ¬ r24 = 0) (ek28 : p0 = nI k28) (lk28 : k28 < 144) (t30 : gm_to N0 K ra_nm (ra_mt K) d 128 [.ref B, .int (35 : Int32)] (bM B (mH B (mA s26 13 (upd (s26.2.1 13) k28 (2 : Int32)))) G) sz (.returned (some (.int r29)), bM B (mH B s31) G, sz, 0)) (c32 : ¬ r29 = 0) (t34 : gm_to N0 K ra_nm (ra_mt K) d 129 [.ref B, .int (((3 : Int32) * p0) + (1 : Int32))] (bM B (mH B s31) G) sz (.returned (some (.int r33)), bM B (mH B s35) G, sz, 0)) (c36 : r33 = 0) : gm_ev N0 K ra_nm (ra_mt K) d (some .boolean) (gm_I cX12_literal) (gm_lkf (lkX12 false K)) 0 [some (.ref B), some (.int p0), none] [] (bM B (mH B s) G) sz sl (.returned (some (.int (0 : Int32))), (bM B (mH B s35) G), sz, sl) := by
  refine gm_ev.aload_n i132_0 rfl ?_
  refine gm_ev.getfield (v := .ref (B + 5)) i132_1 rfl (bM_fld (j := 0) (fs := mF B s) rfl rfl) ?_
  refine gm_ev.iload_n i132_4 rfl ?_
  refine gm_ev.iconst (v := 0) i132_5 (by decide) ?_
  refine gm_ev.iastore (M' := (bM B (mH B (mA s 13 (upd (s.2.1 13) k1 (0 : Int32)))) G)) i132_6 (bM_asti (j := 5) (n := 144) (f := s.2.1 13) rfl ek1 lk1 (by decide) hN rfl) ?_
  refine gm_ev.aload_n i132_7 rfl ?_
  refine gm_ev.bipush (v := 126) i132_8 (by decide) ?_
  refine gm_ev.callV gm_mono_run (av := [.int (126 : Int32)]) (r := []) (ci := 11) (fs := mF B (mA s 13 (upd (s.2.1 13) k1 (0 : Int32)))) (bM_get (j := 0) rfl) i132_10 rfl rfl rfl (Nat.le_of_ble_eq_true rfl) t3 ?_
  refine gm_ev.if_eq_t (tgt := 29) i132_13 (by decide) c5 ?_
  refine gm_ev.aload_n i132_29 rfl ?_
  refine gm_ev.callV gm_mono_run (av := []) (r := []) (ci := 11) (fs := mF B s4) (bM_get (j := 0) rfl) i132_30 rfl rfl rfl (Nat.le_of_ble_eq_true rfl) t7 ?_
  refine gm_ev.istore_n (ls' := [some (.ref B), some (.int p0), some (.int r6)]) i132_33 (Nat.le_of_ble_eq_true rfl) rfl ?_
  refine gm_ev.iload_n i132_34 rfl ?_
  refine gm_ev.callS gm_mono_run (av := [.int r6]) (r := []) i132_35 rfl rfl rfl (Nat.le_of_ble_eq_true rfl) t9 ?_
  refine gm_ev.if_ne_f i132_38 c10 ?_
  refine gm_ev.iload_n i132_41 rfl ?_
  refine gm_ev.callS gm_mono_run (av := [.int r6]) (r := []) i132_42 rfl rfl rfl (Nat.le_of_ble_eq_true rfl) t12 ?_
  refine gm_ev.if_lt_f i132_45 c13 ?_
  refine gm_ev.aload_n i132_48 rfl ?_
  refine gm_ev.iload_n i132_49 rfl ?_
  refine gm_ev.callV gm_mono_run (av := [.int p0]) (r := []) (ci := 11) (fs := mF B s4) (bM_get (j := 0) rfl) i132_50 rfl rfl rfl (Nat.le_of_ble_eq_true rfl) t15 ?_
  refine gm_ev.if_ne_t (tgt := 58) i132_53 (by decide) c17 ?_
  refine gm_ev.aload_n i132_58 rfl ?_
  refine gm_ev.callV gm_mono_run (av := []) (r := []) (ci := 11) (fs := mF B s16) (bM_get (j := 0) rfl) i132_59 rfl rfl rfl (Nat.le_of_ble_eq_true rfl) t19 ?_
  refine gm_ev.bipush (v := 35) i132_62 (by decide) ?_
  refine gm_ev.icmp_ne_f i132_64 c20 ?_
  refine gm_ev.iload_n i132_67 rfl ?_
  refine gm_ev.callS gm_mono_run (av := [.int r6]) (r := []) i132_68 rfl rfl rfl (Nat.le_of_ble_eq_true rfl) t22 ?_
  refine gm_ev.if_eq_f i132_71 c23 ?_
  refine gm_ev.aload_n i132_74 rfl ?_
  refine gm_ev.iload_n i132_75 rfl ?_
  refine gm_ev.callV gm_mono_run (av := [.int p0]) (r := []) (ci := 11) (fs := mF B s16) (bM_get (j := 0) rfl) i132_76 rfl rfl rfl (Nat.le_of_ble_eq_true rfl) t25 ?_
  refine gm_ev.if_ne_t (tgt := 96) i132_79 (by decide) c27 ?_
  refine gm_ev.aload_n i132_96 rfl ?_
  refine gm_ev.getfield (v := .ref (B + 5)) i132_97 rfl (bM_fld (j := 0) (fs := mF B s26) rfl rfl) ?_
  refine gm_ev.iload_n i132_100 rfl ?_
  refine gm_ev.iconst (v := 2) i132_101 (by decide) ?_
  refine gm_ev.iastore (M' := (bM B (mH B (mA s26 13 (upd (s26.2.1 13) k28 (2 : Int32)))) G)) i132_102 (bM_asti (j := 5) (n := 144) (f := s26.2.1 13) rfl ek28 lk28 (by decide) hN rfl) ?_
  refine gm_ev.aload_n i132_103 rfl ?_
  refine gm_ev.bipush (v := 35) i132_104 (by decide) ?_
  refine gm_ev.callV gm_mono_run (av := [.int (35 : Int32)]) (r := []) (ci := 11) (fs := mF B (mA s26 13 (upd (s26.2.1 13) k28 (2 : Int32)))) (bM_get (j := 0) rfl) i132_106 rfl rfl rfl (Nat.le_of_ble_eq_true rfl) t30 ?_
  refine gm_ev.if_eq_f i132_109 c32 ?_
  refine gm_ev.aload_n i132_112 rfl ?_
  refine gm_ev.iconst (v := 3) i132_113 (by decide) ?_
  refine gm_ev.iload_n i132_114 rfl ?_
  refine gm_ev.imul i132_115 ?_
  refine gm_ev.iconst (v := 1) i132_116 (by decide) ?_
  refine gm_ev.iadd i132_117 ?_
  refine gm_ev.callV gm_mono_run (av := [.int (((3 : Int32) * p0) + (1 : Int32))]) (r := []) (ci := 11) (fs := mF B s31) (bM_get (j := 0) rfl) i132_118 rfl rfl rfl (Nat.le_of_ble_eq_true rfl) t34 ?_
  refine gm_ev.if_eq_t (tgt := 128) i132_121 (by decide) c36 ?_
  refine gm_ev.iconst (v := 0) i132_128 (by decide) ?_
  exact gm_ev.zret i132_129 rfl (by decide)
theorem r_literal_0_tfftfftff {N0 : Nat} {K : Nat → Nat} {d B : Nat} {s : mS} {G : gm_H} {sz sl : Nat} {p0 : Int32} {k1 : Nat} {r2 : Int32} {s4 : mS} {r6 : Int32} {r8 : Int32} {r11 : Int32} {r14 : Int32} {s16 : mS} {r18 : Int32} {r21 : Int32} {r24 : Int32} {s26 : mS} {k28 : Nat} {r29 : Int32} {s31 : mS} {r33 : Int32} {s35 : mS} (hN : N0 ≤ B) (ek1 : p0 = nI k1) (lk1 : k1 < 144) (t3 : gm_to N0 K ra_nm (ra_mt K) d 128 [.ref B, .int (126 : Int32)] (bM B (mH B (mA s 13 (upd (s.2.1 13) k1 (0 : Int32)))) G) sz (.returned (some (.int r2)), bM B (mH B s4) G, sz, 0)) (c5 : r2 = 0) (t7 : gm_to N0 K ra_nm (ra_mt K) d 123 [.ref B] (bM B (mH B s4) G) sz (.returned (some (.int r6)), bM B (mH B s4) G, sz, 0)) (t9 : gm_to N0 K ra_nm (ra_mt K) d 124 [.int r6] (bM B (mH B s4) G) sz (.returned (some (.int r8)), bM B (mH B s4) G, sz, 0)) (c10 : r8 = 0) (t12 : gm_to N0 K ra_nm (ra_mt K) d 127 [.int r6] (bM B (mH B s4) G) sz (.returned (some (.int r11)), bM B (mH B s4) G, sz, 0)) (c13 : ¬ r11 < 0) (t15 : gm_to N0 K ra_nm (ra_mt K) d 130 [.ref B, .int p0] (bM B (mH B s4) G) sz (.returned (some (.int r14)), bM B (mH B s16) G, sz, 0)) (c17 : ¬ r14 = 0) (t19 : gm_to N0 K ra_nm (ra_mt K) d 123 [.ref B] (bM B (mH B s16) G) sz (.returned (some (.int r18)), bM B (mH B s16) G, sz, 0)) (c20 : r18 = (35 : Int32)) (t22 : gm_to N0 K ra_nm (ra_mt K) d 124 [.int r6] (bM B (mH B s16) G) sz (.returned (some (.int r21)), bM B (mH B s16) G, sz, 0)) (c23 : ¬ r21 = 0) (t25 : gm_to N0 K ra_nm (ra_mt K) d 131 [.ref B, .int p0] (bM B (mH B s16) G) sz (.returned (some (.int r24)), bM B (mH B s26) G, sz, 0)) (c27 : ¬ r24 = 0) (ek28 : p0 = nI k28) (lk28 : k28 < 144) (t30 : gm_to N0 K ra_nm (ra_mt K) d 128 [.ref B, .int (35 : Int32)] (bM B (mH B (mA s26 13 (upd (s26.2.1 13) k28 (2 : Int32)))) G) sz (.returned (some (.int r29)), bM B (mH B s31) G, sz, 0)) (c32 : ¬ r29 = 0) (t34 : gm_to N0 K ra_nm (ra_mt K) d 129 [.ref B, .int (((3 : Int32) * p0) + (1 : Int32))] (bM B (mH B s31) G) sz (.returned (some (.int r33)), bM B (mH B s35) G, sz, 0)) (c36 : ¬ r33 = 0) : gm_ev N0 K ra_nm (ra_mt K) d (some .boolean) (gm_I cX12_literal) (gm_lkf (lkX12 false K)) 0 [some (.ref B), some (.int p0), none] [] (bM B (mH B s) G) sz sl (.returned (some (.int (1 : Int32))), (bM B (mH B s35) G), sz, sl) := by
  refine gm_ev.aload_n i132_0 rfl ?_
  refine gm_ev.getfield (v := .ref (B + 5)) i132_1 rfl (bM_fld (j := 0) (fs := mF B s) rfl rfl) ?_
  refine gm_ev.iload_n i132_4 rfl ?_
  refine gm_ev.iconst (v := 0) i132_5 (by decide) ?_
  refine gm_ev.iastore (M' := (bM B (mH B (mA s 13 (upd (s.2.1 13) k1 (0 : Int32)))) G)) i132_6 (bM_asti (j := 5) (n := 144) (f := s.2.1 13) rfl ek1 lk1 (by decide) hN rfl) ?_
  refine gm_ev.aload_n i132_7 rfl ?_
  refine gm_ev.bipush (v := 126) i132_8 (by decide) ?_
  refine gm_ev.callV gm_mono_run (av := [.int (126 : Int32)]) (r := []) (ci := 11) (fs := mF B (mA s 13 (upd (s.2.1 13) k1 (0 : Int32)))) (bM_get (j := 0) rfl) i132_10 rfl rfl rfl (Nat.le_of_ble_eq_true rfl) t3 ?_
  refine gm_ev.if_eq_t (tgt := 29) i132_13 (by decide) c5 ?_
  refine gm_ev.aload_n i132_29 rfl ?_
  refine gm_ev.callV gm_mono_run (av := []) (r := []) (ci := 11) (fs := mF B s4) (bM_get (j := 0) rfl) i132_30 rfl rfl rfl (Nat.le_of_ble_eq_true rfl) t7 ?_
  refine gm_ev.istore_n (ls' := [some (.ref B), some (.int p0), some (.int r6)]) i132_33 (Nat.le_of_ble_eq_true rfl) rfl ?_
  refine gm_ev.iload_n i132_34 rfl ?_
  refine gm_ev.callS gm_mono_run (av := [.int r6]) (r := []) i132_35 rfl rfl rfl (Nat.le_of_ble_eq_true rfl) t9 ?_
  refine gm_ev.if_ne_f i132_38 c10 ?_
  refine gm_ev.iload_n i132_41 rfl ?_
  refine gm_ev.callS gm_mono_run (av := [.int r6]) (r := []) i132_42 rfl rfl rfl (Nat.le_of_ble_eq_true rfl) t12 ?_
  refine gm_ev.if_lt_f i132_45 c13 ?_
  refine gm_ev.aload_n i132_48 rfl ?_
  refine gm_ev.iload_n i132_49 rfl ?_
  refine gm_ev.callV gm_mono_run (av := [.int p0]) (r := []) (ci := 11) (fs := mF B s4) (bM_get (j := 0) rfl) i132_50 rfl rfl rfl (Nat.le_of_ble_eq_true rfl) t15 ?_
  refine gm_ev.if_ne_t (tgt := 58) i132_53 (by decide) c17 ?_
  refine gm_ev.aload_n i132_58 rfl ?_
  refine gm_ev.callV gm_mono_run (av := []) (r := []) (ci := 11) (fs := mF B s16) (bM_get (j := 0) rfl) i132_59 rfl rfl rfl (Nat.le_of_ble_eq_true rfl) t19 ?_
  refine gm_ev.bipush (v := 35) i132_62 (by decide) ?_
  refine gm_ev.icmp_ne_f i132_64 c20 ?_
  refine gm_ev.iload_n i132_67 rfl ?_
  refine gm_ev.callS gm_mono_run (av := [.int r6]) (r := []) i132_68 rfl rfl rfl (Nat.le_of_ble_eq_true rfl) t22 ?_
  refine gm_ev.if_eq_f i132_71 c23 ?_
  refine gm_ev.aload_n i132_74 rfl ?_
  refine gm_ev.iload_n i132_75 rfl ?_
  refine gm_ev.callV gm_mono_run (av := [.int p0]) (r := []) (ci := 11) (fs := mF B s16) (bM_get (j := 0) rfl) i132_76 rfl rfl rfl (Nat.le_of_ble_eq_true rfl) t25 ?_
  refine gm_ev.if_ne_t (tgt := 96) i132_79 (by decide) c27 ?_
  refine gm_ev.aload_n i132_96 rfl ?_
  refine gm_ev.getfield (v := .ref (B + 5)) i132_97 rfl (bM_fld (j := 0) (fs := mF B s26) rfl rfl) ?_
  refine gm_ev.iload_n i132_100 rfl ?_
  refine gm_ev.iconst (v := 2) i132_101 (by decide) ?_
  refine gm_ev.iastore (M' := (bM B (mH B (mA s26 13 (upd (s26.2.1 13) k28 (2 : Int32)))) G)) i132_102 (bM_asti (j := 5) (n := 144) (f := s26.2.1 13) rfl ek28 lk28 (by decide) hN rfl) ?_
  refine gm_ev.aload_n i132_103 rfl ?_
  refine gm_ev.bipush (v := 35) i132_104 (by decide) ?_
  refine gm_ev.callV gm_mono_run (av := [.int (35 : Int32)]) (r := []) (ci := 11) (fs := mF B (mA s26 13 (upd (s26.2.1 13) k28 (2 : Int32)))) (bM_get (j := 0) rfl) i132_106 rfl rfl rfl (Nat.le_of_ble_eq_true rfl) t30 ?_
  refine gm_ev.if_eq_f i132_109 c32 ?_
  refine gm_ev.aload_n i132_112 rfl ?_
  refine gm_ev.iconst (v := 3) i132_113 (by decide) ?_
  refine gm_ev.iload_n i132_114 rfl ?_
  refine gm_ev.imul i132_115 ?_
  refine gm_ev.iconst (v := 1) i132_116 (by decide) ?_
  refine gm_ev.iadd i132_117 ?_
  refine gm_ev.callV gm_mono_run (av := [.int (((3 : Int32) * p0) + (1 : Int32))]) (r := []) (ci := 11) (fs := mF B s31) (bM_get (j := 0) rfl) i132_118 rfl rfl rfl (Nat.le_of_ble_eq_true rfl) t34 ?_
  refine gm_ev.if_eq_f i132_121 c36 ?_
  refine gm_ev.iconst (v := 1) i132_124 (by decide) ?_
  refine gm_ev.goto (tgt := 129) i132_125 (by decide) ?_
  exact gm_ev.zret i132_129 rfl (by decide)
theorem r_literal_0_tfftfff {N0 : Nat} {K : Nat → Nat} {d B : Nat} {s : mS} {G : gm_H} {sz sl : Nat} {p0 : Int32} {k1 : Nat} {r2 : Int32} {s4 : mS} {r6 : Int32} {r8 : Int32} {r11 : Int32} {r14 : Int32} {s16 : mS} {r18 : Int32} {r21 : Int32} {r24 : Int32} {s26 : mS} (hN : N0 ≤ B) (ek1 : p0 = nI k1) (lk1 : k1 < 144) (t3 : gm_to N0 K ra_nm (ra_mt K) d 128 [.ref B, .int (126 : Int32)] (bM B (mH B (mA s 13 (upd (s.2.1 13) k1 (0 : Int32)))) G) sz (.returned (some (.int r2)), bM B (mH B s4) G, sz, 0)) (c5 : r2 = 0) (t7 : gm_to N0 K ra_nm (ra_mt K) d 123 [.ref B] (bM B (mH B s4) G) sz (.returned (some (.int r6)), bM B (mH B s4) G, sz, 0)) (t9 : gm_to N0 K ra_nm (ra_mt K) d 124 [.int r6] (bM B (mH B s4) G) sz (.returned (some (.int r8)), bM B (mH B s4) G, sz, 0)) (c10 : r8 = 0) (t12 : gm_to N0 K ra_nm (ra_mt K) d 127 [.int r6] (bM B (mH B s4) G) sz (.returned (some (.int r11)), bM B (mH B s4) G, sz, 0)) (c13 : ¬ r11 < 0) (t15 : gm_to N0 K ra_nm (ra_mt K) d 130 [.ref B, .int p0] (bM B (mH B s4) G) sz (.returned (some (.int r14)), bM B (mH B s16) G, sz, 0)) (c17 : ¬ r14 = 0) (t19 : gm_to N0 K ra_nm (ra_mt K) d 123 [.ref B] (bM B (mH B s16) G) sz (.returned (some (.int r18)), bM B (mH B s16) G, sz, 0)) (c20 : r18 = (35 : Int32)) (t22 : gm_to N0 K ra_nm (ra_mt K) d 124 [.int r6] (bM B (mH B s16) G) sz (.returned (some (.int r21)), bM B (mH B s16) G, sz, 0)) (c23 : ¬ r21 = 0) (t25 : gm_to N0 K ra_nm (ra_mt K) d 131 [.ref B, .int p0] (bM B (mH B s16) G) sz (.returned (some (.int r24)), bM B (mH B s26) G, sz, 0)) (c27 : r24 = 0) : gm_ev N0 K ra_nm (ra_mt K) d (some .boolean) (gm_I cX12_literal) (gm_lkf (lkX12 false K)) 0 [some (.ref B), some (.int p0), none] [] (bM B (mH B s) G) sz sl (.returned (some (.int (1 : Int32))), (bM B (mH B s26) G), sz, sl) := by
  refine gm_ev.aload_n i132_0 rfl ?_
  refine gm_ev.getfield (v := .ref (B + 5)) i132_1 rfl (bM_fld (j := 0) (fs := mF B s) rfl rfl) ?_
  refine gm_ev.iload_n i132_4 rfl ?_
  refine gm_ev.iconst (v := 0) i132_5 (by decide) ?_
  refine gm_ev.iastore (M' := (bM B (mH B (mA s 13 (upd (s.2.1 13) k1 (0 : Int32)))) G)) i132_6 (bM_asti (j := 5) (n := 144) (f := s.2.1 13) rfl ek1 lk1 (by decide) hN rfl) ?_
  refine gm_ev.aload_n i132_7 rfl ?_
  refine gm_ev.bipush (v := 126) i132_8 (by decide) ?_
  refine gm_ev.callV gm_mono_run (av := [.int (126 : Int32)]) (r := []) (ci := 11) (fs := mF B (mA s 13 (upd (s.2.1 13) k1 (0 : Int32)))) (bM_get (j := 0) rfl) i132_10 rfl rfl rfl (Nat.le_of_ble_eq_true rfl) t3 ?_
  refine gm_ev.if_eq_t (tgt := 29) i132_13 (by decide) c5 ?_
  refine gm_ev.aload_n i132_29 rfl ?_
  refine gm_ev.callV gm_mono_run (av := []) (r := []) (ci := 11) (fs := mF B s4) (bM_get (j := 0) rfl) i132_30 rfl rfl rfl (Nat.le_of_ble_eq_true rfl) t7 ?_
  refine gm_ev.istore_n (ls' := [some (.ref B), some (.int p0), some (.int r6)]) i132_33 (Nat.le_of_ble_eq_true rfl) rfl ?_
  refine gm_ev.iload_n i132_34 rfl ?_
  refine gm_ev.callS gm_mono_run (av := [.int r6]) (r := []) i132_35 rfl rfl rfl (Nat.le_of_ble_eq_true rfl) t9 ?_
  refine gm_ev.if_ne_f i132_38 c10 ?_
  refine gm_ev.iload_n i132_41 rfl ?_
  refine gm_ev.callS gm_mono_run (av := [.int r6]) (r := []) i132_42 rfl rfl rfl (Nat.le_of_ble_eq_true rfl) t12 ?_
  refine gm_ev.if_lt_f i132_45 c13 ?_
  refine gm_ev.aload_n i132_48 rfl ?_
  refine gm_ev.iload_n i132_49 rfl ?_
  refine gm_ev.callV gm_mono_run (av := [.int p0]) (r := []) (ci := 11) (fs := mF B s4) (bM_get (j := 0) rfl) i132_50 rfl rfl rfl (Nat.le_of_ble_eq_true rfl) t15 ?_
  refine gm_ev.if_ne_t (tgt := 58) i132_53 (by decide) c17 ?_
  refine gm_ev.aload_n i132_58 rfl ?_
  refine gm_ev.callV gm_mono_run (av := []) (r := []) (ci := 11) (fs := mF B s16) (bM_get (j := 0) rfl) i132_59 rfl rfl rfl (Nat.le_of_ble_eq_true rfl) t19 ?_
  refine gm_ev.bipush (v := 35) i132_62 (by decide) ?_
  refine gm_ev.icmp_ne_f i132_64 c20 ?_
  refine gm_ev.iload_n i132_67 rfl ?_
  refine gm_ev.callS gm_mono_run (av := [.int r6]) (r := []) i132_68 rfl rfl rfl (Nat.le_of_ble_eq_true rfl) t22 ?_
  refine gm_ev.if_eq_f i132_71 c23 ?_
  refine gm_ev.aload_n i132_74 rfl ?_
  refine gm_ev.iload_n i132_75 rfl ?_
  refine gm_ev.callV gm_mono_run (av := [.int p0]) (r := []) (ci := 11) (fs := mF B s16) (bM_get (j := 0) rfl) i132_76 rfl rfl rfl (Nat.le_of_ble_eq_true rfl) t25 ?_
  refine gm_ev.if_ne_f i132_79 c27 ?_
  refine gm_ev.iconst (v := 1) i132_82 (by decide) ?_
  exact gm_ev.zret i132_83 rfl (by decide)
