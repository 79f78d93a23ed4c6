/-! paths through RuleArenaModel, by program -/
theorem r_letter_0_fffffftttfttfff {N0 : Nat} {K : Nat → Nat} {d B : Nat} {s : mS} {G : gm_H} {sz sl : Nat} {p0 : Int32} {p1 : Int32} {p2 : Int32} {r7 : Int32} {s11 : mS} {k18 : Nat} {r20 : Int32} (hN : N0 ≤ B) (c1 : ¬ p0 < 0) (c2 : ¬ (3 : Int32) < p0) (c3 : ¬ p1 < 0) (c4 : ¬ p2 < 0) (c5 : ¬ (s.1 5) = 0) (c6 : ¬ p0 ≤ (1 : Int32)) (t8 : gm_to N0 K ra_nm (ra_mt K) d 170 [.ref B, .int (p0 - (2 : Int32))] (bM B (mH B (mI s 0 (0 : Int32))) G) sz (.returned (some (.int r7)), bM B (mH B (mI s 0 (0 : Int32))) G, sz, 0)) (c9 : ¬ r7 = 0) (t10 : gm_to N0 K ra_nm (ra_mt K) d 161 [.ref B] (bM B (mH B (mI s 0 (0 : Int32))) G) sz (.returned none, bM B (mH B s11) G, sz, 0)) (c12 : p0 ≤ (1 : Int32)) (c13 : ¬ p0 = 0) (c14 : p0 = (1 : Int32)) (c15 : p1 < (s11.1 30)) (c16 : ¬ p0 = 0) (c17 : p0 = (1 : Int32)) (ek18 : p1 = nI k18) (lk18 : k18 < 24) (c19 : ¬ p2 ≤ (8 : Int32)) (t21 : gm_to N0 K ra_nm (ra_mt K) d 147 [.long (s11.2.2 29 k18), .int (8 : Int32)] (bM B (mH B s11) G) sz (.returned (some (.int r20)), bM B (mH B s11) G, sz, 0)) (c22 : r20 = 0) : gm_ev N0 K ra_nm (ra_mt K) d (some .int) (gm_I cX12_letter) (gm_lkf (lkX12 false K)) 0 [some (.ref B), some (.int p0), some (.int p1), some (.int p2), none, none] [] (bM B (mH B s) G) sz sl (.returned (some (.int (-1 : Int32))), (bM B (mH B s11) G), sz, sl) := by
  refine gm_ev.aload_n i179_0 rfl ?_
  refine gm_ev.iconst (v := 0) i179_1 (by decide) ?_
  refine gm_ev.putfield (M' := (bM B (mH B (mI s 0 (0 : Int32))) G)) i179_2 rfl (bM_put (j := 0) (fs := mF B s) rfl (Nat.le_of_ble_eq_true rfl) hN (gm_fit_i _) rfl) ?_
  refine gm_ev.iload_n i179_5 rfl ?_
  refine gm_ev.if_lt_f i179_6 c1 ?_
  refine gm_ev.iload_n i179_9 rfl ?_
  refine gm_ev.iconst (v := 3) i179_10 (by decide) ?_
  refine gm_ev.icmp_gt_f i179_11 c2 ?_
  refine gm_ev.iload_n i179_14 rfl ?_
  refine gm_ev.if_lt_f i179_15 c3 ?_
  refine gm_ev.iload_n i179_18 rfl ?_
  refine gm_ev.if_lt_f i179_19 c4 ?_
  refine gm_ev.aload_n i179_22 rfl ?_
  refine gm_ev.getfield (v := .int (s.1 5)) i179_23 rfl (bM_fld (j := 0) (fs := mF B (mI s 0 (0 : Int32))) rfl rfl) ?_
  refine gm_ev.if_eq_f i179_26 c5 ?_
  refine gm_ev.iload_n i179_29 rfl ?_
  refine gm_ev.iconst (v := 1) i179_30 (by decide) ?_
  refine gm_ev.icmp_le_f i179_31 c6 ?_
  refine gm_ev.aload_n i179_34 rfl ?_
  refine gm_ev.iload_n i179_35 rfl ?_
  refine gm_ev.iconst (v := 2) i179_36 (by decide) ?_
  refine gm_ev.isub i179_37 ?_
  refine gm_ev.callV gm_mono_run (av := [.int (p0 - (2 : Int32))]) (r := []) (ci := 11) (fs := mF B (mI s 0 (0 : Int32))) (bM_get (j := 0) rfl) i179_38 rfl rfl rfl (Nat.le_of_ble_eq_true rfl) t8 ?_
  refine gm_ev.if_ne_t (tgt := 46) i179_41 (by decide) c9 ?_
  refine gm_ev.aload_n i179_46 rfl ?_
  refine gm_ev.callV gm_mono_run (av := []) (r := []) (ci := 11) (fs := mF B (mI s 0 (0 : Int32))) (bM_get (j := 0) rfl) i179_47 rfl rfl rfl (Nat.le_of_ble_eq_true rfl) t10 ?_
  refine gm_ev.iload_n i179_50 rfl ?_
  refine gm_ev.iconst (v := 1) i179_51 (by decide) ?_
  refine gm_ev.icmp_le_t (tgt := 62) i179_52 (by decide) c12 ?_
  refine gm_ev.iload_n i179_62 rfl ?_
  refine gm_ev.if_ne_t (tgt := 73) i179_63 (by decide) c13 ?_
  refine gm_ev.iload_n i179_73 rfl ?_
  refine gm_ev.iconst (v := 1) i179_74 (by decide) ?_
  refine gm_ev.icmp_ne_f i179_75 c14 ?_
  refine gm_ev.aload_n i179_78 rfl ?_
  refine gm_ev.getfield (v := .int (s11.1 30)) i179_79 rfl (bM_fld (j := 0) (fs := mF B s11) rfl rfl) ?_
  refine gm_ev.goto (tgt := 89) i179_82 (by decide) ?_
  refine gm_ev.istore (ls' := [some (.ref B), some (.int p0), some (.int p1), some (.int p2), some (.int (s11.1 30)), none]) i179_89 (Nat.le_of_ble_eq_true rfl) rfl ?_
  refine gm_ev.iload_n i179_91 rfl ?_
  refine gm_ev.iload i179_92 rfl ?_
  refine gm_ev.icmp_lt_t (tgt := 99) i179_94 (by decide) c15 ?_
  refine gm_ev.iload_n i179_99 rfl ?_
  refine gm_ev.if_ne_t (tgt := 112) i179_100 (by decide) c16 ?_
  refine gm_ev.iload_n i179_112 rfl ?_
  refine gm_ev.iconst (v := 1) i179_113 (by decide) ?_
  refine gm_ev.icmp_ne_f i179_114 c17 ?_
  refine gm_ev.aload_n i179_117 rfl ?_
  refine gm_ev.getfield (v := .ref (B + 17)) i179_118 rfl (bM_fld (j := 0) (fs := mF B s11) rfl rfl) ?_
  refine gm_ev.iload_n i179_121 rfl ?_
  refine gm_ev.laload i179_122 (bM_al (j := 17) (n := 24) (fl := s11.2.2 29) rfl ek18 lk18 (by decide)) ?_
  refine gm_ev.goto (tgt := 132) i179_123 (by decide) ?_
  refine gm_ev.iload_n i179_132 rfl ?_
  refine gm_ev.bipush (v := 8) i179_133 (by decide) ?_
  refine gm_ev.icmp_le_f i179_135 c19 ?_
  refine gm_ev.bipush (v := 8) i179_138 (by decide) ?_
  refine gm_ev.goto (tgt := 144) i179_140 (by decide) ?_
  refine gm_ev.callS gm_mono_run (av := [.long (s11.2.2 29 k18), .int (8 : Int32)]) (r := []) i179_144 rfl rfl rfl (Nat.le_of_ble_eq_true rfl) t21 ?_
  refine gm_ev.istore (ls' := [some (.ref B), some (.int p0), some (.int p1), some (.int p2), some (.int (s11.1 30)), some (.int r20)]) i179_147 (Nat.le_of_ble_eq_true rfl) rfl ?_
  refine gm_ev.iload i179_149 rfl ?_
  refine gm_ev.if_ne_f i179_151 c22 ?_
  refine gm_ev.iconst (v := -1) i179_154 (by decide) ?_
  refine gm_ev.goto (tgt := 160) i179_155 (by decide) ?_
  exact gm_ev.iret i179_160 rfl
theorem r_letter_0_fffffftttftftt {N0 : Nat} {K : Nat → Nat} {d B : Nat} {s : mS} {G : gm_H} {sz sl : Nat} {p0 : Int32} {p1 : Int32} {p2 : Int32} {r7 : Int32} {s11 : mS} {k17 : Nat} {r19 : Int32} (hN : N0 ≤ B) (c1 : ¬ p0 < 0) (c2 : ¬ (3 : Int32) < p0) (c3 : ¬ p1 < 0) (c4 : ¬ p2 < 0) (c5 : ¬ (s.1 5) = 0) (c6 : ¬ p0 ≤ (1 : Int32)) (t8 : gm_to N0 K ra_nm (ra_mt K) d 170 [.ref B, .int (p0 - (2 : Int32))] (bM B (mH B (mI s 0 (0 : Int32))) G) sz (.returned (some (.int r7)), bM B (mH B (mI s 0 (0 : Int32))) G, sz, 0)) (c9 : ¬ r7 = 0) (t10 : gm_to N0 K ra_nm (ra_mt K) d 161 [.ref B] (bM B (mH B (mI s 0 (0 : Int32))) G) sz (.returned none, bM B (mH B s11) G, sz, 0)) (c12 : p0 ≤ (1 : Int32)) (c13 : ¬ p0 = 0) (c14 : p0 = (1 : Int32)) (c15 : p1 < (s11.1 30)) (c16 : p0 = 0) (ek17 : p1 = nI k17) (lk17 : k17 < 24) (c18 : p2 ≤ (8 : Int32)) (t20 : gm_to N0 K ra_nm (ra_mt K) d 147 [.long (s11.2.2 35 k17), .int p2] (bM B (mH B s11) G) sz (.returned (some (.int r19)), bM B (mH B s11) G, sz, 0)) (c21 : ¬ r19 = 0) : gm_ev N0 K ra_nm (ra_mt K) d (some .int) (gm_I cX12_letter) (gm_lkf (lkX12 false K)) 0 [some (.ref B), some (.int p0), some (.int p1), some (.int p2), none, none] [] (bM B (mH B s) G) sz sl (.returned (some (.int r19)), (bM B (mH B s11) G), sz, sl) := by
  refine gm_ev.aload_n i179_0 rfl ?_
  refine gm_ev.iconst (v := 0) i179_1 (by decide) ?_
  refine gm_ev.putfield (M' := (bM B (mH B (mI s 0 (0 : Int32))) G)) i179_2 rfl (bM_put (j := 0) (fs := mF B s) rfl (Nat.le_of_ble_eq_true rfl) hN (gm_fit_i _) rfl) ?_
  refine gm_ev.iload_n i179_5 rfl ?_
  refine gm_ev.if_lt_f i179_6 c1 ?_
  refine gm_ev.iload_n i179_9 rfl ?_
  refine gm_ev.iconst (v := 3) i179_10 (by decide) ?_
  refine gm_ev.icmp_gt_f i179_11 c2 ?_
  refine gm_ev.iload_n i179_14 rfl ?_
  refine gm_ev.if_lt_f i179_15 c3 ?_
  refine gm_ev.iload_n i179_18 rfl ?_
  refine gm_ev.if_lt_f i179_19 c4 ?_
  refine gm_ev.aload_n i179_22 rfl ?_
  refine gm_ev.getfield (v := .int (s.1 5)) i179_23 rfl (bM_fld (j := 0) (fs := mF B (mI s 0 (0 : Int32))) rfl rfl) ?_
  refine gm_ev.if_eq_f i179_26 c5 ?_
  refine gm_ev.iload_n i179_29 rfl ?_
  refine gm_ev.iconst (v := 1) i179_30 (by decide) ?_
  refine gm_ev.icmp_le_f i179_31 c6 ?_
  refine gm_ev.aload_n i179_34 rfl ?_
  refine gm_ev.iload_n i179_35 rfl ?_
  refine gm_ev.iconst (v := 2) i179_36 (by decide) ?_
  refine gm_ev.isub i179_37 ?_
  refine gm_ev.callV gm_mono_run (av := [.int (p0 - (2 : Int32))]) (r := []) (ci := 11) (fs := mF B (mI s 0 (0 : Int32))) (bM_get (j := 0) rfl) i179_38 rfl rfl rfl (Nat.le_of_ble_eq_true rfl) t8 ?_
  refine gm_ev.if_ne_t (tgt := 46) i179_41 (by decide) c9 ?_
  refine gm_ev.aload_n i179_46 rfl ?_
  refine gm_ev.callV gm_mono_run (av := []) (r := []) (ci := 11) (fs := mF B (mI s 0 (0 : Int32))) (bM_get (j := 0) rfl) i179_47 rfl rfl rfl (Nat.le_of_ble_eq_true rfl) t10 ?_
  refine gm_ev.iload_n i179_50 rfl ?_
  refine gm_ev.iconst (v := 1) i179_51 (by decide) ?_
  refine gm_ev.icmp_le_t (tgt := 62) i179_52 (by decide) c12 ?_
  refine gm_ev.iload_n i179_62 rfl ?_
  refine gm_ev.if_ne_t (tgt := 73) i179_63 (by decide) c13 ?_
  refine gm_ev.iload_n i179_73 rfl ?_
  refine gm_ev.iconst (v := 1) i179_74 (by decide) ?_
  refine gm_ev.icmp_ne_f i179_75 c14 ?_
  refine gm_ev.aload_n i179_78 rfl ?_
  refine gm_ev.getfield (v := .int (s11.1 30)) i179_79 rfl (bM_fld (j := 0) (fs := mF B s11) rfl rfl) ?_
  refine gm_ev.goto (tgt := 89) i179_82 (by decide) ?_
  refine gm_ev.istore (ls' := [some (.ref B), some (.int p0), some (.int p1), some (.int p2), some (.int (s11.1 30)), none]) i179_89 (Nat.le_of_ble_eq_true rfl) rfl ?_
  refine gm_ev.iload_n i179_91 rfl ?_
  refine gm_ev.iload i179_92 rfl ?_
  refine gm_ev.icmp_lt_t (tgt := 99) i179_94 (by decide) c15 ?_
  refine gm_ev.iload_n i179_99 rfl ?_
  refine gm_ev.if_ne_f i179_100 c16 ?_
  refine gm_ev.aload_n i179_103 rfl ?_
  refine gm_ev.getfield (v := .ref (B + 20)) i179_104 rfl (bM_fld (j := 0) (fs := mF B s11) rfl rfl) ?_
  refine gm_ev.iload_n i179_107 rfl ?_
  refine gm_ev.laload i179_108 (bM_al (j := 20) (n := 24) (fl := s11.2.2 35) rfl ek17 lk17 (by decide)) ?_
  refine gm_ev.goto (tgt := 132) i179_109 (by decide) ?_
  refine gm_ev.iload_n i179_132 rfl ?_
  refine gm_ev.bipush (v := 8) i179_133 (by decide) ?_
  refine gm_ev.icmp_le_t (tgt := 143) i179_135 (by decide) c18 ?_
  refine gm_ev.iload_n i179_143 rfl ?_
  refine gm_ev.callS gm_mono_run (av := [.long (s11.2.2 35 k17), .int p2]) (r := []) i179_144 rfl rfl rfl (Nat.le_of_ble_eq_true rfl) t20 ?_
  refine gm_ev.istore (ls' := [some (.ref B), some (.int p0), some (.int p1), some (.int p2), some (.int (s11.1 30)), some (.int r19)]) i179_147 (Nat.le_of_ble_eq_true rfl) rfl ?_
  refine gm_ev.iload i179_149 rfl ?_
  refine gm_ev.if_ne_t (tgt := 158) i179_151 (by decide) c21 ?_
  refine gm_ev.iload i179_158 rfl ?_
  exact gm_ev.iret i179_160 rfl
theorem r_letter_0_fffffftttftftf {N0 : Nat} {K : Nat → Nat} {d B : Nat} {s : mS} {G : gm_H} {sz sl : Nat} {p0 : Int32} {p1 : Int32} {p2 : Int32} {r7 : Int32} {s11 : mS} {k17 : Nat} {r19 : Int32} (hN : N0 ≤ B) (c1 : ¬ p0 < 0) (c2 : ¬ (3 : Int32) < p0) (c3 : ¬ p1 < 0) (c4 : ¬ p2 < 0) (c5 : ¬ (s.1 5) = 0) (c6 : ¬ p0 ≤ (1 : Int32)) (t8 : gm_to N0 K ra_nm (ra_mt K) d 170 [.ref B, .int (p0 - (2 : Int32))] (bM B (mH B (mI s 0 (0 : Int32))) G) sz (.returned (some (.int r7)), bM B (mH B (mI s 0 (0 : Int32))) G, sz, 0)) (c9 : ¬ r7 = 0) (t10 : gm_to N0 K ra_nm (ra_mt K) d 161 [.ref B] (bM B (mH B (mI s 0 (0 : Int32))) G) sz (.returned none, bM B (mH B s11) G, sz, 0)) (c12 : p0 ≤ (1 : Int32)) (c13 : ¬ p0 = 0) (c14 : p0 = (1 : Int32)) (c15 : p1 < (s11.1 30)) (c16 : p0 = 0) (ek17 : p1 = nI k17) (lk17 : k17 < 24) (c18 : p2 ≤ (8 : Int32)) (t20 : gm_to N0 K ra_nm (ra_mt K) d 147 [.long (s11.2.2 35 k17), .int p2] (bM B (mH B s11) G) sz (.returned (some (.int r19)), bM B (mH B s11) G, sz, 0)) (c21 : r19 = 0) : gm_ev N0 K ra_nm (ra_mt K) d (some .int) (gm_I cX12_letter) (gm_lkf (lkX12 false K)) 0 [some (.ref B), some (.int p0), some (.int p1), some (.int p2), none, none] [] (bM B (mH B s) G) sz sl (.returned (some (.int (-1 : Int32))), (bM B (mH B s11) G), sz, sl) := by
  refine gm_ev.aload_n i179_0 rfl ?_
  refine gm_ev.iconst (v := 0) i179_1 (by decide) ?_
  refine gm_ev.putfield (M' := (bM B (mH B (mI s 0 (0 : Int32))) G)) i179_2 rfl (bM_put (j := 0) (fs := mF B s) rfl (Nat.le_of_ble_eq_true rfl) hN (gm_fit_i _) rfl) ?_
  refine gm_ev.iload_n i179_5 rfl ?_
  refine gm_ev.if_lt_f i179_6 c1 ?_
  refine gm_ev.iload_n i179_9 rfl ?_
  refine gm_ev.iconst (v := 3) i179_10 (by decide) ?_
  refine gm_ev.icmp_gt_f i179_11 c2 ?_
  refine gm_ev.iload_n i179_14 rfl ?_
  refine gm_ev.if_lt_f i179_15 c3 ?_
  refine gm_ev.iload_n i179_18 rfl ?_
  refine gm_ev.if_lt_f i179_19 c4 ?_
  refine gm_ev.aload_n i179_22 rfl ?_
  refine gm_ev.getfield (v := .int (s.1 5)) i179_23 rfl (bM_fld (j := 0) (fs := mF B (mI s 0 (0 : Int32))) rfl rfl) ?_
  refine gm_ev.if_eq_f i179_26 c5 ?_
  refine gm_ev.iload_n i179_29 rfl ?_
  refine gm_ev.iconst (v := 1) i179_30 (by decide) ?_
  refine gm_ev.icmp_le_f i179_31 c6 ?_
  refine gm_ev.aload_n i179_34 rfl ?_
  refine gm_ev.iload_n i179_35 rfl ?_
  refine gm_ev.iconst (v := 2) i179_36 (by decide) ?_
  refine gm_ev.isub i179_37 ?_
  refine gm_ev.callV gm_mono_run (av := [.int (p0 - (2 : Int32))]) (r := []) (ci := 11) (fs := mF B (mI s 0 (0 : Int32))) (bM_get (j := 0) rfl) i179_38 rfl rfl rfl (Nat.le_of_ble_eq_true rfl) t8 ?_
  refine gm_ev.if_ne_t (tgt := 46) i179_41 (by decide) c9 ?_
  refine gm_ev.aload_n i179_46 rfl ?_
  refine gm_ev.callV gm_mono_run (av := []) (r := []) (ci := 11) (fs := mF B (mI s 0 (0 : Int32))) (bM_get (j := 0) rfl) i179_47 rfl rfl rfl (Nat.le_of_ble_eq_true rfl) t10 ?_
  refine gm_ev.iload_n i179_50 rfl ?_
  refine gm_ev.iconst (v := 1) i179_51 (by decide) ?_
  refine gm_ev.icmp_le_t (tgt := 62) i179_52 (by decide) c12 ?_
  refine gm_ev.iload_n i179_62 rfl ?_
  refine gm_ev.if_ne_t (tgt := 73) i179_63 (by decide) c13 ?_
  refine gm_ev.iload_n i179_73 rfl ?_
  refine gm_ev.iconst (v := 1) i179_74 (by decide) ?_
  refine gm_ev.icmp_ne_f i179_75 c14 ?_
  refine gm_ev.aload_n i179_78 rfl ?_
  refine gm_ev.getfield (v := .int (s11.1 30)) i179_79 rfl (bM_fld (j := 0) (fs := mF B s11) rfl rfl) ?_
  refine gm_ev.goto (tgt := 89) i179_82 (by decide) ?_
  refine gm_ev.istore (ls' := [some (.ref B), some (.int p0), some (.int p1), some (.int p2), some (.int (s11.1 30)), none]) i179_89 (Nat.le_of_ble_eq_true rfl) rfl ?_
  refine gm_ev.iload_n i179_91 rfl ?_
  refine gm_ev.iload i179_92 rfl ?_
  refine gm_ev.icmp_lt_t (tgt := 99) i179_94 (by decide) c15 ?_
  refine gm_ev.iload_n i179_99 rfl ?_
  refine gm_ev.if_ne_f i179_100 c16 ?_
  refine gm_ev.aload_n i179_103 rfl ?_
  refine gm_ev.getfield (v := .ref (B + 20)) i179_104 rfl (bM_fld (j := 0) (fs := mF B s11) rfl rfl) ?_
  refine gm_ev.iload_n i179_107 rfl ?_
  refine gm_ev.laload i179_108 (bM_al (j := 20) (n := 24) (fl := s11.2.2 35) rfl ek17 lk17 (by decide)) ?_
  refine gm_ev.goto (tgt := 132) i179_109 (by decide) ?_
  refine gm_ev.iload_n i179_132 rfl ?_
  refine gm_ev.bipush (v := 8) i179_133 (by decide) ?_
  refine gm_ev.icmp_le_t (tgt := 143) i179_135 (by decide) c18 ?_
  refine gm_ev.iload_n i179_143 rfl ?_
  refine gm_ev.callS gm_mono_run (av := [.long (s11.2.2 35 k17), .int p2]) (r := []) i179_144 rfl rfl rfl (Nat.le_of_ble_eq_true rfl) t20 ?_
  refine gm_ev.istore (ls' := [some (.ref B), some (.int p0), some (.int p1), some (.int p2), some (.int (s11.1 30)), some (.int r19)]) i179_147 (Nat.le_of_ble_eq_true rfl) rfl ?_
  refine gm_ev.iload i179_149 rfl ?_
  refine gm_ev.if_ne_f i179_151 c21 ?_
  refine gm_ev.iconst (v := -1) i179_154 (by decide) ?_
  refine gm_ev.goto (tgt := 160) i179_155 (by decide) ?_
  exact gm_ev.iret i179_160 rfl
theorem r_letter_0_fffffftttftfft {N0 : Nat} {K : Nat → Nat} {d B : Nat} {s : mS} {G : gm_H} {sz sl : Nat} {p0 : Int32} {p1 : Int32} {p2 : Int32} {r7 : Int32} {s11 : mS} {k17 : Nat} {r19 : Int32} (hN : N0 ≤ B) (c1 : ¬ p0 < 0) (c2 : ¬ (3 : Int32) < p0) (c3 : ¬ p1 < 0) (c4 : ¬ p2 < 0) (c5 : ¬ (s.1 5) = 0) (c6 : ¬ p0 ≤ (1 : Int32)) (t8 : gm_to N0 K ra_nm (ra_mt K) d 170 [.ref B, .int (p0 - (2 : Int32))] (bM B (mH B (mI s 0 (0 : Int32))) G) sz (.returned (some (.int r7)), bM B (mH B (mI s 0 (0 : Int32))) G, sz, 0)) (c9 : ¬ r7 = 0) (t10 : gm_to N0 K ra_nm (ra_mt K) d 161 [.ref B] (bM B (mH B (mI s 0 (0 : Int32))) G) sz (.returned none, bM B (mH B s11) G, sz, 0)) (c12 : p0 ≤ (1 : Int32)) (c13 : ¬ p0 = 0) (c14 : p0 = (1 : Int32)) (c15 : p1 < (s11.1 30)) (c16 : p0 = 0) (ek17 : p1 = nI k17) (lk17 : k17 < 24) (c18 : ¬ p2 ≤ (8 : Int32)) (t20 : gm_to N0 K ra_nm (ra_mt K) d 147 [.long (s11.2.2 35 k17), .int (8 : Int32)] (bM B (mH B s11) G) sz (.returned (some (.int r19)), bM B (mH B s11) G, sz, 0)) (c21 : ¬ r19 = 0) : gm_ev N0 K ra_nm (ra_mt K) d (some .int) (gm_I cX12_letter) (gm_lkf (lkX12 false K)) 0 [some (.ref B), some (.int p0), some (.int p1), some (.int p2), none, none] [] (bM B (mH B s) G) sz sl (.returned (some (.int r19)), (bM B (mH B s11) G), sz, sl) := by
  refine gm_ev.aload_n i179_0 rfl ?_
  refine gm_ev.iconst (v := 0) i179_1 (by decide) ?_
  refine gm_ev.putfield (M' := (bM B (mH B (mI s 0 (0 : Int32))) G)) i179_2 rfl (bM_put (j := 0) (fs := mF B s) rfl (Nat.le_of_ble_eq_true rfl) hN (gm_fit_i _) rfl) ?_
  refine gm_ev.iload_n i179_5 rfl ?_
  refine gm_ev.if_lt_f i179_6 c1 ?_
  refine gm_ev.iload_n i179_9 rfl ?_
  refine gm_ev.iconst (v := 3) i179_10 (by decide) ?_
  refine gm_ev.icmp_gt_f i179_11 c2 ?_
  refine gm_ev.iload_n i179_14 rfl ?_
  refine gm_ev.if_lt_f i179_15 c3 ?_
  refine gm_ev.iload_n i179_18 rfl ?_
  refine gm_ev.if_lt_f i179_19 c4 ?_
  refine gm_ev.aload_n i179_22 rfl ?_
  refine gm_ev.getfield (v := .int (s.1 5)) i179_23 rfl (bM_fld (j := 0) (fs := mF B (mI s 0 (0 : Int32))) rfl rfl) ?_
  refine gm_ev.if_eq_f i179_26 c5 ?_
  refine gm_ev.iload_n i179_29 rfl ?_
  refine gm_ev.iconst (v := 1) i179_30 (by decide) ?_
  refine gm_ev.icmp_le_f i179_31 c6 ?_
  refine gm_ev.aload_n i179_34 rfl ?_
  refine gm_ev.iload_n i179_35 rfl ?_
  refine gm_ev.iconst (v := 2) i179_36 (by decide) ?_
  refine gm_ev.isub i179_37 ?_
  refine gm_ev.callV gm_mono_run (av := [.int (p0 - (2 : Int32))]) (r := []) (ci := 11) (fs := mF B (mI s 0 (0 : Int32))) (bM_get (j := 0) rfl) i179_38 rfl rfl rfl (Nat.le_of_ble_eq_true rfl) t8 ?_
  refine gm_ev.if_ne_t (tgt := 46) i179_41 (by decide) c9 ?_
  refine gm_ev.aload_n i179_46 rfl ?_
  refine gm_ev.callV gm_mono_run (av := []) (r := []) (ci := 11) (fs := mF B (mI s 0 (0 : Int32))) (bM_get (j := 0) rfl) i179_47 rfl rfl rfl (Nat.le_of_ble_eq_true rfl) t10 ?_
  refine gm_ev.iload_n i179_50 rfl ?_
  refine gm_ev.iconst (v := 1) i179_51 (by decide) ?_
  refine gm_ev.icmp_le_t (tgt := 62) i179_52 (by decide) c12 ?_
  refine gm_ev.iload_n i179_62 rfl ?_
  refine gm_ev.if_ne_t (tgt := 73) i179_63 (by decide) c13 ?_
  refine gm_ev.iload_n i179_73 rfl ?_
  refine gm_ev.iconst (v := 1) i179_74 (by decide) ?_
  refine gm_ev.icmp_ne_f i179_75 c14 ?_
  refine gm_ev.aload_n i179_78 rfl ?_
  refine gm_ev.getfield (v := .int (s11.1 30)) i179_79 rfl (bM_fld (j := 0) (fs := mF B s11) rfl rfl) ?_
  refine gm_ev.goto (tgt := 89) i179_82 (by decide) ?_
  refine gm_ev.istore (ls' := [some (.ref B), some (.int p0), some (.int p1), some (.int p2), some (.int (s11.1 30)), none]) i179_89 (Nat.le_of_ble_eq_true rfl) rfl ?_
  refine gm_ev.iload_n i179_91 rfl ?_
  refine gm_ev.iload i179_92 rfl ?_
  refine gm_ev.icmp_lt_t (tgt := 99) i179_94 (by decide) c15 ?_
  refine gm_ev.iload_n i179_99 rfl ?_
  refine gm_ev.if_ne_f i179_100 c16 ?_
  refine gm_ev.aload_n i179_103 rfl ?_
  refine gm_ev.getfield (v := .ref (B + 20)) i179_104 rfl (bM_fld (j := 0) (fs := mF B s11) rfl rfl) ?_
  refine gm_ev.iload_n i179_107 rfl ?_
  refine gm_ev.laload i179_108 (bM_al (j := 20) (n := 24) (fl := s11.2.2 35) rfl ek17 lk17 (by decide)) ?_
  refine gm_ev.goto (tgt := 132) i179_109 (by decide) ?_
  refine gm_ev.iload_n i179_132 rfl ?_
  refine gm_ev.bipush (v := 8) i179_133 (by decide) ?_
  refine gm_ev.icmp_le_f i179_135 c18 ?_
  refine gm_ev.bipush (v := 8) i179_138 (by decide) ?_
  refine gm_ev.goto (tgt := 144) i179_140 (by decide) ?_
  refine gm_ev.callS gm_mono_run (av := [.long (s11.2.2 35 k17), .int (8 : Int32)]) (r := []) i179_144 rfl rfl rfl (Nat.le_of_ble_eq_true rfl) t20 ?_
  refine gm_ev.istore (ls' := [some (.ref B), some (.int p0), some (.int p1), some (.int p2), some (.int (s11.1 30)), some (.int r19)]) i179_147 (Nat.le_of_ble_eq_true rfl) rfl ?_
  refine gm_ev.iload i179_149 rfl ?_
  refine gm_ev.if_ne_t (tgt := 158) i179_151 (by decide) c21 ?_
  refine gm_ev.iload i179_158 rfl ?_
  exact gm_ev.iret i179_160 rfl
theorem r_letter_0_fffffftttftfff {N0 : Nat} {K : Nat → Nat} {d B : Nat} {s : mS} {G : gm_H} {sz sl : Nat} {p0 : Int32} {p1 : Int32} {p2 : Int32} {r7 : Int32} {s11 : mS} {k17 : Nat} {r19 : Int32} (hN : N0 ≤ B) (c1 : ¬ p0 < 0) (c2 : ¬ (3 : Int32) < p0) (c3 : ¬ p1 < 0) (c4 : ¬ p2 < 0) (c5 : ¬ (s.1 5) = 0) (c6 : ¬ p0 ≤ (1 : Int32)) (t8 : gm_to N0 K ra_nm (ra_mt K) d 170 [.ref B, .int (p0 - (2 : Int32))] (bM B (mH B (mI s 0 (0 : Int32))) G) sz (.returned (some (.int r7)), bM B (mH B (mI s 0 (0 : Int32))) G, sz, 0)) (c9 : ¬ r7 = 0) (t10 : gm_to N0 K ra_nm (ra_mt K) d 161 [.ref B] (bM B (mH B (mI s 0 (0 : Int32))) G) sz (.returned none, bM B (mH B s11) G, sz, 0)) (c12 : p0 ≤ (1 : Int32)) (c13 : ¬ p0 = 0) (c14 : p0 = (1 : Int32)) (c15 : p1 < (s11.1 30)) (c16 : p0 = 0) (ek17 : p1 = nI k17) (lk17 : k17 < 24) (c18 : ¬ p2 ≤ (8 : Int32)) (t20 : gm_to N0 K ra_nm (ra_mt K) d 147 [.long (s11.2.2 35 k17), .int (8 : Int32)] (bM B (mH B s11) G) sz (.returned (some (.int r19)), bM B (mH B s11) G, sz, 0)) (c21 : r19 = 0) : gm_ev N0 K ra_nm (ra_mt K) d (some .int) (gm_I cX12_letter) (gm_lkf (lkX12 false K)) 0 [some (.ref B), some (.int p0), some (.int p1), some (.int p2), none, none] [] (bM B (mH B s) G) sz sl (.returned (some (.int (-1 : Int32))), (bM B (mH B s11) G), sz, sl) := by
  refine gm_ev.aload_n i179_0 rfl ?_
  refine gm_ev.iconst (v := 0) i179_1 (by decide) ?_
  refine gm_ev.putfield (M' := (bM B (mH B (mI s 0 (0 : Int32))) G)) i179_2 rfl (bM_put (j := 0) (fs := mF B s) rfl (Nat.le_of_ble_eq_true rfl) hN (gm_fit_i _) rfl) ?_
  refine gm_ev.iload_n i179_5 rfl ?_
  refine gm_ev.if_lt_f i179_6 c1 ?_
  refine gm_ev.iload_n i179_9 rfl ?_
  refine gm_ev.iconst (v := 3) i179_10 (by decide) ?_
  refine gm_ev.icmp_gt_f i179_11 c2 ?_
  refine gm_ev.iload_n i179_14 rfl ?_
  refine gm_ev.if_lt_f i179_15 c3 ?_
  refine gm_ev.iload_n i179_18 rfl ?_
  refine gm_ev.if_lt_f i179_19 c4 ?_
  refine gm_ev.aload_n i179_22 rfl ?_
  refine gm_ev.getfield (v := .int (s.1 5)) i179_23 rfl (bM_fld (j := 0) (fs := mF B (mI s 0 (0 : Int32))) rfl rfl) ?_
  refine gm_ev.if_eq_f i179_26 c5 ?_
  refine gm_ev.iload_n i179_29 rfl ?_
  refine gm_ev.iconst (v := 1) i179_30 (by decide) ?_
  refine gm_ev.icmp_le_f i179_31 c6 ?_
  refine gm_ev.aload_n i179_34 rfl ?_
  refine gm_ev.iload_n i179_35 rfl ?_
  refine gm_ev.iconst (v := 2) i179_36 (by decide) ?_
  refine gm_ev.isub i179_37 ?_
  refine gm_ev.callV gm_mono_run (av := [.int (p0 - (2 : Int32))]) (r := []) (ci := 11) (fs := mF B (mI s 0 (0 : Int32))) (bM_get (j := 0) rfl) i179_38 rfl rfl rfl (Nat.le_of_ble_eq_true rfl) t8 ?_
  refine gm_ev.if_ne_t (tgt := 46) i179_41 (by decide) c9 ?_
  refine gm_ev.aload_n i179_46 rfl ?_
  refine gm_ev.callV gm_mono_run (av := []) (r := []) (ci := 11) (fs := mF B (mI s 0 (0 : Int32))) (bM_get (j := 0) rfl) i179_47 rfl rfl rfl (Nat.le_of_ble_eq_true rfl) t10 ?_
  refine gm_ev.iload_n i179_50 rfl ?_
  refine gm_ev.iconst (v := 1) i179_51 (by decide) ?_
  refine gm_ev.icmp_le_t (tgt := 62) i179_52 (by decide) c12 ?_
  refine gm_ev.iload_n i179_62 rfl ?_
  refine gm_ev.if_ne_t (tgt := 73) i179_63 (by decide) c13 ?_
  refine gm_ev.iload_n i179_73 rfl ?_
  refine gm_ev.iconst (v := 1) i179_74 (by decide) ?_
  refine gm_ev.icmp_ne_f i179_75 c14 ?_
  refine gm_ev.aload_n i179_78 rfl ?_
  refine gm_ev.getfield (v := .int (s11.1 30)) i179_79 rfl (bM_fld (j := 0) (fs := mF B s11) rfl rfl) ?_
  refine gm_ev.goto (tgt := 89) i179_82 (by decide) ?_
  refine gm_ev.istore (ls' := [some (.ref B), some (.int p0), some (.int p1), some (.int p2), some (.int (s11.1 30)), none]) i179_89 (Nat.le_of_ble_eq_true rfl) rfl ?_
  refine gm_ev.iload_n i179_91 rfl ?_
  refine gm_ev.iload i179_92 rfl ?_
  refine gm_ev.icmp_lt_t (tgt := 99) i179_94 (by decide) c15 ?_
  refine gm_ev.iload_n i179_99 rfl ?_
  refine gm_ev.if_ne_f i179_100 c16 ?_
  refine gm_ev.aload_n i179_103 rfl ?_
  refine gm_ev.getfield (v := .ref (B + 20)) i179_104 rfl (bM_fld (j := 0) (fs := mF B s11) rfl rfl) ?_
  refine gm_ev.iload_n i179_107 rfl ?_
  refine gm_ev.laload i179_108 (bM_al (j := 20) (n := 24) (fl := s11.2.2 35) rfl ek17 lk17 (by decide)) ?_
  refine gm_ev.goto (tgt := 132) i179_109 (by decide) ?_
  refine gm_ev.iload_n i179_132 rfl ?_
  refine gm_ev.bipush (v := 8) i179_133 (by decide) ?_
  refine gm_ev.icmp_le_f i179_135 c18 ?_
  refine gm_ev.bipush (v := 8) i179_138 (by decide) ?_
  refine gm_ev.goto (tgt := 144) i179_140 (by decide) ?_
  refine gm_ev.callS gm_mono_run (av := [.long (s11.2.2 35 k17), .int (8 : Int32)]) (r := []) i179_144 rfl rfl rfl (Nat.le_of_ble_eq_true rfl) t20 ?_
  refine gm_ev.istore (ls' := [some (.ref B), some (.int p0), some (.int p1), some (.int p2), some (.int (s11.1 30)), some (.int r19)]) i179_147 (Nat.le_of_ble_eq_true rfl) rfl ?_
  refine gm_ev.iload i179_149 rfl ?_
  refine gm_ev.if_ne_f i179_151 c21 ?_
  refine gm_ev.iconst (v := -1) i179_154 (by decide) ?_
  refine gm_ev.goto (tgt := 160) i179_155 (by decide) ?_
  exact gm_ev.iret i179_160 rfl
theorem r_letter_0_fffffftttff {N0 : Nat} {K : Nat → Nat} {d B : Nat} {s : mS} {G : gm_H} {sz sl : Nat} {p0 : Int32} {p1 : Int32} {p2 : Int32} {r7 : Int32} {s11 : mS} (hN : N0 ≤ B) (c1 : ¬ p0 < 0) (c2 : ¬ (3 : Int32) < p0) (c3 : ¬ p1 < 0) (c4 : ¬ p2 < 0) (c5 : ¬ (s.1 5) = 0) (c6 : ¬ p0 ≤ (1 : Int32)) (t8 : gm_to N0 K ra_nm (ra_mt K) d 170 [.ref B, .int (p0 - (2 : Int32))] (bM B (mH B (mI s 0 (0 : Int32))) G) sz (.returned (some (.int r7)), bM B (mH B (mI s 0 (0 : Int32))) G, sz, 0)) (c9 : ¬ r7 = 0) (t10 : gm_to N0 K ra_nm (ra_mt K) d 161 [.ref B] (bM B (mH B (mI s 0 (0 : Int32))) G) sz (.returned none, bM B (mH B s11) G, sz, 0)) (c12 : p0 ≤ (1 : Int32)) (c13 : ¬ p0 = 0) (c14 : p0 = (1 : Int32)) (c15 : ¬ p1 < (s11.1 30)) : gm_ev N0 K ra_nm (ra_mt K) d (some .int) (gm_I cX12_letter) (gm_lkf (lkX12 false K)) 0 [some (.ref B), some (.int p0), some (.int p1), some (.int p2), none, none] [] (bM B (mH B s) G) sz sl (.returned (some (.int (-1 : Int32))), (bM B (mH B s11) G), sz, sl) := by
  refine gm_ev.aload_n i179_0 rfl ?_
  refine gm_ev.iconst (v := 0) i179_1 (by decide) ?_
  refine gm_ev.putfield (M' := (bM B (mH B (mI s 0 (0 : Int32))) G)) i179_2 rfl (bM_put (j := 0) (fs := mF B s) rfl (Nat.le_of_ble_eq_true rfl) hN (gm_fit_i _) rfl) ?_
  refine gm_ev.iload_n i179_5 rfl ?_
  refine gm_ev.if_lt_f i179_6 c1 ?_
  refine gm_ev.iload_n i179_9 rfl ?_
  refine gm_ev.iconst (v := 3) i179_10 (by decide) ?_
  refine gm_ev.icmp_gt_f i179_11 c2 ?_
  refine gm_ev.iload_n i179_14 rfl ?_
  refine gm_ev.if_lt_f i179_15 c3 ?_
  refine gm_ev.iload_n i179_18 rfl ?_
  refine gm_ev.if_lt_f i179_19 c4 ?_
  refine gm_ev.aload_n i179_22 rfl ?_
  refine gm_ev.getfield (v := .int (s.1 5)) i179_23 rfl (bM_fld (j := 0) (fs := mF B (mI s 0 (0 : Int32))) rfl rfl) ?_
  refine gm_ev.if_eq_f i179_26 c5 ?_
  refine gm_ev.iload_n i179_29 rfl ?_
  refine gm_ev.iconst (v := 1) i179_30 (by decide) ?_
  refine gm_ev.icmp_le_f i179_31 c6 ?_
  refine gm_ev.aload_n i179_34 rfl ?_
  refine gm_ev.iload_n i179_35 rfl ?_
  refine gm_ev.iconst (v := 2) i179_36 (by decide) ?_
  refine gm_ev.isub i179_37 ?_
  refine gm_ev.callV gm_mono_run (av := [.int (p0 - (2 : Int32))]) (r := []) (ci := 11) (fs := mF B (mI s 0 (0 : Int32))) (bM_get (j := 0) rfl) i179_38 rfl rfl rfl (Nat.le_of_ble_eq_true rfl) t8 ?_
  refine gm_ev.if_ne_t (tgt := 46) i179_41 (by decide) c9 ?_
  refine gm_ev.aload_n i179_46 rfl ?_
  refine gm_ev.callV gm_mono_run (av := []) (r := []) (ci := 11) (fs := mF B (mI s 0 (0 : Int32))) (bM_get (j := 0) rfl) i179_47 rfl rfl rfl (Nat.le_of_ble_eq_true rfl) t10 ?_
  refine gm_ev.iload_n i179_50 rfl ?_
  refine gm_ev.iconst (v := 1) i179_51 (by decide) ?_
  refine gm_ev.icmp_le_t (tgt := 62) i179_52 (by decide) c12 ?_
  refine gm_ev.iload_n i179_62 rfl ?_
  refine gm_ev.if_ne_t (tgt := 73) i179_63 (by decide) c13 ?_
  refine gm_ev.iload_n i179_73 rfl ?_
  refine gm_ev.iconst (v := 1) i179_74 (by decide) ?_
  refine gm_ev.icmp_ne_f i179_75 c14 ?_
  refine gm_ev.aload_n i179_78 rfl ?_
  refine gm_ev.getfield (v := .int (s11.1 30)) i179_79 rfl (bM_fld (j := 0) (fs := mF B s11) rfl rfl) ?_
  refine gm_ev.goto (tgt := 89) i179_82 (by decide) ?_
  refine gm_ev.istore (ls' := [some (.ref B), some (.int p0), some (.int p1), some (.int p2), some (.int (s11.1 30)), none]) i179_89 (Nat.le_of_ble_eq_true rfl) rfl ?_
  refine gm_ev.iload_n i179_91 rfl ?_
  refine gm_ev.iload i179_92 rfl ?_
  refine gm_ev.icmp_lt_f i179_94 c15 ?_
  refine gm_ev.iconst (v := -1) i179_97 (by decide) ?_
  exact gm_ev.iret i179_98 rfl
theorem r_letter_0_ffffffttfttttt {N0 : Nat} {K : Nat → Nat} {d B : Nat} {s : mS} {G : gm_H} {sz sl : Nat} {p0 : Int32} {p1 : Int32} {p2 : Int32} {r7 : Int32} {s11 : mS} {k17 : Nat} {r19 : Int32} (hN : N0 ≤ B) (c1 : ¬ p0 < 0) (c2 : ¬ (3 : Int32) < p0) (c3 : ¬ p1 < 0) (c4 : ¬ p2 < 0) (c5 : ¬ (s.1 5) = 0) (c6 : ¬ p0 ≤ (1 : Int32)) (t8 : gm_to N0 K ra_nm (ra_mt K) d 170 [.ref B, .int (p0 - (2 : Int32))] (bM B (mH B (mI s 0 (0 : Int32))) G) sz (.returned (some (.int r7)), bM B (mH B (mI s 0 (0 : Int32))) G, sz, 0)) (c9 : ¬ r7 = 0) (t10 : gm_to N0 K ra_nm (ra_mt K) d 161 [.ref B] (bM B (mH B (mI s 0 (0 : Int32))) G) sz (.returned none, bM B (mH B s11) G, sz, 0)) (c12 : p0 ≤ (1 : Int32)) (c13 : p0 = 0) (c14 : p1 < (s11.1 36)) (c15 : ¬ p0 = 0) (c16 : ¬ p0 = (1 : Int32)) (ek17 : p1 = nI k17) (lk17 : k17 < 201) (c18 : p2 ≤ (8 : Int32)) (t20 : gm_to N0 K ra_nm (ra_mt K) d 147 [.long (s11.2.2 37 k17), .int p2] (bM B (mH B s11) G) sz (.returned (some (.int r19)), bM B (mH B s11) G, sz, 0)) (c21 : ¬ r19 = 0) : gm_ev N0 K ra_nm (ra_mt K) d (some .int) (gm_I cX12_letter) (gm_lkf (lkX12 false K)) 0 [some (.ref B), some (.int p0), some (.int p1), some (.int p2), none, none] [] (bM B (mH B s) G) sz sl (.returned (some (.int r19)), (bM B (mH B s11) G), sz, sl) := by
  refine gm_ev.aload_n i179_0 rfl ?_
  refine gm_ev.iconst (v := 0) i179_1 (by decide) ?_
  refine gm_ev.putfield (M' := (bM B (mH B (mI s 0 (0 : Int32))) G)) i179_2 rfl (bM_put (j := 0) (fs := mF B s) rfl (Nat.le_of_ble_eq_true rfl) hN (gm_fit_i _) rfl) ?_
  refine gm_ev.iload_n i179_5 rfl ?_
  refine gm_ev.if_lt_f i179_6 c1 ?_
  refine gm_ev.iload_n i179_9 rfl ?_
  refine gm_ev.iconst (v := 3) i179_10 (by decide) ?_
  refine gm_ev.icmp_gt_f i179_11 c2 ?_
  refine gm_ev.iload_n i179_14 rfl ?_
  refine gm_ev.if_lt_f i179_15 c3 ?_
  refine gm_ev.iload_n i179_18 rfl ?_
  refine gm_ev.if_lt_f i179_19 c4 ?_
  refine gm_ev.aload_n i179_22 rfl ?_
  refine gm_ev.getfield (v := .int (s.1 5)) i179_23 rfl (bM_fld (j := 0) (fs := mF B (mI s 0 (0 : Int32))) rfl rfl) ?_
  refine gm_ev.if_eq_f i179_26 c5 ?_
  refine gm_ev.iload_n i179_29 rfl ?_
  refine gm_ev.iconst (v := 1) i179_30 (by decide) ?_
  refine gm_ev.icmp_le_f i179_31 c6 ?_
  refine gm_ev.aload_n i179_34 rfl ?_
  refine gm_ev.iload_n i179_35 rfl ?_
  refine gm_ev.iconst (v := 2) i179_36 (by decide) ?_
  refine gm_ev.isub i179_37 ?_
  refine gm_ev.callV gm_mono_run (av := [.int (p0 - (2 : Int32))]) (r := []) (ci := 11) (fs := mF B (mI s 0 (0 : Int32))) (bM_get (j := 0) rfl) i179_38 rfl rfl rfl (Nat.le_of_ble_eq_true rfl) t8 ?_
  refine gm_ev.if_ne_t (tgt := 46) i179_41 (by decide) c9 ?_
  refine gm_ev.aload_n i179_46 rfl ?_
  refine gm_ev.callV gm_mono_run (av := []) (r := []) (ci := 11) (fs := mF B (mI s 0 (0 : Int32))) (bM_get (j := 0) rfl) i179_47 rfl rfl rfl (Nat.le_of_ble_eq_true rfl) t10 ?_
  refine gm_ev.iload_n i179_50 rfl ?_
  refine gm_ev.iconst (v := 1) i179_51 (by decide) ?_
  refine gm_ev.icmp_le_t (tgt := 62) i179_52 (by decide) c12 ?_
  refine gm_ev.iload_n i179_62 rfl ?_
  refine gm_ev.if_ne_f i179_63 c13 ?_
  refine gm_ev.aload_n i179_66 rfl ?_
  refine gm_ev.getfield (v := .int (s11.1 36)) i179_67 rfl (bM_fld (j := 0) (fs := mF B s11) rfl rfl) ?_
  refine gm_ev.goto (tgt := 89) i179_70 (by decide) ?_
  refine gm_ev.istore (ls' := [some (.ref B), some (.int p0), some (.int p1), some (.int p2), some (.int (s11.1 36)), none]) i179_89 (Nat.le_of_ble_eq_true rfl) rfl ?_
  refine gm_ev.iload_n i179_91 rfl ?_
  refine gm_ev.iload i179_92 rfl ?_
  refine gm_ev.icmp_lt_t (tgt := 99) i179_94 (by decide) c14 ?_
  refine gm_ev.iload_n i179_99 rfl ?_
  refine gm_ev.if_ne_t (tgt := 112) i179_100 (by decide) c15 ?_
  refine gm_ev.iload_n i179_112 rfl ?_
  refine gm_ev.iconst (v := 1) i179_113 (by decide) ?_
  refine gm_ev.icmp_ne_t (tgt := 126) i179_114 (by decide) c16 ?_
  refine gm_ev.aload_n i179_126 rfl ?_
  refine gm_ev.getfield (v := .ref (B + 21)) i179_127 rfl (bM_fld (j := 0) (fs := mF B s11) rfl rfl) ?_
  refine gm_ev.iload_n i179_130 rfl ?_
  refine gm_ev.laload i179_131 (bM_al (j := 21) (n := 201) (fl := s11.2.2 37) rfl ek17 lk17 (by decide)) ?_
  refine gm_ev.iload_n i179_132 rfl ?_
  refine gm_ev.bipush (v := 8) i179_133 (by decide) ?_
  refine gm_ev.icmp_le_t (tgt := 143) i179_135 (by decide) c18 ?_
  refine gm_ev.iload_n i179_143 rfl ?_
  refine gm_ev.callS gm_mono_run (av := [.long (s11.2.2 37 k17), .int p2]) (r := []) i179_144 rfl rfl rfl (Nat.le_of_ble_eq_true rfl) t20 ?_
  refine gm_ev.istore (ls' := [some (.ref B), some (.int p0), some (.int p1), some (.int p2), some (.int (s11.1 36)), some (.int r19)]) i179_147 (Nat.le_of_ble_eq_true rfl) rfl ?_
  refine gm_ev.iload i179_149 rfl ?_
  refine gm_ev.if_ne_t (tgt := 158) i179_151 (by decide) c21 ?_
  refine gm_ev.iload i179_158 rfl ?_
  exact gm_ev.iret i179_160 rfl
theorem r_letter_0_ffffffttfttttf {N0 : Nat} {K : Nat → Nat} {d B : Nat} {s : mS} {G : gm_H} {sz sl : Nat} {p0 : Int32} {p1 : Int32} {p2 : Int32} {r7 : Int32} {s11 : mS} {k17 : Nat} {r19 : Int32} (hN : N0 ≤ B) (c1 : ¬ p0 < 0) (c2 : ¬ (3 : Int32) < p0) (c3 : ¬ p1 < 0) (c4 : ¬ p2 < 0) (c5 : ¬ (s.1 5) = 0) (c6 : ¬ p0 ≤ (1 : Int32)) (t8 : gm_to N0 K ra_nm (ra_mt K) d 170 [.ref B, .int (p0 - (2 : Int32))] (bM B (mH B (mI s 0 (0 : Int32))) G) sz (.returned (some (.int r7)), bM B (mH B (mI s 0 (0 : Int32))) G, sz, 0)) (c9 : ¬ r7 = 0) (t10 : gm_to N0 K ra_nm (ra_mt K) d 161 [.ref B] (bM B (mH B (mI s 0 (0 : Int32))) G) sz (.returned none, bM B (mH B s11) G, sz, 0)) (c12 : p0 ≤ (1 : Int32)) (c13 : p0 = 0) (c14 : p1 < (s11.1 36)) (c15 : ¬ p0 = 0) (c16 : ¬ p0 = (1 : Int32)) (ek17 : p1 = nI k17) (lk17 : k17 < 201) (c18 : p2 ≤ (8 : Int32)) (t20 : gm_to N0 K ra_nm (ra_mt K) d 147 [.long (s11.2.2 37 k17), .int p2] (bM B (mH B s11) G) sz (.returned (some (.int r19)), bM B (mH B s11) G, sz, 0)) (c21 : r19 = 0) : gm_ev N0 K ra_nm (ra_mt K) d (some .int) (gm_I cX12_letter) (gm_lkf (lkX12 false K)) 0 [some (.ref B), some (.int p0), some (.int p1), some (.int p2), none, none] [] (bM B (mH B s) G) sz sl (.returned (some (.int (-1 : Int32))), (bM B (mH B s11) G), sz, sl) := by
  refine gm_ev.aload_n i179_0 rfl ?_
  refine gm_ev.iconst (v := 0) i179_1 (by decide) ?_
  refine gm_ev.putfield (M' := (bM B (mH B (mI s 0 (0 : Int32))) G)) i179_2 rfl (bM_put (j := 0) (fs := mF B s) rfl (Nat.le_of_ble_eq_true rfl) hN (gm_fit_i _) rfl) ?_
  refine gm_ev.iload_n i179_5 rfl ?_
  refine gm_ev.if_lt_f i179_6 c1 ?_
  refine gm_ev.iload_n i179_9 rfl ?_
  refine gm_ev.iconst (v := 3) i179_10 (by decide) ?_
  refine gm_ev.icmp_gt_f i179_11 c2 ?_
  refine gm_ev.iload_n i179_14 rfl ?_
  refine gm_ev.if_lt_f i179_15 c3 ?_
  refine gm_ev.iload_n i179_18 rfl ?_
  refine gm_ev.if_lt_f i179_19 c4 ?_
  refine gm_ev.aload_n i179_22 rfl ?_
  refine gm_ev.getfield (v := .int (s.1 5)) i179_23 rfl (bM_fld (j := 0) (fs := mF B (mI s 0 (0 : Int32))) rfl rfl) ?_
  refine gm_ev.if_eq_f i179_26 c5 ?_
  refine gm_ev.iload_n i179_29 rfl ?_
  refine gm_ev.iconst (v := 1) i179_30 (by decide) ?_
  refine gm_ev.icmp_le_f i179_31 c6 ?_
  refine gm_ev.aload_n i179_34 rfl ?_
  refine gm_ev.iload_n i179_35 rfl ?_
  refine gm_ev.iconst (v := 2) i179_36 (by decide) ?_
  refine gm_ev.isub i179_37 ?_
  refine gm_ev.callV gm_mono_run (av := [.int (p0 - (2 : Int32))]) (r := []) (ci := 11) (fs := mF B (mI s 0 (0 : Int32))) (bM_get (j := 0) rfl) i179_38 rfl rfl rfl (Nat.le_of_ble_eq_true rfl) t8 ?_
  refine gm_ev.if_ne_t (tgt := 46) i179_41 (by decide) c9 ?_
  refine gm_ev.aload_n i179_46 rfl ?_
  refine gm_ev.callV gm_mono_run (av := []) (r := []) (ci := 11) (fs := mF B (mI s 0 (0 : Int32))) (bM_get (j := 0) rfl) i179_47 rfl rfl rfl (Nat.le_of_ble_eq_true rfl) t10 ?_
  refine gm_ev.iload_n i179_50 rfl ?_
  refine gm_ev.iconst (v := 1) i179_51 (by decide) ?_
  refine gm_ev.icmp_le_t (tgt := 62) i179_52 (by decide) c12 ?_
  refine gm_ev.iload_n i179_62 rfl ?_
  refine gm_ev.if_ne_f i179_63 c13 ?_
  refine gm_ev.aload_n i179_66 rfl ?_
  refine gm_ev.getfield (v := .int (s11.1 36)) i179_67 rfl (bM_fld (j := 0) (fs := mF B s11) rfl rfl) ?_
  refine gm_ev.goto (tgt := 89) i179_70 (by decide) ?_
  refine gm_ev.istore (ls' := [some (.ref B), some (.int p0), some (.int p1), some (.int p2), some (.int (s11.1 36)), none]) i179_89 (Nat.le_of_ble_eq_true rfl) rfl ?_
  refine gm_ev.iload_n i179_91 rfl ?_
  refine gm_ev.iload i179_92 rfl ?_
  refine gm_ev.icmp_lt_t (tgt := 99) i179_94 (by decide) c14 ?_
  refine gm_ev.iload_n i179_99 rfl ?_
  refine gm_ev.if_ne_t (tgt := 112) i179_100 (by decide) c15 ?_
  refine gm_ev.iload_n i179_112 rfl ?_
  refine gm_ev.iconst (v := 1) i179_113 (by decide) ?_
  refine gm_ev.icmp_ne_t (tgt := 126) i179_114 (by decide) c16 ?_
  refine gm_ev.aload_n i179_126 rfl ?_
  refine gm_ev.getfield (v := .ref (B + 21)) i179_127 rfl (bM_fld (j := 0) (fs := mF B s11) rfl rfl) ?_
  refine gm_ev.iload_n i179_130 rfl ?_
  refine gm_ev.laload i179_131 (bM_al (j := 21) (n := 201) (fl := s11.2.2 37) rfl ek17 lk17 (by decide)) ?_
  refine gm_ev.iload_n i179_132 rfl ?_
  refine gm_ev.bipush (v := 8) i179_133 (by decide) ?_
  refine gm_ev.icmp_le_t (tgt := 143) i179_135 (by decide) c18 ?_
  refine gm_ev.iload_n i179_143 rfl ?_
  refine gm_ev.callS gm_mono_run (av := [.long (s11.2.2 37 k17), .int p2]) (r := []) i179_144 rfl rfl rfl (Nat.le_of_ble_eq_true rfl) t20 ?_
  refine gm_ev.istore (ls' := [some (.ref B), some (.int p0), some (.int p1), some (.int p2), some (.int (s11.1 36)), some (.int r19)]) i179_147 (Nat.le_of_ble_eq_true rfl) rfl ?_
  refine gm_ev.iload i179_149 rfl ?_
  refine gm_ev.if_ne_f i179_151 c21 ?_
  refine gm_ev.iconst (v := -1) i179_154 (by decide) ?_
  refine gm_ev.goto (tgt := 160) i179_155 (by decide) ?_
  exact gm_ev.iret i179_160 rfl
theorem r_letter_0_ffffffttftttft {N0 : Nat} {K : Nat → Nat} {d B : Nat} {s : mS} {G : gm_H} {sz sl : Nat} {p0 : Int32} {p1 : Int32} {p2 : Int32} {r7 : Int32} {s11 : mS} {k17 : Nat} {r19 : Int32} (hN : N0 ≤ B) (c1 : ¬ p0 < 0) (c2 : ¬ (3 : Int32) < p0) (c3 : ¬ p1 < 0) (c4 : ¬ p2 < 0) (c5 : ¬ (s.1 5) = 0) (c6 : ¬ p0 ≤ (1 : Int32)) (t8 : gm_to N0 K ra_nm (ra_mt K) d 170 [.ref B, .int (p0 - (2 : Int32))] (bM B (mH B (mI s 0 (0 : Int32))) G) sz (.returned (some (.int r7)), bM B (mH B (mI s 0 (0 : Int32))) G, sz, 0)) (c9 : ¬ r7 = 0) (t10 : gm_to N0 K ra_nm (ra_mt K) d 161 [.ref B] (bM B (mH B (mI s 0 (0 : Int32))) G) sz (.returned none, bM B (mH B s11) G, sz, 0)) (c12 : p0 ≤ (1 : Int32)) (c13 : p0 = 0) (c14 : p1 < (s11.1 36)) (c15 : ¬ p0 = 0) (c16 : ¬ p0 = (1 : Int32)) (ek17 : p1 = nI k17) (lk17 : k17 < 201) (c18 : ¬ p2 ≤ (8 : Int32)) (t20 : gm_to N0 K ra_nm (ra_mt K) d 147 [.long (s11.2.2 37 k17), .int (8 : Int32)] (bM B (mH B s11) G) sz (.returned (some (.int r19)), bM B (mH B s11) G, sz, 0)) (c21 : ¬ r19 = 0) : gm_ev N0 K ra_nm (ra_mt K) d (some .int) (gm_I cX12_letter) (gm_lkf (lkX12 false K)) 0 [some (.ref B), some (.int p0), some (.int p1), some (.int p2), none, none] [] (bM B (mH B s) G) sz sl (.returned (some (.int r19)), (bM B (mH B s11) G), sz, sl) := by
  refine gm_ev.aload_n i179_0 rfl ?_
  refine gm_ev.iconst (v := 0) i179_1 (by decide) ?_
  refine gm_ev.putfield (M' := (bM B (mH B (mI s 0 (0 : Int32))) G)) i179_2 rfl (bM_put (j := 0) (fs := mF B s) rfl (Nat.le_of_ble_eq_true rfl) hN (gm_fit_i _) rfl) ?_
  refine gm_ev.iload_n i179_5 rfl ?_
  refine gm_ev.if_lt_f i179_6 c1 ?_
  refine gm_ev.iload_n i179_9 rfl ?_
  refine gm_ev.iconst (v := 3) i179_10 (by decide) ?_
  refine gm_ev.icmp_gt_f i179_11 c2 ?_
  refine gm_ev.iload_n i179_14 rfl ?_
  refine gm_ev.if_lt_f i179_15 c3 ?_
  refine gm_ev.iload_n i179_18 rfl ?_
  refine gm_ev.if_lt_f i179_19 c4 ?_
  refine gm_ev.aload_n i179_22 rfl ?_
  refine gm_ev.getfield (v := .int (s.1 5)) i179_23 rfl (bM_fld (j := 0) (fs := mF B (mI s 0 (0 : Int32))) rfl rfl) ?_
  refine gm_ev.if_eq_f i179_26 c5 ?_
  refine gm_ev.iload_n i179_29 rfl ?_
  refine gm_ev.iconst (v := 1) i179_30 (by decide) ?_
  refine gm_ev.icmp_le_f i179_31 c6 ?_
  refine gm_ev.aload_n i179_34 rfl ?_
  refine gm_ev.iload_n i179_35 rfl ?_
  refine gm_ev.iconst (v := 2) i179_36 (by decide) ?_
  refine gm_ev.isub i179_37 ?_
  refine gm_ev.callV gm_mono_run (av := [.int (p0 - (2 : Int32))]) (r := []) (ci := 11) (fs := mF B (mI s 0 (0 : Int32))) (bM_get (j := 0) rfl) i179_38 rfl rfl rfl (Nat.le_of_ble_eq_true rfl) t8 ?_
  refine gm_ev.if_ne_t (tgt := 46) i179_41 (by decide) c9 ?_
  refine gm_ev.aload_n i179_46 rfl ?_
  refine gm_ev.callV gm_mono_run (av := []) (r := []) (ci := 11) (fs := mF B (mI s 0 (0 : Int32))) (bM_get (j := 0) rfl) i179_47 rfl rfl rfl (Nat.le_of_ble_eq_true rfl) t10 ?_
  refine gm_ev.iload_n i179_50 rfl ?_
  refine gm_ev.iconst (v := 1) i179_51 (by decide) ?_
  refine gm_ev.icmp_le_t (tgt := 62) i179_52 (by decide) c12 ?_
  refine gm_ev.iload_n i179_62 rfl ?_
  refine gm_ev.if_ne_f i179_63 c13 ?_
  refine gm_ev.aload_n i179_66 rfl ?_
  refine gm_ev.getfield (v := .int (s11.1 36)) i179_67 rfl (bM_fld (j := 0) (fs := mF B s11) rfl rfl) ?_
  refine gm_ev.goto (tgt := 89) i179_70 (by decide) ?_
  refine gm_ev.istore (ls' := [some (.ref B), some (.int p0), some (.int p1), some (.int p2), some (.int (s11.1 36)), none]) i179_89 (Nat.le_of_ble_eq_true rfl) rfl ?_
  refine gm_ev.iload_n i179_91 rfl ?_
  refine gm_ev.iload i179_92 rfl ?_
  refine gm_ev.icmp_lt_t (tgt := 99) i179_94 (by decide) c14 ?_
  refine gm_ev.iload_n i179_99 rfl ?_
  refine gm_ev.if_ne_t (tgt := 112) i179_100 (by decide) c15 ?_
  refine gm_ev.iload_n i179_112 rfl ?_
  refine gm_ev.iconst (v := 1) i179_113 (by decide) ?_
  refine gm_ev.icmp_ne_t (tgt := 126) i179_114 (by decide) c16 ?_
  refine gm_ev.aload_n i179_126 rfl ?_
  refine gm_ev.getfield (v := .ref (B + 21)) i179_127 rfl (bM_fld (j := 0) (fs := mF B s11) rfl rfl) ?_
  refine gm_ev.iload_n i179_130 rfl ?_
  refine gm_ev.laload i179_131 (bM_al (j := 21) (n := 201) (fl := s11.2.2 37) rfl ek17 lk17 (by decide)) ?_
  refine gm_ev.iload_n i179_132 rfl ?_
  refine gm_ev.bipush (v := 8) i179_133 (by decide) ?_
  refine gm_ev.icmp_le_f i179_135 c18 ?_
  refine gm_ev.bipush (v := 8) i179_138 (by decide) ?_
  refine gm_ev.goto (tgt := 144) i179_140 (by decide) ?_
  refine gm_ev.callS gm_mono_run (av := [.long (s11.2.2 37 k17), .int (8 : Int32)]) (r := []) i179_144 rfl rfl rfl (Nat.le_of_ble_eq_true rfl) t20 ?_
  refine gm_ev.istore (ls' := [some (.ref B), some (.int p0), some (.int p1), some (.int p2), some (.int (s11.1 36)), some (.int r19)]) i179_147 (Nat.le_of_ble_eq_true rfl) rfl ?_
  refine gm_ev.iload i179_149 rfl ?_
  refine gm_ev.if_ne_t (tgt := 158) i179_151 (by decide) c21 ?_
  refine gm_ev.iload i179_158 rfl ?_
  exact gm_ev.iret i179_160 rfl
theorem r_letter_0_ffffffttftttff {N0 : Nat} {K : Nat → Nat} {d B : Nat} {s : mS} {G : gm_H} {sz sl : Nat} {p0 : Int32} {p1 : Int32} {p2 : Int32} {r7 : Int32} {s11 : mS} {k17 : Nat} {r19 : Int32} (hN : N0 ≤ B) (c1 : ¬ p0 < 0) (c2 : ¬ (3 : Int32) < p0) (c3 : ¬ p1 < 0) (c4 : ¬ p2 < 0) (c5 : ¬ (s.1 5) = 0) (c6 : ¬ p0 ≤ (1 : Int32)) (t8 : gm_to N0 K ra_nm (ra_mt K) d 170 [.ref B, .int (p0 - (2 : Int32))] (bM B (mH B (mI s 0 (0 : Int32))) G) sz (.returned (some (.int r7)), bM B (mH B (mI s 0 (0 : Int32))) G, sz, 0)) (c9 : ¬ r7 = 0) (t10 : gm_to N0 K ra_nm (ra_mt K) d 161 [.ref B] (bM B (mH B (mI s 0 (0 : Int32))) G) sz (.returned none, bM B (mH B s11) G, sz, 0)) (c12 : p0 ≤ (1 : Int32)) (c13 : p0 = 0) (c14 : p1 < (s11.1 36)) (c15 : ¬ p0 = 0) (c16 : ¬ p0 = (1 : Int32)) (ek17 : p1 = nI k17) (lk17 : k17 < 201) (c18 : ¬ p2 ≤ (8 : Int32)) (t20 : gm_to N0 K ra_nm (ra_mt K) d 147 [.long (s11.2.2 37 k17), .int (8 : Int32)] (bM B (mH B s11) G) sz (.returned (some (.int r19)), bM B (mH B s11) G, sz, 0)) (c21 : r19 = 0) : gm_ev N0 K ra_nm (ra_mt K) d (some .int) (gm_I cX12_letter) (gm_lkf (lkX12 false K)) 0 [some (.ref B), some (.int p0), some (.int p1), some (.int p2), none, none] [] (bM B (mH B s) G) sz sl (.returned (some (.int (-1 : Int32))), (bM B (mH B s11) G), sz, sl) := by
  refine gm_ev.aload_n i179_0 rfl ?_
  refine gm_ev.iconst (v := 0) i179_1 (by decide) ?_
  refine gm_ev.putfield (M' := (bM B (mH B (mI s 0 (0 : Int32))) G)) i179_2 rfl (bM_put (j := 0) (fs := mF B s) rfl (Nat.le_of_ble_eq_true rfl) hN (gm_fit_i _) rfl) ?_
  refine gm_ev.iload_n i179_5 rfl ?_
  refine gm_ev.if_lt_f i179_6 c1 ?_
  refine gm_ev.iload_n i179_9 rfl ?_
  refine gm_ev.iconst (v := 3) i179_10 (by decide) ?_
  refine gm_ev.icmp_gt_f i179_11 c2 ?_
  refine gm_ev.iload_n i179_14 rfl ?_
  refine gm_ev.if_lt_f i179_15 c3 ?_
  refine gm_ev.iload_n i179_18 rfl ?_
  refine gm_ev.if_lt_f i179_19 c4 ?_
  refine gm_ev.aload_n i179_22 rfl ?_
  refine gm_ev.getfield (v := .int (s.1 5)) i179_23 rfl (bM_fld (j := 0) (fs := mF B (mI s 0 (0 : Int32))) rfl rfl) ?_
  refine gm_ev.if_eq_f i179_26 c5 ?_
  refine gm_ev.iload_n i179_29 rfl ?_
  refine gm_ev.iconst (v := 1) i179_30 (by decide) ?_
  refine gm_ev.icmp_le_f i179_31 c6 ?_
  refine gm_ev.aload_n i179_34 rfl ?_
  refine gm_ev.iload_n i179_35 rfl ?_
  refine gm_ev.iconst (v := 2) i179_36 (by decide) ?_
  refine gm_ev.isub i179_37 ?_
  refine gm_ev.callV gm_mono_run (av := [.int (p0 - (2 : Int32))]) (r := []) (ci := 11) (fs := mF B (mI s 0 (0 : Int32))) (bM_get (j := 0) rfl) i179_38 rfl rfl rfl (Nat.le_of_ble_eq_true rfl) t8 ?_
  refine gm_ev.if_ne_t (tgt := 46) i179_41 (by decide) c9 ?_
  refine gm_ev.aload_n i179_46 rfl ?_
  refine gm_ev.callV gm_mono_run (av := []) (r := []) (ci := 11) (fs := mF B (mI s 0 (0 : Int32))) (bM_get (j := 0) rfl) i179_47 rfl rfl rfl (Nat.le_of_ble_eq_true rfl) t10 ?_
  refine gm_ev.iload_n i179_50 rfl ?_
  refine gm_ev.iconst (v := 1) i179_51 (by decide) ?_
  refine gm_ev.icmp_le_t (tgt := 62) i179_52 (by decide) c12 ?_
  refine gm_ev.iload_n i179_62 rfl ?_
  refine gm_ev.if_ne_f i179_63 c13 ?_
  refine gm_ev.aload_n i179_66 rfl ?_
  refine gm_ev.getfield (v := .int (s11.1 36)) i179_67 rfl (bM_fld (j := 0) (fs := mF B s11) rfl rfl) ?_
  refine gm_ev.goto (tgt := 89) i179_70 (by decide) ?_
  refine gm_ev.istore (ls' := [some (.ref B), some (.int p0), some (.int p1), some (.int p2), some (.int (s11.1 36)), none]) i179_89 (Nat.le_of_ble_eq_true rfl) rfl ?_
  refine gm_ev.iload_n i179_91 rfl ?_
  refine gm_ev.iload i179_92 rfl ?_
  refine gm_ev.icmp_lt_t (tgt := 99) i179_94 (by decide) c14 ?_
  refine gm_ev.iload_n i179_99 rfl ?_
  refine gm_ev.if_ne_t (tgt := 112) i179_100 (by decide) c15 ?_
  refine gm_ev.iload_n i179_112 rfl ?_
  refine gm_ev.iconst (v := 1) i179_113 (by decide) ?_
  refine gm_ev.icmp_ne_t (tgt := 126) i179_114 (by decide) c16 ?_
  refine gm_ev.aload_n i179_126 rfl ?_
  refine gm_ev.getfield (v := .ref (B + 21)) i179_127 rfl (bM_fld (j := 0) (fs := mF B s11) rfl rfl) ?_
  refine gm_ev.iload_n i179_130 rfl ?_
  refine gm_ev.laload i179_131 (bM_al (j := 21) (n := 201) (fl := s11.2.2 37) rfl ek17 lk17 (by decide)) ?_
  refine gm_ev.iload_n i179_132 rfl ?_
  refine gm_ev.bipush (v := 8) i179_133 (by decide) ?_
  refine gm_ev.icmp_le_f i179_135 c18 ?_
  refine gm_ev.bipush (v := 8) i179_138 (by decide) ?_
  refine gm_ev.goto (tgt := 144) i179_140 (by decide) ?_
  refine gm_ev.callS gm_mono_run (av := [.long (s11.2.2 37 k17), .int (8 : Int32)]) (r := []) i179_144 rfl rfl rfl (Nat.le_of_ble_eq_true rfl) t20 ?_
  refine gm_ev.istore (ls' := [some (.ref B), some (.int p0), some (.int p1), some (.int p2), some (.int (s11.1 36)), some (.int r19)]) i179_147 (Nat.le_of_ble_eq_true rfl) rfl ?_
  refine gm_ev.iload i179_149 rfl ?_
  refine gm_ev.if_ne_f i179_151 c21 ?_
  refine gm_ev.iconst (v := -1) i179_154 (by decide) ?_
  refine gm_ev.goto (tgt := 160) i179_155 (by decide) ?_
  exact gm_ev.iret i179_160 rfl
theorem r_letter_0_ffffffttfttftt {N0 : Nat} {K : Nat → Nat} {d B : Nat} {s : mS} {G : gm_H} {sz sl : Nat} {p0 : Int32} {p1 : Int32} {p2 : Int32} {r7 : Int32} {s11 : mS} {k17 : Nat} {r19 : Int32} (hN : N0 ≤ B) (c1 : ¬ p0 < 0) (c2 : ¬ (3 : Int32) < p0) (c3 : ¬ p1 < 0) (c4 : ¬ p2 < 0) (c5 : ¬ (s.1 5) = 0) (c6 : ¬ p0 ≤ (1 : Int32)) (t8 : gm_to N0 K ra_nm (ra_mt K) d 170 [.ref B, .int (p0 - (2 : Int32))] (bM B (mH B (mI s 0 (0 : Int32))) G) sz (.returned (some (.int r7)), bM B (mH B (mI s 0 (0 : Int32))) G, sz, 0)) (c9 : ¬ r7 = 0) (t10 : gm_to N0 K ra_nm (ra_mt K) d 161 [.ref B] (bM B (mH B (mI s 0 (0 : Int32))) G) sz (.returned none, bM B (mH B s11) G, sz, 0)) (c12 : p0 ≤ (1 : Int32)) (c13 : p0 = 0) (c14 : p1 < (s11.1 36)) (c15 : ¬ p0 = 0) (c16 : p0 = (1 : Int32)) (ek17 : p1 = nI k17) (lk17 : k17 < 24) (c18 : p2 ≤ (8 : Int32)) (t20 : gm_to N0 K ra_nm (ra_mt K) d 147 [.long (s11.2.2 29 k17), .int p2] (bM B (mH B s11) G) sz (.returned (some (.int r19)), bM B (mH B s11) G, sz, 0)) (c21 : ¬ r19 = 0) : gm_ev N0 K ra_nm (ra_mt K) d (some .int) (gm_I cX12_letter) (gm_lkf (lkX12 false K)) 0 [some (.ref B), some (.int p0), some (.int p1), some (.int p2), none, none] [] (bM B (mH B s) G) sz sl (.returned (some (.int r19)), (bM B (mH B s11) G), sz, sl) := by
  refine gm_ev.aload_n i179_0 rfl ?_
  refine gm_ev.iconst (v := 0) i179_1 (by decide) ?_
  refine gm_ev.putfield (M' := (bM B (mH B (mI s 0 (0 : Int32))) G)) i179_2 rfl (bM_put (j := 0) (fs := mF B s) rfl (Nat.le_of_ble_eq_true rfl) hN (gm_fit_i _) rfl) ?_
  refine gm_ev.iload_n i179_5 rfl ?_
  refine gm_ev.if_lt_f i179_6 c1 ?_
  refine gm_ev.iload_n i179_9 rfl ?_
  refine gm_ev.iconst (v := 3) i179_10 (by decide) ?_
  refine gm_ev.icmp_gt_f i179_11 c2 ?_
  refine gm_ev.iload_n i179_14 rfl ?_
  refine gm_ev.if_lt_f i179_15 c3 ?_
  refine gm_ev.iload_n i179_18 rfl ?_
  refine gm_ev.if_lt_f i179_19 c4 ?_
  refine gm_ev.aload_n i179_22 rfl ?_
  refine gm_ev.getfield (v := .int (s.1 5)) i179_23 rfl (bM_fld (j := 0) (fs := mF B (mI s 0 (0 : Int32))) rfl rfl) ?_
  refine gm_ev.if_eq_f i179_26 c5 ?_
  refine gm_ev.iload_n i179_29 rfl ?_
  refine gm_ev.iconst (v := 1) i179_30 (by decide) ?_
  refine gm_ev.icmp_le_f i179_31 c6 ?_
  refine gm_ev.aload_n i179_34 rfl ?_
  refine gm_ev.iload_n i179_35 rfl ?_
  refine gm_ev.iconst (v := 2) i179_36 (by decide) ?_
  refine gm_ev.isub i179_37 ?_
  refine gm_ev.callV gm_mono_run (av := [.int (p0 - (2 : Int32))]) (r := []) (ci := 11) (fs := mF B (mI s 0 (0 : Int32))) (bM_get (j := 0) rfl) i179_38 rfl rfl rfl (Nat.le_of_ble_eq_true rfl) t8 ?_
  refine gm_ev.if_ne_t (tgt := 46) i179_41 (by decide) c9 ?_
  refine gm_ev.aload_n i179_46 rfl ?_
  refine gm_ev.callV gm_mono_run (av := []) (r := []) (ci := 11) (fs := mF B (mI s 0 (0 : Int32))) (bM_get (j := 0) rfl) i179_47 rfl rfl rfl (Nat.le_of_ble_eq_true rfl) t10 ?_
  refine gm_ev.iload_n i179_50 rfl ?_
  refine gm_ev.iconst (v := 1) i179_51 (by decide) ?_
  refine gm_ev.icmp_le_t (tgt := 62) i179_52 (by decide) c12 ?_
  refine gm_ev.iload_n i179_62 rfl ?_
  refine gm_ev.if_ne_f i179_63 c13 ?_
  refine gm_ev.aload_n i179_66 rfl ?_
  refine gm_ev.getfield (v := .int (s11.1 36)) i179_67 rfl (bM_fld (j := 0) (fs := mF B s11) rfl rfl) ?_
  refine gm_ev.goto (tgt := 89) i179_70 (by decide) ?_
  refine gm_ev.istore (ls' := [some (.ref B), some (.int p0), some (.int p1), some (.int p2), some (.int (s11.1 36)), none]) i179_89 (Nat.le_of_ble_eq_true rfl) rfl ?_
  refine gm_ev.iload_n i179_91 rfl ?_
  refine gm_ev.iload i179_92 rfl ?_
  refine gm_ev.icmp_lt_t (tgt := 99) i179_94 (by decide) c14 ?_
  refine gm_ev.iload_n i179_99 rfl ?_
  refine gm_ev.if_ne_t (tgt := 112) i179_100 (by decide) c15 ?_
  refine gm_ev.iload_n i179_112 rfl ?_
  refine gm_ev.iconst (v := 1) i179_113 (by decide) ?_
  refine gm_ev.icmp_ne_f i179_114 c16 ?_
  refine gm_ev.aload_n i179_117 rfl ?_
  refine gm_ev.getfield (v := .ref (B + 17)) i179_118 rfl (bM_fld (j := 0) (fs := mF B s11) rfl rfl) ?_
  refine gm_ev.iload_n i179_121 rfl ?_
  refine gm_ev.laload i179_122 (bM_al (j := 17) (n := 24) (fl := s11.2.2 29) rfl ek17 lk17 (by decide)) ?_
  refine gm_ev.goto (tgt := 132) i179_123 (by decide) ?_
  refine gm_ev.iload_n i179_132 rfl ?_
  refine gm_ev.bipush (v := 8) i179_133 (by decide) ?_
  refine gm_ev.icmp_le_t (tgt := 143) i179_135 (by decide) c18 ?_
  refine gm_ev.iload_n i179_143 rfl ?_
  refine gm_ev.callS gm_mono_run (av := [.long (s11.2.2 29 k17), .int p2]) (r := []) i179_144 rfl rfl rfl (Nat.le_of_ble_eq_true rfl) t20 ?_
  refine gm_ev.istore (ls' := [some (.ref B), some (.int p0), some (.int p1), some (.int p2), some (.int (s11.1 36)), some (.int r19)]) i179_147 (Nat.le_of_ble_eq_true rfl) rfl ?_
  refine gm_ev.iload i179_149 rfl ?_
  refine gm_ev.if_ne_t (tgt := 158) i179_151 (by decide) c21 ?_
  refine gm_ev.iload i179_158 rfl ?_
  exact gm_ev.iret i179_160 rfl
theorem r_letter_0_ffffffttfttftf {N0 : Nat} {K : Nat → Nat} {d B : Nat} {s : mS} {G : gm_H} {sz sl : Nat} {p0 : Int32} {p1 : Int32} {p2 : Int32} {r7 : Int32} {s11 : mS} {k17 : Nat} {r19 : Int32} (hN : N0 ≤ B) (c1 : ¬ p0 < 0) (c2 : ¬ (3 : Int32) < p0) (c3 : ¬ p1 < 0) (c4 : ¬ p2 < 0) (c5 : ¬ (s.1 5) = 0) (c6 : ¬ p0 ≤ (1 : Int32)) (t8 : gm_to N0 K ra_nm (ra_mt K) d 170 [.ref B, .int (p0 - (2 : Int32))] (bM B (mH B (mI s 0 (0 : Int32))) G) sz (.returned (some (.int r7)), bM B (mH B (mI s 0 (0 : Int32))) G, sz, 0)) (c9 : ¬ r7 = 0) (t10 : gm_to N0 K ra_nm (ra_mt K) d 161 [.ref B] (bM B (mH B (mI s 0 (0 : Int32))) G) sz (.returned none, bM B (mH B s11) G, sz, 0)) (c12 : p0 ≤ (1 : Int32)) (c13 : p0 = 0) (c14 : p1 < (s11.1 36)) (c15 : ¬ p0 = 0) (c16 : p0 = (1 : Int32)) (ek17 : p1 = nI k17) (lk17 : k17 < 24) (c18 : p2 ≤ (8 : Int32)) (t20 : gm_to N0 K ra_nm (ra_mt K) d 147 [.long (s11.2.2 29 k17), .int p2] (bM B (mH B s11) G) sz (.returned (some (.int r19)), bM B (mH B s11) G, sz, 0)) (c21 : r19 = 0) : gm_ev N0 K ra_nm (ra_mt K) d (some .int) (gm_I cX12_letter) (gm_lkf (lkX12 false K)) 0 [some (.ref B), some (.int p0), some (.int p1), some (.int p2), none, none] [] (bM B (mH B s) G) sz sl (.returned (some (.int (-1 : Int32))), (bM B (mH B s11) G), sz, sl) := by
  refine gm_ev.aload_n i179_0 rfl ?_
  refine gm_ev.iconst (v := 0) i179_1 (by decide) ?_
  refine gm_ev.putfield (M' := (bM B (mH B (mI s 0 (0 : Int32))) G)) i179_2 rfl (bM_put (j := 0) (fs := mF B s) rfl (Nat.le_of_ble_eq_true rfl) hN (gm_fit_i _) rfl) ?_
  refine gm_ev.iload_n i179_5 rfl ?_
  refine gm_ev.if_lt_f i179_6 c1 ?_
  refine gm_ev.iload_n i179_9 rfl ?_
  refine gm_ev.iconst (v := 3) i179_10 (by decide) ?_
  refine gm_ev.icmp_gt_f i179_11 c2 ?_
  refine gm_ev.iload_n i179_14 rfl ?_
  refine gm_ev.if_lt_f i179_15 c3 ?_
  refine gm_ev.iload_n i179_18 rfl ?_
  refine gm_ev.if_lt_f i179_19 c4 ?_
  refine gm_ev.aload_n i179_22 rfl ?_
  refine gm_ev.getfield (v := .int (s.1 5)) i179_23 rfl (bM_fld (j := 0) (fs := mF B (mI s 0 (0 : Int32))) rfl rfl) ?_
  refine gm_ev.if_eq_f i179_26 c5 ?_
  refine gm_ev.iload_n i179_29 rfl ?_
  refine gm_ev.iconst (v := 1) i179_30 (by decide) ?_
  refine gm_ev.icmp_le_f i179_31 c6 ?_
  refine gm_ev.aload_n i179_34 rfl ?_
  refine gm_ev.iload_n i179_35 rfl ?_
  refine gm_ev.iconst (v := 2) i179_36 (by decide) ?_
  refine gm_ev.isub i179_37 ?_
  refine gm_ev.callV gm_mono_run (av := [.int (p0 - (2 : Int32))]) (r := []) (ci := 11) (fs := mF B (mI s 0 (0 : Int32))) (bM_get (j := 0) rfl) i179_38 rfl rfl rfl (Nat.le_of_ble_eq_true rfl) t8 ?_
  refine gm_ev.if_ne_t (tgt := 46) i179_41 (by decide) c9 ?_
  refine gm_ev.aload_n i179_46 rfl ?_
  refine gm_ev.callV gm_mono_run (av := []) (r := []) (ci := 11) (fs := mF B (mI s 0 (0 : Int32))) (bM_get (j := 0) rfl) i179_47 rfl rfl rfl (Nat.le_of_ble_eq_true rfl) t10 ?_
  refine gm_ev.iload_n i179_50 rfl ?_
  refine gm_ev.iconst (v := 1) i179_51 (by decide) ?_
  refine gm_ev.icmp_le_t (tgt := 62) i179_52 (by decide) c12 ?_
  refine gm_ev.iload_n i179_62 rfl ?_
  refine gm_ev.if_ne_f i179_63 c13 ?_
  refine gm_ev.aload_n i179_66 rfl ?_
  refine gm_ev.getfield (v := .int (s11.1 36)) i179_67 rfl (bM_fld (j := 0) (fs := mF B s11) rfl rfl) ?_
  refine gm_ev.goto (tgt := 89) i179_70 (by decide) ?_
  refine gm_ev.istore (ls' := [some (.ref B), some (.int p0), some (.int p1), some (.int p2), some (.int (s11.1 36)), none]) i179_89 (Nat.le_of_ble_eq_true rfl) rfl ?_
  refine gm_ev.iload_n i179_91 rfl ?_
  refine gm_ev.iload i179_92 rfl ?_
  refine gm_ev.icmp_lt_t (tgt := 99) i179_94 (by decide) c14 ?_
  refine gm_ev.iload_n i179_99 rfl ?_
  refine gm_ev.if_ne_t (tgt := 112) i179_100 (by decide) c15 ?_
  refine gm_ev.iload_n i179_112 rfl ?_
  refine gm_ev.iconst (v := 1) i179_113 (by decide) ?_
  refine gm_ev.icmp_ne_f i179_114 c16 ?_
  refine gm_ev.aload_n i179_117 rfl ?_
  refine gm_ev.getfield (v := .ref (B + 17)) i179_118 rfl (bM_fld (j := 0) (fs := mF B s11) rfl rfl) ?_
  refine gm_ev.iload_n i179_121 rfl ?_
  refine gm_ev.laload i179_122 (bM_al (j := 17) (n := 24) (fl := s11.2.2 29) rfl ek17 lk17 (by decide)) ?_
  refine gm_ev.goto (tgt := 132) i179_123 (by decide) ?_
  refine gm_ev.iload_n i179_132 rfl ?_
  refine gm_ev.bipush (v := 8) i179_133 (by decide) ?_
  refine gm_ev.icmp_le_t (tgt := 143) i179_135 (by decide) c18 ?_
  refine gm_ev.iload_n i179_143 rfl ?_
  refine gm_ev.callS gm_mono_run (av := [.long (s11.2.2 29 k17), .int p2]) (r := []) i179_144 rfl rfl rfl (Nat.le_of_ble_eq_true rfl) t20 ?_
  refine gm_ev.istore (ls' := [some (.ref B), some (.int p0), some (.int p1), some (.int p2), some (.int (s11.1 36)), some (.int r19)]) i179_147 (Nat.le_of_ble_eq_true rfl) rfl ?_
  refine gm_ev.iload i179_149 rfl ?_
  refine gm_ev.if_ne_f i179_151 c21 ?_
  refine gm_ev.iconst (v := -1) i179_154 (by decide) ?_
  refine gm_ev.goto (tgt := 160) i179_155 (by decide) ?_
  exact gm_ev.iret i179_160 rfl
theorem r_letter_0_ffffffttfttfft {N0 : Nat} {K : Nat → Nat} {d B : Nat} {s : mS} {G : gm_H} {sz sl : Nat} {p0 : Int32} {p1 : Int32} {p2 : Int32} {r7 : Int32} {s11 : mS} {k17 : Nat} {r19 : Int32} (hN : N0 ≤ B) (c1 : ¬ p0 < 0) (c2 : ¬ (3 : Int32) < p0) (c3 : ¬ p1 < 0) (c4 : ¬ p2 < 0) (c5 : ¬ (s.1 5) = 0) (c6 : ¬ p0 ≤ (1 : Int32)) (t8 : gm_to N0 K ra_nm (ra_mt K) d 170 [.ref B, .int (p0 - (2 : Int32))] (bM B (mH B (mI s 0 (0 : Int32))) G) sz (.returned (some (.int r7)), bM B (mH B (mI s 0 (0 : Int32))) G, sz, 0)) (c9 : ¬ r7 = 0) (t10 : gm_to N0 K ra_nm (ra_mt K) d 161 [.ref B] (bM B (mH B (mI s 0 (0 : Int32))) G) sz (.returned none, bM B (mH B s11) G, sz, 0)) (c12 : p0 ≤ (1 : Int32)) (c13 : p0 = 0) (c14 : p1 < (s11.1 36)) (c15 : ¬ p0 = 0) (c16 : p0 = (1 : Int32)) (ek17 : p1 = nI k17) (lk17 : k17 < 24) (c18 : ¬ p2 ≤ (8 : Int32)) (t20 : gm_to N0 K ra_nm (ra_mt K) d 147 [.long (s11.2.2 29 k17), .int (8 : Int32)] (bM B (mH B s11) G) sz (.returned (some (.int r19)), bM B (mH B s11) G, sz, 0)) (c21 : ¬ r19 = 0) : gm_ev N0 K ra_nm (ra_mt K) d (some .int) (gm_I cX12_letter) (gm_lkf (lkX12 false K)) 0 [some (.ref B), some (.int p0), some (.int p1), some (.int p2), none, none] [] (bM B (mH B s) G) sz sl (.returned (some (.int r19)), (bM B (mH B s11) G), sz, sl) := by
  refine gm_ev.aload_n i179_0 rfl ?_
  refine gm_ev.iconst (v := 0) i179_1 (by decide) ?_
  refine gm_ev.putfield (M' := (bM B (mH B (mI s 0 (0 : Int32))) G)) i179_2 rfl (bM_put (j := 0) (fs := mF B s) rfl (Nat.le_of_ble_eq_true rfl) hN (gm_fit_i _) rfl) ?_
  refine gm_ev.iload_n i179_5 rfl ?_
  refine gm_ev.if_lt_f i179_6 c1 ?_
  refine gm_ev.iload_n i179_9 rfl ?_
  refine gm_ev.iconst (v := 3) i179_10 (by decide) ?_
  refine gm_ev.icmp_gt_f i179_11 c2 ?_
  refine gm_ev.iload_n i179_14 rfl ?_
  refine gm_ev.if_lt_f i179_15 c3 ?_
  refine gm_ev.iload_n i179_18 rfl ?_
  refine gm_ev.if_lt_f i179_19 c4 ?_
  refine gm_ev.aload_n i179_22 rfl ?_
  refine gm_ev.getfield (v := .int (s.1 5)) i179_23 rfl (bM_fld (j := 0) (fs := mF B (mI s 0 (0 : Int32))) rfl rfl) ?_
  refine gm_ev.if_eq_f i179_26 c5 ?_
  refine gm_ev.iload_n i179_29 rfl ?_
  refine gm_ev.iconst (v := 1) i179_30 (by decide) ?_
  refine gm_ev.icmp_le_f i179_31 c6 ?_
  refine gm_ev.aload_n i179_34 rfl ?_
  refine gm_ev.iload_n i179_35 rfl ?_
  refine gm_ev.iconst (v := 2) i179_36 (by decide) ?_
  refine gm_ev.isub i179_37 ?_
  refine gm_ev.callV gm_mono_run (av := [.int (p0 - (2 : Int32))]) (r := []) (ci := 11) (fs := mF B (mI s 0 (0 : Int32))) (bM_get (j := 0) rfl) i179_38 rfl rfl rfl (Nat.le_of_ble_eq_true rfl) t8 ?_
  refine gm_ev.if_ne_t (tgt := 46) i179_41 (by decide) c9 ?_
  refine gm_ev.aload_n i179_46 rfl ?_
  refine gm_ev.callV gm_mono_run (av := []) (r := []) (ci := 11) (fs := mF B (mI s 0 (0 : Int32))) (bM_get (j := 0) rfl) i179_47 rfl rfl rfl (Nat.le_of_ble_eq_true rfl) t10 ?_
  refine gm_ev.iload_n i179_50 rfl ?_
  refine gm_ev.iconst (v := 1) i179_51 (by decide) ?_
  refine gm_ev.icmp_le_t (tgt := 62) i179_52 (by decide) c12 ?_
  refine gm_ev.iload_n i179_62 rfl ?_
  refine gm_ev.if_ne_f i179_63 c13 ?_
  refine gm_ev.aload_n i179_66 rfl ?_
  refine gm_ev.getfield (v := .int (s11.1 36)) i179_67 rfl (bM_fld (j := 0) (fs := mF B s11) rfl rfl) ?_
  refine gm_ev.goto (tgt := 89) i179_70 (by decide) ?_
  refine gm_ev.istore (ls' := [some (.ref B), some (.int p0), some (.int p1), some (.int p2), some (.int (s11.1 36)), none]) i179_89 (Nat.le_of_ble_eq_true rfl) rfl ?_
  refine gm_ev.iload_n i179_91 rfl ?_
  refine gm_ev.iload i179_92 rfl ?_
  refine gm_ev.icmp_lt_t (tgt := 99) i179_94 (by decide) c14 ?_
  refine gm_ev.iload_n i179_99 rfl ?_
  refine gm_ev.if_ne_t (tgt := 112) i179_100 (by decide) c15 ?_
  refine gm_ev.iload_n i179_112 rfl ?_
  refine gm_ev.iconst (v := 1) i179_113 (by decide) ?_
  refine gm_ev.icmp_ne_f i179_114 c16 ?_
  refine gm_ev.aload_n i179_117 rfl ?_
  refine gm_ev.getfield (v := .ref (B + 17)) i179_118 rfl (bM_fld (j := 0) (fs := mF B s11) rfl rfl) ?_
  refine gm_ev.iload_n i179_121 rfl ?_
  refine gm_ev.laload i179_122 (bM_al (j := 17) (n := 24) (fl := s11.2.2 29) rfl ek17 lk17 (by decide)) ?_
  refine gm_ev.goto (tgt := 132) i179_123 (by decide) ?_
  refine gm_ev.iload_n i179_132 rfl ?_
  refine gm_ev.bipush (v := 8) i179_133 (by decide) ?_
  refine gm_ev.icmp_le_f i179_135 c18 ?_
  refine gm_ev.bipush (v := 8) i179_138 (by decide) ?_
  refine gm_ev.goto (tgt := 144) i179_140 (by decide) ?_
  refine gm_ev.callS gm_mono_run (av := [.long (s11.2.2 29 k17), .int (8 : Int32)]) (r := []) i179_144 rfl rfl rfl (Nat.le_of_ble_eq_true rfl) t20 ?_
  refine gm_ev.istore (ls' := [some (.ref B), some (.int p0), some (.int p1), some (.int p2), some (.int (s11.1 36)), some (.int r19)]) i179_147 (Nat.le_of_ble_eq_true rfl) rfl ?_
  refine gm_ev.iload i179_149 rfl ?_
  refine gm_ev.if_ne_t (tgt := 158) i179_151 (by decide) c21 ?_
  refine gm_ev.iload i179_158 rfl ?_
  exact gm_ev.iret i179_160 rfl
theorem r_letter_0_ffffffttfttfff {N0 : Nat} {K : Nat → Nat} {d B : Nat} {s : mS} {G : gm_H} {sz sl : Nat} {p0 : Int32} {p1 : Int32} {p2 : Int32} {r7 : Int32} {s11 : mS} {k17 : Nat} {r19 : Int32} (hN : N0 ≤ B) (c1 : ¬ p0 < 0) (c2 : ¬ (3 : Int32) < p0) (c3 : ¬ p1 < 0) (c4 : ¬ p2 < 0) (c5 : ¬ (s.1 5) = 0) (c6 : ¬ p0 ≤ (1 : Int32)) (t8 : gm_to N0 K ra_nm (ra_mt K) d 170 [.ref B, .int (p0 - (2 : Int32))] (bM B (mH B (mI s 0 (0 : Int32))) G) sz (.returned (some (.int r7)), bM B (mH B (mI s 0 (0 : Int32))) G, sz, 0)) (c9 : ¬ r7 = 0) (t10 : gm_to N0 K ra_nm (ra_mt K) d 161 [.ref B] (bM B (mH B (mI s 0 (0 : Int32))) G) sz (.returned none, bM B (mH B s11) G, sz, 0)) (c12 : p0 ≤ (1 : Int32)) (c13 : p0 = 0) (c14 : p1 < (s11.1 36)) (c15 : ¬ p0 = 0) (c16 : p0 = (1 : Int32)) (ek17 : p1 = nI k17) (lk17 : k17 < 24) (c18 : ¬ p2 ≤ (8 : Int32)) (t20 : gm_to N0 K ra_nm (ra_mt K) d 147 [.long (s11.2.2 29 k17), .int (8 : Int32)] (bM B (mH B s11) G) sz (.returned (some (.int r19)), bM B (mH B s11) G, sz, 0)) (c21 : r19 = 0) : gm_ev N0 K ra_nm (ra_mt K) d (some .int) (gm_I cX12_letter) (gm_lkf (lkX12 false K)) 0 [some (.ref B), some (.int p0), some (.int p1), some (.int p2), none, none] [] (bM B (mH B s) G) sz sl (.returned (some (.int (-1 : Int32))), (bM B (mH B s11) G), sz, sl) := by
  refine gm_ev.aload_n i179_0 rfl ?_
  refine gm_ev.iconst (v := 0) i179_1 (by decide) ?_
  refine gm_ev.putfield (M' := (bM B (mH B (mI s 0 (0 : Int32))) G)) i179_2 rfl (bM_put (j := 0) (fs := mF B s) rfl (Nat.le_of_ble_eq_true rfl) hN (gm_fit_i _) rfl) ?_
  refine gm_ev.iload_n i179_5 rfl ?_
  refine gm_ev.if_lt_f i179_6 c1 ?_
  refine gm_ev.iload_n i179_9 rfl ?_
  refine gm_ev.iconst (v := 3) i179_10 (by decide) ?_
  refine gm_ev.icmp_gt_f i179_11 c2 ?_
  refine gm_ev.iload_n i179_14 rfl ?_
  refine gm_ev.if_lt_f i179_15 c3 ?_
  refine gm_ev.iload_n i179_18 rfl ?_
  refine gm_ev.if_lt_f i179_19 c4 ?_
  refine gm_ev.aload_n i179_22 rfl ?_
  refine gm_ev.getfield (v := .int (s.1 5)) i179_23 rfl (bM_fld (j := 0) (fs := mF B (mI s 0 (0 : Int32))) rfl rfl) ?_
  refine gm_ev.if_eq_f i179_26 c5 ?_
  refine gm_ev.iload_n i179_29 rfl ?_
  refine gm_ev.iconst (v := 1) i179_30 (by decide) ?_
  refine gm_ev.icmp_le_f i179_31 c6 ?_
  refine gm_ev.aload_n i179_34 rfl ?_
  refine gm_ev.iload_n i179_35 rfl ?_
  refine gm_ev.iconst (v := 2) i179_36 (by decide) ?_
  refine gm_ev.isub i179_37 ?_
  refine gm_ev.callV gm_mono_run (av := [.int (p0 - (2 : Int32))]) (r := []) (ci := 11) (fs := mF B (mI s 0 (0 : Int32))) (bM_get (j := 0) rfl) i179_38 rfl rfl rfl (Nat.le_of_ble_eq_true rfl) t8 ?_
  refine gm_ev.if_ne_t (tgt := 46) i179_41 (by decide) c9 ?_
  refine gm_ev.aload_n i179_46 rfl ?_
  refine gm_ev.callV gm_mono_run (av := []) (r := []) (ci := 11) (fs := mF B (mI s 0 (0 : Int32))) (bM_get (j := 0) rfl) i179_47 rfl rfl rfl (Nat.le_of_ble_eq_true rfl) t10 ?_
  refine gm_ev.iload_n i179_50 rfl ?_
  refine gm_ev.iconst (v := 1) i179_51 (by decide) ?_
  refine gm_ev.icmp_le_t (tgt := 62) i179_52 (by decide) c12 ?_
  refine gm_ev.iload_n i179_62 rfl ?_
  refine gm_ev.if_ne_f i179_63 c13 ?_
  refine gm_ev.aload_n i179_66 rfl ?_
  refine gm_ev.getfield (v := .int (s11.1 36)) i179_67 rfl (bM_fld (j := 0) (fs := mF B s11) rfl rfl) ?_
  refine gm_ev.goto (tgt := 89) i179_70 (by decide) ?_
  refine gm_ev.istore (ls' := [some (.ref B), some (.int p0), some (.int p1), some (.int p2), some (.int (s11.1 36)), none]) i179_89 (Nat.le_of_ble_eq_true rfl) rfl ?_
  refine gm_ev.iload_n i179_91 rfl ?_
  refine gm_ev.iload i179_92 rfl ?_
  refine gm_ev.icmp_lt_t (tgt := 99) i179_94 (by decide) c14 ?_
  refine gm_ev.iload_n i179_99 rfl ?_
  refine gm_ev.if_ne_t (tgt := 112) i179_100 (by decide) c15 ?_
  refine gm_ev.iload_n i179_112 rfl ?_
  refine gm_ev.iconst (v := 1) i179_113 (by decide) ?_
  refine gm_ev.icmp_ne_f i179_114 c16 ?_
  refine gm_ev.aload_n i179_117 rfl ?_
  refine gm_ev.getfield (v := .ref (B + 17)) i179_118 rfl (bM_fld (j := 0) (fs := mF B s11) rfl rfl) ?_
  refine gm_ev.iload_n i179_121 rfl ?_
  refine gm_ev.laload i179_122 (bM_al (j := 17) (n := 24) (fl := s11.2.2 29) rfl ek17 lk17 (by decide)) ?_
  refine gm_ev.goto (tgt := 132) i179_123 (by decide) ?_
  refine gm_ev.iload_n i179_132 rfl ?_
  refine gm_ev.bipush (v := 8) i179_133 (by decide) ?_
  refine gm_ev.icmp_le_f i179_135 c18 ?_
  refine gm_ev.bipush (v := 8) i179_138 (by decide) ?_
  refine gm_ev.goto (tgt := 144) i179_140 (by decide) ?_
  refine gm_ev.callS gm_mono_run (av := [.long (s11.2.2 29 k17), .int (8 : Int32)]) (r := []) i179_144 rfl rfl rfl (Nat.le_of_ble_eq_true rfl) t20 ?_
  refine gm_ev.istore (ls' := [some (.ref B), some (.int p0), some (.int p1), some (.int p2), some (.int (s11.1 36)), some (.int r19)]) i179_147 (Nat.le_of_ble_eq_true rfl) rfl ?_
  refine gm_ev.iload i179_149 rfl ?_
  refine gm_ev.if_ne_f i179_151 c21 ?_
  refine gm_ev.iconst (v := -1) i179_154 (by decide) ?_
  refine gm_ev.goto (tgt := 160) i179_155 (by decide) ?_
  exact gm_ev.iret i179_160 rfl
theorem r_letter_0_ffffffttftftt {N0 : Nat} {K : Nat → Nat} {d B : Nat} {s : mS} {G : gm_H} {sz sl : Nat} {p0 : Int32} {p1 : Int32} {p2 : Int32} {r7 : Int32} {s11 : mS} {k16 : Nat} {r18 : Int32} (hN : N0 ≤ B) (c1 : ¬ p0 < 0) (c2 : ¬ (3 : Int32) < p0) (c3 : ¬ p1 < 0) (c4 : ¬ p2 < 0) (c5 : ¬ (s.1 5) = 0) (c6 : ¬ p0 ≤ (1 : Int32)) (t8 : gm_to N0 K ra_nm (ra_mt K) d 170 [.ref B, .int (p0 - (2 : Int32))] (bM B (mH B (mI s 0 (0 : Int32))) G) sz (.returned (some (.int r7)), bM B (mH B (mI s 0 (0 : Int32))) G, sz, 0)) (c9 : ¬ r7 = 0) (t10 : gm_to N0 K ra_nm (ra_mt K) d 161 [.ref B] (bM B (mH B (mI s 0 (0 : Int32))) G) sz (.returned none, bM B (mH B s11) G, sz, 0)) (c12 : p0 ≤ (1 : Int32)) (c13 : p0 = 0) (c14 : p1 < (s11.1 36)) (c15 : p0 = 0) (ek16 : p1 = nI k16) (lk16 : k16 < 24) (c17 : p2 ≤ (8 : Int32)) (t19 : gm_to N0 K ra_nm (ra_mt K) d 147 [.long (s11.2.2 35 k16), .int p2] (bM B (mH B s11) G) sz (.returned (some (.int r18)), bM B (mH B s11) G, sz, 0)) (c20 : ¬ r18 = 0) : gm_ev N0 K ra_nm (ra_mt K) d (some .int) (gm_I cX12_letter) (gm_lkf (lkX12 false K)) 0 [some (.ref B), some (.int p0), some (.int p1), some (.int p2), none, none] [] (bM B (mH B s) G) sz sl (.returned (some (.int r18)), (bM B (mH B s11) G), sz, sl) := by
  refine gm_ev.aload_n i179_0 rfl ?_
  refine gm_ev.iconst (v := 0) i179_1 (by decide) ?_
  refine gm_ev.putfield (M' := (bM B (mH B (mI s 0 (0 : Int32))) G)) i179_2 rfl (bM_put (j := 0) (fs := mF B s) rfl (Nat.le_of_ble_eq_true rfl) hN (gm_fit_i _) rfl) ?_
  refine gm_ev.iload_n i179_5 rfl ?_
  refine gm_ev.if_lt_f i179_6 c1 ?_
  refine gm_ev.iload_n i179_9 rfl ?_
  refine gm_ev.iconst (v := 3) i179_10 (by decide) ?_
  refine gm_ev.icmp_gt_f i179_11 c2 ?_
  refine gm_ev.iload_n i179_14 rfl ?_
  refine gm_ev.if_lt_f i179_15 c3 ?_
  refine gm_ev.iload_n i179_18 rfl ?_
  refine gm_ev.if_lt_f i179_19 c4 ?_
  refine gm_ev.aload_n i179_22 rfl ?_
  refine gm_ev.getfield (v := .int (s.1 5)) i179_23 rfl (bM_fld (j := 0) (fs := mF B (mI s 0 (0 : Int32))) rfl rfl) ?_
  refine gm_ev.if_eq_f i179_26 c5 ?_
  refine gm_ev.iload_n i179_29 rfl ?_
  refine gm_ev.iconst (v := 1) i179_30 (by decide) ?_
  refine gm_ev.icmp_le_f i179_31 c6 ?_
  refine gm_ev.aload_n i179_34 rfl ?_
  refine gm_ev.iload_n i179_35 rfl ?_
  refine gm_ev.iconst (v := 2) i179_36 (by decide) ?_
  refine gm_ev.isub i179_37 ?_
  refine gm_ev.callV gm_mono_run (av := [.int (p0 - (2 : Int32))]) (r := []) (ci := 11) (fs := mF B (mI s 0 (0 : Int32))) (bM_get (j := 0) rfl) i179_38 rfl rfl rfl (Nat.le_of_ble_eq_true rfl) t8 ?_
  refine gm_ev.if_ne_t (tgt := 46) i179_41 (by decide) c9 ?_
  refine gm_ev.aload_n i179_46 rfl ?_
  refine gm_ev.callV gm_mono_run (av := []) (r := []) (ci := 11) (fs := mF B (mI s 0 (0 : Int32))) (bM_get (j := 0) rfl) i179_47 rfl rfl rfl (Nat.le_of_ble_eq_true rfl) t10 ?_
  refine gm_ev.iload_n i179_50 rfl ?_
  refine gm_ev.iconst (v := 1) i179_51 (by decide) ?_
  refine gm_ev.icmp_le_t (tgt := 62) i179_52 (by decide) c12 ?_
  refine gm_ev.iload_n i179_62 rfl ?_
  refine gm_ev.if_ne_f i179_63 c13 ?_
  refine gm_ev.aload_n i179_66 rfl ?_
  refine gm_ev.getfield (v := .int (s11.1 36)) i179_67 rfl (bM_fld (j := 0) (fs := mF B s11) rfl rfl) ?_
  refine gm_ev.goto (tgt := 89) i179_70 (by decide) ?_
  refine gm_ev.istore (ls' := [some (.ref B), some (.int p0), some (.int p1), some (.int p2), some (.int (s11.1 36)), none]) i179_89 (Nat.le_of_ble_eq_true rfl) rfl ?_
  refine gm_ev.iload_n i179_91 rfl ?_
  refine gm_ev.iload i179_92 rfl ?_
  refine gm_ev.icmp_lt_t (tgt := 99) i179_94 (by decide) c14 ?_
  refine gm_ev.iload_n i179_99 rfl ?_
  refine gm_ev.if_ne_f i179_100 c15 ?_
  refine gm_ev.aload_n i179_103 rfl ?_
  refine gm_ev.getfield (v := .ref (B + 20)) i179_104 rfl (bM_fld (j := 0) (fs := mF B s11) rfl rfl) ?_
  refine gm_ev.iload_n i179_107 rfl ?_
  refine gm_ev.laload i179_108 (bM_al (j := 20) (n := 24) (fl := s11.2.2 35) rfl ek16 lk16 (by decide)) ?_
  refine gm_ev.goto (tgt := 132) i179_109 (by decide) ?_
  refine gm_ev.iload_n i179_132 rfl ?_
  refine gm_ev.bipush (v := 8) i179_133 (by decide) ?_
  refine gm_ev.icmp_le_t (tgt := 143) i179_135 (by decide) c17 ?_
  refine gm_ev.iload_n i179_143 rfl ?_
  refine gm_ev.callS gm_mono_run (av := [.long (s11.2.2 35 k16), .int p2]) (r := []) i179_144 rfl rfl rfl (Nat.le_of_ble_eq_true rfl) t19 ?_
  refine gm_ev.istore (ls' := [some (.ref B), some (.int p0), some (.int p1), some (.int p2), some (.int (s11.1 36)), some (.int r18)]) i179_147 (Nat.le_of_ble_eq_true rfl) rfl ?_
  refine gm_ev.iload i179_149 rfl ?_
  refine gm_ev.if_ne_t (tgt := 158) i179_151 (by decide) c20 ?_
  refine gm_ev.iload i179_158 rfl ?_
  exact gm_ev.iret i179_160 rfl
theorem r_letter_0_ffffffttftftf {N0 : Nat} {K : Nat → Nat} {d B : Nat} {s : mS} {G : gm_H} {sz sl : Nat} {p0 : Int32} {p1 : Int32} {p2 : Int32} {r7 : Int32} {s11 : mS} {k16 : Nat} {r18 : Int32} (hN : N0 ≤ B) (c1 : ¬ p0 < 0) (c2 : ¬ (3 : Int32) < p0) (c3 : ¬ p1 < 0) (c4 : ¬ p2 < 0) (c5 : ¬ (s.1 5) = 0) (c6 : ¬ p0 ≤ (1 : Int32)) (t8 : gm_to N0 K ra_nm (ra_mt K) d 170 [.ref B, .int (p0 - (2 : Int32))] (bM B (mH B (mI s 0 (0 : Int32))) G) sz (.returned (some (.int r7)), bM B (mH B (mI s 0 (0 : Int32))) G, sz, 0)) (c9 : ¬ r7 = 0) (t10 : gm_to N0 K ra_nm (ra_mt K) d 161 [.ref B] (bM B (mH B (mI s 0 (0 : Int32))) G) sz (.returned none, bM B (mH B s11) G, sz, 0)) (c12 : p0 ≤ (1 : Int32)) (c13 : p0 = 0) (c14 : p1 < (s11.1 36)) (c15 : p0 = 0) (ek16 : p1 = nI k16) (lk16 : k16 < 24) (c17 : p2 ≤ (8 : Int32)) (t19 : gm_to N0 K ra_nm (ra_mt K) d 147 [.long (s11.2.2 35 k16), .int p2] (bM B (mH B s11) G) sz (.returned (some (.int r18)), bM B (mH B s11) G, sz, 0)) (c20 : r18 = 0) : gm_ev N0 K ra_nm (ra_mt K) d (some .int) (gm_I cX12_letter) (gm_lkf (lkX12 false K)) 0 [some (.ref B), some (.int p0), some (.int p1), some (.int p2), none, none] [] (bM B (mH B s) G) sz sl (.returned (some (.int (-1 : Int32))), (bM B (mH B s11) G), sz, sl) := by
  refine gm_ev.aload_n i179_0 rfl ?_
  refine gm_ev.iconst (v := 0) i179_1 (by decide) ?_
  refine gm_ev.putfield (M' := (bM B (mH B (mI s 0 (0 : Int32))) G)) i179_2 rfl (bM_put (j := 0) (fs := mF B s) rfl (Nat.le_of_ble_eq_true rfl) hN (gm_fit_i _) rfl) ?_
  refine gm_ev.iload_n i179_5 rfl ?_
  refine gm_ev.if_lt_f i179_6 c1 ?_
  refine gm_ev.iload_n i179_9 rfl ?_
  refine gm_ev.iconst (v := 3) i179_10 (by decide) ?_
  refine gm_ev.icmp_gt_f i179_11 c2 ?_
  refine gm_ev.iload_n i179_14 rfl ?_
  refine gm_ev.if_lt_f i179_15 c3 ?_
  refine gm_ev.iload_n i179_18 rfl ?_
  refine gm_ev.if_lt_f i179_19 c4 ?_
  refine gm_ev.aload_n i179_22 rfl ?_
  refine gm_ev.getfield (v := .int (s.1 5)) i179_23 rfl (bM_fld (j := 0) (fs := mF B (mI s 0 (0 : Int32))) rfl rfl) ?_
  refine gm_ev.if_eq_f i179_26 c5 ?_
  refine gm_ev.iload_n i179_29 rfl ?_
  refine gm_ev.iconst (v := 1) i179_30 (by decide) ?_
  refine gm_ev.icmp_le_f i179_31 c6 ?_
  refine gm_ev.aload_n i179_34 rfl ?_
  refine gm_ev.iload_n i179_35 rfl ?_
  refine gm_ev.iconst (v := 2) i179_36 (by decide) ?_
  refine gm_ev.isub i179_37 ?_
  refine gm_ev.callV gm_mono_run (av := [.int (p0 - (2 : Int32))]) (r := []) (ci := 11) (fs := mF B (mI s 0 (0 : Int32))) (bM_get (j := 0) rfl) i179_38 rfl rfl rfl (Nat.le_of_ble_eq_true rfl) t8 ?_
  refine gm_ev.if_ne_t (tgt := 46) i179_41 (by decide) c9 ?_
  refine gm_ev.aload_n i179_46 rfl ?_
  refine gm_ev.callV gm_mono_run (av := []) (r := []) (ci := 11) (fs := mF B (mI s 0 (0 : Int32))) (bM_get (j := 0) rfl) i179_47 rfl rfl rfl (Nat.le_of_ble_eq_true rfl) t10 ?_
  refine gm_ev.iload_n i179_50 rfl ?_
  refine gm_ev.iconst (v := 1) i179_51 (by decide) ?_
  refine gm_ev.icmp_le_t (tgt := 62) i179_52 (by decide) c12 ?_
  refine gm_ev.iload_n i179_62 rfl ?_
  refine gm_ev.if_ne_f i179_63 c13 ?_
  refine gm_ev.aload_n i179_66 rfl ?_
  refine gm_ev.getfield (v := .int (s11.1 36)) i179_67 rfl (bM_fld (j := 0) (fs := mF B s11) rfl rfl) ?_
  refine gm_ev.goto (tgt := 89) i179_70 (by decide) ?_
  refine gm_ev.istore (ls' := [some (.ref B), some (.int p0), some (.int p1), some (.int p2), some (.int (s11.1 36)), none]) i179_89 (Nat.le_of_ble_eq_true rfl) rfl ?_
  refine gm_ev.iload_n i179_91 rfl ?_
  refine gm_ev.iload i179_92 rfl ?_
  refine gm_ev.icmp_lt_t (tgt := 99) i179_94 (by decide) c14 ?_
  refine gm_ev.iload_n i179_99 rfl ?_
  refine gm_ev.if_ne_f i179_100 c15 ?_
  refine gm_ev.aload_n i179_103 rfl ?_
  refine gm_ev.getfield (v := .ref (B + 20)) i179_104 rfl (bM_fld (j := 0) (fs := mF B s11) rfl rfl) ?_
  refine gm_ev.iload_n i179_107 rfl ?_
  refine gm_ev.laload i179_108 (bM_al (j := 20) (n := 24) (fl := s11.2.2 35) rfl ek16 lk16 (by decide)) ?_
  refine gm_ev.goto (tgt := 132) i179_109 (by decide) ?_
  refine gm_ev.iload_n i179_132 rfl ?_
  refine gm_ev.bipush (v := 8) i179_133 (by decide) ?_
  refine gm_ev.icmp_le_t (tgt := 143) i179_135 (by decide) c17 ?_
  refine gm_ev.iload_n i179_143 rfl ?_
  refine gm_ev.callS gm_mono_run (av := [.long (s11.2.2 35 k16), .int p2]) (r := []) i179_144 rfl rfl rfl (Nat.le_of_ble_eq_true rfl) t19 ?_
  refine gm_ev.istore (ls' := [some (.ref B), some (.int p0), some (.int p1), some (.int p2), some (.int (s11.1 36)), some (.int r18)]) i179_147 (Nat.le_of_ble_eq_true rfl) rfl ?_
  refine gm_ev.iload i179_149 rfl ?_
  refine gm_ev.if_ne_f i179_151 c20 ?_
  refine gm_ev.iconst (v := -1) i179_154 (by decide) ?_
  refine gm_ev.goto (tgt := 160) i179_155 (by decide) ?_
  exact gm_ev.iret i179_160 rfl
theorem r_letter_0_ffffffttftfft {N0 : Nat} {K : Nat → Nat} {d B : Nat} {s : mS} {G : gm_H} {sz sl : Nat} {p0 : Int32} {p1 : Int32} {p2 : Int32} {r7 : Int32} {s11 : mS} {k16 : Nat} {r18 : Int32} (hN : N0 ≤ B) (c1 : ¬ p0 < 0) (c2 : ¬ (3 : Int32) < p0) (c3 : ¬ p1 < 0) (c4 : ¬ p2 < 0) (c5 : ¬ (s.1 5) = 0) (c6 : ¬ p0 ≤ (1 : Int32)) (t8 : gm_to N0 K ra_nm (ra_mt K) d 170 [.ref B, .int (p0 - (2 : Int32))] (bM B (mH B (mI s 0 (0 : Int32))) G) sz (.returned (some (.int r7)), bM B (mH B (mI s 0 (0 : Int32))) G, sz, 0)) (c9 : ¬ r7 = 0) (t10 : gm_to N0 K ra_nm (ra_mt K) d 161 [.ref B] (bM B (mH B (mI s 0 (0 : Int32))) G) sz (.returned none, bM B (mH B s11) G, sz, 0)) (c12 : p0 ≤ (1 : Int32)) (c13 : p0 = 0) (c14 : p1 < (s11.1 36)) (c15 : p0 = 0) (ek16 : p1 = nI k16) (lk16 : k16 < 24) (c17 : ¬ p2 ≤ (8 : Int32)) (t19 : gm_to N0 K ra_nm (ra_mt K) d 147 [.long (s11.2.2 35 k16), .int (8 : Int32)] (bM B (mH B s11) G) sz (.returned (some (.int r18)), bM B (mH B s11) G, sz, 0)) (c20 : ¬ r18 = 0) : gm_ev N0 K ra_nm (ra_mt K) d (some .int) (gm_I cX12_letter) (gm_lkf (lkX12 false K)) 0 [some (.ref B), some (.int p0), some (.int p1), some (.int p2), none, none] [] (bM B (mH B s) G) sz sl (.returned (some (.int r18)), (bM B (mH B s11) G), sz, sl) := by
  refine gm_ev.aload_n i179_0 rfl ?_
  refine gm_ev.iconst (v := 0) i179_1 (by decide) ?_
  refine gm_ev.putfield (M' := (bM B (mH B (mI s 0 (0 : Int32))) G)) i179_2 rfl (bM_put (j := 0) (fs := mF B s) rfl (Nat.le_of_ble_eq_true rfl) hN (gm_fit_i _) rfl) ?_
  refine gm_ev.iload_n i179_5 rfl ?_
  refine gm_ev.if_lt_f i179_6 c1 ?_
  refine gm_ev.iload_n i179_9 rfl ?_
  refine gm_ev.iconst (v := 3) i179_10 (by decide) ?_
  refine gm_ev.icmp_gt_f i179_11 c2 ?_
  refine gm_ev.iload_n i179_14 rfl ?_
  refine gm_ev.if_lt_f i179_15 c3 ?_
  refine gm_ev.iload_n i179_18 rfl ?_
  refine gm_ev.if_lt_f i179_19 c4 ?_
  refine gm_ev.aload_n i179_22 rfl ?_
  refine gm_ev.getfield (v := .int (s.1 5)) i179_23 rfl (bM_fld (j := 0) (fs := mF B (mI s 0 (0 : Int32))) rfl rfl) ?_
  refine gm_ev.if_eq_f i179_26 c5 ?_
  refine gm_ev.iload_n i179_29 rfl ?_
  refine gm_ev.iconst (v := 1) i179_30 (by decide) ?_
  refine gm_ev.icmp_le_f i179_31 c6 ?_
  refine gm_ev.aload_n i179_34 rfl ?_
  refine gm_ev.iload_n i179_35 rfl ?_
  refine gm_ev.iconst (v := 2) i179_36 (by decide) ?_
  refine gm_ev.isub i179_37 ?_
  refine gm_ev.callV gm_mono_run (av := [.int (p0 - (2 : Int32))]) (r := []) (ci := 11) (fs := mF B (mI s 0 (0 : Int32))) (bM_get (j := 0) rfl) i179_38 rfl rfl rfl (Nat.le_of_ble_eq_true rfl) t8 ?_
  refine gm_ev.if_ne_t (tgt := 46) i179_41 (by decide) c9 ?_
  refine gm_ev.aload_n i179_46 rfl ?_
  refine gm_ev.callV gm_mono_run (av := []) (r := []) (ci := 11) (fs := mF B (mI s 0 (0 : Int32))) (bM_get (j := 0) rfl) i179_47 rfl rfl rfl (Nat.le_of_ble_eq_true rfl) t10 ?_
  refine gm_ev.iload_n i179_50 rfl ?_
  refine gm_ev.iconst (v := 1) i179_51 (by decide) ?_
  refine gm_ev.icmp_le_t (tgt := 62) i179_52 (by decide) c12 ?_
  refine gm_ev.iload_n i179_62 rfl ?_
  refine gm_ev.if_ne_f i179_63 c13 ?_
  refine gm_ev.aload_n i179_66 rfl ?_
  refine gm_ev.getfield (v := .int (s11.1 36)) i179_67 rfl (bM_fld (j := 0) (fs := mF B s11) rfl rfl) ?_
  refine gm_ev.goto (tgt := 89) i179_70 (by decide) ?_
  refine gm_ev.istore (ls' := [some (.ref B), some (.int p0), some (.int p1), some (.int p2), some (.int (s11.1 36)), none]) i179_89 (Nat.le_of_ble_eq_true rfl) rfl ?_
  refine gm_ev.iload_n i179_91 rfl ?_
  refine gm_ev.iload i179_92 rfl ?_
  refine gm_ev.icmp_lt_t (tgt := 99) i179_94 (by decide) c14 ?_
  refine gm_ev.iload_n i179_99 rfl ?_
  refine gm_ev.if_ne_f i179_100 c15 ?_
  refine gm_ev.aload_n i179_103 rfl ?_
  refine gm_ev.getfield (v := .ref (B + 20)) i179_104 rfl (bM_fld (j := 0) (fs := mF B s11) rfl rfl) ?_
  refine gm_ev.iload_n i179_107 rfl ?_
  refine gm_ev.laload i179_108 (bM_al (j := 20) (n := 24) (fl := s11.2.2 35) rfl ek16 lk16 (by decide)) ?_
  refine gm_ev.goto (tgt := 132) i179_109 (by decide) ?_
  refine gm_ev.iload_n i179_132 rfl ?_
  refine gm_ev.bipush (v := 8) i179_133 (by decide) ?_
  refine gm_ev.icmp_le_f i179_135 c17 ?_
  refine gm_ev.bipush (v := 8) i179_138 (by decide) ?_
  refine gm_ev.goto (tgt := 144) i179_140 (by decide) ?_
  refine gm_ev.callS gm_mono_run (av := [.long (s11.2.2 35 k16), .int (8 : Int32)]) (r := []) i179_144 rfl rfl rfl (Nat.le_of_ble_eq_true rfl) t19 ?_
  refine gm_ev.istore (ls' := [some (.ref B), some (.int p0), some (.int p1), some (.int p2), some (.int (s11.1 36)), some (.int r18)]) i179_147 (Nat.le_of_ble_eq_true rfl) rfl ?_
  refine gm_ev.iload i179_149 rfl ?_
  refine gm_ev.if_ne_t (tgt := 158) i179_151 (by decide) c20 ?_
  refine gm_ev.iload i179_158 rfl ?_
  exact gm_ev.iret i179_160 rfl
theorem r_letter_0_ffffffttftfff {N0 : Nat} {K : Nat → Nat} {d B : Nat} {s : mS} {G : gm_H} {sz sl : Nat} {p0 : Int32} {p1 : Int32} {p2 : Int32} {r7 : Int32} {s11 : mS} {k16 : Nat} {r18 : Int32} (hN : N0 ≤ B) (c1 : ¬ p0 < 0) (c2 : ¬ (3 : Int32) < p0) (c3 : ¬ p1 < 0) (c4 : ¬ p2 < 0) (c5 : ¬ (s.1 5) = 0) (c6 : ¬ p0 ≤ (1 : Int32)) (t8 : gm_to N0 K ra_nm (ra_mt K) d 170 [.ref B, .int (p0 - (2 : Int32))] (bM B (mH B (mI s 0 (0 : Int32))) G) sz (.returned (some (.int r7)), bM B (mH B (mI s 0 (0 : Int32))) G, sz, 0)) (c9 : ¬ r7 = 0) (t10 : gm_to N0 K ra_nm (ra_mt K) d 161 [.ref B] (bM B (mH B (mI s 0 (0 : Int32))) G) sz (.returned none, bM B (mH B s11) G, sz, 0)) (c12 : p0 ≤ (1 : Int32)) (c13 : p0 = 0) (c14 : p1 < (s11.1 36)) (c15 : p0 = 0) (ek16 : p1 = nI k16) (lk16 : k16 < 24) (c17 : ¬ p2 ≤ (8 : Int32)) (t19 : gm_to N0 K ra_nm (ra_mt K) d 147 [.long (s11.2.2 35 k16), .int (8 : Int32)] (bM B (mH B s11) G) sz (.returned (some (.int r18)), bM B (mH B s11) G, sz, 0)) (c20 : r18 = 0) : gm_ev N0 K ra_nm (ra_mt K) d (some .int) (gm_I cX12_letter) (gm_lkf (lkX12 false K)) 0 [some (.ref B), some (.int p0), some (.int p1), some (.int p2), none, none] [] (bM B (mH B s) G) sz sl (.returned (some (.int (-1 : Int32))), (bM B (mH B s11) G), sz, sl) := by
  refine gm_ev.aload_n i179_0 rfl ?_
  refine gm_ev.iconst (v := 0) i179_1 (by decide) ?_
  refine gm_ev.putfield (M' := (bM B (mH B (mI s 0 (0 : Int32))) G)) i179_2 rfl (bM_put (j := 0) (fs := mF B s) rfl (Nat.le_of_ble_eq_true rfl) hN (gm_fit_i _) rfl) ?_
  refine gm_ev.iload_n i179_5 rfl ?_
  refine gm_ev.if_lt_f i179_6 c1 ?_
  refine gm_ev.iload_n i179_9 rfl ?_
  refine gm_ev.iconst (v := 3) i179_10 (by decide) ?_
  refine gm_ev.icmp_gt_f i179_11 c2 ?_
  refine gm_ev.iload_n i179_14 rfl ?_
  refine gm_ev.if_lt_f i179_15 c3 ?_
  refine gm_ev.iload_n i179_18 rfl ?_
  refine gm_ev.if_lt_f i179_19 c4 ?_
  refine gm_ev.aload_n i179_22 rfl ?_
  refine gm_ev.getfield (v := .int (s.1 5)) i179_23 rfl (bM_fld (j := 0) (fs := mF B (mI s 0 (0 : Int32))) rfl rfl) ?_
  refine gm_ev.if_eq_f i179_26 c5 ?_
  refine gm_ev.iload_n i179_29 rfl ?_
  refine gm_ev.iconst (v := 1) i179_30 (by decide) ?_
  refine gm_ev.icmp_le_f i179_31 c6 ?_
  refine gm_ev.aload_n i179_34 rfl ?_
  refine gm_ev.iload_n i179_35 rfl ?_
  refine gm_ev.iconst (v := 2) i179_36 (by decide) ?_
  refine gm_ev.isub i179_37 ?_
  refine gm_ev.callV gm_mono_run (av := [.int (p0 - (2 : Int32))]) (r := []) (ci := 11) (fs := mF B (mI s 0 (0 : Int32))) (bM_get (j := 0) rfl) i179_38 rfl rfl rfl (Nat.le_of_ble_eq_true rfl) t8 ?_
  refine gm_ev.if_ne_t (tgt := 46) i179_41 (by decide) c9 ?_
  refine gm_ev.aload_n i179_46 rfl ?_
  refine gm_ev.callV gm_mono_run (av := []) (r := []) (ci := 11) (fs := mF B (mI s 0 (0 : Int32))) (bM_get (j := 0) rfl) i179_47 rfl rfl rfl (Nat.le_of_ble_eq_true rfl) t10 ?_
  refine gm_ev.iload_n i179_50 rfl ?_
  refine gm_ev.iconst (v := 1) i179_51 (by decide) ?_
  refine gm_ev.icmp_le_t (tgt := 62) i179_52 (by decide) c12 ?_
  refine gm_ev.iload_n i179_62 rfl ?_
  refine gm_ev.if_ne_f i179_63 c13 ?_
  refine gm_ev.aload_n i179_66 rfl ?_
  refine gm_ev.getfield (v := .int (s11.1 36)) i179_67 rfl (bM_fld (j := 0) (fs := mF B s11) rfl rfl) ?_
  refine gm_ev.goto (tgt := 89) i179_70 (by decide) ?_
  refine gm_ev.istore (ls' := [some (.ref B), some (.int p0), some (.int p1), some (.int p2), some (.int (s11.1 36)), none]) i179_89 (Nat.le_of_ble_eq_true rfl) rfl ?_
  refine gm_ev.iload_n i179_91 rfl ?_
  refine gm_ev.iload i179_92 rfl ?_
  refine gm_ev.icmp_lt_t (tgt := 99) i179_94 (by decide) c14 ?_
  refine gm_ev.iload_n i179_99 rfl ?_
  refine gm_ev.if_ne_f i179_100 c15 ?_
  refine gm_ev.aload_n i179_103 rfl ?_
  refine gm_ev.getfield (v := .ref (B + 20)) i179_104 rfl (bM_fld (j := 0) (fs := mF B s11) rfl rfl) ?_
  refine gm_ev.iload_n i179_107 rfl ?_
  refine gm_ev.laload i179_108 (bM_al (j := 20) (n := 24) (fl := s11.2.2 35) rfl ek16 lk16 (by decide)) ?_
  refine gm_ev.goto (tgt := 132) i179_109 (by decide) ?_
  refine gm_ev.iload_n i179_132 rfl ?_
  refine gm_ev.bipush (v := 8) i179_133 (by decide) ?_
  refine gm_ev.icmp_le_f i179_135 c17 ?_
  refine gm_ev.bipush (v := 8) i179_138 (by decide) ?_
  refine gm_ev.goto (tgt := 144) i179_140 (by decide) ?_
  refine gm_ev.callS gm_mono_run (av := [.long (s11.2.2 35 k16), .int (8 : Int32)]) (r := []) i179_144 rfl rfl rfl (Nat.le_of_ble_eq_true rfl) t19 ?_
  refine gm_ev.istore (ls' := [some (.ref B), some (.int p0), some (.int p1), some (.int p2), some (.int (s11.1 36)), some (.int r18)]) i179_147 (Nat.le_of_ble_eq_true rfl) rfl ?_
  refine gm_ev.iload i179_149 rfl ?_
  refine gm_ev.if_ne_f i179_151 c20 ?_
  refine gm_ev.iconst (v := -1) i179_154 (by decide) ?_
  refine gm_ev.goto (tgt := 160) i179_155 (by decide) ?_
  exact gm_ev.iret i179_160 rfl
theorem r_letter_0_ffffffttff {N0 : Nat} {K : Nat → Nat} {d B : Nat} {s : mS} {G : gm_H} {sz sl : Nat} {p0 : Int32} {p1 : Int32} {p2 : Int32} {r7 : Int32} {s11 : mS} (hN : N0 ≤ B) (c1 : ¬ p0 < 0) (c2 : ¬ (3 : Int32) < p0) (c3 : ¬ p1 < 0) (c4 : ¬ p2 < 0) (c5 : ¬ (s.1 5) = 0) (c6 : ¬ p0 ≤ (1 : Int32)) (t8 : gm_to N0 K ra_nm (ra_mt K) d 170 [.ref B, .int (p0 - (2 : Int32))] (bM B (mH B (mI s 0 (0 : Int32))) G) sz (.returned (some (.int r7)), bM B (mH B (mI s 0 (0 : Int32))) G, sz, 0)) (c9 : ¬ r7 = 0) (t10 : gm_to N0 K ra_nm (ra_mt K) d 161 [.ref B] (bM B (mH B (mI s 0 (0 : Int32))) G) sz (.returned none, bM B (mH B s11) G, sz, 0)) (c12 : p0 ≤ (1 : Int32)) (c13 : p0 = 0) (c14 : ¬ p1 < (s11.1 36)) : gm_ev N0 K ra_nm (ra_mt K) d (some .int) (gm_I cX12_letter) (gm_lkf (lkX12 false K)) 0 [some (.ref B), some (.int p0), some (.int p1), some (.int p2), none, none] [] (bM B (mH B s) G) sz sl (.returned (some (.int (-1 : Int32))), (bM B (mH B s11) G), sz, sl) := by
  refine gm_ev.aload_n i179_0 rfl ?_
  refine gm_ev.iconst (v := 0) i179_1 (by decide) ?_
  refine gm_ev.putfield (M' := (bM B (mH B (mI s 0 (0 : Int32))) G)) i179_2 rfl (bM_put (j := 0) (fs := mF B s) rfl (Nat.le_of_ble_eq_true rfl) hN (gm_fit_i _) rfl) ?_
  refine gm_ev.iload_n i179_5 rfl ?_
  refine gm_ev.if_lt_f i179_6 c1 ?_
  refine gm_ev.iload_n i179_9 rfl ?_
  refine gm_ev.iconst (v := 3) i179_10 (by decide) ?_
  refine gm_ev.icmp_gt_f i179_11 c2 ?_
  refine gm_ev.iload_n i179_14 rfl ?_
  refine gm_ev.if_lt_f i179_15 c3 ?_
  refine gm_ev.iload_n i179_18 rfl ?_
  refine gm_ev.if_lt_f i179_19 c4 ?_
  refine gm_ev.aload_n i179_22 rfl ?_
  refine gm_ev.getfield (v := .int (s.1 5)) i179_23 rfl (bM_fld (j := 0) (fs := mF B (mI s 0 (0 : Int32))) rfl rfl) ?_
  refine gm_ev.if_eq_f i179_26 c5 ?_
  refine gm_ev.iload_n i179_29 rfl ?_
  refine gm_ev.iconst (v := 1) i179_30 (by decide) ?_
  refine gm_ev.icmp_le_f i179_31 c6 ?_
  refine gm_ev.aload_n i179_34 rfl ?_
  refine gm_ev.iload_n i179_35 rfl ?_
  refine gm_ev.iconst (v := 2) i179_36 (by decide) ?_
  refine gm_ev.isub i179_37 ?_
  refine gm_ev.callV gm_mono_run (av := [.int (p0 - (2 : Int32))]) (r := []) (ci := 11) (fs := mF B (mI s 0 (0 : Int32))) (bM_get (j := 0) rfl) i179_38 rfl rfl rfl (Nat.le_of_ble_eq_true rfl) t8 ?_
  refine gm_ev.if_ne_t (tgt := 46) i179_41 (by decide) c9 ?_
  refine gm_ev.aload_n i179_46 rfl ?_
  refine gm_ev.callV gm_mono_run (av := []) (r := []) (ci := 11) (fs := mF B (mI s 0 (0 : Int32))) (bM_get (j := 0) rfl) i179_47 rfl rfl rfl (Nat.le_of_ble_eq_true rfl) t10 ?_
  refine gm_ev.iload_n i179_50 rfl ?_
  refine gm_ev.iconst (v := 1) i179_51 (by decide) ?_
  refine gm_ev.icmp_le_t (tgt := 62) i179_52 (by decide) c12 ?_
  refine gm_ev.iload_n i179_62 rfl ?_
  refine gm_ev.if_ne_f i179_63 c13 ?_
  refine gm_ev.aload_n i179_66 rfl ?_
  refine gm_ev.getfield (v := .int (s11.1 36)) i179_67 rfl (bM_fld (j := 0) (fs := mF B s11) rfl rfl) ?_
  refine gm_ev.goto (tgt := 89) i179_70 (by decide) ?_
  refine gm_ev.istore (ls' := [some (.ref B), some (.int p0), some (.int p1), some (.int p2), some (.int (s11.1 36)), none]) i179_89 (Nat.le_of_ble_eq_true rfl) rfl ?_
  refine gm_ev.iload_n i179_91 rfl ?_
  refine gm_ev.iload i179_92 rfl ?_
  refine gm_ev.icmp_lt_f i179_94 c14 ?_
  refine gm_ev.iconst (v := -1) i179_97 (by decide) ?_
  exact gm_ev.iret i179_98 rfl
theorem r_letter_0_fffffftfttttttt {N0 : Nat} {K : Nat → Nat} {d B : Nat} {s : mS} {G : gm_H} {sz sl : Nat} {p0 : Int32} {p1 : Int32} {p2 : Int32} {r7 : Int32} {s11 : mS} {s14 : mS} {k20 : Nat} {r22 : Int32} (hN : N0 ≤ B) (c1 : ¬ p0 < 0) (c2 : ¬ (3 : Int32) < p0) (c3 : ¬ p1 < 0) (c4 : ¬ p2 < 0) (c5 : ¬ (s.1 5) = 0) (c6 : ¬ p0 ≤ (1 : Int32)) (t8 : gm_to N0 K ra_nm (ra_mt K) d 170 [.ref B, .int (p0 - (2 : Int32))] (bM B (mH B (mI s 0 (0 : Int32))) G) sz (.returned (some (.int r7)), bM B (mH B (mI s 0 (0 : Int32))) G, sz, 0)) (c9 : ¬ r7 = 0) (t10 : gm_to N0 K ra_nm (ra_mt K) d 161 [.ref B] (bM B (mH B (mI s 0 (0 : Int32))) G) sz (.returned none, bM B (mH B s11) G, sz, 0)) (c12 : ¬ p0 ≤ (1 : Int32)) (t13 : gm_to N0 K ra_nm (ra_mt K) d 171 [.ref B, .int (p0 - (2 : Int32))] (bM B (mH B s11) G) sz (.returned none, bM B (mH B s14) G, sz, 0)) (c15 : ¬ p0 = 0) (c16 : ¬ p0 = (1 : Int32)) (c17 : p1 < (s14.1 38)) (c18 : ¬ p0 = 0) (c19 : ¬ p0 = (1 : Int32)) (ek20 : p1 = nI k20) (lk20 : k20 < 201) (c21 : p2 ≤ (8 : Int32)) (t23 : gm_to N0 K ra_nm (ra_mt K) d 147 [.long (s14.2.2 37 k20), .int p2] (bM B (mH B s14) G) sz (.returned (some (.int r22)), bM B (mH B s14) G, sz, 0)) (c24 : ¬ r22 = 0) : gm_ev N0 K ra_nm (ra_mt K) d (some .int) (gm_I cX12_letter) (gm_lkf (lkX12 false K)) 0 [some (.ref B), some (.int p0), some (.int p1), some (.int p2), none, none] [] (bM B (mH B s) G) sz sl (.returned (some (.int r22)), (bM B (mH B s14) G), sz, sl) := by
  refine gm_ev.aload_n i179_0 rfl ?_
  refine gm_ev.iconst (v := 0) i179_1 (by decide) ?_
  refine gm_ev.putfield (M' := (bM B (mH B (mI s 0 (0 : Int32))) G)) i179_2 rfl (bM_put (j := 0) (fs := mF B s) rfl (Nat.le_of_ble_eq_true rfl) hN (gm_fit_i _) rfl) ?_
  refine gm_ev.iload_n i179_5 rfl ?_
  refine gm_ev.if_lt_f i179_6 c1 ?_
  refine gm_ev.iload_n i179_9 rfl ?_
  refine gm_ev.iconst (v := 3) i179_10 (by decide) ?_
  refine gm_ev.icmp_gt_f i179_11 c2 ?_
  refine gm_ev.iload_n i179_14 rfl ?_
  refine gm_ev.if_lt_f i179_15 c3 ?_
  refine gm_ev.iload_n i179_18 rfl ?_
  refine gm_ev.if_lt_f i179_19 c4 ?_
  refine gm_ev.aload_n i179_22 rfl ?_
  refine gm_ev.getfield (v := .int (s.1 5)) i179_23 rfl (bM_fld (j := 0) (fs := mF B (mI s 0 (0 : Int32))) rfl rfl) ?_
  refine gm_ev.if_eq_f i179_26 c5 ?_
  refine gm_ev.iload_n i179_29 rfl ?_
  refine gm_ev.iconst (v := 1) i179_30 (by decide) ?_
  refine gm_ev.icmp_le_f i179_31 c6 ?_
  refine gm_ev.aload_n i179_34 rfl ?_
  refine gm_ev.iload_n i179_35 rfl ?_
  refine gm_ev.iconst (v := 2) i179_36 (by decide) ?_
  refine gm_ev.isub i179_37 ?_
  refine gm_ev.callV gm_mono_run (av := [.int (p0 - (2 : Int32))]) (r := []) (ci := 11) (fs := mF B (mI s 0 (0 : Int32))) (bM_get (j := 0) rfl) i179_38 rfl rfl rfl (Nat.le_of_ble_eq_true rfl) t8 ?_
  refine gm_ev.if_ne_t (tgt := 46) i179_41 (by decide) c9 ?_
  refine gm_ev.aload_n i179_46 rfl ?_
  refine gm_ev.callV gm_mono_run (av := []) (r := []) (ci := 11) (fs := mF B (mI s 0 (0 : Int32))) (bM_get (j := 0) rfl) i179_47 rfl rfl rfl (Nat.le_of_ble_eq_true rfl) t10 ?_
  refine gm_ev.iload_n i179_50 rfl ?_
  refine gm_ev.iconst (v := 1) i179_51 (by decide) ?_
  refine gm_ev.icmp_le_f i179_52 c12 ?_
  refine gm_ev.aload_n i179_55 rfl ?_
  refine gm_ev.iload_n i179_56 rfl ?_
  refine gm_ev.iconst (v := 2) i179_57 (by decide) ?_
  refine gm_ev.isub i179_58 ?_
  refine gm_ev.callV gm_mono_run (av := [.int (p0 - (2 : Int32))]) (r := []) (ci := 11) (fs := mF B s11) (bM_get (j := 0) rfl) i179_59 rfl rfl rfl (Nat.le_of_ble_eq_true rfl) t13 ?_
  refine gm_ev.iload_n i179_62 rfl ?_
  refine gm_ev.if_ne_t (tgt := 73) i179_63 (by decide) c15 ?_
  refine gm_ev.iload_n i179_73 rfl ?_
  refine gm_ev.iconst (v := 1) i179_74 (by decide) ?_
  refine gm_ev.icmp_ne_t (tgt := 85) i179_75 (by decide) c16 ?_
  refine gm_ev.aload_n i179_85 rfl ?_
  refine gm_ev.getfield (v := .int (s14.1 38)) i179_86 rfl (bM_fld (j := 0) (fs := mF B s14) rfl rfl) ?_
  refine gm_ev.istore (ls' := [some (.ref B), some (.int p0), some (.int p1), some (.int p2), some (.int (s14.1 38)), none]) i179_89 (Nat.le_of_ble_eq_true rfl) rfl ?_
  refine gm_ev.iload_n i179_91 rfl ?_
  refine gm_ev.iload i179_92 rfl ?_
  refine gm_ev.icmp_lt_t (tgt := 99) i179_94 (by decide) c17 ?_
  refine gm_ev.iload_n i179_99 rfl ?_
  refine gm_ev.if_ne_t (tgt := 112) i179_100 (by decide) c18 ?_
  refine gm_ev.iload_n i179_112 rfl ?_
  refine gm_ev.iconst (v := 1) i179_113 (by decide) ?_
  refine gm_ev.icmp_ne_t (tgt := 126) i179_114 (by decide) c19 ?_
  refine gm_ev.aload_n i179_126 rfl ?_
  refine gm_ev.getfield (v := .ref (B + 21)) i179_127 rfl (bM_fld (j := 0) (fs := mF B s14) rfl rfl) ?_
  refine gm_ev.iload_n i179_130 rfl ?_
  refine gm_ev.laload i179_131 (bM_al (j := 21) (n := 201) (fl := s14.2.2 37) rfl ek20 lk20 (by decide)) ?_
  refine gm_ev.iload_n i179_132 rfl ?_
  refine gm_ev.bipush (v := 8) i179_133 (by decide) ?_
  refine gm_ev.icmp_le_t (tgt := 143) i179_135 (by decide) c21 ?_
  refine gm_ev.iload_n i179_143 rfl ?_
  refine gm_ev.callS gm_mono_run (av := [.long (s14.2.2 37 k20), .int p2]) (r := []) i179_144 rfl rfl rfl (Nat.le_of_ble_eq_true rfl) t23 ?_
  refine gm_ev.istore (ls' := [some (.ref B), some (.int p0), some (.int p1), some (.int p2), some (.int (s14.1 38)), some (.int r22)]) i179_147 (Nat.le_of_ble_eq_true rfl) rfl ?_
  refine gm_ev.iload i179_149 rfl ?_
  refine gm_ev.if_ne_t (tgt := 158) i179_151 (by decide) c24 ?_
  refine gm_ev.iload i179_158 rfl ?_
  exact gm_ev.iret i179_160 rfl
theorem r_letter_0_fffffftfttttttf {N0 : Nat} {K : Nat → Nat} {d B : Nat} {s : mS} {G : gm_H} {sz sl : Nat} {p0 : Int32} {p1 : Int32} {p2 : Int32} {r7 : Int32} {s11 : mS} {s14 : mS} {k20 : Nat} {r22 : Int32} (hN : N0 ≤ B) (c1 : ¬ p0 < 0) (c2 : ¬ (3 : Int32) < p0) (c3 : ¬ p1 < 0) (c4 : ¬ p2 < 0) (c5 : ¬ (s.1 5) = 0) (c6 : ¬ p0 ≤ (1 : Int32)) (t8 : gm_to N0 K ra_nm (ra_mt K) d 170 [.ref B, .int (p0 - (2 : Int32))] (bM B (mH B (mI s 0 (0 : Int32))) G) sz (.returned (some (.int r7)), bM B (mH B (mI s 0 (0 : Int32))) G, sz, 0)) (c9 : ¬ r7 = 0) (t10 : gm_to N0 K ra_nm (ra_mt K) d 161 [.ref B] (bM B (mH B (mI s 0 (0 : Int32))) G) sz (.returned none, bM B (mH B s11) G, sz, 0)) (c12 : ¬ p0 ≤ (1 : Int32)) (t13 : gm_to N0 K ra_nm (ra_mt K) d 171 [.ref B, .int (p0 - (2 : Int32))] (bM B (mH B s11) G) sz (.returned none, bM B (mH B s14) G, sz, 0)) (c15 : ¬ p0 = 0) (c16 : ¬ p0 = (1 : Int32)) (c17 : p1 < (s14.1 38)) (c18 : ¬ p0 = 0) (c19 : ¬ p0 = (1 : Int32)) (ek20 : p1 = nI k20) (lk20 : k20 < 201) (c21 : p2 ≤ (8 : Int32)) (t23 : gm_to N0 K ra_nm (ra_mt K) d 147 [.long (s14.2.2 37 k20), .int p2] (bM B (mH B s14) G) sz (.returned (some (.int r22)), bM B (mH B s14) G, sz, 0)) (c24 : r22 = 0) : gm_ev N0 K ra_nm (ra_mt K) d (some .int) (gm_I cX12_letter) (gm_lkf (lkX12 false K)) 0 [some (.ref B), some (.int p0), some (.int p1), some (.int p2), none, none] [] (bM B (mH B s) G) sz sl (.returned (some (.int (-1 : Int32))), (bM B (mH B s14) G), sz, sl) := by
  refine gm_ev.aload_n i179_0 rfl ?_
  refine gm_ev.iconst (v := 0) i179_1 (by decide) ?_
  refine gm_ev.putfield (M' := (bM B (mH B (mI s 0 (0 : Int32))) G)) i179_2 rfl (bM_put (j := 0) (fs := mF B s) rfl (Nat.le_of_ble_eq_true rfl) hN (gm_fit_i _) rfl) ?_
  refine gm_ev.iload_n i179_5 rfl ?_
  refine gm_ev.if_lt_f i179_6 c1 ?_
  refine gm_ev.iload_n i179_9 rfl ?_
  refine gm_ev.iconst (v := 3) i179_10 (by decide) ?_
  refine gm_ev.icmp_gt_f i179_11 c2 ?_
  refine gm_ev.iload_n i179_14 rfl ?_
  refine gm_ev.if_lt_f i179_15 c3 ?_
  refine gm_ev.iload_n i179_18 rfl ?_
  refine gm_ev.if_lt_f i179_19 c4 ?_
  refine gm_ev.aload_n i179_22 rfl ?_
  refine gm_ev.getfield (v := .int (s.1 5)) i179_23 rfl (bM_fld (j := 0) (fs := mF B (mI s 0 (0 : Int32))) rfl rfl) ?_
  refine gm_ev.if_eq_f i179_26 c5 ?_
  refine gm_ev.iload_n i179_29 rfl ?_
  refine gm_ev.iconst (v := 1) i179_30 (by decide) ?_
  refine gm_ev.icmp_le_f i179_31 c6 ?_
  refine gm_ev.aload_n i179_34 rfl ?_
  refine gm_ev.iload_n i179_35 rfl ?_
  refine gm_ev.iconst (v := 2) i179_36 (by decide) ?_
  refine gm_ev.isub i179_37 ?_
  refine gm_ev.callV gm_mono_run (av := [.int (p0 - (2 : Int32))]) (r := []) (ci := 11) (fs := mF B (mI s 0 (0 : Int32))) (bM_get (j := 0) rfl) i179_38 rfl rfl rfl (Nat.le_of_ble_eq_true rfl) t8 ?_
  refine gm_ev.if_ne_t (tgt := 46) i179_41 (by decide) c9 ?_
  refine gm_ev.aload_n i179_46 rfl ?_
  refine gm_ev.callV gm_mono_run (av := []) (r := []) (ci := 11) (fs := mF B (mI s 0 (0 : Int32))) (bM_get (j := 0) rfl) i179_47 rfl rfl rfl (Nat.le_of_ble_eq_true rfl) t10 ?_
  refine gm_ev.iload_n i179_50 rfl ?_
  refine gm_ev.iconst (v := 1) i179_51 (by decide) ?_
  refine gm_ev.icmp_le_f i179_52 c12 ?_
  refine gm_ev.aload_n i179_55 rfl ?_
  refine gm_ev.iload_n i179_56 rfl ?_
  refine gm_ev.iconst (v := 2) i179_57 (by decide) ?_
  refine gm_ev.isub i179_58 ?_
  refine gm_ev.callV gm_mono_run (av := [.int (p0 - (2 : Int32))]) (r := []) (ci := 11) (fs := mF B s11) (bM_get (j := 0) rfl) i179_59 rfl rfl rfl (Nat.le_of_ble_eq_true rfl) t13 ?_
  refine gm_ev.iload_n i179_62 rfl ?_
  refine gm_ev.if_ne_t (tgt := 73) i179_63 (by decide) c15 ?_
  refine gm_ev.iload_n i179_73 rfl ?_
  refine gm_ev.iconst (v := 1) i179_74 (by decide) ?_
  refine gm_ev.icmp_ne_t (tgt := 85) i179_75 (by decide) c16 ?_
  refine gm_ev.aload_n i179_85 rfl ?_
  refine gm_ev.getfield (v := .int (s14.1 38)) i179_86 rfl (bM_fld (j := 0) (fs := mF B s14) rfl rfl) ?_
  refine gm_ev.istore (ls' := [some (.ref B), some (.int p0), some (.int p1), some (.int p2), some (.int (s14.1 38)), none]) i179_89 (Nat.le_of_ble_eq_true rfl) rfl ?_
  refine gm_ev.iload_n i179_91 rfl ?_
  refine gm_ev.iload i179_92 rfl ?_
  refine gm_ev.icmp_lt_t (tgt := 99) i179_94 (by decide) c17 ?_
  refine gm_ev.iload_n i179_99 rfl ?_
  refine gm_ev.if_ne_t (tgt := 112) i179_100 (by decide) c18 ?_
  refine gm_ev.iload_n i179_112 rfl ?_
  refine gm_ev.iconst (v := 1) i179_113 (by decide) ?_
  refine gm_ev.icmp_ne_t (tgt := 126) i179_114 (by decide) c19 ?_
  refine gm_ev.aload_n i179_126 rfl ?_
  refine gm_ev.getfield (v := .ref (B + 21)) i179_127 rfl (bM_fld (j := 0) (fs := mF B s14) rfl rfl) ?_
  refine gm_ev.iload_n i179_130 rfl ?_
  refine gm_ev.laload i179_131 (bM_al (j := 21) (n := 201) (fl := s14.2.2 37) rfl ek20 lk20 (by decide)) ?_
  refine gm_ev.iload_n i179_132 rfl ?_
  refine gm_ev.bipush (v := 8) i179_133 (by decide) ?_
  refine gm_ev.icmp_le_t (tgt := 143) i179_135 (by decide) c21 ?_
  refine gm_ev.iload_n i179_143 rfl ?_
  refine gm_ev.callS gm_mono_run (av := [.long (s14.2.2 37 k20), .int p2]) (r := []) i179_144 rfl rfl rfl (Nat.le_of_ble_eq_true rfl) t23 ?_
  refine gm_ev.istore (ls' := [some (.ref B), some (.int p0), some (.int p1), some (.int p2), some (.int (s14.1 38)), some (.int r22)]) i179_147 (Nat.le_of_ble_eq_true rfl) rfl ?_
  refine gm_ev.iload i179_149 rfl ?_
  refine gm_ev.if_ne_f i179_151 c24 ?_
  refine gm_ev.iconst (v := -1) i179_154 (by decide) ?_
  refine gm_ev.goto (tgt := 160) i179_155 (by decide) ?_
  exact gm_ev.iret i179_160 rfl
theorem r_letter_0_fffffftftttttft {N0 : Nat} {K : Nat → Nat} {d B : Nat} {s : mS} {G : gm_H} {sz sl : Nat} {p0 : Int32} {p1 : Int32} {p2 : Int32} {r7 : Int32} {s11 : mS} {s14 : mS} {k20 : Nat} {r22 : Int32} (hN : N0 ≤ B) (c1 : ¬ p0 < 0) (c2 : ¬ (3 : Int32) < p0) (c3 : ¬ p1 < 0) (c4 : ¬ p2 < 0) (c5 : ¬ (s.1 5) = 0) (c6 : ¬ p0 ≤ (1 : Int32)) (t8 : gm_to N0 K ra_nm (ra_mt K) d 170 [.ref B, .int (p0 - (2 : Int32))] (bM B (mH B (mI s 0 (0 : Int32))) G) sz (.returned (some (.int r7)), bM B (mH B (mI s 0 (0 : Int32))) G, sz, 0)) (c9 : ¬ r7 = 0) (t10 : gm_to N0 K ra_nm (ra_mt K) d 161 [.ref B] (bM B (mH B (mI s 0 (0 : Int32))) G) sz (.returned none, bM B (mH B s11) G, sz, 0)) (c12 : ¬ p0 ≤ (1 : Int32)) (t13 : gm_to N0 K ra_nm (ra_mt K) d 171 [.ref B, .int (p0 - (2 : Int32))] (bM B (mH B s11) G) sz (.returned none, bM B (mH B s14) G, sz, 0)) (c15 : ¬ p0 = 0) (c16 : ¬ p0 = (1 : Int32)) (c17 : p1 < (s14.1 38)) (c18 : ¬ p0 = 0) (c19 : ¬ p0 = (1 : Int32)) (ek20 : p1 = nI k20) (lk20 : k20 < 201) (c21 : ¬ p2 ≤ (8 : Int32)) (t23 : gm_to N0 K ra_nm (ra_mt K) d 147 [.long (s14.2.2 37 k20), .int (8 : Int32)] (bM B (mH B s14) G) sz (.returned (some (.int r22)), bM B (mH B s14) G, sz, 0)) (c24 : ¬ r22 = 0) : gm_ev N0 K ra_nm (ra_mt K) d (some .int) (gm_I cX12_letter) (gm_lkf (lkX12 false K)) 0 [some (.ref B), some (.int p0), some (.int p1), some (.int p2), none, none] [] (bM B (mH B s) G) sz sl (.returned (some (.int r22)), (bM B (mH B s14) G), sz, sl) := by
  refine gm_ev.aload_n i179_0 rfl ?_
  refine gm_ev.iconst (v := 0) i179_1 (by decide) ?_
  refine gm_ev.putfield (M' := (bM B (mH B (mI s 0 (0 : Int32))) G)) i179_2 rfl (bM_put (j := 0) (fs := mF B s) rfl (Nat.le_of_ble_eq_true rfl) hN (gm_fit_i _) rfl) ?_
  refine gm_ev.iload_n i179_5 rfl ?_
  refine gm_ev.if_lt_f i179_6 c1 ?_
  refine gm_ev.iload_n i179_9 rfl ?_
  refine gm_ev.iconst (v := 3) i179_10 (by decide) ?_
  refine gm_ev.icmp_gt_f i179_11 c2 ?_
  refine gm_ev.iload_n i179_14 rfl ?_
  refine gm_ev.if_lt_f i179_15 c3 ?_
  refine gm_ev.iload_n i179_18 rfl ?_
  refine gm_ev.if_lt_f i179_19 c4 ?_
  refine gm_ev.aload_n i179_22 rfl ?_
  refine gm_ev.getfield (v := .int (s.1 5)) i179_23 rfl (bM_fld (j := 0) (fs := mF B (mI s 0 (0 : Int32))) rfl rfl) ?_
  refine gm_ev.if_eq_f i179_26 c5 ?_
  refine gm_ev.iload_n i179_29 rfl ?_
  refine gm_ev.iconst (v := 1) i179_30 (by decide) ?_
  refine gm_ev.icmp_le_f i179_31 c6 ?_
  refine gm_ev.aload_n i179_34 rfl ?_
  refine gm_ev.iload_n i179_35 rfl ?_
  refine gm_ev.iconst (v := 2) i179_36 (by decide) ?_
  refine gm_ev.isub i179_37 ?_
  refine gm_ev.callV gm_mono_run (av := [.int (p0 - (2 : Int32))]) (r := []) (ci := 11) (fs := mF B (mI s 0 (0 : Int32))) (bM_get (j := 0) rfl) i179_38 rfl rfl rfl (Nat.le_of_ble_eq_true rfl) t8 ?_
  refine gm_ev.if_ne_t (tgt := 46) i179_41 (by decide) c9 ?_
  refine gm_ev.aload_n i179_46 rfl ?_
  refine gm_ev.callV gm_mono_run (av := []) (r := []) (ci := 11) (fs := mF B (mI s 0 (0 : Int32))) (bM_get (j := 0) rfl) i179_47 rfl rfl rfl (Nat.le_of_ble_eq_true rfl) t10 ?_
  refine gm_ev.iload_n i179_50 rfl ?_
  refine gm_ev.iconst (v := 1) i179_51 (by decide) ?_
  refine gm_ev.icmp_le_f i179_52 c12 ?_
  refine gm_ev.aload_n i179_55 rfl ?_
  refine gm_ev.iload_n i179_56 rfl ?_
  refine gm_ev.iconst (v := 2) i179_57 (by decide) ?_
  refine gm_ev.isub i179_58 ?_
  refine gm_ev.callV gm_mono_run (av := [.int (p0 - (2 : Int32))]) (r := []) (ci := 11) (fs := mF B s11) (bM_get (j := 0) rfl) i179_59 rfl rfl rfl (Nat.le_of_ble_eq_true rfl) t13 ?_
  refine gm_ev.iload_n i179_62 rfl ?_
  refine gm_ev.if_ne_t (tgt := 73) i179_63 (by decide) c15 ?_
  refine gm_ev.iload_n i179_73 rfl ?_
  refine gm_ev.iconst (v := 1) i179_74 (by decide) ?_
  refine gm_ev.icmp_ne_t (tgt := 85) i179_75 (by decide) c16 ?_
  refine gm_ev.aload_n i179_85 rfl ?_
  refine gm_ev.getfield (v := .int (s14.1 38)) i179_86 rfl (bM_fld (j := 0) (fs := mF B s14) rfl rfl) ?_
  refine gm_ev.istore (ls' := [some (.ref B), some (.int p0), some (.int p1), some (.int p2), some (.int (s14.1 38)), none]) i179_89 (Nat.le_of_ble_eq_true rfl) rfl ?_
  refine gm_ev.iload_n i179_91 rfl ?_
  refine gm_ev.iload i179_92 rfl ?_
  refine gm_ev.icmp_lt_t (tgt := 99) i179_94 (by decide) c17 ?_
  refine gm_ev.iload_n i179_99 rfl ?_
  refine gm_ev.if_ne_t (tgt := 112) i179_100 (by decide) c18 ?_
  refine gm_ev.iload_n i179_112 rfl ?_
  refine gm_ev.iconst (v := 1) i179_113 (by decide) ?_
  refine gm_ev.icmp_ne_t (tgt := 126) i179_114 (by decide) c19 ?_
  refine gm_ev.aload_n i179_126 rfl ?_
  refine gm_ev.getfield (v := .ref (B + 21)) i179_127 rfl (bM_fld (j := 0) (fs := mF B s14) rfl rfl) ?_
  refine gm_ev.iload_n i179_130 rfl ?_
  refine gm_ev.laload i179_131 (bM_al (j := 21) (n := 201) (fl := s14.2.2 37) rfl ek20 lk20 (by decide)) ?_
  refine gm_ev.iload_n i179_132 rfl ?_
  refine gm_ev.bipush (v := 8) i179_133 (by decide) ?_
  refine gm_ev.icmp_le_f i179_135 c21 ?_
  refine gm_ev.bipush (v := 8) i179_138 (by decide) ?_
  refine gm_ev.goto (tgt := 144) i179_140 (by decide) ?_
  refine gm_ev.callS gm_mono_run (av := [.long (s14.2.2 37 k20), .int (8 : Int32)]) (r := []) i179_144 rfl rfl rfl (Nat.le_of_ble_eq_true rfl) t23 ?_
  refine gm_ev.istore (ls' := [some (.ref B), some (.int p0), some (.int p1), some (.int p2), some (.int (s14.1 38)), some (.int r22)]) i179_147 (Nat.le_of_ble_eq_true rfl) rfl ?_
  refine gm_ev.iload i179_149 rfl ?_
  refine gm_ev.if_ne_t (tgt := 158) i179_151 (by decide) c24 ?_
  refine gm_ev.iload i179_158 rfl ?_
  exact gm_ev.iret i179_160 rfl
theorem r_letter_0_fffffftftttttff {N0 : Nat} {K : Nat → Nat} {d B : Nat} {s : mS} {G : gm_H} {sz sl : Nat} {p0 : Int32} {p1 : Int32} {p2 : Int32} {r7 : Int32} {s11 : mS} {s14 : mS} {k20 : Nat} {r22 : Int32} (hN : N0 ≤ B) (c1 : ¬ p0 < 0) (c2 : ¬ (3 : Int32) < p0) (c3 : ¬ p1 < 0) (c4 : ¬ p2 < 0) (c5 : ¬ (s.1 5) = 0) (c6 : ¬ p0 ≤ (1 : Int32)) (t8 : gm_to N0 K ra_nm (ra_mt K) d 170 [.ref B, .int (p0 - (2 : Int32))] (bM B (mH B (mI s 0 (0 : Int32))) G) sz (.returned (some (.int r7)), bM B (mH B (mI s 0 (0 : Int32))) G, sz, 0)) (c9 : ¬ r7 = 0) (t10 : gm_to N0 K ra_nm (ra_mt K) d 161 [.ref B] (bM B (mH B (mI s 0 (0 : Int32))) G) sz (.returned none, bM B (mH B s11) G, sz, 0)) (c12 : ¬ p0 ≤ (1 : Int32)) (t13 : gm_to N0 K ra_nm (ra_mt K) d 171 [.ref B, .int (p0 - (2 : Int32))] (bM B (mH B s11) G) sz (.returned none, bM B (mH B s14) G, sz, 0)) (c15 : ¬ p0 = 0) (c16 : ¬ p0 = (1 : Int32)) (c17 : p1 < (s14.1 38)) (c18 : ¬ p0 = 0) (c19 : ¬ p0 = (1 : Int32)) (ek20 : p1 = nI k20) (lk20 : k20 < 201) (c21 : ¬ p2 ≤ (8 : Int32)) (t23 : gm_to N0 K ra_nm (ra_mt K) d 147 [.long (s14.2.2 37 k20), .int (8 : Int32)] (bM B (mH B s14) G) sz (.returned (some (.int r22)), bM B (mH B s14) G, sz, 0)) (c24 : r22 = 0) : gm_ev N0 K ra_nm (ra_mt K) d (some .int) (gm_I cX12_letter) (gm_lkf (lkX12 false K)) 0 [some (.ref B), some (.int p0), some (.int p1), some (.int p2), none, none] [] (bM B (mH B s) G) sz sl (.returned (some (.int (-1 : Int32))), (bM B (mH B s14) G), sz, sl) := by
  refine gm_ev.aload_n i179_0 rfl ?_
  refine gm_ev.iconst (v := 0) i179_1 (by decide) ?_
  refine gm_ev.putfield (M' := (bM B (mH B (mI s 0 (0 : Int32))) G)) i179_2 rfl (bM_put (j := 0) (fs := mF B s) rfl (Nat.le_of_ble_eq_true rfl) hN (gm_fit_i _) rfl) ?_
  refine gm_ev.iload_n i179_5 rfl ?_
  refine gm_ev.if_lt_f i179_6 c1 ?_
  refine gm_ev.iload_n i179_9 rfl ?_
  refine gm_ev.iconst (v := 3) i179_10 (by decide) ?_
  refine gm_ev.icmp_gt_f i179_11 c2 ?_
  refine gm_ev.iload_n i179_14 rfl ?_
  refine gm_ev.if_lt_f i179_15 c3 ?_
  refine gm_ev.iload_n i179_18 rfl ?_
  refine gm_ev.if_lt_f i179_19 c4 ?_
  refine gm_ev.aload_n i179_22 rfl ?_
  refine gm_ev.getfield (v := .int (s.1 5)) i179_23 rfl (bM_fld (j := 0) (fs := mF B (mI s 0 (0 : Int32))) rfl rfl) ?_
  refine gm_ev.if_eq_f i179_26 c5 ?_
  refine gm_ev.iload_n i179_29 rfl ?_
  refine gm_ev.iconst (v := 1) i179_30 (by decide) ?_
  refine gm_ev.icmp_le_f i179_31 c6 ?_
  refine gm_ev.aload_n i179_34 rfl ?_
  refine gm_ev.iload_n i179_35 rfl ?_
  refine gm_ev.iconst (v := 2) i179_36 (by decide) ?_
  refine gm_ev.isub i179_37 ?_
  refine gm_ev.callV gm_mono_run (av := [.int (p0 - (2 : Int32))]) (r := []) (ci := 11) (fs := mF B (mI s 0 (0 : Int32))) (bM_get (j := 0) rfl) i179_38 rfl rfl rfl (Nat.le_of_ble_eq_true rfl) t8 ?_
  refine gm_ev.if_ne_t (tgt := 46) i179_41 (by decide) c9 ?_
  refine gm_ev.aload_n i179_46 rfl ?_
  refine gm_ev.callV gm_mono_run (av := []) (r := []) (ci := 11) (fs := mF B (mI s 0 (0 : Int32))) (bM_get (j := 0) rfl) i179_47 rfl rfl rfl (Nat.le_of_ble_eq_true rfl) t10 ?_
  refine gm_ev.iload_n i179_50 rfl ?_
  refine gm_ev.iconst (v := 1) i179_51 (by decide) ?_
  refine gm_ev.icmp_le_f i179_52 c12 ?_
  refine gm_ev.aload_n i179_55 rfl ?_
  refine gm_ev.iload_n i179_56 rfl ?_
  refine gm_ev.iconst (v := 2) i179_57 (by decide) ?_
  refine gm_ev.isub i179_58 ?_
  refine gm_ev.callV gm_mono_run (av := [.int (p0 - (2 : Int32))]) (r := []) (ci := 11) (fs := mF B s11) (bM_get (j := 0) rfl) i179_59 rfl rfl rfl (Nat.le_of_ble_eq_true rfl) t13 ?_
  refine gm_ev.iload_n i179_62 rfl ?_
  refine gm_ev.if_ne_t (tgt := 73) i179_63 (by decide) c15 ?_
  refine gm_ev.iload_n i179_73 rfl ?_
  refine gm_ev.iconst (v := 1) i179_74 (by decide) ?_
  refine gm_ev.icmp_ne_t (tgt := 85) i179_75 (by decide) c16 ?_
  refine gm_ev.aload_n i179_85 rfl ?_
  refine gm_ev.getfield (v := .int (s14.1 38)) i179_86 rfl (bM_fld (j := 0) (fs := mF B s14) rfl rfl) ?_
  refine gm_ev.istore (ls' := [some (.ref B), some (.int p0), some (.int p1), some (.int p2), some (.int (s14.1 38)), none]) i179_89 (Nat.le_of_ble_eq_true rfl) rfl ?_
  refine gm_ev.iload_n i179_91 rfl ?_
  refine gm_ev.iload i179_92 rfl ?_
  refine gm_ev.icmp_lt_t (tgt := 99) i179_94 (by decide) c17 ?_
  refine gm_ev.iload_n i179_99 rfl ?_
  refine gm_ev.if_ne_t (tgt := 112) i179_100 (by decide) c18 ?_
  refine gm_ev.iload_n i179_112 rfl ?_
  refine gm_ev.iconst (v := 1) i179_113 (by decide) ?_
  refine gm_ev.icmp_ne_t (tgt := 126) i179_114 (by decide) c19 ?_
  refine gm_ev.aload_n i179_126 rfl ?_
  refine gm_ev.getfield (v := .ref (B + 21)) i179_127 rfl (bM_fld (j := 0) (fs := mF B s14) rfl rfl) ?_
  refine gm_ev.iload_n i179_130 rfl ?_
  refine gm_ev.laload i179_131 (bM_al (j := 21) (n := 201) (fl := s14.2.2 37) rfl ek20 lk20 (by decide)) ?_
  refine gm_ev.iload_n i179_132 rfl ?_
  refine gm_ev.bipush (v := 8) i179_133 (by decide) ?_
  refine gm_ev.icmp_le_f i179_135 c21 ?_
  refine gm_ev.bipush (v := 8) i179_138 (by decide) ?_
  refine gm_ev.goto (tgt := 144) i179_140 (by decide) ?_
  refine gm_ev.callS gm_mono_run (av := [.long (s14.2.2 37 k20), .int (8 : Int32)]) (r := []) i179_144 rfl rfl rfl (Nat.le_of_ble_eq_true rfl) t23 ?_
  refine gm_ev.istore (ls' := [some (.ref B), some (.int p0), some (.int p1), some (.int p2), some (.int (s14.1 38)), some (.int r22)]) i179_147 (Nat.le_of_ble_eq_true rfl) rfl ?_
  refine gm_ev.iload i179_149 rfl ?_
  refine gm_ev.if_ne_f i179_151 c24 ?_
  refine gm_ev.iconst (v := -1) i179_154 (by decide) ?_
  refine gm_ev.goto (tgt := 160) i179_155 (by decide) ?_
  exact gm_ev.iret i179_160 rfl
theorem r_letter_0_fffffftfttttftt {N0 : Nat} {K : Nat → Nat} {d B : Nat} {s : mS} {G : gm_H} {sz sl : Nat} {p0 : Int32} {p1 : Int32} {p2 : Int32} {r7 : Int32} {s11 : mS} {s14 : mS} {k20 : Nat} {r22 : Int32} (hN : N0 ≤ B) (c1 : ¬ p0 < 0) (c2 : ¬ (3 : Int32) < p0) (c3 : ¬ p1 < 0) (c4 : ¬ p2 < 0) (c5 : ¬ (s.1 5) = 0) (c6 : ¬ p0 ≤ (1 : Int32)) (t8 : gm_to N0 K ra_nm (ra_mt K) d 170 [.ref B, .int (p0 - (2 : Int32))] (bM B (mH B (mI s 0 (0 : Int32))) G) sz (.returned (some (.int r7)), bM B (mH B (mI s 0 (0 : Int32))) G, sz, 0)) (c9 : ¬ r7 = 0) (t10 : gm_to N0 K ra_nm (ra_mt K) d 161 [.ref B] (bM B (mH B (mI s 0 (0 : Int32))) G) sz (.returned none, bM B (mH B s11) G, sz, 0)) (c12 : ¬ p0 ≤ (1 : Int32)) (t13 : gm_to N0 K ra_nm (ra_mt K) d 171 [.ref B, .int (p0 - (2 : Int32))] (bM B (mH B s11) G) sz (.returned none, bM B (mH B s14) G, sz, 0)) (c15 : ¬ p0 = 0) (c16 : ¬ p0 = (1 : Int32)) (c17 : p1 < (s14.1 38)) (c18 : ¬ p0 = 0) (c19 : p0 = (1 : Int32)) (ek20 : p1 = nI k20) (lk20 : k20 < 24) (c21 : p2 ≤ (8 : Int32)) (t23 : gm_to N0 K ra_nm (ra_mt K) d 147 [.long (s14.2.2 29 k20), .int p2] (bM B (mH B s14) G) sz (.returned (some (.int r22)), bM B (mH B s14) G, sz, 0)) (c24 : ¬ r22 = 0) : gm_ev N0 K ra_nm (ra_mt K) d (some .int) (gm_I cX12_letter) (gm_lkf (lkX12 false K)) 0 [some (.ref B), some (.int p0), some (.int p1), some (.int p2), none, none] [] (bM B (mH B s) G) sz sl (.returned (some (.int r22)), (bM B (mH B s14) G), sz, sl) := by
  refine gm_ev.aload_n i179_0 rfl ?_
  refine gm_ev.iconst (v := 0) i179_1 (by decide) ?_
  refine gm_ev.putfield (M' := (bM B (mH B (mI s 0 (0 : Int32))) G)) i179_2 rfl (bM_put (j := 0) (fs := mF B s) rfl (Nat.le_of_ble_eq_true rfl) hN (gm_fit_i _) rfl) ?_
  refine gm_ev.iload_n i179_5 rfl ?_
  refine gm_ev.if_lt_f i179_6 c1 ?_
  refine gm_ev.iload_n i179_9 rfl ?_
  refine gm_ev.iconst (v := 3) i179_10 (by decide) ?_
  refine gm_ev.icmp_gt_f i179_11 c2 ?_
  refine gm_ev.iload_n i179_14 rfl ?_
  refine gm_ev.if_lt_f i179_15 c3 ?_
  refine gm_ev.iload_n i179_18 rfl ?_
  refine gm_ev.if_lt_f i179_19 c4 ?_
  refine gm_ev.aload_n i179_22 rfl ?_
  refine gm_ev.getfield (v := .int (s.1 5)) i179_23 rfl (bM_fld (j := 0) (fs := mF B (mI s 0 (0 : Int32))) rfl rfl) ?_
  refine gm_ev.if_eq_f i179_26 c5 ?_
  refine gm_ev.iload_n i179_29 rfl ?_
  refine gm_ev.iconst (v := 1) i179_30 (by decide) ?_
  refine gm_ev.icmp_le_f i179_31 c6 ?_
  refine gm_ev.aload_n i179_34 rfl ?_
  refine gm_ev.iload_n i179_35 rfl ?_
  refine gm_ev.iconst (v := 2) i179_36 (by decide) ?_
  refine gm_ev.isub i179_37 ?_
  refine gm_ev.callV gm_mono_run (av := [.int (p0 - (2 : Int32))]) (r := []) (ci := 11) (fs := mF B (mI s 0 (0 : Int32))) (bM_get (j := 0) rfl) i179_38 rfl rfl rfl (Nat.le_of_ble_eq_true rfl) t8 ?_
  refine gm_ev.if_ne_t (tgt := 46) i179_41 (by decide) c9 ?_
  refine gm_ev.aload_n i179_46 rfl ?_
  refine gm_ev.callV gm_mono_run (av := []) (r := []) (ci := 11) (fs := mF B (mI s 0 (0 : Int32))) (bM_get (j := 0) rfl) i179_47 rfl rfl rfl (Nat.le_of_ble_eq_true rfl) t10 ?_
  refine gm_ev.iload_n i179_50 rfl ?_
  refine gm_ev.iconst (v := 1) i179_51 (by decide) ?_
  refine gm_ev.icmp_le_f i179_52 c12 ?_
  refine gm_ev.aload_n i179_55 rfl ?_
  refine gm_ev.iload_n i179_56 rfl ?_
  refine gm_ev.iconst (v := 2) i179_57 (by decide) ?_
  refine gm_ev.isub i179_58 ?_
  refine gm_ev.callV gm_mono_run (av := [.int (p0 - (2 : Int32))]) (r := []) (ci := 11) (fs := mF B s11) (bM_get (j := 0) rfl) i179_59 rfl rfl rfl (Nat.le_of_ble_eq_true rfl) t13 ?_
  refine gm_ev.iload_n i179_62 rfl ?_
  refine gm_ev.if_ne_t (tgt := 73) i179_63 (by decide) c15 ?_
  refine gm_ev.iload_n i179_73 rfl ?_
  refine gm_ev.iconst (v := 1) i179_74 (by decide) ?_
  refine gm_ev.icmp_ne_t (tgt := 85) i179_75 (by decide) c16 ?_
  refine gm_ev.aload_n i179_85 rfl ?_
  refine gm_ev.getfield (v := .int (s14.1 38)) i179_86 rfl (bM_fld (j := 0) (fs := mF B s14) rfl rfl) ?_
  refine gm_ev.istore (ls' := [some (.ref B), some (.int p0), some (.int p1), some (.int p2), some (.int (s14.1 38)), none]) i179_89 (Nat.le_of_ble_eq_true rfl) rfl ?_
  refine gm_ev.iload_n i179_91 rfl ?_
  refine gm_ev.iload i179_92 rfl ?_
  refine gm_ev.icmp_lt_t (tgt := 99) i179_94 (by decide) c17 ?_
  refine gm_ev.iload_n i179_99 rfl ?_
  refine gm_ev.if_ne_t (tgt := 112) i179_100 (by decide) c18 ?_
  refine gm_ev.iload_n i179_112 rfl ?_
  refine gm_ev.iconst (v := 1) i179_113 (by decide) ?_
  refine gm_ev.icmp_ne_f i179_114 c19 ?_
  refine gm_ev.aload_n i179_117 rfl ?_
  refine gm_ev.getfield (v := .ref (B + 17)) i179_118 rfl (bM_fld (j := 0) (fs := mF B s14) rfl rfl) ?_
  refine gm_ev.iload_n i179_121 rfl ?_
  refine gm_ev.laload i179_122 (bM_al (j := 17) (n := 24) (fl := s14.2.2 29) rfl ek20 lk20 (by decide)) ?_
  refine gm_ev.goto (tgt := 132) i179_123 (by decide) ?_
  refine gm_ev.iload_n i179_132 rfl ?_
  refine gm_ev.bipush (v := 8) i179_133 (by decide) ?_
  refine gm_ev.icmp_le_t (tgt := 143) i179_135 (by decide) c21 ?_
  refine gm_ev.iload_n i179_143 rfl ?_
  refine gm_ev.callS gm_mono_run (av := [.long (s14.2.2 29 k20), .int p2]) (r := []) i179_144 rfl rfl rfl (Nat.le_of_ble_eq_true rfl) t23 ?_
  refine gm_ev.istore (ls' := [some (.ref B), some (.int p0), some (.int p1), some (.int p2), some (.int (s14.1 38)), some (.int r22)]) i179_147 (Nat.le_of_ble_eq_true rfl) rfl ?_
  refine gm_ev.iload i179_149 rfl ?_
  refine gm_ev.if_ne_t (tgt := 158) i179_151 (by decide) c24 ?_
  refine gm_ev.iload i179_158 rfl ?_
  exact gm_ev.iret i179_160 rfl
theorem r_letter_0_fffffftfttttftf {N0 : Nat} {K : Nat → Nat} {d B : Nat} {s : mS} {G : gm_H} {sz sl : Nat} {p0 : Int32} {p1 : Int32} {p2 : Int32} {r7 : Int32} {s11 : mS} {s14 : mS} {k20 : Nat} {r22 : Int32} (hN : N0 ≤ B) (c1 : ¬ p0 < 0) (c2 : ¬ (3 : Int32) < p0) (c3 : ¬ p1 < 0) (c4 : ¬ p2 < 0) (c5 : ¬ (s.1 5) = 0) (c6 : ¬ p0 ≤ (1 : Int32)) (t8 : gm_to N0 K ra_nm (ra_mt K) d 170 [.ref B, .int (p0 - (2 : Int32))] (bM B (mH B (mI s 0 (0 : Int32))) G) sz (.returned (some (.int r7)), bM B (mH B (mI s 0 (0 : Int32))) G, sz, 0)) (c9 : ¬ r7 = 0) (t10 : gm_to N0 K ra_nm (ra_mt K) d 161 [.ref B] (bM B (mH B (mI s 0 (0 : Int32))) G) sz (.returned none, bM B (mH B s11) G, sz, 0)) (c12 : ¬ p0 ≤ (1 : Int32)) (t13 : gm_to N0 K ra_nm (ra_mt K) d 171 [.ref B, .int (p0 - (2 : Int32))] (bM B (mH B s11) G) sz (.returned none, bM B (mH B s14) G, sz, 0)) (c15 : ¬ p0 = 0) (c16 : ¬ p0 = (1 : Int32)) (c17 : p1 < (s14.1 38)) (c18 : ¬ p0 = 0) (c19 : p0 = (1 : Int32)) (ek20 : p1 = nI k20) (lk20 : k20 < 24) (c21 : p2 ≤ (8 : Int32)) (t23 : gm_to N0 K ra_nm (ra_mt K) d 147 [.long (s14.2.2 29 k20), .int p2] (bM B (mH B s14) G) sz (.returned (some (.int r22)), bM B (mH B s14) G, sz, 0)) (c24 : r22 = 0) : gm_ev N0 K ra_nm (ra_mt K) d (some .int) (gm_I cX12_letter) (gm_lkf (lkX12 false K)) 0 [some (.ref B), some (.int p0), some (.int p1), some (.int p2), none, none] [] (bM B (mH B s) G) sz sl (.returned (some (.int (-1 : Int32))), (bM B (mH B s14) G), sz, sl) := by
  refine gm_ev.aload_n i179_0 rfl ?_
  refine gm_ev.iconst (v := 0) i179_1 (by decide) ?_
  refine gm_ev.putfield (M' := (bM B (mH B (mI s 0 (0 : Int32))) G)) i179_2 rfl (bM_put (j := 0) (fs := mF B s) rfl (Nat.le_of_ble_eq_true rfl) hN (gm_fit_i _) rfl) ?_
  refine gm_ev.iload_n i179_5 rfl ?_
  refine gm_ev.if_lt_f i179_6 c1 ?_
  refine gm_ev.iload_n i179_9 rfl ?_
  refine gm_ev.iconst (v := 3) i179_10 (by decide) ?_
  refine gm_ev.icmp_gt_f i179_11 c2 ?_
  refine gm_ev.iload_n i179_14 rfl ?_
  refine gm_ev.if_lt_f i179_15 c3 ?_
  refine gm_ev.iload_n i179_18 rfl ?_
  refine gm_ev.if_lt_f i179_19 c4 ?_
  refine gm_ev.aload_n i179_22 rfl ?_
  refine gm_ev.getfield (v := .int (s.1 5)) i179_23 rfl (bM_fld (j := 0) (fs := mF B (mI s 0 (0 : Int32))) rfl rfl) ?_
  refine gm_ev.if_eq_f i179_26 c5 ?_
  refine gm_ev.iload_n i179_29 rfl ?_
  refine gm_ev.iconst (v := 1) i179_30 (by decide) ?_
  refine gm_ev.icmp_le_f i179_31 c6 ?_
  refine gm_ev.aload_n i179_34 rfl ?_
  refine gm_ev.iload_n i179_35 rfl ?_
  refine gm_ev.iconst (v := 2) i179_36 (by decide) ?_
  refine gm_ev.isub i179_37 ?_
  refine gm_ev.callV gm_mono_run (av := [.int (p0 - (2 : Int32))]) (r := []) (ci := 11) (fs := mF B (mI s 0 (0 : Int32))) (bM_get (j := 0) rfl) i179_38 rfl rfl rfl (Nat.le_of_ble_eq_true rfl) t8 ?_
  refine gm_ev.if_ne_t (tgt := 46) i179_41 (by decide) c9 ?_
  refine gm_ev.aload_n i179_46 rfl ?_
  refine gm_ev.callV gm_mono_run (av := []) (r := []) (ci := 11) (fs := mF B (mI s 0 (0 : Int32))) (bM_get (j := 0) rfl) i179_47 rfl rfl rfl (Nat.le_of_ble_eq_true rfl) t10 ?_
  refine gm_ev.iload_n i179_50 rfl ?_
  refine gm_ev.iconst (v := 1) i179_51 (by decide) ?_
  refine gm_ev.icmp_le_f i179_52 c12 ?_
  refine gm_ev.aload_n i179_55 rfl ?_
  refine gm_ev.iload_n i179_56 rfl ?_
  refine gm_ev.iconst (v := 2) i179_57 (by decide) ?_
  refine gm_ev.isub i179_58 ?_
  refine gm_ev.callV gm_mono_run (av := [.int (p0 - (2 : Int32))]) (r := []) (ci := 11) (fs := mF B s11) (bM_get (j := 0) rfl) i179_59 rfl rfl rfl (Nat.le_of_ble_eq_true rfl) t13 ?_
  refine gm_ev.iload_n i179_62 rfl ?_
  refine gm_ev.if_ne_t (tgt := 73) i179_63 (by decide) c15 ?_
  refine gm_ev.iload_n i179_73 rfl ?_
  refine gm_ev.iconst (v := 1) i179_74 (by decide) ?_
  refine gm_ev.icmp_ne_t (tgt := 85) i179_75 (by decide) c16 ?_
  refine gm_ev.aload_n i179_85 rfl ?_
  refine gm_ev.getfield (v := .int (s14.1 38)) i179_86 rfl (bM_fld (j := 0) (fs := mF B s14) rfl rfl) ?_
  refine gm_ev.istore (ls' := [some (.ref B), some (.int p0), some (.int p1), some (.int p2), some (.int (s14.1 38)), none]) i179_89 (Nat.le_of_ble_eq_true rfl) rfl ?_
  refine gm_ev.iload_n i179_91 rfl ?_
  refine gm_ev.iload i179_92 rfl ?_
  refine gm_ev.icmp_lt_t (tgt := 99) i179_94 (by decide) c17 ?_
  refine gm_ev.iload_n i179_99 rfl ?_
  refine gm_ev.if_ne_t (tgt := 112) i179_100 (by decide) c18 ?_
  refine gm_ev.iload_n i179_112 rfl ?_
  refine gm_ev.iconst (v := 1) i179_113 (by decide) ?_
  refine gm_ev.icmp_ne_f i179_114 c19 ?_
  refine gm_ev.aload_n i179_117 rfl ?_
  refine gm_ev.getfield (v := .ref (B + 17)) i179_118 rfl (bM_fld (j := 0) (fs := mF B s14) rfl rfl) ?_
  refine gm_ev.iload_n i179_121 rfl ?_
  refine gm_ev.laload i179_122 (bM_al (j := 17) (n := 24) (fl := s14.2.2 29) rfl ek20 lk20 (by decide)) ?_
  refine gm_ev.goto (tgt := 132) i179_123 (by decide) ?_
  refine gm_ev.iload_n i179_132 rfl ?_
  refine gm_ev.bipush (v := 8) i179_133 (by decide) ?_
  refine gm_ev.icmp_le_t (tgt := 143) i179_135 (by decide) c21 ?_
  refine gm_ev.iload_n i179_143 rfl ?_
  refine gm_ev.callS gm_mono_run (av := [.long (s14.2.2 29 k20), .int p2]) (r := []) i179_144 rfl rfl rfl (Nat.le_of_ble_eq_true rfl) t23 ?_
  refine gm_ev.istore (ls' := [some (.ref B), some (.int p0), some (.int p1), some (.int p2), some (.int (s14.1 38)), some (.int r22)]) i179_147 (Nat.le_of_ble_eq_true rfl) rfl ?_
  refine gm_ev.iload i179_149 rfl ?_
  refine gm_ev.if_ne_f i179_151 c24 ?_
  refine gm_ev.iconst (v := -1) i179_154 (by decide) ?_
  refine gm_ev.goto (tgt := 160) i179_155 (by decide) ?_
  exact gm_ev.iret i179_160 rfl
theorem r_letter_0_fffffftfttttfft {N0 : Nat} {K : Nat → Nat} {d B : Nat} {s : mS} {G : gm_H} {sz sl : Nat} {p0 : Int32} {p1 : Int32} {p2 : Int32} {r7 : Int32} {s11 : mS} {s14 : mS} {k20 : Nat} {r22 : Int32} (hN : N0 ≤ B) (c1 : ¬ p0 < 0) (c2 : ¬ (3 : Int32) < p0) (c3 : ¬ p1 < 0) (c4 : ¬ p2 < 0) (c5 : ¬ (s.1 5) = 0) (c6 : ¬ p0 ≤ (1 : Int32)) (t8 : gm_to N0 K ra_nm (ra_mt K) d 170 [.ref B, .int (p0 - (2 : Int32))] (bM B (mH B (mI s 0 (0 : Int32))) G) sz (.returned (some (.int r7)), bM B (mH B (mI s 0 (0 : Int32))) G, sz, 0)) (c9 : ¬ r7 = 0) (t10 : gm_to N0 K ra_nm (ra_mt K) d 161 [.ref B] (bM B (mH B (mI s 0 (0 : Int32))) G) sz (.returned none, bM B (mH B s11) G, sz, 0)) (c12 : ¬ p0 ≤ (1 : Int32)) (t13 : gm_to N0 K ra_nm (ra_mt K) d 171 [.ref B, .int (p0 - (2 : Int32))] (bM B (mH B s11) G) sz (.returned none, bM B (mH B s14) G, sz, 0)) (c15 : ¬ p0 = 0) (c16 : ¬ p0 = (1 : Int32)) (c17 : p1 < (s14.1 38)) (c18 : ¬ p0 = 0) (c19 : p0 = (1 : Int32)) (ek20 : p1 = nI k20) (lk20 : k20 < 24) (c21 : ¬ p2 ≤ (8 : Int32)) (t23 : gm_to N0 K ra_nm (ra_mt K) d 147 [.long (s14.2.2 29 k20), .int (8 : Int32)] (bM B (mH B s14) G) sz (.returned (some (.int r22)), bM B (mH B s14) G, sz, 0)) (c24 : ¬ r22 = 0) : gm_ev N0 K ra_nm (ra_mt K) d (some .int) (gm_I cX12_letter) (gm_lkf (lkX12 false K)) 0 [some (.ref B), some (.int p0), some (.int p1), some (.int p2), none, none] [] (bM B (mH B s) G) sz sl (.returned (some (.int r22)), (bM B (mH B s14) G), sz, sl) := by
  refine gm_ev.aload_n i179_0 rfl ?_
  refine gm_ev.iconst (v := 0) i179_1 (by decide) ?_
  refine gm_ev.putfield (M' := (bM B (mH B (mI s 0 (0 : Int32))) G)) i179_2 rfl (bM_put (j := 0) (fs := mF B s) rfl (Nat.le_of_ble_eq_true rfl) hN (gm_fit_i _) rfl) ?_
  refine gm_ev.iload_n i179_5 rfl ?_
  refine gm_ev.if_lt_f i179_6 c1 ?_
  refine gm_ev.iload_n i179_9 rfl ?_
  refine gm_ev.iconst (v := 3) i179_10 (by decide) ?_
  refine gm_ev.icmp_gt_f i179_11 c2 ?_
  refine gm_ev.iload_n i179_14 rfl ?_
  refine gm_ev.if_lt_f i179_15 c3 ?_
  refine gm_ev.iload_n i179_18 rfl ?_
  refine gm_ev.if_lt_f i179_19 c4 ?_
  refine gm_ev.aload_n i179_22 rfl ?_
  refine gm_ev.getfield (v := .int (s.1 5)) i179_23 rfl (bM_fld (j := 0) (fs := mF B (mI s 0 (0 : Int32))) rfl rfl) ?_
  refine gm_ev.if_eq_f i179_26 c5 ?_
  refine gm_ev.iload_n i179_29 rfl ?_
  refine gm_ev.iconst (v := 1) i179_30 (by decide) ?_
  refine gm_ev.icmp_le_f i179_31 c6 ?_
  refine gm_ev.aload_n i179_34 rfl ?_
  refine gm_ev.iload_n i179_35 rfl ?_
  refine gm_ev.iconst (v := 2) i179_36 (by decide) ?_
  refine gm_ev.isub i179_37 ?_
  refine gm_ev.callV gm_mono_run (av := [.int (p0 - (2 : Int32))]) (r := []) (ci := 11) (fs := mF B (mI s 0 (0 : Int32))) (bM_get (j := 0) rfl) i179_38 rfl rfl rfl (Nat.le_of_ble_eq_true rfl) t8 ?_
  refine gm_ev.if_ne_t (tgt := 46) i179_41 (by decide) c9 ?_
  refine gm_ev.aload_n i179_46 rfl ?_
  refine gm_ev.callV gm_mono_run (av := []) (r := []) (ci := 11) (fs := mF B (mI s 0 (0 : Int32))) (bM_get (j := 0) rfl) i179_47 rfl rfl rfl (Nat.le_of_ble_eq_true rfl) t10 ?_
  refine gm_ev.iload_n i179_50 rfl ?_
  refine gm_ev.iconst (v := 1) i179_51 (by decide) ?_
  refine gm_ev.icmp_le_f i179_52 c12 ?_
  refine gm_ev.aload_n i179_55 rfl ?_
  refine gm_ev.iload_n i179_56 rfl ?_
  refine gm_ev.iconst (v := 2) i179_57 (by decide) ?_
  refine gm_ev.isub i179_58 ?_
  refine gm_ev.callV gm_mono_run (av := [.int (p0 - (2 : Int32))]) (r := []) (ci := 11) (fs := mF B s11) (bM_get (j := 0) rfl) i179_59 rfl rfl rfl (Nat.le_of_ble_eq_true rfl) t13 ?_
  refine gm_ev.iload_n i179_62 rfl ?_
  refine gm_ev.if_ne_t (tgt := 73) i179_63 (by decide) c15 ?_
  refine gm_ev.iload_n i179_73 rfl ?_
  refine gm_ev.iconst (v := 1) i179_74 (by decide) ?_
  refine gm_ev.icmp_ne_t (tgt := 85) i179_75 (by decide) c16 ?_
  refine gm_ev.aload_n i179_85 rfl ?_
  refine gm_ev.getfield (v := .int (s14.1 38)) i179_86 rfl (bM_fld (j := 0) (fs := mF B s14) rfl rfl) ?_
  refine gm_ev.istore (ls' := [some (.ref B), some (.int p0), some (.int p1), some (.int p2), some (.int (s14.1 38)), none]) i179_89 (Nat.le_of_ble_eq_true rfl) rfl ?_
  refine gm_ev.iload_n i179_91 rfl ?_
  refine gm_ev.iload i179_92 rfl ?_
  refine gm_ev.icmp_lt_t (tgt := 99) i179_94 (by decide) c17 ?_
  refine gm_ev.iload_n i179_99 rfl ?_
  refine gm_ev.if_ne_t (tgt := 112) i179_100 (by decide) c18 ?_
  refine gm_ev.iload_n i179_112 rfl ?_
  refine gm_ev.iconst (v := 1) i179_113 (by decide) ?_
  refine gm_ev.icmp_ne_f i179_114 c19 ?_
  refine gm_ev.aload_n i179_117 rfl ?_
  refine gm_ev.getfield (v := .ref (B + 17)) i179_118 rfl (bM_fld (j := 0) (fs := mF B s14) rfl rfl) ?_
  refine gm_ev.iload_n i179_121 rfl ?_
  refine gm_ev.laload i179_122 (bM_al (j := 17) (n := 24) (fl := s14.2.2 29) rfl ek20 lk20 (by decide)) ?_
  refine gm_ev.goto (tgt := 132) i179_123 (by decide) ?_
  refine gm_ev.iload_n i179_132 rfl ?_
  refine gm_ev.bipush (v := 8) i179_133 (by decide) ?_
  refine gm_ev.icmp_le_f i179_135 c21 ?_
  refine gm_ev.bipush (v := 8) i179_138 (by decide) ?_
  refine gm_ev.goto (tgt := 144) i179_140 (by decide) ?_
  refine gm_ev.callS gm_mono_run (av := [.long (s14.2.2 29 k20), .int (8 : Int32)]) (r := []) i179_144 rfl rfl rfl (Nat.le_of_ble_eq_true rfl) t23 ?_
  refine gm_ev.istore (ls' := [some (.ref B), some (.int p0), some (.int p1), some (.int p2), some (.int (s14.1 38)), some (.int r22)]) i179_147 (Nat.le_of_ble_eq_true rfl) rfl ?_
  refine gm_ev.iload i179_149 rfl ?_
  refine gm_ev.if_ne_t (tgt := 158) i179_151 (by decide) c24 ?_
  refine gm_ev.iload i179_158 rfl ?_
  exact gm_ev.iret i179_160 rfl
