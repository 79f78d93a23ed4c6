/-! paths through RuleArenaModel, by program -/
theorem r_letter_0_ffffftfttttfft {N0 : Nat} {K : Nat → Nat} {d B : Nat} {s : mS} {G : gm_H} {sz sl : Nat} {p0 : Int32} {p1 : Int32} {p2 : Int32} {s8 : mS} {s11 : mS} {k17 : Nat} {r19 : Int32} (hN : N0 ≤ B) (c1 : ¬ p0 < 0) (c2 : ¬ (3 : Int32) < p0) (c3 : ¬ p1 < 0) (c4 : ¬ p2 < 0) (c5 : ¬ (s.1 5) = 0) (c6 : p0 ≤ (1 : Int32)) (t7 : gm_to N0 K ra_nm (ra_mt K) d 161 [.ref B] (bM B (mH B (mI s 0 (0 : Int32))) G) sz (.returned none, bM B (mH B s8) G, sz, 0)) (c9 : ¬ p0 ≤ (1 : Int32)) (t10 : gm_to N0 K ra_nm (ra_mt K) d 171 [.ref B, .int (p0 - (2 : Int32))] (bM B (mH B s8) G) sz (.returned none, bM B (mH B s11) G, sz, 0)) (c12 : ¬ p0 = 0) (c13 : ¬ p0 = (1 : Int32)) (c14 : p1 < (s11.1 38)) (c15 : ¬ p0 = 0) (c16 : p0 = (1 : Int32)) (ek17 : p1 = nI k17) (lk17 : k17 < 24) (c18 : ¬ p2 ≤ (8 : Int32)) (t20 : gm_to N0 K ra_nm (ra_mt K) d 147 [.long (s11.2.2 29 k17), .int (8 : Int32)] (bM B (mH B s11) G) sz (.returned (some (.int r19)), bM B (mH B s11) G, sz, 0)) (c21 : ¬ r19 = 0) : gm_ev N0 K ra_nm (ra_mt K) d (some .int) (gm_I cX12_letter) (gm_lkf (lkX12 false K)) 0 [some (.ref B), some (.int p0), some (.int p1), some (.int p2), none, none] [] (bM B (mH B s) G) sz sl (.returned (some (.int r19)), (bM B (mH B s11) G), sz, sl) := by
  refine gm_ev.aload_n i179_0 rfl ?_
  refine gm_ev.iconst (v := 0) i179_1 (by decide) ?_
  refine gm_ev.putfield (M' := (bM B (mH B (mI s 0 (0 : Int32))) G)) i179_2 rfl (bM_put (j := 0) (fs := mF B s) rfl (Nat.le_of_ble_eq_true rfl) hN (gm_fit_i _) rfl) ?_
  refine gm_ev.iload_n i179_5 rfl ?_
  refine gm_ev.if_lt_f i179_6 c1 ?_
  refine gm_ev.iload_n i179_9 rfl ?_
  refine gm_ev.iconst (v := 3) i179_10 (by decide) ?_
  refine gm_ev.icmp_gt_f i179_11 c2 ?_
  refine gm_ev.iload_n i179_14 rfl ?_
  refine gm_ev.if_lt_f i179_15 c3 ?_
  refine gm_ev.iload_n i179_18 rfl ?_
  refine gm_ev.if_lt_f i179_19 c4 ?_
  refine gm_ev.aload_n i179_22 rfl ?_
  refine gm_ev.getfield (v := .int (s.1 5)) i179_23 rfl (bM_fld (j := 0) (fs := mF B (mI s 0 (0 : Int32))) rfl rfl) ?_
  refine gm_ev.if_eq_f i179_26 c5 ?_
  refine gm_ev.iload_n i179_29 rfl ?_
  refine gm_ev.iconst (v := 1) i179_30 (by decide) ?_
  refine gm_ev.icmp_le_t (tgt := 46) i179_31 (by decide) c6 ?_
  refine gm_ev.aload_n i179_46 rfl ?_
  refine gm_ev.callV gm_mono_run (av := []) (r := []) (ci := 11) (fs := mF B (mI s 0 (0 : Int32))) (bM_get (j := 0) rfl) i179_47 rfl rfl rfl (Nat.le_of_ble_eq_true rfl) t7 ?_
  refine gm_ev.iload_n i179_50 rfl ?_
  refine gm_ev.iconst (v := 1) i179_51 (by decide) ?_
  refine gm_ev.icmp_le_f i179_52 c9 ?_
  refine gm_ev.aload_n i179_55 rfl ?_
  refine gm_ev.iload_n i179_56 rfl ?_
  refine gm_ev.iconst (v := 2) i179_57 (by decide) ?_
  refine gm_ev.isub i179_58 ?_
  refine gm_ev.callV gm_mono_run (av := [.int (p0 - (2 : Int32))]) (r := []) (ci := 11) (fs := mF B s8) (bM_get (j := 0) rfl) i179_59 rfl rfl rfl (Nat.le_of_ble_eq_true rfl) t10 ?_
  refine gm_ev.iload_n i179_62 rfl ?_
  refine gm_ev.if_ne_t (tgt := 73) i179_63 (by decide) c12 ?_
  refine gm_ev.iload_n i179_73 rfl ?_
  refine gm_ev.iconst (v := 1) i179_74 (by decide) ?_
  refine gm_ev.icmp_ne_t (tgt := 85) i179_75 (by decide) c13 ?_
  refine gm_ev.aload_n i179_85 rfl ?_
  refine gm_ev.getfield (v := .int (s11.1 38)) i179_86 rfl (bM_fld (j := 0) (fs := mF B s11) rfl rfl) ?_
  refine gm_ev.istore (ls' := [some (.ref B), some (.int p0), some (.int p1), some (.int p2), some (.int (s11.1 38)), none]) i179_89 (Nat.le_of_ble_eq_true rfl) rfl ?_
  refine gm_ev.iload_n i179_91 rfl ?_
  refine gm_ev.iload i179_92 rfl ?_
  refine gm_ev.icmp_lt_t (tgt := 99) i179_94 (by decide) c14 ?_
  refine gm_ev.iload_n i179_99 rfl ?_
  refine gm_ev.if_ne_t (tgt := 112) i179_100 (by decide) c15 ?_
  refine gm_ev.iload_n i179_112 rfl ?_
  refine gm_ev.iconst (v := 1) i179_113 (by decide) ?_
  refine gm_ev.icmp_ne_f i179_114 c16 ?_
  refine gm_ev.aload_n i179_117 rfl ?_
  refine gm_ev.getfield (v := .ref (B + 17)) i179_118 rfl (bM_fld (j := 0) (fs := mF B s11) rfl rfl) ?_
  refine gm_ev.iload_n i179_121 rfl ?_
  refine gm_ev.laload i179_122 (bM_al (j := 17) (n := 24) (fl := s11.2.2 29) rfl ek17 lk17 (by decide)) ?_
  refine gm_ev.goto (tgt := 132) i179_123 (by decide) ?_
  refine gm_ev.iload_n i179_132 rfl ?_
  refine gm_ev.bipush (v := 8) i179_133 (by decide) ?_
  refine gm_ev.icmp_le_f i179_135 c18 ?_
  refine gm_ev.bipush (v := 8) i179_138 (by decide) ?_
  refine gm_ev.goto (tgt := 144) i179_140 (by decide) ?_
  refine gm_ev.callS gm_mono_run (av := [.long (s11.2.2 29 k17), .int (8 : Int32)]) (r := []) i179_144 rfl rfl rfl (Nat.le_of_ble_eq_true rfl) t20 ?_
  refine gm_ev.istore (ls' := [some (.ref B), some (.int p0), some (.int p1), some (.int p2), some (.int (s11.1 38)), some (.int r19)]) i179_147 (Nat.le_of_ble_eq_true rfl) rfl ?_
  refine gm_ev.iload i179_149 rfl ?_
  refine gm_ev.if_ne_t (tgt := 158) i179_151 (by decide) c21 ?_
  refine gm_ev.iload i179_158 rfl ?_
  exact gm_ev.iret i179_160 rfl
theorem r_letter_0_ffffftfttttfff {N0 : Nat} {K : Nat → Nat} {d B : Nat} {s : mS} {G : gm_H} {sz sl : Nat} {p0 : Int32} {p1 : Int32} {p2 : Int32} {s8 : mS} {s11 : mS} {k17 : Nat} {r19 : Int32} (hN : N0 ≤ B) (c1 : ¬ p0 < 0) (c2 : ¬ (3 : Int32) < p0) (c3 : ¬ p1 < 0) (c4 : ¬ p2 < 0) (c5 : ¬ (s.1 5) = 0) (c6 : p0 ≤ (1 : Int32)) (t7 : gm_to N0 K ra_nm (ra_mt K) d 161 [.ref B] (bM B (mH B (mI s 0 (0 : Int32))) G) sz (.returned none, bM B (mH B s8) G, sz, 0)) (c9 : ¬ p0 ≤ (1 : Int32)) (t10 : gm_to N0 K ra_nm (ra_mt K) d 171 [.ref B, .int (p0 - (2 : Int32))] (bM B (mH B s8) G) sz (.returned none, bM B (mH B s11) G, sz, 0)) (c12 : ¬ p0 = 0) (c13 : ¬ p0 = (1 : Int32)) (c14 : p1 < (s11.1 38)) (c15 : ¬ p0 = 0) (c16 : p0 = (1 : Int32)) (ek17 : p1 = nI k17) (lk17 : k17 < 24) (c18 : ¬ p2 ≤ (8 : Int32)) (t20 : gm_to N0 K ra_nm (ra_mt K) d 147 [.long (s11.2.2 29 k17), .int (8 : Int32)] (bM B (mH B s11) G) sz (.returned (some (.int r19)), bM B (mH B s11) G, sz, 0)) (c21 : r19 = 0) : gm_ev N0 K ra_nm (ra_mt K) d (some .int) (gm_I cX12_letter) (gm_lkf (lkX12 false K)) 0 [some (.ref B), some (.int p0), some (.int p1), some (.int p2), none, none] [] (bM B (mH B s) G) sz sl (.returned (some (.int (-1 : Int32))), (bM B (mH B s11) G), sz, sl) := by
  refine gm_ev.aload_n i179_0 rfl ?_
  refine gm_ev.iconst (v := 0) i179_1 (by decide) ?_
  refine gm_ev.putfield (M' := (bM B (mH B (mI s 0 (0 : Int32))) G)) i179_2 rfl (bM_put (j := 0) (fs := mF B s) rfl (Nat.le_of_ble_eq_true rfl) hN (gm_fit_i _) rfl) ?_
  refine gm_ev.iload_n i179_5 rfl ?_
  refine gm_ev.if_lt_f i179_6 c1 ?_
  refine gm_ev.iload_n i179_9 rfl ?_
  refine gm_ev.iconst (v := 3) i179_10 (by decide) ?_
  refine gm_ev.icmp_gt_f i179_11 c2 ?_
  refine gm_ev.iload_n i179_14 rfl ?_
  refine gm_ev.if_lt_f i179_15 c3 ?_
  refine gm_ev.iload_n i179_18 rfl ?_
  refine gm_ev.if_lt_f i179_19 c4 ?_
  refine gm_ev.aload_n i179_22 rfl ?_
  refine gm_ev.getfield (v := .int (s.1 5)) i179_23 rfl (bM_fld (j := 0) (fs := mF B (mI s 0 (0 : Int32))) rfl rfl) ?_
  refine gm_ev.if_eq_f i179_26 c5 ?_
  refine gm_ev.iload_n i179_29 rfl ?_
  refine gm_ev.iconst (v := 1) i179_30 (by decide) ?_
  refine gm_ev.icmp_le_t (tgt := 46) i179_31 (by decide) c6 ?_
  refine gm_ev.aload_n i179_46 rfl ?_
  refine gm_ev.callV gm_mono_run (av := []) (r := []) (ci := 11) (fs := mF B (mI s 0 (0 : Int32))) (bM_get (j := 0) rfl) i179_47 rfl rfl rfl (Nat.le_of_ble_eq_true rfl) t7 ?_
  refine gm_ev.iload_n i179_50 rfl ?_
  refine gm_ev.iconst (v := 1) i179_51 (by decide) ?_
  refine gm_ev.icmp_le_f i179_52 c9 ?_
  refine gm_ev.aload_n i179_55 rfl ?_
  refine gm_ev.iload_n i179_56 rfl ?_
  refine gm_ev.iconst (v := 2) i179_57 (by decide) ?_
  refine gm_ev.isub i179_58 ?_
  refine gm_ev.callV gm_mono_run (av := [.int (p0 - (2 : Int32))]) (r := []) (ci := 11) (fs := mF B s8) (bM_get (j := 0) rfl) i179_59 rfl rfl rfl (Nat.le_of_ble_eq_true rfl) t10 ?_
  refine gm_ev.iload_n i179_62 rfl ?_
  refine gm_ev.if_ne_t (tgt := 73) i179_63 (by decide) c12 ?_
  refine gm_ev.iload_n i179_73 rfl ?_
  refine gm_ev.iconst (v := 1) i179_74 (by decide) ?_
  refine gm_ev.icmp_ne_t (tgt := 85) i179_75 (by decide) c13 ?_
  refine gm_ev.aload_n i179_85 rfl ?_
  refine gm_ev.getfield (v := .int (s11.1 38)) i179_86 rfl (bM_fld (j := 0) (fs := mF B s11) rfl rfl) ?_
  refine gm_ev.istore (ls' := [some (.ref B), some (.int p0), some (.int p1), some (.int p2), some (.int (s11.1 38)), none]) i179_89 (Nat.le_of_ble_eq_true rfl) rfl ?_
  refine gm_ev.iload_n i179_91 rfl ?_
  refine gm_ev.iload i179_92 rfl ?_
  refine gm_ev.icmp_lt_t (tgt := 99) i179_94 (by decide) c14 ?_
  refine gm_ev.iload_n i179_99 rfl ?_
  refine gm_ev.if_ne_t (tgt := 112) i179_100 (by decide) c15 ?_
  refine gm_ev.iload_n i179_112 rfl ?_
  refine gm_ev.iconst (v := 1) i179_113 (by decide) ?_
  refine gm_ev.icmp_ne_f i179_114 c16 ?_
  refine gm_ev.aload_n i179_117 rfl ?_
  refine gm_ev.getfield (v := .ref (B + 17)) i179_118 rfl (bM_fld (j := 0) (fs := mF B s11) rfl rfl) ?_
  refine gm_ev.iload_n i179_121 rfl ?_
  refine gm_ev.laload i179_122 (bM_al (j := 17) (n := 24) (fl := s11.2.2 29) rfl ek17 lk17 (by decide)) ?_
  refine gm_ev.goto (tgt := 132) i179_123 (by decide) ?_
  refine gm_ev.iload_n i179_132 rfl ?_
  refine gm_ev.bipush (v := 8) i179_133 (by decide) ?_
  refine gm_ev.icmp_le_f i179_135 c18 ?_
  refine gm_ev.bipush (v := 8) i179_138 (by decide) ?_
  refine gm_ev.goto (tgt := 144) i179_140 (by decide) ?_
  refine gm_ev.callS gm_mono_run (av := [.long (s11.2.2 29 k17), .int (8 : Int32)]) (r := []) i179_144 rfl rfl rfl (Nat.le_of_ble_eq_true rfl) t20 ?_
  refine gm_ev.istore (ls' := [some (.ref B), some (.int p0), some (.int p1), some (.int p2), some (.int (s11.1 38)), some (.int r19)]) i179_147 (Nat.le_of_ble_eq_true rfl) rfl ?_
  refine gm_ev.iload i179_149 rfl ?_
  refine gm_ev.if_ne_f i179_151 c21 ?_
  refine gm_ev.iconst (v := -1) i179_154 (by decide) ?_
  refine gm_ev.goto (tgt := 160) i179_155 (by decide) ?_
  exact gm_ev.iret i179_160 rfl
theorem r_letter_0_ffffftftttftt {N0 : Nat} {K : Nat → Nat} {d B : Nat} {s : mS} {G : gm_H} {sz sl : Nat} {p0 : Int32} {p1 : Int32} {p2 : Int32} {s8 : mS} {s11 : mS} {k16 : Nat} {r18 : Int32} (hN : N0 ≤ B) (c1 : ¬ p0 < 0) (c2 : ¬ (3 : Int32) < p0) (c3 : ¬ p1 < 0) (c4 : ¬ p2 < 0) (c5 : ¬ (s.1 5) = 0) (c6 : p0 ≤ (1 : Int32)) (t7 : gm_to N0 K ra_nm (ra_mt K) d 161 [.ref B] (bM B (mH B (mI s 0 (0 : Int32))) G) sz (.returned none, bM B (mH B s8) G, sz, 0)) (c9 : ¬ p0 ≤ (1 : Int32)) (t10 : gm_to N0 K ra_nm (ra_mt K) d 171 [.ref B, .int (p0 - (2 : Int32))] (bM B (mH B s8) G) sz (.returned none, bM B (mH B s11) G, sz, 0)) (c12 : ¬ p0 = 0) (c13 : ¬ p0 = (1 : Int32)) (c14 : p1 < (s11.1 38)) (c15 : p0 = 0) (ek16 : p1 = nI k16) (lk16 : k16 < 24) (c17 : p2 ≤ (8 : Int32)) (t19 : gm_to N0 K ra_nm (ra_mt K) d 147 [.long (s11.2.2 35 k16), .int p2] (bM B (mH B s11) G) sz (.returned (some (.int r18)), bM B (mH B s11) G, sz, 0)) (c20 : ¬ r18 = 0) : gm_ev N0 K ra_nm (ra_mt K) d (some .int) (gm_I cX12_letter) (gm_lkf (lkX12 false K)) 0 [some (.ref B), some (.int p0), some (.int p1), some (.int p2), none, none] [] (bM B (mH B s) G) sz sl (.returned (some (.int r18)), (bM B (mH B s11) G), sz, sl) := by
  refine gm_ev.aload_n i179_0 rfl ?_
  refine gm_ev.iconst (v := 0) i179_1 (by decide) ?_
  refine gm_ev.putfield (M' := (bM B (mH B (mI s 0 (0 : Int32))) G)) i179_2 rfl (bM_put (j := 0) (fs := mF B s) rfl (Nat.le_of_ble_eq_true rfl) hN (gm_fit_i _) rfl) ?_
  refine gm_ev.iload_n i179_5 rfl ?_
  refine gm_ev.if_lt_f i179_6 c1 ?_
  refine gm_ev.iload_n i179_9 rfl ?_
  refine gm_ev.iconst (v := 3) i179_10 (by decide) ?_
  refine gm_ev.icmp_gt_f i179_11 c2 ?_
  refine gm_ev.iload_n i179_14 rfl ?_
  refine gm_ev.if_lt_f i179_15 c3 ?_
  refine gm_ev.iload_n i179_18 rfl ?_
  refine gm_ev.if_lt_f i179_19 c4 ?_
  refine gm_ev.aload_n i179_22 rfl ?_
  refine gm_ev.getfield (v := .int (s.1 5)) i179_23 rfl (bM_fld (j := 0) (fs := mF B (mI s 0 (0 : Int32))) rfl rfl) ?_
  refine gm_ev.if_eq_f i179_26 c5 ?_
  refine gm_ev.iload_n i179_29 rfl ?_
  refine gm_ev.iconst (v := 1) i179_30 (by decide) ?_
  refine gm_ev.icmp_le_t (tgt := 46) i179_31 (by decide) c6 ?_
  refine gm_ev.aload_n i179_46 rfl ?_
  refine gm_ev.callV gm_mono_run (av := []) (r := []) (ci := 11) (fs := mF B (mI s 0 (0 : Int32))) (bM_get (j := 0) rfl) i179_47 rfl rfl rfl (Nat.le_of_ble_eq_true rfl) t7 ?_
  refine gm_ev.iload_n i179_50 rfl ?_
  refine gm_ev.iconst (v := 1) i179_51 (by decide) ?_
  refine gm_ev.icmp_le_f i179_52 c9 ?_
  refine gm_ev.aload_n i179_55 rfl ?_
  refine gm_ev.iload_n i179_56 rfl ?_
  refine gm_ev.iconst (v := 2) i179_57 (by decide) ?_
  refine gm_ev.isub i179_58 ?_
  refine gm_ev.callV gm_mono_run (av := [.int (p0 - (2 : Int32))]) (r := []) (ci := 11) (fs := mF B s8) (bM_get (j := 0) rfl) i179_59 rfl rfl rfl (Nat.le_of_ble_eq_true rfl) t10 ?_
  refine gm_ev.iload_n i179_62 rfl ?_
  refine gm_ev.if_ne_t (tgt := 73) i179_63 (by decide) c12 ?_
  refine gm_ev.iload_n i179_73 rfl ?_
  refine gm_ev.iconst (v := 1) i179_74 (by decide) ?_
  refine gm_ev.icmp_ne_t (tgt := 85) i179_75 (by decide) c13 ?_
  refine gm_ev.aload_n i179_85 rfl ?_
  refine gm_ev.getfield (v := .int (s11.1 38)) i179_86 rfl (bM_fld (j := 0) (fs := mF B s11) rfl rfl) ?_
  refine gm_ev.istore (ls' := [some (.ref B), some (.int p0), some (.int p1), some (.int p2), some (.int (s11.1 38)), none]) i179_89 (Nat.le_of_ble_eq_true rfl) rfl ?_
  refine gm_ev.iload_n i179_91 rfl ?_
  refine gm_ev.iload i179_92 rfl ?_
  refine gm_ev.icmp_lt_t (tgt := 99) i179_94 (by decide) c14 ?_
  refine gm_ev.iload_n i179_99 rfl ?_
  refine gm_ev.if_ne_f i179_100 c15 ?_
  refine gm_ev.aload_n i179_103 rfl ?_
  refine gm_ev.getfield (v := .ref (B + 20)) i179_104 rfl (bM_fld (j := 0) (fs := mF B s11) rfl rfl) ?_
  refine gm_ev.iload_n i179_107 rfl ?_
  refine gm_ev.laload i179_108 (bM_al (j := 20) (n := 24) (fl := s11.2.2 35) rfl ek16 lk16 (by decide)) ?_
  refine gm_ev.goto (tgt := 132) i179_109 (by decide) ?_
  refine gm_ev.iload_n i179_132 rfl ?_
  refine gm_ev.bipush (v := 8) i179_133 (by decide) ?_
  refine gm_ev.icmp_le_t (tgt := 143) i179_135 (by decide) c17 ?_
  refine gm_ev.iload_n i179_143 rfl ?_
  refine gm_ev.callS gm_mono_run (av := [.long (s11.2.2 35 k16), .int p2]) (r := []) i179_144 rfl rfl rfl (Nat.le_of_ble_eq_true rfl) t19 ?_
  refine gm_ev.istore (ls' := [some (.ref B), some (.int p0), some (.int p1), some (.int p2), some (.int (s11.1 38)), some (.int r18)]) i179_147 (Nat.le_of_ble_eq_true rfl) rfl ?_
  refine gm_ev.iload i179_149 rfl ?_
  refine gm_ev.if_ne_t (tgt := 158) i179_151 (by decide) c20 ?_
  refine gm_ev.iload i179_158 rfl ?_
  exact gm_ev.iret i179_160 rfl
theorem r_letter_0_ffffftftttftf {N0 : Nat} {K : Nat → Nat} {d B : Nat} {s : mS} {G : gm_H} {sz sl : Nat} {p0 : Int32} {p1 : Int32} {p2 : Int32} {s8 : mS} {s11 : mS} {k16 : Nat} {r18 : Int32} (hN : N0 ≤ B) (c1 : ¬ p0 < 0) (c2 : ¬ (3 : Int32) < p0) (c3 : ¬ p1 < 0) (c4 : ¬ p2 < 0) (c5 : ¬ (s.1 5) = 0) (c6 : p0 ≤ (1 : Int32)) (t7 : gm_to N0 K ra_nm (ra_mt K) d 161 [.ref B] (bM B (mH B (mI s 0 (0 : Int32))) G) sz (.returned none, bM B (mH B s8) G, sz, 0)) (c9 : ¬ p0 ≤ (1 : Int32)) (t10 : gm_to N0 K ra_nm (ra_mt K) d 171 [.ref B, .int (p0 - (2 : Int32))] (bM B (mH B s8) G) sz (.returned none, bM B (mH B s11) G, sz, 0)) (c12 : ¬ p0 = 0) (c13 : ¬ p0 = (1 : Int32)) (c14 : p1 < (s11.1 38)) (c15 : p0 = 0) (ek16 : p1 = nI k16) (lk16 : k16 < 24) (c17 : p2 ≤ (8 : Int32)) (t19 : gm_to N0 K ra_nm (ra_mt K) d 147 [.long (s11.2.2 35 k16), .int p2] (bM B (mH B s11) G) sz (.returned (some (.int r18)), bM B (mH B s11) G, sz, 0)) (c20 : r18 = 0) : gm_ev N0 K ra_nm (ra_mt K) d (some .int) (gm_I cX12_letter) (gm_lkf (lkX12 false K)) 0 [some (.ref B), some (.int p0), some (.int p1), some (.int p2), none, none] [] (bM B (mH B s) G) sz sl (.returned (some (.int (-1 : Int32))), (bM B (mH B s11) G), sz, sl) := by
  refine gm_ev.aload_n i179_0 rfl ?_
  refine gm_ev.iconst (v := 0) i179_1 (by decide) ?_
  refine gm_ev.putfield (M' := (bM B (mH B (mI s 0 (0 : Int32))) G)) i179_2 rfl (bM_put (j := 0) (fs := mF B s) rfl (Nat.le_of_ble_eq_true rfl) hN (gm_fit_i _) rfl) ?_
  refine gm_ev.iload_n i179_5 rfl ?_
  refine gm_ev.if_lt_f i179_6 c1 ?_
  refine gm_ev.iload_n i179_9 rfl ?_
  refine gm_ev.iconst (v := 3) i179_10 (by decide) ?_
  refine gm_ev.icmp_gt_f i179_11 c2 ?_
  refine gm_ev.iload_n i179_14 rfl ?_
  refine gm_ev.if_lt_f i179_15 c3 ?_
  refine gm_ev.iload_n i179_18 rfl ?_
  refine gm_ev.if_lt_f i179_19 c4 ?_
  refine gm_ev.aload_n i179_22 rfl ?_
  refine gm_ev.getfield (v := .int (s.1 5)) i179_23 rfl (bM_fld (j := 0) (fs := mF B (mI s 0 (0 : Int32))) rfl rfl) ?_
  refine gm_ev.if_eq_f i179_26 c5 ?_
  refine gm_ev.iload_n i179_29 rfl ?_
  refine gm_ev.iconst (v := 1) i179_30 (by decide) ?_
  refine gm_ev.icmp_le_t (tgt := 46) i179_31 (by decide) c6 ?_
  refine gm_ev.aload_n i179_46 rfl ?_
  refine gm_ev.callV gm_mono_run (av := []) (r := []) (ci := 11) (fs := mF B (mI s 0 (0 : Int32))) (bM_get (j := 0) rfl) i179_47 rfl rfl rfl (Nat.le_of_ble_eq_true rfl) t7 ?_
  refine gm_ev.iload_n i179_50 rfl ?_
  refine gm_ev.iconst (v := 1) i179_51 (by decide) ?_
  refine gm_ev.icmp_le_f i179_52 c9 ?_
  refine gm_ev.aload_n i179_55 rfl ?_
  refine gm_ev.iload_n i179_56 rfl ?_
  refine gm_ev.iconst (v := 2) i179_57 (by decide) ?_
  refine gm_ev.isub i179_58 ?_
  refine gm_ev.callV gm_mono_run (av := [.int (p0 - (2 : Int32))]) (r := []) (ci := 11) (fs := mF B s8) (bM_get (j := 0) rfl) i179_59 rfl rfl rfl (Nat.le_of_ble_eq_true rfl) t10 ?_
  refine gm_ev.iload_n i179_62 rfl ?_
  refine gm_ev.if_ne_t (tgt := 73) i179_63 (by decide) c12 ?_
  refine gm_ev.iload_n i179_73 rfl ?_
  refine gm_ev.iconst (v := 1) i179_74 (by decide) ?_
  refine gm_ev.icmp_ne_t (tgt := 85) i179_75 (by decide) c13 ?_
  refine gm_ev.aload_n i179_85 rfl ?_
  refine gm_ev.getfield (v := .int (s11.1 38)) i179_86 rfl (bM_fld (j := 0) (fs := mF B s11) rfl rfl) ?_
  refine gm_ev.istore (ls' := [some (.ref B), some (.int p0), some (.int p1), some (.int p2), some (.int (s11.1 38)), none]) i179_89 (Nat.le_of_ble_eq_true rfl) rfl ?_
  refine gm_ev.iload_n i179_91 rfl ?_
  refine gm_ev.iload i179_92 rfl ?_
  refine gm_ev.icmp_lt_t (tgt := 99) i179_94 (by decide) c14 ?_
  refine gm_ev.iload_n i179_99 rfl ?_
  refine gm_ev.if_ne_f i179_100 c15 ?_
  refine gm_ev.aload_n i179_103 rfl ?_
  refine gm_ev.getfield (v := .ref (B + 20)) i179_104 rfl (bM_fld (j := 0) (fs := mF B s11) rfl rfl) ?_
  refine gm_ev.iload_n i179_107 rfl ?_
  refine gm_ev.laload i179_108 (bM_al (j := 20) (n := 24) (fl := s11.2.2 35) rfl ek16 lk16 (by decide)) ?_
  refine gm_ev.goto (tgt := 132) i179_109 (by decide) ?_
  refine gm_ev.iload_n i179_132 rfl ?_
  refine gm_ev.bipush (v := 8) i179_133 (by decide) ?_
  refine gm_ev.icmp_le_t (tgt := 143) i179_135 (by decide) c17 ?_
  refine gm_ev.iload_n i179_143 rfl ?_
  refine gm_ev.callS gm_mono_run (av := [.long (s11.2.2 35 k16), .int p2]) (r := []) i179_144 rfl rfl rfl (Nat.le_of_ble_eq_true rfl) t19 ?_
  refine gm_ev.istore (ls' := [some (.ref B), some (.int p0), some (.int p1), some (.int p2), some (.int (s11.1 38)), some (.int r18)]) i179_147 (Nat.le_of_ble_eq_true rfl) rfl ?_
  refine gm_ev.iload i179_149 rfl ?_
  refine gm_ev.if_ne_f i179_151 c20 ?_
  refine gm_ev.iconst (v := -1) i179_154 (by decide) ?_
  refine gm_ev.goto (tgt := 160) i179_155 (by decide) ?_
  exact gm_ev.iret i179_160 rfl
theorem r_letter_0_ffffftftttfft {N0 : Nat} {K : Nat → Nat} {d B : Nat} {s : mS} {G : gm_H} {sz sl : Nat} {p0 : Int32} {p1 : Int32} {p2 : Int32} {s8 : mS} {s11 : mS} {k16 : Nat} {r18 : Int32} (hN : N0 ≤ B) (c1 : ¬ p0 < 0) (c2 : ¬ (3 : Int32) < p0) (c3 : ¬ p1 < 0) (c4 : ¬ p2 < 0) (c5 : ¬ (s.1 5) = 0) (c6 : p0 ≤ (1 : Int32)) (t7 : gm_to N0 K ra_nm (ra_mt K) d 161 [.ref B] (bM B (mH B (mI s 0 (0 : Int32))) G) sz (.returned none, bM B (mH B s8) G, sz, 0)) (c9 : ¬ p0 ≤ (1 : Int32)) (t10 : gm_to N0 K ra_nm (ra_mt K) d 171 [.ref B, .int (p0 - (2 : Int32))] (bM B (mH B s8) G) sz (.returned none, bM B (mH B s11) G, sz, 0)) (c12 : ¬ p0 = 0) (c13 : ¬ p0 = (1 : Int32)) (c14 : p1 < (s11.1 38)) (c15 : p0 = 0) (ek16 : p1 = nI k16) (lk16 : k16 < 24) (c17 : ¬ p2 ≤ (8 : Int32)) (t19 : gm_to N0 K ra_nm (ra_mt K) d 147 [.long (s11.2.2 35 k16), .int (8 : Int32)] (bM B (mH B s11) G) sz (.returned (some (.int r18)), bM B (mH B s11) G, sz, 0)) (c20 : ¬ r18 = 0) : gm_ev N0 K ra_nm (ra_mt K) d (some .int) (gm_I cX12_letter) (gm_lkf (lkX12 false K)) 0 [some (.ref B), some (.int p0), some (.int p1), some (.int p2), none, none] [] (bM B (mH B s) G) sz sl (.returned (some (.int r18)), (bM B (mH B s11) G), sz, sl) := by
  refine gm_ev.aload_n i179_0 rfl ?_
  refine gm_ev.iconst (v := 0) i179_1 (by decide) ?_
  refine gm_ev.putfield (M' := (bM B (mH B (mI s 0 (0 : Int32))) G)) i179_2 rfl (bM_put (j := 0) (fs := mF B s) rfl (Nat.le_of_ble_eq_true rfl) hN (gm_fit_i _) rfl) ?_
  refine gm_ev.iload_n i179_5 rfl ?_
  refine gm_ev.if_lt_f i179_6 c1 ?_
  refine gm_ev.iload_n i179_9 rfl ?_
  refine gm_ev.iconst (v := 3) i179_10 (by decide) ?_
  refine gm_ev.icmp_gt_f i179_11 c2 ?_
  refine gm_ev.iload_n i179_14 rfl ?_
  refine gm_ev.if_lt_f i179_15 c3 ?_
  refine gm_ev.iload_n i179_18 rfl ?_
  refine gm_ev.if_lt_f i179_19 c4 ?_
  refine gm_ev.aload_n i179_22 rfl ?_
  refine gm_ev.getfield (v := .int (s.1 5)) i179_23 rfl (bM_fld (j := 0) (fs := mF B (mI s 0 (0 : Int32))) rfl rfl) ?_
  refine gm_ev.if_eq_f i179_26 c5 ?_
  refine gm_ev.iload_n i179_29 rfl ?_
  refine gm_ev.iconst (v := 1) i179_30 (by decide) ?_
  refine gm_ev.icmp_le_t (tgt := 46) i179_31 (by decide) c6 ?_
  refine gm_ev.aload_n i179_46 rfl ?_
  refine gm_ev.callV gm_mono_run (av := []) (r := []) (ci := 11) (fs := mF B (mI s 0 (0 : Int32))) (bM_get (j := 0) rfl) i179_47 rfl rfl rfl (Nat.le_of_ble_eq_true rfl) t7 ?_
  refine gm_ev.iload_n i179_50 rfl ?_
  refine gm_ev.iconst (v := 1) i179_51 (by decide) ?_
  refine gm_ev.icmp_le_f i179_52 c9 ?_
  refine gm_ev.aload_n i179_55 rfl ?_
  refine gm_ev.iload_n i179_56 rfl ?_
  refine gm_ev.iconst (v := 2) i179_57 (by decide) ?_
  refine gm_ev.isub i179_58 ?_
  refine gm_ev.callV gm_mono_run (av := [.int (p0 - (2 : Int32))]) (r := []) (ci := 11) (fs := mF B s8) (bM_get (j := 0) rfl) i179_59 rfl rfl rfl (Nat.le_of_ble_eq_true rfl) t10 ?_
  refine gm_ev.iload_n i179_62 rfl ?_
  refine gm_ev.if_ne_t (tgt := 73) i179_63 (by decide) c12 ?_
  refine gm_ev.iload_n i179_73 rfl ?_
  refine gm_ev.iconst (v := 1) i179_74 (by decide) ?_
  refine gm_ev.icmp_ne_t (tgt := 85) i179_75 (by decide) c13 ?_
  refine gm_ev.aload_n i179_85 rfl ?_
  refine gm_ev.getfield (v := .int (s11.1 38)) i179_86 rfl (bM_fld (j := 0) (fs := mF B s11) rfl rfl) ?_
  refine gm_ev.istore (ls' := [some (.ref B), some (.int p0), some (.int p1), some (.int p2), some (.int (s11.1 38)), none]) i179_89 (Nat.le_of_ble_eq_true rfl) rfl ?_
  refine gm_ev.iload_n i179_91 rfl ?_
  refine gm_ev.iload i179_92 rfl ?_
  refine gm_ev.icmp_lt_t (tgt := 99) i179_94 (by decide) c14 ?_
  refine gm_ev.iload_n i179_99 rfl ?_
  refine gm_ev.if_ne_f i179_100 c15 ?_
  refine gm_ev.aload_n i179_103 rfl ?_
  refine gm_ev.getfield (v := .ref (B + 20)) i179_104 rfl (bM_fld (j := 0) (fs := mF B s11) rfl rfl) ?_
  refine gm_ev.iload_n i179_107 rfl ?_
  refine gm_ev.laload i179_108 (bM_al (j := 20) (n := 24) (fl := s11.2.2 35) rfl ek16 lk16 (by decide)) ?_
  refine gm_ev.goto (tgt := 132) i179_109 (by decide) ?_
  refine gm_ev.iload_n i179_132 rfl ?_
  refine gm_ev.bipush (v := 8) i179_133 (by decide) ?_
  refine gm_ev.icmp_le_f i179_135 c17 ?_
  refine gm_ev.bipush (v := 8) i179_138 (by decide) ?_
  refine gm_ev.goto (tgt := 144) i179_140 (by decide) ?_
  refine gm_ev.callS gm_mono_run (av := [.long (s11.2.2 35 k16), .int (8 : Int32)]) (r := []) i179_144 rfl rfl rfl (Nat.le_of_ble_eq_true rfl) t19 ?_
  refine gm_ev.istore (ls' := [some (.ref B), some (.int p0), some (.int p1), some (.int p2), some (.int (s11.1 38)), some (.int r18)]) i179_147 (Nat.le_of_ble_eq_true rfl) rfl ?_
  refine gm_ev.iload i179_149 rfl ?_
  refine gm_ev.if_ne_t (tgt := 158) i179_151 (by decide) c20 ?_
  refine gm_ev.iload i179_158 rfl ?_
  exact gm_ev.iret i179_160 rfl
theorem r_letter_0_ffffftftttfff {N0 : Nat} {K : Nat → Nat} {d B : Nat} {s : mS} {G : gm_H} {sz sl : Nat} {p0 : Int32} {p1 : Int32} {p2 : Int32} {s8 : mS} {s11 : mS} {k16 : Nat} {r18 : Int32} (hN : N0 ≤ B) (c1 : ¬ p0 < 0) (c2 : ¬ (3 : Int32) < p0) (c3 : ¬ p1 < 0) (c4 : ¬ p2 < 0) (c5 : ¬ (s.1 5) = 0) (c6 : p0 ≤ (1 : Int32)) (t7 : gm_to N0 K ra_nm (ra_mt K) d 161 [.ref B] (bM B (mH B (mI s 0 (0 : Int32))) G) sz (.returned none, bM B (mH B s8) G, sz, 0)) (c9 : ¬ p0 ≤ (1 : Int32)) (t10 : gm_to N0 K ra_nm (ra_mt K) d 171 [.ref B, .int (p0 - (2 : Int32))] (bM B (mH B s8) G) sz (.returned none, bM B (mH B s11) G, sz, 0)) (c12 : ¬ p0 = 0) (c13 : ¬ p0 = (1 : Int32)) (c14 : p1 < (s11.1 38)) (c15 : p0 = 0) (ek16 : p1 = nI k16) (lk16 : k16 < 24) (c17 : ¬ p2 ≤ (8 : Int32)) (t19 : gm_to N0 K ra_nm (ra_mt K) d 147 [.long (s11.2.2 35 k16), .int (8 : Int32)] (bM B (mH B s11) G) sz (.returned (some (.int r18)), bM B (mH B s11) G, sz, 0)) (c20 : r18 = 0) : gm_ev N0 K ra_nm (ra_mt K) d (some .int) (gm_I cX12_letter) (gm_lkf (lkX12 false K)) 0 [some (.ref B), some (.int p0), some (.int p1), some (.int p2), none, none] [] (bM B (mH B s) G) sz sl (.returned (some (.int (-1 : Int32))), (bM B (mH B s11) G), sz, sl) := by
  refine gm_ev.aload_n i179_0 rfl ?_
  refine gm_ev.iconst (v := 0) i179_1 (by decide) ?_
  refine gm_ev.putfield (M' := (bM B (mH B (mI s 0 (0 : Int32))) G)) i179_2 rfl (bM_put (j := 0) (fs := mF B s) rfl (Nat.le_of_ble_eq_true rfl) hN (gm_fit_i _) rfl) ?_
  refine gm_ev.iload_n i179_5 rfl ?_
  refine gm_ev.if_lt_f i179_6 c1 ?_
  refine gm_ev.iload_n i179_9 rfl ?_
  refine gm_ev.iconst (v := 3) i179_10 (by decide) ?_
  refine gm_ev.icmp_gt_f i179_11 c2 ?_
  refine gm_ev.iload_n i179_14 rfl ?_
  refine gm_ev.if_lt_f i179_15 c3 ?_
  refine gm_ev.iload_n i179_18 rfl ?_
  refine gm_ev.if_lt_f i179_19 c4 ?_
  refine gm_ev.aload_n i179_22 rfl ?_
  refine gm_ev.getfield (v := .int (s.1 5)) i179_23 rfl (bM_fld (j := 0) (fs := mF B (mI s 0 (0 : Int32))) rfl rfl) ?_
  refine gm_ev.if_eq_f i179_26 c5 ?_
  refine gm_ev.iload_n i179_29 rfl ?_
  refine gm_ev.iconst (v := 1) i179_30 (by decide) ?_
  refine gm_ev.icmp_le_t (tgt := 46) i179_31 (by decide) c6 ?_
  refine gm_ev.aload_n i179_46 rfl ?_
  refine gm_ev.callV gm_mono_run (av := []) (r := []) (ci := 11) (fs := mF B (mI s 0 (0 : Int32))) (bM_get (j := 0) rfl) i179_47 rfl rfl rfl (Nat.le_of_ble_eq_true rfl) t7 ?_
  refine gm_ev.iload_n i179_50 rfl ?_
  refine gm_ev.iconst (v := 1) i179_51 (by decide) ?_
  refine gm_ev.icmp_le_f i179_52 c9 ?_
  refine gm_ev.aload_n i179_55 rfl ?_
  refine gm_ev.iload_n i179_56 rfl ?_
  refine gm_ev.iconst (v := 2) i179_57 (by decide) ?_
  refine gm_ev.isub i179_58 ?_
  refine gm_ev.callV gm_mono_run (av := [.int (p0 - (2 : Int32))]) (r := []) (ci := 11) (fs := mF B s8) (bM_get (j := 0) rfl) i179_59 rfl rfl rfl (Nat.le_of_ble_eq_true rfl) t10 ?_
  refine gm_ev.iload_n i179_62 rfl ?_
  refine gm_ev.if_ne_t (tgt := 73) i179_63 (by decide) c12 ?_
  refine gm_ev.iload_n i179_73 rfl ?_
  refine gm_ev.iconst (v := 1) i179_74 (by decide) ?_
  refine gm_ev.icmp_ne_t (tgt := 85) i179_75 (by decide) c13 ?_
  refine gm_ev.aload_n i179_85 rfl ?_
  refine gm_ev.getfield (v := .int (s11.1 38)) i179_86 rfl (bM_fld (j := 0) (fs := mF B s11) rfl rfl) ?_
  refine gm_ev.istore (ls' := [some (.ref B), some (.int p0), some (.int p1), some (.int p2), some (.int (s11.1 38)), none]) i179_89 (Nat.le_of_ble_eq_true rfl) rfl ?_
  refine gm_ev.iload_n i179_91 rfl ?_
  refine gm_ev.iload i179_92 rfl ?_
  refine gm_ev.icmp_lt_t (tgt := 99) i179_94 (by decide) c14 ?_
  refine gm_ev.iload_n i179_99 rfl ?_
  refine gm_ev.if_ne_f i179_100 c15 ?_
  refine gm_ev.aload_n i179_103 rfl ?_
  refine gm_ev.getfield (v := .ref (B + 20)) i179_104 rfl (bM_fld (j := 0) (fs := mF B s11) rfl rfl) ?_
  refine gm_ev.iload_n i179_107 rfl ?_
  refine gm_ev.laload i179_108 (bM_al (j := 20) (n := 24) (fl := s11.2.2 35) rfl ek16 lk16 (by decide)) ?_
  refine gm_ev.goto (tgt := 132) i179_109 (by decide) ?_
  refine gm_ev.iload_n i179_132 rfl ?_
  refine gm_ev.bipush (v := 8) i179_133 (by decide) ?_
  refine gm_ev.icmp_le_f i179_135 c17 ?_
  refine gm_ev.bipush (v := 8) i179_138 (by decide) ?_
  refine gm_ev.goto (tgt := 144) i179_140 (by decide) ?_
  refine gm_ev.callS gm_mono_run (av := [.long (s11.2.2 35 k16), .int (8 : Int32)]) (r := []) i179_144 rfl rfl rfl (Nat.le_of_ble_eq_true rfl) t19 ?_
  refine gm_ev.istore (ls' := [some (.ref B), some (.int p0), some (.int p1), some (.int p2), some (.int (s11.1 38)), some (.int r18)]) i179_147 (Nat.le_of_ble_eq_true rfl) rfl ?_
  refine gm_ev.iload i179_149 rfl ?_
  refine gm_ev.if_ne_f i179_151 c20 ?_
  refine gm_ev.iconst (v := -1) i179_154 (by decide) ?_
  refine gm_ev.goto (tgt := 160) i179_155 (by decide) ?_
  exact gm_ev.iret i179_160 rfl
theorem r_letter_0_ffffftfttf {N0 : Nat} {K : Nat → Nat} {d B : Nat} {s : mS} {G : gm_H} {sz sl : Nat} {p0 : Int32} {p1 : Int32} {p2 : Int32} {s8 : mS} {s11 : mS} (hN : N0 ≤ B) (c1 : ¬ p0 < 0) (c2 : ¬ (3 : Int32) < p0) (c3 : ¬ p1 < 0) (c4 : ¬ p2 < 0) (c5 : ¬ (s.1 5) = 0) (c6 : p0 ≤ (1 : Int32)) (t7 : gm_to N0 K ra_nm (ra_mt K) d 161 [.ref B] (bM B (mH B (mI s 0 (0 : Int32))) G) sz (.returned none, bM B (mH B s8) G, sz, 0)) (c9 : ¬ p0 ≤ (1 : Int32)) (t10 : gm_to N0 K ra_nm (ra_mt K) d 171 [.ref B, .int (p0 - (2 : Int32))] (bM B (mH B s8) G) sz (.returned none, bM B (mH B s11) G, sz, 0)) (c12 : ¬ p0 = 0) (c13 : ¬ p0 = (1 : Int32)) (c14 : ¬ p1 < (s11.1 38)) : gm_ev N0 K ra_nm (ra_mt K) d (some .int) (gm_I cX12_letter) (gm_lkf (lkX12 false K)) 0 [some (.ref B), some (.int p0), some (.int p1), some (.int p2), none, none] [] (bM B (mH B s) G) sz sl (.returned (some (.int (-1 : Int32))), (bM B (mH B s11) G), sz, sl) := by
  refine gm_ev.aload_n i179_0 rfl ?_
  refine gm_ev.iconst (v := 0) i179_1 (by decide) ?_
  refine gm_ev.putfield (M' := (bM B (mH B (mI s 0 (0 : Int32))) G)) i179_2 rfl (bM_put (j := 0) (fs := mF B s) rfl (Nat.le_of_ble_eq_true rfl) hN (gm_fit_i _) rfl) ?_
  refine gm_ev.iload_n i179_5 rfl ?_
  refine gm_ev.if_lt_f i179_6 c1 ?_
  refine gm_ev.iload_n i179_9 rfl ?_
  refine gm_ev.iconst (v := 3) i179_10 (by decide) ?_
  refine gm_ev.icmp_gt_f i179_11 c2 ?_
  refine gm_ev.iload_n i179_14 rfl ?_
  refine gm_ev.if_lt_f i179_15 c3 ?_
  refine gm_ev.iload_n i179_18 rfl ?_
  refine gm_ev.if_lt_f i179_19 c4 ?_
  refine gm_ev.aload_n i179_22 rfl ?_
  refine gm_ev.getfield (v := .int (s.1 5)) i179_23 rfl (bM_fld (j := 0) (fs := mF B (mI s 0 (0 : Int32))) rfl rfl) ?_
  refine gm_ev.if_eq_f i179_26 c5 ?_
  refine gm_ev.iload_n i179_29 rfl ?_
  refine gm_ev.iconst (v := 1) i179_30 (by decide) ?_
  refine gm_ev.icmp_le_t (tgt := 46) i179_31 (by decide) c6 ?_
  refine gm_ev.aload_n i179_46 rfl ?_
  refine gm_ev.callV gm_mono_run (av := []) (r := []) (ci := 11) (fs := mF B (mI s 0 (0 : Int32))) (bM_get (j := 0) rfl) i179_47 rfl rfl rfl (Nat.le_of_ble_eq_true rfl) t7 ?_
  refine gm_ev.iload_n i179_50 rfl ?_
  refine gm_ev.iconst (v := 1) i179_51 (by decide) ?_
  refine gm_ev.icmp_le_f i179_52 c9 ?_
  refine gm_ev.aload_n i179_55 rfl ?_
  refine gm_ev.iload_n i179_56 rfl ?_
  refine gm_ev.iconst (v := 2) i179_57 (by decide) ?_
  refine gm_ev.isub i179_58 ?_
  refine gm_ev.callV gm_mono_run (av := [.int (p0 - (2 : Int32))]) (r := []) (ci := 11) (fs := mF B s8) (bM_get (j := 0) rfl) i179_59 rfl rfl rfl (Nat.le_of_ble_eq_true rfl) t10 ?_
  refine gm_ev.iload_n i179_62 rfl ?_
  refine gm_ev.if_ne_t (tgt := 73) i179_63 (by decide) c12 ?_
  refine gm_ev.iload_n i179_73 rfl ?_
  refine gm_ev.iconst (v := 1) i179_74 (by decide) ?_
  refine gm_ev.icmp_ne_t (tgt := 85) i179_75 (by decide) c13 ?_
  refine gm_ev.aload_n i179_85 rfl ?_
  refine gm_ev.getfield (v := .int (s11.1 38)) i179_86 rfl (bM_fld (j := 0) (fs := mF B s11) rfl rfl) ?_
  refine gm_ev.istore (ls' := [some (.ref B), some (.int p0), some (.int p1), some (.int p2), some (.int (s11.1 38)), none]) i179_89 (Nat.le_of_ble_eq_true rfl) rfl ?_
  refine gm_ev.iload_n i179_91 rfl ?_
  refine gm_ev.iload i179_92 rfl ?_
  refine gm_ev.icmp_lt_f i179_94 c14 ?_
  refine gm_ev.iconst (v := -1) i179_97 (by decide) ?_
  exact gm_ev.iret i179_98 rfl
theorem r_letter_0_ffffftftfttttt {N0 : Nat} {K : Nat → Nat} {d B : Nat} {s : mS} {G : gm_H} {sz sl : Nat} {p0 : Int32} {p1 : Int32} {p2 : Int32} {s8 : mS} {s11 : mS} {k17 : Nat} {r19 : Int32} (hN : N0 ≤ B) (c1 : ¬ p0 < 0) (c2 : ¬ (3 : Int32) < p0) (c3 : ¬ p1 < 0) (c4 : ¬ p2 < 0) (c5 : ¬ (s.1 5) = 0) (c6 : p0 ≤ (1 : Int32)) (t7 : gm_to N0 K ra_nm (ra_mt K) d 161 [.ref B] (bM B (mH B (mI s 0 (0 : Int32))) G) sz (.returned none, bM B (mH B s8) G, sz, 0)) (c9 : ¬ p0 ≤ (1 : Int32)) (t10 : gm_to N0 K ra_nm (ra_mt K) d 171 [.ref B, .int (p0 - (2 : Int32))] (bM B (mH B s8) G) sz (.returned none, bM B (mH B s11) G, sz, 0)) (c12 : ¬ p0 = 0) (c13 : p0 = (1 : Int32)) (c14 : p1 < (s11.1 30)) (c15 : ¬ p0 = 0) (c16 : ¬ p0 = (1 : Int32)) (ek17 : p1 = nI k17) (lk17 : k17 < 201) (c18 : p2 ≤ (8 : Int32)) (t20 : gm_to N0 K ra_nm (ra_mt K) d 147 [.long (s11.2.2 37 k17), .int p2] (bM B (mH B s11) G) sz (.returned (some (.int r19)), bM B (mH B s11) G, sz, 0)) (c21 : ¬ r19 = 0) : gm_ev N0 K ra_nm (ra_mt K) d (some .int) (gm_I cX12_letter) (gm_lkf (lkX12 false K)) 0 [some (.ref B), some (.int p0), some (.int p1), some (.int p2), none, none] [] (bM B (mH B s) G) sz sl (.returned (some (.int r19)), (bM B (mH B s11) G), sz, sl) := by
  refine gm_ev.aload_n i179_0 rfl ?_
  refine gm_ev.iconst (v := 0) i179_1 (by decide) ?_
  refine gm_ev.putfield (M' := (bM B (mH B (mI s 0 (0 : Int32))) G)) i179_2 rfl (bM_put (j := 0) (fs := mF B s) rfl (Nat.le_of_ble_eq_true rfl) hN (gm_fit_i _) rfl) ?_
  refine gm_ev.iload_n i179_5 rfl ?_
  refine gm_ev.if_lt_f i179_6 c1 ?_
  refine gm_ev.iload_n i179_9 rfl ?_
  refine gm_ev.iconst (v := 3) i179_10 (by decide) ?_
  refine gm_ev.icmp_gt_f i179_11 c2 ?_
  refine gm_ev.iload_n i179_14 rfl ?_
  refine gm_ev.if_lt_f i179_15 c3 ?_
  refine gm_ev.iload_n i179_18 rfl ?_
  refine gm_ev.if_lt_f i179_19 c4 ?_
  refine gm_ev.aload_n i179_22 rfl ?_
  refine gm_ev.getfield (v := .int (s.1 5)) i179_23 rfl (bM_fld (j := 0) (fs := mF B (mI s 0 (0 : Int32))) rfl rfl) ?_
  refine gm_ev.if_eq_f i179_26 c5 ?_
  refine gm_ev.iload_n i179_29 rfl ?_
  refine gm_ev.iconst (v := 1) i179_30 (by decide) ?_
  refine gm_ev.icmp_le_t (tgt := 46) i179_31 (by decide) c6 ?_
  refine gm_ev.aload_n i179_46 rfl ?_
  refine gm_ev.callV gm_mono_run (av := []) (r := []) (ci := 11) (fs := mF B (mI s 0 (0 : Int32))) (bM_get (j := 0) rfl) i179_47 rfl rfl rfl (Nat.le_of_ble_eq_true rfl) t7 ?_
  refine gm_ev.iload_n i179_50 rfl ?_
  refine gm_ev.iconst (v := 1) i179_51 (by decide) ?_
  refine gm_ev.icmp_le_f i179_52 c9 ?_
  refine gm_ev.aload_n i179_55 rfl ?_
  refine gm_ev.iload_n i179_56 rfl ?_
  refine gm_ev.iconst (v := 2) i179_57 (by decide) ?_
  refine gm_ev.isub i179_58 ?_
  refine gm_ev.callV gm_mono_run (av := [.int (p0 - (2 : Int32))]) (r := []) (ci := 11) (fs := mF B s8) (bM_get (j := 0) rfl) i179_59 rfl rfl rfl (Nat.le_of_ble_eq_true rfl) t10 ?_
  refine gm_ev.iload_n i179_62 rfl ?_
  refine gm_ev.if_ne_t (tgt := 73) i179_63 (by decide) c12 ?_
  refine gm_ev.iload_n i179_73 rfl ?_
  refine gm_ev.iconst (v := 1) i179_74 (by decide) ?_
  refine gm_ev.icmp_ne_f i179_75 c13 ?_
  refine gm_ev.aload_n i179_78 rfl ?_
  refine gm_ev.getfield (v := .int (s11.1 30)) i179_79 rfl (bM_fld (j := 0) (fs := mF B s11) rfl rfl) ?_
  refine gm_ev.goto (tgt := 89) i179_82 (by decide) ?_
  refine gm_ev.istore (ls' := [some (.ref B), some (.int p0), some (.int p1), some (.int p2), some (.int (s11.1 30)), none]) i179_89 (Nat.le_of_ble_eq_true rfl) rfl ?_
  refine gm_ev.iload_n i179_91 rfl ?_
  refine gm_ev.iload i179_92 rfl ?_
  refine gm_ev.icmp_lt_t (tgt := 99) i179_94 (by decide) c14 ?_
  refine gm_ev.iload_n i179_99 rfl ?_
  refine gm_ev.if_ne_t (tgt := 112) i179_100 (by decide) c15 ?_
  refine gm_ev.iload_n i179_112 rfl ?_
  refine gm_ev.iconst (v := 1) i179_113 (by decide) ?_
  refine gm_ev.icmp_ne_t (tgt := 126) i179_114 (by decide) c16 ?_
  refine gm_ev.aload_n i179_126 rfl ?_
  refine gm_ev.getfield (v := .ref (B + 21)) i179_127 rfl (bM_fld (j := 0) (fs := mF B s11) rfl rfl) ?_
  refine gm_ev.iload_n i179_130 rfl ?_
  refine gm_ev.laload i179_131 (bM_al (j := 21) (n := 201) (fl := s11.2.2 37) rfl ek17 lk17 (by decide)) ?_
  refine gm_ev.iload_n i179_132 rfl ?_
  refine gm_ev.bipush (v := 8) i179_133 (by decide) ?_
  refine gm_ev.icmp_le_t (tgt := 143) i179_135 (by decide) c18 ?_
  refine gm_ev.iload_n i179_143 rfl ?_
  refine gm_ev.callS gm_mono_run (av := [.long (s11.2.2 37 k17), .int p2]) (r := []) i179_144 rfl rfl rfl (Nat.le_of_ble_eq_true rfl) t20 ?_
  refine gm_ev.istore (ls' := [some (.ref B), some (.int p0), some (.int p1), some (.int p2), some (.int (s11.1 30)), some (.int r19)]) i179_147 (Nat.le_of_ble_eq_true rfl) rfl ?_
  refine gm_ev.iload i179_149 rfl ?_
  refine gm_ev.if_ne_t (tgt := 158) i179_151 (by decide) c21 ?_
  refine gm_ev.iload i179_158 rfl ?_
  exact gm_ev.iret i179_160 rfl
theorem r_letter_0_ffffftftfttttf {N0 : Nat} {K : Nat → Nat} {d B : Nat} {s : mS} {G : gm_H} {sz sl : Nat} {p0 : Int32} {p1 : Int32} {p2 : Int32} {s8 : mS} {s11 : mS} {k17 : Nat} {r19 : Int32} (hN : N0 ≤ B) (c1 : ¬ p0 < 0) (c2 : ¬ (3 : Int32) < p0) (c3 : ¬ p1 < 0) (c4 : ¬ p2 < 0) (c5 : ¬ (s.1 5) = 0) (c6 : p0 ≤ (1 : Int32)) (t7 : gm_to N0 K ra_nm (ra_mt K) d 161 [.ref B] (bM B (mH B (mI s 0 (0 : Int32))) G) sz (.returned none, bM B (mH B s8) G, sz, 0)) (c9 : ¬ p0 ≤ (1 : Int32)) (t10 : gm_to N0 K ra_nm (ra_mt K) d 171 [.ref B, .int (p0 - (2 : Int32))] (bM B (mH B s8) G) sz (.returned none, bM B (mH B s11) G, sz, 0)) (c12 : ¬ p0 = 0) (c13 : p0 = (1 : Int32)) (c14 : p1 < (s11.1 30)) (c15 : ¬ p0 = 0) (c16 : ¬ p0 = (1 : Int32)) (ek17 : p1 = nI k17) (lk17 : k17 < 201) (c18 : p2 ≤ (8 : Int32)) (t20 : gm_to N0 K ra_nm (ra_mt K) d 147 [.long (s11.2.2 37 k17), .int p2] (bM B (mH B s11) G) sz (.returned (some (.int r19)), bM B (mH B s11) G, sz, 0)) (c21 : r19 = 0) : gm_ev N0 K ra_nm (ra_mt K) d (some .int) (gm_I cX12_letter) (gm_lkf (lkX12 false K)) 0 [some (.ref B), some (.int p0), some (.int p1), some (.int p2), none, none] [] (bM B (mH B s) G) sz sl (.returned (some (.int (-1 : Int32))), (bM B (mH B s11) G), sz, sl) := by
  refine gm_ev.aload_n i179_0 rfl ?_
  refine gm_ev.iconst (v := 0) i179_1 (by decide) ?_
  refine gm_ev.putfield (M' := (bM B (mH B (mI s 0 (0 : Int32))) G)) i179_2 rfl (bM_put (j := 0) (fs := mF B s) rfl (Nat.le_of_ble_eq_true rfl) hN (gm_fit_i _) rfl) ?_
  refine gm_ev.iload_n i179_5 rfl ?_
  refine gm_ev.if_lt_f i179_6 c1 ?_
  refine gm_ev.iload_n i179_9 rfl ?_
  refine gm_ev.iconst (v := 3) i179_10 (by decide) ?_
  refine gm_ev.icmp_gt_f i179_11 c2 ?_
  refine gm_ev.iload_n i179_14 rfl ?_
  refine gm_ev.if_lt_f i179_15 c3 ?_
  refine gm_ev.iload_n i179_18 rfl ?_
  refine gm_ev.if_lt_f i179_19 c4 ?_
  refine gm_ev.aload_n i179_22 rfl ?_
  refine gm_ev.getfield (v := .int (s.1 5)) i179_23 rfl (bM_fld (j := 0) (fs := mF B (mI s 0 (0 : Int32))) rfl rfl) ?_
  refine gm_ev.if_eq_f i179_26 c5 ?_
  refine gm_ev.iload_n i179_29 rfl ?_
  refine gm_ev.iconst (v := 1) i179_30 (by decide) ?_
  refine gm_ev.icmp_le_t (tgt := 46) i179_31 (by decide) c6 ?_
  refine gm_ev.aload_n i179_46 rfl ?_
  refine gm_ev.callV gm_mono_run (av := []) (r := []) (ci := 11) (fs := mF B (mI s 0 (0 : Int32))) (bM_get (j := 0) rfl) i179_47 rfl rfl rfl (Nat.le_of_ble_eq_true rfl) t7 ?_
  refine gm_ev.iload_n i179_50 rfl ?_
  refine gm_ev.iconst (v := 1) i179_51 (by decide) ?_
  refine gm_ev.icmp_le_f i179_52 c9 ?_
  refine gm_ev.aload_n i179_55 rfl ?_
  refine gm_ev.iload_n i179_56 rfl ?_
  refine gm_ev.iconst (v := 2) i179_57 (by decide) ?_
  refine gm_ev.isub i179_58 ?_
  refine gm_ev.callV gm_mono_run (av := [.int (p0 - (2 : Int32))]) (r := []) (ci := 11) (fs := mF B s8) (bM_get (j := 0) rfl) i179_59 rfl rfl rfl (Nat.le_of_ble_eq_true rfl) t10 ?_
  refine gm_ev.iload_n i179_62 rfl ?_
  refine gm_ev.if_ne_t (tgt := 73) i179_63 (by decide) c12 ?_
  refine gm_ev.iload_n i179_73 rfl ?_
  refine gm_ev.iconst (v := 1) i179_74 (by decide) ?_
  refine gm_ev.icmp_ne_f i179_75 c13 ?_
  refine gm_ev.aload_n i179_78 rfl ?_
  refine gm_ev.getfield (v := .int (s11.1 30)) i179_79 rfl (bM_fld (j := 0) (fs := mF B s11) rfl rfl) ?_
  refine gm_ev.goto (tgt := 89) i179_82 (by decide) ?_
  refine gm_ev.istore (ls' := [some (.ref B), some (.int p0), some (.int p1), some (.int p2), some (.int (s11.1 30)), none]) i179_89 (Nat.le_of_ble_eq_true rfl) rfl ?_
  refine gm_ev.iload_n i179_91 rfl ?_
  refine gm_ev.iload i179_92 rfl ?_
  refine gm_ev.icmp_lt_t (tgt := 99) i179_94 (by decide) c14 ?_
  refine gm_ev.iload_n i179_99 rfl ?_
  refine gm_ev.if_ne_t (tgt := 112) i179_100 (by decide) c15 ?_
  refine gm_ev.iload_n i179_112 rfl ?_
  refine gm_ev.iconst (v := 1) i179_113 (by decide) ?_
  refine gm_ev.icmp_ne_t (tgt := 126) i179_114 (by decide) c16 ?_
  refine gm_ev.aload_n i179_126 rfl ?_
  refine gm_ev.getfield (v := .ref (B + 21)) i179_127 rfl (bM_fld (j := 0) (fs := mF B s11) rfl rfl) ?_
  refine gm_ev.iload_n i179_130 rfl ?_
  refine gm_ev.laload i179_131 (bM_al (j := 21) (n := 201) (fl := s11.2.2 37) rfl ek17 lk17 (by decide)) ?_
  refine gm_ev.iload_n i179_132 rfl ?_
  refine gm_ev.bipush (v := 8) i179_133 (by decide) ?_
  refine gm_ev.icmp_le_t (tgt := 143) i179_135 (by decide) c18 ?_
  refine gm_ev.iload_n i179_143 rfl ?_
  refine gm_ev.callS gm_mono_run (av := [.long (s11.2.2 37 k17), .int p2]) (r := []) i179_144 rfl rfl rfl (Nat.le_of_ble_eq_true rfl) t20 ?_
  refine gm_ev.istore (ls' := [some (.ref B), some (.int p0), some (.int p1), some (.int p2), some (.int (s11.1 30)), some (.int r19)]) i179_147 (Nat.le_of_ble_eq_true rfl) rfl ?_
  refine gm_ev.iload i179_149 rfl ?_
  refine gm_ev.if_ne_f i179_151 c21 ?_
  refine gm_ev.iconst (v := -1) i179_154 (by decide) ?_
  refine gm_ev.goto (tgt := 160) i179_155 (by decide) ?_
  exact gm_ev.iret i179_160 rfl
theorem r_letter_0_ffffftftftttft {N0 : Nat} {K : Nat → Nat} {d B : Nat} {s : mS} {G : gm_H} {sz sl : Nat} {p0 : Int32} {p1 : Int32} {p2 : Int32} {s8 : mS} {s11 : mS} {k17 : Nat} {r19 : Int32} (hN : N0 ≤ B) (c1 : ¬ p0 < 0) (c2 : ¬ (3 : Int32) < p0) (c3 : ¬ p1 < 0) (c4 : ¬ p2 < 0) (c5 : ¬ (s.1 5) = 0) (c6 : p0 ≤ (1 : Int32)) (t7 : gm_to N0 K ra_nm (ra_mt K) d 161 [.ref B] (bM B (mH B (mI s 0 (0 : Int32))) G) sz (.returned none, bM B (mH B s8) G, sz, 0)) (c9 : ¬ p0 ≤ (1 : Int32)) (t10 : gm_to N0 K ra_nm (ra_mt K) d 171 [.ref B, .int (p0 - (2 : Int32))] (bM B (mH B s8) G) sz (.returned none, bM B (mH B s11) G, sz, 0)) (c12 : ¬ p0 = 0) (c13 : p0 = (1 : Int32)) (c14 : p1 < (s11.1 30)) (c15 : ¬ p0 = 0) (c16 : ¬ p0 = (1 : Int32)) (ek17 : p1 = nI k17) (lk17 : k17 < 201) (c18 : ¬ p2 ≤ (8 : Int32)) (t20 : gm_to N0 K ra_nm (ra_mt K) d 147 [.long (s11.2.2 37 k17), .int (8 : Int32)] (bM B (mH B s11) G) sz (.returned (some (.int r19)), bM B (mH B s11) G, sz, 0)) (c21 : ¬ r19 = 0) : gm_ev N0 K ra_nm (ra_mt K) d (some .int) (gm_I cX12_letter) (gm_lkf (lkX12 false K)) 0 [some (.ref B), some (.int p0), some (.int p1), some (.int p2), none, none] [] (bM B (mH B s) G) sz sl (.returned (some (.int r19)), (bM B (mH B s11) G), sz, sl) := by
  refine gm_ev.aload_n i179_0 rfl ?_
  refine gm_ev.iconst (v := 0) i179_1 (by decide) ?_
  refine gm_ev.putfield (M' := (bM B (mH B (mI s 0 (0 : Int32))) G)) i179_2 rfl (bM_put (j := 0) (fs := mF B s) rfl (Nat.le_of_ble_eq_true rfl) hN (gm_fit_i _) rfl) ?_
  refine gm_ev.iload_n i179_5 rfl ?_
  refine gm_ev.if_lt_f i179_6 c1 ?_
  refine gm_ev.iload_n i179_9 rfl ?_
  refine gm_ev.iconst (v := 3) i179_10 (by decide) ?_
  refine gm_ev.icmp_gt_f i179_11 c2 ?_
  refine gm_ev.iload_n i179_14 rfl ?_
  refine gm_ev.if_lt_f i179_15 c3 ?_
  refine gm_ev.iload_n i179_18 rfl ?_
  refine gm_ev.if_lt_f i179_19 c4 ?_
  refine gm_ev.aload_n i179_22 rfl ?_
  refine gm_ev.getfield (v := .int (s.1 5)) i179_23 rfl (bM_fld (j := 0) (fs := mF B (mI s 0 (0 : Int32))) rfl rfl) ?_
  refine gm_ev.if_eq_f i179_26 c5 ?_
  refine gm_ev.iload_n i179_29 rfl ?_
  refine gm_ev.iconst (v := 1) i179_30 (by decide) ?_
  refine gm_ev.icmp_le_t (tgt := 46) i179_31 (by decide) c6 ?_
  refine gm_ev.aload_n i179_46 rfl ?_
  refine gm_ev.callV gm_mono_run (av := []) (r := []) (ci := 11) (fs := mF B (mI s 0 (0 : Int32))) (bM_get (j := 0) rfl) i179_47 rfl rfl rfl (Nat.le_of_ble_eq_true rfl) t7 ?_
  refine gm_ev.iload_n i179_50 rfl ?_
  refine gm_ev.iconst (v := 1) i179_51 (by decide) ?_
  refine gm_ev.icmp_le_f i179_52 c9 ?_
  refine gm_ev.aload_n i179_55 rfl ?_
  refine gm_ev.iload_n i179_56 rfl ?_
  refine gm_ev.iconst (v := 2) i179_57 (by decide) ?_
  refine gm_ev.isub i179_58 ?_
  refine gm_ev.callV gm_mono_run (av := [.int (p0 - (2 : Int32))]) (r := []) (ci := 11) (fs := mF B s8) (bM_get (j := 0) rfl) i179_59 rfl rfl rfl (Nat.le_of_ble_eq_true rfl) t10 ?_
  refine gm_ev.iload_n i179_62 rfl ?_
  refine gm_ev.if_ne_t (tgt := 73) i179_63 (by decide) c12 ?_
  refine gm_ev.iload_n i179_73 rfl ?_
  refine gm_ev.iconst (v := 1) i179_74 (by decide) ?_
  refine gm_ev.icmp_ne_f i179_75 c13 ?_
  refine gm_ev.aload_n i179_78 rfl ?_
  refine gm_ev.getfield (v := .int (s11.1 30)) i179_79 rfl (bM_fld (j := 0) (fs := mF B s11) rfl rfl) ?_
  refine gm_ev.goto (tgt := 89) i179_82 (by decide) ?_
  refine gm_ev.istore (ls' := [some (.ref B), some (.int p0), some (.int p1), some (.int p2), some (.int (s11.1 30)), none]) i179_89 (Nat.le_of_ble_eq_true rfl) rfl ?_
  refine gm_ev.iload_n i179_91 rfl ?_
  refine gm_ev.iload i179_92 rfl ?_
  refine gm_ev.icmp_lt_t (tgt := 99) i179_94 (by decide) c14 ?_
  refine gm_ev.iload_n i179_99 rfl ?_
  refine gm_ev.if_ne_t (tgt := 112) i179_100 (by decide) c15 ?_
  refine gm_ev.iload_n i179_112 rfl ?_
  refine gm_ev.iconst (v := 1) i179_113 (by decide) ?_
  refine gm_ev.icmp_ne_t (tgt := 126) i179_114 (by decide) c16 ?_
  refine gm_ev.aload_n i179_126 rfl ?_
  refine gm_ev.getfield (v := .ref (B + 21)) i179_127 rfl (bM_fld (j := 0) (fs := mF B s11) rfl rfl) ?_
  refine gm_ev.iload_n i179_130 rfl ?_
  refine gm_ev.laload i179_131 (bM_al (j := 21) (n := 201) (fl := s11.2.2 37) rfl ek17 lk17 (by decide)) ?_
  refine gm_ev.iload_n i179_132 rfl ?_
  refine gm_ev.bipush (v := 8) i179_133 (by decide) ?_
  refine gm_ev.icmp_le_f i179_135 c18 ?_
  refine gm_ev.bipush (v := 8) i179_138 (by decide) ?_
  refine gm_ev.goto (tgt := 144) i179_140 (by decide) ?_
  refine gm_ev.callS gm_mono_run (av := [.long (s11.2.2 37 k17), .int (8 : Int32)]) (r := []) i179_144 rfl rfl rfl (Nat.le_of_ble_eq_true rfl) t20 ?_
  refine gm_ev.istore (ls' := [some (.ref B), some (.int p0), some (.int p1), some (.int p2), some (.int (s11.1 30)), some (.int r19)]) i179_147 (Nat.le_of_ble_eq_true rfl) rfl ?_
  refine gm_ev.iload i179_149 rfl ?_
  refine gm_ev.if_ne_t (tgt := 158) i179_151 (by decide) c21 ?_
  refine gm_ev.iload i179_158 rfl ?_
  exact gm_ev.iret i179_160 rfl
theorem r_letter_0_ffffftftftttff {N0 : Nat} {K : Nat → Nat} {d B : Nat} {s : mS} {G : gm_H} {sz sl : Nat} {p0 : Int32} {p1 : Int32} {p2 : Int32} {s8 : mS} {s11 : mS} {k17 : Nat} {r19 : Int32} (hN : N0 ≤ B) (c1 : ¬ p0 < 0) (c2 : ¬ (3 : Int32) < p0) (c3 : ¬ p1 < 0) (c4 : ¬ p2 < 0) (c5 : ¬ (s.1 5) = 0) (c6 : p0 ≤ (1 : Int32)) (t7 : gm_to N0 K ra_nm (ra_mt K) d 161 [.ref B] (bM B (mH B (mI s 0 (0 : Int32))) G) sz (.returned none, bM B (mH B s8) G, sz, 0)) (c9 : ¬ p0 ≤ (1 : Int32)) (t10 : gm_to N0 K ra_nm (ra_mt K) d 171 [.ref B, .int (p0 - (2 : Int32))] (bM B (mH B s8) G) sz (.returned none, bM B (mH B s11) G, sz, 0)) (c12 : ¬ p0 = 0) (c13 : p0 = (1 : Int32)) (c14 : p1 < (s11.1 30)) (c15 : ¬ p0 = 0) (c16 : ¬ p0 = (1 : Int32)) (ek17 : p1 = nI k17) (lk17 : k17 < 201) (c18 : ¬ p2 ≤ (8 : Int32)) (t20 : gm_to N0 K ra_nm (ra_mt K) d 147 [.long (s11.2.2 37 k17), .int (8 : Int32)] (bM B (mH B s11) G) sz (.returned (some (.int r19)), bM B (mH B s11) G, sz, 0)) (c21 : r19 = 0) : gm_ev N0 K ra_nm (ra_mt K) d (some .int) (gm_I cX12_letter) (gm_lkf (lkX12 false K)) 0 [some (.ref B), some (.int p0), some (.int p1), some (.int p2), none, none] [] (bM B (mH B s) G) sz sl (.returned (some (.int (-1 : Int32))), (bM B (mH B s11) G), sz, sl) := by
  refine gm_ev.aload_n i179_0 rfl ?_
  refine gm_ev.iconst (v := 0) i179_1 (by decide) ?_
  refine gm_ev.putfield (M' := (bM B (mH B (mI s 0 (0 : Int32))) G)) i179_2 rfl (bM_put (j := 0) (fs := mF B s) rfl (Nat.le_of_ble_eq_true rfl) hN (gm_fit_i _) rfl) ?_
  refine gm_ev.iload_n i179_5 rfl ?_
  refine gm_ev.if_lt_f i179_6 c1 ?_
  refine gm_ev.iload_n i179_9 rfl ?_
  refine gm_ev.iconst (v := 3) i179_10 (by decide) ?_
  refine gm_ev.icmp_gt_f i179_11 c2 ?_
  refine gm_ev.iload_n i179_14 rfl ?_
  refine gm_ev.if_lt_f i179_15 c3 ?_
  refine gm_ev.iload_n i179_18 rfl ?_
  refine gm_ev.if_lt_f i179_19 c4 ?_
  refine gm_ev.aload_n i179_22 rfl ?_
  refine gm_ev.getfield (v := .int (s.1 5)) i179_23 rfl (bM_fld (j := 0) (fs := mF B (mI s 0 (0 : Int32))) rfl rfl) ?_
  refine gm_ev.if_eq_f i179_26 c5 ?_
  refine gm_ev.iload_n i179_29 rfl ?_
  refine gm_ev.iconst (v := 1) i179_30 (by decide) ?_
  refine gm_ev.icmp_le_t (tgt := 46) i179_31 (by decide) c6 ?_
  refine gm_ev.aload_n i179_46 rfl ?_
  refine gm_ev.callV gm_mono_run (av := []) (r := []) (ci := 11) (fs := mF B (mI s 0 (0 : Int32))) (bM_get (j := 0) rfl) i179_47 rfl rfl rfl (Nat.le_of_ble_eq_true rfl) t7 ?_
  refine gm_ev.iload_n i179_50 rfl ?_
  refine gm_ev.iconst (v := 1) i179_51 (by decide) ?_
  refine gm_ev.icmp_le_f i179_52 c9 ?_
  refine gm_ev.aload_n i179_55 rfl ?_
  refine gm_ev.iload_n i179_56 rfl ?_
  refine gm_ev.iconst (v := 2) i179_57 (by decide) ?_
  refine gm_ev.isub i179_58 ?_
  refine gm_ev.callV gm_mono_run (av := [.int (p0 - (2 : Int32))]) (r := []) (ci := 11) (fs := mF B s8) (bM_get (j := 0) rfl) i179_59 rfl rfl rfl (Nat.le_of_ble_eq_true rfl) t10 ?_
  refine gm_ev.iload_n i179_62 rfl ?_
  refine gm_ev.if_ne_t (tgt := 73) i179_63 (by decide) c12 ?_
  refine gm_ev.iload_n i179_73 rfl ?_
  refine gm_ev.iconst (v := 1) i179_74 (by decide) ?_
  refine gm_ev.icmp_ne_f i179_75 c13 ?_
  refine gm_ev.aload_n i179_78 rfl ?_
  refine gm_ev.getfield (v := .int (s11.1 30)) i179_79 rfl (bM_fld (j := 0) (fs := mF B s11) rfl rfl) ?_
  refine gm_ev.goto (tgt := 89) i179_82 (by decide) ?_
  refine gm_ev.istore (ls' := [some (.ref B), some (.int p0), some (.int p1), some (.int p2), some (.int (s11.1 30)), none]) i179_89 (Nat.le_of_ble_eq_true rfl) rfl ?_
  refine gm_ev.iload_n i179_91 rfl ?_
  refine gm_ev.iload i179_92 rfl ?_
  refine gm_ev.icmp_lt_t (tgt := 99) i179_94 (by decide) c14 ?_
  refine gm_ev.iload_n i179_99 rfl ?_
  refine gm_ev.if_ne_t (tgt := 112) i179_100 (by decide) c15 ?_
  refine gm_ev.iload_n i179_112 rfl ?_
  refine gm_ev.iconst (v := 1) i179_113 (by decide) ?_
  refine gm_ev.icmp_ne_t (tgt := 126) i179_114 (by decide) c16 ?_
  refine gm_ev.aload_n i179_126 rfl ?_
  refine gm_ev.getfield (v := .ref (B + 21)) i179_127 rfl (bM_fld (j := 0) (fs := mF B s11) rfl rfl) ?_
  refine gm_ev.iload_n i179_130 rfl ?_
  refine gm_ev.laload i179_131 (bM_al (j := 21) (n := 201) (fl := s11.2.2 37) rfl ek17 lk17 (by decide)) ?_
  refine gm_ev.iload_n i179_132 rfl ?_
  refine gm_ev.bipush (v := 8) i179_133 (by decide) ?_
  refine gm_ev.icmp_le_f i179_135 c18 ?_
  refine gm_ev.bipush (v := 8) i179_138 (by decide) ?_
  refine gm_ev.goto (tgt := 144) i179_140 (by decide) ?_
  refine gm_ev.callS gm_mono_run (av := [.long (s11.2.2 37 k17), .int (8 : Int32)]) (r := []) i179_144 rfl rfl rfl (Nat.le_of_ble_eq_true rfl) t20 ?_
  refine gm_ev.istore (ls' := [some (.ref B), some (.int p0), some (.int p1), some (.int p2), some (.int (s11.1 30)), some (.int r19)]) i179_147 (Nat.le_of_ble_eq_true rfl) rfl ?_
  refine gm_ev.iload i179_149 rfl ?_
  refine gm_ev.if_ne_f i179_151 c21 ?_
  refine gm_ev.iconst (v := -1) i179_154 (by decide) ?_
  refine gm_ev.goto (tgt := 160) i179_155 (by decide) ?_
  exact gm_ev.iret i179_160 rfl
theorem r_letter_0_ffffftftfttftt {N0 : Nat} {K : Nat → Nat} {d B : Nat} {s : mS} {G : gm_H} {sz sl : Nat} {p0 : Int32} {p1 : Int32} {p2 : Int32} {s8 : mS} {s11 : mS} {k17 : Nat} {r19 : Int32} (hN : N0 ≤ B) (c1 : ¬ p0 < 0) (c2 : ¬ (3 : Int32) < p0) (c3 : ¬ p1 < 0) (c4 : ¬ p2 < 0) (c5 : ¬ (s.1 5) = 0) (c6 : p0 ≤ (1 : Int32)) (t7 : gm_to N0 K ra_nm (ra_mt K) d 161 [.ref B] (bM B (mH B (mI s 0 (0 : Int32))) G) sz (.returned none, bM B (mH B s8) G, sz, 0)) (c9 : ¬ p0 ≤ (1 : Int32)) (t10 : gm_to N0 K ra_nm (ra_mt K) d 171 [.ref B, .int (p0 - (2 : Int32))] (bM B (mH B s8) G) sz (.returned none, bM B (mH B s11) G, sz, 0)) (c12 : ¬ p0 = 0) (c13 : p0 = (1 : Int32)) (c14 : p1 < (s11.1 30)) (c15 : ¬ p0 = 0) (c16 : p0 = (1 : Int32)) (ek17 : p1 = nI k17) (lk17 : k17 < 24) (c18 : p2 ≤ (8 : Int32)) (t20 : gm_to N0 K ra_nm (ra_mt K) d 147 [.long (s11.2.2 29 k17), .int p2] (bM B (mH B s11) G) sz (.returned (some (.int r19)), bM B (mH B s11) G, sz, 0)) (c21 : ¬ r19 = 0) : gm_ev N0 K ra_nm (ra_mt K) d (some .int) (gm_I cX12_letter) (gm_lkf (lkX12 false K)) 0 [some (.ref B), some (.int p0), some (.int p1), some (.int p2), none, none] [] (bM B (mH B s) G) sz sl (.returned (some (.int r19)), (bM B (mH B s11) G), sz, sl) := by
  refine gm_ev.aload_n i179_0 rfl ?_
  refine gm_ev.iconst (v := 0) i179_1 (by decide) ?_
  refine gm_ev.putfield (M' := (bM B (mH B (mI s 0 (0 : Int32))) G)) i179_2 rfl (bM_put (j := 0) (fs := mF B s) rfl (Nat.le_of_ble_eq_true rfl) hN (gm_fit_i _) rfl) ?_
  refine gm_ev.iload_n i179_5 rfl ?_
  refine gm_ev.if_lt_f i179_6 c1 ?_
  refine gm_ev.iload_n i179_9 rfl ?_
  refine gm_ev.iconst (v := 3) i179_10 (by decide) ?_
  refine gm_ev.icmp_gt_f i179_11 c2 ?_
  refine gm_ev.iload_n i179_14 rfl ?_
  refine gm_ev.if_lt_f i179_15 c3 ?_
  refine gm_ev.iload_n i179_18 rfl ?_
  refine gm_ev.if_lt_f i179_19 c4 ?_
  refine gm_ev.aload_n i179_22 rfl ?_
  refine gm_ev.getfield (v := .int (s.1 5)) i179_23 rfl (bM_fld (j := 0) (fs := mF B (mI s 0 (0 : Int32))) rfl rfl) ?_
  refine gm_ev.if_eq_f i179_26 c5 ?_
  refine gm_ev.iload_n i179_29 rfl ?_
  refine gm_ev.iconst (v := 1) i179_30 (by decide) ?_
  refine gm_ev.icmp_le_t (tgt := 46) i179_31 (by decide) c6 ?_
  refine gm_ev.aload_n i179_46 rfl ?_
  refine gm_ev.callV gm_mono_run (av := []) (r := []) (ci := 11) (fs := mF B (mI s 0 (0 : Int32))) (bM_get (j := 0) rfl) i179_47 rfl rfl rfl (Nat.le_of_ble_eq_true rfl) t7 ?_
  refine gm_ev.iload_n i179_50 rfl ?_
  refine gm_ev.iconst (v := 1) i179_51 (by decide) ?_
  refine gm_ev.icmp_le_f i179_52 c9 ?_
  refine gm_ev.aload_n i179_55 rfl ?_
  refine gm_ev.iload_n i179_56 rfl ?_
  refine gm_ev.iconst (v := 2) i179_57 (by decide) ?_
  refine gm_ev.isub i179_58 ?_
  refine gm_ev.callV gm_mono_run (av := [.int (p0 - (2 : Int32))]) (r := []) (ci := 11) (fs := mF B s8) (bM_get (j := 0) rfl) i179_59 rfl rfl rfl (Nat.le_of_ble_eq_true rfl) t10 ?_
  refine gm_ev.iload_n i179_62 rfl ?_
  refine gm_ev.if_ne_t (tgt := 73) i179_63 (by decide) c12 ?_
  refine gm_ev.iload_n i179_73 rfl ?_
  refine gm_ev.iconst (v := 1) i179_74 (by decide) ?_
  refine gm_ev.icmp_ne_f i179_75 c13 ?_
  refine gm_ev.aload_n i179_78 rfl ?_
  refine gm_ev.getfield (v := .int (s11.1 30)) i179_79 rfl (bM_fld (j := 0) (fs := mF B s11) rfl rfl) ?_
  refine gm_ev.goto (tgt := 89) i179_82 (by decide) ?_
  refine gm_ev.istore (ls' := [some (.ref B), some (.int p0), some (.int p1), some (.int p2), some (.int (s11.1 30)), none]) i179_89 (Nat.le_of_ble_eq_true rfl) rfl ?_
  refine gm_ev.iload_n i179_91 rfl ?_
  refine gm_ev.iload i179_92 rfl ?_
  refine gm_ev.icmp_lt_t (tgt := 99) i179_94 (by decide) c14 ?_
  refine gm_ev.iload_n i179_99 rfl ?_
  refine gm_ev.if_ne_t (tgt := 112) i179_100 (by decide) c15 ?_
  refine gm_ev.iload_n i179_112 rfl ?_
  refine gm_ev.iconst (v := 1) i179_113 (by decide) ?_
  refine gm_ev.icmp_ne_f i179_114 c16 ?_
  refine gm_ev.aload_n i179_117 rfl ?_
  refine gm_ev.getfield (v := .ref (B + 17)) i179_118 rfl (bM_fld (j := 0) (fs := mF B s11) rfl rfl) ?_
  refine gm_ev.iload_n i179_121 rfl ?_
  refine gm_ev.laload i179_122 (bM_al (j := 17) (n := 24) (fl := s11.2.2 29) rfl ek17 lk17 (by decide)) ?_
  refine gm_ev.goto (tgt := 132) i179_123 (by decide) ?_
  refine gm_ev.iload_n i179_132 rfl ?_
  refine gm_ev.bipush (v := 8) i179_133 (by decide) ?_
  refine gm_ev.icmp_le_t (tgt := 143) i179_135 (by decide) c18 ?_
  refine gm_ev.iload_n i179_143 rfl ?_
  refine gm_ev.callS gm_mono_run (av := [.long (s11.2.2 29 k17), .int p2]) (r := []) i179_144 rfl rfl rfl (Nat.le_of_ble_eq_true rfl) t20 ?_
  refine gm_ev.istore (ls' := [some (.ref B), some (.int p0), some (.int p1), some (.int p2), some (.int (s11.1 30)), some (.int r19)]) i179_147 (Nat.le_of_ble_eq_true rfl) rfl ?_
  refine gm_ev.iload i179_149 rfl ?_
  refine gm_ev.if_ne_t (tgt := 158) i179_151 (by decide) c21 ?_
  refine gm_ev.iload i179_158 rfl ?_
  exact gm_ev.iret i179_160 rfl
theorem r_letter_0_ffffftftfttftf {N0 : Nat} {K : Nat → Nat} {d B : Nat} {s : mS} {G : gm_H} {sz sl : Nat} {p0 : Int32} {p1 : Int32} {p2 : Int32} {s8 : mS} {s11 : mS} {k17 : Nat} {r19 : Int32} (hN : N0 ≤ B) (c1 : ¬ p0 < 0) (c2 : ¬ (3 : Int32) < p0) (c3 : ¬ p1 < 0) (c4 : ¬ p2 < 0) (c5 : ¬ (s.1 5) = 0) (c6 : p0 ≤ (1 : Int32)) (t7 : gm_to N0 K ra_nm (ra_mt K) d 161 [.ref B] (bM B (mH B (mI s 0 (0 : Int32))) G) sz (.returned none, bM B (mH B s8) G, sz, 0)) (c9 : ¬ p0 ≤ (1 : Int32)) (t10 : gm_to N0 K ra_nm (ra_mt K) d 171 [.ref B, .int (p0 - (2 : Int32))] (bM B (mH B s8) G) sz (.returned none, bM B (mH B s11) G, sz, 0)) (c12 : ¬ p0 = 0) (c13 : p0 = (1 : Int32)) (c14 : p1 < (s11.1 30)) (c15 : ¬ p0 = 0) (c16 : p0 = (1 : Int32)) (ek17 : p1 = nI k17) (lk17 : k17 < 24) (c18 : p2 ≤ (8 : Int32)) (t20 : gm_to N0 K ra_nm (ra_mt K) d 147 [.long (s11.2.2 29 k17), .int p2] (bM B (mH B s11) G) sz (.returned (some (.int r19)), bM B (mH B s11) G, sz, 0)) (c21 : r19 = 0) : gm_ev N0 K ra_nm (ra_mt K) d (some .int) (gm_I cX12_letter) (gm_lkf (lkX12 false K)) 0 [some (.ref B), some (.int p0), some (.int p1), some (.int p2), none, none] [] (bM B (mH B s) G) sz sl (.returned (some (.int (-1 : Int32))), (bM B (mH B s11) G), sz, sl) := by
  refine gm_ev.aload_n i179_0 rfl ?_
  refine gm_ev.iconst (v := 0) i179_1 (by decide) ?_
  refine gm_ev.putfield (M' := (bM B (mH B (mI s 0 (0 : Int32))) G)) i179_2 rfl (bM_put (j := 0) (fs := mF B s) rfl (Nat.le_of_ble_eq_true rfl) hN (gm_fit_i _) rfl) ?_
  refine gm_ev.iload_n i179_5 rfl ?_
  refine gm_ev.if_lt_f i179_6 c1 ?_
  refine gm_ev.iload_n i179_9 rfl ?_
  refine gm_ev.iconst (v := 3) i179_10 (by decide) ?_
  refine gm_ev.icmp_gt_f i179_11 c2 ?_
  refine gm_ev.iload_n i179_14 rfl ?_
  refine gm_ev.if_lt_f i179_15 c3 ?_
  refine gm_ev.iload_n i179_18 rfl ?_
  refine gm_ev.if_lt_f i179_19 c4 ?_
  refine gm_ev.aload_n i179_22 rfl ?_
  refine gm_ev.getfield (v := .int (s.1 5)) i179_23 rfl (bM_fld (j := 0) (fs := mF B (mI s 0 (0 : Int32))) rfl rfl) ?_
  refine gm_ev.if_eq_f i179_26 c5 ?_
  refine gm_ev.iload_n i179_29 rfl ?_
  refine gm_ev.iconst (v := 1) i179_30 (by decide) ?_
  refine gm_ev.icmp_le_t (tgt := 46) i179_31 (by decide) c6 ?_
  refine gm_ev.aload_n i179_46 rfl ?_
  refine gm_ev.callV gm_mono_run (av := []) (r := []) (ci := 11) (fs := mF B (mI s 0 (0 : Int32))) (bM_get (j := 0) rfl) i179_47 rfl rfl rfl (Nat.le_of_ble_eq_true rfl) t7 ?_
  refine gm_ev.iload_n i179_50 rfl ?_
  refine gm_ev.iconst (v := 1) i179_51 (by decide) ?_
  refine gm_ev.icmp_le_f i179_52 c9 ?_
  refine gm_ev.aload_n i179_55 rfl ?_
  refine gm_ev.iload_n i179_56 rfl ?_
  refine gm_ev.iconst (v := 2) i179_57 (by decide) ?_
  refine gm_ev.isub i179_58 ?_
  refine gm_ev.callV gm_mono_run (av := [.int (p0 - (2 : Int32))]) (r := []) (ci := 11) (fs := mF B s8) (bM_get (j := 0) rfl) i179_59 rfl rfl rfl (Nat.le_of_ble_eq_true rfl) t10 ?_
  refine gm_ev.iload_n i179_62 rfl ?_
  refine gm_ev.if_ne_t (tgt := 73) i179_63 (by decide) c12 ?_
  refine gm_ev.iload_n i179_73 rfl ?_
  refine gm_ev.iconst (v := 1) i179_74 (by decide) ?_
  refine gm_ev.icmp_ne_f i179_75 c13 ?_
  refine gm_ev.aload_n i179_78 rfl ?_
  refine gm_ev.getfield (v := .int (s11.1 30)) i179_79 rfl (bM_fld (j := 0) (fs := mF B s11) rfl rfl) ?_
  refine gm_ev.goto (tgt := 89) i179_82 (by decide) ?_
  refine gm_ev.istore (ls' := [some (.ref B), some (.int p0), some (.int p1), some (.int p2), some (.int (s11.1 30)), none]) i179_89 (Nat.le_of_ble_eq_true rfl) rfl ?_
  refine gm_ev.iload_n i179_91 rfl ?_
  refine gm_ev.iload i179_92 rfl ?_
  refine gm_ev.icmp_lt_t (tgt := 99) i179_94 (by decide) c14 ?_
  refine gm_ev.iload_n i179_99 rfl ?_
  refine gm_ev.if_ne_t (tgt := 112) i179_100 (by decide) c15 ?_
  refine gm_ev.iload_n i179_112 rfl ?_
  refine gm_ev.iconst (v := 1) i179_113 (by decide) ?_
  refine gm_ev.icmp_ne_f i179_114 c16 ?_
  refine gm_ev.aload_n i179_117 rfl ?_
  refine gm_ev.getfield (v := .ref (B + 17)) i179_118 rfl (bM_fld (j := 0) (fs := mF B s11) rfl rfl) ?_
  refine gm_ev.iload_n i179_121 rfl ?_
  refine gm_ev.laload i179_122 (bM_al (j := 17) (n := 24) (fl := s11.2.2 29) rfl ek17 lk17 (by decide)) ?_
  refine gm_ev.goto (tgt := 132) i179_123 (by decide) ?_
  refine gm_ev.iload_n i179_132 rfl ?_
  refine gm_ev.bipush (v := 8) i179_133 (by decide) ?_
  refine gm_ev.icmp_le_t (tgt := 143) i179_135 (by decide) c18 ?_
  refine gm_ev.iload_n i179_143 rfl ?_
  refine gm_ev.callS gm_mono_run (av := [.long (s11.2.2 29 k17), .int p2]) (r := []) i179_144 rfl rfl rfl (Nat.le_of_ble_eq_true rfl) t20 ?_
  refine gm_ev.istore (ls' := [some (.ref B), some (.int p0), some (.int p1), some (.int p2), some (.int (s11.1 30)), some (.int r19)]) i179_147 (Nat.le_of_ble_eq_true rfl) rfl ?_
  refine gm_ev.iload i179_149 rfl ?_
  refine gm_ev.if_ne_f i179_151 c21 ?_
  refine gm_ev.iconst (v := -1) i179_154 (by decide) ?_
  refine gm_ev.goto (tgt := 160) i179_155 (by decide) ?_
  exact gm_ev.iret i179_160 rfl
theorem r_letter_0_ffffftftfttfft {N0 : Nat} {K : Nat → Nat} {d B : Nat} {s : mS} {G : gm_H} {sz sl : Nat} {p0 : Int32} {p1 : Int32} {p2 : Int32} {s8 : mS} {s11 : mS} {k17 : Nat} {r19 : Int32} (hN : N0 ≤ B) (c1 : ¬ p0 < 0) (c2 : ¬ (3 : Int32) < p0) (c3 : ¬ p1 < 0) (c4 : ¬ p2 < 0) (c5 : ¬ (s.1 5) = 0) (c6 : p0 ≤ (1 : Int32)) (t7 : gm_to N0 K ra_nm (ra_mt K) d 161 [.ref B] (bM B (mH B (mI s 0 (0 : Int32))) G) sz (.returned none, bM B (mH B s8) G, sz, 0)) (c9 : ¬ p0 ≤ (1 : Int32)) (t10 : gm_to N0 K ra_nm (ra_mt K) d 171 [.ref B, .int (p0 - (2 : Int32))] (bM B (mH B s8) G) sz (.returned none, bM B (mH B s11) G, sz, 0)) (c12 : ¬ p0 = 0) (c13 : p0 = (1 : Int32)) (c14 : p1 < (s11.1 30)) (c15 : ¬ p0 = 0) (c16 : p0 = (1 : Int32)) (ek17 : p1 = nI k17) (lk17 : k17 < 24) (c18 : ¬ p2 ≤ (8 : Int32)) (t20 : gm_to N0 K ra_nm (ra_mt K) d 147 [.long (s11.2.2 29 k17), .int (8 : Int32)] (bM B (mH B s11) G) sz (.returned (some (.int r19)), bM B (mH B s11) G, sz, 0)) (c21 : ¬ r19 = 0) : gm_ev N0 K ra_nm (ra_mt K) d (some .int) (gm_I cX12_letter) (gm_lkf (lkX12 false K)) 0 [some (.ref B), some (.int p0), some (.int p1), some (.int p2), none, none] [] (bM B (mH B s) G) sz sl (.returned (some (.int r19)), (bM B (mH B s11) G), sz, sl) := by
  refine gm_ev.aload_n i179_0 rfl ?_
  refine gm_ev.iconst (v := 0) i179_1 (by decide) ?_
  refine gm_ev.putfield (M' := (bM B (mH B (mI s 0 (0 : Int32))) G)) i179_2 rfl (bM_put (j := 0) (fs := mF B s) rfl (Nat.le_of_ble_eq_true rfl) hN (gm_fit_i _) rfl) ?_
  refine gm_ev.iload_n i179_5 rfl ?_
  refine gm_ev.if_lt_f i179_6 c1 ?_
  refine gm_ev.iload_n i179_9 rfl ?_
  refine gm_ev.iconst (v := 3) i179_10 (by decide) ?_
  refine gm_ev.icmp_gt_f i179_11 c2 ?_
  refine gm_ev.iload_n i179_14 rfl ?_
  refine gm_ev.if_lt_f i179_15 c3 ?_
  refine gm_ev.iload_n i179_18 rfl ?_
  refine gm_ev.if_lt_f i179_19 c4 ?_
  refine gm_ev.aload_n i179_22 rfl ?_
  refine gm_ev.getfield (v := .int (s.1 5)) i179_23 rfl (bM_fld (j := 0) (fs := mF B (mI s 0 (0 : Int32))) rfl rfl) ?_
  refine gm_ev.if_eq_f i179_26 c5 ?_
  refine gm_ev.iload_n i179_29 rfl ?_
  refine gm_ev.iconst (v := 1) i179_30 (by decide) ?_
  refine gm_ev.icmp_le_t (tgt := 46) i179_31 (by decide) c6 ?_
  refine gm_ev.aload_n i179_46 rfl ?_
  refine gm_ev.callV gm_mono_run (av := []) (r := []) (ci := 11) (fs := mF B (mI s 0 (0 : Int32))) (bM_get (j := 0) rfl) i179_47 rfl rfl rfl (Nat.le_of_ble_eq_true rfl) t7 ?_
  refine gm_ev.iload_n i179_50 rfl ?_
  refine gm_ev.iconst (v := 1) i179_51 (by decide) ?_
  refine gm_ev.icmp_le_f i179_52 c9 ?_
  refine gm_ev.aload_n i179_55 rfl ?_
  refine gm_ev.iload_n i179_56 rfl ?_
  refine gm_ev.iconst (v := 2) i179_57 (by decide) ?_
  refine gm_ev.isub i179_58 ?_
  refine gm_ev.callV gm_mono_run (av := [.int (p0 - (2 : Int32))]) (r := []) (ci := 11) (fs := mF B s8) (bM_get (j := 0) rfl) i179_59 rfl rfl rfl (Nat.le_of_ble_eq_true rfl) t10 ?_
  refine gm_ev.iload_n i179_62 rfl ?_
  refine gm_ev.if_ne_t (tgt := 73) i179_63 (by decide) c12 ?_
  refine gm_ev.iload_n i179_73 rfl ?_
  refine gm_ev.iconst (v := 1) i179_74 (by decide) ?_
  refine gm_ev.icmp_ne_f i179_75 c13 ?_
  refine gm_ev.aload_n i179_78 rfl ?_
  refine gm_ev.getfield (v := .int (s11.1 30)) i179_79 rfl (bM_fld (j := 0) (fs := mF B s11) rfl rfl) ?_
  refine gm_ev.goto (tgt := 89) i179_82 (by decide) ?_
  refine gm_ev.istore (ls' := [some (.ref B), some (.int p0), some (.int p1), some (.int p2), some (.int (s11.1 30)), none]) i179_89 (Nat.le_of_ble_eq_true rfl) rfl ?_
  refine gm_ev.iload_n i179_91 rfl ?_
  refine gm_ev.iload i179_92 rfl ?_
  refine gm_ev.icmp_lt_t (tgt := 99) i179_94 (by decide) c14 ?_
  refine gm_ev.iload_n i179_99 rfl ?_
  refine gm_ev.if_ne_t (tgt := 112) i179_100 (by decide) c15 ?_
  refine gm_ev.iload_n i179_112 rfl ?_
  refine gm_ev.iconst (v := 1) i179_113 (by decide) ?_
  refine gm_ev.icmp_ne_f i179_114 c16 ?_
  refine gm_ev.aload_n i179_117 rfl ?_
  refine gm_ev.getfield (v := .ref (B + 17)) i179_118 rfl (bM_fld (j := 0) (fs := mF B s11) rfl rfl) ?_
  refine gm_ev.iload_n i179_121 rfl ?_
  refine gm_ev.laload i179_122 (bM_al (j := 17) (n := 24) (fl := s11.2.2 29) rfl ek17 lk17 (by decide)) ?_
  refine gm_ev.goto (tgt := 132) i179_123 (by decide) ?_
  refine gm_ev.iload_n i179_132 rfl ?_
  refine gm_ev.bipush (v := 8) i179_133 (by decide) ?_
  refine gm_ev.icmp_le_f i179_135 c18 ?_
  refine gm_ev.bipush (v := 8) i179_138 (by decide) ?_
  refine gm_ev.goto (tgt := 144) i179_140 (by decide) ?_
  refine gm_ev.callS gm_mono_run (av := [.long (s11.2.2 29 k17), .int (8 : Int32)]) (r := []) i179_144 rfl rfl rfl (Nat.le_of_ble_eq_true rfl) t20 ?_
  refine gm_ev.istore (ls' := [some (.ref B), some (.int p0), some (.int p1), some (.int p2), some (.int (s11.1 30)), some (.int r19)]) i179_147 (Nat.le_of_ble_eq_true rfl) rfl ?_
  refine gm_ev.iload i179_149 rfl ?_
  refine gm_ev.if_ne_t (tgt := 158) i179_151 (by decide) c21 ?_
  refine gm_ev.iload i179_158 rfl ?_
  exact gm_ev.iret i179_160 rfl
theorem r_letter_0_ffffftftfttfff {N0 : Nat} {K : Nat → Nat} {d B : Nat} {s : mS} {G : gm_H} {sz sl : Nat} {p0 : Int32} {p1 : Int32} {p2 : Int32} {s8 : mS} {s11 : mS} {k17 : Nat} {r19 : Int32} (hN : N0 ≤ B) (c1 : ¬ p0 < 0) (c2 : ¬ (3 : Int32) < p0) (c3 : ¬ p1 < 0) (c4 : ¬ p2 < 0) (c5 : ¬ (s.1 5) = 0) (c6 : p0 ≤ (1 : Int32)) (t7 : gm_to N0 K ra_nm (ra_mt K) d 161 [.ref B] (bM B (mH B (mI s 0 (0 : Int32))) G) sz (.returned none, bM B (mH B s8) G, sz, 0)) (c9 : ¬ p0 ≤ (1 : Int32)) (t10 : gm_to N0 K ra_nm (ra_mt K) d 171 [.ref B, .int (p0 - (2 : Int32))] (bM B (mH B s8) G) sz (.returned none, bM B (mH B s11) G, sz, 0)) (c12 : ¬ p0 = 0) (c13 : p0 = (1 : Int32)) (c14 : p1 < (s11.1 30)) (c15 : ¬ p0 = 0) (c16 : p0 = (1 : Int32)) (ek17 : p1 = nI k17) (lk17 : k17 < 24) (c18 : ¬ p2 ≤ (8 : Int32)) (t20 : gm_to N0 K ra_nm (ra_mt K) d 147 [.long (s11.2.2 29 k17), .int (8 : Int32)] (bM B (mH B s11) G) sz (.returned (some (.int r19)), bM B (mH B s11) G, sz, 0)) (c21 : r19 = 0) : gm_ev N0 K ra_nm (ra_mt K) d (some .int) (gm_I cX12_letter) (gm_lkf (lkX12 false K)) 0 [some (.ref B), some (.int p0), some (.int p1), some (.int p2), none, none] [] (bM B (mH B s) G) sz sl (.returned (some (.int (-1 : Int32))), (bM B (mH B s11) G), sz, sl) := by
  refine gm_ev.aload_n i179_0 rfl ?_
  refine gm_ev.iconst (v := 0) i179_1 (by decide) ?_
  refine gm_ev.putfield (M' := (bM B (mH B (mI s 0 (0 : Int32))) G)) i179_2 rfl (bM_put (j := 0) (fs := mF B s) rfl (Nat.le_of_ble_eq_true rfl) hN (gm_fit_i _) rfl) ?_
  refine gm_ev.iload_n i179_5 rfl ?_
  refine gm_ev.if_lt_f i179_6 c1 ?_
  refine gm_ev.iload_n i179_9 rfl ?_
  refine gm_ev.iconst (v := 3) i179_10 (by decide) ?_
  refine gm_ev.icmp_gt_f i179_11 c2 ?_
  refine gm_ev.iload_n i179_14 rfl ?_
  refine gm_ev.if_lt_f i179_15 c3 ?_
  refine gm_ev.iload_n i179_18 rfl ?_
  refine gm_ev.if_lt_f i179_19 c4 ?_
  refine gm_ev.aload_n i179_22 rfl ?_
  refine gm_ev.getfield (v := .int (s.1 5)) i179_23 rfl (bM_fld (j := 0) (fs := mF B (mI s 0 (0 : Int32))) rfl rfl) ?_
  refine gm_ev.if_eq_f i179_26 c5 ?_
  refine gm_ev.iload_n i179_29 rfl ?_
  refine gm_ev.iconst (v := 1) i179_30 (by decide) ?_
  refine gm_ev.icmp_le_t (tgt := 46) i179_31 (by decide) c6 ?_
  refine gm_ev.aload_n i179_46 rfl ?_
  refine gm_ev.callV gm_mono_run (av := []) (r := []) (ci := 11) (fs := mF B (mI s 0 (0 : Int32))) (bM_get (j := 0) rfl) i179_47 rfl rfl rfl (Nat.le_of_ble_eq_true rfl) t7 ?_
  refine gm_ev.iload_n i179_50 rfl ?_
  refine gm_ev.iconst (v := 1) i179_51 (by decide) ?_
  refine gm_ev.icmp_le_f i179_52 c9 ?_
  refine gm_ev.aload_n i179_55 rfl ?_
  refine gm_ev.iload_n i179_56 rfl ?_
  refine gm_ev.iconst (v := 2) i179_57 (by decide) ?_
  refine gm_ev.isub i179_58 ?_
  refine gm_ev.callV gm_mono_run (av := [.int (p0 - (2 : Int32))]) (r := []) (ci := 11) (fs := mF B s8) (bM_get (j := 0) rfl) i179_59 rfl rfl rfl (Nat.le_of_ble_eq_true rfl) t10 ?_
  refine gm_ev.iload_n i179_62 rfl ?_
  refine gm_ev.if_ne_t (tgt := 73) i179_63 (by decide) c12 ?_
  refine gm_ev.iload_n i179_73 rfl ?_
  refine gm_ev.iconst (v := 1) i179_74 (by decide) ?_
  refine gm_ev.icmp_ne_f i179_75 c13 ?_
  refine gm_ev.aload_n i179_78 rfl ?_
  refine gm_ev.getfield (v := .int (s11.1 30)) i179_79 rfl (bM_fld (j := 0) (fs := mF B s11) rfl rfl) ?_
  refine gm_ev.goto (tgt := 89) i179_82 (by decide) ?_
  refine gm_ev.istore (ls' := [some (.ref B), some (.int p0), some (.int p1), some (.int p2), some (.int (s11.1 30)), none]) i179_89 (Nat.le_of_ble_eq_true rfl) rfl ?_
  refine gm_ev.iload_n i179_91 rfl ?_
  refine gm_ev.iload i179_92 rfl ?_
  refine gm_ev.icmp_lt_t (tgt := 99) i179_94 (by decide) c14 ?_
  refine gm_ev.iload_n i179_99 rfl ?_
  refine gm_ev.if_ne_t (tgt := 112) i179_100 (by decide) c15 ?_
  refine gm_ev.iload_n i179_112 rfl ?_
  refine gm_ev.iconst (v := 1) i179_113 (by decide) ?_
  refine gm_ev.icmp_ne_f i179_114 c16 ?_
  refine gm_ev.aload_n i179_117 rfl ?_
  refine gm_ev.getfield (v := .ref (B + 17)) i179_118 rfl (bM_fld (j := 0) (fs := mF B s11) rfl rfl) ?_
  refine gm_ev.iload_n i179_121 rfl ?_
  refine gm_ev.laload i179_122 (bM_al (j := 17) (n := 24) (fl := s11.2.2 29) rfl ek17 lk17 (by decide)) ?_
  refine gm_ev.goto (tgt := 132) i179_123 (by decide) ?_
  refine gm_ev.iload_n i179_132 rfl ?_
  refine gm_ev.bipush (v := 8) i179_133 (by decide) ?_
  refine gm_ev.icmp_le_f i179_135 c18 ?_
  refine gm_ev.bipush (v := 8) i179_138 (by decide) ?_
  refine gm_ev.goto (tgt := 144) i179_140 (by decide) ?_
  refine gm_ev.callS gm_mono_run (av := [.long (s11.2.2 29 k17), .int (8 : Int32)]) (r := []) i179_144 rfl rfl rfl (Nat.le_of_ble_eq_true rfl) t20 ?_
  refine gm_ev.istore (ls' := [some (.ref B), some (.int p0), some (.int p1), some (.int p2), some (.int (s11.1 30)), some (.int r19)]) i179_147 (Nat.le_of_ble_eq_true rfl) rfl ?_
  refine gm_ev.iload i179_149 rfl ?_
  refine gm_ev.if_ne_f i179_151 c21 ?_
  refine gm_ev.iconst (v := -1) i179_154 (by decide) ?_
  refine gm_ev.goto (tgt := 160) i179_155 (by decide) ?_
  exact gm_ev.iret i179_160 rfl
theorem r_letter_0_ffffftftftftt {N0 : Nat} {K : Nat → Nat} {d B : Nat} {s : mS} {G : gm_H} {sz sl : Nat} {p0 : Int32} {p1 : Int32} {p2 : Int32} {s8 : mS} {s11 : mS} {k16 : Nat} {r18 : Int32} (hN : N0 ≤ B) (c1 : ¬ p0 < 0) (c2 : ¬ (3 : Int32) < p0) (c3 : ¬ p1 < 0) (c4 : ¬ p2 < 0) (c5 : ¬ (s.1 5) = 0) (c6 : p0 ≤ (1 : Int32)) (t7 : gm_to N0 K ra_nm (ra_mt K) d 161 [.ref B] (bM B (mH B (mI s 0 (0 : Int32))) G) sz (.returned none, bM B (mH B s8) G, sz, 0)) (c9 : ¬ p0 ≤ (1 : Int32)) (t10 : gm_to N0 K ra_nm (ra_mt K) d 171 [.ref B, .int (p0 - (2 : Int32))] (bM B (mH B s8) G) sz (.returned none, bM B (mH B s11) G, sz, 0)) (c12 : ¬ p0 = 0) (c13 : p0 = (1 : Int32)) (c14 : p1 < (s11.1 30)) (c15 : p0 = 0) (ek16 : p1 = nI k16) (lk16 : k16 < 24) (c17 : p2 ≤ (8 : Int32)) (t19 : gm_to N0 K ra_nm (ra_mt K) d 147 [.long (s11.2.2 35 k16), .int p2] (bM B (mH B s11) G) sz (.returned (some (.int r18)), bM B (mH B s11) G, sz, 0)) (c20 : ¬ r18 = 0) : gm_ev N0 K ra_nm (ra_mt K) d (some .int) (gm_I cX12_letter) (gm_lkf (lkX12 false K)) 0 [some (.ref B), some (.int p0), some (.int p1), some (.int p2), none, none] [] (bM B (mH B s) G) sz sl (.returned (some (.int r18)), (bM B (mH B s11) G), sz, sl) := by
  refine gm_ev.aload_n i179_0 rfl ?_
  refine gm_ev.iconst (v := 0) i179_1 (by decide) ?_
  refine gm_ev.putfield (M' := (bM B (mH B (mI s 0 (0 : Int32))) G)) i179_2 rfl (bM_put (j := 0) (fs := mF B s) rfl (Nat.le_of_ble_eq_true rfl) hN (gm_fit_i _) rfl) ?_
  refine gm_ev.iload_n i179_5 rfl ?_
  refine gm_ev.if_lt_f i179_6 c1 ?_
  refine gm_ev.iload_n i179_9 rfl ?_
  refine gm_ev.iconst (v := 3) i179_10 (by decide) ?_
  refine gm_ev.icmp_gt_f i179_11 c2 ?_
  refine gm_ev.iload_n i179_14 rfl ?_
  refine gm_ev.if_lt_f i179_15 c3 ?_
  refine gm_ev.iload_n i179_18 rfl ?_
  refine gm_ev.if_lt_f i179_19 c4 ?_
  refine gm_ev.aload_n i179_22 rfl ?_
  refine gm_ev.getfield (v := .int (s.1 5)) i179_23 rfl (bM_fld (j := 0) (fs := mF B (mI s 0 (0 : Int32))) rfl rfl) ?_
  refine gm_ev.if_eq_f i179_26 c5 ?_
  refine gm_ev.iload_n i179_29 rfl ?_
  refine gm_ev.iconst (v := 1) i179_30 (by decide) ?_
  refine gm_ev.icmp_le_t (tgt := 46) i179_31 (by decide) c6 ?_
  refine gm_ev.aload_n i179_46 rfl ?_
  refine gm_ev.callV gm_mono_run (av := []) (r := []) (ci := 11) (fs := mF B (mI s 0 (0 : Int32))) (bM_get (j := 0) rfl) i179_47 rfl rfl rfl (Nat.le_of_ble_eq_true rfl) t7 ?_
  refine gm_ev.iload_n i179_50 rfl ?_
  refine gm_ev.iconst (v := 1) i179_51 (by decide) ?_
  refine gm_ev.icmp_le_f i179_52 c9 ?_
  refine gm_ev.aload_n i179_55 rfl ?_
  refine gm_ev.iload_n i179_56 rfl ?_
  refine gm_ev.iconst (v := 2) i179_57 (by decide) ?_
  refine gm_ev.isub i179_58 ?_
  refine gm_ev.callV gm_mono_run (av := [.int (p0 - (2 : Int32))]) (r := []) (ci := 11) (fs := mF B s8) (bM_get (j := 0) rfl) i179_59 rfl rfl rfl (Nat.le_of_ble_eq_true rfl) t10 ?_
  refine gm_ev.iload_n i179_62 rfl ?_
  refine gm_ev.if_ne_t (tgt := 73) i179_63 (by decide) c12 ?_
  refine gm_ev.iload_n i179_73 rfl ?_
  refine gm_ev.iconst (v := 1) i179_74 (by decide) ?_
  refine gm_ev.icmp_ne_f i179_75 c13 ?_
  refine gm_ev.aload_n i179_78 rfl ?_
  refine gm_ev.getfield (v := .int (s11.1 30)) i179_79 rfl (bM_fld (j := 0) (fs := mF B s11) rfl rfl) ?_
  refine gm_ev.goto (tgt := 89) i179_82 (by decide) ?_
  refine gm_ev.istore (ls' := [some (.ref B), some (.int p0), some (.int p1), some (.int p2), some (.int (s11.1 30)), none]) i179_89 (Nat.le_of_ble_eq_true rfl) rfl ?_
  refine gm_ev.iload_n i179_91 rfl ?_
  refine gm_ev.iload i179_92 rfl ?_
  refine gm_ev.icmp_lt_t (tgt := 99) i179_94 (by decide) c14 ?_
  refine gm_ev.iload_n i179_99 rfl ?_
  refine gm_ev.if_ne_f i179_100 c15 ?_
  refine gm_ev.aload_n i179_103 rfl ?_
  refine gm_ev.getfield (v := .ref (B + 20)) i179_104 rfl (bM_fld (j := 0) (fs := mF B s11) rfl rfl) ?_
  refine gm_ev.iload_n i179_107 rfl ?_
  refine gm_ev.laload i179_108 (bM_al (j := 20) (n := 24) (fl := s11.2.2 35) rfl ek16 lk16 (by decide)) ?_
  refine gm_ev.goto (tgt := 132) i179_109 (by decide) ?_
  refine gm_ev.iload_n i179_132 rfl ?_
  refine gm_ev.bipush (v := 8) i179_133 (by decide) ?_
  refine gm_ev.icmp_le_t (tgt := 143) i179_135 (by decide) c17 ?_
  refine gm_ev.iload_n i179_143 rfl ?_
  refine gm_ev.callS gm_mono_run (av := [.long (s11.2.2 35 k16), .int p2]) (r := []) i179_144 rfl rfl rfl (Nat.le_of_ble_eq_true rfl) t19 ?_
  refine gm_ev.istore (ls' := [some (.ref B), some (.int p0), some (.int p1), some (.int p2), some (.int (s11.1 30)), some (.int r18)]) i179_147 (Nat.le_of_ble_eq_true rfl) rfl ?_
  refine gm_ev.iload i179_149 rfl ?_
  refine gm_ev.if_ne_t (tgt := 158) i179_151 (by decide) c20 ?_
  refine gm_ev.iload i179_158 rfl ?_
  exact gm_ev.iret i179_160 rfl
theorem r_letter_0_ffffftftftftf {N0 : Nat} {K : Nat → Nat} {d B : Nat} {s : mS} {G : gm_H} {sz sl : Nat} {p0 : Int32} {p1 : Int32} {p2 : Int32} {s8 : mS} {s11 : mS} {k16 : Nat} {r18 : Int32} (hN : N0 ≤ B) (c1 : ¬ p0 < 0) (c2 : ¬ (3 : Int32) < p0) (c3 : ¬ p1 < 0) (c4 : ¬ p2 < 0) (c5 : ¬ (s.1 5) = 0) (c6 : p0 ≤ (1 : Int32)) (t7 : gm_to N0 K ra_nm (ra_mt K) d 161 [.ref B] (bM B (mH B (mI s 0 (0 : Int32))) G) sz (.returned none, bM B (mH B s8) G, sz, 0)) (c9 : ¬ p0 ≤ (1 : Int32)) (t10 : gm_to N0 K ra_nm (ra_mt K) d 171 [.ref B, .int (p0 - (2 : Int32))] (bM B (mH B s8) G) sz (.returned none, bM B (mH B s11) G, sz, 0)) (c12 : ¬ p0 = 0) (c13 : p0 = (1 : Int32)) (c14 : p1 < (s11.1 30)) (c15 : p0 = 0) (ek16 : p1 = nI k16) (lk16 : k16 < 24) (c17 : p2 ≤ (8 : Int32)) (t19 : gm_to N0 K ra_nm (ra_mt K) d 147 [.long (s11.2.2 35 k16), .int p2] (bM B (mH B s11) G) sz (.returned (some (.int r18)), bM B (mH B s11) G, sz, 0)) (c20 : r18 = 0) : gm_ev N0 K ra_nm (ra_mt K) d (some .int) (gm_I cX12_letter) (gm_lkf (lkX12 false K)) 0 [some (.ref B), some (.int p0), some (.int p1), some (.int p2), none, none] [] (bM B (mH B s) G) sz sl (.returned (some (.int (-1 : Int32))), (bM B (mH B s11) G), sz, sl) := by
  refine gm_ev.aload_n i179_0 rfl ?_
  refine gm_ev.iconst (v := 0) i179_1 (by decide) ?_
  refine gm_ev.putfield (M' := (bM B (mH B (mI s 0 (0 : Int32))) G)) i179_2 rfl (bM_put (j := 0) (fs := mF B s) rfl (Nat.le_of_ble_eq_true rfl) hN (gm_fit_i _) rfl) ?_
  refine gm_ev.iload_n i179_5 rfl ?_
  refine gm_ev.if_lt_f i179_6 c1 ?_
  refine gm_ev.iload_n i179_9 rfl ?_
  refine gm_ev.iconst (v := 3) i179_10 (by decide) ?_
  refine gm_ev.icmp_gt_f i179_11 c2 ?_
  refine gm_ev.iload_n i179_14 rfl ?_
  refine gm_ev.if_lt_f i179_15 c3 ?_
  refine gm_ev.iload_n i179_18 rfl ?_
  refine gm_ev.if_lt_f i179_19 c4 ?_
  refine gm_ev.aload_n i179_22 rfl ?_
  refine gm_ev.getfield (v := .int (s.1 5)) i179_23 rfl (bM_fld (j := 0) (fs := mF B (mI s 0 (0 : Int32))) rfl rfl) ?_
  refine gm_ev.if_eq_f i179_26 c5 ?_
  refine gm_ev.iload_n i179_29 rfl ?_
  refine gm_ev.iconst (v := 1) i179_30 (by decide) ?_
  refine gm_ev.icmp_le_t (tgt := 46) i179_31 (by decide) c6 ?_
  refine gm_ev.aload_n i179_46 rfl ?_
  refine gm_ev.callV gm_mono_run (av := []) (r := []) (ci := 11) (fs := mF B (mI s 0 (0 : Int32))) (bM_get (j := 0) rfl) i179_47 rfl rfl rfl (Nat.le_of_ble_eq_true rfl) t7 ?_
  refine gm_ev.iload_n i179_50 rfl ?_
  refine gm_ev.iconst (v := 1) i179_51 (by decide) ?_
  refine gm_ev.icmp_le_f i179_52 c9 ?_
  refine gm_ev.aload_n i179_55 rfl ?_
  refine gm_ev.iload_n i179_56 rfl ?_
  refine gm_ev.iconst (v := 2) i179_57 (by decide) ?_
  refine gm_ev.isub i179_58 ?_
  refine gm_ev.callV gm_mono_run (av := [.int (p0 - (2 : Int32))]) (r := []) (ci := 11) (fs := mF B s8) (bM_get (j := 0) rfl) i179_59 rfl rfl rfl (Nat.le_of_ble_eq_true rfl) t10 ?_
  refine gm_ev.iload_n i179_62 rfl ?_
  refine gm_ev.if_ne_t (tgt := 73) i179_63 (by decide) c12 ?_
  refine gm_ev.iload_n i179_73 rfl ?_
  refine gm_ev.iconst (v := 1) i179_74 (by decide) ?_
  refine gm_ev.icmp_ne_f i179_75 c13 ?_
  refine gm_ev.aload_n i179_78 rfl ?_
  refine gm_ev.getfield (v := .int (s11.1 30)) i179_79 rfl (bM_fld (j := 0) (fs := mF B s11) rfl rfl) ?_
  refine gm_ev.goto (tgt := 89) i179_82 (by decide) ?_
  refine gm_ev.istore (ls' := [some (.ref B), some (.int p0), some (.int p1), some (.int p2), some (.int (s11.1 30)), none]) i179_89 (Nat.le_of_ble_eq_true rfl) rfl ?_
  refine gm_ev.iload_n i179_91 rfl ?_
  refine gm_ev.iload i179_92 rfl ?_
  refine gm_ev.icmp_lt_t (tgt := 99) i179_94 (by decide) c14 ?_
  refine gm_ev.iload_n i179_99 rfl ?_
  refine gm_ev.if_ne_f i179_100 c15 ?_
  refine gm_ev.aload_n i179_103 rfl ?_
  refine gm_ev.getfield (v := .ref (B + 20)) i179_104 rfl (bM_fld (j := 0) (fs := mF B s11) rfl rfl) ?_
  refine gm_ev.iload_n i179_107 rfl ?_
  refine gm_ev.laload i179_108 (bM_al (j := 20) (n := 24) (fl := s11.2.2 35) rfl ek16 lk16 (by decide)) ?_
  refine gm_ev.goto (tgt := 132) i179_109 (by decide) ?_
  refine gm_ev.iload_n i179_132 rfl ?_
  refine gm_ev.bipush (v := 8) i179_133 (by decide) ?_
  refine gm_ev.icmp_le_t (tgt := 143) i179_135 (by decide) c17 ?_
  refine gm_ev.iload_n i179_143 rfl ?_
  refine gm_ev.callS gm_mono_run (av := [.long (s11.2.2 35 k16), .int p2]) (r := []) i179_144 rfl rfl rfl (Nat.le_of_ble_eq_true rfl) t19 ?_
  refine gm_ev.istore (ls' := [some (.ref B), some (.int p0), some (.int p1), some (.int p2), some (.int (s11.1 30)), some (.int r18)]) i179_147 (Nat.le_of_ble_eq_true rfl) rfl ?_
  refine gm_ev.iload i179_149 rfl ?_
  refine gm_ev.if_ne_f i179_151 c20 ?_
  refine gm_ev.iconst (v := -1) i179_154 (by decide) ?_
  refine gm_ev.goto (tgt := 160) i179_155 (by decide) ?_
  exact gm_ev.iret i179_160 rfl
theorem r_letter_0_ffffftftftfft {N0 : Nat} {K : Nat → Nat} {d B : Nat} {s : mS} {G : gm_H} {sz sl : Nat} {p0 : Int32} {p1 : Int32} {p2 : Int32} {s8 : mS} {s11 : mS} {k16 : Nat} {r18 : Int32} (hN : N0 ≤ B) (c1 : ¬ p0 < 0) (c2 : ¬ (3 : Int32) < p0) (c3 : ¬ p1 < 0) (c4 : ¬ p2 < 0) (c5 : ¬ (s.1 5) = 0) (c6 : p0 ≤ (1 : Int32)) (t7 : gm_to N0 K ra_nm (ra_mt K) d 161 [.ref B] (bM B (mH B (mI s 0 (0 : Int32))) G) sz (.returned none, bM B (mH B s8) G, sz, 0)) (c9 : ¬ p0 ≤ (1 : Int32)) (t10 : gm_to N0 K ra_nm (ra_mt K) d 171 [.ref B, .int (p0 - (2 : Int32))] (bM B (mH B s8) G) sz (.returned none, bM B (mH B s11) G, sz, 0)) (c12 : ¬ p0 = 0) (c13 : p0 = (1 : Int32)) (c14 : p1 < (s11.1 30)) (c15 : p0 = 0) (ek16 : p1 = nI k16) (lk16 : k16 < 24) (c17 : ¬ p2 ≤ (8 : Int32)) (t19 : gm_to N0 K ra_nm (ra_mt K) d 147 [.long (s11.2.2 35 k16), .int (8 : Int32)] (bM B (mH B s11) G) sz (.returned (some (.int r18)), bM B (mH B s11) G, sz, 0)) (c20 : ¬ r18 = 0) : gm_ev N0 K ra_nm (ra_mt K) d (some .int) (gm_I cX12_letter) (gm_lkf (lkX12 false K)) 0 [some (.ref B), some (.int p0), some (.int p1), some (.int p2), none, none] [] (bM B (mH B s) G) sz sl (.returned (some (.int r18)), (bM B (mH B s11) G), sz, sl) := by
  refine gm_ev.aload_n i179_0 rfl ?_
  refine gm_ev.iconst (v := 0) i179_1 (by decide) ?_
  refine gm_ev.putfield (M' := (bM B (mH B (mI s 0 (0 : Int32))) G)) i179_2 rfl (bM_put (j := 0) (fs := mF B s) rfl (Nat.le_of_ble_eq_true rfl) hN (gm_fit_i _) rfl) ?_
  refine gm_ev.iload_n i179_5 rfl ?_
  refine gm_ev.if_lt_f i179_6 c1 ?_
  refine gm_ev.iload_n i179_9 rfl ?_
  refine gm_ev.iconst (v := 3) i179_10 (by decide) ?_
  refine gm_ev.icmp_gt_f i179_11 c2 ?_
  refine gm_ev.iload_n i179_14 rfl ?_
  refine gm_ev.if_lt_f i179_15 c3 ?_
  refine gm_ev.iload_n i179_18 rfl ?_
  refine gm_ev.if_lt_f i179_19 c4 ?_
  refine gm_ev.aload_n i179_22 rfl ?_
  refine gm_ev.getfield (v := .int (s.1 5)) i179_23 rfl (bM_fld (j := 0) (fs := mF B (mI s 0 (0 : Int32))) rfl rfl) ?_
  refine gm_ev.if_eq_f i179_26 c5 ?_
  refine gm_ev.iload_n i179_29 rfl ?_
  refine gm_ev.iconst (v := 1) i179_30 (by decide) ?_
  refine gm_ev.icmp_le_t (tgt := 46) i179_31 (by decide) c6 ?_
  refine gm_ev.aload_n i179_46 rfl ?_
  refine gm_ev.callV gm_mono_run (av := []) (r := []) (ci := 11) (fs := mF B (mI s 0 (0 : Int32))) (bM_get (j := 0) rfl) i179_47 rfl rfl rfl (Nat.le_of_ble_eq_true rfl) t7 ?_
  refine gm_ev.iload_n i179_50 rfl ?_
  refine gm_ev.iconst (v := 1) i179_51 (by decide) ?_
  refine gm_ev.icmp_le_f i179_52 c9 ?_
  refine gm_ev.aload_n i179_55 rfl ?_
  refine gm_ev.iload_n i179_56 rfl ?_
  refine gm_ev.iconst (v := 2) i179_57 (by decide) ?_
  refine gm_ev.isub i179_58 ?_
  refine gm_ev.callV gm_mono_run (av := [.int (p0 - (2 : Int32))]) (r := []) (ci := 11) (fs := mF B s8) (bM_get (j := 0) rfl) i179_59 rfl rfl rfl (Nat.le_of_ble_eq_true rfl) t10 ?_
  refine gm_ev.iload_n i179_62 rfl ?_
  refine gm_ev.if_ne_t (tgt := 73) i179_63 (by decide) c12 ?_
  refine gm_ev.iload_n i179_73 rfl ?_
  refine gm_ev.iconst (v := 1) i179_74 (by decide) ?_
  refine gm_ev.icmp_ne_f i179_75 c13 ?_
  refine gm_ev.aload_n i179_78 rfl ?_
  refine gm_ev.getfield (v := .int (s11.1 30)) i179_79 rfl (bM_fld (j := 0) (fs := mF B s11) rfl rfl) ?_
  refine gm_ev.goto (tgt := 89) i179_82 (by decide) ?_
  refine gm_ev.istore (ls' := [some (.ref B), some (.int p0), some (.int p1), some (.int p2), some (.int (s11.1 30)), none]) i179_89 (Nat.le_of_ble_eq_true rfl) rfl ?_
  refine gm_ev.iload_n i179_91 rfl ?_
  refine gm_ev.iload i179_92 rfl ?_
  refine gm_ev.icmp_lt_t (tgt := 99) i179_94 (by decide) c14 ?_
  refine gm_ev.iload_n i179_99 rfl ?_
  refine gm_ev.if_ne_f i179_100 c15 ?_
  refine gm_ev.aload_n i179_103 rfl ?_
  refine gm_ev.getfield (v := .ref (B + 20)) i179_104 rfl (bM_fld (j := 0) (fs := mF B s11) rfl rfl) ?_
  refine gm_ev.iload_n i179_107 rfl ?_
  refine gm_ev.laload i179_108 (bM_al (j := 20) (n := 24) (fl := s11.2.2 35) rfl ek16 lk16 (by decide)) ?_
  refine gm_ev.goto (tgt := 132) i179_109 (by decide) ?_
  refine gm_ev.iload_n i179_132 rfl ?_
  refine gm_ev.bipush (v := 8) i179_133 (by decide) ?_
  refine gm_ev.icmp_le_f i179_135 c17 ?_
  refine gm_ev.bipush (v := 8) i179_138 (by decide) ?_
  refine gm_ev.goto (tgt := 144) i179_140 (by decide) ?_
  refine gm_ev.callS gm_mono_run (av := [.long (s11.2.2 35 k16), .int (8 : Int32)]) (r := []) i179_144 rfl rfl rfl (Nat.le_of_ble_eq_true rfl) t19 ?_
  refine gm_ev.istore (ls' := [some (.ref B), some (.int p0), some (.int p1), some (.int p2), some (.int (s11.1 30)), some (.int r18)]) i179_147 (Nat.le_of_ble_eq_true rfl) rfl ?_
  refine gm_ev.iload i179_149 rfl ?_
  refine gm_ev.if_ne_t (tgt := 158) i179_151 (by decide) c20 ?_
  refine gm_ev.iload i179_158 rfl ?_
  exact gm_ev.iret i179_160 rfl
theorem r_letter_0_ffffftftftfff {N0 : Nat} {K : Nat → Nat} {d B : Nat} {s : mS} {G : gm_H} {sz sl : Nat} {p0 : Int32} {p1 : Int32} {p2 : Int32} {s8 : mS} {s11 : mS} {k16 : Nat} {r18 : Int32} (hN : N0 ≤ B) (c1 : ¬ p0 < 0) (c2 : ¬ (3 : Int32) < p0) (c3 : ¬ p1 < 0) (c4 : ¬ p2 < 0) (c5 : ¬ (s.1 5) = 0) (c6 : p0 ≤ (1 : Int32)) (t7 : gm_to N0 K ra_nm (ra_mt K) d 161 [.ref B] (bM B (mH B (mI s 0 (0 : Int32))) G) sz (.returned none, bM B (mH B s8) G, sz, 0)) (c9 : ¬ p0 ≤ (1 : Int32)) (t10 : gm_to N0 K ra_nm (ra_mt K) d 171 [.ref B, .int (p0 - (2 : Int32))] (bM B (mH B s8) G) sz (.returned none, bM B (mH B s11) G, sz, 0)) (c12 : ¬ p0 = 0) (c13 : p0 = (1 : Int32)) (c14 : p1 < (s11.1 30)) (c15 : p0 = 0) (ek16 : p1 = nI k16) (lk16 : k16 < 24) (c17 : ¬ p2 ≤ (8 : Int32)) (t19 : gm_to N0 K ra_nm (ra_mt K) d 147 [.long (s11.2.2 35 k16), .int (8 : Int32)] (bM B (mH B s11) G) sz (.returned (some (.int r18)), bM B (mH B s11) G, sz, 0)) (c20 : r18 = 0) : gm_ev N0 K ra_nm (ra_mt K) d (some .int) (gm_I cX12_letter) (gm_lkf (lkX12 false K)) 0 [some (.ref B), some (.int p0), some (.int p1), some (.int p2), none, none] [] (bM B (mH B s) G) sz sl (.returned (some (.int (-1 : Int32))), (bM B (mH B s11) G), sz, sl) := by
  refine gm_ev.aload_n i179_0 rfl ?_
  refine gm_ev.iconst (v := 0) i179_1 (by decide) ?_
  refine gm_ev.putfield (M' := (bM B (mH B (mI s 0 (0 : Int32))) G)) i179_2 rfl (bM_put (j := 0) (fs := mF B s) rfl (Nat.le_of_ble_eq_true rfl) hN (gm_fit_i _) rfl) ?_
  refine gm_ev.iload_n i179_5 rfl ?_
  refine gm_ev.if_lt_f i179_6 c1 ?_
  refine gm_ev.iload_n i179_9 rfl ?_
  refine gm_ev.iconst (v := 3) i179_10 (by decide) ?_
  refine gm_ev.icmp_gt_f i179_11 c2 ?_
  refine gm_ev.iload_n i179_14 rfl ?_
  refine gm_ev.if_lt_f i179_15 c3 ?_
  refine gm_ev.iload_n i179_18 rfl ?_
  refine gm_ev.if_lt_f i179_19 c4 ?_
  refine gm_ev.aload_n i179_22 rfl ?_
  refine gm_ev.getfield (v := .int (s.1 5)) i179_23 rfl (bM_fld (j := 0) (fs := mF B (mI s 0 (0 : Int32))) rfl rfl) ?_
  refine gm_ev.if_eq_f i179_26 c5 ?_
  refine gm_ev.iload_n i179_29 rfl ?_
  refine gm_ev.iconst (v := 1) i179_30 (by decide) ?_
  refine gm_ev.icmp_le_t (tgt := 46) i179_31 (by decide) c6 ?_
  refine gm_ev.aload_n i179_46 rfl ?_
  refine gm_ev.callV gm_mono_run (av := []) (r := []) (ci := 11) (fs := mF B (mI s 0 (0 : Int32))) (bM_get (j := 0) rfl) i179_47 rfl rfl rfl (Nat.le_of_ble_eq_true rfl) t7 ?_
  refine gm_ev.iload_n i179_50 rfl ?_
  refine gm_ev.iconst (v := 1) i179_51 (by decide) ?_
  refine gm_ev.icmp_le_f i179_52 c9 ?_
  refine gm_ev.aload_n i179_55 rfl ?_
  refine gm_ev.iload_n i179_56 rfl ?_
  refine gm_ev.iconst (v := 2) i179_57 (by decide) ?_
  refine gm_ev.isub i179_58 ?_
  refine gm_ev.callV gm_mono_run (av := [.int (p0 - (2 : Int32))]) (r := []) (ci := 11) (fs := mF B s8) (bM_get (j := 0) rfl) i179_59 rfl rfl rfl (Nat.le_of_ble_eq_true rfl) t10 ?_
  refine gm_ev.iload_n i179_62 rfl ?_
  refine gm_ev.if_ne_t (tgt := 73) i179_63 (by decide) c12 ?_
  refine gm_ev.iload_n i179_73 rfl ?_
  refine gm_ev.iconst (v := 1) i179_74 (by decide) ?_
  refine gm_ev.icmp_ne_f i179_75 c13 ?_
  refine gm_ev.aload_n i179_78 rfl ?_
  refine gm_ev.getfield (v := .int (s11.1 30)) i179_79 rfl (bM_fld (j := 0) (fs := mF B s11) rfl rfl) ?_
  refine gm_ev.goto (tgt := 89) i179_82 (by decide) ?_
  refine gm_ev.istore (ls' := [some (.ref B), some (.int p0), some (.int p1), some (.int p2), some (.int (s11.1 30)), none]) i179_89 (Nat.le_of_ble_eq_true rfl) rfl ?_
  refine gm_ev.iload_n i179_91 rfl ?_
  refine gm_ev.iload i179_92 rfl ?_
  refine gm_ev.icmp_lt_t (tgt := 99) i179_94 (by decide) c14 ?_
  refine gm_ev.iload_n i179_99 rfl ?_
  refine gm_ev.if_ne_f i179_100 c15 ?_
  refine gm_ev.aload_n i179_103 rfl ?_
  refine gm_ev.getfield (v := .ref (B + 20)) i179_104 rfl (bM_fld (j := 0) (fs := mF B s11) rfl rfl) ?_
  refine gm_ev.iload_n i179_107 rfl ?_
  refine gm_ev.laload i179_108 (bM_al (j := 20) (n := 24) (fl := s11.2.2 35) rfl ek16 lk16 (by decide)) ?_
  refine gm_ev.goto (tgt := 132) i179_109 (by decide) ?_
  refine gm_ev.iload_n i179_132 rfl ?_
  refine gm_ev.bipush (v := 8) i179_133 (by decide) ?_
  refine gm_ev.icmp_le_f i179_135 c17 ?_
  refine gm_ev.bipush (v := 8) i179_138 (by decide) ?_
  refine gm_ev.goto (tgt := 144) i179_140 (by decide) ?_
  refine gm_ev.callS gm_mono_run (av := [.long (s11.2.2 35 k16), .int (8 : Int32)]) (r := []) i179_144 rfl rfl rfl (Nat.le_of_ble_eq_true rfl) t19 ?_
  refine gm_ev.istore (ls' := [some (.ref B), some (.int p0), some (.int p1), some (.int p2), some (.int (s11.1 30)), some (.int r18)]) i179_147 (Nat.le_of_ble_eq_true rfl) rfl ?_
  refine gm_ev.iload i179_149 rfl ?_
  refine gm_ev.if_ne_f i179_151 c20 ?_
  refine gm_ev.iconst (v := -1) i179_154 (by decide) ?_
  refine gm_ev.goto (tgt := 160) i179_155 (by decide) ?_
  exact gm_ev.iret i179_160 rfl
theorem r_letter_0_ffffftftff {N0 : Nat} {K : Nat → Nat} {d B : Nat} {s : mS} {G : gm_H} {sz sl : Nat} {p0 : Int32} {p1 : Int32} {p2 : Int32} {s8 : mS} {s11 : mS} (hN : N0 ≤ B) (c1 : ¬ p0 < 0) (c2 : ¬ (3 : Int32) < p0) (c3 : ¬ p1 < 0) (c4 : ¬ p2 < 0) (c5 : ¬ (s.1 5) = 0) (c6 : p0 ≤ (1 : Int32)) (t7 : gm_to N0 K ra_nm (ra_mt K) d 161 [.ref B] (bM B (mH B (mI s 0 (0 : Int32))) G) sz (.returned none, bM B (mH B s8) G, sz, 0)) (c9 : ¬ p0 ≤ (1 : Int32)) (t10 : gm_to N0 K ra_nm (ra_mt K) d 171 [.ref B, .int (p0 - (2 : Int32))] (bM B (mH B s8) G) sz (.returned none, bM B (mH B s11) G, sz, 0)) (c12 : ¬ p0 = 0) (c13 : p0 = (1 : Int32)) (c14 : ¬ p1 < (s11.1 30)) : gm_ev N0 K ra_nm (ra_mt K) d (some .int) (gm_I cX12_letter) (gm_lkf (lkX12 false K)) 0 [some (.ref B), some (.int p0), some (.int p1), some (.int p2), none, none] [] (bM B (mH B s) G) sz sl (.returned (some (.int (-1 : Int32))), (bM B (mH B s11) G), sz, sl) := by
  refine gm_ev.aload_n i179_0 rfl ?_
  refine gm_ev.iconst (v := 0) i179_1 (by decide) ?_
  refine gm_ev.putfield (M' := (bM B (mH B (mI s 0 (0 : Int32))) G)) i179_2 rfl (bM_put (j := 0) (fs := mF B s) rfl (Nat.le_of_ble_eq_true rfl) hN (gm_fit_i _) rfl) ?_
  refine gm_ev.iload_n i179_5 rfl ?_
  refine gm_ev.if_lt_f i179_6 c1 ?_
  refine gm_ev.iload_n i179_9 rfl ?_
  refine gm_ev.iconst (v := 3) i179_10 (by decide) ?_
  refine gm_ev.icmp_gt_f i179_11 c2 ?_
  refine gm_ev.iload_n i179_14 rfl ?_
  refine gm_ev.if_lt_f i179_15 c3 ?_
  refine gm_ev.iload_n i179_18 rfl ?_
  refine gm_ev.if_lt_f i179_19 c4 ?_
  refine gm_ev.aload_n i179_22 rfl ?_
  refine gm_ev.getfield (v := .int (s.1 5)) i179_23 rfl (bM_fld (j := 0) (fs := mF B (mI s 0 (0 : Int32))) rfl rfl) ?_
  refine gm_ev.if_eq_f i179_26 c5 ?_
  refine gm_ev.iload_n i179_29 rfl ?_
  refine gm_ev.iconst (v := 1) i179_30 (by decide) ?_
  refine gm_ev.icmp_le_t (tgt := 46) i179_31 (by decide) c6 ?_
  refine gm_ev.aload_n i179_46 rfl ?_
  refine gm_ev.callV gm_mono_run (av := []) (r := []) (ci := 11) (fs := mF B (mI s 0 (0 : Int32))) (bM_get (j := 0) rfl) i179_47 rfl rfl rfl (Nat.le_of_ble_eq_true rfl) t7 ?_
  refine gm_ev.iload_n i179_50 rfl ?_
  refine gm_ev.iconst (v := 1) i179_51 (by decide) ?_
  refine gm_ev.icmp_le_f i179_52 c9 ?_
  refine gm_ev.aload_n i179_55 rfl ?_
  refine gm_ev.iload_n i179_56 rfl ?_
  refine gm_ev.iconst (v := 2) i179_57 (by decide) ?_
  refine gm_ev.isub i179_58 ?_
  refine gm_ev.callV gm_mono_run (av := [.int (p0 - (2 : Int32))]) (r := []) (ci := 11) (fs := mF B s8) (bM_get (j := 0) rfl) i179_59 rfl rfl rfl (Nat.le_of_ble_eq_true rfl) t10 ?_
  refine gm_ev.iload_n i179_62 rfl ?_
  refine gm_ev.if_ne_t (tgt := 73) i179_63 (by decide) c12 ?_
  refine gm_ev.iload_n i179_73 rfl ?_
  refine gm_ev.iconst (v := 1) i179_74 (by decide) ?_
  refine gm_ev.icmp_ne_f i179_75 c13 ?_
  refine gm_ev.aload_n i179_78 rfl ?_
  refine gm_ev.getfield (v := .int (s11.1 30)) i179_79 rfl (bM_fld (j := 0) (fs := mF B s11) rfl rfl) ?_
  refine gm_ev.goto (tgt := 89) i179_82 (by decide) ?_
  refine gm_ev.istore (ls' := [some (.ref B), some (.int p0), some (.int p1), some (.int p2), some (.int (s11.1 30)), none]) i179_89 (Nat.le_of_ble_eq_true rfl) rfl ?_
  refine gm_ev.iload_n i179_91 rfl ?_
  refine gm_ev.iload i179_92 rfl ?_
  refine gm_ev.icmp_lt_f i179_94 c14 ?_
  refine gm_ev.iconst (v := -1) i179_97 (by decide) ?_
  exact gm_ev.iret i179_98 rfl
theorem r_letter_0_ffffftffttttt {N0 : Nat} {K : Nat → Nat} {d B : Nat} {s : mS} {G : gm_H} {sz sl : Nat} {p0 : Int32} {p1 : Int32} {p2 : Int32} {s8 : mS} {s11 : mS} {k16 : Nat} {r18 : Int32} (hN : N0 ≤ B) (c1 : ¬ p0 < 0) (c2 : ¬ (3 : Int32) < p0) (c3 : ¬ p1 < 0) (c4 : ¬ p2 < 0) (c5 : ¬ (s.1 5) = 0) (c6 : p0 ≤ (1 : Int32)) (t7 : gm_to N0 K ra_nm (ra_mt K) d 161 [.ref B] (bM B (mH B (mI s 0 (0 : Int32))) G) sz (.returned none, bM B (mH B s8) G, sz, 0)) (c9 : ¬ p0 ≤ (1 : Int32)) (t10 : gm_to N0 K ra_nm (ra_mt K) d 171 [.ref B, .int (p0 - (2 : Int32))] (bM B (mH B s8) G) sz (.returned none, bM B (mH B s11) G, sz, 0)) (c12 : p0 = 0) (c13 : p1 < (s11.1 36)) (c14 : ¬ p0 = 0) (c15 : ¬ p0 = (1 : Int32)) (ek16 : p1 = nI k16) (lk16 : k16 < 201) (c17 : p2 ≤ (8 : Int32)) (t19 : gm_to N0 K ra_nm (ra_mt K) d 147 [.long (s11.2.2 37 k16), .int p2] (bM B (mH B s11) G) sz (.returned (some (.int r18)), bM B (mH B s11) G, sz, 0)) (c20 : ¬ r18 = 0) : gm_ev N0 K ra_nm (ra_mt K) d (some .int) (gm_I cX12_letter) (gm_lkf (lkX12 false K)) 0 [some (.ref B), some (.int p0), some (.int p1), some (.int p2), none, none] [] (bM B (mH B s) G) sz sl (.returned (some (.int r18)), (bM B (mH B s11) G), sz, sl) := by
  refine gm_ev.aload_n i179_0 rfl ?_
  refine gm_ev.iconst (v := 0) i179_1 (by decide) ?_
  refine gm_ev.putfield (M' := (bM B (mH B (mI s 0 (0 : Int32))) G)) i179_2 rfl (bM_put (j := 0) (fs := mF B s) rfl (Nat.le_of_ble_eq_true rfl) hN (gm_fit_i _) rfl) ?_
  refine gm_ev.iload_n i179_5 rfl ?_
  refine gm_ev.if_lt_f i179_6 c1 ?_
  refine gm_ev.iload_n i179_9 rfl ?_
  refine gm_ev.iconst (v := 3) i179_10 (by decide) ?_
  refine gm_ev.icmp_gt_f i179_11 c2 ?_
  refine gm_ev.iload_n i179_14 rfl ?_
  refine gm_ev.if_lt_f i179_15 c3 ?_
  refine gm_ev.iload_n i179_18 rfl ?_
  refine gm_ev.if_lt_f i179_19 c4 ?_
  refine gm_ev.aload_n i179_22 rfl ?_
  refine gm_ev.getfield (v := .int (s.1 5)) i179_23 rfl (bM_fld (j := 0) (fs := mF B (mI s 0 (0 : Int32))) rfl rfl) ?_
  refine gm_ev.if_eq_f i179_26 c5 ?_
  refine gm_ev.iload_n i179_29 rfl ?_
  refine gm_ev.iconst (v := 1) i179_30 (by decide) ?_
  refine gm_ev.icmp_le_t (tgt := 46) i179_31 (by decide) c6 ?_
  refine gm_ev.aload_n i179_46 rfl ?_
  refine gm_ev.callV gm_mono_run (av := []) (r := []) (ci := 11) (fs := mF B (mI s 0 (0 : Int32))) (bM_get (j := 0) rfl) i179_47 rfl rfl rfl (Nat.le_of_ble_eq_true rfl) t7 ?_
  refine gm_ev.iload_n i179_50 rfl ?_
  refine gm_ev.iconst (v := 1) i179_51 (by decide) ?_
  refine gm_ev.icmp_le_f i179_52 c9 ?_
  refine gm_ev.aload_n i179_55 rfl ?_
  refine gm_ev.iload_n i179_56 rfl ?_
  refine gm_ev.iconst (v := 2) i179_57 (by decide) ?_
  refine gm_ev.isub i179_58 ?_
  refine gm_ev.callV gm_mono_run (av := [.int (p0 - (2 : Int32))]) (r := []) (ci := 11) (fs := mF B s8) (bM_get (j := 0) rfl) i179_59 rfl rfl rfl (Nat.le_of_ble_eq_true rfl) t10 ?_
  refine gm_ev.iload_n i179_62 rfl ?_
  refine gm_ev.if_ne_f i179_63 c12 ?_
  refine gm_ev.aload_n i179_66 rfl ?_
  refine gm_ev.getfield (v := .int (s11.1 36)) i179_67 rfl (bM_fld (j := 0) (fs := mF B s11) rfl rfl) ?_
  refine gm_ev.goto (tgt := 89) i179_70 (by decide) ?_
  refine gm_ev.istore (ls' := [some (.ref B), some (.int p0), some (.int p1), some (.int p2), some (.int (s11.1 36)), none]) i179_89 (Nat.le_of_ble_eq_true rfl) rfl ?_
  refine gm_ev.iload_n i179_91 rfl ?_
  refine gm_ev.iload i179_92 rfl ?_
  refine gm_ev.icmp_lt_t (tgt := 99) i179_94 (by decide) c13 ?_
  refine gm_ev.iload_n i179_99 rfl ?_
  refine gm_ev.if_ne_t (tgt := 112) i179_100 (by decide) c14 ?_
  refine gm_ev.iload_n i179_112 rfl ?_
  refine gm_ev.iconst (v := 1) i179_113 (by decide) ?_
  refine gm_ev.icmp_ne_t (tgt := 126) i179_114 (by decide) c15 ?_
  refine gm_ev.aload_n i179_126 rfl ?_
  refine gm_ev.getfield (v := .ref (B + 21)) i179_127 rfl (bM_fld (j := 0) (fs := mF B s11) rfl rfl) ?_
  refine gm_ev.iload_n i179_130 rfl ?_
  refine gm_ev.laload i179_131 (bM_al (j := 21) (n := 201) (fl := s11.2.2 37) rfl ek16 lk16 (by decide)) ?_
  refine gm_ev.iload_n i179_132 rfl ?_
  refine gm_ev.bipush (v := 8) i179_133 (by decide) ?_
  refine gm_ev.icmp_le_t (tgt := 143) i179_135 (by decide) c17 ?_
  refine gm_ev.iload_n i179_143 rfl ?_
  refine gm_ev.callS gm_mono_run (av := [.long (s11.2.2 37 k16), .int p2]) (r := []) i179_144 rfl rfl rfl (Nat.le_of_ble_eq_true rfl) t19 ?_
  refine gm_ev.istore (ls' := [some (.ref B), some (.int p0), some (.int p1), some (.int p2), some (.int (s11.1 36)), some (.int r18)]) i179_147 (Nat.le_of_ble_eq_true rfl) rfl ?_
  refine gm_ev.iload i179_149 rfl ?_
  refine gm_ev.if_ne_t (tgt := 158) i179_151 (by decide) c20 ?_
  refine gm_ev.iload i179_158 rfl ?_
  exact gm_ev.iret i179_160 rfl
theorem r_letter_0_ffffftffttttf {N0 : Nat} {K : Nat → Nat} {d B : Nat} {s : mS} {G : gm_H} {sz sl : Nat} {p0 : Int32} {p1 : Int32} {p2 : Int32} {s8 : mS} {s11 : mS} {k16 : Nat} {r18 : Int32} (hN : N0 ≤ B) (c1 : ¬ p0 < 0) (c2 : ¬ (3 : Int32) < p0) (c3 : ¬ p1 < 0) (c4 : ¬ p2 < 0) (c5 : ¬ (s.1 5) = 0) (c6 : p0 ≤ (1 : Int32)) (t7 : gm_to N0 K ra_nm (ra_mt K) d 161 [.ref B] (bM B (mH B (mI s 0 (0 : Int32))) G) sz (.returned none, bM B (mH B s8) G, sz, 0)) (c9 : ¬ p0 ≤ (1 : Int32)) (t10 : gm_to N0 K ra_nm (ra_mt K) d 171 [.ref B, .int (p0 - (2 : Int32))] (bM B (mH B s8) G) sz (.returned none, bM B (mH B s11) G, sz, 0)) (c12 : p0 = 0) (c13 : p1 < (s11.1 36)) (c14 : ¬ p0 = 0) (c15 : ¬ p0 = (1 : Int32)) (ek16 : p1 = nI k16) (lk16 : k16 < 201) (c17 : p2 ≤ (8 : Int32)) (t19 : gm_to N0 K ra_nm (ra_mt K) d 147 [.long (s11.2.2 37 k16), .int p2] (bM B (mH B s11) G) sz (.returned (some (.int r18)), bM B (mH B s11) G, sz, 0)) (c20 : r18 = 0) : gm_ev N0 K ra_nm (ra_mt K) d (some .int) (gm_I cX12_letter) (gm_lkf (lkX12 false K)) 0 [some (.ref B), some (.int p0), some (.int p1), some (.int p2), none, none] [] (bM B (mH B s) G) sz sl (.returned (some (.int (-1 : Int32))), (bM B (mH B s11) G), sz, sl) := by
  refine gm_ev.aload_n i179_0 rfl ?_
  refine gm_ev.iconst (v := 0) i179_1 (by decide) ?_
  refine gm_ev.putfield (M' := (bM B (mH B (mI s 0 (0 : Int32))) G)) i179_2 rfl (bM_put (j := 0) (fs := mF B s) rfl (Nat.le_of_ble_eq_true rfl) hN (gm_fit_i _) rfl) ?_
  refine gm_ev.iload_n i179_5 rfl ?_
  refine gm_ev.if_lt_f i179_6 c1 ?_
  refine gm_ev.iload_n i179_9 rfl ?_
  refine gm_ev.iconst (v := 3) i179_10 (by decide) ?_
  refine gm_ev.icmp_gt_f i179_11 c2 ?_
  refine gm_ev.iload_n i179_14 rfl ?_
  refine gm_ev.if_lt_f i179_15 c3 ?_
  refine gm_ev.iload_n i179_18 rfl ?_
  refine gm_ev.if_lt_f i179_19 c4 ?_
  refine gm_ev.aload_n i179_22 rfl ?_
  refine gm_ev.getfield (v := .int (s.1 5)) i179_23 rfl (bM_fld (j := 0) (fs := mF B (mI s 0 (0 : Int32))) rfl rfl) ?_
  refine gm_ev.if_eq_f i179_26 c5 ?_
  refine gm_ev.iload_n i179_29 rfl ?_
  refine gm_ev.iconst (v := 1) i179_30 (by decide) ?_
  refine gm_ev.icmp_le_t (tgt := 46) i179_31 (by decide) c6 ?_
  refine gm_ev.aload_n i179_46 rfl ?_
  refine gm_ev.callV gm_mono_run (av := []) (r := []) (ci := 11) (fs := mF B (mI s 0 (0 : Int32))) (bM_get (j := 0) rfl) i179_47 rfl rfl rfl (Nat.le_of_ble_eq_true rfl) t7 ?_
  refine gm_ev.iload_n i179_50 rfl ?_
  refine gm_ev.iconst (v := 1) i179_51 (by decide) ?_
  refine gm_ev.icmp_le_f i179_52 c9 ?_
  refine gm_ev.aload_n i179_55 rfl ?_
  refine gm_ev.iload_n i179_56 rfl ?_
  refine gm_ev.iconst (v := 2) i179_57 (by decide) ?_
  refine gm_ev.isub i179_58 ?_
  refine gm_ev.callV gm_mono_run (av := [.int (p0 - (2 : Int32))]) (r := []) (ci := 11) (fs := mF B s8) (bM_get (j := 0) rfl) i179_59 rfl rfl rfl (Nat.le_of_ble_eq_true rfl) t10 ?_
  refine gm_ev.iload_n i179_62 rfl ?_
  refine gm_ev.if_ne_f i179_63 c12 ?_
  refine gm_ev.aload_n i179_66 rfl ?_
  refine gm_ev.getfield (v := .int (s11.1 36)) i179_67 rfl (bM_fld (j := 0) (fs := mF B s11) rfl rfl) ?_
  refine gm_ev.goto (tgt := 89) i179_70 (by decide) ?_
  refine gm_ev.istore (ls' := [some (.ref B), some (.int p0), some (.int p1), some (.int p2), some (.int (s11.1 36)), none]) i179_89 (Nat.le_of_ble_eq_true rfl) rfl ?_
  refine gm_ev.iload_n i179_91 rfl ?_
  refine gm_ev.iload i179_92 rfl ?_
  refine gm_ev.icmp_lt_t (tgt := 99) i179_94 (by decide) c13 ?_
  refine gm_ev.iload_n i179_99 rfl ?_
  refine gm_ev.if_ne_t (tgt := 112) i179_100 (by decide) c14 ?_
  refine gm_ev.iload_n i179_112 rfl ?_
  refine gm_ev.iconst (v := 1) i179_113 (by decide) ?_
  refine gm_ev.icmp_ne_t (tgt := 126) i179_114 (by decide) c15 ?_
  refine gm_ev.aload_n i179_126 rfl ?_
  refine gm_ev.getfield (v := .ref (B + 21)) i179_127 rfl (bM_fld (j := 0) (fs := mF B s11) rfl rfl) ?_
  refine gm_ev.iload_n i179_130 rfl ?_
  refine gm_ev.laload i179_131 (bM_al (j := 21) (n := 201) (fl := s11.2.2 37) rfl ek16 lk16 (by decide)) ?_
  refine gm_ev.iload_n i179_132 rfl ?_
  refine gm_ev.bipush (v := 8) i179_133 (by decide) ?_
  refine gm_ev.icmp_le_t (tgt := 143) i179_135 (by decide) c17 ?_
  refine gm_ev.iload_n i179_143 rfl ?_
  refine gm_ev.callS gm_mono_run (av := [.long (s11.2.2 37 k16), .int p2]) (r := []) i179_144 rfl rfl rfl (Nat.le_of_ble_eq_true rfl) t19 ?_
  refine gm_ev.istore (ls' := [some (.ref B), some (.int p0), some (.int p1), some (.int p2), some (.int (s11.1 36)), some (.int r18)]) i179_147 (Nat.le_of_ble_eq_true rfl) rfl ?_
  refine gm_ev.iload i179_149 rfl ?_
  refine gm_ev.if_ne_f i179_151 c20 ?_
  refine gm_ev.iconst (v := -1) i179_154 (by decide) ?_
  refine gm_ev.goto (tgt := 160) i179_155 (by decide) ?_
  exact gm_ev.iret i179_160 rfl
theorem r_letter_0_ffffftfftttft {N0 : Nat} {K : Nat → Nat} {d B : Nat} {s : mS} {G : gm_H} {sz sl : Nat} {p0 : Int32} {p1 : Int32} {p2 : Int32} {s8 : mS} {s11 : mS} {k16 : Nat} {r18 : Int32} (hN : N0 ≤ B) (c1 : ¬ p0 < 0) (c2 : ¬ (3 : Int32) < p0) (c3 : ¬ p1 < 0) (c4 : ¬ p2 < 0) (c5 : ¬ (s.1 5) = 0) (c6 : p0 ≤ (1 : Int32)) (t7 : gm_to N0 K ra_nm (ra_mt K) d 161 [.ref B] (bM B (mH B (mI s 0 (0 : Int32))) G) sz (.returned none, bM B (mH B s8) G, sz, 0)) (c9 : ¬ p0 ≤ (1 : Int32)) (t10 : gm_to N0 K ra_nm (ra_mt K) d 171 [.ref B, .int (p0 - (2 : Int32))] (bM B (mH B s8) G) sz (.returned none, bM B (mH B s11) G, sz, 0)) (c12 : p0 = 0) (c13 : p1 < (s11.1 36)) (c14 : ¬ p0 = 0) (c15 : ¬ p0 = (1 : Int32)) (ek16 : p1 = nI k16) (lk16 : k16 < 201) (c17 : ¬ p2 ≤ (8 : Int32)) (t19 : gm_to N0 K ra_nm (ra_mt K) d 147 [.long (s11.2.2 37 k16), .int (8 : Int32)] (bM B (mH B s11) G) sz (.returned (some (.int r18)), bM B (mH B s11) G, sz, 0)) (c20 : ¬ r18 = 0) : gm_ev N0 K ra_nm (ra_mt K) d (some .int) (gm_I cX12_letter) (gm_lkf (lkX12 false K)) 0 [some (.ref B), some (.int p0), some (.int p1), some (.int p2), none, none] [] (bM B (mH B s) G) sz sl (.returned (some (.int r18)), (bM B (mH B s11) G), sz, sl) := by
  refine gm_ev.aload_n i179_0 rfl ?_
  refine gm_ev.iconst (v := 0) i179_1 (by decide) ?_
  refine gm_ev.putfield (M' := (bM B (mH B (mI s 0 (0 : Int32))) G)) i179_2 rfl (bM_put (j := 0) (fs := mF B s) rfl (Nat.le_of_ble_eq_true rfl) hN (gm_fit_i _) rfl) ?_
  refine gm_ev.iload_n i179_5 rfl ?_
  refine gm_ev.if_lt_f i179_6 c1 ?_
  refine gm_ev.iload_n i179_9 rfl ?_
  refine gm_ev.iconst (v := 3) i179_10 (by decide) ?_
  refine gm_ev.icmp_gt_f i179_11 c2 ?_
  refine gm_ev.iload_n i179_14 rfl ?_
  refine gm_ev.if_lt_f i179_15 c3 ?_
  refine gm_ev.iload_n i179_18 rfl ?_
  refine gm_ev.if_lt_f i179_19 c4 ?_
  refine gm_ev.aload_n i179_22 rfl ?_
  refine gm_ev.getfield (v := .int (s.1 5)) i179_23 rfl (bM_fld (j := 0) (fs := mF B (mI s 0 (0 : Int32))) rfl rfl) ?_
  refine gm_ev.if_eq_f i179_26 c5 ?_
  refine gm_ev.iload_n i179_29 rfl ?_
  refine gm_ev.iconst (v := 1) i179_30 (by decide) ?_
  refine gm_ev.icmp_le_t (tgt := 46) i179_31 (by decide) c6 ?_
  refine gm_ev.aload_n i179_46 rfl ?_
  refine gm_ev.callV gm_mono_run (av := []) (r := []) (ci := 11) (fs := mF B (mI s 0 (0 : Int32))) (bM_get (j := 0) rfl) i179_47 rfl rfl rfl (Nat.le_of_ble_eq_true rfl) t7 ?_
  refine gm_ev.iload_n i179_50 rfl ?_
  refine gm_ev.iconst (v := 1) i179_51 (by decide) ?_
  refine gm_ev.icmp_le_f i179_52 c9 ?_
  refine gm_ev.aload_n i179_55 rfl ?_
  refine gm_ev.iload_n i179_56 rfl ?_
  refine gm_ev.iconst (v := 2) i179_57 (by decide) ?_
  refine gm_ev.isub i179_58 ?_
  refine gm_ev.callV gm_mono_run (av := [.int (p0 - (2 : Int32))]) (r := []) (ci := 11) (fs := mF B s8) (bM_get (j := 0) rfl) i179_59 rfl rfl rfl (Nat.le_of_ble_eq_true rfl) t10 ?_
  refine gm_ev.iload_n i179_62 rfl ?_
  refine gm_ev.if_ne_f i179_63 c12 ?_
  refine gm_ev.aload_n i179_66 rfl ?_
  refine gm_ev.getfield (v := .int (s11.1 36)) i179_67 rfl (bM_fld (j := 0) (fs := mF B s11) rfl rfl) ?_
  refine gm_ev.goto (tgt := 89) i179_70 (by decide) ?_
  refine gm_ev.istore (ls' := [some (.ref B), some (.int p0), some (.int p1), some (.int p2), some (.int (s11.1 36)), none]) i179_89 (Nat.le_of_ble_eq_true rfl) rfl ?_
  refine gm_ev.iload_n i179_91 rfl ?_
  refine gm_ev.iload i179_92 rfl ?_
  refine gm_ev.icmp_lt_t (tgt := 99) i179_94 (by decide) c13 ?_
  refine gm_ev.iload_n i179_99 rfl ?_
  refine gm_ev.if_ne_t (tgt := 112) i179_100 (by decide) c14 ?_
  refine gm_ev.iload_n i179_112 rfl ?_
  refine gm_ev.iconst (v := 1) i179_113 (by decide) ?_
  refine gm_ev.icmp_ne_t (tgt := 126) i179_114 (by decide) c15 ?_
  refine gm_ev.aload_n i179_126 rfl ?_
  refine gm_ev.getfield (v := .ref (B + 21)) i179_127 rfl (bM_fld (j := 0) (fs := mF B s11) rfl rfl) ?_
  refine gm_ev.iload_n i179_130 rfl ?_
  refine gm_ev.laload i179_131 (bM_al (j := 21) (n := 201) (fl := s11.2.2 37) rfl ek16 lk16 (by decide)) ?_
  refine gm_ev.iload_n i179_132 rfl ?_
  refine gm_ev.bipush (v := 8) i179_133 (by decide) ?_
  refine gm_ev.icmp_le_f i179_135 c17 ?_
  refine gm_ev.bipush (v := 8) i179_138 (by decide) ?_
  refine gm_ev.goto (tgt := 144) i179_140 (by decide) ?_
  refine gm_ev.callS gm_mono_run (av := [.long (s11.2.2 37 k16), .int (8 : Int32)]) (r := []) i179_144 rfl rfl rfl (Nat.le_of_ble_eq_true rfl) t19 ?_
  refine gm_ev.istore (ls' := [some (.ref B), some (.int p0), some (.int p1), some (.int p2), some (.int (s11.1 36)), some (.int r18)]) i179_147 (Nat.le_of_ble_eq_true rfl) rfl ?_
  refine gm_ev.iload i179_149 rfl ?_
  refine gm_ev.if_ne_t (tgt := 158) i179_151 (by decide) c20 ?_
  refine gm_ev.iload i179_158 rfl ?_
  exact gm_ev.iret i179_160 rfl
theorem r_letter_0_ffffftfftttff {N0 : Nat} {K : Nat → Nat} {d B : Nat} {s : mS} {G : gm_H} {sz sl : Nat} {p0 : Int32} {p1 : Int32} {p2 : Int32} {s8 : mS} {s11 : mS} {k16 : Nat} {r18 : Int32} (hN : N0 ≤ B) (c1 : ¬ p0 < 0) (c2 : ¬ (3 : Int32) < p0) (c3 : ¬ p1 < 0) (c4 : ¬ p2 < 0) (c5 : ¬ (s.1 5) = 0) (c6 : p0 ≤ (1 : Int32)) (t7 : gm_to N0 K ra_nm (ra_mt K) d 161 [.ref B] (bM B (mH B (mI s 0 (0 : Int32))) G) sz (.returned none, bM B (mH B s8) G, sz, 0)) (c9 : ¬ p0 ≤ (1 : Int32)) (t10 : gm_to N0 K ra_nm (ra_mt K) d 171 [.ref B, .int (p0 - (2 : Int32))] (bM B (mH B s8) G) sz (.returned none, bM B (mH B s11) G, sz, 0)) (c12 : p0 = 0) (c13 : p1 < (s11.1 36)) (c14 : ¬ p0 = 0) (c15 : ¬ p0 = (1 : Int32)) (ek16 : p1 = nI k16) (lk16 : k16 < 201) (c17 : ¬ p2 ≤ (8 : Int32)) (t19 : gm_to N0 K ra_nm (ra_mt K) d 147 [.long (s11.2.2 37 k16), .int (8 : Int32)] (bM B (mH B s11) G) sz (.returned (some (.int r18)), bM B (mH B s11) G, sz, 0)) (c20 : r18 = 0) : gm_ev N0 K ra_nm (ra_mt K) d (some .int) (gm_I cX12_letter) (gm_lkf (lkX12 false K)) 0 [some (.ref B), some (.int p0), some (.int p1), some (.int p2), none, none] [] (bM B (mH B s) G) sz sl (.returned (some (.int (-1 : Int32))), (bM B (mH B s11) G), sz, sl) := by
  refine gm_ev.aload_n i179_0 rfl ?_
  refine gm_ev.iconst (v := 0) i179_1 (by decide) ?_
  refine gm_ev.putfield (M' := (bM B (mH B (mI s 0 (0 : Int32))) G)) i179_2 rfl (bM_put (j := 0) (fs := mF B s) rfl (Nat.le_of_ble_eq_true rfl) hN (gm_fit_i _) rfl) ?_
  refine gm_ev.iload_n i179_5 rfl ?_
  refine gm_ev.if_lt_f i179_6 c1 ?_
  refine gm_ev.iload_n i179_9 rfl ?_
  refine gm_ev.iconst (v := 3) i179_10 (by decide) ?_
  refine gm_ev.icmp_gt_f i179_11 c2 ?_
  refine gm_ev.iload_n i179_14 rfl ?_
  refine gm_ev.if_lt_f i179_15 c3 ?_
  refine gm_ev.iload_n i179_18 rfl ?_
  refine gm_ev.if_lt_f i179_19 c4 ?_
  refine gm_ev.aload_n i179_22 rfl ?_
  refine gm_ev.getfield (v := .int (s.1 5)) i179_23 rfl (bM_fld (j := 0) (fs := mF B (mI s 0 (0 : Int32))) rfl rfl) ?_
  refine gm_ev.if_eq_f i179_26 c5 ?_
  refine gm_ev.iload_n i179_29 rfl ?_
  refine gm_ev.iconst (v := 1) i179_30 (by decide) ?_
  refine gm_ev.icmp_le_t (tgt := 46) i179_31 (by decide) c6 ?_
  refine gm_ev.aload_n i179_46 rfl ?_
  refine gm_ev.callV gm_mono_run (av := []) (r := []) (ci := 11) (fs := mF B (mI s 0 (0 : Int32))) (bM_get (j := 0) rfl) i179_47 rfl rfl rfl (Nat.le_of_ble_eq_true rfl) t7 ?_
  refine gm_ev.iload_n i179_50 rfl ?_
  refine gm_ev.iconst (v := 1) i179_51 (by decide) ?_
  refine gm_ev.icmp_le_f i179_52 c9 ?_
  refine gm_ev.aload_n i179_55 rfl ?_
  refine gm_ev.iload_n i179_56 rfl ?_
  refine gm_ev.iconst (v := 2) i179_57 (by decide) ?_
  refine gm_ev.isub i179_58 ?_
  refine gm_ev.callV gm_mono_run (av := [.int (p0 - (2 : Int32))]) (r := []) (ci := 11) (fs := mF B s8) (bM_get (j := 0) rfl) i179_59 rfl rfl rfl (Nat.le_of_ble_eq_true rfl) t10 ?_
  refine gm_ev.iload_n i179_62 rfl ?_
  refine gm_ev.if_ne_f i179_63 c12 ?_
  refine gm_ev.aload_n i179_66 rfl ?_
  refine gm_ev.getfield (v := .int (s11.1 36)) i179_67 rfl (bM_fld (j := 0) (fs := mF B s11) rfl rfl) ?_
  refine gm_ev.goto (tgt := 89) i179_70 (by decide) ?_
  refine gm_ev.istore (ls' := [some (.ref B), some (.int p0), some (.int p1), some (.int p2), some (.int (s11.1 36)), none]) i179_89 (Nat.le_of_ble_eq_true rfl) rfl ?_
  refine gm_ev.iload_n i179_91 rfl ?_
  refine gm_ev.iload i179_92 rfl ?_
  refine gm_ev.icmp_lt_t (tgt := 99) i179_94 (by decide) c13 ?_
  refine gm_ev.iload_n i179_99 rfl ?_
  refine gm_ev.if_ne_t (tgt := 112) i179_100 (by decide) c14 ?_
  refine gm_ev.iload_n i179_112 rfl ?_
  refine gm_ev.iconst (v := 1) i179_113 (by decide) ?_
  refine gm_ev.icmp_ne_t (tgt := 126) i179_114 (by decide) c15 ?_
  refine gm_ev.aload_n i179_126 rfl ?_
  refine gm_ev.getfield (v := .ref (B + 21)) i179_127 rfl (bM_fld (j := 0) (fs := mF B s11) rfl rfl) ?_
  refine gm_ev.iload_n i179_130 rfl ?_
  refine gm_ev.laload i179_131 (bM_al (j := 21) (n := 201) (fl := s11.2.2 37) rfl ek16 lk16 (by decide)) ?_
  refine gm_ev.iload_n i179_132 rfl ?_
  refine gm_ev.bipush (v := 8) i179_133 (by decide) ?_
  refine gm_ev.icmp_le_f i179_135 c17 ?_
  refine gm_ev.bipush (v := 8) i179_138 (by decide) ?_
  refine gm_ev.goto (tgt := 144) i179_140 (by decide) ?_
  refine gm_ev.callS gm_mono_run (av := [.long (s11.2.2 37 k16), .int (8 : Int32)]) (r := []) i179_144 rfl rfl rfl (Nat.le_of_ble_eq_true rfl) t19 ?_
  refine gm_ev.istore (ls' := [some (.ref B), some (.int p0), some (.int p1), some (.int p2), some (.int (s11.1 36)), some (.int r18)]) i179_147 (Nat.le_of_ble_eq_true rfl) rfl ?_
  refine gm_ev.iload i179_149 rfl ?_
  refine gm_ev.if_ne_f i179_151 c20 ?_
  refine gm_ev.iconst (v := -1) i179_154 (by decide) ?_
  refine gm_ev.goto (tgt := 160) i179_155 (by decide) ?_
  exact gm_ev.iret i179_160 rfl
theorem r_letter_0_ffffftffttftt {N0 : Nat} {K : Nat → Nat} {d B : Nat} {s : mS} {G : gm_H} {sz sl : Nat} {p0 : Int32} {p1 : Int32} {p2 : Int32} {s8 : mS} {s11 : mS} {k16 : Nat} {r18 : Int32} (hN : N0 ≤ B) (c1 : ¬ p0 < 0) (c2 : ¬ (3 : Int32) < p0) (c3 : ¬ p1 < 0) (c4 : ¬ p2 < 0) (c5 : ¬ (s.1 5) = 0) (c6 : p0 ≤ (1 : Int32)) (t7 : gm_to N0 K ra_nm (ra_mt K) d 161 [.ref B] (bM B (mH B (mI s 0 (0 : Int32))) G) sz (.returned none, bM B (mH B s8) G, sz, 0)) (c9 : ¬ p0 ≤ (1 : Int32)) (t10 : gm_to N0 K ra_nm (ra_mt K) d 171 [.ref B, .int (p0 - (2 : Int32))] (bM B (mH B s8) G) sz (.returned none, bM B (mH B s11) G, sz, 0)) (c12 : p0 = 0) (c13 : p1 < (s11.1 36)) (c14 : ¬ p0 = 0) (c15 : p0 = (1 : Int32)) (ek16 : p1 = nI k16) (lk16 : k16 < 24) (c17 : p2 ≤ (8 : Int32)) (t19 : gm_to N0 K ra_nm (ra_mt K) d 147 [.long (s11.2.2 29 k16), .int p2] (bM B (mH B s11) G) sz (.returned (some (.int r18)), bM B (mH B s11) G, sz, 0)) (c20 : ¬ r18 = 0) : gm_ev N0 K ra_nm (ra_mt K) d (some .int) (gm_I cX12_letter) (gm_lkf (lkX12 false K)) 0 [some (.ref B), some (.int p0), some (.int p1), some (.int p2), none, none] [] (bM B (mH B s) G) sz sl (.returned (some (.int r18)), (bM B (mH B s11) G), sz, sl) := by
  refine gm_ev.aload_n i179_0 rfl ?_
  refine gm_ev.iconst (v := 0) i179_1 (by decide) ?_
  refine gm_ev.putfield (M' := (bM B (mH B (mI s 0 (0 : Int32))) G)) i179_2 rfl (bM_put (j := 0) (fs := mF B s) rfl (Nat.le_of_ble_eq_true rfl) hN (gm_fit_i _) rfl) ?_
  refine gm_ev.iload_n i179_5 rfl ?_
  refine gm_ev.if_lt_f i179_6 c1 ?_
  refine gm_ev.iload_n i179_9 rfl ?_
  refine gm_ev.iconst (v := 3) i179_10 (by decide) ?_
  refine gm_ev.icmp_gt_f i179_11 c2 ?_
  refine gm_ev.iload_n i179_14 rfl ?_
  refine gm_ev.if_lt_f i179_15 c3 ?_
  refine gm_ev.iload_n i179_18 rfl ?_
  refine gm_ev.if_lt_f i179_19 c4 ?_
  refine gm_ev.aload_n i179_22 rfl ?_
  refine gm_ev.getfield (v := .int (s.1 5)) i179_23 rfl (bM_fld (j := 0) (fs := mF B (mI s 0 (0 : Int32))) rfl rfl) ?_
  refine gm_ev.if_eq_f i179_26 c5 ?_
  refine gm_ev.iload_n i179_29 rfl ?_
  refine gm_ev.iconst (v := 1) i179_30 (by decide) ?_
  refine gm_ev.icmp_le_t (tgt := 46) i179_31 (by decide) c6 ?_
  refine gm_ev.aload_n i179_46 rfl ?_
  refine gm_ev.callV gm_mono_run (av := []) (r := []) (ci := 11) (fs := mF B (mI s 0 (0 : Int32))) (bM_get (j := 0) rfl) i179_47 rfl rfl rfl (Nat.le_of_ble_eq_true rfl) t7 ?_
  refine gm_ev.iload_n i179_50 rfl ?_
  refine gm_ev.iconst (v := 1) i179_51 (by decide) ?_
  refine gm_ev.icmp_le_f i179_52 c9 ?_
  refine gm_ev.aload_n i179_55 rfl ?_
  refine gm_ev.iload_n i179_56 rfl ?_
  refine gm_ev.iconst (v := 2) i179_57 (by decide) ?_
  refine gm_ev.isub i179_58 ?_
  refine gm_ev.callV gm_mono_run (av := [.int (p0 - (2 : Int32))]) (r := []) (ci := 11) (fs := mF B s8) (bM_get (j := 0) rfl) i179_59 rfl rfl rfl (Nat.le_of_ble_eq_true rfl) t10 ?_
  refine gm_ev.iload_n i179_62 rfl ?_
  refine gm_ev.if_ne_f i179_63 c12 ?_
  refine gm_ev.aload_n i179_66 rfl ?_
  refine gm_ev.getfield (v := .int (s11.1 36)) i179_67 rfl (bM_fld (j := 0) (fs := mF B s11) rfl rfl) ?_
  refine gm_ev.goto (tgt := 89) i179_70 (by decide) ?_
  refine gm_ev.istore (ls' := [some (.ref B), some (.int p0), some (.int p1), some (.int p2), some (.int (s11.1 36)), none]) i179_89 (Nat.le_of_ble_eq_true rfl) rfl ?_
  refine gm_ev.iload_n i179_91 rfl ?_
  refine gm_ev.iload i179_92 rfl ?_
  refine gm_ev.icmp_lt_t (tgt := 99) i179_94 (by decide) c13 ?_
  refine gm_ev.iload_n i179_99 rfl ?_
  refine gm_ev.if_ne_t (tgt := 112) i179_100 (by decide) c14 ?_
  refine gm_ev.iload_n i179_112 rfl ?_
  refine gm_ev.iconst (v := 1) i179_113 (by decide) ?_
  refine gm_ev.icmp_ne_f i179_114 c15 ?_
  refine gm_ev.aload_n i179_117 rfl ?_
  refine gm_ev.getfield (v := .ref (B + 17)) i179_118 rfl (bM_fld (j := 0) (fs := mF B s11) rfl rfl) ?_
  refine gm_ev.iload_n i179_121 rfl ?_
  refine gm_ev.laload i179_122 (bM_al (j := 17) (n := 24) (fl := s11.2.2 29) rfl ek16 lk16 (by decide)) ?_
  refine gm_ev.goto (tgt := 132) i179_123 (by decide) ?_
  refine gm_ev.iload_n i179_132 rfl ?_
  refine gm_ev.bipush (v := 8) i179_133 (by decide) ?_
  refine gm_ev.icmp_le_t (tgt := 143) i179_135 (by decide) c17 ?_
  refine gm_ev.iload_n i179_143 rfl ?_
  refine gm_ev.callS gm_mono_run (av := [.long (s11.2.2 29 k16), .int p2]) (r := []) i179_144 rfl rfl rfl (Nat.le_of_ble_eq_true rfl) t19 ?_
  refine gm_ev.istore (ls' := [some (.ref B), some (.int p0), some (.int p1), some (.int p2), some (.int (s11.1 36)), some (.int r18)]) i179_147 (Nat.le_of_ble_eq_true rfl) rfl ?_
  refine gm_ev.iload i179_149 rfl ?_
  refine gm_ev.if_ne_t (tgt := 158) i179_151 (by decide) c20 ?_
  refine gm_ev.iload i179_158 rfl ?_
  exact gm_ev.iret i179_160 rfl
theorem r_letter_0_ffffftffttftf {N0 : Nat} {K : Nat → Nat} {d B : Nat} {s : mS} {G : gm_H} {sz sl : Nat} {p0 : Int32} {p1 : Int32} {p2 : Int32} {s8 : mS} {s11 : mS} {k16 : Nat} {r18 : Int32} (hN : N0 ≤ B) (c1 : ¬ p0 < 0) (c2 : ¬ (3 : Int32) < p0) (c3 : ¬ p1 < 0) (c4 : ¬ p2 < 0) (c5 : ¬ (s.1 5) = 0) (c6 : p0 ≤ (1 : Int32)) (t7 : gm_to N0 K ra_nm (ra_mt K) d 161 [.ref B] (bM B (mH B (mI s 0 (0 : Int32))) G) sz (.returned none, bM B (mH B s8) G, sz, 0)) (c9 : ¬ p0 ≤ (1 : Int32)) (t10 : gm_to N0 K ra_nm (ra_mt K) d 171 [.ref B, .int (p0 - (2 : Int32))] (bM B (mH B s8) G) sz (.returned none, bM B (mH B s11) G, sz, 0)) (c12 : p0 = 0) (c13 : p1 < (s11.1 36)) (c14 : ¬ p0 = 0) (c15 : p0 = (1 : Int32)) (ek16 : p1 = nI k16) (lk16 : k16 < 24) (c17 : p2 ≤ (8 : Int32)) (t19 : gm_to N0 K ra_nm (ra_mt K) d 147 [.long (s11.2.2 29 k16), .int p2] (bM B (mH B s11) G) sz (.returned (some (.int r18)), bM B (mH B s11) G, sz, 0)) (c20 : r18 = 0) : gm_ev N0 K ra_nm (ra_mt K) d (some .int) (gm_I cX12_letter) (gm_lkf (lkX12 false K)) 0 [some (.ref B), some (.int p0), some (.int p1), some (.int p2), none, none] [] (bM B (mH B s) G) sz sl (.returned (some (.int (-1 : Int32))), (bM B (mH B s11) G), sz, sl) := by
  refine gm_ev.aload_n i179_0 rfl ?_
  refine gm_ev.iconst (v := 0) i179_1 (by decide) ?_
  refine gm_ev.putfield (M' := (bM B (mH B (mI s 0 (0 : Int32))) G)) i179_2 rfl (bM_put (j := 0) (fs := mF B s) rfl (Nat.le_of_ble_eq_true rfl) hN (gm_fit_i _) rfl) ?_
  refine gm_ev.iload_n i179_5 rfl ?_
  refine gm_ev.if_lt_f i179_6 c1 ?_
  refine gm_ev.iload_n i179_9 rfl ?_
  refine gm_ev.iconst (v := 3) i179_10 (by decide) ?_
  refine gm_ev.icmp_gt_f i179_11 c2 ?_
  refine gm_ev.iload_n i179_14 rfl ?_
  refine gm_ev.if_lt_f i179_15 c3 ?_
  refine gm_ev.iload_n i179_18 rfl ?_
  refine gm_ev.if_lt_f i179_19 c4 ?_
  refine gm_ev.aload_n i179_22 rfl ?_
  refine gm_ev.getfield (v := .int (s.1 5)) i179_23 rfl (bM_fld (j := 0) (fs := mF B (mI s 0 (0 : Int32))) rfl rfl) ?_
  refine gm_ev.if_eq_f i179_26 c5 ?_
  refine gm_ev.iload_n i179_29 rfl ?_
  refine gm_ev.iconst (v := 1) i179_30 (by decide) ?_
  refine gm_ev.icmp_le_t (tgt := 46) i179_31 (by decide) c6 ?_
  refine gm_ev.aload_n i179_46 rfl ?_
  refine gm_ev.callV gm_mono_run (av := []) (r := []) (ci := 11) (fs := mF B (mI s 0 (0 : Int32))) (bM_get (j := 0) rfl) i179_47 rfl rfl rfl (Nat.le_of_ble_eq_true rfl) t7 ?_
  refine gm_ev.iload_n i179_50 rfl ?_
  refine gm_ev.iconst (v := 1) i179_51 (by decide) ?_
  refine gm_ev.icmp_le_f i179_52 c9 ?_
  refine gm_ev.aload_n i179_55 rfl ?_
  refine gm_ev.iload_n i179_56 rfl ?_
  refine gm_ev.iconst (v := 2) i179_57 (by decide) ?_
  refine gm_ev.isub i179_58 ?_
  refine gm_ev.callV gm_mono_run (av := [.int (p0 - (2 : Int32))]) (r := []) (ci := 11) (fs := mF B s8) (bM_get (j := 0) rfl) i179_59 rfl rfl rfl (Nat.le_of_ble_eq_true rfl) t10 ?_
  refine gm_ev.iload_n i179_62 rfl ?_
  refine gm_ev.if_ne_f i179_63 c12 ?_
  refine gm_ev.aload_n i179_66 rfl ?_
  refine gm_ev.getfield (v := .int (s11.1 36)) i179_67 rfl (bM_fld (j := 0) (fs := mF B s11) rfl rfl) ?_
  refine gm_ev.goto (tgt := 89) i179_70 (by decide) ?_
  refine gm_ev.istore (ls' := [some (.ref B), some (.int p0), some (.int p1), some (.int p2), some (.int (s11.1 36)), none]) i179_89 (Nat.le_of_ble_eq_true rfl) rfl ?_
  refine gm_ev.iload_n i179_91 rfl ?_
  refine gm_ev.iload i179_92 rfl ?_
  refine gm_ev.icmp_lt_t (tgt := 99) i179_94 (by decide) c13 ?_
  refine gm_ev.iload_n i179_99 rfl ?_
  refine gm_ev.if_ne_t (tgt := 112) i179_100 (by decide) c14 ?_
  refine gm_ev.iload_n i179_112 rfl ?_
  refine gm_ev.iconst (v := 1) i179_113 (by decide) ?_
  refine gm_ev.icmp_ne_f i179_114 c15 ?_
  refine gm_ev.aload_n i179_117 rfl ?_
  refine gm_ev.getfield (v := .ref (B + 17)) i179_118 rfl (bM_fld (j := 0) (fs := mF B s11) rfl rfl) ?_
  refine gm_ev.iload_n i179_121 rfl ?_
  refine gm_ev.laload i179_122 (bM_al (j := 17) (n := 24) (fl := s11.2.2 29) rfl ek16 lk16 (by decide)) ?_
  refine gm_ev.goto (tgt := 132) i179_123 (by decide) ?_
  refine gm_ev.iload_n i179_132 rfl ?_
  refine gm_ev.bipush (v := 8) i179_133 (by decide) ?_
  refine gm_ev.icmp_le_t (tgt := 143) i179_135 (by decide) c17 ?_
  refine gm_ev.iload_n i179_143 rfl ?_
  refine gm_ev.callS gm_mono_run (av := [.long (s11.2.2 29 k16), .int p2]) (r := []) i179_144 rfl rfl rfl (Nat.le_of_ble_eq_true rfl) t19 ?_
  refine gm_ev.istore (ls' := [some (.ref B), some (.int p0), some (.int p1), some (.int p2), some (.int (s11.1 36)), some (.int r18)]) i179_147 (Nat.le_of_ble_eq_true rfl) rfl ?_
  refine gm_ev.iload i179_149 rfl ?_
  refine gm_ev.if_ne_f i179_151 c20 ?_
  refine gm_ev.iconst (v := -1) i179_154 (by decide) ?_
  refine gm_ev.goto (tgt := 160) i179_155 (by decide) ?_
  exact gm_ev.iret i179_160 rfl
theorem r_letter_0_ffffftffttfft {N0 : Nat} {K : Nat → Nat} {d B : Nat} {s : mS} {G : gm_H} {sz sl : Nat} {p0 : Int32} {p1 : Int32} {p2 : Int32} {s8 : mS} {s11 : mS} {k16 : Nat} {r18 : Int32} (hN : N0 ≤ B) (c1 : ¬ p0 < 0) (c2 : ¬ (3 : Int32) < p0) (c3 : ¬ p1 < 0) (c4 : ¬ p2 < 0) (c5 : ¬ (s.1 5) = 0) (c6 : p0 ≤ (1 : Int32)) (t7 : gm_to N0 K ra_nm (ra_mt K) d 161 [.ref B] (bM B (mH B (mI s 0 (0 : Int32))) G) sz (.returned none, bM B (mH B s8) G, sz, 0)) (c9 : ¬ p0 ≤ (1 : Int32)) (t10 : gm_to N0 K ra_nm (ra_mt K) d 171 [.ref B, .int (p0 - (2 : Int32))] (bM B (mH B s8) G) sz (.returned none, bM B (mH B s11) G, sz, 0)) (c12 : p0 = 0) (c13 : p1 < (s11.1 36)) (c14 : ¬ p0 = 0) (c15 : p0 = (1 : Int32)) (ek16 : p1 = nI k16) (lk16 : k16 < 24) (c17 : ¬ p2 ≤ (8 : Int32)) (t19 : gm_to N0 K ra_nm (ra_mt K) d 147 [.long (s11.2.2 29 k16), .int (8 : Int32)] (bM B (mH B s11) G) sz (.returned (some (.int r18)), bM B (mH B s11) G, sz, 0)) (c20 : ¬ r18 = 0) : gm_ev N0 K ra_nm (ra_mt K) d (some .int) (gm_I cX12_letter) (gm_lkf (lkX12 false K)) 0 [some (.ref B), some (.int p0), some (.int p1), some (.int p2), none, none] [] (bM B (mH B s) G) sz sl (.returned (some (.int r18)), (bM B (mH B s11) G), sz, sl) := by
  refine gm_ev.aload_n i179_0 rfl ?_
  refine gm_ev.iconst (v := 0) i179_1 (by decide) ?_
  refine gm_ev.putfield (M' := (bM B (mH B (mI s 0 (0 : Int32))) G)) i179_2 rfl (bM_put (j := 0) (fs := mF B s) rfl (Nat.le_of_ble_eq_true rfl) hN (gm_fit_i _) rfl) ?_
  refine gm_ev.iload_n i179_5 rfl ?_
  refine gm_ev.if_lt_f i179_6 c1 ?_
  refine gm_ev.iload_n i179_9 rfl ?_
  refine gm_ev.iconst (v := 3) i179_10 (by decide) ?_
  refine gm_ev.icmp_gt_f i179_11 c2 ?_
  refine gm_ev.iload_n i179_14 rfl ?_
  refine gm_ev.if_lt_f i179_15 c3 ?_
  refine gm_ev.iload_n i179_18 rfl ?_
  refine gm_ev.if_lt_f i179_19 c4 ?_
  refine gm_ev.aload_n i179_22 rfl ?_
  refine gm_ev.getfield (v := .int (s.1 5)) i179_23 rfl (bM_fld (j := 0) (fs := mF B (mI s 0 (0 : Int32))) rfl rfl) ?_
  refine gm_ev.if_eq_f i179_26 c5 ?_
  refine gm_ev.iload_n i179_29 rfl ?_
  refine gm_ev.iconst (v := 1) i179_30 (by decide) ?_
  refine gm_ev.icmp_le_t (tgt := 46) i179_31 (by decide) c6 ?_
  refine gm_ev.aload_n i179_46 rfl ?_
  refine gm_ev.callV gm_mono_run (av := []) (r := []) (ci := 11) (fs := mF B (mI s 0 (0 : Int32))) (bM_get (j := 0) rfl) i179_47 rfl rfl rfl (Nat.le_of_ble_eq_true rfl) t7 ?_
  refine gm_ev.iload_n i179_50 rfl ?_
  refine gm_ev.iconst (v := 1) i179_51 (by decide) ?_
  refine gm_ev.icmp_le_f i179_52 c9 ?_
  refine gm_ev.aload_n i179_55 rfl ?_
  refine gm_ev.iload_n i179_56 rfl ?_
  refine gm_ev.iconst (v := 2) i179_57 (by decide) ?_
  refine gm_ev.isub i179_58 ?_
  refine gm_ev.callV gm_mono_run (av := [.int (p0 - (2 : Int32))]) (r := []) (ci := 11) (fs := mF B s8) (bM_get (j := 0) rfl) i179_59 rfl rfl rfl (Nat.le_of_ble_eq_true rfl) t10 ?_
  refine gm_ev.iload_n i179_62 rfl ?_
  refine gm_ev.if_ne_f i179_63 c12 ?_
  refine gm_ev.aload_n i179_66 rfl ?_
  refine gm_ev.getfield (v := .int (s11.1 36)) i179_67 rfl (bM_fld (j := 0) (fs := mF B s11) rfl rfl) ?_
  refine gm_ev.goto (tgt := 89) i179_70 (by decide) ?_
  refine gm_ev.istore (ls' := [some (.ref B), some (.int p0), some (.int p1), some (.int p2), some (.int (s11.1 36)), none]) i179_89 (Nat.le_of_ble_eq_true rfl) rfl ?_
  refine gm_ev.iload_n i179_91 rfl ?_
  refine gm_ev.iload i179_92 rfl ?_
  refine gm_ev.icmp_lt_t (tgt := 99) i179_94 (by decide) c13 ?_
  refine gm_ev.iload_n i179_99 rfl ?_
  refine gm_ev.if_ne_t (tgt := 112) i179_100 (by decide) c14 ?_
  refine gm_ev.iload_n i179_112 rfl ?_
  refine gm_ev.iconst (v := 1) i179_113 (by decide) ?_
  refine gm_ev.icmp_ne_f i179_114 c15 ?_
  refine gm_ev.aload_n i179_117 rfl ?_
  refine gm_ev.getfield (v := .ref (B + 17)) i179_118 rfl (bM_fld (j := 0) (fs := mF B s11) rfl rfl) ?_
  refine gm_ev.iload_n i179_121 rfl ?_
  refine gm_ev.laload i179_122 (bM_al (j := 17) (n := 24) (fl := s11.2.2 29) rfl ek16 lk16 (by decide)) ?_
  refine gm_ev.goto (tgt := 132) i179_123 (by decide) ?_
  refine gm_ev.iload_n i179_132 rfl ?_
  refine gm_ev.bipush (v := 8) i179_133 (by decide) ?_
  refine gm_ev.icmp_le_f i179_135 c17 ?_
  refine gm_ev.bipush (v := 8) i179_138 (by decide) ?_
  refine gm_ev.goto (tgt := 144) i179_140 (by decide) ?_
  refine gm_ev.callS gm_mono_run (av := [.long (s11.2.2 29 k16), .int (8 : Int32)]) (r := []) i179_144 rfl rfl rfl (Nat.le_of_ble_eq_true rfl) t19 ?_
  refine gm_ev.istore (ls' := [some (.ref B), some (.int p0), some (.int p1), some (.int p2), some (.int (s11.1 36)), some (.int r18)]) i179_147 (Nat.le_of_ble_eq_true rfl) rfl ?_
  refine gm_ev.iload i179_149 rfl ?_
  refine gm_ev.if_ne_t (tgt := 158) i179_151 (by decide) c20 ?_
  refine gm_ev.iload i179_158 rfl ?_
  exact gm_ev.iret i179_160 rfl
