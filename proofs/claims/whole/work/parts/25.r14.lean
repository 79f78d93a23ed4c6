/-! paths through RuleArenaModel, by program -/
theorem r_letter_0_fffffftffttftf {N0 : Nat} {K : Nat → Nat} {d B : Nat} {s : mS} {G : gm_H} {sz sl : Nat} {p0 : Int32} {p1 : Int32} {p2 : Int32} {r7 : Int32} {s11 : mS} {s14 : mS} {k19 : Nat} {r21 : Int32} (hN : N0 ≤ B) (c1 : ¬ p0 < 0) (c2 : ¬ (3 : Int32) < p0) (c3 : ¬ p1 < 0) (c4 : ¬ p2 < 0) (c5 : ¬ (s.1 5) = 0) (c6 : ¬ p0 ≤ (1 : Int32)) (t8 : gm_to N0 K ra_nm (ra_mt K) d 170 [.ref B, .int (p0 - (2 : Int32))] (bM B (mH B (mI s 0 (0 : Int32))) G) sz (.returned (some (.int r7)), bM B (mH B (mI s 0 (0 : Int32))) G, sz, 0)) (c9 : ¬ r7 = 0) (t10 : gm_to N0 K ra_nm (ra_mt K) d 161 [.ref B] (bM B (mH B (mI s 0 (0 : Int32))) G) sz (.returned none, bM B (mH B s11) G, sz, 0)) (c12 : ¬ p0 ≤ (1 : Int32)) (t13 : gm_to N0 K ra_nm (ra_mt K) d 171 [.ref B, .int (p0 - (2 : Int32))] (bM B (mH B s11) G) sz (.returned none, bM B (mH B s14) G, sz, 0)) (c15 : p0 = 0) (c16 : p1 < (s14.1 36)) (c17 : ¬ p0 = 0) (c18 : p0 = (1 : Int32)) (ek19 : p1 = nI k19) (lk19 : k19 < 24) (c20 : p2 ≤ (8 : Int32)) (t22 : gm_to N0 K ra_nm (ra_mt K) d 147 [.long (s14.2.2 29 k19), .int p2] (bM B (mH B s14) G) sz (.returned (some (.int r21)), bM B (mH B s14) G, sz, 0)) (c23 : r21 = 0) : gm_ev N0 K ra_nm (ra_mt K) d (some .int) (gm_I cX12_letter) (gm_lkf (lkX12 false K)) 0 [some (.ref B), some (.int p0), some (.int p1), some (.int p2), none, none] [] (bM B (mH B s) G) sz sl (.returned (some (.int (-1 : Int32))), (bM B (mH B s14) G), sz, sl) := by
  refine gm_ev.aload_n i179_0 rfl ?_
  refine gm_ev.iconst (v := 0) i179_1 (by decide) ?_
  refine gm_ev.putfield (M' := (bM B (mH B (mI s 0 (0 : Int32))) G)) i179_2 rfl (bM_put (j := 0) (fs := mF B s) rfl (Nat.le_of_ble_eq_true rfl) hN (gm_fit_i _) rfl) ?_
  refine gm_ev.iload_n i179_5 rfl ?_
  refine gm_ev.if_lt_f i179_6 c1 ?_
  refine gm_ev.iload_n i179_9 rfl ?_
  refine gm_ev.iconst (v := 3) i179_10 (by decide) ?_
  refine gm_ev.icmp_gt_f i179_11 c2 ?_
  refine gm_ev.iload_n i179_14 rfl ?_
  refine gm_ev.if_lt_f i179_15 c3 ?_
  refine gm_ev.iload_n i179_18 rfl ?_
  refine gm_ev.if_lt_f i179_19 c4 ?_
  refine gm_ev.aload_n i179_22 rfl ?_
  refine gm_ev.getfield (v := .int (s.1 5)) i179_23 rfl (bM_fld (j := 0) (fs := mF B (mI s 0 (0 : Int32))) rfl rfl) ?_
  refine gm_ev.if_eq_f i179_26 c5 ?_
  refine gm_ev.iload_n i179_29 rfl ?_
  refine gm_ev.iconst (v := 1) i179_30 (by decide) ?_
  refine gm_ev.icmp_le_f i179_31 c6 ?_
  refine gm_ev.aload_n i179_34 rfl ?_
  refine gm_ev.iload_n i179_35 rfl ?_
  refine gm_ev.iconst (v := 2) i179_36 (by decide) ?_
  refine gm_ev.isub i179_37 ?_
  refine gm_ev.callV gm_mono_run (av := [.int (p0 - (2 : Int32))]) (r := []) (ci := 11) (fs := mF B (mI s 0 (0 : Int32))) (bM_get (j := 0) rfl) i179_38 rfl rfl rfl (Nat.le_of_ble_eq_true rfl) t8 ?_
  refine gm_ev.if_ne_t (tgt := 46) i179_41 (by decide) c9 ?_
  refine gm_ev.aload_n i179_46 rfl ?_
  refine gm_ev.callV gm_mono_run (av := []) (r := []) (ci := 11) (fs := mF B (mI s 0 (0 : Int32))) (bM_get (j := 0) rfl) i179_47 rfl rfl rfl (Nat.le_of_ble_eq_true rfl) t10 ?_
  refine gm_ev.iload_n i179_50 rfl ?_
  refine gm_ev.iconst (v := 1) i179_51 (by decide) ?_
  refine gm_ev.icmp_le_f i179_52 c12 ?_
  refine gm_ev.aload_n i179_55 rfl ?_
  refine gm_ev.iload_n i179_56 rfl ?_
  refine gm_ev.iconst (v := 2) i179_57 (by decide) ?_
  refine gm_ev.isub i179_58 ?_
  refine gm_ev.callV gm_mono_run (av := [.int (p0 - (2 : Int32))]) (r := []) (ci := 11) (fs := mF B s11) (bM_get (j := 0) rfl) i179_59 rfl rfl rfl (Nat.le_of_ble_eq_true rfl) t13 ?_
  refine gm_ev.iload_n i179_62 rfl ?_
  refine gm_ev.if_ne_f i179_63 c15 ?_
  refine gm_ev.aload_n i179_66 rfl ?_
  refine gm_ev.getfield (v := .int (s14.1 36)) i179_67 rfl (bM_fld (j := 0) (fs := mF B s14) rfl rfl) ?_
  refine gm_ev.goto (tgt := 89) i179_70 (by decide) ?_
  refine gm_ev.istore (ls' := [some (.ref B), some (.int p0), some (.int p1), some (.int p2), some (.int (s14.1 36)), none]) i179_89 (Nat.le_of_ble_eq_true rfl) rfl ?_
  refine gm_ev.iload_n i179_91 rfl ?_
  refine gm_ev.iload i179_92 rfl ?_
  refine gm_ev.icmp_lt_t (tgt := 99) i179_94 (by decide) c16 ?_
  refine gm_ev.iload_n i179_99 rfl ?_
  refine gm_ev.if_ne_t (tgt := 112) i179_100 (by decide) c17 ?_
  refine gm_ev.iload_n i179_112 rfl ?_
  refine gm_ev.iconst (v := 1) i179_113 (by decide) ?_
  refine gm_ev.icmp_ne_f i179_114 c18 ?_
  refine gm_ev.aload_n i179_117 rfl ?_
  refine gm_ev.getfield (v := .ref (B + 17)) i179_118 rfl (bM_fld (j := 0) (fs := mF B s14) rfl rfl) ?_
  refine gm_ev.iload_n i179_121 rfl ?_
  refine gm_ev.laload i179_122 (bM_al (j := 17) (n := 24) (fl := s14.2.2 29) rfl ek19 lk19 (by decide)) ?_
  refine gm_ev.goto (tgt := 132) i179_123 (by decide) ?_
  refine gm_ev.iload_n i179_132 rfl ?_
  refine gm_ev.bipush (v := 8) i179_133 (by decide) ?_
  refine gm_ev.icmp_le_t (tgt := 143) i179_135 (by decide) c20 ?_
  refine gm_ev.iload_n i179_143 rfl ?_
  refine gm_ev.callS gm_mono_run (av := [.long (s14.2.2 29 k19), .int p2]) (r := []) i179_144 rfl rfl rfl (Nat.le_of_ble_eq_true rfl) t22 ?_
  refine gm_ev.istore (ls' := [some (.ref B), some (.int p0), some (.int p1), some (.int p2), some (.int (s14.1 36)), some (.int r21)]) i179_147 (Nat.le_of_ble_eq_true rfl) rfl ?_
  refine gm_ev.iload i179_149 rfl ?_
  refine gm_ev.if_ne_f i179_151 c23 ?_
  refine gm_ev.iconst (v := -1) i179_154 (by decide) ?_
  refine gm_ev.goto (tgt := 160) i179_155 (by decide) ?_
  exact gm_ev.iret i179_160 rfl
theorem r_letter_0_fffffftffttfft {N0 : Nat} {K : Nat → Nat} {d B : Nat} {s : mS} {G : gm_H} {sz sl : Nat} {p0 : Int32} {p1 : Int32} {p2 : Int32} {r7 : Int32} {s11 : mS} {s14 : mS} {k19 : Nat} {r21 : Int32} (hN : N0 ≤ B) (c1 : ¬ p0 < 0) (c2 : ¬ (3 : Int32) < p0) (c3 : ¬ p1 < 0) (c4 : ¬ p2 < 0) (c5 : ¬ (s.1 5) = 0) (c6 : ¬ p0 ≤ (1 : Int32)) (t8 : gm_to N0 K ra_nm (ra_mt K) d 170 [.ref B, .int (p0 - (2 : Int32))] (bM B (mH B (mI s 0 (0 : Int32))) G) sz (.returned (some (.int r7)), bM B (mH B (mI s 0 (0 : Int32))) G, sz, 0)) (c9 : ¬ r7 = 0) (t10 : gm_to N0 K ra_nm (ra_mt K) d 161 [.ref B] (bM B (mH B (mI s 0 (0 : Int32))) G) sz (.returned none, bM B (mH B s11) G, sz, 0)) (c12 : ¬ p0 ≤ (1 : Int32)) (t13 : gm_to N0 K ra_nm (ra_mt K) d 171 [.ref B, .int (p0 - (2 : Int32))] (bM B (mH B s11) G) sz (.returned none, bM B (mH B s14) G, sz, 0)) (c15 : p0 = 0) (c16 : p1 < (s14.1 36)) (c17 : ¬ p0 = 0) (c18 : p0 = (1 : Int32)) (ek19 : p1 = nI k19) (lk19 : k19 < 24) (c20 : ¬ p2 ≤ (8 : Int32)) (t22 : gm_to N0 K ra_nm (ra_mt K) d 147 [.long (s14.2.2 29 k19), .int (8 : Int32)] (bM B (mH B s14) G) sz (.returned (some (.int r21)), bM B (mH B s14) G, sz, 0)) (c23 : ¬ r21 = 0) : gm_ev N0 K ra_nm (ra_mt K) d (some .int) (gm_I cX12_letter) (gm_lkf (lkX12 false K)) 0 [some (.ref B), some (.int p0), some (.int p1), some (.int p2), none, none] [] (bM B (mH B s) G) sz sl (.returned (some (.int r21)), (bM B (mH B s14) G), sz, sl) := by
  refine gm_ev.aload_n i179_0 rfl ?_
  refine gm_ev.iconst (v := 0) i179_1 (by decide) ?_
  refine gm_ev.putfield (M' := (bM B (mH B (mI s 0 (0 : Int32))) G)) i179_2 rfl (bM_put (j := 0) (fs := mF B s) rfl (Nat.le_of_ble_eq_true rfl) hN (gm_fit_i _) rfl) ?_
  refine gm_ev.iload_n i179_5 rfl ?_
  refine gm_ev.if_lt_f i179_6 c1 ?_
  refine gm_ev.iload_n i179_9 rfl ?_
  refine gm_ev.iconst (v := 3) i179_10 (by decide) ?_
  refine gm_ev.icmp_gt_f i179_11 c2 ?_
  refine gm_ev.iload_n i179_14 rfl ?_
  refine gm_ev.if_lt_f i179_15 c3 ?_
  refine gm_ev.iload_n i179_18 rfl ?_
  refine gm_ev.if_lt_f i179_19 c4 ?_
  refine gm_ev.aload_n i179_22 rfl ?_
  refine gm_ev.getfield (v := .int (s.1 5)) i179_23 rfl (bM_fld (j := 0) (fs := mF B (mI s 0 (0 : Int32))) rfl rfl) ?_
  refine gm_ev.if_eq_f i179_26 c5 ?_
  refine gm_ev.iload_n i179_29 rfl ?_
  refine gm_ev.iconst (v := 1) i179_30 (by decide) ?_
  refine gm_ev.icmp_le_f i179_31 c6 ?_
  refine gm_ev.aload_n i179_34 rfl ?_
  refine gm_ev.iload_n i179_35 rfl ?_
  refine gm_ev.iconst (v := 2) i179_36 (by decide) ?_
  refine gm_ev.isub i179_37 ?_
  refine gm_ev.callV gm_mono_run (av := [.int (p0 - (2 : Int32))]) (r := []) (ci := 11) (fs := mF B (mI s 0 (0 : Int32))) (bM_get (j := 0) rfl) i179_38 rfl rfl rfl (Nat.le_of_ble_eq_true rfl) t8 ?_
  refine gm_ev.if_ne_t (tgt := 46) i179_41 (by decide) c9 ?_
  refine gm_ev.aload_n i179_46 rfl ?_
  refine gm_ev.callV gm_mono_run (av := []) (r := []) (ci := 11) (fs := mF B (mI s 0 (0 : Int32))) (bM_get (j := 0) rfl) i179_47 rfl rfl rfl (Nat.le_of_ble_eq_true rfl) t10 ?_
  refine gm_ev.iload_n i179_50 rfl ?_
  refine gm_ev.iconst (v := 1) i179_51 (by decide) ?_
  refine gm_ev.icmp_le_f i179_52 c12 ?_
  refine gm_ev.aload_n i179_55 rfl ?_
  refine gm_ev.iload_n i179_56 rfl ?_
  refine gm_ev.iconst (v := 2) i179_57 (by decide) ?_
  refine gm_ev.isub i179_58 ?_
  refine gm_ev.callV gm_mono_run (av := [.int (p0 - (2 : Int32))]) (r := []) (ci := 11) (fs := mF B s11) (bM_get (j := 0) rfl) i179_59 rfl rfl rfl (Nat.le_of_ble_eq_true rfl) t13 ?_
  refine gm_ev.iload_n i179_62 rfl ?_
  refine gm_ev.if_ne_f i179_63 c15 ?_
  refine gm_ev.aload_n i179_66 rfl ?_
  refine gm_ev.getfield (v := .int (s14.1 36)) i179_67 rfl (bM_fld (j := 0) (fs := mF B s14) rfl rfl) ?_
  refine gm_ev.goto (tgt := 89) i179_70 (by decide) ?_
  refine gm_ev.istore (ls' := [some (.ref B), some (.int p0), some (.int p1), some (.int p2), some (.int (s14.1 36)), none]) i179_89 (Nat.le_of_ble_eq_true rfl) rfl ?_
  refine gm_ev.iload_n i179_91 rfl ?_
  refine gm_ev.iload i179_92 rfl ?_
  refine gm_ev.icmp_lt_t (tgt := 99) i179_94 (by decide) c16 ?_
  refine gm_ev.iload_n i179_99 rfl ?_
  refine gm_ev.if_ne_t (tgt := 112) i179_100 (by decide) c17 ?_
  refine gm_ev.iload_n i179_112 rfl ?_
  refine gm_ev.iconst (v := 1) i179_113 (by decide) ?_
  refine gm_ev.icmp_ne_f i179_114 c18 ?_
  refine gm_ev.aload_n i179_117 rfl ?_
  refine gm_ev.getfield (v := .ref (B + 17)) i179_118 rfl (bM_fld (j := 0) (fs := mF B s14) rfl rfl) ?_
  refine gm_ev.iload_n i179_121 rfl ?_
  refine gm_ev.laload i179_122 (bM_al (j := 17) (n := 24) (fl := s14.2.2 29) rfl ek19 lk19 (by decide)) ?_
  refine gm_ev.goto (tgt := 132) i179_123 (by decide) ?_
  refine gm_ev.iload_n i179_132 rfl ?_
  refine gm_ev.bipush (v := 8) i179_133 (by decide) ?_
  refine gm_ev.icmp_le_f i179_135 c20 ?_
  refine gm_ev.bipush (v := 8) i179_138 (by decide) ?_
  refine gm_ev.goto (tgt := 144) i179_140 (by decide) ?_
  refine gm_ev.callS gm_mono_run (av := [.long (s14.2.2 29 k19), .int (8 : Int32)]) (r := []) i179_144 rfl rfl rfl (Nat.le_of_ble_eq_true rfl) t22 ?_
  refine gm_ev.istore (ls' := [some (.ref B), some (.int p0), some (.int p1), some (.int p2), some (.int (s14.1 36)), some (.int r21)]) i179_147 (Nat.le_of_ble_eq_true rfl) rfl ?_
  refine gm_ev.iload i179_149 rfl ?_
  refine gm_ev.if_ne_t (tgt := 158) i179_151 (by decide) c23 ?_
  refine gm_ev.iload i179_158 rfl ?_
  exact gm_ev.iret i179_160 rfl
theorem r_letter_0_fffffftffttfff {N0 : Nat} {K : Nat → Nat} {d B : Nat} {s : mS} {G : gm_H} {sz sl : Nat} {p0 : Int32} {p1 : Int32} {p2 : Int32} {r7 : Int32} {s11 : mS} {s14 : mS} {k19 : Nat} {r21 : Int32} (hN : N0 ≤ B) (c1 : ¬ p0 < 0) (c2 : ¬ (3 : Int32) < p0) (c3 : ¬ p1 < 0) (c4 : ¬ p2 < 0) (c5 : ¬ (s.1 5) = 0) (c6 : ¬ p0 ≤ (1 : Int32)) (t8 : gm_to N0 K ra_nm (ra_mt K) d 170 [.ref B, .int (p0 - (2 : Int32))] (bM B (mH B (mI s 0 (0 : Int32))) G) sz (.returned (some (.int r7)), bM B (mH B (mI s 0 (0 : Int32))) G, sz, 0)) (c9 : ¬ r7 = 0) (t10 : gm_to N0 K ra_nm (ra_mt K) d 161 [.ref B] (bM B (mH B (mI s 0 (0 : Int32))) G) sz (.returned none, bM B (mH B s11) G, sz, 0)) (c12 : ¬ p0 ≤ (1 : Int32)) (t13 : gm_to N0 K ra_nm (ra_mt K) d 171 [.ref B, .int (p0 - (2 : Int32))] (bM B (mH B s11) G) sz (.returned none, bM B (mH B s14) G, sz, 0)) (c15 : p0 = 0) (c16 : p1 < (s14.1 36)) (c17 : ¬ p0 = 0) (c18 : p0 = (1 : Int32)) (ek19 : p1 = nI k19) (lk19 : k19 < 24) (c20 : ¬ p2 ≤ (8 : Int32)) (t22 : gm_to N0 K ra_nm (ra_mt K) d 147 [.long (s14.2.2 29 k19), .int (8 : Int32)] (bM B (mH B s14) G) sz (.returned (some (.int r21)), bM B (mH B s14) G, sz, 0)) (c23 : r21 = 0) : gm_ev N0 K ra_nm (ra_mt K) d (some .int) (gm_I cX12_letter) (gm_lkf (lkX12 false K)) 0 [some (.ref B), some (.int p0), some (.int p1), some (.int p2), none, none] [] (bM B (mH B s) G) sz sl (.returned (some (.int (-1 : Int32))), (bM B (mH B s14) G), sz, sl) := by
  refine gm_ev.aload_n i179_0 rfl ?_
  refine gm_ev.iconst (v := 0) i179_1 (by decide) ?_
  refine gm_ev.putfield (M' := (bM B (mH B (mI s 0 (0 : Int32))) G)) i179_2 rfl (bM_put (j := 0) (fs := mF B s) rfl (Nat.le_of_ble_eq_true rfl) hN (gm_fit_i _) rfl) ?_
  refine gm_ev.iload_n i179_5 rfl ?_
  refine gm_ev.if_lt_f i179_6 c1 ?_
  refine gm_ev.iload_n i179_9 rfl ?_
  refine gm_ev.iconst (v := 3) i179_10 (by decide) ?_
  refine gm_ev.icmp_gt_f i179_11 c2 ?_
  refine gm_ev.iload_n i179_14 rfl ?_
  refine gm_ev.if_lt_f i179_15 c3 ?_
  refine gm_ev.iload_n i179_18 rfl ?_
  refine gm_ev.if_lt_f i179_19 c4 ?_
  refine gm_ev.aload_n i179_22 rfl ?_
  refine gm_ev.getfield (v := .int (s.1 5)) i179_23 rfl (bM_fld (j := 0) (fs := mF B (mI s 0 (0 : Int32))) rfl rfl) ?_
  refine gm_ev.if_eq_f i179_26 c5 ?_
  refine gm_ev.iload_n i179_29 rfl ?_
  refine gm_ev.iconst (v := 1) i179_30 (by decide) ?_
  refine gm_ev.icmp_le_f i179_31 c6 ?_
  refine gm_ev.aload_n i179_34 rfl ?_
  refine gm_ev.iload_n i179_35 rfl ?_
  refine gm_ev.iconst (v := 2) i179_36 (by decide) ?_
  refine gm_ev.isub i179_37 ?_
  refine gm_ev.callV gm_mono_run (av := [.int (p0 - (2 : Int32))]) (r := []) (ci := 11) (fs := mF B (mI s 0 (0 : Int32))) (bM_get (j := 0) rfl) i179_38 rfl rfl rfl (Nat.le_of_ble_eq_true rfl) t8 ?_
  refine gm_ev.if_ne_t (tgt := 46) i179_41 (by decide) c9 ?_
  refine gm_ev.aload_n i179_46 rfl ?_
  refine gm_ev.callV gm_mono_run (av := []) (r := []) (ci := 11) (fs := mF B (mI s 0 (0 : Int32))) (bM_get (j := 0) rfl) i179_47 rfl rfl rfl (Nat.le_of_ble_eq_true rfl) t10 ?_
  refine gm_ev.iload_n i179_50 rfl ?_
  refine gm_ev.iconst (v := 1) i179_51 (by decide) ?_
  refine gm_ev.icmp_le_f i179_52 c12 ?_
  refine gm_ev.aload_n i179_55 rfl ?_
  refine gm_ev.iload_n i179_56 rfl ?_
  refine gm_ev.iconst (v := 2) i179_57 (by decide) ?_
  refine gm_ev.isub i179_58 ?_
  refine gm_ev.callV gm_mono_run (av := [.int (p0 - (2 : Int32))]) (r := []) (ci := 11) (fs := mF B s11) (bM_get (j := 0) rfl) i179_59 rfl rfl rfl (Nat.le_of_ble_eq_true rfl) t13 ?_
  refine gm_ev.iload_n i179_62 rfl ?_
  refine gm_ev.if_ne_f i179_63 c15 ?_
  refine gm_ev.aload_n i179_66 rfl ?_
  refine gm_ev.getfield (v := .int (s14.1 36)) i179_67 rfl (bM_fld (j := 0) (fs := mF B s14) rfl rfl) ?_
  refine gm_ev.goto (tgt := 89) i179_70 (by decide) ?_
  refine gm_ev.istore (ls' := [some (.ref B), some (.int p0), some (.int p1), some (.int p2), some (.int (s14.1 36)), none]) i179_89 (Nat.le_of_ble_eq_true rfl) rfl ?_
  refine gm_ev.iload_n i179_91 rfl ?_
  refine gm_ev.iload i179_92 rfl ?_
  refine gm_ev.icmp_lt_t (tgt := 99) i179_94 (by decide) c16 ?_
  refine gm_ev.iload_n i179_99 rfl ?_
  refine gm_ev.if_ne_t (tgt := 112) i179_100 (by decide) c17 ?_
  refine gm_ev.iload_n i179_112 rfl ?_
  refine gm_ev.iconst (v := 1) i179_113 (by decide) ?_
  refine gm_ev.icmp_ne_f i179_114 c18 ?_
  refine gm_ev.aload_n i179_117 rfl ?_
  refine gm_ev.getfield (v := .ref (B + 17)) i179_118 rfl (bM_fld (j := 0) (fs := mF B s14) rfl rfl) ?_
  refine gm_ev.iload_n i179_121 rfl ?_
  refine gm_ev.laload i179_122 (bM_al (j := 17) (n := 24) (fl := s14.2.2 29) rfl ek19 lk19 (by decide)) ?_
  refine gm_ev.goto (tgt := 132) i179_123 (by decide) ?_
  refine gm_ev.iload_n i179_132 rfl ?_
  refine gm_ev.bipush (v := 8) i179_133 (by decide) ?_
  refine gm_ev.icmp_le_f i179_135 c20 ?_
  refine gm_ev.bipush (v := 8) i179_138 (by decide) ?_
  refine gm_ev.goto (tgt := 144) i179_140 (by decide) ?_
  refine gm_ev.callS gm_mono_run (av := [.long (s14.2.2 29 k19), .int (8 : Int32)]) (r := []) i179_144 rfl rfl rfl (Nat.le_of_ble_eq_true rfl) t22 ?_
  refine gm_ev.istore (ls' := [some (.ref B), some (.int p0), some (.int p1), some (.int p2), some (.int (s14.1 36)), some (.int r21)]) i179_147 (Nat.le_of_ble_eq_true rfl) rfl ?_
  refine gm_ev.iload i179_149 rfl ?_
  refine gm_ev.if_ne_f i179_151 c23 ?_
  refine gm_ev.iconst (v := -1) i179_154 (by decide) ?_
  refine gm_ev.goto (tgt := 160) i179_155 (by decide) ?_
  exact gm_ev.iret i179_160 rfl
theorem r_letter_0_fffffftfftftt {N0 : Nat} {K : Nat → Nat} {d B : Nat} {s : mS} {G : gm_H} {sz sl : Nat} {p0 : Int32} {p1 : Int32} {p2 : Int32} {r7 : Int32} {s11 : mS} {s14 : mS} {k18 : Nat} {r20 : Int32} (hN : N0 ≤ B) (c1 : ¬ p0 < 0) (c2 : ¬ (3 : Int32) < p0) (c3 : ¬ p1 < 0) (c4 : ¬ p2 < 0) (c5 : ¬ (s.1 5) = 0) (c6 : ¬ p0 ≤ (1 : Int32)) (t8 : gm_to N0 K ra_nm (ra_mt K) d 170 [.ref B, .int (p0 - (2 : Int32))] (bM B (mH B (mI s 0 (0 : Int32))) G) sz (.returned (some (.int r7)), bM B (mH B (mI s 0 (0 : Int32))) G, sz, 0)) (c9 : ¬ r7 = 0) (t10 : gm_to N0 K ra_nm (ra_mt K) d 161 [.ref B] (bM B (mH B (mI s 0 (0 : Int32))) G) sz (.returned none, bM B (mH B s11) G, sz, 0)) (c12 : ¬ p0 ≤ (1 : Int32)) (t13 : gm_to N0 K ra_nm (ra_mt K) d 171 [.ref B, .int (p0 - (2 : Int32))] (bM B (mH B s11) G) sz (.returned none, bM B (mH B s14) G, sz, 0)) (c15 : p0 = 0) (c16 : p1 < (s14.1 36)) (c17 : p0 = 0) (ek18 : p1 = nI k18) (lk18 : k18 < 24) (c19 : p2 ≤ (8 : Int32)) (t21 : gm_to N0 K ra_nm (ra_mt K) d 147 [.long (s14.2.2 35 k18), .int p2] (bM B (mH B s14) G) sz (.returned (some (.int r20)), bM B (mH B s14) G, sz, 0)) (c22 : ¬ r20 = 0) : gm_ev N0 K ra_nm (ra_mt K) d (some .int) (gm_I cX12_letter) (gm_lkf (lkX12 false K)) 0 [some (.ref B), some (.int p0), some (.int p1), some (.int p2), none, none] [] (bM B (mH B s) G) sz sl (.returned (some (.int r20)), (bM B (mH B s14) G), sz, sl) := by
  refine gm_ev.aload_n i179_0 rfl ?_
  refine gm_ev.iconst (v := 0) i179_1 (by decide) ?_
  refine gm_ev.putfield (M' := (bM B (mH B (mI s 0 (0 : Int32))) G)) i179_2 rfl (bM_put (j := 0) (fs := mF B s) rfl (Nat.le_of_ble_eq_true rfl) hN (gm_fit_i _) rfl) ?_
  refine gm_ev.iload_n i179_5 rfl ?_
  refine gm_ev.if_lt_f i179_6 c1 ?_
  refine gm_ev.iload_n i179_9 rfl ?_
  refine gm_ev.iconst (v := 3) i179_10 (by decide) ?_
  refine gm_ev.icmp_gt_f i179_11 c2 ?_
  refine gm_ev.iload_n i179_14 rfl ?_
  refine gm_ev.if_lt_f i179_15 c3 ?_
  refine gm_ev.iload_n i179_18 rfl ?_
  refine gm_ev.if_lt_f i179_19 c4 ?_
  refine gm_ev.aload_n i179_22 rfl ?_
  refine gm_ev.getfield (v := .int (s.1 5)) i179_23 rfl (bM_fld (j := 0) (fs := mF B (mI s 0 (0 : Int32))) rfl rfl) ?_
  refine gm_ev.if_eq_f i179_26 c5 ?_
  refine gm_ev.iload_n i179_29 rfl ?_
  refine gm_ev.iconst (v := 1) i179_30 (by decide) ?_
  refine gm_ev.icmp_le_f i179_31 c6 ?_
  refine gm_ev.aload_n i179_34 rfl ?_
  refine gm_ev.iload_n i179_35 rfl ?_
  refine gm_ev.iconst (v := 2) i179_36 (by decide) ?_
  refine gm_ev.isub i179_37 ?_
  refine gm_ev.callV gm_mono_run (av := [.int (p0 - (2 : Int32))]) (r := []) (ci := 11) (fs := mF B (mI s 0 (0 : Int32))) (bM_get (j := 0) rfl) i179_38 rfl rfl rfl (Nat.le_of_ble_eq_true rfl) t8 ?_
  refine gm_ev.if_ne_t (tgt := 46) i179_41 (by decide) c9 ?_
  refine gm_ev.aload_n i179_46 rfl ?_
  refine gm_ev.callV gm_mono_run (av := []) (r := []) (ci := 11) (fs := mF B (mI s 0 (0 : Int32))) (bM_get (j := 0) rfl) i179_47 rfl rfl rfl (Nat.le_of_ble_eq_true rfl) t10 ?_
  refine gm_ev.iload_n i179_50 rfl ?_
  refine gm_ev.iconst (v := 1) i179_51 (by decide) ?_
  refine gm_ev.icmp_le_f i179_52 c12 ?_
  refine gm_ev.aload_n i179_55 rfl ?_
  refine gm_ev.iload_n i179_56 rfl ?_
  refine gm_ev.iconst (v := 2) i179_57 (by decide) ?_
  refine gm_ev.isub i179_58 ?_
  refine gm_ev.callV gm_mono_run (av := [.int (p0 - (2 : Int32))]) (r := []) (ci := 11) (fs := mF B s11) (bM_get (j := 0) rfl) i179_59 rfl rfl rfl (Nat.le_of_ble_eq_true rfl) t13 ?_
  refine gm_ev.iload_n i179_62 rfl ?_
  refine gm_ev.if_ne_f i179_63 c15 ?_
  refine gm_ev.aload_n i179_66 rfl ?_
  refine gm_ev.getfield (v := .int (s14.1 36)) i179_67 rfl (bM_fld (j := 0) (fs := mF B s14) rfl rfl) ?_
  refine gm_ev.goto (tgt := 89) i179_70 (by decide) ?_
  refine gm_ev.istore (ls' := [some (.ref B), some (.int p0), some (.int p1), some (.int p2), some (.int (s14.1 36)), none]) i179_89 (Nat.le_of_ble_eq_true rfl) rfl ?_
  refine gm_ev.iload_n i179_91 rfl ?_
  refine gm_ev.iload i179_92 rfl ?_
  refine gm_ev.icmp_lt_t (tgt := 99) i179_94 (by decide) c16 ?_
  refine gm_ev.iload_n i179_99 rfl ?_
  refine gm_ev.if_ne_f i179_100 c17 ?_
  refine gm_ev.aload_n i179_103 rfl ?_
  refine gm_ev.getfield (v := .ref (B + 20)) i179_104 rfl (bM_fld (j := 0) (fs := mF B s14) rfl rfl) ?_
  refine gm_ev.iload_n i179_107 rfl ?_
  refine gm_ev.laload i179_108 (bM_al (j := 20) (n := 24) (fl := s14.2.2 35) rfl ek18 lk18 (by decide)) ?_
  refine gm_ev.goto (tgt := 132) i179_109 (by decide) ?_
  refine gm_ev.iload_n i179_132 rfl ?_
  refine gm_ev.bipush (v := 8) i179_133 (by decide) ?_
  refine gm_ev.icmp_le_t (tgt := 143) i179_135 (by decide) c19 ?_
  refine gm_ev.iload_n i179_143 rfl ?_
  refine gm_ev.callS gm_mono_run (av := [.long (s14.2.2 35 k18), .int p2]) (r := []) i179_144 rfl rfl rfl (Nat.le_of_ble_eq_true rfl) t21 ?_
  refine gm_ev.istore (ls' := [some (.ref B), some (.int p0), some (.int p1), some (.int p2), some (.int (s14.1 36)), some (.int r20)]) i179_147 (Nat.le_of_ble_eq_true rfl) rfl ?_
  refine gm_ev.iload i179_149 rfl ?_
  refine gm_ev.if_ne_t (tgt := 158) i179_151 (by decide) c22 ?_
  refine gm_ev.iload i179_158 rfl ?_
  exact gm_ev.iret i179_160 rfl
theorem r_letter_0_fffffftfftftf {N0 : Nat} {K : Nat → Nat} {d B : Nat} {s : mS} {G : gm_H} {sz sl : Nat} {p0 : Int32} {p1 : Int32} {p2 : Int32} {r7 : Int32} {s11 : mS} {s14 : mS} {k18 : Nat} {r20 : Int32} (hN : N0 ≤ B) (c1 : ¬ p0 < 0) (c2 : ¬ (3 : Int32) < p0) (c3 : ¬ p1 < 0) (c4 : ¬ p2 < 0) (c5 : ¬ (s.1 5) = 0) (c6 : ¬ p0 ≤ (1 : Int32)) (t8 : gm_to N0 K ra_nm (ra_mt K) d 170 [.ref B, .int (p0 - (2 : Int32))] (bM B (mH B (mI s 0 (0 : Int32))) G) sz (.returned (some (.int r7)), bM B (mH B (mI s 0 (0 : Int32))) G, sz, 0)) (c9 : ¬ r7 = 0) (t10 : gm_to N0 K ra_nm (ra_mt K) d 161 [.ref B] (bM B (mH B (mI s 0 (0 : Int32))) G) sz (.returned none, bM B (mH B s11) G, sz, 0)) (c12 : ¬ p0 ≤ (1 : Int32)) (t13 : gm_to N0 K ra_nm (ra_mt K) d 171 [.ref B, .int (p0 - (2 : Int32))] (bM B (mH B s11) G) sz (.returned none, bM B (mH B s14) G, sz, 0)) (c15 : p0 = 0) (c16 : p1 < (s14.1 36)) (c17 : p0 = 0) (ek18 : p1 = nI k18) (lk18 : k18 < 24) (c19 : p2 ≤ (8 : Int32)) (t21 : gm_to N0 K ra_nm (ra_mt K) d 147 [.long (s14.2.2 35 k18), .int p2] (bM B (mH B s14) G) sz (.returned (some (.int r20)), bM B (mH B s14) G, sz, 0)) (c22 : r20 = 0) : gm_ev N0 K ra_nm (ra_mt K) d (some .int) (gm_I cX12_letter) (gm_lkf (lkX12 false K)) 0 [some (.ref B), some (.int p0), some (.int p1), some (.int p2), none, none] [] (bM B (mH B s) G) sz sl (.returned (some (.int (-1 : Int32))), (bM B (mH B s14) G), sz, sl) := by
  refine gm_ev.aload_n i179_0 rfl ?_
  refine gm_ev.iconst (v := 0) i179_1 (by decide) ?_
  refine gm_ev.putfield (M' := (bM B (mH B (mI s 0 (0 : Int32))) G)) i179_2 rfl (bM_put (j := 0) (fs := mF B s) rfl (Nat.le_of_ble_eq_true rfl) hN (gm_fit_i _) rfl) ?_
  refine gm_ev.iload_n i179_5 rfl ?_
  refine gm_ev.if_lt_f i179_6 c1 ?_
  refine gm_ev.iload_n i179_9 rfl ?_
  refine gm_ev.iconst (v := 3) i179_10 (by decide) ?_
  refine gm_ev.icmp_gt_f i179_11 c2 ?_
  refine gm_ev.iload_n i179_14 rfl ?_
  refine gm_ev.if_lt_f i179_15 c3 ?_
  refine gm_ev.iload_n i179_18 rfl ?_
  refine gm_ev.if_lt_f i179_19 c4 ?_
  refine gm_ev.aload_n i179_22 rfl ?_
  refine gm_ev.getfield (v := .int (s.1 5)) i179_23 rfl (bM_fld (j := 0) (fs := mF B (mI s 0 (0 : Int32))) rfl rfl) ?_
  refine gm_ev.if_eq_f i179_26 c5 ?_
  refine gm_ev.iload_n i179_29 rfl ?_
  refine gm_ev.iconst (v := 1) i179_30 (by decide) ?_
  refine gm_ev.icmp_le_f i179_31 c6 ?_
  refine gm_ev.aload_n i179_34 rfl ?_
  refine gm_ev.iload_n i179_35 rfl ?_
  refine gm_ev.iconst (v := 2) i179_36 (by decide) ?_
  refine gm_ev.isub i179_37 ?_
  refine gm_ev.callV gm_mono_run (av := [.int (p0 - (2 : Int32))]) (r := []) (ci := 11) (fs := mF B (mI s 0 (0 : Int32))) (bM_get (j := 0) rfl) i179_38 rfl rfl rfl (Nat.le_of_ble_eq_true rfl) t8 ?_
  refine gm_ev.if_ne_t (tgt := 46) i179_41 (by decide) c9 ?_
  refine gm_ev.aload_n i179_46 rfl ?_
  refine gm_ev.callV gm_mono_run (av := []) (r := []) (ci := 11) (fs := mF B (mI s 0 (0 : Int32))) (bM_get (j := 0) rfl) i179_47 rfl rfl rfl (Nat.le_of_ble_eq_true rfl) t10 ?_
  refine gm_ev.iload_n i179_50 rfl ?_
  refine gm_ev.iconst (v := 1) i179_51 (by decide) ?_
  refine gm_ev.icmp_le_f i179_52 c12 ?_
  refine gm_ev.aload_n i179_55 rfl ?_
  refine gm_ev.iload_n i179_56 rfl ?_
  refine gm_ev.iconst (v := 2) i179_57 (by decide) ?_
  refine gm_ev.isub i179_58 ?_
  refine gm_ev.callV gm_mono_run (av := [.int (p0 - (2 : Int32))]) (r := []) (ci := 11) (fs := mF B s11) (bM_get (j := 0) rfl) i179_59 rfl rfl rfl (Nat.le_of_ble_eq_true rfl) t13 ?_
  refine gm_ev.iload_n i179_62 rfl ?_
  refine gm_ev.if_ne_f i179_63 c15 ?_
  refine gm_ev.aload_n i179_66 rfl ?_
  refine gm_ev.getfield (v := .int (s14.1 36)) i179_67 rfl (bM_fld (j := 0) (fs := mF B s14) rfl rfl) ?_
  refine gm_ev.goto (tgt := 89) i179_70 (by decide) ?_
  refine gm_ev.istore (ls' := [some (.ref B), some (.int p0), some (.int p1), some (.int p2), some (.int (s14.1 36)), none]) i179_89 (Nat.le_of_ble_eq_true rfl) rfl ?_
  refine gm_ev.iload_n i179_91 rfl ?_
  refine gm_ev.iload i179_92 rfl ?_
  refine gm_ev.icmp_lt_t (tgt := 99) i179_94 (by decide) c16 ?_
  refine gm_ev.iload_n i179_99 rfl ?_
  refine gm_ev.if_ne_f i179_100 c17 ?_
  refine gm_ev.aload_n i179_103 rfl ?_
  refine gm_ev.getfield (v := .ref (B + 20)) i179_104 rfl (bM_fld (j := 0) (fs := mF B s14) rfl rfl) ?_
  refine gm_ev.iload_n i179_107 rfl ?_
  refine gm_ev.laload i179_108 (bM_al (j := 20) (n := 24) (fl := s14.2.2 35) rfl ek18 lk18 (by decide)) ?_
  refine gm_ev.goto (tgt := 132) i179_109 (by decide) ?_
  refine gm_ev.iload_n i179_132 rfl ?_
  refine gm_ev.bipush (v := 8) i179_133 (by decide) ?_
  refine gm_ev.icmp_le_t (tgt := 143) i179_135 (by decide) c19 ?_
  refine gm_ev.iload_n i179_143 rfl ?_
  refine gm_ev.callS gm_mono_run (av := [.long (s14.2.2 35 k18), .int p2]) (r := []) i179_144 rfl rfl rfl (Nat.le_of_ble_eq_true rfl) t21 ?_
  refine gm_ev.istore (ls' := [some (.ref B), some (.int p0), some (.int p1), some (.int p2), some (.int (s14.1 36)), some (.int r20)]) i179_147 (Nat.le_of_ble_eq_true rfl) rfl ?_
  refine gm_ev.iload i179_149 rfl ?_
  refine gm_ev.if_ne_f i179_151 c22 ?_
  refine gm_ev.iconst (v := -1) i179_154 (by decide) ?_
  refine gm_ev.goto (tgt := 160) i179_155 (by decide) ?_
  exact gm_ev.iret i179_160 rfl
theorem r_letter_0_fffffftfftfft {N0 : Nat} {K : Nat → Nat} {d B : Nat} {s : mS} {G : gm_H} {sz sl : Nat} {p0 : Int32} {p1 : Int32} {p2 : Int32} {r7 : Int32} {s11 : mS} {s14 : mS} {k18 : Nat} {r20 : Int32} (hN : N0 ≤ B) (c1 : ¬ p0 < 0) (c2 : ¬ (3 : Int32) < p0) (c3 : ¬ p1 < 0) (c4 : ¬ p2 < 0) (c5 : ¬ (s.1 5) = 0) (c6 : ¬ p0 ≤ (1 : Int32)) (t8 : gm_to N0 K ra_nm (ra_mt K) d 170 [.ref B, .int (p0 - (2 : Int32))] (bM B (mH B (mI s 0 (0 : Int32))) G) sz (.returned (some (.int r7)), bM B (mH B (mI s 0 (0 : Int32))) G, sz, 0)) (c9 : ¬ r7 = 0) (t10 : gm_to N0 K ra_nm (ra_mt K) d 161 [.ref B] (bM B (mH B (mI s 0 (0 : Int32))) G) sz (.returned none, bM B (mH B s11) G, sz, 0)) (c12 : ¬ p0 ≤ (1 : Int32)) (t13 : gm_to N0 K ra_nm (ra_mt K) d 171 [.ref B, .int (p0 - (2 : Int32))] (bM B (mH B s11) G) sz (.returned none, bM B (mH B s14) G, sz, 0)) (c15 : p0 = 0) (c16 : p1 < (s14.1 36)) (c17 : p0 = 0) (ek18 : p1 = nI k18) (lk18 : k18 < 24) (c19 : ¬ p2 ≤ (8 : Int32)) (t21 : gm_to N0 K ra_nm (ra_mt K) d 147 [.long (s14.2.2 35 k18), .int (8 : Int32)] (bM B (mH B s14) G) sz (.returned (some (.int r20)), bM B (mH B s14) G, sz, 0)) (c22 : ¬ r20 = 0) : gm_ev N0 K ra_nm (ra_mt K) d (some .int) (gm_I cX12_letter) (gm_lkf (lkX12 false K)) 0 [some (.ref B), some (.int p0), some (.int p1), some (.int p2), none, none] [] (bM B (mH B s) G) sz sl (.returned (some (.int r20)), (bM B (mH B s14) G), sz, sl) := by
  refine gm_ev.aload_n i179_0 rfl ?_
  refine gm_ev.iconst (v := 0) i179_1 (by decide) ?_
  refine gm_ev.putfield (M' := (bM B (mH B (mI s 0 (0 : Int32))) G)) i179_2 rfl (bM_put (j := 0) (fs := mF B s) rfl (Nat.le_of_ble_eq_true rfl) hN (gm_fit_i _) rfl) ?_
  refine gm_ev.iload_n i179_5 rfl ?_
  refine gm_ev.if_lt_f i179_6 c1 ?_
  refine gm_ev.iload_n i179_9 rfl ?_
  refine gm_ev.iconst (v := 3) i179_10 (by decide) ?_
  refine gm_ev.icmp_gt_f i179_11 c2 ?_
  refine gm_ev.iload_n i179_14 rfl ?_
  refine gm_ev.if_lt_f i179_15 c3 ?_
  refine gm_ev.iload_n i179_18 rfl ?_
  refine gm_ev.if_lt_f i179_19 c4 ?_
  refine gm_ev.aload_n i179_22 rfl ?_
  refine gm_ev.getfield (v := .int (s.1 5)) i179_23 rfl (bM_fld (j := 0) (fs := mF B (mI s 0 (0 : Int32))) rfl rfl) ?_
  refine gm_ev.if_eq_f i179_26 c5 ?_
  refine gm_ev.iload_n i179_29 rfl ?_
  refine gm_ev.iconst (v := 1) i179_30 (by decide) ?_
  refine gm_ev.icmp_le_f i179_31 c6 ?_
  refine gm_ev.aload_n i179_34 rfl ?_
  refine gm_ev.iload_n i179_35 rfl ?_
  refine gm_ev.iconst (v := 2) i179_36 (by decide) ?_
  refine gm_ev.isub i179_37 ?_
  refine gm_ev.callV gm_mono_run (av := [.int (p0 - (2 : Int32))]) (r := []) (ci := 11) (fs := mF B (mI s 0 (0 : Int32))) (bM_get (j := 0) rfl) i179_38 rfl rfl rfl (Nat.le_of_ble_eq_true rfl) t8 ?_
  refine gm_ev.if_ne_t (tgt := 46) i179_41 (by decide) c9 ?_
  refine gm_ev.aload_n i179_46 rfl ?_
  refine gm_ev.callV gm_mono_run (av := []) (r := []) (ci := 11) (fs := mF B (mI s 0 (0 : Int32))) (bM_get (j := 0) rfl) i179_47 rfl rfl rfl (Nat.le_of_ble_eq_true rfl) t10 ?_
  refine gm_ev.iload_n i179_50 rfl ?_
  refine gm_ev.iconst (v := 1) i179_51 (by decide) ?_
  refine gm_ev.icmp_le_f i179_52 c12 ?_
  refine gm_ev.aload_n i179_55 rfl ?_
  refine gm_ev.iload_n i179_56 rfl ?_
  refine gm_ev.iconst (v := 2) i179_57 (by decide) ?_
  refine gm_ev.isub i179_58 ?_
  refine gm_ev.callV gm_mono_run (av := [.int (p0 - (2 : Int32))]) (r := []) (ci := 11) (fs := mF B s11) (bM_get (j := 0) rfl) i179_59 rfl rfl rfl (Nat.le_of_ble_eq_true rfl) t13 ?_
  refine gm_ev.iload_n i179_62 rfl ?_
  refine gm_ev.if_ne_f i179_63 c15 ?_
  refine gm_ev.aload_n i179_66 rfl ?_
  refine gm_ev.getfield (v := .int (s14.1 36)) i179_67 rfl (bM_fld (j := 0) (fs := mF B s14) rfl rfl) ?_
  refine gm_ev.goto (tgt := 89) i179_70 (by decide) ?_
  refine gm_ev.istore (ls' := [some (.ref B), some (.int p0), some (.int p1), some (.int p2), some (.int (s14.1 36)), none]) i179_89 (Nat.le_of_ble_eq_true rfl) rfl ?_
  refine gm_ev.iload_n i179_91 rfl ?_
  refine gm_ev.iload i179_92 rfl ?_
  refine gm_ev.icmp_lt_t (tgt := 99) i179_94 (by decide) c16 ?_
  refine gm_ev.iload_n i179_99 rfl ?_
  refine gm_ev.if_ne_f i179_100 c17 ?_
  refine gm_ev.aload_n i179_103 rfl ?_
  refine gm_ev.getfield (v := .ref (B + 20)) i179_104 rfl (bM_fld (j := 0) (fs := mF B s14) rfl rfl) ?_
  refine gm_ev.iload_n i179_107 rfl ?_
  refine gm_ev.laload i179_108 (bM_al (j := 20) (n := 24) (fl := s14.2.2 35) rfl ek18 lk18 (by decide)) ?_
  refine gm_ev.goto (tgt := 132) i179_109 (by decide) ?_
  refine gm_ev.iload_n i179_132 rfl ?_
  refine gm_ev.bipush (v := 8) i179_133 (by decide) ?_
  refine gm_ev.icmp_le_f i179_135 c19 ?_
  refine gm_ev.bipush (v := 8) i179_138 (by decide) ?_
  refine gm_ev.goto (tgt := 144) i179_140 (by decide) ?_
  refine gm_ev.callS gm_mono_run (av := [.long (s14.2.2 35 k18), .int (8 : Int32)]) (r := []) i179_144 rfl rfl rfl (Nat.le_of_ble_eq_true rfl) t21 ?_
  refine gm_ev.istore (ls' := [some (.ref B), some (.int p0), some (.int p1), some (.int p2), some (.int (s14.1 36)), some (.int r20)]) i179_147 (Nat.le_of_ble_eq_true rfl) rfl ?_
  refine gm_ev.iload i179_149 rfl ?_
  refine gm_ev.if_ne_t (tgt := 158) i179_151 (by decide) c22 ?_
  refine gm_ev.iload i179_158 rfl ?_
  exact gm_ev.iret i179_160 rfl
theorem r_letter_0_fffffftfftfff {N0 : Nat} {K : Nat → Nat} {d B : Nat} {s : mS} {G : gm_H} {sz sl : Nat} {p0 : Int32} {p1 : Int32} {p2 : Int32} {r7 : Int32} {s11 : mS} {s14 : mS} {k18 : Nat} {r20 : Int32} (hN : N0 ≤ B) (c1 : ¬ p0 < 0) (c2 : ¬ (3 : Int32) < p0) (c3 : ¬ p1 < 0) (c4 : ¬ p2 < 0) (c5 : ¬ (s.1 5) = 0) (c6 : ¬ p0 ≤ (1 : Int32)) (t8 : gm_to N0 K ra_nm (ra_mt K) d 170 [.ref B, .int (p0 - (2 : Int32))] (bM B (mH B (mI s 0 (0 : Int32))) G) sz (.returned (some (.int r7)), bM B (mH B (mI s 0 (0 : Int32))) G, sz, 0)) (c9 : ¬ r7 = 0) (t10 : gm_to N0 K ra_nm (ra_mt K) d 161 [.ref B] (bM B (mH B (mI s 0 (0 : Int32))) G) sz (.returned none, bM B (mH B s11) G, sz, 0)) (c12 : ¬ p0 ≤ (1 : Int32)) (t13 : gm_to N0 K ra_nm (ra_mt K) d 171 [.ref B, .int (p0 - (2 : Int32))] (bM B (mH B s11) G) sz (.returned none, bM B (mH B s14) G, sz, 0)) (c15 : p0 = 0) (c16 : p1 < (s14.1 36)) (c17 : p0 = 0) (ek18 : p1 = nI k18) (lk18 : k18 < 24) (c19 : ¬ p2 ≤ (8 : Int32)) (t21 : gm_to N0 K ra_nm (ra_mt K) d 147 [.long (s14.2.2 35 k18), .int (8 : Int32)] (bM B (mH B s14) G) sz (.returned (some (.int r20)), bM B (mH B s14) G, sz, 0)) (c22 : r20 = 0) : gm_ev N0 K ra_nm (ra_mt K) d (some .int) (gm_I cX12_letter) (gm_lkf (lkX12 false K)) 0 [some (.ref B), some (.int p0), some (.int p1), some (.int p2), none, none] [] (bM B (mH B s) G) sz sl (.returned (some (.int (-1 : Int32))), (bM B (mH B s14) G), sz, sl) := by
  refine gm_ev.aload_n i179_0 rfl ?_
  refine gm_ev.iconst (v := 0) i179_1 (by decide) ?_
  refine gm_ev.putfield (M' := (bM B (mH B (mI s 0 (0 : Int32))) G)) i179_2 rfl (bM_put (j := 0) (fs := mF B s) rfl (Nat.le_of_ble_eq_true rfl) hN (gm_fit_i _) rfl) ?_
  refine gm_ev.iload_n i179_5 rfl ?_
  refine gm_ev.if_lt_f i179_6 c1 ?_
  refine gm_ev.iload_n i179_9 rfl ?_
  refine gm_ev.iconst (v := 3) i179_10 (by decide) ?_
  refine gm_ev.icmp_gt_f i179_11 c2 ?_
  refine gm_ev.iload_n i179_14 rfl ?_
  refine gm_ev.if_lt_f i179_15 c3 ?_
  refine gm_ev.iload_n i179_18 rfl ?_
  refine gm_ev.if_lt_f i179_19 c4 ?_
  refine gm_ev.aload_n i179_22 rfl ?_
  refine gm_ev.getfield (v := .int (s.1 5)) i179_23 rfl (bM_fld (j := 0) (fs := mF B (mI s 0 (0 : Int32))) rfl rfl) ?_
  refine gm_ev.if_eq_f i179_26 c5 ?_
  refine gm_ev.iload_n i179_29 rfl ?_
  refine gm_ev.iconst (v := 1) i179_30 (by decide) ?_
  refine gm_ev.icmp_le_f i179_31 c6 ?_
  refine gm_ev.aload_n i179_34 rfl ?_
  refine gm_ev.iload_n i179_35 rfl ?_
  refine gm_ev.iconst (v := 2) i179_36 (by decide) ?_
  refine gm_ev.isub i179_37 ?_
  refine gm_ev.callV gm_mono_run (av := [.int (p0 - (2 : Int32))]) (r := []) (ci := 11) (fs := mF B (mI s 0 (0 : Int32))) (bM_get (j := 0) rfl) i179_38 rfl rfl rfl (Nat.le_of_ble_eq_true rfl) t8 ?_
  refine gm_ev.if_ne_t (tgt := 46) i179_41 (by decide) c9 ?_
  refine gm_ev.aload_n i179_46 rfl ?_
  refine gm_ev.callV gm_mono_run (av := []) (r := []) (ci := 11) (fs := mF B (mI s 0 (0 : Int32))) (bM_get (j := 0) rfl) i179_47 rfl rfl rfl (Nat.le_of_ble_eq_true rfl) t10 ?_
  refine gm_ev.iload_n i179_50 rfl ?_
  refine gm_ev.iconst (v := 1) i179_51 (by decide) ?_
  refine gm_ev.icmp_le_f i179_52 c12 ?_
  refine gm_ev.aload_n i179_55 rfl ?_
  refine gm_ev.iload_n i179_56 rfl ?_
  refine gm_ev.iconst (v := 2) i179_57 (by decide) ?_
  refine gm_ev.isub i179_58 ?_
  refine gm_ev.callV gm_mono_run (av := [.int (p0 - (2 : Int32))]) (r := []) (ci := 11) (fs := mF B s11) (bM_get (j := 0) rfl) i179_59 rfl rfl rfl (Nat.le_of_ble_eq_true rfl) t13 ?_
  refine gm_ev.iload_n i179_62 rfl ?_
  refine gm_ev.if_ne_f i179_63 c15 ?_
  refine gm_ev.aload_n i179_66 rfl ?_
  refine gm_ev.getfield (v := .int (s14.1 36)) i179_67 rfl (bM_fld (j := 0) (fs := mF B s14) rfl rfl) ?_
  refine gm_ev.goto (tgt := 89) i179_70 (by decide) ?_
  refine gm_ev.istore (ls' := [some (.ref B), some (.int p0), some (.int p1), some (.int p2), some (.int (s14.1 36)), none]) i179_89 (Nat.le_of_ble_eq_true rfl) rfl ?_
  refine gm_ev.iload_n i179_91 rfl ?_
  refine gm_ev.iload i179_92 rfl ?_
  refine gm_ev.icmp_lt_t (tgt := 99) i179_94 (by decide) c16 ?_
  refine gm_ev.iload_n i179_99 rfl ?_
  refine gm_ev.if_ne_f i179_100 c17 ?_
  refine gm_ev.aload_n i179_103 rfl ?_
  refine gm_ev.getfield (v := .ref (B + 20)) i179_104 rfl (bM_fld (j := 0) (fs := mF B s14) rfl rfl) ?_
  refine gm_ev.iload_n i179_107 rfl ?_
  refine gm_ev.laload i179_108 (bM_al (j := 20) (n := 24) (fl := s14.2.2 35) rfl ek18 lk18 (by decide)) ?_
  refine gm_ev.goto (tgt := 132) i179_109 (by decide) ?_
  refine gm_ev.iload_n i179_132 rfl ?_
  refine gm_ev.bipush (v := 8) i179_133 (by decide) ?_
  refine gm_ev.icmp_le_f i179_135 c19 ?_
  refine gm_ev.bipush (v := 8) i179_138 (by decide) ?_
  refine gm_ev.goto (tgt := 144) i179_140 (by decide) ?_
  refine gm_ev.callS gm_mono_run (av := [.long (s14.2.2 35 k18), .int (8 : Int32)]) (r := []) i179_144 rfl rfl rfl (Nat.le_of_ble_eq_true rfl) t21 ?_
  refine gm_ev.istore (ls' := [some (.ref B), some (.int p0), some (.int p1), some (.int p2), some (.int (s14.1 36)), some (.int r20)]) i179_147 (Nat.le_of_ble_eq_true rfl) rfl ?_
  refine gm_ev.iload i179_149 rfl ?_
  refine gm_ev.if_ne_f i179_151 c22 ?_
  refine gm_ev.iconst (v := -1) i179_154 (by decide) ?_
  refine gm_ev.goto (tgt := 160) i179_155 (by decide) ?_
  exact gm_ev.iret i179_160 rfl
theorem r_letter_0_fffffftfff {N0 : Nat} {K : Nat → Nat} {d B : Nat} {s : mS} {G : gm_H} {sz sl : Nat} {p0 : Int32} {p1 : Int32} {p2 : Int32} {r7 : Int32} {s11 : mS} {s14 : mS} (hN : N0 ≤ B) (c1 : ¬ p0 < 0) (c2 : ¬ (3 : Int32) < p0) (c3 : ¬ p1 < 0) (c4 : ¬ p2 < 0) (c5 : ¬ (s.1 5) = 0) (c6 : ¬ p0 ≤ (1 : Int32)) (t8 : gm_to N0 K ra_nm (ra_mt K) d 170 [.ref B, .int (p0 - (2 : Int32))] (bM B (mH B (mI s 0 (0 : Int32))) G) sz (.returned (some (.int r7)), bM B (mH B (mI s 0 (0 : Int32))) G, sz, 0)) (c9 : ¬ r7 = 0) (t10 : gm_to N0 K ra_nm (ra_mt K) d 161 [.ref B] (bM B (mH B (mI s 0 (0 : Int32))) G) sz (.returned none, bM B (mH B s11) G, sz, 0)) (c12 : ¬ p0 ≤ (1 : Int32)) (t13 : gm_to N0 K ra_nm (ra_mt K) d 171 [.ref B, .int (p0 - (2 : Int32))] (bM B (mH B s11) G) sz (.returned none, bM B (mH B s14) G, sz, 0)) (c15 : p0 = 0) (c16 : ¬ p1 < (s14.1 36)) : gm_ev N0 K ra_nm (ra_mt K) d (some .int) (gm_I cX12_letter) (gm_lkf (lkX12 false K)) 0 [some (.ref B), some (.int p0), some (.int p1), some (.int p2), none, none] [] (bM B (mH B s) G) sz sl (.returned (some (.int (-1 : Int32))), (bM B (mH B s14) G), sz, sl) := by
  refine gm_ev.aload_n i179_0 rfl ?_
  refine gm_ev.iconst (v := 0) i179_1 (by decide) ?_
  refine gm_ev.putfield (M' := (bM B (mH B (mI s 0 (0 : Int32))) G)) i179_2 rfl (bM_put (j := 0) (fs := mF B s) rfl (Nat.le_of_ble_eq_true rfl) hN (gm_fit_i _) rfl) ?_
  refine gm_ev.iload_n i179_5 rfl ?_
  refine gm_ev.if_lt_f i179_6 c1 ?_
  refine gm_ev.iload_n i179_9 rfl ?_
  refine gm_ev.iconst (v := 3) i179_10 (by decide) ?_
  refine gm_ev.icmp_gt_f i179_11 c2 ?_
  refine gm_ev.iload_n i179_14 rfl ?_
  refine gm_ev.if_lt_f i179_15 c3 ?_
  refine gm_ev.iload_n i179_18 rfl ?_
  refine gm_ev.if_lt_f i179_19 c4 ?_
  refine gm_ev.aload_n i179_22 rfl ?_
  refine gm_ev.getfield (v := .int (s.1 5)) i179_23 rfl (bM_fld (j := 0) (fs := mF B (mI s 0 (0 : Int32))) rfl rfl) ?_
  refine gm_ev.if_eq_f i179_26 c5 ?_
  refine gm_ev.iload_n i179_29 rfl ?_
  refine gm_ev.iconst (v := 1) i179_30 (by decide) ?_
  refine gm_ev.icmp_le_f i179_31 c6 ?_
  refine gm_ev.aload_n i179_34 rfl ?_
  refine gm_ev.iload_n i179_35 rfl ?_
  refine gm_ev.iconst (v := 2) i179_36 (by decide) ?_
  refine gm_ev.isub i179_37 ?_
  refine gm_ev.callV gm_mono_run (av := [.int (p0 - (2 : Int32))]) (r := []) (ci := 11) (fs := mF B (mI s 0 (0 : Int32))) (bM_get (j := 0) rfl) i179_38 rfl rfl rfl (Nat.le_of_ble_eq_true rfl) t8 ?_
  refine gm_ev.if_ne_t (tgt := 46) i179_41 (by decide) c9 ?_
  refine gm_ev.aload_n i179_46 rfl ?_
  refine gm_ev.callV gm_mono_run (av := []) (r := []) (ci := 11) (fs := mF B (mI s 0 (0 : Int32))) (bM_get (j := 0) rfl) i179_47 rfl rfl rfl (Nat.le_of_ble_eq_true rfl) t10 ?_
  refine gm_ev.iload_n i179_50 rfl ?_
  refine gm_ev.iconst (v := 1) i179_51 (by decide) ?_
  refine gm_ev.icmp_le_f i179_52 c12 ?_
  refine gm_ev.aload_n i179_55 rfl ?_
  refine gm_ev.iload_n i179_56 rfl ?_
  refine gm_ev.iconst (v := 2) i179_57 (by decide) ?_
  refine gm_ev.isub i179_58 ?_
  refine gm_ev.callV gm_mono_run (av := [.int (p0 - (2 : Int32))]) (r := []) (ci := 11) (fs := mF B s11) (bM_get (j := 0) rfl) i179_59 rfl rfl rfl (Nat.le_of_ble_eq_true rfl) t13 ?_
  refine gm_ev.iload_n i179_62 rfl ?_
  refine gm_ev.if_ne_f i179_63 c15 ?_
  refine gm_ev.aload_n i179_66 rfl ?_
  refine gm_ev.getfield (v := .int (s14.1 36)) i179_67 rfl (bM_fld (j := 0) (fs := mF B s14) rfl rfl) ?_
  refine gm_ev.goto (tgt := 89) i179_70 (by decide) ?_
  refine gm_ev.istore (ls' := [some (.ref B), some (.int p0), some (.int p1), some (.int p2), some (.int (s14.1 36)), none]) i179_89 (Nat.le_of_ble_eq_true rfl) rfl ?_
  refine gm_ev.iload_n i179_91 rfl ?_
  refine gm_ev.iload i179_92 rfl ?_
  refine gm_ev.icmp_lt_f i179_94 c16 ?_
  refine gm_ev.iconst (v := -1) i179_97 (by decide) ?_
  exact gm_ev.iret i179_98 rfl
theorem r_letter_0_fffffff {N0 : Nat} {K : Nat → Nat} {d B : Nat} {s : mS} {G : gm_H} {sz sl : Nat} {p0 : Int32} {p1 : Int32} {p2 : Int32} {r7 : Int32} (hN : N0 ≤ B) (c1 : ¬ p0 < 0) (c2 : ¬ (3 : Int32) < p0) (c3 : ¬ p1 < 0) (c4 : ¬ p2 < 0) (c5 : ¬ (s.1 5) = 0) (c6 : ¬ p0 ≤ (1 : Int32)) (t8 : gm_to N0 K ra_nm (ra_mt K) d 170 [.ref B, .int (p0 - (2 : Int32))] (bM B (mH B (mI s 0 (0 : Int32))) G) sz (.returned (some (.int r7)), bM B (mH B (mI s 0 (0 : Int32))) G, sz, 0)) (c9 : r7 = 0) : gm_ev N0 K ra_nm (ra_mt K) d (some .int) (gm_I cX12_letter) (gm_lkf (lkX12 false K)) 0 [some (.ref B), some (.int p0), some (.int p1), some (.int p2), none, none] [] (bM B (mH B s) G) sz sl (.returned (some (.int (-1 : Int32))), (bM B (mH B (mI s 0 (0 : Int32))) G), sz, sl) := by
  refine gm_ev.aload_n i179_0 rfl ?_
  refine gm_ev.iconst (v := 0) i179_1 (by decide) ?_
  refine gm_ev.putfield (M' := (bM B (mH B (mI s 0 (0 : Int32))) G)) i179_2 rfl (bM_put (j := 0) (fs := mF B s) rfl (Nat.le_of_ble_eq_true rfl) hN (gm_fit_i _) rfl) ?_
  refine gm_ev.iload_n i179_5 rfl ?_
  refine gm_ev.if_lt_f i179_6 c1 ?_
  refine gm_ev.iload_n i179_9 rfl ?_
  refine gm_ev.iconst (v := 3) i179_10 (by decide) ?_
  refine gm_ev.icmp_gt_f i179_11 c2 ?_
  refine gm_ev.iload_n i179_14 rfl ?_
  refine gm_ev.if_lt_f i179_15 c3 ?_
  refine gm_ev.iload_n i179_18 rfl ?_
  refine gm_ev.if_lt_f i179_19 c4 ?_
  refine gm_ev.aload_n i179_22 rfl ?_
  refine gm_ev.getfield (v := .int (s.1 5)) i179_23 rfl (bM_fld (j := 0) (fs := mF B (mI s 0 (0 : Int32))) rfl rfl) ?_
  refine gm_ev.if_eq_f i179_26 c5 ?_
  refine gm_ev.iload_n i179_29 rfl ?_
  refine gm_ev.iconst (v := 1) i179_30 (by decide) ?_
  refine gm_ev.icmp_le_f i179_31 c6 ?_
  refine gm_ev.aload_n i179_34 rfl ?_
  refine gm_ev.iload_n i179_35 rfl ?_
  refine gm_ev.iconst (v := 2) i179_36 (by decide) ?_
  refine gm_ev.isub i179_37 ?_
  refine gm_ev.callV gm_mono_run (av := [.int (p0 - (2 : Int32))]) (r := []) (ci := 11) (fs := mF B (mI s 0 (0 : Int32))) (bM_get (j := 0) rfl) i179_38 rfl rfl rfl (Nat.le_of_ble_eq_true rfl) t8 ?_
  refine gm_ev.if_ne_f i179_41 c9 ?_
  refine gm_ev.iconst (v := -1) i179_44 (by decide) ?_
  exact gm_ev.iret i179_45 rfl
theorem r_play_0_t {N0 : Nat} {K : Nat → Nat} {d B : Nat} {s : mS} {G : gm_H} {sz sl : Nat} {p0 : Int32} {p1 : Int32} {r2 : Int32} {s4 : mS} (hN : N0 ≤ B) (c1 : (s.1 5) = 0) (t3 : gm_to N0 K ra_nm (ra_mt K) d 120 [.ref B, .int (1 : Int32)] (bM B (mH B (mI s 0 (0 : Int32))) G) sz (.returned (some (.int r2)), bM B (mH B s4) G, sz, 0)) : gm_ev N0 K ra_nm (ra_mt K) d (some .int) (gm_I cX12_play) (gm_lkf (lkX12 false K)) 0 [some (.ref B), some (.int p0), some (.int p1), none, none, none, none] [] (bM B (mH B s) G) sz sl (.returned (some (.int r2)), (bM B (mH B s4) G), sz, sl) := by
  refine gm_ev.aload_n i180_0 rfl ?_
  refine gm_ev.iconst (v := 0) i180_1 (by decide) ?_
  refine gm_ev.putfield (M' := (bM B (mH B (mI s 0 (0 : Int32))) G)) i180_2 rfl (bM_put (j := 0) (fs := mF B s) rfl (Nat.le_of_ble_eq_true rfl) hN (gm_fit_i _) rfl) ?_
  refine gm_ev.aload_n i180_5 rfl ?_
  refine gm_ev.getfield (v := .int (s.1 5)) i180_6 rfl (bM_fld (j := 0) (fs := mF B (mI s 0 (0 : Int32))) rfl rfl) ?_
  refine gm_ev.if_eq_t (tgt := 20) i180_9 (by decide) c1 ?_
  refine gm_ev.aload_n i180_20 rfl ?_
  refine gm_ev.iconst (v := 1) i180_21 (by decide) ?_
  refine gm_ev.callV gm_mono_run (av := [.int (1 : Int32)]) (r := []) (ci := 11) (fs := mF B (mI s 0 (0 : Int32))) (bM_get (j := 0) rfl) i180_22 rfl rfl rfl (Nat.le_of_ble_eq_true rfl) t3 ?_
  exact gm_ev.iret i180_25 rfl
theorem r_play_0_fttt {N0 : Nat} {K : Nat → Nat} {d B : Nat} {s : mS} {G : gm_H} {sz sl : Nat} {p0 : Int32} {p1 : Int32} {s4 : mS} {r5 : Int32} {s9 : mS} {r11 : Int32} {s13 : mS} (hN : N0 ≤ B) (c1 : ¬ (s.1 5) = 0) (c2 : (s.1 36) = (2 : Int32)) (t3 : gm_to N0 K ra_nm (ra_mt K) d 161 [.ref B] (bM B (mH B (mI s 0 (0 : Int32))) G) sz (.returned none, bM B (mH B s4) G, sz, 0)) (t6 : gm_to N0 K ra_nm (ra_mt K) d 172 [.ref B] (bM B (mH B s4) G) sz (.returned (some (.int r5)), bM B (mH B s4) G, sz, 0)) (c7 : r5 = 0) (t8 : gm_to N0 K ra_nm (ra_mt K) d 171 [.ref B, .int (0 : Int32)] (bM B (mH B s4) G) sz (.returned none, bM B (mH B s9) G, sz, 0)) (c10 : p0 < 0) (t12 : gm_to N0 K ra_nm (ra_mt K) d 120 [.ref B, .int (2 : Int32)] (bM B (mH B s9) G) sz (.returned (some (.int r11)), bM B (mH B s13) G, sz, 0)) : gm_ev N0 K ra_nm (ra_mt K) d (some .int) (gm_I cX12_play) (gm_lkf (lkX12 false K)) 0 [some (.ref B), some (.int p0), some (.int p1), none, none, none, none] [] (bM B (mH B s) G) sz sl (.returned (some (.int r11)), (bM B (mH B s13) G), sz, sl) := by
  refine gm_ev.aload_n i180_0 rfl ?_
  refine gm_ev.iconst (v := 0) i180_1 (by decide) ?_
  refine gm_ev.putfield (M' := (bM B (mH B (mI s 0 (0 : Int32))) G)) i180_2 rfl (bM_put (j := 0) (fs := mF B s) rfl (Nat.le_of_ble_eq_true rfl) hN (gm_fit_i _) rfl) ?_
  refine gm_ev.aload_n i180_5 rfl ?_
  refine gm_ev.getfield (v := .int (s.1 5)) i180_6 rfl (bM_fld (j := 0) (fs := mF B (mI s 0 (0 : Int32))) rfl rfl) ?_
  refine gm_ev.if_eq_f i180_9 c1 ?_
  refine gm_ev.aload_n i180_12 rfl ?_
  refine gm_ev.getfield (v := .int (s.1 36)) i180_13 rfl (bM_fld (j := 0) (fs := mF B (mI s 0 (0 : Int32))) rfl rfl) ?_
  refine gm_ev.iconst (v := 2) i180_16 (by decide) ?_
  refine gm_ev.icmp_eq_t (tgt := 26) i180_17 (by decide) c2 ?_
  refine gm_ev.aload_n i180_26 rfl ?_
  refine gm_ev.callV gm_mono_run (av := []) (r := []) (ci := 11) (fs := mF B (mI s 0 (0 : Int32))) (bM_get (j := 0) rfl) i180_27 rfl rfl rfl (Nat.le_of_ble_eq_true rfl) t3 ?_
  refine gm_ev.aload_n i180_30 rfl ?_
  refine gm_ev.callV gm_mono_run (av := []) (r := []) (ci := 11) (fs := mF B s4) (bM_get (j := 0) rfl) i180_31 rfl rfl rfl (Nat.le_of_ble_eq_true rfl) t6 ?_
  refine gm_ev.if_eq_t (tgt := 43) i180_34 (by decide) c7 ?_
  refine gm_ev.aload_n i180_43 rfl ?_
  refine gm_ev.iconst (v := 0) i180_44 (by decide) ?_
  refine gm_ev.callV gm_mono_run (av := [.int (0 : Int32)]) (r := []) (ci := 11) (fs := mF B s4) (bM_get (j := 0) rfl) i180_45 rfl rfl rfl (Nat.le_of_ble_eq_true rfl) t8 ?_
  refine gm_ev.iload_n i180_48 rfl ?_
  refine gm_ev.if_lt_t (tgt := 60) i180_49 (by decide) c10 ?_
  refine gm_ev.aload_n i180_60 rfl ?_
  refine gm_ev.iconst (v := 2) i180_61 (by decide) ?_
  refine gm_ev.callV gm_mono_run (av := [.int (2 : Int32)]) (r := []) (ci := 11) (fs := mF B s9) (bM_get (j := 0) rfl) i180_62 rfl rfl rfl (Nat.le_of_ble_eq_true rfl) t12 ?_
  exact gm_ev.iret i180_65 rfl
theorem r_play_0_fttftt {N0 : Nat} {K : Nat → Nat} {d B : Nat} {s : mS} {G : gm_H} {sz sl : Nat} {p0 : Int32} {p1 : Int32} {s4 : mS} {r5 : Int32} {s9 : mS} {k12 : Nat} {s14 : mS} {r16 : Int32} {s18 : mS} (hN : N0 ≤ B) (c1 : ¬ (s.1 5) = 0) (c2 : (s.1 36) = (2 : Int32)) (t3 : gm_to N0 K ra_nm (ra_mt K) d 161 [.ref B] (bM B (mH B (mI s 0 (0 : Int32))) G) sz (.returned none, bM B (mH B s4) G, sz, 0)) (t6 : gm_to N0 K ra_nm (ra_mt K) d 172 [.ref B] (bM B (mH B s4) G) sz (.returned (some (.int r5)), bM B (mH B s4) G, sz, 0)) (c7 : r5 = 0) (t8 : gm_to N0 K ra_nm (ra_mt K) d 171 [.ref B, .int (0 : Int32)] (bM B (mH B s4) G) sz (.returned none, bM B (mH B s9) G, sz, 0)) (c10 : ¬ p0 < 0) (c11 : p0 < (s9.1 38)) (ek12 : p0 = nI k12) (lk12 : k12 < 201) (t13 : gm_to N0 K ra_nm (ra_mt K) d 171 [.ref B, .int (1 : Int32)] (bM B (mH B s9) G) sz (.returned none, bM B (mH B s14) G, sz, 0)) (c15 : p1 < 0) (t17 : gm_to N0 K ra_nm (ra_mt K) d 120 [.ref B, .int (2 : Int32)] (bM B (mH B s14) G) sz (.returned (some (.int r16)), bM B (mH B s18) G, sz, 0)) : gm_ev N0 K ra_nm (ra_mt K) d (some .int) (gm_I cX12_play) (gm_lkf (lkX12 false K)) 0 [some (.ref B), some (.int p0), some (.int p1), none, none, none, none] [] (bM B (mH B s) G) sz sl (.returned (some (.int r16)), (bM B (mH B s18) G), sz, sl) := by
  refine gm_ev.aload_n i180_0 rfl ?_
  refine gm_ev.iconst (v := 0) i180_1 (by decide) ?_
  refine gm_ev.putfield (M' := (bM B (mH B (mI s 0 (0 : Int32))) G)) i180_2 rfl (bM_put (j := 0) (fs := mF B s) rfl (Nat.le_of_ble_eq_true rfl) hN (gm_fit_i _) rfl) ?_
  refine gm_ev.aload_n i180_5 rfl ?_
  refine gm_ev.getfield (v := .int (s.1 5)) i180_6 rfl (bM_fld (j := 0) (fs := mF B (mI s 0 (0 : Int32))) rfl rfl) ?_
  refine gm_ev.if_eq_f i180_9 c1 ?_
  refine gm_ev.aload_n i180_12 rfl ?_
  refine gm_ev.getfield (v := .int (s.1 36)) i180_13 rfl (bM_fld (j := 0) (fs := mF B (mI s 0 (0 : Int32))) rfl rfl) ?_
  refine gm_ev.iconst (v := 2) i180_16 (by decide) ?_
  refine gm_ev.icmp_eq_t (tgt := 26) i180_17 (by decide) c2 ?_
  refine gm_ev.aload_n i180_26 rfl ?_
  refine gm_ev.callV gm_mono_run (av := []) (r := []) (ci := 11) (fs := mF B (mI s 0 (0 : Int32))) (bM_get (j := 0) rfl) i180_27 rfl rfl rfl (Nat.le_of_ble_eq_true rfl) t3 ?_
  refine gm_ev.aload_n i180_30 rfl ?_
  refine gm_ev.callV gm_mono_run (av := []) (r := []) (ci := 11) (fs := mF B s4) (bM_get (j := 0) rfl) i180_31 rfl rfl rfl (Nat.le_of_ble_eq_true rfl) t6 ?_
  refine gm_ev.if_eq_t (tgt := 43) i180_34 (by decide) c7 ?_
  refine gm_ev.aload_n i180_43 rfl ?_
  refine gm_ev.iconst (v := 0) i180_44 (by decide) ?_
  refine gm_ev.callV gm_mono_run (av := [.int (0 : Int32)]) (r := []) (ci := 11) (fs := mF B s4) (bM_get (j := 0) rfl) i180_45 rfl rfl rfl (Nat.le_of_ble_eq_true rfl) t8 ?_
  refine gm_ev.iload_n i180_48 rfl ?_
  refine gm_ev.if_lt_f i180_49 c10 ?_
  refine gm_ev.iload_n i180_52 rfl ?_
  refine gm_ev.aload_n i180_53 rfl ?_
  refine gm_ev.getfield (v := .int (s9.1 38)) i180_54 rfl (bM_fld (j := 0) (fs := mF B s9) rfl rfl) ?_
  refine gm_ev.icmp_lt_t (tgt := 66) i180_57 (by decide) c11 ?_
  refine gm_ev.aload_n i180_66 rfl ?_
  refine gm_ev.getfield (v := .ref (B + 21)) i180_67 rfl (bM_fld (j := 0) (fs := mF B s9) rfl rfl) ?_
  refine gm_ev.iload_n i180_70 rfl ?_
  refine gm_ev.laload i180_71 (bM_al (j := 21) (n := 201) (fl := s9.2.2 37) rfl ek12 lk12 (by decide)) ?_
  refine gm_ev.lstore_n (ls' := [some (.ref B), some (.int p0), some (.int p1), some (.long (s9.2.2 37 k12)), none, none, none]) i180_72 (Nat.le_of_ble_eq_true rfl) rfl ?_
  refine gm_ev.aload_n i180_73 rfl ?_
  refine gm_ev.iconst (v := 1) i180_74 (by decide) ?_
  refine gm_ev.callV gm_mono_run (av := [.int (1 : Int32)]) (r := []) (ci := 11) (fs := mF B s9) (bM_get (j := 0) rfl) i180_75 rfl rfl rfl (Nat.le_of_ble_eq_true rfl) t13 ?_
  refine gm_ev.iload_n i180_78 rfl ?_
  refine gm_ev.if_lt_t (tgt := 90) i180_79 (by decide) c15 ?_
  refine gm_ev.aload_n i180_90 rfl ?_
  refine gm_ev.iconst (v := 2) i180_91 (by decide) ?_
  refine gm_ev.callV gm_mono_run (av := [.int (2 : Int32)]) (r := []) (ci := 11) (fs := mF B s14) (bM_get (j := 0) rfl) i180_92 rfl rfl rfl (Nat.le_of_ble_eq_true rfl) t17 ?_
  exact gm_ev.iret i180_95 rfl
theorem r_play_0_fttftfttt {N0 : Nat} {K : Nat → Nat} {d B : Nat} {s : mS} {G : gm_H} {sz sl : Nat} {p0 : Int32} {p1 : Int32} {s4 : mS} {r5 : Int32} {s9 : mS} {k12 : Nat} {s14 : mS} {k17 : Nat} {r18 : Int32} {s20 : mS} {r23 : Int32} {s25 : mS} (hN : N0 ≤ B) (c1 : ¬ (s.1 5) = 0) (c2 : (s.1 36) = (2 : Int32)) (t3 : gm_to N0 K ra_nm (ra_mt K) d 161 [.ref B] (bM B (mH B (mI s 0 (0 : Int32))) G) sz (.returned none, bM B (mH B s4) G, sz, 0)) (t6 : gm_to N0 K ra_nm (ra_mt K) d 172 [.ref B] (bM B (mH B s4) G) sz (.returned (some (.int r5)), bM B (mH B s4) G, sz, 0)) (c7 : r5 = 0) (t8 : gm_to N0 K ra_nm (ra_mt K) d 171 [.ref B, .int (0 : Int32)] (bM B (mH B s4) G) sz (.returned none, bM B (mH B s9) G, sz, 0)) (c10 : ¬ p0 < 0) (c11 : p0 < (s9.1 38)) (ek12 : p0 = nI k12) (lk12 : k12 < 201) (t13 : gm_to N0 K ra_nm (ra_mt K) d 171 [.ref B, .int (1 : Int32)] (bM B (mH B s9) G) sz (.returned none, bM B (mH B s14) G, sz, 0)) (c15 : ¬ p1 < 0) (c16 : p1 < (s14.1 38)) (ek17 : p1 = nI k17) (lk17 : k17 < 201) (t19 : gm_to N0 K ra_nm (ra_mt K) d 164 [.ref B, .ref (B + 17), .int (0 : Int32), .int (s14.1 30), .long (s9.2.2 37 k12), .long (s14.2.2 37 k17)] (bM B (mH B s14) G) sz (.returned (some (.int r18)), bM B (mH B s20) G, sz, 0)) (c21 : r18 = 0) (c22 : r18 = 0) (t24 : gm_to N0 K ra_nm (ra_mt K) d 120 [.ref B, .int (1 : Int32)] (bM B (mH B (mI s20 24 (0 : Int32))) G) sz (.returned (some (.int r23)), bM B (mH B s25) G, sz, 0)) : gm_ev N0 K ra_nm (ra_mt K) d (some .int) (gm_I cX12_play) (gm_lkf (lkX12 false K)) 0 [some (.ref B), some (.int p0), some (.int p1), none, none, none, none] [] (bM B (mH B s) G) sz sl (.returned (some (.int r23)), (bM B (mH B s25) G), sz, sl) := by
  refine gm_ev.aload_n i180_0 rfl ?_
  refine gm_ev.iconst (v := 0) i180_1 (by decide) ?_
  refine gm_ev.putfield (M' := (bM B (mH B (mI s 0 (0 : Int32))) G)) i180_2 rfl (bM_put (j := 0) (fs := mF B s) rfl (Nat.le_of_ble_eq_true rfl) hN (gm_fit_i _) rfl) ?_
  refine gm_ev.aload_n i180_5 rfl ?_
  refine gm_ev.getfield (v := .int (s.1 5)) i180_6 rfl (bM_fld (j := 0) (fs := mF B (mI s 0 (0 : Int32))) rfl rfl) ?_
  refine gm_ev.if_eq_f i180_9 c1 ?_
  refine gm_ev.aload_n i180_12 rfl ?_
  refine gm_ev.getfield (v := .int (s.1 36)) i180_13 rfl (bM_fld (j := 0) (fs := mF B (mI s 0 (0 : Int32))) rfl rfl) ?_
  refine gm_ev.iconst (v := 2) i180_16 (by decide) ?_
  refine gm_ev.icmp_eq_t (tgt := 26) i180_17 (by decide) c2 ?_
  refine gm_ev.aload_n i180_26 rfl ?_
  refine gm_ev.callV gm_mono_run (av := []) (r := []) (ci := 11) (fs := mF B (mI s 0 (0 : Int32))) (bM_get (j := 0) rfl) i180_27 rfl rfl rfl (Nat.le_of_ble_eq_true rfl) t3 ?_
  refine gm_ev.aload_n i180_30 rfl ?_
  refine gm_ev.callV gm_mono_run (av := []) (r := []) (ci := 11) (fs := mF B s4) (bM_get (j := 0) rfl) i180_31 rfl rfl rfl (Nat.le_of_ble_eq_true rfl) t6 ?_
  refine gm_ev.if_eq_t (tgt := 43) i180_34 (by decide) c7 ?_
  refine gm_ev.aload_n i180_43 rfl ?_
  refine gm_ev.iconst (v := 0) i180_44 (by decide) ?_
  refine gm_ev.callV gm_mono_run (av := [.int (0 : Int32)]) (r := []) (ci := 11) (fs := mF B s4) (bM_get (j := 0) rfl) i180_45 rfl rfl rfl (Nat.le_of_ble_eq_true rfl) t8 ?_
  refine gm_ev.iload_n i180_48 rfl ?_
  refine gm_ev.if_lt_f i180_49 c10 ?_
  refine gm_ev.iload_n i180_52 rfl ?_
  refine gm_ev.aload_n i180_53 rfl ?_
  refine gm_ev.getfield (v := .int (s9.1 38)) i180_54 rfl (bM_fld (j := 0) (fs := mF B s9) rfl rfl) ?_
  refine gm_ev.icmp_lt_t (tgt := 66) i180_57 (by decide) c11 ?_
  refine gm_ev.aload_n i180_66 rfl ?_
  refine gm_ev.getfield (v := .ref (B + 21)) i180_67 rfl (bM_fld (j := 0) (fs := mF B s9) rfl rfl) ?_
  refine gm_ev.iload_n i180_70 rfl ?_
  refine gm_ev.laload i180_71 (bM_al (j := 21) (n := 201) (fl := s9.2.2 37) rfl ek12 lk12 (by decide)) ?_
  refine gm_ev.lstore_n (ls' := [some (.ref B), some (.int p0), some (.int p1), some (.long (s9.2.2 37 k12)), none, none, none]) i180_72 (Nat.le_of_ble_eq_true rfl) rfl ?_
  refine gm_ev.aload_n i180_73 rfl ?_
  refine gm_ev.iconst (v := 1) i180_74 (by decide) ?_
  refine gm_ev.callV gm_mono_run (av := [.int (1 : Int32)]) (r := []) (ci := 11) (fs := mF B s9) (bM_get (j := 0) rfl) i180_75 rfl rfl rfl (Nat.le_of_ble_eq_true rfl) t13 ?_
  refine gm_ev.iload_n i180_78 rfl ?_
  refine gm_ev.if_lt_f i180_79 c15 ?_
  refine gm_ev.iload_n i180_82 rfl ?_
  refine gm_ev.aload_n i180_83 rfl ?_
  refine gm_ev.getfield (v := .int (s14.1 38)) i180_84 rfl (bM_fld (j := 0) (fs := mF B s14) rfl rfl) ?_
  refine gm_ev.icmp_lt_t (tgt := 96) i180_87 (by decide) c16 ?_
  refine gm_ev.aload_n i180_96 rfl ?_
  refine gm_ev.aload_n i180_97 rfl ?_
  refine gm_ev.getfield (v := .ref (B + 17)) i180_98 rfl (bM_fld (j := 0) (fs := mF B s14) rfl rfl) ?_
  refine gm_ev.iconst (v := 0) i180_101 (by decide) ?_
  refine gm_ev.aload_n i180_102 rfl ?_
  refine gm_ev.getfield (v := .int (s14.1 30)) i180_103 rfl (bM_fld (j := 0) (fs := mF B s14) rfl rfl) ?_
  refine gm_ev.lload_n i180_106 rfl ?_
  refine gm_ev.aload_n i180_107 rfl ?_
  refine gm_ev.getfield (v := .ref (B + 21)) i180_108 rfl (bM_fld (j := 0) (fs := mF B s14) rfl rfl) ?_
  refine gm_ev.iload_n i180_111 rfl ?_
  refine gm_ev.laload i180_112 (bM_al (j := 21) (n := 201) (fl := s14.2.2 37) rfl ek17 lk17 (by decide)) ?_
  refine gm_ev.callV gm_mono_run (av := [.ref (B + 17), .int (0 : Int32), .int (s14.1 30), .long (s9.2.2 37 k12), .long (s14.2.2 37 k17)]) (r := []) (ci := 11) (fs := mF B s14) (bM_get (j := 0) rfl) i180_113 rfl rfl rfl (Nat.le_of_ble_eq_true rfl) t19 ?_
  refine gm_ev.istore (ls' := [some (.ref B), some (.int p0), some (.int p1), some (.long (s9.2.2 37 k12)), none, some (.int r18), none]) i180_116 (Nat.le_of_ble_eq_true rfl) rfl ?_
  refine gm_ev.iload i180_118 rfl ?_
  refine gm_ev.if_eq_t (tgt := 136) i180_120 (by decide) c21 ?_
  refine gm_ev.aload_n i180_136 rfl ?_
  refine gm_ev.iconst (v := 0) i180_137 (by decide) ?_
  refine gm_ev.putfield (M' := (bM B (mH B (mI s20 24 (0 : Int32))) G)) i180_138 rfl (bM_put (j := 0) (fs := mF B s20) rfl (Nat.le_of_ble_eq_true rfl) hN (gm_fit_z (by decide)) rfl) ?_
  refine gm_ev.iload i180_141 rfl ?_
  refine gm_ev.if_eq_t (tgt := 153) i180_143 (by decide) c22 ?_
  refine gm_ev.aload_n i180_153 rfl ?_
  refine gm_ev.iconst (v := 1) i180_154 (by decide) ?_
  refine gm_ev.callV gm_mono_run (av := [.int (1 : Int32)]) (r := []) (ci := 11) (fs := mF B (mI s20 24 (0 : Int32))) (bM_get (j := 0) rfl) i180_155 rfl rfl rfl (Nat.le_of_ble_eq_true rfl) t24 ?_
  exact gm_ev.iret i180_158 rfl
theorem r_play_0_fttftfttft_at170 {N0 : Nat} {K : Nat → Nat} {d B : Nat} {s : mS} {G : gm_H} {sz sl : Nat} {R : gm_R} {p0 : Int32} {p1 : Int32} {s4 : mS} {r5 : Int32} {s9 : mS} {k12 : Nat} {s14 : mS} {k17 : Nat} {r18 : Int32} {s20 : mS} (hN : N0 ≤ B) (c1 : ¬ (s.1 5) = 0) (c2 : (s.1 36) = (2 : Int32)) (t3 : gm_to N0 K ra_nm (ra_mt K) d 161 [.ref B] (bM B (mH B (mI s 0 (0 : Int32))) G) sz (.returned none, bM B (mH B s4) G, sz, 0)) (t6 : gm_to N0 K ra_nm (ra_mt K) d 172 [.ref B] (bM B (mH B s4) G) sz (.returned (some (.int r5)), bM B (mH B s4) G, sz, 0)) (c7 : r5 = 0) (t8 : gm_to N0 K ra_nm (ra_mt K) d 171 [.ref B, .int (0 : Int32)] (bM B (mH B s4) G) sz (.returned none, bM B (mH B s9) G, sz, 0)) (c10 : ¬ p0 < 0) (c11 : p0 < (s9.1 38)) (ek12 : p0 = nI k12) (lk12 : k12 < 201) (t13 : gm_to N0 K ra_nm (ra_mt K) d 171 [.ref B, .int (1 : Int32)] (bM B (mH B s9) G) sz (.returned none, bM B (mH B s14) G, sz, 0)) (c15 : ¬ p1 < 0) (c16 : p1 < (s14.1 38)) (ek17 : p1 = nI k17) (lk17 : k17 < 201) (t19 : gm_to N0 K ra_nm (ra_mt K) d 164 [.ref B, .ref (B + 17), .int (0 : Int32), .int (s14.1 30), .long (s9.2.2 37 k12), .long (s14.2.2 37 k17)] (bM B (mH B s14) G) sz (.returned (some (.int r18)), bM B (mH B s20) G, sz, 0)) (c21 : r18 = 0) (c22 : ¬ r18 = 0) (c23 : (s20.1 23) = 0) (k : gm_ev N0 K ra_nm (ra_mt K) d (some .int) (gm_I cX12_play) (gm_lkf (lkX12 false K)) 170 [some (.ref B), none, none, none, none, none, some (.int (0 : Int32))] [] (bM B (mH B (mI (mI s20 24 (0 : Int32)) 30 (s20.1 34))) G) sz sl R) : gm_ev N0 K ra_nm (ra_mt K) d (some .int) (gm_I cX12_play) (gm_lkf (lkX12 false K)) 0 [some (.ref B), some (.int p0), some (.int p1), none, none, none, none] [] (bM B (mH B s) G) sz sl R := by
  refine gm_ev.aload_n i180_0 rfl ?_
  refine gm_ev.iconst (v := 0) i180_1 (by decide) ?_
  refine gm_ev.putfield (M' := (bM B (mH B (mI s 0 (0 : Int32))) G)) i180_2 rfl (bM_put (j := 0) (fs := mF B s) rfl (Nat.le_of_ble_eq_true rfl) hN (gm_fit_i _) rfl) ?_
  refine gm_ev.aload_n i180_5 rfl ?_
  refine gm_ev.getfield (v := .int (s.1 5)) i180_6 rfl (bM_fld (j := 0) (fs := mF B (mI s 0 (0 : Int32))) rfl rfl) ?_
  refine gm_ev.if_eq_f i180_9 c1 ?_
  refine gm_ev.aload_n i180_12 rfl ?_
  refine gm_ev.getfield (v := .int (s.1 36)) i180_13 rfl (bM_fld (j := 0) (fs := mF B (mI s 0 (0 : Int32))) rfl rfl) ?_
  refine gm_ev.iconst (v := 2) i180_16 (by decide) ?_
  refine gm_ev.icmp_eq_t (tgt := 26) i180_17 (by decide) c2 ?_
  refine gm_ev.aload_n i180_26 rfl ?_
  refine gm_ev.callV gm_mono_run (av := []) (r := []) (ci := 11) (fs := mF B (mI s 0 (0 : Int32))) (bM_get (j := 0) rfl) i180_27 rfl rfl rfl (Nat.le_of_ble_eq_true rfl) t3 ?_
  refine gm_ev.aload_n i180_30 rfl ?_
  refine gm_ev.callV gm_mono_run (av := []) (r := []) (ci := 11) (fs := mF B s4) (bM_get (j := 0) rfl) i180_31 rfl rfl rfl (Nat.le_of_ble_eq_true rfl) t6 ?_
  refine gm_ev.if_eq_t (tgt := 43) i180_34 (by decide) c7 ?_
  refine gm_ev.aload_n i180_43 rfl ?_
  refine gm_ev.iconst (v := 0) i180_44 (by decide) ?_
  refine gm_ev.callV gm_mono_run (av := [.int (0 : Int32)]) (r := []) (ci := 11) (fs := mF B s4) (bM_get (j := 0) rfl) i180_45 rfl rfl rfl (Nat.le_of_ble_eq_true rfl) t8 ?_
  refine gm_ev.iload_n i180_48 rfl ?_
  refine gm_ev.if_lt_f i180_49 c10 ?_
  refine gm_ev.iload_n i180_52 rfl ?_
  refine gm_ev.aload_n i180_53 rfl ?_
  refine gm_ev.getfield (v := .int (s9.1 38)) i180_54 rfl (bM_fld (j := 0) (fs := mF B s9) rfl rfl) ?_
  refine gm_ev.icmp_lt_t (tgt := 66) i180_57 (by decide) c11 ?_
  refine gm_ev.aload_n i180_66 rfl ?_
  refine gm_ev.getfield (v := .ref (B + 21)) i180_67 rfl (bM_fld (j := 0) (fs := mF B s9) rfl rfl) ?_
  refine gm_ev.iload_n i180_70 rfl ?_
  refine gm_ev.laload i180_71 (bM_al (j := 21) (n := 201) (fl := s9.2.2 37) rfl ek12 lk12 (by decide)) ?_
  refine gm_ev.lstore_n (ls' := [some (.ref B), some (.int p0), some (.int p1), some (.long (s9.2.2 37 k12)), none, none, none]) i180_72 (Nat.le_of_ble_eq_true rfl) rfl ?_
  refine gm_ev.aload_n i180_73 rfl ?_
  refine gm_ev.iconst (v := 1) i180_74 (by decide) ?_
  refine gm_ev.callV gm_mono_run (av := [.int (1 : Int32)]) (r := []) (ci := 11) (fs := mF B s9) (bM_get (j := 0) rfl) i180_75 rfl rfl rfl (Nat.le_of_ble_eq_true rfl) t13 ?_
  refine gm_ev.iload_n i180_78 rfl ?_
  refine gm_ev.if_lt_f i180_79 c15 ?_
  refine gm_ev.iload_n i180_82 rfl ?_
  refine gm_ev.aload_n i180_83 rfl ?_
  refine gm_ev.getfield (v := .int (s14.1 38)) i180_84 rfl (bM_fld (j := 0) (fs := mF B s14) rfl rfl) ?_
  refine gm_ev.icmp_lt_t (tgt := 96) i180_87 (by decide) c16 ?_
  refine gm_ev.aload_n i180_96 rfl ?_
  refine gm_ev.aload_n i180_97 rfl ?_
  refine gm_ev.getfield (v := .ref (B + 17)) i180_98 rfl (bM_fld (j := 0) (fs := mF B s14) rfl rfl) ?_
  refine gm_ev.iconst (v := 0) i180_101 (by decide) ?_
  refine gm_ev.aload_n i180_102 rfl ?_
  refine gm_ev.getfield (v := .int (s14.1 30)) i180_103 rfl (bM_fld (j := 0) (fs := mF B s14) rfl rfl) ?_
  refine gm_ev.lload_n i180_106 rfl ?_
  refine gm_ev.aload_n i180_107 rfl ?_
  refine gm_ev.getfield (v := .ref (B + 21)) i180_108 rfl (bM_fld (j := 0) (fs := mF B s14) rfl rfl) ?_
  refine gm_ev.iload_n i180_111 rfl ?_
  refine gm_ev.laload i180_112 (bM_al (j := 21) (n := 201) (fl := s14.2.2 37) rfl ek17 lk17 (by decide)) ?_
  refine gm_ev.callV gm_mono_run (av := [.ref (B + 17), .int (0 : Int32), .int (s14.1 30), .long (s9.2.2 37 k12), .long (s14.2.2 37 k17)]) (r := []) (ci := 11) (fs := mF B s14) (bM_get (j := 0) rfl) i180_113 rfl rfl rfl (Nat.le_of_ble_eq_true rfl) t19 ?_
  refine gm_ev.istore (ls' := [some (.ref B), some (.int p0), some (.int p1), some (.long (s9.2.2 37 k12)), none, some (.int r18), none]) i180_116 (Nat.le_of_ble_eq_true rfl) rfl ?_
  refine gm_ev.iload i180_118 rfl ?_
  refine gm_ev.if_eq_t (tgt := 136) i180_120 (by decide) c21 ?_
  refine gm_ev.aload_n i180_136 rfl ?_
  refine gm_ev.iconst (v := 0) i180_137 (by decide) ?_
  refine gm_ev.putfield (M' := (bM B (mH B (mI s20 24 (0 : Int32))) G)) i180_138 rfl (bM_put (j := 0) (fs := mF B s20) rfl (Nat.le_of_ble_eq_true rfl) hN (gm_fit_z (by decide)) rfl) ?_
  refine gm_ev.iload i180_141 rfl ?_
  refine gm_ev.if_eq_f i180_143 c22 ?_
  refine gm_ev.aload_n i180_146 rfl ?_
  refine gm_ev.getfield (v := .int (s20.1 23)) i180_147 rfl (bM_fld (j := 0) (fs := mF B (mI s20 24 (0 : Int32))) rfl rfl) ?_
  refine gm_ev.if_eq_t (tgt := 159) i180_150 (by decide) c23 ?_
  refine gm_ev.aload_n i180_159 rfl ?_
  refine gm_ev.aload_n i180_160 rfl ?_
  refine gm_ev.getfield (v := .int (s20.1 34)) i180_161 rfl (bM_fld (j := 0) (fs := mF B (mI s20 24 (0 : Int32))) rfl rfl) ?_
  refine gm_ev.putfield (M' := (bM B (mH B (mI (mI s20 24 (0 : Int32)) 30 (s20.1 34))) G)) i180_164 rfl (bM_put (j := 0) (fs := mF B (mI s20 24 (0 : Int32))) rfl (Nat.le_of_ble_eq_true rfl) hN (gm_fit_i _) rfl) ?_
  refine gm_ev.iconst (v := 0) i180_167 (by decide) ?_
  refine gm_ev.istore (ls' := [some (.ref B), some (.int p0), some (.int p1), some (.long (s9.2.2 37 k12)), none, some (.int r18), some (.int (0 : Int32))]) i180_168 (Nat.le_of_ble_eq_true rfl) rfl ?_
  refine gm_ev.le (a := [some (.ref B), none, none, none, none, none, some (.int (0 : Int32))]) (gm_leL.le (show gm_leL _ _ from ⟨rfl, ⟨rfl, trivial⟩⟩)) ?_
  exact k
theorem r_play_0_fttftfttff {N0 : Nat} {K : Nat → Nat} {d B : Nat} {s : mS} {G : gm_H} {sz sl : Nat} {p0 : Int32} {p1 : Int32} {s4 : mS} {r5 : Int32} {s9 : mS} {k12 : Nat} {s14 : mS} {k17 : Nat} {r18 : Int32} {s20 : mS} {r24 : Int32} {s26 : mS} (hN : N0 ≤ B) (c1 : ¬ (s.1 5) = 0) (c2 : (s.1 36) = (2 : Int32)) (t3 : gm_to N0 K ra_nm (ra_mt K) d 161 [.ref B] (bM B (mH B (mI s 0 (0 : Int32))) G) sz (.returned none, bM B (mH B s4) G, sz, 0)) (t6 : gm_to N0 K ra_nm (ra_mt K) d 172 [.ref B] (bM B (mH B s4) G) sz (.returned (some (.int r5)), bM B (mH B s4) G, sz, 0)) (c7 : r5 = 0) (t8 : gm_to N0 K ra_nm (ra_mt K) d 171 [.ref B, .int (0 : Int32)] (bM B (mH B s4) G) sz (.returned none, bM B (mH B s9) G, sz, 0)) (c10 : ¬ p0 < 0) (c11 : p0 < (s9.1 38)) (ek12 : p0 = nI k12) (lk12 : k12 < 201) (t13 : gm_to N0 K ra_nm (ra_mt K) d 171 [.ref B, .int (1 : Int32)] (bM B (mH B s9) G) sz (.returned none, bM B (mH B s14) G, sz, 0)) (c15 : ¬ p1 < 0) (c16 : p1 < (s14.1 38)) (ek17 : p1 = nI k17) (lk17 : k17 < 201) (t19 : gm_to N0 K ra_nm (ra_mt K) d 164 [.ref B, .ref (B + 17), .int (0 : Int32), .int (s14.1 30), .long (s9.2.2 37 k12), .long (s14.2.2 37 k17)] (bM B (mH B s14) G) sz (.returned (some (.int r18)), bM B (mH B s20) G, sz, 0)) (c21 : r18 = 0) (c22 : ¬ r18 = 0) (c23 : ¬ (s20.1 23) = 0) (t25 : gm_to N0 K ra_nm (ra_mt K) d 120 [.ref B, .int (1 : Int32)] (bM B (mH B (mI s20 24 (0 : Int32))) G) sz (.returned (some (.int r24)), bM B (mH B s26) G, sz, 0)) : gm_ev N0 K ra_nm (ra_mt K) d (some .int) (gm_I cX12_play) (gm_lkf (lkX12 false K)) 0 [some (.ref B), some (.int p0), some (.int p1), none, none, none, none] [] (bM B (mH B s) G) sz sl (.returned (some (.int r24)), (bM B (mH B s26) G), sz, sl) := by
  refine gm_ev.aload_n i180_0 rfl ?_
  refine gm_ev.iconst (v := 0) i180_1 (by decide) ?_
  refine gm_ev.putfield (M' := (bM B (mH B (mI s 0 (0 : Int32))) G)) i180_2 rfl (bM_put (j := 0) (fs := mF B s) rfl (Nat.le_of_ble_eq_true rfl) hN (gm_fit_i _) rfl) ?_
  refine gm_ev.aload_n i180_5 rfl ?_
  refine gm_ev.getfield (v := .int (s.1 5)) i180_6 rfl (bM_fld (j := 0) (fs := mF B (mI s 0 (0 : Int32))) rfl rfl) ?_
  refine gm_ev.if_eq_f i180_9 c1 ?_
  refine gm_ev.aload_n i180_12 rfl ?_
  refine gm_ev.getfield (v := .int (s.1 36)) i180_13 rfl (bM_fld (j := 0) (fs := mF B (mI s 0 (0 : Int32))) rfl rfl) ?_
  refine gm_ev.iconst (v := 2) i180_16 (by decide) ?_
  refine gm_ev.icmp_eq_t (tgt := 26) i180_17 (by decide) c2 ?_
  refine gm_ev.aload_n i180_26 rfl ?_
  refine gm_ev.callV gm_mono_run (av := []) (r := []) (ci := 11) (fs := mF B (mI s 0 (0 : Int32))) (bM_get (j := 0) rfl) i180_27 rfl rfl rfl (Nat.le_of_ble_eq_true rfl) t3 ?_
  refine gm_ev.aload_n i180_30 rfl ?_
  refine gm_ev.callV gm_mono_run (av := []) (r := []) (ci := 11) (fs := mF B s4) (bM_get (j := 0) rfl) i180_31 rfl rfl rfl (Nat.le_of_ble_eq_true rfl) t6 ?_
  refine gm_ev.if_eq_t (tgt := 43) i180_34 (by decide) c7 ?_
  refine gm_ev.aload_n i180_43 rfl ?_
  refine gm_ev.iconst (v := 0) i180_44 (by decide) ?_
  refine gm_ev.callV gm_mono_run (av := [.int (0 : Int32)]) (r := []) (ci := 11) (fs := mF B s4) (bM_get (j := 0) rfl) i180_45 rfl rfl rfl (Nat.le_of_ble_eq_true rfl) t8 ?_
  refine gm_ev.iload_n i180_48 rfl ?_
  refine gm_ev.if_lt_f i180_49 c10 ?_
  refine gm_ev.iload_n i180_52 rfl ?_
  refine gm_ev.aload_n i180_53 rfl ?_
  refine gm_ev.getfield (v := .int (s9.1 38)) i180_54 rfl (bM_fld (j := 0) (fs := mF B s9) rfl rfl) ?_
  refine gm_ev.icmp_lt_t (tgt := 66) i180_57 (by decide) c11 ?_
  refine gm_ev.aload_n i180_66 rfl ?_
  refine gm_ev.getfield (v := .ref (B + 21)) i180_67 rfl (bM_fld (j := 0) (fs := mF B s9) rfl rfl) ?_
  refine gm_ev.iload_n i180_70 rfl ?_
  refine gm_ev.laload i180_71 (bM_al (j := 21) (n := 201) (fl := s9.2.2 37) rfl ek12 lk12 (by decide)) ?_
  refine gm_ev.lstore_n (ls' := [some (.ref B), some (.int p0), some (.int p1), some (.long (s9.2.2 37 k12)), none, none, none]) i180_72 (Nat.le_of_ble_eq_true rfl) rfl ?_
  refine gm_ev.aload_n i180_73 rfl ?_
  refine gm_ev.iconst (v := 1) i180_74 (by decide) ?_
  refine gm_ev.callV gm_mono_run (av := [.int (1 : Int32)]) (r := []) (ci := 11) (fs := mF B s9) (bM_get (j := 0) rfl) i180_75 rfl rfl rfl (Nat.le_of_ble_eq_true rfl) t13 ?_
  refine gm_ev.iload_n i180_78 rfl ?_
  refine gm_ev.if_lt_f i180_79 c15 ?_
  refine gm_ev.iload_n i180_82 rfl ?_
  refine gm_ev.aload_n i180_83 rfl ?_
  refine gm_ev.getfield (v := .int (s14.1 38)) i180_84 rfl (bM_fld (j := 0) (fs := mF B s14) rfl rfl) ?_
  refine gm_ev.icmp_lt_t (tgt := 96) i180_87 (by decide) c16 ?_
  refine gm_ev.aload_n i180_96 rfl ?_
  refine gm_ev.aload_n i180_97 rfl ?_
  refine gm_ev.getfield (v := .ref (B + 17)) i180_98 rfl (bM_fld (j := 0) (fs := mF B s14) rfl rfl) ?_
  refine gm_ev.iconst (v := 0) i180_101 (by decide) ?_
  refine gm_ev.aload_n i180_102 rfl ?_
  refine gm_ev.getfield (v := .int (s14.1 30)) i180_103 rfl (bM_fld (j := 0) (fs := mF B s14) rfl rfl) ?_
  refine gm_ev.lload_n i180_106 rfl ?_
  refine gm_ev.aload_n i180_107 rfl ?_
  refine gm_ev.getfield (v := .ref (B + 21)) i180_108 rfl (bM_fld (j := 0) (fs := mF B s14) rfl rfl) ?_
  refine gm_ev.iload_n i180_111 rfl ?_
  refine gm_ev.laload i180_112 (bM_al (j := 21) (n := 201) (fl := s14.2.2 37) rfl ek17 lk17 (by decide)) ?_
  refine gm_ev.callV gm_mono_run (av := [.ref (B + 17), .int (0 : Int32), .int (s14.1 30), .long (s9.2.2 37 k12), .long (s14.2.2 37 k17)]) (r := []) (ci := 11) (fs := mF B s14) (bM_get (j := 0) rfl) i180_113 rfl rfl rfl (Nat.le_of_ble_eq_true rfl) t19 ?_
  refine gm_ev.istore (ls' := [some (.ref B), some (.int p0), some (.int p1), some (.long (s9.2.2 37 k12)), none, some (.int r18), none]) i180_116 (Nat.le_of_ble_eq_true rfl) rfl ?_
  refine gm_ev.iload i180_118 rfl ?_
  refine gm_ev.if_eq_t (tgt := 136) i180_120 (by decide) c21 ?_
  refine gm_ev.aload_n i180_136 rfl ?_
  refine gm_ev.iconst (v := 0) i180_137 (by decide) ?_
  refine gm_ev.putfield (M' := (bM B (mH B (mI s20 24 (0 : Int32))) G)) i180_138 rfl (bM_put (j := 0) (fs := mF B s20) rfl (Nat.le_of_ble_eq_true rfl) hN (gm_fit_z (by decide)) rfl) ?_
  refine gm_ev.iload i180_141 rfl ?_
  refine gm_ev.if_eq_f i180_143 c22 ?_
  refine gm_ev.aload_n i180_146 rfl ?_
  refine gm_ev.getfield (v := .int (s20.1 23)) i180_147 rfl (bM_fld (j := 0) (fs := mF B (mI s20 24 (0 : Int32))) rfl rfl) ?_
  refine gm_ev.if_eq_f i180_150 c23 ?_
  refine gm_ev.aload_n i180_153 rfl ?_
  refine gm_ev.iconst (v := 1) i180_154 (by decide) ?_
  refine gm_ev.callV gm_mono_run (av := [.int (1 : Int32)]) (r := []) (ci := 11) (fs := mF B (mI s20 24 (0 : Int32))) (bM_get (j := 0) rfl) i180_155 rfl rfl rfl (Nat.le_of_ble_eq_true rfl) t25 ?_
  exact gm_ev.iret i180_158 rfl
theorem r_play_0_fttftftft {N0 : Nat} {K : Nat → Nat} {d B : Nat} {s : mS} {G : gm_H} {sz sl : Nat} {p0 : Int32} {p1 : Int32} {s4 : mS} {r5 : Int32} {s9 : mS} {k12 : Nat} {s14 : mS} {k17 : Nat} {r18 : Int32} {s20 : mS} {s23 : mS} {r25 : Int32} {s27 : mS} (hN : N0 ≤ B) (c1 : ¬ (s.1 5) = 0) (c2 : (s.1 36) = (2 : Int32)) (t3 : gm_to N0 K ra_nm (ra_mt K) d 161 [.ref B] (bM B (mH B (mI s 0 (0 : Int32))) G) sz (.returned none, bM B (mH B s4) G, sz, 0)) (t6 : gm_to N0 K ra_nm (ra_mt K) d 172 [.ref B] (bM B (mH B s4) G) sz (.returned (some (.int r5)), bM B (mH B s4) G, sz, 0)) (c7 : r5 = 0) (t8 : gm_to N0 K ra_nm (ra_mt K) d 171 [.ref B, .int (0 : Int32)] (bM B (mH B s4) G) sz (.returned none, bM B (mH B s9) G, sz, 0)) (c10 : ¬ p0 < 0) (c11 : p0 < (s9.1 38)) (ek12 : p0 = nI k12) (lk12 : k12 < 201) (t13 : gm_to N0 K ra_nm (ra_mt K) d 171 [.ref B, .int (1 : Int32)] (bM B (mH B s9) G) sz (.returned none, bM B (mH B s14) G, sz, 0)) (c15 : ¬ p1 < 0) (c16 : p1 < (s14.1 38)) (ek17 : p1 = nI k17) (lk17 : k17 < 201) (t19 : gm_to N0 K ra_nm (ra_mt K) d 164 [.ref B, .ref (B + 17), .int (0 : Int32), .int (s14.1 30), .long (s9.2.2 37 k12), .long (s14.2.2 37 k17)] (bM B (mH B s14) G) sz (.returned (some (.int r18)), bM B (mH B s20) G, sz, 0)) (c21 : ¬ r18 = 0) (t22 : gm_to N0 K ra_nm (ra_mt K) d 160 [.ref B, .ref (B + 19), .int (0 : Int32), .int (s20.1 34)] (bM B (mH B s20) G) sz (.returned none, bM B (mH B s23) G, sz, 0)) (c24 : r18 = 0) (t26 : gm_to N0 K ra_nm (ra_mt K) d 120 [.ref B, .int (1 : Int32)] (bM B (mH B (mI s23 24 (0 : Int32))) G) sz (.returned (some (.int r25)), bM B (mH B s27) G, sz, 0)) : gm_ev N0 K ra_nm (ra_mt K) d (some .int) (gm_I cX12_play) (gm_lkf (lkX12 false K)) 0 [some (.ref B), some (.int p0), some (.int p1), none, none, none, none] [] (bM B (mH B s) G) sz sl (.returned (some (.int r25)), (bM B (mH B s27) G), sz, sl) := by
  refine gm_ev.aload_n i180_0 rfl ?_
  refine gm_ev.iconst (v := 0) i180_1 (by decide) ?_
  refine gm_ev.putfield (M' := (bM B (mH B (mI s 0 (0 : Int32))) G)) i180_2 rfl (bM_put (j := 0) (fs := mF B s) rfl (Nat.le_of_ble_eq_true rfl) hN (gm_fit_i _) rfl) ?_
  refine gm_ev.aload_n i180_5 rfl ?_
  refine gm_ev.getfield (v := .int (s.1 5)) i180_6 rfl (bM_fld (j := 0) (fs := mF B (mI s 0 (0 : Int32))) rfl rfl) ?_
  refine gm_ev.if_eq_f i180_9 c1 ?_
  refine gm_ev.aload_n i180_12 rfl ?_
  refine gm_ev.getfield (v := .int (s.1 36)) i180_13 rfl (bM_fld (j := 0) (fs := mF B (mI s 0 (0 : Int32))) rfl rfl) ?_
  refine gm_ev.iconst (v := 2) i180_16 (by decide) ?_
  refine gm_ev.icmp_eq_t (tgt := 26) i180_17 (by decide) c2 ?_
  refine gm_ev.aload_n i180_26 rfl ?_
  refine gm_ev.callV gm_mono_run (av := []) (r := []) (ci := 11) (fs := mF B (mI s 0 (0 : Int32))) (bM_get (j := 0) rfl) i180_27 rfl rfl rfl (Nat.le_of_ble_eq_true rfl) t3 ?_
  refine gm_ev.aload_n i180_30 rfl ?_
  refine gm_ev.callV gm_mono_run (av := []) (r := []) (ci := 11) (fs := mF B s4) (bM_get (j := 0) rfl) i180_31 rfl rfl rfl (Nat.le_of_ble_eq_true rfl) t6 ?_
  refine gm_ev.if_eq_t (tgt := 43) i180_34 (by decide) c7 ?_
  refine gm_ev.aload_n i180_43 rfl ?_
  refine gm_ev.iconst (v := 0) i180_44 (by decide) ?_
  refine gm_ev.callV gm_mono_run (av := [.int (0 : Int32)]) (r := []) (ci := 11) (fs := mF B s4) (bM_get (j := 0) rfl) i180_45 rfl rfl rfl (Nat.le_of_ble_eq_true rfl) t8 ?_
  refine gm_ev.iload_n i180_48 rfl ?_
  refine gm_ev.if_lt_f i180_49 c10 ?_
  refine gm_ev.iload_n i180_52 rfl ?_
  refine gm_ev.aload_n i180_53 rfl ?_
  refine gm_ev.getfield (v := .int (s9.1 38)) i180_54 rfl (bM_fld (j := 0) (fs := mF B s9) rfl rfl) ?_
  refine gm_ev.icmp_lt_t (tgt := 66) i180_57 (by decide) c11 ?_
  refine gm_ev.aload_n i180_66 rfl ?_
  refine gm_ev.getfield (v := .ref (B + 21)) i180_67 rfl (bM_fld (j := 0) (fs := mF B s9) rfl rfl) ?_
  refine gm_ev.iload_n i180_70 rfl ?_
  refine gm_ev.laload i180_71 (bM_al (j := 21) (n := 201) (fl := s9.2.2 37) rfl ek12 lk12 (by decide)) ?_
  refine gm_ev.lstore_n (ls' := [some (.ref B), some (.int p0), some (.int p1), some (.long (s9.2.2 37 k12)), none, none, none]) i180_72 (Nat.le_of_ble_eq_true rfl) rfl ?_
  refine gm_ev.aload_n i180_73 rfl ?_
  refine gm_ev.iconst (v := 1) i180_74 (by decide) ?_
  refine gm_ev.callV gm_mono_run (av := [.int (1 : Int32)]) (r := []) (ci := 11) (fs := mF B s9) (bM_get (j := 0) rfl) i180_75 rfl rfl rfl (Nat.le_of_ble_eq_true rfl) t13 ?_
  refine gm_ev.iload_n i180_78 rfl ?_
  refine gm_ev.if_lt_f i180_79 c15 ?_
  refine gm_ev.iload_n i180_82 rfl ?_
  refine gm_ev.aload_n i180_83 rfl ?_
  refine gm_ev.getfield (v := .int (s14.1 38)) i180_84 rfl (bM_fld (j := 0) (fs := mF B s14) rfl rfl) ?_
  refine gm_ev.icmp_lt_t (tgt := 96) i180_87 (by decide) c16 ?_
  refine gm_ev.aload_n i180_96 rfl ?_
  refine gm_ev.aload_n i180_97 rfl ?_
  refine gm_ev.getfield (v := .ref (B + 17)) i180_98 rfl (bM_fld (j := 0) (fs := mF B s14) rfl rfl) ?_
  refine gm_ev.iconst (v := 0) i180_101 (by decide) ?_
  refine gm_ev.aload_n i180_102 rfl ?_
  refine gm_ev.getfield (v := .int (s14.1 30)) i180_103 rfl (bM_fld (j := 0) (fs := mF B s14) rfl rfl) ?_
  refine gm_ev.lload_n i180_106 rfl ?_
  refine gm_ev.aload_n i180_107 rfl ?_
  refine gm_ev.getfield (v := .ref (B + 21)) i180_108 rfl (bM_fld (j := 0) (fs := mF B s14) rfl rfl) ?_
  refine gm_ev.iload_n i180_111 rfl ?_
  refine gm_ev.laload i180_112 (bM_al (j := 21) (n := 201) (fl := s14.2.2 37) rfl ek17 lk17 (by decide)) ?_
  refine gm_ev.callV gm_mono_run (av := [.ref (B + 17), .int (0 : Int32), .int (s14.1 30), .long (s9.2.2 37 k12), .long (s14.2.2 37 k17)]) (r := []) (ci := 11) (fs := mF B s14) (bM_get (j := 0) rfl) i180_113 rfl rfl rfl (Nat.le_of_ble_eq_true rfl) t19 ?_
  refine gm_ev.istore (ls' := [some (.ref B), some (.int p0), some (.int p1), some (.long (s9.2.2 37 k12)), none, some (.int r18), none]) i180_116 (Nat.le_of_ble_eq_true rfl) rfl ?_
  refine gm_ev.iload i180_118 rfl ?_
  refine gm_ev.if_eq_f i180_120 c21 ?_
  refine gm_ev.aload_n i180_123 rfl ?_
  refine gm_ev.aload_n i180_124 rfl ?_
  refine gm_ev.getfield (v := .ref (B + 19)) i180_125 rfl (bM_fld (j := 0) (fs := mF B s20) rfl rfl) ?_
  refine gm_ev.iconst (v := 0) i180_128 (by decide) ?_
  refine gm_ev.aload_n i180_129 rfl ?_
  refine gm_ev.getfield (v := .int (s20.1 34)) i180_130 rfl (bM_fld (j := 0) (fs := mF B s20) rfl rfl) ?_
  refine gm_ev.callV gm_mono_run (av := [.ref (B + 19), .int (0 : Int32), .int (s20.1 34)]) (r := []) (ci := 11) (fs := mF B s20) (bM_get (j := 0) rfl) i180_133 rfl rfl rfl (Nat.le_of_ble_eq_true rfl) t22 ?_
  refine gm_ev.aload_n i180_136 rfl ?_
  refine gm_ev.iconst (v := 0) i180_137 (by decide) ?_
  refine gm_ev.putfield (M' := (bM B (mH B (mI s23 24 (0 : Int32))) G)) i180_138 rfl (bM_put (j := 0) (fs := mF B s23) rfl (Nat.le_of_ble_eq_true rfl) hN (gm_fit_z (by decide)) rfl) ?_
  refine gm_ev.iload i180_141 rfl ?_
  refine gm_ev.if_eq_t (tgt := 153) i180_143 (by decide) c24 ?_
  refine gm_ev.aload_n i180_153 rfl ?_
  refine gm_ev.iconst (v := 1) i180_154 (by decide) ?_
  refine gm_ev.callV gm_mono_run (av := [.int (1 : Int32)]) (r := []) (ci := 11) (fs := mF B (mI s23 24 (0 : Int32))) (bM_get (j := 0) rfl) i180_155 rfl rfl rfl (Nat.le_of_ble_eq_true rfl) t26 ?_
  exact gm_ev.iret i180_158 rfl
theorem r_play_0_fttftftfft_at170 {N0 : Nat} {K : Nat → Nat} {d B : Nat} {s : mS} {G : gm_H} {sz sl : Nat} {R : gm_R} {p0 : Int32} {p1 : Int32} {s4 : mS} {r5 : Int32} {s9 : mS} {k12 : Nat} {s14 : mS} {k17 : Nat} {r18 : Int32} {s20 : mS} {s23 : mS} (hN : N0 ≤ B) (c1 : ¬ (s.1 5) = 0) (c2 : (s.1 36) = (2 : Int32)) (t3 : gm_to N0 K ra_nm (ra_mt K) d 161 [.ref B] (bM B (mH B (mI s 0 (0 : Int32))) G) sz (.returned none, bM B (mH B s4) G, sz, 0)) (t6 : gm_to N0 K ra_nm (ra_mt K) d 172 [.ref B] (bM B (mH B s4) G) sz (.returned (some (.int r5)), bM B (mH B s4) G, sz, 0)) (c7 : r5 = 0) (t8 : gm_to N0 K ra_nm (ra_mt K) d 171 [.ref B, .int (0 : Int32)] (bM B (mH B s4) G) sz (.returned none, bM B (mH B s9) G, sz, 0)) (c10 : ¬ p0 < 0) (c11 : p0 < (s9.1 38)) (ek12 : p0 = nI k12) (lk12 : k12 < 201) (t13 : gm_to N0 K ra_nm (ra_mt K) d 171 [.ref B, .int (1 : Int32)] (bM B (mH B s9) G) sz (.returned none, bM B (mH B s14) G, sz, 0)) (c15 : ¬ p1 < 0) (c16 : p1 < (s14.1 38)) (ek17 : p1 = nI k17) (lk17 : k17 < 201) (t19 : gm_to N0 K ra_nm (ra_mt K) d 164 [.ref B, .ref (B + 17), .int (0 : Int32), .int (s14.1 30), .long (s9.2.2 37 k12), .long (s14.2.2 37 k17)] (bM B (mH B s14) G) sz (.returned (some (.int r18)), bM B (mH B s20) G, sz, 0)) (c21 : ¬ r18 = 0) (t22 : gm_to N0 K ra_nm (ra_mt K) d 160 [.ref B, .ref (B + 19), .int (0 : Int32), .int (s20.1 34)] (bM B (mH B s20) G) sz (.returned none, bM B (mH B s23) G, sz, 0)) (c24 : ¬ r18 = 0) (c25 : (s23.1 23) = 0) (k : gm_ev N0 K ra_nm (ra_mt K) d (some .int) (gm_I cX12_play) (gm_lkf (lkX12 false K)) 170 [some (.ref B), none, none, none, none, none, some (.int (0 : Int32))] [] (bM B (mH B (mI (mI s23 24 (0 : Int32)) 30 (s23.1 34))) G) sz sl R) : gm_ev N0 K ra_nm (ra_mt K) d (some .int) (gm_I cX12_play) (gm_lkf (lkX12 false K)) 0 [some (.ref B), some (.int p0), some (.int p1), none, none, none, none] [] (bM B (mH B s) G) sz sl R := by
  refine gm_ev.aload_n i180_0 rfl ?_
  refine gm_ev.iconst (v := 0) i180_1 (by decide) ?_
  refine gm_ev.putfield (M' := (bM B (mH B (mI s 0 (0 : Int32))) G)) i180_2 rfl (bM_put (j := 0) (fs := mF B s) rfl (Nat.le_of_ble_eq_true rfl) hN (gm_fit_i _) rfl) ?_
  refine gm_ev.aload_n i180_5 rfl ?_
  refine gm_ev.getfield (v := .int (s.1 5)) i180_6 rfl (bM_fld (j := 0) (fs := mF B (mI s 0 (0 : Int32))) rfl rfl) ?_
  refine gm_ev.if_eq_f i180_9 c1 ?_
  refine gm_ev.aload_n i180_12 rfl ?_
  refine gm_ev.getfield (v := .int (s.1 36)) i180_13 rfl (bM_fld (j := 0) (fs := mF B (mI s 0 (0 : Int32))) rfl rfl) ?_
  refine gm_ev.iconst (v := 2) i180_16 (by decide) ?_
  refine gm_ev.icmp_eq_t (tgt := 26) i180_17 (by decide) c2 ?_
  refine gm_ev.aload_n i180_26 rfl ?_
  refine gm_ev.callV gm_mono_run (av := []) (r := []) (ci := 11) (fs := mF B (mI s 0 (0 : Int32))) (bM_get (j := 0) rfl) i180_27 rfl rfl rfl (Nat.le_of_ble_eq_true rfl) t3 ?_
  refine gm_ev.aload_n i180_30 rfl ?_
  refine gm_ev.callV gm_mono_run (av := []) (r := []) (ci := 11) (fs := mF B s4) (bM_get (j := 0) rfl) i180_31 rfl rfl rfl (Nat.le_of_ble_eq_true rfl) t6 ?_
  refine gm_ev.if_eq_t (tgt := 43) i180_34 (by decide) c7 ?_
  refine gm_ev.aload_n i180_43 rfl ?_
  refine gm_ev.iconst (v := 0) i180_44 (by decide) ?_
  refine gm_ev.callV gm_mono_run (av := [.int (0 : Int32)]) (r := []) (ci := 11) (fs := mF B s4) (bM_get (j := 0) rfl) i180_45 rfl rfl rfl (Nat.le_of_ble_eq_true rfl) t8 ?_
  refine gm_ev.iload_n i180_48 rfl ?_
  refine gm_ev.if_lt_f i180_49 c10 ?_
  refine gm_ev.iload_n i180_52 rfl ?_
  refine gm_ev.aload_n i180_53 rfl ?_
  refine gm_ev.getfield (v := .int (s9.1 38)) i180_54 rfl (bM_fld (j := 0) (fs := mF B s9) rfl rfl) ?_
  refine gm_ev.icmp_lt_t (tgt := 66) i180_57 (by decide) c11 ?_
  refine gm_ev.aload_n i180_66 rfl ?_
  refine gm_ev.getfield (v := .ref (B + 21)) i180_67 rfl (bM_fld (j := 0) (fs := mF B s9) rfl rfl) ?_
  refine gm_ev.iload_n i180_70 rfl ?_
  refine gm_ev.laload i180_71 (bM_al (j := 21) (n := 201) (fl := s9.2.2 37) rfl ek12 lk12 (by decide)) ?_
  refine gm_ev.lstore_n (ls' := [some (.ref B), some (.int p0), some (.int p1), some (.long (s9.2.2 37 k12)), none, none, none]) i180_72 (Nat.le_of_ble_eq_true rfl) rfl ?_
  refine gm_ev.aload_n i180_73 rfl ?_
  refine gm_ev.iconst (v := 1) i180_74 (by decide) ?_
  refine gm_ev.callV gm_mono_run (av := [.int (1 : Int32)]) (r := []) (ci := 11) (fs := mF B s9) (bM_get (j := 0) rfl) i180_75 rfl rfl rfl (Nat.le_of_ble_eq_true rfl) t13 ?_
  refine gm_ev.iload_n i180_78 rfl ?_
  refine gm_ev.if_lt_f i180_79 c15 ?_
  refine gm_ev.iload_n i180_82 rfl ?_
  refine gm_ev.aload_n i180_83 rfl ?_
  refine gm_ev.getfield (v := .int (s14.1 38)) i180_84 rfl (bM_fld (j := 0) (fs := mF B s14) rfl rfl) ?_
  refine gm_ev.icmp_lt_t (tgt := 96) i180_87 (by decide) c16 ?_
  refine gm_ev.aload_n i180_96 rfl ?_
  refine gm_ev.aload_n i180_97 rfl ?_
  refine gm_ev.getfield (v := .ref (B + 17)) i180_98 rfl (bM_fld (j := 0) (fs := mF B s14) rfl rfl) ?_
  refine gm_ev.iconst (v := 0) i180_101 (by decide) ?_
  refine gm_ev.aload_n i180_102 rfl ?_
  refine gm_ev.getfield (v := .int (s14.1 30)) i180_103 rfl (bM_fld (j := 0) (fs := mF B s14) rfl rfl) ?_
  refine gm_ev.lload_n i180_106 rfl ?_
  refine gm_ev.aload_n i180_107 rfl ?_
  refine gm_ev.getfield (v := .ref (B + 21)) i180_108 rfl (bM_fld (j := 0) (fs := mF B s14) rfl rfl) ?_
  refine gm_ev.iload_n i180_111 rfl ?_
  refine gm_ev.laload i180_112 (bM_al (j := 21) (n := 201) (fl := s14.2.2 37) rfl ek17 lk17 (by decide)) ?_
  refine gm_ev.callV gm_mono_run (av := [.ref (B + 17), .int (0 : Int32), .int (s14.1 30), .long (s9.2.2 37 k12), .long (s14.2.2 37 k17)]) (r := []) (ci := 11) (fs := mF B s14) (bM_get (j := 0) rfl) i180_113 rfl rfl rfl (Nat.le_of_ble_eq_true rfl) t19 ?_
  refine gm_ev.istore (ls' := [some (.ref B), some (.int p0), some (.int p1), some (.long (s9.2.2 37 k12)), none, some (.int r18), none]) i180_116 (Nat.le_of_ble_eq_true rfl) rfl ?_
  refine gm_ev.iload i180_118 rfl ?_
  refine gm_ev.if_eq_f i180_120 c21 ?_
  refine gm_ev.aload_n i180_123 rfl ?_
  refine gm_ev.aload_n i180_124 rfl ?_
  refine gm_ev.getfield (v := .ref (B + 19)) i180_125 rfl (bM_fld (j := 0) (fs := mF B s20) rfl rfl) ?_
  refine gm_ev.iconst (v := 0) i180_128 (by decide) ?_
  refine gm_ev.aload_n i180_129 rfl ?_
  refine gm_ev.getfield (v := .int (s20.1 34)) i180_130 rfl (bM_fld (j := 0) (fs := mF B s20) rfl rfl) ?_
  refine gm_ev.callV gm_mono_run (av := [.ref (B + 19), .int (0 : Int32), .int (s20.1 34)]) (r := []) (ci := 11) (fs := mF B s20) (bM_get (j := 0) rfl) i180_133 rfl rfl rfl (Nat.le_of_ble_eq_true rfl) t22 ?_
  refine gm_ev.aload_n i180_136 rfl ?_
  refine gm_ev.iconst (v := 0) i180_137 (by decide) ?_
  refine gm_ev.putfield (M' := (bM B (mH B (mI s23 24 (0 : Int32))) G)) i180_138 rfl (bM_put (j := 0) (fs := mF B s23) rfl (Nat.le_of_ble_eq_true rfl) hN (gm_fit_z (by decide)) rfl) ?_
  refine gm_ev.iload i180_141 rfl ?_
  refine gm_ev.if_eq_f i180_143 c24 ?_
  refine gm_ev.aload_n i180_146 rfl ?_
  refine gm_ev.getfield (v := .int (s23.1 23)) i180_147 rfl (bM_fld (j := 0) (fs := mF B (mI s23 24 (0 : Int32))) rfl rfl) ?_
  refine gm_ev.if_eq_t (tgt := 159) i180_150 (by decide) c25 ?_
  refine gm_ev.aload_n i180_159 rfl ?_
  refine gm_ev.aload_n i180_160 rfl ?_
  refine gm_ev.getfield (v := .int (s23.1 34)) i180_161 rfl (bM_fld (j := 0) (fs := mF B (mI s23 24 (0 : Int32))) rfl rfl) ?_
  refine gm_ev.putfield (M' := (bM B (mH B (mI (mI s23 24 (0 : Int32)) 30 (s23.1 34))) G)) i180_164 rfl (bM_put (j := 0) (fs := mF B (mI s23 24 (0 : Int32))) rfl (Nat.le_of_ble_eq_true rfl) hN (gm_fit_i _) rfl) ?_
  refine gm_ev.iconst (v := 0) i180_167 (by decide) ?_
  refine gm_ev.istore (ls' := [some (.ref B), some (.int p0), some (.int p1), some (.long (s9.2.2 37 k12)), none, some (.int r18), some (.int (0 : Int32))]) i180_168 (Nat.le_of_ble_eq_true rfl) rfl ?_
  refine gm_ev.le (a := [some (.ref B), none, none, none, none, none, some (.int (0 : Int32))]) (gm_leL.le (show gm_leL _ _ from ⟨rfl, ⟨rfl, trivial⟩⟩)) ?_
  exact k
theorem r_play_0_fttftftfff {N0 : Nat} {K : Nat → Nat} {d B : Nat} {s : mS} {G : gm_H} {sz sl : Nat} {p0 : Int32} {p1 : Int32} {s4 : mS} {r5 : Int32} {s9 : mS} {k12 : Nat} {s14 : mS} {k17 : Nat} {r18 : Int32} {s20 : mS} {s23 : mS} {r26 : Int32} {s28 : mS} (hN : N0 ≤ B) (c1 : ¬ (s.1 5) = 0) (c2 : (s.1 36) = (2 : Int32)) (t3 : gm_to N0 K ra_nm (ra_mt K) d 161 [.ref B] (bM B (mH B (mI s 0 (0 : Int32))) G) sz (.returned none, bM B (mH B s4) G, sz, 0)) (t6 : gm_to N0 K ra_nm (ra_mt K) d 172 [.ref B] (bM B (mH B s4) G) sz (.returned (some (.int r5)), bM B (mH B s4) G, sz, 0)) (c7 : r5 = 0) (t8 : gm_to N0 K ra_nm (ra_mt K) d 171 [.ref B, .int (0 : Int32)] (bM B (mH B s4) G) sz (.returned none, bM B (mH B s9) G, sz, 0)) (c10 : ¬ p0 < 0) (c11 : p0 < (s9.1 38)) (ek12 : p0 = nI k12) (lk12 : k12 < 201) (t13 : gm_to N0 K ra_nm (ra_mt K) d 171 [.ref B, .int (1 : Int32)] (bM B (mH B s9) G) sz (.returned none, bM B (mH B s14) G, sz, 0)) (c15 : ¬ p1 < 0) (c16 : p1 < (s14.1 38)) (ek17 : p1 = nI k17) (lk17 : k17 < 201) (t19 : gm_to N0 K ra_nm (ra_mt K) d 164 [.ref B, .ref (B + 17), .int (0 : Int32), .int (s14.1 30), .long (s9.2.2 37 k12), .long (s14.2.2 37 k17)] (bM B (mH B s14) G) sz (.returned (some (.int r18)), bM B (mH B s20) G, sz, 0)) (c21 : ¬ r18 = 0) (t22 : gm_to N0 K ra_nm (ra_mt K) d 160 [.ref B, .ref (B + 19), .int (0 : Int32), .int (s20.1 34)] (bM B (mH B s20) G) sz (.returned none, bM B (mH B s23) G, sz, 0)) (c24 : ¬ r18 = 0) (c25 : ¬ (s23.1 23) = 0) (t27 : gm_to N0 K ra_nm (ra_mt K) d 120 [.ref B, .int (1 : Int32)] (bM B (mH B (mI s23 24 (0 : Int32))) G) sz (.returned (some (.int r26)), bM B (mH B s28) G, sz, 0)) : gm_ev N0 K ra_nm (ra_mt K) d (some .int) (gm_I cX12_play) (gm_lkf (lkX12 false K)) 0 [some (.ref B), some (.int p0), some (.int p1), none, none, none, none] [] (bM B (mH B s) G) sz sl (.returned (some (.int r26)), (bM B (mH B s28) G), sz, sl) := by
  refine gm_ev.aload_n i180_0 rfl ?_
  refine gm_ev.iconst (v := 0) i180_1 (by decide) ?_
  refine gm_ev.putfield (M' := (bM B (mH B (mI s 0 (0 : Int32))) G)) i180_2 rfl (bM_put (j := 0) (fs := mF B s) rfl (Nat.le_of_ble_eq_true rfl) hN (gm_fit_i _) rfl) ?_
  refine gm_ev.aload_n i180_5 rfl ?_
  refine gm_ev.getfield (v := .int (s.1 5)) i180_6 rfl (bM_fld (j := 0) (fs := mF B (mI s 0 (0 : Int32))) rfl rfl) ?_
  refine gm_ev.if_eq_f i180_9 c1 ?_
  refine gm_ev.aload_n i180_12 rfl ?_
  refine gm_ev.getfield (v := .int (s.1 36)) i180_13 rfl (bM_fld (j := 0) (fs := mF B (mI s 0 (0 : Int32))) rfl rfl) ?_
  refine gm_ev.iconst (v := 2) i180_16 (by decide) ?_
  refine gm_ev.icmp_eq_t (tgt := 26) i180_17 (by decide) c2 ?_
  refine gm_ev.aload_n i180_26 rfl ?_
  refine gm_ev.callV gm_mono_run (av := []) (r := []) (ci := 11) (fs := mF B (mI s 0 (0 : Int32))) (bM_get (j := 0) rfl) i180_27 rfl rfl rfl (Nat.le_of_ble_eq_true rfl) t3 ?_
  refine gm_ev.aload_n i180_30 rfl ?_
  refine gm_ev.callV gm_mono_run (av := []) (r := []) (ci := 11) (fs := mF B s4) (bM_get (j := 0) rfl) i180_31 rfl rfl rfl (Nat.le_of_ble_eq_true rfl) t6 ?_
  refine gm_ev.if_eq_t (tgt := 43) i180_34 (by decide) c7 ?_
  refine gm_ev.aload_n i180_43 rfl ?_
  refine gm_ev.iconst (v := 0) i180_44 (by decide) ?_
  refine gm_ev.callV gm_mono_run (av := [.int (0 : Int32)]) (r := []) (ci := 11) (fs := mF B s4) (bM_get (j := 0) rfl) i180_45 rfl rfl rfl (Nat.le_of_ble_eq_true rfl) t8 ?_
  refine gm_ev.iload_n i180_48 rfl ?_
  refine gm_ev.if_lt_f i180_49 c10 ?_
  refine gm_ev.iload_n i180_52 rfl ?_
  refine gm_ev.aload_n i180_53 rfl ?_
  refine gm_ev.getfield (v := .int (s9.1 38)) i180_54 rfl (bM_fld (j := 0) (fs := mF B s9) rfl rfl) ?_
  refine gm_ev.icmp_lt_t (tgt := 66) i180_57 (by decide) c11 ?_
  refine gm_ev.aload_n i180_66 rfl ?_
  refine gm_ev.getfield (v := .ref (B + 21)) i180_67 rfl (bM_fld (j := 0) (fs := mF B s9) rfl rfl) ?_
  refine gm_ev.iload_n i180_70 rfl ?_
  refine gm_ev.laload i180_71 (bM_al (j := 21) (n := 201) (fl := s9.2.2 37) rfl ek12 lk12 (by decide)) ?_
  refine gm_ev.lstore_n (ls' := [some (.ref B), some (.int p0), some (.int p1), some (.long (s9.2.2 37 k12)), none, none, none]) i180_72 (Nat.le_of_ble_eq_true rfl) rfl ?_
  refine gm_ev.aload_n i180_73 rfl ?_
  refine gm_ev.iconst (v := 1) i180_74 (by decide) ?_
  refine gm_ev.callV gm_mono_run (av := [.int (1 : Int32)]) (r := []) (ci := 11) (fs := mF B s9) (bM_get (j := 0) rfl) i180_75 rfl rfl rfl (Nat.le_of_ble_eq_true rfl) t13 ?_
  refine gm_ev.iload_n i180_78 rfl ?_
  refine gm_ev.if_lt_f i180_79 c15 ?_
  refine gm_ev.iload_n i180_82 rfl ?_
  refine gm_ev.aload_n i180_83 rfl ?_
  refine gm_ev.getfield (v := .int (s14.1 38)) i180_84 rfl (bM_fld (j := 0) (fs := mF B s14) rfl rfl) ?_
  refine gm_ev.icmp_lt_t (tgt := 96) i180_87 (by decide) c16 ?_
  refine gm_ev.aload_n i180_96 rfl ?_
  refine gm_ev.aload_n i180_97 rfl ?_
  refine gm_ev.getfield (v := .ref (B + 17)) i180_98 rfl (bM_fld (j := 0) (fs := mF B s14) rfl rfl) ?_
  refine gm_ev.iconst (v := 0) i180_101 (by decide) ?_
  refine gm_ev.aload_n i180_102 rfl ?_
  refine gm_ev.getfield (v := .int (s14.1 30)) i180_103 rfl (bM_fld (j := 0) (fs := mF B s14) rfl rfl) ?_
  refine gm_ev.lload_n i180_106 rfl ?_
  refine gm_ev.aload_n i180_107 rfl ?_
  refine gm_ev.getfield (v := .ref (B + 21)) i180_108 rfl (bM_fld (j := 0) (fs := mF B s14) rfl rfl) ?_
  refine gm_ev.iload_n i180_111 rfl ?_
  refine gm_ev.laload i180_112 (bM_al (j := 21) (n := 201) (fl := s14.2.2 37) rfl ek17 lk17 (by decide)) ?_
  refine gm_ev.callV gm_mono_run (av := [.ref (B + 17), .int (0 : Int32), .int (s14.1 30), .long (s9.2.2 37 k12), .long (s14.2.2 37 k17)]) (r := []) (ci := 11) (fs := mF B s14) (bM_get (j := 0) rfl) i180_113 rfl rfl rfl (Nat.le_of_ble_eq_true rfl) t19 ?_
  refine gm_ev.istore (ls' := [some (.ref B), some (.int p0), some (.int p1), some (.long (s9.2.2 37 k12)), none, some (.int r18), none]) i180_116 (Nat.le_of_ble_eq_true rfl) rfl ?_
  refine gm_ev.iload i180_118 rfl ?_
  refine gm_ev.if_eq_f i180_120 c21 ?_
  refine gm_ev.aload_n i180_123 rfl ?_
  refine gm_ev.aload_n i180_124 rfl ?_
  refine gm_ev.getfield (v := .ref (B + 19)) i180_125 rfl (bM_fld (j := 0) (fs := mF B s20) rfl rfl) ?_
  refine gm_ev.iconst (v := 0) i180_128 (by decide) ?_
  refine gm_ev.aload_n i180_129 rfl ?_
  refine gm_ev.getfield (v := .int (s20.1 34)) i180_130 rfl (bM_fld (j := 0) (fs := mF B s20) rfl rfl) ?_
  refine gm_ev.callV gm_mono_run (av := [.ref (B + 19), .int (0 : Int32), .int (s20.1 34)]) (r := []) (ci := 11) (fs := mF B s20) (bM_get (j := 0) rfl) i180_133 rfl rfl rfl (Nat.le_of_ble_eq_true rfl) t22 ?_
  refine gm_ev.aload_n i180_136 rfl ?_
  refine gm_ev.iconst (v := 0) i180_137 (by decide) ?_
  refine gm_ev.putfield (M' := (bM B (mH B (mI s23 24 (0 : Int32))) G)) i180_138 rfl (bM_put (j := 0) (fs := mF B s23) rfl (Nat.le_of_ble_eq_true rfl) hN (gm_fit_z (by decide)) rfl) ?_
  refine gm_ev.iload i180_141 rfl ?_
  refine gm_ev.if_eq_f i180_143 c24 ?_
  refine gm_ev.aload_n i180_146 rfl ?_
  refine gm_ev.getfield (v := .int (s23.1 23)) i180_147 rfl (bM_fld (j := 0) (fs := mF B (mI s23 24 (0 : Int32))) rfl rfl) ?_
  refine gm_ev.if_eq_f i180_150 c25 ?_
  refine gm_ev.aload_n i180_153 rfl ?_
  refine gm_ev.iconst (v := 1) i180_154 (by decide) ?_
  refine gm_ev.callV gm_mono_run (av := [.int (1 : Int32)]) (r := []) (ci := 11) (fs := mF B (mI s23 24 (0 : Int32))) (bM_get (j := 0) rfl) i180_155 rfl rfl rfl (Nat.le_of_ble_eq_true rfl) t27 ?_
  exact gm_ev.iret i180_158 rfl
theorem r_play_0_fttftff {N0 : Nat} {K : Nat → Nat} {d B : Nat} {s : mS} {G : gm_H} {sz sl : Nat} {p0 : Int32} {p1 : Int32} {s4 : mS} {r5 : Int32} {s9 : mS} {k12 : Nat} {s14 : mS} {r17 : Int32} {s19 : mS} (hN : N0 ≤ B) (c1 : ¬ (s.1 5) = 0) (c2 : (s.1 36) = (2 : Int32)) (t3 : gm_to N0 K ra_nm (ra_mt K) d 161 [.ref B] (bM B (mH B (mI s 0 (0 : Int32))) G) sz (.returned none, bM B (mH B s4) G, sz, 0)) (t6 : gm_to N0 K ra_nm (ra_mt K) d 172 [.ref B] (bM B (mH B s4) G) sz (.returned (some (.int r5)), bM B (mH B s4) G, sz, 0)) (c7 : r5 = 0) (t8 : gm_to N0 K ra_nm (ra_mt K) d 171 [.ref B, .int (0 : Int32)] (bM B (mH B s4) G) sz (.returned none, bM B (mH B s9) G, sz, 0)) (c10 : ¬ p0 < 0) (c11 : p0 < (s9.1 38)) (ek12 : p0 = nI k12) (lk12 : k12 < 201) (t13 : gm_to N0 K ra_nm (ra_mt K) d 171 [.ref B, .int (1 : Int32)] (bM B (mH B s9) G) sz (.returned none, bM B (mH B s14) G, sz, 0)) (c15 : ¬ p1 < 0) (c16 : ¬ p1 < (s14.1 38)) (t18 : gm_to N0 K ra_nm (ra_mt K) d 120 [.ref B, .int (2 : Int32)] (bM B (mH B s14) G) sz (.returned (some (.int r17)), bM B (mH B s19) G, sz, 0)) : gm_ev N0 K ra_nm (ra_mt K) d (some .int) (gm_I cX12_play) (gm_lkf (lkX12 false K)) 0 [some (.ref B), some (.int p0), some (.int p1), none, none, none, none] [] (bM B (mH B s) G) sz sl (.returned (some (.int r17)), (bM B (mH B s19) G), sz, sl) := by
  refine gm_ev.aload_n i180_0 rfl ?_
  refine gm_ev.iconst (v := 0) i180_1 (by decide) ?_
  refine gm_ev.putfield (M' := (bM B (mH B (mI s 0 (0 : Int32))) G)) i180_2 rfl (bM_put (j := 0) (fs := mF B s) rfl (Nat.le_of_ble_eq_true rfl) hN (gm_fit_i _) rfl) ?_
  refine gm_ev.aload_n i180_5 rfl ?_
  refine gm_ev.getfield (v := .int (s.1 5)) i180_6 rfl (bM_fld (j := 0) (fs := mF B (mI s 0 (0 : Int32))) rfl rfl) ?_
  refine gm_ev.if_eq_f i180_9 c1 ?_
  refine gm_ev.aload_n i180_12 rfl ?_
  refine gm_ev.getfield (v := .int (s.1 36)) i180_13 rfl (bM_fld (j := 0) (fs := mF B (mI s 0 (0 : Int32))) rfl rfl) ?_
  refine gm_ev.iconst (v := 2) i180_16 (by decide) ?_
  refine gm_ev.icmp_eq_t (tgt := 26) i180_17 (by decide) c2 ?_
  refine gm_ev.aload_n i180_26 rfl ?_
  refine gm_ev.callV gm_mono_run (av := []) (r := []) (ci := 11) (fs := mF B (mI s 0 (0 : Int32))) (bM_get (j := 0) rfl) i180_27 rfl rfl rfl (Nat.le_of_ble_eq_true rfl) t3 ?_
  refine gm_ev.aload_n i180_30 rfl ?_
  refine gm_ev.callV gm_mono_run (av := []) (r := []) (ci := 11) (fs := mF B s4) (bM_get (j := 0) rfl) i180_31 rfl rfl rfl (Nat.le_of_ble_eq_true rfl) t6 ?_
  refine gm_ev.if_eq_t (tgt := 43) i180_34 (by decide) c7 ?_
  refine gm_ev.aload_n i180_43 rfl ?_
  refine gm_ev.iconst (v := 0) i180_44 (by decide) ?_
  refine gm_ev.callV gm_mono_run (av := [.int (0 : Int32)]) (r := []) (ci := 11) (fs := mF B s4) (bM_get (j := 0) rfl) i180_45 rfl rfl rfl (Nat.le_of_ble_eq_true rfl) t8 ?_
  refine gm_ev.iload_n i180_48 rfl ?_
  refine gm_ev.if_lt_f i180_49 c10 ?_
  refine gm_ev.iload_n i180_52 rfl ?_
  refine gm_ev.aload_n i180_53 rfl ?_
  refine gm_ev.getfield (v := .int (s9.1 38)) i180_54 rfl (bM_fld (j := 0) (fs := mF B s9) rfl rfl) ?_
  refine gm_ev.icmp_lt_t (tgt := 66) i180_57 (by decide) c11 ?_
  refine gm_ev.aload_n i180_66 rfl ?_
  refine gm_ev.getfield (v := .ref (B + 21)) i180_67 rfl (bM_fld (j := 0) (fs := mF B s9) rfl rfl) ?_
  refine gm_ev.iload_n i180_70 rfl ?_
  refine gm_ev.laload i180_71 (bM_al (j := 21) (n := 201) (fl := s9.2.2 37) rfl ek12 lk12 (by decide)) ?_
  refine gm_ev.lstore_n (ls' := [some (.ref B), some (.int p0), some (.int p1), some (.long (s9.2.2 37 k12)), none, none, none]) i180_72 (Nat.le_of_ble_eq_true rfl) rfl ?_
  refine gm_ev.aload_n i180_73 rfl ?_
  refine gm_ev.iconst (v := 1) i180_74 (by decide) ?_
  refine gm_ev.callV gm_mono_run (av := [.int (1 : Int32)]) (r := []) (ci := 11) (fs := mF B s9) (bM_get (j := 0) rfl) i180_75 rfl rfl rfl (Nat.le_of_ble_eq_true rfl) t13 ?_
  refine gm_ev.iload_n i180_78 rfl ?_
  refine gm_ev.if_lt_f i180_79 c15 ?_
  refine gm_ev.iload_n i180_82 rfl ?_
  refine gm_ev.aload_n i180_83 rfl ?_
  refine gm_ev.getfield (v := .int (s14.1 38)) i180_84 rfl (bM_fld (j := 0) (fs := mF B s14) rfl rfl) ?_
  refine gm_ev.icmp_lt_f i180_87 c16 ?_
  refine gm_ev.aload_n i180_90 rfl ?_
  refine gm_ev.iconst (v := 2) i180_91 (by decide) ?_
  refine gm_ev.callV gm_mono_run (av := [.int (2 : Int32)]) (r := []) (ci := 11) (fs := mF B s14) (bM_get (j := 0) rfl) i180_92 rfl rfl rfl (Nat.le_of_ble_eq_true rfl) t18 ?_
  exact gm_ev.iret i180_95 rfl
theorem r_play_0_fttff {N0 : Nat} {K : Nat → Nat} {d B : Nat} {s : mS} {G : gm_H} {sz sl : Nat} {p0 : Int32} {p1 : Int32} {s4 : mS} {r5 : Int32} {s9 : mS} {r12 : Int32} {s14 : mS} (hN : N0 ≤ B) (c1 : ¬ (s.1 5) = 0) (c2 : (s.1 36) = (2 : Int32)) (t3 : gm_to N0 K ra_nm (ra_mt K) d 161 [.ref B] (bM B (mH B (mI s 0 (0 : Int32))) G) sz (.returned none, bM B (mH B s4) G, sz, 0)) (t6 : gm_to N0 K ra_nm (ra_mt K) d 172 [.ref B] (bM B (mH B s4) G) sz (.returned (some (.int r5)), bM B (mH B s4) G, sz, 0)) (c7 : r5 = 0) (t8 : gm_to N0 K ra_nm (ra_mt K) d 171 [.ref B, .int (0 : Int32)] (bM B (mH B s4) G) sz (.returned none, bM B (mH B s9) G, sz, 0)) (c10 : ¬ p0 < 0) (c11 : ¬ p0 < (s9.1 38)) (t13 : gm_to N0 K ra_nm (ra_mt K) d 120 [.ref B, .int (2 : Int32)] (bM B (mH B s9) G) sz (.returned (some (.int r12)), bM B (mH B s14) G, sz, 0)) : gm_ev N0 K ra_nm (ra_mt K) d (some .int) (gm_I cX12_play) (gm_lkf (lkX12 false K)) 0 [some (.ref B), some (.int p0), some (.int p1), none, none, none, none] [] (bM B (mH B s) G) sz sl (.returned (some (.int r12)), (bM B (mH B s14) G), sz, sl) := by
  refine gm_ev.aload_n i180_0 rfl ?_
  refine gm_ev.iconst (v := 0) i180_1 (by decide) ?_
  refine gm_ev.putfield (M' := (bM B (mH B (mI s 0 (0 : Int32))) G)) i180_2 rfl (bM_put (j := 0) (fs := mF B s) rfl (Nat.le_of_ble_eq_true rfl) hN (gm_fit_i _) rfl) ?_
  refine gm_ev.aload_n i180_5 rfl ?_
  refine gm_ev.getfield (v := .int (s.1 5)) i180_6 rfl (bM_fld (j := 0) (fs := mF B (mI s 0 (0 : Int32))) rfl rfl) ?_
  refine gm_ev.if_eq_f i180_9 c1 ?_
  refine gm_ev.aload_n i180_12 rfl ?_
  refine gm_ev.getfield (v := .int (s.1 36)) i180_13 rfl (bM_fld (j := 0) (fs := mF B (mI s 0 (0 : Int32))) rfl rfl) ?_
  refine gm_ev.iconst (v := 2) i180_16 (by decide) ?_
  refine gm_ev.icmp_eq_t (tgt := 26) i180_17 (by decide) c2 ?_
  refine gm_ev.aload_n i180_26 rfl ?_
  refine gm_ev.callV gm_mono_run (av := []) (r := []) (ci := 11) (fs := mF B (mI s 0 (0 : Int32))) (bM_get (j := 0) rfl) i180_27 rfl rfl rfl (Nat.le_of_ble_eq_true rfl) t3 ?_
  refine gm_ev.aload_n i180_30 rfl ?_
  refine gm_ev.callV gm_mono_run (av := []) (r := []) (ci := 11) (fs := mF B s4) (bM_get (j := 0) rfl) i180_31 rfl rfl rfl (Nat.le_of_ble_eq_true rfl) t6 ?_
  refine gm_ev.if_eq_t (tgt := 43) i180_34 (by decide) c7 ?_
  refine gm_ev.aload_n i180_43 rfl ?_
  refine gm_ev.iconst (v := 0) i180_44 (by decide) ?_
  refine gm_ev.callV gm_mono_run (av := [.int (0 : Int32)]) (r := []) (ci := 11) (fs := mF B s4) (bM_get (j := 0) rfl) i180_45 rfl rfl rfl (Nat.le_of_ble_eq_true rfl) t8 ?_
  refine gm_ev.iload_n i180_48 rfl ?_
  refine gm_ev.if_lt_f i180_49 c10 ?_
  refine gm_ev.iload_n i180_52 rfl ?_
  refine gm_ev.aload_n i180_53 rfl ?_
  refine gm_ev.getfield (v := .int (s9.1 38)) i180_54 rfl (bM_fld (j := 0) (fs := mF B s9) rfl rfl) ?_
  refine gm_ev.icmp_lt_f i180_57 c11 ?_
  refine gm_ev.aload_n i180_60 rfl ?_
  refine gm_ev.iconst (v := 2) i180_61 (by decide) ?_
  refine gm_ev.callV gm_mono_run (av := [.int (2 : Int32)]) (r := []) (ci := 11) (fs := mF B s9) (bM_get (j := 0) rfl) i180_62 rfl rfl rfl (Nat.le_of_ble_eq_true rfl) t13 ?_
  exact gm_ev.iret i180_65 rfl
theorem r_play_0_ftf {N0 : Nat} {K : Nat → Nat} {d B : Nat} {s : mS} {G : gm_H} {sz sl : Nat} {p0 : Int32} {p1 : Int32} {s4 : mS} {r5 : Int32} {r8 : Int32} {s10 : mS} (hN : N0 ≤ B) (c1 : ¬ (s.1 5) = 0) (c2 : (s.1 36) = (2 : Int32)) (t3 : gm_to N0 K ra_nm (ra_mt K) d 161 [.ref B] (bM B (mH B (mI s 0 (0 : Int32))) G) sz (.returned none, bM B (mH B s4) G, sz, 0)) (t6 : gm_to N0 K ra_nm (ra_mt K) d 172 [.ref B] (bM B (mH B s4) G) sz (.returned (some (.int r5)), bM B (mH B s4) G, sz, 0)) (c7 : ¬ r5 = 0) (t9 : gm_to N0 K ra_nm (ra_mt K) d 120 [.ref B, .int (1 : Int32)] (bM B (mH B s4) G) sz (.returned (some (.int r8)), bM B (mH B s10) G, sz, 0)) : gm_ev N0 K ra_nm (ra_mt K) d (some .int) (gm_I cX12_play) (gm_lkf (lkX12 false K)) 0 [some (.ref B), some (.int p0), some (.int p1), none, none, none, none] [] (bM B (mH B s) G) sz sl (.returned (some (.int r8)), (bM B (mH B s10) G), sz, sl) := by
  refine gm_ev.aload_n i180_0 rfl ?_
  refine gm_ev.iconst (v := 0) i180_1 (by decide) ?_
  refine gm_ev.putfield (M' := (bM B (mH B (mI s 0 (0 : Int32))) G)) i180_2 rfl (bM_put (j := 0) (fs := mF B s) rfl (Nat.le_of_ble_eq_true rfl) hN (gm_fit_i _) rfl) ?_
  refine gm_ev.aload_n i180_5 rfl ?_
  refine gm_ev.getfield (v := .int (s.1 5)) i180_6 rfl (bM_fld (j := 0) (fs := mF B (mI s 0 (0 : Int32))) rfl rfl) ?_
  refine gm_ev.if_eq_f i180_9 c1 ?_
  refine gm_ev.aload_n i180_12 rfl ?_
  refine gm_ev.getfield (v := .int (s.1 36)) i180_13 rfl (bM_fld (j := 0) (fs := mF B (mI s 0 (0 : Int32))) rfl rfl) ?_
  refine gm_ev.iconst (v := 2) i180_16 (by decide) ?_
  refine gm_ev.icmp_eq_t (tgt := 26) i180_17 (by decide) c2 ?_
  refine gm_ev.aload_n i180_26 rfl ?_
  refine gm_ev.callV gm_mono_run (av := []) (r := []) (ci := 11) (fs := mF B (mI s 0 (0 : Int32))) (bM_get (j := 0) rfl) i180_27 rfl rfl rfl (Nat.le_of_ble_eq_true rfl) t3 ?_
  refine gm_ev.aload_n i180_30 rfl ?_
  refine gm_ev.callV gm_mono_run (av := []) (r := []) (ci := 11) (fs := mF B s4) (bM_get (j := 0) rfl) i180_31 rfl rfl rfl (Nat.le_of_ble_eq_true rfl) t6 ?_
  refine gm_ev.if_eq_f i180_34 c7 ?_
  refine gm_ev.aload_n i180_37 rfl ?_
  refine gm_ev.iconst (v := 1) i180_38 (by decide) ?_
  refine gm_ev.callV gm_mono_run (av := [.int (1 : Int32)]) (r := []) (ci := 11) (fs := mF B s4) (bM_get (j := 0) rfl) i180_39 rfl rfl rfl (Nat.le_of_ble_eq_true rfl) t9 ?_
  exact gm_ev.iret i180_42 rfl
theorem r_play_0_ff {N0 : Nat} {K : Nat → Nat} {d B : Nat} {s : mS} {G : gm_H} {sz sl : Nat} {p0 : Int32} {p1 : Int32} {r3 : Int32} {s5 : mS} (hN : N0 ≤ B) (c1 : ¬ (s.1 5) = 0) (c2 : ¬ (s.1 36) = (2 : Int32)) (t4 : gm_to N0 K ra_nm (ra_mt K) d 120 [.ref B, .int (1 : Int32)] (bM B (mH B (mI s 0 (0 : Int32))) G) sz (.returned (some (.int r3)), bM B (mH B s5) G, sz, 0)) : gm_ev N0 K ra_nm (ra_mt K) d (some .int) (gm_I cX12_play) (gm_lkf (lkX12 false K)) 0 [some (.ref B), some (.int p0), some (.int p1), none, none, none, none] [] (bM B (mH B s) G) sz sl (.returned (some (.int r3)), (bM B (mH B s5) G), sz, sl) := by
  refine gm_ev.aload_n i180_0 rfl ?_
  refine gm_ev.iconst (v := 0) i180_1 (by decide) ?_
  refine gm_ev.putfield (M' := (bM B (mH B (mI s 0 (0 : Int32))) G)) i180_2 rfl (bM_put (j := 0) (fs := mF B s) rfl (Nat.le_of_ble_eq_true rfl) hN (gm_fit_i _) rfl) ?_
  refine gm_ev.aload_n i180_5 rfl ?_
  refine gm_ev.getfield (v := .int (s.1 5)) i180_6 rfl (bM_fld (j := 0) (fs := mF B (mI s 0 (0 : Int32))) rfl rfl) ?_
  refine gm_ev.if_eq_f i180_9 c1 ?_
  refine gm_ev.aload_n i180_12 rfl ?_
  refine gm_ev.getfield (v := .int (s.1 36)) i180_13 rfl (bM_fld (j := 0) (fs := mF B (mI s 0 (0 : Int32))) rfl rfl) ?_
  refine gm_ev.iconst (v := 2) i180_16 (by decide) ?_
  refine gm_ev.icmp_eq_f i180_17 c2 ?_
  refine gm_ev.aload_n i180_20 rfl ?_
  refine gm_ev.iconst (v := 1) i180_21 (by decide) ?_
  refine gm_ev.callV gm_mono_run (av := [.int (1 : Int32)]) (r := []) (ci := 11) (fs := mF B (mI s 0 (0 : Int32))) (bM_get (j := 0) rfl) i180_22 rfl rfl rfl (Nat.le_of_ble_eq_true rfl) t4 ?_
  exact gm_ev.iret i180_25 rfl
theorem r_play_170_t {N0 : Nat} {K : Nat → Nat} {d B : Nat} {s : mS} {G : gm_H} {sz sl : Nat} {x6 : Int32} (hN : N0 ≤ B) (c1 : (s.1 34) ≤ x6) : gm_ev N0 K ra_nm (ra_mt K) d (some .int) (gm_I cX12_play) (gm_lkf (lkX12 false K)) 170 [some (.ref B), none, none, none, none, none, some (.int x6)] [] (bM B (mH B s) G) sz sl (.returned (some (.int (s.1 30))), (bM B (mH B s) G), sz, sl) := by
  refine gm_ev.iload i180_170 rfl ?_
  refine gm_ev.aload_n i180_172 rfl ?_
  refine gm_ev.getfield (v := .int (s.1 34)) i180_173 rfl (bM_fld (j := 0) (fs := mF B s) rfl rfl) ?_
  refine gm_ev.icmp_ge_t (tgt := 199) i180_176 (by decide) c1 ?_
  refine gm_ev.aload_n i180_199 rfl ?_
  refine gm_ev.getfield (v := .int (s.1 30)) i180_200 rfl (bM_fld (j := 0) (fs := mF B s) rfl rfl) ?_
  exact gm_ev.iret i180_203 rfl
theorem r_play_170_f_at170 {N0 : Nat} {K : Nat → Nat} {d B : Nat} {s : mS} {G : gm_H} {sz sl : Nat} {R : gm_R} {x6 : Int32} {k2 : Nat} {k3 : Nat} (hN : N0 ≤ B) (c1 : ¬ (s.1 34) ≤ x6) (ek2 : x6 = nI k2) (lk2 : k2 < 24) (ek3 : x6 = nI k3) (lk3 : k3 < 24) (k : gm_ev N0 K ra_nm (ra_mt K) d (some .int) (gm_I cX12_play) (gm_lkf (lkX12 false K)) 170 [some (.ref B), none, none, none, none, none, some (.int (x6 + (1 : Int32)))] [] (bM B (mH B (mL s 29 (vp_updL (s.2.2 29) k3 (s.2.2 33 k2)))) G) sz sl R) : gm_ev N0 K ra_nm (ra_mt K) d (some .int) (gm_I cX12_play) (gm_lkf (lkX12 false K)) 170 [some (.ref B), none, none, none, none, none, some (.int x6)] [] (bM B (mH B s) G) sz sl R := by
  refine gm_ev.iload i180_170 rfl ?_
  refine gm_ev.aload_n i180_172 rfl ?_
  refine gm_ev.getfield (v := .int (s.1 34)) i180_173 rfl (bM_fld (j := 0) (fs := mF B s) rfl rfl) ?_
  refine gm_ev.icmp_ge_f i180_176 c1 ?_
  refine gm_ev.aload_n i180_179 rfl ?_
  refine gm_ev.getfield (v := .ref (B + 17)) i180_180 rfl (bM_fld (j := 0) (fs := mF B s) rfl rfl) ?_
  refine gm_ev.iload i180_183 rfl ?_
  refine gm_ev.aload_n i180_185 rfl ?_
  refine gm_ev.getfield (v := .ref (B + 19)) i180_186 rfl (bM_fld (j := 0) (fs := mF B s) rfl rfl) ?_
  refine gm_ev.iload i180_189 rfl ?_
  refine gm_ev.laload i180_191 (bM_al (j := 19) (n := 24) (fl := s.2.2 33) rfl ek2 lk2 (by decide)) ?_
  refine gm_ev.lastore (M' := (bM B (mH B (mL s 29 (vp_updL (s.2.2 29) k3 (s.2.2 33 k2)))) G)) i180_192 (bM_astl (j := 17) (n := 24) (fl := s.2.2 29) rfl ek3 lk3 (by decide) hN rfl) ?_
  refine gm_ev.iinc (v := x6 + (1 : Int32)) (ls' := [some (.ref B), none, none, none, none, none, some (.int (x6 + (1 : Int32)))]) i180_193 rfl (by rfl) rfl ?_
  refine gm_ev.goto (tgt := 170) i180_196 (by decide) ?_
  exact k
theorem r_restart_0_t {N0 : Nat} {K : Nat → Nat} {d B : Nat} {s : mS} {G : gm_H} {sz sl : Nat}  (hN : N0 ≤ B) (c1 : (s.1 5) = 0) (z2 : (s.1 5) = 0 ∨ (s.1 5) = 1) : gm_ev N0 K ra_nm (ra_mt K) d (some .boolean) (gm_I cX12_restart) (gm_lkf (lkX12 false K)) 0 [some (.ref B)] [] (bM B (mH B s) G) sz sl (.returned (some (.int (s.1 5))), (bM B (mH B (mI s 0 (0 : Int32))) G), sz, sl) := by
  refine gm_ev.aload_n i181_0 rfl ?_
  refine gm_ev.iconst (v := 0) i181_1 (by decide) ?_
  refine gm_ev.putfield (M' := (bM B (mH B (mI s 0 (0 : Int32))) G)) i181_2 rfl (bM_put (j := 0) (fs := mF B s) rfl (Nat.le_of_ble_eq_true rfl) hN (gm_fit_i _) rfl) ?_
  refine gm_ev.aload_n i181_5 rfl ?_
  refine gm_ev.getfield (v := .int (s.1 5)) i181_6 rfl (bM_fld (j := 0) (fs := mF B (mI s 0 (0 : Int32))) rfl rfl) ?_
  refine gm_ev.if_eq_t (tgt := 16) i181_9 (by decide) c1 ?_
  refine gm_ev.aload_n i181_16 rfl ?_
  refine gm_ev.getfield (v := .int (s.1 5)) i181_17 rfl (bM_fld (j := 0) (fs := mF B (mI s 0 (0 : Int32))) rfl rfl) ?_
  exact gm_ev.zret i181_20 rfl z2
theorem r_restart_0_f {N0 : Nat} {K : Nat → Nat} {d B : Nat} {s : mS} {G : gm_H} {sz sl : Nat} {s3 : mS} (hN : N0 ≤ B) (c1 : ¬ (s.1 5) = 0) (t2 : gm_to N0 K ra_nm (ra_mt K) d 168 [.ref B] (bM B (mH B (mI s 0 (0 : Int32))) G) sz (.returned none, bM B (mH B s3) G, sz, 0)) (z4 : (s3.1 5) = 0 ∨ (s3.1 5) = 1) : gm_ev N0 K ra_nm (ra_mt K) d (some .boolean) (gm_I cX12_restart) (gm_lkf (lkX12 false K)) 0 [some (.ref B)] [] (bM B (mH B s) G) sz sl (.returned (some (.int (s3.1 5))), (bM B (mH B s3) G), sz, sl) := by
  refine gm_ev.aload_n i181_0 rfl ?_
  refine gm_ev.iconst (v := 0) i181_1 (by decide) ?_
  refine gm_ev.putfield (M' := (bM B (mH B (mI s 0 (0 : Int32))) G)) i181_2 rfl (bM_put (j := 0) (fs := mF B s) rfl (Nat.le_of_ble_eq_true rfl) hN (gm_fit_i _) rfl) ?_
  refine gm_ev.aload_n i181_5 rfl ?_
  refine gm_ev.getfield (v := .int (s.1 5)) i181_6 rfl (bM_fld (j := 0) (fs := mF B (mI s 0 (0 : Int32))) rfl rfl) ?_
  refine gm_ev.if_eq_f i181_9 c1 ?_
  refine gm_ev.aload_n i181_12 rfl ?_
  refine gm_ev.callV gm_mono_run (av := []) (r := []) (ci := 11) (fs := mF B (mI s 0 (0 : Int32))) (bM_get (j := 0) rfl) i181_13 rfl rfl rfl (Nat.le_of_ble_eq_true rfl) t2 ?_
  refine gm_ev.aload_n i181_16 rfl ?_
  refine gm_ev.getfield (v := .int (s3.1 5)) i181_17 rfl (bM_fld (j := 0) (fs := mF B s3) rfl rfl) ?_
  exact gm_ev.zret i181_20 rfl z4
theorem r_find_next_0__at2 {N0 : Nat} {K : Nat → Nat} {d B : Nat} {s : mS} {G : gm_H} {sz sl : Nat} {R : gm_R} {p1 : Int32} (hN : N0 ≤ B)  (k : gm_ev N0 K ra_nm (ra_mt K) d (some .int) (gm_I cX12_find) (gm_lkf (lkX12 false K)) 2 [some (.ref B), some (.ref (B + 19)), some (.int p1), some (.int (0 : Int32)), none, none] [] (bM B (mH B s) G) sz sl R) : gm_ev N0 K ra_nm (ra_mt K) d (some .int) (gm_I cX12_find) (gm_lkf (lkX12 false K)) 0 [some (.ref B), some (.ref (B + 19)), some (.int p1), none, none, none] [] (bM B (mH B s) G) sz sl R := by
  refine gm_ev.iconst (v := 0) i182_0 (by decide) ?_
  refine gm_ev.istore_n (ls' := [some (.ref B), some (.ref (B + 19)), some (.int p1), some (.int (0 : Int32)), none, none]) i182_1 (Nat.le_of_ble_eq_true rfl) rfl ?_
  exact k
theorem r_find_next_2_t {N0 : Nat} {K : Nat → Nat} {d B : Nat} {s : mS} {G : gm_H} {sz sl : Nat} {x2 : Int32} {x3 : Int32} (hN : N0 ≤ B) (c1 : (s.1 43) ≤ x3) : gm_ev N0 K ra_nm (ra_mt K) d (some .int) (gm_I cX12_find) (gm_lkf (lkX12 false K)) 2 [some (.ref B), some (.ref (B + 19)), some (.int x2), some (.int x3), none, none] [] (bM B (mH B s) G) sz sl (.returned (some (.int (-1 : Int32))), (bM B (mH B s) G), sz, sl) := by
  refine gm_ev.iload_n i182_2 rfl ?_
  refine gm_ev.aload_n i182_3 rfl ?_
  refine gm_ev.getfield (v := .int (s.1 43)) i182_4 rfl (bM_fld (j := 0) (fs := mF B s) rfl rfl) ?_
  refine gm_ev.icmp_ge_t (tgt := 87) i182_7 (by decide) c1 ?_
  refine gm_ev.iconst (v := -1) i182_87 (by decide) ?_
  exact gm_ev.iret i182_88 rfl
theorem r_find_next_2_ft_at30 {N0 : Nat} {K : Nat → Nat} {d B : Nat} {s : mS} {G : gm_H} {sz sl : Nat} {R : gm_R} {x2 : Int32} {x3 : Int32} {k2 : Nat} (hN : N0 ≤ B) (c1 : ¬ (s.1 43) ≤ x3) (ek2 : x3 = nI k2) (lk2 : k2 < 60) (c3 : ¬ (s.2.1 45 k2) = x2) (k : gm_ev N0 K ra_nm (ra_mt K) d (some .int) (gm_I cX12_find) (gm_lkf (lkX12 false K)) 30 [some (.ref B), some (.ref (B + 19)), some (.int x2), some (.int x3), some (.int (0 : Int32)), some (.int (0 : Int32))] [] (bM B (mH B s) G) sz sl R) : gm_ev N0 K ra_nm (ra_mt K) d (some .int) (gm_I cX12_find) (gm_lkf (lkX12 false K)) 2 [some (.ref B), some (.ref (B + 19)), some (.int x2), some (.int x3), none, none] [] (bM B (mH B s) G) sz sl R := by
  refine gm_ev.iload_n i182_2 rfl ?_
  refine gm_ev.aload_n i182_3 rfl ?_
  refine gm_ev.getfield (v := .int (s.1 43)) i182_4 rfl (bM_fld (j := 0) (fs := mF B s) rfl rfl) ?_
  refine gm_ev.icmp_ge_f i182_7 c1 ?_
  refine gm_ev.aload_n i182_10 rfl ?_
  refine gm_ev.getfield (v := .ref (B + 25)) i182_11 rfl (bM_fld (j := 0) (fs := mF B s) rfl rfl) ?_
  refine gm_ev.iload_n i182_14 rfl ?_
  refine gm_ev.iaload i182_15 (bM_ai (j := 25) (n := 60) (f := s.2.1 45) rfl ek2 lk2 (by decide)) ?_
  refine gm_ev.iload_n i182_16 rfl ?_
  refine gm_ev.icmp_ne_t (tgt := 24) i182_17 (by decide) c3 ?_
  refine gm_ev.iconst (v := 0) i182_24 (by decide) ?_
  refine gm_ev.istore (ls' := [some (.ref B), some (.ref (B + 19)), some (.int x2), some (.int x3), some (.int (0 : Int32)), none]) i182_25 (Nat.le_of_ble_eq_true rfl) rfl ?_
  refine gm_ev.iconst (v := 0) i182_27 (by decide) ?_
  refine gm_ev.istore (ls' := [some (.ref B), some (.ref (B + 19)), some (.int x2), some (.int x3), some (.int (0 : Int32)), some (.int (0 : Int32))]) i182_28 (Nat.le_of_ble_eq_true rfl) rfl ?_
  exact k
theorem r_find_next_2_ff_at30 {N0 : Nat} {K : Nat → Nat} {d B : Nat} {s : mS} {G : gm_H} {sz sl : Nat} {R : gm_R} {x2 : Int32} {x3 : Int32} {k2 : Nat} (hN : N0 ≤ B) (c1 : ¬ (s.1 43) ≤ x3) (ek2 : x3 = nI k2) (lk2 : k2 < 60) (c3 : (s.2.1 45 k2) = x2) (k : gm_ev N0 K ra_nm (ra_mt K) d (some .int) (gm_I cX12_find) (gm_lkf (lkX12 false K)) 30 [some (.ref B), some (.ref (B + 19)), some (.int x2), some (.int x3), some (.int (1 : Int32)), some (.int (0 : Int32))] [] (bM B (mH B s) G) sz sl R) : gm_ev N0 K ra_nm (ra_mt K) d (some .int) (gm_I cX12_find) (gm_lkf (lkX12 false K)) 2 [some (.ref B), some (.ref (B + 19)), some (.int x2), some (.int x3), none, none] [] (bM B (mH B s) G) sz sl R := by
  refine gm_ev.iload_n i182_2 rfl ?_
  refine gm_ev.aload_n i182_3 rfl ?_
  refine gm_ev.getfield (v := .int (s.1 43)) i182_4 rfl (bM_fld (j := 0) (fs := mF B s) rfl rfl) ?_
  refine gm_ev.icmp_ge_f i182_7 c1 ?_
  refine gm_ev.aload_n i182_10 rfl ?_
  refine gm_ev.getfield (v := .ref (B + 25)) i182_11 rfl (bM_fld (j := 0) (fs := mF B s) rfl rfl) ?_
  refine gm_ev.iload_n i182_14 rfl ?_
  refine gm_ev.iaload i182_15 (bM_ai (j := 25) (n := 60) (f := s.2.1 45) rfl ek2 lk2 (by decide)) ?_
  refine gm_ev.iload_n i182_16 rfl ?_
  refine gm_ev.icmp_ne_f i182_17 c3 ?_
  refine gm_ev.iconst (v := 1) i182_20 (by decide) ?_
  refine gm_ev.goto (tgt := 25) i182_21 (by decide) ?_
  refine gm_ev.istore (ls' := [some (.ref B), some (.ref (B + 19)), some (.int x2), some (.int x3), some (.int (1 : Int32)), none]) i182_25 (Nat.le_of_ble_eq_true rfl) rfl ?_
  refine gm_ev.iconst (v := 0) i182_27 (by decide) ?_
  refine gm_ev.istore (ls' := [some (.ref B), some (.ref (B + 19)), some (.int x2), some (.int x3), some (.int (1 : Int32)), some (.int (0 : Int32))]) i182_28 (Nat.le_of_ble_eq_true rfl) rfl ?_
  exact k
theorem r_find_next_30_tt_at2 {N0 : Nat} {K : Nat → Nat} {d B : Nat} {s : mS} {G : gm_H} {sz sl : Nat} {R : gm_R} {x2 : Int32} {x3 : Int32} {x4 : Int32} {x5 : Int32} (hN : N0 ≤ B) (c1 : x2 ≤ x5) (c2 : x4 = 0) (k : gm_ev N0 K ra_nm (ra_mt K) d (some .int) (gm_I cX12_find) (gm_lkf (lkX12 false K)) 2 [some (.ref B), some (.ref (B + 19)), some (.int x2), some (.int (x3 + (1 : Int32))), none, none] [] (bM B (mH B s) G) sz sl R) : gm_ev N0 K ra_nm (ra_mt K) d (some .int) (gm_I cX12_find) (gm_lkf (lkX12 false K)) 30 [some (.ref B), some (.ref (B + 19)), some (.int x2), some (.int x3), some (.int x4), some (.int x5)] [] (bM B (mH B s) G) sz sl R := by
  refine gm_ev.iload i182_30 rfl ?_
  refine gm_ev.iload_n i182_32 rfl ?_
  refine gm_ev.icmp_ge_t (tgt := 74) i182_33 (by decide) c1 ?_
  refine gm_ev.iload i182_74 rfl ?_
  refine gm_ev.if_eq_t (tgt := 81) i182_76 (by decide) c2 ?_
  refine gm_ev.iinc (v := x3 + (1 : Int32)) (ls' := [some (.ref B), some (.ref (B + 19)), some (.int x2), some (.int (x3 + (1 : Int32))), some (.int x4), some (.int x5)]) i182_81 rfl (by rfl) rfl ?_
  refine gm_ev.goto (tgt := 2) i182_84 (by decide) ?_
  refine gm_ev.le (a := [some (.ref B), some (.ref (B + 19)), some (.int x2), some (.int (x3 + (1 : Int32))), none, none]) (gm_leL.le (show gm_leL _ _ from ⟨rfl, ⟨rfl, ⟨rfl, ⟨rfl, trivial⟩⟩⟩⟩)) ?_
  exact k
theorem r_find_next_30_tf {N0 : Nat} {K : Nat → Nat} {d B : Nat} {s : mS} {G : gm_H} {sz sl : Nat} {x2 : Int32} {x3 : Int32} {x4 : Int32} {x5 : Int32} (hN : N0 ≤ B) (c1 : x2 ≤ x5) (c2 : ¬ x4 = 0) : gm_ev N0 K ra_nm (ra_mt K) d (some .int) (gm_I cX12_find) (gm_lkf (lkX12 false K)) 30 [some (.ref B), some (.ref (B + 19)), some (.int x2), some (.int x3), some (.int x4), some (.int x5)] [] (bM B (mH B s) G) sz sl (.returned (some (.int x3)), (bM B (mH B s) G), sz, sl) := by
  refine gm_ev.iload i182_30 rfl ?_
  refine gm_ev.iload_n i182_32 rfl ?_
  refine gm_ev.icmp_ge_t (tgt := 74) i182_33 (by decide) c1 ?_
  refine gm_ev.iload i182_74 rfl ?_
  refine gm_ev.if_eq_f i182_76 c2 ?_
  refine gm_ev.iload_n i182_79 rfl ?_
  exact gm_ev.iret i182_80 rfl
theorem r_find_next_30_ftt_at2 {N0 : Nat} {K : Nat → Nat} {d B : Nat} {s : mS} {G : gm_H} {sz sl : Nat} {R : gm_R} {x2 : Int32} {x3 : Int32} {x4 : Int32} {x5 : Int32} (hN : N0 ≤ B) (c1 : ¬ x2 ≤ x5) (c2 : x4 = 0) (c3 : x4 = 0) (k : gm_ev N0 K ra_nm (ra_mt K) d (some .int) (gm_I cX12_find) (gm_lkf (lkX12 false K)) 2 [some (.ref B), some (.ref (B + 19)), some (.int x2), some (.int (x3 + (1 : Int32))), none, none] [] (bM B (mH B s) G) sz sl R) : gm_ev N0 K ra_nm (ra_mt K) d (some .int) (gm_I cX12_find) (gm_lkf (lkX12 false K)) 30 [some (.ref B), some (.ref (B + 19)), some (.int x2), some (.int x3), some (.int x4), some (.int x5)] [] (bM B (mH B s) G) sz sl R := by
  refine gm_ev.iload i182_30 rfl ?_
  refine gm_ev.iload_n i182_32 rfl ?_
  refine gm_ev.icmp_ge_f i182_33 c1 ?_
  refine gm_ev.iload i182_36 rfl ?_
  refine gm_ev.if_eq_t (tgt := 74) i182_38 (by decide) c2 ?_
  refine gm_ev.iload i182_74 rfl ?_
  refine gm_ev.if_eq_t (tgt := 81) i182_76 (by decide) c3 ?_
  refine gm_ev.iinc (v := x3 + (1 : Int32)) (ls' := [some (.ref B), some (.ref (B + 19)), some (.int x2), some (.int (x3 + (1 : Int32))), some (.int x4), some (.int x5)]) i182_81 rfl (by rfl) rfl ?_
  refine gm_ev.goto (tgt := 2) i182_84 (by decide) ?_
  refine gm_ev.le (a := [some (.ref B), some (.ref (B + 19)), some (.int x2), some (.int (x3 + (1 : Int32))), none, none]) (gm_leL.le (show gm_leL _ _ from ⟨rfl, ⟨rfl, ⟨rfl, ⟨rfl, trivial⟩⟩⟩⟩)) ?_
  exact k
theorem r_find_next_30_ftf {N0 : Nat} {K : Nat → Nat} {d B : Nat} {s : mS} {G : gm_H} {sz sl : Nat} {x2 : Int32} {x3 : Int32} {x4 : Int32} {x5 : Int32} (hN : N0 ≤ B) (c1 : ¬ x2 ≤ x5) (c2 : x4 = 0) (c3 : ¬ x4 = 0) : gm_ev N0 K ra_nm (ra_mt K) d (some .int) (gm_I cX12_find) (gm_lkf (lkX12 false K)) 30 [some (.ref B), some (.ref (B + 19)), some (.int x2), some (.int x3), some (.int x4), some (.int x5)] [] (bM B (mH B s) G) sz sl (.returned (some (.int x3)), (bM B (mH B s) G), sz, sl) := by
  refine gm_ev.iload i182_30 rfl ?_
  refine gm_ev.iload_n i182_32 rfl ?_
  refine gm_ev.icmp_ge_f i182_33 c1 ?_
  refine gm_ev.iload i182_36 rfl ?_
  refine gm_ev.if_eq_t (tgt := 74) i182_38 (by decide) c2 ?_
  refine gm_ev.iload i182_74 rfl ?_
  refine gm_ev.if_eq_f i182_76 c3 ?_
  refine gm_ev.iload_n i182_79 rfl ?_
  exact gm_ev.iret i182_80 rfl
theorem r_find_next_30_fft_at30 {N0 : Nat} {K : Nat → Nat} {d B : Nat} {s : mS} {G : gm_H} {sz sl : Nat} {R : gm_R} {x2 : Int32} {x3 : Int32} {x4 : Int32} {x5 : Int32} {k3 : Nat} {k4 : Nat} (hN : N0 ≤ B) (c1 : ¬ x2 ≤ x5) (c2 : ¬ x4 = 0) (ek3 : (((24 : Int32) * x3) + x5) = nI k3) (lk3 : k3 < 1440) (ek4 : x5 = nI k4) (lk4 : k4 < 24) (c5 : ¬ (lg_cmp (s.2.2 44 k3) (s.2.2 33 k4)) = 0) (k : gm_ev N0 K ra_nm (ra_mt K) d (some .int) (gm_I cX12_find) (gm_lkf (lkX12 false K)) 30 [some (.ref B), some (.ref (B + 19)), some (.int x2), some (.int x3), some (.int (0 : Int32)), some (.int (x5 + (1 : Int32)))] [] (bM B (mH B s) G) sz sl R) : gm_ev N0 K ra_nm (ra_mt K) d (some .int) (gm_I cX12_find) (gm_lkf (lkX12 false K)) 30 [some (.ref B), some (.ref (B + 19)), some (.int x2), some (.int x3), some (.int x4), some (.int x5)] [] (bM B (mH B s) G) sz sl R := by
  refine gm_ev.iload i182_30 rfl ?_
  refine gm_ev.iload_n i182_32 rfl ?_
  refine gm_ev.icmp_ge_f i182_33 c1 ?_
  refine gm_ev.iload i182_36 rfl ?_
  refine gm_ev.if_eq_f i182_38 c2 ?_
  refine gm_ev.aload_n i182_41 rfl ?_
  refine gm_ev.getfield (v := .ref (B + 24)) i182_42 rfl (bM_fld (j := 0) (fs := mF B s) rfl rfl) ?_
  refine gm_ev.bipush (v := 24) i182_45 (by decide) ?_
  refine gm_ev.iload_n i182_47 rfl ?_
  refine gm_ev.imul i182_48 ?_
  refine gm_ev.iload i182_49 rfl ?_
  refine gm_ev.iadd i182_51 ?_
  refine gm_ev.laload i182_52 (bM_al (j := 24) (n := 1440) (fl := s.2.2 44) rfl ek3 lk3 (by decide)) ?_
  refine gm_ev.aload_n i182_53 rfl ?_
  refine gm_ev.iload i182_54 rfl ?_
  refine gm_ev.laload i182_56 (bM_al (j := 19) (n := 24) (fl := s.2.2 33) rfl ek4 lk4 (by decide)) ?_
  refine gm_ev.lcmp i182_57 ?_
  refine gm_ev.if_ne_t (tgt := 65) i182_58 (by decide) c5 ?_
  refine gm_ev.iconst (v := 0) i182_65 (by decide) ?_
  refine gm_ev.istore (ls' := [some (.ref B), some (.ref (B + 19)), some (.int x2), some (.int x3), some (.int (0 : Int32)), some (.int x5)]) i182_66 (Nat.le_of_ble_eq_true rfl) rfl ?_
  refine gm_ev.iinc (v := x5 + (1 : Int32)) (ls' := [some (.ref B), some (.ref (B + 19)), some (.int x2), some (.int x3), some (.int (0 : Int32)), some (.int (x5 + (1 : Int32)))]) i182_68 rfl (by rfl) rfl ?_
  refine gm_ev.goto (tgt := 30) i182_71 (by decide) ?_
  exact k
theorem r_find_next_30_fff_at30 {N0 : Nat} {K : Nat → Nat} {d B : Nat} {s : mS} {G : gm_H} {sz sl : Nat} {R : gm_R} {x2 : Int32} {x3 : Int32} {x4 : Int32} {x5 : Int32} {k3 : Nat} {k4 : Nat} (hN : N0 ≤ B) (c1 : ¬ x2 ≤ x5) (c2 : ¬ x4 = 0) (ek3 : (((24 : Int32) * x3) + x5) = nI k3) (lk3 : k3 < 1440) (ek4 : x5 = nI k4) (lk4 : k4 < 24) (c5 : (lg_cmp (s.2.2 44 k3) (s.2.2 33 k4)) = 0) (k : gm_ev N0 K ra_nm (ra_mt K) d (some .int) (gm_I cX12_find) (gm_lkf (lkX12 false K)) 30 [some (.ref B), some (.ref (B + 19)), some (.int x2), some (.int x3), some (.int (1 : Int32)), some (.int (x5 + (1 : Int32)))] [] (bM B (mH B s) G) sz sl R) : gm_ev N0 K ra_nm (ra_mt K) d (some .int) (gm_I cX12_find) (gm_lkf (lkX12 false K)) 30 [some (.ref B), some (.ref (B + 19)), some (.int x2), some (.int x3), some (.int x4), some (.int x5)] [] (bM B (mH B s) G) sz sl R := by
  refine gm_ev.iload i182_30 rfl ?_
  refine gm_ev.iload_n i182_32 rfl ?_
  refine gm_ev.icmp_ge_f i182_33 c1 ?_
  refine gm_ev.iload i182_36 rfl ?_
  refine gm_ev.if_eq_f i182_38 c2 ?_
  refine gm_ev.aload_n i182_41 rfl ?_
  refine gm_ev.getfield (v := .ref (B + 24)) i182_42 rfl (bM_fld (j := 0) (fs := mF B s) rfl rfl) ?_
  refine gm_ev.bipush (v := 24) i182_45 (by decide) ?_
  refine gm_ev.iload_n i182_47 rfl ?_
  refine gm_ev.imul i182_48 ?_
  refine gm_ev.iload i182_49 rfl ?_
  refine gm_ev.iadd i182_51 ?_
  refine gm_ev.laload i182_52 (bM_al (j := 24) (n := 1440) (fl := s.2.2 44) rfl ek3 lk3 (by decide)) ?_
  refine gm_ev.aload_n i182_53 rfl ?_
  refine gm_ev.iload i182_54 rfl ?_
  refine gm_ev.laload i182_56 (bM_al (j := 19) (n := 24) (fl := s.2.2 33) rfl ek4 lk4 (by decide)) ?_
  refine gm_ev.lcmp i182_57 ?_
  refine gm_ev.if_ne_f i182_58 c5 ?_
  refine gm_ev.iconst (v := 1) i182_61 (by decide) ?_
  refine gm_ev.goto (tgt := 66) i182_62 (by decide) ?_
  refine gm_ev.istore (ls' := [some (.ref B), some (.ref (B + 19)), some (.int x2), some (.int x3), some (.int (1 : Int32)), some (.int x5)]) i182_66 (Nat.le_of_ble_eq_true rfl) rfl ?_
  refine gm_ev.iinc (v := x5 + (1 : Int32)) (ls' := [some (.ref B), some (.ref (B + 19)), some (.int x2), some (.int x3), some (.int (1 : Int32)), some (.int (x5 + (1 : Int32)))]) i182_68 rfl (by rfl) rfl ?_
  refine gm_ev.goto (tgt := 30) i182_71 (by decide) ?_
  exact k
theorem r_find_now_0__at2 {N0 : Nat} {K : Nat → Nat} {d B : Nat} {s : mS} {G : gm_H} {sz sl : Nat} {R : gm_R} {p1 : Int32} (hN : N0 ≤ B)  (k : gm_ev N0 K ra_nm (ra_mt K) d (some .int) (gm_I cX12_find) (gm_lkf (lkX12 false K)) 2 [some (.ref B), some (.ref (B + 17)), some (.int p1), some (.int (0 : Int32)), none, none] [] (bM B (mH B s) G) sz sl R) : gm_ev N0 K ra_nm (ra_mt K) d (some .int) (gm_I cX12_find) (gm_lkf (lkX12 false K)) 0 [some (.ref B), some (.ref (B + 17)), some (.int p1), none, none, none] [] (bM B (mH B s) G) sz sl R := by
  refine gm_ev.iconst (v := 0) i182_0 (by decide) ?_
  refine gm_ev.istore_n (ls' := [some (.ref B), some (.ref (B + 17)), some (.int p1), some (.int (0 : Int32)), none, none]) i182_1 (Nat.le_of_ble_eq_true rfl) rfl ?_
  exact k
theorem r_find_now_2_t {N0 : Nat} {K : Nat → Nat} {d B : Nat} {s : mS} {G : gm_H} {sz sl : Nat} {x2 : Int32} {x3 : Int32} (hN : N0 ≤ B) (c1 : (s.1 43) ≤ x3) : gm_ev N0 K ra_nm (ra_mt K) d (some .int) (gm_I cX12_find) (gm_lkf (lkX12 false K)) 2 [some (.ref B), some (.ref (B + 17)), some (.int x2), some (.int x3), none, none] [] (bM B (mH B s) G) sz sl (.returned (some (.int (-1 : Int32))), (bM B (mH B s) G), sz, sl) := by
  refine gm_ev.iload_n i182_2 rfl ?_
  refine gm_ev.aload_n i182_3 rfl ?_
  refine gm_ev.getfield (v := .int (s.1 43)) i182_4 rfl (bM_fld (j := 0) (fs := mF B s) rfl rfl) ?_
  refine gm_ev.icmp_ge_t (tgt := 87) i182_7 (by decide) c1 ?_
  refine gm_ev.iconst (v := -1) i182_87 (by decide) ?_
  exact gm_ev.iret i182_88 rfl
theorem r_find_now_2_ft_at30 {N0 : Nat} {K : Nat → Nat} {d B : Nat} {s : mS} {G : gm_H} {sz sl : Nat} {R : gm_R} {x2 : Int32} {x3 : Int32} {k2 : Nat} (hN : N0 ≤ B) (c1 : ¬ (s.1 43) ≤ x3) (ek2 : x3 = nI k2) (lk2 : k2 < 60) (c3 : ¬ (s.2.1 45 k2) = x2) (k : gm_ev N0 K ra_nm (ra_mt K) d (some .int) (gm_I cX12_find) (gm_lkf (lkX12 false K)) 30 [some (.ref B), some (.ref (B + 17)), some (.int x2), some (.int x3), some (.int (0 : Int32)), some (.int (0 : Int32))] [] (bM B (mH B s) G) sz sl R) : gm_ev N0 K ra_nm (ra_mt K) d (some .int) (gm_I cX12_find) (gm_lkf (lkX12 false K)) 2 [some (.ref B), some (.ref (B + 17)), some (.int x2), some (.int x3), none, none] [] (bM B (mH B s) G) sz sl R := by
  refine gm_ev.iload_n i182_2 rfl ?_
  refine gm_ev.aload_n i182_3 rfl ?_
  refine gm_ev.getfield (v := .int (s.1 43)) i182_4 rfl (bM_fld (j := 0) (fs := mF B s) rfl rfl) ?_
  refine gm_ev.icmp_ge_f i182_7 c1 ?_
  refine gm_ev.aload_n i182_10 rfl ?_
  refine gm_ev.getfield (v := .ref (B + 25)) i182_11 rfl (bM_fld (j := 0) (fs := mF B s) rfl rfl) ?_
  refine gm_ev.iload_n i182_14 rfl ?_
  refine gm_ev.iaload i182_15 (bM_ai (j := 25) (n := 60) (f := s.2.1 45) rfl ek2 lk2 (by decide)) ?_
  refine gm_ev.iload_n i182_16 rfl ?_
  refine gm_ev.icmp_ne_t (tgt := 24) i182_17 (by decide) c3 ?_
  refine gm_ev.iconst (v := 0) i182_24 (by decide) ?_
  refine gm_ev.istore (ls' := [some (.ref B), some (.ref (B + 17)), some (.int x2), some (.int x3), some (.int (0 : Int32)), none]) i182_25 (Nat.le_of_ble_eq_true rfl) rfl ?_
  refine gm_ev.iconst (v := 0) i182_27 (by decide) ?_
  refine gm_ev.istore (ls' := [some (.ref B), some (.ref (B + 17)), some (.int x2), some (.int x3), some (.int (0 : Int32)), some (.int (0 : Int32))]) i182_28 (Nat.le_of_ble_eq_true rfl) rfl ?_
  exact k
theorem r_find_now_2_ff_at30 {N0 : Nat} {K : Nat → Nat} {d B : Nat} {s : mS} {G : gm_H} {sz sl : Nat} {R : gm_R} {x2 : Int32} {x3 : Int32} {k2 : Nat} (hN : N0 ≤ B) (c1 : ¬ (s.1 43) ≤ x3) (ek2 : x3 = nI k2) (lk2 : k2 < 60) (c3 : (s.2.1 45 k2) = x2) (k : gm_ev N0 K ra_nm (ra_mt K) d (some .int) (gm_I cX12_find) (gm_lkf (lkX12 false K)) 30 [some (.ref B), some (.ref (B + 17)), some (.int x2), some (.int x3), some (.int (1 : Int32)), some (.int (0 : Int32))] [] (bM B (mH B s) G) sz sl R) : gm_ev N0 K ra_nm (ra_mt K) d (some .int) (gm_I cX12_find) (gm_lkf (lkX12 false K)) 2 [some (.ref B), some (.ref (B + 17)), some (.int x2), some (.int x3), none, none] [] (bM B (mH B s) G) sz sl R := by
  refine gm_ev.iload_n i182_2 rfl ?_
  refine gm_ev.aload_n i182_3 rfl ?_
  refine gm_ev.getfield (v := .int (s.1 43)) i182_4 rfl (bM_fld (j := 0) (fs := mF B s) rfl rfl) ?_
  refine gm_ev.icmp_ge_f i182_7 c1 ?_
  refine gm_ev.aload_n i182_10 rfl ?_
  refine gm_ev.getfield (v := .ref (B + 25)) i182_11 rfl (bM_fld (j := 0) (fs := mF B s) rfl rfl) ?_
  refine gm_ev.iload_n i182_14 rfl ?_
  refine gm_ev.iaload i182_15 (bM_ai (j := 25) (n := 60) (f := s.2.1 45) rfl ek2 lk2 (by decide)) ?_
  refine gm_ev.iload_n i182_16 rfl ?_
  refine gm_ev.icmp_ne_f i182_17 c3 ?_
  refine gm_ev.iconst (v := 1) i182_20 (by decide) ?_
  refine gm_ev.goto (tgt := 25) i182_21 (by decide) ?_
  refine gm_ev.istore (ls' := [some (.ref B), some (.ref (B + 17)), some (.int x2), some (.int x3), some (.int (1 : Int32)), none]) i182_25 (Nat.le_of_ble_eq_true rfl) rfl ?_
  refine gm_ev.iconst (v := 0) i182_27 (by decide) ?_
  refine gm_ev.istore (ls' := [some (.ref B), some (.ref (B + 17)), some (.int x2), some (.int x3), some (.int (1 : Int32)), some (.int (0 : Int32))]) i182_28 (Nat.le_of_ble_eq_true rfl) rfl ?_
  exact k
theorem r_find_now_30_tt_at2 {N0 : Nat} {K : Nat → Nat} {d B : Nat} {s : mS} {G : gm_H} {sz sl : Nat} {R : gm_R} {x2 : Int32} {x3 : Int32} {x4 : Int32} {x5 : Int32} (hN : N0 ≤ B) (c1 : x2 ≤ x5) (c2 : x4 = 0) (k : gm_ev N0 K ra_nm (ra_mt K) d (some .int) (gm_I cX12_find) (gm_lkf (lkX12 false K)) 2 [some (.ref B), some (.ref (B + 17)), some (.int x2), some (.int (x3 + (1 : Int32))), none, none] [] (bM B (mH B s) G) sz sl R) : gm_ev N0 K ra_nm (ra_mt K) d (some .int) (gm_I cX12_find) (gm_lkf (lkX12 false K)) 30 [some (.ref B), some (.ref (B + 17)), some (.int x2), some (.int x3), some (.int x4), some (.int x5)] [] (bM B (mH B s) G) sz sl R := by
  refine gm_ev.iload i182_30 rfl ?_
  refine gm_ev.iload_n i182_32 rfl ?_
  refine gm_ev.icmp_ge_t (tgt := 74) i182_33 (by decide) c1 ?_
  refine gm_ev.iload i182_74 rfl ?_
  refine gm_ev.if_eq_t (tgt := 81) i182_76 (by decide) c2 ?_
  refine gm_ev.iinc (v := x3 + (1 : Int32)) (ls' := [some (.ref B), some (.ref (B + 17)), some (.int x2), some (.int (x3 + (1 : Int32))), some (.int x4), some (.int x5)]) i182_81 rfl (by rfl) rfl ?_
  refine gm_ev.goto (tgt := 2) i182_84 (by decide) ?_
  refine gm_ev.le (a := [some (.ref B), some (.ref (B + 17)), some (.int x2), some (.int (x3 + (1 : Int32))), none, none]) (gm_leL.le (show gm_leL _ _ from ⟨rfl, ⟨rfl, ⟨rfl, ⟨rfl, trivial⟩⟩⟩⟩)) ?_
  exact k
theorem r_find_now_30_tf {N0 : Nat} {K : Nat → Nat} {d B : Nat} {s : mS} {G : gm_H} {sz sl : Nat} {x2 : Int32} {x3 : Int32} {x4 : Int32} {x5 : Int32} (hN : N0 ≤ B) (c1 : x2 ≤ x5) (c2 : ¬ x4 = 0) : gm_ev N0 K ra_nm (ra_mt K) d (some .int) (gm_I cX12_find) (gm_lkf (lkX12 false K)) 30 [some (.ref B), some (.ref (B + 17)), some (.int x2), some (.int x3), some (.int x4), some (.int x5)] [] (bM B (mH B s) G) sz sl (.returned (some (.int x3)), (bM B (mH B s) G), sz, sl) := by
  refine gm_ev.iload i182_30 rfl ?_
  refine gm_ev.iload_n i182_32 rfl ?_
  refine gm_ev.icmp_ge_t (tgt := 74) i182_33 (by decide) c1 ?_
  refine gm_ev.iload i182_74 rfl ?_
  refine gm_ev.if_eq_f i182_76 c2 ?_
  refine gm_ev.iload_n i182_79 rfl ?_
  exact gm_ev.iret i182_80 rfl
theorem r_find_now_30_ftt_at2 {N0 : Nat} {K : Nat → Nat} {d B : Nat} {s : mS} {G : gm_H} {sz sl : Nat} {R : gm_R} {x2 : Int32} {x3 : Int32} {x4 : Int32} {x5 : Int32} (hN : N0 ≤ B) (c1 : ¬ x2 ≤ x5) (c2 : x4 = 0) (c3 : x4 = 0) (k : gm_ev N0 K ra_nm (ra_mt K) d (some .int) (gm_I cX12_find) (gm_lkf (lkX12 false K)) 2 [some (.ref B), some (.ref (B + 17)), some (.int x2), some (.int (x3 + (1 : Int32))), none, none] [] (bM B (mH B s) G) sz sl R) : gm_ev N0 K ra_nm (ra_mt K) d (some .int) (gm_I cX12_find) (gm_lkf (lkX12 false K)) 30 [some (.ref B), some (.ref (B + 17)), some (.int x2), some (.int x3), some (.int x4), some (.int x5)] [] (bM B (mH B s) G) sz sl R := by
  refine gm_ev.iload i182_30 rfl ?_
  refine gm_ev.iload_n i182_32 rfl ?_
  refine gm_ev.icmp_ge_f i182_33 c1 ?_
  refine gm_ev.iload i182_36 rfl ?_
  refine gm_ev.if_eq_t (tgt := 74) i182_38 (by decide) c2 ?_
  refine gm_ev.iload i182_74 rfl ?_
  refine gm_ev.if_eq_t (tgt := 81) i182_76 (by decide) c3 ?_
  refine gm_ev.iinc (v := x3 + (1 : Int32)) (ls' := [some (.ref B), some (.ref (B + 17)), some (.int x2), some (.int (x3 + (1 : Int32))), some (.int x4), some (.int x5)]) i182_81 rfl (by rfl) rfl ?_
  refine gm_ev.goto (tgt := 2) i182_84 (by decide) ?_
  refine gm_ev.le (a := [some (.ref B), some (.ref (B + 17)), some (.int x2), some (.int (x3 + (1 : Int32))), none, none]) (gm_leL.le (show gm_leL _ _ from ⟨rfl, ⟨rfl, ⟨rfl, ⟨rfl, trivial⟩⟩⟩⟩)) ?_
  exact k
theorem r_find_now_30_ftf {N0 : Nat} {K : Nat → Nat} {d B : Nat} {s : mS} {G : gm_H} {sz sl : Nat} {x2 : Int32} {x3 : Int32} {x4 : Int32} {x5 : Int32} (hN : N0 ≤ B) (c1 : ¬ x2 ≤ x5) (c2 : x4 = 0) (c3 : ¬ x4 = 0) : gm_ev N0 K ra_nm (ra_mt K) d (some .int) (gm_I cX12_find) (gm_lkf (lkX12 false K)) 30 [some (.ref B), some (.ref (B + 17)), some (.int x2), some (.int x3), some (.int x4), some (.int x5)] [] (bM B (mH B s) G) sz sl (.returned (some (.int x3)), (bM B (mH B s) G), sz, sl) := by
  refine gm_ev.iload i182_30 rfl ?_
  refine gm_ev.iload_n i182_32 rfl ?_
  refine gm_ev.icmp_ge_f i182_33 c1 ?_
  refine gm_ev.iload i182_36 rfl ?_
  refine gm_ev.if_eq_t (tgt := 74) i182_38 (by decide) c2 ?_
  refine gm_ev.iload i182_74 rfl ?_
  refine gm_ev.if_eq_f i182_76 c3 ?_
  refine gm_ev.iload_n i182_79 rfl ?_
  exact gm_ev.iret i182_80 rfl
theorem r_find_now_30_fft_at30 {N0 : Nat} {K : Nat → Nat} {d B : Nat} {s : mS} {G : gm_H} {sz sl : Nat} {R : gm_R} {x2 : Int32} {x3 : Int32} {x4 : Int32} {x5 : Int32} {k3 : Nat} {k4 : Nat} (hN : N0 ≤ B) (c1 : ¬ x2 ≤ x5) (c2 : ¬ x4 = 0) (ek3 : (((24 : Int32) * x3) + x5) = nI k3) (lk3 : k3 < 1440) (ek4 : x5 = nI k4) (lk4 : k4 < 24) (c5 : ¬ (lg_cmp (s.2.2 44 k3) (s.2.2 29 k4)) = 0) (k : gm_ev N0 K ra_nm (ra_mt K) d (some .int) (gm_I cX12_find) (gm_lkf (lkX12 false K)) 30 [some (.ref B), some (.ref (B + 17)), some (.int x2), some (.int x3), some (.int (0 : Int32)), some (.int (x5 + (1 : Int32)))] [] (bM B (mH B s) G) sz sl R) : gm_ev N0 K ra_nm (ra_mt K) d (some .int) (gm_I cX12_find) (gm_lkf (lkX12 false K)) 30 [some (.ref B), some (.ref (B + 17)), some (.int x2), some (.int x3), some (.int x4), some (.int x5)] [] (bM B (mH B s) G) sz sl R := by
  refine gm_ev.iload i182_30 rfl ?_
  refine gm_ev.iload_n i182_32 rfl ?_
  refine gm_ev.icmp_ge_f i182_33 c1 ?_
  refine gm_ev.iload i182_36 rfl ?_
  refine gm_ev.if_eq_f i182_38 c2 ?_
  refine gm_ev.aload_n i182_41 rfl ?_
  refine gm_ev.getfield (v := .ref (B + 24)) i182_42 rfl (bM_fld (j := 0) (fs := mF B s) rfl rfl) ?_
  refine gm_ev.bipush (v := 24) i182_45 (by decide) ?_
  refine gm_ev.iload_n i182_47 rfl ?_
  refine gm_ev.imul i182_48 ?_
  refine gm_ev.iload i182_49 rfl ?_
  refine gm_ev.iadd i182_51 ?_
  refine gm_ev.laload i182_52 (bM_al (j := 24) (n := 1440) (fl := s.2.2 44) rfl ek3 lk3 (by decide)) ?_
  refine gm_ev.aload_n i182_53 rfl ?_
  refine gm_ev.iload i182_54 rfl ?_
  refine gm_ev.laload i182_56 (bM_al (j := 17) (n := 24) (fl := s.2.2 29) rfl ek4 lk4 (by decide)) ?_
  refine gm_ev.lcmp i182_57 ?_
  refine gm_ev.if_ne_t (tgt := 65) i182_58 (by decide) c5 ?_
  refine gm_ev.iconst (v := 0) i182_65 (by decide) ?_
  refine gm_ev.istore (ls' := [some (.ref B), some (.ref (B + 17)), some (.int x2), some (.int x3), some (.int (0 : Int32)), some (.int x5)]) i182_66 (Nat.le_of_ble_eq_true rfl) rfl ?_
  refine gm_ev.iinc (v := x5 + (1 : Int32)) (ls' := [some (.ref B), some (.ref (B + 17)), some (.int x2), some (.int x3), some (.int (0 : Int32)), some (.int (x5 + (1 : Int32)))]) i182_68 rfl (by rfl) rfl ?_
  refine gm_ev.goto (tgt := 30) i182_71 (by decide) ?_
  exact k
theorem r_find_now_30_fff_at30 {N0 : Nat} {K : Nat → Nat} {d B : Nat} {s : mS} {G : gm_H} {sz sl : Nat} {R : gm_R} {x2 : Int32} {x3 : Int32} {x4 : Int32} {x5 : Int32} {k3 : Nat} {k4 : Nat} (hN : N0 ≤ B) (c1 : ¬ x2 ≤ x5) (c2 : ¬ x4 = 0) (ek3 : (((24 : Int32) * x3) + x5) = nI k3) (lk3 : k3 < 1440) (ek4 : x5 = nI k4) (lk4 : k4 < 24) (c5 : (lg_cmp (s.2.2 44 k3) (s.2.2 29 k4)) = 0) (k : gm_ev N0 K ra_nm (ra_mt K) d (some .int) (gm_I cX12_find) (gm_lkf (lkX12 false K)) 30 [some (.ref B), some (.ref (B + 17)), some (.int x2), some (.int x3), some (.int (1 : Int32)), some (.int (x5 + (1 : Int32)))] [] (bM B (mH B s) G) sz sl R) : gm_ev N0 K ra_nm (ra_mt K) d (some .int) (gm_I cX12_find) (gm_lkf (lkX12 false K)) 30 [some (.ref B), some (.ref (B + 17)), some (.int x2), some (.int x3), some (.int x4), some (.int x5)] [] (bM B (mH B s) G) sz sl R := by
  refine gm_ev.iload i182_30 rfl ?_
  refine gm_ev.iload_n i182_32 rfl ?_
  refine gm_ev.icmp_ge_f i182_33 c1 ?_
  refine gm_ev.iload i182_36 rfl ?_
  refine gm_ev.if_eq_f i182_38 c2 ?_
  refine gm_ev.aload_n i182_41 rfl ?_
  refine gm_ev.getfield (v := .ref (B + 24)) i182_42 rfl (bM_fld (j := 0) (fs := mF B s) rfl rfl) ?_
  refine gm_ev.bipush (v := 24) i182_45 (by decide) ?_
  refine gm_ev.iload_n i182_47 rfl ?_
  refine gm_ev.imul i182_48 ?_
  refine gm_ev.iload i182_49 rfl ?_
  refine gm_ev.iadd i182_51 ?_
  refine gm_ev.laload i182_52 (bM_al (j := 24) (n := 1440) (fl := s.2.2 44) rfl ek3 lk3 (by decide)) ?_
  refine gm_ev.aload_n i182_53 rfl ?_
  refine gm_ev.iload i182_54 rfl ?_
  refine gm_ev.laload i182_56 (bM_al (j := 17) (n := 24) (fl := s.2.2 29) rfl ek4 lk4 (by decide)) ?_
  refine gm_ev.lcmp i182_57 ?_
  refine gm_ev.if_ne_f i182_58 c5 ?_
  refine gm_ev.iconst (v := 1) i182_61 (by decide) ?_
  refine gm_ev.goto (tgt := 66) i182_62 (by decide) ?_
  refine gm_ev.istore (ls' := [some (.ref B), some (.ref (B + 17)), some (.int x2), some (.int x3), some (.int (1 : Int32)), some (.int x5)]) i182_66 (Nat.le_of_ble_eq_true rfl) rfl ?_
  refine gm_ev.iinc (v := x5 + (1 : Int32)) (ls' := [some (.ref B), some (.ref (B + 17)), some (.int x2), some (.int x3), some (.int (1 : Int32)), some (.int (x5 + (1 : Int32)))]) i182_68 rfl (by rfl) rfl ?_
  refine gm_ev.goto (tgt := 30) i182_71 (by decide) ?_
  exact k
theorem r_comes_first_0__at12 {N0 : Nat} {K : Nat → Nat} {d B : Nat} {s : mS} {G : gm_H} {sz sl : Nat} {R : gm_R} {p1 : Int32} {k1 : Nat} (hN : N0 ≤ B) (ek1 : (s.1 43) = nI k1) (lk1 : k1 < 60) (k : gm_ev N0 K ra_nm (ra_mt K) d none (gm_I cX12_comes) (gm_lkf (lkX12 false K)) 12 [some (.ref B), some (.ref (B + 18)), some (.int p1), some (.int (0 : Int32))] [] (bM B (mH B (mA s 45 (upd (s.2.1 45) k1 p1))) G) sz sl R) : gm_ev N0 K ra_nm (ra_mt K) d none (gm_I cX12_comes) (gm_lkf (lkX12 false K)) 0 [some (.ref B), some (.ref (B + 18)), some (.int p1), none] [] (bM B (mH B s) G) sz sl R := by
  refine gm_ev.aload_n i183_0 rfl ?_
  refine gm_ev.getfield (v := .ref (B + 25)) i183_1 rfl (bM_fld (j := 0) (fs := mF B s) rfl rfl) ?_
  refine gm_ev.aload_n i183_4 rfl ?_
  refine gm_ev.getfield (v := .int (s.1 43)) i183_5 rfl (bM_fld (j := 0) (fs := mF B s) rfl rfl) ?_
  refine gm_ev.iload_n i183_8 rfl ?_
  refine gm_ev.iastore (M' := (bM B (mH B (mA s 45 (upd (s.2.1 45) k1 p1))) G)) i183_9 (bM_asti (j := 25) (n := 60) (f := s.2.1 45) rfl ek1 lk1 (by decide) hN rfl) ?_
  refine gm_ev.iconst (v := 0) i183_10 (by decide) ?_
  refine gm_ev.istore_n (ls' := [some (.ref B), some (.ref (B + 18)), some (.int p1), some (.int (0 : Int32))]) i183_11 (Nat.le_of_ble_eq_true rfl) rfl ?_
  exact k
theorem r_comes_first_12_t {N0 : Nat} {K : Nat → Nat} {d B : Nat} {s : mS} {G : gm_H} {sz sl : Nat} {x2 : Int32} {x3 : Int32} (hN : N0 ≤ B) (c1 : x2 ≤ x3) : gm_ev N0 K ra_nm (ra_mt K) d none (gm_I cX12_comes) (gm_lkf (lkX12 false K)) 12 [some (.ref B), some (.ref (B + 18)), some (.int x2), some (.int x3)] [] (bM B (mH B s) G) sz sl (.returned none, (bM B (mH B (mI s 43 ((s.1 43) + (1 : Int32)))) G), sz, sl) := by
  refine gm_ev.iload_n i183_12 rfl ?_
  refine gm_ev.iload_n i183_13 rfl ?_
  refine gm_ev.icmp_ge_t (tgt := 40) i183_14 (by decide) c1 ?_
  refine gm_ev.aload_n i183_40 rfl ?_
  refine gm_ev.dup i183_41 rfl ?_
  refine gm_ev.getfield (v := .int (s.1 43)) i183_42 rfl (bM_fld (j := 0) (fs := mF B s) rfl rfl) ?_
  refine gm_ev.iconst (v := 1) i183_45 (by decide) ?_
  refine gm_ev.iadd i183_46 ?_
  refine gm_ev.putfield (M' := (bM B (mH B (mI s 43 ((s.1 43) + (1 : Int32)))) G)) i183_47 rfl (bM_put (j := 0) (fs := mF B s) rfl (Nat.le_of_ble_eq_true rfl) hN (gm_fit_i _) rfl) ?_
  exact gm_ev.vret i183_50 rfl
theorem r_comes_first_12_f_at12 {N0 : Nat} {K : Nat → Nat} {d B : Nat} {s : mS} {G : gm_H} {sz sl : Nat} {R : gm_R} {x2 : Int32} {x3 : Int32} {k2 : Nat} {k3 : Nat} (hN : N0 ≤ B) (c1 : ¬ x2 ≤ x3) (ek2 : x3 = nI k2) (lk2 : k2 < 24) (ek3 : (((24 : Int32) * (s.1 43)) + x3) = nI k3) (lk3 : k3 < 1440) (k : gm_ev N0 K ra_nm (ra_mt K) d none (gm_I cX12_comes) (gm_lkf (lkX12 false K)) 12 [some (.ref B), some (.ref (B + 18)), some (.int x2), some (.int (x3 + (1 : Int32)))] [] (bM B (mH B (mL s 44 (vp_updL (s.2.2 44) k3 (s.2.2 31 k2)))) G) sz sl R) : gm_ev N0 K ra_nm (ra_mt K) d none (gm_I cX12_comes) (gm_lkf (lkX12 false K)) 12 [some (.ref B), some (.ref (B + 18)), some (.int x2), some (.int x3)] [] (bM B (mH B s) G) sz sl R := by
  refine gm_ev.iload_n i183_12 rfl ?_
  refine gm_ev.iload_n i183_13 rfl ?_
  refine gm_ev.icmp_ge_f i183_14 c1 ?_
  refine gm_ev.aload_n i183_17 rfl ?_
  refine gm_ev.getfield (v := .ref (B + 24)) i183_18 rfl (bM_fld (j := 0) (fs := mF B s) rfl rfl) ?_
  refine gm_ev.bipush (v := 24) i183_21 (by decide) ?_
  refine gm_ev.aload_n i183_23 rfl ?_
  refine gm_ev.getfield (v := .int (s.1 43)) i183_24 rfl (bM_fld (j := 0) (fs := mF B s) rfl rfl) ?_
  refine gm_ev.imul i183_27 ?_
  refine gm_ev.iload_n i183_28 rfl ?_
  refine gm_ev.iadd i183_29 ?_
  refine gm_ev.aload_n i183_30 rfl ?_
  refine gm_ev.iload_n i183_31 rfl ?_
  refine gm_ev.laload i183_32 (bM_al (j := 18) (n := 24) (fl := s.2.2 31) rfl ek2 lk2 (by decide)) ?_
  refine gm_ev.lastore (M' := (bM B (mH B (mL s 44 (vp_updL (s.2.2 44) k3 (s.2.2 31 k2)))) G)) i183_33 (bM_astl (j := 24) (n := 1440) (fl := s.2.2 44) rfl ek3 lk3 (by decide) hN rfl) ?_
  refine gm_ev.iinc (v := x3 + (1 : Int32)) (ls' := [some (.ref B), some (.ref (B + 18)), some (.int x2), some (.int (x3 + (1 : Int32)))]) i183_34 rfl (by rfl) rfl ?_
  refine gm_ev.goto (tgt := 12) i183_37 (by decide) ?_
  exact k
theorem r_comes_next_0__at12 {N0 : Nat} {K : Nat → Nat} {d B : Nat} {s : mS} {G : gm_H} {sz sl : Nat} {R : gm_R} {p1 : Int32} {k1 : Nat} (hN : N0 ≤ B) (ek1 : (s.1 43) = nI k1) (lk1 : k1 < 60) (k : gm_ev N0 K ra_nm (ra_mt K) d none (gm_I cX12_comes) (gm_lkf (lkX12 false K)) 12 [some (.ref B), some (.ref (B + 19)), some (.int p1), some (.int (0 : Int32))] [] (bM B (mH B (mA s 45 (upd (s.2.1 45) k1 p1))) G) sz sl R) : gm_ev N0 K ra_nm (ra_mt K) d none (gm_I cX12_comes) (gm_lkf (lkX12 false K)) 0 [some (.ref B), some (.ref (B + 19)), some (.int p1), none] [] (bM B (mH B s) G) sz sl R := by
  refine gm_ev.aload_n i183_0 rfl ?_
  refine gm_ev.getfield (v := .ref (B + 25)) i183_1 rfl (bM_fld (j := 0) (fs := mF B s) rfl rfl) ?_
  refine gm_ev.aload_n i183_4 rfl ?_
  refine gm_ev.getfield (v := .int (s.1 43)) i183_5 rfl (bM_fld (j := 0) (fs := mF B s) rfl rfl) ?_
  refine gm_ev.iload_n i183_8 rfl ?_
  refine gm_ev.iastore (M' := (bM B (mH B (mA s 45 (upd (s.2.1 45) k1 p1))) G)) i183_9 (bM_asti (j := 25) (n := 60) (f := s.2.1 45) rfl ek1 lk1 (by decide) hN rfl) ?_
  refine gm_ev.iconst (v := 0) i183_10 (by decide) ?_
  refine gm_ev.istore_n (ls' := [some (.ref B), some (.ref (B + 19)), some (.int p1), some (.int (0 : Int32))]) i183_11 (Nat.le_of_ble_eq_true rfl) rfl ?_
  exact k
theorem r_comes_next_12_t {N0 : Nat} {K : Nat → Nat} {d B : Nat} {s : mS} {G : gm_H} {sz sl : Nat} {x2 : Int32} {x3 : Int32} (hN : N0 ≤ B) (c1 : x2 ≤ x3) : gm_ev N0 K ra_nm (ra_mt K) d none (gm_I cX12_comes) (gm_lkf (lkX12 false K)) 12 [some (.ref B), some (.ref (B + 19)), some (.int x2), some (.int x3)] [] (bM B (mH B s) G) sz sl (.returned none, (bM B (mH B (mI s 43 ((s.1 43) + (1 : Int32)))) G), sz, sl) := by
  refine gm_ev.iload_n i183_12 rfl ?_
  refine gm_ev.iload_n i183_13 rfl ?_
  refine gm_ev.icmp_ge_t (tgt := 40) i183_14 (by decide) c1 ?_
  refine gm_ev.aload_n i183_40 rfl ?_
  refine gm_ev.dup i183_41 rfl ?_
  refine gm_ev.getfield (v := .int (s.1 43)) i183_42 rfl (bM_fld (j := 0) (fs := mF B s) rfl rfl) ?_
  refine gm_ev.iconst (v := 1) i183_45 (by decide) ?_
  refine gm_ev.iadd i183_46 ?_
  refine gm_ev.putfield (M' := (bM B (mH B (mI s 43 ((s.1 43) + (1 : Int32)))) G)) i183_47 rfl (bM_put (j := 0) (fs := mF B s) rfl (Nat.le_of_ble_eq_true rfl) hN (gm_fit_i _) rfl) ?_
  exact gm_ev.vret i183_50 rfl
theorem r_comes_next_12_f_at12 {N0 : Nat} {K : Nat → Nat} {d B : Nat} {s : mS} {G : gm_H} {sz sl : Nat} {R : gm_R} {x2 : Int32} {x3 : Int32} {k2 : Nat} {k3 : Nat} (hN : N0 ≤ B) (c1 : ¬ x2 ≤ x3) (ek2 : x3 = nI k2) (lk2 : k2 < 24) (ek3 : (((24 : Int32) * (s.1 43)) + x3) = nI k3) (lk3 : k3 < 1440) (k : gm_ev N0 K ra_nm (ra_mt K) d none (gm_I cX12_comes) (gm_lkf (lkX12 false K)) 12 [some (.ref B), some (.ref (B + 19)), some (.int x2), some (.int (x3 + (1 : Int32)))] [] (bM B (mH B (mL s 44 (vp_updL (s.2.2 44) k3 (s.2.2 33 k2)))) G) sz sl R) : gm_ev N0 K ra_nm (ra_mt K) d none (gm_I cX12_comes) (gm_lkf (lkX12 false K)) 12 [some (.ref B), some (.ref (B + 19)), some (.int x2), some (.int x3)] [] (bM B (mH B s) G) sz sl R := by
  refine gm_ev.iload_n i183_12 rfl ?_
  refine gm_ev.iload_n i183_13 rfl ?_
  refine gm_ev.icmp_ge_f i183_14 c1 ?_
  refine gm_ev.aload_n i183_17 rfl ?_
  refine gm_ev.getfield (v := .ref (B + 24)) i183_18 rfl (bM_fld (j := 0) (fs := mF B s) rfl rfl) ?_
  refine gm_ev.bipush (v := 24) i183_21 (by decide) ?_
  refine gm_ev.aload_n i183_23 rfl ?_
  refine gm_ev.getfield (v := .int (s.1 43)) i183_24 rfl (bM_fld (j := 0) (fs := mF B s) rfl rfl) ?_
  refine gm_ev.imul i183_27 ?_
  refine gm_ev.iload_n i183_28 rfl ?_
  refine gm_ev.iadd i183_29 ?_
  refine gm_ev.aload_n i183_30 rfl ?_
  refine gm_ev.iload_n i183_31 rfl ?_
  refine gm_ev.laload i183_32 (bM_al (j := 19) (n := 24) (fl := s.2.2 33) rfl ek2 lk2 (by decide)) ?_
  refine gm_ev.lastore (M' := (bM B (mH B (mL s 44 (vp_updL (s.2.2 44) k3 (s.2.2 33 k2)))) G)) i183_33 (bM_astl (j := 24) (n := 1440) (fl := s.2.2 44) rfl ek3 lk3 (by decide) hN rfl) ?_
  refine gm_ev.iinc (v := x3 + (1 : Int32)) (ls' := [some (.ref B), some (.ref (B + 19)), some (.int x2), some (.int (x3 + (1 : Int32)))]) i183_34 rfl (by rfl) rfl ?_
  refine gm_ev.goto (tgt := 12) i183_37 (by decide) ?_
  exact k
theorem r_looksAt_0_tt_at113 {N0 : Nat} {K : Nat → Nat} {d B : Nat} {s : mS} {G : gm_H} {sz sl : Nat} {R : gm_R} {p0 : Int32} {k1 : Nat} {k2 : Nat} {k3 : Nat} {k4 : Nat} {s6 : mS} {r8 : Int32} {s12 : mS} (hN : N0 ≤ B) (ek1 : p0 = nI k1) (lk1 : k1 < 61) (ek2 : (p0 + (1 : Int32)) = nI k2) (lk2 : k2 < 61) (ek3 : p0 = nI k3) (lk3 : k3 < 60) (ek4 : p0 = nI k4) (lk4 : k4 < 60) (t5 : gm_to N0 K ra_nm (ra_mt K) d 160 [.ref B, .ref (B + 24), .int ((24 : Int32) * p0), .int (s.2.1 45 k4)] (bM B (mH B (mA (mA s 46 (upd (s.2.1 46) k2 (s.2.1 46 k1))) 48 (upd (s.2.1 48) k3 (0 : Int32)))) G) sz (.returned none, bM B (mH B s6) G, sz, 0)) (c7 : (s6.1 23) = 0) (t9 : gm_to N0 K ra_nm (ra_mt K) d 172 [.ref B] (bM B (mH B s6) G) sz (.returned (some (.int r8)), bM B (mH B s6) G, sz, 0)) (c10 : r8 = 0) (t11 : gm_to N0 K ra_nm (ra_mt K) d 171 [.ref B, .int (0 : Int32)] (bM B (mH B s6) G) sz (.returned none, bM B (mH B s12) G, sz, 0)) (k : gm_ev N0 K ra_nm (ra_mt K) d (some .int) (gm_I cX12_looksAt) (gm_lkf (lkX12 false K)) 113 [some (.ref B), some (.int p0), some (.int (s12.1 38)), some (.int (0 : Int32)), none, none] [] (bM B (mH B s12) G) sz sl R) : gm_ev N0 K ra_nm (ra_mt K) d (some .int) (gm_I cX12_looksAt) (gm_lkf (lkX12 false K)) 0 [some (.ref B), some (.int p0), none, none, none, none] [] (bM B (mH B s) G) sz sl R := by
  refine gm_ev.aload_n i184_0 rfl ?_
  refine gm_ev.getfield (v := .ref (B + 26)) i184_1 rfl (bM_fld (j := 0) (fs := mF B s) rfl rfl) ?_
  refine gm_ev.iload_n i184_4 rfl ?_
  refine gm_ev.iconst (v := 1) i184_5 (by decide) ?_
  refine gm_ev.iadd i184_6 ?_
  refine gm_ev.aload_n i184_7 rfl ?_
  refine gm_ev.getfield (v := .ref (B + 26)) i184_8 rfl (bM_fld (j := 0) (fs := mF B s) rfl rfl) ?_
  refine gm_ev.iload_n i184_11 rfl ?_
  refine gm_ev.iaload i184_12 (bM_ai (j := 26) (n := 61) (f := s.2.1 46) rfl ek1 lk1 (by decide)) ?_
  refine gm_ev.iastore (M' := (bM B (mH B (mA s 46 (upd (s.2.1 46) k2 (s.2.1 46 k1)))) G)) i184_13 (bM_asti (j := 26) (n := 61) (f := s.2.1 46) rfl ek2 lk2 (by decide) hN rfl) ?_
  refine gm_ev.aload_n i184_14 rfl ?_
  refine gm_ev.getfield (v := .ref (B + 28)) i184_15 rfl (bM_fld (j := 0) (fs := mF B (mA s 46 (upd (s.2.1 46) k2 (s.2.1 46 k1)))) rfl rfl) ?_
  refine gm_ev.iload_n i184_18 rfl ?_
  refine gm_ev.iconst (v := 0) i184_19 (by decide) ?_
  refine gm_ev.iastore (M' := (bM B (mH B (mA (mA s 46 (upd (s.2.1 46) k2 (s.2.1 46 k1))) 48 (upd (s.2.1 48) k3 (0 : Int32)))) G)) i184_20 (bM_asti (j := 28) (n := 60) (f := s.2.1 48) rfl ek3 lk3 (by decide) hN rfl) ?_
  refine gm_ev.aload_n i184_21 rfl ?_
  refine gm_ev.aload_n i184_22 rfl ?_
  refine gm_ev.getfield (v := .ref (B + 24)) i184_23 rfl (bM_fld (j := 0) (fs := mF B (mA (mA s 46 (upd (s.2.1 46) k2 (s.2.1 46 k1))) 48 (upd (s.2.1 48) k3 (0 : Int32)))) rfl rfl) ?_
  refine gm_ev.bipush (v := 24) i184_26 (by decide) ?_
  refine gm_ev.iload_n i184_28 rfl ?_
  refine gm_ev.imul i184_29 ?_
  refine gm_ev.aload_n i184_30 rfl ?_
  refine gm_ev.getfield (v := .ref (B + 25)) i184_31 rfl (bM_fld (j := 0) (fs := mF B (mA (mA s 46 (upd (s.2.1 46) k2 (s.2.1 46 k1))) 48 (upd (s.2.1 48) k3 (0 : Int32)))) rfl rfl) ?_
  refine gm_ev.iload_n i184_34 rfl ?_
  refine gm_ev.iaload i184_35 (bM_ai (j := 25) (n := 60) (f := s.2.1 45) rfl ek4 lk4 (by decide)) ?_
  refine gm_ev.callV gm_mono_run (av := [.ref (B + 24), .int ((24 : Int32) * p0), .int (s.2.1 45 k4)]) (r := []) (ci := 11) (fs := mF B (mA (mA s 46 (upd (s.2.1 46) k2 (s.2.1 46 k1))) 48 (upd (s.2.1 48) k3 (0 : Int32)))) (bM_get (j := 0) rfl) i184_36 rfl rfl rfl (Nat.le_of_ble_eq_true rfl) t5 ?_
  refine gm_ev.aload_n i184_39 rfl ?_
  refine gm_ev.getfield (v := .int (s6.1 23)) i184_40 rfl (bM_fld (j := 0) (fs := mF B s6) rfl rfl) ?_
  refine gm_ev.if_eq_t (tgt := 49) i184_43 (by decide) c7 ?_
  refine gm_ev.aload_n i184_49 rfl ?_
  refine gm_ev.callV gm_mono_run (av := []) (r := []) (ci := 11) (fs := mF B s6) (bM_get (j := 0) rfl) i184_50 rfl rfl rfl (Nat.le_of_ble_eq_true rfl) t9 ?_
  refine gm_ev.if_eq_t (tgt := 101) i184_53 (by decide) c10 ?_
  refine gm_ev.aload_n i184_101 rfl ?_
  refine gm_ev.iconst (v := 0) i184_102 (by decide) ?_
  refine gm_ev.callV gm_mono_run (av := [.int (0 : Int32)]) (r := []) (ci := 11) (fs := mF B s6) (bM_get (j := 0) rfl) i184_103 rfl rfl rfl (Nat.le_of_ble_eq_true rfl) t11 ?_
  refine gm_ev.aload_n i184_106 rfl ?_
  refine gm_ev.getfield (v := .int (s12.1 38)) i184_107 rfl (bM_fld (j := 0) (fs := mF B s12) rfl rfl) ?_
  refine gm_ev.istore_n (ls' := [some (.ref B), some (.int p0), some (.int (s12.1 38)), none, none, none]) i184_110 (Nat.le_of_ble_eq_true rfl) rfl ?_
  refine gm_ev.iconst (v := 0) i184_111 (by decide) ?_
  refine gm_ev.istore_n (ls' := [some (.ref B), some (.int p0), some (.int (s12.1 38)), some (.int (0 : Int32)), none, none]) i184_112 (Nat.le_of_ble_eq_true rfl) rfl ?_
  exact k
theorem r_looksAt_0_tft {N0 : Nat} {K : Nat → Nat} {d B : Nat} {s : mS} {G : gm_H} {sz sl : Nat} {p0 : Int32} {k1 : Nat} {k2 : Nat} {k3 : Nat} {k4 : Nat} {s6 : mS} {r8 : Int32} {r11 : Int32} {s13 : mS} {r14 : Int32} {s16 : mS} {k17 : Nat} (hN : N0 ≤ B) (ek1 : p0 = nI k1) (lk1 : k1 < 61) (ek2 : (p0 + (1 : Int32)) = nI k2) (lk2 : k2 < 61) (ek3 : p0 = nI k3) (lk3 : k3 < 60) (ek4 : p0 = nI k4) (lk4 : k4 < 60) (t5 : gm_to N0 K ra_nm (ra_mt K) d 160 [.ref B, .ref (B + 24), .int ((24 : Int32) * p0), .int (s.2.1 45 k4)] (bM B (mH B (mA (mA s 46 (upd (s.2.1 46) k2 (s.2.1 46 k1))) 48 (upd (s.2.1 48) k3 (0 : Int32)))) G) sz (.returned none, bM B (mH B s6) G, sz, 0)) (c7 : (s6.1 23) = 0) (t9 : gm_to N0 K ra_nm (ra_mt K) d 172 [.ref B] (bM B (mH B s6) G) sz (.returned (some (.int r8)), bM B (mH B s6) G, sz, 0)) (c10 : ¬ r8 = 0) (t12 : gm_to N0 K ra_nm (ra_mt K) d 173 [.ref B, .int (0 : Int32)] (bM B (mH B s6) G) sz (.returned (some (.int r11)), bM B (mH B s13) G, sz, 0)) (t15 : gm_to N0 K ra_nm (ra_mt K) d 173 [.ref B, .int (1 : Int32)] (bM B (mH B s13) G) sz (.returned (some (.int r14)), bM B (mH B s16) G, sz, 0)) (ek17 : p0 = nI k17) (lk17 : k17 < 60) (c18 : r11 < 0) : gm_ev N0 K ra_nm (ra_mt K) d (some .int) (gm_I cX12_looksAt) (gm_lkf (lkX12 false K)) 0 [some (.ref B), some (.int p0), none, none, none, none] [] (bM B (mH B s) G) sz sl (.returned (some (.int (4 : Int32))), (bM B (mH B (mA s16 49 (upd (s16.2.1 49) k17 r11))) G), sz, sl) := by
  refine gm_ev.aload_n i184_0 rfl ?_
  refine gm_ev.getfield (v := .ref (B + 26)) i184_1 rfl (bM_fld (j := 0) (fs := mF B s) rfl rfl) ?_
  refine gm_ev.iload_n i184_4 rfl ?_
  refine gm_ev.iconst (v := 1) i184_5 (by decide) ?_
  refine gm_ev.iadd i184_6 ?_
  refine gm_ev.aload_n i184_7 rfl ?_
  refine gm_ev.getfield (v := .ref (B + 26)) i184_8 rfl (bM_fld (j := 0) (fs := mF B s) rfl rfl) ?_
  refine gm_ev.iload_n i184_11 rfl ?_
  refine gm_ev.iaload i184_12 (bM_ai (j := 26) (n := 61) (f := s.2.1 46) rfl ek1 lk1 (by decide)) ?_
  refine gm_ev.iastore (M' := (bM B (mH B (mA s 46 (upd (s.2.1 46) k2 (s.2.1 46 k1)))) G)) i184_13 (bM_asti (j := 26) (n := 61) (f := s.2.1 46) rfl ek2 lk2 (by decide) hN rfl) ?_
  refine gm_ev.aload_n i184_14 rfl ?_
  refine gm_ev.getfield (v := .ref (B + 28)) i184_15 rfl (bM_fld (j := 0) (fs := mF B (mA s 46 (upd (s.2.1 46) k2 (s.2.1 46 k1)))) rfl rfl) ?_
  refine gm_ev.iload_n i184_18 rfl ?_
  refine gm_ev.iconst (v := 0) i184_19 (by decide) ?_
  refine gm_ev.iastore (M' := (bM B (mH B (mA (mA s 46 (upd (s.2.1 46) k2 (s.2.1 46 k1))) 48 (upd (s.2.1 48) k3 (0 : Int32)))) G)) i184_20 (bM_asti (j := 28) (n := 60) (f := s.2.1 48) rfl ek3 lk3 (by decide) hN rfl) ?_
  refine gm_ev.aload_n i184_21 rfl ?_
  refine gm_ev.aload_n i184_22 rfl ?_
  refine gm_ev.getfield (v := .ref (B + 24)) i184_23 rfl (bM_fld (j := 0) (fs := mF B (mA (mA s 46 (upd (s.2.1 46) k2 (s.2.1 46 k1))) 48 (upd (s.2.1 48) k3 (0 : Int32)))) rfl rfl) ?_
  refine gm_ev.bipush (v := 24) i184_26 (by decide) ?_
  refine gm_ev.iload_n i184_28 rfl ?_
  refine gm_ev.imul i184_29 ?_
  refine gm_ev.aload_n i184_30 rfl ?_
  refine gm_ev.getfield (v := .ref (B + 25)) i184_31 rfl (bM_fld (j := 0) (fs := mF B (mA (mA s 46 (upd (s.2.1 46) k2 (s.2.1 46 k1))) 48 (upd (s.2.1 48) k3 (0 : Int32)))) rfl rfl) ?_
  refine gm_ev.iload_n i184_34 rfl ?_
  refine gm_ev.iaload i184_35 (bM_ai (j := 25) (n := 60) (f := s.2.1 45) rfl ek4 lk4 (by decide)) ?_
  refine gm_ev.callV gm_mono_run (av := [.ref (B + 24), .int ((24 : Int32) * p0), .int (s.2.1 45 k4)]) (r := []) (ci := 11) (fs := mF B (mA (mA s 46 (upd (s.2.1 46) k2 (s.2.1 46 k1))) 48 (upd (s.2.1 48) k3 (0 : Int32)))) (bM_get (j := 0) rfl) i184_36 rfl rfl rfl (Nat.le_of_ble_eq_true rfl) t5 ?_
  refine gm_ev.aload_n i184_39 rfl ?_
  refine gm_ev.getfield (v := .int (s6.1 23)) i184_40 rfl (bM_fld (j := 0) (fs := mF B s6) rfl rfl) ?_
  refine gm_ev.if_eq_t (tgt := 49) i184_43 (by decide) c7 ?_
  refine gm_ev.aload_n i184_49 rfl ?_
  refine gm_ev.callV gm_mono_run (av := []) (r := []) (ci := 11) (fs := mF B s6) (bM_get (j := 0) rfl) i184_50 rfl rfl rfl (Nat.le_of_ble_eq_true rfl) t9 ?_
  refine gm_ev.if_eq_f i184_53 c10 ?_
  refine gm_ev.aload_n i184_56 rfl ?_
  refine gm_ev.iconst (v := 0) i184_57 (by decide) ?_
  refine gm_ev.callV gm_mono_run (av := [.int (0 : Int32)]) (r := []) (ci := 11) (fs := mF B s6) (bM_get (j := 0) rfl) i184_58 rfl rfl rfl (Nat.le_of_ble_eq_true rfl) t12 ?_
  refine gm_ev.istore_n (ls' := [some (.ref B), some (.int p0), some (.int r11), none, none, none]) i184_61 (Nat.le_of_ble_eq_true rfl) rfl ?_
  refine gm_ev.aload_n i184_62 rfl ?_
  refine gm_ev.iconst (v := 1) i184_63 (by decide) ?_
  refine gm_ev.callV gm_mono_run (av := [.int (1 : Int32)]) (r := []) (ci := 11) (fs := mF B s13) (bM_get (j := 0) rfl) i184_64 rfl rfl rfl (Nat.le_of_ble_eq_true rfl) t15 ?_
  refine gm_ev.istore_n (ls' := [some (.ref B), some (.int p0), some (.int r11), some (.int r14), none, none]) i184_67 (Nat.le_of_ble_eq_true rfl) rfl ?_
  refine gm_ev.aload_n i184_68 rfl ?_
  refine gm_ev.getfield (v := .ref (B + 29)) i184_69 rfl (bM_fld (j := 0) (fs := mF B s16) rfl rfl) ?_
  refine gm_ev.iload_n i184_72 rfl ?_
  refine gm_ev.iload_n i184_73 rfl ?_
  refine gm_ev.iastore (M' := (bM B (mH B (mA s16 49 (upd (s16.2.1 49) k17 r11))) G)) i184_74 (bM_asti (j := 29) (n := 60) (f := s16.2.1 49) rfl ek17 lk17 (by decide) hN rfl) ?_
  refine gm_ev.iload_n i184_75 rfl ?_
  refine gm_ev.if_lt_t (tgt := 83) i184_76 (by decide) c18 ?_
  refine gm_ev.iconst (v := 4) i184_83 (by decide) ?_
  refine gm_ev.goto (tgt := 100) i184_84 (by decide) ?_
  exact gm_ev.iret i184_100 rfl
