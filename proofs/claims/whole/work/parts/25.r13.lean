/-! paths through RuleArenaModel, by program -/
theorem r_letter_0_fffffftfttttfff {N0 : Nat} {K : Nat → Nat} {d B : Nat} {s : mS} {G : gm_H} {sz sl : Nat} {p0 : Int32} {p1 : Int32} {p2 : Int32} {r7 : Int32} {s11 : mS} {s14 : mS} {k20 : Nat} {r22 : Int32} (hN : N0 ≤ B) (c1 : ¬ p0 < 0) (c2 : ¬ (3 : Int32) < p0) (c3 : ¬ p1 < 0) (c4 : ¬ p2 < 0) (c5 : ¬ (s.1 5) = 0) (c6 : ¬ p0 ≤ (1 : Int32)) (t8 : gm_to N0 K ra_nm (ra_mt K) d 170 [.ref B, .int (p0 - (2 : Int32))] (bM B (mH B (mI s 0 (0 : Int32))) G) sz (.returned (some (.int r7)), bM B (mH B (mI s 0 (0 : Int32))) G, sz, 0)) (c9 : ¬ r7 = 0) (t10 : gm_to N0 K ra_nm (ra_mt K) d 161 [.ref B] (bM B (mH B (mI s 0 (0 : Int32))) G) sz (.returned none, bM B (mH B s11) G, sz, 0)) (c12 : ¬ p0 ≤ (1 : Int32)) (t13 : gm_to N0 K ra_nm (ra_mt K) d 171 [.ref B, .int (p0 - (2 : Int32))] (bM B (mH B s11) G) sz (.returned none, bM B (mH B s14) G, sz, 0)) (c15 : ¬ p0 = 0) (c16 : ¬ p0 = (1 : Int32)) (c17 : p1 < (s14.1 38)) (c18 : ¬ p0 = 0) (c19 : p0 = (1 : Int32)) (ek20 : p1 = nI k20) (lk20 : k20 < 24) (c21 : ¬ p2 ≤ (8 : Int32)) (t23 : gm_to N0 K ra_nm (ra_mt K) d 147 [.long (s14.2.2 29 k20), .int (8 : Int32)] (bM B (mH B s14) G) sz (.returned (some (.int r22)), bM B (mH B s14) G, sz, 0)) (c24 : r22 = 0) : gm_ev N0 K ra_nm (ra_mt K) d (some .int) (gm_I cX12_letter) (gm_lkf (lkX12 false K)) 0 [some (.ref B), some (.int p0), some (.int p1), some (.int p2), none, none] [] (bM B (mH B s) G) sz sl (.returned (some (.int (-1 : Int32))), (bM B (mH B s14) G), sz, sl) := by
  refine gm_ev.aload_n i179_0 rfl ?_
  refine gm_ev.iconst (v := 0) i179_1 (by decide) ?_
  refine gm_ev.putfield (M' := (bM B (mH B (mI s 0 (0 : Int32))) G)) i179_2 rfl (bM_put (j := 0) (fs := mF B s) rfl (Nat.le_of_ble_eq_true rfl) hN (gm_fit_i _) rfl) ?_
  refine gm_ev.iload_n i179_5 rfl ?_
  refine gm_ev.if_lt_f i179_6 c1 ?_
  refine gm_ev.iload_n i179_9 rfl ?_
  refine gm_ev.iconst (v := 3) i179_10 (by decide) ?_
  refine gm_ev.icmp_gt_f i179_11 c2 ?_
  refine gm_ev.iload_n i179_14 rfl ?_
  refine gm_ev.if_lt_f i179_15 c3 ?_
  refine gm_ev.iload_n i179_18 rfl ?_
  refine gm_ev.if_lt_f i179_19 c4 ?_
  refine gm_ev.aload_n i179_22 rfl ?_
  refine gm_ev.getfield (v := .int (s.1 5)) i179_23 rfl (bM_fld (j := 0) (fs := mF B (mI s 0 (0 : Int32))) rfl rfl) ?_
  refine gm_ev.if_eq_f i179_26 c5 ?_
  refine gm_ev.iload_n i179_29 rfl ?_
  refine gm_ev.iconst (v := 1) i179_30 (by decide) ?_
  refine gm_ev.icmp_le_f i179_31 c6 ?_
  refine gm_ev.aload_n i179_34 rfl ?_
  refine gm_ev.iload_n i179_35 rfl ?_
  refine gm_ev.iconst (v := 2) i179_36 (by decide) ?_
  refine gm_ev.isub i179_37 ?_
  refine gm_ev.callV gm_mono_run (av := [.int (p0 - (2 : Int32))]) (r := []) (ci := 11) (fs := mF B (mI s 0 (0 : Int32))) (bM_get (j := 0) rfl) i179_38 rfl rfl rfl (Nat.le_of_ble_eq_true rfl) t8 ?_
  refine gm_ev.if_ne_t (tgt := 46) i179_41 (by decide) c9 ?_
  refine gm_ev.aload_n i179_46 rfl ?_
  refine gm_ev.callV gm_mono_run (av := []) (r := []) (ci := 11) (fs := mF B (mI s 0 (0 : Int32))) (bM_get (j := 0) rfl) i179_47 rfl rfl rfl (Nat.le_of_ble_eq_true rfl) t10 ?_
  refine gm_ev.iload_n i179_50 rfl ?_
  refine gm_ev.iconst (v := 1) i179_51 (by decide) ?_
  refine gm_ev.icmp_le_f i179_52 c12 ?_
  refine gm_ev.aload_n i179_55 rfl ?_
  refine gm_ev.iload_n i179_56 rfl ?_
  refine gm_ev.iconst (v := 2) i179_57 (by decide) ?_
  refine gm_ev.isub i179_58 ?_
  refine gm_ev.callV gm_mono_run (av := [.int (p0 - (2 : Int32))]) (r := []) (ci := 11) (fs := mF B s11) (bM_get (j := 0) rfl) i179_59 rfl rfl rfl (Nat.le_of_ble_eq_true rfl) t13 ?_
  refine gm_ev.iload_n i179_62 rfl ?_
  refine gm_ev.if_ne_t (tgt := 73) i179_63 (by decide) c15 ?_
  refine gm_ev.iload_n i179_73 rfl ?_
  refine gm_ev.iconst (v := 1) i179_74 (by decide) ?_
  refine gm_ev.icmp_ne_t (tgt := 85) i179_75 (by decide) c16 ?_
  refine gm_ev.aload_n i179_85 rfl ?_
  refine gm_ev.getfield (v := .int (s14.1 38)) i179_86 rfl (bM_fld (j := 0) (fs := mF B s14) rfl rfl) ?_
  refine gm_ev.istore (ls' := [some (.ref B), some (.int p0), some (.int p1), some (.int p2), some (.int (s14.1 38)), none]) i179_89 (Nat.le_of_ble_eq_true rfl) rfl ?_
  refine gm_ev.iload_n i179_91 rfl ?_
  refine gm_ev.iload i179_92 rfl ?_
  refine gm_ev.icmp_lt_t (tgt := 99) i179_94 (by decide) c17 ?_
  refine gm_ev.iload_n i179_99 rfl ?_
  refine gm_ev.if_ne_t (tgt := 112) i179_100 (by decide) c18 ?_
  refine gm_ev.iload_n i179_112 rfl ?_
  refine gm_ev.iconst (v := 1) i179_113 (by decide) ?_
  refine gm_ev.icmp_ne_f i179_114 c19 ?_
  refine gm_ev.aload_n i179_117 rfl ?_
  refine gm_ev.getfield (v := .ref (B + 17)) i179_118 rfl (bM_fld (j := 0) (fs := mF B s14) rfl rfl) ?_
  refine gm_ev.iload_n i179_121 rfl ?_
  refine gm_ev.laload i179_122 (bM_al (j := 17) (n := 24) (fl := s14.2.2 29) rfl ek20 lk20 (by decide)) ?_
  refine gm_ev.goto (tgt := 132) i179_123 (by decide) ?_
  refine gm_ev.iload_n i179_132 rfl ?_
  refine gm_ev.bipush (v := 8) i179_133 (by decide) ?_
  refine gm_ev.icmp_le_f i179_135 c21 ?_
  refine gm_ev.bipush (v := 8) i179_138 (by decide) ?_
  refine gm_ev.goto (tgt := 144) i179_140 (by decide) ?_
  refine gm_ev.callS gm_mono_run (av := [.long (s14.2.2 29 k20), .int (8 : Int32)]) (r := []) i179_144 rfl rfl rfl (Nat.le_of_ble_eq_true rfl) t23 ?_
  refine gm_ev.istore (ls' := [some (.ref B), some (.int p0), some (.int p1), some (.int p2), some (.int (s14.1 38)), some (.int r22)]) i179_147 (Nat.le_of_ble_eq_true rfl) rfl ?_
  refine gm_ev.iload i179_149 rfl ?_
  refine gm_ev.if_ne_f i179_151 c24 ?_
  refine gm_ev.iconst (v := -1) i179_154 (by decide) ?_
  refine gm_ev.goto (tgt := 160) i179_155 (by decide) ?_
  exact gm_ev.iret i179_160 rfl
theorem r_letter_0_fffffftftttftt {N0 : Nat} {K : Nat → Nat} {d B : Nat} {s : mS} {G : gm_H} {sz sl : Nat} {p0 : Int32} {p1 : Int32} {p2 : Int32} {r7 : Int32} {s11 : mS} {s14 : mS} {k19 : Nat} {r21 : Int32} (hN : N0 ≤ B) (c1 : ¬ p0 < 0) (c2 : ¬ (3 : Int32) < p0) (c3 : ¬ p1 < 0) (c4 : ¬ p2 < 0) (c5 : ¬ (s.1 5) = 0) (c6 : ¬ p0 ≤ (1 : Int32)) (t8 : gm_to N0 K ra_nm (ra_mt K) d 170 [.ref B, .int (p0 - (2 : Int32))] (bM B (mH B (mI s 0 (0 : Int32))) G) sz (.returned (some (.int r7)), bM B (mH B (mI s 0 (0 : Int32))) G, sz, 0)) (c9 : ¬ r7 = 0) (t10 : gm_to N0 K ra_nm (ra_mt K) d 161 [.ref B] (bM B (mH B (mI s 0 (0 : Int32))) G) sz (.returned none, bM B (mH B s11) G, sz, 0)) (c12 : ¬ p0 ≤ (1 : Int32)) (t13 : gm_to N0 K ra_nm (ra_mt K) d 171 [.ref B, .int (p0 - (2 : Int32))] (bM B (mH B s11) G) sz (.returned none, bM B (mH B s14) G, sz, 0)) (c15 : ¬ p0 = 0) (c16 : ¬ p0 = (1 : Int32)) (c17 : p1 < (s14.1 38)) (c18 : p0 = 0) (ek19 : p1 = nI k19) (lk19 : k19 < 24) (c20 : p2 ≤ (8 : Int32)) (t22 : gm_to N0 K ra_nm (ra_mt K) d 147 [.long (s14.2.2 35 k19), .int p2] (bM B (mH B s14) G) sz (.returned (some (.int r21)), bM B (mH B s14) G, sz, 0)) (c23 : ¬ r21 = 0) : gm_ev N0 K ra_nm (ra_mt K) d (some .int) (gm_I cX12_letter) (gm_lkf (lkX12 false K)) 0 [some (.ref B), some (.int p0), some (.int p1), some (.int p2), none, none] [] (bM B (mH B s) G) sz sl (.returned (some (.int r21)), (bM B (mH B s14) G), sz, sl) := by
  refine gm_ev.aload_n i179_0 rfl ?_
  refine gm_ev.iconst (v := 0) i179_1 (by decide) ?_
  refine gm_ev.putfield (M' := (bM B (mH B (mI s 0 (0 : Int32))) G)) i179_2 rfl (bM_put (j := 0) (fs := mF B s) rfl (Nat.le_of_ble_eq_true rfl) hN (gm_fit_i _) rfl) ?_
  refine gm_ev.iload_n i179_5 rfl ?_
  refine gm_ev.if_lt_f i179_6 c1 ?_
  refine gm_ev.iload_n i179_9 rfl ?_
  refine gm_ev.iconst (v := 3) i179_10 (by decide) ?_
  refine gm_ev.icmp_gt_f i179_11 c2 ?_
  refine gm_ev.iload_n i179_14 rfl ?_
  refine gm_ev.if_lt_f i179_15 c3 ?_
  refine gm_ev.iload_n i179_18 rfl ?_
  refine gm_ev.if_lt_f i179_19 c4 ?_
  refine gm_ev.aload_n i179_22 rfl ?_
  refine gm_ev.getfield (v := .int (s.1 5)) i179_23 rfl (bM_fld (j := 0) (fs := mF B (mI s 0 (0 : Int32))) rfl rfl) ?_
  refine gm_ev.if_eq_f i179_26 c5 ?_
  refine gm_ev.iload_n i179_29 rfl ?_
  refine gm_ev.iconst (v := 1) i179_30 (by decide) ?_
  refine gm_ev.icmp_le_f i179_31 c6 ?_
  refine gm_ev.aload_n i179_34 rfl ?_
  refine gm_ev.iload_n i179_35 rfl ?_
  refine gm_ev.iconst (v := 2) i179_36 (by decide) ?_
  refine gm_ev.isub i179_37 ?_
  refine gm_ev.callV gm_mono_run (av := [.int (p0 - (2 : Int32))]) (r := []) (ci := 11) (fs := mF B (mI s 0 (0 : Int32))) (bM_get (j := 0) rfl) i179_38 rfl rfl rfl (Nat.le_of_ble_eq_true rfl) t8 ?_
  refine gm_ev.if_ne_t (tgt := 46) i179_41 (by decide) c9 ?_
  refine gm_ev.aload_n i179_46 rfl ?_
  refine gm_ev.callV gm_mono_run (av := []) (r := []) (ci := 11) (fs := mF B (mI s 0 (0 : Int32))) (bM_get (j := 0) rfl) i179_47 rfl rfl rfl (Nat.le_of_ble_eq_true rfl) t10 ?_
  refine gm_ev.iload_n i179_50 rfl ?_
  refine gm_ev.iconst (v := 1) i179_51 (by decide) ?_
  refine gm_ev.icmp_le_f i179_52 c12 ?_
  refine gm_ev.aload_n i179_55 rfl ?_
  refine gm_ev.iload_n i179_56 rfl ?_
  refine gm_ev.iconst (v := 2) i179_57 (by decide) ?_
  refine gm_ev.isub i179_58 ?_
  refine gm_ev.callV gm_mono_run (av := [.int (p0 - (2 : Int32))]) (r := []) (ci := 11) (fs := mF B s11) (bM_get (j := 0) rfl) i179_59 rfl rfl rfl (Nat.le_of_ble_eq_true rfl) t13 ?_
  refine gm_ev.iload_n i179_62 rfl ?_
  refine gm_ev.if_ne_t (tgt := 73) i179_63 (by decide) c15 ?_
  refine gm_ev.iload_n i179_73 rfl ?_
  refine gm_ev.iconst (v := 1) i179_74 (by decide) ?_
  refine gm_ev.icmp_ne_t (tgt := 85) i179_75 (by decide) c16 ?_
  refine gm_ev.aload_n i179_85 rfl ?_
  refine gm_ev.getfield (v := .int (s14.1 38)) i179_86 rfl (bM_fld (j := 0) (fs := mF B s14) rfl rfl) ?_
  refine gm_ev.istore (ls' := [some (.ref B), some (.int p0), some (.int p1), some (.int p2), some (.int (s14.1 38)), none]) i179_89 (Nat.le_of_ble_eq_true rfl) rfl ?_
  refine gm_ev.iload_n i179_91 rfl ?_
  refine gm_ev.iload i179_92 rfl ?_
  refine gm_ev.icmp_lt_t (tgt := 99) i179_94 (by decide) c17 ?_
  refine gm_ev.iload_n i179_99 rfl ?_
  refine gm_ev.if_ne_f i179_100 c18 ?_
  refine gm_ev.aload_n i179_103 rfl ?_
  refine gm_ev.getfield (v := .ref (B + 20)) i179_104 rfl (bM_fld (j := 0) (fs := mF B s14) rfl rfl) ?_
  refine gm_ev.iload_n i179_107 rfl ?_
  refine gm_ev.laload i179_108 (bM_al (j := 20) (n := 24) (fl := s14.2.2 35) rfl ek19 lk19 (by decide)) ?_
  refine gm_ev.goto (tgt := 132) i179_109 (by decide) ?_
  refine gm_ev.iload_n i179_132 rfl ?_
  refine gm_ev.bipush (v := 8) i179_133 (by decide) ?_
  refine gm_ev.icmp_le_t (tgt := 143) i179_135 (by decide) c20 ?_
  refine gm_ev.iload_n i179_143 rfl ?_
  refine gm_ev.callS gm_mono_run (av := [.long (s14.2.2 35 k19), .int p2]) (r := []) i179_144 rfl rfl rfl (Nat.le_of_ble_eq_true rfl) t22 ?_
  refine gm_ev.istore (ls' := [some (.ref B), some (.int p0), some (.int p1), some (.int p2), some (.int (s14.1 38)), some (.int r21)]) i179_147 (Nat.le_of_ble_eq_true rfl) rfl ?_
  refine gm_ev.iload i179_149 rfl ?_
  refine gm_ev.if_ne_t (tgt := 158) i179_151 (by decide) c23 ?_
  refine gm_ev.iload i179_158 rfl ?_
  exact gm_ev.iret i179_160 rfl
theorem r_letter_0_fffffftftttftf {N0 : Nat} {K : Nat → Nat} {d B : Nat} {s : mS} {G : gm_H} {sz sl : Nat} {p0 : Int32} {p1 : Int32} {p2 : Int32} {r7 : Int32} {s11 : mS} {s14 : mS} {k19 : Nat} {r21 : Int32} (hN : N0 ≤ B) (c1 : ¬ p0 < 0) (c2 : ¬ (3 : Int32) < p0) (c3 : ¬ p1 < 0) (c4 : ¬ p2 < 0) (c5 : ¬ (s.1 5) = 0) (c6 : ¬ p0 ≤ (1 : Int32)) (t8 : gm_to N0 K ra_nm (ra_mt K) d 170 [.ref B, .int (p0 - (2 : Int32))] (bM B (mH B (mI s 0 (0 : Int32))) G) sz (.returned (some (.int r7)), bM B (mH B (mI s 0 (0 : Int32))) G, sz, 0)) (c9 : ¬ r7 = 0) (t10 : gm_to N0 K ra_nm (ra_mt K) d 161 [.ref B] (bM B (mH B (mI s 0 (0 : Int32))) G) sz (.returned none, bM B (mH B s11) G, sz, 0)) (c12 : ¬ p0 ≤ (1 : Int32)) (t13 : gm_to N0 K ra_nm (ra_mt K) d 171 [.ref B, .int (p0 - (2 : Int32))] (bM B (mH B s11) G) sz (.returned none, bM B (mH B s14) G, sz, 0)) (c15 : ¬ p0 = 0) (c16 : ¬ p0 = (1 : Int32)) (c17 : p1 < (s14.1 38)) (c18 : p0 = 0) (ek19 : p1 = nI k19) (lk19 : k19 < 24) (c20 : p2 ≤ (8 : Int32)) (t22 : gm_to N0 K ra_nm (ra_mt K) d 147 [.long (s14.2.2 35 k19), .int p2] (bM B (mH B s14) G) sz (.returned (some (.int r21)), bM B (mH B s14) G, sz, 0)) (c23 : r21 = 0) : gm_ev N0 K ra_nm (ra_mt K) d (some .int) (gm_I cX12_letter) (gm_lkf (lkX12 false K)) 0 [some (.ref B), some (.int p0), some (.int p1), some (.int p2), none, none] [] (bM B (mH B s) G) sz sl (.returned (some (.int (-1 : Int32))), (bM B (mH B s14) G), sz, sl) := by
  refine gm_ev.aload_n i179_0 rfl ?_
  refine gm_ev.iconst (v := 0) i179_1 (by decide) ?_
  refine gm_ev.putfield (M' := (bM B (mH B (mI s 0 (0 : Int32))) G)) i179_2 rfl (bM_put (j := 0) (fs := mF B s) rfl (Nat.le_of_ble_eq_true rfl) hN (gm_fit_i _) rfl) ?_
  refine gm_ev.iload_n i179_5 rfl ?_
  refine gm_ev.if_lt_f i179_6 c1 ?_
  refine gm_ev.iload_n i179_9 rfl ?_
  refine gm_ev.iconst (v := 3) i179_10 (by decide) ?_
  refine gm_ev.icmp_gt_f i179_11 c2 ?_
  refine gm_ev.iload_n i179_14 rfl ?_
  refine gm_ev.if_lt_f i179_15 c3 ?_
  refine gm_ev.iload_n i179_18 rfl ?_
  refine gm_ev.if_lt_f i179_19 c4 ?_
  refine gm_ev.aload_n i179_22 rfl ?_
  refine gm_ev.getfield (v := .int (s.1 5)) i179_23 rfl (bM_fld (j := 0) (fs := mF B (mI s 0 (0 : Int32))) rfl rfl) ?_
  refine gm_ev.if_eq_f i179_26 c5 ?_
  refine gm_ev.iload_n i179_29 rfl ?_
  refine gm_ev.iconst (v := 1) i179_30 (by decide) ?_
  refine gm_ev.icmp_le_f i179_31 c6 ?_
  refine gm_ev.aload_n i179_34 rfl ?_
  refine gm_ev.iload_n i179_35 rfl ?_
  refine gm_ev.iconst (v := 2) i179_36 (by decide) ?_
  refine gm_ev.isub i179_37 ?_
  refine gm_ev.callV gm_mono_run (av := [.int (p0 - (2 : Int32))]) (r := []) (ci := 11) (fs := mF B (mI s 0 (0 : Int32))) (bM_get (j := 0) rfl) i179_38 rfl rfl rfl (Nat.le_of_ble_eq_true rfl) t8 ?_
  refine gm_ev.if_ne_t (tgt := 46) i179_41 (by decide) c9 ?_
  refine gm_ev.aload_n i179_46 rfl ?_
  refine gm_ev.callV gm_mono_run (av := []) (r := []) (ci := 11) (fs := mF B (mI s 0 (0 : Int32))) (bM_get (j := 0) rfl) i179_47 rfl rfl rfl (Nat.le_of_ble_eq_true rfl) t10 ?_
  refine gm_ev.iload_n i179_50 rfl ?_
  refine gm_ev.iconst (v := 1) i179_51 (by decide) ?_
  refine gm_ev.icmp_le_f i179_52 c12 ?_
  refine gm_ev.aload_n i179_55 rfl ?_
  refine gm_ev.iload_n i179_56 rfl ?_
  refine gm_ev.iconst (v := 2) i179_57 (by decide) ?_
  refine gm_ev.isub i179_58 ?_
  refine gm_ev.callV gm_mono_run (av := [.int (p0 - (2 : Int32))]) (r := []) (ci := 11) (fs := mF B s11) (bM_get (j := 0) rfl) i179_59 rfl rfl rfl (Nat.le_of_ble_eq_true rfl) t13 ?_
  refine gm_ev.iload_n i179_62 rfl ?_
  refine gm_ev.if_ne_t (tgt := 73) i179_63 (by decide) c15 ?_
  refine gm_ev.iload_n i179_73 rfl ?_
  refine gm_ev.iconst (v := 1) i179_74 (by decide) ?_
  refine gm_ev.icmp_ne_t (tgt := 85) i179_75 (by decide) c16 ?_
  refine gm_ev.aload_n i179_85 rfl ?_
  refine gm_ev.getfield (v := .int (s14.1 38)) i179_86 rfl (bM_fld (j := 0) (fs := mF B s14) rfl rfl) ?_
  refine gm_ev.istore (ls' := [some (.ref B), some (.int p0), some (.int p1), some (.int p2), some (.int (s14.1 38)), none]) i179_89 (Nat.le_of_ble_eq_true rfl) rfl ?_
  refine gm_ev.iload_n i179_91 rfl ?_
  refine gm_ev.iload i179_92 rfl ?_
  refine gm_ev.icmp_lt_t (tgt := 99) i179_94 (by decide) c17 ?_
  refine gm_ev.iload_n i179_99 rfl ?_
  refine gm_ev.if_ne_f i179_100 c18 ?_
  refine gm_ev.aload_n i179_103 rfl ?_
  refine gm_ev.getfield (v := .ref (B + 20)) i179_104 rfl (bM_fld (j := 0) (fs := mF B s14) rfl rfl) ?_
  refine gm_ev.iload_n i179_107 rfl ?_
  refine gm_ev.laload i179_108 (bM_al (j := 20) (n := 24) (fl := s14.2.2 35) rfl ek19 lk19 (by decide)) ?_
  refine gm_ev.goto (tgt := 132) i179_109 (by decide) ?_
  refine gm_ev.iload_n i179_132 rfl ?_
  refine gm_ev.bipush (v := 8) i179_133 (by decide) ?_
  refine gm_ev.icmp_le_t (tgt := 143) i179_135 (by decide) c20 ?_
  refine gm_ev.iload_n i179_143 rfl ?_
  refine gm_ev.callS gm_mono_run (av := [.long (s14.2.2 35 k19), .int p2]) (r := []) i179_144 rfl rfl rfl (Nat.le_of_ble_eq_true rfl) t22 ?_
  refine gm_ev.istore (ls' := [some (.ref B), some (.int p0), some (.int p1), some (.int p2), some (.int (s14.1 38)), some (.int r21)]) i179_147 (Nat.le_of_ble_eq_true rfl) rfl ?_
  refine gm_ev.iload i179_149 rfl ?_
  refine gm_ev.if_ne_f i179_151 c23 ?_
  refine gm_ev.iconst (v := -1) i179_154 (by decide) ?_
  refine gm_ev.goto (tgt := 160) i179_155 (by decide) ?_
  exact gm_ev.iret i179_160 rfl
theorem r_letter_0_fffffftftttfft {N0 : Nat} {K : Nat → Nat} {d B : Nat} {s : mS} {G : gm_H} {sz sl : Nat} {p0 : Int32} {p1 : Int32} {p2 : Int32} {r7 : Int32} {s11 : mS} {s14 : mS} {k19 : Nat} {r21 : Int32} (hN : N0 ≤ B) (c1 : ¬ p0 < 0) (c2 : ¬ (3 : Int32) < p0) (c3 : ¬ p1 < 0) (c4 : ¬ p2 < 0) (c5 : ¬ (s.1 5) = 0) (c6 : ¬ p0 ≤ (1 : Int32)) (t8 : gm_to N0 K ra_nm (ra_mt K) d 170 [.ref B, .int (p0 - (2 : Int32))] (bM B (mH B (mI s 0 (0 : Int32))) G) sz (.returned (some (.int r7)), bM B (mH B (mI s 0 (0 : Int32))) G, sz, 0)) (c9 : ¬ r7 = 0) (t10 : gm_to N0 K ra_nm (ra_mt K) d 161 [.ref B] (bM B (mH B (mI s 0 (0 : Int32))) G) sz (.returned none, bM B (mH B s11) G, sz, 0)) (c12 : ¬ p0 ≤ (1 : Int32)) (t13 : gm_to N0 K ra_nm (ra_mt K) d 171 [.ref B, .int (p0 - (2 : Int32))] (bM B (mH B s11) G) sz (.returned none, bM B (mH B s14) G, sz, 0)) (c15 : ¬ p0 = 0) (c16 : ¬ p0 = (1 : Int32)) (c17 : p1 < (s14.1 38)) (c18 : p0 = 0) (ek19 : p1 = nI k19) (lk19 : k19 < 24) (c20 : ¬ p2 ≤ (8 : Int32)) (t22 : gm_to N0 K ra_nm (ra_mt K) d 147 [.long (s14.2.2 35 k19), .int (8 : Int32)] (bM B (mH B s14) G) sz (.returned (some (.int r21)), bM B (mH B s14) G, sz, 0)) (c23 : ¬ r21 = 0) : gm_ev N0 K ra_nm (ra_mt K) d (some .int) (gm_I cX12_letter) (gm_lkf (lkX12 false K)) 0 [some (.ref B), some (.int p0), some (.int p1), some (.int p2), none, none] [] (bM B (mH B s) G) sz sl (.returned (some (.int r21)), (bM B (mH B s14) G), sz, sl) := by
  refine gm_ev.aload_n i179_0 rfl ?_
  refine gm_ev.iconst (v := 0) i179_1 (by decide) ?_
  refine gm_ev.putfield (M' := (bM B (mH B (mI s 0 (0 : Int32))) G)) i179_2 rfl (bM_put (j := 0) (fs := mF B s) rfl (Nat.le_of_ble_eq_true rfl) hN (gm_fit_i _) rfl) ?_
  refine gm_ev.iload_n i179_5 rfl ?_
  refine gm_ev.if_lt_f i179_6 c1 ?_
  refine gm_ev.iload_n i179_9 rfl ?_
  refine gm_ev.iconst (v := 3) i179_10 (by decide) ?_
  refine gm_ev.icmp_gt_f i179_11 c2 ?_
  refine gm_ev.iload_n i179_14 rfl ?_
  refine gm_ev.if_lt_f i179_15 c3 ?_
  refine gm_ev.iload_n i179_18 rfl ?_
  refine gm_ev.if_lt_f i179_19 c4 ?_
  refine gm_ev.aload_n i179_22 rfl ?_
  refine gm_ev.getfield (v := .int (s.1 5)) i179_23 rfl (bM_fld (j := 0) (fs := mF B (mI s 0 (0 : Int32))) rfl rfl) ?_
  refine gm_ev.if_eq_f i179_26 c5 ?_
  refine gm_ev.iload_n i179_29 rfl ?_
  refine gm_ev.iconst (v := 1) i179_30 (by decide) ?_
  refine gm_ev.icmp_le_f i179_31 c6 ?_
  refine gm_ev.aload_n i179_34 rfl ?_
  refine gm_ev.iload_n i179_35 rfl ?_
  refine gm_ev.iconst (v := 2) i179_36 (by decide) ?_
  refine gm_ev.isub i179_37 ?_
  refine gm_ev.callV gm_mono_run (av := [.int (p0 - (2 : Int32))]) (r := []) (ci := 11) (fs := mF B (mI s 0 (0 : Int32))) (bM_get (j := 0) rfl) i179_38 rfl rfl rfl (Nat.le_of_ble_eq_true rfl) t8 ?_
  refine gm_ev.if_ne_t (tgt := 46) i179_41 (by decide) c9 ?_
  refine gm_ev.aload_n i179_46 rfl ?_
  refine gm_ev.callV gm_mono_run (av := []) (r := []) (ci := 11) (fs := mF B (mI s 0 (0 : Int32))) (bM_get (j := 0) rfl) i179_47 rfl rfl rfl (Nat.le_of_ble_eq_true rfl) t10 ?_
  refine gm_ev.iload_n i179_50 rfl ?_
  refine gm_ev.iconst (v := 1) i179_51 (by decide) ?_
  refine gm_ev.icmp_le_f i179_52 c12 ?_
  refine gm_ev.aload_n i179_55 rfl ?_
  refine gm_ev.iload_n i179_56 rfl ?_
  refine gm_ev.iconst (v := 2) i179_57 (by decide) ?_
  refine gm_ev.isub i179_58 ?_
  refine gm_ev.callV gm_mono_run (av := [.int (p0 - (2 : Int32))]) (r := []) (ci := 11) (fs := mF B s11) (bM_get (j := 0) rfl) i179_59 rfl rfl rfl (Nat.le_of_ble_eq_true rfl) t13 ?_
  refine gm_ev.iload_n i179_62 rfl ?_
  refine gm_ev.if_ne_t (tgt := 73) i179_63 (by decide) c15 ?_
  refine gm_ev.iload_n i179_73 rfl ?_
  refine gm_ev.iconst (v := 1) i179_74 (by decide) ?_
  refine gm_ev.icmp_ne_t (tgt := 85) i179_75 (by decide) c16 ?_
  refine gm_ev.aload_n i179_85 rfl ?_
  refine gm_ev.getfield (v := .int (s14.1 38)) i179_86 rfl (bM_fld (j := 0) (fs := mF B s14) rfl rfl) ?_
  refine gm_ev.istore (ls' := [some (.ref B), some (.int p0), some (.int p1), some (.int p2), some (.int (s14.1 38)), none]) i179_89 (Nat.le_of_ble_eq_true rfl) rfl ?_
  refine gm_ev.iload_n i179_91 rfl ?_
  refine gm_ev.iload i179_92 rfl ?_
  refine gm_ev.icmp_lt_t (tgt := 99) i179_94 (by decide) c17 ?_
  refine gm_ev.iload_n i179_99 rfl ?_
  refine gm_ev.if_ne_f i179_100 c18 ?_
  refine gm_ev.aload_n i179_103 rfl ?_
  refine gm_ev.getfield (v := .ref (B + 20)) i179_104 rfl (bM_fld (j := 0) (fs := mF B s14) rfl rfl) ?_
  refine gm_ev.iload_n i179_107 rfl ?_
  refine gm_ev.laload i179_108 (bM_al (j := 20) (n := 24) (fl := s14.2.2 35) rfl ek19 lk19 (by decide)) ?_
  refine gm_ev.goto (tgt := 132) i179_109 (by decide) ?_
  refine gm_ev.iload_n i179_132 rfl ?_
  refine gm_ev.bipush (v := 8) i179_133 (by decide) ?_
  refine gm_ev.icmp_le_f i179_135 c20 ?_
  refine gm_ev.bipush (v := 8) i179_138 (by decide) ?_
  refine gm_ev.goto (tgt := 144) i179_140 (by decide) ?_
  refine gm_ev.callS gm_mono_run (av := [.long (s14.2.2 35 k19), .int (8 : Int32)]) (r := []) i179_144 rfl rfl rfl (Nat.le_of_ble_eq_true rfl) t22 ?_
  refine gm_ev.istore (ls' := [some (.ref B), some (.int p0), some (.int p1), some (.int p2), some (.int (s14.1 38)), some (.int r21)]) i179_147 (Nat.le_of_ble_eq_true rfl) rfl ?_
  refine gm_ev.iload i179_149 rfl ?_
  refine gm_ev.if_ne_t (tgt := 158) i179_151 (by decide) c23 ?_
  refine gm_ev.iload i179_158 rfl ?_
  exact gm_ev.iret i179_160 rfl
theorem r_letter_0_fffffftftttfff {N0 : Nat} {K : Nat → Nat} {d B : Nat} {s : mS} {G : gm_H} {sz sl : Nat} {p0 : Int32} {p1 : Int32} {p2 : Int32} {r7 : Int32} {s11 : mS} {s14 : mS} {k19 : Nat} {r21 : Int32} (hN : N0 ≤ B) (c1 : ¬ p0 < 0) (c2 : ¬ (3 : Int32) < p0) (c3 : ¬ p1 < 0) (c4 : ¬ p2 < 0) (c5 : ¬ (s.1 5) = 0) (c6 : ¬ p0 ≤ (1 : Int32)) (t8 : gm_to N0 K ra_nm (ra_mt K) d 170 [.ref B, .int (p0 - (2 : Int32))] (bM B (mH B (mI s 0 (0 : Int32))) G) sz (.returned (some (.int r7)), bM B (mH B (mI s 0 (0 : Int32))) G, sz, 0)) (c9 : ¬ r7 = 0) (t10 : gm_to N0 K ra_nm (ra_mt K) d 161 [.ref B] (bM B (mH B (mI s 0 (0 : Int32))) G) sz (.returned none, bM B (mH B s11) G, sz, 0)) (c12 : ¬ p0 ≤ (1 : Int32)) (t13 : gm_to N0 K ra_nm (ra_mt K) d 171 [.ref B, .int (p0 - (2 : Int32))] (bM B (mH B s11) G) sz (.returned none, bM B (mH B s14) G, sz, 0)) (c15 : ¬ p0 = 0) (c16 : ¬ p0 = (1 : Int32)) (c17 : p1 < (s14.1 38)) (c18 : p0 = 0) (ek19 : p1 = nI k19) (lk19 : k19 < 24) (c20 : ¬ p2 ≤ (8 : Int32)) (t22 : gm_to N0 K ra_nm (ra_mt K) d 147 [.long (s14.2.2 35 k19), .int (8 : Int32)] (bM B (mH B s14) G) sz (.returned (some (.int r21)), bM B (mH B s14) G, sz, 0)) (c23 : r21 = 0) : gm_ev N0 K ra_nm (ra_mt K) d (some .int) (gm_I cX12_letter) (gm_lkf (lkX12 false K)) 0 [some (.ref B), some (.int p0), some (.int p1), some (.int p2), none, none] [] (bM B (mH B s) G) sz sl (.returned (some (.int (-1 : Int32))), (bM B (mH B s14) G), sz, sl) := by
  refine gm_ev.aload_n i179_0 rfl ?_
  refine gm_ev.iconst (v := 0) i179_1 (by decide) ?_
  refine gm_ev.putfield (M' := (bM B (mH B (mI s 0 (0 : Int32))) G)) i179_2 rfl (bM_put (j := 0) (fs := mF B s) rfl (Nat.le_of_ble_eq_true rfl) hN (gm_fit_i _) rfl) ?_
  refine gm_ev.iload_n i179_5 rfl ?_
  refine gm_ev.if_lt_f i179_6 c1 ?_
  refine gm_ev.iload_n i179_9 rfl ?_
  refine gm_ev.iconst (v := 3) i179_10 (by decide) ?_
  refine gm_ev.icmp_gt_f i179_11 c2 ?_
  refine gm_ev.iload_n i179_14 rfl ?_
  refine gm_ev.if_lt_f i179_15 c3 ?_
  refine gm_ev.iload_n i179_18 rfl ?_
  refine gm_ev.if_lt_f i179_19 c4 ?_
  refine gm_ev.aload_n i179_22 rfl ?_
  refine gm_ev.getfield (v := .int (s.1 5)) i179_23 rfl (bM_fld (j := 0) (fs := mF B (mI s 0 (0 : Int32))) rfl rfl) ?_
  refine gm_ev.if_eq_f i179_26 c5 ?_
  refine gm_ev.iload_n i179_29 rfl ?_
  refine gm_ev.iconst (v := 1) i179_30 (by decide) ?_
  refine gm_ev.icmp_le_f i179_31 c6 ?_
  refine gm_ev.aload_n i179_34 rfl ?_
  refine gm_ev.iload_n i179_35 rfl ?_
  refine gm_ev.iconst (v := 2) i179_36 (by decide) ?_
  refine gm_ev.isub i179_37 ?_
  refine gm_ev.callV gm_mono_run (av := [.int (p0 - (2 : Int32))]) (r := []) (ci := 11) (fs := mF B (mI s 0 (0 : Int32))) (bM_get (j := 0) rfl) i179_38 rfl rfl rfl (Nat.le_of_ble_eq_true rfl) t8 ?_
  refine gm_ev.if_ne_t (tgt := 46) i179_41 (by decide) c9 ?_
  refine gm_ev.aload_n i179_46 rfl ?_
  refine gm_ev.callV gm_mono_run (av := []) (r := []) (ci := 11) (fs := mF B (mI s 0 (0 : Int32))) (bM_get (j := 0) rfl) i179_47 rfl rfl rfl (Nat.le_of_ble_eq_true rfl) t10 ?_
  refine gm_ev.iload_n i179_50 rfl ?_
  refine gm_ev.iconst (v := 1) i179_51 (by decide) ?_
  refine gm_ev.icmp_le_f i179_52 c12 ?_
  refine gm_ev.aload_n i179_55 rfl ?_
  refine gm_ev.iload_n i179_56 rfl ?_
  refine gm_ev.iconst (v := 2) i179_57 (by decide) ?_
  refine gm_ev.isub i179_58 ?_
  refine gm_ev.callV gm_mono_run (av := [.int (p0 - (2 : Int32))]) (r := []) (ci := 11) (fs := mF B s11) (bM_get (j := 0) rfl) i179_59 rfl rfl rfl (Nat.le_of_ble_eq_true rfl) t13 ?_
  refine gm_ev.iload_n i179_62 rfl ?_
  refine gm_ev.if_ne_t (tgt := 73) i179_63 (by decide) c15 ?_
  refine gm_ev.iload_n i179_73 rfl ?_
  refine gm_ev.iconst (v := 1) i179_74 (by decide) ?_
  refine gm_ev.icmp_ne_t (tgt := 85) i179_75 (by decide) c16 ?_
  refine gm_ev.aload_n i179_85 rfl ?_
  refine gm_ev.getfield (v := .int (s14.1 38)) i179_86 rfl (bM_fld (j := 0) (fs := mF B s14) rfl rfl) ?_
  refine gm_ev.istore (ls' := [some (.ref B), some (.int p0), some (.int p1), some (.int p2), some (.int (s14.1 38)), none]) i179_89 (Nat.le_of_ble_eq_true rfl) rfl ?_
  refine gm_ev.iload_n i179_91 rfl ?_
  refine gm_ev.iload i179_92 rfl ?_
  refine gm_ev.icmp_lt_t (tgt := 99) i179_94 (by decide) c17 ?_
  refine gm_ev.iload_n i179_99 rfl ?_
  refine gm_ev.if_ne_f i179_100 c18 ?_
  refine gm_ev.aload_n i179_103 rfl ?_
  refine gm_ev.getfield (v := .ref (B + 20)) i179_104 rfl (bM_fld (j := 0) (fs := mF B s14) rfl rfl) ?_
  refine gm_ev.iload_n i179_107 rfl ?_
  refine gm_ev.laload i179_108 (bM_al (j := 20) (n := 24) (fl := s14.2.2 35) rfl ek19 lk19 (by decide)) ?_
  refine gm_ev.goto (tgt := 132) i179_109 (by decide) ?_
  refine gm_ev.iload_n i179_132 rfl ?_
  refine gm_ev.bipush (v := 8) i179_133 (by decide) ?_
  refine gm_ev.icmp_le_f i179_135 c20 ?_
  refine gm_ev.bipush (v := 8) i179_138 (by decide) ?_
  refine gm_ev.goto (tgt := 144) i179_140 (by decide) ?_
  refine gm_ev.callS gm_mono_run (av := [.long (s14.2.2 35 k19), .int (8 : Int32)]) (r := []) i179_144 rfl rfl rfl (Nat.le_of_ble_eq_true rfl) t22 ?_
  refine gm_ev.istore (ls' := [some (.ref B), some (.int p0), some (.int p1), some (.int p2), some (.int (s14.1 38)), some (.int r21)]) i179_147 (Nat.le_of_ble_eq_true rfl) rfl ?_
  refine gm_ev.iload i179_149 rfl ?_
  refine gm_ev.if_ne_f i179_151 c23 ?_
  refine gm_ev.iconst (v := -1) i179_154 (by decide) ?_
  refine gm_ev.goto (tgt := 160) i179_155 (by decide) ?_
  exact gm_ev.iret i179_160 rfl
theorem r_letter_0_fffffftfttf {N0 : Nat} {K : Nat → Nat} {d B : Nat} {s : mS} {G : gm_H} {sz sl : Nat} {p0 : Int32} {p1 : Int32} {p2 : Int32} {r7 : Int32} {s11 : mS} {s14 : mS} (hN : N0 ≤ B) (c1 : ¬ p0 < 0) (c2 : ¬ (3 : Int32) < p0) (c3 : ¬ p1 < 0) (c4 : ¬ p2 < 0) (c5 : ¬ (s.1 5) = 0) (c6 : ¬ p0 ≤ (1 : Int32)) (t8 : gm_to N0 K ra_nm (ra_mt K) d 170 [.ref B, .int (p0 - (2 : Int32))] (bM B (mH B (mI s 0 (0 : Int32))) G) sz (.returned (some (.int r7)), bM B (mH B (mI s 0 (0 : Int32))) G, sz, 0)) (c9 : ¬ r7 = 0) (t10 : gm_to N0 K ra_nm (ra_mt K) d 161 [.ref B] (bM B (mH B (mI s 0 (0 : Int32))) G) sz (.returned none, bM B (mH B s11) G, sz, 0)) (c12 : ¬ p0 ≤ (1 : Int32)) (t13 : gm_to N0 K ra_nm (ra_mt K) d 171 [.ref B, .int (p0 - (2 : Int32))] (bM B (mH B s11) G) sz (.returned none, bM B (mH B s14) G, sz, 0)) (c15 : ¬ p0 = 0) (c16 : ¬ p0 = (1 : Int32)) (c17 : ¬ p1 < (s14.1 38)) : gm_ev N0 K ra_nm (ra_mt K) d (some .int) (gm_I cX12_letter) (gm_lkf (lkX12 false K)) 0 [some (.ref B), some (.int p0), some (.int p1), some (.int p2), none, none] [] (bM B (mH B s) G) sz sl (.returned (some (.int (-1 : Int32))), (bM B (mH B s14) G), sz, sl) := by
  refine gm_ev.aload_n i179_0 rfl ?_
  refine gm_ev.iconst (v := 0) i179_1 (by decide) ?_
  refine gm_ev.putfield (M' := (bM B (mH B (mI s 0 (0 : Int32))) G)) i179_2 rfl (bM_put (j := 0) (fs := mF B s) rfl (Nat.le_of_ble_eq_true rfl) hN (gm_fit_i _) rfl) ?_
  refine gm_ev.iload_n i179_5 rfl ?_
  refine gm_ev.if_lt_f i179_6 c1 ?_
  refine gm_ev.iload_n i179_9 rfl ?_
  refine gm_ev.iconst (v := 3) i179_10 (by decide) ?_
  refine gm_ev.icmp_gt_f i179_11 c2 ?_
  refine gm_ev.iload_n i179_14 rfl ?_
  refine gm_ev.if_lt_f i179_15 c3 ?_
  refine gm_ev.iload_n i179_18 rfl ?_
  refine gm_ev.if_lt_f i179_19 c4 ?_
  refine gm_ev.aload_n i179_22 rfl ?_
  refine gm_ev.getfield (v := .int (s.1 5)) i179_23 rfl (bM_fld (j := 0) (fs := mF B (mI s 0 (0 : Int32))) rfl rfl) ?_
  refine gm_ev.if_eq_f i179_26 c5 ?_
  refine gm_ev.iload_n i179_29 rfl ?_
  refine gm_ev.iconst (v := 1) i179_30 (by decide) ?_
  refine gm_ev.icmp_le_f i179_31 c6 ?_
  refine gm_ev.aload_n i179_34 rfl ?_
  refine gm_ev.iload_n i179_35 rfl ?_
  refine gm_ev.iconst (v := 2) i179_36 (by decide) ?_
  refine gm_ev.isub i179_37 ?_
  refine gm_ev.callV gm_mono_run (av := [.int (p0 - (2 : Int32))]) (r := []) (ci := 11) (fs := mF B (mI s 0 (0 : Int32))) (bM_get (j := 0) rfl) i179_38 rfl rfl rfl (Nat.le_of_ble_eq_true rfl) t8 ?_
  refine gm_ev.if_ne_t (tgt := 46) i179_41 (by decide) c9 ?_
  refine gm_ev.aload_n i179_46 rfl ?_
  refine gm_ev.callV gm_mono_run (av := []) (r := []) (ci := 11) (fs := mF B (mI s 0 (0 : Int32))) (bM_get (j := 0) rfl) i179_47 rfl rfl rfl (Nat.le_of_ble_eq_true rfl) t10 ?_
  refine gm_ev.iload_n i179_50 rfl ?_
  refine gm_ev.iconst (v := 1) i179_51 (by decide) ?_
  refine gm_ev.icmp_le_f i179_52 c12 ?_
  refine gm_ev.aload_n i179_55 rfl ?_
  refine gm_ev.iload_n i179_56 rfl ?_
  refine gm_ev.iconst (v := 2) i179_57 (by decide) ?_
  refine gm_ev.isub i179_58 ?_
  refine gm_ev.callV gm_mono_run (av := [.int (p0 - (2 : Int32))]) (r := []) (ci := 11) (fs := mF B s11) (bM_get (j := 0) rfl) i179_59 rfl rfl rfl (Nat.le_of_ble_eq_true rfl) t13 ?_
  refine gm_ev.iload_n i179_62 rfl ?_
  refine gm_ev.if_ne_t (tgt := 73) i179_63 (by decide) c15 ?_
  refine gm_ev.iload_n i179_73 rfl ?_
  refine gm_ev.iconst (v := 1) i179_74 (by decide) ?_
  refine gm_ev.icmp_ne_t (tgt := 85) i179_75 (by decide) c16 ?_
  refine gm_ev.aload_n i179_85 rfl ?_
  refine gm_ev.getfield (v := .int (s14.1 38)) i179_86 rfl (bM_fld (j := 0) (fs := mF B s14) rfl rfl) ?_
  refine gm_ev.istore (ls' := [some (.ref B), some (.int p0), some (.int p1), some (.int p2), some (.int (s14.1 38)), none]) i179_89 (Nat.le_of_ble_eq_true rfl) rfl ?_
  refine gm_ev.iload_n i179_91 rfl ?_
  refine gm_ev.iload i179_92 rfl ?_
  refine gm_ev.icmp_lt_f i179_94 c17 ?_
  refine gm_ev.iconst (v := -1) i179_97 (by decide) ?_
  exact gm_ev.iret i179_98 rfl
theorem r_letter_0_fffffftftfttttt {N0 : Nat} {K : Nat → Nat} {d B : Nat} {s : mS} {G : gm_H} {sz sl : Nat} {p0 : Int32} {p1 : Int32} {p2 : Int32} {r7 : Int32} {s11 : mS} {s14 : mS} {k20 : Nat} {r22 : Int32} (hN : N0 ≤ B) (c1 : ¬ p0 < 0) (c2 : ¬ (3 : Int32) < p0) (c3 : ¬ p1 < 0) (c4 : ¬ p2 < 0) (c5 : ¬ (s.1 5) = 0) (c6 : ¬ p0 ≤ (1 : Int32)) (t8 : gm_to N0 K ra_nm (ra_mt K) d 170 [.ref B, .int (p0 - (2 : Int32))] (bM B (mH B (mI s 0 (0 : Int32))) G) sz (.returned (some (.int r7)), bM B (mH B (mI s 0 (0 : Int32))) G, sz, 0)) (c9 : ¬ r7 = 0) (t10 : gm_to N0 K ra_nm (ra_mt K) d 161 [.ref B] (bM B (mH B (mI s 0 (0 : Int32))) G) sz (.returned none, bM B (mH B s11) G, sz, 0)) (c12 : ¬ p0 ≤ (1 : Int32)) (t13 : gm_to N0 K ra_nm (ra_mt K) d 171 [.ref B, .int (p0 - (2 : Int32))] (bM B (mH B s11) G) sz (.returned none, bM B (mH B s14) G, sz, 0)) (c15 : ¬ p0 = 0) (c16 : p0 = (1 : Int32)) (c17 : p1 < (s14.1 30)) (c18 : ¬ p0 = 0) (c19 : ¬ p0 = (1 : Int32)) (ek20 : p1 = nI k20) (lk20 : k20 < 201) (c21 : p2 ≤ (8 : Int32)) (t23 : gm_to N0 K ra_nm (ra_mt K) d 147 [.long (s14.2.2 37 k20), .int p2] (bM B (mH B s14) G) sz (.returned (some (.int r22)), bM B (mH B s14) G, sz, 0)) (c24 : ¬ r22 = 0) : gm_ev N0 K ra_nm (ra_mt K) d (some .int) (gm_I cX12_letter) (gm_lkf (lkX12 false K)) 0 [some (.ref B), some (.int p0), some (.int p1), some (.int p2), none, none] [] (bM B (mH B s) G) sz sl (.returned (some (.int r22)), (bM B (mH B s14) G), sz, sl) := by
  refine gm_ev.aload_n i179_0 rfl ?_
  refine gm_ev.iconst (v := 0) i179_1 (by decide) ?_
  refine gm_ev.putfield (M' := (bM B (mH B (mI s 0 (0 : Int32))) G)) i179_2 rfl (bM_put (j := 0) (fs := mF B s) rfl (Nat.le_of_ble_eq_true rfl) hN (gm_fit_i _) rfl) ?_
  refine gm_ev.iload_n i179_5 rfl ?_
  refine gm_ev.if_lt_f i179_6 c1 ?_
  refine gm_ev.iload_n i179_9 rfl ?_
  refine gm_ev.iconst (v := 3) i179_10 (by decide) ?_
  refine gm_ev.icmp_gt_f i179_11 c2 ?_
  refine gm_ev.iload_n i179_14 rfl ?_
  refine gm_ev.if_lt_f i179_15 c3 ?_
  refine gm_ev.iload_n i179_18 rfl ?_
  refine gm_ev.if_lt_f i179_19 c4 ?_
  refine gm_ev.aload_n i179_22 rfl ?_
  refine gm_ev.getfield (v := .int (s.1 5)) i179_23 rfl (bM_fld (j := 0) (fs := mF B (mI s 0 (0 : Int32))) rfl rfl) ?_
  refine gm_ev.if_eq_f i179_26 c5 ?_
  refine gm_ev.iload_n i179_29 rfl ?_
  refine gm_ev.iconst (v := 1) i179_30 (by decide) ?_
  refine gm_ev.icmp_le_f i179_31 c6 ?_
  refine gm_ev.aload_n i179_34 rfl ?_
  refine gm_ev.iload_n i179_35 rfl ?_
  refine gm_ev.iconst (v := 2) i179_36 (by decide) ?_
  refine gm_ev.isub i179_37 ?_
  refine gm_ev.callV gm_mono_run (av := [.int (p0 - (2 : Int32))]) (r := []) (ci := 11) (fs := mF B (mI s 0 (0 : Int32))) (bM_get (j := 0) rfl) i179_38 rfl rfl rfl (Nat.le_of_ble_eq_true rfl) t8 ?_
  refine gm_ev.if_ne_t (tgt := 46) i179_41 (by decide) c9 ?_
  refine gm_ev.aload_n i179_46 rfl ?_
  refine gm_ev.callV gm_mono_run (av := []) (r := []) (ci := 11) (fs := mF B (mI s 0 (0 : Int32))) (bM_get (j := 0) rfl) i179_47 rfl rfl rfl (Nat.le_of_ble_eq_true rfl) t10 ?_
  refine gm_ev.iload_n i179_50 rfl ?_
  refine gm_ev.iconst (v := 1) i179_51 (by decide) ?_
  refine gm_ev.icmp_le_f i179_52 c12 ?_
  refine gm_ev.aload_n i179_55 rfl ?_
  refine gm_ev.iload_n i179_56 rfl ?_
  refine gm_ev.iconst (v := 2) i179_57 (by decide) ?_
  refine gm_ev.isub i179_58 ?_
  refine gm_ev.callV gm_mono_run (av := [.int (p0 - (2 : Int32))]) (r := []) (ci := 11) (fs := mF B s11) (bM_get (j := 0) rfl) i179_59 rfl rfl rfl (Nat.le_of_ble_eq_true rfl) t13 ?_
  refine gm_ev.iload_n i179_62 rfl ?_
  refine gm_ev.if_ne_t (tgt := 73) i179_63 (by decide) c15 ?_
  refine gm_ev.iload_n i179_73 rfl ?_
  refine gm_ev.iconst (v := 1) i179_74 (by decide) ?_
  refine gm_ev.icmp_ne_f i179_75 c16 ?_
  refine gm_ev.aload_n i179_78 rfl ?_
  refine gm_ev.getfield (v := .int (s14.1 30)) i179_79 rfl (bM_fld (j := 0) (fs := mF B s14) rfl rfl) ?_
  refine gm_ev.goto (tgt := 89) i179_82 (by decide) ?_
  refine gm_ev.istore (ls' := [some (.ref B), some (.int p0), some (.int p1), some (.int p2), some (.int (s14.1 30)), none]) i179_89 (Nat.le_of_ble_eq_true rfl) rfl ?_
  refine gm_ev.iload_n i179_91 rfl ?_
  refine gm_ev.iload i179_92 rfl ?_
  refine gm_ev.icmp_lt_t (tgt := 99) i179_94 (by decide) c17 ?_
  refine gm_ev.iload_n i179_99 rfl ?_
  refine gm_ev.if_ne_t (tgt := 112) i179_100 (by decide) c18 ?_
  refine gm_ev.iload_n i179_112 rfl ?_
  refine gm_ev.iconst (v := 1) i179_113 (by decide) ?_
  refine gm_ev.icmp_ne_t (tgt := 126) i179_114 (by decide) c19 ?_
  refine gm_ev.aload_n i179_126 rfl ?_
  refine gm_ev.getfield (v := .ref (B + 21)) i179_127 rfl (bM_fld (j := 0) (fs := mF B s14) rfl rfl) ?_
  refine gm_ev.iload_n i179_130 rfl ?_
  refine gm_ev.laload i179_131 (bM_al (j := 21) (n := 201) (fl := s14.2.2 37) rfl ek20 lk20 (by decide)) ?_
  refine gm_ev.iload_n i179_132 rfl ?_
  refine gm_ev.bipush (v := 8) i179_133 (by decide) ?_
  refine gm_ev.icmp_le_t (tgt := 143) i179_135 (by decide) c21 ?_
  refine gm_ev.iload_n i179_143 rfl ?_
  refine gm_ev.callS gm_mono_run (av := [.long (s14.2.2 37 k20), .int p2]) (r := []) i179_144 rfl rfl rfl (Nat.le_of_ble_eq_true rfl) t23 ?_
  refine gm_ev.istore (ls' := [some (.ref B), some (.int p0), some (.int p1), some (.int p2), some (.int (s14.1 30)), some (.int r22)]) i179_147 (Nat.le_of_ble_eq_true rfl) rfl ?_
  refine gm_ev.iload i179_149 rfl ?_
  refine gm_ev.if_ne_t (tgt := 158) i179_151 (by decide) c24 ?_
  refine gm_ev.iload i179_158 rfl ?_
  exact gm_ev.iret i179_160 rfl
theorem r_letter_0_fffffftftfttttf {N0 : Nat} {K : Nat → Nat} {d B : Nat} {s : mS} {G : gm_H} {sz sl : Nat} {p0 : Int32} {p1 : Int32} {p2 : Int32} {r7 : Int32} {s11 : mS} {s14 : mS} {k20 : Nat} {r22 : Int32} (hN : N0 ≤ B) (c1 : ¬ p0 < 0) (c2 : ¬ (3 : Int32) < p0) (c3 : ¬ p1 < 0) (c4 : ¬ p2 < 0) (c5 : ¬ (s.1 5) = 0) (c6 : ¬ p0 ≤ (1 : Int32)) (t8 : gm_to N0 K ra_nm (ra_mt K) d 170 [.ref B, .int (p0 - (2 : Int32))] (bM B (mH B (mI s 0 (0 : Int32))) G) sz (.returned (some (.int r7)), bM B (mH B (mI s 0 (0 : Int32))) G, sz, 0)) (c9 : ¬ r7 = 0) (t10 : gm_to N0 K ra_nm (ra_mt K) d 161 [.ref B] (bM B (mH B (mI s 0 (0 : Int32))) G) sz (.returned none, bM B (mH B s11) G, sz, 0)) (c12 : ¬ p0 ≤ (1 : Int32)) (t13 : gm_to N0 K ra_nm (ra_mt K) d 171 [.ref B, .int (p0 - (2 : Int32))] (bM B (mH B s11) G) sz (.returned none, bM B (mH B s14) G, sz, 0)) (c15 : ¬ p0 = 0) (c16 : p0 = (1 : Int32)) (c17 : p1 < (s14.1 30)) (c18 : ¬ p0 = 0) (c19 : ¬ p0 = (1 : Int32)) (ek20 : p1 = nI k20) (lk20 : k20 < 201) (c21 : p2 ≤ (8 : Int32)) (t23 : gm_to N0 K ra_nm (ra_mt K) d 147 [.long (s14.2.2 37 k20), .int p2] (bM B (mH B s14) G) sz (.returned (some (.int r22)), bM B (mH B s14) G, sz, 0)) (c24 : r22 = 0) : gm_ev N0 K ra_nm (ra_mt K) d (some .int) (gm_I cX12_letter) (gm_lkf (lkX12 false K)) 0 [some (.ref B), some (.int p0), some (.int p1), some (.int p2), none, none] [] (bM B (mH B s) G) sz sl (.returned (some (.int (-1 : Int32))), (bM B (mH B s14) G), sz, sl) := by
  refine gm_ev.aload_n i179_0 rfl ?_
  refine gm_ev.iconst (v := 0) i179_1 (by decide) ?_
  refine gm_ev.putfield (M' := (bM B (mH B (mI s 0 (0 : Int32))) G)) i179_2 rfl (bM_put (j := 0) (fs := mF B s) rfl (Nat.le_of_ble_eq_true rfl) hN (gm_fit_i _) rfl) ?_
  refine gm_ev.iload_n i179_5 rfl ?_
  refine gm_ev.if_lt_f i179_6 c1 ?_
  refine gm_ev.iload_n i179_9 rfl ?_
  refine gm_ev.iconst (v := 3) i179_10 (by decide) ?_
  refine gm_ev.icmp_gt_f i179_11 c2 ?_
  refine gm_ev.iload_n i179_14 rfl ?_
  refine gm_ev.if_lt_f i179_15 c3 ?_
  refine gm_ev.iload_n i179_18 rfl ?_
  refine gm_ev.if_lt_f i179_19 c4 ?_
  refine gm_ev.aload_n i179_22 rfl ?_
  refine gm_ev.getfield (v := .int (s.1 5)) i179_23 rfl (bM_fld (j := 0) (fs := mF B (mI s 0 (0 : Int32))) rfl rfl) ?_
  refine gm_ev.if_eq_f i179_26 c5 ?_
  refine gm_ev.iload_n i179_29 rfl ?_
  refine gm_ev.iconst (v := 1) i179_30 (by decide) ?_
  refine gm_ev.icmp_le_f i179_31 c6 ?_
  refine gm_ev.aload_n i179_34 rfl ?_
  refine gm_ev.iload_n i179_35 rfl ?_
  refine gm_ev.iconst (v := 2) i179_36 (by decide) ?_
  refine gm_ev.isub i179_37 ?_
  refine gm_ev.callV gm_mono_run (av := [.int (p0 - (2 : Int32))]) (r := []) (ci := 11) (fs := mF B (mI s 0 (0 : Int32))) (bM_get (j := 0) rfl) i179_38 rfl rfl rfl (Nat.le_of_ble_eq_true rfl) t8 ?_
  refine gm_ev.if_ne_t (tgt := 46) i179_41 (by decide) c9 ?_
  refine gm_ev.aload_n i179_46 rfl ?_
  refine gm_ev.callV gm_mono_run (av := []) (r := []) (ci := 11) (fs := mF B (mI s 0 (0 : Int32))) (bM_get (j := 0) rfl) i179_47 rfl rfl rfl (Nat.le_of_ble_eq_true rfl) t10 ?_
  refine gm_ev.iload_n i179_50 rfl ?_
  refine gm_ev.iconst (v := 1) i179_51 (by decide) ?_
  refine gm_ev.icmp_le_f i179_52 c12 ?_
  refine gm_ev.aload_n i179_55 rfl ?_
  refine gm_ev.iload_n i179_56 rfl ?_
  refine gm_ev.iconst (v := 2) i179_57 (by decide) ?_
  refine gm_ev.isub i179_58 ?_
  refine gm_ev.callV gm_mono_run (av := [.int (p0 - (2 : Int32))]) (r := []) (ci := 11) (fs := mF B s11) (bM_get (j := 0) rfl) i179_59 rfl rfl rfl (Nat.le_of_ble_eq_true rfl) t13 ?_
  refine gm_ev.iload_n i179_62 rfl ?_
  refine gm_ev.if_ne_t (tgt := 73) i179_63 (by decide) c15 ?_
  refine gm_ev.iload_n i179_73 rfl ?_
  refine gm_ev.iconst (v := 1) i179_74 (by decide) ?_
  refine gm_ev.icmp_ne_f i179_75 c16 ?_
  refine gm_ev.aload_n i179_78 rfl ?_
  refine gm_ev.getfield (v := .int (s14.1 30)) i179_79 rfl (bM_fld (j := 0) (fs := mF B s14) rfl rfl) ?_
  refine gm_ev.goto (tgt := 89) i179_82 (by decide) ?_
  refine gm_ev.istore (ls' := [some (.ref B), some (.int p0), some (.int p1), some (.int p2), some (.int (s14.1 30)), none]) i179_89 (Nat.le_of_ble_eq_true rfl) rfl ?_
  refine gm_ev.iload_n i179_91 rfl ?_
  refine gm_ev.iload i179_92 rfl ?_
  refine gm_ev.icmp_lt_t (tgt := 99) i179_94 (by decide) c17 ?_
  refine gm_ev.iload_n i179_99 rfl ?_
  refine gm_ev.if_ne_t (tgt := 112) i179_100 (by decide) c18 ?_
  refine gm_ev.iload_n i179_112 rfl ?_
  refine gm_ev.iconst (v := 1) i179_113 (by decide) ?_
  refine gm_ev.icmp_ne_t (tgt := 126) i179_114 (by decide) c19 ?_
  refine gm_ev.aload_n i179_126 rfl ?_
  refine gm_ev.getfield (v := .ref (B + 21)) i179_127 rfl (bM_fld (j := 0) (fs := mF B s14) rfl rfl) ?_
  refine gm_ev.iload_n i179_130 rfl ?_
  refine gm_ev.laload i179_131 (bM_al (j := 21) (n := 201) (fl := s14.2.2 37) rfl ek20 lk20 (by decide)) ?_
  refine gm_ev.iload_n i179_132 rfl ?_
  refine gm_ev.bipush (v := 8) i179_133 (by decide) ?_
  refine gm_ev.icmp_le_t (tgt := 143) i179_135 (by decide) c21 ?_
  refine gm_ev.iload_n i179_143 rfl ?_
  refine gm_ev.callS gm_mono_run (av := [.long (s14.2.2 37 k20), .int p2]) (r := []) i179_144 rfl rfl rfl (Nat.le_of_ble_eq_true rfl) t23 ?_
  refine gm_ev.istore (ls' := [some (.ref B), some (.int p0), some (.int p1), some (.int p2), some (.int (s14.1 30)), some (.int r22)]) i179_147 (Nat.le_of_ble_eq_true rfl) rfl ?_
  refine gm_ev.iload i179_149 rfl ?_
  refine gm_ev.if_ne_f i179_151 c24 ?_
  refine gm_ev.iconst (v := -1) i179_154 (by decide) ?_
  refine gm_ev.goto (tgt := 160) i179_155 (by decide) ?_
  exact gm_ev.iret i179_160 rfl
theorem r_letter_0_fffffftftftttft {N0 : Nat} {K : Nat → Nat} {d B : Nat} {s : mS} {G : gm_H} {sz sl : Nat} {p0 : Int32} {p1 : Int32} {p2 : Int32} {r7 : Int32} {s11 : mS} {s14 : mS} {k20 : Nat} {r22 : Int32} (hN : N0 ≤ B) (c1 : ¬ p0 < 0) (c2 : ¬ (3 : Int32) < p0) (c3 : ¬ p1 < 0) (c4 : ¬ p2 < 0) (c5 : ¬ (s.1 5) = 0) (c6 : ¬ p0 ≤ (1 : Int32)) (t8 : gm_to N0 K ra_nm (ra_mt K) d 170 [.ref B, .int (p0 - (2 : Int32))] (bM B (mH B (mI s 0 (0 : Int32))) G) sz (.returned (some (.int r7)), bM B (mH B (mI s 0 (0 : Int32))) G, sz, 0)) (c9 : ¬ r7 = 0) (t10 : gm_to N0 K ra_nm (ra_mt K) d 161 [.ref B] (bM B (mH B (mI s 0 (0 : Int32))) G) sz (.returned none, bM B (mH B s11) G, sz, 0)) (c12 : ¬ p0 ≤ (1 : Int32)) (t13 : gm_to N0 K ra_nm (ra_mt K) d 171 [.ref B, .int (p0 - (2 : Int32))] (bM B (mH B s11) G) sz (.returned none, bM B (mH B s14) G, sz, 0)) (c15 : ¬ p0 = 0) (c16 : p0 = (1 : Int32)) (c17 : p1 < (s14.1 30)) (c18 : ¬ p0 = 0) (c19 : ¬ p0 = (1 : Int32)) (ek20 : p1 = nI k20) (lk20 : k20 < 201) (c21 : ¬ p2 ≤ (8 : Int32)) (t23 : gm_to N0 K ra_nm (ra_mt K) d 147 [.long (s14.2.2 37 k20), .int (8 : Int32)] (bM B (mH B s14) G) sz (.returned (some (.int r22)), bM B (mH B s14) G, sz, 0)) (c24 : ¬ r22 = 0) : gm_ev N0 K ra_nm (ra_mt K) d (some .int) (gm_I cX12_letter) (gm_lkf (lkX12 false K)) 0 [some (.ref B), some (.int p0), some (.int p1), some (.int p2), none, none] [] (bM B (mH B s) G) sz sl (.returned (some (.int r22)), (bM B (mH B s14) G), sz, sl) := by
  refine gm_ev.aload_n i179_0 rfl ?_
  refine gm_ev.iconst (v := 0) i179_1 (by decide) ?_
  refine gm_ev.putfield (M' := (bM B (mH B (mI s 0 (0 : Int32))) G)) i179_2 rfl (bM_put (j := 0) (fs := mF B s) rfl (Nat.le_of_ble_eq_true rfl) hN (gm_fit_i _) rfl) ?_
  refine gm_ev.iload_n i179_5 rfl ?_
  refine gm_ev.if_lt_f i179_6 c1 ?_
  refine gm_ev.iload_n i179_9 rfl ?_
  refine gm_ev.iconst (v := 3) i179_10 (by decide) ?_
  refine gm_ev.icmp_gt_f i179_11 c2 ?_
  refine gm_ev.iload_n i179_14 rfl ?_
  refine gm_ev.if_lt_f i179_15 c3 ?_
  refine gm_ev.iload_n i179_18 rfl ?_
  refine gm_ev.if_lt_f i179_19 c4 ?_
  refine gm_ev.aload_n i179_22 rfl ?_
  refine gm_ev.getfield (v := .int (s.1 5)) i179_23 rfl (bM_fld (j := 0) (fs := mF B (mI s 0 (0 : Int32))) rfl rfl) ?_
  refine gm_ev.if_eq_f i179_26 c5 ?_
  refine gm_ev.iload_n i179_29 rfl ?_
  refine gm_ev.iconst (v := 1) i179_30 (by decide) ?_
  refine gm_ev.icmp_le_f i179_31 c6 ?_
  refine gm_ev.aload_n i179_34 rfl ?_
  refine gm_ev.iload_n i179_35 rfl ?_
  refine gm_ev.iconst (v := 2) i179_36 (by decide) ?_
  refine gm_ev.isub i179_37 ?_
  refine gm_ev.callV gm_mono_run (av := [.int (p0 - (2 : Int32))]) (r := []) (ci := 11) (fs := mF B (mI s 0 (0 : Int32))) (bM_get (j := 0) rfl) i179_38 rfl rfl rfl (Nat.le_of_ble_eq_true rfl) t8 ?_
  refine gm_ev.if_ne_t (tgt := 46) i179_41 (by decide) c9 ?_
  refine gm_ev.aload_n i179_46 rfl ?_
  refine gm_ev.callV gm_mono_run (av := []) (r := []) (ci := 11) (fs := mF B (mI s 0 (0 : Int32))) (bM_get (j := 0) rfl) i179_47 rfl rfl rfl (Nat.le_of_ble_eq_true rfl) t10 ?_
  refine gm_ev.iload_n i179_50 rfl ?_
  refine gm_ev.iconst (v := 1) i179_51 (by decide) ?_
  refine gm_ev.icmp_le_f i179_52 c12 ?_
  refine gm_ev.aload_n i179_55 rfl ?_
  refine gm_ev.iload_n i179_56 rfl ?_
  refine gm_ev.iconst (v := 2) i179_57 (by decide) ?_
  refine gm_ev.isub i179_58 ?_
  refine gm_ev.callV gm_mono_run (av := [.int (p0 - (2 : Int32))]) (r := []) (ci := 11) (fs := mF B s11) (bM_get (j := 0) rfl) i179_59 rfl rfl rfl (Nat.le_of_ble_eq_true rfl) t13 ?_
  refine gm_ev.iload_n i179_62 rfl ?_
  refine gm_ev.if_ne_t (tgt := 73) i179_63 (by decide) c15 ?_
  refine gm_ev.iload_n i179_73 rfl ?_
  refine gm_ev.iconst (v := 1) i179_74 (by decide) ?_
  refine gm_ev.icmp_ne_f i179_75 c16 ?_
  refine gm_ev.aload_n i179_78 rfl ?_
  refine gm_ev.getfield (v := .int (s14.1 30)) i179_79 rfl (bM_fld (j := 0) (fs := mF B s14) rfl rfl) ?_
  refine gm_ev.goto (tgt := 89) i179_82 (by decide) ?_
  refine gm_ev.istore (ls' := [some (.ref B), some (.int p0), some (.int p1), some (.int p2), some (.int (s14.1 30)), none]) i179_89 (Nat.le_of_ble_eq_true rfl) rfl ?_
  refine gm_ev.iload_n i179_91 rfl ?_
  refine gm_ev.iload i179_92 rfl ?_
  refine gm_ev.icmp_lt_t (tgt := 99) i179_94 (by decide) c17 ?_
  refine gm_ev.iload_n i179_99 rfl ?_
  refine gm_ev.if_ne_t (tgt := 112) i179_100 (by decide) c18 ?_
  refine gm_ev.iload_n i179_112 rfl ?_
  refine gm_ev.iconst (v := 1) i179_113 (by decide) ?_
  refine gm_ev.icmp_ne_t (tgt := 126) i179_114 (by decide) c19 ?_
  refine gm_ev.aload_n i179_126 rfl ?_
  refine gm_ev.getfield (v := .ref (B + 21)) i179_127 rfl (bM_fld (j := 0) (fs := mF B s14) rfl rfl) ?_
  refine gm_ev.iload_n i179_130 rfl ?_
  refine gm_ev.laload i179_131 (bM_al (j := 21) (n := 201) (fl := s14.2.2 37) rfl ek20 lk20 (by decide)) ?_
  refine gm_ev.iload_n i179_132 rfl ?_
  refine gm_ev.bipush (v := 8) i179_133 (by decide) ?_
  refine gm_ev.icmp_le_f i179_135 c21 ?_
  refine gm_ev.bipush (v := 8) i179_138 (by decide) ?_
  refine gm_ev.goto (tgt := 144) i179_140 (by decide) ?_
  refine gm_ev.callS gm_mono_run (av := [.long (s14.2.2 37 k20), .int (8 : Int32)]) (r := []) i179_144 rfl rfl rfl (Nat.le_of_ble_eq_true rfl) t23 ?_
  refine gm_ev.istore (ls' := [some (.ref B), some (.int p0), some (.int p1), some (.int p2), some (.int (s14.1 30)), some (.int r22)]) i179_147 (Nat.le_of_ble_eq_true rfl) rfl ?_
  refine gm_ev.iload i179_149 rfl ?_
  refine gm_ev.if_ne_t (tgt := 158) i179_151 (by decide) c24 ?_
  refine gm_ev.iload i179_158 rfl ?_
  exact gm_ev.iret i179_160 rfl
theorem r_letter_0_fffffftftftttff {N0 : Nat} {K : Nat → Nat} {d B : Nat} {s : mS} {G : gm_H} {sz sl : Nat} {p0 : Int32} {p1 : Int32} {p2 : Int32} {r7 : Int32} {s11 : mS} {s14 : mS} {k20 : Nat} {r22 : Int32} (hN : N0 ≤ B) (c1 : ¬ p0 < 0) (c2 : ¬ (3 : Int32) < p0) (c3 : ¬ p1 < 0) (c4 : ¬ p2 < 0) (c5 : ¬ (s.1 5) = 0) (c6 : ¬ p0 ≤ (1 : Int32)) (t8 : gm_to N0 K ra_nm (ra_mt K) d 170 [.ref B, .int (p0 - (2 : Int32))] (bM B (mH B (mI s 0 (0 : Int32))) G) sz (.returned (some (.int r7)), bM B (mH B (mI s 0 (0 : Int32))) G, sz, 0)) (c9 : ¬ r7 = 0) (t10 : gm_to N0 K ra_nm (ra_mt K) d 161 [.ref B] (bM B (mH B (mI s 0 (0 : Int32))) G) sz (.returned none, bM B (mH B s11) G, sz, 0)) (c12 : ¬ p0 ≤ (1 : Int32)) (t13 : gm_to N0 K ra_nm (ra_mt K) d 171 [.ref B, .int (p0 - (2 : Int32))] (bM B (mH B s11) G) sz (.returned none, bM B (mH B s14) G, sz, 0)) (c15 : ¬ p0 = 0) (c16 : p0 = (1 : Int32)) (c17 : p1 < (s14.1 30)) (c18 : ¬ p0 = 0) (c19 : ¬ p0 = (1 : Int32)) (ek20 : p1 = nI k20) (lk20 : k20 < 201) (c21 : ¬ p2 ≤ (8 : Int32)) (t23 : gm_to N0 K ra_nm (ra_mt K) d 147 [.long (s14.2.2 37 k20), .int (8 : Int32)] (bM B (mH B s14) G) sz (.returned (some (.int r22)), bM B (mH B s14) G, sz, 0)) (c24 : r22 = 0) : gm_ev N0 K ra_nm (ra_mt K) d (some .int) (gm_I cX12_letter) (gm_lkf (lkX12 false K)) 0 [some (.ref B), some (.int p0), some (.int p1), some (.int p2), none, none] [] (bM B (mH B s) G) sz sl (.returned (some (.int (-1 : Int32))), (bM B (mH B s14) G), sz, sl) := by
  refine gm_ev.aload_n i179_0 rfl ?_
  refine gm_ev.iconst (v := 0) i179_1 (by decide) ?_
  refine gm_ev.putfield (M' := (bM B (mH B (mI s 0 (0 : Int32))) G)) i179_2 rfl (bM_put (j := 0) (fs := mF B s) rfl (Nat.le_of_ble_eq_true rfl) hN (gm_fit_i _) rfl) ?_
  refine gm_ev.iload_n i179_5 rfl ?_
  refine gm_ev.if_lt_f i179_6 c1 ?_
  refine gm_ev.iload_n i179_9 rfl ?_
  refine gm_ev.iconst (v := 3) i179_10 (by decide) ?_
  refine gm_ev.icmp_gt_f i179_11 c2 ?_
  refine gm_ev.iload_n i179_14 rfl ?_
  refine gm_ev.if_lt_f i179_15 c3 ?_
  refine gm_ev.iload_n i179_18 rfl ?_
  refine gm_ev.if_lt_f i179_19 c4 ?_
  refine gm_ev.aload_n i179_22 rfl ?_
  refine gm_ev.getfield (v := .int (s.1 5)) i179_23 rfl (bM_fld (j := 0) (fs := mF B (mI s 0 (0 : Int32))) rfl rfl) ?_
  refine gm_ev.if_eq_f i179_26 c5 ?_
  refine gm_ev.iload_n i179_29 rfl ?_
  refine gm_ev.iconst (v := 1) i179_30 (by decide) ?_
  refine gm_ev.icmp_le_f i179_31 c6 ?_
  refine gm_ev.aload_n i179_34 rfl ?_
  refine gm_ev.iload_n i179_35 rfl ?_
  refine gm_ev.iconst (v := 2) i179_36 (by decide) ?_
  refine gm_ev.isub i179_37 ?_
  refine gm_ev.callV gm_mono_run (av := [.int (p0 - (2 : Int32))]) (r := []) (ci := 11) (fs := mF B (mI s 0 (0 : Int32))) (bM_get (j := 0) rfl) i179_38 rfl rfl rfl (Nat.le_of_ble_eq_true rfl) t8 ?_
  refine gm_ev.if_ne_t (tgt := 46) i179_41 (by decide) c9 ?_
  refine gm_ev.aload_n i179_46 rfl ?_
  refine gm_ev.callV gm_mono_run (av := []) (r := []) (ci := 11) (fs := mF B (mI s 0 (0 : Int32))) (bM_get (j := 0) rfl) i179_47 rfl rfl rfl (Nat.le_of_ble_eq_true rfl) t10 ?_
  refine gm_ev.iload_n i179_50 rfl ?_
  refine gm_ev.iconst (v := 1) i179_51 (by decide) ?_
  refine gm_ev.icmp_le_f i179_52 c12 ?_
  refine gm_ev.aload_n i179_55 rfl ?_
  refine gm_ev.iload_n i179_56 rfl ?_
  refine gm_ev.iconst (v := 2) i179_57 (by decide) ?_
  refine gm_ev.isub i179_58 ?_
  refine gm_ev.callV gm_mono_run (av := [.int (p0 - (2 : Int32))]) (r := []) (ci := 11) (fs := mF B s11) (bM_get (j := 0) rfl) i179_59 rfl rfl rfl (Nat.le_of_ble_eq_true rfl) t13 ?_
  refine gm_ev.iload_n i179_62 rfl ?_
  refine gm_ev.if_ne_t (tgt := 73) i179_63 (by decide) c15 ?_
  refine gm_ev.iload_n i179_73 rfl ?_
  refine gm_ev.iconst (v := 1) i179_74 (by decide) ?_
  refine gm_ev.icmp_ne_f i179_75 c16 ?_
  refine gm_ev.aload_n i179_78 rfl ?_
  refine gm_ev.getfield (v := .int (s14.1 30)) i179_79 rfl (bM_fld (j := 0) (fs := mF B s14) rfl rfl) ?_
  refine gm_ev.goto (tgt := 89) i179_82 (by decide) ?_
  refine gm_ev.istore (ls' := [some (.ref B), some (.int p0), some (.int p1), some (.int p2), some (.int (s14.1 30)), none]) i179_89 (Nat.le_of_ble_eq_true rfl) rfl ?_
  refine gm_ev.iload_n i179_91 rfl ?_
  refine gm_ev.iload i179_92 rfl ?_
  refine gm_ev.icmp_lt_t (tgt := 99) i179_94 (by decide) c17 ?_
  refine gm_ev.iload_n i179_99 rfl ?_
  refine gm_ev.if_ne_t (tgt := 112) i179_100 (by decide) c18 ?_
  refine gm_ev.iload_n i179_112 rfl ?_
  refine gm_ev.iconst (v := 1) i179_113 (by decide) ?_
  refine gm_ev.icmp_ne_t (tgt := 126) i179_114 (by decide) c19 ?_
  refine gm_ev.aload_n i179_126 rfl ?_
  refine gm_ev.getfield (v := .ref (B + 21)) i179_127 rfl (bM_fld (j := 0) (fs := mF B s14) rfl rfl) ?_
  refine gm_ev.iload_n i179_130 rfl ?_
  refine gm_ev.laload i179_131 (bM_al (j := 21) (n := 201) (fl := s14.2.2 37) rfl ek20 lk20 (by decide)) ?_
  refine gm_ev.iload_n i179_132 rfl ?_
  refine gm_ev.bipush (v := 8) i179_133 (by decide) ?_
  refine gm_ev.icmp_le_f i179_135 c21 ?_
  refine gm_ev.bipush (v := 8) i179_138 (by decide) ?_
  refine gm_ev.goto (tgt := 144) i179_140 (by decide) ?_
  refine gm_ev.callS gm_mono_run (av := [.long (s14.2.2 37 k20), .int (8 : Int32)]) (r := []) i179_144 rfl rfl rfl (Nat.le_of_ble_eq_true rfl) t23 ?_
  refine gm_ev.istore (ls' := [some (.ref B), some (.int p0), some (.int p1), some (.int p2), some (.int (s14.1 30)), some (.int r22)]) i179_147 (Nat.le_of_ble_eq_true rfl) rfl ?_
  refine gm_ev.iload i179_149 rfl ?_
  refine gm_ev.if_ne_f i179_151 c24 ?_
  refine gm_ev.iconst (v := -1) i179_154 (by decide) ?_
  refine gm_ev.goto (tgt := 160) i179_155 (by decide) ?_
  exact gm_ev.iret i179_160 rfl
theorem r_letter_0_fffffftftfttftt {N0 : Nat} {K : Nat → Nat} {d B : Nat} {s : mS} {G : gm_H} {sz sl : Nat} {p0 : Int32} {p1 : Int32} {p2 : Int32} {r7 : Int32} {s11 : mS} {s14 : mS} {k20 : Nat} {r22 : Int32} (hN : N0 ≤ B) (c1 : ¬ p0 < 0) (c2 : ¬ (3 : Int32) < p0) (c3 : ¬ p1 < 0) (c4 : ¬ p2 < 0) (c5 : ¬ (s.1 5) = 0) (c6 : ¬ p0 ≤ (1 : Int32)) (t8 : gm_to N0 K ra_nm (ra_mt K) d 170 [.ref B, .int (p0 - (2 : Int32))] (bM B (mH B (mI s 0 (0 : Int32))) G) sz (.returned (some (.int r7)), bM B (mH B (mI s 0 (0 : Int32))) G, sz, 0)) (c9 : ¬ r7 = 0) (t10 : gm_to N0 K ra_nm (ra_mt K) d 161 [.ref B] (bM B (mH B (mI s 0 (0 : Int32))) G) sz (.returned none, bM B (mH B s11) G, sz, 0)) (c12 : ¬ p0 ≤ (1 : Int32)) (t13 : gm_to N0 K ra_nm (ra_mt K) d 171 [.ref B, .int (p0 - (2 : Int32))] (bM B (mH B s11) G) sz (.returned none, bM B (mH B s14) G, sz, 0)) (c15 : ¬ p0 = 0) (c16 : p0 = (1 : Int32)) (c17 : p1 < (s14.1 30)) (c18 : ¬ p0 = 0) (c19 : p0 = (1 : Int32)) (ek20 : p1 = nI k20) (lk20 : k20 < 24) (c21 : p2 ≤ (8 : Int32)) (t23 : gm_to N0 K ra_nm (ra_mt K) d 147 [.long (s14.2.2 29 k20), .int p2] (bM B (mH B s14) G) sz (.returned (some (.int r22)), bM B (mH B s14) G, sz, 0)) (c24 : ¬ r22 = 0) : gm_ev N0 K ra_nm (ra_mt K) d (some .int) (gm_I cX12_letter) (gm_lkf (lkX12 false K)) 0 [some (.ref B), some (.int p0), some (.int p1), some (.int p2), none, none] [] (bM B (mH B s) G) sz sl (.returned (some (.int r22)), (bM B (mH B s14) G), sz, sl) := by
  refine gm_ev.aload_n i179_0 rfl ?_
  refine gm_ev.iconst (v := 0) i179_1 (by decide) ?_
  refine gm_ev.putfield (M' := (bM B (mH B (mI s 0 (0 : Int32))) G)) i179_2 rfl (bM_put (j := 0) (fs := mF B s) rfl (Nat.le_of_ble_eq_true rfl) hN (gm_fit_i _) rfl) ?_
  refine gm_ev.iload_n i179_5 rfl ?_
  refine gm_ev.if_lt_f i179_6 c1 ?_
  refine gm_ev.iload_n i179_9 rfl ?_
  refine gm_ev.iconst (v := 3) i179_10 (by decide) ?_
  refine gm_ev.icmp_gt_f i179_11 c2 ?_
  refine gm_ev.iload_n i179_14 rfl ?_
  refine gm_ev.if_lt_f i179_15 c3 ?_
  refine gm_ev.iload_n i179_18 rfl ?_
  refine gm_ev.if_lt_f i179_19 c4 ?_
  refine gm_ev.aload_n i179_22 rfl ?_
  refine gm_ev.getfield (v := .int (s.1 5)) i179_23 rfl (bM_fld (j := 0) (fs := mF B (mI s 0 (0 : Int32))) rfl rfl) ?_
  refine gm_ev.if_eq_f i179_26 c5 ?_
  refine gm_ev.iload_n i179_29 rfl ?_
  refine gm_ev.iconst (v := 1) i179_30 (by decide) ?_
  refine gm_ev.icmp_le_f i179_31 c6 ?_
  refine gm_ev.aload_n i179_34 rfl ?_
  refine gm_ev.iload_n i179_35 rfl ?_
  refine gm_ev.iconst (v := 2) i179_36 (by decide) ?_
  refine gm_ev.isub i179_37 ?_
  refine gm_ev.callV gm_mono_run (av := [.int (p0 - (2 : Int32))]) (r := []) (ci := 11) (fs := mF B (mI s 0 (0 : Int32))) (bM_get (j := 0) rfl) i179_38 rfl rfl rfl (Nat.le_of_ble_eq_true rfl) t8 ?_
  refine gm_ev.if_ne_t (tgt := 46) i179_41 (by decide) c9 ?_
  refine gm_ev.aload_n i179_46 rfl ?_
  refine gm_ev.callV gm_mono_run (av := []) (r := []) (ci := 11) (fs := mF B (mI s 0 (0 : Int32))) (bM_get (j := 0) rfl) i179_47 rfl rfl rfl (Nat.le_of_ble_eq_true rfl) t10 ?_
  refine gm_ev.iload_n i179_50 rfl ?_
  refine gm_ev.iconst (v := 1) i179_51 (by decide) ?_
  refine gm_ev.icmp_le_f i179_52 c12 ?_
  refine gm_ev.aload_n i179_55 rfl ?_
  refine gm_ev.iload_n i179_56 rfl ?_
  refine gm_ev.iconst (v := 2) i179_57 (by decide) ?_
  refine gm_ev.isub i179_58 ?_
  refine gm_ev.callV gm_mono_run (av := [.int (p0 - (2 : Int32))]) (r := []) (ci := 11) (fs := mF B s11) (bM_get (j := 0) rfl) i179_59 rfl rfl rfl (Nat.le_of_ble_eq_true rfl) t13 ?_
  refine gm_ev.iload_n i179_62 rfl ?_
  refine gm_ev.if_ne_t (tgt := 73) i179_63 (by decide) c15 ?_
  refine gm_ev.iload_n i179_73 rfl ?_
  refine gm_ev.iconst (v := 1) i179_74 (by decide) ?_
  refine gm_ev.icmp_ne_f i179_75 c16 ?_
  refine gm_ev.aload_n i179_78 rfl ?_
  refine gm_ev.getfield (v := .int (s14.1 30)) i179_79 rfl (bM_fld (j := 0) (fs := mF B s14) rfl rfl) ?_
  refine gm_ev.goto (tgt := 89) i179_82 (by decide) ?_
  refine gm_ev.istore (ls' := [some (.ref B), some (.int p0), some (.int p1), some (.int p2), some (.int (s14.1 30)), none]) i179_89 (Nat.le_of_ble_eq_true rfl) rfl ?_
  refine gm_ev.iload_n i179_91 rfl ?_
  refine gm_ev.iload i179_92 rfl ?_
  refine gm_ev.icmp_lt_t (tgt := 99) i179_94 (by decide) c17 ?_
  refine gm_ev.iload_n i179_99 rfl ?_
  refine gm_ev.if_ne_t (tgt := 112) i179_100 (by decide) c18 ?_
  refine gm_ev.iload_n i179_112 rfl ?_
  refine gm_ev.iconst (v := 1) i179_113 (by decide) ?_
  refine gm_ev.icmp_ne_f i179_114 c19 ?_
  refine gm_ev.aload_n i179_117 rfl ?_
  refine gm_ev.getfield (v := .ref (B + 17)) i179_118 rfl (bM_fld (j := 0) (fs := mF B s14) rfl rfl) ?_
  refine gm_ev.iload_n i179_121 rfl ?_
  refine gm_ev.laload i179_122 (bM_al (j := 17) (n := 24) (fl := s14.2.2 29) rfl ek20 lk20 (by decide)) ?_
  refine gm_ev.goto (tgt := 132) i179_123 (by decide) ?_
  refine gm_ev.iload_n i179_132 rfl ?_
  refine gm_ev.bipush (v := 8) i179_133 (by decide) ?_
  refine gm_ev.icmp_le_t (tgt := 143) i179_135 (by decide) c21 ?_
  refine gm_ev.iload_n i179_143 rfl ?_
  refine gm_ev.callS gm_mono_run (av := [.long (s14.2.2 29 k20), .int p2]) (r := []) i179_144 rfl rfl rfl (Nat.le_of_ble_eq_true rfl) t23 ?_
  refine gm_ev.istore (ls' := [some (.ref B), some (.int p0), some (.int p1), some (.int p2), some (.int (s14.1 30)), some (.int r22)]) i179_147 (Nat.le_of_ble_eq_true rfl) rfl ?_
  refine gm_ev.iload i179_149 rfl ?_
  refine gm_ev.if_ne_t (tgt := 158) i179_151 (by decide) c24 ?_
  refine gm_ev.iload i179_158 rfl ?_
  exact gm_ev.iret i179_160 rfl
theorem r_letter_0_fffffftftfttftf {N0 : Nat} {K : Nat → Nat} {d B : Nat} {s : mS} {G : gm_H} {sz sl : Nat} {p0 : Int32} {p1 : Int32} {p2 : Int32} {r7 : Int32} {s11 : mS} {s14 : mS} {k20 : Nat} {r22 : Int32} (hN : N0 ≤ B) (c1 : ¬ p0 < 0) (c2 : ¬ (3 : Int32) < p0) (c3 : ¬ p1 < 0) (c4 : ¬ p2 < 0) (c5 : ¬ (s.1 5) = 0) (c6 : ¬ p0 ≤ (1 : Int32)) (t8 : gm_to N0 K ra_nm (ra_mt K) d 170 [.ref B, .int (p0 - (2 : Int32))] (bM B (mH B (mI s 0 (0 : Int32))) G) sz (.returned (some (.int r7)), bM B (mH B (mI s 0 (0 : Int32))) G, sz, 0)) (c9 : ¬ r7 = 0) (t10 : gm_to N0 K ra_nm (ra_mt K) d 161 [.ref B] (bM B (mH B (mI s 0 (0 : Int32))) G) sz (.returned none, bM B (mH B s11) G, sz, 0)) (c12 : ¬ p0 ≤ (1 : Int32)) (t13 : gm_to N0 K ra_nm (ra_mt K) d 171 [.ref B, .int (p0 - (2 : Int32))] (bM B (mH B s11) G) sz (.returned none, bM B (mH B s14) G, sz, 0)) (c15 : ¬ p0 = 0) (c16 : p0 = (1 : Int32)) (c17 : p1 < (s14.1 30)) (c18 : ¬ p0 = 0) (c19 : p0 = (1 : Int32)) (ek20 : p1 = nI k20) (lk20 : k20 < 24) (c21 : p2 ≤ (8 : Int32)) (t23 : gm_to N0 K ra_nm (ra_mt K) d 147 [.long (s14.2.2 29 k20), .int p2] (bM B (mH B s14) G) sz (.returned (some (.int r22)), bM B (mH B s14) G, sz, 0)) (c24 : r22 = 0) : gm_ev N0 K ra_nm (ra_mt K) d (some .int) (gm_I cX12_letter) (gm_lkf (lkX12 false K)) 0 [some (.ref B), some (.int p0), some (.int p1), some (.int p2), none, none] [] (bM B (mH B s) G) sz sl (.returned (some (.int (-1 : Int32))), (bM B (mH B s14) G), sz, sl) := by
  refine gm_ev.aload_n i179_0 rfl ?_
  refine gm_ev.iconst (v := 0) i179_1 (by decide) ?_
  refine gm_ev.putfield (M' := (bM B (mH B (mI s 0 (0 : Int32))) G)) i179_2 rfl (bM_put (j := 0) (fs := mF B s) rfl (Nat.le_of_ble_eq_true rfl) hN (gm_fit_i _) rfl) ?_
  refine gm_ev.iload_n i179_5 rfl ?_
  refine gm_ev.if_lt_f i179_6 c1 ?_
  refine gm_ev.iload_n i179_9 rfl ?_
  refine gm_ev.iconst (v := 3) i179_10 (by decide) ?_
  refine gm_ev.icmp_gt_f i179_11 c2 ?_
  refine gm_ev.iload_n i179_14 rfl ?_
  refine gm_ev.if_lt_f i179_15 c3 ?_
  refine gm_ev.iload_n i179_18 rfl ?_
  refine gm_ev.if_lt_f i179_19 c4 ?_
  refine gm_ev.aload_n i179_22 rfl ?_
  refine gm_ev.getfield (v := .int (s.1 5)) i179_23 rfl (bM_fld (j := 0) (fs := mF B (mI s 0 (0 : Int32))) rfl rfl) ?_
  refine gm_ev.if_eq_f i179_26 c5 ?_
  refine gm_ev.iload_n i179_29 rfl ?_
  refine gm_ev.iconst (v := 1) i179_30 (by decide) ?_
  refine gm_ev.icmp_le_f i179_31 c6 ?_
  refine gm_ev.aload_n i179_34 rfl ?_
  refine gm_ev.iload_n i179_35 rfl ?_
  refine gm_ev.iconst (v := 2) i179_36 (by decide) ?_
  refine gm_ev.isub i179_37 ?_
  refine gm_ev.callV gm_mono_run (av := [.int (p0 - (2 : Int32))]) (r := []) (ci := 11) (fs := mF B (mI s 0 (0 : Int32))) (bM_get (j := 0) rfl) i179_38 rfl rfl rfl (Nat.le_of_ble_eq_true rfl) t8 ?_
  refine gm_ev.if_ne_t (tgt := 46) i179_41 (by decide) c9 ?_
  refine gm_ev.aload_n i179_46 rfl ?_
  refine gm_ev.callV gm_mono_run (av := []) (r := []) (ci := 11) (fs := mF B (mI s 0 (0 : Int32))) (bM_get (j := 0) rfl) i179_47 rfl rfl rfl (Nat.le_of_ble_eq_true rfl) t10 ?_
  refine gm_ev.iload_n i179_50 rfl ?_
  refine gm_ev.iconst (v := 1) i179_51 (by decide) ?_
  refine gm_ev.icmp_le_f i179_52 c12 ?_
  refine gm_ev.aload_n i179_55 rfl ?_
  refine gm_ev.iload_n i179_56 rfl ?_
  refine gm_ev.iconst (v := 2) i179_57 (by decide) ?_
  refine gm_ev.isub i179_58 ?_
  refine gm_ev.callV gm_mono_run (av := [.int (p0 - (2 : Int32))]) (r := []) (ci := 11) (fs := mF B s11) (bM_get (j := 0) rfl) i179_59 rfl rfl rfl (Nat.le_of_ble_eq_true rfl) t13 ?_
  refine gm_ev.iload_n i179_62 rfl ?_
  refine gm_ev.if_ne_t (tgt := 73) i179_63 (by decide) c15 ?_
  refine gm_ev.iload_n i179_73 rfl ?_
  refine gm_ev.iconst (v := 1) i179_74 (by decide) ?_
  refine gm_ev.icmp_ne_f i179_75 c16 ?_
  refine gm_ev.aload_n i179_78 rfl ?_
  refine gm_ev.getfield (v := .int (s14.1 30)) i179_79 rfl (bM_fld (j := 0) (fs := mF B s14) rfl rfl) ?_
  refine gm_ev.goto (tgt := 89) i179_82 (by decide) ?_
  refine gm_ev.istore (ls' := [some (.ref B), some (.int p0), some (.int p1), some (.int p2), some (.int (s14.1 30)), none]) i179_89 (Nat.le_of_ble_eq_true rfl) rfl ?_
  refine gm_ev.iload_n i179_91 rfl ?_
  refine gm_ev.iload i179_92 rfl ?_
  refine gm_ev.icmp_lt_t (tgt := 99) i179_94 (by decide) c17 ?_
  refine gm_ev.iload_n i179_99 rfl ?_
  refine gm_ev.if_ne_t (tgt := 112) i179_100 (by decide) c18 ?_
  refine gm_ev.iload_n i179_112 rfl ?_
  refine gm_ev.iconst (v := 1) i179_113 (by decide) ?_
  refine gm_ev.icmp_ne_f i179_114 c19 ?_
  refine gm_ev.aload_n i179_117 rfl ?_
  refine gm_ev.getfield (v := .ref (B + 17)) i179_118 rfl (bM_fld (j := 0) (fs := mF B s14) rfl rfl) ?_
  refine gm_ev.iload_n i179_121 rfl ?_
  refine gm_ev.laload i179_122 (bM_al (j := 17) (n := 24) (fl := s14.2.2 29) rfl ek20 lk20 (by decide)) ?_
  refine gm_ev.goto (tgt := 132) i179_123 (by decide) ?_
  refine gm_ev.iload_n i179_132 rfl ?_
  refine gm_ev.bipush (v := 8) i179_133 (by decide) ?_
  refine gm_ev.icmp_le_t (tgt := 143) i179_135 (by decide) c21 ?_
  refine gm_ev.iload_n i179_143 rfl ?_
  refine gm_ev.callS gm_mono_run (av := [.long (s14.2.2 29 k20), .int p2]) (r := []) i179_144 rfl rfl rfl (Nat.le_of_ble_eq_true rfl) t23 ?_
  refine gm_ev.istore (ls' := [some (.ref B), some (.int p0), some (.int p1), some (.int p2), some (.int (s14.1 30)), some (.int r22)]) i179_147 (Nat.le_of_ble_eq_true rfl) rfl ?_
  refine gm_ev.iload i179_149 rfl ?_
  refine gm_ev.if_ne_f i179_151 c24 ?_
  refine gm_ev.iconst (v := -1) i179_154 (by decide) ?_
  refine gm_ev.goto (tgt := 160) i179_155 (by decide) ?_
  exact gm_ev.iret i179_160 rfl
theorem r_letter_0_fffffftftfttfft {N0 : Nat} {K : Nat → Nat} {d B : Nat} {s : mS} {G : gm_H} {sz sl : Nat} {p0 : Int32} {p1 : Int32} {p2 : Int32} {r7 : Int32} {s11 : mS} {s14 : mS} {k20 : Nat} {r22 : Int32} (hN : N0 ≤ B) (c1 : ¬ p0 < 0) (c2 : ¬ (3 : Int32) < p0) (c3 : ¬ p1 < 0) (c4 : ¬ p2 < 0) (c5 : ¬ (s.1 5) = 0) (c6 : ¬ p0 ≤ (1 : Int32)) (t8 : gm_to N0 K ra_nm (ra_mt K) d 170 [.ref B, .int (p0 - (2 : Int32))] (bM B (mH B (mI s 0 (0 : Int32))) G) sz (.returned (some (.int r7)), bM B (mH B (mI s 0 (0 : Int32))) G, sz, 0)) (c9 : ¬ r7 = 0) (t10 : gm_to N0 K ra_nm (ra_mt K) d 161 [.ref B] (bM B (mH B (mI s 0 (0 : Int32))) G) sz (.returned none, bM B (mH B s11) G, sz, 0)) (c12 : ¬ p0 ≤ (1 : Int32)) (t13 : gm_to N0 K ra_nm (ra_mt K) d 171 [.ref B, .int (p0 - (2 : Int32))] (bM B (mH B s11) G) sz (.returned none, bM B (mH B s14) G, sz, 0)) (c15 : ¬ p0 = 0) (c16 : p0 = (1 : Int32)) (c17 : p1 < (s14.1 30)) (c18 : ¬ p0 = 0) (c19 : p0 = (1 : Int32)) (ek20 : p1 = nI k20) (lk20 : k20 < 24) (c21 : ¬ p2 ≤ (8 : Int32)) (t23 : gm_to N0 K ra_nm (ra_mt K) d 147 [.long (s14.2.2 29 k20), .int (8 : Int32)] (bM B (mH B s14) G) sz (.returned (some (.int r22)), bM B (mH B s14) G, sz, 0)) (c24 : ¬ r22 = 0) : gm_ev N0 K ra_nm (ra_mt K) d (some .int) (gm_I cX12_letter) (gm_lkf (lkX12 false K)) 0 [some (.ref B), some (.int p0), some (.int p1), some (.int p2), none, none] [] (bM B (mH B s) G) sz sl (.returned (some (.int r22)), (bM B (mH B s14) G), sz, sl) := by
  refine gm_ev.aload_n i179_0 rfl ?_
  refine gm_ev.iconst (v := 0) i179_1 (by decide) ?_
  refine gm_ev.putfield (M' := (bM B (mH B (mI s 0 (0 : Int32))) G)) i179_2 rfl (bM_put (j := 0) (fs := mF B s) rfl (Nat.le_of_ble_eq_true rfl) hN (gm_fit_i _) rfl) ?_
  refine gm_ev.iload_n i179_5 rfl ?_
  refine gm_ev.if_lt_f i179_6 c1 ?_
  refine gm_ev.iload_n i179_9 rfl ?_
  refine gm_ev.iconst (v := 3) i179_10 (by decide) ?_
  refine gm_ev.icmp_gt_f i179_11 c2 ?_
  refine gm_ev.iload_n i179_14 rfl ?_
  refine gm_ev.if_lt_f i179_15 c3 ?_
  refine gm_ev.iload_n i179_18 rfl ?_
  refine gm_ev.if_lt_f i179_19 c4 ?_
  refine gm_ev.aload_n i179_22 rfl ?_
  refine gm_ev.getfield (v := .int (s.1 5)) i179_23 rfl (bM_fld (j := 0) (fs := mF B (mI s 0 (0 : Int32))) rfl rfl) ?_
  refine gm_ev.if_eq_f i179_26 c5 ?_
  refine gm_ev.iload_n i179_29 rfl ?_
  refine gm_ev.iconst (v := 1) i179_30 (by decide) ?_
  refine gm_ev.icmp_le_f i179_31 c6 ?_
  refine gm_ev.aload_n i179_34 rfl ?_
  refine gm_ev.iload_n i179_35 rfl ?_
  refine gm_ev.iconst (v := 2) i179_36 (by decide) ?_
  refine gm_ev.isub i179_37 ?_
  refine gm_ev.callV gm_mono_run (av := [.int (p0 - (2 : Int32))]) (r := []) (ci := 11) (fs := mF B (mI s 0 (0 : Int32))) (bM_get (j := 0) rfl) i179_38 rfl rfl rfl (Nat.le_of_ble_eq_true rfl) t8 ?_
  refine gm_ev.if_ne_t (tgt := 46) i179_41 (by decide) c9 ?_
  refine gm_ev.aload_n i179_46 rfl ?_
  refine gm_ev.callV gm_mono_run (av := []) (r := []) (ci := 11) (fs := mF B (mI s 0 (0 : Int32))) (bM_get (j := 0) rfl) i179_47 rfl rfl rfl (Nat.le_of_ble_eq_true rfl) t10 ?_
  refine gm_ev.iload_n i179_50 rfl ?_
  refine gm_ev.iconst (v := 1) i179_51 (by decide) ?_
  refine gm_ev.icmp_le_f i179_52 c12 ?_
  refine gm_ev.aload_n i179_55 rfl ?_
  refine gm_ev.iload_n i179_56 rfl ?_
  refine gm_ev.iconst (v := 2) i179_57 (by decide) ?_
  refine gm_ev.isub i179_58 ?_
  refine gm_ev.callV gm_mono_run (av := [.int (p0 - (2 : Int32))]) (r := []) (ci := 11) (fs := mF B s11) (bM_get (j := 0) rfl) i179_59 rfl rfl rfl (Nat.le_of_ble_eq_true rfl) t13 ?_
  refine gm_ev.iload_n i179_62 rfl ?_
  refine gm_ev.if_ne_t (tgt := 73) i179_63 (by decide) c15 ?_
  refine gm_ev.iload_n i179_73 rfl ?_
  refine gm_ev.iconst (v := 1) i179_74 (by decide) ?_
  refine gm_ev.icmp_ne_f i179_75 c16 ?_
  refine gm_ev.aload_n i179_78 rfl ?_
  refine gm_ev.getfield (v := .int (s14.1 30)) i179_79 rfl (bM_fld (j := 0) (fs := mF B s14) rfl rfl) ?_
  refine gm_ev.goto (tgt := 89) i179_82 (by decide) ?_
  refine gm_ev.istore (ls' := [some (.ref B), some (.int p0), some (.int p1), some (.int p2), some (.int (s14.1 30)), none]) i179_89 (Nat.le_of_ble_eq_true rfl) rfl ?_
  refine gm_ev.iload_n i179_91 rfl ?_
  refine gm_ev.iload i179_92 rfl ?_
  refine gm_ev.icmp_lt_t (tgt := 99) i179_94 (by decide) c17 ?_
  refine gm_ev.iload_n i179_99 rfl ?_
  refine gm_ev.if_ne_t (tgt := 112) i179_100 (by decide) c18 ?_
  refine gm_ev.iload_n i179_112 rfl ?_
  refine gm_ev.iconst (v := 1) i179_113 (by decide) ?_
  refine gm_ev.icmp_ne_f i179_114 c19 ?_
  refine gm_ev.aload_n i179_117 rfl ?_
  refine gm_ev.getfield (v := .ref (B + 17)) i179_118 rfl (bM_fld (j := 0) (fs := mF B s14) rfl rfl) ?_
  refine gm_ev.iload_n i179_121 rfl ?_
  refine gm_ev.laload i179_122 (bM_al (j := 17) (n := 24) (fl := s14.2.2 29) rfl ek20 lk20 (by decide)) ?_
  refine gm_ev.goto (tgt := 132) i179_123 (by decide) ?_
  refine gm_ev.iload_n i179_132 rfl ?_
  refine gm_ev.bipush (v := 8) i179_133 (by decide) ?_
  refine gm_ev.icmp_le_f i179_135 c21 ?_
  refine gm_ev.bipush (v := 8) i179_138 (by decide) ?_
  refine gm_ev.goto (tgt := 144) i179_140 (by decide) ?_
  refine gm_ev.callS gm_mono_run (av := [.long (s14.2.2 29 k20), .int (8 : Int32)]) (r := []) i179_144 rfl rfl rfl (Nat.le_of_ble_eq_true rfl) t23 ?_
  refine gm_ev.istore (ls' := [some (.ref B), some (.int p0), some (.int p1), some (.int p2), some (.int (s14.1 30)), some (.int r22)]) i179_147 (Nat.le_of_ble_eq_true rfl) rfl ?_
  refine gm_ev.iload i179_149 rfl ?_
  refine gm_ev.if_ne_t (tgt := 158) i179_151 (by decide) c24 ?_
  refine gm_ev.iload i179_158 rfl ?_
  exact gm_ev.iret i179_160 rfl
theorem r_letter_0_fffffftftfttfff {N0 : Nat} {K : Nat → Nat} {d B : Nat} {s : mS} {G : gm_H} {sz sl : Nat} {p0 : Int32} {p1 : Int32} {p2 : Int32} {r7 : Int32} {s11 : mS} {s14 : mS} {k20 : Nat} {r22 : Int32} (hN : N0 ≤ B) (c1 : ¬ p0 < 0) (c2 : ¬ (3 : Int32) < p0) (c3 : ¬ p1 < 0) (c4 : ¬ p2 < 0) (c5 : ¬ (s.1 5) = 0) (c6 : ¬ p0 ≤ (1 : Int32)) (t8 : gm_to N0 K ra_nm (ra_mt K) d 170 [.ref B, .int (p0 - (2 : Int32))] (bM B (mH B (mI s 0 (0 : Int32))) G) sz (.returned (some (.int r7)), bM B (mH B (mI s 0 (0 : Int32))) G, sz, 0)) (c9 : ¬ r7 = 0) (t10 : gm_to N0 K ra_nm (ra_mt K) d 161 [.ref B] (bM B (mH B (mI s 0 (0 : Int32))) G) sz (.returned none, bM B (mH B s11) G, sz, 0)) (c12 : ¬ p0 ≤ (1 : Int32)) (t13 : gm_to N0 K ra_nm (ra_mt K) d 171 [.ref B, .int (p0 - (2 : Int32))] (bM B (mH B s11) G) sz (.returned none, bM B (mH B s14) G, sz, 0)) (c15 : ¬ p0 = 0) (c16 : p0 = (1 : Int32)) (c17 : p1 < (s14.1 30)) (c18 : ¬ p0 = 0) (c19 : p0 = (1 : Int32)) (ek20 : p1 = nI k20) (lk20 : k20 < 24) (c21 : ¬ p2 ≤ (8 : Int32)) (t23 : gm_to N0 K ra_nm (ra_mt K) d 147 [.long (s14.2.2 29 k20), .int (8 : Int32)] (bM B (mH B s14) G) sz (.returned (some (.int r22)), bM B (mH B s14) G, sz, 0)) (c24 : r22 = 0) : gm_ev N0 K ra_nm (ra_mt K) d (some .int) (gm_I cX12_letter) (gm_lkf (lkX12 false K)) 0 [some (.ref B), some (.int p0), some (.int p1), some (.int p2), none, none] [] (bM B (mH B s) G) sz sl (.returned (some (.int (-1 : Int32))), (bM B (mH B s14) G), sz, sl) := by
  refine gm_ev.aload_n i179_0 rfl ?_
  refine gm_ev.iconst (v := 0) i179_1 (by decide) ?_
  refine gm_ev.putfield (M' := (bM B (mH B (mI s 0 (0 : Int32))) G)) i179_2 rfl (bM_put (j := 0) (fs := mF B s) rfl (Nat.le_of_ble_eq_true rfl) hN (gm_fit_i _) rfl) ?_
  refine gm_ev.iload_n i179_5 rfl ?_
  refine gm_ev.if_lt_f i179_6 c1 ?_
  refine gm_ev.iload_n i179_9 rfl ?_
  refine gm_ev.iconst (v := 3) i179_10 (by decide) ?_
  refine gm_ev.icmp_gt_f i179_11 c2 ?_
  refine gm_ev.iload_n i179_14 rfl ?_
  refine gm_ev.if_lt_f i179_15 c3 ?_
  refine gm_ev.iload_n i179_18 rfl ?_
  refine gm_ev.if_lt_f i179_19 c4 ?_
  refine gm_ev.aload_n i179_22 rfl ?_
  refine gm_ev.getfield (v := .int (s.1 5)) i179_23 rfl (bM_fld (j := 0) (fs := mF B (mI s 0 (0 : Int32))) rfl rfl) ?_
  refine gm_ev.if_eq_f i179_26 c5 ?_
  refine gm_ev.iload_n i179_29 rfl ?_
  refine gm_ev.iconst (v := 1) i179_30 (by decide) ?_
  refine gm_ev.icmp_le_f i179_31 c6 ?_
  refine gm_ev.aload_n i179_34 rfl ?_
  refine gm_ev.iload_n i179_35 rfl ?_
  refine gm_ev.iconst (v := 2) i179_36 (by decide) ?_
  refine gm_ev.isub i179_37 ?_
  refine gm_ev.callV gm_mono_run (av := [.int (p0 - (2 : Int32))]) (r := []) (ci := 11) (fs := mF B (mI s 0 (0 : Int32))) (bM_get (j := 0) rfl) i179_38 rfl rfl rfl (Nat.le_of_ble_eq_true rfl) t8 ?_
  refine gm_ev.if_ne_t (tgt := 46) i179_41 (by decide) c9 ?_
  refine gm_ev.aload_n i179_46 rfl ?_
  refine gm_ev.callV gm_mono_run (av := []) (r := []) (ci := 11) (fs := mF B (mI s 0 (0 : Int32))) (bM_get (j := 0) rfl) i179_47 rfl rfl rfl (Nat.le_of_ble_eq_true rfl) t10 ?_
  refine gm_ev.iload_n i179_50 rfl ?_
  refine gm_ev.iconst (v := 1) i179_51 (by decide) ?_
  refine gm_ev.icmp_le_f i179_52 c12 ?_
  refine gm_ev.aload_n i179_55 rfl ?_
  refine gm_ev.iload_n i179_56 rfl ?_
  refine gm_ev.iconst (v := 2) i179_57 (by decide) ?_
  refine gm_ev.isub i179_58 ?_
  refine gm_ev.callV gm_mono_run (av := [.int (p0 - (2 : Int32))]) (r := []) (ci := 11) (fs := mF B s11) (bM_get (j := 0) rfl) i179_59 rfl rfl rfl (Nat.le_of_ble_eq_true rfl) t13 ?_
  refine gm_ev.iload_n i179_62 rfl ?_
  refine gm_ev.if_ne_t (tgt := 73) i179_63 (by decide) c15 ?_
  refine gm_ev.iload_n i179_73 rfl ?_
  refine gm_ev.iconst (v := 1) i179_74 (by decide) ?_
  refine gm_ev.icmp_ne_f i179_75 c16 ?_
  refine gm_ev.aload_n i179_78 rfl ?_
  refine gm_ev.getfield (v := .int (s14.1 30)) i179_79 rfl (bM_fld (j := 0) (fs := mF B s14) rfl rfl) ?_
  refine gm_ev.goto (tgt := 89) i179_82 (by decide) ?_
  refine gm_ev.istore (ls' := [some (.ref B), some (.int p0), some (.int p1), some (.int p2), some (.int (s14.1 30)), none]) i179_89 (Nat.le_of_ble_eq_true rfl) rfl ?_
  refine gm_ev.iload_n i179_91 rfl ?_
  refine gm_ev.iload i179_92 rfl ?_
  refine gm_ev.icmp_lt_t (tgt := 99) i179_94 (by decide) c17 ?_
  refine gm_ev.iload_n i179_99 rfl ?_
  refine gm_ev.if_ne_t (tgt := 112) i179_100 (by decide) c18 ?_
  refine gm_ev.iload_n i179_112 rfl ?_
  refine gm_ev.iconst (v := 1) i179_113 (by decide) ?_
  refine gm_ev.icmp_ne_f i179_114 c19 ?_
  refine gm_ev.aload_n i179_117 rfl ?_
  refine gm_ev.getfield (v := .ref (B + 17)) i179_118 rfl (bM_fld (j := 0) (fs := mF B s14) rfl rfl) ?_
  refine gm_ev.iload_n i179_121 rfl ?_
  refine gm_ev.laload i179_122 (bM_al (j := 17) (n := 24) (fl := s14.2.2 29) rfl ek20 lk20 (by decide)) ?_
  refine gm_ev.goto (tgt := 132) i179_123 (by decide) ?_
  refine gm_ev.iload_n i179_132 rfl ?_
  refine gm_ev.bipush (v := 8) i179_133 (by decide) ?_
  refine gm_ev.icmp_le_f i179_135 c21 ?_
  refine gm_ev.bipush (v := 8) i179_138 (by decide) ?_
  refine gm_ev.goto (tgt := 144) i179_140 (by decide) ?_
  refine gm_ev.callS gm_mono_run (av := [.long (s14.2.2 29 k20), .int (8 : Int32)]) (r := []) i179_144 rfl rfl rfl (Nat.le_of_ble_eq_true rfl) t23 ?_
  refine gm_ev.istore (ls' := [some (.ref B), some (.int p0), some (.int p1), some (.int p2), some (.int (s14.1 30)), some (.int r22)]) i179_147 (Nat.le_of_ble_eq_true rfl) rfl ?_
  refine gm_ev.iload i179_149 rfl ?_
  refine gm_ev.if_ne_f i179_151 c24 ?_
  refine gm_ev.iconst (v := -1) i179_154 (by decide) ?_
  refine gm_ev.goto (tgt := 160) i179_155 (by decide) ?_
  exact gm_ev.iret i179_160 rfl
theorem r_letter_0_fffffftftftftt {N0 : Nat} {K : Nat → Nat} {d B : Nat} {s : mS} {G : gm_H} {sz sl : Nat} {p0 : Int32} {p1 : Int32} {p2 : Int32} {r7 : Int32} {s11 : mS} {s14 : mS} {k19 : Nat} {r21 : Int32} (hN : N0 ≤ B) (c1 : ¬ p0 < 0) (c2 : ¬ (3 : Int32) < p0) (c3 : ¬ p1 < 0) (c4 : ¬ p2 < 0) (c5 : ¬ (s.1 5) = 0) (c6 : ¬ p0 ≤ (1 : Int32)) (t8 : gm_to N0 K ra_nm (ra_mt K) d 170 [.ref B, .int (p0 - (2 : Int32))] (bM B (mH B (mI s 0 (0 : Int32))) G) sz (.returned (some (.int r7)), bM B (mH B (mI s 0 (0 : Int32))) G, sz, 0)) (c9 : ¬ r7 = 0) (t10 : gm_to N0 K ra_nm (ra_mt K) d 161 [.ref B] (bM B (mH B (mI s 0 (0 : Int32))) G) sz (.returned none, bM B (mH B s11) G, sz, 0)) (c12 : ¬ p0 ≤ (1 : Int32)) (t13 : gm_to N0 K ra_nm (ra_mt K) d 171 [.ref B, .int (p0 - (2 : Int32))] (bM B (mH B s11) G) sz (.returned none, bM B (mH B s14) G, sz, 0)) (c15 : ¬ p0 = 0) (c16 : p0 = (1 : Int32)) (c17 : p1 < (s14.1 30)) (c18 : p0 = 0) (ek19 : p1 = nI k19) (lk19 : k19 < 24) (c20 : p2 ≤ (8 : Int32)) (t22 : gm_to N0 K ra_nm (ra_mt K) d 147 [.long (s14.2.2 35 k19), .int p2] (bM B (mH B s14) G) sz (.returned (some (.int r21)), bM B (mH B s14) G, sz, 0)) (c23 : ¬ r21 = 0) : gm_ev N0 K ra_nm (ra_mt K) d (some .int) (gm_I cX12_letter) (gm_lkf (lkX12 false K)) 0 [some (.ref B), some (.int p0), some (.int p1), some (.int p2), none, none] [] (bM B (mH B s) G) sz sl (.returned (some (.int r21)), (bM B (mH B s14) G), sz, sl) := by
  refine gm_ev.aload_n i179_0 rfl ?_
  refine gm_ev.iconst (v := 0) i179_1 (by decide) ?_
  refine gm_ev.putfield (M' := (bM B (mH B (mI s 0 (0 : Int32))) G)) i179_2 rfl (bM_put (j := 0) (fs := mF B s) rfl (Nat.le_of_ble_eq_true rfl) hN (gm_fit_i _) rfl) ?_
  refine gm_ev.iload_n i179_5 rfl ?_
  refine gm_ev.if_lt_f i179_6 c1 ?_
  refine gm_ev.iload_n i179_9 rfl ?_
  refine gm_ev.iconst (v := 3) i179_10 (by decide) ?_
  refine gm_ev.icmp_gt_f i179_11 c2 ?_
  refine gm_ev.iload_n i179_14 rfl ?_
  refine gm_ev.if_lt_f i179_15 c3 ?_
  refine gm_ev.iload_n i179_18 rfl ?_
  refine gm_ev.if_lt_f i179_19 c4 ?_
  refine gm_ev.aload_n i179_22 rfl ?_
  refine gm_ev.getfield (v := .int (s.1 5)) i179_23 rfl (bM_fld (j := 0) (fs := mF B (mI s 0 (0 : Int32))) rfl rfl) ?_
  refine gm_ev.if_eq_f i179_26 c5 ?_
  refine gm_ev.iload_n i179_29 rfl ?_
  refine gm_ev.iconst (v := 1) i179_30 (by decide) ?_
  refine gm_ev.icmp_le_f i179_31 c6 ?_
  refine gm_ev.aload_n i179_34 rfl ?_
  refine gm_ev.iload_n i179_35 rfl ?_
  refine gm_ev.iconst (v := 2) i179_36 (by decide) ?_
  refine gm_ev.isub i179_37 ?_
  refine gm_ev.callV gm_mono_run (av := [.int (p0 - (2 : Int32))]) (r := []) (ci := 11) (fs := mF B (mI s 0 (0 : Int32))) (bM_get (j := 0) rfl) i179_38 rfl rfl rfl (Nat.le_of_ble_eq_true rfl) t8 ?_
  refine gm_ev.if_ne_t (tgt := 46) i179_41 (by decide) c9 ?_
  refine gm_ev.aload_n i179_46 rfl ?_
  refine gm_ev.callV gm_mono_run (av := []) (r := []) (ci := 11) (fs := mF B (mI s 0 (0 : Int32))) (bM_get (j := 0) rfl) i179_47 rfl rfl rfl (Nat.le_of_ble_eq_true rfl) t10 ?_
  refine gm_ev.iload_n i179_50 rfl ?_
  refine gm_ev.iconst (v := 1) i179_51 (by decide) ?_
  refine gm_ev.icmp_le_f i179_52 c12 ?_
  refine gm_ev.aload_n i179_55 rfl ?_
  refine gm_ev.iload_n i179_56 rfl ?_
  refine gm_ev.iconst (v := 2) i179_57 (by decide) ?_
  refine gm_ev.isub i179_58 ?_
  refine gm_ev.callV gm_mono_run (av := [.int (p0 - (2 : Int32))]) (r := []) (ci := 11) (fs := mF B s11) (bM_get (j := 0) rfl) i179_59 rfl rfl rfl (Nat.le_of_ble_eq_true rfl) t13 ?_
  refine gm_ev.iload_n i179_62 rfl ?_
  refine gm_ev.if_ne_t (tgt := 73) i179_63 (by decide) c15 ?_
  refine gm_ev.iload_n i179_73 rfl ?_
  refine gm_ev.iconst (v := 1) i179_74 (by decide) ?_
  refine gm_ev.icmp_ne_f i179_75 c16 ?_
  refine gm_ev.aload_n i179_78 rfl ?_
  refine gm_ev.getfield (v := .int (s14.1 30)) i179_79 rfl (bM_fld (j := 0) (fs := mF B s14) rfl rfl) ?_
  refine gm_ev.goto (tgt := 89) i179_82 (by decide) ?_
  refine gm_ev.istore (ls' := [some (.ref B), some (.int p0), some (.int p1), some (.int p2), some (.int (s14.1 30)), none]) i179_89 (Nat.le_of_ble_eq_true rfl) rfl ?_
  refine gm_ev.iload_n i179_91 rfl ?_
  refine gm_ev.iload i179_92 rfl ?_
  refine gm_ev.icmp_lt_t (tgt := 99) i179_94 (by decide) c17 ?_
  refine gm_ev.iload_n i179_99 rfl ?_
  refine gm_ev.if_ne_f i179_100 c18 ?_
  refine gm_ev.aload_n i179_103 rfl ?_
  refine gm_ev.getfield (v := .ref (B + 20)) i179_104 rfl (bM_fld (j := 0) (fs := mF B s14) rfl rfl) ?_
  refine gm_ev.iload_n i179_107 rfl ?_
  refine gm_ev.laload i179_108 (bM_al (j := 20) (n := 24) (fl := s14.2.2 35) rfl ek19 lk19 (by decide)) ?_
  refine gm_ev.goto (tgt := 132) i179_109 (by decide) ?_
  refine gm_ev.iload_n i179_132 rfl ?_
  refine gm_ev.bipush (v := 8) i179_133 (by decide) ?_
  refine gm_ev.icmp_le_t (tgt := 143) i179_135 (by decide) c20 ?_
  refine gm_ev.iload_n i179_143 rfl ?_
  refine gm_ev.callS gm_mono_run (av := [.long (s14.2.2 35 k19), .int p2]) (r := []) i179_144 rfl rfl rfl (Nat.le_of_ble_eq_true rfl) t22 ?_
  refine gm_ev.istore (ls' := [some (.ref B), some (.int p0), some (.int p1), some (.int p2), some (.int (s14.1 30)), some (.int r21)]) i179_147 (Nat.le_of_ble_eq_true rfl) rfl ?_
  refine gm_ev.iload i179_149 rfl ?_
  refine gm_ev.if_ne_t (tgt := 158) i179_151 (by decide) c23 ?_
  refine gm_ev.iload i179_158 rfl ?_
  exact gm_ev.iret i179_160 rfl
theorem r_letter_0_fffffftftftftf {N0 : Nat} {K : Nat → Nat} {d B : Nat} {s : mS} {G : gm_H} {sz sl : Nat} {p0 : Int32} {p1 : Int32} {p2 : Int32} {r7 : Int32} {s11 : mS} {s14 : mS} {k19 : Nat} {r21 : Int32} (hN : N0 ≤ B) (c1 : ¬ p0 < 0) (c2 : ¬ (3 : Int32) < p0) (c3 : ¬ p1 < 0) (c4 : ¬ p2 < 0) (c5 : ¬ (s.1 5) = 0) (c6 : ¬ p0 ≤ (1 : Int32)) (t8 : gm_to N0 K ra_nm (ra_mt K) d 170 [.ref B, .int (p0 - (2 : Int32))] (bM B (mH B (mI s 0 (0 : Int32))) G) sz (.returned (some (.int r7)), bM B (mH B (mI s 0 (0 : Int32))) G, sz, 0)) (c9 : ¬ r7 = 0) (t10 : gm_to N0 K ra_nm (ra_mt K) d 161 [.ref B] (bM B (mH B (mI s 0 (0 : Int32))) G) sz (.returned none, bM B (mH B s11) G, sz, 0)) (c12 : ¬ p0 ≤ (1 : Int32)) (t13 : gm_to N0 K ra_nm (ra_mt K) d 171 [.ref B, .int (p0 - (2 : Int32))] (bM B (mH B s11) G) sz (.returned none, bM B (mH B s14) G, sz, 0)) (c15 : ¬ p0 = 0) (c16 : p0 = (1 : Int32)) (c17 : p1 < (s14.1 30)) (c18 : p0 = 0) (ek19 : p1 = nI k19) (lk19 : k19 < 24) (c20 : p2 ≤ (8 : Int32)) (t22 : gm_to N0 K ra_nm (ra_mt K) d 147 [.long (s14.2.2 35 k19), .int p2] (bM B (mH B s14) G) sz (.returned (some (.int r21)), bM B (mH B s14) G, sz, 0)) (c23 : r21 = 0) : gm_ev N0 K ra_nm (ra_mt K) d (some .int) (gm_I cX12_letter) (gm_lkf (lkX12 false K)) 0 [some (.ref B), some (.int p0), some (.int p1), some (.int p2), none, none] [] (bM B (mH B s) G) sz sl (.returned (some (.int (-1 : Int32))), (bM B (mH B s14) G), sz, sl) := by
  refine gm_ev.aload_n i179_0 rfl ?_
  refine gm_ev.iconst (v := 0) i179_1 (by decide) ?_
  refine gm_ev.putfield (M' := (bM B (mH B (mI s 0 (0 : Int32))) G)) i179_2 rfl (bM_put (j := 0) (fs := mF B s) rfl (Nat.le_of_ble_eq_true rfl) hN (gm_fit_i _) rfl) ?_
  refine gm_ev.iload_n i179_5 rfl ?_
  refine gm_ev.if_lt_f i179_6 c1 ?_
  refine gm_ev.iload_n i179_9 rfl ?_
  refine gm_ev.iconst (v := 3) i179_10 (by decide) ?_
  refine gm_ev.icmp_gt_f i179_11 c2 ?_
  refine gm_ev.iload_n i179_14 rfl ?_
  refine gm_ev.if_lt_f i179_15 c3 ?_
  refine gm_ev.iload_n i179_18 rfl ?_
  refine gm_ev.if_lt_f i179_19 c4 ?_
  refine gm_ev.aload_n i179_22 rfl ?_
  refine gm_ev.getfield (v := .int (s.1 5)) i179_23 rfl (bM_fld (j := 0) (fs := mF B (mI s 0 (0 : Int32))) rfl rfl) ?_
  refine gm_ev.if_eq_f i179_26 c5 ?_
  refine gm_ev.iload_n i179_29 rfl ?_
  refine gm_ev.iconst (v := 1) i179_30 (by decide) ?_
  refine gm_ev.icmp_le_f i179_31 c6 ?_
  refine gm_ev.aload_n i179_34 rfl ?_
  refine gm_ev.iload_n i179_35 rfl ?_
  refine gm_ev.iconst (v := 2) i179_36 (by decide) ?_
  refine gm_ev.isub i179_37 ?_
  refine gm_ev.callV gm_mono_run (av := [.int (p0 - (2 : Int32))]) (r := []) (ci := 11) (fs := mF B (mI s 0 (0 : Int32))) (bM_get (j := 0) rfl) i179_38 rfl rfl rfl (Nat.le_of_ble_eq_true rfl) t8 ?_
  refine gm_ev.if_ne_t (tgt := 46) i179_41 (by decide) c9 ?_
  refine gm_ev.aload_n i179_46 rfl ?_
  refine gm_ev.callV gm_mono_run (av := []) (r := []) (ci := 11) (fs := mF B (mI s 0 (0 : Int32))) (bM_get (j := 0) rfl) i179_47 rfl rfl rfl (Nat.le_of_ble_eq_true rfl) t10 ?_
  refine gm_ev.iload_n i179_50 rfl ?_
  refine gm_ev.iconst (v := 1) i179_51 (by decide) ?_
  refine gm_ev.icmp_le_f i179_52 c12 ?_
  refine gm_ev.aload_n i179_55 rfl ?_
  refine gm_ev.iload_n i179_56 rfl ?_
  refine gm_ev.iconst (v := 2) i179_57 (by decide) ?_
  refine gm_ev.isub i179_58 ?_
  refine gm_ev.callV gm_mono_run (av := [.int (p0 - (2 : Int32))]) (r := []) (ci := 11) (fs := mF B s11) (bM_get (j := 0) rfl) i179_59 rfl rfl rfl (Nat.le_of_ble_eq_true rfl) t13 ?_
  refine gm_ev.iload_n i179_62 rfl ?_
  refine gm_ev.if_ne_t (tgt := 73) i179_63 (by decide) c15 ?_
  refine gm_ev.iload_n i179_73 rfl ?_
  refine gm_ev.iconst (v := 1) i179_74 (by decide) ?_
  refine gm_ev.icmp_ne_f i179_75 c16 ?_
  refine gm_ev.aload_n i179_78 rfl ?_
  refine gm_ev.getfield (v := .int (s14.1 30)) i179_79 rfl (bM_fld (j := 0) (fs := mF B s14) rfl rfl) ?_
  refine gm_ev.goto (tgt := 89) i179_82 (by decide) ?_
  refine gm_ev.istore (ls' := [some (.ref B), some (.int p0), some (.int p1), some (.int p2), some (.int (s14.1 30)), none]) i179_89 (Nat.le_of_ble_eq_true rfl) rfl ?_
  refine gm_ev.iload_n i179_91 rfl ?_
  refine gm_ev.iload i179_92 rfl ?_
  refine gm_ev.icmp_lt_t (tgt := 99) i179_94 (by decide) c17 ?_
  refine gm_ev.iload_n i179_99 rfl ?_
  refine gm_ev.if_ne_f i179_100 c18 ?_
  refine gm_ev.aload_n i179_103 rfl ?_
  refine gm_ev.getfield (v := .ref (B + 20)) i179_104 rfl (bM_fld (j := 0) (fs := mF B s14) rfl rfl) ?_
  refine gm_ev.iload_n i179_107 rfl ?_
  refine gm_ev.laload i179_108 (bM_al (j := 20) (n := 24) (fl := s14.2.2 35) rfl ek19 lk19 (by decide)) ?_
  refine gm_ev.goto (tgt := 132) i179_109 (by decide) ?_
  refine gm_ev.iload_n i179_132 rfl ?_
  refine gm_ev.bipush (v := 8) i179_133 (by decide) ?_
  refine gm_ev.icmp_le_t (tgt := 143) i179_135 (by decide) c20 ?_
  refine gm_ev.iload_n i179_143 rfl ?_
  refine gm_ev.callS gm_mono_run (av := [.long (s14.2.2 35 k19), .int p2]) (r := []) i179_144 rfl rfl rfl (Nat.le_of_ble_eq_true rfl) t22 ?_
  refine gm_ev.istore (ls' := [some (.ref B), some (.int p0), some (.int p1), some (.int p2), some (.int (s14.1 30)), some (.int r21)]) i179_147 (Nat.le_of_ble_eq_true rfl) rfl ?_
  refine gm_ev.iload i179_149 rfl ?_
  refine gm_ev.if_ne_f i179_151 c23 ?_
  refine gm_ev.iconst (v := -1) i179_154 (by decide) ?_
  refine gm_ev.goto (tgt := 160) i179_155 (by decide) ?_
  exact gm_ev.iret i179_160 rfl
theorem r_letter_0_fffffftftftfft {N0 : Nat} {K : Nat → Nat} {d B : Nat} {s : mS} {G : gm_H} {sz sl : Nat} {p0 : Int32} {p1 : Int32} {p2 : Int32} {r7 : Int32} {s11 : mS} {s14 : mS} {k19 : Nat} {r21 : Int32} (hN : N0 ≤ B) (c1 : ¬ p0 < 0) (c2 : ¬ (3 : Int32) < p0) (c3 : ¬ p1 < 0) (c4 : ¬ p2 < 0) (c5 : ¬ (s.1 5) = 0) (c6 : ¬ p0 ≤ (1 : Int32)) (t8 : gm_to N0 K ra_nm (ra_mt K) d 170 [.ref B, .int (p0 - (2 : Int32))] (bM B (mH B (mI s 0 (0 : Int32))) G) sz (.returned (some (.int r7)), bM B (mH B (mI s 0 (0 : Int32))) G, sz, 0)) (c9 : ¬ r7 = 0) (t10 : gm_to N0 K ra_nm (ra_mt K) d 161 [.ref B] (bM B (mH B (mI s 0 (0 : Int32))) G) sz (.returned none, bM B (mH B s11) G, sz, 0)) (c12 : ¬ p0 ≤ (1 : Int32)) (t13 : gm_to N0 K ra_nm (ra_mt K) d 171 [.ref B, .int (p0 - (2 : Int32))] (bM B (mH B s11) G) sz (.returned none, bM B (mH B s14) G, sz, 0)) (c15 : ¬ p0 = 0) (c16 : p0 = (1 : Int32)) (c17 : p1 < (s14.1 30)) (c18 : p0 = 0) (ek19 : p1 = nI k19) (lk19 : k19 < 24) (c20 : ¬ p2 ≤ (8 : Int32)) (t22 : gm_to N0 K ra_nm (ra_mt K) d 147 [.long (s14.2.2 35 k19), .int (8 : Int32)] (bM B (mH B s14) G) sz (.returned (some (.int r21)), bM B (mH B s14) G, sz, 0)) (c23 : ¬ r21 = 0) : gm_ev N0 K ra_nm (ra_mt K) d (some .int) (gm_I cX12_letter) (gm_lkf (lkX12 false K)) 0 [some (.ref B), some (.int p0), some (.int p1), some (.int p2), none, none] [] (bM B (mH B s) G) sz sl (.returned (some (.int r21)), (bM B (mH B s14) G), sz, sl) := by
  refine gm_ev.aload_n i179_0 rfl ?_
  refine gm_ev.iconst (v := 0) i179_1 (by decide) ?_
  refine gm_ev.putfield (M' := (bM B (mH B (mI s 0 (0 : Int32))) G)) i179_2 rfl (bM_put (j := 0) (fs := mF B s) rfl (Nat.le_of_ble_eq_true rfl) hN (gm_fit_i _) rfl) ?_
  refine gm_ev.iload_n i179_5 rfl ?_
  refine gm_ev.if_lt_f i179_6 c1 ?_
  refine gm_ev.iload_n i179_9 rfl ?_
  refine gm_ev.iconst (v := 3) i179_10 (by decide) ?_
  refine gm_ev.icmp_gt_f i179_11 c2 ?_
  refine gm_ev.iload_n i179_14 rfl ?_
  refine gm_ev.if_lt_f i179_15 c3 ?_
  refine gm_ev.iload_n i179_18 rfl ?_
  refine gm_ev.if_lt_f i179_19 c4 ?_
  refine gm_ev.aload_n i179_22 rfl ?_
  refine gm_ev.getfield (v := .int (s.1 5)) i179_23 rfl (bM_fld (j := 0) (fs := mF B (mI s 0 (0 : Int32))) rfl rfl) ?_
  refine gm_ev.if_eq_f i179_26 c5 ?_
  refine gm_ev.iload_n i179_29 rfl ?_
  refine gm_ev.iconst (v := 1) i179_30 (by decide) ?_
  refine gm_ev.icmp_le_f i179_31 c6 ?_
  refine gm_ev.aload_n i179_34 rfl ?_
  refine gm_ev.iload_n i179_35 rfl ?_
  refine gm_ev.iconst (v := 2) i179_36 (by decide) ?_
  refine gm_ev.isub i179_37 ?_
  refine gm_ev.callV gm_mono_run (av := [.int (p0 - (2 : Int32))]) (r := []) (ci := 11) (fs := mF B (mI s 0 (0 : Int32))) (bM_get (j := 0) rfl) i179_38 rfl rfl rfl (Nat.le_of_ble_eq_true rfl) t8 ?_
  refine gm_ev.if_ne_t (tgt := 46) i179_41 (by decide) c9 ?_
  refine gm_ev.aload_n i179_46 rfl ?_
  refine gm_ev.callV gm_mono_run (av := []) (r := []) (ci := 11) (fs := mF B (mI s 0 (0 : Int32))) (bM_get (j := 0) rfl) i179_47 rfl rfl rfl (Nat.le_of_ble_eq_true rfl) t10 ?_
  refine gm_ev.iload_n i179_50 rfl ?_
  refine gm_ev.iconst (v := 1) i179_51 (by decide) ?_
  refine gm_ev.icmp_le_f i179_52 c12 ?_
  refine gm_ev.aload_n i179_55 rfl ?_
  refine gm_ev.iload_n i179_56 rfl ?_
  refine gm_ev.iconst (v := 2) i179_57 (by decide) ?_
  refine gm_ev.isub i179_58 ?_
  refine gm_ev.callV gm_mono_run (av := [.int (p0 - (2 : Int32))]) (r := []) (ci := 11) (fs := mF B s11) (bM_get (j := 0) rfl) i179_59 rfl rfl rfl (Nat.le_of_ble_eq_true rfl) t13 ?_
  refine gm_ev.iload_n i179_62 rfl ?_
  refine gm_ev.if_ne_t (tgt := 73) i179_63 (by decide) c15 ?_
  refine gm_ev.iload_n i179_73 rfl ?_
  refine gm_ev.iconst (v := 1) i179_74 (by decide) ?_
  refine gm_ev.icmp_ne_f i179_75 c16 ?_
  refine gm_ev.aload_n i179_78 rfl ?_
  refine gm_ev.getfield (v := .int (s14.1 30)) i179_79 rfl (bM_fld (j := 0) (fs := mF B s14) rfl rfl) ?_
  refine gm_ev.goto (tgt := 89) i179_82 (by decide) ?_
  refine gm_ev.istore (ls' := [some (.ref B), some (.int p0), some (.int p1), some (.int p2), some (.int (s14.1 30)), none]) i179_89 (Nat.le_of_ble_eq_true rfl) rfl ?_
  refine gm_ev.iload_n i179_91 rfl ?_
  refine gm_ev.iload i179_92 rfl ?_
  refine gm_ev.icmp_lt_t (tgt := 99) i179_94 (by decide) c17 ?_
  refine gm_ev.iload_n i179_99 rfl ?_
  refine gm_ev.if_ne_f i179_100 c18 ?_
  refine gm_ev.aload_n i179_103 rfl ?_
  refine gm_ev.getfield (v := .ref (B + 20)) i179_104 rfl (bM_fld (j := 0) (fs := mF B s14) rfl rfl) ?_
  refine gm_ev.iload_n i179_107 rfl ?_
  refine gm_ev.laload i179_108 (bM_al (j := 20) (n := 24) (fl := s14.2.2 35) rfl ek19 lk19 (by decide)) ?_
  refine gm_ev.goto (tgt := 132) i179_109 (by decide) ?_
  refine gm_ev.iload_n i179_132 rfl ?_
  refine gm_ev.bipush (v := 8) i179_133 (by decide) ?_
  refine gm_ev.icmp_le_f i179_135 c20 ?_
  refine gm_ev.bipush (v := 8) i179_138 (by decide) ?_
  refine gm_ev.goto (tgt := 144) i179_140 (by decide) ?_
  refine gm_ev.callS gm_mono_run (av := [.long (s14.2.2 35 k19), .int (8 : Int32)]) (r := []) i179_144 rfl rfl rfl (Nat.le_of_ble_eq_true rfl) t22 ?_
  refine gm_ev.istore (ls' := [some (.ref B), some (.int p0), some (.int p1), some (.int p2), some (.int (s14.1 30)), some (.int r21)]) i179_147 (Nat.le_of_ble_eq_true rfl) rfl ?_
  refine gm_ev.iload i179_149 rfl ?_
  refine gm_ev.if_ne_t (tgt := 158) i179_151 (by decide) c23 ?_
  refine gm_ev.iload i179_158 rfl ?_
  exact gm_ev.iret i179_160 rfl
theorem r_letter_0_fffffftftftfff {N0 : Nat} {K : Nat → Nat} {d B : Nat} {s : mS} {G : gm_H} {sz sl : Nat} {p0 : Int32} {p1 : Int32} {p2 : Int32} {r7 : Int32} {s11 : mS} {s14 : mS} {k19 : Nat} {r21 : Int32} (hN : N0 ≤ B) (c1 : ¬ p0 < 0) (c2 : ¬ (3 : Int32) < p0) (c3 : ¬ p1 < 0) (c4 : ¬ p2 < 0) (c5 : ¬ (s.1 5) = 0) (c6 : ¬ p0 ≤ (1 : Int32)) (t8 : gm_to N0 K ra_nm (ra_mt K) d 170 [.ref B, .int (p0 - (2 : Int32))] (bM B (mH B (mI s 0 (0 : Int32))) G) sz (.returned (some (.int r7)), bM B (mH B (mI s 0 (0 : Int32))) G, sz, 0)) (c9 : ¬ r7 = 0) (t10 : gm_to N0 K ra_nm (ra_mt K) d 161 [.ref B] (bM B (mH B (mI s 0 (0 : Int32))) G) sz (.returned none, bM B (mH B s11) G, sz, 0)) (c12 : ¬ p0 ≤ (1 : Int32)) (t13 : gm_to N0 K ra_nm (ra_mt K) d 171 [.ref B, .int (p0 - (2 : Int32))] (bM B (mH B s11) G) sz (.returned none, bM B (mH B s14) G, sz, 0)) (c15 : ¬ p0 = 0) (c16 : p0 = (1 : Int32)) (c17 : p1 < (s14.1 30)) (c18 : p0 = 0) (ek19 : p1 = nI k19) (lk19 : k19 < 24) (c20 : ¬ p2 ≤ (8 : Int32)) (t22 : gm_to N0 K ra_nm (ra_mt K) d 147 [.long (s14.2.2 35 k19), .int (8 : Int32)] (bM B (mH B s14) G) sz (.returned (some (.int r21)), bM B (mH B s14) G, sz, 0)) (c23 : r21 = 0) : gm_ev N0 K ra_nm (ra_mt K) d (some .int) (gm_I cX12_letter) (gm_lkf (lkX12 false K)) 0 [some (.ref B), some (.int p0), some (.int p1), some (.int p2), none, none] [] (bM B (mH B s) G) sz sl (.returned (some (.int (-1 : Int32))), (bM B (mH B s14) G), sz, sl) := by
  refine gm_ev.aload_n i179_0 rfl ?_
  refine gm_ev.iconst (v := 0) i179_1 (by decide) ?_
  refine gm_ev.putfield (M' := (bM B (mH B (mI s 0 (0 : Int32))) G)) i179_2 rfl (bM_put (j := 0) (fs := mF B s) rfl (Nat.le_of_ble_eq_true rfl) hN (gm_fit_i _) rfl) ?_
  refine gm_ev.iload_n i179_5 rfl ?_
  refine gm_ev.if_lt_f i179_6 c1 ?_
  refine gm_ev.iload_n i179_9 rfl ?_
  refine gm_ev.iconst (v := 3) i179_10 (by decide) ?_
  refine gm_ev.icmp_gt_f i179_11 c2 ?_
  refine gm_ev.iload_n i179_14 rfl ?_
  refine gm_ev.if_lt_f i179_15 c3 ?_
  refine gm_ev.iload_n i179_18 rfl ?_
  refine gm_ev.if_lt_f i179_19 c4 ?_
  refine gm_ev.aload_n i179_22 rfl ?_
  refine gm_ev.getfield (v := .int (s.1 5)) i179_23 rfl (bM_fld (j := 0) (fs := mF B (mI s 0 (0 : Int32))) rfl rfl) ?_
  refine gm_ev.if_eq_f i179_26 c5 ?_
  refine gm_ev.iload_n i179_29 rfl ?_
  refine gm_ev.iconst (v := 1) i179_30 (by decide) ?_
  refine gm_ev.icmp_le_f i179_31 c6 ?_
  refine gm_ev.aload_n i179_34 rfl ?_
  refine gm_ev.iload_n i179_35 rfl ?_
  refine gm_ev.iconst (v := 2) i179_36 (by decide) ?_
  refine gm_ev.isub i179_37 ?_
  refine gm_ev.callV gm_mono_run (av := [.int (p0 - (2 : Int32))]) (r := []) (ci := 11) (fs := mF B (mI s 0 (0 : Int32))) (bM_get (j := 0) rfl) i179_38 rfl rfl rfl (Nat.le_of_ble_eq_true rfl) t8 ?_
  refine gm_ev.if_ne_t (tgt := 46) i179_41 (by decide) c9 ?_
  refine gm_ev.aload_n i179_46 rfl ?_
  refine gm_ev.callV gm_mono_run (av := []) (r := []) (ci := 11) (fs := mF B (mI s 0 (0 : Int32))) (bM_get (j := 0) rfl) i179_47 rfl rfl rfl (Nat.le_of_ble_eq_true rfl) t10 ?_
  refine gm_ev.iload_n i179_50 rfl ?_
  refine gm_ev.iconst (v := 1) i179_51 (by decide) ?_
  refine gm_ev.icmp_le_f i179_52 c12 ?_
  refine gm_ev.aload_n i179_55 rfl ?_
  refine gm_ev.iload_n i179_56 rfl ?_
  refine gm_ev.iconst (v := 2) i179_57 (by decide) ?_
  refine gm_ev.isub i179_58 ?_
  refine gm_ev.callV gm_mono_run (av := [.int (p0 - (2 : Int32))]) (r := []) (ci := 11) (fs := mF B s11) (bM_get (j := 0) rfl) i179_59 rfl rfl rfl (Nat.le_of_ble_eq_true rfl) t13 ?_
  refine gm_ev.iload_n i179_62 rfl ?_
  refine gm_ev.if_ne_t (tgt := 73) i179_63 (by decide) c15 ?_
  refine gm_ev.iload_n i179_73 rfl ?_
  refine gm_ev.iconst (v := 1) i179_74 (by decide) ?_
  refine gm_ev.icmp_ne_f i179_75 c16 ?_
  refine gm_ev.aload_n i179_78 rfl ?_
  refine gm_ev.getfield (v := .int (s14.1 30)) i179_79 rfl (bM_fld (j := 0) (fs := mF B s14) rfl rfl) ?_
  refine gm_ev.goto (tgt := 89) i179_82 (by decide) ?_
  refine gm_ev.istore (ls' := [some (.ref B), some (.int p0), some (.int p1), some (.int p2), some (.int (s14.1 30)), none]) i179_89 (Nat.le_of_ble_eq_true rfl) rfl ?_
  refine gm_ev.iload_n i179_91 rfl ?_
  refine gm_ev.iload i179_92 rfl ?_
  refine gm_ev.icmp_lt_t (tgt := 99) i179_94 (by decide) c17 ?_
  refine gm_ev.iload_n i179_99 rfl ?_
  refine gm_ev.if_ne_f i179_100 c18 ?_
  refine gm_ev.aload_n i179_103 rfl ?_
  refine gm_ev.getfield (v := .ref (B + 20)) i179_104 rfl (bM_fld (j := 0) (fs := mF B s14) rfl rfl) ?_
  refine gm_ev.iload_n i179_107 rfl ?_
  refine gm_ev.laload i179_108 (bM_al (j := 20) (n := 24) (fl := s14.2.2 35) rfl ek19 lk19 (by decide)) ?_
  refine gm_ev.goto (tgt := 132) i179_109 (by decide) ?_
  refine gm_ev.iload_n i179_132 rfl ?_
  refine gm_ev.bipush (v := 8) i179_133 (by decide) ?_
  refine gm_ev.icmp_le_f i179_135 c20 ?_
  refine gm_ev.bipush (v := 8) i179_138 (by decide) ?_
  refine gm_ev.goto (tgt := 144) i179_140 (by decide) ?_
  refine gm_ev.callS gm_mono_run (av := [.long (s14.2.2 35 k19), .int (8 : Int32)]) (r := []) i179_144 rfl rfl rfl (Nat.le_of_ble_eq_true rfl) t22 ?_
  refine gm_ev.istore (ls' := [some (.ref B), some (.int p0), some (.int p1), some (.int p2), some (.int (s14.1 30)), some (.int r21)]) i179_147 (Nat.le_of_ble_eq_true rfl) rfl ?_
  refine gm_ev.iload i179_149 rfl ?_
  refine gm_ev.if_ne_f i179_151 c23 ?_
  refine gm_ev.iconst (v := -1) i179_154 (by decide) ?_
  refine gm_ev.goto (tgt := 160) i179_155 (by decide) ?_
  exact gm_ev.iret i179_160 rfl
theorem r_letter_0_fffffftftff {N0 : Nat} {K : Nat → Nat} {d B : Nat} {s : mS} {G : gm_H} {sz sl : Nat} {p0 : Int32} {p1 : Int32} {p2 : Int32} {r7 : Int32} {s11 : mS} {s14 : mS} (hN : N0 ≤ B) (c1 : ¬ p0 < 0) (c2 : ¬ (3 : Int32) < p0) (c3 : ¬ p1 < 0) (c4 : ¬ p2 < 0) (c5 : ¬ (s.1 5) = 0) (c6 : ¬ p0 ≤ (1 : Int32)) (t8 : gm_to N0 K ra_nm (ra_mt K) d 170 [.ref B, .int (p0 - (2 : Int32))] (bM B (mH B (mI s 0 (0 : Int32))) G) sz (.returned (some (.int r7)), bM B (mH B (mI s 0 (0 : Int32))) G, sz, 0)) (c9 : ¬ r7 = 0) (t10 : gm_to N0 K ra_nm (ra_mt K) d 161 [.ref B] (bM B (mH B (mI s 0 (0 : Int32))) G) sz (.returned none, bM B (mH B s11) G, sz, 0)) (c12 : ¬ p0 ≤ (1 : Int32)) (t13 : gm_to N0 K ra_nm (ra_mt K) d 171 [.ref B, .int (p0 - (2 : Int32))] (bM B (mH B s11) G) sz (.returned none, bM B (mH B s14) G, sz, 0)) (c15 : ¬ p0 = 0) (c16 : p0 = (1 : Int32)) (c17 : ¬ p1 < (s14.1 30)) : gm_ev N0 K ra_nm (ra_mt K) d (some .int) (gm_I cX12_letter) (gm_lkf (lkX12 false K)) 0 [some (.ref B), some (.int p0), some (.int p1), some (.int p2), none, none] [] (bM B (mH B s) G) sz sl (.returned (some (.int (-1 : Int32))), (bM B (mH B s14) G), sz, sl) := by
  refine gm_ev.aload_n i179_0 rfl ?_
  refine gm_ev.iconst (v := 0) i179_1 (by decide) ?_
  refine gm_ev.putfield (M' := (bM B (mH B (mI s 0 (0 : Int32))) G)) i179_2 rfl (bM_put (j := 0) (fs := mF B s) rfl (Nat.le_of_ble_eq_true rfl) hN (gm_fit_i _) rfl) ?_
  refine gm_ev.iload_n i179_5 rfl ?_
  refine gm_ev.if_lt_f i179_6 c1 ?_
  refine gm_ev.iload_n i179_9 rfl ?_
  refine gm_ev.iconst (v := 3) i179_10 (by decide) ?_
  refine gm_ev.icmp_gt_f i179_11 c2 ?_
  refine gm_ev.iload_n i179_14 rfl ?_
  refine gm_ev.if_lt_f i179_15 c3 ?_
  refine gm_ev.iload_n i179_18 rfl ?_
  refine gm_ev.if_lt_f i179_19 c4 ?_
  refine gm_ev.aload_n i179_22 rfl ?_
  refine gm_ev.getfield (v := .int (s.1 5)) i179_23 rfl (bM_fld (j := 0) (fs := mF B (mI s 0 (0 : Int32))) rfl rfl) ?_
  refine gm_ev.if_eq_f i179_26 c5 ?_
  refine gm_ev.iload_n i179_29 rfl ?_
  refine gm_ev.iconst (v := 1) i179_30 (by decide) ?_
  refine gm_ev.icmp_le_f i179_31 c6 ?_
  refine gm_ev.aload_n i179_34 rfl ?_
  refine gm_ev.iload_n i179_35 rfl ?_
  refine gm_ev.iconst (v := 2) i179_36 (by decide) ?_
  refine gm_ev.isub i179_37 ?_
  refine gm_ev.callV gm_mono_run (av := [.int (p0 - (2 : Int32))]) (r := []) (ci := 11) (fs := mF B (mI s 0 (0 : Int32))) (bM_get (j := 0) rfl) i179_38 rfl rfl rfl (Nat.le_of_ble_eq_true rfl) t8 ?_
  refine gm_ev.if_ne_t (tgt := 46) i179_41 (by decide) c9 ?_
  refine gm_ev.aload_n i179_46 rfl ?_
  refine gm_ev.callV gm_mono_run (av := []) (r := []) (ci := 11) (fs := mF B (mI s 0 (0 : Int32))) (bM_get (j := 0) rfl) i179_47 rfl rfl rfl (Nat.le_of_ble_eq_true rfl) t10 ?_
  refine gm_ev.iload_n i179_50 rfl ?_
  refine gm_ev.iconst (v := 1) i179_51 (by decide) ?_
  refine gm_ev.icmp_le_f i179_52 c12 ?_
  refine gm_ev.aload_n i179_55 rfl ?_
  refine gm_ev.iload_n i179_56 rfl ?_
  refine gm_ev.iconst (v := 2) i179_57 (by decide) ?_
  refine gm_ev.isub i179_58 ?_
  refine gm_ev.callV gm_mono_run (av := [.int (p0 - (2 : Int32))]) (r := []) (ci := 11) (fs := mF B s11) (bM_get (j := 0) rfl) i179_59 rfl rfl rfl (Nat.le_of_ble_eq_true rfl) t13 ?_
  refine gm_ev.iload_n i179_62 rfl ?_
  refine gm_ev.if_ne_t (tgt := 73) i179_63 (by decide) c15 ?_
  refine gm_ev.iload_n i179_73 rfl ?_
  refine gm_ev.iconst (v := 1) i179_74 (by decide) ?_
  refine gm_ev.icmp_ne_f i179_75 c16 ?_
  refine gm_ev.aload_n i179_78 rfl ?_
  refine gm_ev.getfield (v := .int (s14.1 30)) i179_79 rfl (bM_fld (j := 0) (fs := mF B s14) rfl rfl) ?_
  refine gm_ev.goto (tgt := 89) i179_82 (by decide) ?_
  refine gm_ev.istore (ls' := [some (.ref B), some (.int p0), some (.int p1), some (.int p2), some (.int (s14.1 30)), none]) i179_89 (Nat.le_of_ble_eq_true rfl) rfl ?_
  refine gm_ev.iload_n i179_91 rfl ?_
  refine gm_ev.iload i179_92 rfl ?_
  refine gm_ev.icmp_lt_f i179_94 c17 ?_
  refine gm_ev.iconst (v := -1) i179_97 (by decide) ?_
  exact gm_ev.iret i179_98 rfl
theorem r_letter_0_fffffftffttttt {N0 : Nat} {K : Nat → Nat} {d B : Nat} {s : mS} {G : gm_H} {sz sl : Nat} {p0 : Int32} {p1 : Int32} {p2 : Int32} {r7 : Int32} {s11 : mS} {s14 : mS} {k19 : Nat} {r21 : Int32} (hN : N0 ≤ B) (c1 : ¬ p0 < 0) (c2 : ¬ (3 : Int32) < p0) (c3 : ¬ p1 < 0) (c4 : ¬ p2 < 0) (c5 : ¬ (s.1 5) = 0) (c6 : ¬ p0 ≤ (1 : Int32)) (t8 : gm_to N0 K ra_nm (ra_mt K) d 170 [.ref B, .int (p0 - (2 : Int32))] (bM B (mH B (mI s 0 (0 : Int32))) G) sz (.returned (some (.int r7)), bM B (mH B (mI s 0 (0 : Int32))) G, sz, 0)) (c9 : ¬ r7 = 0) (t10 : gm_to N0 K ra_nm (ra_mt K) d 161 [.ref B] (bM B (mH B (mI s 0 (0 : Int32))) G) sz (.returned none, bM B (mH B s11) G, sz, 0)) (c12 : ¬ p0 ≤ (1 : Int32)) (t13 : gm_to N0 K ra_nm (ra_mt K) d 171 [.ref B, .int (p0 - (2 : Int32))] (bM B (mH B s11) G) sz (.returned none, bM B (mH B s14) G, sz, 0)) (c15 : p0 = 0) (c16 : p1 < (s14.1 36)) (c17 : ¬ p0 = 0) (c18 : ¬ p0 = (1 : Int32)) (ek19 : p1 = nI k19) (lk19 : k19 < 201) (c20 : p2 ≤ (8 : Int32)) (t22 : gm_to N0 K ra_nm (ra_mt K) d 147 [.long (s14.2.2 37 k19), .int p2] (bM B (mH B s14) G) sz (.returned (some (.int r21)), bM B (mH B s14) G, sz, 0)) (c23 : ¬ r21 = 0) : gm_ev N0 K ra_nm (ra_mt K) d (some .int) (gm_I cX12_letter) (gm_lkf (lkX12 false K)) 0 [some (.ref B), some (.int p0), some (.int p1), some (.int p2), none, none] [] (bM B (mH B s) G) sz sl (.returned (some (.int r21)), (bM B (mH B s14) G), sz, sl) := by
  refine gm_ev.aload_n i179_0 rfl ?_
  refine gm_ev.iconst (v := 0) i179_1 (by decide) ?_
  refine gm_ev.putfield (M' := (bM B (mH B (mI s 0 (0 : Int32))) G)) i179_2 rfl (bM_put (j := 0) (fs := mF B s) rfl (Nat.le_of_ble_eq_true rfl) hN (gm_fit_i _) rfl) ?_
  refine gm_ev.iload_n i179_5 rfl ?_
  refine gm_ev.if_lt_f i179_6 c1 ?_
  refine gm_ev.iload_n i179_9 rfl ?_
  refine gm_ev.iconst (v := 3) i179_10 (by decide) ?_
  refine gm_ev.icmp_gt_f i179_11 c2 ?_
  refine gm_ev.iload_n i179_14 rfl ?_
  refine gm_ev.if_lt_f i179_15 c3 ?_
  refine gm_ev.iload_n i179_18 rfl ?_
  refine gm_ev.if_lt_f i179_19 c4 ?_
  refine gm_ev.aload_n i179_22 rfl ?_
  refine gm_ev.getfield (v := .int (s.1 5)) i179_23 rfl (bM_fld (j := 0) (fs := mF B (mI s 0 (0 : Int32))) rfl rfl) ?_
  refine gm_ev.if_eq_f i179_26 c5 ?_
  refine gm_ev.iload_n i179_29 rfl ?_
  refine gm_ev.iconst (v := 1) i179_30 (by decide) ?_
  refine gm_ev.icmp_le_f i179_31 c6 ?_
  refine gm_ev.aload_n i179_34 rfl ?_
  refine gm_ev.iload_n i179_35 rfl ?_
  refine gm_ev.iconst (v := 2) i179_36 (by decide) ?_
  refine gm_ev.isub i179_37 ?_
  refine gm_ev.callV gm_mono_run (av := [.int (p0 - (2 : Int32))]) (r := []) (ci := 11) (fs := mF B (mI s 0 (0 : Int32))) (bM_get (j := 0) rfl) i179_38 rfl rfl rfl (Nat.le_of_ble_eq_true rfl) t8 ?_
  refine gm_ev.if_ne_t (tgt := 46) i179_41 (by decide) c9 ?_
  refine gm_ev.aload_n i179_46 rfl ?_
  refine gm_ev.callV gm_mono_run (av := []) (r := []) (ci := 11) (fs := mF B (mI s 0 (0 : Int32))) (bM_get (j := 0) rfl) i179_47 rfl rfl rfl (Nat.le_of_ble_eq_true rfl) t10 ?_
  refine gm_ev.iload_n i179_50 rfl ?_
  refine gm_ev.iconst (v := 1) i179_51 (by decide) ?_
  refine gm_ev.icmp_le_f i179_52 c12 ?_
  refine gm_ev.aload_n i179_55 rfl ?_
  refine gm_ev.iload_n i179_56 rfl ?_
  refine gm_ev.iconst (v := 2) i179_57 (by decide) ?_
  refine gm_ev.isub i179_58 ?_
  refine gm_ev.callV gm_mono_run (av := [.int (p0 - (2 : Int32))]) (r := []) (ci := 11) (fs := mF B s11) (bM_get (j := 0) rfl) i179_59 rfl rfl rfl (Nat.le_of_ble_eq_true rfl) t13 ?_
  refine gm_ev.iload_n i179_62 rfl ?_
  refine gm_ev.if_ne_f i179_63 c15 ?_
  refine gm_ev.aload_n i179_66 rfl ?_
  refine gm_ev.getfield (v := .int (s14.1 36)) i179_67 rfl (bM_fld (j := 0) (fs := mF B s14) rfl rfl) ?_
  refine gm_ev.goto (tgt := 89) i179_70 (by decide) ?_
  refine gm_ev.istore (ls' := [some (.ref B), some (.int p0), some (.int p1), some (.int p2), some (.int (s14.1 36)), none]) i179_89 (Nat.le_of_ble_eq_true rfl) rfl ?_
  refine gm_ev.iload_n i179_91 rfl ?_
  refine gm_ev.iload i179_92 rfl ?_
  refine gm_ev.icmp_lt_t (tgt := 99) i179_94 (by decide) c16 ?_
  refine gm_ev.iload_n i179_99 rfl ?_
  refine gm_ev.if_ne_t (tgt := 112) i179_100 (by decide) c17 ?_
  refine gm_ev.iload_n i179_112 rfl ?_
  refine gm_ev.iconst (v := 1) i179_113 (by decide) ?_
  refine gm_ev.icmp_ne_t (tgt := 126) i179_114 (by decide) c18 ?_
  refine gm_ev.aload_n i179_126 rfl ?_
  refine gm_ev.getfield (v := .ref (B + 21)) i179_127 rfl (bM_fld (j := 0) (fs := mF B s14) rfl rfl) ?_
  refine gm_ev.iload_n i179_130 rfl ?_
  refine gm_ev.laload i179_131 (bM_al (j := 21) (n := 201) (fl := s14.2.2 37) rfl ek19 lk19 (by decide)) ?_
  refine gm_ev.iload_n i179_132 rfl ?_
  refine gm_ev.bipush (v := 8) i179_133 (by decide) ?_
  refine gm_ev.icmp_le_t (tgt := 143) i179_135 (by decide) c20 ?_
  refine gm_ev.iload_n i179_143 rfl ?_
  refine gm_ev.callS gm_mono_run (av := [.long (s14.2.2 37 k19), .int p2]) (r := []) i179_144 rfl rfl rfl (Nat.le_of_ble_eq_true rfl) t22 ?_
  refine gm_ev.istore (ls' := [some (.ref B), some (.int p0), some (.int p1), some (.int p2), some (.int (s14.1 36)), some (.int r21)]) i179_147 (Nat.le_of_ble_eq_true rfl) rfl ?_
  refine gm_ev.iload i179_149 rfl ?_
  refine gm_ev.if_ne_t (tgt := 158) i179_151 (by decide) c23 ?_
  refine gm_ev.iload i179_158 rfl ?_
  exact gm_ev.iret i179_160 rfl
theorem r_letter_0_fffffftffttttf {N0 : Nat} {K : Nat → Nat} {d B : Nat} {s : mS} {G : gm_H} {sz sl : Nat} {p0 : Int32} {p1 : Int32} {p2 : Int32} {r7 : Int32} {s11 : mS} {s14 : mS} {k19 : Nat} {r21 : Int32} (hN : N0 ≤ B) (c1 : ¬ p0 < 0) (c2 : ¬ (3 : Int32) < p0) (c3 : ¬ p1 < 0) (c4 : ¬ p2 < 0) (c5 : ¬ (s.1 5) = 0) (c6 : ¬ p0 ≤ (1 : Int32)) (t8 : gm_to N0 K ra_nm (ra_mt K) d 170 [.ref B, .int (p0 - (2 : Int32))] (bM B (mH B (mI s 0 (0 : Int32))) G) sz (.returned (some (.int r7)), bM B (mH B (mI s 0 (0 : Int32))) G, sz, 0)) (c9 : ¬ r7 = 0) (t10 : gm_to N0 K ra_nm (ra_mt K) d 161 [.ref B] (bM B (mH B (mI s 0 (0 : Int32))) G) sz (.returned none, bM B (mH B s11) G, sz, 0)) (c12 : ¬ p0 ≤ (1 : Int32)) (t13 : gm_to N0 K ra_nm (ra_mt K) d 171 [.ref B, .int (p0 - (2 : Int32))] (bM B (mH B s11) G) sz (.returned none, bM B (mH B s14) G, sz, 0)) (c15 : p0 = 0) (c16 : p1 < (s14.1 36)) (c17 : ¬ p0 = 0) (c18 : ¬ p0 = (1 : Int32)) (ek19 : p1 = nI k19) (lk19 : k19 < 201) (c20 : p2 ≤ (8 : Int32)) (t22 : gm_to N0 K ra_nm (ra_mt K) d 147 [.long (s14.2.2 37 k19), .int p2] (bM B (mH B s14) G) sz (.returned (some (.int r21)), bM B (mH B s14) G, sz, 0)) (c23 : r21 = 0) : gm_ev N0 K ra_nm (ra_mt K) d (some .int) (gm_I cX12_letter) (gm_lkf (lkX12 false K)) 0 [some (.ref B), some (.int p0), some (.int p1), some (.int p2), none, none] [] (bM B (mH B s) G) sz sl (.returned (some (.int (-1 : Int32))), (bM B (mH B s14) G), sz, sl) := by
  refine gm_ev.aload_n i179_0 rfl ?_
  refine gm_ev.iconst (v := 0) i179_1 (by decide) ?_
  refine gm_ev.putfield (M' := (bM B (mH B (mI s 0 (0 : Int32))) G)) i179_2 rfl (bM_put (j := 0) (fs := mF B s) rfl (Nat.le_of_ble_eq_true rfl) hN (gm_fit_i _) rfl) ?_
  refine gm_ev.iload_n i179_5 rfl ?_
  refine gm_ev.if_lt_f i179_6 c1 ?_
  refine gm_ev.iload_n i179_9 rfl ?_
  refine gm_ev.iconst (v := 3) i179_10 (by decide) ?_
  refine gm_ev.icmp_gt_f i179_11 c2 ?_
  refine gm_ev.iload_n i179_14 rfl ?_
  refine gm_ev.if_lt_f i179_15 c3 ?_
  refine gm_ev.iload_n i179_18 rfl ?_
  refine gm_ev.if_lt_f i179_19 c4 ?_
  refine gm_ev.aload_n i179_22 rfl ?_
  refine gm_ev.getfield (v := .int (s.1 5)) i179_23 rfl (bM_fld (j := 0) (fs := mF B (mI s 0 (0 : Int32))) rfl rfl) ?_
  refine gm_ev.if_eq_f i179_26 c5 ?_
  refine gm_ev.iload_n i179_29 rfl ?_
  refine gm_ev.iconst (v := 1) i179_30 (by decide) ?_
  refine gm_ev.icmp_le_f i179_31 c6 ?_
  refine gm_ev.aload_n i179_34 rfl ?_
  refine gm_ev.iload_n i179_35 rfl ?_
  refine gm_ev.iconst (v := 2) i179_36 (by decide) ?_
  refine gm_ev.isub i179_37 ?_
  refine gm_ev.callV gm_mono_run (av := [.int (p0 - (2 : Int32))]) (r := []) (ci := 11) (fs := mF B (mI s 0 (0 : Int32))) (bM_get (j := 0) rfl) i179_38 rfl rfl rfl (Nat.le_of_ble_eq_true rfl) t8 ?_
  refine gm_ev.if_ne_t (tgt := 46) i179_41 (by decide) c9 ?_
  refine gm_ev.aload_n i179_46 rfl ?_
  refine gm_ev.callV gm_mono_run (av := []) (r := []) (ci := 11) (fs := mF B (mI s 0 (0 : Int32))) (bM_get (j := 0) rfl) i179_47 rfl rfl rfl (Nat.le_of_ble_eq_true rfl) t10 ?_
  refine gm_ev.iload_n i179_50 rfl ?_
  refine gm_ev.iconst (v := 1) i179_51 (by decide) ?_
  refine gm_ev.icmp_le_f i179_52 c12 ?_
  refine gm_ev.aload_n i179_55 rfl ?_
  refine gm_ev.iload_n i179_56 rfl ?_
  refine gm_ev.iconst (v := 2) i179_57 (by decide) ?_
  refine gm_ev.isub i179_58 ?_
  refine gm_ev.callV gm_mono_run (av := [.int (p0 - (2 : Int32))]) (r := []) (ci := 11) (fs := mF B s11) (bM_get (j := 0) rfl) i179_59 rfl rfl rfl (Nat.le_of_ble_eq_true rfl) t13 ?_
  refine gm_ev.iload_n i179_62 rfl ?_
  refine gm_ev.if_ne_f i179_63 c15 ?_
  refine gm_ev.aload_n i179_66 rfl ?_
  refine gm_ev.getfield (v := .int (s14.1 36)) i179_67 rfl (bM_fld (j := 0) (fs := mF B s14) rfl rfl) ?_
  refine gm_ev.goto (tgt := 89) i179_70 (by decide) ?_
  refine gm_ev.istore (ls' := [some (.ref B), some (.int p0), some (.int p1), some (.int p2), some (.int (s14.1 36)), none]) i179_89 (Nat.le_of_ble_eq_true rfl) rfl ?_
  refine gm_ev.iload_n i179_91 rfl ?_
  refine gm_ev.iload i179_92 rfl ?_
  refine gm_ev.icmp_lt_t (tgt := 99) i179_94 (by decide) c16 ?_
  refine gm_ev.iload_n i179_99 rfl ?_
  refine gm_ev.if_ne_t (tgt := 112) i179_100 (by decide) c17 ?_
  refine gm_ev.iload_n i179_112 rfl ?_
  refine gm_ev.iconst (v := 1) i179_113 (by decide) ?_
  refine gm_ev.icmp_ne_t (tgt := 126) i179_114 (by decide) c18 ?_
  refine gm_ev.aload_n i179_126 rfl ?_
  refine gm_ev.getfield (v := .ref (B + 21)) i179_127 rfl (bM_fld (j := 0) (fs := mF B s14) rfl rfl) ?_
  refine gm_ev.iload_n i179_130 rfl ?_
  refine gm_ev.laload i179_131 (bM_al (j := 21) (n := 201) (fl := s14.2.2 37) rfl ek19 lk19 (by decide)) ?_
  refine gm_ev.iload_n i179_132 rfl ?_
  refine gm_ev.bipush (v := 8) i179_133 (by decide) ?_
  refine gm_ev.icmp_le_t (tgt := 143) i179_135 (by decide) c20 ?_
  refine gm_ev.iload_n i179_143 rfl ?_
  refine gm_ev.callS gm_mono_run (av := [.long (s14.2.2 37 k19), .int p2]) (r := []) i179_144 rfl rfl rfl (Nat.le_of_ble_eq_true rfl) t22 ?_
  refine gm_ev.istore (ls' := [some (.ref B), some (.int p0), some (.int p1), some (.int p2), some (.int (s14.1 36)), some (.int r21)]) i179_147 (Nat.le_of_ble_eq_true rfl) rfl ?_
  refine gm_ev.iload i179_149 rfl ?_
  refine gm_ev.if_ne_f i179_151 c23 ?_
  refine gm_ev.iconst (v := -1) i179_154 (by decide) ?_
  refine gm_ev.goto (tgt := 160) i179_155 (by decide) ?_
  exact gm_ev.iret i179_160 rfl
theorem r_letter_0_fffffftfftttft {N0 : Nat} {K : Nat → Nat} {d B : Nat} {s : mS} {G : gm_H} {sz sl : Nat} {p0 : Int32} {p1 : Int32} {p2 : Int32} {r7 : Int32} {s11 : mS} {s14 : mS} {k19 : Nat} {r21 : Int32} (hN : N0 ≤ B) (c1 : ¬ p0 < 0) (c2 : ¬ (3 : Int32) < p0) (c3 : ¬ p1 < 0) (c4 : ¬ p2 < 0) (c5 : ¬ (s.1 5) = 0) (c6 : ¬ p0 ≤ (1 : Int32)) (t8 : gm_to N0 K ra_nm (ra_mt K) d 170 [.ref B, .int (p0 - (2 : Int32))] (bM B (mH B (mI s 0 (0 : Int32))) G) sz (.returned (some (.int r7)), bM B (mH B (mI s 0 (0 : Int32))) G, sz, 0)) (c9 : ¬ r7 = 0) (t10 : gm_to N0 K ra_nm (ra_mt K) d 161 [.ref B] (bM B (mH B (mI s 0 (0 : Int32))) G) sz (.returned none, bM B (mH B s11) G, sz, 0)) (c12 : ¬ p0 ≤ (1 : Int32)) (t13 : gm_to N0 K ra_nm (ra_mt K) d 171 [.ref B, .int (p0 - (2 : Int32))] (bM B (mH B s11) G) sz (.returned none, bM B (mH B s14) G, sz, 0)) (c15 : p0 = 0) (c16 : p1 < (s14.1 36)) (c17 : ¬ p0 = 0) (c18 : ¬ p0 = (1 : Int32)) (ek19 : p1 = nI k19) (lk19 : k19 < 201) (c20 : ¬ p2 ≤ (8 : Int32)) (t22 : gm_to N0 K ra_nm (ra_mt K) d 147 [.long (s14.2.2 37 k19), .int (8 : Int32)] (bM B (mH B s14) G) sz (.returned (some (.int r21)), bM B (mH B s14) G, sz, 0)) (c23 : ¬ r21 = 0) : gm_ev N0 K ra_nm (ra_mt K) d (some .int) (gm_I cX12_letter) (gm_lkf (lkX12 false K)) 0 [some (.ref B), some (.int p0), some (.int p1), some (.int p2), none, none] [] (bM B (mH B s) G) sz sl (.returned (some (.int r21)), (bM B (mH B s14) G), sz, sl) := by
  refine gm_ev.aload_n i179_0 rfl ?_
  refine gm_ev.iconst (v := 0) i179_1 (by decide) ?_
  refine gm_ev.putfield (M' := (bM B (mH B (mI s 0 (0 : Int32))) G)) i179_2 rfl (bM_put (j := 0) (fs := mF B s) rfl (Nat.le_of_ble_eq_true rfl) hN (gm_fit_i _) rfl) ?_
  refine gm_ev.iload_n i179_5 rfl ?_
  refine gm_ev.if_lt_f i179_6 c1 ?_
  refine gm_ev.iload_n i179_9 rfl ?_
  refine gm_ev.iconst (v := 3) i179_10 (by decide) ?_
  refine gm_ev.icmp_gt_f i179_11 c2 ?_
  refine gm_ev.iload_n i179_14 rfl ?_
  refine gm_ev.if_lt_f i179_15 c3 ?_
  refine gm_ev.iload_n i179_18 rfl ?_
  refine gm_ev.if_lt_f i179_19 c4 ?_
  refine gm_ev.aload_n i179_22 rfl ?_
  refine gm_ev.getfield (v := .int (s.1 5)) i179_23 rfl (bM_fld (j := 0) (fs := mF B (mI s 0 (0 : Int32))) rfl rfl) ?_
  refine gm_ev.if_eq_f i179_26 c5 ?_
  refine gm_ev.iload_n i179_29 rfl ?_
  refine gm_ev.iconst (v := 1) i179_30 (by decide) ?_
  refine gm_ev.icmp_le_f i179_31 c6 ?_
  refine gm_ev.aload_n i179_34 rfl ?_
  refine gm_ev.iload_n i179_35 rfl ?_
  refine gm_ev.iconst (v := 2) i179_36 (by decide) ?_
  refine gm_ev.isub i179_37 ?_
  refine gm_ev.callV gm_mono_run (av := [.int (p0 - (2 : Int32))]) (r := []) (ci := 11) (fs := mF B (mI s 0 (0 : Int32))) (bM_get (j := 0) rfl) i179_38 rfl rfl rfl (Nat.le_of_ble_eq_true rfl) t8 ?_
  refine gm_ev.if_ne_t (tgt := 46) i179_41 (by decide) c9 ?_
  refine gm_ev.aload_n i179_46 rfl ?_
  refine gm_ev.callV gm_mono_run (av := []) (r := []) (ci := 11) (fs := mF B (mI s 0 (0 : Int32))) (bM_get (j := 0) rfl) i179_47 rfl rfl rfl (Nat.le_of_ble_eq_true rfl) t10 ?_
  refine gm_ev.iload_n i179_50 rfl ?_
  refine gm_ev.iconst (v := 1) i179_51 (by decide) ?_
  refine gm_ev.icmp_le_f i179_52 c12 ?_
  refine gm_ev.aload_n i179_55 rfl ?_
  refine gm_ev.iload_n i179_56 rfl ?_
  refine gm_ev.iconst (v := 2) i179_57 (by decide) ?_
  refine gm_ev.isub i179_58 ?_
  refine gm_ev.callV gm_mono_run (av := [.int (p0 - (2 : Int32))]) (r := []) (ci := 11) (fs := mF B s11) (bM_get (j := 0) rfl) i179_59 rfl rfl rfl (Nat.le_of_ble_eq_true rfl) t13 ?_
  refine gm_ev.iload_n i179_62 rfl ?_
  refine gm_ev.if_ne_f i179_63 c15 ?_
  refine gm_ev.aload_n i179_66 rfl ?_
  refine gm_ev.getfield (v := .int (s14.1 36)) i179_67 rfl (bM_fld (j := 0) (fs := mF B s14) rfl rfl) ?_
  refine gm_ev.goto (tgt := 89) i179_70 (by decide) ?_
  refine gm_ev.istore (ls' := [some (.ref B), some (.int p0), some (.int p1), some (.int p2), some (.int (s14.1 36)), none]) i179_89 (Nat.le_of_ble_eq_true rfl) rfl ?_
  refine gm_ev.iload_n i179_91 rfl ?_
  refine gm_ev.iload i179_92 rfl ?_
  refine gm_ev.icmp_lt_t (tgt := 99) i179_94 (by decide) c16 ?_
  refine gm_ev.iload_n i179_99 rfl ?_
  refine gm_ev.if_ne_t (tgt := 112) i179_100 (by decide) c17 ?_
  refine gm_ev.iload_n i179_112 rfl ?_
  refine gm_ev.iconst (v := 1) i179_113 (by decide) ?_
  refine gm_ev.icmp_ne_t (tgt := 126) i179_114 (by decide) c18 ?_
  refine gm_ev.aload_n i179_126 rfl ?_
  refine gm_ev.getfield (v := .ref (B + 21)) i179_127 rfl (bM_fld (j := 0) (fs := mF B s14) rfl rfl) ?_
  refine gm_ev.iload_n i179_130 rfl ?_
  refine gm_ev.laload i179_131 (bM_al (j := 21) (n := 201) (fl := s14.2.2 37) rfl ek19 lk19 (by decide)) ?_
  refine gm_ev.iload_n i179_132 rfl ?_
  refine gm_ev.bipush (v := 8) i179_133 (by decide) ?_
  refine gm_ev.icmp_le_f i179_135 c20 ?_
  refine gm_ev.bipush (v := 8) i179_138 (by decide) ?_
  refine gm_ev.goto (tgt := 144) i179_140 (by decide) ?_
  refine gm_ev.callS gm_mono_run (av := [.long (s14.2.2 37 k19), .int (8 : Int32)]) (r := []) i179_144 rfl rfl rfl (Nat.le_of_ble_eq_true rfl) t22 ?_
  refine gm_ev.istore (ls' := [some (.ref B), some (.int p0), some (.int p1), some (.int p2), some (.int (s14.1 36)), some (.int r21)]) i179_147 (Nat.le_of_ble_eq_true rfl) rfl ?_
  refine gm_ev.iload i179_149 rfl ?_
  refine gm_ev.if_ne_t (tgt := 158) i179_151 (by decide) c23 ?_
  refine gm_ev.iload i179_158 rfl ?_
  exact gm_ev.iret i179_160 rfl
theorem r_letter_0_fffffftfftttff {N0 : Nat} {K : Nat → Nat} {d B : Nat} {s : mS} {G : gm_H} {sz sl : Nat} {p0 : Int32} {p1 : Int32} {p2 : Int32} {r7 : Int32} {s11 : mS} {s14 : mS} {k19 : Nat} {r21 : Int32} (hN : N0 ≤ B) (c1 : ¬ p0 < 0) (c2 : ¬ (3 : Int32) < p0) (c3 : ¬ p1 < 0) (c4 : ¬ p2 < 0) (c5 : ¬ (s.1 5) = 0) (c6 : ¬ p0 ≤ (1 : Int32)) (t8 : gm_to N0 K ra_nm (ra_mt K) d 170 [.ref B, .int (p0 - (2 : Int32))] (bM B (mH B (mI s 0 (0 : Int32))) G) sz (.returned (some (.int r7)), bM B (mH B (mI s 0 (0 : Int32))) G, sz, 0)) (c9 : ¬ r7 = 0) (t10 : gm_to N0 K ra_nm (ra_mt K) d 161 [.ref B] (bM B (mH B (mI s 0 (0 : Int32))) G) sz (.returned none, bM B (mH B s11) G, sz, 0)) (c12 : ¬ p0 ≤ (1 : Int32)) (t13 : gm_to N0 K ra_nm (ra_mt K) d 171 [.ref B, .int (p0 - (2 : Int32))] (bM B (mH B s11) G) sz (.returned none, bM B (mH B s14) G, sz, 0)) (c15 : p0 = 0) (c16 : p1 < (s14.1 36)) (c17 : ¬ p0 = 0) (c18 : ¬ p0 = (1 : Int32)) (ek19 : p1 = nI k19) (lk19 : k19 < 201) (c20 : ¬ p2 ≤ (8 : Int32)) (t22 : gm_to N0 K ra_nm (ra_mt K) d 147 [.long (s14.2.2 37 k19), .int (8 : Int32)] (bM B (mH B s14) G) sz (.returned (some (.int r21)), bM B (mH B s14) G, sz, 0)) (c23 : r21 = 0) : gm_ev N0 K ra_nm (ra_mt K) d (some .int) (gm_I cX12_letter) (gm_lkf (lkX12 false K)) 0 [some (.ref B), some (.int p0), some (.int p1), some (.int p2), none, none] [] (bM B (mH B s) G) sz sl (.returned (some (.int (-1 : Int32))), (bM B (mH B s14) G), sz, sl) := by
  refine gm_ev.aload_n i179_0 rfl ?_
  refine gm_ev.iconst (v := 0) i179_1 (by decide) ?_
  refine gm_ev.putfield (M' := (bM B (mH B (mI s 0 (0 : Int32))) G)) i179_2 rfl (bM_put (j := 0) (fs := mF B s) rfl (Nat.le_of_ble_eq_true rfl) hN (gm_fit_i _) rfl) ?_
  refine gm_ev.iload_n i179_5 rfl ?_
  refine gm_ev.if_lt_f i179_6 c1 ?_
  refine gm_ev.iload_n i179_9 rfl ?_
  refine gm_ev.iconst (v := 3) i179_10 (by decide) ?_
  refine gm_ev.icmp_gt_f i179_11 c2 ?_
  refine gm_ev.iload_n i179_14 rfl ?_
  refine gm_ev.if_lt_f i179_15 c3 ?_
  refine gm_ev.iload_n i179_18 rfl ?_
  refine gm_ev.if_lt_f i179_19 c4 ?_
  refine gm_ev.aload_n i179_22 rfl ?_
  refine gm_ev.getfield (v := .int (s.1 5)) i179_23 rfl (bM_fld (j := 0) (fs := mF B (mI s 0 (0 : Int32))) rfl rfl) ?_
  refine gm_ev.if_eq_f i179_26 c5 ?_
  refine gm_ev.iload_n i179_29 rfl ?_
  refine gm_ev.iconst (v := 1) i179_30 (by decide) ?_
  refine gm_ev.icmp_le_f i179_31 c6 ?_
  refine gm_ev.aload_n i179_34 rfl ?_
  refine gm_ev.iload_n i179_35 rfl ?_
  refine gm_ev.iconst (v := 2) i179_36 (by decide) ?_
  refine gm_ev.isub i179_37 ?_
  refine gm_ev.callV gm_mono_run (av := [.int (p0 - (2 : Int32))]) (r := []) (ci := 11) (fs := mF B (mI s 0 (0 : Int32))) (bM_get (j := 0) rfl) i179_38 rfl rfl rfl (Nat.le_of_ble_eq_true rfl) t8 ?_
  refine gm_ev.if_ne_t (tgt := 46) i179_41 (by decide) c9 ?_
  refine gm_ev.aload_n i179_46 rfl ?_
  refine gm_ev.callV gm_mono_run (av := []) (r := []) (ci := 11) (fs := mF B (mI s 0 (0 : Int32))) (bM_get (j := 0) rfl) i179_47 rfl rfl rfl (Nat.le_of_ble_eq_true rfl) t10 ?_
  refine gm_ev.iload_n i179_50 rfl ?_
  refine gm_ev.iconst (v := 1) i179_51 (by decide) ?_
  refine gm_ev.icmp_le_f i179_52 c12 ?_
  refine gm_ev.aload_n i179_55 rfl ?_
  refine gm_ev.iload_n i179_56 rfl ?_
  refine gm_ev.iconst (v := 2) i179_57 (by decide) ?_
  refine gm_ev.isub i179_58 ?_
  refine gm_ev.callV gm_mono_run (av := [.int (p0 - (2 : Int32))]) (r := []) (ci := 11) (fs := mF B s11) (bM_get (j := 0) rfl) i179_59 rfl rfl rfl (Nat.le_of_ble_eq_true rfl) t13 ?_
  refine gm_ev.iload_n i179_62 rfl ?_
  refine gm_ev.if_ne_f i179_63 c15 ?_
  refine gm_ev.aload_n i179_66 rfl ?_
  refine gm_ev.getfield (v := .int (s14.1 36)) i179_67 rfl (bM_fld (j := 0) (fs := mF B s14) rfl rfl) ?_
  refine gm_ev.goto (tgt := 89) i179_70 (by decide) ?_
  refine gm_ev.istore (ls' := [some (.ref B), some (.int p0), some (.int p1), some (.int p2), some (.int (s14.1 36)), none]) i179_89 (Nat.le_of_ble_eq_true rfl) rfl ?_
  refine gm_ev.iload_n i179_91 rfl ?_
  refine gm_ev.iload i179_92 rfl ?_
  refine gm_ev.icmp_lt_t (tgt := 99) i179_94 (by decide) c16 ?_
  refine gm_ev.iload_n i179_99 rfl ?_
  refine gm_ev.if_ne_t (tgt := 112) i179_100 (by decide) c17 ?_
  refine gm_ev.iload_n i179_112 rfl ?_
  refine gm_ev.iconst (v := 1) i179_113 (by decide) ?_
  refine gm_ev.icmp_ne_t (tgt := 126) i179_114 (by decide) c18 ?_
  refine gm_ev.aload_n i179_126 rfl ?_
  refine gm_ev.getfield (v := .ref (B + 21)) i179_127 rfl (bM_fld (j := 0) (fs := mF B s14) rfl rfl) ?_
  refine gm_ev.iload_n i179_130 rfl ?_
  refine gm_ev.laload i179_131 (bM_al (j := 21) (n := 201) (fl := s14.2.2 37) rfl ek19 lk19 (by decide)) ?_
  refine gm_ev.iload_n i179_132 rfl ?_
  refine gm_ev.bipush (v := 8) i179_133 (by decide) ?_
  refine gm_ev.icmp_le_f i179_135 c20 ?_
  refine gm_ev.bipush (v := 8) i179_138 (by decide) ?_
  refine gm_ev.goto (tgt := 144) i179_140 (by decide) ?_
  refine gm_ev.callS gm_mono_run (av := [.long (s14.2.2 37 k19), .int (8 : Int32)]) (r := []) i179_144 rfl rfl rfl (Nat.le_of_ble_eq_true rfl) t22 ?_
  refine gm_ev.istore (ls' := [some (.ref B), some (.int p0), some (.int p1), some (.int p2), some (.int (s14.1 36)), some (.int r21)]) i179_147 (Nat.le_of_ble_eq_true rfl) rfl ?_
  refine gm_ev.iload i179_149 rfl ?_
  refine gm_ev.if_ne_f i179_151 c23 ?_
  refine gm_ev.iconst (v := -1) i179_154 (by decide) ?_
  refine gm_ev.goto (tgt := 160) i179_155 (by decide) ?_
  exact gm_ev.iret i179_160 rfl
theorem r_letter_0_fffffftffttftt {N0 : Nat} {K : Nat → Nat} {d B : Nat} {s : mS} {G : gm_H} {sz sl : Nat} {p0 : Int32} {p1 : Int32} {p2 : Int32} {r7 : Int32} {s11 : mS} {s14 : mS} {k19 : Nat} {r21 : Int32} (hN : N0 ≤ B) (c1 : ¬ p0 < 0) (c2 : ¬ (3 : Int32) < p0) (c3 : ¬ p1 < 0) (c4 : ¬ p2 < 0) (c5 : ¬ (s.1 5) = 0) (c6 : ¬ p0 ≤ (1 : Int32)) (t8 : gm_to N0 K ra_nm (ra_mt K) d 170 [.ref B, .int (p0 - (2 : Int32))] (bM B (mH B (mI s 0 (0 : Int32))) G) sz (.returned (some (.int r7)), bM B (mH B (mI s 0 (0 : Int32))) G, sz, 0)) (c9 : ¬ r7 = 0) (t10 : gm_to N0 K ra_nm (ra_mt K) d 161 [.ref B] (bM B (mH B (mI s 0 (0 : Int32))) G) sz (.returned none, bM B (mH B s11) G, sz, 0)) (c12 : ¬ p0 ≤ (1 : Int32)) (t13 : gm_to N0 K ra_nm (ra_mt K) d 171 [.ref B, .int (p0 - (2 : Int32))] (bM B (mH B s11) G) sz (.returned none, bM B (mH B s14) G, sz, 0)) (c15 : p0 = 0) (c16 : p1 < (s14.1 36)) (c17 : ¬ p0 = 0) (c18 : p0 = (1 : Int32)) (ek19 : p1 = nI k19) (lk19 : k19 < 24) (c20 : p2 ≤ (8 : Int32)) (t22 : gm_to N0 K ra_nm (ra_mt K) d 147 [.long (s14.2.2 29 k19), .int p2] (bM B (mH B s14) G) sz (.returned (some (.int r21)), bM B (mH B s14) G, sz, 0)) (c23 : ¬ r21 = 0) : gm_ev N0 K ra_nm (ra_mt K) d (some .int) (gm_I cX12_letter) (gm_lkf (lkX12 false K)) 0 [some (.ref B), some (.int p0), some (.int p1), some (.int p2), none, none] [] (bM B (mH B s) G) sz sl (.returned (some (.int r21)), (bM B (mH B s14) G), sz, sl) := by
  refine gm_ev.aload_n i179_0 rfl ?_
  refine gm_ev.iconst (v := 0) i179_1 (by decide) ?_
  refine gm_ev.putfield (M' := (bM B (mH B (mI s 0 (0 : Int32))) G)) i179_2 rfl (bM_put (j := 0) (fs := mF B s) rfl (Nat.le_of_ble_eq_true rfl) hN (gm_fit_i _) rfl) ?_
  refine gm_ev.iload_n i179_5 rfl ?_
  refine gm_ev.if_lt_f i179_6 c1 ?_
  refine gm_ev.iload_n i179_9 rfl ?_
  refine gm_ev.iconst (v := 3) i179_10 (by decide) ?_
  refine gm_ev.icmp_gt_f i179_11 c2 ?_
  refine gm_ev.iload_n i179_14 rfl ?_
  refine gm_ev.if_lt_f i179_15 c3 ?_
  refine gm_ev.iload_n i179_18 rfl ?_
  refine gm_ev.if_lt_f i179_19 c4 ?_
  refine gm_ev.aload_n i179_22 rfl ?_
  refine gm_ev.getfield (v := .int (s.1 5)) i179_23 rfl (bM_fld (j := 0) (fs := mF B (mI s 0 (0 : Int32))) rfl rfl) ?_
  refine gm_ev.if_eq_f i179_26 c5 ?_
  refine gm_ev.iload_n i179_29 rfl ?_
  refine gm_ev.iconst (v := 1) i179_30 (by decide) ?_
  refine gm_ev.icmp_le_f i179_31 c6 ?_
  refine gm_ev.aload_n i179_34 rfl ?_
  refine gm_ev.iload_n i179_35 rfl ?_
  refine gm_ev.iconst (v := 2) i179_36 (by decide) ?_
  refine gm_ev.isub i179_37 ?_
  refine gm_ev.callV gm_mono_run (av := [.int (p0 - (2 : Int32))]) (r := []) (ci := 11) (fs := mF B (mI s 0 (0 : Int32))) (bM_get (j := 0) rfl) i179_38 rfl rfl rfl (Nat.le_of_ble_eq_true rfl) t8 ?_
  refine gm_ev.if_ne_t (tgt := 46) i179_41 (by decide) c9 ?_
  refine gm_ev.aload_n i179_46 rfl ?_
  refine gm_ev.callV gm_mono_run (av := []) (r := []) (ci := 11) (fs := mF B (mI s 0 (0 : Int32))) (bM_get (j := 0) rfl) i179_47 rfl rfl rfl (Nat.le_of_ble_eq_true rfl) t10 ?_
  refine gm_ev.iload_n i179_50 rfl ?_
  refine gm_ev.iconst (v := 1) i179_51 (by decide) ?_
  refine gm_ev.icmp_le_f i179_52 c12 ?_
  refine gm_ev.aload_n i179_55 rfl ?_
  refine gm_ev.iload_n i179_56 rfl ?_
  refine gm_ev.iconst (v := 2) i179_57 (by decide) ?_
  refine gm_ev.isub i179_58 ?_
  refine gm_ev.callV gm_mono_run (av := [.int (p0 - (2 : Int32))]) (r := []) (ci := 11) (fs := mF B s11) (bM_get (j := 0) rfl) i179_59 rfl rfl rfl (Nat.le_of_ble_eq_true rfl) t13 ?_
  refine gm_ev.iload_n i179_62 rfl ?_
  refine gm_ev.if_ne_f i179_63 c15 ?_
  refine gm_ev.aload_n i179_66 rfl ?_
  refine gm_ev.getfield (v := .int (s14.1 36)) i179_67 rfl (bM_fld (j := 0) (fs := mF B s14) rfl rfl) ?_
  refine gm_ev.goto (tgt := 89) i179_70 (by decide) ?_
  refine gm_ev.istore (ls' := [some (.ref B), some (.int p0), some (.int p1), some (.int p2), some (.int (s14.1 36)), none]) i179_89 (Nat.le_of_ble_eq_true rfl) rfl ?_
  refine gm_ev.iload_n i179_91 rfl ?_
  refine gm_ev.iload i179_92 rfl ?_
  refine gm_ev.icmp_lt_t (tgt := 99) i179_94 (by decide) c16 ?_
  refine gm_ev.iload_n i179_99 rfl ?_
  refine gm_ev.if_ne_t (tgt := 112) i179_100 (by decide) c17 ?_
  refine gm_ev.iload_n i179_112 rfl ?_
  refine gm_ev.iconst (v := 1) i179_113 (by decide) ?_
  refine gm_ev.icmp_ne_f i179_114 c18 ?_
  refine gm_ev.aload_n i179_117 rfl ?_
  refine gm_ev.getfield (v := .ref (B + 17)) i179_118 rfl (bM_fld (j := 0) (fs := mF B s14) rfl rfl) ?_
  refine gm_ev.iload_n i179_121 rfl ?_
  refine gm_ev.laload i179_122 (bM_al (j := 17) (n := 24) (fl := s14.2.2 29) rfl ek19 lk19 (by decide)) ?_
  refine gm_ev.goto (tgt := 132) i179_123 (by decide) ?_
  refine gm_ev.iload_n i179_132 rfl ?_
  refine gm_ev.bipush (v := 8) i179_133 (by decide) ?_
  refine gm_ev.icmp_le_t (tgt := 143) i179_135 (by decide) c20 ?_
  refine gm_ev.iload_n i179_143 rfl ?_
  refine gm_ev.callS gm_mono_run (av := [.long (s14.2.2 29 k19), .int p2]) (r := []) i179_144 rfl rfl rfl (Nat.le_of_ble_eq_true rfl) t22 ?_
  refine gm_ev.istore (ls' := [some (.ref B), some (.int p0), some (.int p1), some (.int p2), some (.int (s14.1 36)), some (.int r21)]) i179_147 (Nat.le_of_ble_eq_true rfl) rfl ?_
  refine gm_ev.iload i179_149 rfl ?_
  refine gm_ev.if_ne_t (tgt := 158) i179_151 (by decide) c23 ?_
  refine gm_ev.iload i179_158 rfl ?_
  exact gm_ev.iret i179_160 rfl
