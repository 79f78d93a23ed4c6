/-! paths through RuleArenaModel, by program -/
theorem r_layers_58_ftt_at58 {N0 : Nat} {K : Nat → Nat} {d B : Nat} {s : mS} {G : gm_H} {sz sl : Nat} {R : gm_R} {x1 : Int32} {x2 : Int32} {x3 : Int32} {x4 : Int32} {k1 : Nat} {k3 : Nat} {k5 : Nat} {k6 : Nat} {k7 : Nat} {k8 : Nat} (hN : N0 ≤ B) (ek1 : x2 = nI k1) (lk1 : k1 < 24) (c2 : ¬ (((6 : Int32) * x2) + (s.2.1 12 k1)) < x4) (ek3 : x4 = nI k3) (lk3 : k3 < 144) (c4 : ¬ (s.2.1 13 k3) = (2 : Int32)) (ek5 : x4 = nI k5) (lk5 : k5 < 144) (ek6 : (s.2.1 14 k5) = nI k6) (lk6 : k6 < 512) (ek7 : x4 = nI k7) (lk7 : k7 < 144) (ek8 : x3 = nI k8) (lk8 : k8 < 512) (c9 : ((s.2.1 19 k6) + (s.2.1 13 k7)) ≤ (s.2.1 19 k8)) (k : gm_ev N0 K ra_nm (ra_mt K) d none (gm_I cX12_layers) (gm_lkf (lkX12 false K)) 58 [some (.ref B), some (.int x1), some (.int x2), some (.int x3), some (.int (x4 + (1 : Int32))), none] [] (bM B (mH B s) G) sz sl R) : gm_ev N0 K ra_nm (ra_mt K) d none (gm_I cX12_layers) (gm_lkf (lkX12 false K)) 58 [some (.ref B), some (.int x1), some (.int x2), some (.int x3), some (.int x4), none] [] (bM B (mH B s) G) sz sl R := by
  refine gm_ev.iload i143_58 rfl ?_
  refine gm_ev.bipush (v := 6) i143_60 (by decide) ?_
  refine gm_ev.iload_n i143_62 rfl ?_
  refine gm_ev.imul i143_63 ?_
  refine gm_ev.aload_n i143_64 rfl ?_
  refine gm_ev.getfield (v := .ref (B + 4)) i143_65 rfl (bM_fld (j := 0) (fs := mF B s) rfl rfl) ?_
  refine gm_ev.iload_n i143_68 rfl ?_
  refine gm_ev.iaload i143_69 (bM_ai (j := 4) (n := 24) (f := s.2.1 12) rfl ek1 lk1 (by decide)) ?_
  refine gm_ev.iadd i143_70 ?_
  refine gm_ev.icmp_gt_f i143_71 c2 ?_
  refine gm_ev.aload_n i143_74 rfl ?_
  refine gm_ev.getfield (v := .ref (B + 5)) i143_75 rfl (bM_fld (j := 0) (fs := mF B s) rfl rfl) ?_
  refine gm_ev.iload i143_78 rfl ?_
  refine gm_ev.iaload i143_80 (bM_ai (j := 5) (n := 144) (f := s.2.1 13) rfl ek3 lk3 (by decide)) ?_
  refine gm_ev.iconst (v := 2) i143_81 (by decide) ?_
  refine gm_ev.icmp_ne_t (tgt := 89) i143_82 (by decide) c4 ?_
  refine gm_ev.aload_n i143_89 rfl ?_
  refine gm_ev.getfield (v := .ref (B + 11)) i143_90 rfl (bM_fld (j := 0) (fs := mF B s) rfl rfl) ?_
  refine gm_ev.aload_n i143_93 rfl ?_
  refine gm_ev.getfield (v := .ref (B + 6)) i143_94 rfl (bM_fld (j := 0) (fs := mF B s) rfl rfl) ?_
  refine gm_ev.iload i143_97 rfl ?_
  refine gm_ev.iaload i143_99 (bM_ai (j := 6) (n := 144) (f := s.2.1 14) rfl ek5 lk5 (by decide)) ?_
  refine gm_ev.iaload i143_100 (bM_ai (j := 11) (n := 512) (f := s.2.1 19) rfl ek6 lk6 (by decide)) ?_
  refine gm_ev.aload_n i143_101 rfl ?_
  refine gm_ev.getfield (v := .ref (B + 5)) i143_102 rfl (bM_fld (j := 0) (fs := mF B s) rfl rfl) ?_
  refine gm_ev.iload i143_105 rfl ?_
  refine gm_ev.iaload i143_107 (bM_ai (j := 5) (n := 144) (f := s.2.1 13) rfl ek7 lk7 (by decide)) ?_
  refine gm_ev.iadd i143_108 ?_
  refine gm_ev.istore (ls' := [some (.ref B), some (.int x1), some (.int x2), some (.int x3), some (.int x4), some (.int ((s.2.1 19 k6) + (s.2.1 13 k7)))]) i143_109 (Nat.le_of_ble_eq_true rfl) rfl ?_
  refine gm_ev.iload i143_111 rfl ?_
  refine gm_ev.aload_n i143_113 rfl ?_
  refine gm_ev.getfield (v := .ref (B + 11)) i143_114 rfl (bM_fld (j := 0) (fs := mF B s) rfl rfl) ?_
  refine gm_ev.iload_n i143_117 rfl ?_
  refine gm_ev.iaload i143_118 (bM_ai (j := 11) (n := 512) (f := s.2.1 19) rfl ek8 lk8 (by decide)) ?_
  refine gm_ev.icmp_le_t (tgt := 132) i143_119 (by decide) c9 ?_
  refine gm_ev.iinc (v := x4 + (1 : Int32)) (ls' := [some (.ref B), some (.int x1), some (.int x2), some (.int x3), some (.int (x4 + (1 : Int32))), some (.int ((s.2.1 19 k6) + (s.2.1 13 k7)))]) i143_132 rfl (by rfl) rfl ?_
  refine gm_ev.goto (tgt := 58) i143_135 (by decide) ?_
  refine gm_ev.le (a := [some (.ref B), some (.int x1), some (.int x2), some (.int x3), some (.int (x4 + (1 : Int32))), none]) (gm_leL.le (show gm_leL _ _ from ⟨rfl, ⟨rfl, ⟨rfl, ⟨rfl, ⟨rfl, trivial⟩⟩⟩⟩⟩)) ?_
  exact k
theorem r_layers_58_ftf_at58 {N0 : Nat} {K : Nat → Nat} {d B : Nat} {s : mS} {G : gm_H} {sz sl : Nat} {R : gm_R} {x1 : Int32} {x2 : Int32} {x3 : Int32} {x4 : Int32} {k1 : Nat} {k3 : Nat} {k5 : Nat} {k6 : Nat} {k7 : Nat} {k8 : Nat} {k10 : Nat} (hN : N0 ≤ B) (ek1 : x2 = nI k1) (lk1 : k1 < 24) (c2 : ¬ (((6 : Int32) * x2) + (s.2.1 12 k1)) < x4) (ek3 : x4 = nI k3) (lk3 : k3 < 144) (c4 : ¬ (s.2.1 13 k3) = (2 : Int32)) (ek5 : x4 = nI k5) (lk5 : k5 < 144) (ek6 : (s.2.1 14 k5) = nI k6) (lk6 : k6 < 512) (ek7 : x4 = nI k7) (lk7 : k7 < 144) (ek8 : x3 = nI k8) (lk8 : k8 < 512) (c9 : ¬ ((s.2.1 19 k6) + (s.2.1 13 k7)) ≤ (s.2.1 19 k8)) (ek10 : x3 = nI k10) (lk10 : k10 < 512) (k : gm_ev N0 K ra_nm (ra_mt K) d none (gm_I cX12_layers) (gm_lkf (lkX12 false K)) 58 [some (.ref B), some (.int (1 : Int32)), some (.int x2), some (.int x3), some (.int (x4 + (1 : Int32))), none] [] (bM B (mH B (mA s 19 (upd (s.2.1 19) k10 ((s.2.1 19 k6) + (s.2.1 13 k7))))) G) sz sl R) : gm_ev N0 K ra_nm (ra_mt K) d none (gm_I cX12_layers) (gm_lkf (lkX12 false K)) 58 [some (.ref B), some (.int x1), some (.int x2), some (.int x3), some (.int x4), none] [] (bM B (mH B s) G) sz sl R := by
  refine gm_ev.iload i143_58 rfl ?_
  refine gm_ev.bipush (v := 6) i143_60 (by decide) ?_
  refine gm_ev.iload_n i143_62 rfl ?_
  refine gm_ev.imul i143_63 ?_
  refine gm_ev.aload_n i143_64 rfl ?_
  refine gm_ev.getfield (v := .ref (B + 4)) i143_65 rfl (bM_fld (j := 0) (fs := mF B s) rfl rfl) ?_
  refine gm_ev.iload_n i143_68 rfl ?_
  refine gm_ev.iaload i143_69 (bM_ai (j := 4) (n := 24) (f := s.2.1 12) rfl ek1 lk1 (by decide)) ?_
  refine gm_ev.iadd i143_70 ?_
  refine gm_ev.icmp_gt_f i143_71 c2 ?_
  refine gm_ev.aload_n i143_74 rfl ?_
  refine gm_ev.getfield (v := .ref (B + 5)) i143_75 rfl (bM_fld (j := 0) (fs := mF B s) rfl rfl) ?_
  refine gm_ev.iload i143_78 rfl ?_
  refine gm_ev.iaload i143_80 (bM_ai (j := 5) (n := 144) (f := s.2.1 13) rfl ek3 lk3 (by decide)) ?_
  refine gm_ev.iconst (v := 2) i143_81 (by decide) ?_
  refine gm_ev.icmp_ne_t (tgt := 89) i143_82 (by decide) c4 ?_
  refine gm_ev.aload_n i143_89 rfl ?_
  refine gm_ev.getfield (v := .ref (B + 11)) i143_90 rfl (bM_fld (j := 0) (fs := mF B s) rfl rfl) ?_
  refine gm_ev.aload_n i143_93 rfl ?_
  refine gm_ev.getfield (v := .ref (B + 6)) i143_94 rfl (bM_fld (j := 0) (fs := mF B s) rfl rfl) ?_
  refine gm_ev.iload i143_97 rfl ?_
  refine gm_ev.iaload i143_99 (bM_ai (j := 6) (n := 144) (f := s.2.1 14) rfl ek5 lk5 (by decide)) ?_
  refine gm_ev.iaload i143_100 (bM_ai (j := 11) (n := 512) (f := s.2.1 19) rfl ek6 lk6 (by decide)) ?_
  refine gm_ev.aload_n i143_101 rfl ?_
  refine gm_ev.getfield (v := .ref (B + 5)) i143_102 rfl (bM_fld (j := 0) (fs := mF B s) rfl rfl) ?_
  refine gm_ev.iload i143_105 rfl ?_
  refine gm_ev.iaload i143_107 (bM_ai (j := 5) (n := 144) (f := s.2.1 13) rfl ek7 lk7 (by decide)) ?_
  refine gm_ev.iadd i143_108 ?_
  refine gm_ev.istore (ls' := [some (.ref B), some (.int x1), some (.int x2), some (.int x3), some (.int x4), some (.int ((s.2.1 19 k6) + (s.2.1 13 k7)))]) i143_109 (Nat.le_of_ble_eq_true rfl) rfl ?_
  refine gm_ev.iload i143_111 rfl ?_
  refine gm_ev.aload_n i143_113 rfl ?_
  refine gm_ev.getfield (v := .ref (B + 11)) i143_114 rfl (bM_fld (j := 0) (fs := mF B s) rfl rfl) ?_
  refine gm_ev.iload_n i143_117 rfl ?_
  refine gm_ev.iaload i143_118 (bM_ai (j := 11) (n := 512) (f := s.2.1 19) rfl ek8 lk8 (by decide)) ?_
  refine gm_ev.icmp_le_f i143_119 c9 ?_
  refine gm_ev.aload_n i143_122 rfl ?_
  refine gm_ev.getfield (v := .ref (B + 11)) i143_123 rfl (bM_fld (j := 0) (fs := mF B s) rfl rfl) ?_
  refine gm_ev.iload_n i143_126 rfl ?_
  refine gm_ev.iload i143_127 rfl ?_
  refine gm_ev.iastore (M' := (bM B (mH B (mA s 19 (upd (s.2.1 19) k10 ((s.2.1 19 k6) + (s.2.1 13 k7))))) G)) i143_129 (bM_asti (j := 11) (n := 512) (f := s.2.1 19) rfl ek10 lk10 (by decide) hN rfl) ?_
  refine gm_ev.iconst (v := 1) i143_130 (by decide) ?_
  refine gm_ev.istore_n (ls' := [some (.ref B), some (.int (1 : Int32)), some (.int x2), some (.int x3), some (.int x4), some (.int ((s.2.1 19 k6) + (s.2.1 13 k7)))]) i143_131 (Nat.le_of_ble_eq_true rfl) rfl ?_
  refine gm_ev.iinc (v := x4 + (1 : Int32)) (ls' := [some (.ref B), some (.int (1 : Int32)), some (.int x2), some (.int x3), some (.int (x4 + (1 : Int32))), some (.int ((s.2.1 19 k6) + (s.2.1 13 k7)))]) i143_132 rfl (by rfl) rfl ?_
  refine gm_ev.goto (tgt := 58) i143_135 (by decide) ?_
  refine gm_ev.le (a := [some (.ref B), some (.int (1 : Int32)), some (.int x2), some (.int x3), some (.int (x4 + (1 : Int32))), none]) (gm_leL.le (show gm_leL _ _ from ⟨rfl, ⟨rfl, ⟨rfl, ⟨rfl, ⟨rfl, trivial⟩⟩⟩⟩⟩)) ?_
  exact k
theorem r_layers_58_fft_at58 {N0 : Nat} {K : Nat → Nat} {d B : Nat} {s : mS} {G : gm_H} {sz sl : Nat} {R : gm_R} {x1 : Int32} {x2 : Int32} {x3 : Int32} {x4 : Int32} {k1 : Nat} {k3 : Nat} {k5 : Nat} (hN : N0 ≤ B) (ek1 : x2 = nI k1) (lk1 : k1 < 24) (c2 : ¬ (((6 : Int32) * x2) + (s.2.1 12 k1)) < x4) (ek3 : x4 = nI k3) (lk3 : k3 < 144) (c4 : (s.2.1 13 k3) = (2 : Int32)) (ek5 : x3 = nI k5) (lk5 : k5 < 512) (c6 : (0 : Int32) ≤ (s.2.1 19 k5)) (k : gm_ev N0 K ra_nm (ra_mt K) d none (gm_I cX12_layers) (gm_lkf (lkX12 false K)) 58 [some (.ref B), some (.int x1), some (.int x2), some (.int x3), some (.int (x4 + (1 : Int32))), none] [] (bM B (mH B s) G) sz sl R) : gm_ev N0 K ra_nm (ra_mt K) d none (gm_I cX12_layers) (gm_lkf (lkX12 false K)) 58 [some (.ref B), some (.int x1), some (.int x2), some (.int x3), some (.int x4), none] [] (bM B (mH B s) G) sz sl R := by
  refine gm_ev.iload i143_58 rfl ?_
  refine gm_ev.bipush (v := 6) i143_60 (by decide) ?_
  refine gm_ev.iload_n i143_62 rfl ?_
  refine gm_ev.imul i143_63 ?_
  refine gm_ev.aload_n i143_64 rfl ?_
  refine gm_ev.getfield (v := .ref (B + 4)) i143_65 rfl (bM_fld (j := 0) (fs := mF B s) rfl rfl) ?_
  refine gm_ev.iload_n i143_68 rfl ?_
  refine gm_ev.iaload i143_69 (bM_ai (j := 4) (n := 24) (f := s.2.1 12) rfl ek1 lk1 (by decide)) ?_
  refine gm_ev.iadd i143_70 ?_
  refine gm_ev.icmp_gt_f i143_71 c2 ?_
  refine gm_ev.aload_n i143_74 rfl ?_
  refine gm_ev.getfield (v := .ref (B + 5)) i143_75 rfl (bM_fld (j := 0) (fs := mF B s) rfl rfl) ?_
  refine gm_ev.iload i143_78 rfl ?_
  refine gm_ev.iaload i143_80 (bM_ai (j := 5) (n := 144) (f := s.2.1 13) rfl ek3 lk3 (by decide)) ?_
  refine gm_ev.iconst (v := 2) i143_81 (by decide) ?_
  refine gm_ev.icmp_ne_f i143_82 c4 ?_
  refine gm_ev.iconst (v := 0) i143_85 (by decide) ?_
  refine gm_ev.goto (tgt := 109) i143_86 (by decide) ?_
  refine gm_ev.istore (ls' := [some (.ref B), some (.int x1), some (.int x2), some (.int x3), some (.int x4), some (.int (0 : Int32))]) i143_109 (Nat.le_of_ble_eq_true rfl) rfl ?_
  refine gm_ev.iload i143_111 rfl ?_
  refine gm_ev.aload_n i143_113 rfl ?_
  refine gm_ev.getfield (v := .ref (B + 11)) i143_114 rfl (bM_fld (j := 0) (fs := mF B s) rfl rfl) ?_
  refine gm_ev.iload_n i143_117 rfl ?_
  refine gm_ev.iaload i143_118 (bM_ai (j := 11) (n := 512) (f := s.2.1 19) rfl ek5 lk5 (by decide)) ?_
  refine gm_ev.icmp_le_t (tgt := 132) i143_119 (by decide) c6 ?_
  refine gm_ev.iinc (v := x4 + (1 : Int32)) (ls' := [some (.ref B), some (.int x1), some (.int x2), some (.int x3), some (.int (x4 + (1 : Int32))), some (.int (0 : Int32))]) i143_132 rfl (by rfl) rfl ?_
  refine gm_ev.goto (tgt := 58) i143_135 (by decide) ?_
  refine gm_ev.le (a := [some (.ref B), some (.int x1), some (.int x2), some (.int x3), some (.int (x4 + (1 : Int32))), none]) (gm_leL.le (show gm_leL _ _ from ⟨rfl, ⟨rfl, ⟨rfl, ⟨rfl, ⟨rfl, trivial⟩⟩⟩⟩⟩)) ?_
  exact k
theorem r_layers_58_fff_at58 {N0 : Nat} {K : Nat → Nat} {d B : Nat} {s : mS} {G : gm_H} {sz sl : Nat} {R : gm_R} {x1 : Int32} {x2 : Int32} {x3 : Int32} {x4 : Int32} {k1 : Nat} {k3 : Nat} {k5 : Nat} {k7 : Nat} (hN : N0 ≤ B) (ek1 : x2 = nI k1) (lk1 : k1 < 24) (c2 : ¬ (((6 : Int32) * x2) + (s.2.1 12 k1)) < x4) (ek3 : x4 = nI k3) (lk3 : k3 < 144) (c4 : (s.2.1 13 k3) = (2 : Int32)) (ek5 : x3 = nI k5) (lk5 : k5 < 512) (c6 : ¬ (0 : Int32) ≤ (s.2.1 19 k5)) (ek7 : x3 = nI k7) (lk7 : k7 < 512) (k : gm_ev N0 K ra_nm (ra_mt K) d none (gm_I cX12_layers) (gm_lkf (lkX12 false K)) 58 [some (.ref B), some (.int (1 : Int32)), some (.int x2), some (.int x3), some (.int (x4 + (1 : Int32))), none] [] (bM B (mH B (mA s 19 (upd (s.2.1 19) k7 (0 : Int32)))) G) sz sl R) : gm_ev N0 K ra_nm (ra_mt K) d none (gm_I cX12_layers) (gm_lkf (lkX12 false K)) 58 [some (.ref B), some (.int x1), some (.int x2), some (.int x3), some (.int x4), none] [] (bM B (mH B s) G) sz sl R := by
  refine gm_ev.iload i143_58 rfl ?_
  refine gm_ev.bipush (v := 6) i143_60 (by decide) ?_
  refine gm_ev.iload_n i143_62 rfl ?_
  refine gm_ev.imul i143_63 ?_
  refine gm_ev.aload_n i143_64 rfl ?_
  refine gm_ev.getfield (v := .ref (B + 4)) i143_65 rfl (bM_fld (j := 0) (fs := mF B s) rfl rfl) ?_
  refine gm_ev.iload_n i143_68 rfl ?_
  refine gm_ev.iaload i143_69 (bM_ai (j := 4) (n := 24) (f := s.2.1 12) rfl ek1 lk1 (by decide)) ?_
  refine gm_ev.iadd i143_70 ?_
  refine gm_ev.icmp_gt_f i143_71 c2 ?_
  refine gm_ev.aload_n i143_74 rfl ?_
  refine gm_ev.getfield (v := .ref (B + 5)) i143_75 rfl (bM_fld (j := 0) (fs := mF B s) rfl rfl) ?_
  refine gm_ev.iload i143_78 rfl ?_
  refine gm_ev.iaload i143_80 (bM_ai (j := 5) (n := 144) (f := s.2.1 13) rfl ek3 lk3 (by decide)) ?_
  refine gm_ev.iconst (v := 2) i143_81 (by decide) ?_
  refine gm_ev.icmp_ne_f i143_82 c4 ?_
  refine gm_ev.iconst (v := 0) i143_85 (by decide) ?_
  refine gm_ev.goto (tgt := 109) i143_86 (by decide) ?_
  refine gm_ev.istore (ls' := [some (.ref B), some (.int x1), some (.int x2), some (.int x3), some (.int x4), some (.int (0 : Int32))]) i143_109 (Nat.le_of_ble_eq_true rfl) rfl ?_
  refine gm_ev.iload i143_111 rfl ?_
  refine gm_ev.aload_n i143_113 rfl ?_
  refine gm_ev.getfield (v := .ref (B + 11)) i143_114 rfl (bM_fld (j := 0) (fs := mF B s) rfl rfl) ?_
  refine gm_ev.iload_n i143_117 rfl ?_
  refine gm_ev.iaload i143_118 (bM_ai (j := 11) (n := 512) (f := s.2.1 19) rfl ek5 lk5 (by decide)) ?_
  refine gm_ev.icmp_le_f i143_119 c6 ?_
  refine gm_ev.aload_n i143_122 rfl ?_
  refine gm_ev.getfield (v := .ref (B + 11)) i143_123 rfl (bM_fld (j := 0) (fs := mF B s) rfl rfl) ?_
  refine gm_ev.iload_n i143_126 rfl ?_
  refine gm_ev.iload i143_127 rfl ?_
  refine gm_ev.iastore (M' := (bM B (mH B (mA s 19 (upd (s.2.1 19) k7 (0 : Int32)))) G)) i143_129 (bM_asti (j := 11) (n := 512) (f := s.2.1 19) rfl ek7 lk7 (by decide) hN rfl) ?_
  refine gm_ev.iconst (v := 1) i143_130 (by decide) ?_
  refine gm_ev.istore_n (ls' := [some (.ref B), some (.int (1 : Int32)), some (.int x2), some (.int x3), some (.int x4), some (.int (0 : Int32))]) i143_131 (Nat.le_of_ble_eq_true rfl) rfl ?_
  refine gm_ev.iinc (v := x4 + (1 : Int32)) (ls' := [some (.ref B), some (.int (1 : Int32)), some (.int x2), some (.int x3), some (.int (x4 + (1 : Int32))), some (.int (0 : Int32))]) i143_132 rfl (by rfl) rfl ?_
  refine gm_ev.goto (tgt := 58) i143_135 (by decide) ?_
  refine gm_ev.le (a := [some (.ref B), some (.int (1 : Int32)), some (.int x2), some (.int x3), some (.int (x4 + (1 : Int32))), none]) (gm_leL.le (show gm_leL _ _ from ⟨rfl, ⟨rfl, ⟨rfl, ⟨rfl, ⟨rfl, trivial⟩⟩⟩⟩⟩)) ?_
  exact k
theorem r_holds_0__at3 {N0 : Nat} {K : Nat → Nat} {d B : Nat} {s : mS} {G : gm_H} {sz sl : Nat} {R : gm_R} {p0 : Int32} {p1 : Int64} {p2 : Int64} {p3 : Int64} (hN : N0 ≤ B)  (k : gm_ev N0 K ra_nm (ra_mt K) d (some .boolean) (gm_I cX12_holds) (gm_lkf (lkX12 false K)) 3 [some (.ref B), some (.int p0), some (.long p1), none, some (.long p2), none, some (.long p3), none, some (.int (0 : Int32))] [] (bM B (mH B s) G) sz sl R) : gm_ev N0 K ra_nm (ra_mt K) d (some .boolean) (gm_I cX12_holds) (gm_lkf (lkX12 false K)) 0 [some (.ref B), some (.int p0), some (.long p1), none, some (.long p2), none, some (.long p3), none, none] [] (bM B (mH B s) G) sz sl R := by
  refine gm_ev.iconst (v := 0) i144_0 (by decide) ?_
  refine gm_ev.istore (ls' := [some (.ref B), some (.int p0), some (.long p1), none, some (.long p2), none, some (.long p3), none, some (.int (0 : Int32))]) i144_1 (Nat.le_of_ble_eq_true rfl) rfl ?_
  exact k
theorem r_holds_3_t {N0 : Nat} {K : Nat → Nat} {d B : Nat} {s : mS} {G : gm_H} {sz sl : Nat} {x1 : Int32} {y2 : Int64} {y4 : Int64} {y6 : Int64} {x8 : Int32} (hN : N0 ≤ B) (c1 : (s.1 20) ≤ x8) : gm_ev N0 K ra_nm (ra_mt K) d (some .boolean) (gm_I cX12_holds) (gm_lkf (lkX12 false K)) 3 [some (.ref B), some (.int x1), some (.long y2), none, some (.long y4), none, some (.long y6), none, some (.int x8)] [] (bM B (mH B s) G) sz sl (.returned (some (.int (0 : Int32))), (bM B (mH B s) G), sz, sl) := by
  refine gm_ev.iload i144_3 rfl ?_
  refine gm_ev.aload_n i144_5 rfl ?_
  refine gm_ev.getfield (v := .int (s.1 20)) i144_6 rfl (bM_fld (j := 0) (fs := mF B s) rfl rfl) ?_
  refine gm_ev.icmp_ge_t (tgt := 79) i144_9 (by decide) c1 ?_
  refine gm_ev.iconst (v := 0) i144_79 (by decide) ?_
  exact gm_ev.zret i144_80 rfl (by decide)
theorem r_holds_3_ft_at3 {N0 : Nat} {K : Nat → Nat} {d B : Nat} {s : mS} {G : gm_H} {sz sl : Nat} {R : gm_R} {x1 : Int32} {y2 : Int64} {y4 : Int64} {y6 : Int64} {x8 : Int32} {k2 : Nat} (hN : N0 ≤ B) (c1 : ¬ (s.1 20) ≤ x8) (ek2 : x8 = nI k2) (lk2 : k2 < 201) (c3 : ¬ (s.2.1 21 k2) = x1) (k : gm_ev N0 K ra_nm (ra_mt K) d (some .boolean) (gm_I cX12_holds) (gm_lkf (lkX12 false K)) 3 [some (.ref B), some (.int x1), some (.long y2), none, some (.long y4), none, some (.long y6), none, some (.int (x8 + (1 : Int32)))] [] (bM B (mH B s) G) sz sl R) : gm_ev N0 K ra_nm (ra_mt K) d (some .boolean) (gm_I cX12_holds) (gm_lkf (lkX12 false K)) 3 [some (.ref B), some (.int x1), some (.long y2), none, some (.long y4), none, some (.long y6), none, some (.int x8)] [] (bM B (mH B s) G) sz sl R := by
  refine gm_ev.iload i144_3 rfl ?_
  refine gm_ev.aload_n i144_5 rfl ?_
  refine gm_ev.getfield (v := .int (s.1 20)) i144_6 rfl (bM_fld (j := 0) (fs := mF B s) rfl rfl) ?_
  refine gm_ev.icmp_ge_f i144_9 c1 ?_
  refine gm_ev.aload_n i144_12 rfl ?_
  refine gm_ev.getfield (v := .ref (B + 12)) i144_13 rfl (bM_fld (j := 0) (fs := mF B s) rfl rfl) ?_
  refine gm_ev.iload i144_16 rfl ?_
  refine gm_ev.iaload i144_18 (bM_ai (j := 12) (n := 201) (f := s.2.1 21) rfl ek2 lk2 (by decide)) ?_
  refine gm_ev.iload_n i144_19 rfl ?_
  refine gm_ev.icmp_ne_t (tgt := 73) i144_20 (by decide) c3 ?_
  refine gm_ev.iinc (v := x8 + (1 : Int32)) (ls' := [some (.ref B), some (.int x1), some (.long y2), none, some (.long y4), none, some (.long y6), none, some (.int (x8 + (1 : Int32)))]) i144_73 rfl (by rfl) rfl ?_
  refine gm_ev.goto (tgt := 3) i144_76 (by decide) ?_
  exact k
theorem r_holds_3_fft_at3 {N0 : Nat} {K : Nat → Nat} {d B : Nat} {s : mS} {G : gm_H} {sz sl : Nat} {R : gm_R} {x1 : Int32} {y2 : Int64} {y4 : Int64} {y6 : Int64} {x8 : Int32} {k2 : Nat} {k4 : Nat} (hN : N0 ≤ B) (c1 : ¬ (s.1 20) ≤ x8) (ek2 : x8 = nI k2) (lk2 : k2 < 201) (c3 : (s.2.1 21 k2) = x1) (ek4 : ((3 : Int32) * x8) = nI k4) (lk4 : k4 < 603) (c5 : ¬ (lg_cmp (s.2.2 22 k4) y2) = 0) (k : gm_ev N0 K ra_nm (ra_mt K) d (some .boolean) (gm_I cX12_holds) (gm_lkf (lkX12 false K)) 3 [some (.ref B), some (.int x1), some (.long y2), none, some (.long y4), none, some (.long y6), none, some (.int (x8 + (1 : Int32)))] [] (bM B (mH B s) G) sz sl R) : gm_ev N0 K ra_nm (ra_mt K) d (some .boolean) (gm_I cX12_holds) (gm_lkf (lkX12 false K)) 3 [some (.ref B), some (.int x1), some (.long y2), none, some (.long y4), none, some (.long y6), none, some (.int x8)] [] (bM B (mH B s) G) sz sl R := by
  refine gm_ev.iload i144_3 rfl ?_
  refine gm_ev.aload_n i144_5 rfl ?_
  refine gm_ev.getfield (v := .int (s.1 20)) i144_6 rfl (bM_fld (j := 0) (fs := mF B s) rfl rfl) ?_
  refine gm_ev.icmp_ge_f i144_9 c1 ?_
  refine gm_ev.aload_n i144_12 rfl ?_
  refine gm_ev.getfield (v := .ref (B + 12)) i144_13 rfl (bM_fld (j := 0) (fs := mF B s) rfl rfl) ?_
  refine gm_ev.iload i144_16 rfl ?_
  refine gm_ev.iaload i144_18 (bM_ai (j := 12) (n := 201) (f := s.2.1 21) rfl ek2 lk2 (by decide)) ?_
  refine gm_ev.iload_n i144_19 rfl ?_
  refine gm_ev.icmp_ne_f i144_20 c3 ?_
  refine gm_ev.aload_n i144_23 rfl ?_
  refine gm_ev.getfield (v := .ref (B + 13)) i144_24 rfl (bM_fld (j := 0) (fs := mF B s) rfl rfl) ?_
  refine gm_ev.iconst (v := 3) i144_27 (by decide) ?_
  refine gm_ev.iload i144_28 rfl ?_
  refine gm_ev.imul i144_30 ?_
  refine gm_ev.laload i144_31 (bM_al (j := 13) (n := 603) (fl := s.2.2 22) rfl ek4 lk4 (by decide)) ?_
  refine gm_ev.lload_n i144_32 rfl ?_
  refine gm_ev.lcmp i144_33 ?_
  refine gm_ev.if_ne_t (tgt := 73) i144_34 (by decide) c5 ?_
  refine gm_ev.iinc (v := x8 + (1 : Int32)) (ls' := [some (.ref B), some (.int x1), some (.long y2), none, some (.long y4), none, some (.long y6), none, some (.int (x8 + (1 : Int32)))]) i144_73 rfl (by rfl) rfl ?_
  refine gm_ev.goto (tgt := 3) i144_76 (by decide) ?_
  exact k
theorem r_holds_3_ffft_at3 {N0 : Nat} {K : Nat → Nat} {d B : Nat} {s : mS} {G : gm_H} {sz sl : Nat} {R : gm_R} {x1 : Int32} {y2 : Int64} {y4 : Int64} {y6 : Int64} {x8 : Int32} {k2 : Nat} {k4 : Nat} {k6 : Nat} (hN : N0 ≤ B) (c1 : ¬ (s.1 20) ≤ x8) (ek2 : x8 = nI k2) (lk2 : k2 < 201) (c3 : (s.2.1 21 k2) = x1) (ek4 : ((3 : Int32) * x8) = nI k4) (lk4 : k4 < 603) (c5 : (lg_cmp (s.2.2 22 k4) y2) = 0) (ek6 : (((3 : Int32) * x8) + (1 : Int32)) = nI k6) (lk6 : k6 < 603) (c7 : ¬ (lg_cmp (s.2.2 22 k6) y4) = 0) (k : gm_ev N0 K ra_nm (ra_mt K) d (some .boolean) (gm_I cX12_holds) (gm_lkf (lkX12 false K)) 3 [some (.ref B), some (.int x1), some (.long y2), none, some (.long y4), none, some (.long y6), none, some (.int (x8 + (1 : Int32)))] [] (bM B (mH B s) G) sz sl R) : gm_ev N0 K ra_nm (ra_mt K) d (some .boolean) (gm_I cX12_holds) (gm_lkf (lkX12 false K)) 3 [some (.ref B), some (.int x1), some (.long y2), none, some (.long y4), none, some (.long y6), none, some (.int x8)] [] (bM B (mH B s) G) sz sl R := by
  refine gm_ev.iload i144_3 rfl ?_
  refine gm_ev.aload_n i144_5 rfl ?_
  refine gm_ev.getfield (v := .int (s.1 20)) i144_6 rfl (bM_fld (j := 0) (fs := mF B s) rfl rfl) ?_
  refine gm_ev.icmp_ge_f i144_9 c1 ?_
  refine gm_ev.aload_n i144_12 rfl ?_
  refine gm_ev.getfield (v := .ref (B + 12)) i144_13 rfl (bM_fld (j := 0) (fs := mF B s) rfl rfl) ?_
  refine gm_ev.iload i144_16 rfl ?_
  refine gm_ev.iaload i144_18 (bM_ai (j := 12) (n := 201) (f := s.2.1 21) rfl ek2 lk2 (by decide)) ?_
  refine gm_ev.iload_n i144_19 rfl ?_
  refine gm_ev.icmp_ne_f i144_20 c3 ?_
  refine gm_ev.aload_n i144_23 rfl ?_
  refine gm_ev.getfield (v := .ref (B + 13)) i144_24 rfl (bM_fld (j := 0) (fs := mF B s) rfl rfl) ?_
  refine gm_ev.iconst (v := 3) i144_27 (by decide) ?_
  refine gm_ev.iload i144_28 rfl ?_
  refine gm_ev.imul i144_30 ?_
  refine gm_ev.laload i144_31 (bM_al (j := 13) (n := 603) (fl := s.2.2 22) rfl ek4 lk4 (by decide)) ?_
  refine gm_ev.lload_n i144_32 rfl ?_
  refine gm_ev.lcmp i144_33 ?_
  refine gm_ev.if_ne_f i144_34 c5 ?_
  refine gm_ev.aload_n i144_37 rfl ?_
  refine gm_ev.getfield (v := .ref (B + 13)) i144_38 rfl (bM_fld (j := 0) (fs := mF B s) rfl rfl) ?_
  refine gm_ev.iconst (v := 3) i144_41 (by decide) ?_
  refine gm_ev.iload i144_42 rfl ?_
  refine gm_ev.imul i144_44 ?_
  refine gm_ev.iconst (v := 1) i144_45 (by decide) ?_
  refine gm_ev.iadd i144_46 ?_
  refine gm_ev.laload i144_47 (bM_al (j := 13) (n := 603) (fl := s.2.2 22) rfl ek6 lk6 (by decide)) ?_
  refine gm_ev.lload i144_48 rfl ?_
  refine gm_ev.lcmp i144_50 ?_
  refine gm_ev.if_ne_t (tgt := 73) i144_51 (by decide) c7 ?_
  refine gm_ev.iinc (v := x8 + (1 : Int32)) (ls' := [some (.ref B), some (.int x1), some (.long y2), none, some (.long y4), none, some (.long y6), none, some (.int (x8 + (1 : Int32)))]) i144_73 rfl (by rfl) rfl ?_
  refine gm_ev.goto (tgt := 3) i144_76 (by decide) ?_
  exact k
theorem r_holds_3_fffft_at3 {N0 : Nat} {K : Nat → Nat} {d B : Nat} {s : mS} {G : gm_H} {sz sl : Nat} {R : gm_R} {x1 : Int32} {y2 : Int64} {y4 : Int64} {y6 : Int64} {x8 : Int32} {k2 : Nat} {k4 : Nat} {k6 : Nat} {k8 : Nat} (hN : N0 ≤ B) (c1 : ¬ (s.1 20) ≤ x8) (ek2 : x8 = nI k2) (lk2 : k2 < 201) (c3 : (s.2.1 21 k2) = x1) (ek4 : ((3 : Int32) * x8) = nI k4) (lk4 : k4 < 603) (c5 : (lg_cmp (s.2.2 22 k4) y2) = 0) (ek6 : (((3 : Int32) * x8) + (1 : Int32)) = nI k6) (lk6 : k6 < 603) (c7 : (lg_cmp (s.2.2 22 k6) y4) = 0) (ek8 : (((3 : Int32) * x8) + (2 : Int32)) = nI k8) (lk8 : k8 < 603) (c9 : ¬ (lg_cmp (s.2.2 22 k8) y6) = 0) (k : gm_ev N0 K ra_nm (ra_mt K) d (some .boolean) (gm_I cX12_holds) (gm_lkf (lkX12 false K)) 3 [some (.ref B), some (.int x1), some (.long y2), none, some (.long y4), none, some (.long y6), none, some (.int (x8 + (1 : Int32)))] [] (bM B (mH B s) G) sz sl R) : gm_ev N0 K ra_nm (ra_mt K) d (some .boolean) (gm_I cX12_holds) (gm_lkf (lkX12 false K)) 3 [some (.ref B), some (.int x1), some (.long y2), none, some (.long y4), none, some (.long y6), none, some (.int x8)] [] (bM B (mH B s) G) sz sl R := by
  refine gm_ev.iload i144_3 rfl ?_
  refine gm_ev.aload_n i144_5 rfl ?_
  refine gm_ev.getfield (v := .int (s.1 20)) i144_6 rfl (bM_fld (j := 0) (fs := mF B s) rfl rfl) ?_
  refine gm_ev.icmp_ge_f i144_9 c1 ?_
  refine gm_ev.aload_n i144_12 rfl ?_
  refine gm_ev.getfield (v := .ref (B + 12)) i144_13 rfl (bM_fld (j := 0) (fs := mF B s) rfl rfl) ?_
  refine gm_ev.iload i144_16 rfl ?_
  refine gm_ev.iaload i144_18 (bM_ai (j := 12) (n := 201) (f := s.2.1 21) rfl ek2 lk2 (by decide)) ?_
  refine gm_ev.iload_n i144_19 rfl ?_
  refine gm_ev.icmp_ne_f i144_20 c3 ?_
  refine gm_ev.aload_n i144_23 rfl ?_
  refine gm_ev.getfield (v := .ref (B + 13)) i144_24 rfl (bM_fld (j := 0) (fs := mF B s) rfl rfl) ?_
  refine gm_ev.iconst (v := 3) i144_27 (by decide) ?_
  refine gm_ev.iload i144_28 rfl ?_
  refine gm_ev.imul i144_30 ?_
  refine gm_ev.laload i144_31 (bM_al (j := 13) (n := 603) (fl := s.2.2 22) rfl ek4 lk4 (by decide)) ?_
  refine gm_ev.lload_n i144_32 rfl ?_
  refine gm_ev.lcmp i144_33 ?_
  refine gm_ev.if_ne_f i144_34 c5 ?_
  refine gm_ev.aload_n i144_37 rfl ?_
  refine gm_ev.getfield (v := .ref (B + 13)) i144_38 rfl (bM_fld (j := 0) (fs := mF B s) rfl rfl) ?_
  refine gm_ev.iconst (v := 3) i144_41 (by decide) ?_
  refine gm_ev.iload i144_42 rfl ?_
  refine gm_ev.imul i144_44 ?_
  refine gm_ev.iconst (v := 1) i144_45 (by decide) ?_
  refine gm_ev.iadd i144_46 ?_
  refine gm_ev.laload i144_47 (bM_al (j := 13) (n := 603) (fl := s.2.2 22) rfl ek6 lk6 (by decide)) ?_
  refine gm_ev.lload i144_48 rfl ?_
  refine gm_ev.lcmp i144_50 ?_
  refine gm_ev.if_ne_f i144_51 c7 ?_
  refine gm_ev.aload_n i144_54 rfl ?_
  refine gm_ev.getfield (v := .ref (B + 13)) i144_55 rfl (bM_fld (j := 0) (fs := mF B s) rfl rfl) ?_
  refine gm_ev.iconst (v := 3) i144_58 (by decide) ?_
  refine gm_ev.iload i144_59 rfl ?_
  refine gm_ev.imul i144_61 ?_
  refine gm_ev.iconst (v := 2) i144_62 (by decide) ?_
  refine gm_ev.iadd i144_63 ?_
  refine gm_ev.laload i144_64 (bM_al (j := 13) (n := 603) (fl := s.2.2 22) rfl ek8 lk8 (by decide)) ?_
  refine gm_ev.lload i144_65 rfl ?_
  refine gm_ev.lcmp i144_67 ?_
  refine gm_ev.if_ne_t (tgt := 73) i144_68 (by decide) c9 ?_
  refine gm_ev.iinc (v := x8 + (1 : Int32)) (ls' := [some (.ref B), some (.int x1), some (.long y2), none, some (.long y4), none, some (.long y6), none, some (.int (x8 + (1 : Int32)))]) i144_73 rfl (by rfl) rfl ?_
  refine gm_ev.goto (tgt := 3) i144_76 (by decide) ?_
  exact k
theorem r_holds_3_fffff {N0 : Nat} {K : Nat → Nat} {d B : Nat} {s : mS} {G : gm_H} {sz sl : Nat} {x1 : Int32} {y2 : Int64} {y4 : Int64} {y6 : Int64} {x8 : Int32} {k2 : Nat} {k4 : Nat} {k6 : Nat} {k8 : Nat} (hN : N0 ≤ B) (c1 : ¬ (s.1 20) ≤ x8) (ek2 : x8 = nI k2) (lk2 : k2 < 201) (c3 : (s.2.1 21 k2) = x1) (ek4 : ((3 : Int32) * x8) = nI k4) (lk4 : k4 < 603) (c5 : (lg_cmp (s.2.2 22 k4) y2) = 0) (ek6 : (((3 : Int32) * x8) + (1 : Int32)) = nI k6) (lk6 : k6 < 603) (c7 : (lg_cmp (s.2.2 22 k6) y4) = 0) (ek8 : (((3 : Int32) * x8) + (2 : Int32)) = nI k8) (lk8 : k8 < 603) (c9 : (lg_cmp (s.2.2 22 k8) y6) = 0) : gm_ev N0 K ra_nm (ra_mt K) d (some .boolean) (gm_I cX12_holds) (gm_lkf (lkX12 false K)) 3 [some (.ref B), some (.int x1), some (.long y2), none, some (.long y4), none, some (.long y6), none, some (.int x8)] [] (bM B (mH B s) G) sz sl (.returned (some (.int (1 : Int32))), (bM B (mH B s) G), sz, sl) := by
  refine gm_ev.iload i144_3 rfl ?_
  refine gm_ev.aload_n i144_5 rfl ?_
  refine gm_ev.getfield (v := .int (s.1 20)) i144_6 rfl (bM_fld (j := 0) (fs := mF B s) rfl rfl) ?_
  refine gm_ev.icmp_ge_f i144_9 c1 ?_
  refine gm_ev.aload_n i144_12 rfl ?_
  refine gm_ev.getfield (v := .ref (B + 12)) i144_13 rfl (bM_fld (j := 0) (fs := mF B s) rfl rfl) ?_
  refine gm_ev.iload i144_16 rfl ?_
  refine gm_ev.iaload i144_18 (bM_ai (j := 12) (n := 201) (f := s.2.1 21) rfl ek2 lk2 (by decide)) ?_
  refine gm_ev.iload_n i144_19 rfl ?_
  refine gm_ev.icmp_ne_f i144_20 c3 ?_
  refine gm_ev.aload_n i144_23 rfl ?_
  refine gm_ev.getfield (v := .ref (B + 13)) i144_24 rfl (bM_fld (j := 0) (fs := mF B s) rfl rfl) ?_
  refine gm_ev.iconst (v := 3) i144_27 (by decide) ?_
  refine gm_ev.iload i144_28 rfl ?_
  refine gm_ev.imul i144_30 ?_
  refine gm_ev.laload i144_31 (bM_al (j := 13) (n := 603) (fl := s.2.2 22) rfl ek4 lk4 (by decide)) ?_
  refine gm_ev.lload_n i144_32 rfl ?_
  refine gm_ev.lcmp i144_33 ?_
  refine gm_ev.if_ne_f i144_34 c5 ?_
  refine gm_ev.aload_n i144_37 rfl ?_
  refine gm_ev.getfield (v := .ref (B + 13)) i144_38 rfl (bM_fld (j := 0) (fs := mF B s) rfl rfl) ?_
  refine gm_ev.iconst (v := 3) i144_41 (by decide) ?_
  refine gm_ev.iload i144_42 rfl ?_
  refine gm_ev.imul i144_44 ?_
  refine gm_ev.iconst (v := 1) i144_45 (by decide) ?_
  refine gm_ev.iadd i144_46 ?_
  refine gm_ev.laload i144_47 (bM_al (j := 13) (n := 603) (fl := s.2.2 22) rfl ek6 lk6 (by decide)) ?_
  refine gm_ev.lload i144_48 rfl ?_
  refine gm_ev.lcmp i144_50 ?_
  refine gm_ev.if_ne_f i144_51 c7 ?_
  refine gm_ev.aload_n i144_54 rfl ?_
  refine gm_ev.getfield (v := .ref (B + 13)) i144_55 rfl (bM_fld (j := 0) (fs := mF B s) rfl rfl) ?_
  refine gm_ev.iconst (v := 3) i144_58 (by decide) ?_
  refine gm_ev.iload i144_59 rfl ?_
  refine gm_ev.imul i144_61 ?_
  refine gm_ev.iconst (v := 2) i144_62 (by decide) ?_
  refine gm_ev.iadd i144_63 ?_
  refine gm_ev.laload i144_64 (bM_al (j := 13) (n := 603) (fl := s.2.2 22) rfl ek8 lk8 (by decide)) ?_
  refine gm_ev.lload i144_65 rfl ?_
  refine gm_ev.lcmp i144_67 ?_
  refine gm_ev.if_ne_f i144_68 c9 ?_
  refine gm_ev.iconst (v := 1) i144_71 (by decide) ?_
  exact gm_ev.zret i144_72 rfl (by decide)
theorem r_add_0_t {N0 : Nat} {K : Nat → Nat} {d B : Nat} {s : mS} {G : gm_H} {sz sl : Nat} {p0 : Int32} {p1 : Int64} {p2 : Int64} {p3 : Int64} (hN : N0 ≤ B) (c1 : ¬ (s.1 23) = 0) : gm_ev N0 K ra_nm (ra_mt K) d none (gm_I cX12_add) (gm_lkf (lkX12 false K)) 0 [some (.ref B), some (.int p0), some (.long p1), none, some (.long p2), none, some (.long p3), none] [] (bM B (mH B s) G) sz sl (.returned none, (bM B (mH B s) G), sz, sl) := by
  refine gm_ev.aload_n i145_0 rfl ?_
  refine gm_ev.getfield (v := .int (s.1 23)) i145_1 rfl (bM_fld (j := 0) (fs := mF B s) rfl rfl) ?_
  refine gm_ev.if_ne_t (tgt := 20) i145_4 (by decide) c1 ?_
  exact gm_ev.vret i145_20 rfl
theorem r_add_0_ftt {N0 : Nat} {K : Nat → Nat} {d B : Nat} {s : mS} {G : gm_H} {sz sl : Nat} {p0 : Int32} {p1 : Int64} {p2 : Int64} {p3 : Int64} {r2 : Int32} {k6 : Nat} {k7 : Nat} {k8 : Nat} {k9 : Nat} (hN : N0 ≤ B) (c1 : (s.1 23) = 0) (t3 : gm_to N0 K ra_nm (ra_mt K) d 144 [.ref B, .int p0, .long p1, .long p2, .long p3] (bM B (mH B s) G) sz (.returned (some (.int r2)), bM B (mH B s) G, sz, 0)) (c4 : r2 = 0) (c5 : ¬ (s.1 20) = (200 : Int32)) (ek6 : (s.1 20) = nI k6) (lk6 : k6 < 201) (ek7 : ((3 : Int32) * (s.1 20)) = nI k7) (lk7 : k7 < 603) (ek8 : (((3 : Int32) * (s.1 20)) + (1 : Int32)) = nI k8) (lk8 : k8 < 603) (ek9 : (((3 : Int32) * (s.1 20)) + (2 : Int32)) = nI k9) (lk9 : k9 < 603) : gm_ev N0 K ra_nm (ra_mt K) d none (gm_I cX12_add) (gm_lkf (lkX12 false K)) 0 [some (.ref B), some (.int p0), some (.long p1), none, some (.long p2), none, some (.long p3), none] [] (bM B (mH B s) G) sz sl (.returned none, (bM B (mH B (mI (mL (mL (mL (mA s 21 (upd (s.2.1 21) k6 p0)) 22 (vp_updL (s.2.2 22) k7 p1)) 22 (vp_updL (vp_updL (s.2.2 22) k7 p1) k8 p2)) 22 (vp_updL (vp_updL (vp_updL (s.2.2 22) k7 p1) k8 p2) k9 p3)) 20 ((s.1 20) + (1 : Int32)))) G), sz, sl) := by
  refine gm_ev.aload_n i145_0 rfl ?_
  refine gm_ev.getfield (v := .int (s.1 23)) i145_1 rfl (bM_fld (j := 0) (fs := mF B s) rfl rfl) ?_
  refine gm_ev.if_ne_f i145_4 c1 ?_
  refine gm_ev.aload_n i145_7 rfl ?_
  refine gm_ev.iload_n i145_8 rfl ?_
  refine gm_ev.lload_n i145_9 rfl ?_
  refine gm_ev.lload i145_10 rfl ?_
  refine gm_ev.lload i145_12 rfl ?_
  refine gm_ev.callV gm_mono_run (av := [.int p0, .long p1, .long p2, .long p3]) (r := []) (ci := 11) (fs := mF B s) (bM_get (j := 0) rfl) i145_14 rfl rfl rfl (Nat.le_of_ble_eq_true rfl) t3 ?_
  refine gm_ev.if_eq_t (tgt := 21) i145_17 (by decide) c4 ?_
  refine gm_ev.aload_n i145_21 rfl ?_
  refine gm_ev.getfield (v := .int (s.1 20)) i145_22 rfl (bM_fld (j := 0) (fs := mF B s) rfl rfl) ?_
  refine gm_ev.sipush (v := 200) i145_25 (by decide) ?_
  refine gm_ev.icmp_ne_t (tgt := 37) i145_28 (by decide) c5 ?_
  refine gm_ev.aload_n i145_37 rfl ?_
  refine gm_ev.getfield (v := .ref (B + 12)) i145_38 rfl (bM_fld (j := 0) (fs := mF B s) rfl rfl) ?_
  refine gm_ev.aload_n i145_41 rfl ?_
  refine gm_ev.getfield (v := .int (s.1 20)) i145_42 rfl (bM_fld (j := 0) (fs := mF B s) rfl rfl) ?_
  refine gm_ev.iload_n i145_45 rfl ?_
  refine gm_ev.iastore (M' := (bM B (mH B (mA s 21 (upd (s.2.1 21) k6 p0))) G)) i145_46 (bM_asti (j := 12) (n := 201) (f := s.2.1 21) rfl ek6 lk6 (by decide) hN rfl) ?_
  refine gm_ev.aload_n i145_47 rfl ?_
  refine gm_ev.getfield (v := .ref (B + 13)) i145_48 rfl (bM_fld (j := 0) (fs := mF B (mA s 21 (upd (s.2.1 21) k6 p0))) rfl rfl) ?_
  refine gm_ev.iconst (v := 3) i145_51 (by decide) ?_
  refine gm_ev.aload_n i145_52 rfl ?_
  refine gm_ev.getfield (v := .int (s.1 20)) i145_53 rfl (bM_fld (j := 0) (fs := mF B (mA s 21 (upd (s.2.1 21) k6 p0))) rfl rfl) ?_
  refine gm_ev.imul i145_56 ?_
  refine gm_ev.lload_n i145_57 rfl ?_
  refine gm_ev.lastore (M' := (bM B (mH B (mL (mA s 21 (upd (s.2.1 21) k6 p0)) 22 (vp_updL (s.2.2 22) k7 p1))) G)) i145_58 (bM_astl (j := 13) (n := 603) (fl := s.2.2 22) rfl ek7 lk7 (by decide) hN rfl) ?_
  refine gm_ev.aload_n i145_59 rfl ?_
  refine gm_ev.getfield (v := .ref (B + 13)) i145_60 rfl (bM_fld (j := 0) (fs := mF B (mL (mA s 21 (upd (s.2.1 21) k6 p0)) 22 (vp_updL (s.2.2 22) k7 p1))) rfl rfl) ?_
  refine gm_ev.iconst (v := 3) i145_63 (by decide) ?_
  refine gm_ev.aload_n i145_64 rfl ?_
  refine gm_ev.getfield (v := .int (s.1 20)) i145_65 rfl (bM_fld (j := 0) (fs := mF B (mL (mA s 21 (upd (s.2.1 21) k6 p0)) 22 (vp_updL (s.2.2 22) k7 p1))) rfl rfl) ?_
  refine gm_ev.imul i145_68 ?_
  refine gm_ev.iconst (v := 1) i145_69 (by decide) ?_
  refine gm_ev.iadd i145_70 ?_
  refine gm_ev.lload i145_71 rfl ?_
  refine gm_ev.lastore (M' := (bM B (mH B (mL (mL (mA s 21 (upd (s.2.1 21) k6 p0)) 22 (vp_updL (s.2.2 22) k7 p1)) 22 (vp_updL (vp_updL (s.2.2 22) k7 p1) k8 p2))) G)) i145_73 (bM_astl (j := 13) (n := 603) (fl := (vp_updL (s.2.2 22) k7 p1)) rfl ek8 lk8 (by decide) hN rfl) ?_
  refine gm_ev.aload_n i145_74 rfl ?_
  refine gm_ev.getfield (v := .ref (B + 13)) i145_75 rfl (bM_fld (j := 0) (fs := mF B (mL (mL (mA s 21 (upd (s.2.1 21) k6 p0)) 22 (vp_updL (s.2.2 22) k7 p1)) 22 (vp_updL (vp_updL (s.2.2 22) k7 p1) k8 p2))) rfl rfl) ?_
  refine gm_ev.iconst (v := 3) i145_78 (by decide) ?_
  refine gm_ev.aload_n i145_79 rfl ?_
  refine gm_ev.getfield (v := .int (s.1 20)) i145_80 rfl (bM_fld (j := 0) (fs := mF B (mL (mL (mA s 21 (upd (s.2.1 21) k6 p0)) 22 (vp_updL (s.2.2 22) k7 p1)) 22 (vp_updL (vp_updL (s.2.2 22) k7 p1) k8 p2))) rfl rfl) ?_
  refine gm_ev.imul i145_83 ?_
  refine gm_ev.iconst (v := 2) i145_84 (by decide) ?_
  refine gm_ev.iadd i145_85 ?_
  refine gm_ev.lload i145_86 rfl ?_
  refine gm_ev.lastore (M' := (bM B (mH B (mL (mL (mL (mA s 21 (upd (s.2.1 21) k6 p0)) 22 (vp_updL (s.2.2 22) k7 p1)) 22 (vp_updL (vp_updL (s.2.2 22) k7 p1) k8 p2)) 22 (vp_updL (vp_updL (vp_updL (s.2.2 22) k7 p1) k8 p2) k9 p3))) G)) i145_88 (bM_astl (j := 13) (n := 603) (fl := (vp_updL (vp_updL (s.2.2 22) k7 p1) k8 p2)) rfl ek9 lk9 (by decide) hN rfl) ?_
  refine gm_ev.aload_n i145_89 rfl ?_
  refine gm_ev.dup i145_90 rfl ?_
  refine gm_ev.getfield (v := .int (s.1 20)) i145_91 rfl (bM_fld (j := 0) (fs := mF B (mL (mL (mL (mA s 21 (upd (s.2.1 21) k6 p0)) 22 (vp_updL (s.2.2 22) k7 p1)) 22 (vp_updL (vp_updL (s.2.2 22) k7 p1) k8 p2)) 22 (vp_updL (vp_updL (vp_updL (s.2.2 22) k7 p1) k8 p2) k9 p3))) rfl rfl) ?_
  refine gm_ev.iconst (v := 1) i145_94 (by decide) ?_
  refine gm_ev.iadd i145_95 ?_
  refine gm_ev.putfield (M' := (bM B (mH B (mI (mL (mL (mL (mA s 21 (upd (s.2.1 21) k6 p0)) 22 (vp_updL (s.2.2 22) k7 p1)) 22 (vp_updL (vp_updL (s.2.2 22) k7 p1) k8 p2)) 22 (vp_updL (vp_updL (vp_updL (s.2.2 22) k7 p1) k8 p2) k9 p3)) 20 ((s.1 20) + (1 : Int32)))) G)) i145_96 rfl (bM_put (j := 0) (fs := mF B (mL (mL (mL (mA s 21 (upd (s.2.1 21) k6 p0)) 22 (vp_updL (s.2.2 22) k7 p1)) 22 (vp_updL (vp_updL (s.2.2 22) k7 p1) k8 p2)) 22 (vp_updL (vp_updL (vp_updL (s.2.2 22) k7 p1) k8 p2) k9 p3))) rfl (Nat.le_of_ble_eq_true rfl) hN (gm_fit_i _) rfl) ?_
  exact gm_ev.vret i145_99 rfl
theorem r_add_0_ftf {N0 : Nat} {K : Nat → Nat} {d B : Nat} {s : mS} {G : gm_H} {sz sl : Nat} {p0 : Int32} {p1 : Int64} {p2 : Int64} {p3 : Int64} {r2 : Int32} (hN : N0 ≤ B) (c1 : (s.1 23) = 0) (t3 : gm_to N0 K ra_nm (ra_mt K) d 144 [.ref B, .int p0, .long p1, .long p2, .long p3] (bM B (mH B s) G) sz (.returned (some (.int r2)), bM B (mH B s) G, sz, 0)) (c4 : r2 = 0) (c5 : (s.1 20) = (200 : Int32)) : gm_ev N0 K ra_nm (ra_mt K) d none (gm_I cX12_add) (gm_lkf (lkX12 false K)) 0 [some (.ref B), some (.int p0), some (.long p1), none, some (.long p2), none, some (.long p3), none] [] (bM B (mH B s) G) sz sl (.returned none, (bM B (mH B (mI s 23 (1 : Int32))) G), sz, sl) := by
  refine gm_ev.aload_n i145_0 rfl ?_
  refine gm_ev.getfield (v := .int (s.1 23)) i145_1 rfl (bM_fld (j := 0) (fs := mF B s) rfl rfl) ?_
  refine gm_ev.if_ne_f i145_4 c1 ?_
  refine gm_ev.aload_n i145_7 rfl ?_
  refine gm_ev.iload_n i145_8 rfl ?_
  refine gm_ev.lload_n i145_9 rfl ?_
  refine gm_ev.lload i145_10 rfl ?_
  refine gm_ev.lload i145_12 rfl ?_
  refine gm_ev.callV gm_mono_run (av := [.int p0, .long p1, .long p2, .long p3]) (r := []) (ci := 11) (fs := mF B s) (bM_get (j := 0) rfl) i145_14 rfl rfl rfl (Nat.le_of_ble_eq_true rfl) t3 ?_
  refine gm_ev.if_eq_t (tgt := 21) i145_17 (by decide) c4 ?_
  refine gm_ev.aload_n i145_21 rfl ?_
  refine gm_ev.getfield (v := .int (s.1 20)) i145_22 rfl (bM_fld (j := 0) (fs := mF B s) rfl rfl) ?_
  refine gm_ev.sipush (v := 200) i145_25 (by decide) ?_
  refine gm_ev.icmp_ne_f i145_28 c5 ?_
  refine gm_ev.aload_n i145_31 rfl ?_
  refine gm_ev.iconst (v := 1) i145_32 (by decide) ?_
  refine gm_ev.putfield (M' := (bM B (mH B (mI s 23 (1 : Int32))) G)) i145_33 rfl (bM_put (j := 0) (fs := mF B s) rfl (Nat.le_of_ble_eq_true rfl) hN (gm_fit_z (by decide)) rfl) ?_
  exact gm_ev.vret i145_36 rfl
theorem r_add_0_ff {N0 : Nat} {K : Nat → Nat} {d B : Nat} {s : mS} {G : gm_H} {sz sl : Nat} {p0 : Int32} {p1 : Int64} {p2 : Int64} {p3 : Int64} {r2 : Int32} (hN : N0 ≤ B) (c1 : (s.1 23) = 0) (t3 : gm_to N0 K ra_nm (ra_mt K) d 144 [.ref B, .int p0, .long p1, .long p2, .long p3] (bM B (mH B s) G) sz (.returned (some (.int r2)), bM B (mH B s) G, sz, 0)) (c4 : ¬ r2 = 0) : gm_ev N0 K ra_nm (ra_mt K) d none (gm_I cX12_add) (gm_lkf (lkX12 false K)) 0 [some (.ref B), some (.int p0), some (.long p1), none, some (.long p2), none, some (.long p3), none] [] (bM B (mH B s) G) sz sl (.returned none, (bM B (mH B s) G), sz, sl) := by
  refine gm_ev.aload_n i145_0 rfl ?_
  refine gm_ev.getfield (v := .int (s.1 23)) i145_1 rfl (bM_fld (j := 0) (fs := mF B s) rfl rfl) ?_
  refine gm_ev.if_ne_f i145_4 c1 ?_
  refine gm_ev.aload_n i145_7 rfl ?_
  refine gm_ev.iload_n i145_8 rfl ?_
  refine gm_ev.lload_n i145_9 rfl ?_
  refine gm_ev.lload i145_10 rfl ?_
  refine gm_ev.lload i145_12 rfl ?_
  refine gm_ev.callV gm_mono_run (av := [.int p0, .long p1, .long p2, .long p3]) (r := []) (ci := 11) (fs := mF B s) (bM_get (j := 0) rfl) i145_14 rfl rfl rfl (Nat.le_of_ble_eq_true rfl) t3 ?_
  refine gm_ev.if_eq_f i145_17 c4 ?_
  exact gm_ev.vret i145_20 rfl
theorem r_isConstant_0_t {N0 : Nat} {K : Nat → Nat} {d B : Nat} {s : mS} {G : gm_H} {sz sl : Nat} {p0 : Int64} (hN : N0 ≤ B) (c1 : ¬ (lg_cmp (p0 <<< (((8 : Int32)).toInt64 &&& 63)) (0 : Int64)) = 0) : gm_ev N0 K ra_nm (ra_mt K) d (some .boolean) (gm_I cX12_isConstant) (gm_lkf (lkX12 false K)) 0 [some (.long p0), none] [] (bM B (mH B s) G) sz sl (.returned (some (.int (0 : Int32))), (bM B (mH B s) G), sz, sl) := by
  refine gm_ev.lload_n i146_0 rfl ?_
  refine gm_ev.bipush (v := 8) i146_1 (by decide) ?_
  refine gm_ev.lshl i146_3 ?_
  refine gm_ev.lconst (v := 0) i146_4 (by decide) ?_
  refine gm_ev.lcmp i146_5 ?_
  refine gm_ev.if_ne_t (tgt := 13) i146_6 (by decide) c1 ?_
  refine gm_ev.iconst (v := 0) i146_13 (by decide) ?_
  exact gm_ev.zret i146_14 rfl (by decide)
theorem r_isConstant_0_f {N0 : Nat} {K : Nat → Nat} {d B : Nat} {s : mS} {G : gm_H} {sz sl : Nat} {p0 : Int64} (hN : N0 ≤ B) (c1 : (lg_cmp (p0 <<< (((8 : Int32)).toInt64 &&& 63)) (0 : Int64)) = 0) : gm_ev N0 K ra_nm (ra_mt K) d (some .boolean) (gm_I cX12_isConstant) (gm_lkf (lkX12 false K)) 0 [some (.long p0), none] [] (bM B (mH B s) G) sz sl (.returned (some (.int (1 : Int32))), (bM B (mH B s) G), sz, sl) := by
  refine gm_ev.lload_n i146_0 rfl ?_
  refine gm_ev.bipush (v := 8) i146_1 (by decide) ?_
  refine gm_ev.lshl i146_3 ?_
  refine gm_ev.lconst (v := 0) i146_4 (by decide) ?_
  refine gm_ev.lcmp i146_5 ?_
  refine gm_ev.if_ne_f i146_6 c1 ?_
  refine gm_ev.iconst (v := 1) i146_9 (by decide) ?_
  refine gm_ev.goto (tgt := 14) i146_10 (by decide) ?_
  exact gm_ev.zret i146_14 rfl (by decide)
theorem r_letterOf_0_t {N0 : Nat} {K : Nat → Nat} {d B : Nat} {s : mS} {G : gm_H} {sz sl : Nat} {p0 : Int64} {p1 : Int32} (hN : N0 ≤ B) (c1 : (8 : Int32) ≤ p1) : gm_ev N0 K ra_nm (ra_mt K) d (some .int) (gm_I cX12_letterOf) (gm_lkf (lkX12 false K)) 0 [some (.long p0), none, some (.int p1)] [] (bM B (mH B s) G) sz sl (.returned (some (.int (0 : Int32))), (bM B (mH B s) G), sz, sl) := by
  refine gm_ev.iload_n i147_0 rfl ?_
  refine gm_ev.bipush (v := 8) i147_1 (by decide) ?_
  refine gm_ev.icmp_ge_t (tgt := 23) i147_3 (by decide) c1 ?_
  refine gm_ev.iconst (v := 0) i147_23 (by decide) ?_
  exact gm_ev.iret i147_24 rfl
theorem r_letterOf_0_f {N0 : Nat} {K : Nat → Nat} {d B : Nat} {s : mS} {G : gm_H} {sz sl : Nat} {p0 : Int64} {p1 : Int32} (hN : N0 ≤ B) (c1 : ¬ (8 : Int32) ≤ p1) : gm_ev N0 K ra_nm (ra_mt K) d (some .int) (gm_I cX12_letterOf) (gm_lkf (lkX12 false K)) 0 [some (.long p0), none, some (.int p1)] [] (bM B (mH B s) G) sz sl (.returned (some (.int (((p0 >>> ((((56 : Int32) - ((8 : Int32) * p1))).toInt64 &&& 63)) &&& (255 : Int64)).toInt32))), (bM B (mH B s) G), sz, sl) := by
  refine gm_ev.iload_n i147_0 rfl ?_
  refine gm_ev.bipush (v := 8) i147_1 (by decide) ?_
  refine gm_ev.icmp_ge_f i147_3 c1 ?_
  refine gm_ev.lload_n i147_6 rfl ?_
  refine gm_ev.bipush (v := 56) i147_7 (by decide) ?_
  refine gm_ev.bipush (v := 8) i147_9 (by decide) ?_
  refine gm_ev.iload_n i147_11 rfl ?_
  refine gm_ev.imul i147_12 ?_
  refine gm_ev.isub i147_13 ?_
  refine gm_ev.lshr i147_14 ?_
  refine gm_ev.ldc2 i147_15 rfl ?_
  refine gm_ev.land i147_18 ?_
  refine gm_ev.l2i i147_19 ?_
  refine gm_ev.goto (tgt := 24) i147_20 (by decide) ?_
  exact gm_ev.iret i147_24 rfl
theorem r_meets_0_ttt {N0 : Nat} {K : Nat → Nat} {d B : Nat} {s : mS} {G : gm_H} {sz sl : Nat} {p0 : Int32} {p1 : Int64} {p2 : Int32} {r1 : Int32} {k5 : Nat} {k7 : Nat} {k8 : Nat} (hN : N0 ≤ B) (t2 : gm_to N0 K ra_nm (ra_mt K) d 125 [.int p0] (bM B (mH B s) G) sz (.returned (some (.int r1)), bM B (mH B s) G, sz, 0)) (c3 : ¬ r1 = 0) (c4 : ¬ (((s.1 28) >>> ((p0 - (85 : Int32)) &&& 31)) &&& (1 : Int32)) = (1 : Int32)) (ek5 : (p0 - (85 : Int32)) = nI k5) (lk5 : k5 < 6) (c6 : (s.2.1 26 k5) < 0) (ek7 : (p0 - (85 : Int32)) = nI k7) (lk7 : k7 < 6) (ek8 : (p0 - (85 : Int32)) = nI k8) (lk8 : k8 < 6) : gm_ev N0 K ra_nm (ra_mt K) d (some .boolean) (gm_I cX12_meets) (gm_lkf (lkX12 false K)) 0 [some (.ref B), some (.int p0), some (.long p1), none, some (.int p2), none] [] (bM B (mH B s) G) sz sl (.returned (some (.int (1 : Int32))), (bM B (mH B (mL (mA s 26 (upd (s.2.1 26) k7 p2)) 25 (vp_updL (s.2.2 25) k8 p1))) G), sz, sl) := by
  refine gm_ev.iload_n i148_0 rfl ?_
  refine gm_ev.callS gm_mono_run (av := [.int p0]) (r := []) i148_1 rfl rfl rfl (Nat.le_of_ble_eq_true rfl) t2 ?_
  refine gm_ev.if_ne_t (tgt := 23) i148_4 (by decide) c3 ?_
  refine gm_ev.iload_n i148_23 rfl ?_
  refine gm_ev.bipush (v := 85) i148_24 (by decide) ?_
  refine gm_ev.isub i148_26 ?_
  refine gm_ev.istore (ls' := [some (.ref B), some (.int p0), some (.long p1), none, some (.int p2), some (.int (p0 - (85 : Int32)))]) i148_27 (Nat.le_of_ble_eq_true rfl) rfl ?_
  refine gm_ev.aload_n i148_29 rfl ?_
  refine gm_ev.getfield (v := .int (s.1 28)) i148_30 rfl (bM_fld (j := 0) (fs := mF B s) rfl rfl) ?_
  refine gm_ev.iload i148_33 rfl ?_
  refine gm_ev.ishr i148_35 ?_
  refine gm_ev.iconst (v := 1) i148_36 (by decide) ?_
  refine gm_ev.iand i148_37 ?_
  refine gm_ev.iconst (v := 1) i148_38 (by decide) ?_
  refine gm_ev.icmp_ne_t (tgt := 51) i148_39 (by decide) c4 ?_
  refine gm_ev.aload_n i148_51 rfl ?_
  refine gm_ev.getfield (v := .ref (B + 15)) i148_52 rfl (bM_fld (j := 0) (fs := mF B s) rfl rfl) ?_
  refine gm_ev.iload i148_55 rfl ?_
  refine gm_ev.iaload i148_57 (bM_ai (j := 15) (n := 6) (f := s.2.1 26) rfl ek5 lk5 (by decide)) ?_
  refine gm_ev.if_lt_t (tgt := 79) i148_58 (by decide) c6 ?_
  refine gm_ev.aload_n i148_79 rfl ?_
  refine gm_ev.getfield (v := .ref (B + 15)) i148_80 rfl (bM_fld (j := 0) (fs := mF B s) rfl rfl) ?_
  refine gm_ev.iload i148_83 rfl ?_
  refine gm_ev.iload i148_85 rfl ?_
  refine gm_ev.iastore (M' := (bM B (mH B (mA s 26 (upd (s.2.1 26) k7 p2))) G)) i148_87 (bM_asti (j := 15) (n := 6) (f := s.2.1 26) rfl ek7 lk7 (by decide) hN rfl) ?_
  refine gm_ev.aload_n i148_88 rfl ?_
  refine gm_ev.getfield (v := .ref (B + 14)) i148_89 rfl (bM_fld (j := 0) (fs := mF B (mA s 26 (upd (s.2.1 26) k7 p2))) rfl rfl) ?_
  refine gm_ev.iload i148_92 rfl ?_
  refine gm_ev.lload_n i148_94 rfl ?_
  refine gm_ev.lastore (M' := (bM B (mH B (mL (mA s 26 (upd (s.2.1 26) k7 p2)) 25 (vp_updL (s.2.2 25) k8 p1))) G)) i148_95 (bM_astl (j := 14) (n := 6) (fl := s.2.2 25) rfl ek8 lk8 (by decide) hN rfl) ?_
  refine gm_ev.iconst (v := 1) i148_96 (by decide) ?_
  exact gm_ev.zret i148_97 rfl (by decide)
theorem r_meets_0_ttft {N0 : Nat} {K : Nat → Nat} {d B : Nat} {s : mS} {G : gm_H} {sz sl : Nat} {p0 : Int32} {p1 : Int64} {p2 : Int32} {r1 : Int32} {k5 : Nat} {k7 : Nat} (hN : N0 ≤ B) (t2 : gm_to N0 K ra_nm (ra_mt K) d 125 [.int p0] (bM B (mH B s) G) sz (.returned (some (.int r1)), bM B (mH B s) G, sz, 0)) (c3 : ¬ r1 = 0) (c4 : ¬ (((s.1 28) >>> ((p0 - (85 : Int32)) &&& 31)) &&& (1 : Int32)) = (1 : Int32)) (ek5 : (p0 - (85 : Int32)) = nI k5) (lk5 : k5 < 6) (c6 : ¬ (s.2.1 26 k5) < 0) (ek7 : (p0 - (85 : Int32)) = nI k7) (lk7 : k7 < 6) (c8 : ¬ (lg_cmp (s.2.2 25 k7) p1) = 0) : gm_ev N0 K ra_nm (ra_mt K) d (some .boolean) (gm_I cX12_meets) (gm_lkf (lkX12 false K)) 0 [some (.ref B), some (.int p0), some (.long p1), none, some (.int p2), none] [] (bM B (mH B s) G) sz sl (.returned (some (.int (0 : Int32))), (bM B (mH B s) G), sz, sl) := by
  refine gm_ev.iload_n i148_0 rfl ?_
  refine gm_ev.callS gm_mono_run (av := [.int p0]) (r := []) i148_1 rfl rfl rfl (Nat.le_of_ble_eq_true rfl) t2 ?_
  refine gm_ev.if_ne_t (tgt := 23) i148_4 (by decide) c3 ?_
  refine gm_ev.iload_n i148_23 rfl ?_
  refine gm_ev.bipush (v := 85) i148_24 (by decide) ?_
  refine gm_ev.isub i148_26 ?_
  refine gm_ev.istore (ls' := [some (.ref B), some (.int p0), some (.long p1), none, some (.int p2), some (.int (p0 - (85 : Int32)))]) i148_27 (Nat.le_of_ble_eq_true rfl) rfl ?_
  refine gm_ev.aload_n i148_29 rfl ?_
  refine gm_ev.getfield (v := .int (s.1 28)) i148_30 rfl (bM_fld (j := 0) (fs := mF B s) rfl rfl) ?_
  refine gm_ev.iload i148_33 rfl ?_
  refine gm_ev.ishr i148_35 ?_
  refine gm_ev.iconst (v := 1) i148_36 (by decide) ?_
  refine gm_ev.iand i148_37 ?_
  refine gm_ev.iconst (v := 1) i148_38 (by decide) ?_
  refine gm_ev.icmp_ne_t (tgt := 51) i148_39 (by decide) c4 ?_
  refine gm_ev.aload_n i148_51 rfl ?_
  refine gm_ev.getfield (v := .ref (B + 15)) i148_52 rfl (bM_fld (j := 0) (fs := mF B s) rfl rfl) ?_
  refine gm_ev.iload i148_55 rfl ?_
  refine gm_ev.iaload i148_57 (bM_ai (j := 15) (n := 6) (f := s.2.1 26) rfl ek5 lk5 (by decide)) ?_
  refine gm_ev.if_lt_f i148_58 c6 ?_
  refine gm_ev.aload_n i148_61 rfl ?_
  refine gm_ev.getfield (v := .ref (B + 14)) i148_62 rfl (bM_fld (j := 0) (fs := mF B s) rfl rfl) ?_
  refine gm_ev.iload i148_65 rfl ?_
  refine gm_ev.laload i148_67 (bM_al (j := 14) (n := 6) (fl := s.2.2 25) rfl ek7 lk7 (by decide)) ?_
  refine gm_ev.lload_n i148_68 rfl ?_
  refine gm_ev.lcmp i148_69 ?_
  refine gm_ev.if_ne_t (tgt := 77) i148_70 (by decide) c8 ?_
  refine gm_ev.iconst (v := 0) i148_77 (by decide) ?_
  exact gm_ev.zret i148_78 rfl (by decide)
theorem r_meets_0_ttff {N0 : Nat} {K : Nat → Nat} {d B : Nat} {s : mS} {G : gm_H} {sz sl : Nat} {p0 : Int32} {p1 : Int64} {p2 : Int32} {r1 : Int32} {k5 : Nat} {k7 : Nat} (hN : N0 ≤ B) (t2 : gm_to N0 K ra_nm (ra_mt K) d 125 [.int p0] (bM B (mH B s) G) sz (.returned (some (.int r1)), bM B (mH B s) G, sz, 0)) (c3 : ¬ r1 = 0) (c4 : ¬ (((s.1 28) >>> ((p0 - (85 : Int32)) &&& 31)) &&& (1 : Int32)) = (1 : Int32)) (ek5 : (p0 - (85 : Int32)) = nI k5) (lk5 : k5 < 6) (c6 : ¬ (s.2.1 26 k5) < 0) (ek7 : (p0 - (85 : Int32)) = nI k7) (lk7 : k7 < 6) (c8 : (lg_cmp (s.2.2 25 k7) p1) = 0) : gm_ev N0 K ra_nm (ra_mt K) d (some .boolean) (gm_I cX12_meets) (gm_lkf (lkX12 false K)) 0 [some (.ref B), some (.int p0), some (.long p1), none, some (.int p2), none] [] (bM B (mH B s) G) sz sl (.returned (some (.int (1 : Int32))), (bM B (mH B s) G), sz, sl) := by
  refine gm_ev.iload_n i148_0 rfl ?_
  refine gm_ev.callS gm_mono_run (av := [.int p0]) (r := []) i148_1 rfl rfl rfl (Nat.le_of_ble_eq_true rfl) t2 ?_
  refine gm_ev.if_ne_t (tgt := 23) i148_4 (by decide) c3 ?_
  refine gm_ev.iload_n i148_23 rfl ?_
  refine gm_ev.bipush (v := 85) i148_24 (by decide) ?_
  refine gm_ev.isub i148_26 ?_
  refine gm_ev.istore (ls' := [some (.ref B), some (.int p0), some (.long p1), none, some (.int p2), some (.int (p0 - (85 : Int32)))]) i148_27 (Nat.le_of_ble_eq_true rfl) rfl ?_
  refine gm_ev.aload_n i148_29 rfl ?_
  refine gm_ev.getfield (v := .int (s.1 28)) i148_30 rfl (bM_fld (j := 0) (fs := mF B s) rfl rfl) ?_
  refine gm_ev.iload i148_33 rfl ?_
  refine gm_ev.ishr i148_35 ?_
  refine gm_ev.iconst (v := 1) i148_36 (by decide) ?_
  refine gm_ev.iand i148_37 ?_
  refine gm_ev.iconst (v := 1) i148_38 (by decide) ?_
  refine gm_ev.icmp_ne_t (tgt := 51) i148_39 (by decide) c4 ?_
  refine gm_ev.aload_n i148_51 rfl ?_
  refine gm_ev.getfield (v := .ref (B + 15)) i148_52 rfl (bM_fld (j := 0) (fs := mF B s) rfl rfl) ?_
  refine gm_ev.iload i148_55 rfl ?_
  refine gm_ev.iaload i148_57 (bM_ai (j := 15) (n := 6) (f := s.2.1 26) rfl ek5 lk5 (by decide)) ?_
  refine gm_ev.if_lt_f i148_58 c6 ?_
  refine gm_ev.aload_n i148_61 rfl ?_
  refine gm_ev.getfield (v := .ref (B + 14)) i148_62 rfl (bM_fld (j := 0) (fs := mF B s) rfl rfl) ?_
  refine gm_ev.iload i148_65 rfl ?_
  refine gm_ev.laload i148_67 (bM_al (j := 14) (n := 6) (fl := s.2.2 25) rfl ek7 lk7 (by decide)) ?_
  refine gm_ev.lload_n i148_68 rfl ?_
  refine gm_ev.lcmp i148_69 ?_
  refine gm_ev.if_ne_f i148_70 c8 ?_
  refine gm_ev.iconst (v := 1) i148_73 (by decide) ?_
  refine gm_ev.goto (tgt := 78) i148_74 (by decide) ?_
  exact gm_ev.zret i148_78 rfl (by decide)
theorem r_meets_0_tftt {N0 : Nat} {K : Nat → Nat} {d B : Nat} {s : mS} {G : gm_H} {sz sl : Nat} {p0 : Int32} {p1 : Int64} {p2 : Int32} {r1 : Int32} {r5 : Int32} {k8 : Nat} {k10 : Nat} {k11 : Nat} (hN : N0 ≤ B) (t2 : gm_to N0 K ra_nm (ra_mt K) d 125 [.int p0] (bM B (mH B s) G) sz (.returned (some (.int r1)), bM B (mH B s) G, sz, 0)) (c3 : ¬ r1 = 0) (c4 : (((s.1 28) >>> ((p0 - (85 : Int32)) &&& 31)) &&& (1 : Int32)) = (1 : Int32)) (t6 : gm_to N0 K ra_nm (ra_mt K) d 146 [.long p1] (bM B (mH B s) G) sz (.returned (some (.int r5)), bM B (mH B s) G, sz, 0)) (c7 : ¬ r5 = 0) (ek8 : (p0 - (85 : Int32)) = nI k8) (lk8 : k8 < 6) (c9 : (s.2.1 26 k8) < 0) (ek10 : (p0 - (85 : Int32)) = nI k10) (lk10 : k10 < 6) (ek11 : (p0 - (85 : Int32)) = nI k11) (lk11 : k11 < 6) : gm_ev N0 K ra_nm (ra_mt K) d (some .boolean) (gm_I cX12_meets) (gm_lkf (lkX12 false K)) 0 [some (.ref B), some (.int p0), some (.long p1), none, some (.int p2), none] [] (bM B (mH B s) G) sz sl (.returned (some (.int (1 : Int32))), (bM B (mH B (mL (mA s 26 (upd (s.2.1 26) k10 p2)) 25 (vp_updL (s.2.2 25) k11 p1))) G), sz, sl) := by
  refine gm_ev.iload_n i148_0 rfl ?_
  refine gm_ev.callS gm_mono_run (av := [.int p0]) (r := []) i148_1 rfl rfl rfl (Nat.le_of_ble_eq_true rfl) t2 ?_
  refine gm_ev.if_ne_t (tgt := 23) i148_4 (by decide) c3 ?_
  refine gm_ev.iload_n i148_23 rfl ?_
  refine gm_ev.bipush (v := 85) i148_24 (by decide) ?_
  refine gm_ev.isub i148_26 ?_
  refine gm_ev.istore (ls' := [some (.ref B), some (.int p0), some (.long p1), none, some (.int p2), some (.int (p0 - (85 : Int32)))]) i148_27 (Nat.le_of_ble_eq_true rfl) rfl ?_
  refine gm_ev.aload_n i148_29 rfl ?_
  refine gm_ev.getfield (v := .int (s.1 28)) i148_30 rfl (bM_fld (j := 0) (fs := mF B s) rfl rfl) ?_
  refine gm_ev.iload i148_33 rfl ?_
  refine gm_ev.ishr i148_35 ?_
  refine gm_ev.iconst (v := 1) i148_36 (by decide) ?_
  refine gm_ev.iand i148_37 ?_
  refine gm_ev.iconst (v := 1) i148_38 (by decide) ?_
  refine gm_ev.icmp_ne_f i148_39 c4 ?_
  refine gm_ev.lload_n i148_42 rfl ?_
  refine gm_ev.callS gm_mono_run (av := [.long p1]) (r := []) i148_43 rfl rfl rfl (Nat.le_of_ble_eq_true rfl) t6 ?_
  refine gm_ev.if_ne_t (tgt := 51) i148_46 (by decide) c7 ?_
  refine gm_ev.aload_n i148_51 rfl ?_
  refine gm_ev.getfield (v := .ref (B + 15)) i148_52 rfl (bM_fld (j := 0) (fs := mF B s) rfl rfl) ?_
  refine gm_ev.iload i148_55 rfl ?_
  refine gm_ev.iaload i148_57 (bM_ai (j := 15) (n := 6) (f := s.2.1 26) rfl ek8 lk8 (by decide)) ?_
  refine gm_ev.if_lt_t (tgt := 79) i148_58 (by decide) c9 ?_
  refine gm_ev.aload_n i148_79 rfl ?_
  refine gm_ev.getfield (v := .ref (B + 15)) i148_80 rfl (bM_fld (j := 0) (fs := mF B s) rfl rfl) ?_
  refine gm_ev.iload i148_83 rfl ?_
  refine gm_ev.iload i148_85 rfl ?_
  refine gm_ev.iastore (M' := (bM B (mH B (mA s 26 (upd (s.2.1 26) k10 p2))) G)) i148_87 (bM_asti (j := 15) (n := 6) (f := s.2.1 26) rfl ek10 lk10 (by decide) hN rfl) ?_
  refine gm_ev.aload_n i148_88 rfl ?_
  refine gm_ev.getfield (v := .ref (B + 14)) i148_89 rfl (bM_fld (j := 0) (fs := mF B (mA s 26 (upd (s.2.1 26) k10 p2))) rfl rfl) ?_
  refine gm_ev.iload i148_92 rfl ?_
  refine gm_ev.lload_n i148_94 rfl ?_
  refine gm_ev.lastore (M' := (bM B (mH B (mL (mA s 26 (upd (s.2.1 26) k10 p2)) 25 (vp_updL (s.2.2 25) k11 p1))) G)) i148_95 (bM_astl (j := 14) (n := 6) (fl := s.2.2 25) rfl ek11 lk11 (by decide) hN rfl) ?_
  refine gm_ev.iconst (v := 1) i148_96 (by decide) ?_
  exact gm_ev.zret i148_97 rfl (by decide)
theorem r_meets_0_tftft {N0 : Nat} {K : Nat → Nat} {d B : Nat} {s : mS} {G : gm_H} {sz sl : Nat} {p0 : Int32} {p1 : Int64} {p2 : Int32} {r1 : Int32} {r5 : Int32} {k8 : Nat} {k10 : Nat} (hN : N0 ≤ B) (t2 : gm_to N0 K ra_nm (ra_mt K) d 125 [.int p0] (bM B (mH B s) G) sz (.returned (some (.int r1)), bM B (mH B s) G, sz, 0)) (c3 : ¬ r1 = 0) (c4 : (((s.1 28) >>> ((p0 - (85 : Int32)) &&& 31)) &&& (1 : Int32)) = (1 : Int32)) (t6 : gm_to N0 K ra_nm (ra_mt K) d 146 [.long p1] (bM B (mH B s) G) sz (.returned (some (.int r5)), bM B (mH B s) G, sz, 0)) (c7 : ¬ r5 = 0) (ek8 : (p0 - (85 : Int32)) = nI k8) (lk8 : k8 < 6) (c9 : ¬ (s.2.1 26 k8) < 0) (ek10 : (p0 - (85 : Int32)) = nI k10) (lk10 : k10 < 6) (c11 : ¬ (lg_cmp (s.2.2 25 k10) p1) = 0) : gm_ev N0 K ra_nm (ra_mt K) d (some .boolean) (gm_I cX12_meets) (gm_lkf (lkX12 false K)) 0 [some (.ref B), some (.int p0), some (.long p1), none, some (.int p2), none] [] (bM B (mH B s) G) sz sl (.returned (some (.int (0 : Int32))), (bM B (mH B s) G), sz, sl) := by
  refine gm_ev.iload_n i148_0 rfl ?_
  refine gm_ev.callS gm_mono_run (av := [.int p0]) (r := []) i148_1 rfl rfl rfl (Nat.le_of_ble_eq_true rfl) t2 ?_
  refine gm_ev.if_ne_t (tgt := 23) i148_4 (by decide) c3 ?_
  refine gm_ev.iload_n i148_23 rfl ?_
  refine gm_ev.bipush (v := 85) i148_24 (by decide) ?_
  refine gm_ev.isub i148_26 ?_
  refine gm_ev.istore (ls' := [some (.ref B), some (.int p0), some (.long p1), none, some (.int p2), some (.int (p0 - (85 : Int32)))]) i148_27 (Nat.le_of_ble_eq_true rfl) rfl ?_
  refine gm_ev.aload_n i148_29 rfl ?_
  refine gm_ev.getfield (v := .int (s.1 28)) i148_30 rfl (bM_fld (j := 0) (fs := mF B s) rfl rfl) ?_
  refine gm_ev.iload i148_33 rfl ?_
  refine gm_ev.ishr i148_35 ?_
  refine gm_ev.iconst (v := 1) i148_36 (by decide) ?_
  refine gm_ev.iand i148_37 ?_
  refine gm_ev.iconst (v := 1) i148_38 (by decide) ?_
  refine gm_ev.icmp_ne_f i148_39 c4 ?_
  refine gm_ev.lload_n i148_42 rfl ?_
  refine gm_ev.callS gm_mono_run (av := [.long p1]) (r := []) i148_43 rfl rfl rfl (Nat.le_of_ble_eq_true rfl) t6 ?_
  refine gm_ev.if_ne_t (tgt := 51) i148_46 (by decide) c7 ?_
  refine gm_ev.aload_n i148_51 rfl ?_
  refine gm_ev.getfield (v := .ref (B + 15)) i148_52 rfl (bM_fld (j := 0) (fs := mF B s) rfl rfl) ?_
  refine gm_ev.iload i148_55 rfl ?_
  refine gm_ev.iaload i148_57 (bM_ai (j := 15) (n := 6) (f := s.2.1 26) rfl ek8 lk8 (by decide)) ?_
  refine gm_ev.if_lt_f i148_58 c9 ?_
  refine gm_ev.aload_n i148_61 rfl ?_
  refine gm_ev.getfield (v := .ref (B + 14)) i148_62 rfl (bM_fld (j := 0) (fs := mF B s) rfl rfl) ?_
  refine gm_ev.iload i148_65 rfl ?_
  refine gm_ev.laload i148_67 (bM_al (j := 14) (n := 6) (fl := s.2.2 25) rfl ek10 lk10 (by decide)) ?_
  refine gm_ev.lload_n i148_68 rfl ?_
  refine gm_ev.lcmp i148_69 ?_
  refine gm_ev.if_ne_t (tgt := 77) i148_70 (by decide) c11 ?_
  refine gm_ev.iconst (v := 0) i148_77 (by decide) ?_
  exact gm_ev.zret i148_78 rfl (by decide)
theorem r_meets_0_tftff {N0 : Nat} {K : Nat → Nat} {d B : Nat} {s : mS} {G : gm_H} {sz sl : Nat} {p0 : Int32} {p1 : Int64} {p2 : Int32} {r1 : Int32} {r5 : Int32} {k8 : Nat} {k10 : Nat} (hN : N0 ≤ B) (t2 : gm_to N0 K ra_nm (ra_mt K) d 125 [.int p0] (bM B (mH B s) G) sz (.returned (some (.int r1)), bM B (mH B s) G, sz, 0)) (c3 : ¬ r1 = 0) (c4 : (((s.1 28) >>> ((p0 - (85 : Int32)) &&& 31)) &&& (1 : Int32)) = (1 : Int32)) (t6 : gm_to N0 K ra_nm (ra_mt K) d 146 [.long p1] (bM B (mH B s) G) sz (.returned (some (.int r5)), bM B (mH B s) G, sz, 0)) (c7 : ¬ r5 = 0) (ek8 : (p0 - (85 : Int32)) = nI k8) (lk8 : k8 < 6) (c9 : ¬ (s.2.1 26 k8) < 0) (ek10 : (p0 - (85 : Int32)) = nI k10) (lk10 : k10 < 6) (c11 : (lg_cmp (s.2.2 25 k10) p1) = 0) : gm_ev N0 K ra_nm (ra_mt K) d (some .boolean) (gm_I cX12_meets) (gm_lkf (lkX12 false K)) 0 [some (.ref B), some (.int p0), some (.long p1), none, some (.int p2), none] [] (bM B (mH B s) G) sz sl (.returned (some (.int (1 : Int32))), (bM B (mH B s) G), sz, sl) := by
  refine gm_ev.iload_n i148_0 rfl ?_
  refine gm_ev.callS gm_mono_run (av := [.int p0]) (r := []) i148_1 rfl rfl rfl (Nat.le_of_ble_eq_true rfl) t2 ?_
  refine gm_ev.if_ne_t (tgt := 23) i148_4 (by decide) c3 ?_
  refine gm_ev.iload_n i148_23 rfl ?_
  refine gm_ev.bipush (v := 85) i148_24 (by decide) ?_
  refine gm_ev.isub i148_26 ?_
  refine gm_ev.istore (ls' := [some (.ref B), some (.int p0), some (.long p1), none, some (.int p2), some (.int (p0 - (85 : Int32)))]) i148_27 (Nat.le_of_ble_eq_true rfl) rfl ?_
  refine gm_ev.aload_n i148_29 rfl ?_
  refine gm_ev.getfield (v := .int (s.1 28)) i148_30 rfl (bM_fld (j := 0) (fs := mF B s) rfl rfl) ?_
  refine gm_ev.iload i148_33 rfl ?_
  refine gm_ev.ishr i148_35 ?_
  refine gm_ev.iconst (v := 1) i148_36 (by decide) ?_
  refine gm_ev.iand i148_37 ?_
  refine gm_ev.iconst (v := 1) i148_38 (by decide) ?_
  refine gm_ev.icmp_ne_f i148_39 c4 ?_
  refine gm_ev.lload_n i148_42 rfl ?_
  refine gm_ev.callS gm_mono_run (av := [.long p1]) (r := []) i148_43 rfl rfl rfl (Nat.le_of_ble_eq_true rfl) t6 ?_
  refine gm_ev.if_ne_t (tgt := 51) i148_46 (by decide) c7 ?_
  refine gm_ev.aload_n i148_51 rfl ?_
  refine gm_ev.getfield (v := .ref (B + 15)) i148_52 rfl (bM_fld (j := 0) (fs := mF B s) rfl rfl) ?_
  refine gm_ev.iload i148_55 rfl ?_
  refine gm_ev.iaload i148_57 (bM_ai (j := 15) (n := 6) (f := s.2.1 26) rfl ek8 lk8 (by decide)) ?_
  refine gm_ev.if_lt_f i148_58 c9 ?_
  refine gm_ev.aload_n i148_61 rfl ?_
  refine gm_ev.getfield (v := .ref (B + 14)) i148_62 rfl (bM_fld (j := 0) (fs := mF B s) rfl rfl) ?_
  refine gm_ev.iload i148_65 rfl ?_
  refine gm_ev.laload i148_67 (bM_al (j := 14) (n := 6) (fl := s.2.2 25) rfl ek10 lk10 (by decide)) ?_
  refine gm_ev.lload_n i148_68 rfl ?_
  refine gm_ev.lcmp i148_69 ?_
  refine gm_ev.if_ne_f i148_70 c11 ?_
  refine gm_ev.iconst (v := 1) i148_73 (by decide) ?_
  refine gm_ev.goto (tgt := 78) i148_74 (by decide) ?_
  exact gm_ev.zret i148_78 rfl (by decide)
theorem r_meets_0_tff {N0 : Nat} {K : Nat → Nat} {d B : Nat} {s : mS} {G : gm_H} {sz sl : Nat} {p0 : Int32} {p1 : Int64} {p2 : Int32} {r1 : Int32} {r5 : Int32} (hN : N0 ≤ B) (t2 : gm_to N0 K ra_nm (ra_mt K) d 125 [.int p0] (bM B (mH B s) G) sz (.returned (some (.int r1)), bM B (mH B s) G, sz, 0)) (c3 : ¬ r1 = 0) (c4 : (((s.1 28) >>> ((p0 - (85 : Int32)) &&& 31)) &&& (1 : Int32)) = (1 : Int32)) (t6 : gm_to N0 K ra_nm (ra_mt K) d 146 [.long p1] (bM B (mH B s) G) sz (.returned (some (.int r5)), bM B (mH B s) G, sz, 0)) (c7 : r5 = 0) : gm_ev N0 K ra_nm (ra_mt K) d (some .boolean) (gm_I cX12_meets) (gm_lkf (lkX12 false K)) 0 [some (.ref B), some (.int p0), some (.long p1), none, some (.int p2), none] [] (bM B (mH B s) G) sz sl (.returned (some (.int (0 : Int32))), (bM B (mH B s) G), sz, sl) := by
  refine gm_ev.iload_n i148_0 rfl ?_
  refine gm_ev.callS gm_mono_run (av := [.int p0]) (r := []) i148_1 rfl rfl rfl (Nat.le_of_ble_eq_true rfl) t2 ?_
  refine gm_ev.if_ne_t (tgt := 23) i148_4 (by decide) c3 ?_
  refine gm_ev.iload_n i148_23 rfl ?_
  refine gm_ev.bipush (v := 85) i148_24 (by decide) ?_
  refine gm_ev.isub i148_26 ?_
  refine gm_ev.istore (ls' := [some (.ref B), some (.int p0), some (.long p1), none, some (.int p2), some (.int (p0 - (85 : Int32)))]) i148_27 (Nat.le_of_ble_eq_true rfl) rfl ?_
  refine gm_ev.aload_n i148_29 rfl ?_
  refine gm_ev.getfield (v := .int (s.1 28)) i148_30 rfl (bM_fld (j := 0) (fs := mF B s) rfl rfl) ?_
  refine gm_ev.iload i148_33 rfl ?_
  refine gm_ev.ishr i148_35 ?_
  refine gm_ev.iconst (v := 1) i148_36 (by decide) ?_
  refine gm_ev.iand i148_37 ?_
  refine gm_ev.iconst (v := 1) i148_38 (by decide) ?_
  refine gm_ev.icmp_ne_f i148_39 c4 ?_
  refine gm_ev.lload_n i148_42 rfl ?_
  refine gm_ev.callS gm_mono_run (av := [.long p1]) (r := []) i148_43 rfl rfl rfl (Nat.le_of_ble_eq_true rfl) t6 ?_
  refine gm_ev.if_ne_f i148_46 c7 ?_
  refine gm_ev.iconst (v := 0) i148_49 (by decide) ?_
  exact gm_ev.zret i148_50 rfl (by decide)
theorem r_meets_0_ft {N0 : Nat} {K : Nat → Nat} {d B : Nat} {s : mS} {G : gm_H} {sz sl : Nat} {p0 : Int32} {p1 : Int64} {p2 : Int32} {r1 : Int32} (hN : N0 ≤ B) (t2 : gm_to N0 K ra_nm (ra_mt K) d 125 [.int p0] (bM B (mH B s) G) sz (.returned (some (.int r1)), bM B (mH B s) G, sz, 0)) (c3 : r1 = 0) (c4 : ¬ (lg_cmp p1 (p0.toInt64 <<< (((56 : Int32)).toInt64 &&& 63))) = 0) : gm_ev N0 K ra_nm (ra_mt K) d (some .boolean) (gm_I cX12_meets) (gm_lkf (lkX12 false K)) 0 [some (.ref B), some (.int p0), some (.long p1), none, some (.int p2), none] [] (bM B (mH B s) G) sz sl (.returned (some (.int (0 : Int32))), (bM B (mH B s) G), sz, sl) := by
  refine gm_ev.iload_n i148_0 rfl ?_
  refine gm_ev.callS gm_mono_run (av := [.int p0]) (r := []) i148_1 rfl rfl rfl (Nat.le_of_ble_eq_true rfl) t2 ?_
  refine gm_ev.if_ne_f i148_4 c3 ?_
  refine gm_ev.lload_n i148_7 rfl ?_
  refine gm_ev.iload_n i148_8 rfl ?_
  refine gm_ev.i2l i148_9 ?_
  refine gm_ev.bipush (v := 56) i148_10 (by decide) ?_
  refine gm_ev.lshl i148_12 ?_
  refine gm_ev.lcmp i148_13 ?_
  refine gm_ev.if_ne_t (tgt := 21) i148_14 (by decide) c4 ?_
  refine gm_ev.iconst (v := 0) i148_21 (by decide) ?_
  exact gm_ev.zret i148_22 rfl (by decide)
theorem r_meets_0_ff {N0 : Nat} {K : Nat → Nat} {d B : Nat} {s : mS} {G : gm_H} {sz sl : Nat} {p0 : Int32} {p1 : Int64} {p2 : Int32} {r1 : Int32} (hN : N0 ≤ B) (t2 : gm_to N0 K ra_nm (ra_mt K) d 125 [.int p0] (bM B (mH B s) G) sz (.returned (some (.int r1)), bM B (mH B s) G, sz, 0)) (c3 : r1 = 0) (c4 : (lg_cmp p1 (p0.toInt64 <<< (((56 : Int32)).toInt64 &&& 63))) = 0) : gm_ev N0 K ra_nm (ra_mt K) d (some .boolean) (gm_I cX12_meets) (gm_lkf (lkX12 false K)) 0 [some (.ref B), some (.int p0), some (.long p1), none, some (.int p2), none] [] (bM B (mH B s) G) sz sl (.returned (some (.int (1 : Int32))), (bM B (mH B s) G), sz, sl) := by
  refine gm_ev.iload_n i148_0 rfl ?_
  refine gm_ev.callS gm_mono_run (av := [.int p0]) (r := []) i148_1 rfl rfl rfl (Nat.le_of_ble_eq_true rfl) t2 ?_
  refine gm_ev.if_ne_f i148_4 c3 ?_
  refine gm_ev.lload_n i148_7 rfl ?_
  refine gm_ev.iload_n i148_8 rfl ?_
  refine gm_ev.i2l i148_9 ?_
  refine gm_ev.bipush (v := 56) i148_10 (by decide) ?_
  refine gm_ev.lshl i148_12 ?_
  refine gm_ev.lcmp i148_13 ?_
  refine gm_ev.if_ne_f i148_14 c4 ?_
  refine gm_ev.iconst (v := 1) i148_17 (by decide) ?_
  refine gm_ev.goto (tgt := 22) i148_18 (by decide) ?_
  exact gm_ev.zret i148_22 rfl (by decide)
theorem r_meetsTerm_0_tt {N0 : Nat} {K : Nat → Nat} {d B : Nat} {s : mS} {G : gm_H} {sz sl : Nat} {p0 : Int32} {p1 : Int64} {p2 : Int32} {k1 : Nat} {k3 : Nat} {r4 : Int32} {k6 : Nat} (hN : N0 ≤ B) (ek1 : p0 = nI k1) (lk1 : k1 < 432) (c2 : ¬ (s.2.1 15 k1) = 0) (ek3 : p0 = nI k3) (lk3 : k3 < 432) (t5 : gm_to N0 K ra_nm (ra_mt K) d 147 [.long p1, .int (0 : Int32)] (bM B (mH B s) G) sz (.returned (some (.int r4)), bM B (mH B s) G, sz, 0)) (ek6 : p0 = nI k6) (lk6 : k6 < 432) (c7 : ¬ r4 = (s.2.1 15 k6)) : gm_ev N0 K ra_nm (ra_mt K) d (some .boolean) (gm_I cX12_meetsTerm) (gm_lkf (lkX12 false K)) 0 [some (.ref B), some (.int p0), some (.long p1), none, some (.int p2), none, none] [] (bM B (mH B s) G) sz sl (.returned (some (.int (0 : Int32))), (bM B (mH B s) G), sz, sl) := by
  refine gm_ev.aload_n i149_0 rfl ?_
  refine gm_ev.getfield (v := .ref (B + 7)) i149_1 rfl (bM_fld (j := 0) (fs := mF B s) rfl rfl) ?_
  refine gm_ev.iload_n i149_4 rfl ?_
  refine gm_ev.iaload i149_5 (bM_ai (j := 7) (n := 432) (f := s.2.1 15) rfl ek1 lk1 (by decide)) ?_
  refine gm_ev.if_ne_t (tgt := 25) i149_6 (by decide) c2 ?_
  refine gm_ev.aload_n i149_25 rfl ?_
  refine gm_ev.getfield (v := .ref (B + 8)) i149_26 rfl (bM_fld (j := 0) (fs := mF B s) rfl rfl) ?_
  refine gm_ev.iload_n i149_29 rfl ?_
  refine gm_ev.iaload i149_30 (bM_ai (j := 8) (n := 432) (f := s.2.1 16) rfl ek3 lk3 (by decide)) ?_
  refine gm_ev.istore (ls' := [some (.ref B), some (.int p0), some (.long p1), none, some (.int p2), some (.int (s.2.1 16 k3)), none]) i149_31 (Nat.le_of_ble_eq_true rfl) rfl ?_
  refine gm_ev.lload_n i149_33 rfl ?_
  refine gm_ev.iconst (v := 0) i149_34 (by decide) ?_
  refine gm_ev.callS gm_mono_run (av := [.long p1, .int (0 : Int32)]) (r := []) i149_35 rfl rfl rfl (Nat.le_of_ble_eq_true rfl) t5 ?_
  refine gm_ev.aload_n i149_38 rfl ?_
  refine gm_ev.getfield (v := .ref (B + 7)) i149_39 rfl (bM_fld (j := 0) (fs := mF B s) rfl rfl) ?_
  refine gm_ev.iload_n i149_42 rfl ?_
  refine gm_ev.iaload i149_43 (bM_ai (j := 7) (n := 432) (f := s.2.1 15) rfl ek6 lk6 (by decide)) ?_
  refine gm_ev.icmp_ne_t (tgt := 72) i149_44 (by decide) c7 ?_
  refine gm_ev.iconst (v := 0) i149_72 (by decide) ?_
  exact gm_ev.zret i149_73 rfl (by decide)
theorem r_meetsTerm_0_tft {N0 : Nat} {K : Nat → Nat} {d B : Nat} {s : mS} {G : gm_H} {sz sl : Nat} {p0 : Int32} {p1 : Int64} {p2 : Int32} {k1 : Nat} {k3 : Nat} {r4 : Int32} {k6 : Nat} {r8 : Int32} (hN : N0 ≤ B) (ek1 : p0 = nI k1) (lk1 : k1 < 432) (c2 : ¬ (s.2.1 15 k1) = 0) (ek3 : p0 = nI k3) (lk3 : k3 < 432) (t5 : gm_to N0 K ra_nm (ra_mt K) d 147 [.long p1, .int (0 : Int32)] (bM B (mH B s) G) sz (.returned (some (.int r4)), bM B (mH B s) G, sz, 0)) (ek6 : p0 = nI k6) (lk6 : k6 < 432) (c7 : r4 = (s.2.1 15 k6)) (t9 : gm_to N0 K ra_nm (ra_mt K) d 147 [.long p1, .int (1 : Int32)] (bM B (mH B s) G) sz (.returned (some (.int r8)), bM B (mH B s) G, sz, 0)) (c10 : ¬ r8 = (40 : Int32)) : gm_ev N0 K ra_nm (ra_mt K) d (some .boolean) (gm_I cX12_meetsTerm) (gm_lkf (lkX12 false K)) 0 [some (.ref B), some (.int p0), some (.long p1), none, some (.int p2), none, none] [] (bM B (mH B s) G) sz sl (.returned (some (.int (0 : Int32))), (bM B (mH B s) G), sz, sl) := by
  refine gm_ev.aload_n i149_0 rfl ?_
  refine gm_ev.getfield (v := .ref (B + 7)) i149_1 rfl (bM_fld (j := 0) (fs := mF B s) rfl rfl) ?_
  refine gm_ev.iload_n i149_4 rfl ?_
  refine gm_ev.iaload i149_5 (bM_ai (j := 7) (n := 432) (f := s.2.1 15) rfl ek1 lk1 (by decide)) ?_
  refine gm_ev.if_ne_t (tgt := 25) i149_6 (by decide) c2 ?_
  refine gm_ev.aload_n i149_25 rfl ?_
  refine gm_ev.getfield (v := .ref (B + 8)) i149_26 rfl (bM_fld (j := 0) (fs := mF B s) rfl rfl) ?_
  refine gm_ev.iload_n i149_29 rfl ?_
  refine gm_ev.iaload i149_30 (bM_ai (j := 8) (n := 432) (f := s.2.1 16) rfl ek3 lk3 (by decide)) ?_
  refine gm_ev.istore (ls' := [some (.ref B), some (.int p0), some (.long p1), none, some (.int p2), some (.int (s.2.1 16 k3)), none]) i149_31 (Nat.le_of_ble_eq_true rfl) rfl ?_
  refine gm_ev.lload_n i149_33 rfl ?_
  refine gm_ev.iconst (v := 0) i149_34 (by decide) ?_
  refine gm_ev.callS gm_mono_run (av := [.long p1, .int (0 : Int32)]) (r := []) i149_35 rfl rfl rfl (Nat.le_of_ble_eq_true rfl) t5 ?_
  refine gm_ev.aload_n i149_38 rfl ?_
  refine gm_ev.getfield (v := .ref (B + 7)) i149_39 rfl (bM_fld (j := 0) (fs := mF B s) rfl rfl) ?_
  refine gm_ev.iload_n i149_42 rfl ?_
  refine gm_ev.iaload i149_43 (bM_ai (j := 7) (n := 432) (f := s.2.1 15) rfl ek6 lk6 (by decide)) ?_
  refine gm_ev.icmp_ne_f i149_44 c7 ?_
  refine gm_ev.lload_n i149_47 rfl ?_
  refine gm_ev.iconst (v := 1) i149_48 (by decide) ?_
  refine gm_ev.callS gm_mono_run (av := [.long p1, .int (1 : Int32)]) (r := []) i149_49 rfl rfl rfl (Nat.le_of_ble_eq_true rfl) t9 ?_
  refine gm_ev.bipush (v := 40) i149_52 (by decide) ?_
  refine gm_ev.icmp_ne_t (tgt := 72) i149_54 (by decide) c10 ?_
  refine gm_ev.iconst (v := 0) i149_72 (by decide) ?_
  exact gm_ev.zret i149_73 rfl (by decide)
theorem r_meetsTerm_0_tfft_at77 {N0 : Nat} {K : Nat → Nat} {d B : Nat} {s : mS} {G : gm_H} {sz sl : Nat} {R : gm_R} {p0 : Int32} {p1 : Int64} {p2 : Int32} {k1 : Nat} {k3 : Nat} {r4 : Int32} {k6 : Nat} {r8 : Int32} {r11 : Int32} (hN : N0 ≤ B) (ek1 : p0 = nI k1) (lk1 : k1 < 432) (c2 : ¬ (s.2.1 15 k1) = 0) (ek3 : p0 = nI k3) (lk3 : k3 < 432) (t5 : gm_to N0 K ra_nm (ra_mt K) d 147 [.long p1, .int (0 : Int32)] (bM B (mH B s) G) sz (.returned (some (.int r4)), bM B (mH B s) G, sz, 0)) (ek6 : p0 = nI k6) (lk6 : k6 < 432) (c7 : r4 = (s.2.1 15 k6)) (t9 : gm_to N0 K ra_nm (ra_mt K) d 147 [.long p1, .int (1 : Int32)] (bM B (mH B s) G) sz (.returned (some (.int r8)), bM B (mH B s) G, sz, 0)) (c10 : r8 = (40 : Int32)) (t12 : gm_to N0 K ra_nm (ra_mt K) d 147 [.long p1, .int (((2 : Int32) * (s.2.1 16 k3)) + (1 : Int32))] (bM B (mH B s) G) sz (.returned (some (.int r11)), bM B (mH B s) G, sz, 0)) (c13 : r11 = (41 : Int32)) (k : gm_ev N0 K ra_nm (ra_mt K) d (some .boolean) (gm_I cX12_meetsTerm) (gm_lkf (lkX12 false K)) 77 [some (.ref B), some (.int p0), some (.long p1), none, some (.int p2), some (.int (s.2.1 16 k3)), some (.int (0 : Int32))] [] (bM B (mH B s) G) sz sl R) : gm_ev N0 K ra_nm (ra_mt K) d (some .boolean) (gm_I cX12_meetsTerm) (gm_lkf (lkX12 false K)) 0 [some (.ref B), some (.int p0), some (.long p1), none, some (.int p2), none, none] [] (bM B (mH B s) G) sz sl R := by
  refine gm_ev.aload_n i149_0 rfl ?_
  refine gm_ev.getfield (v := .ref (B + 7)) i149_1 rfl (bM_fld (j := 0) (fs := mF B s) rfl rfl) ?_
  refine gm_ev.iload_n i149_4 rfl ?_
  refine gm_ev.iaload i149_5 (bM_ai (j := 7) (n := 432) (f := s.2.1 15) rfl ek1 lk1 (by decide)) ?_
  refine gm_ev.if_ne_t (tgt := 25) i149_6 (by decide) c2 ?_
  refine gm_ev.aload_n i149_25 rfl ?_
  refine gm_ev.getfield (v := .ref (B + 8)) i149_26 rfl (bM_fld (j := 0) (fs := mF B s) rfl rfl) ?_
  refine gm_ev.iload_n i149_29 rfl ?_
  refine gm_ev.iaload i149_30 (bM_ai (j := 8) (n := 432) (f := s.2.1 16) rfl ek3 lk3 (by decide)) ?_
  refine gm_ev.istore (ls' := [some (.ref B), some (.int p0), some (.long p1), none, some (.int p2), some (.int (s.2.1 16 k3)), none]) i149_31 (Nat.le_of_ble_eq_true rfl) rfl ?_
  refine gm_ev.lload_n i149_33 rfl ?_
  refine gm_ev.iconst (v := 0) i149_34 (by decide) ?_
  refine gm_ev.callS gm_mono_run (av := [.long p1, .int (0 : Int32)]) (r := []) i149_35 rfl rfl rfl (Nat.le_of_ble_eq_true rfl) t5 ?_
  refine gm_ev.aload_n i149_38 rfl ?_
  refine gm_ev.getfield (v := .ref (B + 7)) i149_39 rfl (bM_fld (j := 0) (fs := mF B s) rfl rfl) ?_
  refine gm_ev.iload_n i149_42 rfl ?_
  refine gm_ev.iaload i149_43 (bM_ai (j := 7) (n := 432) (f := s.2.1 15) rfl ek6 lk6 (by decide)) ?_
  refine gm_ev.icmp_ne_f i149_44 c7 ?_
  refine gm_ev.lload_n i149_47 rfl ?_
  refine gm_ev.iconst (v := 1) i149_48 (by decide) ?_
  refine gm_ev.callS gm_mono_run (av := [.long p1, .int (1 : Int32)]) (r := []) i149_49 rfl rfl rfl (Nat.le_of_ble_eq_true rfl) t9 ?_
  refine gm_ev.bipush (v := 40) i149_52 (by decide) ?_
  refine gm_ev.icmp_ne_f i149_54 c10 ?_
  refine gm_ev.lload_n i149_57 rfl ?_
  refine gm_ev.iconst (v := 2) i149_58 (by decide) ?_
  refine gm_ev.iload i149_59 rfl ?_
  refine gm_ev.imul i149_61 ?_
  refine gm_ev.iconst (v := 1) i149_62 (by decide) ?_
  refine gm_ev.iadd i149_63 ?_
  refine gm_ev.callS gm_mono_run (av := [.long p1, .int (((2 : Int32) * (s.2.1 16 k3)) + (1 : Int32))]) (r := []) i149_64 rfl rfl rfl (Nat.le_of_ble_eq_true rfl) t12 ?_
  refine gm_ev.bipush (v := 41) i149_67 (by decide) ?_
  refine gm_ev.icmp_eq_t (tgt := 74) i149_69 (by decide) c13 ?_
  refine gm_ev.iconst (v := 0) i149_74 (by decide) ?_
  refine gm_ev.istore (ls' := [some (.ref B), some (.int p0), some (.long p1), none, some (.int p2), some (.int (s.2.1 16 k3)), some (.int (0 : Int32))]) i149_75 (Nat.le_of_ble_eq_true rfl) rfl ?_
  exact k
theorem r_meetsTerm_0_tfff {N0 : Nat} {K : Nat → Nat} {d B : Nat} {s : mS} {G : gm_H} {sz sl : Nat} {p0 : Int32} {p1 : Int64} {p2 : Int32} {k1 : Nat} {k3 : Nat} {r4 : Int32} {k6 : Nat} {r8 : Int32} {r11 : Int32} (hN : N0 ≤ B) (ek1 : p0 = nI k1) (lk1 : k1 < 432) (c2 : ¬ (s.2.1 15 k1) = 0) (ek3 : p0 = nI k3) (lk3 : k3 < 432) (t5 : gm_to N0 K ra_nm (ra_mt K) d 147 [.long p1, .int (0 : Int32)] (bM B (mH B s) G) sz (.returned (some (.int r4)), bM B (mH B s) G, sz, 0)) (ek6 : p0 = nI k6) (lk6 : k6 < 432) (c7 : r4 = (s.2.1 15 k6)) (t9 : gm_to N0 K ra_nm (ra_mt K) d 147 [.long p1, .int (1 : Int32)] (bM B (mH B s) G) sz (.returned (some (.int r8)), bM B (mH B s) G, sz, 0)) (c10 : r8 = (40 : Int32)) (t12 : gm_to N0 K ra_nm (ra_mt K) d 147 [.long p1, .int (((2 : Int32) * (s.2.1 16 k3)) + (1 : Int32))] (bM B (mH B s) G) sz (.returned (some (.int r11)), bM B (mH B s) G, sz, 0)) (c13 : ¬ r11 = (41 : Int32)) : gm_ev N0 K ra_nm (ra_mt K) d (some .boolean) (gm_I cX12_meetsTerm) (gm_lkf (lkX12 false K)) 0 [some (.ref B), some (.int p0), some (.long p1), none, some (.int p2), none, none] [] (bM B (mH B s) G) sz sl (.returned (some (.int (0 : Int32))), (bM B (mH B s) G), sz, sl) := by
  refine gm_ev.aload_n i149_0 rfl ?_
  refine gm_ev.getfield (v := .ref (B + 7)) i149_1 rfl (bM_fld (j := 0) (fs := mF B s) rfl rfl) ?_
  refine gm_ev.iload_n i149_4 rfl ?_
  refine gm_ev.iaload i149_5 (bM_ai (j := 7) (n := 432) (f := s.2.1 15) rfl ek1 lk1 (by decide)) ?_
  refine gm_ev.if_ne_t (tgt := 25) i149_6 (by decide) c2 ?_
  refine gm_ev.aload_n i149_25 rfl ?_
  refine gm_ev.getfield (v := .ref (B + 8)) i149_26 rfl (bM_fld (j := 0) (fs := mF B s) rfl rfl) ?_
  refine gm_ev.iload_n i149_29 rfl ?_
  refine gm_ev.iaload i149_30 (bM_ai (j := 8) (n := 432) (f := s.2.1 16) rfl ek3 lk3 (by decide)) ?_
  refine gm_ev.istore (ls' := [some (.ref B), some (.int p0), some (.long p1), none, some (.int p2), some (.int (s.2.1 16 k3)), none]) i149_31 (Nat.le_of_ble_eq_true rfl) rfl ?_
  refine gm_ev.lload_n i149_33 rfl ?_
  refine gm_ev.iconst (v := 0) i149_34 (by decide) ?_
  refine gm_ev.callS gm_mono_run (av := [.long p1, .int (0 : Int32)]) (r := []) i149_35 rfl rfl rfl (Nat.le_of_ble_eq_true rfl) t5 ?_
  refine gm_ev.aload_n i149_38 rfl ?_
  refine gm_ev.getfield (v := .ref (B + 7)) i149_39 rfl (bM_fld (j := 0) (fs := mF B s) rfl rfl) ?_
  refine gm_ev.iload_n i149_42 rfl ?_
  refine gm_ev.iaload i149_43 (bM_ai (j := 7) (n := 432) (f := s.2.1 15) rfl ek6 lk6 (by decide)) ?_
  refine gm_ev.icmp_ne_f i149_44 c7 ?_
  refine gm_ev.lload_n i149_47 rfl ?_
  refine gm_ev.iconst (v := 1) i149_48 (by decide) ?_
  refine gm_ev.callS gm_mono_run (av := [.long p1, .int (1 : Int32)]) (r := []) i149_49 rfl rfl rfl (Nat.le_of_ble_eq_true rfl) t9 ?_
  refine gm_ev.bipush (v := 40) i149_52 (by decide) ?_
  refine gm_ev.icmp_ne_f i149_54 c10 ?_
  refine gm_ev.lload_n i149_57 rfl ?_
  refine gm_ev.iconst (v := 2) i149_58 (by decide) ?_
  refine gm_ev.iload i149_59 rfl ?_
  refine gm_ev.imul i149_61 ?_
  refine gm_ev.iconst (v := 1) i149_62 (by decide) ?_
  refine gm_ev.iadd i149_63 ?_
  refine gm_ev.callS gm_mono_run (av := [.long p1, .int (((2 : Int32) * (s.2.1 16 k3)) + (1 : Int32))]) (r := []) i149_64 rfl rfl rfl (Nat.le_of_ble_eq_true rfl) t12 ?_
  refine gm_ev.bipush (v := 41) i149_67 (by decide) ?_
  refine gm_ev.icmp_eq_f i149_69 c13 ?_
  refine gm_ev.iconst (v := 0) i149_72 (by decide) ?_
  exact gm_ev.zret i149_73 rfl (by decide)
theorem r_meetsTerm_0_f {N0 : Nat} {K : Nat → Nat} {d B : Nat} {s : mS} {G : gm_H} {sz sl : Nat} {p0 : Int32} {p1 : Int64} {p2 : Int32} {k1 : Nat} {k3 : Nat} {r4 : Int32} {s6 : mS} (hN : N0 ≤ B) (ek1 : p0 = nI k1) (lk1 : k1 < 432) (c2 : (s.2.1 15 k1) = 0) (ek3 : ((3 : Int32) * p0) = nI k3) (lk3 : k3 < 1296) (t5 : gm_to N0 K ra_nm (ra_mt K) d 148 [.ref B, .int (s.2.1 17 k3), .long p1, .int p2] (bM B (mH B s) G) sz (.returned (some (.int r4)), bM B (mH B s6) G, sz, 0)) (z7 : r4 = 0 ∨ r4 = 1) : gm_ev N0 K ra_nm (ra_mt K) d (some .boolean) (gm_I cX12_meetsTerm) (gm_lkf (lkX12 false K)) 0 [some (.ref B), some (.int p0), some (.long p1), none, some (.int p2), none, none] [] (bM B (mH B s) G) sz sl (.returned (some (.int r4)), (bM B (mH B s6) G), sz, sl) := by
  refine gm_ev.aload_n i149_0 rfl ?_
  refine gm_ev.getfield (v := .ref (B + 7)) i149_1 rfl (bM_fld (j := 0) (fs := mF B s) rfl rfl) ?_
  refine gm_ev.iload_n i149_4 rfl ?_
  refine gm_ev.iaload i149_5 (bM_ai (j := 7) (n := 432) (f := s.2.1 15) rfl ek1 lk1 (by decide)) ?_
  refine gm_ev.if_ne_f i149_6 c2 ?_
  refine gm_ev.aload_n i149_9 rfl ?_
  refine gm_ev.aload_n i149_10 rfl ?_
  refine gm_ev.getfield (v := .ref (B + 9)) i149_11 rfl (bM_fld (j := 0) (fs := mF B s) rfl rfl) ?_
  refine gm_ev.iconst (v := 3) i149_14 (by decide) ?_
  refine gm_ev.iload_n i149_15 rfl ?_
  refine gm_ev.imul i149_16 ?_
  refine gm_ev.iaload i149_17 (bM_ai (j := 9) (n := 1296) (f := s.2.1 17) rfl ek3 lk3 (by decide)) ?_
  refine gm_ev.lload_n i149_18 rfl ?_
  refine gm_ev.iload i149_19 rfl ?_
  refine gm_ev.callV gm_mono_run (av := [.int (s.2.1 17 k3), .long p1, .int p2]) (r := []) (ci := 11) (fs := mF B s) (bM_get (j := 0) rfl) i149_21 rfl rfl rfl (Nat.le_of_ble_eq_true rfl) t5 ?_
  exact gm_ev.zret i149_24 rfl z7
theorem r_meetsTerm_77_t {N0 : Nat} {K : Nat → Nat} {d B : Nat} {s : mS} {G : gm_H} {sz sl : Nat} {x1 : Int32} {y2 : Int64} {x4 : Int32} {x5 : Int32} {x6 : Int32} (hN : N0 ≤ B) (c1 : x5 ≤ x6) : gm_ev N0 K ra_nm (ra_mt K) d (some .boolean) (gm_I cX12_meetsTerm) (gm_lkf (lkX12 false K)) 77 [some (.ref B), some (.int x1), some (.long y2), none, some (.int x4), some (.int x5), some (.int x6)] [] (bM B (mH B s) G) sz sl (.returned (some (.int (1 : Int32))), (bM B (mH B s) G), sz, sl) := by
  refine gm_ev.iload i149_77 rfl ?_
  refine gm_ev.iload i149_79 rfl ?_
  refine gm_ev.icmp_ge_t (tgt := 126) i149_81 (by decide) c1 ?_
  refine gm_ev.iconst (v := 1) i149_126 (by decide) ?_
  exact gm_ev.zret i149_127 rfl (by decide)
theorem r_meetsTerm_77_ft_at77 {N0 : Nat} {K : Nat → Nat} {d B : Nat} {s : mS} {G : gm_H} {sz sl : Nat} {R : gm_R} {x1 : Int32} {y2 : Int64} {x4 : Int32} {x5 : Int32} {x6 : Int32} {k2 : Nat} {r3 : Int32} {r5 : Int32} {s7 : mS} (hN : N0 ≤ B) (c1 : ¬ x5 ≤ x6) (ek2 : (((3 : Int32) * x1) + x6) = nI k2) (lk2 : k2 < 1296) (t4 : gm_to N0 K ra_nm (ra_mt K) d 147 [.long y2, .int ((2 : Int32) + ((2 : Int32) * x6))] (bM B (mH B s) G) sz (.returned (some (.int r3)), bM B (mH B s) G, sz, 0)) (t6 : gm_to N0 K ra_nm (ra_mt K) d 148 [.ref B, .int (s.2.1 17 k2), .long (r3.toInt64 <<< (((56 : Int32)).toInt64 &&& 63)), .int x4] (bM B (mH B s) G) sz (.returned (some (.int r5)), bM B (mH B s7) G, sz, 0)) (c8 : ¬ r5 = 0) (k : gm_ev N0 K ra_nm (ra_mt K) d (some .boolean) (gm_I cX12_meetsTerm) (gm_lkf (lkX12 false K)) 77 [some (.ref B), some (.int x1), some (.long y2), none, some (.int x4), some (.int x5), some (.int (x6 + (1 : Int32)))] [] (bM B (mH B s7) G) sz sl R) : gm_ev N0 K ra_nm (ra_mt K) d (some .boolean) (gm_I cX12_meetsTerm) (gm_lkf (lkX12 false K)) 77 [some (.ref B), some (.int x1), some (.long y2), none, some (.int x4), some (.int x5), some (.int x6)] [] (bM B (mH B s) G) sz sl R := by
  refine gm_ev.iload i149_77 rfl ?_
  refine gm_ev.iload i149_79 rfl ?_
  refine gm_ev.icmp_ge_f i149_81 c1 ?_
  refine gm_ev.aload_n i149_84 rfl ?_
  refine gm_ev.aload_n i149_85 rfl ?_
  refine gm_ev.getfield (v := .ref (B + 9)) i149_86 rfl (bM_fld (j := 0) (fs := mF B s) rfl rfl) ?_
  refine gm_ev.iconst (v := 3) i149_89 (by decide) ?_
  refine gm_ev.iload_n i149_90 rfl ?_
  refine gm_ev.imul i149_91 ?_
  refine gm_ev.iload i149_92 rfl ?_
  refine gm_ev.iadd i149_94 ?_
  refine gm_ev.iaload i149_95 (bM_ai (j := 9) (n := 1296) (f := s.2.1 17) rfl ek2 lk2 (by decide)) ?_
  refine gm_ev.lload_n i149_96 rfl ?_
  refine gm_ev.iconst (v := 2) i149_97 (by decide) ?_
  refine gm_ev.iconst (v := 2) i149_98 (by decide) ?_
  refine gm_ev.iload i149_99 rfl ?_
  refine gm_ev.imul i149_101 ?_
  refine gm_ev.iadd i149_102 ?_
  refine gm_ev.callS gm_mono_run (av := [.long y2, .int ((2 : Int32) + ((2 : Int32) * x6))]) (r := [.int (s.2.1 17 k2), .ref B]) i149_103 rfl rfl rfl (Nat.le_of_ble_eq_true rfl) t4 ?_
  refine gm_ev.i2l i149_106 ?_
  refine gm_ev.bipush (v := 56) i149_107 (by decide) ?_
  refine gm_ev.lshl i149_109 ?_
  refine gm_ev.iload i149_110 rfl ?_
  refine gm_ev.callV gm_mono_run (av := [.int (s.2.1 17 k2), .long (r3.toInt64 <<< (((56 : Int32)).toInt64 &&& 63)), .int x4]) (r := []) (ci := 11) (fs := mF B s) (bM_get (j := 0) rfl) i149_112 rfl rfl rfl (Nat.le_of_ble_eq_true rfl) t6 ?_
  refine gm_ev.if_ne_t (tgt := 120) i149_115 (by decide) c8 ?_
  refine gm_ev.iinc (v := x6 + (1 : Int32)) (ls' := [some (.ref B), some (.int x1), some (.long y2), none, some (.int x4), some (.int x5), some (.int (x6 + (1 : Int32)))]) i149_120 rfl (by rfl) rfl ?_
  refine gm_ev.goto (tgt := 77) i149_123 (by decide) ?_
  exact k
theorem r_meetsTerm_77_ff {N0 : Nat} {K : Nat → Nat} {d B : Nat} {s : mS} {G : gm_H} {sz sl : Nat} {x1 : Int32} {y2 : Int64} {x4 : Int32} {x5 : Int32} {x6 : Int32} {k2 : Nat} {r3 : Int32} {r5 : Int32} {s7 : mS} (hN : N0 ≤ B) (c1 : ¬ x5 ≤ x6) (ek2 : (((3 : Int32) * x1) + x6) = nI k2) (lk2 : k2 < 1296) (t4 : gm_to N0 K ra_nm (ra_mt K) d 147 [.long y2, .int ((2 : Int32) + ((2 : Int32) * x6))] (bM B (mH B s) G) sz (.returned (some (.int r3)), bM B (mH B s) G, sz, 0)) (t6 : gm_to N0 K ra_nm (ra_mt K) d 148 [.ref B, .int (s.2.1 17 k2), .long (r3.toInt64 <<< (((56 : Int32)).toInt64 &&& 63)), .int x4] (bM B (mH B s) G) sz (.returned (some (.int r5)), bM B (mH B s7) G, sz, 0)) (c8 : r5 = 0) : gm_ev N0 K ra_nm (ra_mt K) d (some .boolean) (gm_I cX12_meetsTerm) (gm_lkf (lkX12 false K)) 77 [some (.ref B), some (.int x1), some (.long y2), none, some (.int x4), some (.int x5), some (.int x6)] [] (bM B (mH B s) G) sz sl (.returned (some (.int (0 : Int32))), (bM B (mH B s7) G), sz, sl) := by
  refine gm_ev.iload i149_77 rfl ?_
  refine gm_ev.iload i149_79 rfl ?_
  refine gm_ev.icmp_ge_f i149_81 c1 ?_
  refine gm_ev.aload_n i149_84 rfl ?_
  refine gm_ev.aload_n i149_85 rfl ?_
  refine gm_ev.getfield (v := .ref (B + 9)) i149_86 rfl (bM_fld (j := 0) (fs := mF B s) rfl rfl) ?_
  refine gm_ev.iconst (v := 3) i149_89 (by decide) ?_
  refine gm_ev.iload_n i149_90 rfl ?_
  refine gm_ev.imul i149_91 ?_
  refine gm_ev.iload i149_92 rfl ?_
  refine gm_ev.iadd i149_94 ?_
  refine gm_ev.iaload i149_95 (bM_ai (j := 9) (n := 1296) (f := s.2.1 17) rfl ek2 lk2 (by decide)) ?_
  refine gm_ev.lload_n i149_96 rfl ?_
  refine gm_ev.iconst (v := 2) i149_97 (by decide) ?_
  refine gm_ev.iconst (v := 2) i149_98 (by decide) ?_
  refine gm_ev.iload i149_99 rfl ?_
  refine gm_ev.imul i149_101 ?_
  refine gm_ev.iadd i149_102 ?_
  refine gm_ev.callS gm_mono_run (av := [.long y2, .int ((2 : Int32) + ((2 : Int32) * x6))]) (r := [.int (s.2.1 17 k2), .ref B]) i149_103 rfl rfl rfl (Nat.le_of_ble_eq_true rfl) t4 ?_
  refine gm_ev.i2l i149_106 ?_
  refine gm_ev.bipush (v := 56) i149_107 (by decide) ?_
  refine gm_ev.lshl i149_109 ?_
  refine gm_ev.iload i149_110 rfl ?_
  refine gm_ev.callV gm_mono_run (av := [.int (s.2.1 17 k2), .long (r3.toInt64 <<< (((56 : Int32)).toInt64 &&& 63)), .int x4]) (r := []) (ci := 11) (fs := mF B s) (bM_get (j := 0) rfl) i149_112 rfl rfl rfl (Nat.le_of_ble_eq_true rfl) t6 ?_
  refine gm_ev.if_ne_f i149_115 c8 ?_
  refine gm_ev.iconst (v := 0) i149_118 (by decide) ?_
  exact gm_ev.zret i149_119 rfl (by decide)
theorem r_meetsFact_0_t_at20 {N0 : Nat} {K : Nat → Nat} {d B : Nat} {s : mS} {G : gm_H} {sz sl : Nat} {R : gm_R} {p0 : Int32} {p1 : Int32} {p2 : Int32} {k1 : Nat} {k2 : Nat} (hN : N0 ≤ B) (ek1 : p0 = nI k1) (lk1 : k1 < 144) (ek2 : p1 = nI k2) (lk2 : k2 < 201) (c3 : (s.2.1 14 k1) = (s.2.1 21 k2)) (k : gm_ev N0 K ra_nm (ra_mt K) d (some .boolean) (gm_I cX12_meetsFact) (gm_lkf (lkX12 false K)) 20 [some (.ref B), some (.int p0), some (.int p1), some (.int p2), some (.int (0 : Int32))] [] (bM B (mH B s) G) sz sl R) : gm_ev N0 K ra_nm (ra_mt K) d (some .boolean) (gm_I cX12_meetsFact) (gm_lkf (lkX12 false K)) 0 [some (.ref B), some (.int p0), some (.int p1), some (.int p2), none] [] (bM B (mH B s) G) sz sl R := by
  refine gm_ev.aload_n i150_0 rfl ?_
  refine gm_ev.getfield (v := .ref (B + 6)) i150_1 rfl (bM_fld (j := 0) (fs := mF B s) rfl rfl) ?_
  refine gm_ev.iload_n i150_4 rfl ?_
  refine gm_ev.iaload i150_5 (bM_ai (j := 6) (n := 144) (f := s.2.1 14) rfl ek1 lk1 (by decide)) ?_
  refine gm_ev.aload_n i150_6 rfl ?_
  refine gm_ev.getfield (v := .ref (B + 12)) i150_7 rfl (bM_fld (j := 0) (fs := mF B s) rfl rfl) ?_
  refine gm_ev.iload_n i150_10 rfl ?_
  refine gm_ev.iaload i150_11 (bM_ai (j := 12) (n := 201) (f := s.2.1 21) rfl ek2 lk2 (by decide)) ?_
  refine gm_ev.icmp_eq_t (tgt := 17) i150_12 (by decide) c3 ?_
  refine gm_ev.iconst (v := 0) i150_17 (by decide) ?_
  refine gm_ev.istore (ls' := [some (.ref B), some (.int p0), some (.int p1), some (.int p2), some (.int (0 : Int32))]) i150_18 (Nat.le_of_ble_eq_true rfl) rfl ?_
  exact k
theorem r_meetsFact_0_f {N0 : Nat} {K : Nat → Nat} {d B : Nat} {s : mS} {G : gm_H} {sz sl : Nat} {p0 : Int32} {p1 : Int32} {p2 : Int32} {k1 : Nat} {k2 : Nat} (hN : N0 ≤ B) (ek1 : p0 = nI k1) (lk1 : k1 < 144) (ek2 : p1 = nI k2) (lk2 : k2 < 201) (c3 : ¬ (s.2.1 14 k1) = (s.2.1 21 k2)) : gm_ev N0 K ra_nm (ra_mt K) d (some .boolean) (gm_I cX12_meetsFact) (gm_lkf (lkX12 false K)) 0 [some (.ref B), some (.int p0), some (.int p1), some (.int p2), none] [] (bM B (mH B s) G) sz sl (.returned (some (.int (0 : Int32))), (bM B (mH B s) G), sz, sl) := by
  refine gm_ev.aload_n i150_0 rfl ?_
  refine gm_ev.getfield (v := .ref (B + 6)) i150_1 rfl (bM_fld (j := 0) (fs := mF B s) rfl rfl) ?_
  refine gm_ev.iload_n i150_4 rfl ?_
  refine gm_ev.iaload i150_5 (bM_ai (j := 6) (n := 144) (f := s.2.1 14) rfl ek1 lk1 (by decide)) ?_
  refine gm_ev.aload_n i150_6 rfl ?_
  refine gm_ev.getfield (v := .ref (B + 12)) i150_7 rfl (bM_fld (j := 0) (fs := mF B s) rfl rfl) ?_
  refine gm_ev.iload_n i150_10 rfl ?_
  refine gm_ev.iaload i150_11 (bM_ai (j := 12) (n := 201) (f := s.2.1 21) rfl ek2 lk2 (by decide)) ?_
  refine gm_ev.icmp_eq_f i150_12 c3 ?_
  refine gm_ev.iconst (v := 0) i150_15 (by decide) ?_
  exact gm_ev.zret i150_16 rfl (by decide)
theorem r_meetsFact_20_t {N0 : Nat} {K : Nat → Nat} {d B : Nat} {s : mS} {G : gm_H} {sz sl : Nat} {x1 : Int32} {x2 : Int32} {x3 : Int32} {x4 : Int32} {k1 : Nat} (hN : N0 ≤ B) (ek1 : x1 = nI k1) (lk1 : k1 < 144) (c2 : ((s.2.1 14 k1) &&& (3 : Int32)) ≤ x4) : gm_ev N0 K ra_nm (ra_mt K) d (some .boolean) (gm_I cX12_meetsFact) (gm_lkf (lkX12 false K)) 20 [some (.ref B), some (.int x1), some (.int x2), some (.int x3), some (.int x4)] [] (bM B (mH B s) G) sz sl (.returned (some (.int (1 : Int32))), (bM B (mH B s) G), sz, sl) := by
  refine gm_ev.iload i150_20 rfl ?_
  refine gm_ev.aload_n i150_22 rfl ?_
  refine gm_ev.getfield (v := .ref (B + 6)) i150_23 rfl (bM_fld (j := 0) (fs := mF B s) rfl rfl) ?_
  refine gm_ev.iload_n i150_26 rfl ?_
  refine gm_ev.iaload i150_27 (bM_ai (j := 6) (n := 144) (f := s.2.1 14) rfl ek1 lk1 (by decide)) ?_
  refine gm_ev.iconst (v := 3) i150_28 (by decide) ?_
  refine gm_ev.iand i150_29 ?_
  refine gm_ev.icmp_ge_t (tgt := 66) i150_30 (by decide) c2 ?_
  refine gm_ev.iconst (v := 1) i150_66 (by decide) ?_
  exact gm_ev.zret i150_67 rfl (by decide)
theorem r_meetsFact_20_ft_at20 {N0 : Nat} {K : Nat → Nat} {d B : Nat} {s : mS} {G : gm_H} {sz sl : Nat} {R : gm_R} {x1 : Int32} {x2 : Int32} {x3 : Int32} {x4 : Int32} {k1 : Nat} {k3 : Nat} {r4 : Int32} {s6 : mS} (hN : N0 ≤ B) (ek1 : x1 = nI k1) (lk1 : k1 < 144) (c2 : ¬ ((s.2.1 14 k1) &&& (3 : Int32)) ≤ x4) (ek3 : (((3 : Int32) * x2) + x4) = nI k3) (lk3 : k3 < 603) (t5 : gm_to N0 K ra_nm (ra_mt K) d 149 [.ref B, .int (((3 : Int32) * x1) + x4), .long (s.2.2 22 k3), .int x3] (bM B (mH B s) G) sz (.returned (some (.int r4)), bM B (mH B s6) G, sz, 0)) (c7 : ¬ r4 = 0) (k : gm_ev N0 K ra_nm (ra_mt K) d (some .boolean) (gm_I cX12_meetsFact) (gm_lkf (lkX12 false K)) 20 [some (.ref B), some (.int x1), some (.int x2), some (.int x3), some (.int (x4 + (1 : Int32)))] [] (bM B (mH B s6) G) sz sl R) : gm_ev N0 K ra_nm (ra_mt K) d (some .boolean) (gm_I cX12_meetsFact) (gm_lkf (lkX12 false K)) 20 [some (.ref B), some (.int x1), some (.int x2), some (.int x3), some (.int x4)] [] (bM B (mH B s) G) sz sl R := by
  refine gm_ev.iload i150_20 rfl ?_
  refine gm_ev.aload_n i150_22 rfl ?_
  refine gm_ev.getfield (v := .ref (B + 6)) i150_23 rfl (bM_fld (j := 0) (fs := mF B s) rfl rfl) ?_
  refine gm_ev.iload_n i150_26 rfl ?_
  refine gm_ev.iaload i150_27 (bM_ai (j := 6) (n := 144) (f := s.2.1 14) rfl ek1 lk1 (by decide)) ?_
  refine gm_ev.iconst (v := 3) i150_28 (by decide) ?_
  refine gm_ev.iand i150_29 ?_
  refine gm_ev.icmp_ge_f i150_30 c2 ?_
  refine gm_ev.aload_n i150_33 rfl ?_
  refine gm_ev.iconst (v := 3) i150_34 (by decide) ?_
  refine gm_ev.iload_n i150_35 rfl ?_
  refine gm_ev.imul i150_36 ?_
  refine gm_ev.iload i150_37 rfl ?_
  refine gm_ev.iadd i150_39 ?_
  refine gm_ev.aload_n i150_40 rfl ?_
  refine gm_ev.getfield (v := .ref (B + 13)) i150_41 rfl (bM_fld (j := 0) (fs := mF B s) rfl rfl) ?_
  refine gm_ev.iconst (v := 3) i150_44 (by decide) ?_
  refine gm_ev.iload_n i150_45 rfl ?_
  refine gm_ev.imul i150_46 ?_
  refine gm_ev.iload i150_47 rfl ?_
  refine gm_ev.iadd i150_49 ?_
  refine gm_ev.laload i150_50 (bM_al (j := 13) (n := 603) (fl := s.2.2 22) rfl ek3 lk3 (by decide)) ?_
  refine gm_ev.iload_n i150_51 rfl ?_
  refine gm_ev.callV gm_mono_run (av := [.int (((3 : Int32) * x1) + x4), .long (s.2.2 22 k3), .int x3]) (r := []) (ci := 11) (fs := mF B s) (bM_get (j := 0) rfl) i150_52 rfl rfl rfl (Nat.le_of_ble_eq_true rfl) t5 ?_
  refine gm_ev.if_ne_t (tgt := 60) i150_55 (by decide) c7 ?_
  refine gm_ev.iinc (v := x4 + (1 : Int32)) (ls' := [some (.ref B), some (.int x1), some (.int x2), some (.int x3), some (.int (x4 + (1 : Int32)))]) i150_60 rfl (by rfl) rfl ?_
  refine gm_ev.goto (tgt := 20) i150_63 (by decide) ?_
  exact k
theorem r_meetsFact_20_ff {N0 : Nat} {K : Nat → Nat} {d B : Nat} {s : mS} {G : gm_H} {sz sl : Nat} {x1 : Int32} {x2 : Int32} {x3 : Int32} {x4 : Int32} {k1 : Nat} {k3 : Nat} {r4 : Int32} {s6 : mS} (hN : N0 ≤ B) (ek1 : x1 = nI k1) (lk1 : k1 < 144) (c2 : ¬ ((s.2.1 14 k1) &&& (3 : Int32)) ≤ x4) (ek3 : (((3 : Int32) * x2) + x4) = nI k3) (lk3 : k3 < 603) (t5 : gm_to N0 K ra_nm (ra_mt K) d 149 [.ref B, .int (((3 : Int32) * x1) + x4), .long (s.2.2 22 k3), .int x3] (bM B (mH B s) G) sz (.returned (some (.int r4)), bM B (mH B s6) G, sz, 0)) (c7 : r4 = 0) : gm_ev N0 K ra_nm (ra_mt K) d (some .boolean) (gm_I cX12_meetsFact) (gm_lkf (lkX12 false K)) 20 [some (.ref B), some (.int x1), some (.int x2), some (.int x3), some (.int x4)] [] (bM B (mH B s) G) sz sl (.returned (some (.int (0 : Int32))), (bM B (mH B s6) G), sz, sl) := by
  refine gm_ev.iload i150_20 rfl ?_
  refine gm_ev.aload_n i150_22 rfl ?_
  refine gm_ev.getfield (v := .ref (B + 6)) i150_23 rfl (bM_fld (j := 0) (fs := mF B s) rfl rfl) ?_
  refine gm_ev.iload_n i150_26 rfl ?_
  refine gm_ev.iaload i150_27 (bM_ai (j := 6) (n := 144) (f := s.2.1 14) rfl ek1 lk1 (by decide)) ?_
  refine gm_ev.iconst (v := 3) i150_28 (by decide) ?_
  refine gm_ev.iand i150_29 ?_
  refine gm_ev.icmp_ge_f i150_30 c2 ?_
  refine gm_ev.aload_n i150_33 rfl ?_
  refine gm_ev.iconst (v := 3) i150_34 (by decide) ?_
  refine gm_ev.iload_n i150_35 rfl ?_
  refine gm_ev.imul i150_36 ?_
  refine gm_ev.iload i150_37 rfl ?_
  refine gm_ev.iadd i150_39 ?_
  refine gm_ev.aload_n i150_40 rfl ?_
  refine gm_ev.getfield (v := .ref (B + 13)) i150_41 rfl (bM_fld (j := 0) (fs := mF B s) rfl rfl) ?_
  refine gm_ev.iconst (v := 3) i150_44 (by decide) ?_
  refine gm_ev.iload_n i150_45 rfl ?_
  refine gm_ev.imul i150_46 ?_
  refine gm_ev.iload i150_47 rfl ?_
  refine gm_ev.iadd i150_49 ?_
  refine gm_ev.laload i150_50 (bM_al (j := 13) (n := 603) (fl := s.2.2 22) rfl ek3 lk3 (by decide)) ?_
  refine gm_ev.iload_n i150_51 rfl ?_
  refine gm_ev.callV gm_mono_run (av := [.int (((3 : Int32) * x1) + x4), .long (s.2.2 22 k3), .int x3]) (r := []) (ci := 11) (fs := mF B s) (bM_get (j := 0) rfl) i150_52 rfl rfl rfl (Nat.le_of_ble_eq_true rfl) t5 ?_
  refine gm_ev.if_ne_f i150_55 c7 ?_
  refine gm_ev.iconst (v := 0) i150_58 (by decide) ?_
  exact gm_ev.zret i150_59 rfl (by decide)
theorem r_valueOf_0_t {N0 : Nat} {K : Nat → Nat} {d B : Nat} {s : mS} {G : gm_H} {sz sl : Nat} {p0 : Int32} {r1 : Int32} (hN : N0 ≤ B) (t2 : gm_to N0 K ra_nm (ra_mt K) d 125 [.int p0] (bM B (mH B s) G) sz (.returned (some (.int r1)), bM B (mH B s) G, sz, 0)) (c3 : r1 = 0) : gm_ev N0 K ra_nm (ra_mt K) d (some .long) (gm_I cX12_valueOf) (gm_lkf (lkX12 false K)) 0 [some (.ref B), some (.int p0)] [] (bM B (mH B s) G) sz sl (.returned (some (.long (p0.toInt64 <<< (((56 : Int32)).toInt64 &&& 63)))), (bM B (mH B s) G), sz, sl) := by
  refine gm_ev.iload_n i151_0 rfl ?_
  refine gm_ev.callS gm_mono_run (av := [.int p0]) (r := []) i151_1 rfl rfl rfl (Nat.le_of_ble_eq_true rfl) t2 ?_
  refine gm_ev.if_eq_t (tgt := 19) i151_4 (by decide) c3 ?_
  refine gm_ev.iload_n i151_19 rfl ?_
  refine gm_ev.i2l i151_20 ?_
  refine gm_ev.bipush (v := 56) i151_21 (by decide) ?_
  refine gm_ev.lshl i151_23 ?_
  exact gm_ev.lret i151_24 rfl
theorem r_valueOf_0_f {N0 : Nat} {K : Nat → Nat} {d B : Nat} {s : mS} {G : gm_H} {sz sl : Nat} {p0 : Int32} {r1 : Int32} {k4 : Nat} (hN : N0 ≤ B) (t2 : gm_to N0 K ra_nm (ra_mt K) d 125 [.int p0] (bM B (mH B s) G) sz (.returned (some (.int r1)), bM B (mH B s) G, sz, 0)) (c3 : ¬ r1 = 0) (ek4 : (p0 - (85 : Int32)) = nI k4) (lk4 : k4 < 6) : gm_ev N0 K ra_nm (ra_mt K) d (some .long) (gm_I cX12_valueOf) (gm_lkf (lkX12 false K)) 0 [some (.ref B), some (.int p0)] [] (bM B (mH B s) G) sz sl (.returned (some (.long (s.2.2 25 k4))), (bM B (mH B s) G), sz, sl) := by
  refine gm_ev.iload_n i151_0 rfl ?_
  refine gm_ev.callS gm_mono_run (av := [.int p0]) (r := []) i151_1 rfl rfl rfl (Nat.le_of_ble_eq_true rfl) t2 ?_
  refine gm_ev.if_eq_f i151_4 c3 ?_
  refine gm_ev.aload_n i151_7 rfl ?_
  refine gm_ev.getfield (v := .ref (B + 14)) i151_8 rfl (bM_fld (j := 0) (fs := mF B s) rfl rfl) ?_
  refine gm_ev.iload_n i151_11 rfl ?_
  refine gm_ev.bipush (v := 85) i151_12 (by decide) ?_
  refine gm_ev.isub i151_14 ?_
  refine gm_ev.laload i151_15 (bM_al (j := 14) (n := 6) (fl := s.2.2 25) rfl ek4 lk4 (by decide)) ?_
  refine gm_ev.goto (tgt := 24) i151_16 (by decide) ?_
  exact gm_ev.lret i151_24 rfl
theorem r_made_0_t_at40 {N0 : Nat} {K : Nat → Nat} {d B : Nat} {s : mS} {G : gm_H} {sz sl : Nat} {R : gm_R} {p0 : Int32} {k1 : Nat} {k3 : Nat} (hN : N0 ≤ B) (ek1 : p0 = nI k1) (lk1 : k1 < 432) (c2 : ¬ (s.2.1 15 k1) = 0) (ek3 : p0 = nI k3) (lk3 : k3 < 432) (k : gm_ev N0 K ra_nm (ra_mt K) d (some .long) (gm_I cX12_made) (gm_lkf (lkX12 false K)) 40 [some (.ref B), some (.int p0), some (.long ((((s.2.1 15 k3).toInt64) <<< (((56 : Int32)).toInt64 &&& 63)) ||| (11258999068426240 : Int64))), none, some (.int (0 : Int32))] [] (bM B (mH B s) G) sz sl R) : gm_ev N0 K ra_nm (ra_mt K) d (some .long) (gm_I cX12_made) (gm_lkf (lkX12 false K)) 0 [some (.ref B), some (.int p0), none, none, none] [] (bM B (mH B s) G) sz sl R := by
  refine gm_ev.aload_n i152_0 rfl ?_
  refine gm_ev.getfield (v := .ref (B + 7)) i152_1 rfl (bM_fld (j := 0) (fs := mF B s) rfl rfl) ?_
  refine gm_ev.iload_n i152_4 rfl ?_
  refine gm_ev.iaload i152_5 (bM_ai (j := 7) (n := 432) (f := s.2.1 15) rfl ek1 lk1 (by decide)) ?_
  refine gm_ev.if_ne_t (tgt := 22) i152_6 (by decide) c2 ?_
  refine gm_ev.aload_n i152_22 rfl ?_
  refine gm_ev.getfield (v := .ref (B + 7)) i152_23 rfl (bM_fld (j := 0) (fs := mF B s) rfl rfl) ?_
  refine gm_ev.iload_n i152_26 rfl ?_
  refine gm_ev.iaload i152_27 (bM_ai (j := 7) (n := 432) (f := s.2.1 15) rfl ek3 lk3 (by decide)) ?_
  refine gm_ev.i2l i152_28 ?_
  refine gm_ev.bipush (v := 56) i152_29 (by decide) ?_
  refine gm_ev.lshl i152_31 ?_
  refine gm_ev.ldc2 i152_32 rfl ?_
  refine gm_ev.lor i152_35 ?_
  refine gm_ev.lstore_n (ls' := [some (.ref B), some (.int p0), some (.long ((((s.2.1 15 k3).toInt64) <<< (((56 : Int32)).toInt64 &&& 63)) ||| (11258999068426240 : Int64))), none, none]) i152_36 (Nat.le_of_ble_eq_true rfl) rfl ?_
  refine gm_ev.iconst (v := 0) i152_37 (by decide) ?_
  refine gm_ev.istore (ls' := [some (.ref B), some (.int p0), some (.long ((((s.2.1 15 k3).toInt64) <<< (((56 : Int32)).toInt64 &&& 63)) ||| (11258999068426240 : Int64))), none, some (.int (0 : Int32))]) i152_38 (Nat.le_of_ble_eq_true rfl) rfl ?_
  exact k
theorem r_made_0_f {N0 : Nat} {K : Nat → Nat} {d B : Nat} {s : mS} {G : gm_H} {sz sl : Nat} {p0 : Int32} {k1 : Nat} {k3 : Nat} {r4 : Int64} (hN : N0 ≤ B) (ek1 : p0 = nI k1) (lk1 : k1 < 432) (c2 : (s.2.1 15 k1) = 0) (ek3 : ((3 : Int32) * p0) = nI k3) (lk3 : k3 < 1296) (t5 : gm_to N0 K ra_nm (ra_mt K) d 151 [.ref B, .int (s.2.1 17 k3)] (bM B (mH B s) G) sz (.returned (some (.long r4)), bM B (mH B s) G, sz, 0)) : gm_ev N0 K ra_nm (ra_mt K) d (some .long) (gm_I cX12_made) (gm_lkf (lkX12 false K)) 0 [some (.ref B), some (.int p0), none, none, none] [] (bM B (mH B s) G) sz sl (.returned (some (.long r4)), (bM B (mH B s) G), sz, sl) := by
  refine gm_ev.aload_n i152_0 rfl ?_
  refine gm_ev.getfield (v := .ref (B + 7)) i152_1 rfl (bM_fld (j := 0) (fs := mF B s) rfl rfl) ?_
  refine gm_ev.iload_n i152_4 rfl ?_
  refine gm_ev.iaload i152_5 (bM_ai (j := 7) (n := 432) (f := s.2.1 15) rfl ek1 lk1 (by decide)) ?_
  refine gm_ev.if_ne_f i152_6 c2 ?_
  refine gm_ev.aload_n i152_9 rfl ?_
  refine gm_ev.aload_n i152_10 rfl ?_
  refine gm_ev.getfield (v := .ref (B + 9)) i152_11 rfl (bM_fld (j := 0) (fs := mF B s) rfl rfl) ?_
  refine gm_ev.iconst (v := 3) i152_14 (by decide) ?_
  refine gm_ev.iload_n i152_15 rfl ?_
  refine gm_ev.imul i152_16 ?_
  refine gm_ev.iaload i152_17 (bM_ai (j := 9) (n := 1296) (f := s.2.1 17) rfl ek3 lk3 (by decide)) ?_
  refine gm_ev.callV gm_mono_run (av := [.int (s.2.1 17 k3)]) (r := []) (ci := 11) (fs := mF B s) (bM_get (j := 0) rfl) i152_18 rfl rfl rfl (Nat.le_of_ble_eq_true rfl) t5 ?_
  exact gm_ev.lret i152_21 rfl
theorem r_made_40_t {N0 : Nat} {K : Nat → Nat} {d B : Nat} {s : mS} {G : gm_H} {sz sl : Nat} {x1 : Int32} {y2 : Int64} {x4 : Int32} {k1 : Nat} (hN : N0 ≤ B) (ek1 : x1 = nI k1) (lk1 : k1 < 432) (c2 : (s.2.1 16 k1) ≤ x4) : gm_ev N0 K ra_nm (ra_mt K) d (some .long) (gm_I cX12_made) (gm_lkf (lkX12 false K)) 40 [some (.ref B), some (.int x1), some (.long y2), none, some (.int x4)] [] (bM B (mH B s) G) sz sl (.returned (some (.long y2)), (bM B (mH B s) G), sz, sl) := by
  refine gm_ev.iload i152_40 rfl ?_
  refine gm_ev.aload_n i152_42 rfl ?_
  refine gm_ev.getfield (v := .ref (B + 8)) i152_43 rfl (bM_fld (j := 0) (fs := mF B s) rfl rfl) ?_
  refine gm_ev.iload_n i152_46 rfl ?_
  refine gm_ev.iaload i152_47 (bM_ai (j := 8) (n := 432) (f := s.2.1 16) rfl ek1 lk1 (by decide)) ?_
  refine gm_ev.icmp_ge_t (tgt := 115) i152_48 (by decide) c2 ?_
  refine gm_ev.lload_n i152_115 rfl ?_
  exact gm_ev.lret i152_116 rfl
theorem r_made_40_ft_at40 {N0 : Nat} {K : Nat → Nat} {d B : Nat} {s : mS} {G : gm_H} {sz sl : Nat} {R : gm_R} {x1 : Int32} {y2 : Int64} {x4 : Int32} {k1 : Nat} {k3 : Nat} {r4 : Int64} {k6 : Nat} (hN : N0 ≤ B) (ek1 : x1 = nI k1) (lk1 : k1 < 432) (c2 : ¬ (s.2.1 16 k1) ≤ x4) (ek3 : (((3 : Int32) * x1) + x4) = nI k3) (lk3 : k3 < 1296) (t5 : gm_to N0 K ra_nm (ra_mt K) d 151 [.ref B, .int (s.2.1 17 k3)] (bM B (mH B s) G) sz (.returned (some (.long r4)), bM B (mH B s) G, sz, 0)) (ek6 : x1 = nI k6) (lk6 : k6 < 432) (c7 : ¬ (x4 + (1 : Int32)) = (s.2.1 16 k6)) (k : gm_ev N0 K ra_nm (ra_mt K) d (some .long) (gm_I cX12_made) (gm_lkf (lkX12 false K)) 40 [some (.ref B), some (.int x1), some (.long ((y2 ||| (r4 >>> ((((16 : Int32) + ((16 : Int32) * x4))).toInt64 &&& 63))) ||| (((44 : Int32).toInt64) <<< ((((32 : Int32) - ((16 : Int32) * x4))).toInt64 &&& 63)))), none, some (.int (x4 + (1 : Int32)))] [] (bM B (mH B s) G) sz sl R) : gm_ev N0 K ra_nm (ra_mt K) d (some .long) (gm_I cX12_made) (gm_lkf (lkX12 false K)) 40 [some (.ref B), some (.int x1), some (.long y2), none, some (.int x4)] [] (bM B (mH B s) G) sz sl R := by
  refine gm_ev.iload i152_40 rfl ?_
  refine gm_ev.aload_n i152_42 rfl ?_
  refine gm_ev.getfield (v := .ref (B + 8)) i152_43 rfl (bM_fld (j := 0) (fs := mF B s) rfl rfl) ?_
  refine gm_ev.iload_n i152_46 rfl ?_
  refine gm_ev.iaload i152_47 (bM_ai (j := 8) (n := 432) (f := s.2.1 16) rfl ek1 lk1 (by decide)) ?_
  refine gm_ev.icmp_ge_f i152_48 c2 ?_
  refine gm_ev.lload_n i152_51 rfl ?_
  refine gm_ev.aload_n i152_52 rfl ?_
  refine gm_ev.aload_n i152_53 rfl ?_
  refine gm_ev.getfield (v := .ref (B + 9)) i152_54 rfl (bM_fld (j := 0) (fs := mF B s) rfl rfl) ?_
  refine gm_ev.iconst (v := 3) i152_57 (by decide) ?_
  refine gm_ev.iload_n i152_58 rfl ?_
  refine gm_ev.imul i152_59 ?_
  refine gm_ev.iload i152_60 rfl ?_
  refine gm_ev.iadd i152_62 ?_
  refine gm_ev.iaload i152_63 (bM_ai (j := 9) (n := 1296) (f := s.2.1 17) rfl ek3 lk3 (by decide)) ?_
  refine gm_ev.callV gm_mono_run (av := [.int (s.2.1 17 k3)]) (r := [.long y2]) (ci := 11) (fs := mF B s) (bM_get (j := 0) rfl) i152_64 rfl rfl rfl (Nat.le_of_ble_eq_true rfl) t5 ?_
  refine gm_ev.bipush (v := 16) i152_67 (by decide) ?_
  refine gm_ev.bipush (v := 16) i152_69 (by decide) ?_
  refine gm_ev.iload i152_71 rfl ?_
  refine gm_ev.imul i152_73 ?_
  refine gm_ev.iadd i152_74 ?_
  refine gm_ev.lshr i152_75 ?_
  refine gm_ev.lor i152_76 ?_
  refine gm_ev.iload i152_77 rfl ?_
  refine gm_ev.iconst (v := 1) i152_79 (by decide) ?_
  refine gm_ev.iadd i152_80 ?_
  refine gm_ev.aload_n i152_81 rfl ?_
  refine gm_ev.getfield (v := .ref (B + 8)) i152_82 rfl (bM_fld (j := 0) (fs := mF B s) rfl rfl) ?_
  refine gm_ev.iload_n i152_85 rfl ?_
  refine gm_ev.iaload i152_86 (bM_ai (j := 8) (n := 432) (f := s.2.1 16) rfl ek6 lk6 (by decide)) ?_
  refine gm_ev.icmp_ne_t (tgt := 95) i152_87 (by decide) c7 ?_
  refine gm_ev.bipush (v := 44) i152_95 (by decide) ?_
  refine gm_ev.i2l i152_97 ?_
  refine gm_ev.bipush (v := 32) i152_98 (by decide) ?_
  refine gm_ev.bipush (v := 16) i152_100 (by decide) ?_
  refine gm_ev.iload i152_102 rfl ?_
  refine gm_ev.imul i152_104 ?_
  refine gm_ev.isub i152_105 ?_
  refine gm_ev.lshl i152_106 ?_
  refine gm_ev.lor i152_107 ?_
  refine gm_ev.lstore_n (ls' := [some (.ref B), some (.int x1), some (.long ((y2 ||| (r4 >>> ((((16 : Int32) + ((16 : Int32) * x4))).toInt64 &&& 63))) ||| (((44 : Int32).toInt64) <<< ((((32 : Int32) - ((16 : Int32) * x4))).toInt64 &&& 63)))), none, some (.int x4)]) i152_108 (Nat.le_of_ble_eq_true rfl) rfl ?_
  refine gm_ev.iinc (v := x4 + (1 : Int32)) (ls' := [some (.ref B), some (.int x1), some (.long ((y2 ||| (r4 >>> ((((16 : Int32) + ((16 : Int32) * x4))).toInt64 &&& 63))) ||| (((44 : Int32).toInt64) <<< ((((32 : Int32) - ((16 : Int32) * x4))).toInt64 &&& 63)))), none, some (.int (x4 + (1 : Int32)))]) i152_109 rfl (by rfl) rfl ?_
  refine gm_ev.goto (tgt := 40) i152_112 (by decide) ?_
  exact k
theorem r_made_40_ff_at40 {N0 : Nat} {K : Nat → Nat} {d B : Nat} {s : mS} {G : gm_H} {sz sl : Nat} {R : gm_R} {x1 : Int32} {y2 : Int64} {x4 : Int32} {k1 : Nat} {k3 : Nat} {r4 : Int64} {k6 : Nat} (hN : N0 ≤ B) (ek1 : x1 = nI k1) (lk1 : k1 < 432) (c2 : ¬ (s.2.1 16 k1) ≤ x4) (ek3 : (((3 : Int32) * x1) + x4) = nI k3) (lk3 : k3 < 1296) (t5 : gm_to N0 K ra_nm (ra_mt K) d 151 [.ref B, .int (s.2.1 17 k3)] (bM B (mH B s) G) sz (.returned (some (.long r4)), bM B (mH B s) G, sz, 0)) (ek6 : x1 = nI k6) (lk6 : k6 < 432) (c7 : (x4 + (1 : Int32)) = (s.2.1 16 k6)) (k : gm_ev N0 K ra_nm (ra_mt K) d (some .long) (gm_I cX12_made) (gm_lkf (lkX12 false K)) 40 [some (.ref B), some (.int x1), some (.long ((y2 ||| (r4 >>> ((((16 : Int32) + ((16 : Int32) * x4))).toInt64 &&& 63))) ||| (((41 : Int32).toInt64) <<< ((((32 : Int32) - ((16 : Int32) * x4))).toInt64 &&& 63)))), none, some (.int (x4 + (1 : Int32)))] [] (bM B (mH B s) G) sz sl R) : gm_ev N0 K ra_nm (ra_mt K) d (some .long) (gm_I cX12_made) (gm_lkf (lkX12 false K)) 40 [some (.ref B), some (.int x1), some (.long y2), none, some (.int x4)] [] (bM B (mH B s) G) sz sl R := by
  refine gm_ev.iload i152_40 rfl ?_
  refine gm_ev.aload_n i152_42 rfl ?_
  refine gm_ev.getfield (v := .ref (B + 8)) i152_43 rfl (bM_fld (j := 0) (fs := mF B s) rfl rfl) ?_
  refine gm_ev.iload_n i152_46 rfl ?_
  refine gm_ev.iaload i152_47 (bM_ai (j := 8) (n := 432) (f := s.2.1 16) rfl ek1 lk1 (by decide)) ?_
  refine gm_ev.icmp_ge_f i152_48 c2 ?_
  refine gm_ev.lload_n i152_51 rfl ?_
  refine gm_ev.aload_n i152_52 rfl ?_
  refine gm_ev.aload_n i152_53 rfl ?_
  refine gm_ev.getfield (v := .ref (B + 9)) i152_54 rfl (bM_fld (j := 0) (fs := mF B s) rfl rfl) ?_
  refine gm_ev.iconst (v := 3) i152_57 (by decide) ?_
  refine gm_ev.iload_n i152_58 rfl ?_
  refine gm_ev.imul i152_59 ?_
  refine gm_ev.iload i152_60 rfl ?_
  refine gm_ev.iadd i152_62 ?_
  refine gm_ev.iaload i152_63 (bM_ai (j := 9) (n := 1296) (f := s.2.1 17) rfl ek3 lk3 (by decide)) ?_
  refine gm_ev.callV gm_mono_run (av := [.int (s.2.1 17 k3)]) (r := [.long y2]) (ci := 11) (fs := mF B s) (bM_get (j := 0) rfl) i152_64 rfl rfl rfl (Nat.le_of_ble_eq_true rfl) t5 ?_
  refine gm_ev.bipush (v := 16) i152_67 (by decide) ?_
  refine gm_ev.bipush (v := 16) i152_69 (by decide) ?_
  refine gm_ev.iload i152_71 rfl ?_
  refine gm_ev.imul i152_73 ?_
  refine gm_ev.iadd i152_74 ?_
  refine gm_ev.lshr i152_75 ?_
  refine gm_ev.lor i152_76 ?_
  refine gm_ev.iload i152_77 rfl ?_
  refine gm_ev.iconst (v := 1) i152_79 (by decide) ?_
  refine gm_ev.iadd i152_80 ?_
  refine gm_ev.aload_n i152_81 rfl ?_
  refine gm_ev.getfield (v := .ref (B + 8)) i152_82 rfl (bM_fld (j := 0) (fs := mF B s) rfl rfl) ?_
  refine gm_ev.iload_n i152_85 rfl ?_
  refine gm_ev.iaload i152_86 (bM_ai (j := 8) (n := 432) (f := s.2.1 16) rfl ek6 lk6 (by decide)) ?_
  refine gm_ev.icmp_ne_f i152_87 c7 ?_
  refine gm_ev.bipush (v := 41) i152_90 (by decide) ?_
  refine gm_ev.goto (tgt := 97) i152_92 (by decide) ?_
  refine gm_ev.i2l i152_97 ?_
  refine gm_ev.bipush (v := 32) i152_98 (by decide) ?_
  refine gm_ev.bipush (v := 16) i152_100 (by decide) ?_
  refine gm_ev.iload i152_102 rfl ?_
  refine gm_ev.imul i152_104 ?_
  refine gm_ev.isub i152_105 ?_
  refine gm_ev.lshl i152_106 ?_
  refine gm_ev.lor i152_107 ?_
  refine gm_ev.lstore_n (ls' := [some (.ref B), some (.int x1), some (.long ((y2 ||| (r4 >>> ((((16 : Int32) + ((16 : Int32) * x4))).toInt64 &&& 63))) ||| (((41 : Int32).toInt64) <<< ((((32 : Int32) - ((16 : Int32) * x4))).toInt64 &&& 63)))), none, some (.int x4)]) i152_108 (Nat.le_of_ble_eq_true rfl) rfl ?_
  refine gm_ev.iinc (v := x4 + (1 : Int32)) (ls' := [some (.ref B), some (.int x1), some (.long ((y2 ||| (r4 >>> ((((16 : Int32) + ((16 : Int32) * x4))).toInt64 &&& 63))) ||| (((41 : Int32).toInt64) <<< ((((32 : Int32) - ((16 : Int32) * x4))).toInt64 &&& 63)))), none, some (.int (x4 + (1 : Int32)))]) i152_109 rfl (by rfl) rfl ?_
  refine gm_ev.goto (tgt := 40) i152_112 (by decide) ?_
  exact k
theorem r_part_0_t {N0 : Nat} {K : Nat → Nat} {d B : Nat} {s : mS} {G : gm_H} {sz sl : Nat} {p0 : Int32} {p1 : Int32} {k1 : Nat} (hN : N0 ≤ B) (ek1 : p0 = nI k1) (lk1 : k1 < 144) (c2 : ((s.2.1 14 k1) &&& (3 : Int32)) ≤ p1) : gm_ev N0 K ra_nm (ra_mt K) d (some .long) (gm_I cX12_part) (gm_lkf (lkX12 false K)) 0 [some (.ref B), some (.int p0), some (.int p1)] [] (bM B (mH B s) G) sz sl (.returned (some (.long (0 : Int64))), (bM B (mH B s) G), sz, sl) := by
  refine gm_ev.iload_n i153_0 rfl ?_
  refine gm_ev.aload_n i153_1 rfl ?_
  refine gm_ev.getfield (v := .ref (B + 6)) i153_2 rfl (bM_fld (j := 0) (fs := mF B s) rfl rfl) ?_
  refine gm_ev.iload_n i153_5 rfl ?_
  refine gm_ev.iaload i153_6 (bM_ai (j := 6) (n := 144) (f := s.2.1 14) rfl ek1 lk1 (by decide)) ?_
  refine gm_ev.iconst (v := 3) i153_7 (by decide) ?_
  refine gm_ev.iand i153_8 ?_
  refine gm_ev.icmp_ge_t (tgt := 24) i153_9 (by decide) c2 ?_
  refine gm_ev.lconst (v := 0) i153_24 (by decide) ?_
  exact gm_ev.lret i153_25 rfl
theorem r_part_0_f {N0 : Nat} {K : Nat → Nat} {d B : Nat} {s : mS} {G : gm_H} {sz sl : Nat} {p0 : Int32} {p1 : Int32} {k1 : Nat} {r3 : Int64} (hN : N0 ≤ B) (ek1 : p0 = nI k1) (lk1 : k1 < 144) (c2 : ¬ ((s.2.1 14 k1) &&& (3 : Int32)) ≤ p1) (t4 : gm_to N0 K ra_nm (ra_mt K) d 152 [.ref B, .int (((3 : Int32) * p0) + p1)] (bM B (mH B s) G) sz (.returned (some (.long r3)), bM B (mH B s) G, sz, 0)) : gm_ev N0 K ra_nm (ra_mt K) d (some .long) (gm_I cX12_part) (gm_lkf (lkX12 false K)) 0 [some (.ref B), some (.int p0), some (.int p1)] [] (bM B (mH B s) G) sz sl (.returned (some (.long r3)), (bM B (mH B s) G), sz, sl) := by
  refine gm_ev.iload_n i153_0 rfl ?_
  refine gm_ev.aload_n i153_1 rfl ?_
  refine gm_ev.getfield (v := .ref (B + 6)) i153_2 rfl (bM_fld (j := 0) (fs := mF B s) rfl rfl) ?_
  refine gm_ev.iload_n i153_5 rfl ?_
  refine gm_ev.iaload i153_6 (bM_ai (j := 6) (n := 144) (f := s.2.1 14) rfl ek1 lk1 (by decide)) ?_
  refine gm_ev.iconst (v := 3) i153_7 (by decide) ?_
  refine gm_ev.iand i153_8 ?_
  refine gm_ev.icmp_ge_f i153_9 c2 ?_
  refine gm_ev.aload_n i153_12 rfl ?_
  refine gm_ev.iconst (v := 3) i153_13 (by decide) ?_
  refine gm_ev.iload_n i153_14 rfl ?_
  refine gm_ev.imul i153_15 ?_
  refine gm_ev.iload_n i153_16 rfl ?_
  refine gm_ev.iadd i153_17 ?_
  refine gm_ev.callV gm_mono_run (av := [.int (((3 : Int32) * p0) + p1)]) (r := []) (ci := 11) (fs := mF B s) (bM_get (j := 0) rfl) i153_18 rfl rfl rfl (Nat.le_of_ble_eq_true rfl) t4 ?_
  refine gm_ev.goto (tgt := 25) i153_21 (by decide) ?_
  exact gm_ev.lret i153_25 rfl
theorem r_agrees_0__at7 {N0 : Nat} {K : Nat → Nat} {d B : Nat} {s : mS} {G : gm_H} {sz sl : Nat} {R : gm_R} {p0 : Int32} (hN : N0 ≤ B)  (k : gm_ev N0 K ra_nm (ra_mt K) d (some .boolean) (gm_I cX12_agrees) (gm_lkf (lkX12 false K)) 7 [some (.ref B), some (.int p0), some (.int (((6 : Int32) * p0) + (1 : Int32)))] [] (bM B (mH B s) G) sz sl R) : gm_ev N0 K ra_nm (ra_mt K) d (some .boolean) (gm_I cX12_agrees) (gm_lkf (lkX12 false K)) 0 [some (.ref B), some (.int p0), none] [] (bM B (mH B s) G) sz sl R := by
  refine gm_ev.bipush (v := 6) i154_0 (by decide) ?_
  refine gm_ev.iload_n i154_2 rfl ?_
  refine gm_ev.imul i154_3 ?_
  refine gm_ev.iconst (v := 1) i154_4 (by decide) ?_
  refine gm_ev.iadd i154_5 ?_
  refine gm_ev.istore_n (ls' := [some (.ref B), some (.int p0), some (.int (((6 : Int32) * p0) + (1 : Int32)))]) i154_6 (Nat.le_of_ble_eq_true rfl) rfl ?_
  exact k
theorem r_agrees_7_t {N0 : Nat} {K : Nat → Nat} {d B : Nat} {s : mS} {G : gm_H} {sz sl : Nat} {x1 : Int32} {x2 : Int32} {k1 : Nat} (hN : N0 ≤ B) (ek1 : x1 = nI k1) (lk1 : k1 < 24) (c2 : (((6 : Int32) * x1) + (s.2.1 12 k1)) < x2) : gm_ev N0 K ra_nm (ra_mt K) d (some .boolean) (gm_I cX12_agrees) (gm_lkf (lkX12 false K)) 7 [some (.ref B), some (.int x1), some (.int x2)] [] (bM B (mH B s) G) sz sl (.returned (some (.int (1 : Int32))), (bM B (mH B s) G), sz, sl) := by
  refine gm_ev.iload_n i154_7 rfl ?_
  refine gm_ev.bipush (v := 6) i154_8 (by decide) ?_
  refine gm_ev.iload_n i154_10 rfl ?_
  refine gm_ev.imul i154_11 ?_
  refine gm_ev.aload_n i154_12 rfl ?_
  refine gm_ev.getfield (v := .ref (B + 4)) i154_13 rfl (bM_fld (j := 0) (fs := mF B s) rfl rfl) ?_
  refine gm_ev.iload_n i154_16 rfl ?_
  refine gm_ev.iaload i154_17 (bM_ai (j := 4) (n := 24) (f := s.2.1 12) rfl ek1 lk1 (by decide)) ?_
  refine gm_ev.iadd i154_18 ?_
  refine gm_ev.icmp_gt_t (tgt := 103) i154_19 (by decide) c2 ?_
  refine gm_ev.iconst (v := 1) i154_103 (by decide) ?_
  exact gm_ev.zret i154_104 rfl (by decide)
theorem r_agrees_7_ftt_at7 {N0 : Nat} {K : Nat → Nat} {d B : Nat} {s : mS} {G : gm_H} {sz sl : Nat} {R : gm_R} {x1 : Int32} {x2 : Int32} {k1 : Nat} {k3 : Nat} {k5 : Nat} (hN : N0 ≤ B) (ek1 : x1 = nI k1) (lk1 : k1 < 24) (c2 : ¬ (((6 : Int32) * x1) + (s.2.1 12 k1)) < x2) (ek3 : x2 = nI k3) (lk3 : k3 < 144) (c4 : ¬ (s.2.1 13 k3) = (1 : Int32)) (ek5 : x2 = nI k5) (lk5 : k5 < 144) (c6 : ¬ (s.2.1 13 k5) = (2 : Int32)) (k : gm_ev N0 K ra_nm (ra_mt K) d (some .boolean) (gm_I cX12_agrees) (gm_lkf (lkX12 false K)) 7 [some (.ref B), some (.int x1), some (.int (x2 + (1 : Int32)))] [] (bM B (mH B s) G) sz sl R) : gm_ev N0 K ra_nm (ra_mt K) d (some .boolean) (gm_I cX12_agrees) (gm_lkf (lkX12 false K)) 7 [some (.ref B), some (.int x1), some (.int x2)] [] (bM B (mH B s) G) sz sl R := by
  refine gm_ev.iload_n i154_7 rfl ?_
  refine gm_ev.bipush (v := 6) i154_8 (by decide) ?_
  refine gm_ev.iload_n i154_10 rfl ?_
  refine gm_ev.imul i154_11 ?_
  refine gm_ev.aload_n i154_12 rfl ?_
  refine gm_ev.getfield (v := .ref (B + 4)) i154_13 rfl (bM_fld (j := 0) (fs := mF B s) rfl rfl) ?_
  refine gm_ev.iload_n i154_16 rfl ?_
  refine gm_ev.iaload i154_17 (bM_ai (j := 4) (n := 24) (f := s.2.1 12) rfl ek1 lk1 (by decide)) ?_
  refine gm_ev.iadd i154_18 ?_
  refine gm_ev.icmp_gt_f i154_19 c2 ?_
  refine gm_ev.aload_n i154_22 rfl ?_
  refine gm_ev.getfield (v := .ref (B + 5)) i154_23 rfl (bM_fld (j := 0) (fs := mF B s) rfl rfl) ?_
  refine gm_ev.iload_n i154_26 rfl ?_
  refine gm_ev.iaload i154_27 (bM_ai (j := 5) (n := 144) (f := s.2.1 13) rfl ek3 lk3 (by decide)) ?_
  refine gm_ev.iconst (v := 1) i154_28 (by decide) ?_
  refine gm_ev.icmp_ne_t (tgt := 65) i154_29 (by decide) c4 ?_
  refine gm_ev.aload_n i154_65 rfl ?_
  refine gm_ev.getfield (v := .ref (B + 5)) i154_66 rfl (bM_fld (j := 0) (fs := mF B s) rfl rfl) ?_
  refine gm_ev.iload_n i154_69 rfl ?_
  refine gm_ev.iaload i154_70 (bM_ai (j := 5) (n := 144) (f := s.2.1 13) rfl ek5 lk5 (by decide)) ?_
  refine gm_ev.iconst (v := 2) i154_71 (by decide) ?_
  refine gm_ev.icmp_ne_t (tgt := 97) i154_72 (by decide) c6 ?_
  refine gm_ev.iinc (v := x2 + (1 : Int32)) (ls' := [some (.ref B), some (.int x1), some (.int (x2 + (1 : Int32)))]) i154_97 rfl (by rfl) rfl ?_
  refine gm_ev.goto (tgt := 7) i154_100 (by decide) ?_
  exact k
theorem r_agrees_7_ftft_at7 {N0 : Nat} {K : Nat → Nat} {d B : Nat} {s : mS} {G : gm_H} {sz sl : Nat} {R : gm_R} {x1 : Int32} {x2 : Int32} {k1 : Nat} {k3 : Nat} {k5 : Nat} {r7 : Int64} {r9 : Int64} (hN : N0 ≤ B) (ek1 : x1 = nI k1) (lk1 : k1 < 24) (c2 : ¬ (((6 : Int32) * x1) + (s.2.1 12 k1)) < x2) (ek3 : x2 = nI k3) (lk3 : k3 < 144) (c4 : ¬ (s.2.1 13 k3) = (1 : Int32)) (ek5 : x2 = nI k5) (lk5 : k5 < 144) (c6 : (s.2.1 13 k5) = (2 : Int32)) (t8 : gm_to N0 K ra_nm (ra_mt K) d 152 [.ref B, .int ((3 : Int32) * x2)] (bM B (mH B s) G) sz (.returned (some (.long r7)), bM B (mH B s) G, sz, 0)) (t10 : gm_to N0 K ra_nm (ra_mt K) d 152 [.ref B, .int (((3 : Int32) * x2) + (1 : Int32))] (bM B (mH B s) G) sz (.returned (some (.long r9)), bM B (mH B s) G, sz, 0)) (c11 : ¬ (lg_cmp r7 r9) = 0) (k : gm_ev N0 K ra_nm (ra_mt K) d (some .boolean) (gm_I cX12_agrees) (gm_lkf (lkX12 false K)) 7 [some (.ref B), some (.int x1), some (.int (x2 + (1 : Int32)))] [] (bM B (mH B s) G) sz sl R) : gm_ev N0 K ra_nm (ra_mt K) d (some .boolean) (gm_I cX12_agrees) (gm_lkf (lkX12 false K)) 7 [some (.ref B), some (.int x1), some (.int x2)] [] (bM B (mH B s) G) sz sl R := by
  refine gm_ev.iload_n i154_7 rfl ?_
  refine gm_ev.bipush (v := 6) i154_8 (by decide) ?_
  refine gm_ev.iload_n i154_10 rfl ?_
  refine gm_ev.imul i154_11 ?_
  refine gm_ev.aload_n i154_12 rfl ?_
  refine gm_ev.getfield (v := .ref (B + 4)) i154_13 rfl (bM_fld (j := 0) (fs := mF B s) rfl rfl) ?_
  refine gm_ev.iload_n i154_16 rfl ?_
  refine gm_ev.iaload i154_17 (bM_ai (j := 4) (n := 24) (f := s.2.1 12) rfl ek1 lk1 (by decide)) ?_
  refine gm_ev.iadd i154_18 ?_
  refine gm_ev.icmp_gt_f i154_19 c2 ?_
  refine gm_ev.aload_n i154_22 rfl ?_
  refine gm_ev.getfield (v := .ref (B + 5)) i154_23 rfl (bM_fld (j := 0) (fs := mF B s) rfl rfl) ?_
  refine gm_ev.iload_n i154_26 rfl ?_
  refine gm_ev.iaload i154_27 (bM_ai (j := 5) (n := 144) (f := s.2.1 13) rfl ek3 lk3 (by decide)) ?_
  refine gm_ev.iconst (v := 1) i154_28 (by decide) ?_
  refine gm_ev.icmp_ne_t (tgt := 65) i154_29 (by decide) c4 ?_
  refine gm_ev.aload_n i154_65 rfl ?_
  refine gm_ev.getfield (v := .ref (B + 5)) i154_66 rfl (bM_fld (j := 0) (fs := mF B s) rfl rfl) ?_
  refine gm_ev.iload_n i154_69 rfl ?_
  refine gm_ev.iaload i154_70 (bM_ai (j := 5) (n := 144) (f := s.2.1 13) rfl ek5 lk5 (by decide)) ?_
  refine gm_ev.iconst (v := 2) i154_71 (by decide) ?_
  refine gm_ev.icmp_ne_f i154_72 c6 ?_
  refine gm_ev.aload_n i154_75 rfl ?_
  refine gm_ev.iconst (v := 3) i154_76 (by decide) ?_
  refine gm_ev.iload_n i154_77 rfl ?_
  refine gm_ev.imul i154_78 ?_
  refine gm_ev.callV gm_mono_run (av := [.int ((3 : Int32) * x2)]) (r := []) (ci := 11) (fs := mF B s) (bM_get (j := 0) rfl) i154_79 rfl rfl rfl (Nat.le_of_ble_eq_true rfl) t8 ?_
  refine gm_ev.aload_n i154_82 rfl ?_
  refine gm_ev.iconst (v := 3) i154_83 (by decide) ?_
  refine gm_ev.iload_n i154_84 rfl ?_
  refine gm_ev.imul i154_85 ?_
  refine gm_ev.iconst (v := 1) i154_86 (by decide) ?_
  refine gm_ev.iadd i154_87 ?_
  refine gm_ev.callV gm_mono_run (av := [.int (((3 : Int32) * x2) + (1 : Int32))]) (r := [.long r7]) (ci := 11) (fs := mF B s) (bM_get (j := 0) rfl) i154_88 rfl rfl rfl (Nat.le_of_ble_eq_true rfl) t10 ?_
  refine gm_ev.lcmp i154_91 ?_
  refine gm_ev.if_ne_t (tgt := 97) i154_92 (by decide) c11 ?_
  refine gm_ev.iinc (v := x2 + (1 : Int32)) (ls' := [some (.ref B), some (.int x1), some (.int (x2 + (1 : Int32)))]) i154_97 rfl (by rfl) rfl ?_
  refine gm_ev.goto (tgt := 7) i154_100 (by decide) ?_
  exact k
theorem r_agrees_7_ftff {N0 : Nat} {K : Nat → Nat} {d B : Nat} {s : mS} {G : gm_H} {sz sl : Nat} {x1 : Int32} {x2 : Int32} {k1 : Nat} {k3 : Nat} {k5 : Nat} {r7 : Int64} {r9 : Int64} (hN : N0 ≤ B) (ek1 : x1 = nI k1) (lk1 : k1 < 24) (c2 : ¬ (((6 : Int32) * x1) + (s.2.1 12 k1)) < x2) (ek3 : x2 = nI k3) (lk3 : k3 < 144) (c4 : ¬ (s.2.1 13 k3) = (1 : Int32)) (ek5 : x2 = nI k5) (lk5 : k5 < 144) (c6 : (s.2.1 13 k5) = (2 : Int32)) (t8 : gm_to N0 K ra_nm (ra_mt K) d 152 [.ref B, .int ((3 : Int32) * x2)] (bM B (mH B s) G) sz (.returned (some (.long r7)), bM B (mH B s) G, sz, 0)) (t10 : gm_to N0 K ra_nm (ra_mt K) d 152 [.ref B, .int (((3 : Int32) * x2) + (1 : Int32))] (bM B (mH B s) G) sz (.returned (some (.long r9)), bM B (mH B s) G, sz, 0)) (c11 : (lg_cmp r7 r9) = 0) : gm_ev N0 K ra_nm (ra_mt K) d (some .boolean) (gm_I cX12_agrees) (gm_lkf (lkX12 false K)) 7 [some (.ref B), some (.int x1), some (.int x2)] [] (bM B (mH B s) G) sz sl (.returned (some (.int (0 : Int32))), (bM B (mH B s) G), sz, sl) := by
  refine gm_ev.iload_n i154_7 rfl ?_
  refine gm_ev.bipush (v := 6) i154_8 (by decide) ?_
  refine gm_ev.iload_n i154_10 rfl ?_
  refine gm_ev.imul i154_11 ?_
  refine gm_ev.aload_n i154_12 rfl ?_
  refine gm_ev.getfield (v := .ref (B + 4)) i154_13 rfl (bM_fld (j := 0) (fs := mF B s) rfl rfl) ?_
  refine gm_ev.iload_n i154_16 rfl ?_
  refine gm_ev.iaload i154_17 (bM_ai (j := 4) (n := 24) (f := s.2.1 12) rfl ek1 lk1 (by decide)) ?_
  refine gm_ev.iadd i154_18 ?_
  refine gm_ev.icmp_gt_f i154_19 c2 ?_
  refine gm_ev.aload_n i154_22 rfl ?_
  refine gm_ev.getfield (v := .ref (B + 5)) i154_23 rfl (bM_fld (j := 0) (fs := mF B s) rfl rfl) ?_
  refine gm_ev.iload_n i154_26 rfl ?_
  refine gm_ev.iaload i154_27 (bM_ai (j := 5) (n := 144) (f := s.2.1 13) rfl ek3 lk3 (by decide)) ?_
  refine gm_ev.iconst (v := 1) i154_28 (by decide) ?_
  refine gm_ev.icmp_ne_t (tgt := 65) i154_29 (by decide) c4 ?_
  refine gm_ev.aload_n i154_65 rfl ?_
  refine gm_ev.getfield (v := .ref (B + 5)) i154_66 rfl (bM_fld (j := 0) (fs := mF B s) rfl rfl) ?_
  refine gm_ev.iload_n i154_69 rfl ?_
  refine gm_ev.iaload i154_70 (bM_ai (j := 5) (n := 144) (f := s.2.1 13) rfl ek5 lk5 (by decide)) ?_
  refine gm_ev.iconst (v := 2) i154_71 (by decide) ?_
  refine gm_ev.icmp_ne_f i154_72 c6 ?_
  refine gm_ev.aload_n i154_75 rfl ?_
  refine gm_ev.iconst (v := 3) i154_76 (by decide) ?_
  refine gm_ev.iload_n i154_77 rfl ?_
  refine gm_ev.imul i154_78 ?_
  refine gm_ev.callV gm_mono_run (av := [.int ((3 : Int32) * x2)]) (r := []) (ci := 11) (fs := mF B s) (bM_get (j := 0) rfl) i154_79 rfl rfl rfl (Nat.le_of_ble_eq_true rfl) t8 ?_
  refine gm_ev.aload_n i154_82 rfl ?_
  refine gm_ev.iconst (v := 3) i154_83 (by decide) ?_
  refine gm_ev.iload_n i154_84 rfl ?_
  refine gm_ev.imul i154_85 ?_
  refine gm_ev.iconst (v := 1) i154_86 (by decide) ?_
  refine gm_ev.iadd i154_87 ?_
  refine gm_ev.callV gm_mono_run (av := [.int (((3 : Int32) * x2) + (1 : Int32))]) (r := [.long r7]) (ci := 11) (fs := mF B s) (bM_get (j := 0) rfl) i154_88 rfl rfl rfl (Nat.le_of_ble_eq_true rfl) t10 ?_
  refine gm_ev.lcmp i154_91 ?_
  refine gm_ev.if_ne_f i154_92 c11 ?_
  refine gm_ev.iconst (v := 0) i154_95 (by decide) ?_
  exact gm_ev.zret i154_96 rfl (by decide)
theorem r_agrees_7_fftt_at7 {N0 : Nat} {K : Nat → Nat} {d B : Nat} {s : mS} {G : gm_H} {sz sl : Nat} {R : gm_R} {x1 : Int32} {x2 : Int32} {k1 : Nat} {k3 : Nat} {k5 : Nat} {r6 : Int64} {r8 : Int64} {r10 : Int64} {r12 : Int32} {k15 : Nat} (hN : N0 ≤ B) (ek1 : x1 = nI k1) (lk1 : k1 < 24) (c2 : ¬ (((6 : Int32) * x1) + (s.2.1 12 k1)) < x2) (ek3 : x2 = nI k3) (lk3 : k3 < 144) (c4 : (s.2.1 13 k3) = (1 : Int32)) (ek5 : x2 = nI k5) (lk5 : k5 < 144) (t7 : gm_to N0 K ra_nm (ra_mt K) d 153 [.ref B, .int x2, .int (0 : Int32)] (bM B (mH B s) G) sz (.returned (some (.long r6)), bM B (mH B s) G, sz, 0)) (t9 : gm_to N0 K ra_nm (ra_mt K) d 153 [.ref B, .int x2, .int (1 : Int32)] (bM B (mH B s) G) sz (.returned (some (.long r8)), bM B (mH B s) G, sz, 0)) (t11 : gm_to N0 K ra_nm (ra_mt K) d 153 [.ref B, .int x2, .int (2 : Int32)] (bM B (mH B s) G) sz (.returned (some (.long r10)), bM B (mH B s) G, sz, 0)) (t13 : gm_to N0 K ra_nm (ra_mt K) d 144 [.ref B, .int (s.2.1 14 k5), .long r6, .long r8, .long r10] (bM B (mH B s) G) sz (.returned (some (.int r12)), bM B (mH B s) G, sz, 0)) (c14 : r12 = 0) (ek15 : x2 = nI k15) (lk15 : k15 < 144) (c16 : ¬ (s.2.1 13 k15) = (2 : Int32)) (k : gm_ev N0 K ra_nm (ra_mt K) d (some .boolean) (gm_I cX12_agrees) (gm_lkf (lkX12 false K)) 7 [some (.ref B), some (.int x1), some (.int (x2 + (1 : Int32)))] [] (bM B (mH B s) G) sz sl R) : gm_ev N0 K ra_nm (ra_mt K) d (some .boolean) (gm_I cX12_agrees) (gm_lkf (lkX12 false K)) 7 [some (.ref B), some (.int x1), some (.int x2)] [] (bM B (mH B s) G) sz sl R := by
  refine gm_ev.iload_n i154_7 rfl ?_
  refine gm_ev.bipush (v := 6) i154_8 (by decide) ?_
  refine gm_ev.iload_n i154_10 rfl ?_
  refine gm_ev.imul i154_11 ?_
  refine gm_ev.aload_n i154_12 rfl ?_
  refine gm_ev.getfield (v := .ref (B + 4)) i154_13 rfl (bM_fld (j := 0) (fs := mF B s) rfl rfl) ?_
  refine gm_ev.iload_n i154_16 rfl ?_
  refine gm_ev.iaload i154_17 (bM_ai (j := 4) (n := 24) (f := s.2.1 12) rfl ek1 lk1 (by decide)) ?_
  refine gm_ev.iadd i154_18 ?_
  refine gm_ev.icmp_gt_f i154_19 c2 ?_
  refine gm_ev.aload_n i154_22 rfl ?_
  refine gm_ev.getfield (v := .ref (B + 5)) i154_23 rfl (bM_fld (j := 0) (fs := mF B s) rfl rfl) ?_
  refine gm_ev.iload_n i154_26 rfl ?_
  refine gm_ev.iaload i154_27 (bM_ai (j := 5) (n := 144) (f := s.2.1 13) rfl ek3 lk3 (by decide)) ?_
  refine gm_ev.iconst (v := 1) i154_28 (by decide) ?_
  refine gm_ev.icmp_ne_f i154_29 c4 ?_
  refine gm_ev.aload_n i154_32 rfl ?_
  refine gm_ev.aload_n i154_33 rfl ?_
  refine gm_ev.getfield (v := .ref (B + 6)) i154_34 rfl (bM_fld (j := 0) (fs := mF B s) rfl rfl) ?_
  refine gm_ev.iload_n i154_37 rfl ?_
  refine gm_ev.iaload i154_38 (bM_ai (j := 6) (n := 144) (f := s.2.1 14) rfl ek5 lk5 (by decide)) ?_
  refine gm_ev.aload_n i154_39 rfl ?_
  refine gm_ev.iload_n i154_40 rfl ?_
  refine gm_ev.iconst (v := 0) i154_41 (by decide) ?_
  refine gm_ev.callV gm_mono_run (av := [.int x2, .int (0 : Int32)]) (r := [.int (s.2.1 14 k5), .ref B]) (ci := 11) (fs := mF B s) (bM_get (j := 0) rfl) i154_42 rfl rfl rfl (Nat.le_of_ble_eq_true rfl) t7 ?_
  refine gm_ev.aload_n i154_45 rfl ?_
  refine gm_ev.iload_n i154_46 rfl ?_
  refine gm_ev.iconst (v := 1) i154_47 (by decide) ?_
  refine gm_ev.callV gm_mono_run (av := [.int x2, .int (1 : Int32)]) (r := [.long r6, .int (s.2.1 14 k5), .ref B]) (ci := 11) (fs := mF B s) (bM_get (j := 0) rfl) i154_48 rfl rfl rfl (Nat.le_of_ble_eq_true rfl) t9 ?_
  refine gm_ev.aload_n i154_51 rfl ?_
  refine gm_ev.iload_n i154_52 rfl ?_
  refine gm_ev.iconst (v := 2) i154_53 (by decide) ?_
  refine gm_ev.callV gm_mono_run (av := [.int x2, .int (2 : Int32)]) (r := [.long r8, .long r6, .int (s.2.1 14 k5), .ref B]) (ci := 11) (fs := mF B s) (bM_get (j := 0) rfl) i154_54 rfl rfl rfl (Nat.le_of_ble_eq_true rfl) t11 ?_
  refine gm_ev.callV gm_mono_run (av := [.int (s.2.1 14 k5), .long r6, .long r8, .long r10]) (r := []) (ci := 11) (fs := mF B s) (bM_get (j := 0) rfl) i154_57 rfl rfl rfl (Nat.le_of_ble_eq_true rfl) t13 ?_
  refine gm_ev.if_eq_t (tgt := 65) i154_60 (by decide) c14 ?_
  refine gm_ev.aload_n i154_65 rfl ?_
  refine gm_ev.getfield (v := .ref (B + 5)) i154_66 rfl (bM_fld (j := 0) (fs := mF B s) rfl rfl) ?_
  refine gm_ev.iload_n i154_69 rfl ?_
  refine gm_ev.iaload i154_70 (bM_ai (j := 5) (n := 144) (f := s.2.1 13) rfl ek15 lk15 (by decide)) ?_
  refine gm_ev.iconst (v := 2) i154_71 (by decide) ?_
  refine gm_ev.icmp_ne_t (tgt := 97) i154_72 (by decide) c16 ?_
  refine gm_ev.iinc (v := x2 + (1 : Int32)) (ls' := [some (.ref B), some (.int x1), some (.int (x2 + (1 : Int32)))]) i154_97 rfl (by rfl) rfl ?_
  refine gm_ev.goto (tgt := 7) i154_100 (by decide) ?_
  exact k
theorem r_agrees_7_fftft_at7 {N0 : Nat} {K : Nat → Nat} {d B : Nat} {s : mS} {G : gm_H} {sz sl : Nat} {R : gm_R} {x1 : Int32} {x2 : Int32} {k1 : Nat} {k3 : Nat} {k5 : Nat} {r6 : Int64} {r8 : Int64} {r10 : Int64} {r12 : Int32} {k15 : Nat} {r17 : Int64} {r19 : Int64} (hN : N0 ≤ B) (ek1 : x1 = nI k1) (lk1 : k1 < 24) (c2 : ¬ (((6 : Int32) * x1) + (s.2.1 12 k1)) < x2) (ek3 : x2 = nI k3) (lk3 : k3 < 144) (c4 : (s.2.1 13 k3) = (1 : Int32)) (ek5 : x2 = nI k5) (lk5 : k5 < 144) (t7 : gm_to N0 K ra_nm (ra_mt K) d 153 [.ref B, .int x2, .int (0 : Int32)] (bM B (mH B s) G) sz (.returned (some (.long r6)), bM B (mH B s) G, sz, 0)) (t9 : gm_to N0 K ra_nm (ra_mt K) d 153 [.ref B, .int x2, .int (1 : Int32)] (bM B (mH B s) G) sz (.returned (some (.long r8)), bM B (mH B s) G, sz, 0)) (t11 : gm_to N0 K ra_nm (ra_mt K) d 153 [.ref B, .int x2, .int (2 : Int32)] (bM B (mH B s) G) sz (.returned (some (.long r10)), bM B (mH B s) G, sz, 0)) (t13 : gm_to N0 K ra_nm (ra_mt K) d 144 [.ref B, .int (s.2.1 14 k5), .long r6, .long r8, .long r10] (bM B (mH B s) G) sz (.returned (some (.int r12)), bM B (mH B s) G, sz, 0)) (c14 : r12 = 0) (ek15 : x2 = nI k15) (lk15 : k15 < 144) (c16 : (s.2.1 13 k15) = (2 : Int32)) (t18 : gm_to N0 K ra_nm (ra_mt K) d 152 [.ref B, .int ((3 : Int32) * x2)] (bM B (mH B s) G) sz (.returned (some (.long r17)), bM B (mH B s) G, sz, 0)) (t20 : gm_to N0 K ra_nm (ra_mt K) d 152 [.ref B, .int (((3 : Int32) * x2) + (1 : Int32))] (bM B (mH B s) G) sz (.returned (some (.long r19)), bM B (mH B s) G, sz, 0)) (c21 : ¬ (lg_cmp r17 r19) = 0) (k : gm_ev N0 K ra_nm (ra_mt K) d (some .boolean) (gm_I cX12_agrees) (gm_lkf (lkX12 false K)) 7 [some (.ref B), some (.int x1), some (.int (x2 + (1 : Int32)))] [] (bM B (mH B s) G) sz sl R) : gm_ev N0 K ra_nm (ra_mt K) d (some .boolean) (gm_I cX12_agrees) (gm_lkf (lkX12 false K)) 7 [some (.ref B), some (.int x1), some (.int x2)] [] (bM B (mH B s) G) sz sl R := by
  refine gm_ev.iload_n i154_7 rfl ?_
  refine gm_ev.bipush (v := 6) i154_8 (by decide) ?_
  refine gm_ev.iload_n i154_10 rfl ?_
  refine gm_ev.imul i154_11 ?_
  refine gm_ev.aload_n i154_12 rfl ?_
  refine gm_ev.getfield (v := .ref (B + 4)) i154_13 rfl (bM_fld (j := 0) (fs := mF B s) rfl rfl) ?_
  refine gm_ev.iload_n i154_16 rfl ?_
  refine gm_ev.iaload i154_17 (bM_ai (j := 4) (n := 24) (f := s.2.1 12) rfl ek1 lk1 (by decide)) ?_
  refine gm_ev.iadd i154_18 ?_
  refine gm_ev.icmp_gt_f i154_19 c2 ?_
  refine gm_ev.aload_n i154_22 rfl ?_
  refine gm_ev.getfield (v := .ref (B + 5)) i154_23 rfl (bM_fld (j := 0) (fs := mF B s) rfl rfl) ?_
  refine gm_ev.iload_n i154_26 rfl ?_
  refine gm_ev.iaload i154_27 (bM_ai (j := 5) (n := 144) (f := s.2.1 13) rfl ek3 lk3 (by decide)) ?_
  refine gm_ev.iconst (v := 1) i154_28 (by decide) ?_
  refine gm_ev.icmp_ne_f i154_29 c4 ?_
  refine gm_ev.aload_n i154_32 rfl ?_
  refine gm_ev.aload_n i154_33 rfl ?_
  refine gm_ev.getfield (v := .ref (B + 6)) i154_34 rfl (bM_fld (j := 0) (fs := mF B s) rfl rfl) ?_
  refine gm_ev.iload_n i154_37 rfl ?_
  refine gm_ev.iaload i154_38 (bM_ai (j := 6) (n := 144) (f := s.2.1 14) rfl ek5 lk5 (by decide)) ?_
  refine gm_ev.aload_n i154_39 rfl ?_
  refine gm_ev.iload_n i154_40 rfl ?_
  refine gm_ev.iconst (v := 0) i154_41 (by decide) ?_
  refine gm_ev.callV gm_mono_run (av := [.int x2, .int (0 : Int32)]) (r := [.int (s.2.1 14 k5), .ref B]) (ci := 11) (fs := mF B s) (bM_get (j := 0) rfl) i154_42 rfl rfl rfl (Nat.le_of_ble_eq_true rfl) t7 ?_
  refine gm_ev.aload_n i154_45 rfl ?_
  refine gm_ev.iload_n i154_46 rfl ?_
  refine gm_ev.iconst (v := 1) i154_47 (by decide) ?_
  refine gm_ev.callV gm_mono_run (av := [.int x2, .int (1 : Int32)]) (r := [.long r6, .int (s.2.1 14 k5), .ref B]) (ci := 11) (fs := mF B s) (bM_get (j := 0) rfl) i154_48 rfl rfl rfl (Nat.le_of_ble_eq_true rfl) t9 ?_
  refine gm_ev.aload_n i154_51 rfl ?_
  refine gm_ev.iload_n i154_52 rfl ?_
  refine gm_ev.iconst (v := 2) i154_53 (by decide) ?_
  refine gm_ev.callV gm_mono_run (av := [.int x2, .int (2 : Int32)]) (r := [.long r8, .long r6, .int (s.2.1 14 k5), .ref B]) (ci := 11) (fs := mF B s) (bM_get (j := 0) rfl) i154_54 rfl rfl rfl (Nat.le_of_ble_eq_true rfl) t11 ?_
  refine gm_ev.callV gm_mono_run (av := [.int (s.2.1 14 k5), .long r6, .long r8, .long r10]) (r := []) (ci := 11) (fs := mF B s) (bM_get (j := 0) rfl) i154_57 rfl rfl rfl (Nat.le_of_ble_eq_true rfl) t13 ?_
  refine gm_ev.if_eq_t (tgt := 65) i154_60 (by decide) c14 ?_
  refine gm_ev.aload_n i154_65 rfl ?_
  refine gm_ev.getfield (v := .ref (B + 5)) i154_66 rfl (bM_fld (j := 0) (fs := mF B s) rfl rfl) ?_
  refine gm_ev.iload_n i154_69 rfl ?_
  refine gm_ev.iaload i154_70 (bM_ai (j := 5) (n := 144) (f := s.2.1 13) rfl ek15 lk15 (by decide)) ?_
  refine gm_ev.iconst (v := 2) i154_71 (by decide) ?_
  refine gm_ev.icmp_ne_f i154_72 c16 ?_
  refine gm_ev.aload_n i154_75 rfl ?_
  refine gm_ev.iconst (v := 3) i154_76 (by decide) ?_
  refine gm_ev.iload_n i154_77 rfl ?_
  refine gm_ev.imul i154_78 ?_
  refine gm_ev.callV gm_mono_run (av := [.int ((3 : Int32) * x2)]) (r := []) (ci := 11) (fs := mF B s) (bM_get (j := 0) rfl) i154_79 rfl rfl rfl (Nat.le_of_ble_eq_true rfl) t18 ?_
  refine gm_ev.aload_n i154_82 rfl ?_
  refine gm_ev.iconst (v := 3) i154_83 (by decide) ?_
  refine gm_ev.iload_n i154_84 rfl ?_
  refine gm_ev.imul i154_85 ?_
  refine gm_ev.iconst (v := 1) i154_86 (by decide) ?_
  refine gm_ev.iadd i154_87 ?_
  refine gm_ev.callV gm_mono_run (av := [.int (((3 : Int32) * x2) + (1 : Int32))]) (r := [.long r17]) (ci := 11) (fs := mF B s) (bM_get (j := 0) rfl) i154_88 rfl rfl rfl (Nat.le_of_ble_eq_true rfl) t20 ?_
  refine gm_ev.lcmp i154_91 ?_
  refine gm_ev.if_ne_t (tgt := 97) i154_92 (by decide) c21 ?_
  refine gm_ev.iinc (v := x2 + (1 : Int32)) (ls' := [some (.ref B), some (.int x1), some (.int (x2 + (1 : Int32)))]) i154_97 rfl (by rfl) rfl ?_
  refine gm_ev.goto (tgt := 7) i154_100 (by decide) ?_
  exact k
theorem r_agrees_7_fftff {N0 : Nat} {K : Nat → Nat} {d B : Nat} {s : mS} {G : gm_H} {sz sl : Nat} {x1 : Int32} {x2 : Int32} {k1 : Nat} {k3 : Nat} {k5 : Nat} {r6 : Int64} {r8 : Int64} {r10 : Int64} {r12 : Int32} {k15 : Nat} {r17 : Int64} {r19 : Int64} (hN : N0 ≤ B) (ek1 : x1 = nI k1) (lk1 : k1 < 24) (c2 : ¬ (((6 : Int32) * x1) + (s.2.1 12 k1)) < x2) (ek3 : x2 = nI k3) (lk3 : k3 < 144) (c4 : (s.2.1 13 k3) = (1 : Int32)) (ek5 : x2 = nI k5) (lk5 : k5 < 144) (t7 : gm_to N0 K ra_nm (ra_mt K) d 153 [.ref B, .int x2, .int (0 : Int32)] (bM B (mH B s) G) sz (.returned (some (.long r6)), bM B (mH B s) G, sz, 0)) (t9 : gm_to N0 K ra_nm (ra_mt K) d 153 [.ref B, .int x2, .int (1 : Int32)] (bM B (mH B s) G) sz (.returned (some (.long r8)), bM B (mH B s) G, sz, 0)) (t11 : gm_to N0 K ra_nm (ra_mt K) d 153 [.ref B, .int x2, .int (2 : Int32)] (bM B (mH B s) G) sz (.returned (some (.long r10)), bM B (mH B s) G, sz, 0)) (t13 : gm_to N0 K ra_nm (ra_mt K) d 144 [.ref B, .int (s.2.1 14 k5), .long r6, .long r8, .long r10] (bM B (mH B s) G) sz (.returned (some (.int r12)), bM B (mH B s) G, sz, 0)) (c14 : r12 = 0) (ek15 : x2 = nI k15) (lk15 : k15 < 144) (c16 : (s.2.1 13 k15) = (2 : Int32)) (t18 : gm_to N0 K ra_nm (ra_mt K) d 152 [.ref B, .int ((3 : Int32) * x2)] (bM B (mH B s) G) sz (.returned (some (.long r17)), bM B (mH B s) G, sz, 0)) (t20 : gm_to N0 K ra_nm (ra_mt K) d 152 [.ref B, .int (((3 : Int32) * x2) + (1 : Int32))] (bM B (mH B s) G) sz (.returned (some (.long r19)), bM B (mH B s) G, sz, 0)) (c21 : (lg_cmp r17 r19) = 0) : gm_ev N0 K ra_nm (ra_mt K) d (some .boolean) (gm_I cX12_agrees) (gm_lkf (lkX12 false K)) 7 [some (.ref B), some (.int x1), some (.int x2)] [] (bM B (mH B s) G) sz sl (.returned (some (.int (0 : Int32))), (bM B (mH B s) G), sz, sl) := by
  refine gm_ev.iload_n i154_7 rfl ?_
  refine gm_ev.bipush (v := 6) i154_8 (by decide) ?_
  refine gm_ev.iload_n i154_10 rfl ?_
  refine gm_ev.imul i154_11 ?_
  refine gm_ev.aload_n i154_12 rfl ?_
  refine gm_ev.getfield (v := .ref (B + 4)) i154_13 rfl (bM_fld (j := 0) (fs := mF B s) rfl rfl) ?_
  refine gm_ev.iload_n i154_16 rfl ?_
  refine gm_ev.iaload i154_17 (bM_ai (j := 4) (n := 24) (f := s.2.1 12) rfl ek1 lk1 (by decide)) ?_
  refine gm_ev.iadd i154_18 ?_
  refine gm_ev.icmp_gt_f i154_19 c2 ?_
  refine gm_ev.aload_n i154_22 rfl ?_
  refine gm_ev.getfield (v := .ref (B + 5)) i154_23 rfl (bM_fld (j := 0) (fs := mF B s) rfl rfl) ?_
  refine gm_ev.iload_n i154_26 rfl ?_
  refine gm_ev.iaload i154_27 (bM_ai (j := 5) (n := 144) (f := s.2.1 13) rfl ek3 lk3 (by decide)) ?_
  refine gm_ev.iconst (v := 1) i154_28 (by decide) ?_
  refine gm_ev.icmp_ne_f i154_29 c4 ?_
  refine gm_ev.aload_n i154_32 rfl ?_
  refine gm_ev.aload_n i154_33 rfl ?_
  refine gm_ev.getfield (v := .ref (B + 6)) i154_34 rfl (bM_fld (j := 0) (fs := mF B s) rfl rfl) ?_
  refine gm_ev.iload_n i154_37 rfl ?_
  refine gm_ev.iaload i154_38 (bM_ai (j := 6) (n := 144) (f := s.2.1 14) rfl ek5 lk5 (by decide)) ?_
  refine gm_ev.aload_n i154_39 rfl ?_
  refine gm_ev.iload_n i154_40 rfl ?_
  refine gm_ev.iconst (v := 0) i154_41 (by decide) ?_
  refine gm_ev.callV gm_mono_run (av := [.int x2, .int (0 : Int32)]) (r := [.int (s.2.1 14 k5), .ref B]) (ci := 11) (fs := mF B s) (bM_get (j := 0) rfl) i154_42 rfl rfl rfl (Nat.le_of_ble_eq_true rfl) t7 ?_
  refine gm_ev.aload_n i154_45 rfl ?_
  refine gm_ev.iload_n i154_46 rfl ?_
  refine gm_ev.iconst (v := 1) i154_47 (by decide) ?_
  refine gm_ev.callV gm_mono_run (av := [.int x2, .int (1 : Int32)]) (r := [.long r6, .int (s.2.1 14 k5), .ref B]) (ci := 11) (fs := mF B s) (bM_get (j := 0) rfl) i154_48 rfl rfl rfl (Nat.le_of_ble_eq_true rfl) t9 ?_
  refine gm_ev.aload_n i154_51 rfl ?_
  refine gm_ev.iload_n i154_52 rfl ?_
  refine gm_ev.iconst (v := 2) i154_53 (by decide) ?_
  refine gm_ev.callV gm_mono_run (av := [.int x2, .int (2 : Int32)]) (r := [.long r8, .long r6, .int (s.2.1 14 k5), .ref B]) (ci := 11) (fs := mF B s) (bM_get (j := 0) rfl) i154_54 rfl rfl rfl (Nat.le_of_ble_eq_true rfl) t11 ?_
  refine gm_ev.callV gm_mono_run (av := [.int (s.2.1 14 k5), .long r6, .long r8, .long r10]) (r := []) (ci := 11) (fs := mF B s) (bM_get (j := 0) rfl) i154_57 rfl rfl rfl (Nat.le_of_ble_eq_true rfl) t13 ?_
  refine gm_ev.if_eq_t (tgt := 65) i154_60 (by decide) c14 ?_
  refine gm_ev.aload_n i154_65 rfl ?_
  refine gm_ev.getfield (v := .ref (B + 5)) i154_66 rfl (bM_fld (j := 0) (fs := mF B s) rfl rfl) ?_
  refine gm_ev.iload_n i154_69 rfl ?_
  refine gm_ev.iaload i154_70 (bM_ai (j := 5) (n := 144) (f := s.2.1 13) rfl ek15 lk15 (by decide)) ?_
  refine gm_ev.iconst (v := 2) i154_71 (by decide) ?_
  refine gm_ev.icmp_ne_f i154_72 c16 ?_
  refine gm_ev.aload_n i154_75 rfl ?_
  refine gm_ev.iconst (v := 3) i154_76 (by decide) ?_
  refine gm_ev.iload_n i154_77 rfl ?_
  refine gm_ev.imul i154_78 ?_
  refine gm_ev.callV gm_mono_run (av := [.int ((3 : Int32) * x2)]) (r := []) (ci := 11) (fs := mF B s) (bM_get (j := 0) rfl) i154_79 rfl rfl rfl (Nat.le_of_ble_eq_true rfl) t18 ?_
  refine gm_ev.aload_n i154_82 rfl ?_
  refine gm_ev.iconst (v := 3) i154_83 (by decide) ?_
  refine gm_ev.iload_n i154_84 rfl ?_
  refine gm_ev.imul i154_85 ?_
  refine gm_ev.iconst (v := 1) i154_86 (by decide) ?_
  refine gm_ev.iadd i154_87 ?_
  refine gm_ev.callV gm_mono_run (av := [.int (((3 : Int32) * x2) + (1 : Int32))]) (r := [.long r17]) (ci := 11) (fs := mF B s) (bM_get (j := 0) rfl) i154_88 rfl rfl rfl (Nat.le_of_ble_eq_true rfl) t20 ?_
  refine gm_ev.lcmp i154_91 ?_
  refine gm_ev.if_ne_f i154_92 c21 ?_
  refine gm_ev.iconst (v := 0) i154_95 (by decide) ?_
  exact gm_ev.zret i154_96 rfl (by decide)
theorem r_agrees_7_fff {N0 : Nat} {K : Nat → Nat} {d B : Nat} {s : mS} {G : gm_H} {sz sl : Nat} {x1 : Int32} {x2 : Int32} {k1 : Nat} {k3 : Nat} {k5 : Nat} {r6 : Int64} {r8 : Int64} {r10 : Int64} {r12 : Int32} (hN : N0 ≤ B) (ek1 : x1 = nI k1) (lk1 : k1 < 24) (c2 : ¬ (((6 : Int32) * x1) + (s.2.1 12 k1)) < x2) (ek3 : x2 = nI k3) (lk3 : k3 < 144) (c4 : (s.2.1 13 k3) = (1 : Int32)) (ek5 : x2 = nI k5) (lk5 : k5 < 144) (t7 : gm_to N0 K ra_nm (ra_mt K) d 153 [.ref B, .int x2, .int (0 : Int32)] (bM B (mH B s) G) sz (.returned (some (.long r6)), bM B (mH B s) G, sz, 0)) (t9 : gm_to N0 K ra_nm (ra_mt K) d 153 [.ref B, .int x2, .int (1 : Int32)] (bM B (mH B s) G) sz (.returned (some (.long r8)), bM B (mH B s) G, sz, 0)) (t11 : gm_to N0 K ra_nm (ra_mt K) d 153 [.ref B, .int x2, .int (2 : Int32)] (bM B (mH B s) G) sz (.returned (some (.long r10)), bM B (mH B s) G, sz, 0)) (t13 : gm_to N0 K ra_nm (ra_mt K) d 144 [.ref B, .int (s.2.1 14 k5), .long r6, .long r8, .long r10] (bM B (mH B s) G) sz (.returned (some (.int r12)), bM B (mH B s) G, sz, 0)) (c14 : ¬ r12 = 0) : gm_ev N0 K ra_nm (ra_mt K) d (some .boolean) (gm_I cX12_agrees) (gm_lkf (lkX12 false K)) 7 [some (.ref B), some (.int x1), some (.int x2)] [] (bM B (mH B s) G) sz sl (.returned (some (.int (0 : Int32))), (bM B (mH B s) G), sz, sl) := by
  refine gm_ev.iload_n i154_7 rfl ?_
  refine gm_ev.bipush (v := 6) i154_8 (by decide) ?_
  refine gm_ev.iload_n i154_10 rfl ?_
  refine gm_ev.imul i154_11 ?_
  refine gm_ev.aload_n i154_12 rfl ?_
  refine gm_ev.getfield (v := .ref (B + 4)) i154_13 rfl (bM_fld (j := 0) (fs := mF B s) rfl rfl) ?_
  refine gm_ev.iload_n i154_16 rfl ?_
  refine gm_ev.iaload i154_17 (bM_ai (j := 4) (n := 24) (f := s.2.1 12) rfl ek1 lk1 (by decide)) ?_
  refine gm_ev.iadd i154_18 ?_
  refine gm_ev.icmp_gt_f i154_19 c2 ?_
  refine gm_ev.aload_n i154_22 rfl ?_
  refine gm_ev.getfield (v := .ref (B + 5)) i154_23 rfl (bM_fld (j := 0) (fs := mF B s) rfl rfl) ?_
  refine gm_ev.iload_n i154_26 rfl ?_
  refine gm_ev.iaload i154_27 (bM_ai (j := 5) (n := 144) (f := s.2.1 13) rfl ek3 lk3 (by decide)) ?_
  refine gm_ev.iconst (v := 1) i154_28 (by decide) ?_
  refine gm_ev.icmp_ne_f i154_29 c4 ?_
  refine gm_ev.aload_n i154_32 rfl ?_
  refine gm_ev.aload_n i154_33 rfl ?_
  refine gm_ev.getfield (v := .ref (B + 6)) i154_34 rfl (bM_fld (j := 0) (fs := mF B s) rfl rfl) ?_
  refine gm_ev.iload_n i154_37 rfl ?_
  refine gm_ev.iaload i154_38 (bM_ai (j := 6) (n := 144) (f := s.2.1 14) rfl ek5 lk5 (by decide)) ?_
  refine gm_ev.aload_n i154_39 rfl ?_
  refine gm_ev.iload_n i154_40 rfl ?_
  refine gm_ev.iconst (v := 0) i154_41 (by decide) ?_
  refine gm_ev.callV gm_mono_run (av := [.int x2, .int (0 : Int32)]) (r := [.int (s.2.1 14 k5), .ref B]) (ci := 11) (fs := mF B s) (bM_get (j := 0) rfl) i154_42 rfl rfl rfl (Nat.le_of_ble_eq_true rfl) t7 ?_
  refine gm_ev.aload_n i154_45 rfl ?_
  refine gm_ev.iload_n i154_46 rfl ?_
  refine gm_ev.iconst (v := 1) i154_47 (by decide) ?_
  refine gm_ev.callV gm_mono_run (av := [.int x2, .int (1 : Int32)]) (r := [.long r6, .int (s.2.1 14 k5), .ref B]) (ci := 11) (fs := mF B s) (bM_get (j := 0) rfl) i154_48 rfl rfl rfl (Nat.le_of_ble_eq_true rfl) t9 ?_
  refine gm_ev.aload_n i154_51 rfl ?_
  refine gm_ev.iload_n i154_52 rfl ?_
  refine gm_ev.iconst (v := 2) i154_53 (by decide) ?_
  refine gm_ev.callV gm_mono_run (av := [.int x2, .int (2 : Int32)]) (r := [.long r8, .long r6, .int (s.2.1 14 k5), .ref B]) (ci := 11) (fs := mF B s) (bM_get (j := 0) rfl) i154_54 rfl rfl rfl (Nat.le_of_ble_eq_true rfl) t11 ?_
  refine gm_ev.callV gm_mono_run (av := [.int (s.2.1 14 k5), .long r6, .long r8, .long r10]) (r := []) (ci := 11) (fs := mF B s) (bM_get (j := 0) rfl) i154_57 rfl rfl rfl (Nat.le_of_ble_eq_true rfl) t13 ?_
  refine gm_ev.if_eq_f i154_60 c14 ?_
  refine gm_ev.iconst (v := 0) i154_63 (by decide) ?_
  exact gm_ev.zret i154_64 rfl (by decide)
theorem r_held_0__at7 {N0 : Nat} {K : Nat → Nat} {d B : Nat} {s : mS} {G : gm_H} {sz sl : Nat} {R : gm_R} {p0 : Int32} (hN : N0 ≤ B)  (k : gm_ev N0 K ra_nm (ra_mt K) d (some .int) (gm_I cX12_held) (gm_lkf (lkX12 false K)) 7 [some (.ref B), some (.int p0), some (.int (0 : Int32)), some (.int ((6 : Int32) * p0)), none, none] [] (bM B (mH B s) G) sz sl R) : gm_ev N0 K ra_nm (ra_mt K) d (some .int) (gm_I cX12_held) (gm_lkf (lkX12 false K)) 0 [some (.ref B), some (.int p0), none, none, none, none] [] (bM B (mH B s) G) sz sl R := by
  refine gm_ev.iconst (v := 0) i155_0 (by decide) ?_
  refine gm_ev.istore_n (ls' := [some (.ref B), some (.int p0), some (.int (0 : Int32)), none, none, none]) i155_1 (Nat.le_of_ble_eq_true rfl) rfl ?_
  refine gm_ev.bipush (v := 6) i155_2 (by decide) ?_
  refine gm_ev.iload_n i155_4 rfl ?_
  refine gm_ev.imul i155_5 ?_
  refine gm_ev.istore_n (ls' := [some (.ref B), some (.int p0), some (.int (0 : Int32)), some (.int ((6 : Int32) * p0)), none, none]) i155_6 (Nat.le_of_ble_eq_true rfl) rfl ?_
  exact k
theorem r_held_7_t {N0 : Nat} {K : Nat → Nat} {d B : Nat} {s : mS} {G : gm_H} {sz sl : Nat} {x1 : Int32} {x2 : Int32} {x3 : Int32} {k1 : Nat} (hN : N0 ≤ B) (ek1 : x1 = nI k1) (lk1 : k1 < 24) (c2 : (((6 : Int32) * x1) + (s.2.1 12 k1)) < x3) : gm_ev N0 K ra_nm (ra_mt K) d (some .int) (gm_I cX12_held) (gm_lkf (lkX12 false K)) 7 [some (.ref B), some (.int x1), some (.int x2), some (.int x3), none, none] [] (bM B (mH B s) G) sz sl (.returned (some (.int x2)), (bM B (mH B s) G), sz, sl) := by
  refine gm_ev.iload_n i155_7 rfl ?_
  refine gm_ev.bipush (v := 6) i155_8 (by decide) ?_
  refine gm_ev.iload_n i155_10 rfl ?_
  refine gm_ev.imul i155_11 ?_
  refine gm_ev.aload_n i155_12 rfl ?_
  refine gm_ev.getfield (v := .ref (B + 4)) i155_13 rfl (bM_fld (j := 0) (fs := mF B s) rfl rfl) ?_
  refine gm_ev.iload_n i155_16 rfl ?_
  refine gm_ev.iaload i155_17 (bM_ai (j := 4) (n := 24) (f := s.2.1 12) rfl ek1 lk1 (by decide)) ?_
  refine gm_ev.iadd i155_18 ?_
  refine gm_ev.icmp_gt_t (tgt := 143) i155_19 (by decide) c2 ?_
  refine gm_ev.iload_n i155_143 rfl ?_
  exact gm_ev.iret i155_144 rfl
theorem r_held_7_f_at27 {N0 : Nat} {K : Nat → Nat} {d B : Nat} {s : mS} {G : gm_H} {sz sl : Nat} {R : gm_R} {x1 : Int32} {x2 : Int32} {x3 : Int32} {k1 : Nat} (hN : N0 ≤ B) (ek1 : x1 = nI k1) (lk1 : k1 < 24) (c2 : ¬ (((6 : Int32) * x1) + (s.2.1 12 k1)) < x3) (k : gm_ev N0 K ra_nm (ra_mt K) d (some .int) (gm_I cX12_held) (gm_lkf (lkX12 false K)) 27 [some (.ref B), some (.int x1), some (.int x2), some (.int x3), some (.int ((3 : Int32) * x3)), none] [] (bM B (mH B s) G) sz sl R) : gm_ev N0 K ra_nm (ra_mt K) d (some .int) (gm_I cX12_held) (gm_lkf (lkX12 false K)) 7 [some (.ref B), some (.int x1), some (.int x2), some (.int x3), none, none] [] (bM B (mH B s) G) sz sl R := by
  refine gm_ev.iload_n i155_7 rfl ?_
  refine gm_ev.bipush (v := 6) i155_8 (by decide) ?_
  refine gm_ev.iload_n i155_10 rfl ?_
  refine gm_ev.imul i155_11 ?_
  refine gm_ev.aload_n i155_12 rfl ?_
  refine gm_ev.getfield (v := .ref (B + 4)) i155_13 rfl (bM_fld (j := 0) (fs := mF B s) rfl rfl) ?_
  refine gm_ev.iload_n i155_16 rfl ?_
  refine gm_ev.iaload i155_17 (bM_ai (j := 4) (n := 24) (f := s.2.1 12) rfl ek1 lk1 (by decide)) ?_
  refine gm_ev.iadd i155_18 ?_
  refine gm_ev.icmp_gt_f i155_19 c2 ?_
  refine gm_ev.iconst (v := 3) i155_22 (by decide) ?_
  refine gm_ev.iload_n i155_23 rfl ?_
  refine gm_ev.imul i155_24 ?_
  refine gm_ev.istore (ls' := [some (.ref B), some (.int x1), some (.int x2), some (.int x3), some (.int ((3 : Int32) * x3)), none]) i155_25 (Nat.le_of_ble_eq_true rfl) rfl ?_
  exact k
theorem r_held_27_tt_at7 {N0 : Nat} {K : Nat → Nat} {d B : Nat} {s : mS} {G : gm_H} {sz sl : Nat} {R : gm_R} {x1 : Int32} {x2 : Int32} {x3 : Int32} {x4 : Int32} {k1 : Nat} {k3 : Nat} (hN : N0 ≤ B) (ek1 : x3 = nI k1) (lk1 : k1 < 144) (c2 : ¬ (s.2.1 13 k1) = (2 : Int32)) (ek3 : x3 = nI k3) (lk3 : k3 < 144) (c4 : (((3 : Int32) * x3) + ((s.2.1 14 k3) &&& (3 : Int32))) ≤ x4) (k : gm_ev N0 K ra_nm (ra_mt K) d (some .int) (gm_I cX12_held) (gm_lkf (lkX12 false K)) 7 [some (.ref B), some (.int x1), some (.int x2), some (.int (x3 + (1 : Int32))), none, none] [] (bM B (mH B s) G) sz sl R) : gm_ev N0 K ra_nm (ra_mt K) d (some .int) (gm_I cX12_held) (gm_lkf (lkX12 false K)) 27 [some (.ref B), some (.int x1), some (.int x2), some (.int x3), some (.int x4), none] [] (bM B (mH B s) G) sz sl R := by
  refine gm_ev.iload i155_27 rfl ?_
  refine gm_ev.iconst (v := 3) i155_29 (by decide) ?_
  refine gm_ev.iload_n i155_30 rfl ?_
  refine gm_ev.imul i155_31 ?_
  refine gm_ev.aload_n i155_32 rfl ?_
  refine gm_ev.getfield (v := .ref (B + 5)) i155_33 rfl (bM_fld (j := 0) (fs := mF B s) rfl rfl) ?_
  refine gm_ev.iload_n i155_36 rfl ?_
  refine gm_ev.iaload i155_37 (bM_ai (j := 5) (n := 144) (f := s.2.1 13) rfl ek1 lk1 (by decide)) ?_
  refine gm_ev.iconst (v := 2) i155_38 (by decide) ?_
  refine gm_ev.icmp_ne_t (tgt := 46) i155_39 (by decide) c2 ?_
  refine gm_ev.aload_n i155_46 rfl ?_
  refine gm_ev.getfield (v := .ref (B + 6)) i155_47 rfl (bM_fld (j := 0) (fs := mF B s) rfl rfl) ?_
  refine gm_ev.iload_n i155_50 rfl ?_
  refine gm_ev.iaload i155_51 (bM_ai (j := 6) (n := 144) (f := s.2.1 14) rfl ek3 lk3 (by decide)) ?_
  refine gm_ev.iconst (v := 3) i155_52 (by decide) ?_
  refine gm_ev.iand i155_53 ?_
  refine gm_ev.iadd i155_54 ?_
  refine gm_ev.icmp_ge_t (tgt := 137) i155_55 (by decide) c4 ?_
  refine gm_ev.iinc (v := x3 + (1 : Int32)) (ls' := [some (.ref B), some (.int x1), some (.int x2), some (.int (x3 + (1 : Int32))), some (.int x4), none]) i155_137 rfl (by rfl) rfl ?_
  refine gm_ev.goto (tgt := 7) i155_140 (by decide) ?_
  refine gm_ev.le (a := [some (.ref B), some (.int x1), some (.int x2), some (.int (x3 + (1 : Int32))), none, none]) (gm_leL.le (show gm_leL _ _ from ⟨rfl, ⟨rfl, ⟨rfl, ⟨rfl, trivial⟩⟩⟩⟩)) ?_
  exact k
