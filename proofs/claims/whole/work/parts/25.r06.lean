/-! paths through RuleArenaModel, by program -/
theorem r_held_27_tf_at61 {N0 : Nat} {K : Nat → Nat} {d B : Nat} {s : mS} {G : gm_H} {sz sl : Nat} {R : gm_R} {x1 : Int32} {x2 : Int32} {x3 : Int32} {x4 : Int32} {k1 : Nat} {k3 : Nat} (hN : N0 ≤ B) (ek1 : x3 = nI k1) (lk1 : k1 < 144) (c2 : ¬ (s.2.1 13 k1) = (2 : Int32)) (ek3 : x3 = nI k3) (lk3 : k3 < 144) (c4 : ¬ (((3 : Int32) * x3) + ((s.2.1 14 k3) &&& (3 : Int32))) ≤ x4) (k : gm_ev N0 K ra_nm (ra_mt K) d (some .int) (gm_I cX12_held) (gm_lkf (lkX12 false K)) 61 [some (.ref B), some (.int x1), some (.int x2), some (.int x3), some (.int x4), some (.int (0 : Int32))] [] (bM B (mH B s) G) sz sl R) : gm_ev N0 K ra_nm (ra_mt K) d (some .int) (gm_I cX12_held) (gm_lkf (lkX12 false K)) 27 [some (.ref B), some (.int x1), some (.int x2), some (.int x3), some (.int x4), none] [] (bM B (mH B s) G) sz sl R := by
  refine gm_ev.iload i155_27 rfl ?_
  refine gm_ev.iconst (v := 3) i155_29 (by decide) ?_
  refine gm_ev.iload_n i155_30 rfl ?_
  refine gm_ev.imul i155_31 ?_
  refine gm_ev.aload_n i155_32 rfl ?_
  refine gm_ev.getfield (v := .ref (B + 5)) i155_33 rfl (bM_fld (j := 0) (fs := mF B s) rfl rfl) ?_
  refine gm_ev.iload_n i155_36 rfl ?_
  refine gm_ev.iaload i155_37 (bM_ai (j := 5) (n := 144) (f := s.2.1 13) rfl ek1 lk1 (by decide)) ?_
  refine gm_ev.iconst (v := 2) i155_38 (by decide) ?_
  refine gm_ev.icmp_ne_t (tgt := 46) i155_39 (by decide) c2 ?_
  refine gm_ev.aload_n i155_46 rfl ?_
  refine gm_ev.getfield (v := .ref (B + 6)) i155_47 rfl (bM_fld (j := 0) (fs := mF B s) rfl rfl) ?_
  refine gm_ev.iload_n i155_50 rfl ?_
  refine gm_ev.iaload i155_51 (bM_ai (j := 6) (n := 144) (f := s.2.1 14) rfl ek3 lk3 (by decide)) ?_
  refine gm_ev.iconst (v := 3) i155_52 (by decide) ?_
  refine gm_ev.iand i155_53 ?_
  refine gm_ev.iadd i155_54 ?_
  refine gm_ev.icmp_ge_f i155_55 c4 ?_
  refine gm_ev.iconst (v := 0) i155_58 (by decide) ?_
  refine gm_ev.istore (ls' := [some (.ref B), some (.int x1), some (.int x2), some (.int x3), some (.int x4), some (.int (0 : Int32))]) i155_59 (Nat.le_of_ble_eq_true rfl) rfl ?_
  exact k
theorem r_held_27_ft_at7 {N0 : Nat} {K : Nat → Nat} {d B : Nat} {s : mS} {G : gm_H} {sz sl : Nat} {R : gm_R} {x1 : Int32} {x2 : Int32} {x3 : Int32} {x4 : Int32} {k1 : Nat} (hN : N0 ≤ B) (ek1 : x3 = nI k1) (lk1 : k1 < 144) (c2 : (s.2.1 13 k1) = (2 : Int32)) (c3 : (((3 : Int32) * x3) + (2 : Int32)) ≤ x4) (k : gm_ev N0 K ra_nm (ra_mt K) d (some .int) (gm_I cX12_held) (gm_lkf (lkX12 false K)) 7 [some (.ref B), some (.int x1), some (.int x2), some (.int (x3 + (1 : Int32))), none, none] [] (bM B (mH B s) G) sz sl R) : gm_ev N0 K ra_nm (ra_mt K) d (some .int) (gm_I cX12_held) (gm_lkf (lkX12 false K)) 27 [some (.ref B), some (.int x1), some (.int x2), some (.int x3), some (.int x4), none] [] (bM B (mH B s) G) sz sl R := by
  refine gm_ev.iload i155_27 rfl ?_
  refine gm_ev.iconst (v := 3) i155_29 (by decide) ?_
  refine gm_ev.iload_n i155_30 rfl ?_
  refine gm_ev.imul i155_31 ?_
  refine gm_ev.aload_n i155_32 rfl ?_
  refine gm_ev.getfield (v := .ref (B + 5)) i155_33 rfl (bM_fld (j := 0) (fs := mF B s) rfl rfl) ?_
  refine gm_ev.iload_n i155_36 rfl ?_
  refine gm_ev.iaload i155_37 (bM_ai (j := 5) (n := 144) (f := s.2.1 13) rfl ek1 lk1 (by decide)) ?_
  refine gm_ev.iconst (v := 2) i155_38 (by decide) ?_
  refine gm_ev.icmp_ne_f i155_39 c2 ?_
  refine gm_ev.iconst (v := 2) i155_42 (by decide) ?_
  refine gm_ev.goto (tgt := 54) i155_43 (by decide) ?_
  refine gm_ev.iadd i155_54 ?_
  refine gm_ev.icmp_ge_t (tgt := 137) i155_55 (by decide) c3 ?_
  refine gm_ev.iinc (v := x3 + (1 : Int32)) (ls' := [some (.ref B), some (.int x1), some (.int x2), some (.int (x3 + (1 : Int32))), some (.int x4), none]) i155_137 rfl (by rfl) rfl ?_
  refine gm_ev.goto (tgt := 7) i155_140 (by decide) ?_
  refine gm_ev.le (a := [some (.ref B), some (.int x1), some (.int x2), some (.int (x3 + (1 : Int32))), none, none]) (gm_leL.le (show gm_leL _ _ from ⟨rfl, ⟨rfl, ⟨rfl, ⟨rfl, trivial⟩⟩⟩⟩)) ?_
  exact k
theorem r_held_27_ff_at61 {N0 : Nat} {K : Nat → Nat} {d B : Nat} {s : mS} {G : gm_H} {sz sl : Nat} {R : gm_R} {x1 : Int32} {x2 : Int32} {x3 : Int32} {x4 : Int32} {k1 : Nat} (hN : N0 ≤ B) (ek1 : x3 = nI k1) (lk1 : k1 < 144) (c2 : (s.2.1 13 k1) = (2 : Int32)) (c3 : ¬ (((3 : Int32) * x3) + (2 : Int32)) ≤ x4) (k : gm_ev N0 K ra_nm (ra_mt K) d (some .int) (gm_I cX12_held) (gm_lkf (lkX12 false K)) 61 [some (.ref B), some (.int x1), some (.int x2), some (.int x3), some (.int x4), some (.int (0 : Int32))] [] (bM B (mH B s) G) sz sl R) : gm_ev N0 K ra_nm (ra_mt K) d (some .int) (gm_I cX12_held) (gm_lkf (lkX12 false K)) 27 [some (.ref B), some (.int x1), some (.int x2), some (.int x3), some (.int x4), none] [] (bM B (mH B s) G) sz sl R := by
  refine gm_ev.iload i155_27 rfl ?_
  refine gm_ev.iconst (v := 3) i155_29 (by decide) ?_
  refine gm_ev.iload_n i155_30 rfl ?_
  refine gm_ev.imul i155_31 ?_
  refine gm_ev.aload_n i155_32 rfl ?_
  refine gm_ev.getfield (v := .ref (B + 5)) i155_33 rfl (bM_fld (j := 0) (fs := mF B s) rfl rfl) ?_
  refine gm_ev.iload_n i155_36 rfl ?_
  refine gm_ev.iaload i155_37 (bM_ai (j := 5) (n := 144) (f := s.2.1 13) rfl ek1 lk1 (by decide)) ?_
  refine gm_ev.iconst (v := 2) i155_38 (by decide) ?_
  refine gm_ev.icmp_ne_f i155_39 c2 ?_
  refine gm_ev.iconst (v := 2) i155_42 (by decide) ?_
  refine gm_ev.goto (tgt := 54) i155_43 (by decide) ?_
  refine gm_ev.iadd i155_54 ?_
  refine gm_ev.icmp_ge_f i155_55 c3 ?_
  refine gm_ev.iconst (v := 0) i155_58 (by decide) ?_
  refine gm_ev.istore (ls' := [some (.ref B), some (.int x1), some (.int x2), some (.int x3), some (.int x4), some (.int (0 : Int32))]) i155_59 (Nat.le_of_ble_eq_true rfl) rfl ?_
  exact k
theorem r_held_61_t_at27 {N0 : Nat} {K : Nat → Nat} {d B : Nat} {s : mS} {G : gm_H} {sz sl : Nat} {R : gm_R} {x1 : Int32} {x2 : Int32} {x3 : Int32} {x4 : Int32} {x5 : Int32} {k1 : Nat} (hN : N0 ≤ B) (ek1 : x4 = nI k1) (lk1 : k1 < 432) (c2 : (s.2.1 16 k1) ≤ x5) (k : gm_ev N0 K ra_nm (ra_mt K) d (some .int) (gm_I cX12_held) (gm_lkf (lkX12 false K)) 27 [some (.ref B), some (.int x1), some (.int x2), some (.int x3), some (.int (x4 + (1 : Int32))), none] [] (bM B (mH B s) G) sz sl R) : gm_ev N0 K ra_nm (ra_mt K) d (some .int) (gm_I cX12_held) (gm_lkf (lkX12 false K)) 61 [some (.ref B), some (.int x1), some (.int x2), some (.int x3), some (.int x4), some (.int x5)] [] (bM B (mH B s) G) sz sl R := by
  refine gm_ev.iload i155_61 rfl ?_
  refine gm_ev.aload_n i155_63 rfl ?_
  refine gm_ev.getfield (v := .ref (B + 8)) i155_64 rfl (bM_fld (j := 0) (fs := mF B s) rfl rfl) ?_
  refine gm_ev.iload i155_67 rfl ?_
  refine gm_ev.iaload i155_69 (bM_ai (j := 8) (n := 432) (f := s.2.1 16) rfl ek1 lk1 (by decide)) ?_
  refine gm_ev.icmp_ge_t (tgt := 131) i155_70 (by decide) c2 ?_
  refine gm_ev.iinc (v := x4 + (1 : Int32)) (ls' := [some (.ref B), some (.int x1), some (.int x2), some (.int x3), some (.int (x4 + (1 : Int32))), some (.int x5)]) i155_131 rfl (by rfl) rfl ?_
  refine gm_ev.goto (tgt := 27) i155_134 (by decide) ?_
  refine gm_ev.le (a := [some (.ref B), some (.int x1), some (.int x2), some (.int x3), some (.int (x4 + (1 : Int32))), none]) (gm_leL.le (show gm_leL _ _ from ⟨rfl, ⟨rfl, ⟨rfl, ⟨rfl, ⟨rfl, trivial⟩⟩⟩⟩⟩)) ?_
  exact k
theorem r_held_61_ft_at27 {N0 : Nat} {K : Nat → Nat} {d B : Nat} {s : mS} {G : gm_H} {sz sl : Nat} {R : gm_R} {x1 : Int32} {x2 : Int32} {x3 : Int32} {x4 : Int32} {x5 : Int32} {k1 : Nat} {k3 : Nat} (hN : N0 ≤ B) (ek1 : x4 = nI k1) (lk1 : k1 < 432) (c2 : ¬ (s.2.1 16 k1) ≤ x5) (ek3 : x4 = nI k3) (lk3 : k3 < 432) (c4 : (s.2.1 15 k3) = 0) (k : gm_ev N0 K ra_nm (ra_mt K) d (some .int) (gm_I cX12_held) (gm_lkf (lkX12 false K)) 27 [some (.ref B), some (.int x1), some (.int x2), some (.int x3), some (.int (x4 + (1 : Int32))), none] [] (bM B (mH B s) G) sz sl R) : gm_ev N0 K ra_nm (ra_mt K) d (some .int) (gm_I cX12_held) (gm_lkf (lkX12 false K)) 61 [some (.ref B), some (.int x1), some (.int x2), some (.int x3), some (.int x4), some (.int x5)] [] (bM B (mH B s) G) sz sl R := by
  refine gm_ev.iload i155_61 rfl ?_
  refine gm_ev.aload_n i155_63 rfl ?_
  refine gm_ev.getfield (v := .ref (B + 8)) i155_64 rfl (bM_fld (j := 0) (fs := mF B s) rfl rfl) ?_
  refine gm_ev.iload i155_67 rfl ?_
  refine gm_ev.iaload i155_69 (bM_ai (j := 8) (n := 432) (f := s.2.1 16) rfl ek1 lk1 (by decide)) ?_
  refine gm_ev.icmp_ge_f i155_70 c2 ?_
  refine gm_ev.aload_n i155_73 rfl ?_
  refine gm_ev.getfield (v := .ref (B + 7)) i155_74 rfl (bM_fld (j := 0) (fs := mF B s) rfl rfl) ?_
  refine gm_ev.iload i155_77 rfl ?_
  refine gm_ev.iaload i155_79 (bM_ai (j := 7) (n := 432) (f := s.2.1 15) rfl ek3 lk3 (by decide)) ?_
  refine gm_ev.if_eq_t (tgt := 131) i155_80 (by decide) c4 ?_
  refine gm_ev.iinc (v := x4 + (1 : Int32)) (ls' := [some (.ref B), some (.int x1), some (.int x2), some (.int x3), some (.int (x4 + (1 : Int32))), some (.int x5)]) i155_131 rfl (by rfl) rfl ?_
  refine gm_ev.goto (tgt := 27) i155_134 (by decide) ?_
  refine gm_ev.le (a := [some (.ref B), some (.int x1), some (.int x2), some (.int x3), some (.int (x4 + (1 : Int32))), none]) (gm_leL.le (show gm_leL _ _ from ⟨rfl, ⟨rfl, ⟨rfl, ⟨rfl, ⟨rfl, trivial⟩⟩⟩⟩⟩)) ?_
  exact k
theorem r_held_61_fft_at61 {N0 : Nat} {K : Nat → Nat} {d B : Nat} {s : mS} {G : gm_H} {sz sl : Nat} {R : gm_R} {x1 : Int32} {x2 : Int32} {x3 : Int32} {x4 : Int32} {x5 : Int32} {k1 : Nat} {k3 : Nat} {k5 : Nat} {r6 : Int32} (hN : N0 ≤ B) (ek1 : x4 = nI k1) (lk1 : k1 < 432) (c2 : ¬ (s.2.1 16 k1) ≤ x5) (ek3 : x4 = nI k3) (lk3 : k3 < 432) (c4 : ¬ (s.2.1 15 k3) = 0) (ek5 : (((3 : Int32) * x4) + x5) = nI k5) (lk5 : k5 < 1296) (t7 : gm_to N0 K ra_nm (ra_mt K) d 125 [.int (s.2.1 17 k5)] (bM B (mH B s) G) sz (.returned (some (.int r6)), bM B (mH B s) G, sz, 0)) (c8 : r6 = 0) (k : gm_ev N0 K ra_nm (ra_mt K) d (some .int) (gm_I cX12_held) (gm_lkf (lkX12 false K)) 61 [some (.ref B), some (.int x1), some (.int x2), some (.int x3), some (.int x4), some (.int (x5 + (1 : Int32)))] [] (bM B (mH B s) G) sz sl R) : gm_ev N0 K ra_nm (ra_mt K) d (some .int) (gm_I cX12_held) (gm_lkf (lkX12 false K)) 61 [some (.ref B), some (.int x1), some (.int x2), some (.int x3), some (.int x4), some (.int x5)] [] (bM B (mH B s) G) sz sl R := by
  refine gm_ev.iload i155_61 rfl ?_
  refine gm_ev.aload_n i155_63 rfl ?_
  refine gm_ev.getfield (v := .ref (B + 8)) i155_64 rfl (bM_fld (j := 0) (fs := mF B s) rfl rfl) ?_
  refine gm_ev.iload i155_67 rfl ?_
  refine gm_ev.iaload i155_69 (bM_ai (j := 8) (n := 432) (f := s.2.1 16) rfl ek1 lk1 (by decide)) ?_
  refine gm_ev.icmp_ge_f i155_70 c2 ?_
  refine gm_ev.aload_n i155_73 rfl ?_
  refine gm_ev.getfield (v := .ref (B + 7)) i155_74 rfl (bM_fld (j := 0) (fs := mF B s) rfl rfl) ?_
  refine gm_ev.iload i155_77 rfl ?_
  refine gm_ev.iaload i155_79 (bM_ai (j := 7) (n := 432) (f := s.2.1 15) rfl ek3 lk3 (by decide)) ?_
  refine gm_ev.if_eq_f i155_80 c4 ?_
  refine gm_ev.aload_n i155_83 rfl ?_
  refine gm_ev.getfield (v := .ref (B + 9)) i155_84 rfl (bM_fld (j := 0) (fs := mF B s) rfl rfl) ?_
  refine gm_ev.iconst (v := 3) i155_87 (by decide) ?_
  refine gm_ev.iload i155_88 rfl ?_
  refine gm_ev.imul i155_90 ?_
  refine gm_ev.iload i155_91 rfl ?_
  refine gm_ev.iadd i155_93 ?_
  refine gm_ev.iaload i155_94 (bM_ai (j := 9) (n := 1296) (f := s.2.1 17) rfl ek5 lk5 (by decide)) ?_
  refine gm_ev.callS gm_mono_run (av := [.int (s.2.1 17 k5)]) (r := []) i155_95 rfl rfl rfl (Nat.le_of_ble_eq_true rfl) t7 ?_
  refine gm_ev.if_eq_t (tgt := 123) i155_98 (by decide) c8 ?_
  refine gm_ev.iload_n i155_123 rfl ?_
  refine gm_ev.istore_n (ls' := [some (.ref B), some (.int x1), some (.int x2), some (.int x3), some (.int x4), some (.int x5)]) i155_124 (Nat.le_of_ble_eq_true rfl) rfl ?_
  refine gm_ev.iinc (v := x5 + (1 : Int32)) (ls' := [some (.ref B), some (.int x1), some (.int x2), some (.int x3), some (.int x4), some (.int (x5 + (1 : Int32)))]) i155_125 rfl (by rfl) rfl ?_
  refine gm_ev.goto (tgt := 61) i155_128 (by decide) ?_
  exact k
theorem r_held_61_fff_at61 {N0 : Nat} {K : Nat → Nat} {d B : Nat} {s : mS} {G : gm_H} {sz sl : Nat} {R : gm_R} {x1 : Int32} {x2 : Int32} {x3 : Int32} {x4 : Int32} {x5 : Int32} {k1 : Nat} {k3 : Nat} {k5 : Nat} {r6 : Int32} {k9 : Nat} (hN : N0 ≤ B) (ek1 : x4 = nI k1) (lk1 : k1 < 432) (c2 : ¬ (s.2.1 16 k1) ≤ x5) (ek3 : x4 = nI k3) (lk3 : k3 < 432) (c4 : ¬ (s.2.1 15 k3) = 0) (ek5 : (((3 : Int32) * x4) + x5) = nI k5) (lk5 : k5 < 1296) (t7 : gm_to N0 K ra_nm (ra_mt K) d 125 [.int (s.2.1 17 k5)] (bM B (mH B s) G) sz (.returned (some (.int r6)), bM B (mH B s) G, sz, 0)) (c8 : ¬ r6 = 0) (ek9 : (((3 : Int32) * x4) + x5) = nI k9) (lk9 : k9 < 1296) (k : gm_ev N0 K ra_nm (ra_mt K) d (some .int) (gm_I cX12_held) (gm_lkf (lkX12 false K)) 61 [some (.ref B), some (.int x1), some (.int (x2 ||| ((1 : Int32) <<< (((s.2.1 17 k9) - (85 : Int32)) &&& 31)))), some (.int x3), some (.int x4), some (.int (x5 + (1 : Int32)))] [] (bM B (mH B s) G) sz sl R) : gm_ev N0 K ra_nm (ra_mt K) d (some .int) (gm_I cX12_held) (gm_lkf (lkX12 false K)) 61 [some (.ref B), some (.int x1), some (.int x2), some (.int x3), some (.int x4), some (.int x5)] [] (bM B (mH B s) G) sz sl R := by
  refine gm_ev.iload i155_61 rfl ?_
  refine gm_ev.aload_n i155_63 rfl ?_
  refine gm_ev.getfield (v := .ref (B + 8)) i155_64 rfl (bM_fld (j := 0) (fs := mF B s) rfl rfl) ?_
  refine gm_ev.iload i155_67 rfl ?_
  refine gm_ev.iaload i155_69 (bM_ai (j := 8) (n := 432) (f := s.2.1 16) rfl ek1 lk1 (by decide)) ?_
  refine gm_ev.icmp_ge_f i155_70 c2 ?_
  refine gm_ev.aload_n i155_73 rfl ?_
  refine gm_ev.getfield (v := .ref (B + 7)) i155_74 rfl (bM_fld (j := 0) (fs := mF B s) rfl rfl) ?_
  refine gm_ev.iload i155_77 rfl ?_
  refine gm_ev.iaload i155_79 (bM_ai (j := 7) (n := 432) (f := s.2.1 15) rfl ek3 lk3 (by decide)) ?_
  refine gm_ev.if_eq_f i155_80 c4 ?_
  refine gm_ev.aload_n i155_83 rfl ?_
  refine gm_ev.getfield (v := .ref (B + 9)) i155_84 rfl (bM_fld (j := 0) (fs := mF B s) rfl rfl) ?_
  refine gm_ev.iconst (v := 3) i155_87 (by decide) ?_
  refine gm_ev.iload i155_88 rfl ?_
  refine gm_ev.imul i155_90 ?_
  refine gm_ev.iload i155_91 rfl ?_
  refine gm_ev.iadd i155_93 ?_
  refine gm_ev.iaload i155_94 (bM_ai (j := 9) (n := 1296) (f := s.2.1 17) rfl ek5 lk5 (by decide)) ?_
  refine gm_ev.callS gm_mono_run (av := [.int (s.2.1 17 k5)]) (r := []) i155_95 rfl rfl rfl (Nat.le_of_ble_eq_true rfl) t7 ?_
  refine gm_ev.if_eq_f i155_98 c8 ?_
  refine gm_ev.iload_n i155_101 rfl ?_
  refine gm_ev.iconst (v := 1) i155_102 (by decide) ?_
  refine gm_ev.aload_n i155_103 rfl ?_
  refine gm_ev.getfield (v := .ref (B + 9)) i155_104 rfl (bM_fld (j := 0) (fs := mF B s) rfl rfl) ?_
  refine gm_ev.iconst (v := 3) i155_107 (by decide) ?_
  refine gm_ev.iload i155_108 rfl ?_
  refine gm_ev.imul i155_110 ?_
  refine gm_ev.iload i155_111 rfl ?_
  refine gm_ev.iadd i155_113 ?_
  refine gm_ev.iaload i155_114 (bM_ai (j := 9) (n := 1296) (f := s.2.1 17) rfl ek9 lk9 (by decide)) ?_
  refine gm_ev.bipush (v := 85) i155_115 (by decide) ?_
  refine gm_ev.isub i155_117 ?_
  refine gm_ev.ishl i155_118 ?_
  refine gm_ev.ior i155_119 ?_
  refine gm_ev.goto (tgt := 124) i155_120 (by decide) ?_
  refine gm_ev.istore_n (ls' := [some (.ref B), some (.int x1), some (.int (x2 ||| ((1 : Int32) <<< (((s.2.1 17 k9) - (85 : Int32)) &&& 31)))), some (.int x3), some (.int x4), some (.int x5)]) i155_124 (Nat.le_of_ble_eq_true rfl) rfl ?_
  refine gm_ev.iinc (v := x5 + (1 : Int32)) (ls' := [some (.ref B), some (.int x1), some (.int (x2 ||| ((1 : Int32) <<< (((s.2.1 17 k9) - (85 : Int32)) &&& 31)))), some (.int x3), some (.int x4), some (.int (x5 + (1 : Int32)))]) i155_125 rfl (by rfl) rfl ?_
  refine gm_ev.goto (tgt := 61) i155_128 (by decide) ?_
  exact k
theorem r_ways_0__at10 {N0 : Nat} {K : Nat → Nat} {d B : Nat} {s : mS} {G : gm_H} {sz sl : Nat} {R : gm_R} {p0 : Int32} (hN : N0 ≤ B)  (k : gm_ev N0 K ra_nm (ra_mt K) d (some .long) (gm_I cX12_ways) (gm_lkf (lkX12 false K)) 10 [some (.ref B), some (.int p0), some (.long (1 : Int64)), none, some (.int (((6 : Int32) * p0) + (1 : Int32))), none, none, none] [] (bM B (mH B s) G) sz sl R) : gm_ev N0 K ra_nm (ra_mt K) d (some .long) (gm_I cX12_ways) (gm_lkf (lkX12 false K)) 0 [some (.ref B), some (.int p0), none, none, none, none, none, none] [] (bM B (mH B s) G) sz sl R := by
  refine gm_ev.lconst (v := 1) i156_0 (by decide) ?_
  refine gm_ev.lstore_n (ls' := [some (.ref B), some (.int p0), some (.long (1 : Int64)), none, none, none, none, none]) i156_1 (Nat.le_of_ble_eq_true rfl) rfl ?_
  refine gm_ev.bipush (v := 6) i156_2 (by decide) ?_
  refine gm_ev.iload_n i156_4 rfl ?_
  refine gm_ev.imul i156_5 ?_
  refine gm_ev.iconst (v := 1) i156_6 (by decide) ?_
  refine gm_ev.iadd i156_7 ?_
  refine gm_ev.istore (ls' := [some (.ref B), some (.int p0), some (.long (1 : Int64)), none, some (.int (((6 : Int32) * p0) + (1 : Int32))), none, none, none]) i156_8 (Nat.le_of_ble_eq_true rfl) rfl ?_
  exact k
theorem r_ways_10_t {N0 : Nat} {K : Nat → Nat} {d B : Nat} {s : mS} {G : gm_H} {sz sl : Nat} {x1 : Int32} {y2 : Int64} {x4 : Int32} {k1 : Nat} (hN : N0 ≤ B) (ek1 : x1 = nI k1) (lk1 : k1 < 24) (c2 : (((6 : Int32) * x1) + (s.2.1 12 k1)) < x4) : gm_ev N0 K ra_nm (ra_mt K) d (some .long) (gm_I cX12_ways) (gm_lkf (lkX12 false K)) 10 [some (.ref B), some (.int x1), some (.long y2), none, some (.int x4), none, none, none] [] (bM B (mH B s) G) sz sl (.returned (some (.long y2)), (bM B (mH B s) G), sz, sl) := by
  refine gm_ev.iload i156_10 rfl ?_
  refine gm_ev.bipush (v := 6) i156_12 (by decide) ?_
  refine gm_ev.iload_n i156_14 rfl ?_
  refine gm_ev.imul i156_15 ?_
  refine gm_ev.aload_n i156_16 rfl ?_
  refine gm_ev.getfield (v := .ref (B + 4)) i156_17 rfl (bM_fld (j := 0) (fs := mF B s) rfl rfl) ?_
  refine gm_ev.iload_n i156_20 rfl ?_
  refine gm_ev.iaload i156_21 (bM_ai (j := 4) (n := 24) (f := s.2.1 12) rfl ek1 lk1 (by decide)) ?_
  refine gm_ev.iadd i156_22 ?_
  refine gm_ev.icmp_gt_t (tgt := 110) i156_23 (by decide) c2 ?_
  refine gm_ev.lload_n i156_110 rfl ?_
  exact gm_ev.lret i156_111 rfl
theorem r_ways_10_f_at32 {N0 : Nat} {K : Nat → Nat} {d B : Nat} {s : mS} {G : gm_H} {sz sl : Nat} {R : gm_R} {x1 : Int32} {y2 : Int64} {x4 : Int32} {k1 : Nat} (hN : N0 ≤ B) (ek1 : x1 = nI k1) (lk1 : k1 < 24) (c2 : ¬ (((6 : Int32) * x1) + (s.2.1 12 k1)) < x4) (k : gm_ev N0 K ra_nm (ra_mt K) d (some .long) (gm_I cX12_ways) (gm_lkf (lkX12 false K)) 32 [some (.ref B), some (.int x1), some (.long y2), none, some (.int x4), some (.long (0 : Int64)), none, some (.int (0 : Int32))] [] (bM B (mH B s) G) sz sl R) : gm_ev N0 K ra_nm (ra_mt K) d (some .long) (gm_I cX12_ways) (gm_lkf (lkX12 false K)) 10 [some (.ref B), some (.int x1), some (.long y2), none, some (.int x4), none, none, none] [] (bM B (mH B s) G) sz sl R := by
  refine gm_ev.iload i156_10 rfl ?_
  refine gm_ev.bipush (v := 6) i156_12 (by decide) ?_
  refine gm_ev.iload_n i156_14 rfl ?_
  refine gm_ev.imul i156_15 ?_
  refine gm_ev.aload_n i156_16 rfl ?_
  refine gm_ev.getfield (v := .ref (B + 4)) i156_17 rfl (bM_fld (j := 0) (fs := mF B s) rfl rfl) ?_
  refine gm_ev.iload_n i156_20 rfl ?_
  refine gm_ev.iaload i156_21 (bM_ai (j := 4) (n := 24) (f := s.2.1 12) rfl ek1 lk1 (by decide)) ?_
  refine gm_ev.iadd i156_22 ?_
  refine gm_ev.icmp_gt_f i156_23 c2 ?_
  refine gm_ev.lconst (v := 0) i156_26 (by decide) ?_
  refine gm_ev.lstore (ls' := [some (.ref B), some (.int x1), some (.long y2), none, some (.int x4), some (.long (0 : Int64)), none, none]) i156_27 (Nat.le_of_ble_eq_true rfl) rfl ?_
  refine gm_ev.iconst (v := 0) i156_29 (by decide) ?_
  refine gm_ev.istore (ls' := [some (.ref B), some (.int x1), some (.long y2), none, some (.int x4), some (.long (0 : Int64)), none, some (.int (0 : Int32))]) i156_30 (Nat.le_of_ble_eq_true rfl) rfl ?_
  exact k
theorem r_ways_32_tt_at10 {N0 : Nat} {K : Nat → Nat} {d B : Nat} {s : mS} {G : gm_H} {sz sl : Nat} {R : gm_R} {x1 : Int32} {y2 : Int64} {x4 : Int32} {y5 : Int64} {x7 : Int32} {k2 : Nat} (hN : N0 ≤ B) (c1 : (s.1 20) ≤ x7) (ek2 : x4 = nI k2) (lk2 : k2 < 144) (c3 : ¬ (s.2.1 13 k2) = 0) (k : gm_ev N0 K ra_nm (ra_mt K) d (some .long) (gm_I cX12_ways) (gm_lkf (lkX12 false K)) 10 [some (.ref B), some (.int x1), some (.long y2), none, some (.int (x4 + (1 : Int32))), none, none, none] [] (bM B (mH B s) G) sz sl R) : gm_ev N0 K ra_nm (ra_mt K) d (some .long) (gm_I cX12_ways) (gm_lkf (lkX12 false K)) 32 [some (.ref B), some (.int x1), some (.long y2), none, some (.int x4), some (.long y5), none, some (.int x7)] [] (bM B (mH B s) G) sz sl R := by
  refine gm_ev.iload i156_32 rfl ?_
  refine gm_ev.aload_n i156_34 rfl ?_
  refine gm_ev.getfield (v := .int (s.1 20)) i156_35 rfl (bM_fld (j := 0) (fs := mF B s) rfl rfl) ?_
  refine gm_ev.icmp_ge_t (tgt := 85) i156_38 (by decide) c1 ?_
  refine gm_ev.aload_n i156_85 rfl ?_
  refine gm_ev.getfield (v := .ref (B + 5)) i156_86 rfl (bM_fld (j := 0) (fs := mF B s) rfl rfl) ?_
  refine gm_ev.iload i156_89 rfl ?_
  refine gm_ev.iaload i156_91 (bM_ai (j := 5) (n := 144) (f := s.2.1 13) rfl ek2 lk2 (by decide)) ?_
  refine gm_ev.if_ne_t (tgt := 102) i156_92 (by decide) c3 ?_
  refine gm_ev.lload_n i156_102 rfl ?_
  refine gm_ev.lstore_n (ls' := [some (.ref B), some (.int x1), some (.long y2), none, some (.int x4), some (.long y5), none, some (.int x7)]) i156_103 (Nat.le_of_ble_eq_true rfl) rfl ?_
  refine gm_ev.iinc (v := x4 + (1 : Int32)) (ls' := [some (.ref B), some (.int x1), some (.long y2), none, some (.int (x4 + (1 : Int32))), some (.long y5), none, some (.int x7)]) i156_104 rfl (by rfl) rfl ?_
  refine gm_ev.goto (tgt := 10) i156_107 (by decide) ?_
  refine gm_ev.le (a := [some (.ref B), some (.int x1), some (.long y2), none, some (.int (x4 + (1 : Int32))), none, none, none]) (gm_leL.le (show gm_leL _ _ from ⟨rfl, ⟨rfl, ⟨rfl, ⟨rfl, trivial⟩⟩⟩⟩)) ?_
  exact k
theorem r_ways_32_tf_at10 {N0 : Nat} {K : Nat → Nat} {d B : Nat} {s : mS} {G : gm_H} {sz sl : Nat} {R : gm_R} {x1 : Int32} {y2 : Int64} {x4 : Int32} {y5 : Int64} {x7 : Int32} {k2 : Nat} (hN : N0 ≤ B) (c1 : (s.1 20) ≤ x7) (ek2 : x4 = nI k2) (lk2 : k2 < 144) (c3 : (s.2.1 13 k2) = 0) (k : gm_ev N0 K ra_nm (ra_mt K) d (some .long) (gm_I cX12_ways) (gm_lkf (lkX12 false K)) 10 [some (.ref B), some (.int x1), some (.long (y2 * y5)), none, some (.int (x4 + (1 : Int32))), none, none, none] [] (bM B (mH B s) G) sz sl R) : gm_ev N0 K ra_nm (ra_mt K) d (some .long) (gm_I cX12_ways) (gm_lkf (lkX12 false K)) 32 [some (.ref B), some (.int x1), some (.long y2), none, some (.int x4), some (.long y5), none, some (.int x7)] [] (bM B (mH B s) G) sz sl R := by
  refine gm_ev.iload i156_32 rfl ?_
  refine gm_ev.aload_n i156_34 rfl ?_
  refine gm_ev.getfield (v := .int (s.1 20)) i156_35 rfl (bM_fld (j := 0) (fs := mF B s) rfl rfl) ?_
  refine gm_ev.icmp_ge_t (tgt := 85) i156_38 (by decide) c1 ?_
  refine gm_ev.aload_n i156_85 rfl ?_
  refine gm_ev.getfield (v := .ref (B + 5)) i156_86 rfl (bM_fld (j := 0) (fs := mF B s) rfl rfl) ?_
  refine gm_ev.iload i156_89 rfl ?_
  refine gm_ev.iaload i156_91 (bM_ai (j := 5) (n := 144) (f := s.2.1 13) rfl ek2 lk2 (by decide)) ?_
  refine gm_ev.if_ne_f i156_92 c3 ?_
  refine gm_ev.lload_n i156_95 rfl ?_
  refine gm_ev.lload i156_96 rfl ?_
  refine gm_ev.lmul i156_98 ?_
  refine gm_ev.goto (tgt := 103) i156_99 (by decide) ?_
  refine gm_ev.lstore_n (ls' := [some (.ref B), some (.int x1), some (.long (y2 * y5)), none, some (.int x4), some (.long y5), none, some (.int x7)]) i156_103 (Nat.le_of_ble_eq_true rfl) rfl ?_
  refine gm_ev.iinc (v := x4 + (1 : Int32)) (ls' := [some (.ref B), some (.int x1), some (.long (y2 * y5)), none, some (.int (x4 + (1 : Int32))), some (.long y5), none, some (.int x7)]) i156_104 rfl (by rfl) rfl ?_
  refine gm_ev.goto (tgt := 10) i156_107 (by decide) ?_
  refine gm_ev.le (a := [some (.ref B), some (.int x1), some (.long (y2 * y5)), none, some (.int (x4 + (1 : Int32))), none, none, none]) (gm_leL.le (show gm_leL _ _ from ⟨rfl, ⟨rfl, ⟨rfl, ⟨rfl, trivial⟩⟩⟩⟩)) ?_
  exact k
theorem r_ways_32_ftt_at10 {N0 : Nat} {K : Nat → Nat} {d B : Nat} {s : mS} {G : gm_H} {sz sl : Nat} {R : gm_R} {x1 : Int32} {y2 : Int64} {x4 : Int32} {y5 : Int64} {x7 : Int32} {k2 : Nat} {k4 : Nat} (hN : N0 ≤ B) (c1 : ¬ (s.1 20) ≤ x7) (ek2 : x4 = nI k2) (lk2 : k2 < 144) (c3 : ¬ (s.2.1 13 k2) = 0) (ek4 : x4 = nI k4) (lk4 : k4 < 144) (c5 : ¬ (s.2.1 13 k4) = 0) (k : gm_ev N0 K ra_nm (ra_mt K) d (some .long) (gm_I cX12_ways) (gm_lkf (lkX12 false K)) 10 [some (.ref B), some (.int x1), some (.long y2), none, some (.int (x4 + (1 : Int32))), none, none, none] [] (bM B (mH B s) G) sz sl R) : gm_ev N0 K ra_nm (ra_mt K) d (some .long) (gm_I cX12_ways) (gm_lkf (lkX12 false K)) 32 [some (.ref B), some (.int x1), some (.long y2), none, some (.int x4), some (.long y5), none, some (.int x7)] [] (bM B (mH B s) G) sz sl R := by
  refine gm_ev.iload i156_32 rfl ?_
  refine gm_ev.aload_n i156_34 rfl ?_
  refine gm_ev.getfield (v := .int (s.1 20)) i156_35 rfl (bM_fld (j := 0) (fs := mF B s) rfl rfl) ?_
  refine gm_ev.icmp_ge_f i156_38 c1 ?_
  refine gm_ev.aload_n i156_41 rfl ?_
  refine gm_ev.getfield (v := .ref (B + 5)) i156_42 rfl (bM_fld (j := 0) (fs := mF B s) rfl rfl) ?_
  refine gm_ev.iload i156_45 rfl ?_
  refine gm_ev.iaload i156_47 (bM_ai (j := 5) (n := 144) (f := s.2.1 13) rfl ek2 lk2 (by decide)) ?_
  refine gm_ev.if_ne_t (tgt := 85) i156_48 (by decide) c3 ?_
  refine gm_ev.aload_n i156_85 rfl ?_
  refine gm_ev.getfield (v := .ref (B + 5)) i156_86 rfl (bM_fld (j := 0) (fs := mF B s) rfl rfl) ?_
  refine gm_ev.iload i156_89 rfl ?_
  refine gm_ev.iaload i156_91 (bM_ai (j := 5) (n := 144) (f := s.2.1 13) rfl ek4 lk4 (by decide)) ?_
  refine gm_ev.if_ne_t (tgt := 102) i156_92 (by decide) c5 ?_
  refine gm_ev.lload_n i156_102 rfl ?_
  refine gm_ev.lstore_n (ls' := [some (.ref B), some (.int x1), some (.long y2), none, some (.int x4), some (.long y5), none, some (.int x7)]) i156_103 (Nat.le_of_ble_eq_true rfl) rfl ?_
  refine gm_ev.iinc (v := x4 + (1 : Int32)) (ls' := [some (.ref B), some (.int x1), some (.long y2), none, some (.int (x4 + (1 : Int32))), some (.long y5), none, some (.int x7)]) i156_104 rfl (by rfl) rfl ?_
  refine gm_ev.goto (tgt := 10) i156_107 (by decide) ?_
  refine gm_ev.le (a := [some (.ref B), some (.int x1), some (.long y2), none, some (.int (x4 + (1 : Int32))), none, none, none]) (gm_leL.le (show gm_leL _ _ from ⟨rfl, ⟨rfl, ⟨rfl, ⟨rfl, trivial⟩⟩⟩⟩)) ?_
  exact k
theorem r_ways_32_ftf_at10 {N0 : Nat} {K : Nat → Nat} {d B : Nat} {s : mS} {G : gm_H} {sz sl : Nat} {R : gm_R} {x1 : Int32} {y2 : Int64} {x4 : Int32} {y5 : Int64} {x7 : Int32} {k2 : Nat} {k4 : Nat} (hN : N0 ≤ B) (c1 : ¬ (s.1 20) ≤ x7) (ek2 : x4 = nI k2) (lk2 : k2 < 144) (c3 : ¬ (s.2.1 13 k2) = 0) (ek4 : x4 = nI k4) (lk4 : k4 < 144) (c5 : (s.2.1 13 k4) = 0) (k : gm_ev N0 K ra_nm (ra_mt K) d (some .long) (gm_I cX12_ways) (gm_lkf (lkX12 false K)) 10 [some (.ref B), some (.int x1), some (.long (y2 * y5)), none, some (.int (x4 + (1 : Int32))), none, none, none] [] (bM B (mH B s) G) sz sl R) : gm_ev N0 K ra_nm (ra_mt K) d (some .long) (gm_I cX12_ways) (gm_lkf (lkX12 false K)) 32 [some (.ref B), some (.int x1), some (.long y2), none, some (.int x4), some (.long y5), none, some (.int x7)] [] (bM B (mH B s) G) sz sl R := by
  refine gm_ev.iload i156_32 rfl ?_
  refine gm_ev.aload_n i156_34 rfl ?_
  refine gm_ev.getfield (v := .int (s.1 20)) i156_35 rfl (bM_fld (j := 0) (fs := mF B s) rfl rfl) ?_
  refine gm_ev.icmp_ge_f i156_38 c1 ?_
  refine gm_ev.aload_n i156_41 rfl ?_
  refine gm_ev.getfield (v := .ref (B + 5)) i156_42 rfl (bM_fld (j := 0) (fs := mF B s) rfl rfl) ?_
  refine gm_ev.iload i156_45 rfl ?_
  refine gm_ev.iaload i156_47 (bM_ai (j := 5) (n := 144) (f := s.2.1 13) rfl ek2 lk2 (by decide)) ?_
  refine gm_ev.if_ne_t (tgt := 85) i156_48 (by decide) c3 ?_
  refine gm_ev.aload_n i156_85 rfl ?_
  refine gm_ev.getfield (v := .ref (B + 5)) i156_86 rfl (bM_fld (j := 0) (fs := mF B s) rfl rfl) ?_
  refine gm_ev.iload i156_89 rfl ?_
  refine gm_ev.iaload i156_91 (bM_ai (j := 5) (n := 144) (f := s.2.1 13) rfl ek4 lk4 (by decide)) ?_
  refine gm_ev.if_ne_f i156_92 c5 ?_
  refine gm_ev.lload_n i156_95 rfl ?_
  refine gm_ev.lload i156_96 rfl ?_
  refine gm_ev.lmul i156_98 ?_
  refine gm_ev.goto (tgt := 103) i156_99 (by decide) ?_
  refine gm_ev.lstore_n (ls' := [some (.ref B), some (.int x1), some (.long (y2 * y5)), none, some (.int x4), some (.long y5), none, some (.int x7)]) i156_103 (Nat.le_of_ble_eq_true rfl) rfl ?_
  refine gm_ev.iinc (v := x4 + (1 : Int32)) (ls' := [some (.ref B), some (.int x1), some (.long (y2 * y5)), none, some (.int (x4 + (1 : Int32))), some (.long y5), none, some (.int x7)]) i156_104 rfl (by rfl) rfl ?_
  refine gm_ev.goto (tgt := 10) i156_107 (by decide) ?_
  refine gm_ev.le (a := [some (.ref B), some (.int x1), some (.long (y2 * y5)), none, some (.int (x4 + (1 : Int32))), none, none, none]) (gm_leL.le (show gm_leL _ _ from ⟨rfl, ⟨rfl, ⟨rfl, ⟨rfl, trivial⟩⟩⟩⟩)) ?_
  exact k
theorem r_ways_32_fft_at32 {N0 : Nat} {K : Nat → Nat} {d B : Nat} {s : mS} {G : gm_H} {sz sl : Nat} {R : gm_R} {x1 : Int32} {y2 : Int64} {x4 : Int32} {y5 : Int64} {x7 : Int32} {k2 : Nat} {k4 : Nat} {k5 : Nat} (hN : N0 ≤ B) (c1 : ¬ (s.1 20) ≤ x7) (ek2 : x4 = nI k2) (lk2 : k2 < 144) (c3 : (s.2.1 13 k2) = 0) (ek4 : x7 = nI k4) (lk4 : k4 < 201) (ek5 : x4 = nI k5) (lk5 : k5 < 144) (c6 : ¬ (s.2.1 21 k4) = (s.2.1 14 k5)) (k : gm_ev N0 K ra_nm (ra_mt K) d (some .long) (gm_I cX12_ways) (gm_lkf (lkX12 false K)) 32 [some (.ref B), some (.int x1), some (.long y2), none, some (.int x4), some (.long y5), none, some (.int (x7 + (1 : Int32)))] [] (bM B (mH B s) G) sz sl R) : gm_ev N0 K ra_nm (ra_mt K) d (some .long) (gm_I cX12_ways) (gm_lkf (lkX12 false K)) 32 [some (.ref B), some (.int x1), some (.long y2), none, some (.int x4), some (.long y5), none, some (.int x7)] [] (bM B (mH B s) G) sz sl R := by
  refine gm_ev.iload i156_32 rfl ?_
  refine gm_ev.aload_n i156_34 rfl ?_
  refine gm_ev.getfield (v := .int (s.1 20)) i156_35 rfl (bM_fld (j := 0) (fs := mF B s) rfl rfl) ?_
  refine gm_ev.icmp_ge_f i156_38 c1 ?_
  refine gm_ev.aload_n i156_41 rfl ?_
  refine gm_ev.getfield (v := .ref (B + 5)) i156_42 rfl (bM_fld (j := 0) (fs := mF B s) rfl rfl) ?_
  refine gm_ev.iload i156_45 rfl ?_
  refine gm_ev.iaload i156_47 (bM_ai (j := 5) (n := 144) (f := s.2.1 13) rfl ek2 lk2 (by decide)) ?_
  refine gm_ev.if_ne_f i156_48 c3 ?_
  refine gm_ev.aload_n i156_51 rfl ?_
  refine gm_ev.getfield (v := .ref (B + 12)) i156_52 rfl (bM_fld (j := 0) (fs := mF B s) rfl rfl) ?_
  refine gm_ev.iload i156_55 rfl ?_
  refine gm_ev.iaload i156_57 (bM_ai (j := 12) (n := 201) (f := s.2.1 21) rfl ek4 lk4 (by decide)) ?_
  refine gm_ev.aload_n i156_58 rfl ?_
  refine gm_ev.getfield (v := .ref (B + 6)) i156_59 rfl (bM_fld (j := 0) (fs := mF B s) rfl rfl) ?_
  refine gm_ev.iload i156_62 rfl ?_
  refine gm_ev.iaload i156_64 (bM_ai (j := 6) (n := 144) (f := s.2.1 14) rfl ek5 lk5 (by decide)) ?_
  refine gm_ev.icmp_ne_t (tgt := 75) i156_65 (by decide) c6 ?_
  refine gm_ev.lload i156_75 rfl ?_
  refine gm_ev.lstore (ls' := [some (.ref B), some (.int x1), some (.long y2), none, some (.int x4), some (.long y5), none, some (.int x7)]) i156_77 (Nat.le_of_ble_eq_true rfl) rfl ?_
  refine gm_ev.iinc (v := x7 + (1 : Int32)) (ls' := [some (.ref B), some (.int x1), some (.long y2), none, some (.int x4), some (.long y5), none, some (.int (x7 + (1 : Int32)))]) i156_79 rfl (by rfl) rfl ?_
  refine gm_ev.goto (tgt := 32) i156_82 (by decide) ?_
  exact k
theorem r_ways_32_fff_at32 {N0 : Nat} {K : Nat → Nat} {d B : Nat} {s : mS} {G : gm_H} {sz sl : Nat} {R : gm_R} {x1 : Int32} {y2 : Int64} {x4 : Int32} {y5 : Int64} {x7 : Int32} {k2 : Nat} {k4 : Nat} {k5 : Nat} (hN : N0 ≤ B) (c1 : ¬ (s.1 20) ≤ x7) (ek2 : x4 = nI k2) (lk2 : k2 < 144) (c3 : (s.2.1 13 k2) = 0) (ek4 : x7 = nI k4) (lk4 : k4 < 201) (ek5 : x4 = nI k5) (lk5 : k5 < 144) (c6 : (s.2.1 21 k4) = (s.2.1 14 k5)) (k : gm_ev N0 K ra_nm (ra_mt K) d (some .long) (gm_I cX12_ways) (gm_lkf (lkX12 false K)) 32 [some (.ref B), some (.int x1), some (.long y2), none, some (.int x4), some (.long (y5 + (1 : Int64))), none, some (.int (x7 + (1 : Int32)))] [] (bM B (mH B s) G) sz sl R) : gm_ev N0 K ra_nm (ra_mt K) d (some .long) (gm_I cX12_ways) (gm_lkf (lkX12 false K)) 32 [some (.ref B), some (.int x1), some (.long y2), none, some (.int x4), some (.long y5), none, some (.int x7)] [] (bM B (mH B s) G) sz sl R := by
  refine gm_ev.iload i156_32 rfl ?_
  refine gm_ev.aload_n i156_34 rfl ?_
  refine gm_ev.getfield (v := .int (s.1 20)) i156_35 rfl (bM_fld (j := 0) (fs := mF B s) rfl rfl) ?_
  refine gm_ev.icmp_ge_f i156_38 c1 ?_
  refine gm_ev.aload_n i156_41 rfl ?_
  refine gm_ev.getfield (v := .ref (B + 5)) i156_42 rfl (bM_fld (j := 0) (fs := mF B s) rfl rfl) ?_
  refine gm_ev.iload i156_45 rfl ?_
  refine gm_ev.iaload i156_47 (bM_ai (j := 5) (n := 144) (f := s.2.1 13) rfl ek2 lk2 (by decide)) ?_
  refine gm_ev.if_ne_f i156_48 c3 ?_
  refine gm_ev.aload_n i156_51 rfl ?_
  refine gm_ev.getfield (v := .ref (B + 12)) i156_52 rfl (bM_fld (j := 0) (fs := mF B s) rfl rfl) ?_
  refine gm_ev.iload i156_55 rfl ?_
  refine gm_ev.iaload i156_57 (bM_ai (j := 12) (n := 201) (f := s.2.1 21) rfl ek4 lk4 (by decide)) ?_
  refine gm_ev.aload_n i156_58 rfl ?_
  refine gm_ev.getfield (v := .ref (B + 6)) i156_59 rfl (bM_fld (j := 0) (fs := mF B s) rfl rfl) ?_
  refine gm_ev.iload i156_62 rfl ?_
  refine gm_ev.iaload i156_64 (bM_ai (j := 6) (n := 144) (f := s.2.1 14) rfl ek5 lk5 (by decide)) ?_
  refine gm_ev.icmp_ne_f i156_65 c6 ?_
  refine gm_ev.lload i156_68 rfl ?_
  refine gm_ev.lconst (v := 1) i156_70 (by decide) ?_
  refine gm_ev.ladd i156_71 ?_
  refine gm_ev.goto (tgt := 77) i156_72 (by decide) ?_
  refine gm_ev.lstore (ls' := [some (.ref B), some (.int x1), some (.long y2), none, some (.int x4), some (.long (y5 + (1 : Int64))), none, some (.int x7)]) i156_77 (Nat.le_of_ble_eq_true rfl) rfl ?_
  refine gm_ev.iinc (v := x7 + (1 : Int32)) (ls' := [some (.ref B), some (.int x1), some (.long y2), none, some (.int x4), some (.long (y5 + (1 : Int64))), none, some (.int (x7 + (1 : Int32)))]) i156_79 rfl (by rfl) rfl ?_
  refine gm_ev.goto (tgt := 32) i156_82 (by decide) ?_
  exact k
theorem r_apply_0__at11 {N0 : Nat} {K : Nat → Nat} {d B : Nat} {s : mS} {G : gm_H} {sz sl : Nat} {R : gm_R} {p0 : Int32} {r1 : Int32} (hN : N0 ≤ B) (t2 : gm_to N0 K ra_nm (ra_mt K) d 155 [.ref B, .int p0] (bM B (mH B s) G) sz (.returned (some (.int r1)), bM B (mH B s) G, sz, 0)) (k : gm_ev N0 K ra_nm (ra_mt K) d none (gm_I cX12_apply) (gm_lkf (lkX12 false K)) 11 [some (.ref B), some (.int p0), some (.int (0 : Int32)), none, none, none] [] (bM B (mH B (mI s 28 r1)) G) sz sl R) : gm_ev N0 K ra_nm (ra_mt K) d none (gm_I cX12_apply) (gm_lkf (lkX12 false K)) 0 [some (.ref B), some (.int p0), none, none, none, none] [] (bM B (mH B s) G) sz sl R := by
  refine gm_ev.aload_n i157_0 rfl ?_
  refine gm_ev.aload_n i157_1 rfl ?_
  refine gm_ev.iload_n i157_2 rfl ?_
  refine gm_ev.callV gm_mono_run (av := [.int p0]) (r := [.ref B]) (ci := 11) (fs := mF B s) (bM_get (j := 0) rfl) i157_3 rfl rfl rfl (Nat.le_of_ble_eq_true rfl) t2 ?_
  refine gm_ev.putfield (M' := (bM B (mH B (mI s 28 r1)) G)) i157_6 rfl (bM_put (j := 0) (fs := mF B s) rfl (Nat.le_of_ble_eq_true rfl) hN (gm_fit_i _) rfl) ?_
  refine gm_ev.iconst (v := 0) i157_9 (by decide) ?_
  refine gm_ev.istore_n (ls' := [some (.ref B), some (.int p0), some (.int (0 : Int32)), none, none, none]) i157_10 (Nat.le_of_ble_eq_true rfl) rfl ?_
  exact k
theorem r_apply_11_tt_at74 {N0 : Nat} {K : Nat → Nat} {d B : Nat} {s : mS} {G : gm_H} {sz sl : Nat} {R : gm_R} {x1 : Int32} {x2 : Int32} {k2 : Nat} {k3 : Nat} (hN : N0 ≤ B) (c1 : (6 : Int32) ≤ x2) (ek2 : x1 = nI k2) (lk2 : k2 < 24) (ek3 : (0 : Int32) = nI k3) (lk3 : k3 < 7) (c4 : ¬ (s.1 23) = 0) (k : gm_ev N0 K ra_nm (ra_mt K) d none (gm_I cX12_apply) (gm_lkf (lkX12 false K)) 74 [some (.ref B), some (.int x1), some (.int (s.2.1 12 k2)), some (.int (0 : Int32)), none, none] [] (bM B (mH B (mI (mA s 27 (upd (s.2.1 27) k3 (-1 : Int32))) 23 (1 : Int32))) G) sz sl R) : gm_ev N0 K ra_nm (ra_mt K) d none (gm_I cX12_apply) (gm_lkf (lkX12 false K)) 11 [some (.ref B), some (.int x1), some (.int x2), none, none, none] [] (bM B (mH B s) G) sz sl R := by
  refine gm_ev.iload_n i157_11 rfl ?_
  refine gm_ev.bipush (v := 6) i157_12 (by decide) ?_
  refine gm_ev.icmp_ge_t (tgt := 30) i157_14 (by decide) c1 ?_
  refine gm_ev.aload_n i157_30 rfl ?_
  refine gm_ev.getfield (v := .ref (B + 4)) i157_31 rfl (bM_fld (j := 0) (fs := mF B s) rfl rfl) ?_
  refine gm_ev.iload_n i157_34 rfl ?_
  refine gm_ev.iaload i157_35 (bM_ai (j := 4) (n := 24) (f := s.2.1 12) rfl ek2 lk2 (by decide)) ?_
  refine gm_ev.istore_n (ls' := [some (.ref B), some (.int x1), some (.int (s.2.1 12 k2)), none, none, none]) i157_36 (Nat.le_of_ble_eq_true rfl) rfl ?_
  refine gm_ev.iconst (v := 0) i157_37 (by decide) ?_
  refine gm_ev.istore_n (ls' := [some (.ref B), some (.int x1), some (.int (s.2.1 12 k2)), some (.int (0 : Int32)), none, none]) i157_38 (Nat.le_of_ble_eq_true rfl) rfl ?_
  refine gm_ev.aload_n i157_39 rfl ?_
  refine gm_ev.getfield (v := .ref (B + 16)) i157_40 rfl (bM_fld (j := 0) (fs := mF B s) rfl rfl) ?_
  refine gm_ev.iconst (v := 0) i157_43 (by decide) ?_
  refine gm_ev.iconst (v := -1) i157_44 (by decide) ?_
  refine gm_ev.iastore (M' := (bM B (mH B (mA s 27 (upd (s.2.1 27) k3 (-1 : Int32)))) G)) i157_45 (bM_asti (j := 16) (n := 7) (f := s.2.1 27) rfl ek3 lk3 (by decide) hN rfl) ?_
  refine gm_ev.aload_n i157_46 rfl ?_
  refine gm_ev.aload_n i157_47 rfl ?_
  refine gm_ev.getfield (v := .int (s.1 23)) i157_48 rfl (bM_fld (j := 0) (fs := mF B (mA s 27 (upd (s.2.1 27) k3 (-1 : Int32)))) rfl rfl) ?_
  refine gm_ev.if_ne_t (tgt := 66) i157_51 (by decide) c4 ?_
  refine gm_ev.iconst (v := 1) i157_66 (by decide) ?_
  refine gm_ev.goto (tgt := 71) i157_67 (by decide) ?_
  refine gm_ev.putfield (M' := (bM B (mH B (mI (mA s 27 (upd (s.2.1 27) k3 (-1 : Int32))) 23 (1 : Int32))) G)) i157_71 rfl (bM_put (j := 0) (fs := mF B (mA s 27 (upd (s.2.1 27) k3 (-1 : Int32)))) rfl (Nat.le_of_ble_eq_true rfl) hN (gm_fit_z (by decide)) rfl) ?_
  exact k
theorem r_apply_11_tft_at74 {N0 : Nat} {K : Nat → Nat} {d B : Nat} {s : mS} {G : gm_H} {sz sl : Nat} {R : gm_R} {x1 : Int32} {x2 : Int32} {k2 : Nat} {k3 : Nat} {r5 : Int64} (hN : N0 ≤ B) (c1 : (6 : Int32) ≤ x2) (ek2 : x1 = nI k2) (lk2 : k2 < 24) (ek3 : (0 : Int32) = nI k3) (lk3 : k3 < 7) (c4 : (s.1 23) = 0) (t6 : gm_to N0 K ra_nm (ra_mt K) d 156 [.ref B, .int x1] (bM B (mH B (mA s 27 (upd (s.2.1 27) k3 (-1 : Int32)))) G) sz (.returned (some (.long r5)), bM B (mH B (mA s 27 (upd (s.2.1 27) k3 (-1 : Int32)))) G, sz, 0)) (c7 : (lg_cmp r5 (100000 : Int64)) ≤ 0) (k : gm_ev N0 K ra_nm (ra_mt K) d none (gm_I cX12_apply) (gm_lkf (lkX12 false K)) 74 [some (.ref B), some (.int x1), some (.int (s.2.1 12 k2)), some (.int (0 : Int32)), none, none] [] (bM B (mH B (mI (mA s 27 (upd (s.2.1 27) k3 (-1 : Int32))) 23 (0 : Int32))) G) sz sl R) : gm_ev N0 K ra_nm (ra_mt K) d none (gm_I cX12_apply) (gm_lkf (lkX12 false K)) 11 [some (.ref B), some (.int x1), some (.int x2), none, none, none] [] (bM B (mH B s) G) sz sl R := by
  refine gm_ev.iload_n i157_11 rfl ?_
  refine gm_ev.bipush (v := 6) i157_12 (by decide) ?_
  refine gm_ev.icmp_ge_t (tgt := 30) i157_14 (by decide) c1 ?_
  refine gm_ev.aload_n i157_30 rfl ?_
  refine gm_ev.getfield (v := .ref (B + 4)) i157_31 rfl (bM_fld (j := 0) (fs := mF B s) rfl rfl) ?_
  refine gm_ev.iload_n i157_34 rfl ?_
  refine gm_ev.iaload i157_35 (bM_ai (j := 4) (n := 24) (f := s.2.1 12) rfl ek2 lk2 (by decide)) ?_
  refine gm_ev.istore_n (ls' := [some (.ref B), some (.int x1), some (.int (s.2.1 12 k2)), none, none, none]) i157_36 (Nat.le_of_ble_eq_true rfl) rfl ?_
  refine gm_ev.iconst (v := 0) i157_37 (by decide) ?_
  refine gm_ev.istore_n (ls' := [some (.ref B), some (.int x1), some (.int (s.2.1 12 k2)), some (.int (0 : Int32)), none, none]) i157_38 (Nat.le_of_ble_eq_true rfl) rfl ?_
  refine gm_ev.aload_n i157_39 rfl ?_
  refine gm_ev.getfield (v := .ref (B + 16)) i157_40 rfl (bM_fld (j := 0) (fs := mF B s) rfl rfl) ?_
  refine gm_ev.iconst (v := 0) i157_43 (by decide) ?_
  refine gm_ev.iconst (v := -1) i157_44 (by decide) ?_
  refine gm_ev.iastore (M' := (bM B (mH B (mA s 27 (upd (s.2.1 27) k3 (-1 : Int32)))) G)) i157_45 (bM_asti (j := 16) (n := 7) (f := s.2.1 27) rfl ek3 lk3 (by decide) hN rfl) ?_
  refine gm_ev.aload_n i157_46 rfl ?_
  refine gm_ev.aload_n i157_47 rfl ?_
  refine gm_ev.getfield (v := .int (s.1 23)) i157_48 rfl (bM_fld (j := 0) (fs := mF B (mA s 27 (upd (s.2.1 27) k3 (-1 : Int32)))) rfl rfl) ?_
  refine gm_ev.if_ne_f i157_51 c4 ?_
  refine gm_ev.aload_n i157_54 rfl ?_
  refine gm_ev.iload_n i157_55 rfl ?_
  refine gm_ev.callV gm_mono_run (av := [.int x1]) (r := [.ref B]) (ci := 11) (fs := mF B (mA s 27 (upd (s.2.1 27) k3 (-1 : Int32)))) (bM_get (j := 0) rfl) i157_56 rfl rfl rfl (Nat.le_of_ble_eq_true rfl) t6 ?_
  refine gm_ev.ldc2 i157_59 rfl ?_
  refine gm_ev.lcmp i157_62 ?_
  refine gm_ev.if_le_t (tgt := 70) i157_63 (by decide) c7 ?_
  refine gm_ev.iconst (v := 0) i157_70 (by decide) ?_
  refine gm_ev.putfield (M' := (bM B (mH B (mI (mA s 27 (upd (s.2.1 27) k3 (-1 : Int32))) 23 (0 : Int32))) G)) i157_71 rfl (bM_put (j := 0) (fs := mF B (mA s 27 (upd (s.2.1 27) k3 (-1 : Int32)))) rfl (Nat.le_of_ble_eq_true rfl) hN (gm_fit_z (by decide)) rfl) ?_
  exact k
theorem r_apply_11_tff_at74 {N0 : Nat} {K : Nat → Nat} {d B : Nat} {s : mS} {G : gm_H} {sz sl : Nat} {R : gm_R} {x1 : Int32} {x2 : Int32} {k2 : Nat} {k3 : Nat} {r5 : Int64} (hN : N0 ≤ B) (c1 : (6 : Int32) ≤ x2) (ek2 : x1 = nI k2) (lk2 : k2 < 24) (ek3 : (0 : Int32) = nI k3) (lk3 : k3 < 7) (c4 : (s.1 23) = 0) (t6 : gm_to N0 K ra_nm (ra_mt K) d 156 [.ref B, .int x1] (bM B (mH B (mA s 27 (upd (s.2.1 27) k3 (-1 : Int32)))) G) sz (.returned (some (.long r5)), bM B (mH B (mA s 27 (upd (s.2.1 27) k3 (-1 : Int32)))) G, sz, 0)) (c7 : ¬ (lg_cmp r5 (100000 : Int64)) ≤ 0) (k : gm_ev N0 K ra_nm (ra_mt K) d none (gm_I cX12_apply) (gm_lkf (lkX12 false K)) 74 [some (.ref B), some (.int x1), some (.int (s.2.1 12 k2)), some (.int (0 : Int32)), none, none] [] (bM B (mH B (mI (mA s 27 (upd (s.2.1 27) k3 (-1 : Int32))) 23 (1 : Int32))) G) sz sl R) : gm_ev N0 K ra_nm (ra_mt K) d none (gm_I cX12_apply) (gm_lkf (lkX12 false K)) 11 [some (.ref B), some (.int x1), some (.int x2), none, none, none] [] (bM B (mH B s) G) sz sl R := by
  refine gm_ev.iload_n i157_11 rfl ?_
  refine gm_ev.bipush (v := 6) i157_12 (by decide) ?_
  refine gm_ev.icmp_ge_t (tgt := 30) i157_14 (by decide) c1 ?_
  refine gm_ev.aload_n i157_30 rfl ?_
  refine gm_ev.getfield (v := .ref (B + 4)) i157_31 rfl (bM_fld (j := 0) (fs := mF B s) rfl rfl) ?_
  refine gm_ev.iload_n i157_34 rfl ?_
  refine gm_ev.iaload i157_35 (bM_ai (j := 4) (n := 24) (f := s.2.1 12) rfl ek2 lk2 (by decide)) ?_
  refine gm_ev.istore_n (ls' := [some (.ref B), some (.int x1), some (.int (s.2.1 12 k2)), none, none, none]) i157_36 (Nat.le_of_ble_eq_true rfl) rfl ?_
  refine gm_ev.iconst (v := 0) i157_37 (by decide) ?_
  refine gm_ev.istore_n (ls' := [some (.ref B), some (.int x1), some (.int (s.2.1 12 k2)), some (.int (0 : Int32)), none, none]) i157_38 (Nat.le_of_ble_eq_true rfl) rfl ?_
  refine gm_ev.aload_n i157_39 rfl ?_
  refine gm_ev.getfield (v := .ref (B + 16)) i157_40 rfl (bM_fld (j := 0) (fs := mF B s) rfl rfl) ?_
  refine gm_ev.iconst (v := 0) i157_43 (by decide) ?_
  refine gm_ev.iconst (v := -1) i157_44 (by decide) ?_
  refine gm_ev.iastore (M' := (bM B (mH B (mA s 27 (upd (s.2.1 27) k3 (-1 : Int32)))) G)) i157_45 (bM_asti (j := 16) (n := 7) (f := s.2.1 27) rfl ek3 lk3 (by decide) hN rfl) ?_
  refine gm_ev.aload_n i157_46 rfl ?_
  refine gm_ev.aload_n i157_47 rfl ?_
  refine gm_ev.getfield (v := .int (s.1 23)) i157_48 rfl (bM_fld (j := 0) (fs := mF B (mA s 27 (upd (s.2.1 27) k3 (-1 : Int32)))) rfl rfl) ?_
  refine gm_ev.if_ne_f i157_51 c4 ?_
  refine gm_ev.aload_n i157_54 rfl ?_
  refine gm_ev.iload_n i157_55 rfl ?_
  refine gm_ev.callV gm_mono_run (av := [.int x1]) (r := [.ref B]) (ci := 11) (fs := mF B (mA s 27 (upd (s.2.1 27) k3 (-1 : Int32)))) (bM_get (j := 0) rfl) i157_56 rfl rfl rfl (Nat.le_of_ble_eq_true rfl) t6 ?_
  refine gm_ev.ldc2 i157_59 rfl ?_
  refine gm_ev.lcmp i157_62 ?_
  refine gm_ev.if_le_f i157_63 c7 ?_
  refine gm_ev.iconst (v := 1) i157_66 (by decide) ?_
  refine gm_ev.goto (tgt := 71) i157_67 (by decide) ?_
  refine gm_ev.putfield (M' := (bM B (mH B (mI (mA s 27 (upd (s.2.1 27) k3 (-1 : Int32))) 23 (1 : Int32))) G)) i157_71 rfl (bM_put (j := 0) (fs := mF B (mA s 27 (upd (s.2.1 27) k3 (-1 : Int32)))) rfl (Nat.le_of_ble_eq_true rfl) hN (gm_fit_z (by decide)) rfl) ?_
  exact k
theorem r_apply_11_f_at11 {N0 : Nat} {K : Nat → Nat} {d B : Nat} {s : mS} {G : gm_H} {sz sl : Nat} {R : gm_R} {x1 : Int32} {x2 : Int32} {k2 : Nat} (hN : N0 ≤ B) (c1 : ¬ (6 : Int32) ≤ x2) (ek2 : x2 = nI k2) (lk2 : k2 < 6) (k : gm_ev N0 K ra_nm (ra_mt K) d none (gm_I cX12_apply) (gm_lkf (lkX12 false K)) 11 [some (.ref B), some (.int x1), some (.int (x2 + (1 : Int32))), none, none, none] [] (bM B (mH B (mA s 26 (upd (s.2.1 26) k2 (-1 : Int32)))) G) sz sl R) : gm_ev N0 K ra_nm (ra_mt K) d none (gm_I cX12_apply) (gm_lkf (lkX12 false K)) 11 [some (.ref B), some (.int x1), some (.int x2), none, none, none] [] (bM B (mH B s) G) sz sl R := by
  refine gm_ev.iload_n i157_11 rfl ?_
  refine gm_ev.bipush (v := 6) i157_12 (by decide) ?_
  refine gm_ev.icmp_ge_f i157_14 c1 ?_
  refine gm_ev.aload_n i157_17 rfl ?_
  refine gm_ev.getfield (v := .ref (B + 15)) i157_18 rfl (bM_fld (j := 0) (fs := mF B s) rfl rfl) ?_
  refine gm_ev.iload_n i157_21 rfl ?_
  refine gm_ev.iconst (v := -1) i157_22 (by decide) ?_
  refine gm_ev.iastore (M' := (bM B (mH B (mA s 26 (upd (s.2.1 26) k2 (-1 : Int32)))) G)) i157_23 (bM_asti (j := 15) (n := 6) (f := s.2.1 26) rfl ek2 lk2 (by decide) hN rfl) ?_
  refine gm_ev.iinc (v := x2 + (1 : Int32)) (ls' := [some (.ref B), some (.int x1), some (.int (x2 + (1 : Int32))), none, none, none]) i157_24 rfl (by rfl) rfl ?_
  refine gm_ev.goto (tgt := 11) i157_27 (by decide) ?_
  exact k
theorem r_apply_74_t {N0 : Nat} {K : Nat → Nat} {d B : Nat} {s : mS} {G : gm_H} {sz sl : Nat} {x1 : Int32} {x2 : Int32} {x3 : Int32} (hN : N0 ≤ B) (c1 : x3 < 0) : gm_ev N0 K ra_nm (ra_mt K) d none (gm_I cX12_apply) (gm_lkf (lkX12 false K)) 74 [some (.ref B), some (.int x1), some (.int x2), some (.int x3), none, none] [] (bM B (mH B s) G) sz sl (.returned none, (bM B (mH B s) G), sz, sl) := by
  refine gm_ev.iload_n i157_74 rfl ?_
  refine gm_ev.if_lt_t (tgt := 349) i157_75 (by decide) c1 ?_
  exact gm_ev.vret i157_349 rfl
theorem r_apply_74_ft {N0 : Nat} {K : Nat → Nat} {d B : Nat} {s : mS} {G : gm_H} {sz sl : Nat} {x1 : Int32} {x2 : Int32} {x3 : Int32} (hN : N0 ≤ B) (c1 : ¬ x3 < 0) (c2 : ¬ (s.1 23) = 0) : gm_ev N0 K ra_nm (ra_mt K) d none (gm_I cX12_apply) (gm_lkf (lkX12 false K)) 74 [some (.ref B), some (.int x1), some (.int x2), some (.int x3), none, none] [] (bM B (mH B s) G) sz sl (.returned none, (bM B (mH B s) G), sz, sl) := by
  refine gm_ev.iload_n i157_74 rfl ?_
  refine gm_ev.if_lt_f i157_75 c1 ?_
  refine gm_ev.aload_n i157_78 rfl ?_
  refine gm_ev.getfield (v := .int (s.1 23)) i157_79 rfl (bM_fld (j := 0) (fs := mF B s) rfl rfl) ?_
  refine gm_ev.if_ne_t (tgt := 349) i157_82 (by decide) c2 ?_
  exact gm_ev.vret i157_349 rfl
theorem r_apply_74_fft_at190 {N0 : Nat} {K : Nat → Nat} {d B : Nat} {s : mS} {G : gm_H} {sz sl : Nat} {R : gm_R} {x1 : Int32} {x2 : Int32} {x3 : Int32} (hN : N0 ≤ B) (c1 : ¬ x3 < 0) (c2 : (s.1 23) = 0) (c3 : ¬ x3 = x2) (k : gm_ev N0 K ra_nm (ra_mt K) d none (gm_I cX12_apply) (gm_lkf (lkX12 false K)) 190 [some (.ref B), some (.int x1), some (.int x2), some (.int x3), some (.int (0 : Int32)), none] [] (bM B (mH B s) G) sz sl R) : gm_ev N0 K ra_nm (ra_mt K) d none (gm_I cX12_apply) (gm_lkf (lkX12 false K)) 74 [some (.ref B), some (.int x1), some (.int x2), some (.int x3), none, none] [] (bM B (mH B s) G) sz sl R := by
  refine gm_ev.iload_n i157_74 rfl ?_
  refine gm_ev.if_lt_f i157_75 c1 ?_
  refine gm_ev.aload_n i157_78 rfl ?_
  refine gm_ev.getfield (v := .int (s.1 23)) i157_79 rfl (bM_fld (j := 0) (fs := mF B s) rfl rfl) ?_
  refine gm_ev.if_ne_f i157_82 c2 ?_
  refine gm_ev.iload_n i157_85 rfl ?_
  refine gm_ev.iload_n i157_86 rfl ?_
  refine gm_ev.icmp_ne_t (tgt := 187) i157_87 (by decide) c3 ?_
  refine gm_ev.iconst (v := 0) i157_187 (by decide) ?_
  refine gm_ev.istore (ls' := [some (.ref B), some (.int x1), some (.int x2), some (.int x3), some (.int (0 : Int32)), none]) i157_188 (Nat.le_of_ble_eq_true rfl) rfl ?_
  exact k
theorem r_apply_74_ffftt_at74 {N0 : Nat} {K : Nat → Nat} {d B : Nat} {s : mS} {G : gm_H} {sz sl : Nat} {R : gm_R} {x1 : Int32} {x2 : Int32} {x3 : Int32} {r4 : Int32} (hN : N0 ≤ B) (c1 : ¬ x3 < 0) (c2 : (s.1 23) = 0) (c3 : x3 = x2) (t5 : gm_to N0 K ra_nm (ra_mt K) d 154 [.ref B, .int x1] (bM B (mH B s) G) sz (.returned (some (.int r4)), bM B (mH B s) G, sz, 0)) (c6 : r4 = 0) (c7 : ¬ (s.1 23) = 0) (k : gm_ev N0 K ra_nm (ra_mt K) d none (gm_I cX12_apply) (gm_lkf (lkX12 false K)) 74 [some (.ref B), some (.int x1), some (.int x2), some (.int (x3 + (-1 : Int32))), none, none] [] (bM B (mH B (mI s 23 (1 : Int32))) G) sz sl R) : gm_ev N0 K ra_nm (ra_mt K) d none (gm_I cX12_apply) (gm_lkf (lkX12 false K)) 74 [some (.ref B), some (.int x1), some (.int x2), some (.int x3), none, none] [] (bM B (mH B s) G) sz sl R := by
  refine gm_ev.iload_n i157_74 rfl ?_
  refine gm_ev.if_lt_f i157_75 c1 ?_
  refine gm_ev.aload_n i157_78 rfl ?_
  refine gm_ev.getfield (v := .int (s.1 23)) i157_79 rfl (bM_fld (j := 0) (fs := mF B s) rfl rfl) ?_
  refine gm_ev.if_ne_f i157_82 c2 ?_
  refine gm_ev.iload_n i157_85 rfl ?_
  refine gm_ev.iload_n i157_86 rfl ?_
  refine gm_ev.icmp_ne_f i157_87 c3 ?_
  refine gm_ev.aload_n i157_90 rfl ?_
  refine gm_ev.getfield (v := .int (s.1 20)) i157_91 rfl (bM_fld (j := 0) (fs := mF B s) rfl rfl) ?_
  refine gm_ev.istore (ls' := [some (.ref B), some (.int x1), some (.int x2), some (.int x3), some (.int (s.1 20)), none]) i157_94 (Nat.le_of_ble_eq_true rfl) rfl ?_
  refine gm_ev.aload_n i157_96 rfl ?_
  refine gm_ev.iload_n i157_97 rfl ?_
  refine gm_ev.callV gm_mono_run (av := [.int x1]) (r := []) (ci := 11) (fs := mF B s) (bM_get (j := 0) rfl) i157_98 rfl rfl rfl (Nat.le_of_ble_eq_true rfl) t5 ?_
  refine gm_ev.if_eq_t (tgt := 144) i157_101 (by decide) c6 ?_
  refine gm_ev.aload_n i157_144 rfl ?_
  refine gm_ev.aload_n i157_145 rfl ?_
  refine gm_ev.getfield (v := .int (s.1 23)) i157_146 rfl (bM_fld (j := 0) (fs := mF B s) rfl rfl) ?_
  refine gm_ev.if_ne_t (tgt := 173) i157_149 (by decide) c7 ?_
  refine gm_ev.iconst (v := 1) i157_173 (by decide) ?_
  refine gm_ev.goto (tgt := 178) i157_174 (by decide) ?_
  refine gm_ev.putfield (M' := (bM B (mH B (mI s 23 (1 : Int32))) G)) i157_178 rfl (bM_put (j := 0) (fs := mF B s) rfl (Nat.le_of_ble_eq_true rfl) hN (gm_fit_z (by decide)) rfl) ?_
  refine gm_ev.iinc (v := x3 + (-1 : Int32)) (ls' := [some (.ref B), some (.int x1), some (.int x2), some (.int (x3 + (-1 : Int32))), some (.int (s.1 20)), none]) i157_181 rfl (by rfl) rfl ?_
  refine gm_ev.goto (tgt := 74) i157_184 (by decide) ?_
  refine gm_ev.le (a := [some (.ref B), some (.int x1), some (.int x2), some (.int (x3 + (-1 : Int32))), none, none]) (gm_leL.le (show gm_leL _ _ from ⟨rfl, ⟨rfl, ⟨rfl, ⟨rfl, trivial⟩⟩⟩⟩)) ?_
  exact k
theorem r_apply_74_ffftft_at74 {N0 : Nat} {K : Nat → Nat} {d B : Nat} {s : mS} {G : gm_H} {sz sl : Nat} {R : gm_R} {x1 : Int32} {x2 : Int32} {x3 : Int32} {r4 : Int32} (hN : N0 ≤ B) (c1 : ¬ x3 < 0) (c2 : (s.1 23) = 0) (c3 : x3 = x2) (t5 : gm_to N0 K ra_nm (ra_mt K) d 154 [.ref B, .int x1] (bM B (mH B s) G) sz (.returned (some (.int r4)), bM B (mH B s) G, sz, 0)) (c6 : r4 = 0) (c7 : (s.1 23) = 0) (c8 : (s.1 20) ≤ (s.1 20)) (k : gm_ev N0 K ra_nm (ra_mt K) d none (gm_I cX12_apply) (gm_lkf (lkX12 false K)) 74 [some (.ref B), some (.int x1), some (.int x2), some (.int (x3 + (-1 : Int32))), none, none] [] (bM B (mH B (mI s 23 (0 : Int32))) G) sz sl R) : gm_ev N0 K ra_nm (ra_mt K) d none (gm_I cX12_apply) (gm_lkf (lkX12 false K)) 74 [some (.ref B), some (.int x1), some (.int x2), some (.int x3), none, none] [] (bM B (mH B s) G) sz sl R := by
  refine gm_ev.iload_n i157_74 rfl ?_
  refine gm_ev.if_lt_f i157_75 c1 ?_
  refine gm_ev.aload_n i157_78 rfl ?_
  refine gm_ev.getfield (v := .int (s.1 23)) i157_79 rfl (bM_fld (j := 0) (fs := mF B s) rfl rfl) ?_
  refine gm_ev.if_ne_f i157_82 c2 ?_
  refine gm_ev.iload_n i157_85 rfl ?_
  refine gm_ev.iload_n i157_86 rfl ?_
  refine gm_ev.icmp_ne_f i157_87 c3 ?_
  refine gm_ev.aload_n i157_90 rfl ?_
  refine gm_ev.getfield (v := .int (s.1 20)) i157_91 rfl (bM_fld (j := 0) (fs := mF B s) rfl rfl) ?_
  refine gm_ev.istore (ls' := [some (.ref B), some (.int x1), some (.int x2), some (.int x3), some (.int (s.1 20)), none]) i157_94 (Nat.le_of_ble_eq_true rfl) rfl ?_
  refine gm_ev.aload_n i157_96 rfl ?_
  refine gm_ev.iload_n i157_97 rfl ?_
  refine gm_ev.callV gm_mono_run (av := [.int x1]) (r := []) (ci := 11) (fs := mF B s) (bM_get (j := 0) rfl) i157_98 rfl rfl rfl (Nat.le_of_ble_eq_true rfl) t5 ?_
  refine gm_ev.if_eq_t (tgt := 144) i157_101 (by decide) c6 ?_
  refine gm_ev.aload_n i157_144 rfl ?_
  refine gm_ev.aload_n i157_145 rfl ?_
  refine gm_ev.getfield (v := .int (s.1 23)) i157_146 rfl (bM_fld (j := 0) (fs := mF B s) rfl rfl) ?_
  refine gm_ev.if_ne_f i157_149 c7 ?_
  refine gm_ev.aload_n i157_152 rfl ?_
  refine gm_ev.getfield (v := .int (s.1 20)) i157_153 rfl (bM_fld (j := 0) (fs := mF B s) rfl rfl) ?_
  refine gm_ev.iload i157_156 rfl ?_
  refine gm_ev.icmp_le_t (tgt := 177) i157_158 (by decide) c8 ?_
  refine gm_ev.iconst (v := 0) i157_177 (by decide) ?_
  refine gm_ev.putfield (M' := (bM B (mH B (mI s 23 (0 : Int32))) G)) i157_178 rfl (bM_put (j := 0) (fs := mF B s) rfl (Nat.le_of_ble_eq_true rfl) hN (gm_fit_z (by decide)) rfl) ?_
  refine gm_ev.iinc (v := x3 + (-1 : Int32)) (ls' := [some (.ref B), some (.int x1), some (.int x2), some (.int (x3 + (-1 : Int32))), some (.int (s.1 20)), none]) i157_181 rfl (by rfl) rfl ?_
  refine gm_ev.goto (tgt := 74) i157_184 (by decide) ?_
  refine gm_ev.le (a := [some (.ref B), some (.int x1), some (.int x2), some (.int (x3 + (-1 : Int32))), none, none]) (gm_leL.le (show gm_leL _ _ from ⟨rfl, ⟨rfl, ⟨rfl, ⟨rfl, trivial⟩⟩⟩⟩)) ?_
  exact k
theorem r_apply_74_ffftfft_at74 {N0 : Nat} {K : Nat → Nat} {d B : Nat} {s : mS} {G : gm_H} {sz sl : Nat} {R : gm_R} {x1 : Int32} {x2 : Int32} {x3 : Int32} {r4 : Int32} {r9 : Int64} (hN : N0 ≤ B) (c1 : ¬ x3 < 0) (c2 : (s.1 23) = 0) (c3 : x3 = x2) (t5 : gm_to N0 K ra_nm (ra_mt K) d 154 [.ref B, .int x1] (bM B (mH B s) G) sz (.returned (some (.int r4)), bM B (mH B s) G, sz, 0)) (c6 : r4 = 0) (c7 : (s.1 23) = 0) (c8 : ¬ (s.1 20) ≤ (s.1 20)) (t10 : gm_to N0 K ra_nm (ra_mt K) d 156 [.ref B, .int x1] (bM B (mH B s) G) sz (.returned (some (.long r9)), bM B (mH B s) G, sz, 0)) (c11 : (lg_cmp r9 (100000 : Int64)) ≤ 0) (k : gm_ev N0 K ra_nm (ra_mt K) d none (gm_I cX12_apply) (gm_lkf (lkX12 false K)) 74 [some (.ref B), some (.int x1), some (.int x2), some (.int (x3 + (-1 : Int32))), none, none] [] (bM B (mH B (mI s 23 (0 : Int32))) G) sz sl R) : gm_ev N0 K ra_nm (ra_mt K) d none (gm_I cX12_apply) (gm_lkf (lkX12 false K)) 74 [some (.ref B), some (.int x1), some (.int x2), some (.int x3), none, none] [] (bM B (mH B s) G) sz sl R := by
  refine gm_ev.iload_n i157_74 rfl ?_
  refine gm_ev.if_lt_f i157_75 c1 ?_
  refine gm_ev.aload_n i157_78 rfl ?_
  refine gm_ev.getfield (v := .int (s.1 23)) i157_79 rfl (bM_fld (j := 0) (fs := mF B s) rfl rfl) ?_
  refine gm_ev.if_ne_f i157_82 c2 ?_
  refine gm_ev.iload_n i157_85 rfl ?_
  refine gm_ev.iload_n i157_86 rfl ?_
  refine gm_ev.icmp_ne_f i157_87 c3 ?_
  refine gm_ev.aload_n i157_90 rfl ?_
  refine gm_ev.getfield (v := .int (s.1 20)) i157_91 rfl (bM_fld (j := 0) (fs := mF B s) rfl rfl) ?_
  refine gm_ev.istore (ls' := [some (.ref B), some (.int x1), some (.int x2), some (.int x3), some (.int (s.1 20)), none]) i157_94 (Nat.le_of_ble_eq_true rfl) rfl ?_
  refine gm_ev.aload_n i157_96 rfl ?_
  refine gm_ev.iload_n i157_97 rfl ?_
  refine gm_ev.callV gm_mono_run (av := [.int x1]) (r := []) (ci := 11) (fs := mF B s) (bM_get (j := 0) rfl) i157_98 rfl rfl rfl (Nat.le_of_ble_eq_true rfl) t5 ?_
  refine gm_ev.if_eq_t (tgt := 144) i157_101 (by decide) c6 ?_
  refine gm_ev.aload_n i157_144 rfl ?_
  refine gm_ev.aload_n i157_145 rfl ?_
  refine gm_ev.getfield (v := .int (s.1 23)) i157_146 rfl (bM_fld (j := 0) (fs := mF B s) rfl rfl) ?_
  refine gm_ev.if_ne_f i157_149 c7 ?_
  refine gm_ev.aload_n i157_152 rfl ?_
  refine gm_ev.getfield (v := .int (s.1 20)) i157_153 rfl (bM_fld (j := 0) (fs := mF B s) rfl rfl) ?_
  refine gm_ev.iload i157_156 rfl ?_
  refine gm_ev.icmp_le_f i157_158 c8 ?_
  refine gm_ev.aload_n i157_161 rfl ?_
  refine gm_ev.iload_n i157_162 rfl ?_
  refine gm_ev.callV gm_mono_run (av := [.int x1]) (r := [.ref B]) (ci := 11) (fs := mF B s) (bM_get (j := 0) rfl) i157_163 rfl rfl rfl (Nat.le_of_ble_eq_true rfl) t10 ?_
  refine gm_ev.ldc2 i157_166 rfl ?_
  refine gm_ev.lcmp i157_169 ?_
  refine gm_ev.if_le_t (tgt := 177) i157_170 (by decide) c11 ?_
  refine gm_ev.iconst (v := 0) i157_177 (by decide) ?_
  refine gm_ev.putfield (M' := (bM B (mH B (mI s 23 (0 : Int32))) G)) i157_178 rfl (bM_put (j := 0) (fs := mF B s) rfl (Nat.le_of_ble_eq_true rfl) hN (gm_fit_z (by decide)) rfl) ?_
  refine gm_ev.iinc (v := x3 + (-1 : Int32)) (ls' := [some (.ref B), some (.int x1), some (.int x2), some (.int (x3 + (-1 : Int32))), some (.int (s.1 20)), none]) i157_181 rfl (by rfl) rfl ?_
  refine gm_ev.goto (tgt := 74) i157_184 (by decide) ?_
  refine gm_ev.le (a := [some (.ref B), some (.int x1), some (.int x2), some (.int (x3 + (-1 : Int32))), none, none]) (gm_leL.le (show gm_leL _ _ from ⟨rfl, ⟨rfl, ⟨rfl, ⟨rfl, trivial⟩⟩⟩⟩)) ?_
  exact k
theorem r_apply_74_ffftfff_at74 {N0 : Nat} {K : Nat → Nat} {d B : Nat} {s : mS} {G : gm_H} {sz sl : Nat} {R : gm_R} {x1 : Int32} {x2 : Int32} {x3 : Int32} {r4 : Int32} {r9 : Int64} (hN : N0 ≤ B) (c1 : ¬ x3 < 0) (c2 : (s.1 23) = 0) (c3 : x3 = x2) (t5 : gm_to N0 K ra_nm (ra_mt K) d 154 [.ref B, .int x1] (bM B (mH B s) G) sz (.returned (some (.int r4)), bM B (mH B s) G, sz, 0)) (c6 : r4 = 0) (c7 : (s.1 23) = 0) (c8 : ¬ (s.1 20) ≤ (s.1 20)) (t10 : gm_to N0 K ra_nm (ra_mt K) d 156 [.ref B, .int x1] (bM B (mH B s) G) sz (.returned (some (.long r9)), bM B (mH B s) G, sz, 0)) (c11 : ¬ (lg_cmp r9 (100000 : Int64)) ≤ 0) (k : gm_ev N0 K ra_nm (ra_mt K) d none (gm_I cX12_apply) (gm_lkf (lkX12 false K)) 74 [some (.ref B), some (.int x1), some (.int x2), some (.int (x3 + (-1 : Int32))), none, none] [] (bM B (mH B (mI s 23 (1 : Int32))) G) sz sl R) : gm_ev N0 K ra_nm (ra_mt K) d none (gm_I cX12_apply) (gm_lkf (lkX12 false K)) 74 [some (.ref B), some (.int x1), some (.int x2), some (.int x3), none, none] [] (bM B (mH B s) G) sz sl R := by
  refine gm_ev.iload_n i157_74 rfl ?_
  refine gm_ev.if_lt_f i157_75 c1 ?_
  refine gm_ev.aload_n i157_78 rfl ?_
  refine gm_ev.getfield (v := .int (s.1 23)) i157_79 rfl (bM_fld (j := 0) (fs := mF B s) rfl rfl) ?_
  refine gm_ev.if_ne_f i157_82 c2 ?_
  refine gm_ev.iload_n i157_85 rfl ?_
  refine gm_ev.iload_n i157_86 rfl ?_
  refine gm_ev.icmp_ne_f i157_87 c3 ?_
  refine gm_ev.aload_n i157_90 rfl ?_
  refine gm_ev.getfield (v := .int (s.1 20)) i157_91 rfl (bM_fld (j := 0) (fs := mF B s) rfl rfl) ?_
  refine gm_ev.istore (ls' := [some (.ref B), some (.int x1), some (.int x2), some (.int x3), some (.int (s.1 20)), none]) i157_94 (Nat.le_of_ble_eq_true rfl) rfl ?_
  refine gm_ev.aload_n i157_96 rfl ?_
  refine gm_ev.iload_n i157_97 rfl ?_
  refine gm_ev.callV gm_mono_run (av := [.int x1]) (r := []) (ci := 11) (fs := mF B s) (bM_get (j := 0) rfl) i157_98 rfl rfl rfl (Nat.le_of_ble_eq_true rfl) t5 ?_
  refine gm_ev.if_eq_t (tgt := 144) i157_101 (by decide) c6 ?_
  refine gm_ev.aload_n i157_144 rfl ?_
  refine gm_ev.aload_n i157_145 rfl ?_
  refine gm_ev.getfield (v := .int (s.1 23)) i157_146 rfl (bM_fld (j := 0) (fs := mF B s) rfl rfl) ?_
  refine gm_ev.if_ne_f i157_149 c7 ?_
  refine gm_ev.aload_n i157_152 rfl ?_
  refine gm_ev.getfield (v := .int (s.1 20)) i157_153 rfl (bM_fld (j := 0) (fs := mF B s) rfl rfl) ?_
  refine gm_ev.iload i157_156 rfl ?_
  refine gm_ev.icmp_le_f i157_158 c8 ?_
  refine gm_ev.aload_n i157_161 rfl ?_
  refine gm_ev.iload_n i157_162 rfl ?_
  refine gm_ev.callV gm_mono_run (av := [.int x1]) (r := [.ref B]) (ci := 11) (fs := mF B s) (bM_get (j := 0) rfl) i157_163 rfl rfl rfl (Nat.le_of_ble_eq_true rfl) t10 ?_
  refine gm_ev.ldc2 i157_166 rfl ?_
  refine gm_ev.lcmp i157_169 ?_
  refine gm_ev.if_le_f i157_170 c11 ?_
  refine gm_ev.iconst (v := 1) i157_173 (by decide) ?_
  refine gm_ev.goto (tgt := 178) i157_174 (by decide) ?_
  refine gm_ev.putfield (M' := (bM B (mH B (mI s 23 (1 : Int32))) G)) i157_178 rfl (bM_put (j := 0) (fs := mF B s) rfl (Nat.le_of_ble_eq_true rfl) hN (gm_fit_z (by decide)) rfl) ?_
  refine gm_ev.iinc (v := x3 + (-1 : Int32)) (ls' := [some (.ref B), some (.int x1), some (.int x2), some (.int (x3 + (-1 : Int32))), some (.int (s.1 20)), none]) i157_181 rfl (by rfl) rfl ?_
  refine gm_ev.goto (tgt := 74) i157_184 (by decide) ?_
  refine gm_ev.le (a := [some (.ref B), some (.int x1), some (.int x2), some (.int (x3 + (-1 : Int32))), none, none]) (gm_leL.le (show gm_leL _ _ from ⟨rfl, ⟨rfl, ⟨rfl, ⟨rfl, trivial⟩⟩⟩⟩)) ?_
  exact k
theorem r_apply_74_fffft_at74 {N0 : Nat} {K : Nat → Nat} {d B : Nat} {s : mS} {G : gm_H} {sz sl : Nat} {R : gm_R} {x1 : Int32} {x2 : Int32} {x3 : Int32} {r4 : Int32} {k7 : Nat} {r8 : Int64} {r10 : Int64} {r12 : Int64} {s15 : mS} (hN : N0 ≤ B) (c1 : ¬ x3 < 0) (c2 : (s.1 23) = 0) (c3 : x3 = x2) (t5 : gm_to N0 K ra_nm (ra_mt K) d 154 [.ref B, .int x1] (bM B (mH B s) G) sz (.returned (some (.int r4)), bM B (mH B s) G, sz, 0)) (c6 : ¬ r4 = 0) (ek7 : ((6 : Int32) * x1) = nI k7) (lk7 : k7 < 144) (t9 : gm_to N0 K ra_nm (ra_mt K) d 153 [.ref B, .int ((6 : Int32) * x1), .int (0 : Int32)] (bM B (mH B s) G) sz (.returned (some (.long r8)), bM B (mH B s) G, sz, 0)) (t11 : gm_to N0 K ra_nm (ra_mt K) d 153 [.ref B, .int ((6 : Int32) * x1), .int (1 : Int32)] (bM B (mH B s) G) sz (.returned (some (.long r10)), bM B (mH B s) G, sz, 0)) (t13 : gm_to N0 K ra_nm (ra_mt K) d 153 [.ref B, .int ((6 : Int32) * x1), .int (2 : Int32)] (bM B (mH B s) G) sz (.returned (some (.long r12)), bM B (mH B s) G, sz, 0)) (t14 : gm_to N0 K ra_nm (ra_mt K) d 145 [.ref B, .int (s.2.1 14 k7), .long r8, .long r10, .long r12] (bM B (mH B s) G) sz (.returned none, bM B (mH B s15) G, sz, 0)) (c16 : ¬ (s15.1 23) = 0) (k : gm_ev N0 K ra_nm (ra_mt K) d none (gm_I cX12_apply) (gm_lkf (lkX12 false K)) 74 [some (.ref B), some (.int x1), some (.int x2), some (.int (x3 + (-1 : Int32))), none, none] [] (bM B (mH B (mI s15 23 (1 : Int32))) G) sz sl R) : gm_ev N0 K ra_nm (ra_mt K) d none (gm_I cX12_apply) (gm_lkf (lkX12 false K)) 74 [some (.ref B), some (.int x1), some (.int x2), some (.int x3), none, none] [] (bM B (mH B s) G) sz sl R := by
  refine gm_ev.iload_n i157_74 rfl ?_
  refine gm_ev.if_lt_f i157_75 c1 ?_
  refine gm_ev.aload_n i157_78 rfl ?_
  refine gm_ev.getfield (v := .int (s.1 23)) i157_79 rfl (bM_fld (j := 0) (fs := mF B s) rfl rfl) ?_
  refine gm_ev.if_ne_f i157_82 c2 ?_
  refine gm_ev.iload_n i157_85 rfl ?_
  refine gm_ev.iload_n i157_86 rfl ?_
  refine gm_ev.icmp_ne_f i157_87 c3 ?_
  refine gm_ev.aload_n i157_90 rfl ?_
  refine gm_ev.getfield (v := .int (s.1 20)) i157_91 rfl (bM_fld (j := 0) (fs := mF B s) rfl rfl) ?_
  refine gm_ev.istore (ls' := [some (.ref B), some (.int x1), some (.int x2), some (.int x3), some (.int (s.1 20)), none]) i157_94 (Nat.le_of_ble_eq_true rfl) rfl ?_
  refine gm_ev.aload_n i157_96 rfl ?_
  refine gm_ev.iload_n i157_97 rfl ?_
  refine gm_ev.callV gm_mono_run (av := [.int x1]) (r := []) (ci := 11) (fs := mF B s) (bM_get (j := 0) rfl) i157_98 rfl rfl rfl (Nat.le_of_ble_eq_true rfl) t5 ?_
  refine gm_ev.if_eq_f i157_101 c6 ?_
  refine gm_ev.aload_n i157_104 rfl ?_
  refine gm_ev.aload_n i157_105 rfl ?_
  refine gm_ev.getfield (v := .ref (B + 6)) i157_106 rfl (bM_fld (j := 0) (fs := mF B s) rfl rfl) ?_
  refine gm_ev.bipush (v := 6) i157_109 (by decide) ?_
  refine gm_ev.iload_n i157_111 rfl ?_
  refine gm_ev.imul i157_112 ?_
  refine gm_ev.iaload i157_113 (bM_ai (j := 6) (n := 144) (f := s.2.1 14) rfl ek7 lk7 (by decide)) ?_
  refine gm_ev.aload_n i157_114 rfl ?_
  refine gm_ev.bipush (v := 6) i157_115 (by decide) ?_
  refine gm_ev.iload_n i157_117 rfl ?_
  refine gm_ev.imul i157_118 ?_
  refine gm_ev.iconst (v := 0) i157_119 (by decide) ?_
  refine gm_ev.callV gm_mono_run (av := [.int ((6 : Int32) * x1), .int (0 : Int32)]) (r := [.int (s.2.1 14 k7), .ref B]) (ci := 11) (fs := mF B s) (bM_get (j := 0) rfl) i157_120 rfl rfl rfl (Nat.le_of_ble_eq_true rfl) t9 ?_
  refine gm_ev.aload_n i157_123 rfl ?_
  refine gm_ev.bipush (v := 6) i157_124 (by decide) ?_
  refine gm_ev.iload_n i157_126 rfl ?_
  refine gm_ev.imul i157_127 ?_
  refine gm_ev.iconst (v := 1) i157_128 (by decide) ?_
  refine gm_ev.callV gm_mono_run (av := [.int ((6 : Int32) * x1), .int (1 : Int32)]) (r := [.long r8, .int (s.2.1 14 k7), .ref B]) (ci := 11) (fs := mF B s) (bM_get (j := 0) rfl) i157_129 rfl rfl rfl (Nat.le_of_ble_eq_true rfl) t11 ?_
  refine gm_ev.aload_n i157_132 rfl ?_
  refine gm_ev.bipush (v := 6) i157_133 (by decide) ?_
  refine gm_ev.iload_n i157_135 rfl ?_
  refine gm_ev.imul i157_136 ?_
  refine gm_ev.iconst (v := 2) i157_137 (by decide) ?_
  refine gm_ev.callV gm_mono_run (av := [.int ((6 : Int32) * x1), .int (2 : Int32)]) (r := [.long r10, .long r8, .int (s.2.1 14 k7), .ref B]) (ci := 11) (fs := mF B s) (bM_get (j := 0) rfl) i157_138 rfl rfl rfl (Nat.le_of_ble_eq_true rfl) t13 ?_
  refine gm_ev.callV gm_mono_run (av := [.int (s.2.1 14 k7), .long r8, .long r10, .long r12]) (r := []) (ci := 11) (fs := mF B s) (bM_get (j := 0) rfl) i157_141 rfl rfl rfl (Nat.le_of_ble_eq_true rfl) t14 ?_
  refine gm_ev.aload_n i157_144 rfl ?_
  refine gm_ev.aload_n i157_145 rfl ?_
  refine gm_ev.getfield (v := .int (s15.1 23)) i157_146 rfl (bM_fld (j := 0) (fs := mF B s15) rfl rfl) ?_
  refine gm_ev.if_ne_t (tgt := 173) i157_149 (by decide) c16 ?_
  refine gm_ev.iconst (v := 1) i157_173 (by decide) ?_
  refine gm_ev.goto (tgt := 178) i157_174 (by decide) ?_
  refine gm_ev.putfield (M' := (bM B (mH B (mI s15 23 (1 : Int32))) G)) i157_178 rfl (bM_put (j := 0) (fs := mF B s15) rfl (Nat.le_of_ble_eq_true rfl) hN (gm_fit_z (by decide)) rfl) ?_
  refine gm_ev.iinc (v := x3 + (-1 : Int32)) (ls' := [some (.ref B), some (.int x1), some (.int x2), some (.int (x3 + (-1 : Int32))), some (.int (s.1 20)), none]) i157_181 rfl (by rfl) rfl ?_
  refine gm_ev.goto (tgt := 74) i157_184 (by decide) ?_
  refine gm_ev.le (a := [some (.ref B), some (.int x1), some (.int x2), some (.int (x3 + (-1 : Int32))), none, none]) (gm_leL.le (show gm_leL _ _ from ⟨rfl, ⟨rfl, ⟨rfl, ⟨rfl, trivial⟩⟩⟩⟩)) ?_
  exact k
theorem r_apply_74_ffffft_at74 {N0 : Nat} {K : Nat → Nat} {d B : Nat} {s : mS} {G : gm_H} {sz sl : Nat} {R : gm_R} {x1 : Int32} {x2 : Int32} {x3 : Int32} {r4 : Int32} {k7 : Nat} {r8 : Int64} {r10 : Int64} {r12 : Int64} {s15 : mS} (hN : N0 ≤ B) (c1 : ¬ x3 < 0) (c2 : (s.1 23) = 0) (c3 : x3 = x2) (t5 : gm_to N0 K ra_nm (ra_mt K) d 154 [.ref B, .int x1] (bM B (mH B s) G) sz (.returned (some (.int r4)), bM B (mH B s) G, sz, 0)) (c6 : ¬ r4 = 0) (ek7 : ((6 : Int32) * x1) = nI k7) (lk7 : k7 < 144) (t9 : gm_to N0 K ra_nm (ra_mt K) d 153 [.ref B, .int ((6 : Int32) * x1), .int (0 : Int32)] (bM B (mH B s) G) sz (.returned (some (.long r8)), bM B (mH B s) G, sz, 0)) (t11 : gm_to N0 K ra_nm (ra_mt K) d 153 [.ref B, .int ((6 : Int32) * x1), .int (1 : Int32)] (bM B (mH B s) G) sz (.returned (some (.long r10)), bM B (mH B s) G, sz, 0)) (t13 : gm_to N0 K ra_nm (ra_mt K) d 153 [.ref B, .int ((6 : Int32) * x1), .int (2 : Int32)] (bM B (mH B s) G) sz (.returned (some (.long r12)), bM B (mH B s) G, sz, 0)) (t14 : gm_to N0 K ra_nm (ra_mt K) d 145 [.ref B, .int (s.2.1 14 k7), .long r8, .long r10, .long r12] (bM B (mH B s) G) sz (.returned none, bM B (mH B s15) G, sz, 0)) (c16 : (s15.1 23) = 0) (c17 : (s15.1 20) ≤ (s.1 20)) (k : gm_ev N0 K ra_nm (ra_mt K) d none (gm_I cX12_apply) (gm_lkf (lkX12 false K)) 74 [some (.ref B), some (.int x1), some (.int x2), some (.int (x3 + (-1 : Int32))), none, none] [] (bM B (mH B (mI s15 23 (0 : Int32))) G) sz sl R) : gm_ev N0 K ra_nm (ra_mt K) d none (gm_I cX12_apply) (gm_lkf (lkX12 false K)) 74 [some (.ref B), some (.int x1), some (.int x2), some (.int x3), none, none] [] (bM B (mH B s) G) sz sl R := by
  refine gm_ev.iload_n i157_74 rfl ?_
  refine gm_ev.if_lt_f i157_75 c1 ?_
  refine gm_ev.aload_n i157_78 rfl ?_
  refine gm_ev.getfield (v := .int (s.1 23)) i157_79 rfl (bM_fld (j := 0) (fs := mF B s) rfl rfl) ?_
  refine gm_ev.if_ne_f i157_82 c2 ?_
  refine gm_ev.iload_n i157_85 rfl ?_
  refine gm_ev.iload_n i157_86 rfl ?_
  refine gm_ev.icmp_ne_f i157_87 c3 ?_
  refine gm_ev.aload_n i157_90 rfl ?_
  refine gm_ev.getfield (v := .int (s.1 20)) i157_91 rfl (bM_fld (j := 0) (fs := mF B s) rfl rfl) ?_
  refine gm_ev.istore (ls' := [some (.ref B), some (.int x1), some (.int x2), some (.int x3), some (.int (s.1 20)), none]) i157_94 (Nat.le_of_ble_eq_true rfl) rfl ?_
  refine gm_ev.aload_n i157_96 rfl ?_
  refine gm_ev.iload_n i157_97 rfl ?_
  refine gm_ev.callV gm_mono_run (av := [.int x1]) (r := []) (ci := 11) (fs := mF B s) (bM_get (j := 0) rfl) i157_98 rfl rfl rfl (Nat.le_of_ble_eq_true rfl) t5 ?_
  refine gm_ev.if_eq_f i157_101 c6 ?_
  refine gm_ev.aload_n i157_104 rfl ?_
  refine gm_ev.aload_n i157_105 rfl ?_
  refine gm_ev.getfield (v := .ref (B + 6)) i157_106 rfl (bM_fld (j := 0) (fs := mF B s) rfl rfl) ?_
  refine gm_ev.bipush (v := 6) i157_109 (by decide) ?_
  refine gm_ev.iload_n i157_111 rfl ?_
  refine gm_ev.imul i157_112 ?_
  refine gm_ev.iaload i157_113 (bM_ai (j := 6) (n := 144) (f := s.2.1 14) rfl ek7 lk7 (by decide)) ?_
  refine gm_ev.aload_n i157_114 rfl ?_
  refine gm_ev.bipush (v := 6) i157_115 (by decide) ?_
  refine gm_ev.iload_n i157_117 rfl ?_
  refine gm_ev.imul i157_118 ?_
  refine gm_ev.iconst (v := 0) i157_119 (by decide) ?_
  refine gm_ev.callV gm_mono_run (av := [.int ((6 : Int32) * x1), .int (0 : Int32)]) (r := [.int (s.2.1 14 k7), .ref B]) (ci := 11) (fs := mF B s) (bM_get (j := 0) rfl) i157_120 rfl rfl rfl (Nat.le_of_ble_eq_true rfl) t9 ?_
  refine gm_ev.aload_n i157_123 rfl ?_
  refine gm_ev.bipush (v := 6) i157_124 (by decide) ?_
  refine gm_ev.iload_n i157_126 rfl ?_
  refine gm_ev.imul i157_127 ?_
  refine gm_ev.iconst (v := 1) i157_128 (by decide) ?_
  refine gm_ev.callV gm_mono_run (av := [.int ((6 : Int32) * x1), .int (1 : Int32)]) (r := [.long r8, .int (s.2.1 14 k7), .ref B]) (ci := 11) (fs := mF B s) (bM_get (j := 0) rfl) i157_129 rfl rfl rfl (Nat.le_of_ble_eq_true rfl) t11 ?_
  refine gm_ev.aload_n i157_132 rfl ?_
  refine gm_ev.bipush (v := 6) i157_133 (by decide) ?_
  refine gm_ev.iload_n i157_135 rfl ?_
  refine gm_ev.imul i157_136 ?_
  refine gm_ev.iconst (v := 2) i157_137 (by decide) ?_
  refine gm_ev.callV gm_mono_run (av := [.int ((6 : Int32) * x1), .int (2 : Int32)]) (r := [.long r10, .long r8, .int (s.2.1 14 k7), .ref B]) (ci := 11) (fs := mF B s) (bM_get (j := 0) rfl) i157_138 rfl rfl rfl (Nat.le_of_ble_eq_true rfl) t13 ?_
  refine gm_ev.callV gm_mono_run (av := [.int (s.2.1 14 k7), .long r8, .long r10, .long r12]) (r := []) (ci := 11) (fs := mF B s) (bM_get (j := 0) rfl) i157_141 rfl rfl rfl (Nat.le_of_ble_eq_true rfl) t14 ?_
  refine gm_ev.aload_n i157_144 rfl ?_
  refine gm_ev.aload_n i157_145 rfl ?_
  refine gm_ev.getfield (v := .int (s15.1 23)) i157_146 rfl (bM_fld (j := 0) (fs := mF B s15) rfl rfl) ?_
  refine gm_ev.if_ne_f i157_149 c16 ?_
  refine gm_ev.aload_n i157_152 rfl ?_
  refine gm_ev.getfield (v := .int (s15.1 20)) i157_153 rfl (bM_fld (j := 0) (fs := mF B s15) rfl rfl) ?_
  refine gm_ev.iload i157_156 rfl ?_
  refine gm_ev.icmp_le_t (tgt := 177) i157_158 (by decide) c17 ?_
  refine gm_ev.iconst (v := 0) i157_177 (by decide) ?_
  refine gm_ev.putfield (M' := (bM B (mH B (mI s15 23 (0 : Int32))) G)) i157_178 rfl (bM_put (j := 0) (fs := mF B s15) rfl (Nat.le_of_ble_eq_true rfl) hN (gm_fit_z (by decide)) rfl) ?_
  refine gm_ev.iinc (v := x3 + (-1 : Int32)) (ls' := [some (.ref B), some (.int x1), some (.int x2), some (.int (x3 + (-1 : Int32))), some (.int (s.1 20)), none]) i157_181 rfl (by rfl) rfl ?_
  refine gm_ev.goto (tgt := 74) i157_184 (by decide) ?_
  refine gm_ev.le (a := [some (.ref B), some (.int x1), some (.int x2), some (.int (x3 + (-1 : Int32))), none, none]) (gm_leL.le (show gm_leL _ _ from ⟨rfl, ⟨rfl, ⟨rfl, ⟨rfl, trivial⟩⟩⟩⟩)) ?_
  exact k
theorem r_apply_74_fffffft_at74 {N0 : Nat} {K : Nat → Nat} {d B : Nat} {s : mS} {G : gm_H} {sz sl : Nat} {R : gm_R} {x1 : Int32} {x2 : Int32} {x3 : Int32} {r4 : Int32} {k7 : Nat} {r8 : Int64} {r10 : Int64} {r12 : Int64} {s15 : mS} {r18 : Int64} (hN : N0 ≤ B) (c1 : ¬ x3 < 0) (c2 : (s.1 23) = 0) (c3 : x3 = x2) (t5 : gm_to N0 K ra_nm (ra_mt K) d 154 [.ref B, .int x1] (bM B (mH B s) G) sz (.returned (some (.int r4)), bM B (mH B s) G, sz, 0)) (c6 : ¬ r4 = 0) (ek7 : ((6 : Int32) * x1) = nI k7) (lk7 : k7 < 144) (t9 : gm_to N0 K ra_nm (ra_mt K) d 153 [.ref B, .int ((6 : Int32) * x1), .int (0 : Int32)] (bM B (mH B s) G) sz (.returned (some (.long r8)), bM B (mH B s) G, sz, 0)) (t11 : gm_to N0 K ra_nm (ra_mt K) d 153 [.ref B, .int ((6 : Int32) * x1), .int (1 : Int32)] (bM B (mH B s) G) sz (.returned (some (.long r10)), bM B (mH B s) G, sz, 0)) (t13 : gm_to N0 K ra_nm (ra_mt K) d 153 [.ref B, .int ((6 : Int32) * x1), .int (2 : Int32)] (bM B (mH B s) G) sz (.returned (some (.long r12)), bM B (mH B s) G, sz, 0)) (t14 : gm_to N0 K ra_nm (ra_mt K) d 145 [.ref B, .int (s.2.1 14 k7), .long r8, .long r10, .long r12] (bM B (mH B s) G) sz (.returned none, bM B (mH B s15) G, sz, 0)) (c16 : (s15.1 23) = 0) (c17 : ¬ (s15.1 20) ≤ (s.1 20)) (t19 : gm_to N0 K ra_nm (ra_mt K) d 156 [.ref B, .int x1] (bM B (mH B s15) G) sz (.returned (some (.long r18)), bM B (mH B s15) G, sz, 0)) (c20 : (lg_cmp r18 (100000 : Int64)) ≤ 0) (k : gm_ev N0 K ra_nm (ra_mt K) d none (gm_I cX12_apply) (gm_lkf (lkX12 false K)) 74 [some (.ref B), some (.int x1), some (.int x2), some (.int (x3 + (-1 : Int32))), none, none] [] (bM B (mH B (mI s15 23 (0 : Int32))) G) sz sl R) : gm_ev N0 K ra_nm (ra_mt K) d none (gm_I cX12_apply) (gm_lkf (lkX12 false K)) 74 [some (.ref B), some (.int x1), some (.int x2), some (.int x3), none, none] [] (bM B (mH B s) G) sz sl R := by
  refine gm_ev.iload_n i157_74 rfl ?_
  refine gm_ev.if_lt_f i157_75 c1 ?_
  refine gm_ev.aload_n i157_78 rfl ?_
  refine gm_ev.getfield (v := .int (s.1 23)) i157_79 rfl (bM_fld (j := 0) (fs := mF B s) rfl rfl) ?_
  refine gm_ev.if_ne_f i157_82 c2 ?_
  refine gm_ev.iload_n i157_85 rfl ?_
  refine gm_ev.iload_n i157_86 rfl ?_
  refine gm_ev.icmp_ne_f i157_87 c3 ?_
  refine gm_ev.aload_n i157_90 rfl ?_
  refine gm_ev.getfield (v := .int (s.1 20)) i157_91 rfl (bM_fld (j := 0) (fs := mF B s) rfl rfl) ?_
  refine gm_ev.istore (ls' := [some (.ref B), some (.int x1), some (.int x2), some (.int x3), some (.int (s.1 20)), none]) i157_94 (Nat.le_of_ble_eq_true rfl) rfl ?_
  refine gm_ev.aload_n i157_96 rfl ?_
  refine gm_ev.iload_n i157_97 rfl ?_
  refine gm_ev.callV gm_mono_run (av := [.int x1]) (r := []) (ci := 11) (fs := mF B s) (bM_get (j := 0) rfl) i157_98 rfl rfl rfl (Nat.le_of_ble_eq_true rfl) t5 ?_
  refine gm_ev.if_eq_f i157_101 c6 ?_
  refine gm_ev.aload_n i157_104 rfl ?_
  refine gm_ev.aload_n i157_105 rfl ?_
  refine gm_ev.getfield (v := .ref (B + 6)) i157_106 rfl (bM_fld (j := 0) (fs := mF B s) rfl rfl) ?_
  refine gm_ev.bipush (v := 6) i157_109 (by decide) ?_
  refine gm_ev.iload_n i157_111 rfl ?_
  refine gm_ev.imul i157_112 ?_
  refine gm_ev.iaload i157_113 (bM_ai (j := 6) (n := 144) (f := s.2.1 14) rfl ek7 lk7 (by decide)) ?_
  refine gm_ev.aload_n i157_114 rfl ?_
  refine gm_ev.bipush (v := 6) i157_115 (by decide) ?_
  refine gm_ev.iload_n i157_117 rfl ?_
  refine gm_ev.imul i157_118 ?_
  refine gm_ev.iconst (v := 0) i157_119 (by decide) ?_
  refine gm_ev.callV gm_mono_run (av := [.int ((6 : Int32) * x1), .int (0 : Int32)]) (r := [.int (s.2.1 14 k7), .ref B]) (ci := 11) (fs := mF B s) (bM_get (j := 0) rfl) i157_120 rfl rfl rfl (Nat.le_of_ble_eq_true rfl) t9 ?_
  refine gm_ev.aload_n i157_123 rfl ?_
  refine gm_ev.bipush (v := 6) i157_124 (by decide) ?_
  refine gm_ev.iload_n i157_126 rfl ?_
  refine gm_ev.imul i157_127 ?_
  refine gm_ev.iconst (v := 1) i157_128 (by decide) ?_
  refine gm_ev.callV gm_mono_run (av := [.int ((6 : Int32) * x1), .int (1 : Int32)]) (r := [.long r8, .int (s.2.1 14 k7), .ref B]) (ci := 11) (fs := mF B s) (bM_get (j := 0) rfl) i157_129 rfl rfl rfl (Nat.le_of_ble_eq_true rfl) t11 ?_
  refine gm_ev.aload_n i157_132 rfl ?_
  refine gm_ev.bipush (v := 6) i157_133 (by decide) ?_
  refine gm_ev.iload_n i157_135 rfl ?_
  refine gm_ev.imul i157_136 ?_
  refine gm_ev.iconst (v := 2) i157_137 (by decide) ?_
  refine gm_ev.callV gm_mono_run (av := [.int ((6 : Int32) * x1), .int (2 : Int32)]) (r := [.long r10, .long r8, .int (s.2.1 14 k7), .ref B]) (ci := 11) (fs := mF B s) (bM_get (j := 0) rfl) i157_138 rfl rfl rfl (Nat.le_of_ble_eq_true rfl) t13 ?_
  refine gm_ev.callV gm_mono_run (av := [.int (s.2.1 14 k7), .long r8, .long r10, .long r12]) (r := []) (ci := 11) (fs := mF B s) (bM_get (j := 0) rfl) i157_141 rfl rfl rfl (Nat.le_of_ble_eq_true rfl) t14 ?_
  refine gm_ev.aload_n i157_144 rfl ?_
  refine gm_ev.aload_n i157_145 rfl ?_
  refine gm_ev.getfield (v := .int (s15.1 23)) i157_146 rfl (bM_fld (j := 0) (fs := mF B s15) rfl rfl) ?_
  refine gm_ev.if_ne_f i157_149 c16 ?_
  refine gm_ev.aload_n i157_152 rfl ?_
  refine gm_ev.getfield (v := .int (s15.1 20)) i157_153 rfl (bM_fld (j := 0) (fs := mF B s15) rfl rfl) ?_
  refine gm_ev.iload i157_156 rfl ?_
  refine gm_ev.icmp_le_f i157_158 c17 ?_
  refine gm_ev.aload_n i157_161 rfl ?_
  refine gm_ev.iload_n i157_162 rfl ?_
  refine gm_ev.callV gm_mono_run (av := [.int x1]) (r := [.ref B]) (ci := 11) (fs := mF B s15) (bM_get (j := 0) rfl) i157_163 rfl rfl rfl (Nat.le_of_ble_eq_true rfl) t19 ?_
  refine gm_ev.ldc2 i157_166 rfl ?_
  refine gm_ev.lcmp i157_169 ?_
  refine gm_ev.if_le_t (tgt := 177) i157_170 (by decide) c20 ?_
  refine gm_ev.iconst (v := 0) i157_177 (by decide) ?_
  refine gm_ev.putfield (M' := (bM B (mH B (mI s15 23 (0 : Int32))) G)) i157_178 rfl (bM_put (j := 0) (fs := mF B s15) rfl (Nat.le_of_ble_eq_true rfl) hN (gm_fit_z (by decide)) rfl) ?_
  refine gm_ev.iinc (v := x3 + (-1 : Int32)) (ls' := [some (.ref B), some (.int x1), some (.int x2), some (.int (x3 + (-1 : Int32))), some (.int (s.1 20)), none]) i157_181 rfl (by rfl) rfl ?_
  refine gm_ev.goto (tgt := 74) i157_184 (by decide) ?_
  refine gm_ev.le (a := [some (.ref B), some (.int x1), some (.int x2), some (.int (x3 + (-1 : Int32))), none, none]) (gm_leL.le (show gm_leL _ _ from ⟨rfl, ⟨rfl, ⟨rfl, ⟨rfl, trivial⟩⟩⟩⟩)) ?_
  exact k
theorem r_apply_74_fffffff_at74 {N0 : Nat} {K : Nat → Nat} {d B : Nat} {s : mS} {G : gm_H} {sz sl : Nat} {R : gm_R} {x1 : Int32} {x2 : Int32} {x3 : Int32} {r4 : Int32} {k7 : Nat} {r8 : Int64} {r10 : Int64} {r12 : Int64} {s15 : mS} {r18 : Int64} (hN : N0 ≤ B) (c1 : ¬ x3 < 0) (c2 : (s.1 23) = 0) (c3 : x3 = x2) (t5 : gm_to N0 K ra_nm (ra_mt K) d 154 [.ref B, .int x1] (bM B (mH B s) G) sz (.returned (some (.int r4)), bM B (mH B s) G, sz, 0)) (c6 : ¬ r4 = 0) (ek7 : ((6 : Int32) * x1) = nI k7) (lk7 : k7 < 144) (t9 : gm_to N0 K ra_nm (ra_mt K) d 153 [.ref B, .int ((6 : Int32) * x1), .int (0 : Int32)] (bM B (mH B s) G) sz (.returned (some (.long r8)), bM B (mH B s) G, sz, 0)) (t11 : gm_to N0 K ra_nm (ra_mt K) d 153 [.ref B, .int ((6 : Int32) * x1), .int (1 : Int32)] (bM B (mH B s) G) sz (.returned (some (.long r10)), bM B (mH B s) G, sz, 0)) (t13 : gm_to N0 K ra_nm (ra_mt K) d 153 [.ref B, .int ((6 : Int32) * x1), .int (2 : Int32)] (bM B (mH B s) G) sz (.returned (some (.long r12)), bM B (mH B s) G, sz, 0)) (t14 : gm_to N0 K ra_nm (ra_mt K) d 145 [.ref B, .int (s.2.1 14 k7), .long r8, .long r10, .long r12] (bM B (mH B s) G) sz (.returned none, bM B (mH B s15) G, sz, 0)) (c16 : (s15.1 23) = 0) (c17 : ¬ (s15.1 20) ≤ (s.1 20)) (t19 : gm_to N0 K ra_nm (ra_mt K) d 156 [.ref B, .int x1] (bM B (mH B s15) G) sz (.returned (some (.long r18)), bM B (mH B s15) G, sz, 0)) (c20 : ¬ (lg_cmp r18 (100000 : Int64)) ≤ 0) (k : gm_ev N0 K ra_nm (ra_mt K) d none (gm_I cX12_apply) (gm_lkf (lkX12 false K)) 74 [some (.ref B), some (.int x1), some (.int x2), some (.int (x3 + (-1 : Int32))), none, none] [] (bM B (mH B (mI s15 23 (1 : Int32))) G) sz sl R) : gm_ev N0 K ra_nm (ra_mt K) d none (gm_I cX12_apply) (gm_lkf (lkX12 false K)) 74 [some (.ref B), some (.int x1), some (.int x2), some (.int x3), none, none] [] (bM B (mH B s) G) sz sl R := by
  refine gm_ev.iload_n i157_74 rfl ?_
  refine gm_ev.if_lt_f i157_75 c1 ?_
  refine gm_ev.aload_n i157_78 rfl ?_
  refine gm_ev.getfield (v := .int (s.1 23)) i157_79 rfl (bM_fld (j := 0) (fs := mF B s) rfl rfl) ?_
  refine gm_ev.if_ne_f i157_82 c2 ?_
  refine gm_ev.iload_n i157_85 rfl ?_
  refine gm_ev.iload_n i157_86 rfl ?_
  refine gm_ev.icmp_ne_f i157_87 c3 ?_
  refine gm_ev.aload_n i157_90 rfl ?_
  refine gm_ev.getfield (v := .int (s.1 20)) i157_91 rfl (bM_fld (j := 0) (fs := mF B s) rfl rfl) ?_
  refine gm_ev.istore (ls' := [some (.ref B), some (.int x1), some (.int x2), some (.int x3), some (.int (s.1 20)), none]) i157_94 (Nat.le_of_ble_eq_true rfl) rfl ?_
  refine gm_ev.aload_n i157_96 rfl ?_
  refine gm_ev.iload_n i157_97 rfl ?_
  refine gm_ev.callV gm_mono_run (av := [.int x1]) (r := []) (ci := 11) (fs := mF B s) (bM_get (j := 0) rfl) i157_98 rfl rfl rfl (Nat.le_of_ble_eq_true rfl) t5 ?_
  refine gm_ev.if_eq_f i157_101 c6 ?_
  refine gm_ev.aload_n i157_104 rfl ?_
  refine gm_ev.aload_n i157_105 rfl ?_
  refine gm_ev.getfield (v := .ref (B + 6)) i157_106 rfl (bM_fld (j := 0) (fs := mF B s) rfl rfl) ?_
  refine gm_ev.bipush (v := 6) i157_109 (by decide) ?_
  refine gm_ev.iload_n i157_111 rfl ?_
  refine gm_ev.imul i157_112 ?_
  refine gm_ev.iaload i157_113 (bM_ai (j := 6) (n := 144) (f := s.2.1 14) rfl ek7 lk7 (by decide)) ?_
  refine gm_ev.aload_n i157_114 rfl ?_
  refine gm_ev.bipush (v := 6) i157_115 (by decide) ?_
  refine gm_ev.iload_n i157_117 rfl ?_
  refine gm_ev.imul i157_118 ?_
  refine gm_ev.iconst (v := 0) i157_119 (by decide) ?_
  refine gm_ev.callV gm_mono_run (av := [.int ((6 : Int32) * x1), .int (0 : Int32)]) (r := [.int (s.2.1 14 k7), .ref B]) (ci := 11) (fs := mF B s) (bM_get (j := 0) rfl) i157_120 rfl rfl rfl (Nat.le_of_ble_eq_true rfl) t9 ?_
  refine gm_ev.aload_n i157_123 rfl ?_
  refine gm_ev.bipush (v := 6) i157_124 (by decide) ?_
  refine gm_ev.iload_n i157_126 rfl ?_
  refine gm_ev.imul i157_127 ?_
  refine gm_ev.iconst (v := 1) i157_128 (by decide) ?_
  refine gm_ev.callV gm_mono_run (av := [.int ((6 : Int32) * x1), .int (1 : Int32)]) (r := [.long r8, .int (s.2.1 14 k7), .ref B]) (ci := 11) (fs := mF B s) (bM_get (j := 0) rfl) i157_129 rfl rfl rfl (Nat.le_of_ble_eq_true rfl) t11 ?_
  refine gm_ev.aload_n i157_132 rfl ?_
  refine gm_ev.bipush (v := 6) i157_133 (by decide) ?_
  refine gm_ev.iload_n i157_135 rfl ?_
  refine gm_ev.imul i157_136 ?_
  refine gm_ev.iconst (v := 2) i157_137 (by decide) ?_
  refine gm_ev.callV gm_mono_run (av := [.int ((6 : Int32) * x1), .int (2 : Int32)]) (r := [.long r10, .long r8, .int (s.2.1 14 k7), .ref B]) (ci := 11) (fs := mF B s) (bM_get (j := 0) rfl) i157_138 rfl rfl rfl (Nat.le_of_ble_eq_true rfl) t13 ?_
  refine gm_ev.callV gm_mono_run (av := [.int (s.2.1 14 k7), .long r8, .long r10, .long r12]) (r := []) (ci := 11) (fs := mF B s) (bM_get (j := 0) rfl) i157_141 rfl rfl rfl (Nat.le_of_ble_eq_true rfl) t14 ?_
  refine gm_ev.aload_n i157_144 rfl ?_
  refine gm_ev.aload_n i157_145 rfl ?_
  refine gm_ev.getfield (v := .int (s15.1 23)) i157_146 rfl (bM_fld (j := 0) (fs := mF B s15) rfl rfl) ?_
  refine gm_ev.if_ne_f i157_149 c16 ?_
  refine gm_ev.aload_n i157_152 rfl ?_
  refine gm_ev.getfield (v := .int (s15.1 20)) i157_153 rfl (bM_fld (j := 0) (fs := mF B s15) rfl rfl) ?_
  refine gm_ev.iload i157_156 rfl ?_
  refine gm_ev.icmp_le_f i157_158 c17 ?_
  refine gm_ev.aload_n i157_161 rfl ?_
  refine gm_ev.iload_n i157_162 rfl ?_
  refine gm_ev.callV gm_mono_run (av := [.int x1]) (r := [.ref B]) (ci := 11) (fs := mF B s15) (bM_get (j := 0) rfl) i157_163 rfl rfl rfl (Nat.le_of_ble_eq_true rfl) t19 ?_
  refine gm_ev.ldc2 i157_166 rfl ?_
  refine gm_ev.lcmp i157_169 ?_
  refine gm_ev.if_le_f i157_170 c20 ?_
  refine gm_ev.iconst (v := 1) i157_173 (by decide) ?_
  refine gm_ev.goto (tgt := 178) i157_174 (by decide) ?_
  refine gm_ev.putfield (M' := (bM B (mH B (mI s15 23 (1 : Int32))) G)) i157_178 rfl (bM_put (j := 0) (fs := mF B s15) rfl (Nat.le_of_ble_eq_true rfl) hN (gm_fit_z (by decide)) rfl) ?_
  refine gm_ev.iinc (v := x3 + (-1 : Int32)) (ls' := [some (.ref B), some (.int x1), some (.int x2), some (.int (x3 + (-1 : Int32))), some (.int (s.1 20)), none]) i157_181 rfl (by rfl) rfl ?_
  refine gm_ev.goto (tgt := 74) i157_184 (by decide) ?_
  refine gm_ev.le (a := [some (.ref B), some (.int x1), some (.int x2), some (.int (x3 + (-1 : Int32))), none, none]) (gm_leL.le (show gm_leL _ _ from ⟨rfl, ⟨rfl, ⟨rfl, ⟨rfl, trivial⟩⟩⟩⟩)) ?_
  exact k
theorem r_apply_190_ttttt_at74 {N0 : Nat} {K : Nat → Nat} {d B : Nat} {s : mS} {G : gm_H} {sz sl : Nat} {R : gm_R} {x1 : Int32} {x2 : Int32} {x3 : Int32} {x4 : Int32} {k2 : Nat} {k3 : Nat} {k4 : Nat} {k6 : Nat} {k9 : Nat} {k11 : Nat} (hN : N0 ≤ B) (c1 : (6 : Int32) ≤ x4) (ek2 : x3 = nI k2) (lk2 : k2 < 7) (ek3 : x3 = nI k3) (lk3 : k3 < 7) (ek4 : ((((6 : Int32) * x1) + (1 : Int32)) + x3) = nI k4) (lk4 : k4 < 144) (c5 : (s.2.1 13 k4) = 0) (ek6 : x3 = nI k6) (lk6 : k6 < 7) (c7 : (s.1 20) ≤ ((upd (s.2.1 27) k3 ((s.2.1 27 k2) + (1 : Int32))) k6)) (c8 : ¬ (0 : Int32) = 0) (ek9 : ((((6 : Int32) * x1) + (1 : Int32)) + x3) = nI k9) (lk9 : k9 < 144) (c10 : ¬ (s.2.1 13 k9) = 0) (ek11 : (x3 + (1 : Int32)) = nI k11) (lk11 : k11 < 7) (k : gm_ev N0 K ra_nm (ra_mt K) d none (gm_I cX12_apply) (gm_lkf (lkX12 false K)) 74 [some (.ref B), some (.int x1), some (.int x2), some (.int (x3 + (1 : Int32))), none, none] [] (bM B (mH B (mA (mA s 27 (upd (s.2.1 27) k3 ((s.2.1 27 k2) + (1 : Int32)))) 27 (upd (upd (s.2.1 27) k3 ((s.2.1 27 k2) + (1 : Int32))) k11 (-1 : Int32)))) G) sz sl R) : gm_ev N0 K ra_nm (ra_mt K) d none (gm_I cX12_apply) (gm_lkf (lkX12 false K)) 190 [some (.ref B), some (.int x1), some (.int x2), some (.int x3), some (.int x4), none] [] (bM B (mH B s) G) sz sl R := by
  refine gm_ev.iload i157_190 rfl ?_
  refine gm_ev.bipush (v := 6) i157_192 (by decide) ?_
  refine gm_ev.icmp_ge_t (tgt := 232) i157_194 (by decide) c1 ?_
  refine gm_ev.bipush (v := 6) i157_232 (by decide) ?_
  refine gm_ev.iload_n i157_234 rfl ?_
  refine gm_ev.imul i157_235 ?_
  refine gm_ev.iconst (v := 1) i157_236 (by decide) ?_
  refine gm_ev.iadd i157_237 ?_
  refine gm_ev.iload_n i157_238 rfl ?_
  refine gm_ev.iadd i157_239 ?_
  refine gm_ev.istore (ls' := [some (.ref B), some (.int x1), some (.int x2), some (.int x3), some (.int ((((6 : Int32) * x1) + (1 : Int32)) + x3)), none]) i157_240 (Nat.le_of_ble_eq_true rfl) rfl ?_
  refine gm_ev.aload_n i157_242 rfl ?_
  refine gm_ev.getfield (v := .ref (B + 16)) i157_243 rfl (bM_fld (j := 0) (fs := mF B s) rfl rfl) ?_
  refine gm_ev.iload_n i157_246 rfl ?_
  refine gm_ev.dup2 i157_247 rfl rfl ?_
  refine gm_ev.iaload i157_248 (bM_ai (j := 16) (n := 7) (f := s.2.1 27) rfl ek2 lk2 (by decide)) ?_
  refine gm_ev.iconst (v := 1) i157_249 (by decide) ?_
  refine gm_ev.iadd i157_250 ?_
  refine gm_ev.iastore (M' := (bM B (mH B (mA s 27 (upd (s.2.1 27) k3 ((s.2.1 27 k2) + (1 : Int32))))) G)) i157_251 (bM_asti (j := 16) (n := 7) (f := s.2.1 27) rfl ek3 lk3 (by decide) hN rfl) ?_
  refine gm_ev.aload_n i157_252 rfl ?_
  refine gm_ev.getfield (v := .ref (B + 5)) i157_253 rfl (bM_fld (j := 0) (fs := mF B (mA s 27 (upd (s.2.1 27) k3 ((s.2.1 27 k2) + (1 : Int32))))) rfl rfl) ?_
  refine gm_ev.iload i157_256 rfl ?_
  refine gm_ev.iaload i157_258 (bM_ai (j := 5) (n := 144) (f := s.2.1 13) rfl ek4 lk4 (by decide)) ?_
  refine gm_ev.if_eq_t (tgt := 279) i157_259 (by decide) c5 ?_
  refine gm_ev.aload_n i157_279 rfl ?_
  refine gm_ev.getfield (v := .ref (B + 16)) i157_280 rfl (bM_fld (j := 0) (fs := mF B (mA s 27 (upd (s.2.1 27) k3 ((s.2.1 27 k2) + (1 : Int32))))) rfl rfl) ?_
  refine gm_ev.iload_n i157_283 rfl ?_
  refine gm_ev.iaload i157_284 (bM_ai (j := 16) (n := 7) (f := (upd (s.2.1 27) k3 ((s.2.1 27 k2) + (1 : Int32)))) rfl ek6 lk6 (by decide)) ?_
  refine gm_ev.aload_n i157_285 rfl ?_
  refine gm_ev.getfield (v := .int (s.1 20)) i157_286 rfl (bM_fld (j := 0) (fs := mF B (mA s 27 (upd (s.2.1 27) k3 ((s.2.1 27 k2) + (1 : Int32))))) rfl rfl) ?_
  refine gm_ev.icmp_ge_t (tgt := 296) i157_289 (by decide) c7 ?_
  refine gm_ev.iconst (v := 0) i157_296 (by decide) ?_
  refine gm_ev.istore (ls' := [some (.ref B), some (.int x1), some (.int x2), some (.int x3), some (.int ((((6 : Int32) * x1) + (1 : Int32)) + x3)), some (.int (0 : Int32))]) i157_297 (Nat.le_of_ble_eq_true rfl) rfl ?_
  refine gm_ev.iload i157_299 rfl ?_
  refine gm_ev.if_ne_t (tgt := 310) i157_301 (by decide) c8 ?_
  refine gm_ev.aload_n i157_310 rfl ?_
  refine gm_ev.getfield (v := .ref (B + 5)) i157_311 rfl (bM_fld (j := 0) (fs := mF B (mA s 27 (upd (s.2.1 27) k3 ((s.2.1 27 k2) + (1 : Int32))))) rfl rfl) ?_
  refine gm_ev.iload i157_314 rfl ?_
  refine gm_ev.iaload i157_316 (bM_ai (j := 5) (n := 144) (f := s.2.1 13) rfl ek9 lk9 (by decide)) ?_
  refine gm_ev.if_ne_t (tgt := 336) i157_317 (by decide) c10 ?_
  refine gm_ev.iinc (v := x3 + (1 : Int32)) (ls' := [some (.ref B), some (.int x1), some (.int x2), some (.int (x3 + (1 : Int32))), some (.int ((((6 : Int32) * x1) + (1 : Int32)) + x3)), some (.int (0 : Int32))]) i157_336 rfl (by rfl) rfl ?_
  refine gm_ev.aload_n i157_339 rfl ?_
  refine gm_ev.getfield (v := .ref (B + 16)) i157_340 rfl (bM_fld (j := 0) (fs := mF B (mA s 27 (upd (s.2.1 27) k3 ((s.2.1 27 k2) + (1 : Int32))))) rfl rfl) ?_
  refine gm_ev.iload_n i157_343 rfl ?_
  refine gm_ev.iconst (v := -1) i157_344 (by decide) ?_
  refine gm_ev.iastore (M' := (bM B (mH B (mA (mA s 27 (upd (s.2.1 27) k3 ((s.2.1 27 k2) + (1 : Int32)))) 27 (upd (upd (s.2.1 27) k3 ((s.2.1 27 k2) + (1 : Int32))) k11 (-1 : Int32)))) G)) i157_345 (bM_asti (j := 16) (n := 7) (f := (upd (s.2.1 27) k3 ((s.2.1 27 k2) + (1 : Int32)))) rfl ek11 lk11 (by decide) hN rfl) ?_
  refine gm_ev.goto (tgt := 74) i157_346 (by decide) ?_
  refine gm_ev.le (a := [some (.ref B), some (.int x1), some (.int x2), some (.int (x3 + (1 : Int32))), none, none]) (gm_leL.le (show gm_leL _ _ from ⟨rfl, ⟨rfl, ⟨rfl, ⟨rfl, trivial⟩⟩⟩⟩)) ?_
  exact k
theorem r_apply_190_ttttft_at74 {N0 : Nat} {K : Nat → Nat} {d B : Nat} {s : mS} {G : gm_H} {sz sl : Nat} {R : gm_R} {x1 : Int32} {x2 : Int32} {x3 : Int32} {x4 : Int32} {k2 : Nat} {k3 : Nat} {k4 : Nat} {k6 : Nat} {k9 : Nat} {k11 : Nat} {r12 : Int32} {s14 : mS} (hN : N0 ≤ B) (c1 : (6 : Int32) ≤ x4) (ek2 : x3 = nI k2) (lk2 : k2 < 7) (ek3 : x3 = nI k3) (lk3 : k3 < 7) (ek4 : ((((6 : Int32) * x1) + (1 : Int32)) + x3) = nI k4) (lk4 : k4 < 144) (c5 : (s.2.1 13 k4) = 0) (ek6 : x3 = nI k6) (lk6 : k6 < 7) (c7 : (s.1 20) ≤ ((upd (s.2.1 27) k3 ((s.2.1 27 k2) + (1 : Int32))) k6)) (c8 : ¬ (0 : Int32) = 0) (ek9 : ((((6 : Int32) * x1) + (1 : Int32)) + x3) = nI k9) (lk9 : k9 < 144) (c10 : (s.2.1 13 k9) = 0) (ek11 : x3 = nI k11) (lk11 : k11 < 7) (t13 : gm_to N0 K ra_nm (ra_mt K) d 150 [.ref B, .int ((((6 : Int32) * x1) + (1 : Int32)) + x3), .int ((upd (s.2.1 27) k3 ((s.2.1 27 k2) + (1 : Int32))) k11), .int x3] (bM B (mH B (mA s 27 (upd (s.2.1 27) k3 ((s.2.1 27 k2) + (1 : Int32))))) G) sz (.returned (some (.int r12)), bM B (mH B s14) G, sz, 0)) (c15 : r12 = 0) (k : gm_ev N0 K ra_nm (ra_mt K) d none (gm_I cX12_apply) (gm_lkf (lkX12 false K)) 74 [some (.ref B), some (.int x1), some (.int x2), some (.int x3), none, none] [] (bM B (mH B s14) G) sz sl R) : gm_ev N0 K ra_nm (ra_mt K) d none (gm_I cX12_apply) (gm_lkf (lkX12 false K)) 190 [some (.ref B), some (.int x1), some (.int x2), some (.int x3), some (.int x4), none] [] (bM B (mH B s) G) sz sl R := by
  refine gm_ev.iload i157_190 rfl ?_
  refine gm_ev.bipush (v := 6) i157_192 (by decide) ?_
  refine gm_ev.icmp_ge_t (tgt := 232) i157_194 (by decide) c1 ?_
  refine gm_ev.bipush (v := 6) i157_232 (by decide) ?_
  refine gm_ev.iload_n i157_234 rfl ?_
  refine gm_ev.imul i157_235 ?_
  refine gm_ev.iconst (v := 1) i157_236 (by decide) ?_
  refine gm_ev.iadd i157_237 ?_
  refine gm_ev.iload_n i157_238 rfl ?_
  refine gm_ev.iadd i157_239 ?_
  refine gm_ev.istore (ls' := [some (.ref B), some (.int x1), some (.int x2), some (.int x3), some (.int ((((6 : Int32) * x1) + (1 : Int32)) + x3)), none]) i157_240 (Nat.le_of_ble_eq_true rfl) rfl ?_
  refine gm_ev.aload_n i157_242 rfl ?_
  refine gm_ev.getfield (v := .ref (B + 16)) i157_243 rfl (bM_fld (j := 0) (fs := mF B s) rfl rfl) ?_
  refine gm_ev.iload_n i157_246 rfl ?_
  refine gm_ev.dup2 i157_247 rfl rfl ?_
  refine gm_ev.iaload i157_248 (bM_ai (j := 16) (n := 7) (f := s.2.1 27) rfl ek2 lk2 (by decide)) ?_
  refine gm_ev.iconst (v := 1) i157_249 (by decide) ?_
  refine gm_ev.iadd i157_250 ?_
  refine gm_ev.iastore (M' := (bM B (mH B (mA s 27 (upd (s.2.1 27) k3 ((s.2.1 27 k2) + (1 : Int32))))) G)) i157_251 (bM_asti (j := 16) (n := 7) (f := s.2.1 27) rfl ek3 lk3 (by decide) hN rfl) ?_
  refine gm_ev.aload_n i157_252 rfl ?_
  refine gm_ev.getfield (v := .ref (B + 5)) i157_253 rfl (bM_fld (j := 0) (fs := mF B (mA s 27 (upd (s.2.1 27) k3 ((s.2.1 27 k2) + (1 : Int32))))) rfl rfl) ?_
  refine gm_ev.iload i157_256 rfl ?_
  refine gm_ev.iaload i157_258 (bM_ai (j := 5) (n := 144) (f := s.2.1 13) rfl ek4 lk4 (by decide)) ?_
  refine gm_ev.if_eq_t (tgt := 279) i157_259 (by decide) c5 ?_
  refine gm_ev.aload_n i157_279 rfl ?_
  refine gm_ev.getfield (v := .ref (B + 16)) i157_280 rfl (bM_fld (j := 0) (fs := mF B (mA s 27 (upd (s.2.1 27) k3 ((s.2.1 27 k2) + (1 : Int32))))) rfl rfl) ?_
  refine gm_ev.iload_n i157_283 rfl ?_
  refine gm_ev.iaload i157_284 (bM_ai (j := 16) (n := 7) (f := (upd (s.2.1 27) k3 ((s.2.1 27 k2) + (1 : Int32)))) rfl ek6 lk6 (by decide)) ?_
  refine gm_ev.aload_n i157_285 rfl ?_
  refine gm_ev.getfield (v := .int (s.1 20)) i157_286 rfl (bM_fld (j := 0) (fs := mF B (mA s 27 (upd (s.2.1 27) k3 ((s.2.1 27 k2) + (1 : Int32))))) rfl rfl) ?_
  refine gm_ev.icmp_ge_t (tgt := 296) i157_289 (by decide) c7 ?_
  refine gm_ev.iconst (v := 0) i157_296 (by decide) ?_
  refine gm_ev.istore (ls' := [some (.ref B), some (.int x1), some (.int x2), some (.int x3), some (.int ((((6 : Int32) * x1) + (1 : Int32)) + x3)), some (.int (0 : Int32))]) i157_297 (Nat.le_of_ble_eq_true rfl) rfl ?_
  refine gm_ev.iload i157_299 rfl ?_
  refine gm_ev.if_ne_t (tgt := 310) i157_301 (by decide) c8 ?_
  refine gm_ev.aload_n i157_310 rfl ?_
  refine gm_ev.getfield (v := .ref (B + 5)) i157_311 rfl (bM_fld (j := 0) (fs := mF B (mA s 27 (upd (s.2.1 27) k3 ((s.2.1 27 k2) + (1 : Int32))))) rfl rfl) ?_
  refine gm_ev.iload i157_314 rfl ?_
  refine gm_ev.iaload i157_316 (bM_ai (j := 5) (n := 144) (f := s.2.1 13) rfl ek9 lk9 (by decide)) ?_
  refine gm_ev.if_ne_f i157_317 c10 ?_
  refine gm_ev.aload_n i157_320 rfl ?_
  refine gm_ev.iload i157_321 rfl ?_
  refine gm_ev.aload_n i157_323 rfl ?_
  refine gm_ev.getfield (v := .ref (B + 16)) i157_324 rfl (bM_fld (j := 0) (fs := mF B (mA s 27 (upd (s.2.1 27) k3 ((s.2.1 27 k2) + (1 : Int32))))) rfl rfl) ?_
  refine gm_ev.iload_n i157_327 rfl ?_
  refine gm_ev.iaload i157_328 (bM_ai (j := 16) (n := 7) (f := (upd (s.2.1 27) k3 ((s.2.1 27 k2) + (1 : Int32)))) rfl ek11 lk11 (by decide)) ?_
  refine gm_ev.iload_n i157_329 rfl ?_
  refine gm_ev.callV gm_mono_run (av := [.int ((((6 : Int32) * x1) + (1 : Int32)) + x3), .int ((upd (s.2.1 27) k3 ((s.2.1 27 k2) + (1 : Int32))) k11), .int x3]) (r := []) (ci := 11) (fs := mF B (mA s 27 (upd (s.2.1 27) k3 ((s.2.1 27 k2) + (1 : Int32))))) (bM_get (j := 0) rfl) i157_330 rfl rfl rfl (Nat.le_of_ble_eq_true rfl) t13 ?_
  refine gm_ev.if_eq_t (tgt := 346) i157_333 (by decide) c15 ?_
  refine gm_ev.goto (tgt := 74) i157_346 (by decide) ?_
  refine gm_ev.le (a := [some (.ref B), some (.int x1), some (.int x2), some (.int x3), none, none]) (gm_leL.le (show gm_leL _ _ from ⟨rfl, ⟨rfl, ⟨rfl, ⟨rfl, trivial⟩⟩⟩⟩)) ?_
  exact k
theorem r_apply_190_ttttff_at74 {N0 : Nat} {K : Nat → Nat} {d B : Nat} {s : mS} {G : gm_H} {sz sl : Nat} {R : gm_R} {x1 : Int32} {x2 : Int32} {x3 : Int32} {x4 : Int32} {k2 : Nat} {k3 : Nat} {k4 : Nat} {k6 : Nat} {k9 : Nat} {k11 : Nat} {r12 : Int32} {s14 : mS} {k16 : Nat} (hN : N0 ≤ B) (c1 : (6 : Int32) ≤ x4) (ek2 : x3 = nI k2) (lk2 : k2 < 7) (ek3 : x3 = nI k3) (lk3 : k3 < 7) (ek4 : ((((6 : Int32) * x1) + (1 : Int32)) + x3) = nI k4) (lk4 : k4 < 144) (c5 : (s.2.1 13 k4) = 0) (ek6 : x3 = nI k6) (lk6 : k6 < 7) (c7 : (s.1 20) ≤ ((upd (s.2.1 27) k3 ((s.2.1 27 k2) + (1 : Int32))) k6)) (c8 : ¬ (0 : Int32) = 0) (ek9 : ((((6 : Int32) * x1) + (1 : Int32)) + x3) = nI k9) (lk9 : k9 < 144) (c10 : (s.2.1 13 k9) = 0) (ek11 : x3 = nI k11) (lk11 : k11 < 7) (t13 : gm_to N0 K ra_nm (ra_mt K) d 150 [.ref B, .int ((((6 : Int32) * x1) + (1 : Int32)) + x3), .int ((upd (s.2.1 27) k3 ((s.2.1 27 k2) + (1 : Int32))) k11), .int x3] (bM B (mH B (mA s 27 (upd (s.2.1 27) k3 ((s.2.1 27 k2) + (1 : Int32))))) G) sz (.returned (some (.int r12)), bM B (mH B s14) G, sz, 0)) (c15 : ¬ r12 = 0) (ek16 : (x3 + (1 : Int32)) = nI k16) (lk16 : k16 < 7) (k : gm_ev N0 K ra_nm (ra_mt K) d none (gm_I cX12_apply) (gm_lkf (lkX12 false K)) 74 [some (.ref B), some (.int x1), some (.int x2), some (.int (x3 + (1 : Int32))), none, none] [] (bM B (mH B (mA s14 27 (upd (s14.2.1 27) k16 (-1 : Int32)))) G) sz sl R) : gm_ev N0 K ra_nm (ra_mt K) d none (gm_I cX12_apply) (gm_lkf (lkX12 false K)) 190 [some (.ref B), some (.int x1), some (.int x2), some (.int x3), some (.int x4), none] [] (bM B (mH B s) G) sz sl R := by
  refine gm_ev.iload i157_190 rfl ?_
  refine gm_ev.bipush (v := 6) i157_192 (by decide) ?_
  refine gm_ev.icmp_ge_t (tgt := 232) i157_194 (by decide) c1 ?_
  refine gm_ev.bipush (v := 6) i157_232 (by decide) ?_
  refine gm_ev.iload_n i157_234 rfl ?_
  refine gm_ev.imul i157_235 ?_
  refine gm_ev.iconst (v := 1) i157_236 (by decide) ?_
  refine gm_ev.iadd i157_237 ?_
  refine gm_ev.iload_n i157_238 rfl ?_
  refine gm_ev.iadd i157_239 ?_
  refine gm_ev.istore (ls' := [some (.ref B), some (.int x1), some (.int x2), some (.int x3), some (.int ((((6 : Int32) * x1) + (1 : Int32)) + x3)), none]) i157_240 (Nat.le_of_ble_eq_true rfl) rfl ?_
  refine gm_ev.aload_n i157_242 rfl ?_
  refine gm_ev.getfield (v := .ref (B + 16)) i157_243 rfl (bM_fld (j := 0) (fs := mF B s) rfl rfl) ?_
  refine gm_ev.iload_n i157_246 rfl ?_
  refine gm_ev.dup2 i157_247 rfl rfl ?_
  refine gm_ev.iaload i157_248 (bM_ai (j := 16) (n := 7) (f := s.2.1 27) rfl ek2 lk2 (by decide)) ?_
  refine gm_ev.iconst (v := 1) i157_249 (by decide) ?_
  refine gm_ev.iadd i157_250 ?_
  refine gm_ev.iastore (M' := (bM B (mH B (mA s 27 (upd (s.2.1 27) k3 ((s.2.1 27 k2) + (1 : Int32))))) G)) i157_251 (bM_asti (j := 16) (n := 7) (f := s.2.1 27) rfl ek3 lk3 (by decide) hN rfl) ?_
  refine gm_ev.aload_n i157_252 rfl ?_
  refine gm_ev.getfield (v := .ref (B + 5)) i157_253 rfl (bM_fld (j := 0) (fs := mF B (mA s 27 (upd (s.2.1 27) k3 ((s.2.1 27 k2) + (1 : Int32))))) rfl rfl) ?_
  refine gm_ev.iload i157_256 rfl ?_
  refine gm_ev.iaload i157_258 (bM_ai (j := 5) (n := 144) (f := s.2.1 13) rfl ek4 lk4 (by decide)) ?_
  refine gm_ev.if_eq_t (tgt := 279) i157_259 (by decide) c5 ?_
  refine gm_ev.aload_n i157_279 rfl ?_
  refine gm_ev.getfield (v := .ref (B + 16)) i157_280 rfl (bM_fld (j := 0) (fs := mF B (mA s 27 (upd (s.2.1 27) k3 ((s.2.1 27 k2) + (1 : Int32))))) rfl rfl) ?_
  refine gm_ev.iload_n i157_283 rfl ?_
  refine gm_ev.iaload i157_284 (bM_ai (j := 16) (n := 7) (f := (upd (s.2.1 27) k3 ((s.2.1 27 k2) + (1 : Int32)))) rfl ek6 lk6 (by decide)) ?_
  refine gm_ev.aload_n i157_285 rfl ?_
  refine gm_ev.getfield (v := .int (s.1 20)) i157_286 rfl (bM_fld (j := 0) (fs := mF B (mA s 27 (upd (s.2.1 27) k3 ((s.2.1 27 k2) + (1 : Int32))))) rfl rfl) ?_
  refine gm_ev.icmp_ge_t (tgt := 296) i157_289 (by decide) c7 ?_
  refine gm_ev.iconst (v := 0) i157_296 (by decide) ?_
  refine gm_ev.istore (ls' := [some (.ref B), some (.int x1), some (.int x2), some (.int x3), some (.int ((((6 : Int32) * x1) + (1 : Int32)) + x3)), some (.int (0 : Int32))]) i157_297 (Nat.le_of_ble_eq_true rfl) rfl ?_
  refine gm_ev.iload i157_299 rfl ?_
  refine gm_ev.if_ne_t (tgt := 310) i157_301 (by decide) c8 ?_
  refine gm_ev.aload_n i157_310 rfl ?_
  refine gm_ev.getfield (v := .ref (B + 5)) i157_311 rfl (bM_fld (j := 0) (fs := mF B (mA s 27 (upd (s.2.1 27) k3 ((s.2.1 27 k2) + (1 : Int32))))) rfl rfl) ?_
  refine gm_ev.iload i157_314 rfl ?_
  refine gm_ev.iaload i157_316 (bM_ai (j := 5) (n := 144) (f := s.2.1 13) rfl ek9 lk9 (by decide)) ?_
  refine gm_ev.if_ne_f i157_317 c10 ?_
  refine gm_ev.aload_n i157_320 rfl ?_
  refine gm_ev.iload i157_321 rfl ?_
  refine gm_ev.aload_n i157_323 rfl ?_
  refine gm_ev.getfield (v := .ref (B + 16)) i157_324 rfl (bM_fld (j := 0) (fs := mF B (mA s 27 (upd (s.2.1 27) k3 ((s.2.1 27 k2) + (1 : Int32))))) rfl rfl) ?_
  refine gm_ev.iload_n i157_327 rfl ?_
  refine gm_ev.iaload i157_328 (bM_ai (j := 16) (n := 7) (f := (upd (s.2.1 27) k3 ((s.2.1 27 k2) + (1 : Int32)))) rfl ek11 lk11 (by decide)) ?_
  refine gm_ev.iload_n i157_329 rfl ?_
  refine gm_ev.callV gm_mono_run (av := [.int ((((6 : Int32) * x1) + (1 : Int32)) + x3), .int ((upd (s.2.1 27) k3 ((s.2.1 27 k2) + (1 : Int32))) k11), .int x3]) (r := []) (ci := 11) (fs := mF B (mA s 27 (upd (s.2.1 27) k3 ((s.2.1 27 k2) + (1 : Int32))))) (bM_get (j := 0) rfl) i157_330 rfl rfl rfl (Nat.le_of_ble_eq_true rfl) t13 ?_
  refine gm_ev.if_eq_f i157_333 c15 ?_
  refine gm_ev.iinc (v := x3 + (1 : Int32)) (ls' := [some (.ref B), some (.int x1), some (.int x2), some (.int (x3 + (1 : Int32))), some (.int ((((6 : Int32) * x1) + (1 : Int32)) + x3)), some (.int (0 : Int32))]) i157_336 rfl (by rfl) rfl ?_
  refine gm_ev.aload_n i157_339 rfl ?_
  refine gm_ev.getfield (v := .ref (B + 16)) i157_340 rfl (bM_fld (j := 0) (fs := mF B s14) rfl rfl) ?_
  refine gm_ev.iload_n i157_343 rfl ?_
  refine gm_ev.iconst (v := -1) i157_344 (by decide) ?_
  refine gm_ev.iastore (M' := (bM B (mH B (mA s14 27 (upd (s14.2.1 27) k16 (-1 : Int32)))) G)) i157_345 (bM_asti (j := 16) (n := 7) (f := s14.2.1 27) rfl ek16 lk16 (by decide) hN rfl) ?_
  refine gm_ev.goto (tgt := 74) i157_346 (by decide) ?_
  refine gm_ev.le (a := [some (.ref B), some (.int x1), some (.int x2), some (.int (x3 + (1 : Int32))), none, none]) (gm_leL.le (show gm_leL _ _ from ⟨rfl, ⟨rfl, ⟨rfl, ⟨rfl, trivial⟩⟩⟩⟩)) ?_
  exact k
theorem r_apply_190_tttf_at74 {N0 : Nat} {K : Nat → Nat} {d B : Nat} {s : mS} {G : gm_H} {sz sl : Nat} {R : gm_R} {x1 : Int32} {x2 : Int32} {x3 : Int32} {x4 : Int32} {k2 : Nat} {k3 : Nat} {k4 : Nat} {k6 : Nat} (hN : N0 ≤ B) (c1 : (6 : Int32) ≤ x4) (ek2 : x3 = nI k2) (lk2 : k2 < 7) (ek3 : x3 = nI k3) (lk3 : k3 < 7) (ek4 : ((((6 : Int32) * x1) + (1 : Int32)) + x3) = nI k4) (lk4 : k4 < 144) (c5 : (s.2.1 13 k4) = 0) (ek6 : x3 = nI k6) (lk6 : k6 < 7) (c7 : (s.1 20) ≤ ((upd (s.2.1 27) k3 ((s.2.1 27 k2) + (1 : Int32))) k6)) (c8 : (0 : Int32) = 0) (k : gm_ev N0 K ra_nm (ra_mt K) d none (gm_I cX12_apply) (gm_lkf (lkX12 false K)) 74 [some (.ref B), some (.int x1), some (.int x2), some (.int (x3 + (-1 : Int32))), none, none] [] (bM B (mH B (mA s 27 (upd (s.2.1 27) k3 ((s.2.1 27 k2) + (1 : Int32))))) G) sz sl R) : gm_ev N0 K ra_nm (ra_mt K) d none (gm_I cX12_apply) (gm_lkf (lkX12 false K)) 190 [some (.ref B), some (.int x1), some (.int x2), some (.int x3), some (.int x4), none] [] (bM B (mH B s) G) sz sl R := by
  refine gm_ev.iload i157_190 rfl ?_
  refine gm_ev.bipush (v := 6) i157_192 (by decide) ?_
  refine gm_ev.icmp_ge_t (tgt := 232) i157_194 (by decide) c1 ?_
  refine gm_ev.bipush (v := 6) i157_232 (by decide) ?_
  refine gm_ev.iload_n i157_234 rfl ?_
  refine gm_ev.imul i157_235 ?_
  refine gm_ev.iconst (v := 1) i157_236 (by decide) ?_
  refine gm_ev.iadd i157_237 ?_
  refine gm_ev.iload_n i157_238 rfl ?_
  refine gm_ev.iadd i157_239 ?_
  refine gm_ev.istore (ls' := [some (.ref B), some (.int x1), some (.int x2), some (.int x3), some (.int ((((6 : Int32) * x1) + (1 : Int32)) + x3)), none]) i157_240 (Nat.le_of_ble_eq_true rfl) rfl ?_
  refine gm_ev.aload_n i157_242 rfl ?_
  refine gm_ev.getfield (v := .ref (B + 16)) i157_243 rfl (bM_fld (j := 0) (fs := mF B s) rfl rfl) ?_
  refine gm_ev.iload_n i157_246 rfl ?_
  refine gm_ev.dup2 i157_247 rfl rfl ?_
  refine gm_ev.iaload i157_248 (bM_ai (j := 16) (n := 7) (f := s.2.1 27) rfl ek2 lk2 (by decide)) ?_
  refine gm_ev.iconst (v := 1) i157_249 (by decide) ?_
  refine gm_ev.iadd i157_250 ?_
  refine gm_ev.iastore (M' := (bM B (mH B (mA s 27 (upd (s.2.1 27) k3 ((s.2.1 27 k2) + (1 : Int32))))) G)) i157_251 (bM_asti (j := 16) (n := 7) (f := s.2.1 27) rfl ek3 lk3 (by decide) hN rfl) ?_
  refine gm_ev.aload_n i157_252 rfl ?_
  refine gm_ev.getfield (v := .ref (B + 5)) i157_253 rfl (bM_fld (j := 0) (fs := mF B (mA s 27 (upd (s.2.1 27) k3 ((s.2.1 27 k2) + (1 : Int32))))) rfl rfl) ?_
  refine gm_ev.iload i157_256 rfl ?_
  refine gm_ev.iaload i157_258 (bM_ai (j := 5) (n := 144) (f := s.2.1 13) rfl ek4 lk4 (by decide)) ?_
  refine gm_ev.if_eq_t (tgt := 279) i157_259 (by decide) c5 ?_
  refine gm_ev.aload_n i157_279 rfl ?_
  refine gm_ev.getfield (v := .ref (B + 16)) i157_280 rfl (bM_fld (j := 0) (fs := mF B (mA s 27 (upd (s.2.1 27) k3 ((s.2.1 27 k2) + (1 : Int32))))) rfl rfl) ?_
  refine gm_ev.iload_n i157_283 rfl ?_
  refine gm_ev.iaload i157_284 (bM_ai (j := 16) (n := 7) (f := (upd (s.2.1 27) k3 ((s.2.1 27 k2) + (1 : Int32)))) rfl ek6 lk6 (by decide)) ?_
  refine gm_ev.aload_n i157_285 rfl ?_
  refine gm_ev.getfield (v := .int (s.1 20)) i157_286 rfl (bM_fld (j := 0) (fs := mF B (mA s 27 (upd (s.2.1 27) k3 ((s.2.1 27 k2) + (1 : Int32))))) rfl rfl) ?_
  refine gm_ev.icmp_ge_t (tgt := 296) i157_289 (by decide) c7 ?_
  refine gm_ev.iconst (v := 0) i157_296 (by decide) ?_
  refine gm_ev.istore (ls' := [some (.ref B), some (.int x1), some (.int x2), some (.int x3), some (.int ((((6 : Int32) * x1) + (1 : Int32)) + x3)), some (.int (0 : Int32))]) i157_297 (Nat.le_of_ble_eq_true rfl) rfl ?_
  refine gm_ev.iload i157_299 rfl ?_
  refine gm_ev.if_ne_f i157_301 c8 ?_
  refine gm_ev.iinc (v := x3 + (-1 : Int32)) (ls' := [some (.ref B), some (.int x1), some (.int x2), some (.int (x3 + (-1 : Int32))), some (.int ((((6 : Int32) * x1) + (1 : Int32)) + x3)), some (.int (0 : Int32))]) i157_304 rfl (by rfl) rfl ?_
  refine gm_ev.goto (tgt := 346) i157_307 (by decide) ?_
  refine gm_ev.goto (tgt := 74) i157_346 (by decide) ?_
  refine gm_ev.le (a := [some (.ref B), some (.int x1), some (.int x2), some (.int (x3 + (-1 : Int32))), none, none]) (gm_leL.le (show gm_leL _ _ from ⟨rfl, ⟨rfl, ⟨rfl, ⟨rfl, trivial⟩⟩⟩⟩)) ?_
  exact k
theorem r_apply_190_ttftt_at74 {N0 : Nat} {K : Nat → Nat} {d B : Nat} {s : mS} {G : gm_H} {sz sl : Nat} {R : gm_R} {x1 : Int32} {x2 : Int32} {x3 : Int32} {x4 : Int32} {k2 : Nat} {k3 : Nat} {k4 : Nat} {k6 : Nat} {k9 : Nat} {k11 : Nat} (hN : N0 ≤ B) (c1 : (6 : Int32) ≤ x4) (ek2 : x3 = nI k2) (lk2 : k2 < 7) (ek3 : x3 = nI k3) (lk3 : k3 < 7) (ek4 : ((((6 : Int32) * x1) + (1 : Int32)) + x3) = nI k4) (lk4 : k4 < 144) (c5 : (s.2.1 13 k4) = 0) (ek6 : x3 = nI k6) (lk6 : k6 < 7) (c7 : ¬ (s.1 20) ≤ ((upd (s.2.1 27) k3 ((s.2.1 27 k2) + (1 : Int32))) k6)) (c8 : ¬ (1 : Int32) = 0) (ek9 : ((((6 : Int32) * x1) + (1 : Int32)) + x3) = nI k9) (lk9 : k9 < 144) (c10 : ¬ (s.2.1 13 k9) = 0) (ek11 : (x3 + (1 : Int32)) = nI k11) (lk11 : k11 < 7) (k : gm_ev N0 K ra_nm (ra_mt K) d none (gm_I cX12_apply) (gm_lkf (lkX12 false K)) 74 [some (.ref B), some (.int x1), some (.int x2), some (.int (x3 + (1 : Int32))), none, none] [] (bM B (mH B (mA (mA s 27 (upd (s.2.1 27) k3 ((s.2.1 27 k2) + (1 : Int32)))) 27 (upd (upd (s.2.1 27) k3 ((s.2.1 27 k2) + (1 : Int32))) k11 (-1 : Int32)))) G) sz sl R) : gm_ev N0 K ra_nm (ra_mt K) d none (gm_I cX12_apply) (gm_lkf (lkX12 false K)) 190 [some (.ref B), some (.int x1), some (.int x2), some (.int x3), some (.int x4), none] [] (bM B (mH B s) G) sz sl R := by
  refine gm_ev.iload i157_190 rfl ?_
  refine gm_ev.bipush (v := 6) i157_192 (by decide) ?_
  refine gm_ev.icmp_ge_t (tgt := 232) i157_194 (by decide) c1 ?_
  refine gm_ev.bipush (v := 6) i157_232 (by decide) ?_
  refine gm_ev.iload_n i157_234 rfl ?_
  refine gm_ev.imul i157_235 ?_
  refine gm_ev.iconst (v := 1) i157_236 (by decide) ?_
  refine gm_ev.iadd i157_237 ?_
  refine gm_ev.iload_n i157_238 rfl ?_
  refine gm_ev.iadd i157_239 ?_
  refine gm_ev.istore (ls' := [some (.ref B), some (.int x1), some (.int x2), some (.int x3), some (.int ((((6 : Int32) * x1) + (1 : Int32)) + x3)), none]) i157_240 (Nat.le_of_ble_eq_true rfl) rfl ?_
  refine gm_ev.aload_n i157_242 rfl ?_
  refine gm_ev.getfield (v := .ref (B + 16)) i157_243 rfl (bM_fld (j := 0) (fs := mF B s) rfl rfl) ?_
  refine gm_ev.iload_n i157_246 rfl ?_
  refine gm_ev.dup2 i157_247 rfl rfl ?_
  refine gm_ev.iaload i157_248 (bM_ai (j := 16) (n := 7) (f := s.2.1 27) rfl ek2 lk2 (by decide)) ?_
  refine gm_ev.iconst (v := 1) i157_249 (by decide) ?_
  refine gm_ev.iadd i157_250 ?_
  refine gm_ev.iastore (M' := (bM B (mH B (mA s 27 (upd (s.2.1 27) k3 ((s.2.1 27 k2) + (1 : Int32))))) G)) i157_251 (bM_asti (j := 16) (n := 7) (f := s.2.1 27) rfl ek3 lk3 (by decide) hN rfl) ?_
  refine gm_ev.aload_n i157_252 rfl ?_
  refine gm_ev.getfield (v := .ref (B + 5)) i157_253 rfl (bM_fld (j := 0) (fs := mF B (mA s 27 (upd (s.2.1 27) k3 ((s.2.1 27 k2) + (1 : Int32))))) rfl rfl) ?_
  refine gm_ev.iload i157_256 rfl ?_
  refine gm_ev.iaload i157_258 (bM_ai (j := 5) (n := 144) (f := s.2.1 13) rfl ek4 lk4 (by decide)) ?_
  refine gm_ev.if_eq_t (tgt := 279) i157_259 (by decide) c5 ?_
  refine gm_ev.aload_n i157_279 rfl ?_
  refine gm_ev.getfield (v := .ref (B + 16)) i157_280 rfl (bM_fld (j := 0) (fs := mF B (mA s 27 (upd (s.2.1 27) k3 ((s.2.1 27 k2) + (1 : Int32))))) rfl rfl) ?_
  refine gm_ev.iload_n i157_283 rfl ?_
  refine gm_ev.iaload i157_284 (bM_ai (j := 16) (n := 7) (f := (upd (s.2.1 27) k3 ((s.2.1 27 k2) + (1 : Int32)))) rfl ek6 lk6 (by decide)) ?_
  refine gm_ev.aload_n i157_285 rfl ?_
  refine gm_ev.getfield (v := .int (s.1 20)) i157_286 rfl (bM_fld (j := 0) (fs := mF B (mA s 27 (upd (s.2.1 27) k3 ((s.2.1 27 k2) + (1 : Int32))))) rfl rfl) ?_
  refine gm_ev.icmp_ge_f i157_289 c7 ?_
  refine gm_ev.iconst (v := 1) i157_292 (by decide) ?_
  refine gm_ev.goto (tgt := 297) i157_293 (by decide) ?_
  refine gm_ev.istore (ls' := [some (.ref B), some (.int x1), some (.int x2), some (.int x3), some (.int ((((6 : Int32) * x1) + (1 : Int32)) + x3)), some (.int (1 : Int32))]) i157_297 (Nat.le_of_ble_eq_true rfl) rfl ?_
  refine gm_ev.iload i157_299 rfl ?_
  refine gm_ev.if_ne_t (tgt := 310) i157_301 (by decide) c8 ?_
  refine gm_ev.aload_n i157_310 rfl ?_
  refine gm_ev.getfield (v := .ref (B + 5)) i157_311 rfl (bM_fld (j := 0) (fs := mF B (mA s 27 (upd (s.2.1 27) k3 ((s.2.1 27 k2) + (1 : Int32))))) rfl rfl) ?_
  refine gm_ev.iload i157_314 rfl ?_
  refine gm_ev.iaload i157_316 (bM_ai (j := 5) (n := 144) (f := s.2.1 13) rfl ek9 lk9 (by decide)) ?_
  refine gm_ev.if_ne_t (tgt := 336) i157_317 (by decide) c10 ?_
  refine gm_ev.iinc (v := x3 + (1 : Int32)) (ls' := [some (.ref B), some (.int x1), some (.int x2), some (.int (x3 + (1 : Int32))), some (.int ((((6 : Int32) * x1) + (1 : Int32)) + x3)), some (.int (1 : Int32))]) i157_336 rfl (by rfl) rfl ?_
  refine gm_ev.aload_n i157_339 rfl ?_
  refine gm_ev.getfield (v := .ref (B + 16)) i157_340 rfl (bM_fld (j := 0) (fs := mF B (mA s 27 (upd (s.2.1 27) k3 ((s.2.1 27 k2) + (1 : Int32))))) rfl rfl) ?_
  refine gm_ev.iload_n i157_343 rfl ?_
  refine gm_ev.iconst (v := -1) i157_344 (by decide) ?_
  refine gm_ev.iastore (M' := (bM B (mH B (mA (mA s 27 (upd (s.2.1 27) k3 ((s.2.1 27 k2) + (1 : Int32)))) 27 (upd (upd (s.2.1 27) k3 ((s.2.1 27 k2) + (1 : Int32))) k11 (-1 : Int32)))) G)) i157_345 (bM_asti (j := 16) (n := 7) (f := (upd (s.2.1 27) k3 ((s.2.1 27 k2) + (1 : Int32)))) rfl ek11 lk11 (by decide) hN rfl) ?_
  refine gm_ev.goto (tgt := 74) i157_346 (by decide) ?_
  refine gm_ev.le (a := [some (.ref B), some (.int x1), some (.int x2), some (.int (x3 + (1 : Int32))), none, none]) (gm_leL.le (show gm_leL _ _ from ⟨rfl, ⟨rfl, ⟨rfl, ⟨rfl, trivial⟩⟩⟩⟩)) ?_
  exact k
theorem r_apply_190_ttftft_at74 {N0 : Nat} {K : Nat → Nat} {d B : Nat} {s : mS} {G : gm_H} {sz sl : Nat} {R : gm_R} {x1 : Int32} {x2 : Int32} {x3 : Int32} {x4 : Int32} {k2 : Nat} {k3 : Nat} {k4 : Nat} {k6 : Nat} {k9 : Nat} {k11 : Nat} {r12 : Int32} {s14 : mS} (hN : N0 ≤ B) (c1 : (6 : Int32) ≤ x4) (ek2 : x3 = nI k2) (lk2 : k2 < 7) (ek3 : x3 = nI k3) (lk3 : k3 < 7) (ek4 : ((((6 : Int32) * x1) + (1 : Int32)) + x3) = nI k4) (lk4 : k4 < 144) (c5 : (s.2.1 13 k4) = 0) (ek6 : x3 = nI k6) (lk6 : k6 < 7) (c7 : ¬ (s.1 20) ≤ ((upd (s.2.1 27) k3 ((s.2.1 27 k2) + (1 : Int32))) k6)) (c8 : ¬ (1 : Int32) = 0) (ek9 : ((((6 : Int32) * x1) + (1 : Int32)) + x3) = nI k9) (lk9 : k9 < 144) (c10 : (s.2.1 13 k9) = 0) (ek11 : x3 = nI k11) (lk11 : k11 < 7) (t13 : gm_to N0 K ra_nm (ra_mt K) d 150 [.ref B, .int ((((6 : Int32) * x1) + (1 : Int32)) + x3), .int ((upd (s.2.1 27) k3 ((s.2.1 27 k2) + (1 : Int32))) k11), .int x3] (bM B (mH B (mA s 27 (upd (s.2.1 27) k3 ((s.2.1 27 k2) + (1 : Int32))))) G) sz (.returned (some (.int r12)), bM B (mH B s14) G, sz, 0)) (c15 : r12 = 0) (k : gm_ev N0 K ra_nm (ra_mt K) d none (gm_I cX12_apply) (gm_lkf (lkX12 false K)) 74 [some (.ref B), some (.int x1), some (.int x2), some (.int x3), none, none] [] (bM B (mH B s14) G) sz sl R) : gm_ev N0 K ra_nm (ra_mt K) d none (gm_I cX12_apply) (gm_lkf (lkX12 false K)) 190 [some (.ref B), some (.int x1), some (.int x2), some (.int x3), some (.int x4), none] [] (bM B (mH B s) G) sz sl R := by
  refine gm_ev.iload i157_190 rfl ?_
  refine gm_ev.bipush (v := 6) i157_192 (by decide) ?_
  refine gm_ev.icmp_ge_t (tgt := 232) i157_194 (by decide) c1 ?_
  refine gm_ev.bipush (v := 6) i157_232 (by decide) ?_
  refine gm_ev.iload_n i157_234 rfl ?_
  refine gm_ev.imul i157_235 ?_
  refine gm_ev.iconst (v := 1) i157_236 (by decide) ?_
  refine gm_ev.iadd i157_237 ?_
  refine gm_ev.iload_n i157_238 rfl ?_
  refine gm_ev.iadd i157_239 ?_
  refine gm_ev.istore (ls' := [some (.ref B), some (.int x1), some (.int x2), some (.int x3), some (.int ((((6 : Int32) * x1) + (1 : Int32)) + x3)), none]) i157_240 (Nat.le_of_ble_eq_true rfl) rfl ?_
  refine gm_ev.aload_n i157_242 rfl ?_
  refine gm_ev.getfield (v := .ref (B + 16)) i157_243 rfl (bM_fld (j := 0) (fs := mF B s) rfl rfl) ?_
  refine gm_ev.iload_n i157_246 rfl ?_
  refine gm_ev.dup2 i157_247 rfl rfl ?_
  refine gm_ev.iaload i157_248 (bM_ai (j := 16) (n := 7) (f := s.2.1 27) rfl ek2 lk2 (by decide)) ?_
  refine gm_ev.iconst (v := 1) i157_249 (by decide) ?_
  refine gm_ev.iadd i157_250 ?_
  refine gm_ev.iastore (M' := (bM B (mH B (mA s 27 (upd (s.2.1 27) k3 ((s.2.1 27 k2) + (1 : Int32))))) G)) i157_251 (bM_asti (j := 16) (n := 7) (f := s.2.1 27) rfl ek3 lk3 (by decide) hN rfl) ?_
  refine gm_ev.aload_n i157_252 rfl ?_
  refine gm_ev.getfield (v := .ref (B + 5)) i157_253 rfl (bM_fld (j := 0) (fs := mF B (mA s 27 (upd (s.2.1 27) k3 ((s.2.1 27 k2) + (1 : Int32))))) rfl rfl) ?_
  refine gm_ev.iload i157_256 rfl ?_
  refine gm_ev.iaload i157_258 (bM_ai (j := 5) (n := 144) (f := s.2.1 13) rfl ek4 lk4 (by decide)) ?_
  refine gm_ev.if_eq_t (tgt := 279) i157_259 (by decide) c5 ?_
  refine gm_ev.aload_n i157_279 rfl ?_
  refine gm_ev.getfield (v := .ref (B + 16)) i157_280 rfl (bM_fld (j := 0) (fs := mF B (mA s 27 (upd (s.2.1 27) k3 ((s.2.1 27 k2) + (1 : Int32))))) rfl rfl) ?_
  refine gm_ev.iload_n i157_283 rfl ?_
  refine gm_ev.iaload i157_284 (bM_ai (j := 16) (n := 7) (f := (upd (s.2.1 27) k3 ((s.2.1 27 k2) + (1 : Int32)))) rfl ek6 lk6 (by decide)) ?_
  refine gm_ev.aload_n i157_285 rfl ?_
  refine gm_ev.getfield (v := .int (s.1 20)) i157_286 rfl (bM_fld (j := 0) (fs := mF B (mA s 27 (upd (s.2.1 27) k3 ((s.2.1 27 k2) + (1 : Int32))))) rfl rfl) ?_
  refine gm_ev.icmp_ge_f i157_289 c7 ?_
  refine gm_ev.iconst (v := 1) i157_292 (by decide) ?_
  refine gm_ev.goto (tgt := 297) i157_293 (by decide) ?_
  refine gm_ev.istore (ls' := [some (.ref B), some (.int x1), some (.int x2), some (.int x3), some (.int ((((6 : Int32) * x1) + (1 : Int32)) + x3)), some (.int (1 : Int32))]) i157_297 (Nat.le_of_ble_eq_true rfl) rfl ?_
  refine gm_ev.iload i157_299 rfl ?_
  refine gm_ev.if_ne_t (tgt := 310) i157_301 (by decide) c8 ?_
  refine gm_ev.aload_n i157_310 rfl ?_
  refine gm_ev.getfield (v := .ref (B + 5)) i157_311 rfl (bM_fld (j := 0) (fs := mF B (mA s 27 (upd (s.2.1 27) k3 ((s.2.1 27 k2) + (1 : Int32))))) rfl rfl) ?_
  refine gm_ev.iload i157_314 rfl ?_
  refine gm_ev.iaload i157_316 (bM_ai (j := 5) (n := 144) (f := s.2.1 13) rfl ek9 lk9 (by decide)) ?_
  refine gm_ev.if_ne_f i157_317 c10 ?_
  refine gm_ev.aload_n i157_320 rfl ?_
  refine gm_ev.iload i157_321 rfl ?_
  refine gm_ev.aload_n i157_323 rfl ?_
  refine gm_ev.getfield (v := .ref (B + 16)) i157_324 rfl (bM_fld (j := 0) (fs := mF B (mA s 27 (upd (s.2.1 27) k3 ((s.2.1 27 k2) + (1 : Int32))))) rfl rfl) ?_
  refine gm_ev.iload_n i157_327 rfl ?_
  refine gm_ev.iaload i157_328 (bM_ai (j := 16) (n := 7) (f := (upd (s.2.1 27) k3 ((s.2.1 27 k2) + (1 : Int32)))) rfl ek11 lk11 (by decide)) ?_
  refine gm_ev.iload_n i157_329 rfl ?_
  refine gm_ev.callV gm_mono_run (av := [.int ((((6 : Int32) * x1) + (1 : Int32)) + x3), .int ((upd (s.2.1 27) k3 ((s.2.1 27 k2) + (1 : Int32))) k11), .int x3]) (r := []) (ci := 11) (fs := mF B (mA s 27 (upd (s.2.1 27) k3 ((s.2.1 27 k2) + (1 : Int32))))) (bM_get (j := 0) rfl) i157_330 rfl rfl rfl (Nat.le_of_ble_eq_true rfl) t13 ?_
  refine gm_ev.if_eq_t (tgt := 346) i157_333 (by decide) c15 ?_
  refine gm_ev.goto (tgt := 74) i157_346 (by decide) ?_
  refine gm_ev.le (a := [some (.ref B), some (.int x1), some (.int x2), some (.int x3), none, none]) (gm_leL.le (show gm_leL _ _ from ⟨rfl, ⟨rfl, ⟨rfl, ⟨rfl, trivial⟩⟩⟩⟩)) ?_
  exact k
theorem r_apply_190_ttftff_at74 {N0 : Nat} {K : Nat → Nat} {d B : Nat} {s : mS} {G : gm_H} {sz sl : Nat} {R : gm_R} {x1 : Int32} {x2 : Int32} {x3 : Int32} {x4 : Int32} {k2 : Nat} {k3 : Nat} {k4 : Nat} {k6 : Nat} {k9 : Nat} {k11 : Nat} {r12 : Int32} {s14 : mS} {k16 : Nat} (hN : N0 ≤ B) (c1 : (6 : Int32) ≤ x4) (ek2 : x3 = nI k2) (lk2 : k2 < 7) (ek3 : x3 = nI k3) (lk3 : k3 < 7) (ek4 : ((((6 : Int32) * x1) + (1 : Int32)) + x3) = nI k4) (lk4 : k4 < 144) (c5 : (s.2.1 13 k4) = 0) (ek6 : x3 = nI k6) (lk6 : k6 < 7) (c7 : ¬ (s.1 20) ≤ ((upd (s.2.1 27) k3 ((s.2.1 27 k2) + (1 : Int32))) k6)) (c8 : ¬ (1 : Int32) = 0) (ek9 : ((((6 : Int32) * x1) + (1 : Int32)) + x3) = nI k9) (lk9 : k9 < 144) (c10 : (s.2.1 13 k9) = 0) (ek11 : x3 = nI k11) (lk11 : k11 < 7) (t13 : gm_to N0 K ra_nm (ra_mt K) d 150 [.ref B, .int ((((6 : Int32) * x1) + (1 : Int32)) + x3), .int ((upd (s.2.1 27) k3 ((s.2.1 27 k2) + (1 : Int32))) k11), .int x3] (bM B (mH B (mA s 27 (upd (s.2.1 27) k3 ((s.2.1 27 k2) + (1 : Int32))))) G) sz (.returned (some (.int r12)), bM B (mH B s14) G, sz, 0)) (c15 : ¬ r12 = 0) (ek16 : (x3 + (1 : Int32)) = nI k16) (lk16 : k16 < 7) (k : gm_ev N0 K ra_nm (ra_mt K) d none (gm_I cX12_apply) (gm_lkf (lkX12 false K)) 74 [some (.ref B), some (.int x1), some (.int x2), some (.int (x3 + (1 : Int32))), none, none] [] (bM B (mH B (mA s14 27 (upd (s14.2.1 27) k16 (-1 : Int32)))) G) sz sl R) : gm_ev N0 K ra_nm (ra_mt K) d none (gm_I cX12_apply) (gm_lkf (lkX12 false K)) 190 [some (.ref B), some (.int x1), some (.int x2), some (.int x3), some (.int x4), none] [] (bM B (mH B s) G) sz sl R := by
  refine gm_ev.iload i157_190 rfl ?_
  refine gm_ev.bipush (v := 6) i157_192 (by decide) ?_
  refine gm_ev.icmp_ge_t (tgt := 232) i157_194 (by decide) c1 ?_
  refine gm_ev.bipush (v := 6) i157_232 (by decide) ?_
  refine gm_ev.iload_n i157_234 rfl ?_
  refine gm_ev.imul i157_235 ?_
  refine gm_ev.iconst (v := 1) i157_236 (by decide) ?_
  refine gm_ev.iadd i157_237 ?_
  refine gm_ev.iload_n i157_238 rfl ?_
  refine gm_ev.iadd i157_239 ?_
  refine gm_ev.istore (ls' := [some (.ref B), some (.int x1), some (.int x2), some (.int x3), some (.int ((((6 : Int32) * x1) + (1 : Int32)) + x3)), none]) i157_240 (Nat.le_of_ble_eq_true rfl) rfl ?_
  refine gm_ev.aload_n i157_242 rfl ?_
  refine gm_ev.getfield (v := .ref (B + 16)) i157_243 rfl (bM_fld (j := 0) (fs := mF B s) rfl rfl) ?_
  refine gm_ev.iload_n i157_246 rfl ?_
  refine gm_ev.dup2 i157_247 rfl rfl ?_
  refine gm_ev.iaload i157_248 (bM_ai (j := 16) (n := 7) (f := s.2.1 27) rfl ek2 lk2 (by decide)) ?_
  refine gm_ev.iconst (v := 1) i157_249 (by decide) ?_
  refine gm_ev.iadd i157_250 ?_
  refine gm_ev.iastore (M' := (bM B (mH B (mA s 27 (upd (s.2.1 27) k3 ((s.2.1 27 k2) + (1 : Int32))))) G)) i157_251 (bM_asti (j := 16) (n := 7) (f := s.2.1 27) rfl ek3 lk3 (by decide) hN rfl) ?_
  refine gm_ev.aload_n i157_252 rfl ?_
  refine gm_ev.getfield (v := .ref (B + 5)) i157_253 rfl (bM_fld (j := 0) (fs := mF B (mA s 27 (upd (s.2.1 27) k3 ((s.2.1 27 k2) + (1 : Int32))))) rfl rfl) ?_
  refine gm_ev.iload i157_256 rfl ?_
  refine gm_ev.iaload i157_258 (bM_ai (j := 5) (n := 144) (f := s.2.1 13) rfl ek4 lk4 (by decide)) ?_
  refine gm_ev.if_eq_t (tgt := 279) i157_259 (by decide) c5 ?_
  refine gm_ev.aload_n i157_279 rfl ?_
  refine gm_ev.getfield (v := .ref (B + 16)) i157_280 rfl (bM_fld (j := 0) (fs := mF B (mA s 27 (upd (s.2.1 27) k3 ((s.2.1 27 k2) + (1 : Int32))))) rfl rfl) ?_
  refine gm_ev.iload_n i157_283 rfl ?_
  refine gm_ev.iaload i157_284 (bM_ai (j := 16) (n := 7) (f := (upd (s.2.1 27) k3 ((s.2.1 27 k2) + (1 : Int32)))) rfl ek6 lk6 (by decide)) ?_
  refine gm_ev.aload_n i157_285 rfl ?_
  refine gm_ev.getfield (v := .int (s.1 20)) i157_286 rfl (bM_fld (j := 0) (fs := mF B (mA s 27 (upd (s.2.1 27) k3 ((s.2.1 27 k2) + (1 : Int32))))) rfl rfl) ?_
  refine gm_ev.icmp_ge_f i157_289 c7 ?_
  refine gm_ev.iconst (v := 1) i157_292 (by decide) ?_
  refine gm_ev.goto (tgt := 297) i157_293 (by decide) ?_
  refine gm_ev.istore (ls' := [some (.ref B), some (.int x1), some (.int x2), some (.int x3), some (.int ((((6 : Int32) * x1) + (1 : Int32)) + x3)), some (.int (1 : Int32))]) i157_297 (Nat.le_of_ble_eq_true rfl) rfl ?_
  refine gm_ev.iload i157_299 rfl ?_
  refine gm_ev.if_ne_t (tgt := 310) i157_301 (by decide) c8 ?_
  refine gm_ev.aload_n i157_310 rfl ?_
  refine gm_ev.getfield (v := .ref (B + 5)) i157_311 rfl (bM_fld (j := 0) (fs := mF B (mA s 27 (upd (s.2.1 27) k3 ((s.2.1 27 k2) + (1 : Int32))))) rfl rfl) ?_
  refine gm_ev.iload i157_314 rfl ?_
  refine gm_ev.iaload i157_316 (bM_ai (j := 5) (n := 144) (f := s.2.1 13) rfl ek9 lk9 (by decide)) ?_
  refine gm_ev.if_ne_f i157_317 c10 ?_
  refine gm_ev.aload_n i157_320 rfl ?_
  refine gm_ev.iload i157_321 rfl ?_
  refine gm_ev.aload_n i157_323 rfl ?_
  refine gm_ev.getfield (v := .ref (B + 16)) i157_324 rfl (bM_fld (j := 0) (fs := mF B (mA s 27 (upd (s.2.1 27) k3 ((s.2.1 27 k2) + (1 : Int32))))) rfl rfl) ?_
  refine gm_ev.iload_n i157_327 rfl ?_
  refine gm_ev.iaload i157_328 (bM_ai (j := 16) (n := 7) (f := (upd (s.2.1 27) k3 ((s.2.1 27 k2) + (1 : Int32)))) rfl ek11 lk11 (by decide)) ?_
  refine gm_ev.iload_n i157_329 rfl ?_
  refine gm_ev.callV gm_mono_run (av := [.int ((((6 : Int32) * x1) + (1 : Int32)) + x3), .int ((upd (s.2.1 27) k3 ((s.2.1 27 k2) + (1 : Int32))) k11), .int x3]) (r := []) (ci := 11) (fs := mF B (mA s 27 (upd (s.2.1 27) k3 ((s.2.1 27 k2) + (1 : Int32))))) (bM_get (j := 0) rfl) i157_330 rfl rfl rfl (Nat.le_of_ble_eq_true rfl) t13 ?_
  refine gm_ev.if_eq_f i157_333 c15 ?_
  refine gm_ev.iinc (v := x3 + (1 : Int32)) (ls' := [some (.ref B), some (.int x1), some (.int x2), some (.int (x3 + (1 : Int32))), some (.int ((((6 : Int32) * x1) + (1 : Int32)) + x3)), some (.int (1 : Int32))]) i157_336 rfl (by rfl) rfl ?_
  refine gm_ev.aload_n i157_339 rfl ?_
  refine gm_ev.getfield (v := .ref (B + 16)) i157_340 rfl (bM_fld (j := 0) (fs := mF B s14) rfl rfl) ?_
  refine gm_ev.iload_n i157_343 rfl ?_
  refine gm_ev.iconst (v := -1) i157_344 (by decide) ?_
  refine gm_ev.iastore (M' := (bM B (mH B (mA s14 27 (upd (s14.2.1 27) k16 (-1 : Int32)))) G)) i157_345 (bM_asti (j := 16) (n := 7) (f := s14.2.1 27) rfl ek16 lk16 (by decide) hN rfl) ?_
  refine gm_ev.goto (tgt := 74) i157_346 (by decide) ?_
  refine gm_ev.le (a := [some (.ref B), some (.int x1), some (.int x2), some (.int (x3 + (1 : Int32))), none, none]) (gm_leL.le (show gm_leL _ _ from ⟨rfl, ⟨rfl, ⟨rfl, ⟨rfl, trivial⟩⟩⟩⟩)) ?_
  exact k
theorem r_apply_190_ttff_at74 {N0 : Nat} {K : Nat → Nat} {d B : Nat} {s : mS} {G : gm_H} {sz sl : Nat} {R : gm_R} {x1 : Int32} {x2 : Int32} {x3 : Int32} {x4 : Int32} {k2 : Nat} {k3 : Nat} {k4 : Nat} {k6 : Nat} (hN : N0 ≤ B) (c1 : (6 : Int32) ≤ x4) (ek2 : x3 = nI k2) (lk2 : k2 < 7) (ek3 : x3 = nI k3) (lk3 : k3 < 7) (ek4 : ((((6 : Int32) * x1) + (1 : Int32)) + x3) = nI k4) (lk4 : k4 < 144) (c5 : (s.2.1 13 k4) = 0) (ek6 : x3 = nI k6) (lk6 : k6 < 7) (c7 : ¬ (s.1 20) ≤ ((upd (s.2.1 27) k3 ((s.2.1 27 k2) + (1 : Int32))) k6)) (c8 : (1 : Int32) = 0) (k : gm_ev N0 K ra_nm (ra_mt K) d none (gm_I cX12_apply) (gm_lkf (lkX12 false K)) 74 [some (.ref B), some (.int x1), some (.int x2), some (.int (x3 + (-1 : Int32))), none, none] [] (bM B (mH B (mA s 27 (upd (s.2.1 27) k3 ((s.2.1 27 k2) + (1 : Int32))))) G) sz sl R) : gm_ev N0 K ra_nm (ra_mt K) d none (gm_I cX12_apply) (gm_lkf (lkX12 false K)) 190 [some (.ref B), some (.int x1), some (.int x2), some (.int x3), some (.int x4), none] [] (bM B (mH B s) G) sz sl R := by
  refine gm_ev.iload i157_190 rfl ?_
  refine gm_ev.bipush (v := 6) i157_192 (by decide) ?_
  refine gm_ev.icmp_ge_t (tgt := 232) i157_194 (by decide) c1 ?_
  refine gm_ev.bipush (v := 6) i157_232 (by decide) ?_
  refine gm_ev.iload_n i157_234 rfl ?_
  refine gm_ev.imul i157_235 ?_
  refine gm_ev.iconst (v := 1) i157_236 (by decide) ?_
  refine gm_ev.iadd i157_237 ?_
  refine gm_ev.iload_n i157_238 rfl ?_
  refine gm_ev.iadd i157_239 ?_
  refine gm_ev.istore (ls' := [some (.ref B), some (.int x1), some (.int x2), some (.int x3), some (.int ((((6 : Int32) * x1) + (1 : Int32)) + x3)), none]) i157_240 (Nat.le_of_ble_eq_true rfl) rfl ?_
  refine gm_ev.aload_n i157_242 rfl ?_
  refine gm_ev.getfield (v := .ref (B + 16)) i157_243 rfl (bM_fld (j := 0) (fs := mF B s) rfl rfl) ?_
  refine gm_ev.iload_n i157_246 rfl ?_
  refine gm_ev.dup2 i157_247 rfl rfl ?_
  refine gm_ev.iaload i157_248 (bM_ai (j := 16) (n := 7) (f := s.2.1 27) rfl ek2 lk2 (by decide)) ?_
  refine gm_ev.iconst (v := 1) i157_249 (by decide) ?_
  refine gm_ev.iadd i157_250 ?_
  refine gm_ev.iastore (M' := (bM B (mH B (mA s 27 (upd (s.2.1 27) k3 ((s.2.1 27 k2) + (1 : Int32))))) G)) i157_251 (bM_asti (j := 16) (n := 7) (f := s.2.1 27) rfl ek3 lk3 (by decide) hN rfl) ?_
  refine gm_ev.aload_n i157_252 rfl ?_
  refine gm_ev.getfield (v := .ref (B + 5)) i157_253 rfl (bM_fld (j := 0) (fs := mF B (mA s 27 (upd (s.2.1 27) k3 ((s.2.1 27 k2) + (1 : Int32))))) rfl rfl) ?_
  refine gm_ev.iload i157_256 rfl ?_
  refine gm_ev.iaload i157_258 (bM_ai (j := 5) (n := 144) (f := s.2.1 13) rfl ek4 lk4 (by decide)) ?_
  refine gm_ev.if_eq_t (tgt := 279) i157_259 (by decide) c5 ?_
  refine gm_ev.aload_n i157_279 rfl ?_
  refine gm_ev.getfield (v := .ref (B + 16)) i157_280 rfl (bM_fld (j := 0) (fs := mF B (mA s 27 (upd (s.2.1 27) k3 ((s.2.1 27 k2) + (1 : Int32))))) rfl rfl) ?_
  refine gm_ev.iload_n i157_283 rfl ?_
  refine gm_ev.iaload i157_284 (bM_ai (j := 16) (n := 7) (f := (upd (s.2.1 27) k3 ((s.2.1 27 k2) + (1 : Int32)))) rfl ek6 lk6 (by decide)) ?_
  refine gm_ev.aload_n i157_285 rfl ?_
  refine gm_ev.getfield (v := .int (s.1 20)) i157_286 rfl (bM_fld (j := 0) (fs := mF B (mA s 27 (upd (s.2.1 27) k3 ((s.2.1 27 k2) + (1 : Int32))))) rfl rfl) ?_
  refine gm_ev.icmp_ge_f i157_289 c7 ?_
  refine gm_ev.iconst (v := 1) i157_292 (by decide) ?_
  refine gm_ev.goto (tgt := 297) i157_293 (by decide) ?_
  refine gm_ev.istore (ls' := [some (.ref B), some (.int x1), some (.int x2), some (.int x3), some (.int ((((6 : Int32) * x1) + (1 : Int32)) + x3)), some (.int (1 : Int32))]) i157_297 (Nat.le_of_ble_eq_true rfl) rfl ?_
  refine gm_ev.iload i157_299 rfl ?_
  refine gm_ev.if_ne_f i157_301 c8 ?_
  refine gm_ev.iinc (v := x3 + (-1 : Int32)) (ls' := [some (.ref B), some (.int x1), some (.int x2), some (.int (x3 + (-1 : Int32))), some (.int ((((6 : Int32) * x1) + (1 : Int32)) + x3)), some (.int (1 : Int32))]) i157_304 rfl (by rfl) rfl ?_
  refine gm_ev.goto (tgt := 346) i157_307 (by decide) ?_
  refine gm_ev.goto (tgt := 74) i157_346 (by decide) ?_
  refine gm_ev.le (a := [some (.ref B), some (.int x1), some (.int x2), some (.int (x3 + (-1 : Int32))), none, none]) (gm_leL.le (show gm_leL _ _ from ⟨rfl, ⟨rfl, ⟨rfl, ⟨rfl, trivial⟩⟩⟩⟩)) ?_
  exact k
theorem r_apply_190_tfttt_at74 {N0 : Nat} {K : Nat → Nat} {d B : Nat} {s : mS} {G : gm_H} {sz sl : Nat} {R : gm_R} {x1 : Int32} {x2 : Int32} {x3 : Int32} {x4 : Int32} {k2 : Nat} {k3 : Nat} {k4 : Nat} {k6 : Nat} {k9 : Nat} {k11 : Nat} (hN : N0 ≤ B) (c1 : (6 : Int32) ≤ x4) (ek2 : x3 = nI k2) (lk2 : k2 < 7) (ek3 : x3 = nI k3) (lk3 : k3 < 7) (ek4 : ((((6 : Int32) * x1) + (1 : Int32)) + x3) = nI k4) (lk4 : k4 < 144) (c5 : ¬ (s.2.1 13 k4) = 0) (ek6 : x3 = nI k6) (lk6 : k6 < 7) (c7 : ¬ ((upd (s.2.1 27) k3 ((s.2.1 27 k2) + (1 : Int32))) k6) = 0) (c8 : ¬ (0 : Int32) = 0) (ek9 : ((((6 : Int32) * x1) + (1 : Int32)) + x3) = nI k9) (lk9 : k9 < 144) (c10 : ¬ (s.2.1 13 k9) = 0) (ek11 : (x3 + (1 : Int32)) = nI k11) (lk11 : k11 < 7) (k : gm_ev N0 K ra_nm (ra_mt K) d none (gm_I cX12_apply) (gm_lkf (lkX12 false K)) 74 [some (.ref B), some (.int x1), some (.int x2), some (.int (x3 + (1 : Int32))), none, none] [] (bM B (mH B (mA (mA s 27 (upd (s.2.1 27) k3 ((s.2.1 27 k2) + (1 : Int32)))) 27 (upd (upd (s.2.1 27) k3 ((s.2.1 27 k2) + (1 : Int32))) k11 (-1 : Int32)))) G) sz sl R) : gm_ev N0 K ra_nm (ra_mt K) d none (gm_I cX12_apply) (gm_lkf (lkX12 false K)) 190 [some (.ref B), some (.int x1), some (.int x2), some (.int x3), some (.int x4), none] [] (bM B (mH B s) G) sz sl R := by
  refine gm_ev.iload i157_190 rfl ?_
  refine gm_ev.bipush (v := 6) i157_192 (by decide) ?_
  refine gm_ev.icmp_ge_t (tgt := 232) i157_194 (by decide) c1 ?_
  refine gm_ev.bipush (v := 6) i157_232 (by decide) ?_
  refine gm_ev.iload_n i157_234 rfl ?_
  refine gm_ev.imul i157_235 ?_
  refine gm_ev.iconst (v := 1) i157_236 (by decide) ?_
  refine gm_ev.iadd i157_237 ?_
  refine gm_ev.iload_n i157_238 rfl ?_
  refine gm_ev.iadd i157_239 ?_
  refine gm_ev.istore (ls' := [some (.ref B), some (.int x1), some (.int x2), some (.int x3), some (.int ((((6 : Int32) * x1) + (1 : Int32)) + x3)), none]) i157_240 (Nat.le_of_ble_eq_true rfl) rfl ?_
  refine gm_ev.aload_n i157_242 rfl ?_
  refine gm_ev.getfield (v := .ref (B + 16)) i157_243 rfl (bM_fld (j := 0) (fs := mF B s) rfl rfl) ?_
  refine gm_ev.iload_n i157_246 rfl ?_
  refine gm_ev.dup2 i157_247 rfl rfl ?_
  refine gm_ev.iaload i157_248 (bM_ai (j := 16) (n := 7) (f := s.2.1 27) rfl ek2 lk2 (by decide)) ?_
  refine gm_ev.iconst (v := 1) i157_249 (by decide) ?_
  refine gm_ev.iadd i157_250 ?_
  refine gm_ev.iastore (M' := (bM B (mH B (mA s 27 (upd (s.2.1 27) k3 ((s.2.1 27 k2) + (1 : Int32))))) G)) i157_251 (bM_asti (j := 16) (n := 7) (f := s.2.1 27) rfl ek3 lk3 (by decide) hN rfl) ?_
  refine gm_ev.aload_n i157_252 rfl ?_
  refine gm_ev.getfield (v := .ref (B + 5)) i157_253 rfl (bM_fld (j := 0) (fs := mF B (mA s 27 (upd (s.2.1 27) k3 ((s.2.1 27 k2) + (1 : Int32))))) rfl rfl) ?_
  refine gm_ev.iload i157_256 rfl ?_
  refine gm_ev.iaload i157_258 (bM_ai (j := 5) (n := 144) (f := s.2.1 13) rfl ek4 lk4 (by decide)) ?_
  refine gm_ev.if_eq_f i157_259 c5 ?_
  refine gm_ev.aload_n i157_262 rfl ?_
  refine gm_ev.getfield (v := .ref (B + 16)) i157_263 rfl (bM_fld (j := 0) (fs := mF B (mA s 27 (upd (s.2.1 27) k3 ((s.2.1 27 k2) + (1 : Int32))))) rfl rfl) ?_
  refine gm_ev.iload_n i157_266 rfl ?_
  refine gm_ev.iaload i157_267 (bM_ai (j := 16) (n := 7) (f := (upd (s.2.1 27) k3 ((s.2.1 27 k2) + (1 : Int32)))) rfl ek6 lk6 (by decide)) ?_
  refine gm_ev.if_ne_t (tgt := 275) i157_268 (by decide) c7 ?_
  refine gm_ev.iconst (v := 0) i157_275 (by decide) ?_
  refine gm_ev.goto (tgt := 297) i157_276 (by decide) ?_
  refine gm_ev.istore (ls' := [some (.ref B), some (.int x1), some (.int x2), some (.int x3), some (.int ((((6 : Int32) * x1) + (1 : Int32)) + x3)), some (.int (0 : Int32))]) i157_297 (Nat.le_of_ble_eq_true rfl) rfl ?_
  refine gm_ev.iload i157_299 rfl ?_
  refine gm_ev.if_ne_t (tgt := 310) i157_301 (by decide) c8 ?_
  refine gm_ev.aload_n i157_310 rfl ?_
  refine gm_ev.getfield (v := .ref (B + 5)) i157_311 rfl (bM_fld (j := 0) (fs := mF B (mA s 27 (upd (s.2.1 27) k3 ((s.2.1 27 k2) + (1 : Int32))))) rfl rfl) ?_
  refine gm_ev.iload i157_314 rfl ?_
  refine gm_ev.iaload i157_316 (bM_ai (j := 5) (n := 144) (f := s.2.1 13) rfl ek9 lk9 (by decide)) ?_
  refine gm_ev.if_ne_t (tgt := 336) i157_317 (by decide) c10 ?_
  refine gm_ev.iinc (v := x3 + (1 : Int32)) (ls' := [some (.ref B), some (.int x1), some (.int x2), some (.int (x3 + (1 : Int32))), some (.int ((((6 : Int32) * x1) + (1 : Int32)) + x3)), some (.int (0 : Int32))]) i157_336 rfl (by rfl) rfl ?_
  refine gm_ev.aload_n i157_339 rfl ?_
  refine gm_ev.getfield (v := .ref (B + 16)) i157_340 rfl (bM_fld (j := 0) (fs := mF B (mA s 27 (upd (s.2.1 27) k3 ((s.2.1 27 k2) + (1 : Int32))))) rfl rfl) ?_
  refine gm_ev.iload_n i157_343 rfl ?_
  refine gm_ev.iconst (v := -1) i157_344 (by decide) ?_
  refine gm_ev.iastore (M' := (bM B (mH B (mA (mA s 27 (upd (s.2.1 27) k3 ((s.2.1 27 k2) + (1 : Int32)))) 27 (upd (upd (s.2.1 27) k3 ((s.2.1 27 k2) + (1 : Int32))) k11 (-1 : Int32)))) G)) i157_345 (bM_asti (j := 16) (n := 7) (f := (upd (s.2.1 27) k3 ((s.2.1 27 k2) + (1 : Int32)))) rfl ek11 lk11 (by decide) hN rfl) ?_
  refine gm_ev.goto (tgt := 74) i157_346 (by decide) ?_
  refine gm_ev.le (a := [some (.ref B), some (.int x1), some (.int x2), some (.int (x3 + (1 : Int32))), none, none]) (gm_leL.le (show gm_leL _ _ from ⟨rfl, ⟨rfl, ⟨rfl, ⟨rfl, trivial⟩⟩⟩⟩)) ?_
  exact k
theorem r_apply_190_tfttft_at74 {N0 : Nat} {K : Nat → Nat} {d B : Nat} {s : mS} {G : gm_H} {sz sl : Nat} {R : gm_R} {x1 : Int32} {x2 : Int32} {x3 : Int32} {x4 : Int32} {k2 : Nat} {k3 : Nat} {k4 : Nat} {k6 : Nat} {k9 : Nat} {k11 : Nat} {r12 : Int32} {s14 : mS} (hN : N0 ≤ B) (c1 : (6 : Int32) ≤ x4) (ek2 : x3 = nI k2) (lk2 : k2 < 7) (ek3 : x3 = nI k3) (lk3 : k3 < 7) (ek4 : ((((6 : Int32) * x1) + (1 : Int32)) + x3) = nI k4) (lk4 : k4 < 144) (c5 : ¬ (s.2.1 13 k4) = 0) (ek6 : x3 = nI k6) (lk6 : k6 < 7) (c7 : ¬ ((upd (s.2.1 27) k3 ((s.2.1 27 k2) + (1 : Int32))) k6) = 0) (c8 : ¬ (0 : Int32) = 0) (ek9 : ((((6 : Int32) * x1) + (1 : Int32)) + x3) = nI k9) (lk9 : k9 < 144) (c10 : (s.2.1 13 k9) = 0) (ek11 : x3 = nI k11) (lk11 : k11 < 7) (t13 : gm_to N0 K ra_nm (ra_mt K) d 150 [.ref B, .int ((((6 : Int32) * x1) + (1 : Int32)) + x3), .int ((upd (s.2.1 27) k3 ((s.2.1 27 k2) + (1 : Int32))) k11), .int x3] (bM B (mH B (mA s 27 (upd (s.2.1 27) k3 ((s.2.1 27 k2) + (1 : Int32))))) G) sz (.returned (some (.int r12)), bM B (mH B s14) G, sz, 0)) (c15 : r12 = 0) (k : gm_ev N0 K ra_nm (ra_mt K) d none (gm_I cX12_apply) (gm_lkf (lkX12 false K)) 74 [some (.ref B), some (.int x1), some (.int x2), some (.int x3), none, none] [] (bM B (mH B s14) G) sz sl R) : gm_ev N0 K ra_nm (ra_mt K) d none (gm_I cX12_apply) (gm_lkf (lkX12 false K)) 190 [some (.ref B), some (.int x1), some (.int x2), some (.int x3), some (.int x4), none] [] (bM B (mH B s) G) sz sl R := by
  refine gm_ev.iload i157_190 rfl ?_
  refine gm_ev.bipush (v := 6) i157_192 (by decide) ?_
  refine gm_ev.icmp_ge_t (tgt := 232) i157_194 (by decide) c1 ?_
  refine gm_ev.bipush (v := 6) i157_232 (by decide) ?_
  refine gm_ev.iload_n i157_234 rfl ?_
  refine gm_ev.imul i157_235 ?_
  refine gm_ev.iconst (v := 1) i157_236 (by decide) ?_
  refine gm_ev.iadd i157_237 ?_
  refine gm_ev.iload_n i157_238 rfl ?_
  refine gm_ev.iadd i157_239 ?_
  refine gm_ev.istore (ls' := [some (.ref B), some (.int x1), some (.int x2), some (.int x3), some (.int ((((6 : Int32) * x1) + (1 : Int32)) + x3)), none]) i157_240 (Nat.le_of_ble_eq_true rfl) rfl ?_
  refine gm_ev.aload_n i157_242 rfl ?_
  refine gm_ev.getfield (v := .ref (B + 16)) i157_243 rfl (bM_fld (j := 0) (fs := mF B s) rfl rfl) ?_
  refine gm_ev.iload_n i157_246 rfl ?_
  refine gm_ev.dup2 i157_247 rfl rfl ?_
  refine gm_ev.iaload i157_248 (bM_ai (j := 16) (n := 7) (f := s.2.1 27) rfl ek2 lk2 (by decide)) ?_
  refine gm_ev.iconst (v := 1) i157_249 (by decide) ?_
  refine gm_ev.iadd i157_250 ?_
  refine gm_ev.iastore (M' := (bM B (mH B (mA s 27 (upd (s.2.1 27) k3 ((s.2.1 27 k2) + (1 : Int32))))) G)) i157_251 (bM_asti (j := 16) (n := 7) (f := s.2.1 27) rfl ek3 lk3 (by decide) hN rfl) ?_
  refine gm_ev.aload_n i157_252 rfl ?_
  refine gm_ev.getfield (v := .ref (B + 5)) i157_253 rfl (bM_fld (j := 0) (fs := mF B (mA s 27 (upd (s.2.1 27) k3 ((s.2.1 27 k2) + (1 : Int32))))) rfl rfl) ?_
  refine gm_ev.iload i157_256 rfl ?_
  refine gm_ev.iaload i157_258 (bM_ai (j := 5) (n := 144) (f := s.2.1 13) rfl ek4 lk4 (by decide)) ?_
  refine gm_ev.if_eq_f i157_259 c5 ?_
  refine gm_ev.aload_n i157_262 rfl ?_
  refine gm_ev.getfield (v := .ref (B + 16)) i157_263 rfl (bM_fld (j := 0) (fs := mF B (mA s 27 (upd (s.2.1 27) k3 ((s.2.1 27 k2) + (1 : Int32))))) rfl rfl) ?_
  refine gm_ev.iload_n i157_266 rfl ?_
  refine gm_ev.iaload i157_267 (bM_ai (j := 16) (n := 7) (f := (upd (s.2.1 27) k3 ((s.2.1 27 k2) + (1 : Int32)))) rfl ek6 lk6 (by decide)) ?_
  refine gm_ev.if_ne_t (tgt := 275) i157_268 (by decide) c7 ?_
  refine gm_ev.iconst (v := 0) i157_275 (by decide) ?_
  refine gm_ev.goto (tgt := 297) i157_276 (by decide) ?_
  refine gm_ev.istore (ls' := [some (.ref B), some (.int x1), some (.int x2), some (.int x3), some (.int ((((6 : Int32) * x1) + (1 : Int32)) + x3)), some (.int (0 : Int32))]) i157_297 (Nat.le_of_ble_eq_true rfl) rfl ?_
  refine gm_ev.iload i157_299 rfl ?_
  refine gm_ev.if_ne_t (tgt := 310) i157_301 (by decide) c8 ?_
  refine gm_ev.aload_n i157_310 rfl ?_
  refine gm_ev.getfield (v := .ref (B + 5)) i157_311 rfl (bM_fld (j := 0) (fs := mF B (mA s 27 (upd (s.2.1 27) k3 ((s.2.1 27 k2) + (1 : Int32))))) rfl rfl) ?_
  refine gm_ev.iload i157_314 rfl ?_
  refine gm_ev.iaload i157_316 (bM_ai (j := 5) (n := 144) (f := s.2.1 13) rfl ek9 lk9 (by decide)) ?_
  refine gm_ev.if_ne_f i157_317 c10 ?_
  refine gm_ev.aload_n i157_320 rfl ?_
  refine gm_ev.iload i157_321 rfl ?_
  refine gm_ev.aload_n i157_323 rfl ?_
  refine gm_ev.getfield (v := .ref (B + 16)) i157_324 rfl (bM_fld (j := 0) (fs := mF B (mA s 27 (upd (s.2.1 27) k3 ((s.2.1 27 k2) + (1 : Int32))))) rfl rfl) ?_
  refine gm_ev.iload_n i157_327 rfl ?_
  refine gm_ev.iaload i157_328 (bM_ai (j := 16) (n := 7) (f := (upd (s.2.1 27) k3 ((s.2.1 27 k2) + (1 : Int32)))) rfl ek11 lk11 (by decide)) ?_
  refine gm_ev.iload_n i157_329 rfl ?_
  refine gm_ev.callV gm_mono_run (av := [.int ((((6 : Int32) * x1) + (1 : Int32)) + x3), .int ((upd (s.2.1 27) k3 ((s.2.1 27 k2) + (1 : Int32))) k11), .int x3]) (r := []) (ci := 11) (fs := mF B (mA s 27 (upd (s.2.1 27) k3 ((s.2.1 27 k2) + (1 : Int32))))) (bM_get (j := 0) rfl) i157_330 rfl rfl rfl (Nat.le_of_ble_eq_true rfl) t13 ?_
  refine gm_ev.if_eq_t (tgt := 346) i157_333 (by decide) c15 ?_
  refine gm_ev.goto (tgt := 74) i157_346 (by decide) ?_
  refine gm_ev.le (a := [some (.ref B), some (.int x1), some (.int x2), some (.int x3), none, none]) (gm_leL.le (show gm_leL _ _ from ⟨rfl, ⟨rfl, ⟨rfl, ⟨rfl, trivial⟩⟩⟩⟩)) ?_
  exact k
theorem r_apply_190_tfttff_at74 {N0 : Nat} {K : Nat → Nat} {d B : Nat} {s : mS} {G : gm_H} {sz sl : Nat} {R : gm_R} {x1 : Int32} {x2 : Int32} {x3 : Int32} {x4 : Int32} {k2 : Nat} {k3 : Nat} {k4 : Nat} {k6 : Nat} {k9 : Nat} {k11 : Nat} {r12 : Int32} {s14 : mS} {k16 : Nat} (hN : N0 ≤ B) (c1 : (6 : Int32) ≤ x4) (ek2 : x3 = nI k2) (lk2 : k2 < 7) (ek3 : x3 = nI k3) (lk3 : k3 < 7) (ek4 : ((((6 : Int32) * x1) + (1 : Int32)) + x3) = nI k4) (lk4 : k4 < 144) (c5 : ¬ (s.2.1 13 k4) = 0) (ek6 : x3 = nI k6) (lk6 : k6 < 7) (c7 : ¬ ((upd (s.2.1 27) k3 ((s.2.1 27 k2) + (1 : Int32))) k6) = 0) (c8 : ¬ (0 : Int32) = 0) (ek9 : ((((6 : Int32) * x1) + (1 : Int32)) + x3) = nI k9) (lk9 : k9 < 144) (c10 : (s.2.1 13 k9) = 0) (ek11 : x3 = nI k11) (lk11 : k11 < 7) (t13 : gm_to N0 K ra_nm (ra_mt K) d 150 [.ref B, .int ((((6 : Int32) * x1) + (1 : Int32)) + x3), .int ((upd (s.2.1 27) k3 ((s.2.1 27 k2) + (1 : Int32))) k11), .int x3] (bM B (mH B (mA s 27 (upd (s.2.1 27) k3 ((s.2.1 27 k2) + (1 : Int32))))) G) sz (.returned (some (.int r12)), bM B (mH B s14) G, sz, 0)) (c15 : ¬ r12 = 0) (ek16 : (x3 + (1 : Int32)) = nI k16) (lk16 : k16 < 7) (k : gm_ev N0 K ra_nm (ra_mt K) d none (gm_I cX12_apply) (gm_lkf (lkX12 false K)) 74 [some (.ref B), some (.int x1), some (.int x2), some (.int (x3 + (1 : Int32))), none, none] [] (bM B (mH B (mA s14 27 (upd (s14.2.1 27) k16 (-1 : Int32)))) G) sz sl R) : gm_ev N0 K ra_nm (ra_mt K) d none (gm_I cX12_apply) (gm_lkf (lkX12 false K)) 190 [some (.ref B), some (.int x1), some (.int x2), some (.int x3), some (.int x4), none] [] (bM B (mH B s) G) sz sl R := by
  refine gm_ev.iload i157_190 rfl ?_
  refine gm_ev.bipush (v := 6) i157_192 (by decide) ?_
  refine gm_ev.icmp_ge_t (tgt := 232) i157_194 (by decide) c1 ?_
  refine gm_ev.bipush (v := 6) i157_232 (by decide) ?_
  refine gm_ev.iload_n i157_234 rfl ?_
  refine gm_ev.imul i157_235 ?_
  refine gm_ev.iconst (v := 1) i157_236 (by decide) ?_
  refine gm_ev.iadd i157_237 ?_
  refine gm_ev.iload_n i157_238 rfl ?_
  refine gm_ev.iadd i157_239 ?_
  refine gm_ev.istore (ls' := [some (.ref B), some (.int x1), some (.int x2), some (.int x3), some (.int ((((6 : Int32) * x1) + (1 : Int32)) + x3)), none]) i157_240 (Nat.le_of_ble_eq_true rfl) rfl ?_
  refine gm_ev.aload_n i157_242 rfl ?_
  refine gm_ev.getfield (v := .ref (B + 16)) i157_243 rfl (bM_fld (j := 0) (fs := mF B s) rfl rfl) ?_
  refine gm_ev.iload_n i157_246 rfl ?_
  refine gm_ev.dup2 i157_247 rfl rfl ?_
  refine gm_ev.iaload i157_248 (bM_ai (j := 16) (n := 7) (f := s.2.1 27) rfl ek2 lk2 (by decide)) ?_
  refine gm_ev.iconst (v := 1) i157_249 (by decide) ?_
  refine gm_ev.iadd i157_250 ?_
  refine gm_ev.iastore (M' := (bM B (mH B (mA s 27 (upd (s.2.1 27) k3 ((s.2.1 27 k2) + (1 : Int32))))) G)) i157_251 (bM_asti (j := 16) (n := 7) (f := s.2.1 27) rfl ek3 lk3 (by decide) hN rfl) ?_
  refine gm_ev.aload_n i157_252 rfl ?_
  refine gm_ev.getfield (v := .ref (B + 5)) i157_253 rfl (bM_fld (j := 0) (fs := mF B (mA s 27 (upd (s.2.1 27) k3 ((s.2.1 27 k2) + (1 : Int32))))) rfl rfl) ?_
  refine gm_ev.iload i157_256 rfl ?_
  refine gm_ev.iaload i157_258 (bM_ai (j := 5) (n := 144) (f := s.2.1 13) rfl ek4 lk4 (by decide)) ?_
  refine gm_ev.if_eq_f i157_259 c5 ?_
  refine gm_ev.aload_n i157_262 rfl ?_
  refine gm_ev.getfield (v := .ref (B + 16)) i157_263 rfl (bM_fld (j := 0) (fs := mF B (mA s 27 (upd (s.2.1 27) k3 ((s.2.1 27 k2) + (1 : Int32))))) rfl rfl) ?_
  refine gm_ev.iload_n i157_266 rfl ?_
  refine gm_ev.iaload i157_267 (bM_ai (j := 16) (n := 7) (f := (upd (s.2.1 27) k3 ((s.2.1 27 k2) + (1 : Int32)))) rfl ek6 lk6 (by decide)) ?_
  refine gm_ev.if_ne_t (tgt := 275) i157_268 (by decide) c7 ?_
  refine gm_ev.iconst (v := 0) i157_275 (by decide) ?_
  refine gm_ev.goto (tgt := 297) i157_276 (by decide) ?_
  refine gm_ev.istore (ls' := [some (.ref B), some (.int x1), some (.int x2), some (.int x3), some (.int ((((6 : Int32) * x1) + (1 : Int32)) + x3)), some (.int (0 : Int32))]) i157_297 (Nat.le_of_ble_eq_true rfl) rfl ?_
  refine gm_ev.iload i157_299 rfl ?_
  refine gm_ev.if_ne_t (tgt := 310) i157_301 (by decide) c8 ?_
  refine gm_ev.aload_n i157_310 rfl ?_
  refine gm_ev.getfield (v := .ref (B + 5)) i157_311 rfl (bM_fld (j := 0) (fs := mF B (mA s 27 (upd (s.2.1 27) k3 ((s.2.1 27 k2) + (1 : Int32))))) rfl rfl) ?_
  refine gm_ev.iload i157_314 rfl ?_
  refine gm_ev.iaload i157_316 (bM_ai (j := 5) (n := 144) (f := s.2.1 13) rfl ek9 lk9 (by decide)) ?_
  refine gm_ev.if_ne_f i157_317 c10 ?_
  refine gm_ev.aload_n i157_320 rfl ?_
  refine gm_ev.iload i157_321 rfl ?_
  refine gm_ev.aload_n i157_323 rfl ?_
  refine gm_ev.getfield (v := .ref (B + 16)) i157_324 rfl (bM_fld (j := 0) (fs := mF B (mA s 27 (upd (s.2.1 27) k3 ((s.2.1 27 k2) + (1 : Int32))))) rfl rfl) ?_
  refine gm_ev.iload_n i157_327 rfl ?_
  refine gm_ev.iaload i157_328 (bM_ai (j := 16) (n := 7) (f := (upd (s.2.1 27) k3 ((s.2.1 27 k2) + (1 : Int32)))) rfl ek11 lk11 (by decide)) ?_
  refine gm_ev.iload_n i157_329 rfl ?_
  refine gm_ev.callV gm_mono_run (av := [.int ((((6 : Int32) * x1) + (1 : Int32)) + x3), .int ((upd (s.2.1 27) k3 ((s.2.1 27 k2) + (1 : Int32))) k11), .int x3]) (r := []) (ci := 11) (fs := mF B (mA s 27 (upd (s.2.1 27) k3 ((s.2.1 27 k2) + (1 : Int32))))) (bM_get (j := 0) rfl) i157_330 rfl rfl rfl (Nat.le_of_ble_eq_true rfl) t13 ?_
  refine gm_ev.if_eq_f i157_333 c15 ?_
  refine gm_ev.iinc (v := x3 + (1 : Int32)) (ls' := [some (.ref B), some (.int x1), some (.int x2), some (.int (x3 + (1 : Int32))), some (.int ((((6 : Int32) * x1) + (1 : Int32)) + x3)), some (.int (0 : Int32))]) i157_336 rfl (by rfl) rfl ?_
  refine gm_ev.aload_n i157_339 rfl ?_
  refine gm_ev.getfield (v := .ref (B + 16)) i157_340 rfl (bM_fld (j := 0) (fs := mF B s14) rfl rfl) ?_
  refine gm_ev.iload_n i157_343 rfl ?_
  refine gm_ev.iconst (v := -1) i157_344 (by decide) ?_
  refine gm_ev.iastore (M' := (bM B (mH B (mA s14 27 (upd (s14.2.1 27) k16 (-1 : Int32)))) G)) i157_345 (bM_asti (j := 16) (n := 7) (f := s14.2.1 27) rfl ek16 lk16 (by decide) hN rfl) ?_
  refine gm_ev.goto (tgt := 74) i157_346 (by decide) ?_
  refine gm_ev.le (a := [some (.ref B), some (.int x1), some (.int x2), some (.int (x3 + (1 : Int32))), none, none]) (gm_leL.le (show gm_leL _ _ from ⟨rfl, ⟨rfl, ⟨rfl, ⟨rfl, trivial⟩⟩⟩⟩)) ?_
  exact k
theorem r_apply_190_tftf_at74 {N0 : Nat} {K : Nat → Nat} {d B : Nat} {s : mS} {G : gm_H} {sz sl : Nat} {R : gm_R} {x1 : Int32} {x2 : Int32} {x3 : Int32} {x4 : Int32} {k2 : Nat} {k3 : Nat} {k4 : Nat} {k6 : Nat} (hN : N0 ≤ B) (c1 : (6 : Int32) ≤ x4) (ek2 : x3 = nI k2) (lk2 : k2 < 7) (ek3 : x3 = nI k3) (lk3 : k3 < 7) (ek4 : ((((6 : Int32) * x1) + (1 : Int32)) + x3) = nI k4) (lk4 : k4 < 144) (c5 : ¬ (s.2.1 13 k4) = 0) (ek6 : x3 = nI k6) (lk6 : k6 < 7) (c7 : ¬ ((upd (s.2.1 27) k3 ((s.2.1 27 k2) + (1 : Int32))) k6) = 0) (c8 : (0 : Int32) = 0) (k : gm_ev N0 K ra_nm (ra_mt K) d none (gm_I cX12_apply) (gm_lkf (lkX12 false K)) 74 [some (.ref B), some (.int x1), some (.int x2), some (.int (x3 + (-1 : Int32))), none, none] [] (bM B (mH B (mA s 27 (upd (s.2.1 27) k3 ((s.2.1 27 k2) + (1 : Int32))))) G) sz sl R) : gm_ev N0 K ra_nm (ra_mt K) d none (gm_I cX12_apply) (gm_lkf (lkX12 false K)) 190 [some (.ref B), some (.int x1), some (.int x2), some (.int x3), some (.int x4), none] [] (bM B (mH B s) G) sz sl R := by
  refine gm_ev.iload i157_190 rfl ?_
  refine gm_ev.bipush (v := 6) i157_192 (by decide) ?_
  refine gm_ev.icmp_ge_t (tgt := 232) i157_194 (by decide) c1 ?_
  refine gm_ev.bipush (v := 6) i157_232 (by decide) ?_
  refine gm_ev.iload_n i157_234 rfl ?_
  refine gm_ev.imul i157_235 ?_
  refine gm_ev.iconst (v := 1) i157_236 (by decide) ?_
  refine gm_ev.iadd i157_237 ?_
  refine gm_ev.iload_n i157_238 rfl ?_
  refine gm_ev.iadd i157_239 ?_
  refine gm_ev.istore (ls' := [some (.ref B), some (.int x1), some (.int x2), some (.int x3), some (.int ((((6 : Int32) * x1) + (1 : Int32)) + x3)), none]) i157_240 (Nat.le_of_ble_eq_true rfl) rfl ?_
  refine gm_ev.aload_n i157_242 rfl ?_
  refine gm_ev.getfield (v := .ref (B + 16)) i157_243 rfl (bM_fld (j := 0) (fs := mF B s) rfl rfl) ?_
  refine gm_ev.iload_n i157_246 rfl ?_
  refine gm_ev.dup2 i157_247 rfl rfl ?_
  refine gm_ev.iaload i157_248 (bM_ai (j := 16) (n := 7) (f := s.2.1 27) rfl ek2 lk2 (by decide)) ?_
  refine gm_ev.iconst (v := 1) i157_249 (by decide) ?_
  refine gm_ev.iadd i157_250 ?_
  refine gm_ev.iastore (M' := (bM B (mH B (mA s 27 (upd (s.2.1 27) k3 ((s.2.1 27 k2) + (1 : Int32))))) G)) i157_251 (bM_asti (j := 16) (n := 7) (f := s.2.1 27) rfl ek3 lk3 (by decide) hN rfl) ?_
  refine gm_ev.aload_n i157_252 rfl ?_
  refine gm_ev.getfield (v := .ref (B + 5)) i157_253 rfl (bM_fld (j := 0) (fs := mF B (mA s 27 (upd (s.2.1 27) k3 ((s.2.1 27 k2) + (1 : Int32))))) rfl rfl) ?_
  refine gm_ev.iload i157_256 rfl ?_
  refine gm_ev.iaload i157_258 (bM_ai (j := 5) (n := 144) (f := s.2.1 13) rfl ek4 lk4 (by decide)) ?_
  refine gm_ev.if_eq_f i157_259 c5 ?_
  refine gm_ev.aload_n i157_262 rfl ?_
  refine gm_ev.getfield (v := .ref (B + 16)) i157_263 rfl (bM_fld (j := 0) (fs := mF B (mA s 27 (upd (s.2.1 27) k3 ((s.2.1 27 k2) + (1 : Int32))))) rfl rfl) ?_
  refine gm_ev.iload_n i157_266 rfl ?_
  refine gm_ev.iaload i157_267 (bM_ai (j := 16) (n := 7) (f := (upd (s.2.1 27) k3 ((s.2.1 27 k2) + (1 : Int32)))) rfl ek6 lk6 (by decide)) ?_
  refine gm_ev.if_ne_t (tgt := 275) i157_268 (by decide) c7 ?_
  refine gm_ev.iconst (v := 0) i157_275 (by decide) ?_
  refine gm_ev.goto (tgt := 297) i157_276 (by decide) ?_
  refine gm_ev.istore (ls' := [some (.ref B), some (.int x1), some (.int x2), some (.int x3), some (.int ((((6 : Int32) * x1) + (1 : Int32)) + x3)), some (.int (0 : Int32))]) i157_297 (Nat.le_of_ble_eq_true rfl) rfl ?_
  refine gm_ev.iload i157_299 rfl ?_
  refine gm_ev.if_ne_f i157_301 c8 ?_
  refine gm_ev.iinc (v := x3 + (-1 : Int32)) (ls' := [some (.ref B), some (.int x1), some (.int x2), some (.int (x3 + (-1 : Int32))), some (.int ((((6 : Int32) * x1) + (1 : Int32)) + x3)), some (.int (0 : Int32))]) i157_304 rfl (by rfl) rfl ?_
  refine gm_ev.goto (tgt := 346) i157_307 (by decide) ?_
  refine gm_ev.goto (tgt := 74) i157_346 (by decide) ?_
  refine gm_ev.le (a := [some (.ref B), some (.int x1), some (.int x2), some (.int (x3 + (-1 : Int32))), none, none]) (gm_leL.le (show gm_leL _ _ from ⟨rfl, ⟨rfl, ⟨rfl, ⟨rfl, trivial⟩⟩⟩⟩)) ?_
  exact k
theorem r_apply_190_tfftt_at74 {N0 : Nat} {K : Nat → Nat} {d B : Nat} {s : mS} {G : gm_H} {sz sl : Nat} {R : gm_R} {x1 : Int32} {x2 : Int32} {x3 : Int32} {x4 : Int32} {k2 : Nat} {k3 : Nat} {k4 : Nat} {k6 : Nat} {k9 : Nat} {k11 : Nat} (hN : N0 ≤ B) (c1 : (6 : Int32) ≤ x4) (ek2 : x3 = nI k2) (lk2 : k2 < 7) (ek3 : x3 = nI k3) (lk3 : k3 < 7) (ek4 : ((((6 : Int32) * x1) + (1 : Int32)) + x3) = nI k4) (lk4 : k4 < 144) (c5 : ¬ (s.2.1 13 k4) = 0) (ek6 : x3 = nI k6) (lk6 : k6 < 7) (c7 : ((upd (s.2.1 27) k3 ((s.2.1 27 k2) + (1 : Int32))) k6) = 0) (c8 : ¬ (1 : Int32) = 0) (ek9 : ((((6 : Int32) * x1) + (1 : Int32)) + x3) = nI k9) (lk9 : k9 < 144) (c10 : ¬ (s.2.1 13 k9) = 0) (ek11 : (x3 + (1 : Int32)) = nI k11) (lk11 : k11 < 7) (k : gm_ev N0 K ra_nm (ra_mt K) d none (gm_I cX12_apply) (gm_lkf (lkX12 false K)) 74 [some (.ref B), some (.int x1), some (.int x2), some (.int (x3 + (1 : Int32))), none, none] [] (bM B (mH B (mA (mA s 27 (upd (s.2.1 27) k3 ((s.2.1 27 k2) + (1 : Int32)))) 27 (upd (upd (s.2.1 27) k3 ((s.2.1 27 k2) + (1 : Int32))) k11 (-1 : Int32)))) G) sz sl R) : gm_ev N0 K ra_nm (ra_mt K) d none (gm_I cX12_apply) (gm_lkf (lkX12 false K)) 190 [some (.ref B), some (.int x1), some (.int x2), some (.int x3), some (.int x4), none] [] (bM B (mH B s) G) sz sl R := by
  refine gm_ev.iload i157_190 rfl ?_
  refine gm_ev.bipush (v := 6) i157_192 (by decide) ?_
  refine gm_ev.icmp_ge_t (tgt := 232) i157_194 (by decide) c1 ?_
  refine gm_ev.bipush (v := 6) i157_232 (by decide) ?_
  refine gm_ev.iload_n i157_234 rfl ?_
  refine gm_ev.imul i157_235 ?_
  refine gm_ev.iconst (v := 1) i157_236 (by decide) ?_
  refine gm_ev.iadd i157_237 ?_
  refine gm_ev.iload_n i157_238 rfl ?_
  refine gm_ev.iadd i157_239 ?_
  refine gm_ev.istore (ls' := [some (.ref B), some (.int x1), some (.int x2), some (.int x3), some (.int ((((6 : Int32) * x1) + (1 : Int32)) + x3)), none]) i157_240 (Nat.le_of_ble_eq_true rfl) rfl ?_
  refine gm_ev.aload_n i157_242 rfl ?_
  refine gm_ev.getfield (v := .ref (B + 16)) i157_243 rfl (bM_fld (j := 0) (fs := mF B s) rfl rfl) ?_
  refine gm_ev.iload_n i157_246 rfl ?_
  refine gm_ev.dup2 i157_247 rfl rfl ?_
  refine gm_ev.iaload i157_248 (bM_ai (j := 16) (n := 7) (f := s.2.1 27) rfl ek2 lk2 (by decide)) ?_
  refine gm_ev.iconst (v := 1) i157_249 (by decide) ?_
  refine gm_ev.iadd i157_250 ?_
  refine gm_ev.iastore (M' := (bM B (mH B (mA s 27 (upd (s.2.1 27) k3 ((s.2.1 27 k2) + (1 : Int32))))) G)) i157_251 (bM_asti (j := 16) (n := 7) (f := s.2.1 27) rfl ek3 lk3 (by decide) hN rfl) ?_
  refine gm_ev.aload_n i157_252 rfl ?_
  refine gm_ev.getfield (v := .ref (B + 5)) i157_253 rfl (bM_fld (j := 0) (fs := mF B (mA s 27 (upd (s.2.1 27) k3 ((s.2.1 27 k2) + (1 : Int32))))) rfl rfl) ?_
  refine gm_ev.iload i157_256 rfl ?_
  refine gm_ev.iaload i157_258 (bM_ai (j := 5) (n := 144) (f := s.2.1 13) rfl ek4 lk4 (by decide)) ?_
  refine gm_ev.if_eq_f i157_259 c5 ?_
  refine gm_ev.aload_n i157_262 rfl ?_
  refine gm_ev.getfield (v := .ref (B + 16)) i157_263 rfl (bM_fld (j := 0) (fs := mF B (mA s 27 (upd (s.2.1 27) k3 ((s.2.1 27 k2) + (1 : Int32))))) rfl rfl) ?_
  refine gm_ev.iload_n i157_266 rfl ?_
  refine gm_ev.iaload i157_267 (bM_ai (j := 16) (n := 7) (f := (upd (s.2.1 27) k3 ((s.2.1 27 k2) + (1 : Int32)))) rfl ek6 lk6 (by decide)) ?_
  refine gm_ev.if_ne_f i157_268 c7 ?_
  refine gm_ev.iconst (v := 1) i157_271 (by decide) ?_
  refine gm_ev.goto (tgt := 297) i157_272 (by decide) ?_
  refine gm_ev.istore (ls' := [some (.ref B), some (.int x1), some (.int x2), some (.int x3), some (.int ((((6 : Int32) * x1) + (1 : Int32)) + x3)), some (.int (1 : Int32))]) i157_297 (Nat.le_of_ble_eq_true rfl) rfl ?_
  refine gm_ev.iload i157_299 rfl ?_
  refine gm_ev.if_ne_t (tgt := 310) i157_301 (by decide) c8 ?_
  refine gm_ev.aload_n i157_310 rfl ?_
  refine gm_ev.getfield (v := .ref (B + 5)) i157_311 rfl (bM_fld (j := 0) (fs := mF B (mA s 27 (upd (s.2.1 27) k3 ((s.2.1 27 k2) + (1 : Int32))))) rfl rfl) ?_
  refine gm_ev.iload i157_314 rfl ?_
  refine gm_ev.iaload i157_316 (bM_ai (j := 5) (n := 144) (f := s.2.1 13) rfl ek9 lk9 (by decide)) ?_
  refine gm_ev.if_ne_t (tgt := 336) i157_317 (by decide) c10 ?_
  refine gm_ev.iinc (v := x3 + (1 : Int32)) (ls' := [some (.ref B), some (.int x1), some (.int x2), some (.int (x3 + (1 : Int32))), some (.int ((((6 : Int32) * x1) + (1 : Int32)) + x3)), some (.int (1 : Int32))]) i157_336 rfl (by rfl) rfl ?_
  refine gm_ev.aload_n i157_339 rfl ?_
  refine gm_ev.getfield (v := .ref (B + 16)) i157_340 rfl (bM_fld (j := 0) (fs := mF B (mA s 27 (upd (s.2.1 27) k3 ((s.2.1 27 k2) + (1 : Int32))))) rfl rfl) ?_
  refine gm_ev.iload_n i157_343 rfl ?_
  refine gm_ev.iconst (v := -1) i157_344 (by decide) ?_
  refine gm_ev.iastore (M' := (bM B (mH B (mA (mA s 27 (upd (s.2.1 27) k3 ((s.2.1 27 k2) + (1 : Int32)))) 27 (upd (upd (s.2.1 27) k3 ((s.2.1 27 k2) + (1 : Int32))) k11 (-1 : Int32)))) G)) i157_345 (bM_asti (j := 16) (n := 7) (f := (upd (s.2.1 27) k3 ((s.2.1 27 k2) + (1 : Int32)))) rfl ek11 lk11 (by decide) hN rfl) ?_
  refine gm_ev.goto (tgt := 74) i157_346 (by decide) ?_
  refine gm_ev.le (a := [some (.ref B), some (.int x1), some (.int x2), some (.int (x3 + (1 : Int32))), none, none]) (gm_leL.le (show gm_leL _ _ from ⟨rfl, ⟨rfl, ⟨rfl, ⟨rfl, trivial⟩⟩⟩⟩)) ?_
  exact k
theorem r_apply_190_tfftft_at74 {N0 : Nat} {K : Nat → Nat} {d B : Nat} {s : mS} {G : gm_H} {sz sl : Nat} {R : gm_R} {x1 : Int32} {x2 : Int32} {x3 : Int32} {x4 : Int32} {k2 : Nat} {k3 : Nat} {k4 : Nat} {k6 : Nat} {k9 : Nat} {k11 : Nat} {r12 : Int32} {s14 : mS} (hN : N0 ≤ B) (c1 : (6 : Int32) ≤ x4) (ek2 : x3 = nI k2) (lk2 : k2 < 7) (ek3 : x3 = nI k3) (lk3 : k3 < 7) (ek4 : ((((6 : Int32) * x1) + (1 : Int32)) + x3) = nI k4) (lk4 : k4 < 144) (c5 : ¬ (s.2.1 13 k4) = 0) (ek6 : x3 = nI k6) (lk6 : k6 < 7) (c7 : ((upd (s.2.1 27) k3 ((s.2.1 27 k2) + (1 : Int32))) k6) = 0) (c8 : ¬ (1 : Int32) = 0) (ek9 : ((((6 : Int32) * x1) + (1 : Int32)) + x3) = nI k9) (lk9 : k9 < 144) (c10 : (s.2.1 13 k9) = 0) (ek11 : x3 = nI k11) (lk11 : k11 < 7) (t13 : gm_to N0 K ra_nm (ra_mt K) d 150 [.ref B, .int ((((6 : Int32) * x1) + (1 : Int32)) + x3), .int ((upd (s.2.1 27) k3 ((s.2.1 27 k2) + (1 : Int32))) k11), .int x3] (bM B (mH B (mA s 27 (upd (s.2.1 27) k3 ((s.2.1 27 k2) + (1 : Int32))))) G) sz (.returned (some (.int r12)), bM B (mH B s14) G, sz, 0)) (c15 : r12 = 0) (k : gm_ev N0 K ra_nm (ra_mt K) d none (gm_I cX12_apply) (gm_lkf (lkX12 false K)) 74 [some (.ref B), some (.int x1), some (.int x2), some (.int x3), none, none] [] (bM B (mH B s14) G) sz sl R) : gm_ev N0 K ra_nm (ra_mt K) d none (gm_I cX12_apply) (gm_lkf (lkX12 false K)) 190 [some (.ref B), some (.int x1), some (.int x2), some (.int x3), some (.int x4), none] [] (bM B (mH B s) G) sz sl R := by
  refine gm_ev.iload i157_190 rfl ?_
  refine gm_ev.bipush (v := 6) i157_192 (by decide) ?_
  refine gm_ev.icmp_ge_t (tgt := 232) i157_194 (by decide) c1 ?_
  refine gm_ev.bipush (v := 6) i157_232 (by decide) ?_
  refine gm_ev.iload_n i157_234 rfl ?_
  refine gm_ev.imul i157_235 ?_
  refine gm_ev.iconst (v := 1) i157_236 (by decide) ?_
  refine gm_ev.iadd i157_237 ?_
  refine gm_ev.iload_n i157_238 rfl ?_
  refine gm_ev.iadd i157_239 ?_
  refine gm_ev.istore (ls' := [some (.ref B), some (.int x1), some (.int x2), some (.int x3), some (.int ((((6 : Int32) * x1) + (1 : Int32)) + x3)), none]) i157_240 (Nat.le_of_ble_eq_true rfl) rfl ?_
  refine gm_ev.aload_n i157_242 rfl ?_
  refine gm_ev.getfield (v := .ref (B + 16)) i157_243 rfl (bM_fld (j := 0) (fs := mF B s) rfl rfl) ?_
  refine gm_ev.iload_n i157_246 rfl ?_
  refine gm_ev.dup2 i157_247 rfl rfl ?_
  refine gm_ev.iaload i157_248 (bM_ai (j := 16) (n := 7) (f := s.2.1 27) rfl ek2 lk2 (by decide)) ?_
  refine gm_ev.iconst (v := 1) i157_249 (by decide) ?_
  refine gm_ev.iadd i157_250 ?_
  refine gm_ev.iastore (M' := (bM B (mH B (mA s 27 (upd (s.2.1 27) k3 ((s.2.1 27 k2) + (1 : Int32))))) G)) i157_251 (bM_asti (j := 16) (n := 7) (f := s.2.1 27) rfl ek3 lk3 (by decide) hN rfl) ?_
  refine gm_ev.aload_n i157_252 rfl ?_
  refine gm_ev.getfield (v := .ref (B + 5)) i157_253 rfl (bM_fld (j := 0) (fs := mF B (mA s 27 (upd (s.2.1 27) k3 ((s.2.1 27 k2) + (1 : Int32))))) rfl rfl) ?_
  refine gm_ev.iload i157_256 rfl ?_
  refine gm_ev.iaload i157_258 (bM_ai (j := 5) (n := 144) (f := s.2.1 13) rfl ek4 lk4 (by decide)) ?_
  refine gm_ev.if_eq_f i157_259 c5 ?_
  refine gm_ev.aload_n i157_262 rfl ?_
  refine gm_ev.getfield (v := .ref (B + 16)) i157_263 rfl (bM_fld (j := 0) (fs := mF B (mA s 27 (upd (s.2.1 27) k3 ((s.2.1 27 k2) + (1 : Int32))))) rfl rfl) ?_
  refine gm_ev.iload_n i157_266 rfl ?_
  refine gm_ev.iaload i157_267 (bM_ai (j := 16) (n := 7) (f := (upd (s.2.1 27) k3 ((s.2.1 27 k2) + (1 : Int32)))) rfl ek6 lk6 (by decide)) ?_
  refine gm_ev.if_ne_f i157_268 c7 ?_
  refine gm_ev.iconst (v := 1) i157_271 (by decide) ?_
  refine gm_ev.goto (tgt := 297) i157_272 (by decide) ?_
  refine gm_ev.istore (ls' := [some (.ref B), some (.int x1), some (.int x2), some (.int x3), some (.int ((((6 : Int32) * x1) + (1 : Int32)) + x3)), some (.int (1 : Int32))]) i157_297 (Nat.le_of_ble_eq_true rfl) rfl ?_
  refine gm_ev.iload i157_299 rfl ?_
  refine gm_ev.if_ne_t (tgt := 310) i157_301 (by decide) c8 ?_
  refine gm_ev.aload_n i157_310 rfl ?_
  refine gm_ev.getfield (v := .ref (B + 5)) i157_311 rfl (bM_fld (j := 0) (fs := mF B (mA s 27 (upd (s.2.1 27) k3 ((s.2.1 27 k2) + (1 : Int32))))) rfl rfl) ?_
  refine gm_ev.iload i157_314 rfl ?_
  refine gm_ev.iaload i157_316 (bM_ai (j := 5) (n := 144) (f := s.2.1 13) rfl ek9 lk9 (by decide)) ?_
  refine gm_ev.if_ne_f i157_317 c10 ?_
  refine gm_ev.aload_n i157_320 rfl ?_
  refine gm_ev.iload i157_321 rfl ?_
  refine gm_ev.aload_n i157_323 rfl ?_
  refine gm_ev.getfield (v := .ref (B + 16)) i157_324 rfl (bM_fld (j := 0) (fs := mF B (mA s 27 (upd (s.2.1 27) k3 ((s.2.1 27 k2) + (1 : Int32))))) rfl rfl) ?_
  refine gm_ev.iload_n i157_327 rfl ?_
  refine gm_ev.iaload i157_328 (bM_ai (j := 16) (n := 7) (f := (upd (s.2.1 27) k3 ((s.2.1 27 k2) + (1 : Int32)))) rfl ek11 lk11 (by decide)) ?_
  refine gm_ev.iload_n i157_329 rfl ?_
  refine gm_ev.callV gm_mono_run (av := [.int ((((6 : Int32) * x1) + (1 : Int32)) + x3), .int ((upd (s.2.1 27) k3 ((s.2.1 27 k2) + (1 : Int32))) k11), .int x3]) (r := []) (ci := 11) (fs := mF B (mA s 27 (upd (s.2.1 27) k3 ((s.2.1 27 k2) + (1 : Int32))))) (bM_get (j := 0) rfl) i157_330 rfl rfl rfl (Nat.le_of_ble_eq_true rfl) t13 ?_
  refine gm_ev.if_eq_t (tgt := 346) i157_333 (by decide) c15 ?_
  refine gm_ev.goto (tgt := 74) i157_346 (by decide) ?_
  refine gm_ev.le (a := [some (.ref B), some (.int x1), some (.int x2), some (.int x3), none, none]) (gm_leL.le (show gm_leL _ _ from ⟨rfl, ⟨rfl, ⟨rfl, ⟨rfl, trivial⟩⟩⟩⟩)) ?_
  exact k
theorem r_apply_190_tfftff_at74 {N0 : Nat} {K : Nat → Nat} {d B : Nat} {s : mS} {G : gm_H} {sz sl : Nat} {R : gm_R} {x1 : Int32} {x2 : Int32} {x3 : Int32} {x4 : Int32} {k2 : Nat} {k3 : Nat} {k4 : Nat} {k6 : Nat} {k9 : Nat} {k11 : Nat} {r12 : Int32} {s14 : mS} {k16 : Nat} (hN : N0 ≤ B) (c1 : (6 : Int32) ≤ x4) (ek2 : x3 = nI k2) (lk2 : k2 < 7) (ek3 : x3 = nI k3) (lk3 : k3 < 7) (ek4 : ((((6 : Int32) * x1) + (1 : Int32)) + x3) = nI k4) (lk4 : k4 < 144) (c5 : ¬ (s.2.1 13 k4) = 0) (ek6 : x3 = nI k6) (lk6 : k6 < 7) (c7 : ((upd (s.2.1 27) k3 ((s.2.1 27 k2) + (1 : Int32))) k6) = 0) (c8 : ¬ (1 : Int32) = 0) (ek9 : ((((6 : Int32) * x1) + (1 : Int32)) + x3) = nI k9) (lk9 : k9 < 144) (c10 : (s.2.1 13 k9) = 0) (ek11 : x3 = nI k11) (lk11 : k11 < 7) (t13 : gm_to N0 K ra_nm (ra_mt K) d 150 [.ref B, .int ((((6 : Int32) * x1) + (1 : Int32)) + x3), .int ((upd (s.2.1 27) k3 ((s.2.1 27 k2) + (1 : Int32))) k11), .int x3] (bM B (mH B (mA s 27 (upd (s.2.1 27) k3 ((s.2.1 27 k2) + (1 : Int32))))) G) sz (.returned (some (.int r12)), bM B (mH B s14) G, sz, 0)) (c15 : ¬ r12 = 0) (ek16 : (x3 + (1 : Int32)) = nI k16) (lk16 : k16 < 7) (k : gm_ev N0 K ra_nm (ra_mt K) d none (gm_I cX12_apply) (gm_lkf (lkX12 false K)) 74 [some (.ref B), some (.int x1), some (.int x2), some (.int (x3 + (1 : Int32))), none, none] [] (bM B (mH B (mA s14 27 (upd (s14.2.1 27) k16 (-1 : Int32)))) G) sz sl R) : gm_ev N0 K ra_nm (ra_mt K) d none (gm_I cX12_apply) (gm_lkf (lkX12 false K)) 190 [some (.ref B), some (.int x1), some (.int x2), some (.int x3), some (.int x4), none] [] (bM B (mH B s) G) sz sl R := by
  refine gm_ev.iload i157_190 rfl ?_
  refine gm_ev.bipush (v := 6) i157_192 (by decide) ?_
  refine gm_ev.icmp_ge_t (tgt := 232) i157_194 (by decide) c1 ?_
  refine gm_ev.bipush (v := 6) i157_232 (by decide) ?_
  refine gm_ev.iload_n i157_234 rfl ?_
  refine gm_ev.imul i157_235 ?_
  refine gm_ev.iconst (v := 1) i157_236 (by decide) ?_
  refine gm_ev.iadd i157_237 ?_
  refine gm_ev.iload_n i157_238 rfl ?_
  refine gm_ev.iadd i157_239 ?_
  refine gm_ev.istore (ls' := [some (.ref B), some (.int x1), some (.int x2), some (.int x3), some (.int ((((6 : Int32) * x1) + (1 : Int32)) + x3)), none]) i157_240 (Nat.le_of_ble_eq_true rfl) rfl ?_
  refine gm_ev.aload_n i157_242 rfl ?_
  refine gm_ev.getfield (v := .ref (B + 16)) i157_243 rfl (bM_fld (j := 0) (fs := mF B s) rfl rfl) ?_
  refine gm_ev.iload_n i157_246 rfl ?_
  refine gm_ev.dup2 i157_247 rfl rfl ?_
  refine gm_ev.iaload i157_248 (bM_ai (j := 16) (n := 7) (f := s.2.1 27) rfl ek2 lk2 (by decide)) ?_
  refine gm_ev.iconst (v := 1) i157_249 (by decide) ?_
  refine gm_ev.iadd i157_250 ?_
  refine gm_ev.iastore (M' := (bM B (mH B (mA s 27 (upd (s.2.1 27) k3 ((s.2.1 27 k2) + (1 : Int32))))) G)) i157_251 (bM_asti (j := 16) (n := 7) (f := s.2.1 27) rfl ek3 lk3 (by decide) hN rfl) ?_
  refine gm_ev.aload_n i157_252 rfl ?_
  refine gm_ev.getfield (v := .ref (B + 5)) i157_253 rfl (bM_fld (j := 0) (fs := mF B (mA s 27 (upd (s.2.1 27) k3 ((s.2.1 27 k2) + (1 : Int32))))) rfl rfl) ?_
  refine gm_ev.iload i157_256 rfl ?_
  refine gm_ev.iaload i157_258 (bM_ai (j := 5) (n := 144) (f := s.2.1 13) rfl ek4 lk4 (by decide)) ?_
  refine gm_ev.if_eq_f i157_259 c5 ?_
  refine gm_ev.aload_n i157_262 rfl ?_
  refine gm_ev.getfield (v := .ref (B + 16)) i157_263 rfl (bM_fld (j := 0) (fs := mF B (mA s 27 (upd (s.2.1 27) k3 ((s.2.1 27 k2) + (1 : Int32))))) rfl rfl) ?_
  refine gm_ev.iload_n i157_266 rfl ?_
  refine gm_ev.iaload i157_267 (bM_ai (j := 16) (n := 7) (f := (upd (s.2.1 27) k3 ((s.2.1 27 k2) + (1 : Int32)))) rfl ek6 lk6 (by decide)) ?_
  refine gm_ev.if_ne_f i157_268 c7 ?_
  refine gm_ev.iconst (v := 1) i157_271 (by decide) ?_
  refine gm_ev.goto (tgt := 297) i157_272 (by decide) ?_
  refine gm_ev.istore (ls' := [some (.ref B), some (.int x1), some (.int x2), some (.int x3), some (.int ((((6 : Int32) * x1) + (1 : Int32)) + x3)), some (.int (1 : Int32))]) i157_297 (Nat.le_of_ble_eq_true rfl) rfl ?_
  refine gm_ev.iload i157_299 rfl ?_
  refine gm_ev.if_ne_t (tgt := 310) i157_301 (by decide) c8 ?_
  refine gm_ev.aload_n i157_310 rfl ?_
  refine gm_ev.getfield (v := .ref (B + 5)) i157_311 rfl (bM_fld (j := 0) (fs := mF B (mA s 27 (upd (s.2.1 27) k3 ((s.2.1 27 k2) + (1 : Int32))))) rfl rfl) ?_
  refine gm_ev.iload i157_314 rfl ?_
  refine gm_ev.iaload i157_316 (bM_ai (j := 5) (n := 144) (f := s.2.1 13) rfl ek9 lk9 (by decide)) ?_
  refine gm_ev.if_ne_f i157_317 c10 ?_
  refine gm_ev.aload_n i157_320 rfl ?_
  refine gm_ev.iload i157_321 rfl ?_
  refine gm_ev.aload_n i157_323 rfl ?_
  refine gm_ev.getfield (v := .ref (B + 16)) i157_324 rfl (bM_fld (j := 0) (fs := mF B (mA s 27 (upd (s.2.1 27) k3 ((s.2.1 27 k2) + (1 : Int32))))) rfl rfl) ?_
  refine gm_ev.iload_n i157_327 rfl ?_
  refine gm_ev.iaload i157_328 (bM_ai (j := 16) (n := 7) (f := (upd (s.2.1 27) k3 ((s.2.1 27 k2) + (1 : Int32)))) rfl ek11 lk11 (by decide)) ?_
  refine gm_ev.iload_n i157_329 rfl ?_
  refine gm_ev.callV gm_mono_run (av := [.int ((((6 : Int32) * x1) + (1 : Int32)) + x3), .int ((upd (s.2.1 27) k3 ((s.2.1 27 k2) + (1 : Int32))) k11), .int x3]) (r := []) (ci := 11) (fs := mF B (mA s 27 (upd (s.2.1 27) k3 ((s.2.1 27 k2) + (1 : Int32))))) (bM_get (j := 0) rfl) i157_330 rfl rfl rfl (Nat.le_of_ble_eq_true rfl) t13 ?_
  refine gm_ev.if_eq_f i157_333 c15 ?_
  refine gm_ev.iinc (v := x3 + (1 : Int32)) (ls' := [some (.ref B), some (.int x1), some (.int x2), some (.int (x3 + (1 : Int32))), some (.int ((((6 : Int32) * x1) + (1 : Int32)) + x3)), some (.int (1 : Int32))]) i157_336 rfl (by rfl) rfl ?_
  refine gm_ev.aload_n i157_339 rfl ?_
  refine gm_ev.getfield (v := .ref (B + 16)) i157_340 rfl (bM_fld (j := 0) (fs := mF B s14) rfl rfl) ?_
  refine gm_ev.iload_n i157_343 rfl ?_
  refine gm_ev.iconst (v := -1) i157_344 (by decide) ?_
  refine gm_ev.iastore (M' := (bM B (mH B (mA s14 27 (upd (s14.2.1 27) k16 (-1 : Int32)))) G)) i157_345 (bM_asti (j := 16) (n := 7) (f := s14.2.1 27) rfl ek16 lk16 (by decide) hN rfl) ?_
  refine gm_ev.goto (tgt := 74) i157_346 (by decide) ?_
  refine gm_ev.le (a := [some (.ref B), some (.int x1), some (.int x2), some (.int (x3 + (1 : Int32))), none, none]) (gm_leL.le (show gm_leL _ _ from ⟨rfl, ⟨rfl, ⟨rfl, ⟨rfl, trivial⟩⟩⟩⟩)) ?_
  exact k
