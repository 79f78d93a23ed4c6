/-! paths through RuleArenaModel, by program -/
theorem r_thrown_0_ {N0 : Nat} {K : Nat → Nat} {d B : Nat} {s : mS} {G : gm_H} {sz sl : Nat}  (hN : N0 ≤ B)  : gm_ev N0 K ra_nm (ra_mt K) d (some .int) (gm_I cX12_thrown) (gm_lkf (lkX12 false K)) 0 [some (.ref B)] [] (bM B (mH B s) G) sz sl (.returned (some (.int (s.1 0))), (bM B (mH B s) G), sz, sl) := by
  refine gm_ev.aload_n i119_0 rfl ?_
  refine gm_ev.getfield (v := .int (s.1 0)) i119_1 rfl (bM_fld (j := 0) (fs := mF B s) rfl rfl) ?_
  exact gm_ev.iret i119_4 rfl
theorem r_fail_0_ {N0 : Nat} {K : Nat → Nat} {d B : Nat} {s : mS} {G : gm_H} {sz sl : Nat} {p0 : Int32} (hN : N0 ≤ B)  : gm_ev N0 K ra_nm (ra_mt K) d (some .int) (gm_I cX12_fail) (gm_lkf (lkX12 false K)) 0 [some (.ref B), some (.int p0)] [] (bM B (mH B s) G) sz sl (.returned (some (.int (0 : Int32))), (bM B (mH B (mI s 0 p0)) G), sz, sl) := by
  refine gm_ev.aload_n i120_0 rfl ?_
  refine gm_ev.iload_n i120_1 rfl ?_
  refine gm_ev.putfield (M' := (bM B (mH B (mI s 0 p0)) G)) i120_2 rfl (bM_put (j := 0) (fs := mF B s) rfl (Nat.le_of_ble_eq_true rfl) hN (gm_fit_i _) rfl) ?_
  refine gm_ev.iconst (v := 0) i120_5 (by decide) ?_
  exact gm_ev.iret i120_6 rfl
theorem r_write_0__at11 {N0 : Nat} {K : Nat → Nat} {d B : Nat} {s : mS} {G : gm_H} {sz sl : Nat} {R : gm_R} {p0 : Int64} (hN : N0 ≤ B)  (k : gm_ev N0 K ra_nm (ra_mt K) d (some .boolean) (gm_I cX12_write) (gm_lkf (lkX12 false K)) 11 [some (.ref B), some (.long p0), none, some (.int (0 : Int32)), some (.int (7 : Int32)), none] [] (bM B (mH B (mI s 0 (0 : Int32))) G) sz sl R) : gm_ev N0 K ra_nm (ra_mt K) d (some .boolean) (gm_I cX12_write) (gm_lkf (lkX12 false K)) 0 [some (.ref B), some (.long p0), none, none, none, none] [] (bM B (mH B s) G) sz sl R := by
  refine gm_ev.aload_n i121_0 rfl ?_
  refine gm_ev.iconst (v := 0) i121_1 (by decide) ?_
  refine gm_ev.putfield (M' := (bM B (mH B (mI s 0 (0 : Int32))) G)) i121_2 rfl (bM_put (j := 0) (fs := mF B s) rfl (Nat.le_of_ble_eq_true rfl) hN (gm_fit_i _) rfl) ?_
  refine gm_ev.iconst (v := 0) i121_5 (by decide) ?_
  refine gm_ev.istore_n (ls' := [some (.ref B), some (.long p0), none, some (.int (0 : Int32)), none, none]) i121_6 (Nat.le_of_ble_eq_true rfl) rfl ?_
  refine gm_ev.bipush (v := 7) i121_7 (by decide) ?_
  refine gm_ev.istore (ls' := [some (.ref B), some (.long p0), none, some (.int (0 : Int32)), some (.int (7 : Int32)), none]) i121_9 (Nat.le_of_ble_eq_true rfl) rfl ?_
  exact k
theorem r_write_11_tt_at88 {N0 : Nat} {K : Nat → Nat} {d B : Nat} {s : mS} {G : gm_H} {sz sl : Nat} {R : gm_R} {y1 : Int64} {x3 : Int32} {x4 : Int32} (hN : N0 ≤ B) (c1 : x4 < 0) (c2 : ((s.1 2) + x3) ≤ (240 : Int32)) (k : gm_ev N0 K ra_nm (ra_mt K) d (some .boolean) (gm_I cX12_write) (gm_lkf (lkX12 false K)) 88 [some (.ref B), some (.long y1), none, none, some (.int (7 : Int32)), none] [] (bM B (mH B s) G) sz sl R) : gm_ev N0 K ra_nm (ra_mt K) d (some .boolean) (gm_I cX12_write) (gm_lkf (lkX12 false K)) 11 [some (.ref B), some (.long y1), none, some (.int x3), some (.int x4), none] [] (bM B (mH B s) G) sz sl R := by
  refine gm_ev.iload i121_11 rfl ?_
  refine gm_ev.if_lt_t (tgt := 70) i121_13 (by decide) c1 ?_
  refine gm_ev.aload_n i121_70 rfl ?_
  refine gm_ev.getfield (v := .int (s.1 2)) i121_71 rfl (bM_fld (j := 0) (fs := mF B s) rfl rfl) ?_
  refine gm_ev.iload_n i121_74 rfl ?_
  refine gm_ev.iadd i121_75 ?_
  refine gm_ev.sipush (v := 240) i121_76 (by decide) ?_
  refine gm_ev.icmp_le_t (tgt := 84) i121_79 (by decide) c2 ?_
  refine gm_ev.bipush (v := 7) i121_84 (by decide) ?_
  refine gm_ev.istore (ls' := [some (.ref B), some (.long y1), none, some (.int x3), some (.int (7 : Int32)), none]) i121_86 (Nat.le_of_ble_eq_true rfl) rfl ?_
  refine gm_ev.le (a := [some (.ref B), some (.long y1), none, none, some (.int (7 : Int32)), none]) (gm_leL.le (show gm_leL _ _ from ⟨rfl, ⟨rfl, ⟨rfl, trivial⟩⟩⟩)) ?_
  exact k
theorem r_write_11_tf {N0 : Nat} {K : Nat → Nat} {d B : Nat} {s : mS} {G : gm_H} {sz sl : Nat} {y1 : Int64} {x3 : Int32} {x4 : Int32} (hN : N0 ≤ B) (c1 : x4 < 0) (c2 : ¬ ((s.1 2) + x3) ≤ (240 : Int32)) : gm_ev N0 K ra_nm (ra_mt K) d (some .boolean) (gm_I cX12_write) (gm_lkf (lkX12 false K)) 11 [some (.ref B), some (.long y1), none, some (.int x3), some (.int x4), none] [] (bM B (mH B s) G) sz sl (.returned (some (.int (0 : Int32))), (bM B (mH B s) G), sz, sl) := by
  refine gm_ev.iload i121_11 rfl ?_
  refine gm_ev.if_lt_t (tgt := 70) i121_13 (by decide) c1 ?_
  refine gm_ev.aload_n i121_70 rfl ?_
  refine gm_ev.getfield (v := .int (s.1 2)) i121_71 rfl (bM_fld (j := 0) (fs := mF B s) rfl rfl) ?_
  refine gm_ev.iload_n i121_74 rfl ?_
  refine gm_ev.iadd i121_75 ?_
  refine gm_ev.sipush (v := 240) i121_76 (by decide) ?_
  refine gm_ev.icmp_le_f i121_79 c2 ?_
  refine gm_ev.iconst (v := 0) i121_82 (by decide) ?_
  exact gm_ev.zret i121_83 rfl (by decide)
theorem r_write_11_ftt_at11 {N0 : Nat} {K : Nat → Nat} {d B : Nat} {s : mS} {G : gm_H} {sz sl : Nat} {R : gm_R} {y1 : Int64} {x3 : Int32} {x4 : Int32} (hN : N0 ≤ B) (c1 : ¬ x4 < 0) (c2 : (((y1 >>> ((((8 : Int32) * x4)).toInt64 &&& 63)) &&& (255 : Int64)).toInt32) = 0) (c3 : ¬ (((y1 >>> ((((8 : Int32) * x4)).toInt64 &&& 63)) &&& (255 : Int64)).toInt32) = 0) (k : gm_ev N0 K ra_nm (ra_mt K) d (some .boolean) (gm_I cX12_write) (gm_lkf (lkX12 false K)) 11 [some (.ref B), some (.long y1), none, some (.int (x3 + (1 : Int32))), some (.int (x4 + (-1 : Int32))), none] [] (bM B (mH B s) G) sz sl R) : gm_ev N0 K ra_nm (ra_mt K) d (some .boolean) (gm_I cX12_write) (gm_lkf (lkX12 false K)) 11 [some (.ref B), some (.long y1), none, some (.int x3), some (.int x4), none] [] (bM B (mH B s) G) sz sl R := by
  refine gm_ev.iload i121_11 rfl ?_
  refine gm_ev.if_lt_f i121_13 c1 ?_
  refine gm_ev.lload_n i121_16 rfl ?_
  refine gm_ev.bipush (v := 8) i121_17 (by decide) ?_
  refine gm_ev.iload i121_19 rfl ?_
  refine gm_ev.imul i121_21 ?_
  refine gm_ev.lshr i121_22 ?_
  refine gm_ev.ldc2 i121_23 rfl ?_
  refine gm_ev.land i121_26 ?_
  refine gm_ev.l2i i121_27 ?_
  refine gm_ev.istore (ls' := [some (.ref B), some (.long y1), none, some (.int x3), some (.int x4), some (.int (((y1 >>> ((((8 : Int32) * x4)).toInt64 &&& 63)) &&& (255 : Int64)).toInt32))]) i121_28 (Nat.le_of_ble_eq_true rfl) rfl ?_
  refine gm_ev.iload i121_30 rfl ?_
  refine gm_ev.if_eq_t (tgt := 51) i121_32 (by decide) c2 ?_
  refine gm_ev.iload i121_51 rfl ?_
  refine gm_ev.if_ne_t (tgt := 60) i121_53 (by decide) c3 ?_
  refine gm_ev.iload_n i121_60 rfl ?_
  refine gm_ev.iconst (v := 1) i121_61 (by decide) ?_
  refine gm_ev.iadd i121_62 ?_
  refine gm_ev.istore_n (ls' := [some (.ref B), some (.long y1), none, some (.int (x3 + (1 : Int32))), some (.int x4), some (.int (((y1 >>> ((((8 : Int32) * x4)).toInt64 &&& 63)) &&& (255 : Int64)).toInt32))]) i121_63 (Nat.le_of_ble_eq_true rfl) rfl ?_
  refine gm_ev.iinc (v := x4 + (-1 : Int32)) (ls' := [some (.ref B), some (.long y1), none, some (.int (x3 + (1 : Int32))), some (.int (x4 + (-1 : Int32))), some (.int (((y1 >>> ((((8 : Int32) * x4)).toInt64 &&& 63)) &&& (255 : Int64)).toInt32))]) i121_64 rfl (by rfl) rfl ?_
  refine gm_ev.goto (tgt := 11) i121_67 (by decide) ?_
  refine gm_ev.le (a := [some (.ref B), some (.long y1), none, some (.int (x3 + (1 : Int32))), some (.int (x4 + (-1 : Int32))), none]) (gm_leL.le (show gm_leL _ _ from ⟨rfl, ⟨rfl, ⟨rfl, ⟨rfl, trivial⟩⟩⟩⟩)) ?_
  exact k
theorem r_write_11_ftf_at11 {N0 : Nat} {K : Nat → Nat} {d B : Nat} {s : mS} {G : gm_H} {sz sl : Nat} {R : gm_R} {y1 : Int64} {x3 : Int32} {x4 : Int32} (hN : N0 ≤ B) (c1 : ¬ x4 < 0) (c2 : (((y1 >>> ((((8 : Int32) * x4)).toInt64 &&& 63)) &&& (255 : Int64)).toInt32) = 0) (c3 : (((y1 >>> ((((8 : Int32) * x4)).toInt64 &&& 63)) &&& (255 : Int64)).toInt32) = 0) (k : gm_ev N0 K ra_nm (ra_mt K) d (some .boolean) (gm_I cX12_write) (gm_lkf (lkX12 false K)) 11 [some (.ref B), some (.long y1), none, some (.int x3), some (.int (x4 + (-1 : Int32))), none] [] (bM B (mH B s) G) sz sl R) : gm_ev N0 K ra_nm (ra_mt K) d (some .boolean) (gm_I cX12_write) (gm_lkf (lkX12 false K)) 11 [some (.ref B), some (.long y1), none, some (.int x3), some (.int x4), none] [] (bM B (mH B s) G) sz sl R := by
  refine gm_ev.iload i121_11 rfl ?_
  refine gm_ev.if_lt_f i121_13 c1 ?_
  refine gm_ev.lload_n i121_16 rfl ?_
  refine gm_ev.bipush (v := 8) i121_17 (by decide) ?_
  refine gm_ev.iload i121_19 rfl ?_
  refine gm_ev.imul i121_21 ?_
  refine gm_ev.lshr i121_22 ?_
  refine gm_ev.ldc2 i121_23 rfl ?_
  refine gm_ev.land i121_26 ?_
  refine gm_ev.l2i i121_27 ?_
  refine gm_ev.istore (ls' := [some (.ref B), some (.long y1), none, some (.int x3), some (.int x4), some (.int (((y1 >>> ((((8 : Int32) * x4)).toInt64 &&& 63)) &&& (255 : Int64)).toInt32))]) i121_28 (Nat.le_of_ble_eq_true rfl) rfl ?_
  refine gm_ev.iload i121_30 rfl ?_
  refine gm_ev.if_eq_t (tgt := 51) i121_32 (by decide) c2 ?_
  refine gm_ev.iload i121_51 rfl ?_
  refine gm_ev.if_ne_f i121_53 c3 ?_
  refine gm_ev.iload_n i121_56 rfl ?_
  refine gm_ev.goto (tgt := 63) i121_57 (by decide) ?_
  refine gm_ev.istore_n (ls' := [some (.ref B), some (.long y1), none, some (.int x3), some (.int x4), some (.int (((y1 >>> ((((8 : Int32) * x4)).toInt64 &&& 63)) &&& (255 : Int64)).toInt32))]) i121_63 (Nat.le_of_ble_eq_true rfl) rfl ?_
  refine gm_ev.iinc (v := x4 + (-1 : Int32)) (ls' := [some (.ref B), some (.long y1), none, some (.int x3), some (.int (x4 + (-1 : Int32))), some (.int (((y1 >>> ((((8 : Int32) * x4)).toInt64 &&& 63)) &&& (255 : Int64)).toInt32))]) i121_64 rfl (by rfl) rfl ?_
  refine gm_ev.goto (tgt := 11) i121_67 (by decide) ?_
  refine gm_ev.le (a := [some (.ref B), some (.long y1), none, some (.int x3), some (.int (x4 + (-1 : Int32))), none]) (gm_leL.le (show gm_leL _ _ from ⟨rfl, ⟨rfl, ⟨rfl, ⟨rfl, trivial⟩⟩⟩⟩)) ?_
  exact k
theorem r_write_11_fft {N0 : Nat} {K : Nat → Nat} {d B : Nat} {s : mS} {G : gm_H} {sz sl : Nat} {y1 : Int64} {x3 : Int32} {x4 : Int32} (hN : N0 ≤ B) (c1 : ¬ x4 < 0) (c2 : ¬ (((y1 >>> ((((8 : Int32) * x4)).toInt64 &&& 63)) &&& (255 : Int64)).toInt32) = 0) (c3 : (((y1 >>> ((((8 : Int32) * x4)).toInt64 &&& 63)) &&& (255 : Int64)).toInt32) < (32 : Int32)) : gm_ev N0 K ra_nm (ra_mt K) d (some .boolean) (gm_I cX12_write) (gm_lkf (lkX12 false K)) 11 [some (.ref B), some (.long y1), none, some (.int x3), some (.int x4), none] [] (bM B (mH B s) G) sz sl (.returned (some (.int (0 : Int32))), (bM B (mH B s) G), sz, sl) := by
  refine gm_ev.iload i121_11 rfl ?_
  refine gm_ev.if_lt_f i121_13 c1 ?_
  refine gm_ev.lload_n i121_16 rfl ?_
  refine gm_ev.bipush (v := 8) i121_17 (by decide) ?_
  refine gm_ev.iload i121_19 rfl ?_
  refine gm_ev.imul i121_21 ?_
  refine gm_ev.lshr i121_22 ?_
  refine gm_ev.ldc2 i121_23 rfl ?_
  refine gm_ev.land i121_26 ?_
  refine gm_ev.l2i i121_27 ?_
  refine gm_ev.istore (ls' := [some (.ref B), some (.long y1), none, some (.int x3), some (.int x4), some (.int (((y1 >>> ((((8 : Int32) * x4)).toInt64 &&& 63)) &&& (255 : Int64)).toInt32))]) i121_28 (Nat.le_of_ble_eq_true rfl) rfl ?_
  refine gm_ev.iload i121_30 rfl ?_
  refine gm_ev.if_eq_f i121_32 c2 ?_
  refine gm_ev.iload i121_35 rfl ?_
  refine gm_ev.bipush (v := 32) i121_37 (by decide) ?_
  refine gm_ev.icmp_lt_t (tgt := 49) i121_39 (by decide) c3 ?_
  refine gm_ev.iconst (v := 0) i121_49 (by decide) ?_
  exact gm_ev.zret i121_50 rfl (by decide)
theorem r_write_11_ffftt_at11 {N0 : Nat} {K : Nat → Nat} {d B : Nat} {s : mS} {G : gm_H} {sz sl : Nat} {R : gm_R} {y1 : Int64} {x3 : Int32} {x4 : Int32} (hN : N0 ≤ B) (c1 : ¬ x4 < 0) (c2 : ¬ (((y1 >>> ((((8 : Int32) * x4)).toInt64 &&& 63)) &&& (255 : Int64)).toInt32) = 0) (c3 : ¬ (((y1 >>> ((((8 : Int32) * x4)).toInt64 &&& 63)) &&& (255 : Int64)).toInt32) < (32 : Int32)) (c4 : (((y1 >>> ((((8 : Int32) * x4)).toInt64 &&& 63)) &&& (255 : Int64)).toInt32) ≤ (126 : Int32)) (c5 : ¬ (((y1 >>> ((((8 : Int32) * x4)).toInt64 &&& 63)) &&& (255 : Int64)).toInt32) = 0) (k : gm_ev N0 K ra_nm (ra_mt K) d (some .boolean) (gm_I cX12_write) (gm_lkf (lkX12 false K)) 11 [some (.ref B), some (.long y1), none, some (.int (x3 + (1 : Int32))), some (.int (x4 + (-1 : Int32))), none] [] (bM B (mH B s) G) sz sl R) : gm_ev N0 K ra_nm (ra_mt K) d (some .boolean) (gm_I cX12_write) (gm_lkf (lkX12 false K)) 11 [some (.ref B), some (.long y1), none, some (.int x3), some (.int x4), none] [] (bM B (mH B s) G) sz sl R := by
  refine gm_ev.iload i121_11 rfl ?_
  refine gm_ev.if_lt_f i121_13 c1 ?_
  refine gm_ev.lload_n i121_16 rfl ?_
  refine gm_ev.bipush (v := 8) i121_17 (by decide) ?_
  refine gm_ev.iload i121_19 rfl ?_
  refine gm_ev.imul i121_21 ?_
  refine gm_ev.lshr i121_22 ?_
  refine gm_ev.ldc2 i121_23 rfl ?_
  refine gm_ev.land i121_26 ?_
  refine gm_ev.l2i i121_27 ?_
  refine gm_ev.istore (ls' := [some (.ref B), some (.long y1), none, some (.int x3), some (.int x4), some (.int (((y1 >>> ((((8 : Int32) * x4)).toInt64 &&& 63)) &&& (255 : Int64)).toInt32))]) i121_28 (Nat.le_of_ble_eq_true rfl) rfl ?_
  refine gm_ev.iload i121_30 rfl ?_
  refine gm_ev.if_eq_f i121_32 c2 ?_
  refine gm_ev.iload i121_35 rfl ?_
  refine gm_ev.bipush (v := 32) i121_37 (by decide) ?_
  refine gm_ev.icmp_lt_f i121_39 c3 ?_
  refine gm_ev.iload i121_42 rfl ?_
  refine gm_ev.bipush (v := 126) i121_44 (by decide) ?_
  refine gm_ev.icmp_le_t (tgt := 51) i121_46 (by decide) c4 ?_
  refine gm_ev.iload i121_51 rfl ?_
  refine gm_ev.if_ne_t (tgt := 60) i121_53 (by decide) c5 ?_
  refine gm_ev.iload_n i121_60 rfl ?_
  refine gm_ev.iconst (v := 1) i121_61 (by decide) ?_
  refine gm_ev.iadd i121_62 ?_
  refine gm_ev.istore_n (ls' := [some (.ref B), some (.long y1), none, some (.int (x3 + (1 : Int32))), some (.int x4), some (.int (((y1 >>> ((((8 : Int32) * x4)).toInt64 &&& 63)) &&& (255 : Int64)).toInt32))]) i121_63 (Nat.le_of_ble_eq_true rfl) rfl ?_
  refine gm_ev.iinc (v := x4 + (-1 : Int32)) (ls' := [some (.ref B), some (.long y1), none, some (.int (x3 + (1 : Int32))), some (.int (x4 + (-1 : Int32))), some (.int (((y1 >>> ((((8 : Int32) * x4)).toInt64 &&& 63)) &&& (255 : Int64)).toInt32))]) i121_64 rfl (by rfl) rfl ?_
  refine gm_ev.goto (tgt := 11) i121_67 (by decide) ?_
  refine gm_ev.le (a := [some (.ref B), some (.long y1), none, some (.int (x3 + (1 : Int32))), some (.int (x4 + (-1 : Int32))), none]) (gm_leL.le (show gm_leL _ _ from ⟨rfl, ⟨rfl, ⟨rfl, ⟨rfl, trivial⟩⟩⟩⟩)) ?_
  exact k
theorem r_write_11_ffftf_at11 {N0 : Nat} {K : Nat → Nat} {d B : Nat} {s : mS} {G : gm_H} {sz sl : Nat} {R : gm_R} {y1 : Int64} {x3 : Int32} {x4 : Int32} (hN : N0 ≤ B) (c1 : ¬ x4 < 0) (c2 : ¬ (((y1 >>> ((((8 : Int32) * x4)).toInt64 &&& 63)) &&& (255 : Int64)).toInt32) = 0) (c3 : ¬ (((y1 >>> ((((8 : Int32) * x4)).toInt64 &&& 63)) &&& (255 : Int64)).toInt32) < (32 : Int32)) (c4 : (((y1 >>> ((((8 : Int32) * x4)).toInt64 &&& 63)) &&& (255 : Int64)).toInt32) ≤ (126 : Int32)) (c5 : (((y1 >>> ((((8 : Int32) * x4)).toInt64 &&& 63)) &&& (255 : Int64)).toInt32) = 0) (k : gm_ev N0 K ra_nm (ra_mt K) d (some .boolean) (gm_I cX12_write) (gm_lkf (lkX12 false K)) 11 [some (.ref B), some (.long y1), none, some (.int x3), some (.int (x4 + (-1 : Int32))), none] [] (bM B (mH B s) G) sz sl R) : gm_ev N0 K ra_nm (ra_mt K) d (some .boolean) (gm_I cX12_write) (gm_lkf (lkX12 false K)) 11 [some (.ref B), some (.long y1), none, some (.int x3), some (.int x4), none] [] (bM B (mH B s) G) sz sl R := by
  refine gm_ev.iload i121_11 rfl ?_
  refine gm_ev.if_lt_f i121_13 c1 ?_
  refine gm_ev.lload_n i121_16 rfl ?_
  refine gm_ev.bipush (v := 8) i121_17 (by decide) ?_
  refine gm_ev.iload i121_19 rfl ?_
  refine gm_ev.imul i121_21 ?_
  refine gm_ev.lshr i121_22 ?_
  refine gm_ev.ldc2 i121_23 rfl ?_
  refine gm_ev.land i121_26 ?_
  refine gm_ev.l2i i121_27 ?_
  refine gm_ev.istore (ls' := [some (.ref B), some (.long y1), none, some (.int x3), some (.int x4), some (.int (((y1 >>> ((((8 : Int32) * x4)).toInt64 &&& 63)) &&& (255 : Int64)).toInt32))]) i121_28 (Nat.le_of_ble_eq_true rfl) rfl ?_
  refine gm_ev.iload i121_30 rfl ?_
  refine gm_ev.if_eq_f i121_32 c2 ?_
  refine gm_ev.iload i121_35 rfl ?_
  refine gm_ev.bipush (v := 32) i121_37 (by decide) ?_
  refine gm_ev.icmp_lt_f i121_39 c3 ?_
  refine gm_ev.iload i121_42 rfl ?_
  refine gm_ev.bipush (v := 126) i121_44 (by decide) ?_
  refine gm_ev.icmp_le_t (tgt := 51) i121_46 (by decide) c4 ?_
  refine gm_ev.iload i121_51 rfl ?_
  refine gm_ev.if_ne_f i121_53 c5 ?_
  refine gm_ev.iload_n i121_56 rfl ?_
  refine gm_ev.goto (tgt := 63) i121_57 (by decide) ?_
  refine gm_ev.istore_n (ls' := [some (.ref B), some (.long y1), none, some (.int x3), some (.int x4), some (.int (((y1 >>> ((((8 : Int32) * x4)).toInt64 &&& 63)) &&& (255 : Int64)).toInt32))]) i121_63 (Nat.le_of_ble_eq_true rfl) rfl ?_
  refine gm_ev.iinc (v := x4 + (-1 : Int32)) (ls' := [some (.ref B), some (.long y1), none, some (.int x3), some (.int (x4 + (-1 : Int32))), some (.int (((y1 >>> ((((8 : Int32) * x4)).toInt64 &&& 63)) &&& (255 : Int64)).toInt32))]) i121_64 rfl (by rfl) rfl ?_
  refine gm_ev.goto (tgt := 11) i121_67 (by decide) ?_
  refine gm_ev.le (a := [some (.ref B), some (.long y1), none, some (.int x3), some (.int (x4 + (-1 : Int32))), none]) (gm_leL.le (show gm_leL _ _ from ⟨rfl, ⟨rfl, ⟨rfl, ⟨rfl, trivial⟩⟩⟩⟩)) ?_
  exact k
theorem r_write_11_ffff {N0 : Nat} {K : Nat → Nat} {d B : Nat} {s : mS} {G : gm_H} {sz sl : Nat} {y1 : Int64} {x3 : Int32} {x4 : Int32} (hN : N0 ≤ B) (c1 : ¬ x4 < 0) (c2 : ¬ (((y1 >>> ((((8 : Int32) * x4)).toInt64 &&& 63)) &&& (255 : Int64)).toInt32) = 0) (c3 : ¬ (((y1 >>> ((((8 : Int32) * x4)).toInt64 &&& 63)) &&& (255 : Int64)).toInt32) < (32 : Int32)) (c4 : ¬ (((y1 >>> ((((8 : Int32) * x4)).toInt64 &&& 63)) &&& (255 : Int64)).toInt32) ≤ (126 : Int32)) : gm_ev N0 K ra_nm (ra_mt K) d (some .boolean) (gm_I cX12_write) (gm_lkf (lkX12 false K)) 11 [some (.ref B), some (.long y1), none, some (.int x3), some (.int x4), none] [] (bM B (mH B s) G) sz sl (.returned (some (.int (0 : Int32))), (bM B (mH B s) G), sz, sl) := by
  refine gm_ev.iload i121_11 rfl ?_
  refine gm_ev.if_lt_f i121_13 c1 ?_
  refine gm_ev.lload_n i121_16 rfl ?_
  refine gm_ev.bipush (v := 8) i121_17 (by decide) ?_
  refine gm_ev.iload i121_19 rfl ?_
  refine gm_ev.imul i121_21 ?_
  refine gm_ev.lshr i121_22 ?_
  refine gm_ev.ldc2 i121_23 rfl ?_
  refine gm_ev.land i121_26 ?_
  refine gm_ev.l2i i121_27 ?_
  refine gm_ev.istore (ls' := [some (.ref B), some (.long y1), none, some (.int x3), some (.int x4), some (.int (((y1 >>> ((((8 : Int32) * x4)).toInt64 &&& 63)) &&& (255 : Int64)).toInt32))]) i121_28 (Nat.le_of_ble_eq_true rfl) rfl ?_
  refine gm_ev.iload i121_30 rfl ?_
  refine gm_ev.if_eq_f i121_32 c2 ?_
  refine gm_ev.iload i121_35 rfl ?_
  refine gm_ev.bipush (v := 32) i121_37 (by decide) ?_
  refine gm_ev.icmp_lt_f i121_39 c3 ?_
  refine gm_ev.iload i121_42 rfl ?_
  refine gm_ev.bipush (v := 126) i121_44 (by decide) ?_
  refine gm_ev.icmp_le_f i121_46 c4 ?_
  refine gm_ev.iconst (v := 0) i121_49 (by decide) ?_
  exact gm_ev.zret i121_50 rfl (by decide)
theorem r_write_88_t {N0 : Nat} {K : Nat → Nat} {d B : Nat} {s : mS} {G : gm_H} {sz sl : Nat} {y1 : Int64} {x4 : Int32} (hN : N0 ≤ B) (c1 : x4 < 0) : gm_ev N0 K ra_nm (ra_mt K) d (some .boolean) (gm_I cX12_write) (gm_lkf (lkX12 false K)) 88 [some (.ref B), some (.long y1), none, none, some (.int x4), none] [] (bM B (mH B s) G) sz sl (.returned (some (.int (1 : Int32))), (bM B (mH B s) G), sz, sl) := by
  refine gm_ev.iload i121_88 rfl ?_
  refine gm_ev.if_lt_t (tgt := 140) i121_90 (by decide) c1 ?_
  refine gm_ev.iconst (v := 1) i121_140 (by decide) ?_
  exact gm_ev.zret i121_141 rfl (by decide)
theorem r_write_88_ft_at88 {N0 : Nat} {K : Nat → Nat} {d B : Nat} {s : mS} {G : gm_H} {sz sl : Nat} {R : gm_R} {y1 : Int64} {x4 : Int32} (hN : N0 ≤ B) (c1 : ¬ x4 < 0) (c2 : (((y1 >>> ((((8 : Int32) * x4)).toInt64 &&& 63)) &&& (255 : Int64)).toInt32) = 0) (k : gm_ev N0 K ra_nm (ra_mt K) d (some .boolean) (gm_I cX12_write) (gm_lkf (lkX12 false K)) 88 [some (.ref B), some (.long y1), none, none, some (.int (x4 + (-1 : Int32))), none] [] (bM B (mH B s) G) sz sl R) : gm_ev N0 K ra_nm (ra_mt K) d (some .boolean) (gm_I cX12_write) (gm_lkf (lkX12 false K)) 88 [some (.ref B), some (.long y1), none, none, some (.int x4), none] [] (bM B (mH B s) G) sz sl R := by
  refine gm_ev.iload i121_88 rfl ?_
  refine gm_ev.if_lt_f i121_90 c1 ?_
  refine gm_ev.lload_n i121_93 rfl ?_
  refine gm_ev.bipush (v := 8) i121_94 (by decide) ?_
  refine gm_ev.iload i121_96 rfl ?_
  refine gm_ev.imul i121_98 ?_
  refine gm_ev.lshr i121_99 ?_
  refine gm_ev.ldc2 i121_100 rfl ?_
  refine gm_ev.land i121_103 ?_
  refine gm_ev.l2i i121_104 ?_
  refine gm_ev.istore (ls' := [some (.ref B), some (.long y1), none, none, some (.int x4), some (.int (((y1 >>> ((((8 : Int32) * x4)).toInt64 &&& 63)) &&& (255 : Int64)).toInt32))]) i121_105 (Nat.le_of_ble_eq_true rfl) rfl ?_
  refine gm_ev.iload i121_107 rfl ?_
  refine gm_ev.if_eq_t (tgt := 134) i121_109 (by decide) c2 ?_
  refine gm_ev.iinc (v := x4 + (-1 : Int32)) (ls' := [some (.ref B), some (.long y1), none, none, some (.int (x4 + (-1 : Int32))), some (.int (((y1 >>> ((((8 : Int32) * x4)).toInt64 &&& 63)) &&& (255 : Int64)).toInt32))]) i121_134 rfl (by rfl) rfl ?_
  refine gm_ev.goto (tgt := 88) i121_137 (by decide) ?_
  refine gm_ev.le (a := [some (.ref B), some (.long y1), none, none, some (.int (x4 + (-1 : Int32))), none]) (gm_leL.le (show gm_leL _ _ from ⟨rfl, ⟨rfl, ⟨rfl, trivial⟩⟩⟩)) ?_
  exact k
theorem r_write_88_ff_at88 {N0 : Nat} {K : Nat → Nat} {d B : Nat} {s : mS} {G : gm_H} {sz sl : Nat} {R : gm_R} {y1 : Int64} {x4 : Int32} {k3 : Nat} (hN : N0 ≤ B) (c1 : ¬ x4 < 0) (c2 : ¬ (((y1 >>> ((((8 : Int32) * x4)).toInt64 &&& 63)) &&& (255 : Int64)).toInt32) = 0) (ek3 : (s.1 2) = nI k3) (lk3 : k3 < 240) (k : gm_ev N0 K ra_nm (ra_mt K) d (some .boolean) (gm_I cX12_write) (gm_lkf (lkX12 false K)) 88 [some (.ref B), some (.long y1), none, none, some (.int (x4 + (-1 : Int32))), none] [] (bM B (mH B (mI (mA s 1 (upd (s.2.1 1) k3 (vp_nar .char (((((y1 >>> ((((8 : Int32) * x4)).toInt64 &&& 63)) &&& (255 : Int64)).toInt32).toUInt32 % 65536).toInt32)))) 2 ((s.1 2) + (1 : Int32)))) G) sz sl R) : gm_ev N0 K ra_nm (ra_mt K) d (some .boolean) (gm_I cX12_write) (gm_lkf (lkX12 false K)) 88 [some (.ref B), some (.long y1), none, none, some (.int x4), none] [] (bM B (mH B s) G) sz sl R := by
  refine gm_ev.iload i121_88 rfl ?_
  refine gm_ev.if_lt_f i121_90 c1 ?_
  refine gm_ev.lload_n i121_93 rfl ?_
  refine gm_ev.bipush (v := 8) i121_94 (by decide) ?_
  refine gm_ev.iload i121_96 rfl ?_
  refine gm_ev.imul i121_98 ?_
  refine gm_ev.lshr i121_99 ?_
  refine gm_ev.ldc2 i121_100 rfl ?_
  refine gm_ev.land i121_103 ?_
  refine gm_ev.l2i i121_104 ?_
  refine gm_ev.istore (ls' := [some (.ref B), some (.long y1), none, none, some (.int x4), some (.int (((y1 >>> ((((8 : Int32) * x4)).toInt64 &&& 63)) &&& (255 : Int64)).toInt32))]) i121_105 (Nat.le_of_ble_eq_true rfl) rfl ?_
  refine gm_ev.iload i121_107 rfl ?_
  refine gm_ev.if_eq_f i121_109 c2 ?_
  refine gm_ev.aload_n i121_112 rfl ?_
  refine gm_ev.getfield (v := .ref (B + 1)) i121_113 rfl (bM_fld (j := 0) (fs := mF B s) rfl rfl) ?_
  refine gm_ev.aload_n i121_116 rfl ?_
  refine gm_ev.getfield (v := .int (s.1 2)) i121_117 rfl (bM_fld (j := 0) (fs := mF B s) rfl rfl) ?_
  refine gm_ev.iload i121_120 rfl ?_
  refine gm_ev.i2c i121_122 ?_
  refine gm_ev.castore (M' := (bM B (mH B (mA s 1 (upd (s.2.1 1) k3 (vp_nar .char (((((y1 >>> ((((8 : Int32) * x4)).toInt64 &&& 63)) &&& (255 : Int64)).toInt32).toUInt32 % 65536).toInt32))))) G)) i121_123 (bM_astn (j := 1) (n := 240) (f := s.2.1 1) rfl ek3 lk3 (by decide) hN rfl) ?_
  refine gm_ev.aload_n i121_124 rfl ?_
  refine gm_ev.dup i121_125 rfl ?_
  refine gm_ev.getfield (v := .int (s.1 2)) i121_126 rfl (bM_fld (j := 0) (fs := mF B (mA s 1 (upd (s.2.1 1) k3 (vp_nar .char (((((y1 >>> ((((8 : Int32) * x4)).toInt64 &&& 63)) &&& (255 : Int64)).toInt32).toUInt32 % 65536).toInt32))))) rfl rfl) ?_
  refine gm_ev.iconst (v := 1) i121_129 (by decide) ?_
  refine gm_ev.iadd i121_130 ?_
  refine gm_ev.putfield (M' := (bM B (mH B (mI (mA s 1 (upd (s.2.1 1) k3 (vp_nar .char (((((y1 >>> ((((8 : Int32) * x4)).toInt64 &&& 63)) &&& (255 : Int64)).toInt32).toUInt32 % 65536).toInt32)))) 2 ((s.1 2) + (1 : Int32)))) G)) i121_131 rfl (bM_put (j := 0) (fs := mF B (mA s 1 (upd (s.2.1 1) k3 (vp_nar .char (((((y1 >>> ((((8 : Int32) * x4)).toInt64 &&& 63)) &&& (255 : Int64)).toInt32).toUInt32 % 65536).toInt32))))) rfl (Nat.le_of_ble_eq_true rfl) hN (gm_fit_i _) rfl) ?_
  refine gm_ev.iinc (v := x4 + (-1 : Int32)) (ls' := [some (.ref B), some (.long y1), none, none, some (.int (x4 + (-1 : Int32))), some (.int (((y1 >>> ((((8 : Int32) * x4)).toInt64 &&& 63)) &&& (255 : Int64)).toInt32))]) i121_134 rfl (by rfl) rfl ?_
  refine gm_ev.goto (tgt := 88) i121_137 (by decide) ?_
  refine gm_ev.le (a := [some (.ref B), some (.long y1), none, none, some (.int (x4 + (-1 : Int32))), none]) (gm_leL.le (show gm_leL _ _ from ⟨rfl, ⟨rfl, ⟨rfl, trivial⟩⟩⟩)) ?_
  exact k
theorem r_wipe_0_ {N0 : Nat} {K : Nat → Nat} {d B : Nat} {s : mS} {G : gm_H} {sz sl : Nat}  (hN : N0 ≤ B)  : gm_ev N0 K ra_nm (ra_mt K) d none (gm_I cX12_wipe) (gm_lkf (lkX12 false K)) 0 [some (.ref B)] [] (bM B (mH B s) G) sz sl (.returned none, (bM B (mH B (mI (mI s 0 (0 : Int32)) 2 (0 : Int32))) G), sz, sl) := by
  refine gm_ev.aload_n i122_0 rfl ?_
  refine gm_ev.iconst (v := 0) i122_1 (by decide) ?_
  refine gm_ev.putfield (M' := (bM B (mH B (mI s 0 (0 : Int32))) G)) i122_2 rfl (bM_put (j := 0) (fs := mF B s) rfl (Nat.le_of_ble_eq_true rfl) hN (gm_fit_i _) rfl) ?_
  refine gm_ev.aload_n i122_5 rfl ?_
  refine gm_ev.iconst (v := 0) i122_6 (by decide) ?_
  refine gm_ev.putfield (M' := (bM B (mH B (mI (mI s 0 (0 : Int32)) 2 (0 : Int32))) G)) i122_7 rfl (bM_put (j := 0) (fs := mF B (mI s 0 (0 : Int32))) rfl (Nat.le_of_ble_eq_true rfl) hN (gm_fit_i _) rfl) ?_
  exact gm_ev.vret i122_10 rfl
theorem r_here_0_t {N0 : Nat} {K : Nat → Nat} {d B : Nat} {s : mS} {G : gm_H} {sz sl : Nat}  (hN : N0 ≤ B) (c1 : (s.1 9) ≤ (s.1 10)) : gm_ev N0 K ra_nm (ra_mt K) d (some .int) (gm_I cX12_here) (gm_lkf (lkX12 false K)) 0 [some (.ref B)] [] (bM B (mH B s) G) sz sl (.returned (some (.int (0 : Int32))), (bM B (mH B s) G), sz, sl) := by
  refine gm_ev.aload_n i123_0 rfl ?_
  refine gm_ev.getfield (v := .int (s.1 10)) i123_1 rfl (bM_fld (j := 0) (fs := mF B s) rfl rfl) ?_
  refine gm_ev.aload_n i123_4 rfl ?_
  refine gm_ev.getfield (v := .int (s.1 9)) i123_5 rfl (bM_fld (j := 0) (fs := mF B s) rfl rfl) ?_
  refine gm_ev.icmp_ge_t (tgt := 23) i123_8 (by decide) c1 ?_
  refine gm_ev.iconst (v := 0) i123_23 (by decide) ?_
  exact gm_ev.iret i123_24 rfl
theorem r_here_0_f {N0 : Nat} {K : Nat → Nat} {d B : Nat} {s : mS} {G : gm_H} {sz sl : Nat} {k2 : Nat} (hN : N0 ≤ B) (c1 : ¬ (s.1 9) ≤ (s.1 10)) (ek2 : (s.1 10) = nI k2) (lk2 : k2 < 240) : gm_ev N0 K ra_nm (ra_mt K) d (some .int) (gm_I cX12_here) (gm_lkf (lkX12 false K)) 0 [some (.ref B)] [] (bM B (mH B s) G) sz sl (.returned (some (.int (s.2.1 8 k2))), (bM B (mH B s) G), sz, sl) := by
  refine gm_ev.aload_n i123_0 rfl ?_
  refine gm_ev.getfield (v := .int (s.1 10)) i123_1 rfl (bM_fld (j := 0) (fs := mF B s) rfl rfl) ?_
  refine gm_ev.aload_n i123_4 rfl ?_
  refine gm_ev.getfield (v := .int (s.1 9)) i123_5 rfl (bM_fld (j := 0) (fs := mF B s) rfl rfl) ?_
  refine gm_ev.icmp_ge_f i123_8 c1 ?_
  refine gm_ev.aload_n i123_11 rfl ?_
  refine gm_ev.getfield (v := .ref (B + 3)) i123_12 rfl (bM_fld (j := 0) (fs := mF B s) rfl rfl) ?_
  refine gm_ev.aload_n i123_15 rfl ?_
  refine gm_ev.getfield (v := .int (s.1 10)) i123_16 rfl (bM_fld (j := 0) (fs := mF B s) rfl rfl) ?_
  refine gm_ev.caload i123_19 (bM_ai (j := 3) (n := 240) (f := s.2.1 8) rfl ek2 lk2 (by decide)) ?_
  refine gm_ev.goto (tgt := 24) i123_20 (by decide) ?_
  exact gm_ev.iret i123_24 rfl
theorem r_isLetter_0_t {N0 : Nat} {K : Nat → Nat} {d B : Nat} {s : mS} {G : gm_H} {sz sl : Nat} {p0 : Int32} (hN : N0 ≤ B) (c1 : p0 < (97 : Int32)) : gm_ev N0 K ra_nm (ra_mt K) d (some .boolean) (gm_I cX12_isLetter) (gm_lkf (lkX12 false K)) 0 [some (.int p0)] [] (bM B (mH B s) G) sz sl (.returned (some (.int (0 : Int32))), (bM B (mH B s) G), sz, sl) := by
  refine gm_ev.iload_n i124_0 rfl ?_
  refine gm_ev.bipush (v := 97) i124_1 (by decide) ?_
  refine gm_ev.icmp_lt_t (tgt := 16) i124_3 (by decide) c1 ?_
  refine gm_ev.iconst (v := 0) i124_16 (by decide) ?_
  exact gm_ev.zret i124_17 rfl (by decide)
theorem r_isLetter_0_ft {N0 : Nat} {K : Nat → Nat} {d B : Nat} {s : mS} {G : gm_H} {sz sl : Nat} {p0 : Int32} (hN : N0 ≤ B) (c1 : ¬ p0 < (97 : Int32)) (c2 : (122 : Int32) < p0) : gm_ev N0 K ra_nm (ra_mt K) d (some .boolean) (gm_I cX12_isLetter) (gm_lkf (lkX12 false K)) 0 [some (.int p0)] [] (bM B (mH B s) G) sz sl (.returned (some (.int (0 : Int32))), (bM B (mH B s) G), sz, sl) := by
  refine gm_ev.iload_n i124_0 rfl ?_
  refine gm_ev.bipush (v := 97) i124_1 (by decide) ?_
  refine gm_ev.icmp_lt_f i124_3 c1 ?_
  refine gm_ev.iload_n i124_6 rfl ?_
  refine gm_ev.bipush (v := 122) i124_7 (by decide) ?_
  refine gm_ev.icmp_gt_t (tgt := 16) i124_9 (by decide) c2 ?_
  refine gm_ev.iconst (v := 0) i124_16 (by decide) ?_
  exact gm_ev.zret i124_17 rfl (by decide)
theorem r_isLetter_0_ff {N0 : Nat} {K : Nat → Nat} {d B : Nat} {s : mS} {G : gm_H} {sz sl : Nat} {p0 : Int32} (hN : N0 ≤ B) (c1 : ¬ p0 < (97 : Int32)) (c2 : ¬ (122 : Int32) < p0) : gm_ev N0 K ra_nm (ra_mt K) d (some .boolean) (gm_I cX12_isLetter) (gm_lkf (lkX12 false K)) 0 [some (.int p0)] [] (bM B (mH B s) G) sz sl (.returned (some (.int (1 : Int32))), (bM B (mH B s) G), sz, sl) := by
  refine gm_ev.iload_n i124_0 rfl ?_
  refine gm_ev.bipush (v := 97) i124_1 (by decide) ?_
  refine gm_ev.icmp_lt_f i124_3 c1 ?_
  refine gm_ev.iload_n i124_6 rfl ?_
  refine gm_ev.bipush (v := 122) i124_7 (by decide) ?_
  refine gm_ev.icmp_gt_f i124_9 c2 ?_
  refine gm_ev.iconst (v := 1) i124_12 (by decide) ?_
  refine gm_ev.goto (tgt := 17) i124_13 (by decide) ?_
  exact gm_ev.zret i124_17 rfl (by decide)
theorem r_isVariable_0_t {N0 : Nat} {K : Nat → Nat} {d B : Nat} {s : mS} {G : gm_H} {sz sl : Nat} {p0 : Int32} (hN : N0 ≤ B) (c1 : p0 < (85 : Int32)) : gm_ev N0 K ra_nm (ra_mt K) d (some .boolean) (gm_I cX12_isVariable) (gm_lkf (lkX12 false K)) 0 [some (.int p0)] [] (bM B (mH B s) G) sz sl (.returned (some (.int (0 : Int32))), (bM B (mH B s) G), sz, sl) := by
  refine gm_ev.iload_n i125_0 rfl ?_
  refine gm_ev.bipush (v := 85) i125_1 (by decide) ?_
  refine gm_ev.icmp_lt_t (tgt := 16) i125_3 (by decide) c1 ?_
  refine gm_ev.iconst (v := 0) i125_16 (by decide) ?_
  exact gm_ev.zret i125_17 rfl (by decide)
theorem r_isVariable_0_ft {N0 : Nat} {K : Nat → Nat} {d B : Nat} {s : mS} {G : gm_H} {sz sl : Nat} {p0 : Int32} (hN : N0 ≤ B) (c1 : ¬ p0 < (85 : Int32)) (c2 : (90 : Int32) < p0) : gm_ev N0 K ra_nm (ra_mt K) d (some .boolean) (gm_I cX12_isVariable) (gm_lkf (lkX12 false K)) 0 [some (.int p0)] [] (bM B (mH B s) G) sz sl (.returned (some (.int (0 : Int32))), (bM B (mH B s) G), sz, sl) := by
  refine gm_ev.iload_n i125_0 rfl ?_
  refine gm_ev.bipush (v := 85) i125_1 (by decide) ?_
  refine gm_ev.icmp_lt_f i125_3 c1 ?_
  refine gm_ev.iload_n i125_6 rfl ?_
  refine gm_ev.bipush (v := 90) i125_7 (by decide) ?_
  refine gm_ev.icmp_gt_t (tgt := 16) i125_9 (by decide) c2 ?_
  refine gm_ev.iconst (v := 0) i125_16 (by decide) ?_
  exact gm_ev.zret i125_17 rfl (by decide)
theorem r_isVariable_0_ff {N0 : Nat} {K : Nat → Nat} {d B : Nat} {s : mS} {G : gm_H} {sz sl : Nat} {p0 : Int32} (hN : N0 ≤ B) (c1 : ¬ p0 < (85 : Int32)) (c2 : ¬ (90 : Int32) < p0) : gm_ev N0 K ra_nm (ra_mt K) d (some .boolean) (gm_I cX12_isVariable) (gm_lkf (lkX12 false K)) 0 [some (.int p0)] [] (bM B (mH B s) G) sz sl (.returned (some (.int (1 : Int32))), (bM B (mH B s) G), sz, sl) := by
  refine gm_ev.iload_n i125_0 rfl ?_
  refine gm_ev.bipush (v := 85) i125_1 (by decide) ?_
  refine gm_ev.icmp_lt_f i125_3 c1 ?_
  refine gm_ev.iload_n i125_6 rfl ?_
  refine gm_ev.bipush (v := 90) i125_7 (by decide) ?_
  refine gm_ev.icmp_gt_f i125_9 c2 ?_
  refine gm_ev.iconst (v := 1) i125_12 (by decide) ?_
  refine gm_ev.goto (tgt := 17) i125_13 (by decide) ?_
  exact gm_ev.zret i125_17 rfl (by decide)
theorem r_isPlain_0_t {N0 : Nat} {K : Nat → Nat} {d B : Nat} {s : mS} {G : gm_H} {sz sl : Nat} {p0 : Int32} {r1 : Int32} (hN : N0 ≤ B) (t2 : gm_to N0 K ra_nm (ra_mt K) d 124 [.int p0] (bM B (mH B s) G) sz (.returned (some (.int r1)), bM B (mH B s) G, sz, 0)) (c3 : ¬ r1 = 0) : gm_ev N0 K ra_nm (ra_mt K) d (some .boolean) (gm_I cX12_isPlain) (gm_lkf (lkX12 false K)) 0 [some (.int p0)] [] (bM B (mH B s) G) sz sl (.returned (some (.int (1 : Int32))), (bM B (mH B s) G), sz, sl) := by
  refine gm_ev.iload_n i126_0 rfl ?_
  refine gm_ev.callS gm_mono_run (av := [.int p0]) (r := []) i126_1 rfl rfl rfl (Nat.le_of_ble_eq_true rfl) t2 ?_
  refine gm_ev.if_ne_t (tgt := 26) i126_4 (by decide) c3 ?_
  refine gm_ev.iconst (v := 1) i126_26 (by decide) ?_
  refine gm_ev.goto (tgt := 31) i126_27 (by decide) ?_
  exact gm_ev.zret i126_31 rfl (by decide)
theorem r_isPlain_0_ft {N0 : Nat} {K : Nat → Nat} {d B : Nat} {s : mS} {G : gm_H} {sz sl : Nat} {p0 : Int32} {r1 : Int32} {r4 : Int32} (hN : N0 ≤ B) (t2 : gm_to N0 K ra_nm (ra_mt K) d 124 [.int p0] (bM B (mH B s) G) sz (.returned (some (.int r1)), bM B (mH B s) G, sz, 0)) (c3 : r1 = 0) (t5 : gm_to N0 K ra_nm (ra_mt K) d 125 [.int p0] (bM B (mH B s) G) sz (.returned (some (.int r4)), bM B (mH B s) G, sz, 0)) (c6 : ¬ r4 = 0) : gm_ev N0 K ra_nm (ra_mt K) d (some .boolean) (gm_I cX12_isPlain) (gm_lkf (lkX12 false K)) 0 [some (.int p0)] [] (bM B (mH B s) G) sz sl (.returned (some (.int (1 : Int32))), (bM B (mH B s) G), sz, sl) := by
  refine gm_ev.iload_n i126_0 rfl ?_
  refine gm_ev.callS gm_mono_run (av := [.int p0]) (r := []) i126_1 rfl rfl rfl (Nat.le_of_ble_eq_true rfl) t2 ?_
  refine gm_ev.if_ne_f i126_4 c3 ?_
  refine gm_ev.iload_n i126_7 rfl ?_
  refine gm_ev.callS gm_mono_run (av := [.int p0]) (r := []) i126_8 rfl rfl rfl (Nat.le_of_ble_eq_true rfl) t5 ?_
  refine gm_ev.if_ne_t (tgt := 26) i126_11 (by decide) c6 ?_
  refine gm_ev.iconst (v := 1) i126_26 (by decide) ?_
  refine gm_ev.goto (tgt := 31) i126_27 (by decide) ?_
  exact gm_ev.zret i126_31 rfl (by decide)
theorem r_isPlain_0_fft {N0 : Nat} {K : Nat → Nat} {d B : Nat} {s : mS} {G : gm_H} {sz sl : Nat} {p0 : Int32} {r1 : Int32} {r4 : Int32} (hN : N0 ≤ B) (t2 : gm_to N0 K ra_nm (ra_mt K) d 124 [.int p0] (bM B (mH B s) G) sz (.returned (some (.int r1)), bM B (mH B s) G, sz, 0)) (c3 : r1 = 0) (t5 : gm_to N0 K ra_nm (ra_mt K) d 125 [.int p0] (bM B (mH B s) G) sz (.returned (some (.int r4)), bM B (mH B s) G, sz, 0)) (c6 : r4 = 0) (c7 : p0 < (48 : Int32)) : gm_ev N0 K ra_nm (ra_mt K) d (some .boolean) (gm_I cX12_isPlain) (gm_lkf (lkX12 false K)) 0 [some (.int p0)] [] (bM B (mH B s) G) sz sl (.returned (some (.int (0 : Int32))), (bM B (mH B s) G), sz, sl) := by
  refine gm_ev.iload_n i126_0 rfl ?_
  refine gm_ev.callS gm_mono_run (av := [.int p0]) (r := []) i126_1 rfl rfl rfl (Nat.le_of_ble_eq_true rfl) t2 ?_
  refine gm_ev.if_ne_f i126_4 c3 ?_
  refine gm_ev.iload_n i126_7 rfl ?_
  refine gm_ev.callS gm_mono_run (av := [.int p0]) (r := []) i126_8 rfl rfl rfl (Nat.le_of_ble_eq_true rfl) t5 ?_
  refine gm_ev.if_ne_f i126_11 c6 ?_
  refine gm_ev.iload_n i126_14 rfl ?_
  refine gm_ev.bipush (v := 48) i126_15 (by decide) ?_
  refine gm_ev.icmp_lt_t (tgt := 30) i126_17 (by decide) c7 ?_
  refine gm_ev.iconst (v := 0) i126_30 (by decide) ?_
  exact gm_ev.zret i126_31 rfl (by decide)
theorem r_isPlain_0_ffft {N0 : Nat} {K : Nat → Nat} {d B : Nat} {s : mS} {G : gm_H} {sz sl : Nat} {p0 : Int32} {r1 : Int32} {r4 : Int32} (hN : N0 ≤ B) (t2 : gm_to N0 K ra_nm (ra_mt K) d 124 [.int p0] (bM B (mH B s) G) sz (.returned (some (.int r1)), bM B (mH B s) G, sz, 0)) (c3 : r1 = 0) (t5 : gm_to N0 K ra_nm (ra_mt K) d 125 [.int p0] (bM B (mH B s) G) sz (.returned (some (.int r4)), bM B (mH B s) G, sz, 0)) (c6 : r4 = 0) (c7 : ¬ p0 < (48 : Int32)) (c8 : (57 : Int32) < p0) : gm_ev N0 K ra_nm (ra_mt K) d (some .boolean) (gm_I cX12_isPlain) (gm_lkf (lkX12 false K)) 0 [some (.int p0)] [] (bM B (mH B s) G) sz sl (.returned (some (.int (0 : Int32))), (bM B (mH B s) G), sz, sl) := by
  refine gm_ev.iload_n i126_0 rfl ?_
  refine gm_ev.callS gm_mono_run (av := [.int p0]) (r := []) i126_1 rfl rfl rfl (Nat.le_of_ble_eq_true rfl) t2 ?_
  refine gm_ev.if_ne_f i126_4 c3 ?_
  refine gm_ev.iload_n i126_7 rfl ?_
  refine gm_ev.callS gm_mono_run (av := [.int p0]) (r := []) i126_8 rfl rfl rfl (Nat.le_of_ble_eq_true rfl) t5 ?_
  refine gm_ev.if_ne_f i126_11 c6 ?_
  refine gm_ev.iload_n i126_14 rfl ?_
  refine gm_ev.bipush (v := 48) i126_15 (by decide) ?_
  refine gm_ev.icmp_lt_f i126_17 c7 ?_
  refine gm_ev.iload_n i126_20 rfl ?_
  refine gm_ev.bipush (v := 57) i126_21 (by decide) ?_
  refine gm_ev.icmp_gt_t (tgt := 30) i126_23 (by decide) c8 ?_
  refine gm_ev.iconst (v := 0) i126_30 (by decide) ?_
  exact gm_ev.zret i126_31 rfl (by decide)
theorem r_isPlain_0_ffff {N0 : Nat} {K : Nat → Nat} {d B : Nat} {s : mS} {G : gm_H} {sz sl : Nat} {p0 : Int32} {r1 : Int32} {r4 : Int32} (hN : N0 ≤ B) (t2 : gm_to N0 K ra_nm (ra_mt K) d 124 [.int p0] (bM B (mH B s) G) sz (.returned (some (.int r1)), bM B (mH B s) G, sz, 0)) (c3 : r1 = 0) (t5 : gm_to N0 K ra_nm (ra_mt K) d 125 [.int p0] (bM B (mH B s) G) sz (.returned (some (.int r4)), bM B (mH B s) G, sz, 0)) (c6 : r4 = 0) (c7 : ¬ p0 < (48 : Int32)) (c8 : ¬ (57 : Int32) < p0) : gm_ev N0 K ra_nm (ra_mt K) d (some .boolean) (gm_I cX12_isPlain) (gm_lkf (lkX12 false K)) 0 [some (.int p0)] [] (bM B (mH B s) G) sz sl (.returned (some (.int (1 : Int32))), (bM B (mH B s) G), sz, sl) := by
  refine gm_ev.iload_n i126_0 rfl ?_
  refine gm_ev.callS gm_mono_run (av := [.int p0]) (r := []) i126_1 rfl rfl rfl (Nat.le_of_ble_eq_true rfl) t2 ?_
  refine gm_ev.if_ne_f i126_4 c3 ?_
  refine gm_ev.iload_n i126_7 rfl ?_
  refine gm_ev.callS gm_mono_run (av := [.int p0]) (r := []) i126_8 rfl rfl rfl (Nat.le_of_ble_eq_true rfl) t5 ?_
  refine gm_ev.if_ne_f i126_11 c6 ?_
  refine gm_ev.iload_n i126_14 rfl ?_
  refine gm_ev.bipush (v := 48) i126_15 (by decide) ?_
  refine gm_ev.icmp_lt_f i126_17 c7 ?_
  refine gm_ev.iload_n i126_20 rfl ?_
  refine gm_ev.bipush (v := 57) i126_21 (by decide) ?_
  refine gm_ev.icmp_gt_f i126_23 c8 ?_
  refine gm_ev.iconst (v := 1) i126_26 (by decide) ?_
  refine gm_ev.goto (tgt := 31) i126_27 (by decide) ?_
  exact gm_ev.zret i126_31 rfl (by decide)
theorem r_terms_0_t {N0 : Nat} {K : Nat → Nat} {d B : Nat} {s : mS} {G : gm_H} {sz sl : Nat} {p0 : Int32} (hN : N0 ≤ B) (c1 : p0 = (82 : Int32)) : gm_ev N0 K ra_nm (ra_mt K) d (some .int) (gm_I cX12_terms) (gm_lkf (lkX12 false K)) 0 [some (.int p0)] [] (bM B (mH B s) G) sz sl (.returned (some (.int (1 : Int32))), (bM B (mH B s) G), sz, sl) := by
  refine gm_ev.iload_n i127_0 rfl ?_
  refine gm_ev.bipush (v := 82) i127_1 (by decide) ?_
  refine gm_ev.icmp_eq_t (tgt := 24) i127_3 (by decide) c1 ?_
  refine gm_ev.iconst (v := 1) i127_24 (by decide) ?_
  refine gm_ev.goto (tgt := 61) i127_25 (by decide) ?_
  exact gm_ev.iret i127_61 rfl
theorem r_terms_0_ft {N0 : Nat} {K : Nat → Nat} {d B : Nat} {s : mS} {G : gm_H} {sz sl : Nat} {p0 : Int32} (hN : N0 ≤ B) (c1 : ¬ p0 = (82 : Int32)) (c2 : p0 = (73 : Int32)) : gm_ev N0 K ra_nm (ra_mt K) d (some .int) (gm_I cX12_terms) (gm_lkf (lkX12 false K)) 0 [some (.int p0)] [] (bM B (mH B s) G) sz sl (.returned (some (.int (1 : Int32))), (bM B (mH B s) G), sz, sl) := by
  refine gm_ev.iload_n i127_0 rfl ?_
  refine gm_ev.bipush (v := 82) i127_1 (by decide) ?_
  refine gm_ev.icmp_eq_f i127_3 c1 ?_
  refine gm_ev.iload_n i127_6 rfl ?_
  refine gm_ev.bipush (v := 73) i127_7 (by decide) ?_
  refine gm_ev.icmp_eq_t (tgt := 24) i127_9 (by decide) c2 ?_
  refine gm_ev.iconst (v := 1) i127_24 (by decide) ?_
  refine gm_ev.goto (tgt := 61) i127_25 (by decide) ?_
  exact gm_ev.iret i127_61 rfl
theorem r_terms_0_fft {N0 : Nat} {K : Nat → Nat} {d B : Nat} {s : mS} {G : gm_H} {sz sl : Nat} {p0 : Int32} (hN : N0 ≤ B) (c1 : ¬ p0 = (82 : Int32)) (c2 : ¬ p0 = (73 : Int32)) (c3 : p0 = (84 : Int32)) : gm_ev N0 K ra_nm (ra_mt K) d (some .int) (gm_I cX12_terms) (gm_lkf (lkX12 false K)) 0 [some (.int p0)] [] (bM B (mH B s) G) sz sl (.returned (some (.int (1 : Int32))), (bM B (mH B s) G), sz, sl) := by
  refine gm_ev.iload_n i127_0 rfl ?_
  refine gm_ev.bipush (v := 82) i127_1 (by decide) ?_
  refine gm_ev.icmp_eq_f i127_3 c1 ?_
  refine gm_ev.iload_n i127_6 rfl ?_
  refine gm_ev.bipush (v := 73) i127_7 (by decide) ?_
  refine gm_ev.icmp_eq_f i127_9 c2 ?_
  refine gm_ev.iload_n i127_12 rfl ?_
  refine gm_ev.bipush (v := 84) i127_13 (by decide) ?_
  refine gm_ev.icmp_eq_t (tgt := 24) i127_15 (by decide) c3 ?_
  refine gm_ev.iconst (v := 1) i127_24 (by decide) ?_
  refine gm_ev.goto (tgt := 61) i127_25 (by decide) ?_
  exact gm_ev.iret i127_61 rfl
theorem r_terms_0_ffftt {N0 : Nat} {K : Nat → Nat} {d B : Nat} {s : mS} {G : gm_H} {sz sl : Nat} {p0 : Int32} (hN : N0 ≤ B) (c1 : ¬ p0 = (82 : Int32)) (c2 : ¬ p0 = (73 : Int32)) (c3 : ¬ p0 = (84 : Int32)) (c4 : ¬ p0 = (78 : Int32)) (c5 : p0 = (68 : Int32)) : gm_ev N0 K ra_nm (ra_mt K) d (some .int) (gm_I cX12_terms) (gm_lkf (lkX12 false K)) 0 [some (.int p0)] [] (bM B (mH B s) G) sz sl (.returned (some (.int (2 : Int32))), (bM B (mH B s) G), sz, sl) := by
  refine gm_ev.iload_n i127_0 rfl ?_
  refine gm_ev.bipush (v := 82) i127_1 (by decide) ?_
  refine gm_ev.icmp_eq_f i127_3 c1 ?_
  refine gm_ev.iload_n i127_6 rfl ?_
  refine gm_ev.bipush (v := 73) i127_7 (by decide) ?_
  refine gm_ev.icmp_eq_f i127_9 c2 ?_
  refine gm_ev.iload_n i127_12 rfl ?_
  refine gm_ev.bipush (v := 84) i127_13 (by decide) ?_
  refine gm_ev.icmp_eq_f i127_15 c3 ?_
  refine gm_ev.iload_n i127_18 rfl ?_
  refine gm_ev.bipush (v := 78) i127_19 (by decide) ?_
  refine gm_ev.icmp_ne_t (tgt := 28) i127_21 (by decide) c4 ?_
  refine gm_ev.iload_n i127_28 rfl ?_
  refine gm_ev.bipush (v := 68) i127_29 (by decide) ?_
  refine gm_ev.icmp_eq_t (tgt := 46) i127_31 (by decide) c5 ?_
  refine gm_ev.iconst (v := 2) i127_46 (by decide) ?_
  refine gm_ev.goto (tgt := 61) i127_47 (by decide) ?_
  exact gm_ev.iret i127_61 rfl
theorem r_terms_0_ffftft {N0 : Nat} {K : Nat → Nat} {d B : Nat} {s : mS} {G : gm_H} {sz sl : Nat} {p0 : Int32} (hN : N0 ≤ B) (c1 : ¬ p0 = (82 : Int32)) (c2 : ¬ p0 = (73 : Int32)) (c3 : ¬ p0 = (84 : Int32)) (c4 : ¬ p0 = (78 : Int32)) (c5 : ¬ p0 = (68 : Int32)) (c6 : p0 = (76 : Int32)) : gm_ev N0 K ra_nm (ra_mt K) d (some .int) (gm_I cX12_terms) (gm_lkf (lkX12 false K)) 0 [some (.int p0)] [] (bM B (mH B s) G) sz sl (.returned (some (.int (2 : Int32))), (bM B (mH B s) G), sz, sl) := by
  refine gm_ev.iload_n i127_0 rfl ?_
  refine gm_ev.bipush (v := 82) i127_1 (by decide) ?_
  refine gm_ev.icmp_eq_f i127_3 c1 ?_
  refine gm_ev.iload_n i127_6 rfl ?_
  refine gm_ev.bipush (v := 73) i127_7 (by decide) ?_
  refine gm_ev.icmp_eq_f i127_9 c2 ?_
  refine gm_ev.iload_n i127_12 rfl ?_
  refine gm_ev.bipush (v := 84) i127_13 (by decide) ?_
  refine gm_ev.icmp_eq_f i127_15 c3 ?_
  refine gm_ev.iload_n i127_18 rfl ?_
  refine gm_ev.bipush (v := 78) i127_19 (by decide) ?_
  refine gm_ev.icmp_ne_t (tgt := 28) i127_21 (by decide) c4 ?_
  refine gm_ev.iload_n i127_28 rfl ?_
  refine gm_ev.bipush (v := 68) i127_29 (by decide) ?_
  refine gm_ev.icmp_eq_f i127_31 c5 ?_
  refine gm_ev.iload_n i127_34 rfl ?_
  refine gm_ev.bipush (v := 76) i127_35 (by decide) ?_
  refine gm_ev.icmp_eq_t (tgt := 46) i127_37 (by decide) c6 ?_
  refine gm_ev.iconst (v := 2) i127_46 (by decide) ?_
  refine gm_ev.goto (tgt := 61) i127_47 (by decide) ?_
  exact gm_ev.iret i127_61 rfl
theorem r_terms_0_ffftfftt {N0 : Nat} {K : Nat → Nat} {d B : Nat} {s : mS} {G : gm_H} {sz sl : Nat} {p0 : Int32} (hN : N0 ≤ B) (c1 : ¬ p0 = (82 : Int32)) (c2 : ¬ p0 = (73 : Int32)) (c3 : ¬ p0 = (84 : Int32)) (c4 : ¬ p0 = (78 : Int32)) (c5 : ¬ p0 = (68 : Int32)) (c6 : ¬ p0 = (76 : Int32)) (c7 : ¬ p0 = (71 : Int32)) (c8 : ¬ p0 = (69 : Int32)) : gm_ev N0 K ra_nm (ra_mt K) d (some .int) (gm_I cX12_terms) (gm_lkf (lkX12 false K)) 0 [some (.int p0)] [] (bM B (mH B s) G) sz sl (.returned (some (.int (-1 : Int32))), (bM B (mH B s) G), sz, sl) := by
  refine gm_ev.iload_n i127_0 rfl ?_
  refine gm_ev.bipush (v := 82) i127_1 (by decide) ?_
  refine gm_ev.icmp_eq_f i127_3 c1 ?_
  refine gm_ev.iload_n i127_6 rfl ?_
  refine gm_ev.bipush (v := 73) i127_7 (by decide) ?_
  refine gm_ev.icmp_eq_f i127_9 c2 ?_
  refine gm_ev.iload_n i127_12 rfl ?_
  refine gm_ev.bipush (v := 84) i127_13 (by decide) ?_
  refine gm_ev.icmp_eq_f i127_15 c3 ?_
  refine gm_ev.iload_n i127_18 rfl ?_
  refine gm_ev.bipush (v := 78) i127_19 (by decide) ?_
  refine gm_ev.icmp_ne_t (tgt := 28) i127_21 (by decide) c4 ?_
  refine gm_ev.iload_n i127_28 rfl ?_
  refine gm_ev.bipush (v := 68) i127_29 (by decide) ?_
  refine gm_ev.icmp_eq_f i127_31 c5 ?_
  refine gm_ev.iload_n i127_34 rfl ?_
  refine gm_ev.bipush (v := 76) i127_35 (by decide) ?_
  refine gm_ev.icmp_eq_f i127_37 c6 ?_
  refine gm_ev.iload_n i127_40 rfl ?_
  refine gm_ev.bipush (v := 71) i127_41 (by decide) ?_
  refine gm_ev.icmp_ne_t (tgt := 50) i127_43 (by decide) c7 ?_
  refine gm_ev.iload_n i127_50 rfl ?_
  refine gm_ev.bipush (v := 69) i127_51 (by decide) ?_
  refine gm_ev.icmp_ne_t (tgt := 60) i127_53 (by decide) c8 ?_
  refine gm_ev.iconst (v := -1) i127_60 (by decide) ?_
  exact gm_ev.iret i127_61 rfl
theorem r_terms_0_ffftfftf {N0 : Nat} {K : Nat → Nat} {d B : Nat} {s : mS} {G : gm_H} {sz sl : Nat} {p0 : Int32} (hN : N0 ≤ B) (c1 : ¬ p0 = (82 : Int32)) (c2 : ¬ p0 = (73 : Int32)) (c3 : ¬ p0 = (84 : Int32)) (c4 : ¬ p0 = (78 : Int32)) (c5 : ¬ p0 = (68 : Int32)) (c6 : ¬ p0 = (76 : Int32)) (c7 : ¬ p0 = (71 : Int32)) (c8 : p0 = (69 : Int32)) : gm_ev N0 K ra_nm (ra_mt K) d (some .int) (gm_I cX12_terms) (gm_lkf (lkX12 false K)) 0 [some (.int p0)] [] (bM B (mH B s) G) sz sl (.returned (some (.int (0 : Int32))), (bM B (mH B s) G), sz, sl) := by
  refine gm_ev.iload_n i127_0 rfl ?_
  refine gm_ev.bipush (v := 82) i127_1 (by decide) ?_
  refine gm_ev.icmp_eq_f i127_3 c1 ?_
  refine gm_ev.iload_n i127_6 rfl ?_
  refine gm_ev.bipush (v := 73) i127_7 (by decide) ?_
  refine gm_ev.icmp_eq_f i127_9 c2 ?_
  refine gm_ev.iload_n i127_12 rfl ?_
  refine gm_ev.bipush (v := 84) i127_13 (by decide) ?_
  refine gm_ev.icmp_eq_f i127_15 c3 ?_
  refine gm_ev.iload_n i127_18 rfl ?_
  refine gm_ev.bipush (v := 78) i127_19 (by decide) ?_
  refine gm_ev.icmp_ne_t (tgt := 28) i127_21 (by decide) c4 ?_
  refine gm_ev.iload_n i127_28 rfl ?_
  refine gm_ev.bipush (v := 68) i127_29 (by decide) ?_
  refine gm_ev.icmp_eq_f i127_31 c5 ?_
  refine gm_ev.iload_n i127_34 rfl ?_
  refine gm_ev.bipush (v := 76) i127_35 (by decide) ?_
  refine gm_ev.icmp_eq_f i127_37 c6 ?_
  refine gm_ev.iload_n i127_40 rfl ?_
  refine gm_ev.bipush (v := 71) i127_41 (by decide) ?_
  refine gm_ev.icmp_ne_t (tgt := 50) i127_43 (by decide) c7 ?_
  refine gm_ev.iload_n i127_50 rfl ?_
  refine gm_ev.bipush (v := 69) i127_51 (by decide) ?_
  refine gm_ev.icmp_ne_f i127_53 c8 ?_
  refine gm_ev.iconst (v := 0) i127_56 (by decide) ?_
  refine gm_ev.goto (tgt := 61) i127_57 (by decide) ?_
  exact gm_ev.iret i127_61 rfl
theorem r_terms_0_ffftfff {N0 : Nat} {K : Nat → Nat} {d B : Nat} {s : mS} {G : gm_H} {sz sl : Nat} {p0 : Int32} (hN : N0 ≤ B) (c1 : ¬ p0 = (82 : Int32)) (c2 : ¬ p0 = (73 : Int32)) (c3 : ¬ p0 = (84 : Int32)) (c4 : ¬ p0 = (78 : Int32)) (c5 : ¬ p0 = (68 : Int32)) (c6 : ¬ p0 = (76 : Int32)) (c7 : p0 = (71 : Int32)) : gm_ev N0 K ra_nm (ra_mt K) d (some .int) (gm_I cX12_terms) (gm_lkf (lkX12 false K)) 0 [some (.int p0)] [] (bM B (mH B s) G) sz sl (.returned (some (.int (2 : Int32))), (bM B (mH B s) G), sz, sl) := by
  refine gm_ev.iload_n i127_0 rfl ?_
  refine gm_ev.bipush (v := 82) i127_1 (by decide) ?_
  refine gm_ev.icmp_eq_f i127_3 c1 ?_
  refine gm_ev.iload_n i127_6 rfl ?_
  refine gm_ev.bipush (v := 73) i127_7 (by decide) ?_
  refine gm_ev.icmp_eq_f i127_9 c2 ?_
  refine gm_ev.iload_n i127_12 rfl ?_
  refine gm_ev.bipush (v := 84) i127_13 (by decide) ?_
  refine gm_ev.icmp_eq_f i127_15 c3 ?_
  refine gm_ev.iload_n i127_18 rfl ?_
  refine gm_ev.bipush (v := 78) i127_19 (by decide) ?_
  refine gm_ev.icmp_ne_t (tgt := 28) i127_21 (by decide) c4 ?_
  refine gm_ev.iload_n i127_28 rfl ?_
  refine gm_ev.bipush (v := 68) i127_29 (by decide) ?_
  refine gm_ev.icmp_eq_f i127_31 c5 ?_
  refine gm_ev.iload_n i127_34 rfl ?_
  refine gm_ev.bipush (v := 76) i127_35 (by decide) ?_
  refine gm_ev.icmp_eq_f i127_37 c6 ?_
  refine gm_ev.iload_n i127_40 rfl ?_
  refine gm_ev.bipush (v := 71) i127_41 (by decide) ?_
  refine gm_ev.icmp_ne_f i127_43 c7 ?_
  refine gm_ev.iconst (v := 2) i127_46 (by decide) ?_
  refine gm_ev.goto (tgt := 61) i127_47 (by decide) ?_
  exact gm_ev.iret i127_61 rfl
theorem r_terms_0_ffff {N0 : Nat} {K : Nat → Nat} {d B : Nat} {s : mS} {G : gm_H} {sz sl : Nat} {p0 : Int32} (hN : N0 ≤ B) (c1 : ¬ p0 = (82 : Int32)) (c2 : ¬ p0 = (73 : Int32)) (c3 : ¬ p0 = (84 : Int32)) (c4 : p0 = (78 : Int32)) : gm_ev N0 K ra_nm (ra_mt K) d (some .int) (gm_I cX12_terms) (gm_lkf (lkX12 false K)) 0 [some (.int p0)] [] (bM B (mH B s) G) sz sl (.returned (some (.int (1 : Int32))), (bM B (mH B s) G), sz, sl) := by
  refine gm_ev.iload_n i127_0 rfl ?_
  refine gm_ev.bipush (v := 82) i127_1 (by decide) ?_
  refine gm_ev.icmp_eq_f i127_3 c1 ?_
  refine gm_ev.iload_n i127_6 rfl ?_
  refine gm_ev.bipush (v := 73) i127_7 (by decide) ?_
  refine gm_ev.icmp_eq_f i127_9 c2 ?_
  refine gm_ev.iload_n i127_12 rfl ?_
  refine gm_ev.bipush (v := 84) i127_13 (by decide) ?_
  refine gm_ev.icmp_eq_f i127_15 c3 ?_
  refine gm_ev.iload_n i127_18 rfl ?_
  refine gm_ev.bipush (v := 78) i127_19 (by decide) ?_
  refine gm_ev.icmp_ne_f i127_21 c4 ?_
  refine gm_ev.iconst (v := 1) i127_24 (by decide) ?_
  refine gm_ev.goto (tgt := 61) i127_25 (by decide) ?_
  exact gm_ev.iret i127_61 rfl
theorem r_takes_0_t {N0 : Nat} {K : Nat → Nat} {d B : Nat} {s : mS} {G : gm_H} {sz sl : Nat} {p0 : Int32} {r1 : Int32} (hN : N0 ≤ B) (t2 : gm_to N0 K ra_nm (ra_mt K) d 123 [.ref B] (bM B (mH B s) G) sz (.returned (some (.int r1)), bM B (mH B s) G, sz, 0)) (c3 : r1 = p0) : gm_ev N0 K ra_nm (ra_mt K) d (some .boolean) (gm_I cX12_takes) (gm_lkf (lkX12 false K)) 0 [some (.ref B), some (.int p0)] [] (bM B (mH B s) G) sz sl (.returned (some (.int (1 : Int32))), (bM B (mH B (mI s 10 ((s.1 10) + (1 : Int32)))) G), sz, sl) := by
  refine gm_ev.aload_n i128_0 rfl ?_
  refine gm_ev.callV gm_mono_run (av := []) (r := []) (ci := 11) (fs := mF B s) (bM_get (j := 0) rfl) i128_1 rfl rfl rfl (Nat.le_of_ble_eq_true rfl) t2 ?_
  refine gm_ev.iload_n i128_4 rfl ?_
  refine gm_ev.icmp_eq_t (tgt := 10) i128_5 (by decide) c3 ?_
  refine gm_ev.aload_n i128_10 rfl ?_
  refine gm_ev.dup i128_11 rfl ?_
  refine gm_ev.getfield (v := .int (s.1 10)) i128_12 rfl (bM_fld (j := 0) (fs := mF B s) rfl rfl) ?_
  refine gm_ev.iconst (v := 1) i128_15 (by decide) ?_
  refine gm_ev.iadd i128_16 ?_
  refine gm_ev.putfield (M' := (bM B (mH B (mI s 10 ((s.1 10) + (1 : Int32)))) G)) i128_17 rfl (bM_put (j := 0) (fs := mF B s) rfl (Nat.le_of_ble_eq_true rfl) hN (gm_fit_i _) rfl) ?_
  refine gm_ev.iconst (v := 1) i128_20 (by decide) ?_
  exact gm_ev.zret i128_21 rfl (by decide)
theorem r_takes_0_f {N0 : Nat} {K : Nat → Nat} {d B : Nat} {s : mS} {G : gm_H} {sz sl : Nat} {p0 : Int32} {r1 : Int32} (hN : N0 ≤ B) (t2 : gm_to N0 K ra_nm (ra_mt K) d 123 [.ref B] (bM B (mH B s) G) sz (.returned (some (.int r1)), bM B (mH B s) G, sz, 0)) (c3 : ¬ r1 = p0) : gm_ev N0 K ra_nm (ra_mt K) d (some .boolean) (gm_I cX12_takes) (gm_lkf (lkX12 false K)) 0 [some (.ref B), some (.int p0)] [] (bM B (mH B s) G) sz sl (.returned (some (.int (0 : Int32))), (bM B (mH B s) G), sz, sl) := by
  refine gm_ev.aload_n i128_0 rfl ?_
  refine gm_ev.callV gm_mono_run (av := []) (r := []) (ci := 11) (fs := mF B s) (bM_get (j := 0) rfl) i128_1 rfl rfl rfl (Nat.le_of_ble_eq_true rfl) t2 ?_
  refine gm_ev.iload_n i128_4 rfl ?_
  refine gm_ev.icmp_eq_f i128_5 c3 ?_
  refine gm_ev.iconst (v := 0) i128_8 (by decide) ?_
  exact gm_ev.zret i128_9 rfl (by decide)
theorem r_term_0_tt {N0 : Nat} {K : Nat → Nat} {d B : Nat} {s : mS} {G : gm_H} {sz sl : Nat} {p0 : Int32} {r1 : Int32} {r3 : Int32} {k6 : Nat} {k7 : Nat} {k8 : Nat} {r9 : Int32} (hN : N0 ≤ B) (t2 : gm_to N0 K ra_nm (ra_mt K) d 123 [.ref B] (bM B (mH B s) G) sz (.returned (some (.int r1)), bM B (mH B s) G, sz, 0)) (t4 : gm_to N0 K ra_nm (ra_mt K) d 126 [.int r1] (bM B (mH B s) G) sz (.returned (some (.int r3)), bM B (mH B s) G, sz, 0)) (c5 : ¬ r3 = 0) (ek6 : p0 = nI k6) (lk6 : k6 < 432) (ek7 : p0 = nI k7) (lk7 : k7 < 432) (ek8 : ((3 : Int32) * p0) = nI k8) (lk8 : k8 < 1296) (t10 : gm_to N0 K ra_nm (ra_mt K) d 124 [.int r1] (bM B (mH B (mA (mA (mA (mI s 10 ((s.1 10) + (1 : Int32))) 15 (upd (s.2.1 15) k6 (0 : Int32))) 16 (upd (s.2.1 16) k7 (1 : Int32))) 17 (upd (s.2.1 17) k8 r1))) G) sz (.returned (some (.int r9)), bM B (mH B (mA (mA (mA (mI s 10 ((s.1 10) + (1 : Int32))) 15 (upd (s.2.1 15) k6 (0 : Int32))) 16 (upd (s.2.1 16) k7 (1 : Int32))) 17 (upd (s.2.1 17) k8 r1))) G, sz, 0)) (c11 : r9 = 0) : gm_ev N0 K ra_nm (ra_mt K) d (some .boolean) (gm_I cX12_term) (gm_lkf (lkX12 false K)) 0 [some (.ref B), some (.int p0), none, none] [] (bM B (mH B s) G) sz sl (.returned (some (.int (1 : Int32))), (bM B (mH B (mA (mA (mA (mI s 10 ((s.1 10) + (1 : Int32))) 15 (upd (s.2.1 15) k6 (0 : Int32))) 16 (upd (s.2.1 16) k7 (1 : Int32))) 17 (upd (s.2.1 17) k8 r1))) G), sz, sl) := by
  refine gm_ev.aload_n i129_0 rfl ?_
  refine gm_ev.callV gm_mono_run (av := []) (r := []) (ci := 11) (fs := mF B s) (bM_get (j := 0) rfl) i129_1 rfl rfl rfl (Nat.le_of_ble_eq_true rfl) t2 ?_
  refine gm_ev.istore_n (ls' := [some (.ref B), some (.int p0), some (.int r1), none]) i129_4 (Nat.le_of_ble_eq_true rfl) rfl ?_
  refine gm_ev.iload_n i129_5 rfl ?_
  refine gm_ev.callS gm_mono_run (av := [.int r1]) (r := []) i129_6 rfl rfl rfl (Nat.le_of_ble_eq_true rfl) t4 ?_
  refine gm_ev.if_ne_t (tgt := 14) i129_9 (by decide) c5 ?_
  refine gm_ev.aload_n i129_14 rfl ?_
  refine gm_ev.dup i129_15 rfl ?_
  refine gm_ev.getfield (v := .int (s.1 10)) i129_16 rfl (bM_fld (j := 0) (fs := mF B s) rfl rfl) ?_
  refine gm_ev.iconst (v := 1) i129_19 (by decide) ?_
  refine gm_ev.iadd i129_20 ?_
  refine gm_ev.putfield (M' := (bM B (mH B (mI s 10 ((s.1 10) + (1 : Int32)))) G)) i129_21 rfl (bM_put (j := 0) (fs := mF B s) rfl (Nat.le_of_ble_eq_true rfl) hN (gm_fit_i _) rfl) ?_
  refine gm_ev.aload_n i129_24 rfl ?_
  refine gm_ev.getfield (v := .ref (B + 7)) i129_25 rfl (bM_fld (j := 0) (fs := mF B (mI s 10 ((s.1 10) + (1 : Int32)))) rfl rfl) ?_
  refine gm_ev.iload_n i129_28 rfl ?_
  refine gm_ev.iconst (v := 0) i129_29 (by decide) ?_
  refine gm_ev.iastore (M' := (bM B (mH B (mA (mI s 10 ((s.1 10) + (1 : Int32))) 15 (upd (s.2.1 15) k6 (0 : Int32)))) G)) i129_30 (bM_asti (j := 7) (n := 432) (f := s.2.1 15) rfl ek6 lk6 (by decide) hN rfl) ?_
  refine gm_ev.aload_n i129_31 rfl ?_
  refine gm_ev.getfield (v := .ref (B + 8)) i129_32 rfl (bM_fld (j := 0) (fs := mF B (mA (mI s 10 ((s.1 10) + (1 : Int32))) 15 (upd (s.2.1 15) k6 (0 : Int32)))) rfl rfl) ?_
  refine gm_ev.iload_n i129_35 rfl ?_
  refine gm_ev.iconst (v := 1) i129_36 (by decide) ?_
  refine gm_ev.iastore (M' := (bM B (mH B (mA (mA (mI s 10 ((s.1 10) + (1 : Int32))) 15 (upd (s.2.1 15) k6 (0 : Int32))) 16 (upd (s.2.1 16) k7 (1 : Int32)))) G)) i129_37 (bM_asti (j := 8) (n := 432) (f := s.2.1 16) rfl ek7 lk7 (by decide) hN rfl) ?_
  refine gm_ev.aload_n i129_38 rfl ?_
  refine gm_ev.getfield (v := .ref (B + 9)) i129_39 rfl (bM_fld (j := 0) (fs := mF B (mA (mA (mI s 10 ((s.1 10) + (1 : Int32))) 15 (upd (s.2.1 15) k6 (0 : Int32))) 16 (upd (s.2.1 16) k7 (1 : Int32)))) rfl rfl) ?_
  refine gm_ev.iconst (v := 3) i129_42 (by decide) ?_
  refine gm_ev.iload_n i129_43 rfl ?_
  refine gm_ev.imul i129_44 ?_
  refine gm_ev.iload_n i129_45 rfl ?_
  refine gm_ev.iastore (M' := (bM B (mH B (mA (mA (mA (mI s 10 ((s.1 10) + (1 : Int32))) 15 (upd (s.2.1 15) k6 (0 : Int32))) 16 (upd (s.2.1 16) k7 (1 : Int32))) 17 (upd (s.2.1 17) k8 r1))) G)) i129_46 (bM_asti (j := 9) (n := 1296) (f := s.2.1 17) rfl ek8 lk8 (by decide) hN rfl) ?_
  refine gm_ev.iload_n i129_47 rfl ?_
  refine gm_ev.callS gm_mono_run (av := [.int r1]) (r := []) i129_48 rfl rfl rfl (Nat.le_of_ble_eq_true rfl) t10 ?_
  refine gm_ev.if_eq_t (tgt := 63) i129_51 (by decide) c11 ?_
  refine gm_ev.iconst (v := 1) i129_63 (by decide) ?_
  exact gm_ev.zret i129_64 rfl (by decide)
theorem r_term_0_tft_at81 {N0 : Nat} {K : Nat → Nat} {d B : Nat} {s : mS} {G : gm_H} {sz sl : Nat} {R : gm_R} {p0 : Int32} {r1 : Int32} {r3 : Int32} {k6 : Nat} {k7 : Nat} {k8 : Nat} {r9 : Int32} {r12 : Int32} {s14 : mS} {k16 : Nat} {k17 : Nat} (hN : N0 ≤ B) (t2 : gm_to N0 K ra_nm (ra_mt K) d 123 [.ref B] (bM B (mH B s) G) sz (.returned (some (.int r1)), bM B (mH B s) G, sz, 0)) (t4 : gm_to N0 K ra_nm (ra_mt K) d 126 [.int r1] (bM B (mH B s) G) sz (.returned (some (.int r3)), bM B (mH B s) G, sz, 0)) (c5 : ¬ r3 = 0) (ek6 : p0 = nI k6) (lk6 : k6 < 432) (ek7 : p0 = nI k7) (lk7 : k7 < 432) (ek8 : ((3 : Int32) * p0) = nI k8) (lk8 : k8 < 1296) (t10 : gm_to N0 K ra_nm (ra_mt K) d 124 [.int r1] (bM B (mH B (mA (mA (mA (mI s 10 ((s.1 10) + (1 : Int32))) 15 (upd (s.2.1 15) k6 (0 : Int32))) 16 (upd (s.2.1 16) k7 (1 : Int32))) 17 (upd (s.2.1 17) k8 r1))) G) sz (.returned (some (.int r9)), bM B (mH B (mA (mA (mA (mI s 10 ((s.1 10) + (1 : Int32))) 15 (upd (s.2.1 15) k6 (0 : Int32))) 16 (upd (s.2.1 16) k7 (1 : Int32))) 17 (upd (s.2.1 17) k8 r1))) G, sz, 0)) (c11 : ¬ r9 = 0) (t13 : gm_to N0 K ra_nm (ra_mt K) d 128 [.ref B, .int (40 : Int32)] (bM B (mH B (mA (mA (mA (mI s 10 ((s.1 10) + (1 : Int32))) 15 (upd (s.2.1 15) k6 (0 : Int32))) 16 (upd (s.2.1 16) k7 (1 : Int32))) 17 (upd (s.2.1 17) k8 r1))) G) sz (.returned (some (.int r12)), bM B (mH B s14) G, sz, 0)) (c15 : ¬ r12 = 0) (ek16 : p0 = nI k16) (lk16 : k16 < 432) (ek17 : p0 = nI k17) (lk17 : k17 < 432) (k : gm_ev N0 K ra_nm (ra_mt K) d (some .boolean) (gm_I cX12_term) (gm_lkf (lkX12 false K)) 81 [some (.ref B), some (.int p0), none, some (.int (0 : Int32))] [] (bM B (mH B (mA (mA s14 15 (upd (s14.2.1 15) k16 r1)) 16 (upd (s14.2.1 16) k17 (0 : Int32)))) G) sz sl R) : gm_ev N0 K ra_nm (ra_mt K) d (some .boolean) (gm_I cX12_term) (gm_lkf (lkX12 false K)) 0 [some (.ref B), some (.int p0), none, none] [] (bM B (mH B s) G) sz sl R := by
  refine gm_ev.aload_n i129_0 rfl ?_
  refine gm_ev.callV gm_mono_run (av := []) (r := []) (ci := 11) (fs := mF B s) (bM_get (j := 0) rfl) i129_1 rfl rfl rfl (Nat.le_of_ble_eq_true rfl) t2 ?_
  refine gm_ev.istore_n (ls' := [some (.ref B), some (.int p0), some (.int r1), none]) i129_4 (Nat.le_of_ble_eq_true rfl) rfl ?_
  refine gm_ev.iload_n i129_5 rfl ?_
  refine gm_ev.callS gm_mono_run (av := [.int r1]) (r := []) i129_6 rfl rfl rfl (Nat.le_of_ble_eq_true rfl) t4 ?_
  refine gm_ev.if_ne_t (tgt := 14) i129_9 (by decide) c5 ?_
  refine gm_ev.aload_n i129_14 rfl ?_
  refine gm_ev.dup i129_15 rfl ?_
  refine gm_ev.getfield (v := .int (s.1 10)) i129_16 rfl (bM_fld (j := 0) (fs := mF B s) rfl rfl) ?_
  refine gm_ev.iconst (v := 1) i129_19 (by decide) ?_
  refine gm_ev.iadd i129_20 ?_
  refine gm_ev.putfield (M' := (bM B (mH B (mI s 10 ((s.1 10) + (1 : Int32)))) G)) i129_21 rfl (bM_put (j := 0) (fs := mF B s) rfl (Nat.le_of_ble_eq_true rfl) hN (gm_fit_i _) rfl) ?_
  refine gm_ev.aload_n i129_24 rfl ?_
  refine gm_ev.getfield (v := .ref (B + 7)) i129_25 rfl (bM_fld (j := 0) (fs := mF B (mI s 10 ((s.1 10) + (1 : Int32)))) rfl rfl) ?_
  refine gm_ev.iload_n i129_28 rfl ?_
  refine gm_ev.iconst (v := 0) i129_29 (by decide) ?_
  refine gm_ev.iastore (M' := (bM B (mH B (mA (mI s 10 ((s.1 10) + (1 : Int32))) 15 (upd (s.2.1 15) k6 (0 : Int32)))) G)) i129_30 (bM_asti (j := 7) (n := 432) (f := s.2.1 15) rfl ek6 lk6 (by decide) hN rfl) ?_
  refine gm_ev.aload_n i129_31 rfl ?_
  refine gm_ev.getfield (v := .ref (B + 8)) i129_32 rfl (bM_fld (j := 0) (fs := mF B (mA (mI s 10 ((s.1 10) + (1 : Int32))) 15 (upd (s.2.1 15) k6 (0 : Int32)))) rfl rfl) ?_
  refine gm_ev.iload_n i129_35 rfl ?_
  refine gm_ev.iconst (v := 1) i129_36 (by decide) ?_
  refine gm_ev.iastore (M' := (bM B (mH B (mA (mA (mI s 10 ((s.1 10) + (1 : Int32))) 15 (upd (s.2.1 15) k6 (0 : Int32))) 16 (upd (s.2.1 16) k7 (1 : Int32)))) G)) i129_37 (bM_asti (j := 8) (n := 432) (f := s.2.1 16) rfl ek7 lk7 (by decide) hN rfl) ?_
  refine gm_ev.aload_n i129_38 rfl ?_
  refine gm_ev.getfield (v := .ref (B + 9)) i129_39 rfl (bM_fld (j := 0) (fs := mF B (mA (mA (mI s 10 ((s.1 10) + (1 : Int32))) 15 (upd (s.2.1 15) k6 (0 : Int32))) 16 (upd (s.2.1 16) k7 (1 : Int32)))) rfl rfl) ?_
  refine gm_ev.iconst (v := 3) i129_42 (by decide) ?_
  refine gm_ev.iload_n i129_43 rfl ?_
  refine gm_ev.imul i129_44 ?_
  refine gm_ev.iload_n i129_45 rfl ?_
  refine gm_ev.iastore (M' := (bM B (mH B (mA (mA (mA (mI s 10 ((s.1 10) + (1 : Int32))) 15 (upd (s.2.1 15) k6 (0 : Int32))) 16 (upd (s.2.1 16) k7 (1 : Int32))) 17 (upd (s.2.1 17) k8 r1))) G)) i129_46 (bM_asti (j := 9) (n := 1296) (f := s.2.1 17) rfl ek8 lk8 (by decide) hN rfl) ?_
  refine gm_ev.iload_n i129_47 rfl ?_
  refine gm_ev.callS gm_mono_run (av := [.int r1]) (r := []) i129_48 rfl rfl rfl (Nat.le_of_ble_eq_true rfl) t10 ?_
  refine gm_ev.if_eq_f i129_51 c11 ?_
  refine gm_ev.aload_n i129_54 rfl ?_
  refine gm_ev.bipush (v := 40) i129_55 (by decide) ?_
  refine gm_ev.callV gm_mono_run (av := [.int (40 : Int32)]) (r := []) (ci := 11) (fs := mF B (mA (mA (mA (mI s 10 ((s.1 10) + (1 : Int32))) 15 (upd (s.2.1 15) k6 (0 : Int32))) 16 (upd (s.2.1 16) k7 (1 : Int32))) 17 (upd (s.2.1 17) k8 r1))) (bM_get (j := 0) rfl) i129_57 rfl rfl rfl (Nat.le_of_ble_eq_true rfl) t13 ?_
  refine gm_ev.if_ne_t (tgt := 65) i129_60 (by decide) c15 ?_
  refine gm_ev.aload_n i129_65 rfl ?_
  refine gm_ev.getfield (v := .ref (B + 7)) i129_66 rfl (bM_fld (j := 0) (fs := mF B s14) rfl rfl) ?_
  refine gm_ev.iload_n i129_69 rfl ?_
  refine gm_ev.iload_n i129_70 rfl ?_
  refine gm_ev.iastore (M' := (bM B (mH B (mA s14 15 (upd (s14.2.1 15) k16 r1))) G)) i129_71 (bM_asti (j := 7) (n := 432) (f := s14.2.1 15) rfl ek16 lk16 (by decide) hN rfl) ?_
  refine gm_ev.aload_n i129_72 rfl ?_
  refine gm_ev.getfield (v := .ref (B + 8)) i129_73 rfl (bM_fld (j := 0) (fs := mF B (mA s14 15 (upd (s14.2.1 15) k16 r1))) rfl rfl) ?_
  refine gm_ev.iload_n i129_76 rfl ?_
  refine gm_ev.iconst (v := 0) i129_77 (by decide) ?_
  refine gm_ev.iastore (M' := (bM B (mH B (mA (mA s14 15 (upd (s14.2.1 15) k16 r1)) 16 (upd (s14.2.1 16) k17 (0 : Int32)))) G)) i129_78 (bM_asti (j := 8) (n := 432) (f := s14.2.1 16) rfl ek17 lk17 (by decide) hN rfl) ?_
  refine gm_ev.iconst (v := 0) i129_79 (by decide) ?_
  refine gm_ev.istore_n (ls' := [some (.ref B), some (.int p0), some (.int r1), some (.int (0 : Int32))]) i129_80 (Nat.le_of_ble_eq_true rfl) rfl ?_
  refine gm_ev.le (a := [some (.ref B), some (.int p0), none, some (.int (0 : Int32))]) (gm_leL.le (show gm_leL _ _ from ⟨rfl, ⟨rfl, ⟨rfl, trivial⟩⟩⟩)) ?_
  exact k
theorem r_term_0_tff {N0 : Nat} {K : Nat → Nat} {d B : Nat} {s : mS} {G : gm_H} {sz sl : Nat} {p0 : Int32} {r1 : Int32} {r3 : Int32} {k6 : Nat} {k7 : Nat} {k8 : Nat} {r9 : Int32} {r12 : Int32} {s14 : mS} (hN : N0 ≤ B) (t2 : gm_to N0 K ra_nm (ra_mt K) d 123 [.ref B] (bM B (mH B s) G) sz (.returned (some (.int r1)), bM B (mH B s) G, sz, 0)) (t4 : gm_to N0 K ra_nm (ra_mt K) d 126 [.int r1] (bM B (mH B s) G) sz (.returned (some (.int r3)), bM B (mH B s) G, sz, 0)) (c5 : ¬ r3 = 0) (ek6 : p0 = nI k6) (lk6 : k6 < 432) (ek7 : p0 = nI k7) (lk7 : k7 < 432) (ek8 : ((3 : Int32) * p0) = nI k8) (lk8 : k8 < 1296) (t10 : gm_to N0 K ra_nm (ra_mt K) d 124 [.int r1] (bM B (mH B (mA (mA (mA (mI s 10 ((s.1 10) + (1 : Int32))) 15 (upd (s.2.1 15) k6 (0 : Int32))) 16 (upd (s.2.1 16) k7 (1 : Int32))) 17 (upd (s.2.1 17) k8 r1))) G) sz (.returned (some (.int r9)), bM B (mH B (mA (mA (mA (mI s 10 ((s.1 10) + (1 : Int32))) 15 (upd (s.2.1 15) k6 (0 : Int32))) 16 (upd (s.2.1 16) k7 (1 : Int32))) 17 (upd (s.2.1 17) k8 r1))) G, sz, 0)) (c11 : ¬ r9 = 0) (t13 : gm_to N0 K ra_nm (ra_mt K) d 128 [.ref B, .int (40 : Int32)] (bM B (mH B (mA (mA (mA (mI s 10 ((s.1 10) + (1 : Int32))) 15 (upd (s.2.1 15) k6 (0 : Int32))) 16 (upd (s.2.1 16) k7 (1 : Int32))) 17 (upd (s.2.1 17) k8 r1))) G) sz (.returned (some (.int r12)), bM B (mH B s14) G, sz, 0)) (c15 : r12 = 0) : gm_ev N0 K ra_nm (ra_mt K) d (some .boolean) (gm_I cX12_term) (gm_lkf (lkX12 false K)) 0 [some (.ref B), some (.int p0), none, none] [] (bM B (mH B s) G) sz sl (.returned (some (.int (1 : Int32))), (bM B (mH B s14) G), sz, sl) := by
  refine gm_ev.aload_n i129_0 rfl ?_
  refine gm_ev.callV gm_mono_run (av := []) (r := []) (ci := 11) (fs := mF B s) (bM_get (j := 0) rfl) i129_1 rfl rfl rfl (Nat.le_of_ble_eq_true rfl) t2 ?_
  refine gm_ev.istore_n (ls' := [some (.ref B), some (.int p0), some (.int r1), none]) i129_4 (Nat.le_of_ble_eq_true rfl) rfl ?_
  refine gm_ev.iload_n i129_5 rfl ?_
  refine gm_ev.callS gm_mono_run (av := [.int r1]) (r := []) i129_6 rfl rfl rfl (Nat.le_of_ble_eq_true rfl) t4 ?_
  refine gm_ev.if_ne_t (tgt := 14) i129_9 (by decide) c5 ?_
  refine gm_ev.aload_n i129_14 rfl ?_
  refine gm_ev.dup i129_15 rfl ?_
  refine gm_ev.getfield (v := .int (s.1 10)) i129_16 rfl (bM_fld (j := 0) (fs := mF B s) rfl rfl) ?_
  refine gm_ev.iconst (v := 1) i129_19 (by decide) ?_
  refine gm_ev.iadd i129_20 ?_
  refine gm_ev.putfield (M' := (bM B (mH B (mI s 10 ((s.1 10) + (1 : Int32)))) G)) i129_21 rfl (bM_put (j := 0) (fs := mF B s) rfl (Nat.le_of_ble_eq_true rfl) hN (gm_fit_i _) rfl) ?_
  refine gm_ev.aload_n i129_24 rfl ?_
  refine gm_ev.getfield (v := .ref (B + 7)) i129_25 rfl (bM_fld (j := 0) (fs := mF B (mI s 10 ((s.1 10) + (1 : Int32)))) rfl rfl) ?_
  refine gm_ev.iload_n i129_28 rfl ?_
  refine gm_ev.iconst (v := 0) i129_29 (by decide) ?_
  refine gm_ev.iastore (M' := (bM B (mH B (mA (mI s 10 ((s.1 10) + (1 : Int32))) 15 (upd (s.2.1 15) k6 (0 : Int32)))) G)) i129_30 (bM_asti (j := 7) (n := 432) (f := s.2.1 15) rfl ek6 lk6 (by decide) hN rfl) ?_
  refine gm_ev.aload_n i129_31 rfl ?_
  refine gm_ev.getfield (v := .ref (B + 8)) i129_32 rfl (bM_fld (j := 0) (fs := mF B (mA (mI s 10 ((s.1 10) + (1 : Int32))) 15 (upd (s.2.1 15) k6 (0 : Int32)))) rfl rfl) ?_
  refine gm_ev.iload_n i129_35 rfl ?_
  refine gm_ev.iconst (v := 1) i129_36 (by decide) ?_
  refine gm_ev.iastore (M' := (bM B (mH B (mA (mA (mI s 10 ((s.1 10) + (1 : Int32))) 15 (upd (s.2.1 15) k6 (0 : Int32))) 16 (upd (s.2.1 16) k7 (1 : Int32)))) G)) i129_37 (bM_asti (j := 8) (n := 432) (f := s.2.1 16) rfl ek7 lk7 (by decide) hN rfl) ?_
  refine gm_ev.aload_n i129_38 rfl ?_
  refine gm_ev.getfield (v := .ref (B + 9)) i129_39 rfl (bM_fld (j := 0) (fs := mF B (mA (mA (mI s 10 ((s.1 10) + (1 : Int32))) 15 (upd (s.2.1 15) k6 (0 : Int32))) 16 (upd (s.2.1 16) k7 (1 : Int32)))) rfl rfl) ?_
  refine gm_ev.iconst (v := 3) i129_42 (by decide) ?_
  refine gm_ev.iload_n i129_43 rfl ?_
  refine gm_ev.imul i129_44 ?_
  refine gm_ev.iload_n i129_45 rfl ?_
  refine gm_ev.iastore (M' := (bM B (mH B (mA (mA (mA (mI s 10 ((s.1 10) + (1 : Int32))) 15 (upd (s.2.1 15) k6 (0 : Int32))) 16 (upd (s.2.1 16) k7 (1 : Int32))) 17 (upd (s.2.1 17) k8 r1))) G)) i129_46 (bM_asti (j := 9) (n := 1296) (f := s.2.1 17) rfl ek8 lk8 (by decide) hN rfl) ?_
  refine gm_ev.iload_n i129_47 rfl ?_
  refine gm_ev.callS gm_mono_run (av := [.int r1]) (r := []) i129_48 rfl rfl rfl (Nat.le_of_ble_eq_true rfl) t10 ?_
  refine gm_ev.if_eq_f i129_51 c11 ?_
  refine gm_ev.aload_n i129_54 rfl ?_
  refine gm_ev.bipush (v := 40) i129_55 (by decide) ?_
  refine gm_ev.callV gm_mono_run (av := [.int (40 : Int32)]) (r := []) (ci := 11) (fs := mF B (mA (mA (mA (mI s 10 ((s.1 10) + (1 : Int32))) 15 (upd (s.2.1 15) k6 (0 : Int32))) 16 (upd (s.2.1 16) k7 (1 : Int32))) 17 (upd (s.2.1 17) k8 r1))) (bM_get (j := 0) rfl) i129_57 rfl rfl rfl (Nat.le_of_ble_eq_true rfl) t13 ?_
  refine gm_ev.if_ne_f i129_60 c15 ?_
  refine gm_ev.iconst (v := 1) i129_63 (by decide) ?_
  exact gm_ev.zret i129_64 rfl (by decide)
theorem r_term_0_f {N0 : Nat} {K : Nat → Nat} {d B : Nat} {s : mS} {G : gm_H} {sz sl : Nat} {p0 : Int32} {r1 : Int32} {r3 : Int32} (hN : N0 ≤ B) (t2 : gm_to N0 K ra_nm (ra_mt K) d 123 [.ref B] (bM B (mH B s) G) sz (.returned (some (.int r1)), bM B (mH B s) G, sz, 0)) (t4 : gm_to N0 K ra_nm (ra_mt K) d 126 [.int r1] (bM B (mH B s) G) sz (.returned (some (.int r3)), bM B (mH B s) G, sz, 0)) (c5 : r3 = 0) : gm_ev N0 K ra_nm (ra_mt K) d (some .boolean) (gm_I cX12_term) (gm_lkf (lkX12 false K)) 0 [some (.ref B), some (.int p0), none, none] [] (bM B (mH B s) G) sz sl (.returned (some (.int (0 : Int32))), (bM B (mH B s) G), sz, sl) := by
  refine gm_ev.aload_n i129_0 rfl ?_
  refine gm_ev.callV gm_mono_run (av := []) (r := []) (ci := 11) (fs := mF B s) (bM_get (j := 0) rfl) i129_1 rfl rfl rfl (Nat.le_of_ble_eq_true rfl) t2 ?_
  refine gm_ev.istore_n (ls' := [some (.ref B), some (.int p0), some (.int r1), none]) i129_4 (Nat.le_of_ble_eq_true rfl) rfl ?_
  refine gm_ev.iload_n i129_5 rfl ?_
  refine gm_ev.callS gm_mono_run (av := [.int r1]) (r := []) i129_6 rfl rfl rfl (Nat.le_of_ble_eq_true rfl) t4 ?_
  refine gm_ev.if_ne_f i129_9 c5 ?_
  refine gm_ev.iconst (v := 0) i129_12 (by decide) ?_
  exact gm_ev.zret i129_13 rfl (by decide)
theorem r_term_81_t {N0 : Nat} {K : Nat → Nat} {d B : Nat} {s : mS} {G : gm_H} {sz sl : Nat} {x1 : Int32} {x3 : Int32} (hN : N0 ≤ B) (c1 : (3 : Int32) ≤ x3) : gm_ev N0 K ra_nm (ra_mt K) d (some .boolean) (gm_I cX12_term) (gm_lkf (lkX12 false K)) 81 [some (.ref B), some (.int x1), none, some (.int x3)] [] (bM B (mH B s) G) sz sl (.returned (some (.int (0 : Int32))), (bM B (mH B s) G), sz, sl) := by
  refine gm_ev.iload_n i129_81 rfl ?_
  refine gm_ev.iconst (v := 3) i129_82 (by decide) ?_
  refine gm_ev.icmp_ge_t (tgt := 165) i129_83 (by decide) c1 ?_
  refine gm_ev.iconst (v := 0) i129_165 (by decide) ?_
  exact gm_ev.zret i129_166 rfl (by decide)
theorem r_term_81_fttt {N0 : Nat} {K : Nat → Nat} {d B : Nat} {s : mS} {G : gm_H} {sz sl : Nat} {x1 : Int32} {x3 : Int32} {r2 : Int32} {r4 : Int32} {r7 : Int32} {k9 : Nat} {k10 : Nat} {k11 : Nat} {r12 : Int32} {s14 : mS} (hN : N0 ≤ B) (c1 : ¬ (3 : Int32) ≤ x3) (t3 : gm_to N0 K ra_nm (ra_mt K) d 123 [.ref B] (bM B (mH B s) G) sz (.returned (some (.int r2)), bM B (mH B s) G, sz, 0)) (t5 : gm_to N0 K ra_nm (ra_mt K) d 126 [.int r2] (bM B (mH B s) G) sz (.returned (some (.int r4)), bM B (mH B s) G, sz, 0)) (c6 : ¬ r4 = 0) (t8 : gm_to N0 K ra_nm (ra_mt K) d 123 [.ref B] (bM B (mH B s) G) sz (.returned (some (.int r7)), bM B (mH B s) G, sz, 0)) (ek9 : (((3 : Int32) * x1) + x3) = nI k9) (lk9 : k9 < 1296) (ek10 : x1 = nI k10) (lk10 : k10 < 432) (ek11 : x1 = nI k11) (lk11 : k11 < 432) (t13 : gm_to N0 K ra_nm (ra_mt K) d 128 [.ref B, .int (41 : Int32)] (bM B (mH B (mI (mA (mA s 17 (upd (s.2.1 17) k9 r7)) 16 (upd (s.2.1 16) k11 ((s.2.1 16 k10) + (1 : Int32)))) 10 ((s.1 10) + (1 : Int32)))) G) sz (.returned (some (.int r12)), bM B (mH B s14) G, sz, 0)) (c15 : r12 = 0) (c16 : x3 = (2 : Int32)) : gm_ev N0 K ra_nm (ra_mt K) d (some .boolean) (gm_I cX12_term) (gm_lkf (lkX12 false K)) 81 [some (.ref B), some (.int x1), none, some (.int x3)] [] (bM B (mH B s) G) sz sl (.returned (some (.int (0 : Int32))), (bM B (mH B s14) G), sz, sl) := by
  refine gm_ev.iload_n i129_81 rfl ?_
  refine gm_ev.iconst (v := 3) i129_82 (by decide) ?_
  refine gm_ev.icmp_ge_f i129_83 c1 ?_
  refine gm_ev.aload_n i129_86 rfl ?_
  refine gm_ev.callV gm_mono_run (av := []) (r := []) (ci := 11) (fs := mF B s) (bM_get (j := 0) rfl) i129_87 rfl rfl rfl (Nat.le_of_ble_eq_true rfl) t3 ?_
  refine gm_ev.callS gm_mono_run (av := [.int r2]) (r := []) i129_90 rfl rfl rfl (Nat.le_of_ble_eq_true rfl) t5 ?_
  refine gm_ev.if_ne_t (tgt := 98) i129_93 (by decide) c6 ?_
  refine gm_ev.aload_n i129_98 rfl ?_
  refine gm_ev.getfield (v := .ref (B + 9)) i129_99 rfl (bM_fld (j := 0) (fs := mF B s) rfl rfl) ?_
  refine gm_ev.iconst (v := 3) i129_102 (by decide) ?_
  refine gm_ev.iload_n i129_103 rfl ?_
  refine gm_ev.imul i129_104 ?_
  refine gm_ev.iload_n i129_105 rfl ?_
  refine gm_ev.iadd i129_106 ?_
  refine gm_ev.aload_n i129_107 rfl ?_
  refine gm_ev.callV gm_mono_run (av := []) (r := [.int (((3 : Int32) * x1) + x3), .ref (B + 9)]) (ci := 11) (fs := mF B s) (bM_get (j := 0) rfl) i129_108 rfl rfl rfl (Nat.le_of_ble_eq_true rfl) t8 ?_
  refine gm_ev.iastore (M' := (bM B (mH B (mA s 17 (upd (s.2.1 17) k9 r7))) G)) i129_111 (bM_asti (j := 9) (n := 1296) (f := s.2.1 17) rfl ek9 lk9 (by decide) hN rfl) ?_
  refine gm_ev.aload_n i129_112 rfl ?_
  refine gm_ev.getfield (v := .ref (B + 8)) i129_113 rfl (bM_fld (j := 0) (fs := mF B (mA s 17 (upd (s.2.1 17) k9 r7))) rfl rfl) ?_
  refine gm_ev.iload_n i129_116 rfl ?_
  refine gm_ev.dup2 i129_117 rfl rfl ?_
  refine gm_ev.iaload i129_118 (bM_ai (j := 8) (n := 432) (f := s.2.1 16) rfl ek10 lk10 (by decide)) ?_
  refine gm_ev.iconst (v := 1) i129_119 (by decide) ?_
  refine gm_ev.iadd i129_120 ?_
  refine gm_ev.iastore (M' := (bM B (mH B (mA (mA s 17 (upd (s.2.1 17) k9 r7)) 16 (upd (s.2.1 16) k11 ((s.2.1 16 k10) + (1 : Int32))))) G)) i129_121 (bM_asti (j := 8) (n := 432) (f := s.2.1 16) rfl ek11 lk11 (by decide) hN rfl) ?_
  refine gm_ev.aload_n i129_122 rfl ?_
  refine gm_ev.dup i129_123 rfl ?_
  refine gm_ev.getfield (v := .int (s.1 10)) i129_124 rfl (bM_fld (j := 0) (fs := mF B (mA (mA s 17 (upd (s.2.1 17) k9 r7)) 16 (upd (s.2.1 16) k11 ((s.2.1 16 k10) + (1 : Int32))))) rfl rfl) ?_
  refine gm_ev.iconst (v := 1) i129_127 (by decide) ?_
  refine gm_ev.iadd i129_128 ?_
  refine gm_ev.putfield (M' := (bM B (mH B (mI (mA (mA s 17 (upd (s.2.1 17) k9 r7)) 16 (upd (s.2.1 16) k11 ((s.2.1 16 k10) + (1 : Int32)))) 10 ((s.1 10) + (1 : Int32)))) G)) i129_129 rfl (bM_put (j := 0) (fs := mF B (mA (mA s 17 (upd (s.2.1 17) k9 r7)) 16 (upd (s.2.1 16) k11 ((s.2.1 16 k10) + (1 : Int32))))) rfl (Nat.le_of_ble_eq_true rfl) hN (gm_fit_i _) rfl) ?_
  refine gm_ev.aload_n i129_132 rfl ?_
  refine gm_ev.bipush (v := 41) i129_133 (by decide) ?_
  refine gm_ev.callV gm_mono_run (av := [.int (41 : Int32)]) (r := []) (ci := 11) (fs := mF B (mI (mA (mA s 17 (upd (s.2.1 17) k9 r7)) 16 (upd (s.2.1 16) k11 ((s.2.1 16 k10) + (1 : Int32)))) 10 ((s.1 10) + (1 : Int32)))) (bM_get (j := 0) rfl) i129_135 rfl rfl rfl (Nat.le_of_ble_eq_true rfl) t13 ?_
  refine gm_ev.if_eq_t (tgt := 143) i129_138 (by decide) c15 ?_
  refine gm_ev.iload_n i129_143 rfl ?_
  refine gm_ev.iconst (v := 2) i129_144 (by decide) ?_
  refine gm_ev.icmp_eq_t (tgt := 157) i129_145 (by decide) c16 ?_
  refine gm_ev.iconst (v := 0) i129_157 (by decide) ?_
  exact gm_ev.zret i129_158 rfl (by decide)
theorem r_term_81_fttft_at81 {N0 : Nat} {K : Nat → Nat} {d B : Nat} {s : mS} {G : gm_H} {sz sl : Nat} {R : gm_R} {x1 : Int32} {x3 : Int32} {r2 : Int32} {r4 : Int32} {r7 : Int32} {k9 : Nat} {k10 : Nat} {k11 : Nat} {r12 : Int32} {s14 : mS} {r17 : Int32} {s19 : mS} (hN : N0 ≤ B) (c1 : ¬ (3 : Int32) ≤ x3) (t3 : gm_to N0 K ra_nm (ra_mt K) d 123 [.ref B] (bM B (mH B s) G) sz (.returned (some (.int r2)), bM B (mH B s) G, sz, 0)) (t5 : gm_to N0 K ra_nm (ra_mt K) d 126 [.int r2] (bM B (mH B s) G) sz (.returned (some (.int r4)), bM B (mH B s) G, sz, 0)) (c6 : ¬ r4 = 0) (t8 : gm_to N0 K ra_nm (ra_mt K) d 123 [.ref B] (bM B (mH B s) G) sz (.returned (some (.int r7)), bM B (mH B s) G, sz, 0)) (ek9 : (((3 : Int32) * x1) + x3) = nI k9) (lk9 : k9 < 1296) (ek10 : x1 = nI k10) (lk10 : k10 < 432) (ek11 : x1 = nI k11) (lk11 : k11 < 432) (t13 : gm_to N0 K ra_nm (ra_mt K) d 128 [.ref B, .int (41 : Int32)] (bM B (mH B (mI (mA (mA s 17 (upd (s.2.1 17) k9 r7)) 16 (upd (s.2.1 16) k11 ((s.2.1 16 k10) + (1 : Int32)))) 10 ((s.1 10) + (1 : Int32)))) G) sz (.returned (some (.int r12)), bM B (mH B s14) G, sz, 0)) (c15 : r12 = 0) (c16 : ¬ x3 = (2 : Int32)) (t18 : gm_to N0 K ra_nm (ra_mt K) d 128 [.ref B, .int (44 : Int32)] (bM B (mH B s14) G) sz (.returned (some (.int r17)), bM B (mH B s19) G, sz, 0)) (c20 : ¬ r17 = 0) (k : gm_ev N0 K ra_nm (ra_mt K) d (some .boolean) (gm_I cX12_term) (gm_lkf (lkX12 false K)) 81 [some (.ref B), some (.int x1), none, some (.int (x3 + (1 : Int32)))] [] (bM B (mH B s19) G) sz sl R) : gm_ev N0 K ra_nm (ra_mt K) d (some .boolean) (gm_I cX12_term) (gm_lkf (lkX12 false K)) 81 [some (.ref B), some (.int x1), none, some (.int x3)] [] (bM B (mH B s) G) sz sl R := by
  refine gm_ev.iload_n i129_81 rfl ?_
  refine gm_ev.iconst (v := 3) i129_82 (by decide) ?_
  refine gm_ev.icmp_ge_f i129_83 c1 ?_
  refine gm_ev.aload_n i129_86 rfl ?_
  refine gm_ev.callV gm_mono_run (av := []) (r := []) (ci := 11) (fs := mF B s) (bM_get (j := 0) rfl) i129_87 rfl rfl rfl (Nat.le_of_ble_eq_true rfl) t3 ?_
  refine gm_ev.callS gm_mono_run (av := [.int r2]) (r := []) i129_90 rfl rfl rfl (Nat.le_of_ble_eq_true rfl) t5 ?_
  refine gm_ev.if_ne_t (tgt := 98) i129_93 (by decide) c6 ?_
  refine gm_ev.aload_n i129_98 rfl ?_
  refine gm_ev.getfield (v := .ref (B + 9)) i129_99 rfl (bM_fld (j := 0) (fs := mF B s) rfl rfl) ?_
  refine gm_ev.iconst (v := 3) i129_102 (by decide) ?_
  refine gm_ev.iload_n i129_103 rfl ?_
  refine gm_ev.imul i129_104 ?_
  refine gm_ev.iload_n i129_105 rfl ?_
  refine gm_ev.iadd i129_106 ?_
  refine gm_ev.aload_n i129_107 rfl ?_
  refine gm_ev.callV gm_mono_run (av := []) (r := [.int (((3 : Int32) * x1) + x3), .ref (B + 9)]) (ci := 11) (fs := mF B s) (bM_get (j := 0) rfl) i129_108 rfl rfl rfl (Nat.le_of_ble_eq_true rfl) t8 ?_
  refine gm_ev.iastore (M' := (bM B (mH B (mA s 17 (upd (s.2.1 17) k9 r7))) G)) i129_111 (bM_asti (j := 9) (n := 1296) (f := s.2.1 17) rfl ek9 lk9 (by decide) hN rfl) ?_
  refine gm_ev.aload_n i129_112 rfl ?_
  refine gm_ev.getfield (v := .ref (B + 8)) i129_113 rfl (bM_fld (j := 0) (fs := mF B (mA s 17 (upd (s.2.1 17) k9 r7))) rfl rfl) ?_
  refine gm_ev.iload_n i129_116 rfl ?_
  refine gm_ev.dup2 i129_117 rfl rfl ?_
  refine gm_ev.iaload i129_118 (bM_ai (j := 8) (n := 432) (f := s.2.1 16) rfl ek10 lk10 (by decide)) ?_
  refine gm_ev.iconst (v := 1) i129_119 (by decide) ?_
  refine gm_ev.iadd i129_120 ?_
  refine gm_ev.iastore (M' := (bM B (mH B (mA (mA s 17 (upd (s.2.1 17) k9 r7)) 16 (upd (s.2.1 16) k11 ((s.2.1 16 k10) + (1 : Int32))))) G)) i129_121 (bM_asti (j := 8) (n := 432) (f := s.2.1 16) rfl ek11 lk11 (by decide) hN rfl) ?_
  refine gm_ev.aload_n i129_122 rfl ?_
  refine gm_ev.dup i129_123 rfl ?_
  refine gm_ev.getfield (v := .int (s.1 10)) i129_124 rfl (bM_fld (j := 0) (fs := mF B (mA (mA s 17 (upd (s.2.1 17) k9 r7)) 16 (upd (s.2.1 16) k11 ((s.2.1 16 k10) + (1 : Int32))))) rfl rfl) ?_
  refine gm_ev.iconst (v := 1) i129_127 (by decide) ?_
  refine gm_ev.iadd i129_128 ?_
  refine gm_ev.putfield (M' := (bM B (mH B (mI (mA (mA s 17 (upd (s.2.1 17) k9 r7)) 16 (upd (s.2.1 16) k11 ((s.2.1 16 k10) + (1 : Int32)))) 10 ((s.1 10) + (1 : Int32)))) G)) i129_129 rfl (bM_put (j := 0) (fs := mF B (mA (mA s 17 (upd (s.2.1 17) k9 r7)) 16 (upd (s.2.1 16) k11 ((s.2.1 16 k10) + (1 : Int32))))) rfl (Nat.le_of_ble_eq_true rfl) hN (gm_fit_i _) rfl) ?_
  refine gm_ev.aload_n i129_132 rfl ?_
  refine gm_ev.bipush (v := 41) i129_133 (by decide) ?_
  refine gm_ev.callV gm_mono_run (av := [.int (41 : Int32)]) (r := []) (ci := 11) (fs := mF B (mI (mA (mA s 17 (upd (s.2.1 17) k9 r7)) 16 (upd (s.2.1 16) k11 ((s.2.1 16 k10) + (1 : Int32)))) 10 ((s.1 10) + (1 : Int32)))) (bM_get (j := 0) rfl) i129_135 rfl rfl rfl (Nat.le_of_ble_eq_true rfl) t13 ?_
  refine gm_ev.if_eq_t (tgt := 143) i129_138 (by decide) c15 ?_
  refine gm_ev.iload_n i129_143 rfl ?_
  refine gm_ev.iconst (v := 2) i129_144 (by decide) ?_
  refine gm_ev.icmp_eq_f i129_145 c16 ?_
  refine gm_ev.aload_n i129_148 rfl ?_
  refine gm_ev.bipush (v := 44) i129_149 (by decide) ?_
  refine gm_ev.callV gm_mono_run (av := [.int (44 : Int32)]) (r := []) (ci := 11) (fs := mF B s14) (bM_get (j := 0) rfl) i129_151 rfl rfl rfl (Nat.le_of_ble_eq_true rfl) t18 ?_
  refine gm_ev.if_ne_t (tgt := 159) i129_154 (by decide) c20 ?_
  refine gm_ev.iinc (v := x3 + (1 : Int32)) (ls' := [some (.ref B), some (.int x1), none, some (.int (x3 + (1 : Int32)))]) i129_159 rfl (by rfl) rfl ?_
  refine gm_ev.goto (tgt := 81) i129_162 (by decide) ?_
  exact k
theorem r_term_81_fttff {N0 : Nat} {K : Nat → Nat} {d B : Nat} {s : mS} {G : gm_H} {sz sl : Nat} {x1 : Int32} {x3 : Int32} {r2 : Int32} {r4 : Int32} {r7 : Int32} {k9 : Nat} {k10 : Nat} {k11 : Nat} {r12 : Int32} {s14 : mS} {r17 : Int32} {s19 : mS} (hN : N0 ≤ B) (c1 : ¬ (3 : Int32) ≤ x3) (t3 : gm_to N0 K ra_nm (ra_mt K) d 123 [.ref B] (bM B (mH B s) G) sz (.returned (some (.int r2)), bM B (mH B s) G, sz, 0)) (t5 : gm_to N0 K ra_nm (ra_mt K) d 126 [.int r2] (bM B (mH B s) G) sz (.returned (some (.int r4)), bM B (mH B s) G, sz, 0)) (c6 : ¬ r4 = 0) (t8 : gm_to N0 K ra_nm (ra_mt K) d 123 [.ref B] (bM B (mH B s) G) sz (.returned (some (.int r7)), bM B (mH B s) G, sz, 0)) (ek9 : (((3 : Int32) * x1) + x3) = nI k9) (lk9 : k9 < 1296) (ek10 : x1 = nI k10) (lk10 : k10 < 432) (ek11 : x1 = nI k11) (lk11 : k11 < 432) (t13 : gm_to N0 K ra_nm (ra_mt K) d 128 [.ref B, .int (41 : Int32)] (bM B (mH B (mI (mA (mA s 17 (upd (s.2.1 17) k9 r7)) 16 (upd (s.2.1 16) k11 ((s.2.1 16 k10) + (1 : Int32)))) 10 ((s.1 10) + (1 : Int32)))) G) sz (.returned (some (.int r12)), bM B (mH B s14) G, sz, 0)) (c15 : r12 = 0) (c16 : ¬ x3 = (2 : Int32)) (t18 : gm_to N0 K ra_nm (ra_mt K) d 128 [.ref B, .int (44 : Int32)] (bM B (mH B s14) G) sz (.returned (some (.int r17)), bM B (mH B s19) G, sz, 0)) (c20 : r17 = 0) : gm_ev N0 K ra_nm (ra_mt K) d (some .boolean) (gm_I cX12_term) (gm_lkf (lkX12 false K)) 81 [some (.ref B), some (.int x1), none, some (.int x3)] [] (bM B (mH B s) G) sz sl (.returned (some (.int (0 : Int32))), (bM B (mH B s19) G), sz, sl) := by
  refine gm_ev.iload_n i129_81 rfl ?_
  refine gm_ev.iconst (v := 3) i129_82 (by decide) ?_
  refine gm_ev.icmp_ge_f i129_83 c1 ?_
  refine gm_ev.aload_n i129_86 rfl ?_
  refine gm_ev.callV gm_mono_run (av := []) (r := []) (ci := 11) (fs := mF B s) (bM_get (j := 0) rfl) i129_87 rfl rfl rfl (Nat.le_of_ble_eq_true rfl) t3 ?_
  refine gm_ev.callS gm_mono_run (av := [.int r2]) (r := []) i129_90 rfl rfl rfl (Nat.le_of_ble_eq_true rfl) t5 ?_
  refine gm_ev.if_ne_t (tgt := 98) i129_93 (by decide) c6 ?_
  refine gm_ev.aload_n i129_98 rfl ?_
  refine gm_ev.getfield (v := .ref (B + 9)) i129_99 rfl (bM_fld (j := 0) (fs := mF B s) rfl rfl) ?_
  refine gm_ev.iconst (v := 3) i129_102 (by decide) ?_
  refine gm_ev.iload_n i129_103 rfl ?_
  refine gm_ev.imul i129_104 ?_
  refine gm_ev.iload_n i129_105 rfl ?_
  refine gm_ev.iadd i129_106 ?_
  refine gm_ev.aload_n i129_107 rfl ?_
  refine gm_ev.callV gm_mono_run (av := []) (r := [.int (((3 : Int32) * x1) + x3), .ref (B + 9)]) (ci := 11) (fs := mF B s) (bM_get (j := 0) rfl) i129_108 rfl rfl rfl (Nat.le_of_ble_eq_true rfl) t8 ?_
  refine gm_ev.iastore (M' := (bM B (mH B (mA s 17 (upd (s.2.1 17) k9 r7))) G)) i129_111 (bM_asti (j := 9) (n := 1296) (f := s.2.1 17) rfl ek9 lk9 (by decide) hN rfl) ?_
  refine gm_ev.aload_n i129_112 rfl ?_
  refine gm_ev.getfield (v := .ref (B + 8)) i129_113 rfl (bM_fld (j := 0) (fs := mF B (mA s 17 (upd (s.2.1 17) k9 r7))) rfl rfl) ?_
  refine gm_ev.iload_n i129_116 rfl ?_
  refine gm_ev.dup2 i129_117 rfl rfl ?_
  refine gm_ev.iaload i129_118 (bM_ai (j := 8) (n := 432) (f := s.2.1 16) rfl ek10 lk10 (by decide)) ?_
  refine gm_ev.iconst (v := 1) i129_119 (by decide) ?_
  refine gm_ev.iadd i129_120 ?_
  refine gm_ev.iastore (M' := (bM B (mH B (mA (mA s 17 (upd (s.2.1 17) k9 r7)) 16 (upd (s.2.1 16) k11 ((s.2.1 16 k10) + (1 : Int32))))) G)) i129_121 (bM_asti (j := 8) (n := 432) (f := s.2.1 16) rfl ek11 lk11 (by decide) hN rfl) ?_
  refine gm_ev.aload_n i129_122 rfl ?_
  refine gm_ev.dup i129_123 rfl ?_
  refine gm_ev.getfield (v := .int (s.1 10)) i129_124 rfl (bM_fld (j := 0) (fs := mF B (mA (mA s 17 (upd (s.2.1 17) k9 r7)) 16 (upd (s.2.1 16) k11 ((s.2.1 16 k10) + (1 : Int32))))) rfl rfl) ?_
  refine gm_ev.iconst (v := 1) i129_127 (by decide) ?_
  refine gm_ev.iadd i129_128 ?_
  refine gm_ev.putfield (M' := (bM B (mH B (mI (mA (mA s 17 (upd (s.2.1 17) k9 r7)) 16 (upd (s.2.1 16) k11 ((s.2.1 16 k10) + (1 : Int32)))) 10 ((s.1 10) + (1 : Int32)))) G)) i129_129 rfl (bM_put (j := 0) (fs := mF B (mA (mA s 17 (upd (s.2.1 17) k9 r7)) 16 (upd (s.2.1 16) k11 ((s.2.1 16 k10) + (1 : Int32))))) rfl (Nat.le_of_ble_eq_true rfl) hN (gm_fit_i _) rfl) ?_
  refine gm_ev.aload_n i129_132 rfl ?_
  refine gm_ev.bipush (v := 41) i129_133 (by decide) ?_
  refine gm_ev.callV gm_mono_run (av := [.int (41 : Int32)]) (r := []) (ci := 11) (fs := mF B (mI (mA (mA s 17 (upd (s.2.1 17) k9 r7)) 16 (upd (s.2.1 16) k11 ((s.2.1 16 k10) + (1 : Int32)))) 10 ((s.1 10) + (1 : Int32)))) (bM_get (j := 0) rfl) i129_135 rfl rfl rfl (Nat.le_of_ble_eq_true rfl) t13 ?_
  refine gm_ev.if_eq_t (tgt := 143) i129_138 (by decide) c15 ?_
  refine gm_ev.iload_n i129_143 rfl ?_
  refine gm_ev.iconst (v := 2) i129_144 (by decide) ?_
  refine gm_ev.icmp_eq_f i129_145 c16 ?_
  refine gm_ev.aload_n i129_148 rfl ?_
  refine gm_ev.bipush (v := 44) i129_149 (by decide) ?_
  refine gm_ev.callV gm_mono_run (av := [.int (44 : Int32)]) (r := []) (ci := 11) (fs := mF B s14) (bM_get (j := 0) rfl) i129_151 rfl rfl rfl (Nat.le_of_ble_eq_true rfl) t18 ?_
  refine gm_ev.if_ne_f i129_154 c20 ?_
  refine gm_ev.iconst (v := 0) i129_157 (by decide) ?_
  exact gm_ev.zret i129_158 rfl (by decide)
theorem r_term_81_ftf {N0 : Nat} {K : Nat → Nat} {d B : Nat} {s : mS} {G : gm_H} {sz sl : Nat} {x1 : Int32} {x3 : Int32} {r2 : Int32} {r4 : Int32} {r7 : Int32} {k9 : Nat} {k10 : Nat} {k11 : Nat} {r12 : Int32} {s14 : mS} (hN : N0 ≤ B) (c1 : ¬ (3 : Int32) ≤ x3) (t3 : gm_to N0 K ra_nm (ra_mt K) d 123 [.ref B] (bM B (mH B s) G) sz (.returned (some (.int r2)), bM B (mH B s) G, sz, 0)) (t5 : gm_to N0 K ra_nm (ra_mt K) d 126 [.int r2] (bM B (mH B s) G) sz (.returned (some (.int r4)), bM B (mH B s) G, sz, 0)) (c6 : ¬ r4 = 0) (t8 : gm_to N0 K ra_nm (ra_mt K) d 123 [.ref B] (bM B (mH B s) G) sz (.returned (some (.int r7)), bM B (mH B s) G, sz, 0)) (ek9 : (((3 : Int32) * x1) + x3) = nI k9) (lk9 : k9 < 1296) (ek10 : x1 = nI k10) (lk10 : k10 < 432) (ek11 : x1 = nI k11) (lk11 : k11 < 432) (t13 : gm_to N0 K ra_nm (ra_mt K) d 128 [.ref B, .int (41 : Int32)] (bM B (mH B (mI (mA (mA s 17 (upd (s.2.1 17) k9 r7)) 16 (upd (s.2.1 16) k11 ((s.2.1 16 k10) + (1 : Int32)))) 10 ((s.1 10) + (1 : Int32)))) G) sz (.returned (some (.int r12)), bM B (mH B s14) G, sz, 0)) (c15 : ¬ r12 = 0) : gm_ev N0 K ra_nm (ra_mt K) d (some .boolean) (gm_I cX12_term) (gm_lkf (lkX12 false K)) 81 [some (.ref B), some (.int x1), none, some (.int x3)] [] (bM B (mH B s) G) sz sl (.returned (some (.int (1 : Int32))), (bM B (mH B s14) G), sz, sl) := by
  refine gm_ev.iload_n i129_81 rfl ?_
  refine gm_ev.iconst (v := 3) i129_82 (by decide) ?_
  refine gm_ev.icmp_ge_f i129_83 c1 ?_
  refine gm_ev.aload_n i129_86 rfl ?_
  refine gm_ev.callV gm_mono_run (av := []) (r := []) (ci := 11) (fs := mF B s) (bM_get (j := 0) rfl) i129_87 rfl rfl rfl (Nat.le_of_ble_eq_true rfl) t3 ?_
  refine gm_ev.callS gm_mono_run (av := [.int r2]) (r := []) i129_90 rfl rfl rfl (Nat.le_of_ble_eq_true rfl) t5 ?_
  refine gm_ev.if_ne_t (tgt := 98) i129_93 (by decide) c6 ?_
  refine gm_ev.aload_n i129_98 rfl ?_
  refine gm_ev.getfield (v := .ref (B + 9)) i129_99 rfl (bM_fld (j := 0) (fs := mF B s) rfl rfl) ?_
  refine gm_ev.iconst (v := 3) i129_102 (by decide) ?_
  refine gm_ev.iload_n i129_103 rfl ?_
  refine gm_ev.imul i129_104 ?_
  refine gm_ev.iload_n i129_105 rfl ?_
  refine gm_ev.iadd i129_106 ?_
  refine gm_ev.aload_n i129_107 rfl ?_
  refine gm_ev.callV gm_mono_run (av := []) (r := [.int (((3 : Int32) * x1) + x3), .ref (B + 9)]) (ci := 11) (fs := mF B s) (bM_get (j := 0) rfl) i129_108 rfl rfl rfl (Nat.le_of_ble_eq_true rfl) t8 ?_
  refine gm_ev.iastore (M' := (bM B (mH B (mA s 17 (upd (s.2.1 17) k9 r7))) G)) i129_111 (bM_asti (j := 9) (n := 1296) (f := s.2.1 17) rfl ek9 lk9 (by decide) hN rfl) ?_
  refine gm_ev.aload_n i129_112 rfl ?_
  refine gm_ev.getfield (v := .ref (B + 8)) i129_113 rfl (bM_fld (j := 0) (fs := mF B (mA s 17 (upd (s.2.1 17) k9 r7))) rfl rfl) ?_
  refine gm_ev.iload_n i129_116 rfl ?_
  refine gm_ev.dup2 i129_117 rfl rfl ?_
  refine gm_ev.iaload i129_118 (bM_ai (j := 8) (n := 432) (f := s.2.1 16) rfl ek10 lk10 (by decide)) ?_
  refine gm_ev.iconst (v := 1) i129_119 (by decide) ?_
  refine gm_ev.iadd i129_120 ?_
  refine gm_ev.iastore (M' := (bM B (mH B (mA (mA s 17 (upd (s.2.1 17) k9 r7)) 16 (upd (s.2.1 16) k11 ((s.2.1 16 k10) + (1 : Int32))))) G)) i129_121 (bM_asti (j := 8) (n := 432) (f := s.2.1 16) rfl ek11 lk11 (by decide) hN rfl) ?_
  refine gm_ev.aload_n i129_122 rfl ?_
  refine gm_ev.dup i129_123 rfl ?_
  refine gm_ev.getfield (v := .int (s.1 10)) i129_124 rfl (bM_fld (j := 0) (fs := mF B (mA (mA s 17 (upd (s.2.1 17) k9 r7)) 16 (upd (s.2.1 16) k11 ((s.2.1 16 k10) + (1 : Int32))))) rfl rfl) ?_
  refine gm_ev.iconst (v := 1) i129_127 (by decide) ?_
  refine gm_ev.iadd i129_128 ?_
  refine gm_ev.putfield (M' := (bM B (mH B (mI (mA (mA s 17 (upd (s.2.1 17) k9 r7)) 16 (upd (s.2.1 16) k11 ((s.2.1 16 k10) + (1 : Int32)))) 10 ((s.1 10) + (1 : Int32)))) G)) i129_129 rfl (bM_put (j := 0) (fs := mF B (mA (mA s 17 (upd (s.2.1 17) k9 r7)) 16 (upd (s.2.1 16) k11 ((s.2.1 16 k10) + (1 : Int32))))) rfl (Nat.le_of_ble_eq_true rfl) hN (gm_fit_i _) rfl) ?_
  refine gm_ev.aload_n i129_132 rfl ?_
  refine gm_ev.bipush (v := 41) i129_133 (by decide) ?_
  refine gm_ev.callV gm_mono_run (av := [.int (41 : Int32)]) (r := []) (ci := 11) (fs := mF B (mI (mA (mA s 17 (upd (s.2.1 17) k9 r7)) 16 (upd (s.2.1 16) k11 ((s.2.1 16 k10) + (1 : Int32)))) 10 ((s.1 10) + (1 : Int32)))) (bM_get (j := 0) rfl) i129_135 rfl rfl rfl (Nat.le_of_ble_eq_true rfl) t13 ?_
  refine gm_ev.if_eq_f i129_138 c15 ?_
  refine gm_ev.iconst (v := 1) i129_141 (by decide) ?_
  exact gm_ev.zret i129_142 rfl (by decide)
theorem r_term_81_ff {N0 : Nat} {K : Nat → Nat} {d B : Nat} {s : mS} {G : gm_H} {sz sl : Nat} {x1 : Int32} {x3 : Int32} {r2 : Int32} {r4 : Int32} (hN : N0 ≤ B) (c1 : ¬ (3 : Int32) ≤ x3) (t3 : gm_to N0 K ra_nm (ra_mt K) d 123 [.ref B] (bM B (mH B s) G) sz (.returned (some (.int r2)), bM B (mH B s) G, sz, 0)) (t5 : gm_to N0 K ra_nm (ra_mt K) d 126 [.int r2] (bM B (mH B s) G) sz (.returned (some (.int r4)), bM B (mH B s) G, sz, 0)) (c6 : r4 = 0) : gm_ev N0 K ra_nm (ra_mt K) d (some .boolean) (gm_I cX12_term) (gm_lkf (lkX12 false K)) 81 [some (.ref B), some (.int x1), none, some (.int x3)] [] (bM B (mH B s) G) sz sl (.returned (some (.int (0 : Int32))), (bM B (mH B s) G), sz, sl) := by
  refine gm_ev.iload_n i129_81 rfl ?_
  refine gm_ev.iconst (v := 3) i129_82 (by decide) ?_
  refine gm_ev.icmp_ge_f i129_83 c1 ?_
  refine gm_ev.aload_n i129_86 rfl ?_
  refine gm_ev.callV gm_mono_run (av := []) (r := []) (ci := 11) (fs := mF B s) (bM_get (j := 0) rfl) i129_87 rfl rfl rfl (Nat.le_of_ble_eq_true rfl) t3 ?_
  refine gm_ev.callS gm_mono_run (av := [.int r2]) (r := []) i129_90 rfl rfl rfl (Nat.le_of_ble_eq_true rfl) t5 ?_
  refine gm_ev.if_ne_f i129_93 c6 ?_
  refine gm_ev.iconst (v := 0) i129_96 (by decide) ?_
  exact gm_ev.zret i129_97 rfl (by decide)
theorem r_atom_0_tt {N0 : Nat} {K : Nat → Nat} {d B : Nat} {s : mS} {G : gm_H} {sz sl : Nat} {p0 : Int32} {r1 : Int32} {r3 : Int32} {r5 : Int32} {k8 : Nat} (hN : N0 ≤ B) (t2 : gm_to N0 K ra_nm (ra_mt K) d 123 [.ref B] (bM B (mH B s) G) sz (.returned (some (.int r1)), bM B (mH B s) G, sz, 0)) (t4 : gm_to N0 K ra_nm (ra_mt K) d 127 [.int r1] (bM B (mH B s) G) sz (.returned (some (.int r3)), bM B (mH B s) G, sz, 0)) (t6 : gm_to N0 K ra_nm (ra_mt K) d 124 [.int r1] (bM B (mH B s) G) sz (.returned (some (.int r5)), bM B (mH B s) G, sz, 0)) (c7 : ¬ r5 = 0) (ek8 : p0 = nI k8) (lk8 : k8 < 144) (c9 : r3 = 0) : gm_ev N0 K ra_nm (ra_mt K) d (some .boolean) (gm_I cX12_atom) (gm_lkf (lkX12 false K)) 0 [some (.ref B), some (.int p0), none, none, none] [] (bM B (mH B s) G) sz sl (.returned (some (.int (1 : Int32))), (bM B (mH B (mA (mI s 10 ((s.1 10) + (1 : Int32))) 14 (upd (s.2.1 14) k8 ((4 : Int32) * r1)))) G), sz, sl) := by
  refine gm_ev.aload_n i130_0 rfl ?_
  refine gm_ev.callV gm_mono_run (av := []) (r := []) (ci := 11) (fs := mF B s) (bM_get (j := 0) rfl) i130_1 rfl rfl rfl (Nat.le_of_ble_eq_true rfl) t2 ?_
  refine gm_ev.istore_n (ls' := [some (.ref B), some (.int p0), some (.int r1), none, none]) i130_4 (Nat.le_of_ble_eq_true rfl) rfl ?_
  refine gm_ev.iload_n i130_5 rfl ?_
  refine gm_ev.callS gm_mono_run (av := [.int r1]) (r := []) i130_6 rfl rfl rfl (Nat.le_of_ble_eq_true rfl) t4 ?_
  refine gm_ev.istore_n (ls' := [some (.ref B), some (.int p0), some (.int r1), some (.int r3), none]) i130_9 (Nat.le_of_ble_eq_true rfl) rfl ?_
  refine gm_ev.iload_n i130_10 rfl ?_
  refine gm_ev.callS gm_mono_run (av := [.int r1]) (r := []) i130_11 rfl rfl rfl (Nat.le_of_ble_eq_true rfl) t6 ?_
  refine gm_ev.if_ne_t (tgt := 23) i130_14 (by decide) c7 ?_
  refine gm_ev.aload_n i130_23 rfl ?_
  refine gm_ev.dup i130_24 rfl ?_
  refine gm_ev.getfield (v := .int (s.1 10)) i130_25 rfl (bM_fld (j := 0) (fs := mF B s) rfl rfl) ?_
  refine gm_ev.iconst (v := 1) i130_28 (by decide) ?_
  refine gm_ev.iadd i130_29 ?_
  refine gm_ev.putfield (M' := (bM B (mH B (mI s 10 ((s.1 10) + (1 : Int32)))) G)) i130_30 rfl (bM_put (j := 0) (fs := mF B s) rfl (Nat.le_of_ble_eq_true rfl) hN (gm_fit_i _) rfl) ?_
  refine gm_ev.aload_n i130_33 rfl ?_
  refine gm_ev.getfield (v := .ref (B + 6)) i130_34 rfl (bM_fld (j := 0) (fs := mF B (mI s 10 ((s.1 10) + (1 : Int32)))) rfl rfl) ?_
  refine gm_ev.iload_n i130_37 rfl ?_
  refine gm_ev.iconst (v := 4) i130_38 (by decide) ?_
  refine gm_ev.iload_n i130_39 rfl ?_
  refine gm_ev.imul i130_40 ?_
  refine gm_ev.iastore (M' := (bM B (mH B (mA (mI s 10 ((s.1 10) + (1 : Int32))) 14 (upd (s.2.1 14) k8 ((4 : Int32) * r1)))) G)) i130_41 (bM_asti (j := 6) (n := 144) (f := s.2.1 14) rfl ek8 lk8 (by decide) hN rfl) ?_
  refine gm_ev.iload_n i130_42 rfl ?_
  refine gm_ev.if_eq_t (tgt := 59) i130_43 (by decide) c9 ?_
  refine gm_ev.iconst (v := 1) i130_59 (by decide) ?_
  exact gm_ev.zret i130_60 rfl (by decide)
theorem r_atom_0_tftt_at75 {N0 : Nat} {K : Nat → Nat} {d B : Nat} {s : mS} {G : gm_H} {sz sl : Nat} {R : gm_R} {p0 : Int32} {r1 : Int32} {r3 : Int32} {r5 : Int32} {k8 : Nat} {r11 : Int32} {s13 : mS} (hN : N0 ≤ B) (t2 : gm_to N0 K ra_nm (ra_mt K) d 123 [.ref B] (bM B (mH B s) G) sz (.returned (some (.int r1)), bM B (mH B s) G, sz, 0)) (t4 : gm_to N0 K ra_nm (ra_mt K) d 127 [.int r1] (bM B (mH B s) G) sz (.returned (some (.int r3)), bM B (mH B s) G, sz, 0)) (t6 : gm_to N0 K ra_nm (ra_mt K) d 124 [.int r1] (bM B (mH B s) G) sz (.returned (some (.int r5)), bM B (mH B s) G, sz, 0)) (c7 : ¬ r5 = 0) (ek8 : p0 = nI k8) (lk8 : k8 < 144) (c9 : ¬ r3 = 0) (c10 : 0 ≤ r3) (t12 : gm_to N0 K ra_nm (ra_mt K) d 128 [.ref B, .int (40 : Int32)] (bM B (mH B (mA (mI s 10 ((s.1 10) + (1 : Int32))) 14 (upd (s.2.1 14) k8 ((4 : Int32) * r1)))) G) sz (.returned (some (.int r11)), bM B (mH B s13) G, sz, 0)) (c14 : ¬ r11 = 0) (k : gm_ev N0 K ra_nm (ra_mt K) d (some .boolean) (gm_I cX12_atom) (gm_lkf (lkX12 false K)) 75 [some (.ref B), some (.int p0), some (.int r1), some (.int r3), some (.int (1 : Int32))] [] (bM B (mH B s13) G) sz sl R) : gm_ev N0 K ra_nm (ra_mt K) d (some .boolean) (gm_I cX12_atom) (gm_lkf (lkX12 false K)) 0 [some (.ref B), some (.int p0), none, none, none] [] (bM B (mH B s) G) sz sl R := by
  refine gm_ev.aload_n i130_0 rfl ?_
  refine gm_ev.callV gm_mono_run (av := []) (r := []) (ci := 11) (fs := mF B s) (bM_get (j := 0) rfl) i130_1 rfl rfl rfl (Nat.le_of_ble_eq_true rfl) t2 ?_
  refine gm_ev.istore_n (ls' := [some (.ref B), some (.int p0), some (.int r1), none, none]) i130_4 (Nat.le_of_ble_eq_true rfl) rfl ?_
  refine gm_ev.iload_n i130_5 rfl ?_
  refine gm_ev.callS gm_mono_run (av := [.int r1]) (r := []) i130_6 rfl rfl rfl (Nat.le_of_ble_eq_true rfl) t4 ?_
  refine gm_ev.istore_n (ls' := [some (.ref B), some (.int p0), some (.int r1), some (.int r3), none]) i130_9 (Nat.le_of_ble_eq_true rfl) rfl ?_
  refine gm_ev.iload_n i130_10 rfl ?_
  refine gm_ev.callS gm_mono_run (av := [.int r1]) (r := []) i130_11 rfl rfl rfl (Nat.le_of_ble_eq_true rfl) t6 ?_
  refine gm_ev.if_ne_t (tgt := 23) i130_14 (by decide) c7 ?_
  refine gm_ev.aload_n i130_23 rfl ?_
  refine gm_ev.dup i130_24 rfl ?_
  refine gm_ev.getfield (v := .int (s.1 10)) i130_25 rfl (bM_fld (j := 0) (fs := mF B s) rfl rfl) ?_
  refine gm_ev.iconst (v := 1) i130_28 (by decide) ?_
  refine gm_ev.iadd i130_29 ?_
  refine gm_ev.putfield (M' := (bM B (mH B (mI s 10 ((s.1 10) + (1 : Int32)))) G)) i130_30 rfl (bM_put (j := 0) (fs := mF B s) rfl (Nat.le_of_ble_eq_true rfl) hN (gm_fit_i _) rfl) ?_
  refine gm_ev.aload_n i130_33 rfl ?_
  refine gm_ev.getfield (v := .ref (B + 6)) i130_34 rfl (bM_fld (j := 0) (fs := mF B (mI s 10 ((s.1 10) + (1 : Int32)))) rfl rfl) ?_
  refine gm_ev.iload_n i130_37 rfl ?_
  refine gm_ev.iconst (v := 4) i130_38 (by decide) ?_
  refine gm_ev.iload_n i130_39 rfl ?_
  refine gm_ev.imul i130_40 ?_
  refine gm_ev.iastore (M' := (bM B (mH B (mA (mI s 10 ((s.1 10) + (1 : Int32))) 14 (upd (s.2.1 14) k8 ((4 : Int32) * r1)))) G)) i130_41 (bM_asti (j := 6) (n := 144) (f := s.2.1 14) rfl ek8 lk8 (by decide) hN rfl) ?_
  refine gm_ev.iload_n i130_42 rfl ?_
  refine gm_ev.if_eq_f i130_43 c9 ?_
  refine gm_ev.iload_n i130_46 rfl ?_
  refine gm_ev.if_ge_t (tgt := 61) i130_47 (by decide) c10 ?_
  refine gm_ev.aload_n i130_61 rfl ?_
  refine gm_ev.bipush (v := 40) i130_62 (by decide) ?_
  refine gm_ev.callV gm_mono_run (av := [.int (40 : Int32)]) (r := []) (ci := 11) (fs := mF B (mA (mI s 10 ((s.1 10) + (1 : Int32))) 14 (upd (s.2.1 14) k8 ((4 : Int32) * r1)))) (bM_get (j := 0) rfl) i130_64 rfl rfl rfl (Nat.le_of_ble_eq_true rfl) t12 ?_
  refine gm_ev.if_ne_t (tgt := 72) i130_67 (by decide) c14 ?_
  refine gm_ev.iconst (v := 1) i130_72 (by decide) ?_
  refine gm_ev.istore (ls' := [some (.ref B), some (.int p0), some (.int r1), some (.int r3), some (.int (1 : Int32))]) i130_73 (Nat.le_of_ble_eq_true rfl) rfl ?_
  exact k
theorem r_atom_0_tftf {N0 : Nat} {K : Nat → Nat} {d B : Nat} {s : mS} {G : gm_H} {sz sl : Nat} {p0 : Int32} {r1 : Int32} {r3 : Int32} {r5 : Int32} {k8 : Nat} {r11 : Int32} {s13 : mS} (hN : N0 ≤ B) (t2 : gm_to N0 K ra_nm (ra_mt K) d 123 [.ref B] (bM B (mH B s) G) sz (.returned (some (.int r1)), bM B (mH B s) G, sz, 0)) (t4 : gm_to N0 K ra_nm (ra_mt K) d 127 [.int r1] (bM B (mH B s) G) sz (.returned (some (.int r3)), bM B (mH B s) G, sz, 0)) (t6 : gm_to N0 K ra_nm (ra_mt K) d 124 [.int r1] (bM B (mH B s) G) sz (.returned (some (.int r5)), bM B (mH B s) G, sz, 0)) (c7 : ¬ r5 = 0) (ek8 : p0 = nI k8) (lk8 : k8 < 144) (c9 : ¬ r3 = 0) (c10 : 0 ≤ r3) (t12 : gm_to N0 K ra_nm (ra_mt K) d 128 [.ref B, .int (40 : Int32)] (bM B (mH B (mA (mI s 10 ((s.1 10) + (1 : Int32))) 14 (upd (s.2.1 14) k8 ((4 : Int32) * r1)))) G) sz (.returned (some (.int r11)), bM B (mH B s13) G, sz, 0)) (c14 : r11 = 0) : gm_ev N0 K ra_nm (ra_mt K) d (some .boolean) (gm_I cX12_atom) (gm_lkf (lkX12 false K)) 0 [some (.ref B), some (.int p0), none, none, none] [] (bM B (mH B s) G) sz sl (.returned (some (.int (0 : Int32))), (bM B (mH B s13) G), sz, sl) := by
  refine gm_ev.aload_n i130_0 rfl ?_
  refine gm_ev.callV gm_mono_run (av := []) (r := []) (ci := 11) (fs := mF B s) (bM_get (j := 0) rfl) i130_1 rfl rfl rfl (Nat.le_of_ble_eq_true rfl) t2 ?_
  refine gm_ev.istore_n (ls' := [some (.ref B), some (.int p0), some (.int r1), none, none]) i130_4 (Nat.le_of_ble_eq_true rfl) rfl ?_
  refine gm_ev.iload_n i130_5 rfl ?_
  refine gm_ev.callS gm_mono_run (av := [.int r1]) (r := []) i130_6 rfl rfl rfl (Nat.le_of_ble_eq_true rfl) t4 ?_
  refine gm_ev.istore_n (ls' := [some (.ref B), some (.int p0), some (.int r1), some (.int r3), none]) i130_9 (Nat.le_of_ble_eq_true rfl) rfl ?_
  refine gm_ev.iload_n i130_10 rfl ?_
  refine gm_ev.callS gm_mono_run (av := [.int r1]) (r := []) i130_11 rfl rfl rfl (Nat.le_of_ble_eq_true rfl) t6 ?_
  refine gm_ev.if_ne_t (tgt := 23) i130_14 (by decide) c7 ?_
  refine gm_ev.aload_n i130_23 rfl ?_
  refine gm_ev.dup i130_24 rfl ?_
  refine gm_ev.getfield (v := .int (s.1 10)) i130_25 rfl (bM_fld (j := 0) (fs := mF B s) rfl rfl) ?_
  refine gm_ev.iconst (v := 1) i130_28 (by decide) ?_
  refine gm_ev.iadd i130_29 ?_
  refine gm_ev.putfield (M' := (bM B (mH B (mI s 10 ((s.1 10) + (1 : Int32)))) G)) i130_30 rfl (bM_put (j := 0) (fs := mF B s) rfl (Nat.le_of_ble_eq_true rfl) hN (gm_fit_i _) rfl) ?_
  refine gm_ev.aload_n i130_33 rfl ?_
  refine gm_ev.getfield (v := .ref (B + 6)) i130_34 rfl (bM_fld (j := 0) (fs := mF B (mI s 10 ((s.1 10) + (1 : Int32)))) rfl rfl) ?_
  refine gm_ev.iload_n i130_37 rfl ?_
  refine gm_ev.iconst (v := 4) i130_38 (by decide) ?_
  refine gm_ev.iload_n i130_39 rfl ?_
  refine gm_ev.imul i130_40 ?_
  refine gm_ev.iastore (M' := (bM B (mH B (mA (mI s 10 ((s.1 10) + (1 : Int32))) 14 (upd (s.2.1 14) k8 ((4 : Int32) * r1)))) G)) i130_41 (bM_asti (j := 6) (n := 144) (f := s.2.1 14) rfl ek8 lk8 (by decide) hN rfl) ?_
  refine gm_ev.iload_n i130_42 rfl ?_
  refine gm_ev.if_eq_f i130_43 c9 ?_
  refine gm_ev.iload_n i130_46 rfl ?_
  refine gm_ev.if_ge_t (tgt := 61) i130_47 (by decide) c10 ?_
  refine gm_ev.aload_n i130_61 rfl ?_
  refine gm_ev.bipush (v := 40) i130_62 (by decide) ?_
  refine gm_ev.callV gm_mono_run (av := [.int (40 : Int32)]) (r := []) (ci := 11) (fs := mF B (mA (mI s 10 ((s.1 10) + (1 : Int32))) 14 (upd (s.2.1 14) k8 ((4 : Int32) * r1)))) (bM_get (j := 0) rfl) i130_64 rfl rfl rfl (Nat.le_of_ble_eq_true rfl) t12 ?_
  refine gm_ev.if_ne_f i130_67 c14 ?_
  refine gm_ev.iconst (v := 0) i130_70 (by decide) ?_
  exact gm_ev.zret i130_71 rfl (by decide)
theorem r_atom_0_tfftt_at75 {N0 : Nat} {K : Nat → Nat} {d B : Nat} {s : mS} {G : gm_H} {sz sl : Nat} {R : gm_R} {p0 : Int32} {r1 : Int32} {r3 : Int32} {r5 : Int32} {k8 : Nat} {r11 : Int32} {r14 : Int32} {s16 : mS} (hN : N0 ≤ B) (t2 : gm_to N0 K ra_nm (ra_mt K) d 123 [.ref B] (bM B (mH B s) G) sz (.returned (some (.int r1)), bM B (mH B s) G, sz, 0)) (t4 : gm_to N0 K ra_nm (ra_mt K) d 127 [.int r1] (bM B (mH B s) G) sz (.returned (some (.int r3)), bM B (mH B s) G, sz, 0)) (t6 : gm_to N0 K ra_nm (ra_mt K) d 124 [.int r1] (bM B (mH B s) G) sz (.returned (some (.int r5)), bM B (mH B s) G, sz, 0)) (c7 : ¬ r5 = 0) (ek8 : p0 = nI k8) (lk8 : k8 < 144) (c9 : ¬ r3 = 0) (c10 : ¬ 0 ≤ r3) (t12 : gm_to N0 K ra_nm (ra_mt K) d 123 [.ref B] (bM B (mH B (mA (mI s 10 ((s.1 10) + (1 : Int32))) 14 (upd (s.2.1 14) k8 ((4 : Int32) * r1)))) G) sz (.returned (some (.int r11)), bM B (mH B (mA (mI s 10 ((s.1 10) + (1 : Int32))) 14 (upd (s.2.1 14) k8 ((4 : Int32) * r1)))) G, sz, 0)) (c13 : r11 = (40 : Int32)) (t15 : gm_to N0 K ra_nm (ra_mt K) d 128 [.ref B, .int (40 : Int32)] (bM B (mH B (mA (mI s 10 ((s.1 10) + (1 : Int32))) 14 (upd (s.2.1 14) k8 ((4 : Int32) * r1)))) G) sz (.returned (some (.int r14)), bM B (mH B s16) G, sz, 0)) (c17 : ¬ r14 = 0) (k : gm_ev N0 K ra_nm (ra_mt K) d (some .boolean) (gm_I cX12_atom) (gm_lkf (lkX12 false K)) 75 [some (.ref B), some (.int p0), some (.int r1), some (.int r3), some (.int (1 : Int32))] [] (bM B (mH B s16) G) sz sl R) : gm_ev N0 K ra_nm (ra_mt K) d (some .boolean) (gm_I cX12_atom) (gm_lkf (lkX12 false K)) 0 [some (.ref B), some (.int p0), none, none, none] [] (bM B (mH B s) G) sz sl R := by
  refine gm_ev.aload_n i130_0 rfl ?_
  refine gm_ev.callV gm_mono_run (av := []) (r := []) (ci := 11) (fs := mF B s) (bM_get (j := 0) rfl) i130_1 rfl rfl rfl (Nat.le_of_ble_eq_true rfl) t2 ?_
  refine gm_ev.istore_n (ls' := [some (.ref B), some (.int p0), some (.int r1), none, none]) i130_4 (Nat.le_of_ble_eq_true rfl) rfl ?_
  refine gm_ev.iload_n i130_5 rfl ?_
  refine gm_ev.callS gm_mono_run (av := [.int r1]) (r := []) i130_6 rfl rfl rfl (Nat.le_of_ble_eq_true rfl) t4 ?_
  refine gm_ev.istore_n (ls' := [some (.ref B), some (.int p0), some (.int r1), some (.int r3), none]) i130_9 (Nat.le_of_ble_eq_true rfl) rfl ?_
  refine gm_ev.iload_n i130_10 rfl ?_
  refine gm_ev.callS gm_mono_run (av := [.int r1]) (r := []) i130_11 rfl rfl rfl (Nat.le_of_ble_eq_true rfl) t6 ?_
  refine gm_ev.if_ne_t (tgt := 23) i130_14 (by decide) c7 ?_
  refine gm_ev.aload_n i130_23 rfl ?_
  refine gm_ev.dup i130_24 rfl ?_
  refine gm_ev.getfield (v := .int (s.1 10)) i130_25 rfl (bM_fld (j := 0) (fs := mF B s) rfl rfl) ?_
  refine gm_ev.iconst (v := 1) i130_28 (by decide) ?_
  refine gm_ev.iadd i130_29 ?_
  refine gm_ev.putfield (M' := (bM B (mH B (mI s 10 ((s.1 10) + (1 : Int32)))) G)) i130_30 rfl (bM_put (j := 0) (fs := mF B s) rfl (Nat.le_of_ble_eq_true rfl) hN (gm_fit_i _) rfl) ?_
  refine gm_ev.aload_n i130_33 rfl ?_
  refine gm_ev.getfield (v := .ref (B + 6)) i130_34 rfl (bM_fld (j := 0) (fs := mF B (mI s 10 ((s.1 10) + (1 : Int32)))) rfl rfl) ?_
  refine gm_ev.iload_n i130_37 rfl ?_
  refine gm_ev.iconst (v := 4) i130_38 (by decide) ?_
  refine gm_ev.iload_n i130_39 rfl ?_
  refine gm_ev.imul i130_40 ?_
  refine gm_ev.iastore (M' := (bM B (mH B (mA (mI s 10 ((s.1 10) + (1 : Int32))) 14 (upd (s.2.1 14) k8 ((4 : Int32) * r1)))) G)) i130_41 (bM_asti (j := 6) (n := 144) (f := s.2.1 14) rfl ek8 lk8 (by decide) hN rfl) ?_
  refine gm_ev.iload_n i130_42 rfl ?_
  refine gm_ev.if_eq_f i130_43 c9 ?_
  refine gm_ev.iload_n i130_46 rfl ?_
  refine gm_ev.if_ge_f i130_47 c10 ?_
  refine gm_ev.aload_n i130_50 rfl ?_
  refine gm_ev.callV gm_mono_run (av := []) (r := []) (ci := 11) (fs := mF B (mA (mI s 10 ((s.1 10) + (1 : Int32))) 14 (upd (s.2.1 14) k8 ((4 : Int32) * r1)))) (bM_get (j := 0) rfl) i130_51 rfl rfl rfl (Nat.le_of_ble_eq_true rfl) t12 ?_
  refine gm_ev.bipush (v := 40) i130_54 (by decide) ?_
  refine gm_ev.icmp_eq_t (tgt := 61) i130_56 (by decide) c13 ?_
  refine gm_ev.aload_n i130_61 rfl ?_
  refine gm_ev.bipush (v := 40) i130_62 (by decide) ?_
  refine gm_ev.callV gm_mono_run (av := [.int (40 : Int32)]) (r := []) (ci := 11) (fs := mF B (mA (mI s 10 ((s.1 10) + (1 : Int32))) 14 (upd (s.2.1 14) k8 ((4 : Int32) * r1)))) (bM_get (j := 0) rfl) i130_64 rfl rfl rfl (Nat.le_of_ble_eq_true rfl) t15 ?_
  refine gm_ev.if_ne_t (tgt := 72) i130_67 (by decide) c17 ?_
  refine gm_ev.iconst (v := 1) i130_72 (by decide) ?_
  refine gm_ev.istore (ls' := [some (.ref B), some (.int p0), some (.int r1), some (.int r3), some (.int (1 : Int32))]) i130_73 (Nat.le_of_ble_eq_true rfl) rfl ?_
  exact k
theorem r_atom_0_tfftf {N0 : Nat} {K : Nat → Nat} {d B : Nat} {s : mS} {G : gm_H} {sz sl : Nat} {p0 : Int32} {r1 : Int32} {r3 : Int32} {r5 : Int32} {k8 : Nat} {r11 : Int32} {r14 : Int32} {s16 : mS} (hN : N0 ≤ B) (t2 : gm_to N0 K ra_nm (ra_mt K) d 123 [.ref B] (bM B (mH B s) G) sz (.returned (some (.int r1)), bM B (mH B s) G, sz, 0)) (t4 : gm_to N0 K ra_nm (ra_mt K) d 127 [.int r1] (bM B (mH B s) G) sz (.returned (some (.int r3)), bM B (mH B s) G, sz, 0)) (t6 : gm_to N0 K ra_nm (ra_mt K) d 124 [.int r1] (bM B (mH B s) G) sz (.returned (some (.int r5)), bM B (mH B s) G, sz, 0)) (c7 : ¬ r5 = 0) (ek8 : p0 = nI k8) (lk8 : k8 < 144) (c9 : ¬ r3 = 0) (c10 : ¬ 0 ≤ r3) (t12 : gm_to N0 K ra_nm (ra_mt K) d 123 [.ref B] (bM B (mH B (mA (mI s 10 ((s.1 10) + (1 : Int32))) 14 (upd (s.2.1 14) k8 ((4 : Int32) * r1)))) G) sz (.returned (some (.int r11)), bM B (mH B (mA (mI s 10 ((s.1 10) + (1 : Int32))) 14 (upd (s.2.1 14) k8 ((4 : Int32) * r1)))) G, sz, 0)) (c13 : r11 = (40 : Int32)) (t15 : gm_to N0 K ra_nm (ra_mt K) d 128 [.ref B, .int (40 : Int32)] (bM B (mH B (mA (mI s 10 ((s.1 10) + (1 : Int32))) 14 (upd (s.2.1 14) k8 ((4 : Int32) * r1)))) G) sz (.returned (some (.int r14)), bM B (mH B s16) G, sz, 0)) (c17 : r14 = 0) : gm_ev N0 K ra_nm (ra_mt K) d (some .boolean) (gm_I cX12_atom) (gm_lkf (lkX12 false K)) 0 [some (.ref B), some (.int p0), none, none, none] [] (bM B (mH B s) G) sz sl (.returned (some (.int (0 : Int32))), (bM B (mH B s16) G), sz, sl) := by
  refine gm_ev.aload_n i130_0 rfl ?_
  refine gm_ev.callV gm_mono_run (av := []) (r := []) (ci := 11) (fs := mF B s) (bM_get (j := 0) rfl) i130_1 rfl rfl rfl (Nat.le_of_ble_eq_true rfl) t2 ?_
  refine gm_ev.istore_n (ls' := [some (.ref B), some (.int p0), some (.int r1), none, none]) i130_4 (Nat.le_of_ble_eq_true rfl) rfl ?_
  refine gm_ev.iload_n i130_5 rfl ?_
  refine gm_ev.callS gm_mono_run (av := [.int r1]) (r := []) i130_6 rfl rfl rfl (Nat.le_of_ble_eq_true rfl) t4 ?_
  refine gm_ev.istore_n (ls' := [some (.ref B), some (.int p0), some (.int r1), some (.int r3), none]) i130_9 (Nat.le_of_ble_eq_true rfl) rfl ?_
  refine gm_ev.iload_n i130_10 rfl ?_
  refine gm_ev.callS gm_mono_run (av := [.int r1]) (r := []) i130_11 rfl rfl rfl (Nat.le_of_ble_eq_true rfl) t6 ?_
  refine gm_ev.if_ne_t (tgt := 23) i130_14 (by decide) c7 ?_
  refine gm_ev.aload_n i130_23 rfl ?_
  refine gm_ev.dup i130_24 rfl ?_
  refine gm_ev.getfield (v := .int (s.1 10)) i130_25 rfl (bM_fld (j := 0) (fs := mF B s) rfl rfl) ?_
  refine gm_ev.iconst (v := 1) i130_28 (by decide) ?_
  refine gm_ev.iadd i130_29 ?_
  refine gm_ev.putfield (M' := (bM B (mH B (mI s 10 ((s.1 10) + (1 : Int32)))) G)) i130_30 rfl (bM_put (j := 0) (fs := mF B s) rfl (Nat.le_of_ble_eq_true rfl) hN (gm_fit_i _) rfl) ?_
  refine gm_ev.aload_n i130_33 rfl ?_
  refine gm_ev.getfield (v := .ref (B + 6)) i130_34 rfl (bM_fld (j := 0) (fs := mF B (mI s 10 ((s.1 10) + (1 : Int32)))) rfl rfl) ?_
  refine gm_ev.iload_n i130_37 rfl ?_
  refine gm_ev.iconst (v := 4) i130_38 (by decide) ?_
  refine gm_ev.iload_n i130_39 rfl ?_
  refine gm_ev.imul i130_40 ?_
  refine gm_ev.iastore (M' := (bM B (mH B (mA (mI s 10 ((s.1 10) + (1 : Int32))) 14 (upd (s.2.1 14) k8 ((4 : Int32) * r1)))) G)) i130_41 (bM_asti (j := 6) (n := 144) (f := s.2.1 14) rfl ek8 lk8 (by decide) hN rfl) ?_
  refine gm_ev.iload_n i130_42 rfl ?_
  refine gm_ev.if_eq_f i130_43 c9 ?_
  refine gm_ev.iload_n i130_46 rfl ?_
  refine gm_ev.if_ge_f i130_47 c10 ?_
  refine gm_ev.aload_n i130_50 rfl ?_
  refine gm_ev.callV gm_mono_run (av := []) (r := []) (ci := 11) (fs := mF B (mA (mI s 10 ((s.1 10) + (1 : Int32))) 14 (upd (s.2.1 14) k8 ((4 : Int32) * r1)))) (bM_get (j := 0) rfl) i130_51 rfl rfl rfl (Nat.le_of_ble_eq_true rfl) t12 ?_
  refine gm_ev.bipush (v := 40) i130_54 (by decide) ?_
  refine gm_ev.icmp_eq_t (tgt := 61) i130_56 (by decide) c13 ?_
  refine gm_ev.aload_n i130_61 rfl ?_
  refine gm_ev.bipush (v := 40) i130_62 (by decide) ?_
  refine gm_ev.callV gm_mono_run (av := [.int (40 : Int32)]) (r := []) (ci := 11) (fs := mF B (mA (mI s 10 ((s.1 10) + (1 : Int32))) 14 (upd (s.2.1 14) k8 ((4 : Int32) * r1)))) (bM_get (j := 0) rfl) i130_64 rfl rfl rfl (Nat.le_of_ble_eq_true rfl) t15 ?_
  refine gm_ev.if_ne_f i130_67 c17 ?_
  refine gm_ev.iconst (v := 0) i130_70 (by decide) ?_
  exact gm_ev.zret i130_71 rfl (by decide)
theorem r_atom_0_tfff {N0 : Nat} {K : Nat → Nat} {d B : Nat} {s : mS} {G : gm_H} {sz sl : Nat} {p0 : Int32} {r1 : Int32} {r3 : Int32} {r5 : Int32} {k8 : Nat} {r11 : Int32} (hN : N0 ≤ B) (t2 : gm_to N0 K ra_nm (ra_mt K) d 123 [.ref B] (bM B (mH B s) G) sz (.returned (some (.int r1)), bM B (mH B s) G, sz, 0)) (t4 : gm_to N0 K ra_nm (ra_mt K) d 127 [.int r1] (bM B (mH B s) G) sz (.returned (some (.int r3)), bM B (mH B s) G, sz, 0)) (t6 : gm_to N0 K ra_nm (ra_mt K) d 124 [.int r1] (bM B (mH B s) G) sz (.returned (some (.int r5)), bM B (mH B s) G, sz, 0)) (c7 : ¬ r5 = 0) (ek8 : p0 = nI k8) (lk8 : k8 < 144) (c9 : ¬ r3 = 0) (c10 : ¬ 0 ≤ r3) (t12 : gm_to N0 K ra_nm (ra_mt K) d 123 [.ref B] (bM B (mH B (mA (mI s 10 ((s.1 10) + (1 : Int32))) 14 (upd (s.2.1 14) k8 ((4 : Int32) * r1)))) G) sz (.returned (some (.int r11)), bM B (mH B (mA (mI s 10 ((s.1 10) + (1 : Int32))) 14 (upd (s.2.1 14) k8 ((4 : Int32) * r1)))) G, sz, 0)) (c13 : ¬ r11 = (40 : Int32)) : gm_ev N0 K ra_nm (ra_mt K) d (some .boolean) (gm_I cX12_atom) (gm_lkf (lkX12 false K)) 0 [some (.ref B), some (.int p0), none, none, none] [] (bM B (mH B s) G) sz sl (.returned (some (.int (1 : Int32))), (bM B (mH B (mA (mI s 10 ((s.1 10) + (1 : Int32))) 14 (upd (s.2.1 14) k8 ((4 : Int32) * r1)))) G), sz, sl) := by
  refine gm_ev.aload_n i130_0 rfl ?_
  refine gm_ev.callV gm_mono_run (av := []) (r := []) (ci := 11) (fs := mF B s) (bM_get (j := 0) rfl) i130_1 rfl rfl rfl (Nat.le_of_ble_eq_true rfl) t2 ?_
  refine gm_ev.istore_n (ls' := [some (.ref B), some (.int p0), some (.int r1), none, none]) i130_4 (Nat.le_of_ble_eq_true rfl) rfl ?_
  refine gm_ev.iload_n i130_5 rfl ?_
  refine gm_ev.callS gm_mono_run (av := [.int r1]) (r := []) i130_6 rfl rfl rfl (Nat.le_of_ble_eq_true rfl) t4 ?_
  refine gm_ev.istore_n (ls' := [some (.ref B), some (.int p0), some (.int r1), some (.int r3), none]) i130_9 (Nat.le_of_ble_eq_true rfl) rfl ?_
  refine gm_ev.iload_n i130_10 rfl ?_
  refine gm_ev.callS gm_mono_run (av := [.int r1]) (r := []) i130_11 rfl rfl rfl (Nat.le_of_ble_eq_true rfl) t6 ?_
  refine gm_ev.if_ne_t (tgt := 23) i130_14 (by decide) c7 ?_
  refine gm_ev.aload_n i130_23 rfl ?_
  refine gm_ev.dup i130_24 rfl ?_
  refine gm_ev.getfield (v := .int (s.1 10)) i130_25 rfl (bM_fld (j := 0) (fs := mF B s) rfl rfl) ?_
  refine gm_ev.iconst (v := 1) i130_28 (by decide) ?_
  refine gm_ev.iadd i130_29 ?_
  refine gm_ev.putfield (M' := (bM B (mH B (mI s 10 ((s.1 10) + (1 : Int32)))) G)) i130_30 rfl (bM_put (j := 0) (fs := mF B s) rfl (Nat.le_of_ble_eq_true rfl) hN (gm_fit_i _) rfl) ?_
  refine gm_ev.aload_n i130_33 rfl ?_
  refine gm_ev.getfield (v := .ref (B + 6)) i130_34 rfl (bM_fld (j := 0) (fs := mF B (mI s 10 ((s.1 10) + (1 : Int32)))) rfl rfl) ?_
  refine gm_ev.iload_n i130_37 rfl ?_
  refine gm_ev.iconst (v := 4) i130_38 (by decide) ?_
  refine gm_ev.iload_n i130_39 rfl ?_
  refine gm_ev.imul i130_40 ?_
  refine gm_ev.iastore (M' := (bM B (mH B (mA (mI s 10 ((s.1 10) + (1 : Int32))) 14 (upd (s.2.1 14) k8 ((4 : Int32) * r1)))) G)) i130_41 (bM_asti (j := 6) (n := 144) (f := s.2.1 14) rfl ek8 lk8 (by decide) hN rfl) ?_
  refine gm_ev.iload_n i130_42 rfl ?_
  refine gm_ev.if_eq_f i130_43 c9 ?_
  refine gm_ev.iload_n i130_46 rfl ?_
  refine gm_ev.if_ge_f i130_47 c10 ?_
  refine gm_ev.aload_n i130_50 rfl ?_
  refine gm_ev.callV gm_mono_run (av := []) (r := []) (ci := 11) (fs := mF B (mA (mI s 10 ((s.1 10) + (1 : Int32))) 14 (upd (s.2.1 14) k8 ((4 : Int32) * r1)))) (bM_get (j := 0) rfl) i130_51 rfl rfl rfl (Nat.le_of_ble_eq_true rfl) t12 ?_
  refine gm_ev.bipush (v := 40) i130_54 (by decide) ?_
  refine gm_ev.icmp_eq_f i130_56 c13 ?_
  refine gm_ev.iconst (v := 1) i130_59 (by decide) ?_
  exact gm_ev.zret i130_60 rfl (by decide)
theorem r_atom_0_ftt {N0 : Nat} {K : Nat → Nat} {d B : Nat} {s : mS} {G : gm_H} {sz sl : Nat} {p0 : Int32} {r1 : Int32} {r3 : Int32} {r5 : Int32} {k9 : Nat} (hN : N0 ≤ B) (t2 : gm_to N0 K ra_nm (ra_mt K) d 123 [.ref B] (bM B (mH B s) G) sz (.returned (some (.int r1)), bM B (mH B s) G, sz, 0)) (t4 : gm_to N0 K ra_nm (ra_mt K) d 127 [.int r1] (bM B (mH B s) G) sz (.returned (some (.int r3)), bM B (mH B s) G, sz, 0)) (t6 : gm_to N0 K ra_nm (ra_mt K) d 124 [.int r1] (bM B (mH B s) G) sz (.returned (some (.int r5)), bM B (mH B s) G, sz, 0)) (c7 : r5 = 0) (c8 : 0 ≤ r3) (ek9 : p0 = nI k9) (lk9 : k9 < 144) (c10 : r3 = 0) : gm_ev N0 K ra_nm (ra_mt K) d (some .boolean) (gm_I cX12_atom) (gm_lkf (lkX12 false K)) 0 [some (.ref B), some (.int p0), none, none, none] [] (bM B (mH B s) G) sz sl (.returned (some (.int (1 : Int32))), (bM B (mH B (mA (mI s 10 ((s.1 10) + (1 : Int32))) 14 (upd (s.2.1 14) k9 ((4 : Int32) * r1)))) G), sz, sl) := by
  refine gm_ev.aload_n i130_0 rfl ?_
  refine gm_ev.callV gm_mono_run (av := []) (r := []) (ci := 11) (fs := mF B s) (bM_get (j := 0) rfl) i130_1 rfl rfl rfl (Nat.le_of_ble_eq_true rfl) t2 ?_
  refine gm_ev.istore_n (ls' := [some (.ref B), some (.int p0), some (.int r1), none, none]) i130_4 (Nat.le_of_ble_eq_true rfl) rfl ?_
  refine gm_ev.iload_n i130_5 rfl ?_
  refine gm_ev.callS gm_mono_run (av := [.int r1]) (r := []) i130_6 rfl rfl rfl (Nat.le_of_ble_eq_true rfl) t4 ?_
  refine gm_ev.istore_n (ls' := [some (.ref B), some (.int p0), some (.int r1), some (.int r3), none]) i130_9 (Nat.le_of_ble_eq_true rfl) rfl ?_
  refine gm_ev.iload_n i130_10 rfl ?_
  refine gm_ev.callS gm_mono_run (av := [.int r1]) (r := []) i130_11 rfl rfl rfl (Nat.le_of_ble_eq_true rfl) t6 ?_
  refine gm_ev.if_ne_f i130_14 c7 ?_
  refine gm_ev.iload_n i130_17 rfl ?_
  refine gm_ev.if_ge_t (tgt := 23) i130_18 (by decide) c8 ?_
  refine gm_ev.aload_n i130_23 rfl ?_
  refine gm_ev.dup i130_24 rfl ?_
  refine gm_ev.getfield (v := .int (s.1 10)) i130_25 rfl (bM_fld (j := 0) (fs := mF B s) rfl rfl) ?_
  refine gm_ev.iconst (v := 1) i130_28 (by decide) ?_
  refine gm_ev.iadd i130_29 ?_
  refine gm_ev.putfield (M' := (bM B (mH B (mI s 10 ((s.1 10) + (1 : Int32)))) G)) i130_30 rfl (bM_put (j := 0) (fs := mF B s) rfl (Nat.le_of_ble_eq_true rfl) hN (gm_fit_i _) rfl) ?_
  refine gm_ev.aload_n i130_33 rfl ?_
  refine gm_ev.getfield (v := .ref (B + 6)) i130_34 rfl (bM_fld (j := 0) (fs := mF B (mI s 10 ((s.1 10) + (1 : Int32)))) rfl rfl) ?_
  refine gm_ev.iload_n i130_37 rfl ?_
  refine gm_ev.iconst (v := 4) i130_38 (by decide) ?_
  refine gm_ev.iload_n i130_39 rfl ?_
  refine gm_ev.imul i130_40 ?_
  refine gm_ev.iastore (M' := (bM B (mH B (mA (mI s 10 ((s.1 10) + (1 : Int32))) 14 (upd (s.2.1 14) k9 ((4 : Int32) * r1)))) G)) i130_41 (bM_asti (j := 6) (n := 144) (f := s.2.1 14) rfl ek9 lk9 (by decide) hN rfl) ?_
  refine gm_ev.iload_n i130_42 rfl ?_
  refine gm_ev.if_eq_t (tgt := 59) i130_43 (by decide) c10 ?_
  refine gm_ev.iconst (v := 1) i130_59 (by decide) ?_
  exact gm_ev.zret i130_60 rfl (by decide)
theorem r_atom_0_ftftt_at75 {N0 : Nat} {K : Nat → Nat} {d B : Nat} {s : mS} {G : gm_H} {sz sl : Nat} {R : gm_R} {p0 : Int32} {r1 : Int32} {r3 : Int32} {r5 : Int32} {k9 : Nat} {r12 : Int32} {s14 : mS} (hN : N0 ≤ B) (t2 : gm_to N0 K ra_nm (ra_mt K) d 123 [.ref B] (bM B (mH B s) G) sz (.returned (some (.int r1)), bM B (mH B s) G, sz, 0)) (t4 : gm_to N0 K ra_nm (ra_mt K) d 127 [.int r1] (bM B (mH B s) G) sz (.returned (some (.int r3)), bM B (mH B s) G, sz, 0)) (t6 : gm_to N0 K ra_nm (ra_mt K) d 124 [.int r1] (bM B (mH B s) G) sz (.returned (some (.int r5)), bM B (mH B s) G, sz, 0)) (c7 : r5 = 0) (c8 : 0 ≤ r3) (ek9 : p0 = nI k9) (lk9 : k9 < 144) (c10 : ¬ r3 = 0) (c11 : 0 ≤ r3) (t13 : gm_to N0 K ra_nm (ra_mt K) d 128 [.ref B, .int (40 : Int32)] (bM B (mH B (mA (mI s 10 ((s.1 10) + (1 : Int32))) 14 (upd (s.2.1 14) k9 ((4 : Int32) * r1)))) G) sz (.returned (some (.int r12)), bM B (mH B s14) G, sz, 0)) (c15 : ¬ r12 = 0) (k : gm_ev N0 K ra_nm (ra_mt K) d (some .boolean) (gm_I cX12_atom) (gm_lkf (lkX12 false K)) 75 [some (.ref B), some (.int p0), some (.int r1), some (.int r3), some (.int (1 : Int32))] [] (bM B (mH B s14) G) sz sl R) : gm_ev N0 K ra_nm (ra_mt K) d (some .boolean) (gm_I cX12_atom) (gm_lkf (lkX12 false K)) 0 [some (.ref B), some (.int p0), none, none, none] [] (bM B (mH B s) G) sz sl R := by
  refine gm_ev.aload_n i130_0 rfl ?_
  refine gm_ev.callV gm_mono_run (av := []) (r := []) (ci := 11) (fs := mF B s) (bM_get (j := 0) rfl) i130_1 rfl rfl rfl (Nat.le_of_ble_eq_true rfl) t2 ?_
  refine gm_ev.istore_n (ls' := [some (.ref B), some (.int p0), some (.int r1), none, none]) i130_4 (Nat.le_of_ble_eq_true rfl) rfl ?_
  refine gm_ev.iload_n i130_5 rfl ?_
  refine gm_ev.callS gm_mono_run (av := [.int r1]) (r := []) i130_6 rfl rfl rfl (Nat.le_of_ble_eq_true rfl) t4 ?_
  refine gm_ev.istore_n (ls' := [some (.ref B), some (.int p0), some (.int r1), some (.int r3), none]) i130_9 (Nat.le_of_ble_eq_true rfl) rfl ?_
  refine gm_ev.iload_n i130_10 rfl ?_
  refine gm_ev.callS gm_mono_run (av := [.int r1]) (r := []) i130_11 rfl rfl rfl (Nat.le_of_ble_eq_true rfl) t6 ?_
  refine gm_ev.if_ne_f i130_14 c7 ?_
  refine gm_ev.iload_n i130_17 rfl ?_
  refine gm_ev.if_ge_t (tgt := 23) i130_18 (by decide) c8 ?_
  refine gm_ev.aload_n i130_23 rfl ?_
  refine gm_ev.dup i130_24 rfl ?_
  refine gm_ev.getfield (v := .int (s.1 10)) i130_25 rfl (bM_fld (j := 0) (fs := mF B s) rfl rfl) ?_
  refine gm_ev.iconst (v := 1) i130_28 (by decide) ?_
  refine gm_ev.iadd i130_29 ?_
  refine gm_ev.putfield (M' := (bM B (mH B (mI s 10 ((s.1 10) + (1 : Int32)))) G)) i130_30 rfl (bM_put (j := 0) (fs := mF B s) rfl (Nat.le_of_ble_eq_true rfl) hN (gm_fit_i _) rfl) ?_
  refine gm_ev.aload_n i130_33 rfl ?_
  refine gm_ev.getfield (v := .ref (B + 6)) i130_34 rfl (bM_fld (j := 0) (fs := mF B (mI s 10 ((s.1 10) + (1 : Int32)))) rfl rfl) ?_
  refine gm_ev.iload_n i130_37 rfl ?_
  refine gm_ev.iconst (v := 4) i130_38 (by decide) ?_
  refine gm_ev.iload_n i130_39 rfl ?_
  refine gm_ev.imul i130_40 ?_
  refine gm_ev.iastore (M' := (bM B (mH B (mA (mI s 10 ((s.1 10) + (1 : Int32))) 14 (upd (s.2.1 14) k9 ((4 : Int32) * r1)))) G)) i130_41 (bM_asti (j := 6) (n := 144) (f := s.2.1 14) rfl ek9 lk9 (by decide) hN rfl) ?_
  refine gm_ev.iload_n i130_42 rfl ?_
  refine gm_ev.if_eq_f i130_43 c10 ?_
  refine gm_ev.iload_n i130_46 rfl ?_
  refine gm_ev.if_ge_t (tgt := 61) i130_47 (by decide) c11 ?_
  refine gm_ev.aload_n i130_61 rfl ?_
  refine gm_ev.bipush (v := 40) i130_62 (by decide) ?_
  refine gm_ev.callV gm_mono_run (av := [.int (40 : Int32)]) (r := []) (ci := 11) (fs := mF B (mA (mI s 10 ((s.1 10) + (1 : Int32))) 14 (upd (s.2.1 14) k9 ((4 : Int32) * r1)))) (bM_get (j := 0) rfl) i130_64 rfl rfl rfl (Nat.le_of_ble_eq_true rfl) t13 ?_
  refine gm_ev.if_ne_t (tgt := 72) i130_67 (by decide) c15 ?_
  refine gm_ev.iconst (v := 1) i130_72 (by decide) ?_
  refine gm_ev.istore (ls' := [some (.ref B), some (.int p0), some (.int r1), some (.int r3), some (.int (1 : Int32))]) i130_73 (Nat.le_of_ble_eq_true rfl) rfl ?_
  exact k
theorem r_atom_0_ftftf {N0 : Nat} {K : Nat → Nat} {d B : Nat} {s : mS} {G : gm_H} {sz sl : Nat} {p0 : Int32} {r1 : Int32} {r3 : Int32} {r5 : Int32} {k9 : Nat} {r12 : Int32} {s14 : mS} (hN : N0 ≤ B) (t2 : gm_to N0 K ra_nm (ra_mt K) d 123 [.ref B] (bM B (mH B s) G) sz (.returned (some (.int r1)), bM B (mH B s) G, sz, 0)) (t4 : gm_to N0 K ra_nm (ra_mt K) d 127 [.int r1] (bM B (mH B s) G) sz (.returned (some (.int r3)), bM B (mH B s) G, sz, 0)) (t6 : gm_to N0 K ra_nm (ra_mt K) d 124 [.int r1] (bM B (mH B s) G) sz (.returned (some (.int r5)), bM B (mH B s) G, sz, 0)) (c7 : r5 = 0) (c8 : 0 ≤ r3) (ek9 : p0 = nI k9) (lk9 : k9 < 144) (c10 : ¬ r3 = 0) (c11 : 0 ≤ r3) (t13 : gm_to N0 K ra_nm (ra_mt K) d 128 [.ref B, .int (40 : Int32)] (bM B (mH B (mA (mI s 10 ((s.1 10) + (1 : Int32))) 14 (upd (s.2.1 14) k9 ((4 : Int32) * r1)))) G) sz (.returned (some (.int r12)), bM B (mH B s14) G, sz, 0)) (c15 : r12 = 0) : gm_ev N0 K ra_nm (ra_mt K) d (some .boolean) (gm_I cX12_atom) (gm_lkf (lkX12 false K)) 0 [some (.ref B), some (.int p0), none, none, none] [] (bM B (mH B s) G) sz sl (.returned (some (.int (0 : Int32))), (bM B (mH B s14) G), sz, sl) := by
  refine gm_ev.aload_n i130_0 rfl ?_
  refine gm_ev.callV gm_mono_run (av := []) (r := []) (ci := 11) (fs := mF B s) (bM_get (j := 0) rfl) i130_1 rfl rfl rfl (Nat.le_of_ble_eq_true rfl) t2 ?_
  refine gm_ev.istore_n (ls' := [some (.ref B), some (.int p0), some (.int r1), none, none]) i130_4 (Nat.le_of_ble_eq_true rfl) rfl ?_
  refine gm_ev.iload_n i130_5 rfl ?_
  refine gm_ev.callS gm_mono_run (av := [.int r1]) (r := []) i130_6 rfl rfl rfl (Nat.le_of_ble_eq_true rfl) t4 ?_
  refine gm_ev.istore_n (ls' := [some (.ref B), some (.int p0), some (.int r1), some (.int r3), none]) i130_9 (Nat.le_of_ble_eq_true rfl) rfl ?_
  refine gm_ev.iload_n i130_10 rfl ?_
  refine gm_ev.callS gm_mono_run (av := [.int r1]) (r := []) i130_11 rfl rfl rfl (Nat.le_of_ble_eq_true rfl) t6 ?_
  refine gm_ev.if_ne_f i130_14 c7 ?_
  refine gm_ev.iload_n i130_17 rfl ?_
  refine gm_ev.if_ge_t (tgt := 23) i130_18 (by decide) c8 ?_
  refine gm_ev.aload_n i130_23 rfl ?_
  refine gm_ev.dup i130_24 rfl ?_
  refine gm_ev.getfield (v := .int (s.1 10)) i130_25 rfl (bM_fld (j := 0) (fs := mF B s) rfl rfl) ?_
  refine gm_ev.iconst (v := 1) i130_28 (by decide) ?_
  refine gm_ev.iadd i130_29 ?_
  refine gm_ev.putfield (M' := (bM B (mH B (mI s 10 ((s.1 10) + (1 : Int32)))) G)) i130_30 rfl (bM_put (j := 0) (fs := mF B s) rfl (Nat.le_of_ble_eq_true rfl) hN (gm_fit_i _) rfl) ?_
  refine gm_ev.aload_n i130_33 rfl ?_
  refine gm_ev.getfield (v := .ref (B + 6)) i130_34 rfl (bM_fld (j := 0) (fs := mF B (mI s 10 ((s.1 10) + (1 : Int32)))) rfl rfl) ?_
  refine gm_ev.iload_n i130_37 rfl ?_
  refine gm_ev.iconst (v := 4) i130_38 (by decide) ?_
  refine gm_ev.iload_n i130_39 rfl ?_
  refine gm_ev.imul i130_40 ?_
  refine gm_ev.iastore (M' := (bM B (mH B (mA (mI s 10 ((s.1 10) + (1 : Int32))) 14 (upd (s.2.1 14) k9 ((4 : Int32) * r1)))) G)) i130_41 (bM_asti (j := 6) (n := 144) (f := s.2.1 14) rfl ek9 lk9 (by decide) hN rfl) ?_
  refine gm_ev.iload_n i130_42 rfl ?_
  refine gm_ev.if_eq_f i130_43 c10 ?_
  refine gm_ev.iload_n i130_46 rfl ?_
  refine gm_ev.if_ge_t (tgt := 61) i130_47 (by decide) c11 ?_
  refine gm_ev.aload_n i130_61 rfl ?_
  refine gm_ev.bipush (v := 40) i130_62 (by decide) ?_
  refine gm_ev.callV gm_mono_run (av := [.int (40 : Int32)]) (r := []) (ci := 11) (fs := mF B (mA (mI s 10 ((s.1 10) + (1 : Int32))) 14 (upd (s.2.1 14) k9 ((4 : Int32) * r1)))) (bM_get (j := 0) rfl) i130_64 rfl rfl rfl (Nat.le_of_ble_eq_true rfl) t13 ?_
  refine gm_ev.if_ne_f i130_67 c15 ?_
  refine gm_ev.iconst (v := 0) i130_70 (by decide) ?_
  exact gm_ev.zret i130_71 rfl (by decide)
theorem r_atom_0_ftfftt_at75 {N0 : Nat} {K : Nat → Nat} {d B : Nat} {s : mS} {G : gm_H} {sz sl : Nat} {R : gm_R} {p0 : Int32} {r1 : Int32} {r3 : Int32} {r5 : Int32} {k9 : Nat} {r12 : Int32} {r15 : Int32} {s17 : mS} (hN : N0 ≤ B) (t2 : gm_to N0 K ra_nm (ra_mt K) d 123 [.ref B] (bM B (mH B s) G) sz (.returned (some (.int r1)), bM B (mH B s) G, sz, 0)) (t4 : gm_to N0 K ra_nm (ra_mt K) d 127 [.int r1] (bM B (mH B s) G) sz (.returned (some (.int r3)), bM B (mH B s) G, sz, 0)) (t6 : gm_to N0 K ra_nm (ra_mt K) d 124 [.int r1] (bM B (mH B s) G) sz (.returned (some (.int r5)), bM B (mH B s) G, sz, 0)) (c7 : r5 = 0) (c8 : 0 ≤ r3) (ek9 : p0 = nI k9) (lk9 : k9 < 144) (c10 : ¬ r3 = 0) (c11 : ¬ 0 ≤ r3) (t13 : gm_to N0 K ra_nm (ra_mt K) d 123 [.ref B] (bM B (mH B (mA (mI s 10 ((s.1 10) + (1 : Int32))) 14 (upd (s.2.1 14) k9 ((4 : Int32) * r1)))) G) sz (.returned (some (.int r12)), bM B (mH B (mA (mI s 10 ((s.1 10) + (1 : Int32))) 14 (upd (s.2.1 14) k9 ((4 : Int32) * r1)))) G, sz, 0)) (c14 : r12 = (40 : Int32)) (t16 : gm_to N0 K ra_nm (ra_mt K) d 128 [.ref B, .int (40 : Int32)] (bM B (mH B (mA (mI s 10 ((s.1 10) + (1 : Int32))) 14 (upd (s.2.1 14) k9 ((4 : Int32) * r1)))) G) sz (.returned (some (.int r15)), bM B (mH B s17) G, sz, 0)) (c18 : ¬ r15 = 0) (k : gm_ev N0 K ra_nm (ra_mt K) d (some .boolean) (gm_I cX12_atom) (gm_lkf (lkX12 false K)) 75 [some (.ref B), some (.int p0), some (.int r1), some (.int r3), some (.int (1 : Int32))] [] (bM B (mH B s17) G) sz sl R) : gm_ev N0 K ra_nm (ra_mt K) d (some .boolean) (gm_I cX12_atom) (gm_lkf (lkX12 false K)) 0 [some (.ref B), some (.int p0), none, none, none] [] (bM B (mH B s) G) sz sl R := by
  refine gm_ev.aload_n i130_0 rfl ?_
  refine gm_ev.callV gm_mono_run (av := []) (r := []) (ci := 11) (fs := mF B s) (bM_get (j := 0) rfl) i130_1 rfl rfl rfl (Nat.le_of_ble_eq_true rfl) t2 ?_
  refine gm_ev.istore_n (ls' := [some (.ref B), some (.int p0), some (.int r1), none, none]) i130_4 (Nat.le_of_ble_eq_true rfl) rfl ?_
  refine gm_ev.iload_n i130_5 rfl ?_
  refine gm_ev.callS gm_mono_run (av := [.int r1]) (r := []) i130_6 rfl rfl rfl (Nat.le_of_ble_eq_true rfl) t4 ?_
  refine gm_ev.istore_n (ls' := [some (.ref B), some (.int p0), some (.int r1), some (.int r3), none]) i130_9 (Nat.le_of_ble_eq_true rfl) rfl ?_
  refine gm_ev.iload_n i130_10 rfl ?_
  refine gm_ev.callS gm_mono_run (av := [.int r1]) (r := []) i130_11 rfl rfl rfl (Nat.le_of_ble_eq_true rfl) t6 ?_
  refine gm_ev.if_ne_f i130_14 c7 ?_
  refine gm_ev.iload_n i130_17 rfl ?_
  refine gm_ev.if_ge_t (tgt := 23) i130_18 (by decide) c8 ?_
  refine gm_ev.aload_n i130_23 rfl ?_
  refine gm_ev.dup i130_24 rfl ?_
  refine gm_ev.getfield (v := .int (s.1 10)) i130_25 rfl (bM_fld (j := 0) (fs := mF B s) rfl rfl) ?_
  refine gm_ev.iconst (v := 1) i130_28 (by decide) ?_
  refine gm_ev.iadd i130_29 ?_
  refine gm_ev.putfield (M' := (bM B (mH B (mI s 10 ((s.1 10) + (1 : Int32)))) G)) i130_30 rfl (bM_put (j := 0) (fs := mF B s) rfl (Nat.le_of_ble_eq_true rfl) hN (gm_fit_i _) rfl) ?_
  refine gm_ev.aload_n i130_33 rfl ?_
  refine gm_ev.getfield (v := .ref (B + 6)) i130_34 rfl (bM_fld (j := 0) (fs := mF B (mI s 10 ((s.1 10) + (1 : Int32)))) rfl rfl) ?_
  refine gm_ev.iload_n i130_37 rfl ?_
  refine gm_ev.iconst (v := 4) i130_38 (by decide) ?_
  refine gm_ev.iload_n i130_39 rfl ?_
  refine gm_ev.imul i130_40 ?_
  refine gm_ev.iastore (M' := (bM B (mH B (mA (mI s 10 ((s.1 10) + (1 : Int32))) 14 (upd (s.2.1 14) k9 ((4 : Int32) * r1)))) G)) i130_41 (bM_asti (j := 6) (n := 144) (f := s.2.1 14) rfl ek9 lk9 (by decide) hN rfl) ?_
  refine gm_ev.iload_n i130_42 rfl ?_
  refine gm_ev.if_eq_f i130_43 c10 ?_
  refine gm_ev.iload_n i130_46 rfl ?_
  refine gm_ev.if_ge_f i130_47 c11 ?_
  refine gm_ev.aload_n i130_50 rfl ?_
  refine gm_ev.callV gm_mono_run (av := []) (r := []) (ci := 11) (fs := mF B (mA (mI s 10 ((s.1 10) + (1 : Int32))) 14 (upd (s.2.1 14) k9 ((4 : Int32) * r1)))) (bM_get (j := 0) rfl) i130_51 rfl rfl rfl (Nat.le_of_ble_eq_true rfl) t13 ?_
  refine gm_ev.bipush (v := 40) i130_54 (by decide) ?_
  refine gm_ev.icmp_eq_t (tgt := 61) i130_56 (by decide) c14 ?_
  refine gm_ev.aload_n i130_61 rfl ?_
  refine gm_ev.bipush (v := 40) i130_62 (by decide) ?_
  refine gm_ev.callV gm_mono_run (av := [.int (40 : Int32)]) (r := []) (ci := 11) (fs := mF B (mA (mI s 10 ((s.1 10) + (1 : Int32))) 14 (upd (s.2.1 14) k9 ((4 : Int32) * r1)))) (bM_get (j := 0) rfl) i130_64 rfl rfl rfl (Nat.le_of_ble_eq_true rfl) t16 ?_
  refine gm_ev.if_ne_t (tgt := 72) i130_67 (by decide) c18 ?_
  refine gm_ev.iconst (v := 1) i130_72 (by decide) ?_
  refine gm_ev.istore (ls' := [some (.ref B), some (.int p0), some (.int r1), some (.int r3), some (.int (1 : Int32))]) i130_73 (Nat.le_of_ble_eq_true rfl) rfl ?_
  exact k
theorem r_atom_0_ftfftf {N0 : Nat} {K : Nat → Nat} {d B : Nat} {s : mS} {G : gm_H} {sz sl : Nat} {p0 : Int32} {r1 : Int32} {r3 : Int32} {r5 : Int32} {k9 : Nat} {r12 : Int32} {r15 : Int32} {s17 : mS} (hN : N0 ≤ B) (t2 : gm_to N0 K ra_nm (ra_mt K) d 123 [.ref B] (bM B (mH B s) G) sz (.returned (some (.int r1)), bM B (mH B s) G, sz, 0)) (t4 : gm_to N0 K ra_nm (ra_mt K) d 127 [.int r1] (bM B (mH B s) G) sz (.returned (some (.int r3)), bM B (mH B s) G, sz, 0)) (t6 : gm_to N0 K ra_nm (ra_mt K) d 124 [.int r1] (bM B (mH B s) G) sz (.returned (some (.int r5)), bM B (mH B s) G, sz, 0)) (c7 : r5 = 0) (c8 : 0 ≤ r3) (ek9 : p0 = nI k9) (lk9 : k9 < 144) (c10 : ¬ r3 = 0) (c11 : ¬ 0 ≤ r3) (t13 : gm_to N0 K ra_nm (ra_mt K) d 123 [.ref B] (bM B (mH B (mA (mI s 10 ((s.1 10) + (1 : Int32))) 14 (upd (s.2.1 14) k9 ((4 : Int32) * r1)))) G) sz (.returned (some (.int r12)), bM B (mH B (mA (mI s 10 ((s.1 10) + (1 : Int32))) 14 (upd (s.2.1 14) k9 ((4 : Int32) * r1)))) G, sz, 0)) (c14 : r12 = (40 : Int32)) (t16 : gm_to N0 K ra_nm (ra_mt K) d 128 [.ref B, .int (40 : Int32)] (bM B (mH B (mA (mI s 10 ((s.1 10) + (1 : Int32))) 14 (upd (s.2.1 14) k9 ((4 : Int32) * r1)))) G) sz (.returned (some (.int r15)), bM B (mH B s17) G, sz, 0)) (c18 : r15 = 0) : gm_ev N0 K ra_nm (ra_mt K) d (some .boolean) (gm_I cX12_atom) (gm_lkf (lkX12 false K)) 0 [some (.ref B), some (.int p0), none, none, none] [] (bM B (mH B s) G) sz sl (.returned (some (.int (0 : Int32))), (bM B (mH B s17) G), sz, sl) := by
  refine gm_ev.aload_n i130_0 rfl ?_
  refine gm_ev.callV gm_mono_run (av := []) (r := []) (ci := 11) (fs := mF B s) (bM_get (j := 0) rfl) i130_1 rfl rfl rfl (Nat.le_of_ble_eq_true rfl) t2 ?_
  refine gm_ev.istore_n (ls' := [some (.ref B), some (.int p0), some (.int r1), none, none]) i130_4 (Nat.le_of_ble_eq_true rfl) rfl ?_
  refine gm_ev.iload_n i130_5 rfl ?_
  refine gm_ev.callS gm_mono_run (av := [.int r1]) (r := []) i130_6 rfl rfl rfl (Nat.le_of_ble_eq_true rfl) t4 ?_
  refine gm_ev.istore_n (ls' := [some (.ref B), some (.int p0), some (.int r1), some (.int r3), none]) i130_9 (Nat.le_of_ble_eq_true rfl) rfl ?_
  refine gm_ev.iload_n i130_10 rfl ?_
  refine gm_ev.callS gm_mono_run (av := [.int r1]) (r := []) i130_11 rfl rfl rfl (Nat.le_of_ble_eq_true rfl) t6 ?_
  refine gm_ev.if_ne_f i130_14 c7 ?_
  refine gm_ev.iload_n i130_17 rfl ?_
  refine gm_ev.if_ge_t (tgt := 23) i130_18 (by decide) c8 ?_
  refine gm_ev.aload_n i130_23 rfl ?_
  refine gm_ev.dup i130_24 rfl ?_
  refine gm_ev.getfield (v := .int (s.1 10)) i130_25 rfl (bM_fld (j := 0) (fs := mF B s) rfl rfl) ?_
  refine gm_ev.iconst (v := 1) i130_28 (by decide) ?_
  refine gm_ev.iadd i130_29 ?_
  refine gm_ev.putfield (M' := (bM B (mH B (mI s 10 ((s.1 10) + (1 : Int32)))) G)) i130_30 rfl (bM_put (j := 0) (fs := mF B s) rfl (Nat.le_of_ble_eq_true rfl) hN (gm_fit_i _) rfl) ?_
  refine gm_ev.aload_n i130_33 rfl ?_
  refine gm_ev.getfield (v := .ref (B + 6)) i130_34 rfl (bM_fld (j := 0) (fs := mF B (mI s 10 ((s.1 10) + (1 : Int32)))) rfl rfl) ?_
  refine gm_ev.iload_n i130_37 rfl ?_
  refine gm_ev.iconst (v := 4) i130_38 (by decide) ?_
  refine gm_ev.iload_n i130_39 rfl ?_
  refine gm_ev.imul i130_40 ?_
  refine gm_ev.iastore (M' := (bM B (mH B (mA (mI s 10 ((s.1 10) + (1 : Int32))) 14 (upd (s.2.1 14) k9 ((4 : Int32) * r1)))) G)) i130_41 (bM_asti (j := 6) (n := 144) (f := s.2.1 14) rfl ek9 lk9 (by decide) hN rfl) ?_
  refine gm_ev.iload_n i130_42 rfl ?_
  refine gm_ev.if_eq_f i130_43 c10 ?_
  refine gm_ev.iload_n i130_46 rfl ?_
  refine gm_ev.if_ge_f i130_47 c11 ?_
  refine gm_ev.aload_n i130_50 rfl ?_
  refine gm_ev.callV gm_mono_run (av := []) (r := []) (ci := 11) (fs := mF B (mA (mI s 10 ((s.1 10) + (1 : Int32))) 14 (upd (s.2.1 14) k9 ((4 : Int32) * r1)))) (bM_get (j := 0) rfl) i130_51 rfl rfl rfl (Nat.le_of_ble_eq_true rfl) t13 ?_
  refine gm_ev.bipush (v := 40) i130_54 (by decide) ?_
  refine gm_ev.icmp_eq_t (tgt := 61) i130_56 (by decide) c14 ?_
  refine gm_ev.aload_n i130_61 rfl ?_
  refine gm_ev.bipush (v := 40) i130_62 (by decide) ?_
  refine gm_ev.callV gm_mono_run (av := [.int (40 : Int32)]) (r := []) (ci := 11) (fs := mF B (mA (mI s 10 ((s.1 10) + (1 : Int32))) 14 (upd (s.2.1 14) k9 ((4 : Int32) * r1)))) (bM_get (j := 0) rfl) i130_64 rfl rfl rfl (Nat.le_of_ble_eq_true rfl) t16 ?_
  refine gm_ev.if_ne_f i130_67 c18 ?_
  refine gm_ev.iconst (v := 0) i130_70 (by decide) ?_
  exact gm_ev.zret i130_71 rfl (by decide)
theorem r_atom_0_ftfff {N0 : Nat} {K : Nat → Nat} {d B : Nat} {s : mS} {G : gm_H} {sz sl : Nat} {p0 : Int32} {r1 : Int32} {r3 : Int32} {r5 : Int32} {k9 : Nat} {r12 : Int32} (hN : N0 ≤ B) (t2 : gm_to N0 K ra_nm (ra_mt K) d 123 [.ref B] (bM B (mH B s) G) sz (.returned (some (.int r1)), bM B (mH B s) G, sz, 0)) (t4 : gm_to N0 K ra_nm (ra_mt K) d 127 [.int r1] (bM B (mH B s) G) sz (.returned (some (.int r3)), bM B (mH B s) G, sz, 0)) (t6 : gm_to N0 K ra_nm (ra_mt K) d 124 [.int r1] (bM B (mH B s) G) sz (.returned (some (.int r5)), bM B (mH B s) G, sz, 0)) (c7 : r5 = 0) (c8 : 0 ≤ r3) (ek9 : p0 = nI k9) (lk9 : k9 < 144) (c10 : ¬ r3 = 0) (c11 : ¬ 0 ≤ r3) (t13 : gm_to N0 K ra_nm (ra_mt K) d 123 [.ref B] (bM B (mH B (mA (mI s 10 ((s.1 10) + (1 : Int32))) 14 (upd (s.2.1 14) k9 ((4 : Int32) * r1)))) G) sz (.returned (some (.int r12)), bM B (mH B (mA (mI s 10 ((s.1 10) + (1 : Int32))) 14 (upd (s.2.1 14) k9 ((4 : Int32) * r1)))) G, sz, 0)) (c14 : ¬ r12 = (40 : Int32)) : gm_ev N0 K ra_nm (ra_mt K) d (some .boolean) (gm_I cX12_atom) (gm_lkf (lkX12 false K)) 0 [some (.ref B), some (.int p0), none, none, none] [] (bM B (mH B s) G) sz sl (.returned (some (.int (1 : Int32))), (bM B (mH B (mA (mI s 10 ((s.1 10) + (1 : Int32))) 14 (upd (s.2.1 14) k9 ((4 : Int32) * r1)))) G), sz, sl) := by
  refine gm_ev.aload_n i130_0 rfl ?_
  refine gm_ev.callV gm_mono_run (av := []) (r := []) (ci := 11) (fs := mF B s) (bM_get (j := 0) rfl) i130_1 rfl rfl rfl (Nat.le_of_ble_eq_true rfl) t2 ?_
  refine gm_ev.istore_n (ls' := [some (.ref B), some (.int p0), some (.int r1), none, none]) i130_4 (Nat.le_of_ble_eq_true rfl) rfl ?_
  refine gm_ev.iload_n i130_5 rfl ?_
  refine gm_ev.callS gm_mono_run (av := [.int r1]) (r := []) i130_6 rfl rfl rfl (Nat.le_of_ble_eq_true rfl) t4 ?_
  refine gm_ev.istore_n (ls' := [some (.ref B), some (.int p0), some (.int r1), some (.int r3), none]) i130_9 (Nat.le_of_ble_eq_true rfl) rfl ?_
  refine gm_ev.iload_n i130_10 rfl ?_
  refine gm_ev.callS gm_mono_run (av := [.int r1]) (r := []) i130_11 rfl rfl rfl (Nat.le_of_ble_eq_true rfl) t6 ?_
  refine gm_ev.if_ne_f i130_14 c7 ?_
  refine gm_ev.iload_n i130_17 rfl ?_
  refine gm_ev.if_ge_t (tgt := 23) i130_18 (by decide) c8 ?_
  refine gm_ev.aload_n i130_23 rfl ?_
  refine gm_ev.dup i130_24 rfl ?_
  refine gm_ev.getfield (v := .int (s.1 10)) i130_25 rfl (bM_fld (j := 0) (fs := mF B s) rfl rfl) ?_
  refine gm_ev.iconst (v := 1) i130_28 (by decide) ?_
  refine gm_ev.iadd i130_29 ?_
  refine gm_ev.putfield (M' := (bM B (mH B (mI s 10 ((s.1 10) + (1 : Int32)))) G)) i130_30 rfl (bM_put (j := 0) (fs := mF B s) rfl (Nat.le_of_ble_eq_true rfl) hN (gm_fit_i _) rfl) ?_
  refine gm_ev.aload_n i130_33 rfl ?_
  refine gm_ev.getfield (v := .ref (B + 6)) i130_34 rfl (bM_fld (j := 0) (fs := mF B (mI s 10 ((s.1 10) + (1 : Int32)))) rfl rfl) ?_
  refine gm_ev.iload_n i130_37 rfl ?_
  refine gm_ev.iconst (v := 4) i130_38 (by decide) ?_
  refine gm_ev.iload_n i130_39 rfl ?_
  refine gm_ev.imul i130_40 ?_
  refine gm_ev.iastore (M' := (bM B (mH B (mA (mI s 10 ((s.1 10) + (1 : Int32))) 14 (upd (s.2.1 14) k9 ((4 : Int32) * r1)))) G)) i130_41 (bM_asti (j := 6) (n := 144) (f := s.2.1 14) rfl ek9 lk9 (by decide) hN rfl) ?_
  refine gm_ev.iload_n i130_42 rfl ?_
  refine gm_ev.if_eq_f i130_43 c10 ?_
  refine gm_ev.iload_n i130_46 rfl ?_
  refine gm_ev.if_ge_f i130_47 c11 ?_
  refine gm_ev.aload_n i130_50 rfl ?_
  refine gm_ev.callV gm_mono_run (av := []) (r := []) (ci := 11) (fs := mF B (mA (mI s 10 ((s.1 10) + (1 : Int32))) 14 (upd (s.2.1 14) k9 ((4 : Int32) * r1)))) (bM_get (j := 0) rfl) i130_51 rfl rfl rfl (Nat.le_of_ble_eq_true rfl) t13 ?_
  refine gm_ev.bipush (v := 40) i130_54 (by decide) ?_
  refine gm_ev.icmp_eq_f i130_56 c14 ?_
  refine gm_ev.iconst (v := 1) i130_59 (by decide) ?_
  exact gm_ev.zret i130_60 rfl (by decide)
theorem r_atom_0_ff {N0 : Nat} {K : Nat → Nat} {d B : Nat} {s : mS} {G : gm_H} {sz sl : Nat} {p0 : Int32} {r1 : Int32} {r3 : Int32} {r5 : Int32} (hN : N0 ≤ B) (t2 : gm_to N0 K ra_nm (ra_mt K) d 123 [.ref B] (bM B (mH B s) G) sz (.returned (some (.int r1)), bM B (mH B s) G, sz, 0)) (t4 : gm_to N0 K ra_nm (ra_mt K) d 127 [.int r1] (bM B (mH B s) G) sz (.returned (some (.int r3)), bM B (mH B s) G, sz, 0)) (t6 : gm_to N0 K ra_nm (ra_mt K) d 124 [.int r1] (bM B (mH B s) G) sz (.returned (some (.int r5)), bM B (mH B s) G, sz, 0)) (c7 : r5 = 0) (c8 : ¬ 0 ≤ r3) : gm_ev N0 K ra_nm (ra_mt K) d (some .boolean) (gm_I cX12_atom) (gm_lkf (lkX12 false K)) 0 [some (.ref B), some (.int p0), none, none, none] [] (bM B (mH B s) G) sz sl (.returned (some (.int (0 : Int32))), (bM B (mH B s) G), sz, sl) := by
  refine gm_ev.aload_n i130_0 rfl ?_
  refine gm_ev.callV gm_mono_run (av := []) (r := []) (ci := 11) (fs := mF B s) (bM_get (j := 0) rfl) i130_1 rfl rfl rfl (Nat.le_of_ble_eq_true rfl) t2 ?_
  refine gm_ev.istore_n (ls' := [some (.ref B), some (.int p0), some (.int r1), none, none]) i130_4 (Nat.le_of_ble_eq_true rfl) rfl ?_
  refine gm_ev.iload_n i130_5 rfl ?_
  refine gm_ev.callS gm_mono_run (av := [.int r1]) (r := []) i130_6 rfl rfl rfl (Nat.le_of_ble_eq_true rfl) t4 ?_
  refine gm_ev.istore_n (ls' := [some (.ref B), some (.int p0), some (.int r1), some (.int r3), none]) i130_9 (Nat.le_of_ble_eq_true rfl) rfl ?_
  refine gm_ev.iload_n i130_10 rfl ?_
  refine gm_ev.callS gm_mono_run (av := [.int r1]) (r := []) i130_11 rfl rfl rfl (Nat.le_of_ble_eq_true rfl) t6 ?_
  refine gm_ev.if_ne_f i130_14 c7 ?_
  refine gm_ev.iload_n i130_17 rfl ?_
  refine gm_ev.if_ge_f i130_18 c8 ?_
  refine gm_ev.iconst (v := 0) i130_21 (by decide) ?_
  exact gm_ev.zret i130_22 rfl (by decide)
theorem r_atom_75_t {N0 : Nat} {K : Nat → Nat} {d B : Nat} {s : mS} {G : gm_H} {sz sl : Nat} {x1 : Int32} {x2 : Int32} {x3 : Int32} {x4 : Int32} (hN : N0 ≤ B) (c1 : (3 : Int32) < x4) : gm_ev N0 K ra_nm (ra_mt K) d (some .boolean) (gm_I cX12_atom) (gm_lkf (lkX12 false K)) 75 [some (.ref B), some (.int x1), some (.int x2), some (.int x3), some (.int x4)] [] (bM B (mH B s) G) sz sl (.returned (some (.int (0 : Int32))), (bM B (mH B s) G), sz, sl) := by
  refine gm_ev.iload i130_75 rfl ?_
  refine gm_ev.iconst (v := 3) i130_77 (by decide) ?_
  refine gm_ev.icmp_gt_t (tgt := 162) i130_78 (by decide) c1 ?_
  refine gm_ev.iconst (v := 0) i130_162 (by decide) ?_
  exact gm_ev.zret i130_163 rfl (by decide)
theorem r_atom_75_fttttt {N0 : Nat} {K : Nat → Nat} {d B : Nat} {s : mS} {G : gm_H} {sz sl : Nat} {x1 : Int32} {x2 : Int32} {x3 : Int32} {x4 : Int32} {r2 : Int32} {s4 : mS} {k6 : Nat} {r8 : Int32} {s10 : mS} (hN : N0 ≤ B) (c1 : ¬ (3 : Int32) < x4) (t3 : gm_to N0 K ra_nm (ra_mt K) d 129 [.ref B, .int ((((3 : Int32) * x1) + x4) - (1 : Int32))] (bM B (mH B s) G) sz (.returned (some (.int r2)), bM B (mH B s4) G, sz, 0)) (c5 : ¬ r2 = 0) (ek6 : x1 = nI k6) (lk6 : k6 < 144) (c7 : x3 < 0) (t9 : gm_to N0 K ra_nm (ra_mt K) d 128 [.ref B, .int (41 : Int32)] (bM B (mH B (mA s4 14 (upd (s4.2.1 14) k6 (((4 : Int32) * x2) + x4)))) G) sz (.returned (some (.int r8)), bM B (mH B s10) G, sz, 0)) (c11 : r8 = 0) (c12 : 0 ≤ x3) (c13 : x4 = x3) : gm_ev N0 K ra_nm (ra_mt K) d (some .boolean) (gm_I cX12_atom) (gm_lkf (lkX12 false K)) 75 [some (.ref B), some (.int x1), some (.int x2), some (.int x3), some (.int x4)] [] (bM B (mH B s) G) sz sl (.returned (some (.int (0 : Int32))), (bM B (mH B s10) G), sz, sl) := by
  refine gm_ev.iload i130_75 rfl ?_
  refine gm_ev.iconst (v := 3) i130_77 (by decide) ?_
  refine gm_ev.icmp_gt_f i130_78 c1 ?_
  refine gm_ev.aload_n i130_81 rfl ?_
  refine gm_ev.iconst (v := 3) i130_82 (by decide) ?_
  refine gm_ev.iload_n i130_83 rfl ?_
  refine gm_ev.imul i130_84 ?_
  refine gm_ev.iload i130_85 rfl ?_
  refine gm_ev.iadd i130_87 ?_
  refine gm_ev.iconst (v := 1) i130_88 (by decide) ?_
  refine gm_ev.isub i130_89 ?_
  refine gm_ev.callV gm_mono_run (av := [.int ((((3 : Int32) * x1) + x4) - (1 : Int32))]) (r := []) (ci := 11) (fs := mF B s) (bM_get (j := 0) rfl) i130_90 rfl rfl rfl (Nat.le_of_ble_eq_true rfl) t3 ?_
  refine gm_ev.if_ne_t (tgt := 98) i130_93 (by decide) c5 ?_
  refine gm_ev.aload_n i130_98 rfl ?_
  refine gm_ev.getfield (v := .ref (B + 6)) i130_99 rfl (bM_fld (j := 0) (fs := mF B s4) rfl rfl) ?_
  refine gm_ev.iload_n i130_102 rfl ?_
  refine gm_ev.iconst (v := 4) i130_103 (by decide) ?_
  refine gm_ev.iload_n i130_104 rfl ?_
  refine gm_ev.imul i130_105 ?_
  refine gm_ev.iload i130_106 rfl ?_
  refine gm_ev.iadd i130_108 ?_
  refine gm_ev.iastore (M' := (bM B (mH B (mA s4 14 (upd (s4.2.1 14) k6 (((4 : Int32) * x2) + x4)))) G)) i130_109 (bM_asti (j := 6) (n := 144) (f := s4.2.1 14) rfl ek6 lk6 (by decide) hN rfl) ?_
  refine gm_ev.iload_n i130_110 rfl ?_
  refine gm_ev.if_lt_t (tgt := 120) i130_111 (by decide) c7 ?_
  refine gm_ev.aload_n i130_120 rfl ?_
  refine gm_ev.bipush (v := 41) i130_121 (by decide) ?_
  refine gm_ev.callV gm_mono_run (av := [.int (41 : Int32)]) (r := []) (ci := 11) (fs := mF B (mA s4 14 (upd (s4.2.1 14) k6 (((4 : Int32) * x2) + x4)))) (bM_get (j := 0) rfl) i130_123 rfl rfl rfl (Nat.le_of_ble_eq_true rfl) t9 ?_
  refine gm_ev.if_eq_t (tgt := 131) i130_126 (by decide) c11 ?_
  refine gm_ev.iload i130_131 rfl ?_
  refine gm_ev.iload_n i130_133 rfl ?_
  refine gm_ev.if_ge_t (tgt := 141) i130_134 (by decide) c12 ?_
  refine gm_ev.iload_n i130_141 rfl ?_
  refine gm_ev.icmp_eq_t (tgt := 154) i130_142 (by decide) c13 ?_
  refine gm_ev.iconst (v := 0) i130_154 (by decide) ?_
  exact gm_ev.zret i130_155 rfl (by decide)
theorem r_atom_75_fttttft_at75 {N0 : Nat} {K : Nat → Nat} {d B : Nat} {s : mS} {G : gm_H} {sz sl : Nat} {R : gm_R} {x1 : Int32} {x2 : Int32} {x3 : Int32} {x4 : Int32} {r2 : Int32} {s4 : mS} {k6 : Nat} {r8 : Int32} {s10 : mS} {r14 : Int32} {s16 : mS} (hN : N0 ≤ B) (c1 : ¬ (3 : Int32) < x4) (t3 : gm_to N0 K ra_nm (ra_mt K) d 129 [.ref B, .int ((((3 : Int32) * x1) + x4) - (1 : Int32))] (bM B (mH B s) G) sz (.returned (some (.int r2)), bM B (mH B s4) G, sz, 0)) (c5 : ¬ r2 = 0) (ek6 : x1 = nI k6) (lk6 : k6 < 144) (c7 : x3 < 0) (t9 : gm_to N0 K ra_nm (ra_mt K) d 128 [.ref B, .int (41 : Int32)] (bM B (mH B (mA s4 14 (upd (s4.2.1 14) k6 (((4 : Int32) * x2) + x4)))) G) sz (.returned (some (.int r8)), bM B (mH B s10) G, sz, 0)) (c11 : r8 = 0) (c12 : 0 ≤ x3) (c13 : ¬ x4 = x3) (t15 : gm_to N0 K ra_nm (ra_mt K) d 128 [.ref B, .int (44 : Int32)] (bM B (mH B s10) G) sz (.returned (some (.int r14)), bM B (mH B s16) G, sz, 0)) (c17 : ¬ r14 = 0) (k : gm_ev N0 K ra_nm (ra_mt K) d (some .boolean) (gm_I cX12_atom) (gm_lkf (lkX12 false K)) 75 [some (.ref B), some (.int x1), some (.int x2), some (.int x3), some (.int (x4 + (1 : Int32)))] [] (bM B (mH B s16) G) sz sl R) : gm_ev N0 K ra_nm (ra_mt K) d (some .boolean) (gm_I cX12_atom) (gm_lkf (lkX12 false K)) 75 [some (.ref B), some (.int x1), some (.int x2), some (.int x3), some (.int x4)] [] (bM B (mH B s) G) sz sl R := by
  refine gm_ev.iload i130_75 rfl ?_
  refine gm_ev.iconst (v := 3) i130_77 (by decide) ?_
  refine gm_ev.icmp_gt_f i130_78 c1 ?_
  refine gm_ev.aload_n i130_81 rfl ?_
  refine gm_ev.iconst (v := 3) i130_82 (by decide) ?_
  refine gm_ev.iload_n i130_83 rfl ?_
  refine gm_ev.imul i130_84 ?_
  refine gm_ev.iload i130_85 rfl ?_
  refine gm_ev.iadd i130_87 ?_
  refine gm_ev.iconst (v := 1) i130_88 (by decide) ?_
  refine gm_ev.isub i130_89 ?_
  refine gm_ev.callV gm_mono_run (av := [.int ((((3 : Int32) * x1) + x4) - (1 : Int32))]) (r := []) (ci := 11) (fs := mF B s) (bM_get (j := 0) rfl) i130_90 rfl rfl rfl (Nat.le_of_ble_eq_true rfl) t3 ?_
  refine gm_ev.if_ne_t (tgt := 98) i130_93 (by decide) c5 ?_
  refine gm_ev.aload_n i130_98 rfl ?_
  refine gm_ev.getfield (v := .ref (B + 6)) i130_99 rfl (bM_fld (j := 0) (fs := mF B s4) rfl rfl) ?_
  refine gm_ev.iload_n i130_102 rfl ?_
  refine gm_ev.iconst (v := 4) i130_103 (by decide) ?_
  refine gm_ev.iload_n i130_104 rfl ?_
  refine gm_ev.imul i130_105 ?_
  refine gm_ev.iload i130_106 rfl ?_
  refine gm_ev.iadd i130_108 ?_
  refine gm_ev.iastore (M' := (bM B (mH B (mA s4 14 (upd (s4.2.1 14) k6 (((4 : Int32) * x2) + x4)))) G)) i130_109 (bM_asti (j := 6) (n := 144) (f := s4.2.1 14) rfl ek6 lk6 (by decide) hN rfl) ?_
  refine gm_ev.iload_n i130_110 rfl ?_
  refine gm_ev.if_lt_t (tgt := 120) i130_111 (by decide) c7 ?_
  refine gm_ev.aload_n i130_120 rfl ?_
  refine gm_ev.bipush (v := 41) i130_121 (by decide) ?_
  refine gm_ev.callV gm_mono_run (av := [.int (41 : Int32)]) (r := []) (ci := 11) (fs := mF B (mA s4 14 (upd (s4.2.1 14) k6 (((4 : Int32) * x2) + x4)))) (bM_get (j := 0) rfl) i130_123 rfl rfl rfl (Nat.le_of_ble_eq_true rfl) t9 ?_
  refine gm_ev.if_eq_t (tgt := 131) i130_126 (by decide) c11 ?_
  refine gm_ev.iload i130_131 rfl ?_
  refine gm_ev.iload_n i130_133 rfl ?_
  refine gm_ev.if_ge_t (tgt := 141) i130_134 (by decide) c12 ?_
  refine gm_ev.iload_n i130_141 rfl ?_
  refine gm_ev.icmp_eq_f i130_142 c13 ?_
  refine gm_ev.aload_n i130_145 rfl ?_
  refine gm_ev.bipush (v := 44) i130_146 (by decide) ?_
  refine gm_ev.callV gm_mono_run (av := [.int (44 : Int32)]) (r := []) (ci := 11) (fs := mF B s10) (bM_get (j := 0) rfl) i130_148 rfl rfl rfl (Nat.le_of_ble_eq_true rfl) t15 ?_
  refine gm_ev.if_ne_t (tgt := 156) i130_151 (by decide) c17 ?_
  refine gm_ev.iinc (v := x4 + (1 : Int32)) (ls' := [some (.ref B), some (.int x1), some (.int x2), some (.int x3), some (.int (x4 + (1 : Int32)))]) i130_156 rfl (by rfl) rfl ?_
  refine gm_ev.goto (tgt := 75) i130_159 (by decide) ?_
  exact k
theorem r_atom_75_fttttff {N0 : Nat} {K : Nat → Nat} {d B : Nat} {s : mS} {G : gm_H} {sz sl : Nat} {x1 : Int32} {x2 : Int32} {x3 : Int32} {x4 : Int32} {r2 : Int32} {s4 : mS} {k6 : Nat} {r8 : Int32} {s10 : mS} {r14 : Int32} {s16 : mS} (hN : N0 ≤ B) (c1 : ¬ (3 : Int32) < x4) (t3 : gm_to N0 K ra_nm (ra_mt K) d 129 [.ref B, .int ((((3 : Int32) * x1) + x4) - (1 : Int32))] (bM B (mH B s) G) sz (.returned (some (.int r2)), bM B (mH B s4) G, sz, 0)) (c5 : ¬ r2 = 0) (ek6 : x1 = nI k6) (lk6 : k6 < 144) (c7 : x3 < 0) (t9 : gm_to N0 K ra_nm (ra_mt K) d 128 [.ref B, .int (41 : Int32)] (bM B (mH B (mA s4 14 (upd (s4.2.1 14) k6 (((4 : Int32) * x2) + x4)))) G) sz (.returned (some (.int r8)), bM B (mH B s10) G, sz, 0)) (c11 : r8 = 0) (c12 : 0 ≤ x3) (c13 : ¬ x4 = x3) (t15 : gm_to N0 K ra_nm (ra_mt K) d 128 [.ref B, .int (44 : Int32)] (bM B (mH B s10) G) sz (.returned (some (.int r14)), bM B (mH B s16) G, sz, 0)) (c17 : r14 = 0) : gm_ev N0 K ra_nm (ra_mt K) d (some .boolean) (gm_I cX12_atom) (gm_lkf (lkX12 false K)) 75 [some (.ref B), some (.int x1), some (.int x2), some (.int x3), some (.int x4)] [] (bM B (mH B s) G) sz sl (.returned (some (.int (0 : Int32))), (bM B (mH B s16) G), sz, sl) := by
  refine gm_ev.iload i130_75 rfl ?_
  refine gm_ev.iconst (v := 3) i130_77 (by decide) ?_
  refine gm_ev.icmp_gt_f i130_78 c1 ?_
  refine gm_ev.aload_n i130_81 rfl ?_
  refine gm_ev.iconst (v := 3) i130_82 (by decide) ?_
  refine gm_ev.iload_n i130_83 rfl ?_
  refine gm_ev.imul i130_84 ?_
  refine gm_ev.iload i130_85 rfl ?_
  refine gm_ev.iadd i130_87 ?_
  refine gm_ev.iconst (v := 1) i130_88 (by decide) ?_
  refine gm_ev.isub i130_89 ?_
  refine gm_ev.callV gm_mono_run (av := [.int ((((3 : Int32) * x1) + x4) - (1 : Int32))]) (r := []) (ci := 11) (fs := mF B s) (bM_get (j := 0) rfl) i130_90 rfl rfl rfl (Nat.le_of_ble_eq_true rfl) t3 ?_
  refine gm_ev.if_ne_t (tgt := 98) i130_93 (by decide) c5 ?_
  refine gm_ev.aload_n i130_98 rfl ?_
  refine gm_ev.getfield (v := .ref (B + 6)) i130_99 rfl (bM_fld (j := 0) (fs := mF B s4) rfl rfl) ?_
  refine gm_ev.iload_n i130_102 rfl ?_
  refine gm_ev.iconst (v := 4) i130_103 (by decide) ?_
  refine gm_ev.iload_n i130_104 rfl ?_
  refine gm_ev.imul i130_105 ?_
  refine gm_ev.iload i130_106 rfl ?_
  refine gm_ev.iadd i130_108 ?_
  refine gm_ev.iastore (M' := (bM B (mH B (mA s4 14 (upd (s4.2.1 14) k6 (((4 : Int32) * x2) + x4)))) G)) i130_109 (bM_asti (j := 6) (n := 144) (f := s4.2.1 14) rfl ek6 lk6 (by decide) hN rfl) ?_
  refine gm_ev.iload_n i130_110 rfl ?_
  refine gm_ev.if_lt_t (tgt := 120) i130_111 (by decide) c7 ?_
  refine gm_ev.aload_n i130_120 rfl ?_
  refine gm_ev.bipush (v := 41) i130_121 (by decide) ?_
  refine gm_ev.callV gm_mono_run (av := [.int (41 : Int32)]) (r := []) (ci := 11) (fs := mF B (mA s4 14 (upd (s4.2.1 14) k6 (((4 : Int32) * x2) + x4)))) (bM_get (j := 0) rfl) i130_123 rfl rfl rfl (Nat.le_of_ble_eq_true rfl) t9 ?_
  refine gm_ev.if_eq_t (tgt := 131) i130_126 (by decide) c11 ?_
  refine gm_ev.iload i130_131 rfl ?_
  refine gm_ev.iload_n i130_133 rfl ?_
  refine gm_ev.if_ge_t (tgt := 141) i130_134 (by decide) c12 ?_
  refine gm_ev.iload_n i130_141 rfl ?_
  refine gm_ev.icmp_eq_f i130_142 c13 ?_
  refine gm_ev.aload_n i130_145 rfl ?_
  refine gm_ev.bipush (v := 44) i130_146 (by decide) ?_
  refine gm_ev.callV gm_mono_run (av := [.int (44 : Int32)]) (r := []) (ci := 11) (fs := mF B s10) (bM_get (j := 0) rfl) i130_148 rfl rfl rfl (Nat.le_of_ble_eq_true rfl) t15 ?_
  refine gm_ev.if_ne_f i130_151 c17 ?_
  refine gm_ev.iconst (v := 0) i130_154 (by decide) ?_
  exact gm_ev.zret i130_155 rfl (by decide)
theorem r_atom_75_ftttft {N0 : Nat} {K : Nat → Nat} {d B : Nat} {s : mS} {G : gm_H} {sz sl : Nat} {x1 : Int32} {x2 : Int32} {x3 : Int32} {x4 : Int32} {r2 : Int32} {s4 : mS} {k6 : Nat} {r8 : Int32} {s10 : mS} (hN : N0 ≤ B) (c1 : ¬ (3 : Int32) < x4) (t3 : gm_to N0 K ra_nm (ra_mt K) d 129 [.ref B, .int ((((3 : Int32) * x1) + x4) - (1 : Int32))] (bM B (mH B s) G) sz (.returned (some (.int r2)), bM B (mH B s4) G, sz, 0)) (c5 : ¬ r2 = 0) (ek6 : x1 = nI k6) (lk6 : k6 < 144) (c7 : x3 < 0) (t9 : gm_to N0 K ra_nm (ra_mt K) d 128 [.ref B, .int (41 : Int32)] (bM B (mH B (mA s4 14 (upd (s4.2.1 14) k6 (((4 : Int32) * x2) + x4)))) G) sz (.returned (some (.int r8)), bM B (mH B s10) G, sz, 0)) (c11 : r8 = 0) (c12 : ¬ 0 ≤ x3) (c13 : x4 = (3 : Int32)) : gm_ev N0 K ra_nm (ra_mt K) d (some .boolean) (gm_I cX12_atom) (gm_lkf (lkX12 false K)) 75 [some (.ref B), some (.int x1), some (.int x2), some (.int x3), some (.int x4)] [] (bM B (mH B s) G) sz sl (.returned (some (.int (0 : Int32))), (bM B (mH B s10) G), sz, sl) := by
  refine gm_ev.iload i130_75 rfl ?_
  refine gm_ev.iconst (v := 3) i130_77 (by decide) ?_
  refine gm_ev.icmp_gt_f i130_78 c1 ?_
  refine gm_ev.aload_n i130_81 rfl ?_
  refine gm_ev.iconst (v := 3) i130_82 (by decide) ?_
  refine gm_ev.iload_n i130_83 rfl ?_
  refine gm_ev.imul i130_84 ?_
  refine gm_ev.iload i130_85 rfl ?_
  refine gm_ev.iadd i130_87 ?_
  refine gm_ev.iconst (v := 1) i130_88 (by decide) ?_
  refine gm_ev.isub i130_89 ?_
  refine gm_ev.callV gm_mono_run (av := [.int ((((3 : Int32) * x1) + x4) - (1 : Int32))]) (r := []) (ci := 11) (fs := mF B s) (bM_get (j := 0) rfl) i130_90 rfl rfl rfl (Nat.le_of_ble_eq_true rfl) t3 ?_
  refine gm_ev.if_ne_t (tgt := 98) i130_93 (by decide) c5 ?_
  refine gm_ev.aload_n i130_98 rfl ?_
  refine gm_ev.getfield (v := .ref (B + 6)) i130_99 rfl (bM_fld (j := 0) (fs := mF B s4) rfl rfl) ?_
  refine gm_ev.iload_n i130_102 rfl ?_
  refine gm_ev.iconst (v := 4) i130_103 (by decide) ?_
  refine gm_ev.iload_n i130_104 rfl ?_
  refine gm_ev.imul i130_105 ?_
  refine gm_ev.iload i130_106 rfl ?_
  refine gm_ev.iadd i130_108 ?_
  refine gm_ev.iastore (M' := (bM B (mH B (mA s4 14 (upd (s4.2.1 14) k6 (((4 : Int32) * x2) + x4)))) G)) i130_109 (bM_asti (j := 6) (n := 144) (f := s4.2.1 14) rfl ek6 lk6 (by decide) hN rfl) ?_
  refine gm_ev.iload_n i130_110 rfl ?_
  refine gm_ev.if_lt_t (tgt := 120) i130_111 (by decide) c7 ?_
  refine gm_ev.aload_n i130_120 rfl ?_
  refine gm_ev.bipush (v := 41) i130_121 (by decide) ?_
  refine gm_ev.callV gm_mono_run (av := [.int (41 : Int32)]) (r := []) (ci := 11) (fs := mF B (mA s4 14 (upd (s4.2.1 14) k6 (((4 : Int32) * x2) + x4)))) (bM_get (j := 0) rfl) i130_123 rfl rfl rfl (Nat.le_of_ble_eq_true rfl) t9 ?_
  refine gm_ev.if_eq_t (tgt := 131) i130_126 (by decide) c11 ?_
  refine gm_ev.iload i130_131 rfl ?_
  refine gm_ev.iload_n i130_133 rfl ?_
  refine gm_ev.if_ge_f i130_134 c12 ?_
  refine gm_ev.iconst (v := 3) i130_137 (by decide) ?_
  refine gm_ev.goto (tgt := 142) i130_138 (by decide) ?_
  refine gm_ev.icmp_eq_t (tgt := 154) i130_142 (by decide) c13 ?_
  refine gm_ev.iconst (v := 0) i130_154 (by decide) ?_
  exact gm_ev.zret i130_155 rfl (by decide)
theorem r_atom_75_ftttfft_at75 {N0 : Nat} {K : Nat → Nat} {d B : Nat} {s : mS} {G : gm_H} {sz sl : Nat} {R : gm_R} {x1 : Int32} {x2 : Int32} {x3 : Int32} {x4 : Int32} {r2 : Int32} {s4 : mS} {k6 : Nat} {r8 : Int32} {s10 : mS} {r14 : Int32} {s16 : mS} (hN : N0 ≤ B) (c1 : ¬ (3 : Int32) < x4) (t3 : gm_to N0 K ra_nm (ra_mt K) d 129 [.ref B, .int ((((3 : Int32) * x1) + x4) - (1 : Int32))] (bM B (mH B s) G) sz (.returned (some (.int r2)), bM B (mH B s4) G, sz, 0)) (c5 : ¬ r2 = 0) (ek6 : x1 = nI k6) (lk6 : k6 < 144) (c7 : x3 < 0) (t9 : gm_to N0 K ra_nm (ra_mt K) d 128 [.ref B, .int (41 : Int32)] (bM B (mH B (mA s4 14 (upd (s4.2.1 14) k6 (((4 : Int32) * x2) + x4)))) G) sz (.returned (some (.int r8)), bM B (mH B s10) G, sz, 0)) (c11 : r8 = 0) (c12 : ¬ 0 ≤ x3) (c13 : ¬ x4 = (3 : Int32)) (t15 : gm_to N0 K ra_nm (ra_mt K) d 128 [.ref B, .int (44 : Int32)] (bM B (mH B s10) G) sz (.returned (some (.int r14)), bM B (mH B s16) G, sz, 0)) (c17 : ¬ r14 = 0) (k : gm_ev N0 K ra_nm (ra_mt K) d (some .boolean) (gm_I cX12_atom) (gm_lkf (lkX12 false K)) 75 [some (.ref B), some (.int x1), some (.int x2), some (.int x3), some (.int (x4 + (1 : Int32)))] [] (bM B (mH B s16) G) sz sl R) : gm_ev N0 K ra_nm (ra_mt K) d (some .boolean) (gm_I cX12_atom) (gm_lkf (lkX12 false K)) 75 [some (.ref B), some (.int x1), some (.int x2), some (.int x3), some (.int x4)] [] (bM B (mH B s) G) sz sl R := by
  refine gm_ev.iload i130_75 rfl ?_
  refine gm_ev.iconst (v := 3) i130_77 (by decide) ?_
  refine gm_ev.icmp_gt_f i130_78 c1 ?_
  refine gm_ev.aload_n i130_81 rfl ?_
  refine gm_ev.iconst (v := 3) i130_82 (by decide) ?_
  refine gm_ev.iload_n i130_83 rfl ?_
  refine gm_ev.imul i130_84 ?_
  refine gm_ev.iload i130_85 rfl ?_
  refine gm_ev.iadd i130_87 ?_
  refine gm_ev.iconst (v := 1) i130_88 (by decide) ?_
  refine gm_ev.isub i130_89 ?_
  refine gm_ev.callV gm_mono_run (av := [.int ((((3 : Int32) * x1) + x4) - (1 : Int32))]) (r := []) (ci := 11) (fs := mF B s) (bM_get (j := 0) rfl) i130_90 rfl rfl rfl (Nat.le_of_ble_eq_true rfl) t3 ?_
  refine gm_ev.if_ne_t (tgt := 98) i130_93 (by decide) c5 ?_
  refine gm_ev.aload_n i130_98 rfl ?_
  refine gm_ev.getfield (v := .ref (B + 6)) i130_99 rfl (bM_fld (j := 0) (fs := mF B s4) rfl rfl) ?_
  refine gm_ev.iload_n i130_102 rfl ?_
  refine gm_ev.iconst (v := 4) i130_103 (by decide) ?_
  refine gm_ev.iload_n i130_104 rfl ?_
  refine gm_ev.imul i130_105 ?_
  refine gm_ev.iload i130_106 rfl ?_
  refine gm_ev.iadd i130_108 ?_
  refine gm_ev.iastore (M' := (bM B (mH B (mA s4 14 (upd (s4.2.1 14) k6 (((4 : Int32) * x2) + x4)))) G)) i130_109 (bM_asti (j := 6) (n := 144) (f := s4.2.1 14) rfl ek6 lk6 (by decide) hN rfl) ?_
  refine gm_ev.iload_n i130_110 rfl ?_
  refine gm_ev.if_lt_t (tgt := 120) i130_111 (by decide) c7 ?_
  refine gm_ev.aload_n i130_120 rfl ?_
  refine gm_ev.bipush (v := 41) i130_121 (by decide) ?_
  refine gm_ev.callV gm_mono_run (av := [.int (41 : Int32)]) (r := []) (ci := 11) (fs := mF B (mA s4 14 (upd (s4.2.1 14) k6 (((4 : Int32) * x2) + x4)))) (bM_get (j := 0) rfl) i130_123 rfl rfl rfl (Nat.le_of_ble_eq_true rfl) t9 ?_
  refine gm_ev.if_eq_t (tgt := 131) i130_126 (by decide) c11 ?_
  refine gm_ev.iload i130_131 rfl ?_
  refine gm_ev.iload_n i130_133 rfl ?_
  refine gm_ev.if_ge_f i130_134 c12 ?_
  refine gm_ev.iconst (v := 3) i130_137 (by decide) ?_
  refine gm_ev.goto (tgt := 142) i130_138 (by decide) ?_
  refine gm_ev.icmp_eq_f i130_142 c13 ?_
  refine gm_ev.aload_n i130_145 rfl ?_
  refine gm_ev.bipush (v := 44) i130_146 (by decide) ?_
  refine gm_ev.callV gm_mono_run (av := [.int (44 : Int32)]) (r := []) (ci := 11) (fs := mF B s10) (bM_get (j := 0) rfl) i130_148 rfl rfl rfl (Nat.le_of_ble_eq_true rfl) t15 ?_
  refine gm_ev.if_ne_t (tgt := 156) i130_151 (by decide) c17 ?_
  refine gm_ev.iinc (v := x4 + (1 : Int32)) (ls' := [some (.ref B), some (.int x1), some (.int x2), some (.int x3), some (.int (x4 + (1 : Int32)))]) i130_156 rfl (by rfl) rfl ?_
  refine gm_ev.goto (tgt := 75) i130_159 (by decide) ?_
  exact k
theorem r_atom_75_ftttfff {N0 : Nat} {K : Nat → Nat} {d B : Nat} {s : mS} {G : gm_H} {sz sl : Nat} {x1 : Int32} {x2 : Int32} {x3 : Int32} {x4 : Int32} {r2 : Int32} {s4 : mS} {k6 : Nat} {r8 : Int32} {s10 : mS} {r14 : Int32} {s16 : mS} (hN : N0 ≤ B) (c1 : ¬ (3 : Int32) < x4) (t3 : gm_to N0 K ra_nm (ra_mt K) d 129 [.ref B, .int ((((3 : Int32) * x1) + x4) - (1 : Int32))] (bM B (mH B s) G) sz (.returned (some (.int r2)), bM B (mH B s4) G, sz, 0)) (c5 : ¬ r2 = 0) (ek6 : x1 = nI k6) (lk6 : k6 < 144) (c7 : x3 < 0) (t9 : gm_to N0 K ra_nm (ra_mt K) d 128 [.ref B, .int (41 : Int32)] (bM B (mH B (mA s4 14 (upd (s4.2.1 14) k6 (((4 : Int32) * x2) + x4)))) G) sz (.returned (some (.int r8)), bM B (mH B s10) G, sz, 0)) (c11 : r8 = 0) (c12 : ¬ 0 ≤ x3) (c13 : ¬ x4 = (3 : Int32)) (t15 : gm_to N0 K ra_nm (ra_mt K) d 128 [.ref B, .int (44 : Int32)] (bM B (mH B s10) G) sz (.returned (some (.int r14)), bM B (mH B s16) G, sz, 0)) (c17 : r14 = 0) : gm_ev N0 K ra_nm (ra_mt K) d (some .boolean) (gm_I cX12_atom) (gm_lkf (lkX12 false K)) 75 [some (.ref B), some (.int x1), some (.int x2), some (.int x3), some (.int x4)] [] (bM B (mH B s) G) sz sl (.returned (some (.int (0 : Int32))), (bM B (mH B s16) G), sz, sl) := by
  refine gm_ev.iload i130_75 rfl ?_
  refine gm_ev.iconst (v := 3) i130_77 (by decide) ?_
  refine gm_ev.icmp_gt_f i130_78 c1 ?_
  refine gm_ev.aload_n i130_81 rfl ?_
  refine gm_ev.iconst (v := 3) i130_82 (by decide) ?_
  refine gm_ev.iload_n i130_83 rfl ?_
  refine gm_ev.imul i130_84 ?_
  refine gm_ev.iload i130_85 rfl ?_
  refine gm_ev.iadd i130_87 ?_
  refine gm_ev.iconst (v := 1) i130_88 (by decide) ?_
  refine gm_ev.isub i130_89 ?_
  refine gm_ev.callV gm_mono_run (av := [.int ((((3 : Int32) * x1) + x4) - (1 : Int32))]) (r := []) (ci := 11) (fs := mF B s) (bM_get (j := 0) rfl) i130_90 rfl rfl rfl (Nat.le_of_ble_eq_true rfl) t3 ?_
  refine gm_ev.if_ne_t (tgt := 98) i130_93 (by decide) c5 ?_
  refine gm_ev.aload_n i130_98 rfl ?_
  refine gm_ev.getfield (v := .ref (B + 6)) i130_99 rfl (bM_fld (j := 0) (fs := mF B s4) rfl rfl) ?_
  refine gm_ev.iload_n i130_102 rfl ?_
  refine gm_ev.iconst (v := 4) i130_103 (by decide) ?_
  refine gm_ev.iload_n i130_104 rfl ?_
  refine gm_ev.imul i130_105 ?_
  refine gm_ev.iload i130_106 rfl ?_
  refine gm_ev.iadd i130_108 ?_
  refine gm_ev.iastore (M' := (bM B (mH B (mA s4 14 (upd (s4.2.1 14) k6 (((4 : Int32) * x2) + x4)))) G)) i130_109 (bM_asti (j := 6) (n := 144) (f := s4.2.1 14) rfl ek6 lk6 (by decide) hN rfl) ?_
  refine gm_ev.iload_n i130_110 rfl ?_
  refine gm_ev.if_lt_t (tgt := 120) i130_111 (by decide) c7 ?_
  refine gm_ev.aload_n i130_120 rfl ?_
  refine gm_ev.bipush (v := 41) i130_121 (by decide) ?_
  refine gm_ev.callV gm_mono_run (av := [.int (41 : Int32)]) (r := []) (ci := 11) (fs := mF B (mA s4 14 (upd (s4.2.1 14) k6 (((4 : Int32) * x2) + x4)))) (bM_get (j := 0) rfl) i130_123 rfl rfl rfl (Nat.le_of_ble_eq_true rfl) t9 ?_
  refine gm_ev.if_eq_t (tgt := 131) i130_126 (by decide) c11 ?_
  refine gm_ev.iload i130_131 rfl ?_
  refine gm_ev.iload_n i130_133 rfl ?_
  refine gm_ev.if_ge_f i130_134 c12 ?_
  refine gm_ev.iconst (v := 3) i130_137 (by decide) ?_
  refine gm_ev.goto (tgt := 142) i130_138 (by decide) ?_
  refine gm_ev.icmp_eq_f i130_142 c13 ?_
  refine gm_ev.aload_n i130_145 rfl ?_
  refine gm_ev.bipush (v := 44) i130_146 (by decide) ?_
  refine gm_ev.callV gm_mono_run (av := [.int (44 : Int32)]) (r := []) (ci := 11) (fs := mF B s10) (bM_get (j := 0) rfl) i130_148 rfl rfl rfl (Nat.le_of_ble_eq_true rfl) t15 ?_
  refine gm_ev.if_ne_f i130_151 c17 ?_
  refine gm_ev.iconst (v := 0) i130_154 (by decide) ?_
  exact gm_ev.zret i130_155 rfl (by decide)
theorem r_atom_75_fttf {N0 : Nat} {K : Nat → Nat} {d B : Nat} {s : mS} {G : gm_H} {sz sl : Nat} {x1 : Int32} {x2 : Int32} {x3 : Int32} {x4 : Int32} {r2 : Int32} {s4 : mS} {k6 : Nat} {r8 : Int32} {s10 : mS} (hN : N0 ≤ B) (c1 : ¬ (3 : Int32) < x4) (t3 : gm_to N0 K ra_nm (ra_mt K) d 129 [.ref B, .int ((((3 : Int32) * x1) + x4) - (1 : Int32))] (bM B (mH B s) G) sz (.returned (some (.int r2)), bM B (mH B s4) G, sz, 0)) (c5 : ¬ r2 = 0) (ek6 : x1 = nI k6) (lk6 : k6 < 144) (c7 : x3 < 0) (t9 : gm_to N0 K ra_nm (ra_mt K) d 128 [.ref B, .int (41 : Int32)] (bM B (mH B (mA s4 14 (upd (s4.2.1 14) k6 (((4 : Int32) * x2) + x4)))) G) sz (.returned (some (.int r8)), bM B (mH B s10) G, sz, 0)) (c11 : ¬ r8 = 0) : gm_ev N0 K ra_nm (ra_mt K) d (some .boolean) (gm_I cX12_atom) (gm_lkf (lkX12 false K)) 75 [some (.ref B), some (.int x1), some (.int x2), some (.int x3), some (.int x4)] [] (bM B (mH B s) G) sz sl (.returned (some (.int (1 : Int32))), (bM B (mH B s10) G), sz, sl) := by
  refine gm_ev.iload i130_75 rfl ?_
  refine gm_ev.iconst (v := 3) i130_77 (by decide) ?_
  refine gm_ev.icmp_gt_f i130_78 c1 ?_
  refine gm_ev.aload_n i130_81 rfl ?_
  refine gm_ev.iconst (v := 3) i130_82 (by decide) ?_
  refine gm_ev.iload_n i130_83 rfl ?_
  refine gm_ev.imul i130_84 ?_
  refine gm_ev.iload i130_85 rfl ?_
  refine gm_ev.iadd i130_87 ?_
  refine gm_ev.iconst (v := 1) i130_88 (by decide) ?_
  refine gm_ev.isub i130_89 ?_
  refine gm_ev.callV gm_mono_run (av := [.int ((((3 : Int32) * x1) + x4) - (1 : Int32))]) (r := []) (ci := 11) (fs := mF B s) (bM_get (j := 0) rfl) i130_90 rfl rfl rfl (Nat.le_of_ble_eq_true rfl) t3 ?_
  refine gm_ev.if_ne_t (tgt := 98) i130_93 (by decide) c5 ?_
  refine gm_ev.aload_n i130_98 rfl ?_
  refine gm_ev.getfield (v := .ref (B + 6)) i130_99 rfl (bM_fld (j := 0) (fs := mF B s4) rfl rfl) ?_
  refine gm_ev.iload_n i130_102 rfl ?_
  refine gm_ev.iconst (v := 4) i130_103 (by decide) ?_
  refine gm_ev.iload_n i130_104 rfl ?_
  refine gm_ev.imul i130_105 ?_
  refine gm_ev.iload i130_106 rfl ?_
  refine gm_ev.iadd i130_108 ?_
  refine gm_ev.iastore (M' := (bM B (mH B (mA s4 14 (upd (s4.2.1 14) k6 (((4 : Int32) * x2) + x4)))) G)) i130_109 (bM_asti (j := 6) (n := 144) (f := s4.2.1 14) rfl ek6 lk6 (by decide) hN rfl) ?_
  refine gm_ev.iload_n i130_110 rfl ?_
  refine gm_ev.if_lt_t (tgt := 120) i130_111 (by decide) c7 ?_
  refine gm_ev.aload_n i130_120 rfl ?_
  refine gm_ev.bipush (v := 41) i130_121 (by decide) ?_
  refine gm_ev.callV gm_mono_run (av := [.int (41 : Int32)]) (r := []) (ci := 11) (fs := mF B (mA s4 14 (upd (s4.2.1 14) k6 (((4 : Int32) * x2) + x4)))) (bM_get (j := 0) rfl) i130_123 rfl rfl rfl (Nat.le_of_ble_eq_true rfl) t9 ?_
  refine gm_ev.if_eq_f i130_126 c11 ?_
  refine gm_ev.iconst (v := 1) i130_129 (by decide) ?_
  exact gm_ev.zret i130_130 rfl (by decide)
