/-! paths through RuleArenaModel, by program -/
theorem r_examine_0_f {N0 : Nat} {K : Nat → Nat} {d B : Nat} {s : mS} {G : gm_H} {sz sl : Nat} {s2 : mS} (hN : N0 ≤ B) (t1 : gm_to N0 K ra_nm (ra_mt K) d 183 [.ref B, .ref (B + 18), .int (s.1 32)] (bM B (mH B (mI (mI (mI s 41 (1 : Int32)) 24 (0 : Int32)) 43 (0 : Int32))) G) sz (.returned none, bM B (mH B s2) G, sz, 0)) (c3 : ¬ (s2.1 36) = (2 : Int32)) : gm_ev N0 K ra_nm (ra_mt K) d (some .int) (gm_I cX12_examine) (gm_lkf (lkX12 false K)) 0 [some (.ref B), none, none] [] (bM B (mH B s) G) sz sl (.returned (some (.int (1 : Int32))), (bM B (mH B s2) G), sz, sl) := by
  refine gm_ev.aload_n i186_0 rfl ?_
  refine gm_ev.iconst (v := 1) i186_1 (by decide) ?_
  refine gm_ev.putfield (M' := (bM B (mH B (mI s 41 (1 : Int32))) G)) i186_2 rfl (bM_put (j := 0) (fs := mF B s) rfl (Nat.le_of_ble_eq_true rfl) hN (gm_fit_z (by decide)) rfl) ?_
  refine gm_ev.aload_n i186_5 rfl ?_
  refine gm_ev.iconst (v := 0) i186_6 (by decide) ?_
  refine gm_ev.putfield (M' := (bM B (mH B (mI (mI s 41 (1 : Int32)) 24 (0 : Int32))) G)) i186_7 rfl (bM_put (j := 0) (fs := mF B (mI s 41 (1 : Int32))) rfl (Nat.le_of_ble_eq_true rfl) hN (gm_fit_z (by decide)) rfl) ?_
  refine gm_ev.aload_n i186_10 rfl ?_
  refine gm_ev.iconst (v := 0) i186_11 (by decide) ?_
  refine gm_ev.putfield (M' := (bM B (mH B (mI (mI (mI s 41 (1 : Int32)) 24 (0 : Int32)) 43 (0 : Int32))) G)) i186_12 rfl (bM_put (j := 0) (fs := mF B (mI (mI s 41 (1 : Int32)) 24 (0 : Int32))) rfl (Nat.le_of_ble_eq_true rfl) hN (gm_fit_i _) rfl) ?_
  refine gm_ev.aload_n i186_15 rfl ?_
  refine gm_ev.aload_n i186_16 rfl ?_
  refine gm_ev.getfield (v := .ref (B + 18)) i186_17 rfl (bM_fld (j := 0) (fs := mF B (mI (mI (mI s 41 (1 : Int32)) 24 (0 : Int32)) 43 (0 : Int32))) rfl rfl) ?_
  refine gm_ev.aload_n i186_20 rfl ?_
  refine gm_ev.getfield (v := .int (s.1 32)) i186_21 rfl (bM_fld (j := 0) (fs := mF B (mI (mI (mI s 41 (1 : Int32)) 24 (0 : Int32)) 43 (0 : Int32))) rfl rfl) ?_
  refine gm_ev.callV gm_mono_run (av := [.ref (B + 18), .int (s.1 32)]) (r := []) (ci := 11) (fs := mF B (mI (mI (mI s 41 (1 : Int32)) 24 (0 : Int32)) 43 (0 : Int32))) (bM_get (j := 0) rfl) i186_24 rfl rfl rfl (Nat.le_of_ble_eq_true rfl) t1 ?_
  refine gm_ev.aload_n i186_27 rfl ?_
  refine gm_ev.getfield (v := .int (s2.1 36)) i186_28 rfl (bM_fld (j := 0) (fs := mF B s2) rfl rfl) ?_
  refine gm_ev.iconst (v := 2) i186_31 (by decide) ?_
  refine gm_ev.icmp_eq_f i186_32 c3 ?_
  refine gm_ev.iconst (v := 1) i186_35 (by decide) ?_
  exact gm_ev.iret i186_36 rfl
theorem r_examine_46_tt {N0 : Nat} {K : Nat → Nat} {d B : Nat} {s : mS} {G : gm_H} {sz sl : Nat} {x1 : Int32} {r2 : Int32} {s4 : mS} (hN : N0 ≤ B) (c1 : (s.1 43) ≤ x1) (t3 : gm_to N0 K ra_nm (ra_mt K) d 185 [.ref B] (bM B (mH B s) G) sz (.returned (some (.int r2)), bM B (mH B s4) G, sz, 0)) (c5 : r2 = 0) : gm_ev N0 K ra_nm (ra_mt K) d (some .int) (gm_I cX12_examine) (gm_lkf (lkX12 false K)) 46 [some (.ref B), some (.int x1), none] [] (bM B (mH B s) G) sz sl (.returned (some (.int (6 : Int32))), (bM B (mH B s4) G), sz, sl) := by
  refine gm_ev.iload_n i186_46 rfl ?_
  refine gm_ev.aload_n i186_47 rfl ?_
  refine gm_ev.getfield (v := .int (s.1 43)) i186_48 rfl (bM_fld (j := 0) (fs := mF B s) rfl rfl) ?_
  refine gm_ev.icmp_ge_t (tgt := 72) i186_51 (by decide) c1 ?_
  refine gm_ev.aload_n i186_72 rfl ?_
  refine gm_ev.callV gm_mono_run (av := []) (r := []) (ci := 11) (fs := mF B s) (bM_get (j := 0) rfl) i186_73 rfl rfl rfl (Nat.le_of_ble_eq_true rfl) t3 ?_
  refine gm_ev.if_eq_t (tgt := 83) i186_76 (by decide) c5 ?_
  refine gm_ev.bipush (v := 6) i186_83 (by decide) ?_
  exact gm_ev.iret i186_85 rfl
theorem r_examine_46_tf {N0 : Nat} {K : Nat → Nat} {d B : Nat} {s : mS} {G : gm_H} {sz sl : Nat} {x1 : Int32} {r2 : Int32} {s4 : mS} (hN : N0 ≤ B) (c1 : (s.1 43) ≤ x1) (t3 : gm_to N0 K ra_nm (ra_mt K) d 185 [.ref B] (bM B (mH B s) G) sz (.returned (some (.int r2)), bM B (mH B s4) G, sz, 0)) (c5 : ¬ r2 = 0) : gm_ev N0 K ra_nm (ra_mt K) d (some .int) (gm_I cX12_examine) (gm_lkf (lkX12 false K)) 46 [some (.ref B), some (.int x1), none] [] (bM B (mH B s) G) sz sl (.returned (some (.int (0 : Int32))), (bM B (mH B s4) G), sz, sl) := by
  refine gm_ev.iload_n i186_46 rfl ?_
  refine gm_ev.aload_n i186_47 rfl ?_
  refine gm_ev.getfield (v := .int (s.1 43)) i186_48 rfl (bM_fld (j := 0) (fs := mF B s) rfl rfl) ?_
  refine gm_ev.icmp_ge_t (tgt := 72) i186_51 (by decide) c1 ?_
  refine gm_ev.aload_n i186_72 rfl ?_
  refine gm_ev.callV gm_mono_run (av := []) (r := []) (ci := 11) (fs := mF B s) (bM_get (j := 0) rfl) i186_73 rfl rfl rfl (Nat.le_of_ble_eq_true rfl) t3 ?_
  refine gm_ev.if_eq_f i186_76 c5 ?_
  refine gm_ev.iconst (v := 0) i186_79 (by decide) ?_
  refine gm_ev.goto (tgt := 85) i186_80 (by decide) ?_
  exact gm_ev.iret i186_85 rfl
theorem r_examine_46_ft_at46 {N0 : Nat} {K : Nat → Nat} {d B : Nat} {s : mS} {G : gm_H} {sz sl : Nat} {R : gm_R} {x1 : Int32} {r2 : Int32} {s4 : mS} (hN : N0 ≤ B) (c1 : ¬ (s.1 43) ≤ x1) (t3 : gm_to N0 K ra_nm (ra_mt K) d 184 [.ref B, .int x1] (bM B (mH B s) G) sz (.returned (some (.int r2)), bM B (mH B s4) G, sz, 0)) (c5 : r2 ≤ 0) (k : gm_ev N0 K ra_nm (ra_mt K) d (some .int) (gm_I cX12_examine) (gm_lkf (lkX12 false K)) 46 [some (.ref B), some (.int (x1 + (1 : Int32))), none] [] (bM B (mH B s4) G) sz sl R) : gm_ev N0 K ra_nm (ra_mt K) d (some .int) (gm_I cX12_examine) (gm_lkf (lkX12 false K)) 46 [some (.ref B), some (.int x1), none] [] (bM B (mH B s) G) sz sl R := by
  refine gm_ev.iload_n i186_46 rfl ?_
  refine gm_ev.aload_n i186_47 rfl ?_
  refine gm_ev.getfield (v := .int (s.1 43)) i186_48 rfl (bM_fld (j := 0) (fs := mF B s) rfl rfl) ?_
  refine gm_ev.icmp_ge_f i186_51 c1 ?_
  refine gm_ev.aload_n i186_54 rfl ?_
  refine gm_ev.iload_n i186_55 rfl ?_
  refine gm_ev.callV gm_mono_run (av := [.int x1]) (r := []) (ci := 11) (fs := mF B s) (bM_get (j := 0) rfl) i186_56 rfl rfl rfl (Nat.le_of_ble_eq_true rfl) t3 ?_
  refine gm_ev.istore_n (ls' := [some (.ref B), some (.int x1), some (.int r2)]) i186_59 (Nat.le_of_ble_eq_true rfl) rfl ?_
  refine gm_ev.iload_n i186_60 rfl ?_
  refine gm_ev.if_le_t (tgt := 66) i186_61 (by decide) c5 ?_
  refine gm_ev.iinc (v := x1 + (1 : Int32)) (ls' := [some (.ref B), some (.int (x1 + (1 : Int32))), some (.int r2)]) i186_66 rfl (by rfl) rfl ?_
  refine gm_ev.goto (tgt := 46) i186_69 (by decide) ?_
  refine gm_ev.le (a := [some (.ref B), some (.int (x1 + (1 : Int32))), none]) (gm_leL.le (show gm_leL _ _ from ⟨rfl, ⟨rfl, trivial⟩⟩)) ?_
  exact k
theorem r_examine_46_ff {N0 : Nat} {K : Nat → Nat} {d B : Nat} {s : mS} {G : gm_H} {sz sl : Nat} {x1 : Int32} {r2 : Int32} {s4 : mS} (hN : N0 ≤ B) (c1 : ¬ (s.1 43) ≤ x1) (t3 : gm_to N0 K ra_nm (ra_mt K) d 184 [.ref B, .int x1] (bM B (mH B s) G) sz (.returned (some (.int r2)), bM B (mH B s4) G, sz, 0)) (c5 : ¬ r2 ≤ 0) : gm_ev N0 K ra_nm (ra_mt K) d (some .int) (gm_I cX12_examine) (gm_lkf (lkX12 false K)) 46 [some (.ref B), some (.int x1), none] [] (bM B (mH B s) G) sz sl (.returned (some (.int r2)), (bM B (mH B s4) G), sz, sl) := by
  refine gm_ev.iload_n i186_46 rfl ?_
  refine gm_ev.aload_n i186_47 rfl ?_
  refine gm_ev.getfield (v := .int (s.1 43)) i186_48 rfl (bM_fld (j := 0) (fs := mF B s) rfl rfl) ?_
  refine gm_ev.icmp_ge_f i186_51 c1 ?_
  refine gm_ev.aload_n i186_54 rfl ?_
  refine gm_ev.iload_n i186_55 rfl ?_
  refine gm_ev.callV gm_mono_run (av := [.int x1]) (r := []) (ci := 11) (fs := mF B s) (bM_get (j := 0) rfl) i186_56 rfl rfl rfl (Nat.le_of_ble_eq_true rfl) t3 ?_
  refine gm_ev.istore_n (ls' := [some (.ref B), some (.int x1), some (.int r2)]) i186_59 (Nat.le_of_ble_eq_true rfl) rfl ?_
  refine gm_ev.iload_n i186_60 rfl ?_
  refine gm_ev.if_le_f i186_61 c5 ?_
  refine gm_ev.iload_n i186_64 rfl ?_
  exact gm_ev.iret i186_65 rfl
theorem r_audit_0_t {N0 : Nat} {K : Nat → Nat} {d B : Nat} {s : mS} {G : gm_H} {sz sl : Nat} {r2 : Int32} {s4 : mS} (hN : N0 ≤ B) (c1 : ¬ (s.1 5) = 0) (t3 : gm_to N0 K ra_nm (ra_mt K) d 186 [.ref B] (bM B (mH B (mI s 0 (0 : Int32))) G) sz (.returned (some (.int r2)), bM B (mH B s4) G, sz, 0)) : gm_ev N0 K ra_nm (ra_mt K) d (some .int) (gm_I cX12_audit) (gm_lkf (lkX12 false K)) 0 [some (.ref B)] [] (bM B (mH B s) G) sz sl (.returned (some (.int r2)), (bM B (mH B (mI (mI s4 42 r2) 24 (0 : Int32))) G), sz, sl) := by
  refine gm_ev.aload_n i187_0 rfl ?_
  refine gm_ev.iconst (v := 0) i187_1 (by decide) ?_
  refine gm_ev.putfield (M' := (bM B (mH B (mI s 0 (0 : Int32))) G)) i187_2 rfl (bM_put (j := 0) (fs := mF B s) rfl (Nat.le_of_ble_eq_true rfl) hN (gm_fit_i _) rfl) ?_
  refine gm_ev.aload_n i187_5 rfl ?_
  refine gm_ev.getfield (v := .int (s.1 5)) i187_6 rfl (bM_fld (j := 0) (fs := mF B (mI s 0 (0 : Int32))) rfl rfl) ?_
  refine gm_ev.if_ne_t (tgt := 18) i187_9 (by decide) c1 ?_
  refine gm_ev.aload_n i187_18 rfl ?_
  refine gm_ev.aload_n i187_19 rfl ?_
  refine gm_ev.callV gm_mono_run (av := []) (r := [.ref B]) (ci := 11) (fs := mF B (mI s 0 (0 : Int32))) (bM_get (j := 0) rfl) i187_20 rfl rfl rfl (Nat.le_of_ble_eq_true rfl) t3 ?_
  refine gm_ev.putfield (M' := (bM B (mH B (mI s4 42 r2)) G)) i187_23 rfl (bM_put (j := 0) (fs := mF B s4) rfl (Nat.le_of_ble_eq_true rfl) hN (gm_fit_i _) rfl) ?_
  refine gm_ev.aload_n i187_26 rfl ?_
  refine gm_ev.iconst (v := 0) i187_27 (by decide) ?_
  refine gm_ev.putfield (M' := (bM B (mH B (mI (mI s4 42 r2) 24 (0 : Int32))) G)) i187_28 rfl (bM_put (j := 0) (fs := mF B (mI s4 42 r2)) rfl (Nat.le_of_ble_eq_true rfl) hN (gm_fit_z (by decide)) rfl) ?_
  refine gm_ev.aload_n i187_31 rfl ?_
  refine gm_ev.getfield (v := .int r2) i187_32 rfl (bM_fld (j := 0) (fs := mF B (mI (mI s4 42 r2) 24 (0 : Int32))) rfl rfl) ?_
  exact gm_ev.iret i187_35 rfl
theorem r_audit_0_f {N0 : Nat} {K : Nat → Nat} {d B : Nat} {s : mS} {G : gm_H} {sz sl : Nat} {r2 : Int32} {s4 : mS} (hN : N0 ≤ B) (c1 : (s.1 5) = 0) (t3 : gm_to N0 K ra_nm (ra_mt K) d 120 [.ref B, .int (1 : Int32)] (bM B (mH B (mI s 0 (0 : Int32))) G) sz (.returned (some (.int r2)), bM B (mH B s4) G, sz, 0)) : gm_ev N0 K ra_nm (ra_mt K) d (some .int) (gm_I cX12_audit) (gm_lkf (lkX12 false K)) 0 [some (.ref B)] [] (bM B (mH B s) G) sz sl (.returned (some (.int r2)), (bM B (mH B s4) G), sz, sl) := by
  refine gm_ev.aload_n i187_0 rfl ?_
  refine gm_ev.iconst (v := 0) i187_1 (by decide) ?_
  refine gm_ev.putfield (M' := (bM B (mH B (mI s 0 (0 : Int32))) G)) i187_2 rfl (bM_put (j := 0) (fs := mF B s) rfl (Nat.le_of_ble_eq_true rfl) hN (gm_fit_i _) rfl) ?_
  refine gm_ev.aload_n i187_5 rfl ?_
  refine gm_ev.getfield (v := .int (s.1 5)) i187_6 rfl (bM_fld (j := 0) (fs := mF B (mI s 0 (0 : Int32))) rfl rfl) ?_
  refine gm_ev.if_ne_f i187_9 c1 ?_
  refine gm_ev.aload_n i187_12 rfl ?_
  refine gm_ev.iconst (v := 1) i187_13 (by decide) ?_
  refine gm_ev.callV gm_mono_run (av := [.int (1 : Int32)]) (r := []) (ci := 11) (fs := mF B (mI s 0 (0 : Int32))) (bM_get (j := 0) rfl) i187_14 rfl rfl rfl (Nat.le_of_ble_eq_true rfl) t3 ?_
  exact gm_ev.iret i187_17 rfl
theorem r_refuses_0_ttt {N0 : Nat} {K : Nat → Nat} {d B : Nat} {s : mS} {G : gm_H} {sz sl : Nat}  (hN : N0 ≤ B) (c1 : ¬ (s.1 5) = 0) (c2 : ¬ (s.1 41) = 0) (c3 : (s.1 42) = 0) : gm_ev N0 K ra_nm (ra_mt K) d (some .int) (gm_I cX12_refuses) (gm_lkf (lkX12 false K)) 0 [some (.ref B)] [] (bM B (mH B s) G) sz sl (.returned (some (.int (0 : Int32))), (bM B (mH B s) G), sz, sl) := by
  refine gm_ev.aload_n i188_0 rfl ?_
  refine gm_ev.getfield (v := .int (s.1 5)) i188_1 rfl (bM_fld (j := 0) (fs := mF B s) rfl rfl) ?_
  refine gm_ev.if_ne_t (tgt := 9) i188_4 (by decide) c1 ?_
  refine gm_ev.aload_n i188_9 rfl ?_
  refine gm_ev.getfield (v := .int (s.1 41)) i188_10 rfl (bM_fld (j := 0) (fs := mF B s) rfl rfl) ?_
  refine gm_ev.if_ne_t (tgt := 24) i188_13 (by decide) c2 ?_
  refine gm_ev.aload_n i188_24 rfl ?_
  refine gm_ev.getfield (v := .int (s.1 42)) i188_25 rfl (bM_fld (j := 0) (fs := mF B s) rfl rfl) ?_
  refine gm_ev.if_eq_t (tgt := 35) i188_28 (by decide) c3 ?_
  refine gm_ev.iconst (v := 0) i188_35 (by decide) ?_
  exact gm_ev.iret i188_36 rfl
theorem r_refuses_0_ttf {N0 : Nat} {K : Nat → Nat} {d B : Nat} {s : mS} {G : gm_H} {sz sl : Nat}  (hN : N0 ≤ B) (c1 : ¬ (s.1 5) = 0) (c2 : ¬ (s.1 41) = 0) (c3 : ¬ (s.1 42) = 0) : gm_ev N0 K ra_nm (ra_mt K) d (some .int) (gm_I cX12_refuses) (gm_lkf (lkX12 false K)) 0 [some (.ref B)] [] (bM B (mH B s) G) sz sl (.returned (some (.int (2 : Int32))), (bM B (mH B s) G), sz, sl) := by
  refine gm_ev.aload_n i188_0 rfl ?_
  refine gm_ev.getfield (v := .int (s.1 5)) i188_1 rfl (bM_fld (j := 0) (fs := mF B s) rfl rfl) ?_
  refine gm_ev.if_ne_t (tgt := 9) i188_4 (by decide) c1 ?_
  refine gm_ev.aload_n i188_9 rfl ?_
  refine gm_ev.getfield (v := .int (s.1 41)) i188_10 rfl (bM_fld (j := 0) (fs := mF B s) rfl rfl) ?_
  refine gm_ev.if_ne_t (tgt := 24) i188_13 (by decide) c2 ?_
  refine gm_ev.aload_n i188_24 rfl ?_
  refine gm_ev.getfield (v := .int (s.1 42)) i188_25 rfl (bM_fld (j := 0) (fs := mF B s) rfl rfl) ?_
  refine gm_ev.if_eq_f i188_28 c3 ?_
  refine gm_ev.iconst (v := 2) i188_31 (by decide) ?_
  refine gm_ev.goto (tgt := 36) i188_32 (by decide) ?_
  exact gm_ev.iret i188_36 rfl
theorem r_refuses_0_tft {N0 : Nat} {K : Nat → Nat} {d B : Nat} {s : mS} {G : gm_H} {sz sl : Nat} {r3 : Int32} {s5 : mS} (hN : N0 ≤ B) (c1 : ¬ (s.1 5) = 0) (c2 : (s.1 41) = 0) (t4 : gm_to N0 K ra_nm (ra_mt K) d 186 [.ref B] (bM B (mH B s) G) sz (.returned (some (.int r3)), bM B (mH B s5) G, sz, 0)) (c6 : r3 = 0) : gm_ev N0 K ra_nm (ra_mt K) d (some .int) (gm_I cX12_refuses) (gm_lkf (lkX12 false K)) 0 [some (.ref B)] [] (bM B (mH B s) G) sz sl (.returned (some (.int (0 : Int32))), (bM B (mH B (mI s5 42 r3)) G), sz, sl) := by
  refine gm_ev.aload_n i188_0 rfl ?_
  refine gm_ev.getfield (v := .int (s.1 5)) i188_1 rfl (bM_fld (j := 0) (fs := mF B s) rfl rfl) ?_
  refine gm_ev.if_ne_t (tgt := 9) i188_4 (by decide) c1 ?_
  refine gm_ev.aload_n i188_9 rfl ?_
  refine gm_ev.getfield (v := .int (s.1 41)) i188_10 rfl (bM_fld (j := 0) (fs := mF B s) rfl rfl) ?_
  refine gm_ev.if_ne_f i188_13 c2 ?_
  refine gm_ev.aload_n i188_16 rfl ?_
  refine gm_ev.aload_n i188_17 rfl ?_
  refine gm_ev.callV gm_mono_run (av := []) (r := [.ref B]) (ci := 11) (fs := mF B s) (bM_get (j := 0) rfl) i188_18 rfl rfl rfl (Nat.le_of_ble_eq_true rfl) t4 ?_
  refine gm_ev.putfield (M' := (bM B (mH B (mI s5 42 r3)) G)) i188_21 rfl (bM_put (j := 0) (fs := mF B s5) rfl (Nat.le_of_ble_eq_true rfl) hN (gm_fit_i _) rfl) ?_
  refine gm_ev.aload_n i188_24 rfl ?_
  refine gm_ev.getfield (v := .int r3) i188_25 rfl (bM_fld (j := 0) (fs := mF B (mI s5 42 r3)) rfl rfl) ?_
  refine gm_ev.if_eq_t (tgt := 35) i188_28 (by decide) c6 ?_
  refine gm_ev.iconst (v := 0) i188_35 (by decide) ?_
  exact gm_ev.iret i188_36 rfl
theorem r_refuses_0_tff {N0 : Nat} {K : Nat → Nat} {d B : Nat} {s : mS} {G : gm_H} {sz sl : Nat} {r3 : Int32} {s5 : mS} (hN : N0 ≤ B) (c1 : ¬ (s.1 5) = 0) (c2 : (s.1 41) = 0) (t4 : gm_to N0 K ra_nm (ra_mt K) d 186 [.ref B] (bM B (mH B s) G) sz (.returned (some (.int r3)), bM B (mH B s5) G, sz, 0)) (c6 : ¬ r3 = 0) : gm_ev N0 K ra_nm (ra_mt K) d (some .int) (gm_I cX12_refuses) (gm_lkf (lkX12 false K)) 0 [some (.ref B)] [] (bM B (mH B s) G) sz sl (.returned (some (.int (2 : Int32))), (bM B (mH B (mI s5 42 r3)) G), sz, sl) := by
  refine gm_ev.aload_n i188_0 rfl ?_
  refine gm_ev.getfield (v := .int (s.1 5)) i188_1 rfl (bM_fld (j := 0) (fs := mF B s) rfl rfl) ?_
  refine gm_ev.if_ne_t (tgt := 9) i188_4 (by decide) c1 ?_
  refine gm_ev.aload_n i188_9 rfl ?_
  refine gm_ev.getfield (v := .int (s.1 41)) i188_10 rfl (bM_fld (j := 0) (fs := mF B s) rfl rfl) ?_
  refine gm_ev.if_ne_f i188_13 c2 ?_
  refine gm_ev.aload_n i188_16 rfl ?_
  refine gm_ev.aload_n i188_17 rfl ?_
  refine gm_ev.callV gm_mono_run (av := []) (r := [.ref B]) (ci := 11) (fs := mF B s) (bM_get (j := 0) rfl) i188_18 rfl rfl rfl (Nat.le_of_ble_eq_true rfl) t4 ?_
  refine gm_ev.putfield (M' := (bM B (mH B (mI s5 42 r3)) G)) i188_21 rfl (bM_put (j := 0) (fs := mF B s5) rfl (Nat.le_of_ble_eq_true rfl) hN (gm_fit_i _) rfl) ?_
  refine gm_ev.aload_n i188_24 rfl ?_
  refine gm_ev.getfield (v := .int r3) i188_25 rfl (bM_fld (j := 0) (fs := mF B (mI s5 42 r3)) rfl rfl) ?_
  refine gm_ev.if_eq_f i188_28 c6 ?_
  refine gm_ev.iconst (v := 2) i188_31 (by decide) ?_
  refine gm_ev.goto (tgt := 36) i188_32 (by decide) ?_
  exact gm_ev.iret i188_36 rfl
theorem r_refuses_0_f {N0 : Nat} {K : Nat → Nat} {d B : Nat} {s : mS} {G : gm_H} {sz sl : Nat}  (hN : N0 ≤ B) (c1 : (s.1 5) = 0) : gm_ev N0 K ra_nm (ra_mt K) d (some .int) (gm_I cX12_refuses) (gm_lkf (lkX12 false K)) 0 [some (.ref B)] [] (bM B (mH B s) G) sz sl (.returned (some (.int (1 : Int32))), (bM B (mH B s) G), sz, sl) := by
  refine gm_ev.aload_n i188_0 rfl ?_
  refine gm_ev.getfield (v := .int (s.1 5)) i188_1 rfl (bM_fld (j := 0) (fs := mF B s) rfl rfl) ?_
  refine gm_ev.if_ne_f i188_4 c1 ?_
  refine gm_ev.iconst (v := 1) i188_7 (by decide) ?_
  exact gm_ev.iret i188_8 rfl
theorem r_worth_0_t {N0 : Nat} {K : Nat → Nat} {d B : Nat} {s : mS} {G : gm_H} {sz sl : Nat} {r1 : Int32} {s3 : mS} {r5 : Int32} {k7 : Nat} (hN : N0 ≤ B) (t2 : gm_to N0 K ra_nm (ra_mt K) d 188 [.ref B] (bM B (mH B s) G) sz (.returned (some (.int r1)), bM B (mH B s3) G, sz, 0)) (c4 : r1 ≤ 0) (t6 : gm_to N0 K ra_nm (ra_mt K) d 182 [.ref B, .ref (B + 17), .int (s3.1 30)] (bM B (mH B (mI (mI s3 0 r1) 24 (0 : Int32))) G) sz (.returned (some (.int r5)), bM B (mH B (mI (mI s3 0 r1) 24 (0 : Int32))) G, sz, 0)) (ek7 : r5 = nI k7) (lk7 : k7 < 60) : gm_ev N0 K ra_nm (ra_mt K) d (some .int) (gm_I cX12_worth) (gm_lkf (lkX12 false K)) 0 [some (.ref B)] [] (bM B (mH B s) G) sz sl (.returned (some (.int (s3.2.1 49 k7))), (bM B (mH B (mI (mI s3 0 r1) 24 (0 : Int32))) G), sz, sl) := by
  refine gm_ev.aload_n i189_0 rfl ?_
  refine gm_ev.aload_n i189_1 rfl ?_
  refine gm_ev.callV gm_mono_run (av := []) (r := [.ref B]) (ci := 11) (fs := mF B s) (bM_get (j := 0) rfl) i189_2 rfl rfl rfl (Nat.le_of_ble_eq_true rfl) t2 ?_
  refine gm_ev.putfield (M' := (bM B (mH B (mI s3 0 r1)) G)) i189_5 rfl (bM_put (j := 0) (fs := mF B s3) rfl (Nat.le_of_ble_eq_true rfl) hN (gm_fit_i _) rfl) ?_
  refine gm_ev.aload_n i189_8 rfl ?_
  refine gm_ev.iconst (v := 0) i189_9 (by decide) ?_
  refine gm_ev.putfield (M' := (bM B (mH B (mI (mI s3 0 r1) 24 (0 : Int32))) G)) i189_10 rfl (bM_put (j := 0) (fs := mF B (mI s3 0 r1)) rfl (Nat.le_of_ble_eq_true rfl) hN (gm_fit_z (by decide)) rfl) ?_
  refine gm_ev.aload_n i189_13 rfl ?_
  refine gm_ev.getfield (v := .int r1) i189_14 rfl (bM_fld (j := 0) (fs := mF B (mI (mI s3 0 r1) 24 (0 : Int32))) rfl rfl) ?_
  refine gm_ev.if_le_t (tgt := 24) i189_17 (by decide) c4 ?_
  refine gm_ev.aload_n i189_24 rfl ?_
  refine gm_ev.getfield (v := .ref (B + 29)) i189_25 rfl (bM_fld (j := 0) (fs := mF B (mI (mI s3 0 r1) 24 (0 : Int32))) rfl rfl) ?_
  refine gm_ev.aload_n i189_28 rfl ?_
  refine gm_ev.aload_n i189_29 rfl ?_
  refine gm_ev.getfield (v := .ref (B + 17)) i189_30 rfl (bM_fld (j := 0) (fs := mF B (mI (mI s3 0 r1) 24 (0 : Int32))) rfl rfl) ?_
  refine gm_ev.aload_n i189_33 rfl ?_
  refine gm_ev.getfield (v := .int (s3.1 30)) i189_34 rfl (bM_fld (j := 0) (fs := mF B (mI (mI s3 0 r1) 24 (0 : Int32))) rfl rfl) ?_
  refine gm_ev.callV gm_mono_run (av := [.ref (B + 17), .int (s3.1 30)]) (r := [.ref (B + 29)]) (ci := 11) (fs := mF B (mI (mI s3 0 r1) 24 (0 : Int32))) (bM_get (j := 0) rfl) i189_37 rfl rfl rfl (Nat.le_of_ble_eq_true rfl) t6 ?_
  refine gm_ev.iaload i189_40 (bM_ai (j := 29) (n := 60) (f := s3.2.1 49) rfl ek7 lk7 (by decide)) ?_
  exact gm_ev.iret i189_41 rfl
theorem r_worth_0_f {N0 : Nat} {K : Nat → Nat} {d B : Nat} {s : mS} {G : gm_H} {sz sl : Nat} {r1 : Int32} {s3 : mS} (hN : N0 ≤ B) (t2 : gm_to N0 K ra_nm (ra_mt K) d 188 [.ref B] (bM B (mH B s) G) sz (.returned (some (.int r1)), bM B (mH B s3) G, sz, 0)) (c4 : ¬ r1 ≤ 0) : gm_ev N0 K ra_nm (ra_mt K) d (some .int) (gm_I cX12_worth) (gm_lkf (lkX12 false K)) 0 [some (.ref B)] [] (bM B (mH B s) G) sz sl (.returned (some (.int (0 : Int32))), (bM B (mH B (mI (mI s3 0 r1) 24 (0 : Int32))) G), sz, sl) := by
  refine gm_ev.aload_n i189_0 rfl ?_
  refine gm_ev.aload_n i189_1 rfl ?_
  refine gm_ev.callV gm_mono_run (av := []) (r := [.ref B]) (ci := 11) (fs := mF B s) (bM_get (j := 0) rfl) i189_2 rfl rfl rfl (Nat.le_of_ble_eq_true rfl) t2 ?_
  refine gm_ev.putfield (M' := (bM B (mH B (mI s3 0 r1)) G)) i189_5 rfl (bM_put (j := 0) (fs := mF B s3) rfl (Nat.le_of_ble_eq_true rfl) hN (gm_fit_i _) rfl) ?_
  refine gm_ev.aload_n i189_8 rfl ?_
  refine gm_ev.iconst (v := 0) i189_9 (by decide) ?_
  refine gm_ev.putfield (M' := (bM B (mH B (mI (mI s3 0 r1) 24 (0 : Int32))) G)) i189_10 rfl (bM_put (j := 0) (fs := mF B (mI s3 0 r1)) rfl (Nat.le_of_ble_eq_true rfl) hN (gm_fit_z (by decide)) rfl) ?_
  refine gm_ev.aload_n i189_13 rfl ?_
  refine gm_ev.getfield (v := .int r1) i189_14 rfl (bM_fld (j := 0) (fs := mF B (mI (mI s3 0 r1) 24 (0 : Int32))) rfl rfl) ?_
  refine gm_ev.if_le_f i189_17 c4 ?_
  refine gm_ev.iconst (v := 0) i189_20 (by decide) ?_
  refine gm_ev.goto (tgt := 41) i189_21 (by decide) ?_
  exact gm_ev.iret i189_41 rfl
theorem r_best_0_tt_at57 {N0 : Nat} {K : Nat → Nat} {d B : Nat} {s : mS} {G : gm_H} {sz sl : Nat} {R : gm_R} {r1 : Int32} {s3 : mS} {r5 : Int32} {k7 : Nat} {k9 : Nat} (hN : N0 ≤ B) (t2 : gm_to N0 K ra_nm (ra_mt K) d 188 [.ref B] (bM B (mH B s) G) sz (.returned (some (.int r1)), bM B (mH B s3) G, sz, 0)) (c4 : r1 ≤ 0) (t6 : gm_to N0 K ra_nm (ra_mt K) d 182 [.ref B, .ref (B + 17), .int (s3.1 30)] (bM B (mH B (mI (mI s3 0 r1) 24 (0 : Int32))) G) sz (.returned (some (.int r5)), bM B (mH B (mI (mI s3 0 r1) 24 (0 : Int32))) G, sz, 0)) (ek7 : r5 = nI k7) (lk7 : k7 < 60) (c8 : ¬ (s3.2.1 48 k7) = 0) (ek9 : r5 = nI k9) (lk9 : k9 < 61) (k : gm_ev N0 K ra_nm (ra_mt K) d (some .int) (gm_I cX12_best) (gm_lkf (lkX12 false K)) 57 [some (.ref B), some (.int r5), some (.int (s3.2.1 46 k9)), none] [] (bM B (mH B (mI (mI s3 0 r1) 24 (0 : Int32))) G) sz sl R) : gm_ev N0 K ra_nm (ra_mt K) d (some .int) (gm_I cX12_best) (gm_lkf (lkX12 false K)) 0 [some (.ref B), none, none, none] [] (bM B (mH B s) G) sz sl R := by
  refine gm_ev.aload_n i190_0 rfl ?_
  refine gm_ev.aload_n i190_1 rfl ?_
  refine gm_ev.callV gm_mono_run (av := []) (r := [.ref B]) (ci := 11) (fs := mF B s) (bM_get (j := 0) rfl) i190_2 rfl rfl rfl (Nat.le_of_ble_eq_true rfl) t2 ?_
  refine gm_ev.putfield (M' := (bM B (mH B (mI s3 0 r1)) G)) i190_5 rfl (bM_put (j := 0) (fs := mF B s3) rfl (Nat.le_of_ble_eq_true rfl) hN (gm_fit_i _) rfl) ?_
  refine gm_ev.aload_n i190_8 rfl ?_
  refine gm_ev.iconst (v := 0) i190_9 (by decide) ?_
  refine gm_ev.putfield (M' := (bM B (mH B (mI (mI s3 0 r1) 24 (0 : Int32))) G)) i190_10 rfl (bM_put (j := 0) (fs := mF B (mI s3 0 r1)) rfl (Nat.le_of_ble_eq_true rfl) hN (gm_fit_z (by decide)) rfl) ?_
  refine gm_ev.aload_n i190_13 rfl ?_
  refine gm_ev.getfield (v := .int r1) i190_14 rfl (bM_fld (j := 0) (fs := mF B (mI (mI s3 0 r1) 24 (0 : Int32))) rfl rfl) ?_
  refine gm_ev.if_le_t (tgt := 22) i190_17 (by decide) c4 ?_
  refine gm_ev.aload_n i190_22 rfl ?_
  refine gm_ev.aload_n i190_23 rfl ?_
  refine gm_ev.getfield (v := .ref (B + 17)) i190_24 rfl (bM_fld (j := 0) (fs := mF B (mI (mI s3 0 r1) 24 (0 : Int32))) rfl rfl) ?_
  refine gm_ev.aload_n i190_27 rfl ?_
  refine gm_ev.getfield (v := .int (s3.1 30)) i190_28 rfl (bM_fld (j := 0) (fs := mF B (mI (mI s3 0 r1) 24 (0 : Int32))) rfl rfl) ?_
  refine gm_ev.callV gm_mono_run (av := [.ref (B + 17), .int (s3.1 30)]) (r := []) (ci := 11) (fs := mF B (mI (mI s3 0 r1) 24 (0 : Int32))) (bM_get (j := 0) rfl) i190_31 rfl rfl rfl (Nat.le_of_ble_eq_true rfl) t6 ?_
  refine gm_ev.istore_n (ls' := [some (.ref B), some (.int r5), none, none]) i190_34 (Nat.le_of_ble_eq_true rfl) rfl ?_
  refine gm_ev.aload_n i190_35 rfl ?_
  refine gm_ev.getfield (v := .ref (B + 28)) i190_36 rfl (bM_fld (j := 0) (fs := mF B (mI (mI s3 0 r1) 24 (0 : Int32))) rfl rfl) ?_
  refine gm_ev.iload_n i190_39 rfl ?_
  refine gm_ev.iaload i190_40 (bM_ai (j := 28) (n := 60) (f := s3.2.1 48) rfl ek7 lk7 (by decide)) ?_
  refine gm_ev.if_ne_t (tgt := 50) i190_41 (by decide) c8 ?_
  refine gm_ev.aload_n i190_50 rfl ?_
  refine gm_ev.getfield (v := .ref (B + 26)) i190_51 rfl (bM_fld (j := 0) (fs := mF B (mI (mI s3 0 r1) 24 (0 : Int32))) rfl rfl) ?_
  refine gm_ev.iload_n i190_54 rfl ?_
  refine gm_ev.iaload i190_55 (bM_ai (j := 26) (n := 61) (f := s3.2.1 46) rfl ek9 lk9 (by decide)) ?_
  refine gm_ev.istore_n (ls' := [some (.ref B), some (.int r5), some (.int (s3.2.1 46 k9)), none]) i190_56 (Nat.le_of_ble_eq_true rfl) rfl ?_
  exact k
theorem r_best_0_tf {N0 : Nat} {K : Nat → Nat} {d B : Nat} {s : mS} {G : gm_H} {sz sl : Nat} {r1 : Int32} {s3 : mS} {r5 : Int32} {k7 : Nat} {r9 : Int32} {s11 : mS} (hN : N0 ≤ B) (t2 : gm_to N0 K ra_nm (ra_mt K) d 188 [.ref B] (bM B (mH B s) G) sz (.returned (some (.int r1)), bM B (mH B s3) G, sz, 0)) (c4 : r1 ≤ 0) (t6 : gm_to N0 K ra_nm (ra_mt K) d 182 [.ref B, .ref (B + 17), .int (s3.1 30)] (bM B (mH B (mI (mI s3 0 r1) 24 (0 : Int32))) G) sz (.returned (some (.int r5)), bM B (mH B (mI (mI s3 0 r1) 24 (0 : Int32))) G, sz, 0)) (ek7 : r5 = nI k7) (lk7 : k7 < 60) (c8 : (s3.2.1 48 k7) = 0) (t10 : gm_to N0 K ra_nm (ra_mt K) d 120 [.ref B, .int (3 : Int32)] (bM B (mH B (mI (mI s3 0 r1) 24 (0 : Int32))) G) sz (.returned (some (.int r9)), bM B (mH B s11) G, sz, 0)) : gm_ev N0 K ra_nm (ra_mt K) d (some .int) (gm_I cX12_best) (gm_lkf (lkX12 false K)) 0 [some (.ref B), none, none, none] [] (bM B (mH B s) G) sz sl (.returned (some (.int r9)), (bM B (mH B s11) G), sz, sl) := by
  refine gm_ev.aload_n i190_0 rfl ?_
  refine gm_ev.aload_n i190_1 rfl ?_
  refine gm_ev.callV gm_mono_run (av := []) (r := [.ref B]) (ci := 11) (fs := mF B s) (bM_get (j := 0) rfl) i190_2 rfl rfl rfl (Nat.le_of_ble_eq_true rfl) t2 ?_
  refine gm_ev.putfield (M' := (bM B (mH B (mI s3 0 r1)) G)) i190_5 rfl (bM_put (j := 0) (fs := mF B s3) rfl (Nat.le_of_ble_eq_true rfl) hN (gm_fit_i _) rfl) ?_
  refine gm_ev.aload_n i190_8 rfl ?_
  refine gm_ev.iconst (v := 0) i190_9 (by decide) ?_
  refine gm_ev.putfield (M' := (bM B (mH B (mI (mI s3 0 r1) 24 (0 : Int32))) G)) i190_10 rfl (bM_put (j := 0) (fs := mF B (mI s3 0 r1)) rfl (Nat.le_of_ble_eq_true rfl) hN (gm_fit_z (by decide)) rfl) ?_
  refine gm_ev.aload_n i190_13 rfl ?_
  refine gm_ev.getfield (v := .int r1) i190_14 rfl (bM_fld (j := 0) (fs := mF B (mI (mI s3 0 r1) 24 (0 : Int32))) rfl rfl) ?_
  refine gm_ev.if_le_t (tgt := 22) i190_17 (by decide) c4 ?_
  refine gm_ev.aload_n i190_22 rfl ?_
  refine gm_ev.aload_n i190_23 rfl ?_
  refine gm_ev.getfield (v := .ref (B + 17)) i190_24 rfl (bM_fld (j := 0) (fs := mF B (mI (mI s3 0 r1) 24 (0 : Int32))) rfl rfl) ?_
  refine gm_ev.aload_n i190_27 rfl ?_
  refine gm_ev.getfield (v := .int (s3.1 30)) i190_28 rfl (bM_fld (j := 0) (fs := mF B (mI (mI s3 0 r1) 24 (0 : Int32))) rfl rfl) ?_
  refine gm_ev.callV gm_mono_run (av := [.ref (B + 17), .int (s3.1 30)]) (r := []) (ci := 11) (fs := mF B (mI (mI s3 0 r1) 24 (0 : Int32))) (bM_get (j := 0) rfl) i190_31 rfl rfl rfl (Nat.le_of_ble_eq_true rfl) t6 ?_
  refine gm_ev.istore_n (ls' := [some (.ref B), some (.int r5), none, none]) i190_34 (Nat.le_of_ble_eq_true rfl) rfl ?_
  refine gm_ev.aload_n i190_35 rfl ?_
  refine gm_ev.getfield (v := .ref (B + 28)) i190_36 rfl (bM_fld (j := 0) (fs := mF B (mI (mI s3 0 r1) 24 (0 : Int32))) rfl rfl) ?_
  refine gm_ev.iload_n i190_39 rfl ?_
  refine gm_ev.iaload i190_40 (bM_ai (j := 28) (n := 60) (f := s3.2.1 48) rfl ek7 lk7 (by decide)) ?_
  refine gm_ev.if_ne_f i190_41 c8 ?_
  refine gm_ev.aload_n i190_44 rfl ?_
  refine gm_ev.iconst (v := 3) i190_45 (by decide) ?_
  refine gm_ev.callV gm_mono_run (av := [.int (3 : Int32)]) (r := []) (ci := 11) (fs := mF B (mI (mI s3 0 r1) 24 (0 : Int32))) (bM_get (j := 0) rfl) i190_46 rfl rfl rfl (Nat.le_of_ble_eq_true rfl) t10 ?_
  exact gm_ev.iret i190_49 rfl
theorem r_best_0_f {N0 : Nat} {K : Nat → Nat} {d B : Nat} {s : mS} {G : gm_H} {sz sl : Nat} {r1 : Int32} {s3 : mS} (hN : N0 ≤ B) (t2 : gm_to N0 K ra_nm (ra_mt K) d 188 [.ref B] (bM B (mH B s) G) sz (.returned (some (.int r1)), bM B (mH B s3) G, sz, 0)) (c4 : ¬ r1 ≤ 0) : gm_ev N0 K ra_nm (ra_mt K) d (some .int) (gm_I cX12_best) (gm_lkf (lkX12 false K)) 0 [some (.ref B), none, none, none] [] (bM B (mH B s) G) sz sl (.returned (some (.int (0 : Int32))), (bM B (mH B (mI (mI s3 0 r1) 24 (0 : Int32))) G), sz, sl) := by
  refine gm_ev.aload_n i190_0 rfl ?_
  refine gm_ev.aload_n i190_1 rfl ?_
  refine gm_ev.callV gm_mono_run (av := []) (r := [.ref B]) (ci := 11) (fs := mF B s) (bM_get (j := 0) rfl) i190_2 rfl rfl rfl (Nat.le_of_ble_eq_true rfl) t2 ?_
  refine gm_ev.putfield (M' := (bM B (mH B (mI s3 0 r1)) G)) i190_5 rfl (bM_put (j := 0) (fs := mF B s3) rfl (Nat.le_of_ble_eq_true rfl) hN (gm_fit_i _) rfl) ?_
  refine gm_ev.aload_n i190_8 rfl ?_
  refine gm_ev.iconst (v := 0) i190_9 (by decide) ?_
  refine gm_ev.putfield (M' := (bM B (mH B (mI (mI s3 0 r1) 24 (0 : Int32))) G)) i190_10 rfl (bM_put (j := 0) (fs := mF B (mI s3 0 r1)) rfl (Nat.le_of_ble_eq_true rfl) hN (gm_fit_z (by decide)) rfl) ?_
  refine gm_ev.aload_n i190_13 rfl ?_
  refine gm_ev.getfield (v := .int r1) i190_14 rfl (bM_fld (j := 0) (fs := mF B (mI (mI s3 0 r1) 24 (0 : Int32))) rfl rfl) ?_
  refine gm_ev.if_le_f i190_17 c4 ?_
  refine gm_ev.iconst (v := 0) i190_20 (by decide) ?_
  exact gm_ev.iret i190_21 rfl
theorem r_best_57_t {N0 : Nat} {K : Nat → Nat} {d B : Nat} {s : mS} {G : gm_H} {sz sl : Nat} {x1 : Int32} {x2 : Int32} {k1 : Nat} (hN : N0 ≤ B) (ek1 : (x1 + (1 : Int32)) = nI k1) (lk1 : k1 < 61) (c2 : (s.2.1 46 k1) ≤ x2) : gm_ev N0 K ra_nm (ra_mt K) d (some .int) (gm_I cX12_best) (gm_lkf (lkX12 false K)) 57 [some (.ref B), some (.int x1), some (.int x2), none] [] (bM B (mH B s) G) sz sl (.returned (some (.int (0 : Int32))), (bM B (mH B s) G), sz, sl) := by
  refine gm_ev.iload_n i190_57 rfl ?_
  refine gm_ev.aload_n i190_58 rfl ?_
  refine gm_ev.getfield (v := .ref (B + 26)) i190_59 rfl (bM_fld (j := 0) (fs := mF B s) rfl rfl) ?_
  refine gm_ev.iload_n i190_62 rfl ?_
  refine gm_ev.iconst (v := 1) i190_63 (by decide) ?_
  refine gm_ev.iadd i190_64 ?_
  refine gm_ev.iaload i190_65 (bM_ai (j := 26) (n := 61) (f := s.2.1 46) rfl ek1 lk1 (by decide)) ?_
  refine gm_ev.icmp_ge_t (tgt := 126) i190_66 (by decide) c2 ?_
  refine gm_ev.iconst (v := 0) i190_126 (by decide) ?_
  exact gm_ev.iret i190_127 rfl
theorem r_best_57_ft_at57 {N0 : Nat} {K : Nat → Nat} {d B : Nat} {s : mS} {G : gm_H} {sz sl : Nat} {R : gm_R} {x1 : Int32} {x2 : Int32} {k1 : Nat} {k3 : Nat} {k4 : Nat} {k5 : Nat} {k6 : Nat} (hN : N0 ≤ B) (ek1 : (x1 + (1 : Int32)) = nI k1) (lk1 : k1 < 61) (c2 : ¬ (s.2.1 46 k1) ≤ x2) (ek3 : x1 = nI k3) (lk3 : k3 < 61) (ek4 : x2 = nI k4) (lk4 : k4 < 12500) (ek5 : (s.2.1 47 k4) = nI k5) (lk5 : k5 < 60) (ek6 : x1 = nI k6) (lk6 : k6 < 60) (c7 : ¬ (s.2.1 49 k5) = (s.2.1 49 k6)) (k : gm_ev N0 K ra_nm (ra_mt K) d (some .int) (gm_I cX12_best) (gm_lkf (lkX12 false K)) 57 [some (.ref B), some (.int x1), some (.int (x2 + (1 : Int32))), none] [] (bM B (mH B s) G) sz sl R) : gm_ev N0 K ra_nm (ra_mt K) d (some .int) (gm_I cX12_best) (gm_lkf (lkX12 false K)) 57 [some (.ref B), some (.int x1), some (.int x2), none] [] (bM B (mH B s) G) sz sl R := by
  refine gm_ev.iload_n i190_57 rfl ?_
  refine gm_ev.aload_n i190_58 rfl ?_
  refine gm_ev.getfield (v := .ref (B + 26)) i190_59 rfl (bM_fld (j := 0) (fs := mF B s) rfl rfl) ?_
  refine gm_ev.iload_n i190_62 rfl ?_
  refine gm_ev.iconst (v := 1) i190_63 (by decide) ?_
  refine gm_ev.iadd i190_64 ?_
  refine gm_ev.iaload i190_65 (bM_ai (j := 26) (n := 61) (f := s.2.1 46) rfl ek1 lk1 (by decide)) ?_
  refine gm_ev.icmp_ge_f i190_66 c2 ?_
  refine gm_ev.iload_n i190_69 rfl ?_
  refine gm_ev.aload_n i190_70 rfl ?_
  refine gm_ev.getfield (v := .ref (B + 26)) i190_71 rfl (bM_fld (j := 0) (fs := mF B s) rfl rfl) ?_
  refine gm_ev.iload_n i190_74 rfl ?_
  refine gm_ev.iaload i190_75 (bM_ai (j := 26) (n := 61) (f := s.2.1 46) rfl ek3 lk3 (by decide)) ?_
  refine gm_ev.isub i190_76 ?_
  refine gm_ev.istore_n (ls' := [some (.ref B), some (.int x1), some (.int x2), some (.int (x2 - (s.2.1 46 k3)))]) i190_77 (Nat.le_of_ble_eq_true rfl) rfl ?_
  refine gm_ev.aload_n i190_78 rfl ?_
  refine gm_ev.getfield (v := .ref (B + 29)) i190_79 rfl (bM_fld (j := 0) (fs := mF B s) rfl rfl) ?_
  refine gm_ev.aload_n i190_82 rfl ?_
  refine gm_ev.getfield (v := .ref (B + 27)) i190_83 rfl (bM_fld (j := 0) (fs := mF B s) rfl rfl) ?_
  refine gm_ev.iload_n i190_86 rfl ?_
  refine gm_ev.iaload i190_87 (bM_ai (j := 27) (n := 12500) (f := s.2.1 47) rfl ek4 lk4 (by decide)) ?_
  refine gm_ev.iaload i190_88 (bM_ai (j := 29) (n := 60) (f := s.2.1 49) rfl ek5 lk5 (by decide)) ?_
  refine gm_ev.aload_n i190_89 rfl ?_
  refine gm_ev.getfield (v := .ref (B + 29)) i190_90 rfl (bM_fld (j := 0) (fs := mF B s) rfl rfl) ?_
  refine gm_ev.iload_n i190_93 rfl ?_
  refine gm_ev.iaload i190_94 (bM_ai (j := 29) (n := 60) (f := s.2.1 49) rfl ek6 lk6 (by decide)) ?_
  refine gm_ev.icmp_ne_t (tgt := 120) i190_95 (by decide) c7 ?_
  refine gm_ev.iinc (v := x2 + (1 : Int32)) (ls' := [some (.ref B), some (.int x1), some (.int (x2 + (1 : Int32))), some (.int (x2 - (s.2.1 46 k3)))]) i190_120 rfl (by rfl) rfl ?_
  refine gm_ev.goto (tgt := 57) i190_123 (by decide) ?_
  refine gm_ev.le (a := [some (.ref B), some (.int x1), some (.int (x2 + (1 : Int32))), none]) (gm_leL.le (show gm_leL _ _ from ⟨rfl, ⟨rfl, ⟨rfl, trivial⟩⟩⟩)) ?_
  exact k
theorem r_best_57_ff {N0 : Nat} {K : Nat → Nat} {d B : Nat} {s : mS} {G : gm_H} {sz sl : Nat} {x1 : Int32} {x2 : Int32} {k1 : Nat} {k3 : Nat} {k4 : Nat} {k5 : Nat} {k6 : Nat} {k8 : Nat} {k10 : Nat} (hN : N0 ≤ B) (ek1 : (x1 + (1 : Int32)) = nI k1) (lk1 : k1 < 61) (c2 : ¬ (s.2.1 46 k1) ≤ x2) (ek3 : x1 = nI k3) (lk3 : k3 < 61) (ek4 : x2 = nI k4) (lk4 : k4 < 12500) (ek5 : (s.2.1 47 k4) = nI k5) (lk5 : k5 < 60) (ek6 : x1 = nI k6) (lk6 : k6 < 60) (c7 : (s.2.1 49 k5) = (s.2.1 49 k6)) (ek8 : x1 = nI k8) (lk8 : k8 < 60) (z9 : ¬ (s.2.1 48 k8) = 0) (ek10 : x1 = nI k10) (lk10 : k10 < 60) (z11 : ¬ (s.2.1 48 k10) = 0) : gm_ev N0 K ra_nm (ra_mt K) d (some .int) (gm_I cX12_best) (gm_lkf (lkX12 false K)) 57 [some (.ref B), some (.int x1), some (.int x2), none] [] (bM B (mH B s) G) sz sl (.returned (some (.int (((256 : Int32) * ((x2 - (s.2.1 46 k3)) / (s.2.1 48 k8))) + ((x2 - (s.2.1 46 k3)) - (x2 - (s.2.1 46 k3)) / (s.2.1 48 k10) * (s.2.1 48 k10))))), (bM B (mH B s) G), sz, sl) := by
  refine gm_ev.iload_n i190_57 rfl ?_
  refine gm_ev.aload_n i190_58 rfl ?_
  refine gm_ev.getfield (v := .ref (B + 26)) i190_59 rfl (bM_fld (j := 0) (fs := mF B s) rfl rfl) ?_
  refine gm_ev.iload_n i190_62 rfl ?_
  refine gm_ev.iconst (v := 1) i190_63 (by decide) ?_
  refine gm_ev.iadd i190_64 ?_
  refine gm_ev.iaload i190_65 (bM_ai (j := 26) (n := 61) (f := s.2.1 46) rfl ek1 lk1 (by decide)) ?_
  refine gm_ev.icmp_ge_f i190_66 c2 ?_
  refine gm_ev.iload_n i190_69 rfl ?_
  refine gm_ev.aload_n i190_70 rfl ?_
  refine gm_ev.getfield (v := .ref (B + 26)) i190_71 rfl (bM_fld (j := 0) (fs := mF B s) rfl rfl) ?_
  refine gm_ev.iload_n i190_74 rfl ?_
  refine gm_ev.iaload i190_75 (bM_ai (j := 26) (n := 61) (f := s.2.1 46) rfl ek3 lk3 (by decide)) ?_
  refine gm_ev.isub i190_76 ?_
  refine gm_ev.istore_n (ls' := [some (.ref B), some (.int x1), some (.int x2), some (.int (x2 - (s.2.1 46 k3)))]) i190_77 (Nat.le_of_ble_eq_true rfl) rfl ?_
  refine gm_ev.aload_n i190_78 rfl ?_
  refine gm_ev.getfield (v := .ref (B + 29)) i190_79 rfl (bM_fld (j := 0) (fs := mF B s) rfl rfl) ?_
  refine gm_ev.aload_n i190_82 rfl ?_
  refine gm_ev.getfield (v := .ref (B + 27)) i190_83 rfl (bM_fld (j := 0) (fs := mF B s) rfl rfl) ?_
  refine gm_ev.iload_n i190_86 rfl ?_
  refine gm_ev.iaload i190_87 (bM_ai (j := 27) (n := 12500) (f := s.2.1 47) rfl ek4 lk4 (by decide)) ?_
  refine gm_ev.iaload i190_88 (bM_ai (j := 29) (n := 60) (f := s.2.1 49) rfl ek5 lk5 (by decide)) ?_
  refine gm_ev.aload_n i190_89 rfl ?_
  refine gm_ev.getfield (v := .ref (B + 29)) i190_90 rfl (bM_fld (j := 0) (fs := mF B s) rfl rfl) ?_
  refine gm_ev.iload_n i190_93 rfl ?_
  refine gm_ev.iaload i190_94 (bM_ai (j := 29) (n := 60) (f := s.2.1 49) rfl ek6 lk6 (by decide)) ?_
  refine gm_ev.icmp_ne_f i190_95 c7 ?_
  refine gm_ev.sipush (v := 256) i190_98 (by decide) ?_
  refine gm_ev.iload_n i190_101 rfl ?_
  refine gm_ev.aload_n i190_102 rfl ?_
  refine gm_ev.getfield (v := .ref (B + 28)) i190_103 rfl (bM_fld (j := 0) (fs := mF B s) rfl rfl) ?_
  refine gm_ev.iload_n i190_106 rfl ?_
  refine gm_ev.iaload i190_107 (bM_ai (j := 28) (n := 60) (f := s.2.1 48) rfl ek8 lk8 (by decide)) ?_
  refine gm_ev.idiv i190_108 z9 ?_
  refine gm_ev.imul i190_109 ?_
  refine gm_ev.iload_n i190_110 rfl ?_
  refine gm_ev.aload_n i190_111 rfl ?_
  refine gm_ev.getfield (v := .ref (B + 28)) i190_112 rfl (bM_fld (j := 0) (fs := mF B s) rfl rfl) ?_
  refine gm_ev.iload_n i190_115 rfl ?_
  refine gm_ev.iaload i190_116 (bM_ai (j := 28) (n := 60) (f := s.2.1 48) rfl ek10 lk10 (by decide)) ?_
  refine gm_ev.irem i190_117 z11 ?_
  refine gm_ev.iadd i190_118 ?_
  exact gm_ev.iret i190_119 rfl
