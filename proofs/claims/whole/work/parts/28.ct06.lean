/-! typed paths through the class, by program -/
theorem t_X6_readAtom_0_ftfftt {N0 : Nat} {K : Nat → Nat} {d C : Nat} {s : cS} {G : gm_H} {sz sl : Nat} {p0 : Int32} {k2 : Nat} {r6 : Int32} {s12 : cS} {r18 : Int32} {k20 : Nat} {k21 : Nat} {k22 : Nat} {G24 : gm_H} (hN : N0 ≤ C) (h1 : s.2.2 40 = some (C + 1)) (ek2 : (s.1 41) = nI k2) (lk2 : k2 < 241) (hd : 0 < d) (c5 : ¬ 0 ≤ (gm_ix (s.2.1 1 k2))) (t7 : gm_to N0 K ra_nm (ra_mt K) d 88 [.int (s.2.1 1 k2)] (bM C (cH C s) G) sz (.returned (some (.int r6)), (bM C (cH C s) G), sz, 0)) (c8 : ¬ r6 = 0) (c9 : ¬ 0 ≤ (gm_ix (s.2.1 1 k2))) (c10 : ¬ 0 ≤ (gm_ix (s.2.1 1 k2))) (t11 : gm_to N0 K ra_nm (ra_mt K) d 192 [.ref (C + 3), .int (0 : Int32)] (bM C (cH C (cI s 41 ((s.1 41) + (1 : Int32)))) G) sz (.returned none, (bM C (cH C s12) G), sz, 0)) (c13 : (3 : Int32) ≤ 0) (c14 : (0 : Int32) ≤ (0 : Int32)) (hg_sz : C + 34 ≤ sz) (bd15 : gm_bd G sz) (t19 : gm_to N0 K ra_nm (ra_mt K) d 55 [.int (s.2.1 1 k2), .int (0 : Int32)] (bM C (cH C s12) (gm_new G sz (.inr (5, [.int 0, .int 0, .int 0, .int 0, .int 0, .int 0, .int 0])))) (sz + 1) (.returned (some (.int r18)), (bM C (cH C s12) (gm_new G sz (.inr (5, [.int 0, .int 0, .int 0, .int 0, .int 0, .int 0, .int 0])))), (sz + 1), 0)) (ek20 : (0 : Int32) = nI k20) (lk20 : k20 < 3) (ek21 : (1 : Int32) = nI k21) (lk21 : k21 < 3) (ek22 : (2 : Int32) = nI k22) (lk22 : k22 < 3) (t23 : gm_to N0 K ra_nm (ra_mt K) d 54 [.ref sz, .int p0, .int r18, .int (s12.2.1 3 k20), .int (s12.2.1 3 k21), .int (s12.2.1 3 k22)] (bM C (cH C s12) (gm_new G sz (.inr (5, [.int 0, .int 0, .int 0, .int 0, .int 0, .int 0, .int 0])))) (sz + 1) (.returned none, (bM C (cH C s12) G24), (sz + 1), 0)) : gm_ev N0 K ra_nm (ra_mt K) d (some (.object "RuleArena$Literal")) (gm_I cX6_readAtom) (gm_lkf (lkX6 false K)) 0 [some (.ref (C + 2)), some (.int p0), none, none, none, none, none] [] (bM C (cH C s) G) sz sl (.returned (some (.ref sz)), (bM C (cH C s12) G24), (sz + 1), (sl + 7)) := by
  refine gm_ev.aload_n i68_0 rfl ?_
  refine gm_ev.getfield (v := .ref (C + 1)) i68_1 rfl (bM_fld (j := 2) (fs := cF2 C s) rfl (cv_some h1)) ?_
  refine gm_ev.aload_n i68_4 rfl ?_
  refine gm_ev.getfield (v := .int (s.1 41)) i68_5 rfl (bM_fld (j := 2) (fs := cF2 C s) rfl rfl) ?_
  refine gm_ev.caload i68_8 (bM_ai (j := 1) (n := 241) (f := s.2.1 1) rfl ek2 lk2 (by decide)) ?_
  refine gm_ev.istore_n (ls' := [some (.ref (C + 2)), some (.int p0), some (.int (s.2.1 1 k2)), none, none, none, none]) i68_9 (Nat.le_of_ble_eq_true rfl) rfl ?_
  refine gm_ev.ldc i68_10 rfl ?_
  refine gm_ev.iload_n i68_12 rfl ?_
  refine gm_ev.callT gm_mono_run (av := [.int (s.2.1 1 k2)]) (r := []) i68_13 rfl rfl rfl (Nat.le_of_ble_eq_true rfl) (gm_to_ix hd (Or.inr rfl)) ?_
  refine gm_ev.istore_n (ls' := [some (.ref (C + 2)), some (.int p0), some (.int (s.2.1 1 k2)), some (.int (gm_ix (s.2.1 1 k2))), none, none, none]) i68_16 (Nat.le_of_ble_eq_true rfl) rfl ?_
  refine gm_ev.iload_n i68_17 rfl ?_
  refine gm_ev.if_ge_f i68_18 c5 ?_
  refine gm_ev.iload_n i68_21 rfl ?_
  refine gm_ev.callS gm_mono_run (av := [.int (s.2.1 1 k2)]) (r := []) i68_22 rfl rfl rfl (Nat.le_of_ble_eq_true rfl) t7 ?_
  refine gm_ev.if_ne_t (tgt := 30) i68_25 (by decide) c8 ?_
  refine gm_ev.aload_n i68_30 rfl ?_
  refine gm_ev.dup i68_31 rfl ?_
  refine gm_ev.getfield (v := .int (s.1 41)) i68_32 rfl (bM_fld (j := 2) (fs := cF2 C s) rfl rfl) ?_
  refine gm_ev.iconst (v := 1) i68_35 (by decide) ?_
  refine gm_ev.iadd i68_36 ?_
  refine gm_ev.putfield (M' := (bM C (cH C (cI s 41 ((s.1 41) + (1 : Int32)))) G)) i68_37 rfl (bM_put (j := 2) (fs := cF2 C s) rfl (Nat.le_of_ble_eq_true rfl) hN (gm_fit_i _) rfl) ?_
  refine gm_ev.iload_n i68_40 rfl ?_
  refine gm_ev.if_ge_f i68_41 c9 ?_
  refine gm_ev.iconst (v := 0) i68_44 (by decide) ?_
  refine gm_ev.goto (tgt := 53) i68_45 (by decide) ?_
  refine gm_ev.istore (ls' := [some (.ref (C + 2)), some (.int p0), some (.int (s.2.1 1 k2)), some (.int (gm_ix (s.2.1 1 k2))), some (.int (0 : Int32)), none, none]) i68_53 (Nat.le_of_ble_eq_true rfl) rfl ?_
  refine gm_ev.iload_n i68_55 rfl ?_
  refine gm_ev.if_ge_f i68_56 c10 ?_
  refine gm_ev.iconst (v := 3) i68_59 (by decide) ?_
  refine gm_ev.goto (tgt := 65) i68_60 (by decide) ?_
  refine gm_ev.istore (ls' := [some (.ref (C + 2)), some (.int p0), some (.int (s.2.1 1 k2)), some (.int (gm_ix (s.2.1 1 k2))), some (.int (0 : Int32)), some (.int (3 : Int32)), none]) i68_65 (Nat.le_of_ble_eq_true rfl) rfl ?_
  refine gm_ev.iconst (v := 0) i68_67 (by decide) ?_
  refine gm_ev.istore (ls' := [some (.ref (C + 2)), some (.int p0), some (.int (s.2.1 1 k2)), some (.int (gm_ix (s.2.1 1 k2))), some (.int (0 : Int32)), some (.int (3 : Int32)), some (.int (0 : Int32))]) i68_68 (Nat.le_of_ble_eq_true rfl) rfl ?_
  refine gm_ev.aload_n i68_70 rfl ?_
  refine gm_ev.getfield (v := .ref (C + 3)) i68_71 rfl (bM_fld (j := 2) (fs := cF2 C (cI s 41 ((s.1 41) + (1 : Int32)))) rfl rfl) ?_
  refine gm_ev.iconst (v := 0) i68_74 (by decide) ?_
  refine gm_ev.callS gm_mono_run (av := [.ref (C + 3), .int (0 : Int32)]) (r := []) i68_75 rfl rfl rfl (Nat.le_of_ble_eq_true rfl) t11 ?_
  refine gm_ev.iload i68_78 rfl ?_
  refine gm_ev.if_le_t (tgt := 152) i68_80 (by decide) c13 ?_
  refine gm_ev.iload i68_152 rfl ?_
  refine gm_ev.iload i68_154 rfl ?_
  refine gm_ev.icmp_ge_t (tgt := 161) i68_156 (by decide) c14 ?_
  refine gm_ev.new i68_161 rfl ?_
  rw [cG_new hg_sz]
  have w16 : (gm_new G sz (.inr (5, [.int 0, .int 0, .int 0, .int 0, .int 0, .int 0, .int 0]))) sz = some (.inr (5, [.int 0, .int 0, .int 0, .int 0, .int 0, .int 0, .int 0])) := gm_set_eq
  have bd17 : gm_bd (gm_new G sz (.inr (5, [.int 0, .int 0, .int 0, .int 0, .int 0, .int 0, .int 0]))) (sz + 1) := gm_bd.new bd15
  refine gm_ev.dup i68_164 rfl ?_
  refine gm_ev.iload_n i68_165 rfl ?_
  refine gm_ev.iload_n i68_166 rfl ?_
  refine gm_ev.iload i68_167 rfl ?_
  refine gm_ev.callS gm_mono_run (av := [.int (s.2.1 1 k2), .int (0 : Int32)]) (r := [.int p0, .ref sz, .ref sz]) i68_169 rfl rfl rfl (Nat.le_of_ble_eq_true rfl) t19 ?_
  refine gm_ev.aload_n i68_172 rfl ?_
  refine gm_ev.getfield (v := .ref (C + 3)) i68_173 rfl (bM_fld (j := 2) (fs := cF2 C s12) rfl rfl) ?_
  refine gm_ev.iconst (v := 0) i68_176 (by decide) ?_
  refine gm_ev.iaload i68_177 (bM_ai (j := 3) (n := 3) (f := s12.2.1 3) rfl ek20 lk20 (by decide)) ?_
  refine gm_ev.aload_n i68_178 rfl ?_
  refine gm_ev.getfield (v := .ref (C + 3)) i68_179 rfl (bM_fld (j := 2) (fs := cF2 C s12) rfl rfl) ?_
  refine gm_ev.iconst (v := 1) i68_182 (by decide) ?_
  refine gm_ev.iaload i68_183 (bM_ai (j := 3) (n := 3) (f := s12.2.1 3) rfl ek21 lk21 (by decide)) ?_
  refine gm_ev.aload_n i68_184 rfl ?_
  refine gm_ev.getfield (v := .ref (C + 3)) i68_185 rfl (bM_fld (j := 2) (fs := cF2 C s12) rfl rfl) ?_
  refine gm_ev.iconst (v := 2) i68_188 (by decide) ?_
  refine gm_ev.iaload i68_189 (bM_ai (j := 3) (n := 3) (f := s12.2.1 3) rfl ek22 lk22 (by decide)) ?_
  refine gm_ev.callI gm_mono_run (av := [.int p0, .int r18, .int (s12.2.1 3 k20), .int (s12.2.1 3 k21), .int (s12.2.1 3 k22)]) (r := [.ref sz]) i68_190 rfl rfl rfl (Nat.le_of_ble_eq_true rfl) t23 ?_
  exact gm_ev.aret i68_193 rfl
theorem t_X6_readAtom_0_ftfftf {N0 : Nat} {K : Nat → Nat} {d C : Nat} {s : cS} {G : gm_H} {sz sl : Nat} {p0 : Int32} {k2 : Nat} {r6 : Int32} {s12 : cS} (hN : N0 ≤ C) (h1 : s.2.2 40 = some (C + 1)) (ek2 : (s.1 41) = nI k2) (lk2 : k2 < 241) (hd : 0 < d) (c5 : ¬ 0 ≤ (gm_ix (s.2.1 1 k2))) (t7 : gm_to N0 K ra_nm (ra_mt K) d 88 [.int (s.2.1 1 k2)] (bM C (cH C s) G) sz (.returned (some (.int r6)), (bM C (cH C s) G), sz, 0)) (c8 : ¬ r6 = 0) (c9 : ¬ 0 ≤ (gm_ix (s.2.1 1 k2))) (c10 : ¬ 0 ≤ (gm_ix (s.2.1 1 k2))) (t11 : gm_to N0 K ra_nm (ra_mt K) d 192 [.ref (C + 3), .int (0 : Int32)] (bM C (cH C (cI s 41 ((s.1 41) + (1 : Int32)))) G) sz (.returned none, (bM C (cH C s12) G), sz, 0)) (c13 : (3 : Int32) ≤ 0) (c14 : ¬ (0 : Int32) ≤ (0 : Int32)) : gm_ev N0 K ra_nm (ra_mt K) d (some (.object "RuleArena$Literal")) (gm_I cX6_readAtom) (gm_lkf (lkX6 false K)) 0 [some (.ref (C + 2)), some (.int p0), none, none, none, none, none] [] (bM C (cH C s) G) sz sl (.returned (some (.null)), (bM C (cH C s12) G), sz, sl) := by
  refine gm_ev.aload_n i68_0 rfl ?_
  refine gm_ev.getfield (v := .ref (C + 1)) i68_1 rfl (bM_fld (j := 2) (fs := cF2 C s) rfl (cv_some h1)) ?_
  refine gm_ev.aload_n i68_4 rfl ?_
  refine gm_ev.getfield (v := .int (s.1 41)) i68_5 rfl (bM_fld (j := 2) (fs := cF2 C s) rfl rfl) ?_
  refine gm_ev.caload i68_8 (bM_ai (j := 1) (n := 241) (f := s.2.1 1) rfl ek2 lk2 (by decide)) ?_
  refine gm_ev.istore_n (ls' := [some (.ref (C + 2)), some (.int p0), some (.int (s.2.1 1 k2)), none, none, none, none]) i68_9 (Nat.le_of_ble_eq_true rfl) rfl ?_
  refine gm_ev.ldc i68_10 rfl ?_
  refine gm_ev.iload_n i68_12 rfl ?_
  refine gm_ev.callT gm_mono_run (av := [.int (s.2.1 1 k2)]) (r := []) i68_13 rfl rfl rfl (Nat.le_of_ble_eq_true rfl) (gm_to_ix hd (Or.inr rfl)) ?_
  refine gm_ev.istore_n (ls' := [some (.ref (C + 2)), some (.int p0), some (.int (s.2.1 1 k2)), some (.int (gm_ix (s.2.1 1 k2))), none, none, none]) i68_16 (Nat.le_of_ble_eq_true rfl) rfl ?_
  refine gm_ev.iload_n i68_17 rfl ?_
  refine gm_ev.if_ge_f i68_18 c5 ?_
  refine gm_ev.iload_n i68_21 rfl ?_
  refine gm_ev.callS gm_mono_run (av := [.int (s.2.1 1 k2)]) (r := []) i68_22 rfl rfl rfl (Nat.le_of_ble_eq_true rfl) t7 ?_
  refine gm_ev.if_ne_t (tgt := 30) i68_25 (by decide) c8 ?_
  refine gm_ev.aload_n i68_30 rfl ?_
  refine gm_ev.dup i68_31 rfl ?_
  refine gm_ev.getfield (v := .int (s.1 41)) i68_32 rfl (bM_fld (j := 2) (fs := cF2 C s) rfl rfl) ?_
  refine gm_ev.iconst (v := 1) i68_35 (by decide) ?_
  refine gm_ev.iadd i68_36 ?_
  refine gm_ev.putfield (M' := (bM C (cH C (cI s 41 ((s.1 41) + (1 : Int32)))) G)) i68_37 rfl (bM_put (j := 2) (fs := cF2 C s) rfl (Nat.le_of_ble_eq_true rfl) hN (gm_fit_i _) rfl) ?_
  refine gm_ev.iload_n i68_40 rfl ?_
  refine gm_ev.if_ge_f i68_41 c9 ?_
  refine gm_ev.iconst (v := 0) i68_44 (by decide) ?_
  refine gm_ev.goto (tgt := 53) i68_45 (by decide) ?_
  refine gm_ev.istore (ls' := [some (.ref (C + 2)), some (.int p0), some (.int (s.2.1 1 k2)), some (.int (gm_ix (s.2.1 1 k2))), some (.int (0 : Int32)), none, none]) i68_53 (Nat.le_of_ble_eq_true rfl) rfl ?_
  refine gm_ev.iload_n i68_55 rfl ?_
  refine gm_ev.if_ge_f i68_56 c10 ?_
  refine gm_ev.iconst (v := 3) i68_59 (by decide) ?_
  refine gm_ev.goto (tgt := 65) i68_60 (by decide) ?_
  refine gm_ev.istore (ls' := [some (.ref (C + 2)), some (.int p0), some (.int (s.2.1 1 k2)), some (.int (gm_ix (s.2.1 1 k2))), some (.int (0 : Int32)), some (.int (3 : Int32)), none]) i68_65 (Nat.le_of_ble_eq_true rfl) rfl ?_
  refine gm_ev.iconst (v := 0) i68_67 (by decide) ?_
  refine gm_ev.istore (ls' := [some (.ref (C + 2)), some (.int p0), some (.int (s.2.1 1 k2)), some (.int (gm_ix (s.2.1 1 k2))), some (.int (0 : Int32)), some (.int (3 : Int32)), some (.int (0 : Int32))]) i68_68 (Nat.le_of_ble_eq_true rfl) rfl ?_
  refine gm_ev.aload_n i68_70 rfl ?_
  refine gm_ev.getfield (v := .ref (C + 3)) i68_71 rfl (bM_fld (j := 2) (fs := cF2 C (cI s 41 ((s.1 41) + (1 : Int32)))) rfl rfl) ?_
  refine gm_ev.iconst (v := 0) i68_74 (by decide) ?_
  refine gm_ev.callS gm_mono_run (av := [.ref (C + 3), .int (0 : Int32)]) (r := []) i68_75 rfl rfl rfl (Nat.le_of_ble_eq_true rfl) t11 ?_
  refine gm_ev.iload i68_78 rfl ?_
  refine gm_ev.if_le_t (tgt := 152) i68_80 (by decide) c13 ?_
  refine gm_ev.iload i68_152 rfl ?_
  refine gm_ev.iload i68_154 rfl ?_
  refine gm_ev.icmp_ge_f i68_156 c14 ?_
  refine gm_ev.null i68_159 ?_
  exact gm_ev.aretN i68_160 rfl
theorem t_X6_readAtom_0_ftffftt {N0 : Nat} {K : Nat → Nat} {d C : Nat} {s : cS} {G : gm_H} {sz sl : Nat} {p0 : Int32} {k2 : Nat} {r6 : Int32} {s12 : cS} {r14 : Int32} {s16 : cS} {r22 : Int32} {k24 : Nat} {k25 : Nat} {k26 : Nat} {G28 : gm_H} (hN : N0 ≤ C) (h1 : s.2.2 40 = some (C + 1)) (ek2 : (s.1 41) = nI k2) (lk2 : k2 < 241) (hd : 0 < d) (c5 : ¬ 0 ≤ (gm_ix (s.2.1 1 k2))) (t7 : gm_to N0 K ra_nm (ra_mt K) d 88 [.int (s.2.1 1 k2)] (bM C (cH C s) G) sz (.returned (some (.int r6)), (bM C (cH C s) G), sz, 0)) (c8 : ¬ r6 = 0) (c9 : ¬ 0 ≤ (gm_ix (s.2.1 1 k2))) (c10 : ¬ 0 ≤ (gm_ix (s.2.1 1 k2))) (t11 : gm_to N0 K ra_nm (ra_mt K) d 192 [.ref (C + 3), .int (0 : Int32)] (bM C (cH C (cI s 41 ((s.1 41) + (1 : Int32)))) G) sz (.returned none, (bM C (cH C s12) G), sz, 0)) (c13 : ¬ (3 : Int32) ≤ 0) (t15 : gm_to N0 K ra_nm (ra_mt K) d 63 [.ref (C + 2), .int (40 : Int32)] (bM C (cH C s12) G) sz (.returned (some (.int r14)), (bM C (cH C s16) G), sz, 0)) (c17 : r14 = 0) (c18 : (0 : Int32) ≤ (0 : Int32)) (hg_sz : C + 34 ≤ sz) (bd19 : gm_bd G sz) (t23 : gm_to N0 K ra_nm (ra_mt K) d 55 [.int (s.2.1 1 k2), .int (0 : Int32)] (bM C (cH C s16) (gm_new G sz (.inr (5, [.int 0, .int 0, .int 0, .int 0, .int 0, .int 0, .int 0])))) (sz + 1) (.returned (some (.int r22)), (bM C (cH C s16) (gm_new G sz (.inr (5, [.int 0, .int 0, .int 0, .int 0, .int 0, .int 0, .int 0])))), (sz + 1), 0)) (ek24 : (0 : Int32) = nI k24) (lk24 : k24 < 3) (ek25 : (1 : Int32) = nI k25) (lk25 : k25 < 3) (ek26 : (2 : Int32) = nI k26) (lk26 : k26 < 3) (t27 : gm_to N0 K ra_nm (ra_mt K) d 54 [.ref sz, .int p0, .int r22, .int (s16.2.1 3 k24), .int (s16.2.1 3 k25), .int (s16.2.1 3 k26)] (bM C (cH C s16) (gm_new G sz (.inr (5, [.int 0, .int 0, .int 0, .int 0, .int 0, .int 0, .int 0])))) (sz + 1) (.returned none, (bM C (cH C s16) G28), (sz + 1), 0)) : gm_ev N0 K ra_nm (ra_mt K) d (some (.object "RuleArena$Literal")) (gm_I cX6_readAtom) (gm_lkf (lkX6 false K)) 0 [some (.ref (C + 2)), some (.int p0), none, none, none, none, none] [] (bM C (cH C s) G) sz sl (.returned (some (.ref sz)), (bM C (cH C s16) G28), (sz + 1), (sl + 7)) := by
  refine gm_ev.aload_n i68_0 rfl ?_
  refine gm_ev.getfield (v := .ref (C + 1)) i68_1 rfl (bM_fld (j := 2) (fs := cF2 C s) rfl (cv_some h1)) ?_
  refine gm_ev.aload_n i68_4 rfl ?_
  refine gm_ev.getfield (v := .int (s.1 41)) i68_5 rfl (bM_fld (j := 2) (fs := cF2 C s) rfl rfl) ?_
  refine gm_ev.caload i68_8 (bM_ai (j := 1) (n := 241) (f := s.2.1 1) rfl ek2 lk2 (by decide)) ?_
  refine gm_ev.istore_n (ls' := [some (.ref (C + 2)), some (.int p0), some (.int (s.2.1 1 k2)), none, none, none, none]) i68_9 (Nat.le_of_ble_eq_true rfl) rfl ?_
  refine gm_ev.ldc i68_10 rfl ?_
  refine gm_ev.iload_n i68_12 rfl ?_
  refine gm_ev.callT gm_mono_run (av := [.int (s.2.1 1 k2)]) (r := []) i68_13 rfl rfl rfl (Nat.le_of_ble_eq_true rfl) (gm_to_ix hd (Or.inr rfl)) ?_
  refine gm_ev.istore_n (ls' := [some (.ref (C + 2)), some (.int p0), some (.int (s.2.1 1 k2)), some (.int (gm_ix (s.2.1 1 k2))), none, none, none]) i68_16 (Nat.le_of_ble_eq_true rfl) rfl ?_
  refine gm_ev.iload_n i68_17 rfl ?_
  refine gm_ev.if_ge_f i68_18 c5 ?_
  refine gm_ev.iload_n i68_21 rfl ?_
  refine gm_ev.callS gm_mono_run (av := [.int (s.2.1 1 k2)]) (r := []) i68_22 rfl rfl rfl (Nat.le_of_ble_eq_true rfl) t7 ?_
  refine gm_ev.if_ne_t (tgt := 30) i68_25 (by decide) c8 ?_
  refine gm_ev.aload_n i68_30 rfl ?_
  refine gm_ev.dup i68_31 rfl ?_
  refine gm_ev.getfield (v := .int (s.1 41)) i68_32 rfl (bM_fld (j := 2) (fs := cF2 C s) rfl rfl) ?_
  refine gm_ev.iconst (v := 1) i68_35 (by decide) ?_
  refine gm_ev.iadd i68_36 ?_
  refine gm_ev.putfield (M' := (bM C (cH C (cI s 41 ((s.1 41) + (1 : Int32)))) G)) i68_37 rfl (bM_put (j := 2) (fs := cF2 C s) rfl (Nat.le_of_ble_eq_true rfl) hN (gm_fit_i _) rfl) ?_
  refine gm_ev.iload_n i68_40 rfl ?_
  refine gm_ev.if_ge_f i68_41 c9 ?_
  refine gm_ev.iconst (v := 0) i68_44 (by decide) ?_
  refine gm_ev.goto (tgt := 53) i68_45 (by decide) ?_
  refine gm_ev.istore (ls' := [some (.ref (C + 2)), some (.int p0), some (.int (s.2.1 1 k2)), some (.int (gm_ix (s.2.1 1 k2))), some (.int (0 : Int32)), none, none]) i68_53 (Nat.le_of_ble_eq_true rfl) rfl ?_
  refine gm_ev.iload_n i68_55 rfl ?_
  refine gm_ev.if_ge_f i68_56 c10 ?_
  refine gm_ev.iconst (v := 3) i68_59 (by decide) ?_
  refine gm_ev.goto (tgt := 65) i68_60 (by decide) ?_
  refine gm_ev.istore (ls' := [some (.ref (C + 2)), some (.int p0), some (.int (s.2.1 1 k2)), some (.int (gm_ix (s.2.1 1 k2))), some (.int (0 : Int32)), some (.int (3 : Int32)), none]) i68_65 (Nat.le_of_ble_eq_true rfl) rfl ?_
  refine gm_ev.iconst (v := 0) i68_67 (by decide) ?_
  refine gm_ev.istore (ls' := [some (.ref (C + 2)), some (.int p0), some (.int (s.2.1 1 k2)), some (.int (gm_ix (s.2.1 1 k2))), some (.int (0 : Int32)), some (.int (3 : Int32)), some (.int (0 : Int32))]) i68_68 (Nat.le_of_ble_eq_true rfl) rfl ?_
  refine gm_ev.aload_n i68_70 rfl ?_
  refine gm_ev.getfield (v := .ref (C + 3)) i68_71 rfl (bM_fld (j := 2) (fs := cF2 C (cI s 41 ((s.1 41) + (1 : Int32)))) rfl rfl) ?_
  refine gm_ev.iconst (v := 0) i68_74 (by decide) ?_
  refine gm_ev.callS gm_mono_run (av := [.ref (C + 3), .int (0 : Int32)]) (r := []) i68_75 rfl rfl rfl (Nat.le_of_ble_eq_true rfl) t11 ?_
  refine gm_ev.iload i68_78 rfl ?_
  refine gm_ev.if_le_f i68_80 c13 ?_
  refine gm_ev.aload_n i68_83 rfl ?_
  refine gm_ev.bipush (v := 40) i68_84 (by decide) ?_
  refine gm_ev.callV gm_mono_run (av := [.int (40 : Int32)]) (r := []) (ci := 6) (fs := cF2 C s12) (bM_get (j := 2) rfl) i68_86 rfl rfl rfl (Nat.le_of_ble_eq_true rfl) t15 ?_
  refine gm_ev.if_eq_t (tgt := 152) i68_89 (by decide) c17 ?_
  refine gm_ev.iload i68_152 rfl ?_
  refine gm_ev.iload i68_154 rfl ?_
  refine gm_ev.icmp_ge_t (tgt := 161) i68_156 (by decide) c18 ?_
  refine gm_ev.new i68_161 rfl ?_
  rw [cG_new hg_sz]
  have w20 : (gm_new G sz (.inr (5, [.int 0, .int 0, .int 0, .int 0, .int 0, .int 0, .int 0]))) sz = some (.inr (5, [.int 0, .int 0, .int 0, .int 0, .int 0, .int 0, .int 0])) := gm_set_eq
  have bd21 : gm_bd (gm_new G sz (.inr (5, [.int 0, .int 0, .int 0, .int 0, .int 0, .int 0, .int 0]))) (sz + 1) := gm_bd.new bd19
  refine gm_ev.dup i68_164 rfl ?_
  refine gm_ev.iload_n i68_165 rfl ?_
  refine gm_ev.iload_n i68_166 rfl ?_
  refine gm_ev.iload i68_167 rfl ?_
  refine gm_ev.callS gm_mono_run (av := [.int (s.2.1 1 k2), .int (0 : Int32)]) (r := [.int p0, .ref sz, .ref sz]) i68_169 rfl rfl rfl (Nat.le_of_ble_eq_true rfl) t23 ?_
  refine gm_ev.aload_n i68_172 rfl ?_
  refine gm_ev.getfield (v := .ref (C + 3)) i68_173 rfl (bM_fld (j := 2) (fs := cF2 C s16) rfl rfl) ?_
  refine gm_ev.iconst (v := 0) i68_176 (by decide) ?_
  refine gm_ev.iaload i68_177 (bM_ai (j := 3) (n := 3) (f := s16.2.1 3) rfl ek24 lk24 (by decide)) ?_
  refine gm_ev.aload_n i68_178 rfl ?_
  refine gm_ev.getfield (v := .ref (C + 3)) i68_179 rfl (bM_fld (j := 2) (fs := cF2 C s16) rfl rfl) ?_
  refine gm_ev.iconst (v := 1) i68_182 (by decide) ?_
  refine gm_ev.iaload i68_183 (bM_ai (j := 3) (n := 3) (f := s16.2.1 3) rfl ek25 lk25 (by decide)) ?_
  refine gm_ev.aload_n i68_184 rfl ?_
  refine gm_ev.getfield (v := .ref (C + 3)) i68_185 rfl (bM_fld (j := 2) (fs := cF2 C s16) rfl rfl) ?_
  refine gm_ev.iconst (v := 2) i68_188 (by decide) ?_
  refine gm_ev.iaload i68_189 (bM_ai (j := 3) (n := 3) (f := s16.2.1 3) rfl ek26 lk26 (by decide)) ?_
  refine gm_ev.callI gm_mono_run (av := [.int p0, .int r22, .int (s16.2.1 3 k24), .int (s16.2.1 3 k25), .int (s16.2.1 3 k26)]) (r := [.ref sz]) i68_190 rfl rfl rfl (Nat.le_of_ble_eq_true rfl) t27 ?_
  exact gm_ev.aret i68_193 rfl
theorem t_X6_readAtom_0_ftffftf {N0 : Nat} {K : Nat → Nat} {d C : Nat} {s : cS} {G : gm_H} {sz sl : Nat} {p0 : Int32} {k2 : Nat} {r6 : Int32} {s12 : cS} {r14 : Int32} {s16 : cS} (hN : N0 ≤ C) (h1 : s.2.2 40 = some (C + 1)) (ek2 : (s.1 41) = nI k2) (lk2 : k2 < 241) (hd : 0 < d) (c5 : ¬ 0 ≤ (gm_ix (s.2.1 1 k2))) (t7 : gm_to N0 K ra_nm (ra_mt K) d 88 [.int (s.2.1 1 k2)] (bM C (cH C s) G) sz (.returned (some (.int r6)), (bM C (cH C s) G), sz, 0)) (c8 : ¬ r6 = 0) (c9 : ¬ 0 ≤ (gm_ix (s.2.1 1 k2))) (c10 : ¬ 0 ≤ (gm_ix (s.2.1 1 k2))) (t11 : gm_to N0 K ra_nm (ra_mt K) d 192 [.ref (C + 3), .int (0 : Int32)] (bM C (cH C (cI s 41 ((s.1 41) + (1 : Int32)))) G) sz (.returned none, (bM C (cH C s12) G), sz, 0)) (c13 : ¬ (3 : Int32) ≤ 0) (t15 : gm_to N0 K ra_nm (ra_mt K) d 63 [.ref (C + 2), .int (40 : Int32)] (bM C (cH C s12) G) sz (.returned (some (.int r14)), (bM C (cH C s16) G), sz, 0)) (c17 : r14 = 0) (c18 : ¬ (0 : Int32) ≤ (0 : Int32)) : gm_ev N0 K ra_nm (ra_mt K) d (some (.object "RuleArena$Literal")) (gm_I cX6_readAtom) (gm_lkf (lkX6 false K)) 0 [some (.ref (C + 2)), some (.int p0), none, none, none, none, none] [] (bM C (cH C s) G) sz sl (.returned (some (.null)), (bM C (cH C s16) G), sz, sl) := by
  refine gm_ev.aload_n i68_0 rfl ?_
  refine gm_ev.getfield (v := .ref (C + 1)) i68_1 rfl (bM_fld (j := 2) (fs := cF2 C s) rfl (cv_some h1)) ?_
  refine gm_ev.aload_n i68_4 rfl ?_
  refine gm_ev.getfield (v := .int (s.1 41)) i68_5 rfl (bM_fld (j := 2) (fs := cF2 C s) rfl rfl) ?_
  refine gm_ev.caload i68_8 (bM_ai (j := 1) (n := 241) (f := s.2.1 1) rfl ek2 lk2 (by decide)) ?_
  refine gm_ev.istore_n (ls' := [some (.ref (C + 2)), some (.int p0), some (.int (s.2.1 1 k2)), none, none, none, none]) i68_9 (Nat.le_of_ble_eq_true rfl) rfl ?_
  refine gm_ev.ldc i68_10 rfl ?_
  refine gm_ev.iload_n i68_12 rfl ?_
  refine gm_ev.callT gm_mono_run (av := [.int (s.2.1 1 k2)]) (r := []) i68_13 rfl rfl rfl (Nat.le_of_ble_eq_true rfl) (gm_to_ix hd (Or.inr rfl)) ?_
  refine gm_ev.istore_n (ls' := [some (.ref (C + 2)), some (.int p0), some (.int (s.2.1 1 k2)), some (.int (gm_ix (s.2.1 1 k2))), none, none, none]) i68_16 (Nat.le_of_ble_eq_true rfl) rfl ?_
  refine gm_ev.iload_n i68_17 rfl ?_
  refine gm_ev.if_ge_f i68_18 c5 ?_
  refine gm_ev.iload_n i68_21 rfl ?_
  refine gm_ev.callS gm_mono_run (av := [.int (s.2.1 1 k2)]) (r := []) i68_22 rfl rfl rfl (Nat.le_of_ble_eq_true rfl) t7 ?_
  refine gm_ev.if_ne_t (tgt := 30) i68_25 (by decide) c8 ?_
  refine gm_ev.aload_n i68_30 rfl ?_
  refine gm_ev.dup i68_31 rfl ?_
  refine gm_ev.getfield (v := .int (s.1 41)) i68_32 rfl (bM_fld (j := 2) (fs := cF2 C s) rfl rfl) ?_
  refine gm_ev.iconst (v := 1) i68_35 (by decide) ?_
  refine gm_ev.iadd i68_36 ?_
  refine gm_ev.putfield (M' := (bM C (cH C (cI s 41 ((s.1 41) + (1 : Int32)))) G)) i68_37 rfl (bM_put (j := 2) (fs := cF2 C s) rfl (Nat.le_of_ble_eq_true rfl) hN (gm_fit_i _) rfl) ?_
  refine gm_ev.iload_n i68_40 rfl ?_
  refine gm_ev.if_ge_f i68_41 c9 ?_
  refine gm_ev.iconst (v := 0) i68_44 (by decide) ?_
  refine gm_ev.goto (tgt := 53) i68_45 (by decide) ?_
  refine gm_ev.istore (ls' := [some (.ref (C + 2)), some (.int p0), some (.int (s.2.1 1 k2)), some (.int (gm_ix (s.2.1 1 k2))), some (.int (0 : Int32)), none, none]) i68_53 (Nat.le_of_ble_eq_true rfl) rfl ?_
  refine gm_ev.iload_n i68_55 rfl ?_
  refine gm_ev.if_ge_f i68_56 c10 ?_
  refine gm_ev.iconst (v := 3) i68_59 (by decide) ?_
  refine gm_ev.goto (tgt := 65) i68_60 (by decide) ?_
  refine gm_ev.istore (ls' := [some (.ref (C + 2)), some (.int p0), some (.int (s.2.1 1 k2)), some (.int (gm_ix (s.2.1 1 k2))), some (.int (0 : Int32)), some (.int (3 : Int32)), none]) i68_65 (Nat.le_of_ble_eq_true rfl) rfl ?_
  refine gm_ev.iconst (v := 0) i68_67 (by decide) ?_
  refine gm_ev.istore (ls' := [some (.ref (C + 2)), some (.int p0), some (.int (s.2.1 1 k2)), some (.int (gm_ix (s.2.1 1 k2))), some (.int (0 : Int32)), some (.int (3 : Int32)), some (.int (0 : Int32))]) i68_68 (Nat.le_of_ble_eq_true rfl) rfl ?_
  refine gm_ev.aload_n i68_70 rfl ?_
  refine gm_ev.getfield (v := .ref (C + 3)) i68_71 rfl (bM_fld (j := 2) (fs := cF2 C (cI s 41 ((s.1 41) + (1 : Int32)))) rfl rfl) ?_
  refine gm_ev.iconst (v := 0) i68_74 (by decide) ?_
  refine gm_ev.callS gm_mono_run (av := [.ref (C + 3), .int (0 : Int32)]) (r := []) i68_75 rfl rfl rfl (Nat.le_of_ble_eq_true rfl) t11 ?_
  refine gm_ev.iload i68_78 rfl ?_
  refine gm_ev.if_le_f i68_80 c13 ?_
  refine gm_ev.aload_n i68_83 rfl ?_
  refine gm_ev.bipush (v := 40) i68_84 (by decide) ?_
  refine gm_ev.callV gm_mono_run (av := [.int (40 : Int32)]) (r := []) (ci := 6) (fs := cF2 C s12) (bM_get (j := 2) rfl) i68_86 rfl rfl rfl (Nat.le_of_ble_eq_true rfl) t15 ?_
  refine gm_ev.if_eq_t (tgt := 152) i68_89 (by decide) c17 ?_
  refine gm_ev.iload i68_152 rfl ?_
  refine gm_ev.iload i68_154 rfl ?_
  refine gm_ev.icmp_ge_f i68_156 c18 ?_
  refine gm_ev.null i68_159 ?_
  exact gm_ev.aretN i68_160 rfl
theorem t_X6_readAtom_0_ftffff_at92 {N0 : Nat} {K : Nat → Nat} {d C : Nat} {s : cS} {G : gm_H} {sz sl : Nat} {R : gm_R} {p0 : Int32} {k2 : Nat} {r6 : Int32} {s12 : cS} {r14 : Int32} {s16 : cS} (hN : N0 ≤ C) (h1 : s.2.2 40 = some (C + 1)) (ek2 : (s.1 41) = nI k2) (lk2 : k2 < 241) (hd : 0 < d) (c5 : ¬ 0 ≤ (gm_ix (s.2.1 1 k2))) (t7 : gm_to N0 K ra_nm (ra_mt K) d 88 [.int (s.2.1 1 k2)] (bM C (cH C s) G) sz (.returned (some (.int r6)), (bM C (cH C s) G), sz, 0)) (c8 : ¬ r6 = 0) (c9 : ¬ 0 ≤ (gm_ix (s.2.1 1 k2))) (c10 : ¬ 0 ≤ (gm_ix (s.2.1 1 k2))) (t11 : gm_to N0 K ra_nm (ra_mt K) d 192 [.ref (C + 3), .int (0 : Int32)] (bM C (cH C (cI s 41 ((s.1 41) + (1 : Int32)))) G) sz (.returned none, (bM C (cH C s12) G), sz, 0)) (c13 : ¬ (3 : Int32) ≤ 0) (t15 : gm_to N0 K ra_nm (ra_mt K) d 63 [.ref (C + 2), .int (40 : Int32)] (bM C (cH C s12) G) sz (.returned (some (.int r14)), (bM C (cH C s16) G), sz, 0)) (c17 : ¬ r14 = 0) (k : gm_ev N0 K ra_nm (ra_mt K) d (some (.object "RuleArena$Literal")) (gm_I cX6_readAtom) (gm_lkf (lkX6 false K)) 92 [some (.ref (C + 2)), some (.int p0), some (.int (s.2.1 1 k2)), none, some (.int (0 : Int32)), some (.int (3 : Int32)), some (.int (0 : Int32))] [] (bM C (cH C s16) G) sz sl R) : gm_ev N0 K ra_nm (ra_mt K) d (some (.object "RuleArena$Literal")) (gm_I cX6_readAtom) (gm_lkf (lkX6 false K)) 0 [some (.ref (C + 2)), some (.int p0), none, none, none, none, none] [] (bM C (cH C s) G) sz sl R := by
  refine gm_ev.aload_n i68_0 rfl ?_
  refine gm_ev.getfield (v := .ref (C + 1)) i68_1 rfl (bM_fld (j := 2) (fs := cF2 C s) rfl (cv_some h1)) ?_
  refine gm_ev.aload_n i68_4 rfl ?_
  refine gm_ev.getfield (v := .int (s.1 41)) i68_5 rfl (bM_fld (j := 2) (fs := cF2 C s) rfl rfl) ?_
  refine gm_ev.caload i68_8 (bM_ai (j := 1) (n := 241) (f := s.2.1 1) rfl ek2 lk2 (by decide)) ?_
  refine gm_ev.istore_n (ls' := [some (.ref (C + 2)), some (.int p0), some (.int (s.2.1 1 k2)), none, none, none, none]) i68_9 (Nat.le_of_ble_eq_true rfl) rfl ?_
  refine gm_ev.ldc i68_10 rfl ?_
  refine gm_ev.iload_n i68_12 rfl ?_
  refine gm_ev.callT gm_mono_run (av := [.int (s.2.1 1 k2)]) (r := []) i68_13 rfl rfl rfl (Nat.le_of_ble_eq_true rfl) (gm_to_ix hd (Or.inr rfl)) ?_
  refine gm_ev.istore_n (ls' := [some (.ref (C + 2)), some (.int p0), some (.int (s.2.1 1 k2)), some (.int (gm_ix (s.2.1 1 k2))), none, none, none]) i68_16 (Nat.le_of_ble_eq_true rfl) rfl ?_
  refine gm_ev.iload_n i68_17 rfl ?_
  refine gm_ev.if_ge_f i68_18 c5 ?_
  refine gm_ev.iload_n i68_21 rfl ?_
  refine gm_ev.callS gm_mono_run (av := [.int (s.2.1 1 k2)]) (r := []) i68_22 rfl rfl rfl (Nat.le_of_ble_eq_true rfl) t7 ?_
  refine gm_ev.if_ne_t (tgt := 30) i68_25 (by decide) c8 ?_
  refine gm_ev.aload_n i68_30 rfl ?_
  refine gm_ev.dup i68_31 rfl ?_
  refine gm_ev.getfield (v := .int (s.1 41)) i68_32 rfl (bM_fld (j := 2) (fs := cF2 C s) rfl rfl) ?_
  refine gm_ev.iconst (v := 1) i68_35 (by decide) ?_
  refine gm_ev.iadd i68_36 ?_
  refine gm_ev.putfield (M' := (bM C (cH C (cI s 41 ((s.1 41) + (1 : Int32)))) G)) i68_37 rfl (bM_put (j := 2) (fs := cF2 C s) rfl (Nat.le_of_ble_eq_true rfl) hN (gm_fit_i _) rfl) ?_
  refine gm_ev.iload_n i68_40 rfl ?_
  refine gm_ev.if_ge_f i68_41 c9 ?_
  refine gm_ev.iconst (v := 0) i68_44 (by decide) ?_
  refine gm_ev.goto (tgt := 53) i68_45 (by decide) ?_
  refine gm_ev.istore (ls' := [some (.ref (C + 2)), some (.int p0), some (.int (s.2.1 1 k2)), some (.int (gm_ix (s.2.1 1 k2))), some (.int (0 : Int32)), none, none]) i68_53 (Nat.le_of_ble_eq_true rfl) rfl ?_
  refine gm_ev.iload_n i68_55 rfl ?_
  refine gm_ev.if_ge_f i68_56 c10 ?_
  refine gm_ev.iconst (v := 3) i68_59 (by decide) ?_
  refine gm_ev.goto (tgt := 65) i68_60 (by decide) ?_
  refine gm_ev.istore (ls' := [some (.ref (C + 2)), some (.int p0), some (.int (s.2.1 1 k2)), some (.int (gm_ix (s.2.1 1 k2))), some (.int (0 : Int32)), some (.int (3 : Int32)), none]) i68_65 (Nat.le_of_ble_eq_true rfl) rfl ?_
  refine gm_ev.iconst (v := 0) i68_67 (by decide) ?_
  refine gm_ev.istore (ls' := [some (.ref (C + 2)), some (.int p0), some (.int (s.2.1 1 k2)), some (.int (gm_ix (s.2.1 1 k2))), some (.int (0 : Int32)), some (.int (3 : Int32)), some (.int (0 : Int32))]) i68_68 (Nat.le_of_ble_eq_true rfl) rfl ?_
  refine gm_ev.aload_n i68_70 rfl ?_
  refine gm_ev.getfield (v := .ref (C + 3)) i68_71 rfl (bM_fld (j := 2) (fs := cF2 C (cI s 41 ((s.1 41) + (1 : Int32)))) rfl rfl) ?_
  refine gm_ev.iconst (v := 0) i68_74 (by decide) ?_
  refine gm_ev.callS gm_mono_run (av := [.ref (C + 3), .int (0 : Int32)]) (r := []) i68_75 rfl rfl rfl (Nat.le_of_ble_eq_true rfl) t11 ?_
  refine gm_ev.iload i68_78 rfl ?_
  refine gm_ev.if_le_f i68_80 c13 ?_
  refine gm_ev.aload_n i68_83 rfl ?_
  refine gm_ev.bipush (v := 40) i68_84 (by decide) ?_
  refine gm_ev.callV gm_mono_run (av := [.int (40 : Int32)]) (r := []) (ci := 6) (fs := cF2 C s12) (bM_get (j := 2) rfl) i68_86 rfl rfl rfl (Nat.le_of_ble_eq_true rfl) t15 ?_
  refine gm_ev.if_eq_f i68_89 c17 ?_
  refine gm_ev.le (a := [some (.ref (C + 2)), some (.int p0), some (.int (s.2.1 1 k2)), none, some (.int (0 : Int32)), some (.int (3 : Int32)), some (.int (0 : Int32))]) (gm_leL.le (show gm_leL _ _ from ⟨rfl, ⟨rfl, ⟨rfl, ⟨rfl, ⟨rfl, ⟨rfl, trivial⟩⟩⟩⟩⟩⟩)) ?_
  exact k
theorem t_X6_readAtom_0_ff {N0 : Nat} {K : Nat → Nat} {d C : Nat} {s : cS} {G : gm_H} {sz sl : Nat} {p0 : Int32} {k2 : Nat} {r6 : Int32} (hN : N0 ≤ C) (h1 : s.2.2 40 = some (C + 1)) (ek2 : (s.1 41) = nI k2) (lk2 : k2 < 241) (hd : 0 < d) (c5 : ¬ 0 ≤ (gm_ix (s.2.1 1 k2))) (t7 : gm_to N0 K ra_nm (ra_mt K) d 88 [.int (s.2.1 1 k2)] (bM C (cH C s) G) sz (.returned (some (.int r6)), (bM C (cH C s) G), sz, 0)) (c8 : r6 = 0) : gm_ev N0 K ra_nm (ra_mt K) d (some (.object "RuleArena$Literal")) (gm_I cX6_readAtom) (gm_lkf (lkX6 false K)) 0 [some (.ref (C + 2)), some (.int p0), none, none, none, none, none] [] (bM C (cH C s) G) sz sl (.returned (some (.null)), (bM C (cH C s) G), sz, sl) := by
  refine gm_ev.aload_n i68_0 rfl ?_
  refine gm_ev.getfield (v := .ref (C + 1)) i68_1 rfl (bM_fld (j := 2) (fs := cF2 C s) rfl (cv_some h1)) ?_
  refine gm_ev.aload_n i68_4 rfl ?_
  refine gm_ev.getfield (v := .int (s.1 41)) i68_5 rfl (bM_fld (j := 2) (fs := cF2 C s) rfl rfl) ?_
  refine gm_ev.caload i68_8 (bM_ai (j := 1) (n := 241) (f := s.2.1 1) rfl ek2 lk2 (by decide)) ?_
  refine gm_ev.istore_n (ls' := [some (.ref (C + 2)), some (.int p0), some (.int (s.2.1 1 k2)), none, none, none, none]) i68_9 (Nat.le_of_ble_eq_true rfl) rfl ?_
  refine gm_ev.ldc i68_10 rfl ?_
  refine gm_ev.iload_n i68_12 rfl ?_
  refine gm_ev.callT gm_mono_run (av := [.int (s.2.1 1 k2)]) (r := []) i68_13 rfl rfl rfl (Nat.le_of_ble_eq_true rfl) (gm_to_ix hd (Or.inr rfl)) ?_
  refine gm_ev.istore_n (ls' := [some (.ref (C + 2)), some (.int p0), some (.int (s.2.1 1 k2)), some (.int (gm_ix (s.2.1 1 k2))), none, none, none]) i68_16 (Nat.le_of_ble_eq_true rfl) rfl ?_
  refine gm_ev.iload_n i68_17 rfl ?_
  refine gm_ev.if_ge_f i68_18 c5 ?_
  refine gm_ev.iload_n i68_21 rfl ?_
  refine gm_ev.callS gm_mono_run (av := [.int (s.2.1 1 k2)]) (r := []) i68_22 rfl rfl rfl (Nat.le_of_ble_eq_true rfl) t7 ?_
  refine gm_ev.if_ne_f i68_25 c8 ?_
  refine gm_ev.null i68_28 ?_
  exact gm_ev.aretN i68_29 rfl
theorem t_X6_readAtom_92_ttt {N0 : Nat} {K : Nat → Nat} {d C : Nat} {s : cS} {G : gm_H} {sz sl : Nat} {u1 : Int32} {u2 : Int32} {u4 : Int32} {u5 : Int32} {u6 : Int32} {r1 : Int32} {s3 : cS} {k4 : Nat} {k5 : Nat} (hN : N0 ≤ C) (t2 : gm_to N0 K ra_nm (ra_mt K) d 69 [.ref (C + 2)] (bM C (cH C s) G) sz (.returned (some (.int r1)), (bM C (cH C s3) G), sz, 0)) (ek4 : u6 = nI k4) (lk4 : k4 < 3) (ek5 : u6 = nI k5) (lk5 : k5 < 3) (c6 : ¬ ((upd (s3.2.1 3) k4 r1) k5) = 0) (c7 : u5 ≤ (u6 + (1 : Int32))) (c8 : (u6 + (1 : Int32)) < u4) : gm_ev N0 K ra_nm (ra_mt K) d (some (.object "RuleArena$Literal")) (gm_I cX6_readAtom) (gm_lkf (lkX6 false K)) 92 [some (.ref (C + 2)), some (.int u1), some (.int u2), none, some (.int u4), some (.int u5), some (.int u6)] [] (bM C (cH C s) G) sz sl (.returned (some (.null)), (bM C (cH C (cA s3 3 (upd (s3.2.1 3) k4 r1))) G), sz, sl) := by
  refine gm_ev.aload_n i68_92 rfl ?_
  refine gm_ev.getfield (v := .ref (C + 3)) i68_93 rfl (bM_fld (j := 2) (fs := cF2 C s) rfl rfl) ?_
  refine gm_ev.iload i68_96 rfl ?_
  refine gm_ev.aload_n i68_98 rfl ?_
  refine gm_ev.callV gm_mono_run (av := []) (r := [.int u6, .ref (C + 3)]) (ci := 6) (fs := cF2 C s) (bM_get (j := 2) rfl) i68_99 rfl rfl rfl (Nat.le_of_ble_eq_true rfl) t2 ?_
  refine gm_ev.iastore (M' := (bM C (cH C (cA s3 3 (upd (s3.2.1 3) k4 r1))) G)) i68_102 (bM_asti (j := 3) (n := 3) (f := s3.2.1 3) rfl ek4 lk4 (by decide) hN rfl) ?_
  refine gm_ev.aload_n i68_103 rfl ?_
  refine gm_ev.getfield (v := .ref (C + 3)) i68_104 rfl (bM_fld (j := 2) (fs := cF2 C (cA s3 3 (upd (s3.2.1 3) k4 r1))) rfl rfl) ?_
  refine gm_ev.iload i68_107 rfl ?_
  refine gm_ev.iaload i68_109 (bM_ai (j := 3) (n := 3) (f := (upd (s3.2.1 3) k4 r1)) rfl ek5 lk5 (by decide)) ?_
  refine gm_ev.if_ne_t (tgt := 115) i68_110 (by decide) c6 ?_
  refine gm_ev.iinc (v := u6 + (1 : Int32)) (ls' := [some (.ref (C + 2)), some (.int u1), some (.int u2), none, some (.int u4), some (.int u5), some (.int (u6 + (1 : Int32)))]) i68_115 rfl (by rfl) rfl ?_
  refine gm_ev.iload i68_118 rfl ?_
  refine gm_ev.iload i68_120 rfl ?_
  refine gm_ev.icmp_ge_t (tgt := 134) i68_122 (by decide) c7 ?_
  refine gm_ev.iload i68_134 rfl ?_
  refine gm_ev.iload i68_136 rfl ?_
  refine gm_ev.icmp_lt_t (tgt := 150) i68_138 (by decide) c8 ?_
  refine gm_ev.null i68_150 ?_
  exact gm_ev.aretN i68_151 rfl
theorem t_X6_readAtom_92_ttftt {N0 : Nat} {K : Nat → Nat} {d C : Nat} {s : cS} {G : gm_H} {sz sl : Nat} {u1 : Int32} {u2 : Int32} {u4 : Int32} {u5 : Int32} {u6 : Int32} {r1 : Int32} {s3 : cS} {k4 : Nat} {k5 : Nat} {r9 : Int32} {s11 : cS} {r17 : Int32} {k19 : Nat} {k20 : Nat} {k21 : Nat} {G23 : gm_H} (hN : N0 ≤ C) (t2 : gm_to N0 K ra_nm (ra_mt K) d 69 [.ref (C + 2)] (bM C (cH C s) G) sz (.returned (some (.int r1)), (bM C (cH C s3) G), sz, 0)) (ek4 : u6 = nI k4) (lk4 : k4 < 3) (ek5 : u6 = nI k5) (lk5 : k5 < 3) (c6 : ¬ ((upd (s3.2.1 3) k4 r1) k5) = 0) (c7 : u5 ≤ (u6 + (1 : Int32))) (c8 : ¬ (u6 + (1 : Int32)) < u4) (t10 : gm_to N0 K ra_nm (ra_mt K) d 63 [.ref (C + 2), .int (41 : Int32)] (bM C (cH C (cA s3 3 (upd (s3.2.1 3) k4 r1))) G) sz (.returned (some (.int r9)), (bM C (cH C s11) G), sz, 0)) (c12 : ¬ r9 = 0) (c13 : u4 ≤ (u6 + (1 : Int32))) (hg_sz : C + 34 ≤ sz) (bd14 : gm_bd G sz) (t18 : gm_to N0 K ra_nm (ra_mt K) d 55 [.int u2, .int (u6 + (1 : Int32))] (bM C (cH C s11) (gm_new G sz (.inr (5, [.int 0, .int 0, .int 0, .int 0, .int 0, .int 0, .int 0])))) (sz + 1) (.returned (some (.int r17)), (bM C (cH C s11) (gm_new G sz (.inr (5, [.int 0, .int 0, .int 0, .int 0, .int 0, .int 0, .int 0])))), (sz + 1), 0)) (ek19 : (0 : Int32) = nI k19) (lk19 : k19 < 3) (ek20 : (1 : Int32) = nI k20) (lk20 : k20 < 3) (ek21 : (2 : Int32) = nI k21) (lk21 : k21 < 3) (t22 : gm_to N0 K ra_nm (ra_mt K) d 54 [.ref sz, .int u1, .int r17, .int (s11.2.1 3 k19), .int (s11.2.1 3 k20), .int (s11.2.1 3 k21)] (bM C (cH C s11) (gm_new G sz (.inr (5, [.int 0, .int 0, .int 0, .int 0, .int 0, .int 0, .int 0])))) (sz + 1) (.returned none, (bM C (cH C s11) G23), (sz + 1), 0)) : gm_ev N0 K ra_nm (ra_mt K) d (some (.object "RuleArena$Literal")) (gm_I cX6_readAtom) (gm_lkf (lkX6 false K)) 92 [some (.ref (C + 2)), some (.int u1), some (.int u2), none, some (.int u4), some (.int u5), some (.int u6)] [] (bM C (cH C s) G) sz sl (.returned (some (.ref sz)), (bM C (cH C s11) G23), (sz + 1), (sl + 7)) := by
  refine gm_ev.aload_n i68_92 rfl ?_
  refine gm_ev.getfield (v := .ref (C + 3)) i68_93 rfl (bM_fld (j := 2) (fs := cF2 C s) rfl rfl) ?_
  refine gm_ev.iload i68_96 rfl ?_
  refine gm_ev.aload_n i68_98 rfl ?_
  refine gm_ev.callV gm_mono_run (av := []) (r := [.int u6, .ref (C + 3)]) (ci := 6) (fs := cF2 C s) (bM_get (j := 2) rfl) i68_99 rfl rfl rfl (Nat.le_of_ble_eq_true rfl) t2 ?_
  refine gm_ev.iastore (M' := (bM C (cH C (cA s3 3 (upd (s3.2.1 3) k4 r1))) G)) i68_102 (bM_asti (j := 3) (n := 3) (f := s3.2.1 3) rfl ek4 lk4 (by decide) hN rfl) ?_
  refine gm_ev.aload_n i68_103 rfl ?_
  refine gm_ev.getfield (v := .ref (C + 3)) i68_104 rfl (bM_fld (j := 2) (fs := cF2 C (cA s3 3 (upd (s3.2.1 3) k4 r1))) rfl rfl) ?_
  refine gm_ev.iload i68_107 rfl ?_
  refine gm_ev.iaload i68_109 (bM_ai (j := 3) (n := 3) (f := (upd (s3.2.1 3) k4 r1)) rfl ek5 lk5 (by decide)) ?_
  refine gm_ev.if_ne_t (tgt := 115) i68_110 (by decide) c6 ?_
  refine gm_ev.iinc (v := u6 + (1 : Int32)) (ls' := [some (.ref (C + 2)), some (.int u1), some (.int u2), none, some (.int u4), some (.int u5), some (.int (u6 + (1 : Int32)))]) i68_115 rfl (by rfl) rfl ?_
  refine gm_ev.iload i68_118 rfl ?_
  refine gm_ev.iload i68_120 rfl ?_
  refine gm_ev.icmp_ge_t (tgt := 134) i68_122 (by decide) c7 ?_
  refine gm_ev.iload i68_134 rfl ?_
  refine gm_ev.iload i68_136 rfl ?_
  refine gm_ev.icmp_lt_f i68_138 c8 ?_
  refine gm_ev.aload_n i68_141 rfl ?_
  refine gm_ev.bipush (v := 41) i68_142 (by decide) ?_
  refine gm_ev.callV gm_mono_run (av := [.int (41 : Int32)]) (r := []) (ci := 6) (fs := cF2 C (cA s3 3 (upd (s3.2.1 3) k4 r1))) (bM_get (j := 2) rfl) i68_144 rfl rfl rfl (Nat.le_of_ble_eq_true rfl) t10 ?_
  refine gm_ev.if_ne_t (tgt := 152) i68_147 (by decide) c12 ?_
  refine gm_ev.iload i68_152 rfl ?_
  refine gm_ev.iload i68_154 rfl ?_
  refine gm_ev.icmp_ge_t (tgt := 161) i68_156 (by decide) c13 ?_
  refine gm_ev.new i68_161 rfl ?_
  rw [cG_new hg_sz]
  have w15 : (gm_new G sz (.inr (5, [.int 0, .int 0, .int 0, .int 0, .int 0, .int 0, .int 0]))) sz = some (.inr (5, [.int 0, .int 0, .int 0, .int 0, .int 0, .int 0, .int 0])) := gm_set_eq
  have bd16 : gm_bd (gm_new G sz (.inr (5, [.int 0, .int 0, .int 0, .int 0, .int 0, .int 0, .int 0]))) (sz + 1) := gm_bd.new bd14
  refine gm_ev.dup i68_164 rfl ?_
  refine gm_ev.iload_n i68_165 rfl ?_
  refine gm_ev.iload_n i68_166 rfl ?_
  refine gm_ev.iload i68_167 rfl ?_
  refine gm_ev.callS gm_mono_run (av := [.int u2, .int (u6 + (1 : Int32))]) (r := [.int u1, .ref sz, .ref sz]) i68_169 rfl rfl rfl (Nat.le_of_ble_eq_true rfl) t18 ?_
  refine gm_ev.aload_n i68_172 rfl ?_
  refine gm_ev.getfield (v := .ref (C + 3)) i68_173 rfl (bM_fld (j := 2) (fs := cF2 C s11) rfl rfl) ?_
  refine gm_ev.iconst (v := 0) i68_176 (by decide) ?_
  refine gm_ev.iaload i68_177 (bM_ai (j := 3) (n := 3) (f := s11.2.1 3) rfl ek19 lk19 (by decide)) ?_
  refine gm_ev.aload_n i68_178 rfl ?_
  refine gm_ev.getfield (v := .ref (C + 3)) i68_179 rfl (bM_fld (j := 2) (fs := cF2 C s11) rfl rfl) ?_
  refine gm_ev.iconst (v := 1) i68_182 (by decide) ?_
  refine gm_ev.iaload i68_183 (bM_ai (j := 3) (n := 3) (f := s11.2.1 3) rfl ek20 lk20 (by decide)) ?_
  refine gm_ev.aload_n i68_184 rfl ?_
  refine gm_ev.getfield (v := .ref (C + 3)) i68_185 rfl (bM_fld (j := 2) (fs := cF2 C s11) rfl rfl) ?_
  refine gm_ev.iconst (v := 2) i68_188 (by decide) ?_
  refine gm_ev.iaload i68_189 (bM_ai (j := 3) (n := 3) (f := s11.2.1 3) rfl ek21 lk21 (by decide)) ?_
  refine gm_ev.callI gm_mono_run (av := [.int u1, .int r17, .int (s11.2.1 3 k19), .int (s11.2.1 3 k20), .int (s11.2.1 3 k21)]) (r := [.ref sz]) i68_190 rfl rfl rfl (Nat.le_of_ble_eq_true rfl) t22 ?_
  exact gm_ev.aret i68_193 rfl
theorem t_X6_readAtom_92_ttftf {N0 : Nat} {K : Nat → Nat} {d C : Nat} {s : cS} {G : gm_H} {sz sl : Nat} {u1 : Int32} {u2 : Int32} {u4 : Int32} {u5 : Int32} {u6 : Int32} {r1 : Int32} {s3 : cS} {k4 : Nat} {k5 : Nat} {r9 : Int32} {s11 : cS} (hN : N0 ≤ C) (t2 : gm_to N0 K ra_nm (ra_mt K) d 69 [.ref (C + 2)] (bM C (cH C s) G) sz (.returned (some (.int r1)), (bM C (cH C s3) G), sz, 0)) (ek4 : u6 = nI k4) (lk4 : k4 < 3) (ek5 : u6 = nI k5) (lk5 : k5 < 3) (c6 : ¬ ((upd (s3.2.1 3) k4 r1) k5) = 0) (c7 : u5 ≤ (u6 + (1 : Int32))) (c8 : ¬ (u6 + (1 : Int32)) < u4) (t10 : gm_to N0 K ra_nm (ra_mt K) d 63 [.ref (C + 2), .int (41 : Int32)] (bM C (cH C (cA s3 3 (upd (s3.2.1 3) k4 r1))) G) sz (.returned (some (.int r9)), (bM C (cH C s11) G), sz, 0)) (c12 : ¬ r9 = 0) (c13 : ¬ u4 ≤ (u6 + (1 : Int32))) : gm_ev N0 K ra_nm (ra_mt K) d (some (.object "RuleArena$Literal")) (gm_I cX6_readAtom) (gm_lkf (lkX6 false K)) 92 [some (.ref (C + 2)), some (.int u1), some (.int u2), none, some (.int u4), some (.int u5), some (.int u6)] [] (bM C (cH C s) G) sz sl (.returned (some (.null)), (bM C (cH C s11) G), sz, sl) := by
  refine gm_ev.aload_n i68_92 rfl ?_
  refine gm_ev.getfield (v := .ref (C + 3)) i68_93 rfl (bM_fld (j := 2) (fs := cF2 C s) rfl rfl) ?_
  refine gm_ev.iload i68_96 rfl ?_
  refine gm_ev.aload_n i68_98 rfl ?_
  refine gm_ev.callV gm_mono_run (av := []) (r := [.int u6, .ref (C + 3)]) (ci := 6) (fs := cF2 C s) (bM_get (j := 2) rfl) i68_99 rfl rfl rfl (Nat.le_of_ble_eq_true rfl) t2 ?_
  refine gm_ev.iastore (M' := (bM C (cH C (cA s3 3 (upd (s3.2.1 3) k4 r1))) G)) i68_102 (bM_asti (j := 3) (n := 3) (f := s3.2.1 3) rfl ek4 lk4 (by decide) hN rfl) ?_
  refine gm_ev.aload_n i68_103 rfl ?_
  refine gm_ev.getfield (v := .ref (C + 3)) i68_104 rfl (bM_fld (j := 2) (fs := cF2 C (cA s3 3 (upd (s3.2.1 3) k4 r1))) rfl rfl) ?_
  refine gm_ev.iload i68_107 rfl ?_
  refine gm_ev.iaload i68_109 (bM_ai (j := 3) (n := 3) (f := (upd (s3.2.1 3) k4 r1)) rfl ek5 lk5 (by decide)) ?_
  refine gm_ev.if_ne_t (tgt := 115) i68_110 (by decide) c6 ?_
  refine gm_ev.iinc (v := u6 + (1 : Int32)) (ls' := [some (.ref (C + 2)), some (.int u1), some (.int u2), none, some (.int u4), some (.int u5), some (.int (u6 + (1 : Int32)))]) i68_115 rfl (by rfl) rfl ?_
  refine gm_ev.iload i68_118 rfl ?_
  refine gm_ev.iload i68_120 rfl ?_
  refine gm_ev.icmp_ge_t (tgt := 134) i68_122 (by decide) c7 ?_
  refine gm_ev.iload i68_134 rfl ?_
  refine gm_ev.iload i68_136 rfl ?_
  refine gm_ev.icmp_lt_f i68_138 c8 ?_
  refine gm_ev.aload_n i68_141 rfl ?_
  refine gm_ev.bipush (v := 41) i68_142 (by decide) ?_
  refine gm_ev.callV gm_mono_run (av := [.int (41 : Int32)]) (r := []) (ci := 6) (fs := cF2 C (cA s3 3 (upd (s3.2.1 3) k4 r1))) (bM_get (j := 2) rfl) i68_144 rfl rfl rfl (Nat.le_of_ble_eq_true rfl) t10 ?_
  refine gm_ev.if_ne_t (tgt := 152) i68_147 (by decide) c12 ?_
  refine gm_ev.iload i68_152 rfl ?_
  refine gm_ev.iload i68_154 rfl ?_
  refine gm_ev.icmp_ge_f i68_156 c13 ?_
  refine gm_ev.null i68_159 ?_
  exact gm_ev.aretN i68_160 rfl
theorem t_X6_readAtom_92_ttff {N0 : Nat} {K : Nat → Nat} {d C : Nat} {s : cS} {G : gm_H} {sz sl : Nat} {u1 : Int32} {u2 : Int32} {u4 : Int32} {u5 : Int32} {u6 : Int32} {r1 : Int32} {s3 : cS} {k4 : Nat} {k5 : Nat} {r9 : Int32} {s11 : cS} (hN : N0 ≤ C) (t2 : gm_to N0 K ra_nm (ra_mt K) d 69 [.ref (C + 2)] (bM C (cH C s) G) sz (.returned (some (.int r1)), (bM C (cH C s3) G), sz, 0)) (ek4 : u6 = nI k4) (lk4 : k4 < 3) (ek5 : u6 = nI k5) (lk5 : k5 < 3) (c6 : ¬ ((upd (s3.2.1 3) k4 r1) k5) = 0) (c7 : u5 ≤ (u6 + (1 : Int32))) (c8 : ¬ (u6 + (1 : Int32)) < u4) (t10 : gm_to N0 K ra_nm (ra_mt K) d 63 [.ref (C + 2), .int (41 : Int32)] (bM C (cH C (cA s3 3 (upd (s3.2.1 3) k4 r1))) G) sz (.returned (some (.int r9)), (bM C (cH C s11) G), sz, 0)) (c12 : r9 = 0) : gm_ev N0 K ra_nm (ra_mt K) d (some (.object "RuleArena$Literal")) (gm_I cX6_readAtom) (gm_lkf (lkX6 false K)) 92 [some (.ref (C + 2)), some (.int u1), some (.int u2), none, some (.int u4), some (.int u5), some (.int u6)] [] (bM C (cH C s) G) sz sl (.returned (some (.null)), (bM C (cH C s11) G), sz, sl) := by
  refine gm_ev.aload_n i68_92 rfl ?_
  refine gm_ev.getfield (v := .ref (C + 3)) i68_93 rfl (bM_fld (j := 2) (fs := cF2 C s) rfl rfl) ?_
  refine gm_ev.iload i68_96 rfl ?_
  refine gm_ev.aload_n i68_98 rfl ?_
  refine gm_ev.callV gm_mono_run (av := []) (r := [.int u6, .ref (C + 3)]) (ci := 6) (fs := cF2 C s) (bM_get (j := 2) rfl) i68_99 rfl rfl rfl (Nat.le_of_ble_eq_true rfl) t2 ?_
  refine gm_ev.iastore (M' := (bM C (cH C (cA s3 3 (upd (s3.2.1 3) k4 r1))) G)) i68_102 (bM_asti (j := 3) (n := 3) (f := s3.2.1 3) rfl ek4 lk4 (by decide) hN rfl) ?_
  refine gm_ev.aload_n i68_103 rfl ?_
  refine gm_ev.getfield (v := .ref (C + 3)) i68_104 rfl (bM_fld (j := 2) (fs := cF2 C (cA s3 3 (upd (s3.2.1 3) k4 r1))) rfl rfl) ?_
  refine gm_ev.iload i68_107 rfl ?_
  refine gm_ev.iaload i68_109 (bM_ai (j := 3) (n := 3) (f := (upd (s3.2.1 3) k4 r1)) rfl ek5 lk5 (by decide)) ?_
  refine gm_ev.if_ne_t (tgt := 115) i68_110 (by decide) c6 ?_
  refine gm_ev.iinc (v := u6 + (1 : Int32)) (ls' := [some (.ref (C + 2)), some (.int u1), some (.int u2), none, some (.int u4), some (.int u5), some (.int (u6 + (1 : Int32)))]) i68_115 rfl (by rfl) rfl ?_
  refine gm_ev.iload i68_118 rfl ?_
  refine gm_ev.iload i68_120 rfl ?_
  refine gm_ev.icmp_ge_t (tgt := 134) i68_122 (by decide) c7 ?_
  refine gm_ev.iload i68_134 rfl ?_
  refine gm_ev.iload i68_136 rfl ?_
  refine gm_ev.icmp_lt_f i68_138 c8 ?_
  refine gm_ev.aload_n i68_141 rfl ?_
  refine gm_ev.bipush (v := 41) i68_142 (by decide) ?_
  refine gm_ev.callV gm_mono_run (av := [.int (41 : Int32)]) (r := []) (ci := 6) (fs := cF2 C (cA s3 3 (upd (s3.2.1 3) k4 r1))) (bM_get (j := 2) rfl) i68_144 rfl rfl rfl (Nat.le_of_ble_eq_true rfl) t10 ?_
  refine gm_ev.if_ne_f i68_147 c12 ?_
  refine gm_ev.null i68_150 ?_
  exact gm_ev.aretN i68_151 rfl
theorem t_X6_readAtom_92_tft_at92 {N0 : Nat} {K : Nat → Nat} {d C : Nat} {s : cS} {G : gm_H} {sz sl : Nat} {R : gm_R} {u1 : Int32} {u2 : Int32} {u4 : Int32} {u5 : Int32} {u6 : Int32} {r1 : Int32} {s3 : cS} {k4 : Nat} {k5 : Nat} {r8 : Int32} {s10 : cS} (hN : N0 ≤ C) (t2 : gm_to N0 K ra_nm (ra_mt K) d 69 [.ref (C + 2)] (bM C (cH C s) G) sz (.returned (some (.int r1)), (bM C (cH C s3) G), sz, 0)) (ek4 : u6 = nI k4) (lk4 : k4 < 3) (ek5 : u6 = nI k5) (lk5 : k5 < 3) (c6 : ¬ ((upd (s3.2.1 3) k4 r1) k5) = 0) (c7 : ¬ u5 ≤ (u6 + (1 : Int32))) (t9 : gm_to N0 K ra_nm (ra_mt K) d 63 [.ref (C + 2), .int (44 : Int32)] (bM C (cH C (cA s3 3 (upd (s3.2.1 3) k4 r1))) G) sz (.returned (some (.int r8)), (bM C (cH C s10) G), sz, 0)) (c11 : ¬ r8 = 0) (k : gm_ev N0 K ra_nm (ra_mt K) d (some (.object "RuleArena$Literal")) (gm_I cX6_readAtom) (gm_lkf (lkX6 false K)) 92 [some (.ref (C + 2)), some (.int u1), some (.int u2), none, some (.int u4), some (.int u5), some (.int (u6 + (1 : Int32)))] [] (bM C (cH C s10) G) sz sl R) : gm_ev N0 K ra_nm (ra_mt K) d (some (.object "RuleArena$Literal")) (gm_I cX6_readAtom) (gm_lkf (lkX6 false K)) 92 [some (.ref (C + 2)), some (.int u1), some (.int u2), none, some (.int u4), some (.int u5), some (.int u6)] [] (bM C (cH C s) G) sz sl R := by
  refine gm_ev.aload_n i68_92 rfl ?_
  refine gm_ev.getfield (v := .ref (C + 3)) i68_93 rfl (bM_fld (j := 2) (fs := cF2 C s) rfl rfl) ?_
  refine gm_ev.iload i68_96 rfl ?_
  refine gm_ev.aload_n i68_98 rfl ?_
  refine gm_ev.callV gm_mono_run (av := []) (r := [.int u6, .ref (C + 3)]) (ci := 6) (fs := cF2 C s) (bM_get (j := 2) rfl) i68_99 rfl rfl rfl (Nat.le_of_ble_eq_true rfl) t2 ?_
  refine gm_ev.iastore (M' := (bM C (cH C (cA s3 3 (upd (s3.2.1 3) k4 r1))) G)) i68_102 (bM_asti (j := 3) (n := 3) (f := s3.2.1 3) rfl ek4 lk4 (by decide) hN rfl) ?_
  refine gm_ev.aload_n i68_103 rfl ?_
  refine gm_ev.getfield (v := .ref (C + 3)) i68_104 rfl (bM_fld (j := 2) (fs := cF2 C (cA s3 3 (upd (s3.2.1 3) k4 r1))) rfl rfl) ?_
  refine gm_ev.iload i68_107 rfl ?_
  refine gm_ev.iaload i68_109 (bM_ai (j := 3) (n := 3) (f := (upd (s3.2.1 3) k4 r1)) rfl ek5 lk5 (by decide)) ?_
  refine gm_ev.if_ne_t (tgt := 115) i68_110 (by decide) c6 ?_
  refine gm_ev.iinc (v := u6 + (1 : Int32)) (ls' := [some (.ref (C + 2)), some (.int u1), some (.int u2), none, some (.int u4), some (.int u5), some (.int (u6 + (1 : Int32)))]) i68_115 rfl (by rfl) rfl ?_
  refine gm_ev.iload i68_118 rfl ?_
  refine gm_ev.iload i68_120 rfl ?_
  refine gm_ev.icmp_ge_f i68_122 c7 ?_
  refine gm_ev.aload_n i68_125 rfl ?_
  refine gm_ev.bipush (v := 44) i68_126 (by decide) ?_
  refine gm_ev.callV gm_mono_run (av := [.int (44 : Int32)]) (r := []) (ci := 6) (fs := cF2 C (cA s3 3 (upd (s3.2.1 3) k4 r1))) (bM_get (j := 2) rfl) i68_128 rfl rfl rfl (Nat.le_of_ble_eq_true rfl) t9 ?_
  refine gm_ev.if_ne_t (tgt := 92) i68_131 (by decide) c11 ?_
  exact k
theorem t_X6_readAtom_92_tfft {N0 : Nat} {K : Nat → Nat} {d C : Nat} {s : cS} {G : gm_H} {sz sl : Nat} {u1 : Int32} {u2 : Int32} {u4 : Int32} {u5 : Int32} {u6 : Int32} {r1 : Int32} {s3 : cS} {k4 : Nat} {k5 : Nat} {r8 : Int32} {s10 : cS} (hN : N0 ≤ C) (t2 : gm_to N0 K ra_nm (ra_mt K) d 69 [.ref (C + 2)] (bM C (cH C s) G) sz (.returned (some (.int r1)), (bM C (cH C s3) G), sz, 0)) (ek4 : u6 = nI k4) (lk4 : k4 < 3) (ek5 : u6 = nI k5) (lk5 : k5 < 3) (c6 : ¬ ((upd (s3.2.1 3) k4 r1) k5) = 0) (c7 : ¬ u5 ≤ (u6 + (1 : Int32))) (t9 : gm_to N0 K ra_nm (ra_mt K) d 63 [.ref (C + 2), .int (44 : Int32)] (bM C (cH C (cA s3 3 (upd (s3.2.1 3) k4 r1))) G) sz (.returned (some (.int r8)), (bM C (cH C s10) G), sz, 0)) (c11 : r8 = 0) (c12 : (u6 + (1 : Int32)) < u4) : gm_ev N0 K ra_nm (ra_mt K) d (some (.object "RuleArena$Literal")) (gm_I cX6_readAtom) (gm_lkf (lkX6 false K)) 92 [some (.ref (C + 2)), some (.int u1), some (.int u2), none, some (.int u4), some (.int u5), some (.int u6)] [] (bM C (cH C s) G) sz sl (.returned (some (.null)), (bM C (cH C s10) G), sz, sl) := by
  refine gm_ev.aload_n i68_92 rfl ?_
  refine gm_ev.getfield (v := .ref (C + 3)) i68_93 rfl (bM_fld (j := 2) (fs := cF2 C s) rfl rfl) ?_
  refine gm_ev.iload i68_96 rfl ?_
  refine gm_ev.aload_n i68_98 rfl ?_
  refine gm_ev.callV gm_mono_run (av := []) (r := [.int u6, .ref (C + 3)]) (ci := 6) (fs := cF2 C s) (bM_get (j := 2) rfl) i68_99 rfl rfl rfl (Nat.le_of_ble_eq_true rfl) t2 ?_
  refine gm_ev.iastore (M' := (bM C (cH C (cA s3 3 (upd (s3.2.1 3) k4 r1))) G)) i68_102 (bM_asti (j := 3) (n := 3) (f := s3.2.1 3) rfl ek4 lk4 (by decide) hN rfl) ?_
  refine gm_ev.aload_n i68_103 rfl ?_
  refine gm_ev.getfield (v := .ref (C + 3)) i68_104 rfl (bM_fld (j := 2) (fs := cF2 C (cA s3 3 (upd (s3.2.1 3) k4 r1))) rfl rfl) ?_
  refine gm_ev.iload i68_107 rfl ?_
  refine gm_ev.iaload i68_109 (bM_ai (j := 3) (n := 3) (f := (upd (s3.2.1 3) k4 r1)) rfl ek5 lk5 (by decide)) ?_
  refine gm_ev.if_ne_t (tgt := 115) i68_110 (by decide) c6 ?_
  refine gm_ev.iinc (v := u6 + (1 : Int32)) (ls' := [some (.ref (C + 2)), some (.int u1), some (.int u2), none, some (.int u4), some (.int u5), some (.int (u6 + (1 : Int32)))]) i68_115 rfl (by rfl) rfl ?_
  refine gm_ev.iload i68_118 rfl ?_
  refine gm_ev.iload i68_120 rfl ?_
  refine gm_ev.icmp_ge_f i68_122 c7 ?_
  refine gm_ev.aload_n i68_125 rfl ?_
  refine gm_ev.bipush (v := 44) i68_126 (by decide) ?_
  refine gm_ev.callV gm_mono_run (av := [.int (44 : Int32)]) (r := []) (ci := 6) (fs := cF2 C (cA s3 3 (upd (s3.2.1 3) k4 r1))) (bM_get (j := 2) rfl) i68_128 rfl rfl rfl (Nat.le_of_ble_eq_true rfl) t9 ?_
  refine gm_ev.if_ne_f i68_131 c11 ?_
  refine gm_ev.iload i68_134 rfl ?_
  refine gm_ev.iload i68_136 rfl ?_
  refine gm_ev.icmp_lt_t (tgt := 150) i68_138 (by decide) c12 ?_
  refine gm_ev.null i68_150 ?_
  exact gm_ev.aretN i68_151 rfl
theorem t_X6_readAtom_92_tffftt {N0 : Nat} {K : Nat → Nat} {d C : Nat} {s : cS} {G : gm_H} {sz sl : Nat} {u1 : Int32} {u2 : Int32} {u4 : Int32} {u5 : Int32} {u6 : Int32} {r1 : Int32} {s3 : cS} {k4 : Nat} {k5 : Nat} {r8 : Int32} {s10 : cS} {r13 : Int32} {s15 : cS} {r21 : Int32} {k23 : Nat} {k24 : Nat} {k25 : Nat} {G27 : gm_H} (hN : N0 ≤ C) (t2 : gm_to N0 K ra_nm (ra_mt K) d 69 [.ref (C + 2)] (bM C (cH C s) G) sz (.returned (some (.int r1)), (bM C (cH C s3) G), sz, 0)) (ek4 : u6 = nI k4) (lk4 : k4 < 3) (ek5 : u6 = nI k5) (lk5 : k5 < 3) (c6 : ¬ ((upd (s3.2.1 3) k4 r1) k5) = 0) (c7 : ¬ u5 ≤ (u6 + (1 : Int32))) (t9 : gm_to N0 K ra_nm (ra_mt K) d 63 [.ref (C + 2), .int (44 : Int32)] (bM C (cH C (cA s3 3 (upd (s3.2.1 3) k4 r1))) G) sz (.returned (some (.int r8)), (bM C (cH C s10) G), sz, 0)) (c11 : r8 = 0) (c12 : ¬ (u6 + (1 : Int32)) < u4) (t14 : gm_to N0 K ra_nm (ra_mt K) d 63 [.ref (C + 2), .int (41 : Int32)] (bM C (cH C s10) G) sz (.returned (some (.int r13)), (bM C (cH C s15) G), sz, 0)) (c16 : ¬ r13 = 0) (c17 : u4 ≤ (u6 + (1 : Int32))) (hg_sz : C + 34 ≤ sz) (bd18 : gm_bd G sz) (t22 : gm_to N0 K ra_nm (ra_mt K) d 55 [.int u2, .int (u6 + (1 : Int32))] (bM C (cH C s15) (gm_new G sz (.inr (5, [.int 0, .int 0, .int 0, .int 0, .int 0, .int 0, .int 0])))) (sz + 1) (.returned (some (.int r21)), (bM C (cH C s15) (gm_new G sz (.inr (5, [.int 0, .int 0, .int 0, .int 0, .int 0, .int 0, .int 0])))), (sz + 1), 0)) (ek23 : (0 : Int32) = nI k23) (lk23 : k23 < 3) (ek24 : (1 : Int32) = nI k24) (lk24 : k24 < 3) (ek25 : (2 : Int32) = nI k25) (lk25 : k25 < 3) (t26 : gm_to N0 K ra_nm (ra_mt K) d 54 [.ref sz, .int u1, .int r21, .int (s15.2.1 3 k23), .int (s15.2.1 3 k24), .int (s15.2.1 3 k25)] (bM C (cH C s15) (gm_new G sz (.inr (5, [.int 0, .int 0, .int 0, .int 0, .int 0, .int 0, .int 0])))) (sz + 1) (.returned none, (bM C (cH C s15) G27), (sz + 1), 0)) : gm_ev N0 K ra_nm (ra_mt K) d (some (.object "RuleArena$Literal")) (gm_I cX6_readAtom) (gm_lkf (lkX6 false K)) 92 [some (.ref (C + 2)), some (.int u1), some (.int u2), none, some (.int u4), some (.int u5), some (.int u6)] [] (bM C (cH C s) G) sz sl (.returned (some (.ref sz)), (bM C (cH C s15) G27), (sz + 1), (sl + 7)) := by
  refine gm_ev.aload_n i68_92 rfl ?_
  refine gm_ev.getfield (v := .ref (C + 3)) i68_93 rfl (bM_fld (j := 2) (fs := cF2 C s) rfl rfl) ?_
  refine gm_ev.iload i68_96 rfl ?_
  refine gm_ev.aload_n i68_98 rfl ?_
  refine gm_ev.callV gm_mono_run (av := []) (r := [.int u6, .ref (C + 3)]) (ci := 6) (fs := cF2 C s) (bM_get (j := 2) rfl) i68_99 rfl rfl rfl (Nat.le_of_ble_eq_true rfl) t2 ?_
  refine gm_ev.iastore (M' := (bM C (cH C (cA s3 3 (upd (s3.2.1 3) k4 r1))) G)) i68_102 (bM_asti (j := 3) (n := 3) (f := s3.2.1 3) rfl ek4 lk4 (by decide) hN rfl) ?_
  refine gm_ev.aload_n i68_103 rfl ?_
  refine gm_ev.getfield (v := .ref (C + 3)) i68_104 rfl (bM_fld (j := 2) (fs := cF2 C (cA s3 3 (upd (s3.2.1 3) k4 r1))) rfl rfl) ?_
  refine gm_ev.iload i68_107 rfl ?_
  refine gm_ev.iaload i68_109 (bM_ai (j := 3) (n := 3) (f := (upd (s3.2.1 3) k4 r1)) rfl ek5 lk5 (by decide)) ?_
  refine gm_ev.if_ne_t (tgt := 115) i68_110 (by decide) c6 ?_
  refine gm_ev.iinc (v := u6 + (1 : Int32)) (ls' := [some (.ref (C + 2)), some (.int u1), some (.int u2), none, some (.int u4), some (.int u5), some (.int (u6 + (1 : Int32)))]) i68_115 rfl (by rfl) rfl ?_
  refine gm_ev.iload i68_118 rfl ?_
  refine gm_ev.iload i68_120 rfl ?_
  refine gm_ev.icmp_ge_f i68_122 c7 ?_
  refine gm_ev.aload_n i68_125 rfl ?_
  refine gm_ev.bipush (v := 44) i68_126 (by decide) ?_
  refine gm_ev.callV gm_mono_run (av := [.int (44 : Int32)]) (r := []) (ci := 6) (fs := cF2 C (cA s3 3 (upd (s3.2.1 3) k4 r1))) (bM_get (j := 2) rfl) i68_128 rfl rfl rfl (Nat.le_of_ble_eq_true rfl) t9 ?_
  refine gm_ev.if_ne_f i68_131 c11 ?_
  refine gm_ev.iload i68_134 rfl ?_
  refine gm_ev.iload i68_136 rfl ?_
  refine gm_ev.icmp_lt_f i68_138 c12 ?_
  refine gm_ev.aload_n i68_141 rfl ?_
  refine gm_ev.bipush (v := 41) i68_142 (by decide) ?_
  refine gm_ev.callV gm_mono_run (av := [.int (41 : Int32)]) (r := []) (ci := 6) (fs := cF2 C s10) (bM_get (j := 2) rfl) i68_144 rfl rfl rfl (Nat.le_of_ble_eq_true rfl) t14 ?_
  refine gm_ev.if_ne_t (tgt := 152) i68_147 (by decide) c16 ?_
  refine gm_ev.iload i68_152 rfl ?_
  refine gm_ev.iload i68_154 rfl ?_
  refine gm_ev.icmp_ge_t (tgt := 161) i68_156 (by decide) c17 ?_
  refine gm_ev.new i68_161 rfl ?_
  rw [cG_new hg_sz]
  have w19 : (gm_new G sz (.inr (5, [.int 0, .int 0, .int 0, .int 0, .int 0, .int 0, .int 0]))) sz = some (.inr (5, [.int 0, .int 0, .int 0, .int 0, .int 0, .int 0, .int 0])) := gm_set_eq
  have bd20 : gm_bd (gm_new G sz (.inr (5, [.int 0, .int 0, .int 0, .int 0, .int 0, .int 0, .int 0]))) (sz + 1) := gm_bd.new bd18
  refine gm_ev.dup i68_164 rfl ?_
  refine gm_ev.iload_n i68_165 rfl ?_
  refine gm_ev.iload_n i68_166 rfl ?_
  refine gm_ev.iload i68_167 rfl ?_
  refine gm_ev.callS gm_mono_run (av := [.int u2, .int (u6 + (1 : Int32))]) (r := [.int u1, .ref sz, .ref sz]) i68_169 rfl rfl rfl (Nat.le_of_ble_eq_true rfl) t22 ?_
  refine gm_ev.aload_n i68_172 rfl ?_
  refine gm_ev.getfield (v := .ref (C + 3)) i68_173 rfl (bM_fld (j := 2) (fs := cF2 C s15) rfl rfl) ?_
  refine gm_ev.iconst (v := 0) i68_176 (by decide) ?_
  refine gm_ev.iaload i68_177 (bM_ai (j := 3) (n := 3) (f := s15.2.1 3) rfl ek23 lk23 (by decide)) ?_
  refine gm_ev.aload_n i68_178 rfl ?_
  refine gm_ev.getfield (v := .ref (C + 3)) i68_179 rfl (bM_fld (j := 2) (fs := cF2 C s15) rfl rfl) ?_
  refine gm_ev.iconst (v := 1) i68_182 (by decide) ?_
  refine gm_ev.iaload i68_183 (bM_ai (j := 3) (n := 3) (f := s15.2.1 3) rfl ek24 lk24 (by decide)) ?_
  refine gm_ev.aload_n i68_184 rfl ?_
  refine gm_ev.getfield (v := .ref (C + 3)) i68_185 rfl (bM_fld (j := 2) (fs := cF2 C s15) rfl rfl) ?_
  refine gm_ev.iconst (v := 2) i68_188 (by decide) ?_
  refine gm_ev.iaload i68_189 (bM_ai (j := 3) (n := 3) (f := s15.2.1 3) rfl ek25 lk25 (by decide)) ?_
  refine gm_ev.callI gm_mono_run (av := [.int u1, .int r21, .int (s15.2.1 3 k23), .int (s15.2.1 3 k24), .int (s15.2.1 3 k25)]) (r := [.ref sz]) i68_190 rfl rfl rfl (Nat.le_of_ble_eq_true rfl) t26 ?_
  exact gm_ev.aret i68_193 rfl
theorem t_X6_readAtom_92_tffftf {N0 : Nat} {K : Nat → Nat} {d C : Nat} {s : cS} {G : gm_H} {sz sl : Nat} {u1 : Int32} {u2 : Int32} {u4 : Int32} {u5 : Int32} {u6 : Int32} {r1 : Int32} {s3 : cS} {k4 : Nat} {k5 : Nat} {r8 : Int32} {s10 : cS} {r13 : Int32} {s15 : cS} (hN : N0 ≤ C) (t2 : gm_to N0 K ra_nm (ra_mt K) d 69 [.ref (C + 2)] (bM C (cH C s) G) sz (.returned (some (.int r1)), (bM C (cH C s3) G), sz, 0)) (ek4 : u6 = nI k4) (lk4 : k4 < 3) (ek5 : u6 = nI k5) (lk5 : k5 < 3) (c6 : ¬ ((upd (s3.2.1 3) k4 r1) k5) = 0) (c7 : ¬ u5 ≤ (u6 + (1 : Int32))) (t9 : gm_to N0 K ra_nm (ra_mt K) d 63 [.ref (C + 2), .int (44 : Int32)] (bM C (cH C (cA s3 3 (upd (s3.2.1 3) k4 r1))) G) sz (.returned (some (.int r8)), (bM C (cH C s10) G), sz, 0)) (c11 : r8 = 0) (c12 : ¬ (u6 + (1 : Int32)) < u4) (t14 : gm_to N0 K ra_nm (ra_mt K) d 63 [.ref (C + 2), .int (41 : Int32)] (bM C (cH C s10) G) sz (.returned (some (.int r13)), (bM C (cH C s15) G), sz, 0)) (c16 : ¬ r13 = 0) (c17 : ¬ u4 ≤ (u6 + (1 : Int32))) : gm_ev N0 K ra_nm (ra_mt K) d (some (.object "RuleArena$Literal")) (gm_I cX6_readAtom) (gm_lkf (lkX6 false K)) 92 [some (.ref (C + 2)), some (.int u1), some (.int u2), none, some (.int u4), some (.int u5), some (.int u6)] [] (bM C (cH C s) G) sz sl (.returned (some (.null)), (bM C (cH C s15) G), sz, sl) := by
  refine gm_ev.aload_n i68_92 rfl ?_
  refine gm_ev.getfield (v := .ref (C + 3)) i68_93 rfl (bM_fld (j := 2) (fs := cF2 C s) rfl rfl) ?_
  refine gm_ev.iload i68_96 rfl ?_
  refine gm_ev.aload_n i68_98 rfl ?_
  refine gm_ev.callV gm_mono_run (av := []) (r := [.int u6, .ref (C + 3)]) (ci := 6) (fs := cF2 C s) (bM_get (j := 2) rfl) i68_99 rfl rfl rfl (Nat.le_of_ble_eq_true rfl) t2 ?_
  refine gm_ev.iastore (M' := (bM C (cH C (cA s3 3 (upd (s3.2.1 3) k4 r1))) G)) i68_102 (bM_asti (j := 3) (n := 3) (f := s3.2.1 3) rfl ek4 lk4 (by decide) hN rfl) ?_
  refine gm_ev.aload_n i68_103 rfl ?_
  refine gm_ev.getfield (v := .ref (C + 3)) i68_104 rfl (bM_fld (j := 2) (fs := cF2 C (cA s3 3 (upd (s3.2.1 3) k4 r1))) rfl rfl) ?_
  refine gm_ev.iload i68_107 rfl ?_
  refine gm_ev.iaload i68_109 (bM_ai (j := 3) (n := 3) (f := (upd (s3.2.1 3) k4 r1)) rfl ek5 lk5 (by decide)) ?_
  refine gm_ev.if_ne_t (tgt := 115) i68_110 (by decide) c6 ?_
  refine gm_ev.iinc (v := u6 + (1 : Int32)) (ls' := [some (.ref (C + 2)), some (.int u1), some (.int u2), none, some (.int u4), some (.int u5), some (.int (u6 + (1 : Int32)))]) i68_115 rfl (by rfl) rfl ?_
  refine gm_ev.iload i68_118 rfl ?_
  refine gm_ev.iload i68_120 rfl ?_
  refine gm_ev.icmp_ge_f i68_122 c7 ?_
  refine gm_ev.aload_n i68_125 rfl ?_
  refine gm_ev.bipush (v := 44) i68_126 (by decide) ?_
  refine gm_ev.callV gm_mono_run (av := [.int (44 : Int32)]) (r := []) (ci := 6) (fs := cF2 C (cA s3 3 (upd (s3.2.1 3) k4 r1))) (bM_get (j := 2) rfl) i68_128 rfl rfl rfl (Nat.le_of_ble_eq_true rfl) t9 ?_
  refine gm_ev.if_ne_f i68_131 c11 ?_
  refine gm_ev.iload i68_134 rfl ?_
  refine gm_ev.iload i68_136 rfl ?_
  refine gm_ev.icmp_lt_f i68_138 c12 ?_
  refine gm_ev.aload_n i68_141 rfl ?_
  refine gm_ev.bipush (v := 41) i68_142 (by decide) ?_
  refine gm_ev.callV gm_mono_run (av := [.int (41 : Int32)]) (r := []) (ci := 6) (fs := cF2 C s10) (bM_get (j := 2) rfl) i68_144 rfl rfl rfl (Nat.le_of_ble_eq_true rfl) t14 ?_
  refine gm_ev.if_ne_t (tgt := 152) i68_147 (by decide) c16 ?_
  refine gm_ev.iload i68_152 rfl ?_
  refine gm_ev.iload i68_154 rfl ?_
  refine gm_ev.icmp_ge_f i68_156 c17 ?_
  refine gm_ev.null i68_159 ?_
  exact gm_ev.aretN i68_160 rfl
theorem t_X6_readAtom_92_tffff {N0 : Nat} {K : Nat → Nat} {d C : Nat} {s : cS} {G : gm_H} {sz sl : Nat} {u1 : Int32} {u2 : Int32} {u4 : Int32} {u5 : Int32} {u6 : Int32} {r1 : Int32} {s3 : cS} {k4 : Nat} {k5 : Nat} {r8 : Int32} {s10 : cS} {r13 : Int32} {s15 : cS} (hN : N0 ≤ C) (t2 : gm_to N0 K ra_nm (ra_mt K) d 69 [.ref (C + 2)] (bM C (cH C s) G) sz (.returned (some (.int r1)), (bM C (cH C s3) G), sz, 0)) (ek4 : u6 = nI k4) (lk4 : k4 < 3) (ek5 : u6 = nI k5) (lk5 : k5 < 3) (c6 : ¬ ((upd (s3.2.1 3) k4 r1) k5) = 0) (c7 : ¬ u5 ≤ (u6 + (1 : Int32))) (t9 : gm_to N0 K ra_nm (ra_mt K) d 63 [.ref (C + 2), .int (44 : Int32)] (bM C (cH C (cA s3 3 (upd (s3.2.1 3) k4 r1))) G) sz (.returned (some (.int r8)), (bM C (cH C s10) G), sz, 0)) (c11 : r8 = 0) (c12 : ¬ (u6 + (1 : Int32)) < u4) (t14 : gm_to N0 K ra_nm (ra_mt K) d 63 [.ref (C + 2), .int (41 : Int32)] (bM C (cH C s10) G) sz (.returned (some (.int r13)), (bM C (cH C s15) G), sz, 0)) (c16 : r13 = 0) : gm_ev N0 K ra_nm (ra_mt K) d (some (.object "RuleArena$Literal")) (gm_I cX6_readAtom) (gm_lkf (lkX6 false K)) 92 [some (.ref (C + 2)), some (.int u1), some (.int u2), none, some (.int u4), some (.int u5), some (.int u6)] [] (bM C (cH C s) G) sz sl (.returned (some (.null)), (bM C (cH C s15) G), sz, sl) := by
  refine gm_ev.aload_n i68_92 rfl ?_
  refine gm_ev.getfield (v := .ref (C + 3)) i68_93 rfl (bM_fld (j := 2) (fs := cF2 C s) rfl rfl) ?_
  refine gm_ev.iload i68_96 rfl ?_
  refine gm_ev.aload_n i68_98 rfl ?_
  refine gm_ev.callV gm_mono_run (av := []) (r := [.int u6, .ref (C + 3)]) (ci := 6) (fs := cF2 C s) (bM_get (j := 2) rfl) i68_99 rfl rfl rfl (Nat.le_of_ble_eq_true rfl) t2 ?_
  refine gm_ev.iastore (M' := (bM C (cH C (cA s3 3 (upd (s3.2.1 3) k4 r1))) G)) i68_102 (bM_asti (j := 3) (n := 3) (f := s3.2.1 3) rfl ek4 lk4 (by decide) hN rfl) ?_
  refine gm_ev.aload_n i68_103 rfl ?_
  refine gm_ev.getfield (v := .ref (C + 3)) i68_104 rfl (bM_fld (j := 2) (fs := cF2 C (cA s3 3 (upd (s3.2.1 3) k4 r1))) rfl rfl) ?_
  refine gm_ev.iload i68_107 rfl ?_
  refine gm_ev.iaload i68_109 (bM_ai (j := 3) (n := 3) (f := (upd (s3.2.1 3) k4 r1)) rfl ek5 lk5 (by decide)) ?_
  refine gm_ev.if_ne_t (tgt := 115) i68_110 (by decide) c6 ?_
  refine gm_ev.iinc (v := u6 + (1 : Int32)) (ls' := [some (.ref (C + 2)), some (.int u1), some (.int u2), none, some (.int u4), some (.int u5), some (.int (u6 + (1 : Int32)))]) i68_115 rfl (by rfl) rfl ?_
  refine gm_ev.iload i68_118 rfl ?_
  refine gm_ev.iload i68_120 rfl ?_
  refine gm_ev.icmp_ge_f i68_122 c7 ?_
  refine gm_ev.aload_n i68_125 rfl ?_
  refine gm_ev.bipush (v := 44) i68_126 (by decide) ?_
  refine gm_ev.callV gm_mono_run (av := [.int (44 : Int32)]) (r := []) (ci := 6) (fs := cF2 C (cA s3 3 (upd (s3.2.1 3) k4 r1))) (bM_get (j := 2) rfl) i68_128 rfl rfl rfl (Nat.le_of_ble_eq_true rfl) t9 ?_
  refine gm_ev.if_ne_f i68_131 c11 ?_
  refine gm_ev.iload i68_134 rfl ?_
  refine gm_ev.iload i68_136 rfl ?_
  refine gm_ev.icmp_lt_f i68_138 c12 ?_
  refine gm_ev.aload_n i68_141 rfl ?_
  refine gm_ev.bipush (v := 41) i68_142 (by decide) ?_
  refine gm_ev.callV gm_mono_run (av := [.int (41 : Int32)]) (r := []) (ci := 6) (fs := cF2 C s10) (bM_get (j := 2) rfl) i68_144 rfl rfl rfl (Nat.le_of_ble_eq_true rfl) t14 ?_
  refine gm_ev.if_ne_f i68_147 c16 ?_
  refine gm_ev.null i68_150 ?_
  exact gm_ev.aretN i68_151 rfl
theorem t_X6_readAtom_92_f {N0 : Nat} {K : Nat → Nat} {d C : Nat} {s : cS} {G : gm_H} {sz sl : Nat} {u1 : Int32} {u2 : Int32} {u4 : Int32} {u5 : Int32} {u6 : Int32} {r1 : Int32} {s3 : cS} {k4 : Nat} {k5 : Nat} (hN : N0 ≤ C) (t2 : gm_to N0 K ra_nm (ra_mt K) d 69 [.ref (C + 2)] (bM C (cH C s) G) sz (.returned (some (.int r1)), (bM C (cH C s3) G), sz, 0)) (ek4 : u6 = nI k4) (lk4 : k4 < 3) (ek5 : u6 = nI k5) (lk5 : k5 < 3) (c6 : ((upd (s3.2.1 3) k4 r1) k5) = 0) : gm_ev N0 K ra_nm (ra_mt K) d (some (.object "RuleArena$Literal")) (gm_I cX6_readAtom) (gm_lkf (lkX6 false K)) 92 [some (.ref (C + 2)), some (.int u1), some (.int u2), none, some (.int u4), some (.int u5), some (.int u6)] [] (bM C (cH C s) G) sz sl (.returned (some (.null)), (bM C (cH C (cA s3 3 (upd (s3.2.1 3) k4 r1))) G), sz, sl) := by
  refine gm_ev.aload_n i68_92 rfl ?_
  refine gm_ev.getfield (v := .ref (C + 3)) i68_93 rfl (bM_fld (j := 2) (fs := cF2 C s) rfl rfl) ?_
  refine gm_ev.iload i68_96 rfl ?_
  refine gm_ev.aload_n i68_98 rfl ?_
  refine gm_ev.callV gm_mono_run (av := []) (r := [.int u6, .ref (C + 3)]) (ci := 6) (fs := cF2 C s) (bM_get (j := 2) rfl) i68_99 rfl rfl rfl (Nat.le_of_ble_eq_true rfl) t2 ?_
  refine gm_ev.iastore (M' := (bM C (cH C (cA s3 3 (upd (s3.2.1 3) k4 r1))) G)) i68_102 (bM_asti (j := 3) (n := 3) (f := s3.2.1 3) rfl ek4 lk4 (by decide) hN rfl) ?_
  refine gm_ev.aload_n i68_103 rfl ?_
  refine gm_ev.getfield (v := .ref (C + 3)) i68_104 rfl (bM_fld (j := 2) (fs := cF2 C (cA s3 3 (upd (s3.2.1 3) k4 r1))) rfl rfl) ?_
  refine gm_ev.iload i68_107 rfl ?_
  refine gm_ev.iaload i68_109 (bM_ai (j := 3) (n := 3) (f := (upd (s3.2.1 3) k4 r1)) rfl ek5 lk5 (by decide)) ?_
  refine gm_ev.if_ne_f i68_110 c6 ?_
  refine gm_ev.null i68_113 ?_
  exact gm_ev.aretN i68_114 rfl
theorem t_X6_readTerm_0_tt {N0 : Nat} {K : Nat → Nat} {d C : Nat} {s : cS} {G : gm_H} {sz sl : Nat} {k2 : Nat} {r3 : Int32} {r6 : Int32} (hN : N0 ≤ C) (h1 : s.2.2 40 = some (C + 1)) (ek2 : (s.1 41) = nI k2) (lk2 : k2 < 241) (t4 : gm_to N0 K ra_nm (ra_mt K) d 90 [.int (s.2.1 1 k2)] (bM C (cH C s) G) sz (.returned (some (.int r3)), (bM C (cH C s) G), sz, 0)) (c5 : ¬ r3 = 0) (t7 : gm_to N0 K ra_nm (ra_mt K) d 88 [.int (s.2.1 1 k2)] (bM C (cH C (cI s 41 ((s.1 41) + (1 : Int32)))) G) sz (.returned (some (.int r6)), (bM C (cH C (cI s 41 ((s.1 41) + (1 : Int32)))) G), sz, 0)) (c8 : r6 = 0) : gm_ev N0 K ra_nm (ra_mt K) d (some .int) (gm_I cX6_readTerm) (gm_lkf (lkX6 false K)) 0 [some (.ref (C + 2)), none, none, none] [] (bM C (cH C s) G) sz sl (.returned (some (.int ((s.2.1 1 k2) <<< ((21 : Int32) &&& 31)))), (bM C (cH C (cI s 41 ((s.1 41) + (1 : Int32)))) G), sz, sl) := by
  refine gm_ev.aload_n i69_0 rfl ?_
  refine gm_ev.getfield (v := .ref (C + 1)) i69_1 rfl (bM_fld (j := 2) (fs := cF2 C s) rfl (cv_some h1)) ?_
  refine gm_ev.aload_n i69_4 rfl ?_
  refine gm_ev.getfield (v := .int (s.1 41)) i69_5 rfl (bM_fld (j := 2) (fs := cF2 C s) rfl rfl) ?_
  refine gm_ev.caload i69_8 (bM_ai (j := 1) (n := 241) (f := s.2.1 1) rfl ek2 lk2 (by decide)) ?_
  refine gm_ev.istore_n (ls' := [some (.ref (C + 2)), some (.int (s.2.1 1 k2)), none, none]) i69_9 (Nat.le_of_ble_eq_true rfl) rfl ?_
  refine gm_ev.iload_n i69_10 rfl ?_
  refine gm_ev.callS gm_mono_run (av := [.int (s.2.1 1 k2)]) (r := []) i69_11 rfl rfl rfl (Nat.le_of_ble_eq_true rfl) t4 ?_
  refine gm_ev.if_ne_t (tgt := 19) i69_14 (by decide) c5 ?_
  refine gm_ev.aload_n i69_19 rfl ?_
  refine gm_ev.dup i69_20 rfl ?_
  refine gm_ev.getfield (v := .int (s.1 41)) i69_21 rfl (bM_fld (j := 2) (fs := cF2 C s) rfl rfl) ?_
  refine gm_ev.iconst (v := 1) i69_24 (by decide) ?_
  refine gm_ev.iadd i69_25 ?_
  refine gm_ev.putfield (M' := (bM C (cH C (cI s 41 ((s.1 41) + (1 : Int32)))) G)) i69_26 rfl (bM_put (j := 2) (fs := cF2 C s) rfl (Nat.le_of_ble_eq_true rfl) hN (gm_fit_i _) rfl) ?_
  refine gm_ev.iload_n i69_29 rfl ?_
  refine gm_ev.bipush (v := 21) i69_30 (by decide) ?_
  refine gm_ev.ishl i69_32 ?_
  refine gm_ev.istore_n (ls' := [some (.ref (C + 2)), some (.int (s.2.1 1 k2)), some (.int ((s.2.1 1 k2) <<< ((21 : Int32) &&& 31))), none]) i69_33 (Nat.le_of_ble_eq_true rfl) rfl ?_
  refine gm_ev.iload_n i69_34 rfl ?_
  refine gm_ev.callS gm_mono_run (av := [.int (s.2.1 1 k2)]) (r := []) i69_35 rfl rfl rfl (Nat.le_of_ble_eq_true rfl) t7 ?_
  refine gm_ev.if_eq_t (tgt := 50) i69_38 (by decide) c8 ?_
  refine gm_ev.iload_n i69_50 rfl ?_
  exact gm_ev.iret i69_51 rfl
theorem t_X6_readTerm_0_tft_at55 {N0 : Nat} {K : Nat → Nat} {d C : Nat} {s : cS} {G : gm_H} {sz sl : Nat} {R : gm_R} {k2 : Nat} {r3 : Int32} {r6 : Int32} {r9 : Int32} {s11 : cS} (hN : N0 ≤ C) (h1 : s.2.2 40 = some (C + 1)) (ek2 : (s.1 41) = nI k2) (lk2 : k2 < 241) (t4 : gm_to N0 K ra_nm (ra_mt K) d 90 [.int (s.2.1 1 k2)] (bM C (cH C s) G) sz (.returned (some (.int r3)), (bM C (cH C s) G), sz, 0)) (c5 : ¬ r3 = 0) (t7 : gm_to N0 K ra_nm (ra_mt K) d 88 [.int (s.2.1 1 k2)] (bM C (cH C (cI s 41 ((s.1 41) + (1 : Int32)))) G) sz (.returned (some (.int r6)), (bM C (cH C (cI s 41 ((s.1 41) + (1 : Int32)))) G), sz, 0)) (c8 : ¬ r6 = 0) (t10 : gm_to N0 K ra_nm (ra_mt K) d 63 [.ref (C + 2), .int (40 : Int32)] (bM C (cH C (cI s 41 ((s.1 41) + (1 : Int32)))) G) sz (.returned (some (.int r9)), (bM C (cH C s11) G), sz, 0)) (c12 : ¬ r9 = 0) (k : gm_ev N0 K ra_nm (ra_mt K) d (some .int) (gm_I cX6_readTerm) (gm_lkf (lkX6 false K)) 55 [some (.ref (C + 2)), none, some (.int ((s.2.1 1 k2) <<< ((21 : Int32) &&& 31))), some (.int (21 : Int32))] [] (bM C (cH C s11) G) sz sl R) : gm_ev N0 K ra_nm (ra_mt K) d (some .int) (gm_I cX6_readTerm) (gm_lkf (lkX6 false K)) 0 [some (.ref (C + 2)), none, none, none] [] (bM C (cH C s) G) sz sl R := by
  refine gm_ev.aload_n i69_0 rfl ?_
  refine gm_ev.getfield (v := .ref (C + 1)) i69_1 rfl (bM_fld (j := 2) (fs := cF2 C s) rfl (cv_some h1)) ?_
  refine gm_ev.aload_n i69_4 rfl ?_
  refine gm_ev.getfield (v := .int (s.1 41)) i69_5 rfl (bM_fld (j := 2) (fs := cF2 C s) rfl rfl) ?_
  refine gm_ev.caload i69_8 (bM_ai (j := 1) (n := 241) (f := s.2.1 1) rfl ek2 lk2 (by decide)) ?_
  refine gm_ev.istore_n (ls' := [some (.ref (C + 2)), some (.int (s.2.1 1 k2)), none, none]) i69_9 (Nat.le_of_ble_eq_true rfl) rfl ?_
  refine gm_ev.iload_n i69_10 rfl ?_
  refine gm_ev.callS gm_mono_run (av := [.int (s.2.1 1 k2)]) (r := []) i69_11 rfl rfl rfl (Nat.le_of_ble_eq_true rfl) t4 ?_
  refine gm_ev.if_ne_t (tgt := 19) i69_14 (by decide) c5 ?_
  refine gm_ev.aload_n i69_19 rfl ?_
  refine gm_ev.dup i69_20 rfl ?_
  refine gm_ev.getfield (v := .int (s.1 41)) i69_21 rfl (bM_fld (j := 2) (fs := cF2 C s) rfl rfl) ?_
  refine gm_ev.iconst (v := 1) i69_24 (by decide) ?_
  refine gm_ev.iadd i69_25 ?_
  refine gm_ev.putfield (M' := (bM C (cH C (cI s 41 ((s.1 41) + (1 : Int32)))) G)) i69_26 rfl (bM_put (j := 2) (fs := cF2 C s) rfl (Nat.le_of_ble_eq_true rfl) hN (gm_fit_i _) rfl) ?_
  refine gm_ev.iload_n i69_29 rfl ?_
  refine gm_ev.bipush (v := 21) i69_30 (by decide) ?_
  refine gm_ev.ishl i69_32 ?_
  refine gm_ev.istore_n (ls' := [some (.ref (C + 2)), some (.int (s.2.1 1 k2)), some (.int ((s.2.1 1 k2) <<< ((21 : Int32) &&& 31))), none]) i69_33 (Nat.le_of_ble_eq_true rfl) rfl ?_
  refine gm_ev.iload_n i69_34 rfl ?_
  refine gm_ev.callS gm_mono_run (av := [.int (s.2.1 1 k2)]) (r := []) i69_35 rfl rfl rfl (Nat.le_of_ble_eq_true rfl) t7 ?_
  refine gm_ev.if_eq_f i69_38 c8 ?_
  refine gm_ev.aload_n i69_41 rfl ?_
  refine gm_ev.bipush (v := 40) i69_42 (by decide) ?_
  refine gm_ev.callV gm_mono_run (av := [.int (40 : Int32)]) (r := []) (ci := 6) (fs := cF2 C (cI s 41 ((s.1 41) + (1 : Int32)))) (bM_get (j := 2) rfl) i69_44 rfl rfl rfl (Nat.le_of_ble_eq_true rfl) t10 ?_
  refine gm_ev.if_ne_t (tgt := 52) i69_47 (by decide) c12 ?_
  refine gm_ev.bipush (v := 21) i69_52 (by decide) ?_
  refine gm_ev.istore_n (ls' := [some (.ref (C + 2)), some (.int (s.2.1 1 k2)), some (.int ((s.2.1 1 k2) <<< ((21 : Int32) &&& 31))), some (.int (21 : Int32))]) i69_54 (Nat.le_of_ble_eq_true rfl) rfl ?_
  refine gm_ev.le (a := [some (.ref (C + 2)), none, some (.int ((s.2.1 1 k2) <<< ((21 : Int32) &&& 31))), some (.int (21 : Int32))]) (gm_leL.le (show gm_leL _ _ from ⟨rfl, ⟨rfl, ⟨rfl, trivial⟩⟩⟩)) ?_
  exact k
theorem t_X6_readTerm_0_tff {N0 : Nat} {K : Nat → Nat} {d C : Nat} {s : cS} {G : gm_H} {sz sl : Nat} {k2 : Nat} {r3 : Int32} {r6 : Int32} {r9 : Int32} {s11 : cS} (hN : N0 ≤ C) (h1 : s.2.2 40 = some (C + 1)) (ek2 : (s.1 41) = nI k2) (lk2 : k2 < 241) (t4 : gm_to N0 K ra_nm (ra_mt K) d 90 [.int (s.2.1 1 k2)] (bM C (cH C s) G) sz (.returned (some (.int r3)), (bM C (cH C s) G), sz, 0)) (c5 : ¬ r3 = 0) (t7 : gm_to N0 K ra_nm (ra_mt K) d 88 [.int (s.2.1 1 k2)] (bM C (cH C (cI s 41 ((s.1 41) + (1 : Int32)))) G) sz (.returned (some (.int r6)), (bM C (cH C (cI s 41 ((s.1 41) + (1 : Int32)))) G), sz, 0)) (c8 : ¬ r6 = 0) (t10 : gm_to N0 K ra_nm (ra_mt K) d 63 [.ref (C + 2), .int (40 : Int32)] (bM C (cH C (cI s 41 ((s.1 41) + (1 : Int32)))) G) sz (.returned (some (.int r9)), (bM C (cH C s11) G), sz, 0)) (c12 : r9 = 0) : gm_ev N0 K ra_nm (ra_mt K) d (some .int) (gm_I cX6_readTerm) (gm_lkf (lkX6 false K)) 0 [some (.ref (C + 2)), none, none, none] [] (bM C (cH C s) G) sz sl (.returned (some (.int ((s.2.1 1 k2) <<< ((21 : Int32) &&& 31)))), (bM C (cH C s11) G), sz, sl) := by
  refine gm_ev.aload_n i69_0 rfl ?_
  refine gm_ev.getfield (v := .ref (C + 1)) i69_1 rfl (bM_fld (j := 2) (fs := cF2 C s) rfl (cv_some h1)) ?_
  refine gm_ev.aload_n i69_4 rfl ?_
  refine gm_ev.getfield (v := .int (s.1 41)) i69_5 rfl (bM_fld (j := 2) (fs := cF2 C s) rfl rfl) ?_
  refine gm_ev.caload i69_8 (bM_ai (j := 1) (n := 241) (f := s.2.1 1) rfl ek2 lk2 (by decide)) ?_
  refine gm_ev.istore_n (ls' := [some (.ref (C + 2)), some (.int (s.2.1 1 k2)), none, none]) i69_9 (Nat.le_of_ble_eq_true rfl) rfl ?_
  refine gm_ev.iload_n i69_10 rfl ?_
  refine gm_ev.callS gm_mono_run (av := [.int (s.2.1 1 k2)]) (r := []) i69_11 rfl rfl rfl (Nat.le_of_ble_eq_true rfl) t4 ?_
  refine gm_ev.if_ne_t (tgt := 19) i69_14 (by decide) c5 ?_
  refine gm_ev.aload_n i69_19 rfl ?_
  refine gm_ev.dup i69_20 rfl ?_
  refine gm_ev.getfield (v := .int (s.1 41)) i69_21 rfl (bM_fld (j := 2) (fs := cF2 C s) rfl rfl) ?_
  refine gm_ev.iconst (v := 1) i69_24 (by decide) ?_
  refine gm_ev.iadd i69_25 ?_
  refine gm_ev.putfield (M' := (bM C (cH C (cI s 41 ((s.1 41) + (1 : Int32)))) G)) i69_26 rfl (bM_put (j := 2) (fs := cF2 C s) rfl (Nat.le_of_ble_eq_true rfl) hN (gm_fit_i _) rfl) ?_
  refine gm_ev.iload_n i69_29 rfl ?_
  refine gm_ev.bipush (v := 21) i69_30 (by decide) ?_
  refine gm_ev.ishl i69_32 ?_
  refine gm_ev.istore_n (ls' := [some (.ref (C + 2)), some (.int (s.2.1 1 k2)), some (.int ((s.2.1 1 k2) <<< ((21 : Int32) &&& 31))), none]) i69_33 (Nat.le_of_ble_eq_true rfl) rfl ?_
  refine gm_ev.iload_n i69_34 rfl ?_
  refine gm_ev.callS gm_mono_run (av := [.int (s.2.1 1 k2)]) (r := []) i69_35 rfl rfl rfl (Nat.le_of_ble_eq_true rfl) t7 ?_
  refine gm_ev.if_eq_f i69_38 c8 ?_
  refine gm_ev.aload_n i69_41 rfl ?_
  refine gm_ev.bipush (v := 40) i69_42 (by decide) ?_
  refine gm_ev.callV gm_mono_run (av := [.int (40 : Int32)]) (r := []) (ci := 6) (fs := cF2 C (cI s 41 ((s.1 41) + (1 : Int32)))) (bM_get (j := 2) rfl) i69_44 rfl rfl rfl (Nat.le_of_ble_eq_true rfl) t10 ?_
  refine gm_ev.if_ne_f i69_47 c12 ?_
  refine gm_ev.iload_n i69_50 rfl ?_
  exact gm_ev.iret i69_51 rfl
theorem t_X6_readTerm_0_f {N0 : Nat} {K : Nat → Nat} {d C : Nat} {s : cS} {G : gm_H} {sz sl : Nat} {k2 : Nat} {r3 : Int32} (hN : N0 ≤ C) (h1 : s.2.2 40 = some (C + 1)) (ek2 : (s.1 41) = nI k2) (lk2 : k2 < 241) (t4 : gm_to N0 K ra_nm (ra_mt K) d 90 [.int (s.2.1 1 k2)] (bM C (cH C s) G) sz (.returned (some (.int r3)), (bM C (cH C s) G), sz, 0)) (c5 : r3 = 0) : gm_ev N0 K ra_nm (ra_mt K) d (some .int) (gm_I cX6_readTerm) (gm_lkf (lkX6 false K)) 0 [some (.ref (C + 2)), none, none, none] [] (bM C (cH C s) G) sz sl (.returned (some (.int (0 : Int32))), (bM C (cH C s) G), sz, sl) := by
  refine gm_ev.aload_n i69_0 rfl ?_
  refine gm_ev.getfield (v := .ref (C + 1)) i69_1 rfl (bM_fld (j := 2) (fs := cF2 C s) rfl (cv_some h1)) ?_
  refine gm_ev.aload_n i69_4 rfl ?_
  refine gm_ev.getfield (v := .int (s.1 41)) i69_5 rfl (bM_fld (j := 2) (fs := cF2 C s) rfl rfl) ?_
  refine gm_ev.caload i69_8 (bM_ai (j := 1) (n := 241) (f := s.2.1 1) rfl ek2 lk2 (by decide)) ?_
  refine gm_ev.istore_n (ls' := [some (.ref (C + 2)), some (.int (s.2.1 1 k2)), none, none]) i69_9 (Nat.le_of_ble_eq_true rfl) rfl ?_
  refine gm_ev.iload_n i69_10 rfl ?_
  refine gm_ev.callS gm_mono_run (av := [.int (s.2.1 1 k2)]) (r := []) i69_11 rfl rfl rfl (Nat.le_of_ble_eq_true rfl) t4 ?_
  refine gm_ev.if_ne_f i69_14 c5 ?_
  refine gm_ev.iconst (v := 0) i69_17 (by decide) ?_
  exact gm_ev.iret i69_18 rfl
theorem t_X6_readTerm_55_ttt {N0 : Nat} {K : Nat → Nat} {d C : Nat} {s : cS} {G : gm_H} {sz sl : Nat} {u2 : Int32} {u3 : Int32} {k2 : Nat} {r3 : Int32} {k6 : Nat} {r8 : Int32} {s10 : cS} (hN : N0 ≤ C) (h1 : s.2.2 40 = some (C + 1)) (ek2 : (s.1 41) = nI k2) (lk2 : k2 < 241) (t4 : gm_to N0 K ra_nm (ra_mt K) d 90 [.int (s.2.1 1 k2)] (bM C (cH C s) G) sz (.returned (some (.int r3)), (bM C (cH C s) G), sz, 0)) (c5 : ¬ r3 = 0) (ek6 : (s.1 41) = nI k6) (lk6 : k6 < 241) (c7 : (u3 + (-7 : Int32)) ≤ 0) (t9 : gm_to N0 K ra_nm (ra_mt K) d 63 [.ref (C + 2), .int (41 : Int32)] (bM C (cH C (cI s 41 ((s.1 41) + (1 : Int32)))) G) sz (.returned (some (.int r8)), (bM C (cH C s10) G), sz, 0)) (c11 : r8 = 0) : gm_ev N0 K ra_nm (ra_mt K) d (some .int) (gm_I cX6_readTerm) (gm_lkf (lkX6 false K)) 55 [some (.ref (C + 2)), none, some (.int u2), some (.int u3)] [] (bM C (cH C s) G) sz sl (.returned (some (.int (0 : Int32))), (bM C (cH C s10) G), sz, sl) := by
  refine gm_ev.iinc (v := u3 + (-7 : Int32)) (ls' := [some (.ref (C + 2)), none, some (.int u2), some (.int (u3 + (-7 : Int32)))]) i69_55 rfl (by rfl) rfl ?_
  refine gm_ev.aload_n i69_58 rfl ?_
  refine gm_ev.getfield (v := .ref (C + 1)) i69_59 rfl (bM_fld (j := 2) (fs := cF2 C s) rfl (cv_some h1)) ?_
  refine gm_ev.aload_n i69_62 rfl ?_
  refine gm_ev.getfield (v := .int (s.1 41)) i69_63 rfl (bM_fld (j := 2) (fs := cF2 C s) rfl rfl) ?_
  refine gm_ev.caload i69_66 (bM_ai (j := 1) (n := 241) (f := s.2.1 1) rfl ek2 lk2 (by decide)) ?_
  refine gm_ev.callS gm_mono_run (av := [.int (s.2.1 1 k2)]) (r := []) i69_67 rfl rfl rfl (Nat.le_of_ble_eq_true rfl) t4 ?_
  refine gm_ev.if_ne_t (tgt := 75) i69_70 (by decide) c5 ?_
  refine gm_ev.iload_n i69_75 rfl ?_
  refine gm_ev.aload_n i69_76 rfl ?_
  refine gm_ev.getfield (v := .ref (C + 1)) i69_77 rfl (bM_fld (j := 2) (fs := cF2 C s) rfl (cv_some h1)) ?_
  refine gm_ev.aload_n i69_80 rfl ?_
  refine gm_ev.getfield (v := .int (s.1 41)) i69_81 rfl (bM_fld (j := 2) (fs := cF2 C s) rfl rfl) ?_
  refine gm_ev.caload i69_84 (bM_ai (j := 1) (n := 241) (f := s.2.1 1) rfl ek6 lk6 (by decide)) ?_
  refine gm_ev.iload_n i69_85 rfl ?_
  refine gm_ev.ishl i69_86 ?_
  refine gm_ev.ior i69_87 ?_
  refine gm_ev.istore_n (ls' := [some (.ref (C + 2)), none, some (.int (u2 ||| ((s.2.1 1 k6) <<< ((u3 + (-7 : Int32)) &&& 31)))), some (.int (u3 + (-7 : Int32)))]) i69_88 (Nat.le_of_ble_eq_true rfl) rfl ?_
  refine gm_ev.aload_n i69_89 rfl ?_
  refine gm_ev.dup i69_90 rfl ?_
  refine gm_ev.getfield (v := .int (s.1 41)) i69_91 rfl (bM_fld (j := 2) (fs := cF2 C s) rfl rfl) ?_
  refine gm_ev.iconst (v := 1) i69_94 (by decide) ?_
  refine gm_ev.iadd i69_95 ?_
  refine gm_ev.putfield (M' := (bM C (cH C (cI s 41 ((s.1 41) + (1 : Int32)))) G)) i69_96 rfl (bM_put (j := 2) (fs := cF2 C s) rfl (Nat.le_of_ble_eq_true rfl) hN (gm_fit_i _) rfl) ?_
  refine gm_ev.iload_n i69_99 rfl ?_
  refine gm_ev.if_le_t (tgt := 112) i69_100 (by decide) c7 ?_
  refine gm_ev.aload_n i69_112 rfl ?_
  refine gm_ev.bipush (v := 41) i69_113 (by decide) ?_
  refine gm_ev.callV gm_mono_run (av := [.int (41 : Int32)]) (r := []) (ci := 6) (fs := cF2 C (cI s 41 ((s.1 41) + (1 : Int32)))) (bM_get (j := 2) rfl) i69_115 rfl rfl rfl (Nat.le_of_ble_eq_true rfl) t9 ?_
  refine gm_ev.if_eq_t (tgt := 125) i69_118 (by decide) c11 ?_
  refine gm_ev.iconst (v := 0) i69_125 (by decide) ?_
  exact gm_ev.iret i69_126 rfl
theorem t_X6_readTerm_55_ttf {N0 : Nat} {K : Nat → Nat} {d C : Nat} {s : cS} {G : gm_H} {sz sl : Nat} {u2 : Int32} {u3 : Int32} {k2 : Nat} {r3 : Int32} {k6 : Nat} {r8 : Int32} {s10 : cS} (hN : N0 ≤ C) (h1 : s.2.2 40 = some (C + 1)) (ek2 : (s.1 41) = nI k2) (lk2 : k2 < 241) (t4 : gm_to N0 K ra_nm (ra_mt K) d 90 [.int (s.2.1 1 k2)] (bM C (cH C s) G) sz (.returned (some (.int r3)), (bM C (cH C s) G), sz, 0)) (c5 : ¬ r3 = 0) (ek6 : (s.1 41) = nI k6) (lk6 : k6 < 241) (c7 : (u3 + (-7 : Int32)) ≤ 0) (t9 : gm_to N0 K ra_nm (ra_mt K) d 63 [.ref (C + 2), .int (41 : Int32)] (bM C (cH C (cI s 41 ((s.1 41) + (1 : Int32)))) G) sz (.returned (some (.int r8)), (bM C (cH C s10) G), sz, 0)) (c11 : ¬ r8 = 0) : gm_ev N0 K ra_nm (ra_mt K) d (some .int) (gm_I cX6_readTerm) (gm_lkf (lkX6 false K)) 55 [some (.ref (C + 2)), none, some (.int u2), some (.int u3)] [] (bM C (cH C s) G) sz sl (.returned (some (.int (u2 ||| ((s.2.1 1 k6) <<< ((u3 + (-7 : Int32)) &&& 31))))), (bM C (cH C s10) G), sz, sl) := by
  refine gm_ev.iinc (v := u3 + (-7 : Int32)) (ls' := [some (.ref (C + 2)), none, some (.int u2), some (.int (u3 + (-7 : Int32)))]) i69_55 rfl (by rfl) rfl ?_
  refine gm_ev.aload_n i69_58 rfl ?_
  refine gm_ev.getfield (v := .ref (C + 1)) i69_59 rfl (bM_fld (j := 2) (fs := cF2 C s) rfl (cv_some h1)) ?_
  refine gm_ev.aload_n i69_62 rfl ?_
  refine gm_ev.getfield (v := .int (s.1 41)) i69_63 rfl (bM_fld (j := 2) (fs := cF2 C s) rfl rfl) ?_
  refine gm_ev.caload i69_66 (bM_ai (j := 1) (n := 241) (f := s.2.1 1) rfl ek2 lk2 (by decide)) ?_
  refine gm_ev.callS gm_mono_run (av := [.int (s.2.1 1 k2)]) (r := []) i69_67 rfl rfl rfl (Nat.le_of_ble_eq_true rfl) t4 ?_
  refine gm_ev.if_ne_t (tgt := 75) i69_70 (by decide) c5 ?_
  refine gm_ev.iload_n i69_75 rfl ?_
  refine gm_ev.aload_n i69_76 rfl ?_
  refine gm_ev.getfield (v := .ref (C + 1)) i69_77 rfl (bM_fld (j := 2) (fs := cF2 C s) rfl (cv_some h1)) ?_
  refine gm_ev.aload_n i69_80 rfl ?_
  refine gm_ev.getfield (v := .int (s.1 41)) i69_81 rfl (bM_fld (j := 2) (fs := cF2 C s) rfl rfl) ?_
  refine gm_ev.caload i69_84 (bM_ai (j := 1) (n := 241) (f := s.2.1 1) rfl ek6 lk6 (by decide)) ?_
  refine gm_ev.iload_n i69_85 rfl ?_
  refine gm_ev.ishl i69_86 ?_
  refine gm_ev.ior i69_87 ?_
  refine gm_ev.istore_n (ls' := [some (.ref (C + 2)), none, some (.int (u2 ||| ((s.2.1 1 k6) <<< ((u3 + (-7 : Int32)) &&& 31)))), some (.int (u3 + (-7 : Int32)))]) i69_88 (Nat.le_of_ble_eq_true rfl) rfl ?_
  refine gm_ev.aload_n i69_89 rfl ?_
  refine gm_ev.dup i69_90 rfl ?_
  refine gm_ev.getfield (v := .int (s.1 41)) i69_91 rfl (bM_fld (j := 2) (fs := cF2 C s) rfl rfl) ?_
  refine gm_ev.iconst (v := 1) i69_94 (by decide) ?_
  refine gm_ev.iadd i69_95 ?_
  refine gm_ev.putfield (M' := (bM C (cH C (cI s 41 ((s.1 41) + (1 : Int32)))) G)) i69_96 rfl (bM_put (j := 2) (fs := cF2 C s) rfl (Nat.le_of_ble_eq_true rfl) hN (gm_fit_i _) rfl) ?_
  refine gm_ev.iload_n i69_99 rfl ?_
  refine gm_ev.if_le_t (tgt := 112) i69_100 (by decide) c7 ?_
  refine gm_ev.aload_n i69_112 rfl ?_
  refine gm_ev.bipush (v := 41) i69_113 (by decide) ?_
  refine gm_ev.callV gm_mono_run (av := [.int (41 : Int32)]) (r := []) (ci := 6) (fs := cF2 C (cI s 41 ((s.1 41) + (1 : Int32)))) (bM_get (j := 2) rfl) i69_115 rfl rfl rfl (Nat.le_of_ble_eq_true rfl) t9 ?_
  refine gm_ev.if_eq_f i69_118 c11 ?_
  refine gm_ev.iload_n i69_121 rfl ?_
  refine gm_ev.goto (tgt := 126) i69_122 (by decide) ?_
  exact gm_ev.iret i69_126 rfl
theorem t_X6_readTerm_55_tft_at55 {N0 : Nat} {K : Nat → Nat} {d C : Nat} {s : cS} {G : gm_H} {sz sl : Nat} {R : gm_R} {u2 : Int32} {u3 : Int32} {k2 : Nat} {r3 : Int32} {k6 : Nat} {r8 : Int32} {s10 : cS} (hN : N0 ≤ C) (h1 : s.2.2 40 = some (C + 1)) (ek2 : (s.1 41) = nI k2) (lk2 : k2 < 241) (t4 : gm_to N0 K ra_nm (ra_mt K) d 90 [.int (s.2.1 1 k2)] (bM C (cH C s) G) sz (.returned (some (.int r3)), (bM C (cH C s) G), sz, 0)) (c5 : ¬ r3 = 0) (ek6 : (s.1 41) = nI k6) (lk6 : k6 < 241) (c7 : ¬ (u3 + (-7 : Int32)) ≤ 0) (t9 : gm_to N0 K ra_nm (ra_mt K) d 63 [.ref (C + 2), .int (44 : Int32)] (bM C (cH C (cI s 41 ((s.1 41) + (1 : Int32)))) G) sz (.returned (some (.int r8)), (bM C (cH C s10) G), sz, 0)) (c11 : ¬ r8 = 0) (k : gm_ev N0 K ra_nm (ra_mt K) d (some .int) (gm_I cX6_readTerm) (gm_lkf (lkX6 false K)) 55 [some (.ref (C + 2)), none, some (.int (u2 ||| ((s.2.1 1 k6) <<< ((u3 + (-7 : Int32)) &&& 31)))), some (.int (u3 + (-7 : Int32)))] [] (bM C (cH C s10) G) sz sl R) : gm_ev N0 K ra_nm (ra_mt K) d (some .int) (gm_I cX6_readTerm) (gm_lkf (lkX6 false K)) 55 [some (.ref (C + 2)), none, some (.int u2), some (.int u3)] [] (bM C (cH C s) G) sz sl R := by
  refine gm_ev.iinc (v := u3 + (-7 : Int32)) (ls' := [some (.ref (C + 2)), none, some (.int u2), some (.int (u3 + (-7 : Int32)))]) i69_55 rfl (by rfl) rfl ?_
  refine gm_ev.aload_n i69_58 rfl ?_
  refine gm_ev.getfield (v := .ref (C + 1)) i69_59 rfl (bM_fld (j := 2) (fs := cF2 C s) rfl (cv_some h1)) ?_
  refine gm_ev.aload_n i69_62 rfl ?_
  refine gm_ev.getfield (v := .int (s.1 41)) i69_63 rfl (bM_fld (j := 2) (fs := cF2 C s) rfl rfl) ?_
  refine gm_ev.caload i69_66 (bM_ai (j := 1) (n := 241) (f := s.2.1 1) rfl ek2 lk2 (by decide)) ?_
  refine gm_ev.callS gm_mono_run (av := [.int (s.2.1 1 k2)]) (r := []) i69_67 rfl rfl rfl (Nat.le_of_ble_eq_true rfl) t4 ?_
  refine gm_ev.if_ne_t (tgt := 75) i69_70 (by decide) c5 ?_
  refine gm_ev.iload_n i69_75 rfl ?_
  refine gm_ev.aload_n i69_76 rfl ?_
  refine gm_ev.getfield (v := .ref (C + 1)) i69_77 rfl (bM_fld (j := 2) (fs := cF2 C s) rfl (cv_some h1)) ?_
  refine gm_ev.aload_n i69_80 rfl ?_
  refine gm_ev.getfield (v := .int (s.1 41)) i69_81 rfl (bM_fld (j := 2) (fs := cF2 C s) rfl rfl) ?_
  refine gm_ev.caload i69_84 (bM_ai (j := 1) (n := 241) (f := s.2.1 1) rfl ek6 lk6 (by decide)) ?_
  refine gm_ev.iload_n i69_85 rfl ?_
  refine gm_ev.ishl i69_86 ?_
  refine gm_ev.ior i69_87 ?_
  refine gm_ev.istore_n (ls' := [some (.ref (C + 2)), none, some (.int (u2 ||| ((s.2.1 1 k6) <<< ((u3 + (-7 : Int32)) &&& 31)))), some (.int (u3 + (-7 : Int32)))]) i69_88 (Nat.le_of_ble_eq_true rfl) rfl ?_
  refine gm_ev.aload_n i69_89 rfl ?_
  refine gm_ev.dup i69_90 rfl ?_
  refine gm_ev.getfield (v := .int (s.1 41)) i69_91 rfl (bM_fld (j := 2) (fs := cF2 C s) rfl rfl) ?_
  refine gm_ev.iconst (v := 1) i69_94 (by decide) ?_
  refine gm_ev.iadd i69_95 ?_
  refine gm_ev.putfield (M' := (bM C (cH C (cI s 41 ((s.1 41) + (1 : Int32)))) G)) i69_96 rfl (bM_put (j := 2) (fs := cF2 C s) rfl (Nat.le_of_ble_eq_true rfl) hN (gm_fit_i _) rfl) ?_
  refine gm_ev.iload_n i69_99 rfl ?_
  refine gm_ev.if_le_f i69_100 c7 ?_
  refine gm_ev.aload_n i69_103 rfl ?_
  refine gm_ev.bipush (v := 44) i69_104 (by decide) ?_
  refine gm_ev.callV gm_mono_run (av := [.int (44 : Int32)]) (r := []) (ci := 6) (fs := cF2 C (cI s 41 ((s.1 41) + (1 : Int32)))) (bM_get (j := 2) rfl) i69_106 rfl rfl rfl (Nat.le_of_ble_eq_true rfl) t9 ?_
  refine gm_ev.if_ne_t (tgt := 55) i69_109 (by decide) c11 ?_
  exact k
theorem t_X6_readTerm_55_tfft {N0 : Nat} {K : Nat → Nat} {d C : Nat} {s : cS} {G : gm_H} {sz sl : Nat} {u2 : Int32} {u3 : Int32} {k2 : Nat} {r3 : Int32} {k6 : Nat} {r8 : Int32} {s10 : cS} {r12 : Int32} {s14 : cS} (hN : N0 ≤ C) (h1 : s.2.2 40 = some (C + 1)) (ek2 : (s.1 41) = nI k2) (lk2 : k2 < 241) (t4 : gm_to N0 K ra_nm (ra_mt K) d 90 [.int (s.2.1 1 k2)] (bM C (cH C s) G) sz (.returned (some (.int r3)), (bM C (cH C s) G), sz, 0)) (c5 : ¬ r3 = 0) (ek6 : (s.1 41) = nI k6) (lk6 : k6 < 241) (c7 : ¬ (u3 + (-7 : Int32)) ≤ 0) (t9 : gm_to N0 K ra_nm (ra_mt K) d 63 [.ref (C + 2), .int (44 : Int32)] (bM C (cH C (cI s 41 ((s.1 41) + (1 : Int32)))) G) sz (.returned (some (.int r8)), (bM C (cH C s10) G), sz, 0)) (c11 : r8 = 0) (t13 : gm_to N0 K ra_nm (ra_mt K) d 63 [.ref (C + 2), .int (41 : Int32)] (bM C (cH C s10) G) sz (.returned (some (.int r12)), (bM C (cH C s14) G), sz, 0)) (c15 : r12 = 0) : gm_ev N0 K ra_nm (ra_mt K) d (some .int) (gm_I cX6_readTerm) (gm_lkf (lkX6 false K)) 55 [some (.ref (C + 2)), none, some (.int u2), some (.int u3)] [] (bM C (cH C s) G) sz sl (.returned (some (.int (0 : Int32))), (bM C (cH C s14) G), sz, sl) := by
  refine gm_ev.iinc (v := u3 + (-7 : Int32)) (ls' := [some (.ref (C + 2)), none, some (.int u2), some (.int (u3 + (-7 : Int32)))]) i69_55 rfl (by rfl) rfl ?_
  refine gm_ev.aload_n i69_58 rfl ?_
  refine gm_ev.getfield (v := .ref (C + 1)) i69_59 rfl (bM_fld (j := 2) (fs := cF2 C s) rfl (cv_some h1)) ?_
  refine gm_ev.aload_n i69_62 rfl ?_
  refine gm_ev.getfield (v := .int (s.1 41)) i69_63 rfl (bM_fld (j := 2) (fs := cF2 C s) rfl rfl) ?_
  refine gm_ev.caload i69_66 (bM_ai (j := 1) (n := 241) (f := s.2.1 1) rfl ek2 lk2 (by decide)) ?_
  refine gm_ev.callS gm_mono_run (av := [.int (s.2.1 1 k2)]) (r := []) i69_67 rfl rfl rfl (Nat.le_of_ble_eq_true rfl) t4 ?_
  refine gm_ev.if_ne_t (tgt := 75) i69_70 (by decide) c5 ?_
  refine gm_ev.iload_n i69_75 rfl ?_
  refine gm_ev.aload_n i69_76 rfl ?_
  refine gm_ev.getfield (v := .ref (C + 1)) i69_77 rfl (bM_fld (j := 2) (fs := cF2 C s) rfl (cv_some h1)) ?_
  refine gm_ev.aload_n i69_80 rfl ?_
  refine gm_ev.getfield (v := .int (s.1 41)) i69_81 rfl (bM_fld (j := 2) (fs := cF2 C s) rfl rfl) ?_
  refine gm_ev.caload i69_84 (bM_ai (j := 1) (n := 241) (f := s.2.1 1) rfl ek6 lk6 (by decide)) ?_
  refine gm_ev.iload_n i69_85 rfl ?_
  refine gm_ev.ishl i69_86 ?_
  refine gm_ev.ior i69_87 ?_
  refine gm_ev.istore_n (ls' := [some (.ref (C + 2)), none, some (.int (u2 ||| ((s.2.1 1 k6) <<< ((u3 + (-7 : Int32)) &&& 31)))), some (.int (u3 + (-7 : Int32)))]) i69_88 (Nat.le_of_ble_eq_true rfl) rfl ?_
  refine gm_ev.aload_n i69_89 rfl ?_
  refine gm_ev.dup i69_90 rfl ?_
  refine gm_ev.getfield (v := .int (s.1 41)) i69_91 rfl (bM_fld (j := 2) (fs := cF2 C s) rfl rfl) ?_
  refine gm_ev.iconst (v := 1) i69_94 (by decide) ?_
  refine gm_ev.iadd i69_95 ?_
  refine gm_ev.putfield (M' := (bM C (cH C (cI s 41 ((s.1 41) + (1 : Int32)))) G)) i69_96 rfl (bM_put (j := 2) (fs := cF2 C s) rfl (Nat.le_of_ble_eq_true rfl) hN (gm_fit_i _) rfl) ?_
  refine gm_ev.iload_n i69_99 rfl ?_
  refine gm_ev.if_le_f i69_100 c7 ?_
  refine gm_ev.aload_n i69_103 rfl ?_
  refine gm_ev.bipush (v := 44) i69_104 (by decide) ?_
  refine gm_ev.callV gm_mono_run (av := [.int (44 : Int32)]) (r := []) (ci := 6) (fs := cF2 C (cI s 41 ((s.1 41) + (1 : Int32)))) (bM_get (j := 2) rfl) i69_106 rfl rfl rfl (Nat.le_of_ble_eq_true rfl) t9 ?_
  refine gm_ev.if_ne_f i69_109 c11 ?_
  refine gm_ev.aload_n i69_112 rfl ?_
  refine gm_ev.bipush (v := 41) i69_113 (by decide) ?_
  refine gm_ev.callV gm_mono_run (av := [.int (41 : Int32)]) (r := []) (ci := 6) (fs := cF2 C s10) (bM_get (j := 2) rfl) i69_115 rfl rfl rfl (Nat.le_of_ble_eq_true rfl) t13 ?_
  refine gm_ev.if_eq_t (tgt := 125) i69_118 (by decide) c15 ?_
  refine gm_ev.iconst (v := 0) i69_125 (by decide) ?_
  exact gm_ev.iret i69_126 rfl
theorem t_X6_readTerm_55_tfff {N0 : Nat} {K : Nat → Nat} {d C : Nat} {s : cS} {G : gm_H} {sz sl : Nat} {u2 : Int32} {u3 : Int32} {k2 : Nat} {r3 : Int32} {k6 : Nat} {r8 : Int32} {s10 : cS} {r12 : Int32} {s14 : cS} (hN : N0 ≤ C) (h1 : s.2.2 40 = some (C + 1)) (ek2 : (s.1 41) = nI k2) (lk2 : k2 < 241) (t4 : gm_to N0 K ra_nm (ra_mt K) d 90 [.int (s.2.1 1 k2)] (bM C (cH C s) G) sz (.returned (some (.int r3)), (bM C (cH C s) G), sz, 0)) (c5 : ¬ r3 = 0) (ek6 : (s.1 41) = nI k6) (lk6 : k6 < 241) (c7 : ¬ (u3 + (-7 : Int32)) ≤ 0) (t9 : gm_to N0 K ra_nm (ra_mt K) d 63 [.ref (C + 2), .int (44 : Int32)] (bM C (cH C (cI s 41 ((s.1 41) + (1 : Int32)))) G) sz (.returned (some (.int r8)), (bM C (cH C s10) G), sz, 0)) (c11 : r8 = 0) (t13 : gm_to N0 K ra_nm (ra_mt K) d 63 [.ref (C + 2), .int (41 : Int32)] (bM C (cH C s10) G) sz (.returned (some (.int r12)), (bM C (cH C s14) G), sz, 0)) (c15 : ¬ r12 = 0) : gm_ev N0 K ra_nm (ra_mt K) d (some .int) (gm_I cX6_readTerm) (gm_lkf (lkX6 false K)) 55 [some (.ref (C + 2)), none, some (.int u2), some (.int u3)] [] (bM C (cH C s) G) sz sl (.returned (some (.int (u2 ||| ((s.2.1 1 k6) <<< ((u3 + (-7 : Int32)) &&& 31))))), (bM C (cH C s14) G), sz, sl) := by
  refine gm_ev.iinc (v := u3 + (-7 : Int32)) (ls' := [some (.ref (C + 2)), none, some (.int u2), some (.int (u3 + (-7 : Int32)))]) i69_55 rfl (by rfl) rfl ?_
  refine gm_ev.aload_n i69_58 rfl ?_
  refine gm_ev.getfield (v := .ref (C + 1)) i69_59 rfl (bM_fld (j := 2) (fs := cF2 C s) rfl (cv_some h1)) ?_
  refine gm_ev.aload_n i69_62 rfl ?_
  refine gm_ev.getfield (v := .int (s.1 41)) i69_63 rfl (bM_fld (j := 2) (fs := cF2 C s) rfl rfl) ?_
  refine gm_ev.caload i69_66 (bM_ai (j := 1) (n := 241) (f := s.2.1 1) rfl ek2 lk2 (by decide)) ?_
  refine gm_ev.callS gm_mono_run (av := [.int (s.2.1 1 k2)]) (r := []) i69_67 rfl rfl rfl (Nat.le_of_ble_eq_true rfl) t4 ?_
  refine gm_ev.if_ne_t (tgt := 75) i69_70 (by decide) c5 ?_
  refine gm_ev.iload_n i69_75 rfl ?_
  refine gm_ev.aload_n i69_76 rfl ?_
  refine gm_ev.getfield (v := .ref (C + 1)) i69_77 rfl (bM_fld (j := 2) (fs := cF2 C s) rfl (cv_some h1)) ?_
  refine gm_ev.aload_n i69_80 rfl ?_
  refine gm_ev.getfield (v := .int (s.1 41)) i69_81 rfl (bM_fld (j := 2) (fs := cF2 C s) rfl rfl) ?_
  refine gm_ev.caload i69_84 (bM_ai (j := 1) (n := 241) (f := s.2.1 1) rfl ek6 lk6 (by decide)) ?_
  refine gm_ev.iload_n i69_85 rfl ?_
  refine gm_ev.ishl i69_86 ?_
  refine gm_ev.ior i69_87 ?_
  refine gm_ev.istore_n (ls' := [some (.ref (C + 2)), none, some (.int (u2 ||| ((s.2.1 1 k6) <<< ((u3 + (-7 : Int32)) &&& 31)))), some (.int (u3 + (-7 : Int32)))]) i69_88 (Nat.le_of_ble_eq_true rfl) rfl ?_
  refine gm_ev.aload_n i69_89 rfl ?_
  refine gm_ev.dup i69_90 rfl ?_
  refine gm_ev.getfield (v := .int (s.1 41)) i69_91 rfl (bM_fld (j := 2) (fs := cF2 C s) rfl rfl) ?_
  refine gm_ev.iconst (v := 1) i69_94 (by decide) ?_
  refine gm_ev.iadd i69_95 ?_
  refine gm_ev.putfield (M' := (bM C (cH C (cI s 41 ((s.1 41) + (1 : Int32)))) G)) i69_96 rfl (bM_put (j := 2) (fs := cF2 C s) rfl (Nat.le_of_ble_eq_true rfl) hN (gm_fit_i _) rfl) ?_
  refine gm_ev.iload_n i69_99 rfl ?_
  refine gm_ev.if_le_f i69_100 c7 ?_
  refine gm_ev.aload_n i69_103 rfl ?_
  refine gm_ev.bipush (v := 44) i69_104 (by decide) ?_
  refine gm_ev.callV gm_mono_run (av := [.int (44 : Int32)]) (r := []) (ci := 6) (fs := cF2 C (cI s 41 ((s.1 41) + (1 : Int32)))) (bM_get (j := 2) rfl) i69_106 rfl rfl rfl (Nat.le_of_ble_eq_true rfl) t9 ?_
  refine gm_ev.if_ne_f i69_109 c11 ?_
  refine gm_ev.aload_n i69_112 rfl ?_
  refine gm_ev.bipush (v := 41) i69_113 (by decide) ?_
  refine gm_ev.callV gm_mono_run (av := [.int (41 : Int32)]) (r := []) (ci := 6) (fs := cF2 C s10) (bM_get (j := 2) rfl) i69_115 rfl rfl rfl (Nat.le_of_ble_eq_true rfl) t13 ?_
  refine gm_ev.if_eq_f i69_118 c15 ?_
  refine gm_ev.iload_n i69_121 rfl ?_
  refine gm_ev.goto (tgt := 126) i69_122 (by decide) ?_
  exact gm_ev.iret i69_126 rfl
theorem t_X6_readTerm_55_f {N0 : Nat} {K : Nat → Nat} {d C : Nat} {s : cS} {G : gm_H} {sz sl : Nat} {u2 : Int32} {u3 : Int32} {k2 : Nat} {r3 : Int32} (hN : N0 ≤ C) (h1 : s.2.2 40 = some (C + 1)) (ek2 : (s.1 41) = nI k2) (lk2 : k2 < 241) (t4 : gm_to N0 K ra_nm (ra_mt K) d 90 [.int (s.2.1 1 k2)] (bM C (cH C s) G) sz (.returned (some (.int r3)), (bM C (cH C s) G), sz, 0)) (c5 : r3 = 0) : gm_ev N0 K ra_nm (ra_mt K) d (some .int) (gm_I cX6_readTerm) (gm_lkf (lkX6 false K)) 55 [some (.ref (C + 2)), none, some (.int u2), some (.int u3)] [] (bM C (cH C s) G) sz sl (.returned (some (.int (0 : Int32))), (bM C (cH C s) G), sz, sl) := by
  refine gm_ev.iinc (v := u3 + (-7 : Int32)) (ls' := [some (.ref (C + 2)), none, some (.int u2), some (.int (u3 + (-7 : Int32)))]) i69_55 rfl (by rfl) rfl ?_
  refine gm_ev.aload_n i69_58 rfl ?_
  refine gm_ev.getfield (v := .ref (C + 1)) i69_59 rfl (bM_fld (j := 2) (fs := cF2 C s) rfl (cv_some h1)) ?_
  refine gm_ev.aload_n i69_62 rfl ?_
  refine gm_ev.getfield (v := .int (s.1 41)) i69_63 rfl (bM_fld (j := 2) (fs := cF2 C s) rfl rfl) ?_
  refine gm_ev.caload i69_66 (bM_ai (j := 1) (n := 241) (f := s.2.1 1) rfl ek2 lk2 (by decide)) ?_
  refine gm_ev.callS gm_mono_run (av := [.int (s.2.1 1 k2)]) (r := []) i69_67 rfl rfl rfl (Nat.le_of_ble_eq_true rfl) t4 ?_
  refine gm_ev.if_ne_f i69_70 c5 ?_
  refine gm_ev.iconst (v := 0) i69_73 (by decide) ?_
  exact gm_ev.iret i69_74 rfl
theorem t_X11_write_0__at6 {N0 : Nat} {K : Nat → Nat} {d C : Nat} {s : cS} {G : gm_H} {sz sl : Nat} {R : gm_R} {p0 : Int64} (hN : N0 ≤ C)  (k : gm_ev N0 K ra_nm (ra_mt K) d (some .boolean) (gm_I cX11_write) (gm_lkf (lkX11 false K)) 6 [some (.ref C), some (.long p0), none, some (.int (0 : Int32)), some (.int (56 : Int32)), none] [] (bM C (cH C s) G) sz sl R) : gm_ev N0 K ra_nm (ra_mt K) d (some .boolean) (gm_I cX11_write) (gm_lkf (lkX11 false K)) 0 [some (.ref C), some (.long p0), none, none, none, none] [] (bM C (cH C s) G) sz sl R := by
  refine gm_ev.iconst (v := 0) i103_0 (by decide) ?_
  refine gm_ev.istore_n (ls' := [some (.ref C), some (.long p0), none, some (.int (0 : Int32)), none, none]) i103_1 (Nat.le_of_ble_eq_true rfl) rfl ?_
  refine gm_ev.bipush (v := 56) i103_2 (by decide) ?_
  refine gm_ev.istore (ls' := [some (.ref C), some (.long p0), none, some (.int (0 : Int32)), some (.int (56 : Int32)), none]) i103_4 (Nat.le_of_ble_eq_true rfl) rfl ?_
  exact k
theorem t_X11_write_6_tt_at80 {N0 : Nat} {K : Nat → Nat} {d C : Nat} {s : cS} {G : gm_H} {sz sl : Nat} {R : gm_R} {y1 : Int64} {u3 : Int32} {u4 : Int32} (hN : N0 ≤ C) (c1 : u4 < 0) (c2 : ((s.1 1) + u3) ≤ (240 : Int32)) (k : gm_ev N0 K ra_nm (ra_mt K) d (some .boolean) (gm_I cX11_write) (gm_lkf (lkX11 false K)) 80 [some (.ref C), some (.long y1), none, none, some (.int (56 : Int32)), none] [] (bM C (cH C s) G) sz sl R) : gm_ev N0 K ra_nm (ra_mt K) d (some .boolean) (gm_I cX11_write) (gm_lkf (lkX11 false K)) 6 [some (.ref C), some (.long y1), none, some (.int u3), some (.int u4), none] [] (bM C (cH C s) G) sz sl R := by
  refine gm_ev.iload i103_6 rfl ?_
  refine gm_ev.if_lt_t (tgt := 62) i103_8 (by decide) c1 ?_
  refine gm_ev.aload_n i103_62 rfl ?_
  refine gm_ev.getfield (v := .int (s.1 1)) i103_63 rfl (bM_fld (j := 0) (fs := cF0 C s) rfl rfl) ?_
  refine gm_ev.iload_n i103_66 rfl ?_
  refine gm_ev.iadd i103_67 ?_
  refine gm_ev.sipush (v := 240) i103_68 (by decide) ?_
  refine gm_ev.icmp_le_t (tgt := 76) i103_71 (by decide) c2 ?_
  refine gm_ev.bipush (v := 56) i103_76 (by decide) ?_
  refine gm_ev.istore (ls' := [some (.ref C), some (.long y1), none, some (.int u3), some (.int (56 : Int32)), none]) i103_78 (Nat.le_of_ble_eq_true rfl) rfl ?_
  refine gm_ev.le (a := [some (.ref C), some (.long y1), none, none, some (.int (56 : Int32)), none]) (gm_leL.le (show gm_leL _ _ from ⟨rfl, ⟨rfl, ⟨rfl, trivial⟩⟩⟩)) ?_
  exact k
theorem t_X11_write_6_tf {N0 : Nat} {K : Nat → Nat} {d C : Nat} {s : cS} {G : gm_H} {sz sl : Nat} {y1 : Int64} {u3 : Int32} {u4 : Int32} (hN : N0 ≤ C) (c1 : u4 < 0) (c2 : ¬ ((s.1 1) + u3) ≤ (240 : Int32)) : gm_ev N0 K ra_nm (ra_mt K) d (some .boolean) (gm_I cX11_write) (gm_lkf (lkX11 false K)) 6 [some (.ref C), some (.long y1), none, some (.int u3), some (.int u4), none] [] (bM C (cH C s) G) sz sl (.returned (some (.int (0 : Int32))), (bM C (cH C s) G), sz, sl) := by
  refine gm_ev.iload i103_6 rfl ?_
  refine gm_ev.if_lt_t (tgt := 62) i103_8 (by decide) c1 ?_
  refine gm_ev.aload_n i103_62 rfl ?_
  refine gm_ev.getfield (v := .int (s.1 1)) i103_63 rfl (bM_fld (j := 0) (fs := cF0 C s) rfl rfl) ?_
  refine gm_ev.iload_n i103_66 rfl ?_
  refine gm_ev.iadd i103_67 ?_
  refine gm_ev.sipush (v := 240) i103_68 (by decide) ?_
  refine gm_ev.icmp_le_f i103_71 c2 ?_
  refine gm_ev.iconst (v := 0) i103_74 (by decide) ?_
  exact gm_ev.zret i103_75 rfl (by decide)
theorem t_X11_write_6_ftt_at6 {N0 : Nat} {K : Nat → Nat} {d C : Nat} {s : cS} {G : gm_H} {sz sl : Nat} {R : gm_R} {y1 : Int64} {u3 : Int32} {u4 : Int32} (hN : N0 ≤ C) (c1 : ¬ u4 < 0) (c2 : (((((y1).toUInt64 >>> ((u4).toInt64.toUInt64 &&& Int64.toUInt64 63)).toInt64).toInt32) &&& (255 : Int32)) = 0) (c3 : (((((y1).toUInt64 >>> ((u4).toInt64.toUInt64 &&& Int64.toUInt64 63)).toInt64).toInt32) &&& (255 : Int32)) = 0) (k : gm_ev N0 K ra_nm (ra_mt K) d (some .boolean) (gm_I cX11_write) (gm_lkf (lkX11 false K)) 6 [some (.ref C), some (.long y1), none, some (.int (u3 + (0 : Int32))), some (.int (u4 + (-8 : Int32))), none] [] (bM C (cH C s) G) sz sl R) : gm_ev N0 K ra_nm (ra_mt K) d (some .boolean) (gm_I cX11_write) (gm_lkf (lkX11 false K)) 6 [some (.ref C), some (.long y1), none, some (.int u3), some (.int u4), none] [] (bM C (cH C s) G) sz sl R := by
  refine gm_ev.iload i103_6 rfl ?_
  refine gm_ev.if_lt_f i103_8 c1 ?_
  refine gm_ev.lload_n i103_11 rfl ?_
  refine gm_ev.iload i103_12 rfl ?_
  refine gm_ev.lushr i103_14 ?_
  refine gm_ev.l2i i103_15 ?_
  refine gm_ev.sipush (v := 255) i103_16 (by decide) ?_
  refine gm_ev.iand i103_19 ?_
  refine gm_ev.istore (ls' := [some (.ref C), some (.long y1), none, some (.int u3), some (.int u4), some (.int (((((y1).toUInt64 >>> ((u4).toInt64.toUInt64 &&& Int64.toUInt64 63)).toInt64).toInt32) &&& (255 : Int32)))]) i103_20 (Nat.le_of_ble_eq_true rfl) rfl ?_
  refine gm_ev.iload i103_22 rfl ?_
  refine gm_ev.if_eq_t (tgt := 43) i103_24 (by decide) c2 ?_
  refine gm_ev.iload_n i103_43 rfl ?_
  refine gm_ev.iload i103_44 rfl ?_
  refine gm_ev.if_eq_t (tgt := 53) i103_46 (by decide) c3 ?_
  refine gm_ev.iconst (v := 0) i103_53 (by decide) ?_
  refine gm_ev.iadd i103_54 ?_
  refine gm_ev.istore_n (ls' := [some (.ref C), some (.long y1), none, some (.int (u3 + (0 : Int32))), some (.int u4), some (.int (((((y1).toUInt64 >>> ((u4).toInt64.toUInt64 &&& Int64.toUInt64 63)).toInt64).toInt32) &&& (255 : Int32)))]) i103_55 (Nat.le_of_ble_eq_true rfl) rfl ?_
  refine gm_ev.iinc (v := u4 + (-8 : Int32)) (ls' := [some (.ref C), some (.long y1), none, some (.int (u3 + (0 : Int32))), some (.int (u4 + (-8 : Int32))), some (.int (((((y1).toUInt64 >>> ((u4).toInt64.toUInt64 &&& Int64.toUInt64 63)).toInt64).toInt32) &&& (255 : Int32)))]) i103_56 rfl (by rfl) rfl ?_
  refine gm_ev.goto (tgt := 6) i103_59 (by decide) ?_
  refine gm_ev.le (a := [some (.ref C), some (.long y1), none, some (.int (u3 + (0 : Int32))), some (.int (u4 + (-8 : Int32))), none]) (gm_leL.le (show gm_leL _ _ from ⟨rfl, ⟨rfl, ⟨rfl, ⟨rfl, trivial⟩⟩⟩⟩)) ?_
  exact k
theorem t_X11_write_6_ftf_at6 {N0 : Nat} {K : Nat → Nat} {d C : Nat} {s : cS} {G : gm_H} {sz sl : Nat} {R : gm_R} {y1 : Int64} {u3 : Int32} {u4 : Int32} (hN : N0 ≤ C) (c1 : ¬ u4 < 0) (c2 : (((((y1).toUInt64 >>> ((u4).toInt64.toUInt64 &&& Int64.toUInt64 63)).toInt64).toInt32) &&& (255 : Int32)) = 0) (c3 : ¬ (((((y1).toUInt64 >>> ((u4).toInt64.toUInt64 &&& Int64.toUInt64 63)).toInt64).toInt32) &&& (255 : Int32)) = 0) (k : gm_ev N0 K ra_nm (ra_mt K) d (some .boolean) (gm_I cX11_write) (gm_lkf (lkX11 false K)) 6 [some (.ref C), some (.long y1), none, some (.int (u3 + (1 : Int32))), some (.int (u4 + (-8 : Int32))), none] [] (bM C (cH C s) G) sz sl R) : gm_ev N0 K ra_nm (ra_mt K) d (some .boolean) (gm_I cX11_write) (gm_lkf (lkX11 false K)) 6 [some (.ref C), some (.long y1), none, some (.int u3), some (.int u4), none] [] (bM C (cH C s) G) sz sl R := by
  refine gm_ev.iload i103_6 rfl ?_
  refine gm_ev.if_lt_f i103_8 c1 ?_
  refine gm_ev.lload_n i103_11 rfl ?_
  refine gm_ev.iload i103_12 rfl ?_
  refine gm_ev.lushr i103_14 ?_
  refine gm_ev.l2i i103_15 ?_
  refine gm_ev.sipush (v := 255) i103_16 (by decide) ?_
  refine gm_ev.iand i103_19 ?_
  refine gm_ev.istore (ls' := [some (.ref C), some (.long y1), none, some (.int u3), some (.int u4), some (.int (((((y1).toUInt64 >>> ((u4).toInt64.toUInt64 &&& Int64.toUInt64 63)).toInt64).toInt32) &&& (255 : Int32)))]) i103_20 (Nat.le_of_ble_eq_true rfl) rfl ?_
  refine gm_ev.iload i103_22 rfl ?_
  refine gm_ev.if_eq_t (tgt := 43) i103_24 (by decide) c2 ?_
  refine gm_ev.iload_n i103_43 rfl ?_
  refine gm_ev.iload i103_44 rfl ?_
  refine gm_ev.if_eq_f i103_46 c3 ?_
  refine gm_ev.iconst (v := 1) i103_49 (by decide) ?_
  refine gm_ev.goto (tgt := 54) i103_50 (by decide) ?_
  refine gm_ev.iadd i103_54 ?_
  refine gm_ev.istore_n (ls' := [some (.ref C), some (.long y1), none, some (.int (u3 + (1 : Int32))), some (.int u4), some (.int (((((y1).toUInt64 >>> ((u4).toInt64.toUInt64 &&& Int64.toUInt64 63)).toInt64).toInt32) &&& (255 : Int32)))]) i103_55 (Nat.le_of_ble_eq_true rfl) rfl ?_
  refine gm_ev.iinc (v := u4 + (-8 : Int32)) (ls' := [some (.ref C), some (.long y1), none, some (.int (u3 + (1 : Int32))), some (.int (u4 + (-8 : Int32))), some (.int (((((y1).toUInt64 >>> ((u4).toInt64.toUInt64 &&& Int64.toUInt64 63)).toInt64).toInt32) &&& (255 : Int32)))]) i103_56 rfl (by rfl) rfl ?_
  refine gm_ev.goto (tgt := 6) i103_59 (by decide) ?_
  refine gm_ev.le (a := [some (.ref C), some (.long y1), none, some (.int (u3 + (1 : Int32))), some (.int (u4 + (-8 : Int32))), none]) (gm_leL.le (show gm_leL _ _ from ⟨rfl, ⟨rfl, ⟨rfl, ⟨rfl, trivial⟩⟩⟩⟩)) ?_
  exact k
theorem t_X11_write_6_fft {N0 : Nat} {K : Nat → Nat} {d C : Nat} {s : cS} {G : gm_H} {sz sl : Nat} {y1 : Int64} {u3 : Int32} {u4 : Int32} (hN : N0 ≤ C) (c1 : ¬ u4 < 0) (c2 : ¬ (((((y1).toUInt64 >>> ((u4).toInt64.toUInt64 &&& Int64.toUInt64 63)).toInt64).toInt32) &&& (255 : Int32)) = 0) (c3 : (((((y1).toUInt64 >>> ((u4).toInt64.toUInt64 &&& Int64.toUInt64 63)).toInt64).toInt32) &&& (255 : Int32)) < (32 : Int32)) : gm_ev N0 K ra_nm (ra_mt K) d (some .boolean) (gm_I cX11_write) (gm_lkf (lkX11 false K)) 6 [some (.ref C), some (.long y1), none, some (.int u3), some (.int u4), none] [] (bM C (cH C s) G) sz sl (.returned (some (.int (0 : Int32))), (bM C (cH C s) G), sz, sl) := by
  refine gm_ev.iload i103_6 rfl ?_
  refine gm_ev.if_lt_f i103_8 c1 ?_
  refine gm_ev.lload_n i103_11 rfl ?_
  refine gm_ev.iload i103_12 rfl ?_
  refine gm_ev.lushr i103_14 ?_
  refine gm_ev.l2i i103_15 ?_
  refine gm_ev.sipush (v := 255) i103_16 (by decide) ?_
  refine gm_ev.iand i103_19 ?_
  refine gm_ev.istore (ls' := [some (.ref C), some (.long y1), none, some (.int u3), some (.int u4), some (.int (((((y1).toUInt64 >>> ((u4).toInt64.toUInt64 &&& Int64.toUInt64 63)).toInt64).toInt32) &&& (255 : Int32)))]) i103_20 (Nat.le_of_ble_eq_true rfl) rfl ?_
  refine gm_ev.iload i103_22 rfl ?_
  refine gm_ev.if_eq_f i103_24 c2 ?_
  refine gm_ev.iload i103_27 rfl ?_
  refine gm_ev.bipush (v := 32) i103_29 (by decide) ?_
  refine gm_ev.icmp_lt_t (tgt := 41) i103_31 (by decide) c3 ?_
  refine gm_ev.iconst (v := 0) i103_41 (by decide) ?_
  exact gm_ev.zret i103_42 rfl (by decide)
theorem t_X11_write_6_ffftt_at6 {N0 : Nat} {K : Nat → Nat} {d C : Nat} {s : cS} {G : gm_H} {sz sl : Nat} {R : gm_R} {y1 : Int64} {u3 : Int32} {u4 : Int32} (hN : N0 ≤ C) (c1 : ¬ u4 < 0) (c2 : ¬ (((((y1).toUInt64 >>> ((u4).toInt64.toUInt64 &&& Int64.toUInt64 63)).toInt64).toInt32) &&& (255 : Int32)) = 0) (c3 : ¬ (((((y1).toUInt64 >>> ((u4).toInt64.toUInt64 &&& Int64.toUInt64 63)).toInt64).toInt32) &&& (255 : Int32)) < (32 : Int32)) (c4 : (((((y1).toUInt64 >>> ((u4).toInt64.toUInt64 &&& Int64.toUInt64 63)).toInt64).toInt32) &&& (255 : Int32)) ≤ (126 : Int32)) (c5 : (((((y1).toUInt64 >>> ((u4).toInt64.toUInt64 &&& Int64.toUInt64 63)).toInt64).toInt32) &&& (255 : Int32)) = 0) (k : gm_ev N0 K ra_nm (ra_mt K) d (some .boolean) (gm_I cX11_write) (gm_lkf (lkX11 false K)) 6 [some (.ref C), some (.long y1), none, some (.int (u3 + (0 : Int32))), some (.int (u4 + (-8 : Int32))), none] [] (bM C (cH C s) G) sz sl R) : gm_ev N0 K ra_nm (ra_mt K) d (some .boolean) (gm_I cX11_write) (gm_lkf (lkX11 false K)) 6 [some (.ref C), some (.long y1), none, some (.int u3), some (.int u4), none] [] (bM C (cH C s) G) sz sl R := by
  refine gm_ev.iload i103_6 rfl ?_
  refine gm_ev.if_lt_f i103_8 c1 ?_
  refine gm_ev.lload_n i103_11 rfl ?_
  refine gm_ev.iload i103_12 rfl ?_
  refine gm_ev.lushr i103_14 ?_
  refine gm_ev.l2i i103_15 ?_
  refine gm_ev.sipush (v := 255) i103_16 (by decide) ?_
  refine gm_ev.iand i103_19 ?_
  refine gm_ev.istore (ls' := [some (.ref C), some (.long y1), none, some (.int u3), some (.int u4), some (.int (((((y1).toUInt64 >>> ((u4).toInt64.toUInt64 &&& Int64.toUInt64 63)).toInt64).toInt32) &&& (255 : Int32)))]) i103_20 (Nat.le_of_ble_eq_true rfl) rfl ?_
  refine gm_ev.iload i103_22 rfl ?_
  refine gm_ev.if_eq_f i103_24 c2 ?_
  refine gm_ev.iload i103_27 rfl ?_
  refine gm_ev.bipush (v := 32) i103_29 (by decide) ?_
  refine gm_ev.icmp_lt_f i103_31 c3 ?_
  refine gm_ev.iload i103_34 rfl ?_
  refine gm_ev.bipush (v := 126) i103_36 (by decide) ?_
  refine gm_ev.icmp_le_t (tgt := 43) i103_38 (by decide) c4 ?_
  refine gm_ev.iload_n i103_43 rfl ?_
  refine gm_ev.iload i103_44 rfl ?_
  refine gm_ev.if_eq_t (tgt := 53) i103_46 (by decide) c5 ?_
  refine gm_ev.iconst (v := 0) i103_53 (by decide) ?_
  refine gm_ev.iadd i103_54 ?_
  refine gm_ev.istore_n (ls' := [some (.ref C), some (.long y1), none, some (.int (u3 + (0 : Int32))), some (.int u4), some (.int (((((y1).toUInt64 >>> ((u4).toInt64.toUInt64 &&& Int64.toUInt64 63)).toInt64).toInt32) &&& (255 : Int32)))]) i103_55 (Nat.le_of_ble_eq_true rfl) rfl ?_
  refine gm_ev.iinc (v := u4 + (-8 : Int32)) (ls' := [some (.ref C), some (.long y1), none, some (.int (u3 + (0 : Int32))), some (.int (u4 + (-8 : Int32))), some (.int (((((y1).toUInt64 >>> ((u4).toInt64.toUInt64 &&& Int64.toUInt64 63)).toInt64).toInt32) &&& (255 : Int32)))]) i103_56 rfl (by rfl) rfl ?_
  refine gm_ev.goto (tgt := 6) i103_59 (by decide) ?_
  refine gm_ev.le (a := [some (.ref C), some (.long y1), none, some (.int (u3 + (0 : Int32))), some (.int (u4 + (-8 : Int32))), none]) (gm_leL.le (show gm_leL _ _ from ⟨rfl, ⟨rfl, ⟨rfl, ⟨rfl, trivial⟩⟩⟩⟩)) ?_
  exact k
theorem t_X11_write_6_ffftf_at6 {N0 : Nat} {K : Nat → Nat} {d C : Nat} {s : cS} {G : gm_H} {sz sl : Nat} {R : gm_R} {y1 : Int64} {u3 : Int32} {u4 : Int32} (hN : N0 ≤ C) (c1 : ¬ u4 < 0) (c2 : ¬ (((((y1).toUInt64 >>> ((u4).toInt64.toUInt64 &&& Int64.toUInt64 63)).toInt64).toInt32) &&& (255 : Int32)) = 0) (c3 : ¬ (((((y1).toUInt64 >>> ((u4).toInt64.toUInt64 &&& Int64.toUInt64 63)).toInt64).toInt32) &&& (255 : Int32)) < (32 : Int32)) (c4 : (((((y1).toUInt64 >>> ((u4).toInt64.toUInt64 &&& Int64.toUInt64 63)).toInt64).toInt32) &&& (255 : Int32)) ≤ (126 : Int32)) (c5 : ¬ (((((y1).toUInt64 >>> ((u4).toInt64.toUInt64 &&& Int64.toUInt64 63)).toInt64).toInt32) &&& (255 : Int32)) = 0) (k : gm_ev N0 K ra_nm (ra_mt K) d (some .boolean) (gm_I cX11_write) (gm_lkf (lkX11 false K)) 6 [some (.ref C), some (.long y1), none, some (.int (u3 + (1 : Int32))), some (.int (u4 + (-8 : Int32))), none] [] (bM C (cH C s) G) sz sl R) : gm_ev N0 K ra_nm (ra_mt K) d (some .boolean) (gm_I cX11_write) (gm_lkf (lkX11 false K)) 6 [some (.ref C), some (.long y1), none, some (.int u3), some (.int u4), none] [] (bM C (cH C s) G) sz sl R := by
  refine gm_ev.iload i103_6 rfl ?_
  refine gm_ev.if_lt_f i103_8 c1 ?_
  refine gm_ev.lload_n i103_11 rfl ?_
  refine gm_ev.iload i103_12 rfl ?_
  refine gm_ev.lushr i103_14 ?_
  refine gm_ev.l2i i103_15 ?_
  refine gm_ev.sipush (v := 255) i103_16 (by decide) ?_
  refine gm_ev.iand i103_19 ?_
  refine gm_ev.istore (ls' := [some (.ref C), some (.long y1), none, some (.int u3), some (.int u4), some (.int (((((y1).toUInt64 >>> ((u4).toInt64.toUInt64 &&& Int64.toUInt64 63)).toInt64).toInt32) &&& (255 : Int32)))]) i103_20 (Nat.le_of_ble_eq_true rfl) rfl ?_
  refine gm_ev.iload i103_22 rfl ?_
  refine gm_ev.if_eq_f i103_24 c2 ?_
  refine gm_ev.iload i103_27 rfl ?_
  refine gm_ev.bipush (v := 32) i103_29 (by decide) ?_
  refine gm_ev.icmp_lt_f i103_31 c3 ?_
  refine gm_ev.iload i103_34 rfl ?_
  refine gm_ev.bipush (v := 126) i103_36 (by decide) ?_
  refine gm_ev.icmp_le_t (tgt := 43) i103_38 (by decide) c4 ?_
  refine gm_ev.iload_n i103_43 rfl ?_
  refine gm_ev.iload i103_44 rfl ?_
  refine gm_ev.if_eq_f i103_46 c5 ?_
  refine gm_ev.iconst (v := 1) i103_49 (by decide) ?_
  refine gm_ev.goto (tgt := 54) i103_50 (by decide) ?_
  refine gm_ev.iadd i103_54 ?_
  refine gm_ev.istore_n (ls' := [some (.ref C), some (.long y1), none, some (.int (u3 + (1 : Int32))), some (.int u4), some (.int (((((y1).toUInt64 >>> ((u4).toInt64.toUInt64 &&& Int64.toUInt64 63)).toInt64).toInt32) &&& (255 : Int32)))]) i103_55 (Nat.le_of_ble_eq_true rfl) rfl ?_
  refine gm_ev.iinc (v := u4 + (-8 : Int32)) (ls' := [some (.ref C), some (.long y1), none, some (.int (u3 + (1 : Int32))), some (.int (u4 + (-8 : Int32))), some (.int (((((y1).toUInt64 >>> ((u4).toInt64.toUInt64 &&& Int64.toUInt64 63)).toInt64).toInt32) &&& (255 : Int32)))]) i103_56 rfl (by rfl) rfl ?_
  refine gm_ev.goto (tgt := 6) i103_59 (by decide) ?_
  refine gm_ev.le (a := [some (.ref C), some (.long y1), none, some (.int (u3 + (1 : Int32))), some (.int (u4 + (-8 : Int32))), none]) (gm_leL.le (show gm_leL _ _ from ⟨rfl, ⟨rfl, ⟨rfl, ⟨rfl, trivial⟩⟩⟩⟩)) ?_
  exact k
theorem t_X11_write_6_ffff {N0 : Nat} {K : Nat → Nat} {d C : Nat} {s : cS} {G : gm_H} {sz sl : Nat} {y1 : Int64} {u3 : Int32} {u4 : Int32} (hN : N0 ≤ C) (c1 : ¬ u4 < 0) (c2 : ¬ (((((y1).toUInt64 >>> ((u4).toInt64.toUInt64 &&& Int64.toUInt64 63)).toInt64).toInt32) &&& (255 : Int32)) = 0) (c3 : ¬ (((((y1).toUInt64 >>> ((u4).toInt64.toUInt64 &&& Int64.toUInt64 63)).toInt64).toInt32) &&& (255 : Int32)) < (32 : Int32)) (c4 : ¬ (((((y1).toUInt64 >>> ((u4).toInt64.toUInt64 &&& Int64.toUInt64 63)).toInt64).toInt32) &&& (255 : Int32)) ≤ (126 : Int32)) : gm_ev N0 K ra_nm (ra_mt K) d (some .boolean) (gm_I cX11_write) (gm_lkf (lkX11 false K)) 6 [some (.ref C), some (.long y1), none, some (.int u3), some (.int u4), none] [] (bM C (cH C s) G) sz sl (.returned (some (.int (0 : Int32))), (bM C (cH C s) G), sz, sl) := by
  refine gm_ev.iload i103_6 rfl ?_
  refine gm_ev.if_lt_f i103_8 c1 ?_
  refine gm_ev.lload_n i103_11 rfl ?_
  refine gm_ev.iload i103_12 rfl ?_
  refine gm_ev.lushr i103_14 ?_
  refine gm_ev.l2i i103_15 ?_
  refine gm_ev.sipush (v := 255) i103_16 (by decide) ?_
  refine gm_ev.iand i103_19 ?_
  refine gm_ev.istore (ls' := [some (.ref C), some (.long y1), none, some (.int u3), some (.int u4), some (.int (((((y1).toUInt64 >>> ((u4).toInt64.toUInt64 &&& Int64.toUInt64 63)).toInt64).toInt32) &&& (255 : Int32)))]) i103_20 (Nat.le_of_ble_eq_true rfl) rfl ?_
  refine gm_ev.iload i103_22 rfl ?_
  refine gm_ev.if_eq_f i103_24 c2 ?_
  refine gm_ev.iload i103_27 rfl ?_
  refine gm_ev.bipush (v := 32) i103_29 (by decide) ?_
  refine gm_ev.icmp_lt_f i103_31 c3 ?_
  refine gm_ev.iload i103_34 rfl ?_
  refine gm_ev.bipush (v := 126) i103_36 (by decide) ?_
  refine gm_ev.icmp_le_f i103_38 c4 ?_
  refine gm_ev.iconst (v := 0) i103_41 (by decide) ?_
  exact gm_ev.zret i103_42 rfl (by decide)
theorem t_X11_write_80_t {N0 : Nat} {K : Nat → Nat} {d C : Nat} {s : cS} {G : gm_H} {sz sl : Nat} {y1 : Int64} {u4 : Int32} (hN : N0 ≤ C) (c1 : u4 < 0) : gm_ev N0 K ra_nm (ra_mt K) d (some .boolean) (gm_I cX11_write) (gm_lkf (lkX11 false K)) 80 [some (.ref C), some (.long y1), none, none, some (.int u4), none] [] (bM C (cH C s) G) sz sl (.returned (some (.int (1 : Int32))), (bM C (cH C s) G), sz, sl) := by
  refine gm_ev.iload i103_80 rfl ?_
  refine gm_ev.if_lt_t (tgt := 129) i103_82 (by decide) c1 ?_
  refine gm_ev.iconst (v := 1) i103_129 (by decide) ?_
  exact gm_ev.zret i103_130 rfl (by decide)
theorem t_X11_write_80_ft_at80 {N0 : Nat} {K : Nat → Nat} {d C : Nat} {s : cS} {G : gm_H} {sz sl : Nat} {R : gm_R} {y1 : Int64} {u4 : Int32} (hN : N0 ≤ C) (c1 : ¬ u4 < 0) (c2 : (((((y1).toUInt64 >>> ((u4).toInt64.toUInt64 &&& Int64.toUInt64 63)).toInt64).toInt32) &&& (255 : Int32)) = 0) (k : gm_ev N0 K ra_nm (ra_mt K) d (some .boolean) (gm_I cX11_write) (gm_lkf (lkX11 false K)) 80 [some (.ref C), some (.long y1), none, none, some (.int (u4 + (-8 : Int32))), none] [] (bM C (cH C s) G) sz sl R) : gm_ev N0 K ra_nm (ra_mt K) d (some .boolean) (gm_I cX11_write) (gm_lkf (lkX11 false K)) 80 [some (.ref C), some (.long y1), none, none, some (.int u4), none] [] (bM C (cH C s) G) sz sl R := by
  refine gm_ev.iload i103_80 rfl ?_
  refine gm_ev.if_lt_f i103_82 c1 ?_
  refine gm_ev.lload_n i103_85 rfl ?_
  refine gm_ev.iload i103_86 rfl ?_
  refine gm_ev.lushr i103_88 ?_
  refine gm_ev.l2i i103_89 ?_
  refine gm_ev.sipush (v := 255) i103_90 (by decide) ?_
  refine gm_ev.iand i103_93 ?_
  refine gm_ev.istore (ls' := [some (.ref C), some (.long y1), none, none, some (.int u4), some (.int (((((y1).toUInt64 >>> ((u4).toInt64.toUInt64 &&& Int64.toUInt64 63)).toInt64).toInt32) &&& (255 : Int32)))]) i103_94 (Nat.le_of_ble_eq_true rfl) rfl ?_
  refine gm_ev.iload i103_96 rfl ?_
  refine gm_ev.if_eq_t (tgt := 123) i103_98 (by decide) c2 ?_
  refine gm_ev.iinc (v := u4 + (-8 : Int32)) (ls' := [some (.ref C), some (.long y1), none, none, some (.int (u4 + (-8 : Int32))), some (.int (((((y1).toUInt64 >>> ((u4).toInt64.toUInt64 &&& Int64.toUInt64 63)).toInt64).toInt32) &&& (255 : Int32)))]) i103_123 rfl (by rfl) rfl ?_
  refine gm_ev.goto (tgt := 80) i103_126 (by decide) ?_
  refine gm_ev.le (a := [some (.ref C), some (.long y1), none, none, some (.int (u4 + (-8 : Int32))), none]) (gm_leL.le (show gm_leL _ _ from ⟨rfl, ⟨rfl, ⟨rfl, trivial⟩⟩⟩)) ?_
  exact k
theorem t_X11_write_80_ff_at80 {N0 : Nat} {K : Nat → Nat} {d C : Nat} {s : cS} {G : gm_H} {sz sl : Nat} {R : gm_R} {y1 : Int64} {u4 : Int32} {k3 : Nat} (hN : N0 ≤ C) (c1 : ¬ u4 < 0) (c2 : ¬ (((((y1).toUInt64 >>> ((u4).toInt64.toUInt64 &&& Int64.toUInt64 63)).toInt64).toInt32) &&& (255 : Int32)) = 0) (ek3 : (s.1 1) = nI k3) (lk3 : k3 < 241) (k : gm_ev N0 K ra_nm (ra_mt K) d (some .boolean) (gm_I cX11_write) (gm_lkf (lkX11 false K)) 80 [some (.ref C), some (.long y1), none, none, some (.int (u4 + (-8 : Int32))), none] [] (bM C (cH C (cI (cA s 1 (upd (s.2.1 1) k3 (vp_nar .char (((((((y1).toUInt64 >>> ((u4).toInt64.toUInt64 &&& Int64.toUInt64 63)).toInt64).toInt32) &&& (255 : Int32)).toUInt32 % 65536).toInt32)))) 1 ((s.1 1) + (1 : Int32)))) G) sz sl R) : gm_ev N0 K ra_nm (ra_mt K) d (some .boolean) (gm_I cX11_write) (gm_lkf (lkX11 false K)) 80 [some (.ref C), some (.long y1), none, none, some (.int u4), none] [] (bM C (cH C s) G) sz sl R := by
  refine gm_ev.iload i103_80 rfl ?_
  refine gm_ev.if_lt_f i103_82 c1 ?_
  refine gm_ev.lload_n i103_85 rfl ?_
  refine gm_ev.iload i103_86 rfl ?_
  refine gm_ev.lushr i103_88 ?_
  refine gm_ev.l2i i103_89 ?_
  refine gm_ev.sipush (v := 255) i103_90 (by decide) ?_
  refine gm_ev.iand i103_93 ?_
  refine gm_ev.istore (ls' := [some (.ref C), some (.long y1), none, none, some (.int u4), some (.int (((((y1).toUInt64 >>> ((u4).toInt64.toUInt64 &&& Int64.toUInt64 63)).toInt64).toInt32) &&& (255 : Int32)))]) i103_94 (Nat.le_of_ble_eq_true rfl) rfl ?_
  refine gm_ev.iload i103_96 rfl ?_
  refine gm_ev.if_eq_f i103_98 c2 ?_
  refine gm_ev.aload_n i103_101 rfl ?_
  refine gm_ev.getfield (v := .ref (C + 1)) i103_102 rfl (bM_fld (j := 0) (fs := cF0 C s) rfl rfl) ?_
  refine gm_ev.aload_n i103_105 rfl ?_
  refine gm_ev.getfield (v := .int (s.1 1)) i103_106 rfl (bM_fld (j := 0) (fs := cF0 C s) rfl rfl) ?_
  refine gm_ev.iload i103_109 rfl ?_
  refine gm_ev.i2c i103_111 ?_
  refine gm_ev.castore (M' := (bM C (cH C (cA s 1 (upd (s.2.1 1) k3 (vp_nar .char (((((((y1).toUInt64 >>> ((u4).toInt64.toUInt64 &&& Int64.toUInt64 63)).toInt64).toInt32) &&& (255 : Int32)).toUInt32 % 65536).toInt32))))) G)) i103_112 (bM_astn (j := 1) (n := 241) (f := s.2.1 1) rfl ek3 lk3 (by decide) hN rfl) ?_
  refine gm_ev.aload_n i103_113 rfl ?_
  refine gm_ev.dup i103_114 rfl ?_
  refine gm_ev.getfield (v := .int (s.1 1)) i103_115 rfl (bM_fld (j := 0) (fs := cF0 C (cA s 1 (upd (s.2.1 1) k3 (vp_nar .char (((((((y1).toUInt64 >>> ((u4).toInt64.toUInt64 &&& Int64.toUInt64 63)).toInt64).toInt32) &&& (255 : Int32)).toUInt32 % 65536).toInt32))))) rfl rfl) ?_
  refine gm_ev.iconst (v := 1) i103_118 (by decide) ?_
  refine gm_ev.iadd i103_119 ?_
  refine gm_ev.putfield (M' := (bM C (cH C (cI (cA s 1 (upd (s.2.1 1) k3 (vp_nar .char (((((((y1).toUInt64 >>> ((u4).toInt64.toUInt64 &&& Int64.toUInt64 63)).toInt64).toInt32) &&& (255 : Int32)).toUInt32 % 65536).toInt32)))) 1 ((s.1 1) + (1 : Int32)))) G)) i103_120 rfl (bM_put (j := 0) (fs := cF0 C (cA s 1 (upd (s.2.1 1) k3 (vp_nar .char (((((((y1).toUInt64 >>> ((u4).toInt64.toUInt64 &&& Int64.toUInt64 63)).toInt64).toInt32) &&& (255 : Int32)).toUInt32 % 65536).toInt32))))) rfl (Nat.le_of_ble_eq_true rfl) hN (gm_fit_i _) rfl) ?_
  refine gm_ev.iinc (v := u4 + (-8 : Int32)) (ls' := [some (.ref C), some (.long y1), none, none, some (.int (u4 + (-8 : Int32))), some (.int (((((y1).toUInt64 >>> ((u4).toInt64.toUInt64 &&& Int64.toUInt64 63)).toInt64).toInt32) &&& (255 : Int32)))]) i103_123 rfl (by rfl) rfl ?_
  refine gm_ev.goto (tgt := 80) i103_126 (by decide) ?_
  refine gm_ev.le (a := [some (.ref C), some (.long y1), none, none, some (.int (u4 + (-8 : Int32))), none]) (gm_leL.le (show gm_leL _ _ from ⟨rfl, ⟨rfl, ⟨rfl, trivial⟩⟩⟩)) ?_
  exact k
theorem t_X11_wipe_0_ {N0 : Nat} {K : Nat → Nat} {d C : Nat} {s : cS} {G : gm_H} {sz sl : Nat}  (hN : N0 ≤ C)  : gm_ev N0 K ra_nm (ra_mt K) d none (gm_I cX11_wipe) (gm_lkf (lkX11 false K)) 0 [some (.ref C)] [] (bM C (cH C s) G) sz sl (.returned none, (bM C (cH C (cI s 1 (0 : Int32))) G), sz, sl) := by
  refine gm_ev.aload_n i104_0 rfl ?_
  refine gm_ev.iconst (v := 0) i104_1 (by decide) ?_
  refine gm_ev.putfield (M' := (bM C (cH C (cI s 1 (0 : Int32))) G)) i104_2 rfl (bM_put (j := 0) (fs := cF0 C s) rfl (Nat.le_of_ble_eq_true rfl) hN (gm_fit_i _) rfl) ?_
  exact gm_ev.vret i104_5 rfl
theorem t_X11_load_0_n {N0 : Nat} {K : Nat → Nat} {d C : Nat} {s : cS} {G : gm_H} {sz sl : Nat} {s2 : cS} {G3 : gm_H} {sz4 : Nat} {dd5 : Nat} {r6 : Int32} (hN : N0 ≤ C) (t1 : gm_to N0 K ra_nm (ra_mt K) d 62 [.ref (C + 2), .ref (C + 1), .int (s.1 1)] (bM C (cH C (cI (cI (cI s 1 (0 : Int32)) 2 (0 : Int32)) 3 (0 : Int32))) G) sz (.returned (some .null), (bM C (cH C s2) G3), sz4, dd5)) (t7 : gm_to N0 K ra_nm (ra_mt K) d 61 [.ref (C + 2)] (bM C (cH C (cI s2 2 (1 : Int32))) G3) sz4 (.returned (some (.int r6)), (bM C (cH C (cI s2 2 (1 : Int32))) G3), sz4, 0)) : gm_ev N0 K ra_nm (ra_mt K) d (some .int) (gm_I cX11_load) (gm_lkf (lkX11 false K)) 0 [some (.ref C), none, none, none, none] [] (bM C (cH C s) G) sz sl (.threw 0, (bM C (cH C (cI (cI s2 2 (1 : Int32)) 3 r6)) G3), sz4 + 1, (sl + dd5) + 6) := by
  refine gm_ev.aload_n i105_0 rfl ?_
  refine gm_ev.getfield (v := .int (s.1 1)) i105_1 rfl (bM_fld (j := 0) (fs := cF0 C s) rfl rfl) ?_
  refine gm_ev.istore_n (ls' := [some (.ref C), some (.int (s.1 1)), none, none, none]) i105_4 (Nat.le_of_ble_eq_true rfl) rfl ?_
  refine gm_ev.aload_n i105_5 rfl ?_
  refine gm_ev.iconst (v := 0) i105_6 (by decide) ?_
  refine gm_ev.putfield (M' := (bM C (cH C (cI s 1 (0 : Int32))) G)) i105_7 rfl (bM_put (j := 0) (fs := cF0 C s) rfl (Nat.le_of_ble_eq_true rfl) hN (gm_fit_i _) rfl) ?_
  refine gm_ev.aload_n i105_10 rfl ?_
  refine gm_ev.iconst (v := 0) i105_11 (by decide) ?_
  refine gm_ev.putfield (M' := (bM C (cH C (cI (cI s 1 (0 : Int32)) 2 (0 : Int32))) G)) i105_12 rfl (bM_put (j := 0) (fs := cF0 C (cI s 1 (0 : Int32))) rfl (Nat.le_of_ble_eq_true rfl) hN (gm_fit_i _) rfl) ?_
  refine gm_ev.aload_n i105_15 rfl ?_
  refine gm_ev.iconst (v := 0) i105_16 (by decide) ?_
  refine gm_ev.putfield (M' := (bM C (cH C (cI (cI (cI s 1 (0 : Int32)) 2 (0 : Int32)) 3 (0 : Int32))) G)) i105_17 rfl (bM_put (j := 0) (fs := cF0 C (cI (cI s 1 (0 : Int32)) 2 (0 : Int32))) rfl (Nat.le_of_ble_eq_true rfl) hN (gm_fit_i _) rfl) ?_
  refine gm_ev.aload_n i105_20 rfl ?_
  refine gm_ev.getfield (v := .ref (C + 2)) i105_21 rfl (bM_fld (j := 0) (fs := cF0 C (cI (cI (cI s 1 (0 : Int32)) 2 (0 : Int32)) 3 (0 : Int32))) rfl rfl) ?_
  refine gm_ev.aload_n i105_24 rfl ?_
  refine gm_ev.getfield (v := .ref (C + 1)) i105_25 rfl (bM_fld (j := 0) (fs := cF0 C (cI (cI (cI s 1 (0 : Int32)) 2 (0 : Int32)) 3 (0 : Int32))) rfl rfl) ?_
  refine gm_ev.iload_n i105_28 rfl ?_
  refine gm_ev.callV gm_mono_run (av := [.ref (C + 1), .int (s.1 1)]) (r := []) (ci := 6) (fs := cF2 C (cI (cI (cI s 1 (0 : Int32)) 2 (0 : Int32)) 3 (0 : Int32))) (bM_get (j := 2) rfl) i105_29 rfl rfl rfl (Nat.le_of_ble_eq_true rfl) t1 ?_
  refine gm_ev.astoreN_n (ls' := [some (.ref C), some (.int (s.1 1)), some (.null), none, none]) i105_32 (Nat.le_of_ble_eq_true rfl) rfl ?_
  refine gm_ev.aloadN_n i105_33 rfl ?_
  refine gm_ev.ifnonnull_f i105_34 ?_
  refine gm_ev.aload_n i105_37 rfl ?_
  refine gm_ev.iconst (v := 1) i105_38 (by decide) ?_
  refine gm_ev.putfield (M' := (bM C (cH C (cI s2 2 (1 : Int32))) G3)) i105_39 rfl (bM_put (j := 0) (fs := cF0 C s2) rfl (Nat.le_of_ble_eq_true rfl) hN (gm_fit_i _) rfl) ?_
  refine gm_ev.aload_n i105_42 rfl ?_
  refine gm_ev.aload_n i105_43 rfl ?_
  refine gm_ev.getfield (v := .ref (C + 2)) i105_44 rfl (bM_fld (j := 0) (fs := cF0 C (cI s2 2 (1 : Int32))) rfl rfl) ?_
  refine gm_ev.callV gm_mono_run (av := []) (r := [.ref C]) (ci := 6) (fs := cF2 C (cI s2 2 (1 : Int32))) (bM_get (j := 2) rfl) i105_47 rfl rfl rfl (Nat.le_of_ble_eq_true rfl) t7 ?_
  refine gm_ev.putfield (M' := (bM C (cH C (cI (cI s2 2 (1 : Int32)) 3 r6)) G3)) i105_50 rfl (bM_put (j := 0) (fs := cF0 C (cI s2 2 (1 : Int32))) rfl (Nat.le_of_ble_eq_true rfl) hN (gm_fit_i _) rfl) ?_
  exact gm_ev.throw i105_53 rfl (by decide +kernel)
theorem t_X11_load_0_r_at67 {N0 : Nat} {K : Nat → Nat} {d C : Nat} {s : cS} {G : gm_H} {sz sl : Nat} {R : gm_R} {r1 : Nat} {s3 : cS} {G4 : gm_H} {sz5 : Nat} {dd6 : Nat} {fso7 : List Value} {G9 : gm_H} (hN : N0 ≤ C) (t2 : gm_to N0 K ra_nm (ra_mt K) d 62 [.ref (C + 2), .ref (C + 1), .int (s.1 1)] (bM C (cH C (cI (cI (cI s 1 (0 : Int32)) 2 (0 : Int32)) 3 (0 : Int32))) G) sz (.returned (some (.ref r1)), (bM C (cH C s3) G4), sz5, dd6)) (ho7 : G4 r1 = some (.inr (8, fso7))) (hg_r1 : C + 34 ≤ r1) (t8 : gm_to N0 K ra_nm (ra_mt K) d 82 [.ref r1] (bM C (cH C s3) G4) sz5 (.returned none, (bM C (cH C s3) G9), sz5, 0)) (k : gm_ev N0 K ra_nm (ra_mt K) d (some .int) (gm_I cX11_load) (gm_lkf (lkX11 false K)) 67 [some (.ref C), none, some (.ref r1), some (.int (2 : Int32)), none] [] (bM C (cH C s3) G9) sz5 (sl + dd6) R) : gm_ev N0 K ra_nm (ra_mt K) d (some .int) (gm_I cX11_load) (gm_lkf (lkX11 false K)) 0 [some (.ref C), none, none, none, none] [] (bM C (cH C s) G) sz sl R := by
  refine gm_ev.aload_n i105_0 rfl ?_
  refine gm_ev.getfield (v := .int (s.1 1)) i105_1 rfl (bM_fld (j := 0) (fs := cF0 C s) rfl rfl) ?_
  refine gm_ev.istore_n (ls' := [some (.ref C), some (.int (s.1 1)), none, none, none]) i105_4 (Nat.le_of_ble_eq_true rfl) rfl ?_
  refine gm_ev.aload_n i105_5 rfl ?_
  refine gm_ev.iconst (v := 0) i105_6 (by decide) ?_
  refine gm_ev.putfield (M' := (bM C (cH C (cI s 1 (0 : Int32))) G)) i105_7 rfl (bM_put (j := 0) (fs := cF0 C s) rfl (Nat.le_of_ble_eq_true rfl) hN (gm_fit_i _) rfl) ?_
  refine gm_ev.aload_n i105_10 rfl ?_
  refine gm_ev.iconst (v := 0) i105_11 (by decide) ?_
  refine gm_ev.putfield (M' := (bM C (cH C (cI (cI s 1 (0 : Int32)) 2 (0 : Int32))) G)) i105_12 rfl (bM_put (j := 0) (fs := cF0 C (cI s 1 (0 : Int32))) rfl (Nat.le_of_ble_eq_true rfl) hN (gm_fit_i _) rfl) ?_
  refine gm_ev.aload_n i105_15 rfl ?_
  refine gm_ev.iconst (v := 0) i105_16 (by decide) ?_
  refine gm_ev.putfield (M' := (bM C (cH C (cI (cI (cI s 1 (0 : Int32)) 2 (0 : Int32)) 3 (0 : Int32))) G)) i105_17 rfl (bM_put (j := 0) (fs := cF0 C (cI (cI s 1 (0 : Int32)) 2 (0 : Int32))) rfl (Nat.le_of_ble_eq_true rfl) hN (gm_fit_i _) rfl) ?_
  refine gm_ev.aload_n i105_20 rfl ?_
  refine gm_ev.getfield (v := .ref (C + 2)) i105_21 rfl (bM_fld (j := 0) (fs := cF0 C (cI (cI (cI s 1 (0 : Int32)) 2 (0 : Int32)) 3 (0 : Int32))) rfl rfl) ?_
  refine gm_ev.aload_n i105_24 rfl ?_
  refine gm_ev.getfield (v := .ref (C + 1)) i105_25 rfl (bM_fld (j := 0) (fs := cF0 C (cI (cI (cI s 1 (0 : Int32)) 2 (0 : Int32)) 3 (0 : Int32))) rfl rfl) ?_
  refine gm_ev.iload_n i105_28 rfl ?_
  refine gm_ev.callV gm_mono_run (av := [.ref (C + 1), .int (s.1 1)]) (r := []) (ci := 6) (fs := cF2 C (cI (cI (cI s 1 (0 : Int32)) 2 (0 : Int32)) 3 (0 : Int32))) (bM_get (j := 2) rfl) i105_29 rfl rfl rfl (Nat.le_of_ble_eq_true rfl) t2 ?_
  refine gm_ev.astore_n (ls' := [some (.ref C), some (.int (s.1 1)), some (.ref r1), none, none]) i105_32 (Nat.le_of_ble_eq_true rfl) rfl ?_
  refine gm_ev.aload_n i105_33 rfl ?_
  refine gm_ev.ifnonnull_t (tgt := 61) i105_34 (by decide) ?_
  refine gm_ev.aload_n i105_61 rfl ?_
  refine gm_ev.callV gm_mono_run (av := []) (r := []) (fs := fso7) (cG_get hg_r1 ho7) i105_62 rfl rfl rfl (Nat.le_of_ble_eq_true rfl) t8 ?_
  refine gm_ev.iconst (v := 2) i105_65 (by decide) ?_
  refine gm_ev.istore_n (ls' := [some (.ref C), some (.int (s.1 1)), some (.ref r1), some (.int (2 : Int32)), none]) i105_66 (Nat.le_of_ble_eq_true rfl) rfl ?_
  refine gm_ev.le (a := [some (.ref C), none, some (.ref r1), some (.int (2 : Int32)), none]) (gm_leL.le (show gm_leL _ _ from ⟨rfl, ⟨rfl, ⟨rfl, trivial⟩⟩⟩)) ?_
  exact k
theorem t_X11_load_67_tt {N0 : Nat} {K : Nat → Nat} {d C : Nat} {s : cS} {G : gm_H} {sz sl : Nat} {a2 : Nat} {u3 : Int32} {G6 : gm_H} {sz7 : Nat} {dd8 : Nat} {r9 : Int32} {s11 : cS} {s14 : cS} {fso15 : List Value} {x16 : Int32} (hN : N0 ≤ C) (c1 : (5 : Int32) < u3) (hg_sz : C + 34 ≤ sz) (bd2 : gm_bd G sz) (t5 : gm_to N0 K ra_nm (ra_mt K) d 49 [.ref sz, .ref a2] (bM C (cH C s) (gm_new G sz (.inr (4, [.null, .null, .null, .int 0])))) (sz + 1) (.returned none, (bM C (cH C s) G6), sz7, dd8)) (t10 : gm_to N0 K ra_nm (ra_mt K) d 40 [.ref (C + 4), .ref sz] (bM C (cH C s) G6) sz7 (.returned (some (.int r9)), (bM C (cH C s11) G6), sz7, 0)) (c12 : ¬ r9 = 0) (t13 : gm_to N0 K ra_nm (ra_mt K) d 11 [.ref (C + 29)] (bM C (cH C s11) G6) sz7 (.returned none, (bM C (cH C s14) G6), sz7, 0)) (ho15 : G6 a2 = some (.inr (8, fso15))) (f17 : fso15[1]? = some (.int x16)) (hg_a2 : C + 34 ≤ a2) : gm_ev N0 K ra_nm (ra_mt K) d (some .int) (gm_I cX11_load) (gm_lkf (lkX11 false K)) 67 [some (.ref C), none, some (.ref a2), some (.int u3), none] [] (bM C (cH C s) G) sz sl (.returned (some (.int x16)), (bM C (cH C s14) G6), sz7, ((sl + 4) + dd8)) := by
  refine gm_ev.iload_n i105_67 rfl ?_
  refine gm_ev.iconst (v := 5) i105_68 (by decide) ?_
  refine gm_ev.icmp_gt_t (tgt := 110) i105_69 (by decide) c1 ?_
  refine gm_ev.aload_n i105_110 rfl ?_
  refine gm_ev.getfield (v := .ref (C + 4)) i105_111 rfl (bM_fld (j := 0) (fs := cF0 C s) rfl rfl) ?_
  refine gm_ev.new i105_114 rfl ?_
  rw [cG_new hg_sz]
  have w3 : (gm_new G sz (.inr (4, [.null, .null, .null, .int 0]))) sz = some (.inr (4, [.null, .null, .null, .int 0])) := gm_set_eq
  have bd4 : gm_bd (gm_new G sz (.inr (4, [.null, .null, .null, .int 0]))) (sz + 1) := gm_bd.new bd2
  refine gm_ev.dup i105_117 rfl ?_
  refine gm_ev.aload_n i105_118 rfl ?_
  refine gm_ev.callI gm_mono_run (av := [.ref a2]) (r := [.ref sz, .ref (C + 4)]) i105_119 rfl rfl rfl (Nat.le_of_ble_eq_true rfl) t5 ?_
  refine gm_ev.callV gm_mono_run (av := [.ref sz]) (r := []) (ci := 3) (fs := cF4 C s) (bM_get (j := 4) rfl) i105_122 rfl rfl rfl (Nat.le_of_ble_eq_true rfl) t10 ?_
  refine gm_ev.if_ne_t (tgt := 136) i105_125 (by decide) c12 ?_
  refine gm_ev.aload_n i105_136 rfl ?_
  refine gm_ev.getfield (v := .ref (C + 29)) i105_137 rfl (bM_fld (j := 0) (fs := cF0 C s11) rfl rfl) ?_
  refine gm_ev.callV gm_mono_run (av := []) (r := []) (ci := 0) (fs := cF29 C s11) (bM_get (j := 29) rfl) i105_140 rfl rfl rfl (Nat.le_of_ble_eq_true rfl) t13 ?_
  refine gm_ev.aload_n i105_143 rfl ?_
  refine gm_ev.getfield (v := .int x16) i105_144 rfl (gm_fld_of (cG_get hg_a2 ho15) f17) ?_
  exact gm_ev.iret i105_147 rfl
theorem t_X11_load_67_tf {N0 : Nat} {K : Nat → Nat} {d C : Nat} {s : cS} {G : gm_H} {sz sl : Nat} {a2 : Nat} {u3 : Int32} {G6 : gm_H} {sz7 : Nat} {dd8 : Nat} {r9 : Int32} {s11 : cS} (hN : N0 ≤ C) (c1 : (5 : Int32) < u3) (hg_sz : C + 34 ≤ sz) (bd2 : gm_bd G sz) (t5 : gm_to N0 K ra_nm (ra_mt K) d 49 [.ref sz, .ref a2] (bM C (cH C s) (gm_new G sz (.inr (4, [.null, .null, .null, .int 0])))) (sz + 1) (.returned none, (bM C (cH C s) G6), sz7, dd8)) (t10 : gm_to N0 K ra_nm (ra_mt K) d 40 [.ref (C + 4), .ref sz] (bM C (cH C s) G6) sz7 (.returned (some (.int r9)), (bM C (cH C s11) G6), sz7, 0)) (c12 : r9 = 0) : gm_ev N0 K ra_nm (ra_mt K) d (some .int) (gm_I cX11_load) (gm_lkf (lkX11 false K)) 67 [some (.ref C), none, some (.ref a2), some (.int u3), none] [] (bM C (cH C s) G) sz sl (.threw 2, (bM C (cH C s11) G6), sz7 + 1, ((sl + 4) + dd8) + 6) := by
  refine gm_ev.iload_n i105_67 rfl ?_
  refine gm_ev.iconst (v := 5) i105_68 (by decide) ?_
  refine gm_ev.icmp_gt_t (tgt := 110) i105_69 (by decide) c1 ?_
  refine gm_ev.aload_n i105_110 rfl ?_
  refine gm_ev.getfield (v := .ref (C + 4)) i105_111 rfl (bM_fld (j := 0) (fs := cF0 C s) rfl rfl) ?_
  refine gm_ev.new i105_114 rfl ?_
  rw [cG_new hg_sz]
  have w3 : (gm_new G sz (.inr (4, [.null, .null, .null, .int 0]))) sz = some (.inr (4, [.null, .null, .null, .int 0])) := gm_set_eq
  have bd4 : gm_bd (gm_new G sz (.inr (4, [.null, .null, .null, .int 0]))) (sz + 1) := gm_bd.new bd2
  refine gm_ev.dup i105_117 rfl ?_
  refine gm_ev.aload_n i105_118 rfl ?_
  refine gm_ev.callI gm_mono_run (av := [.ref a2]) (r := [.ref sz, .ref (C + 4)]) i105_119 rfl rfl rfl (Nat.le_of_ble_eq_true rfl) t5 ?_
  refine gm_ev.callV gm_mono_run (av := [.ref sz]) (r := []) (ci := 3) (fs := cF4 C s) (bM_get (j := 4) rfl) i105_122 rfl rfl rfl (Nat.le_of_ble_eq_true rfl) t10 ?_
  refine gm_ev.if_ne_f i105_125 c12 ?_
  exact gm_ev.throw i105_128 rfl (by decide +kernel)
theorem t_X11_load_67_ft_at67 {N0 : Nat} {K : Nat → Nat} {d C : Nat} {s : cS} {G : gm_H} {sz sl : Nat} {R : gm_R} {a2 : Nat} {u3 : Int32} {fso2 : List Value} {r3 : Int32} (hN : N0 ≤ C) (c1 : ¬ (5 : Int32) < u3) (ho2 : G a2 = some (.inr (8, fso2))) (hg_a2 : C + 34 ≤ a2) (t4 : gm_to N0 K ra_nm (ra_mt K) d 84 [.ref a2, .int u3] (bM C (cH C s) G) sz (.returned (some (.int r3)), (bM C (cH C s) G), sz, 0)) (c5 : r3 = (-1 : Int32)) (k : gm_ev N0 K ra_nm (ra_mt K) d (some .int) (gm_I cX11_load) (gm_lkf (lkX11 false K)) 67 [some (.ref C), none, some (.ref a2), some (.int (u3 + (1 : Int32))), none] [] (bM C (cH C s) G) sz sl R) : gm_ev N0 K ra_nm (ra_mt K) d (some .int) (gm_I cX11_load) (gm_lkf (lkX11 false K)) 67 [some (.ref C), none, some (.ref a2), some (.int u3), none] [] (bM C (cH C s) G) sz sl R := by
  refine gm_ev.iload_n i105_67 rfl ?_
  refine gm_ev.iconst (v := 5) i105_68 (by decide) ?_
  refine gm_ev.icmp_gt_f i105_69 c1 ?_
  refine gm_ev.aload_n i105_72 rfl ?_
  refine gm_ev.iload_n i105_73 rfl ?_
  refine gm_ev.callV gm_mono_run (av := [.int u3]) (r := []) (fs := fso2) (cG_get hg_a2 ho2) i105_74 rfl rfl rfl (Nat.le_of_ble_eq_true rfl) t4 ?_
  refine gm_ev.istore (ls' := [some (.ref C), none, some (.ref a2), some (.int u3), some (.int r3)]) i105_77 (Nat.le_of_ble_eq_true rfl) rfl ?_
  refine gm_ev.iload i105_79 rfl ?_
  refine gm_ev.iconst (v := -1) i105_81 (by decide) ?_
  refine gm_ev.icmp_eq_t (tgt := 104) i105_82 (by decide) c5 ?_
  refine gm_ev.iinc (v := u3 + (1 : Int32)) (ls' := [some (.ref C), none, some (.ref a2), some (.int (u3 + (1 : Int32))), some (.int r3)]) i105_104 rfl (by rfl) rfl ?_
  refine gm_ev.goto (tgt := 67) i105_107 (by decide) ?_
  refine gm_ev.le (a := [some (.ref C), none, some (.ref a2), some (.int (u3 + (1 : Int32))), none]) (gm_leL.le (show gm_leL _ _ from ⟨rfl, ⟨rfl, ⟨rfl, trivial⟩⟩⟩)) ?_
  exact k
theorem t_X11_load_67_ff {N0 : Nat} {K : Nat → Nat} {d C : Nat} {s : cS} {G : gm_H} {sz sl : Nat} {a2 : Nat} {u3 : Int32} {fso2 : List Value} {r3 : Int32} (hN : N0 ≤ C) (c1 : ¬ (5 : Int32) < u3) (ho2 : G a2 = some (.inr (8, fso2))) (hg_a2 : C + 34 ≤ a2) (t4 : gm_to N0 K ra_nm (ra_mt K) d 84 [.ref a2, .int u3] (bM C (cH C s) G) sz (.returned (some (.int r3)), (bM C (cH C s) G), sz, 0)) (c5 : ¬ r3 = (-1 : Int32)) : gm_ev N0 K ra_nm (ra_mt K) d (some .int) (gm_I cX11_load) (gm_lkf (lkX11 false K)) 67 [some (.ref C), none, some (.ref a2), some (.int u3), none] [] (bM C (cH C s) G) sz sl (.threw 1, (bM C (cH C (cI (cI s 2 u3) 3 r3)) G), sz + 1, sl + 6) := by
  refine gm_ev.iload_n i105_67 rfl ?_
  refine gm_ev.iconst (v := 5) i105_68 (by decide) ?_
  refine gm_ev.icmp_gt_f i105_69 c1 ?_
  refine gm_ev.aload_n i105_72 rfl ?_
  refine gm_ev.iload_n i105_73 rfl ?_
  refine gm_ev.callV gm_mono_run (av := [.int u3]) (r := []) (fs := fso2) (cG_get hg_a2 ho2) i105_74 rfl rfl rfl (Nat.le_of_ble_eq_true rfl) t4 ?_
  refine gm_ev.istore (ls' := [some (.ref C), none, some (.ref a2), some (.int u3), some (.int r3)]) i105_77 (Nat.le_of_ble_eq_true rfl) rfl ?_
  refine gm_ev.iload i105_79 rfl ?_
  refine gm_ev.iconst (v := -1) i105_81 (by decide) ?_
  refine gm_ev.icmp_eq_f i105_82 c5 ?_
  refine gm_ev.aload_n i105_85 rfl ?_
  refine gm_ev.iload_n i105_86 rfl ?_
  refine gm_ev.putfield (M' := (bM C (cH C (cI s 2 u3)) G)) i105_87 rfl (bM_put (j := 0) (fs := cF0 C s) rfl (Nat.le_of_ble_eq_true rfl) hN (gm_fit_i _) rfl) ?_
  refine gm_ev.aload_n i105_90 rfl ?_
  refine gm_ev.iload i105_91 rfl ?_
  refine gm_ev.putfield (M' := (bM C (cH C (cI (cI s 2 u3) 3 r3)) G)) i105_93 rfl (bM_put (j := 0) (fs := cF0 C (cI s 2 u3)) rfl (Nat.le_of_ble_eq_true rfl) hN (gm_fit_i _) rfl) ?_
  exact gm_ev.throw i105_96 rfl (by decide +kernel)
theorem t_X11_fault_0_s0 {N0 : Nat} {K : Nat → Nat} {d C : Nat} {s : cS} {G : gm_H} {sz sl : Nat} {p0 : Int32} (hN : N0 ≤ C) (c1 : Op.lookupswitch.offset [(0, 27), (1, 32)] 37 p0.toInt = 27) : gm_ev N0 K ra_nm (ra_mt K) d (some .int) (gm_I cX11_fault) (gm_lkf (lkX11 false K)) 0 [some (.ref C), some (.int p0)] [] (bM C (cH C s) G) sz sl (.returned (some (.int (s.1 2))), (bM C (cH C s) G), sz, sl) := by
  refine gm_ev.iload_n i106_0 rfl ?_
  refine gm_ev.lookup (tgt := 28) i106_1 (by decide) c1 (by decide) ?_
  refine gm_ev.aload_n i106_28 rfl ?_
  refine gm_ev.getfield (v := .int (s.1 2)) i106_29 rfl (bM_fld (j := 0) (fs := cF0 C s) rfl rfl) ?_
  exact gm_ev.iret i106_32 rfl
theorem t_X11_fault_0_s1 {N0 : Nat} {K : Nat → Nat} {d C : Nat} {s : cS} {G : gm_H} {sz sl : Nat} {p0 : Int32} (hN : N0 ≤ C) (c1 : Op.lookupswitch.offset [(0, 27), (1, 32)] 37 p0.toInt = 32) : gm_ev N0 K ra_nm (ra_mt K) d (some .int) (gm_I cX11_fault) (gm_lkf (lkX11 false K)) 0 [some (.ref C), some (.int p0)] [] (bM C (cH C s) G) sz sl (.returned (some (.int (s.1 3))), (bM C (cH C s) G), sz, sl) := by
  refine gm_ev.iload_n i106_0 rfl ?_
  refine gm_ev.lookup (tgt := 33) i106_1 (by decide) c1 (by decide) ?_
  refine gm_ev.aload_n i106_33 rfl ?_
  refine gm_ev.getfield (v := .int (s.1 3)) i106_34 rfl (bM_fld (j := 0) (fs := cF0 C s) rfl rfl) ?_
  exact gm_ev.iret i106_37 rfl
theorem t_X11_fault_0_sNone {N0 : Nat} {K : Nat → Nat} {d C : Nat} {s : cS} {G : gm_H} {sz sl : Nat} {p0 : Int32} (hN : N0 ≤ C) (c1 : Op.lookupswitch.offset [(0, 27), (1, 32)] 37 p0.toInt = 37) : gm_ev N0 K ra_nm (ra_mt K) d (some .int) (gm_I cX11_fault) (gm_lkf (lkX11 false K)) 0 [some (.ref C), some (.int p0)] [] (bM C (cH C s) G) sz sl (.returned (some (.int (-1 : Int32))), (bM C (cH C s) G), sz, sl) := by
  refine gm_ev.iload_n i106_0 rfl ?_
  refine gm_ev.lookup (tgt := 38) i106_1 (by decide) c1 (by decide) ?_
  refine gm_ev.iconst (v := -1) i106_38 (by decide) ?_
  exact gm_ev.iret i106_39 rfl
theorem t_X11_many_0_s0 {N0 : Nat} {K : Nat → Nat} {d C : Nat} {s : cS} {G : gm_H} {sz sl : Nat} {p0 : Int32} (hN : N0 ≤ C) (c1 : p0 = 0) : gm_ev N0 K ra_nm (ra_mt K) d (some .int) (gm_I cX11_many) (gm_lkf (lkX11 false K)) 0 [some (.ref C), some (.int p0)] [] (bM C (cH C s) G) sz sl (.returned (some (.int (s.1 341))), (bM C (cH C s) G), sz, sl) := by
  refine gm_ev.iload_n i107_0 rfl ?_
  refine gm_ev.tableIn (tgt := 28) (off := 27) i107_1 (by rw [c1]; decide) (by rw [c1]; decide) (by decide) ?_
  refine gm_ev.aload_n i107_28 rfl ?_
  refine gm_ev.getfield (v := .ref (C + 4)) i107_29 rfl (bM_fld (j := 0) (fs := cF0 C s) rfl rfl) ?_
  refine gm_ev.getfield (v := .ref (C + 17)) i107_32 rfl (bM_fld (j := 4) (fs := cF4 C s) rfl rfl) ?_
  refine gm_ev.getfield (v := .int (s.1 341)) i107_35 rfl (bM_fld (j := 17) (fs := cF17 C s) rfl rfl) ?_
  exact gm_ev.iret i107_38 rfl
theorem t_X11_many_0_s1 {N0 : Nat} {K : Nat → Nat} {d C : Nat} {s : cS} {G : gm_H} {sz sl : Nat} {p0 : Int32} (hN : N0 ≤ C) (c1 : p0 = 1) : gm_ev N0 K ra_nm (ra_mt K) d (some .int) (gm_I cX11_many) (gm_lkf (lkX11 false K)) 0 [some (.ref C), some (.int p0)] [] (bM C (cH C s) G) sz sl (.returned (some (.int (s.1 421))), (bM C (cH C s) G), sz, sl) := by
  refine gm_ev.iload_n i107_0 rfl ?_
  refine gm_ev.tableIn (tgt := 39) (off := 38) i107_1 (by rw [c1]; decide) (by rw [c1]; decide) (by decide) ?_
  refine gm_ev.aload_n i107_39 rfl ?_
  refine gm_ev.getfield (v := .ref (C + 4)) i107_40 rfl (bM_fld (j := 0) (fs := cF0 C s) rfl rfl) ?_
  refine gm_ev.getfield (v := .ref (C + 21)) i107_43 rfl (bM_fld (j := 4) (fs := cF4 C s) rfl rfl) ?_
  refine gm_ev.getfield (v := .int (s.1 421)) i107_46 rfl (bM_fld (j := 21) (fs := cF21 C s) rfl rfl) ?_
  exact gm_ev.iret i107_49 rfl
theorem t_X11_many_0_s2 {N0 : Nat} {K : Nat → Nat} {d C : Nat} {s : cS} {G : gm_H} {sz sl : Nat} {p0 : Int32} (hN : N0 ≤ C) (c1 : p0 = 2) : gm_ev N0 K ra_nm (ra_mt K) d (some .int) (gm_I cX11_many) (gm_lkf (lkX11 false K)) 0 [some (.ref C), some (.int p0)] [] (bM C (cH C s) G) sz sl (.returned (some (.int (s.1 584))), (bM C (cH C s) G), sz, sl) := by
  refine gm_ev.iload_n i107_0 rfl ?_
  refine gm_ev.tableIn (tgt := 50) (off := 49) i107_1 (by rw [c1]; decide) (by rw [c1]; decide) (by decide) ?_
  refine gm_ev.aload_n i107_50 rfl ?_
  refine gm_ev.getfield (v := .ref (C + 29)) i107_51 rfl (bM_fld (j := 0) (fs := cF0 C s) rfl rfl) ?_
  refine gm_ev.getfield (v := .int (s.1 584)) i107_54 rfl (bM_fld (j := 29) (fs := cF29 C s) rfl rfl) ?_
  exact gm_ev.iret i107_57 rfl
theorem t_X11_many_0_sNone {N0 : Nat} {K : Nat → Nat} {d C : Nat} {s : cS} {G : gm_H} {sz sl : Nat} {p0 : Int32} (hN : N0 ≤ C) (c1 : p0.toInt < 0 ∨ 2 < p0.toInt) : gm_ev N0 K ra_nm (ra_mt K) d (some .int) (gm_I cX11_many) (gm_lkf (lkX11 false K)) 0 [some (.ref C), some (.int p0)] [] (bM C (cH C s) G) sz sl (.returned (some (.int (-1 : Int32))), (bM C (cH C s) G), sz, sl) := by
  refine gm_ev.iload_n i107_0 rfl ?_
  refine gm_ev.tableOut (tgt := 58) i107_1 c1 (by decide) ?_
  refine gm_ev.iconst (v := -1) i107_58 (by decide) ?_
  exact gm_ev.iret i107_59 rfl
theorem t_X11_facts_0_t {N0 : Nat} {K : Nat → Nat} {d C : Nat} {s : cS} {G : gm_H} {sz sl : Nat} {p0 : Int32} {p1 : Int32} {r1 : Int32} {r3 : Int32} (hN : N0 ≤ C) (t2 : gm_to N0 K ra_nm (ra_mt K) d 55 [.int p0, .int p1] (bM C (cH C s) G) sz (.returned (some (.int r1)), (bM C (cH C s) G), sz, 0)) (t4 : gm_to N0 K ra_nm (ra_mt K) d 39 [.ref (C + 4)] (bM C (cH C s) G) sz (.returned (some (.int r3)), (bM C (cH C s) G), sz, 0)) (c5 : ¬ r3 = 0) : gm_ev N0 K ra_nm (ra_mt K) d (some .int) (gm_I cX11_facts) (gm_lkf (lkX11 false K)) 0 [some (.ref C), some (.int p0), some (.int p1), none] [] (bM C (cH C s) G) sz sl (.returned (some (.int (0 : Int32))), (bM C (cH C s) G), sz, sl) := by
  refine gm_ev.iload_n i108_0 rfl ?_
  refine gm_ev.iload_n i108_1 rfl ?_
  refine gm_ev.callS gm_mono_run (av := [.int p0, .int p1]) (r := []) i108_2 rfl rfl rfl (Nat.le_of_ble_eq_true rfl) t2 ?_
  refine gm_ev.istore_n (ls' := [some (.ref C), some (.int p0), some (.int p1), some (.int r1)]) i108_5 (Nat.le_of_ble_eq_true rfl) rfl ?_
  refine gm_ev.aload_n i108_6 rfl ?_
  refine gm_ev.getfield (v := .ref (C + 4)) i108_7 rfl (bM_fld (j := 0) (fs := cF0 C s) rfl rfl) ?_
  refine gm_ev.callV gm_mono_run (av := []) (r := []) (ci := 3) (fs := cF4 C s) (bM_get (j := 4) rfl) i108_10 rfl rfl rfl (Nat.le_of_ble_eq_true rfl) t4 ?_
  refine gm_ev.if_ne_t (tgt := 21) i108_13 (by decide) c5 ?_
  refine gm_ev.iconst (v := 0) i108_21 (by decide) ?_
  refine gm_ev.goto (tgt := 40) i108_22 (by decide) ?_
  exact gm_ev.iret i108_40 rfl
theorem t_X11_facts_0_ft {N0 : Nat} {K : Nat → Nat} {d C : Nat} {s : cS} {G : gm_H} {sz sl : Nat} {p0 : Int32} {p1 : Int32} {r1 : Int32} {r3 : Int32} {k7 : Nat} (hN : N0 ≤ C) (t2 : gm_to N0 K ra_nm (ra_mt K) d 55 [.int p0, .int p1] (bM C (cH C s) G) sz (.returned (some (.int r1)), (bM C (cH C s) G), sz, 0)) (t4 : gm_to N0 K ra_nm (ra_mt K) d 39 [.ref (C + 4)] (bM C (cH C s) G) sz (.returned (some (.int r3)), (bM C (cH C s) G), sz, 0)) (c5 : r3 = 0) (c6 : ¬ r1 = (-1 : Int32)) (ek7 : r1 = nI k7) (lk7 : k7 < 112) : gm_ev N0 K ra_nm (ra_mt K) d (some .int) (gm_I cX11_facts) (gm_lkf (lkX11 false K)) 0 [some (.ref C), some (.int p0), some (.int p1), none] [] (bM C (cH C s) G) sz sl (.returned (some (.int (s.2.1 13 k7))), (bM C (cH C s) G), sz, sl) := by
  refine gm_ev.iload_n i108_0 rfl ?_
  refine gm_ev.iload_n i108_1 rfl ?_
  refine gm_ev.callS gm_mono_run (av := [.int p0, .int p1]) (r := []) i108_2 rfl rfl rfl (Nat.le_of_ble_eq_true rfl) t2 ?_
  refine gm_ev.istore_n (ls' := [some (.ref C), some (.int p0), some (.int p1), some (.int r1)]) i108_5 (Nat.le_of_ble_eq_true rfl) rfl ?_
  refine gm_ev.aload_n i108_6 rfl ?_
  refine gm_ev.getfield (v := .ref (C + 4)) i108_7 rfl (bM_fld (j := 0) (fs := cF0 C s) rfl rfl) ?_
  refine gm_ev.callV gm_mono_run (av := []) (r := []) (ci := 3) (fs := cF4 C s) (bM_get (j := 4) rfl) i108_10 rfl rfl rfl (Nat.le_of_ble_eq_true rfl) t4 ?_
  refine gm_ev.if_ne_f i108_13 c5 ?_
  refine gm_ev.iload_n i108_16 rfl ?_
  refine gm_ev.iconst (v := -1) i108_17 (by decide) ?_
  refine gm_ev.icmp_ne_t (tgt := 25) i108_18 (by decide) c6 ?_
  refine gm_ev.aload_n i108_25 rfl ?_
  refine gm_ev.getfield (v := .ref (C + 4)) i108_26 rfl (bM_fld (j := 0) (fs := cF0 C s) rfl rfl) ?_
  refine gm_ev.getfield (v := .ref (C + 5)) i108_29 rfl (bM_fld (j := 4) (fs := cF4 C s) rfl rfl) ?_
  refine gm_ev.getfield (v := .ref (C + 6)) i108_32 rfl (bM_fld (j := 5) (fs := cF5 C s) rfl rfl) ?_
  refine gm_ev.getfield (v := .ref (C + 13)) i108_35 rfl (bM_fld (j := 6) (fs := cF6 C s) rfl rfl) ?_
  refine gm_ev.iload_n i108_38 rfl ?_
  refine gm_ev.iaload i108_39 (bM_ai (j := 13) (n := 112) (f := s.2.1 13) rfl ek7 lk7 (by decide)) ?_
  exact gm_ev.iret i108_40 rfl
theorem t_X11_facts_0_ff {N0 : Nat} {K : Nat → Nat} {d C : Nat} {s : cS} {G : gm_H} {sz sl : Nat} {p0 : Int32} {p1 : Int32} {r1 : Int32} {r3 : Int32} (hN : N0 ≤ C) (t2 : gm_to N0 K ra_nm (ra_mt K) d 55 [.int p0, .int p1] (bM C (cH C s) G) sz (.returned (some (.int r1)), (bM C (cH C s) G), sz, 0)) (t4 : gm_to N0 K ra_nm (ra_mt K) d 39 [.ref (C + 4)] (bM C (cH C s) G) sz (.returned (some (.int r3)), (bM C (cH C s) G), sz, 0)) (c5 : r3 = 0) (c6 : r1 = (-1 : Int32)) : gm_ev N0 K ra_nm (ra_mt K) d (some .int) (gm_I cX11_facts) (gm_lkf (lkX11 false K)) 0 [some (.ref C), some (.int p0), some (.int p1), none] [] (bM C (cH C s) G) sz sl (.returned (some (.int (0 : Int32))), (bM C (cH C s) G), sz, sl) := by
  refine gm_ev.iload_n i108_0 rfl ?_
  refine gm_ev.iload_n i108_1 rfl ?_
  refine gm_ev.callS gm_mono_run (av := [.int p0, .int p1]) (r := []) i108_2 rfl rfl rfl (Nat.le_of_ble_eq_true rfl) t2 ?_
  refine gm_ev.istore_n (ls' := [some (.ref C), some (.int p0), some (.int p1), some (.int r1)]) i108_5 (Nat.le_of_ble_eq_true rfl) rfl ?_
  refine gm_ev.aload_n i108_6 rfl ?_
  refine gm_ev.getfield (v := .ref (C + 4)) i108_7 rfl (bM_fld (j := 0) (fs := cF0 C s) rfl rfl) ?_
  refine gm_ev.callV gm_mono_run (av := []) (r := []) (ci := 3) (fs := cF4 C s) (bM_get (j := 4) rfl) i108_10 rfl rfl rfl (Nat.le_of_ble_eq_true rfl) t4 ?_
  refine gm_ev.if_ne_f i108_13 c5 ?_
  refine gm_ev.iload_n i108_16 rfl ?_
  refine gm_ev.iconst (v := -1) i108_17 (by decide) ?_
  refine gm_ev.icmp_ne_f i108_18 c6 ?_
  refine gm_ev.iconst (v := 0) i108_21 (by decide) ?_
  refine gm_ev.goto (tgt := 40) i108_22 (by decide) ?_
  exact gm_ev.iret i108_40 rfl
theorem t_X11_moves_0_t {N0 : Nat} {K : Nat → Nat} {d C : Nat} {s : cS} {G : gm_H} {sz sl : Nat} {p0 : Int32} {r1 : Int32} (hN : N0 ≤ C) (t2 : gm_to N0 K ra_nm (ra_mt K) d 46 [.ref (C + 4), .int p0] (bM C (cH C s) G) sz (.returned (some (.int r1)), (bM C (cH C s) G), sz, 0)) (c3 : r1 = 0) : gm_ev N0 K ra_nm (ra_mt K) d (some .int) (gm_I cX11_moves) (gm_lkf (lkX11 false K)) 0 [some (.ref C), some (.int p0)] [] (bM C (cH C s) G) sz sl (.returned (some (.int (-1 : Int32))), (bM C (cH C s) G), sz, sl) := by
  refine gm_ev.aload_n i109_0 rfl ?_
  refine gm_ev.getfield (v := .ref (C + 4)) i109_1 rfl (bM_fld (j := 0) (fs := cF0 C s) rfl rfl) ?_
  refine gm_ev.iload_n i109_4 rfl ?_
  refine gm_ev.callV gm_mono_run (av := [.int p0]) (r := []) (ci := 3) (fs := cF4 C s) (bM_get (j := 4) rfl) i109_5 rfl rfl rfl (Nat.le_of_ble_eq_true rfl) t2 ?_
  refine gm_ev.if_eq_t (tgt := 25) i109_8 (by decide) c3 ?_
  refine gm_ev.iconst (v := -1) i109_25 (by decide) ?_
  exact gm_ev.iret i109_26 rfl
theorem t_X11_moves_0_f {N0 : Nat} {K : Nat → Nat} {d C : Nat} {s : cS} {G : gm_H} {sz sl : Nat} {p0 : Int32} {r1 : Int32} {r4 : Nat} {fso6 : List Value} {x7 : Int32} (hN : N0 ≤ C) (t2 : gm_to N0 K ra_nm (ra_mt K) d 46 [.ref (C + 4), .int p0] (bM C (cH C s) G) sz (.returned (some (.int r1)), (bM C (cH C s) G), sz, 0)) (c3 : ¬ r1 = 0) (t5 : gm_to N0 K ra_nm (ra_mt K) d 47 [.ref (C + 4), .int p0] (bM C (cH C s) G) sz (.returned (some (.ref r4)), (bM C (cH C s) G), sz, 0)) (ho6 : (bM C (cH C s) G) r4 = some (.inr (9, fso6))) (f8 : fso6[1]? = some (.int x7)) : gm_ev N0 K ra_nm (ra_mt K) d (some .int) (gm_I cX11_moves) (gm_lkf (lkX11 false K)) 0 [some (.ref C), some (.int p0)] [] (bM C (cH C s) G) sz sl (.returned (some (.int x7)), (bM C (cH C s) G), sz, sl) := by
  refine gm_ev.aload_n i109_0 rfl ?_
  refine gm_ev.getfield (v := .ref (C + 4)) i109_1 rfl (bM_fld (j := 0) (fs := cF0 C s) rfl rfl) ?_
  refine gm_ev.iload_n i109_4 rfl ?_
  refine gm_ev.callV gm_mono_run (av := [.int p0]) (r := []) (ci := 3) (fs := cF4 C s) (bM_get (j := 4) rfl) i109_5 rfl rfl rfl (Nat.le_of_ble_eq_true rfl) t2 ?_
  refine gm_ev.if_eq_f i109_8 c3 ?_
  refine gm_ev.aload_n i109_11 rfl ?_
  refine gm_ev.getfield (v := .ref (C + 4)) i109_12 rfl (bM_fld (j := 0) (fs := cF0 C s) rfl rfl) ?_
  refine gm_ev.iload_n i109_15 rfl ?_
  refine gm_ev.callV gm_mono_run (av := [.int p0]) (r := []) (ci := 3) (fs := cF4 C s) (bM_get (j := 4) rfl) i109_16 rfl rfl rfl (Nat.le_of_ble_eq_true rfl) t5 ?_
  refine gm_ev.getfield (v := .int x7) i109_19 rfl (gm_fld_of ho6 f8) ?_
  refine gm_ev.goto (tgt := 26) i109_22 (by decide) ?_
  exact gm_ev.iret i109_26 rfl
theorem t_X11_over_0_tt {N0 : Nat} {K : Nat → Nat} {d C : Nat} {s : cS} {G : gm_H} {sz sl : Nat} {r1 : Int32} (hN : N0 ≤ C) (t2 : gm_to N0 K ra_nm (ra_mt K) d 39 [.ref (C + 4)] (bM C (cH C s) G) sz (.returned (some (.int r1)), (bM C (cH C s) G), sz, 0)) (c3 : r1 = 0) (c4 : (s.1 88) = 0) : gm_ev N0 K ra_nm (ra_mt K) d (some .int) (gm_I cX11_over) (gm_lkf (lkX11 false K)) 0 [some (.ref C)] [] (bM C (cH C s) G) sz sl (.returned (some (.int (0 : Int32))), (bM C (cH C s) G), sz, sl) := by
  refine gm_ev.aload_n i110_0 rfl ?_
  refine gm_ev.getfield (v := .ref (C + 4)) i110_1 rfl (bM_fld (j := 0) (fs := cF0 C s) rfl rfl) ?_
  refine gm_ev.callV gm_mono_run (av := []) (r := []) (ci := 3) (fs := cF4 C s) (bM_get (j := 4) rfl) i110_4 rfl rfl rfl (Nat.le_of_ble_eq_true rfl) t2 ?_
  refine gm_ev.if_eq_t (tgt := 12) i110_7 (by decide) c3 ?_
  refine gm_ev.aload_n i110_12 rfl ?_
  refine gm_ev.getfield (v := .ref (C + 4)) i110_13 rfl (bM_fld (j := 0) (fs := cF0 C s) rfl rfl) ?_
  refine gm_ev.getfield (v := .int (s.1 88)) i110_16 rfl (bM_fld (j := 4) (fs := cF4 C s) rfl rfl) ?_
  refine gm_ev.if_eq_t (tgt := 26) i110_19 (by decide) c4 ?_
  refine gm_ev.iconst (v := 0) i110_26 (by decide) ?_
  exact gm_ev.iret i110_27 rfl
theorem t_X11_over_0_tf {N0 : Nat} {K : Nat → Nat} {d C : Nat} {s : cS} {G : gm_H} {sz sl : Nat} {r1 : Int32} (hN : N0 ≤ C) (t2 : gm_to N0 K ra_nm (ra_mt K) d 39 [.ref (C + 4)] (bM C (cH C s) G) sz (.returned (some (.int r1)), (bM C (cH C s) G), sz, 0)) (c3 : r1 = 0) (c4 : ¬ (s.1 88) = 0) : gm_ev N0 K ra_nm (ra_mt K) d (some .int) (gm_I cX11_over) (gm_lkf (lkX11 false K)) 0 [some (.ref C)] [] (bM C (cH C s) G) sz sl (.returned (some (.int (1 : Int32))), (bM C (cH C s) G), sz, sl) := by
  refine gm_ev.aload_n i110_0 rfl ?_
  refine gm_ev.getfield (v := .ref (C + 4)) i110_1 rfl (bM_fld (j := 0) (fs := cF0 C s) rfl rfl) ?_
  refine gm_ev.callV gm_mono_run (av := []) (r := []) (ci := 3) (fs := cF4 C s) (bM_get (j := 4) rfl) i110_4 rfl rfl rfl (Nat.le_of_ble_eq_true rfl) t2 ?_
  refine gm_ev.if_eq_t (tgt := 12) i110_7 (by decide) c3 ?_
  refine gm_ev.aload_n i110_12 rfl ?_
  refine gm_ev.getfield (v := .ref (C + 4)) i110_13 rfl (bM_fld (j := 0) (fs := cF0 C s) rfl rfl) ?_
  refine gm_ev.getfield (v := .int (s.1 88)) i110_16 rfl (bM_fld (j := 4) (fs := cF4 C s) rfl rfl) ?_
  refine gm_ev.if_eq_f i110_19 c4 ?_
  refine gm_ev.iconst (v := 1) i110_22 (by decide) ?_
  refine gm_ev.goto (tgt := 27) i110_23 (by decide) ?_
  exact gm_ev.iret i110_27 rfl
theorem t_X11_over_0_f {N0 : Nat} {K : Nat → Nat} {d C : Nat} {s : cS} {G : gm_H} {sz sl : Nat} {r1 : Int32} (hN : N0 ≤ C) (t2 : gm_to N0 K ra_nm (ra_mt K) d 39 [.ref (C + 4)] (bM C (cH C s) G) sz (.returned (some (.int r1)), (bM C (cH C s) G), sz, 0)) (c3 : ¬ r1 = 0) : gm_ev N0 K ra_nm (ra_mt K) d (some .int) (gm_I cX11_over) (gm_lkf (lkX11 false K)) 0 [some (.ref C)] [] (bM C (cH C s) G) sz sl (.returned (some (.int (-1 : Int32))), (bM C (cH C s) G), sz, sl) := by
  refine gm_ev.aload_n i110_0 rfl ?_
  refine gm_ev.getfield (v := .ref (C + 4)) i110_1 rfl (bM_fld (j := 0) (fs := cF0 C s) rfl rfl) ?_
  refine gm_ev.callV gm_mono_run (av := []) (r := []) (ci := 3) (fs := cF4 C s) (bM_get (j := 4) rfl) i110_4 rfl rfl rfl (Nat.le_of_ble_eq_true rfl) t2 ?_
  refine gm_ev.if_eq_f i110_7 c3 ?_
  refine gm_ev.iconst (v := -1) i110_10 (by decide) ?_
  exact gm_ev.iret i110_11 rfl
theorem t_X11_goal_0_t {N0 : Nat} {K : Nat → Nat} {d C : Nat} {s : cS} {G : gm_H} {sz sl : Nat} {p0 : Int32} {r1 : Int32} (hN : N0 ≤ C) (t2 : gm_to N0 K ra_nm (ra_mt K) d 46 [.ref (C + 4), .int p0] (bM C (cH C s) G) sz (.returned (some (.int r1)), (bM C (cH C s) G), sz, 0)) (c3 : r1 = 0) : gm_ev N0 K ra_nm (ra_mt K) d (some .int) (gm_I cX11_goal) (gm_lkf (lkX11 false K)) 0 [some (.ref C), some (.int p0)] [] (bM C (cH C s) G) sz sl (.returned (some (.int (-1 : Int32))), (bM C (cH C s) G), sz, sl) := by
  refine gm_ev.aload_n i111_0 rfl ?_
  refine gm_ev.getfield (v := .ref (C + 4)) i111_1 rfl (bM_fld (j := 0) (fs := cF0 C s) rfl rfl) ?_
  refine gm_ev.iload_n i111_4 rfl ?_
  refine gm_ev.callV gm_mono_run (av := [.int p0]) (r := []) (ci := 3) (fs := cF4 C s) (bM_get (j := 4) rfl) i111_5 rfl rfl rfl (Nat.le_of_ble_eq_true rfl) t2 ?_
  refine gm_ev.if_eq_t (tgt := 22) i111_8 (by decide) c3 ?_
  refine gm_ev.iconst (v := -1) i111_22 (by decide) ?_
  exact gm_ev.iret i111_23 rfl
theorem t_X11_goal_0_f {N0 : Nat} {K : Nat → Nat} {d C : Nat} {s : cS} {G : gm_H} {sz sl : Nat} {p0 : Int32} {r1 : Int32} {r4 : Int32} (hN : N0 ≤ C) (t2 : gm_to N0 K ra_nm (ra_mt K) d 46 [.ref (C + 4), .int p0] (bM C (cH C s) G) sz (.returned (some (.int r1)), (bM C (cH C s) G), sz, 0)) (c3 : ¬ r1 = 0) (t5 : gm_to N0 K ra_nm (ra_mt K) d 48 [.ref (C + 4), .int p0] (bM C (cH C s) G) sz (.returned (some (.int r4)), (bM C (cH C s) G), sz, 0)) : gm_ev N0 K ra_nm (ra_mt K) d (some .int) (gm_I cX11_goal) (gm_lkf (lkX11 false K)) 0 [some (.ref C), some (.int p0)] [] (bM C (cH C s) G) sz sl (.returned (some (.int r4)), (bM C (cH C s) G), sz, sl) := by
  refine gm_ev.aload_n i111_0 rfl ?_
  refine gm_ev.getfield (v := .ref (C + 4)) i111_1 rfl (bM_fld (j := 0) (fs := cF0 C s) rfl rfl) ?_
  refine gm_ev.iload_n i111_4 rfl ?_
  refine gm_ev.callV gm_mono_run (av := [.int p0]) (r := []) (ci := 3) (fs := cF4 C s) (bM_get (j := 4) rfl) i111_5 rfl rfl rfl (Nat.le_of_ble_eq_true rfl) t2 ?_
  refine gm_ev.if_eq_f i111_8 c3 ?_
  refine gm_ev.aload_n i111_11 rfl ?_
  refine gm_ev.getfield (v := .ref (C + 4)) i111_12 rfl (bM_fld (j := 0) (fs := cF0 C s) rfl rfl) ?_
  refine gm_ev.iload_n i111_15 rfl ?_
  refine gm_ev.callV gm_mono_run (av := [.int p0]) (r := []) (ci := 3) (fs := cF4 C s) (bM_get (j := 4) rfl) i111_16 rfl rfl rfl (Nat.le_of_ble_eq_true rfl) t5 ?_
  refine gm_ev.goto (tgt := 23) i111_19 (by decide) ?_
  exact gm_ev.iret i111_23 rfl
theorem t_X11_letter_0_s0 {N0 : Nat} {K : Nat → Nat} {d C : Nat} {s : cS} {G : gm_H} {sz sl : Nat} {p0 : Int32} {p1 : Int32} {p2 : Int32} {r2 : Int32} {r4 : Int32} (hN : N0 ≤ C) (c1 : p0 = 0) (t3 : gm_to N0 K ra_nm (ra_mt K) d 95 [.ref (C + 17), .int p1] (bM C (cH C s) G) sz (.returned (some (.int r2)), (bM C (cH C s) G), sz, 0)) (t5 : gm_to N0 K ra_nm (ra_mt K) d 93 [.int r2, .int p2] (bM C (cH C s) G) sz (.returned (some (.int r4)), (bM C (cH C s) G), sz, 0)) : gm_ev N0 K ra_nm (ra_mt K) d (some .int) (gm_I cX11_letter) (gm_lkf (lkX11 false K)) 0 [some (.ref C), some (.int p0), some (.int p1), some (.int p2)] [] (bM C (cH C s) G) sz sl (.returned (some (.int r4)), (bM C (cH C s) G), sz, sl) := by
  refine gm_ev.iload_n i112_0 rfl ?_
  refine gm_ev.tableIn (tgt := 32) (off := 31) i112_1 (by rw [c1]; decide) (by rw [c1]; decide) (by decide) ?_
  refine gm_ev.aload_n i112_32 rfl ?_
  refine gm_ev.getfield (v := .ref (C + 4)) i112_33 rfl (bM_fld (j := 0) (fs := cF0 C s) rfl rfl) ?_
  refine gm_ev.getfield (v := .ref (C + 17)) i112_36 rfl (bM_fld (j := 4) (fs := cF4 C s) rfl rfl) ?_
  refine gm_ev.iload_n i112_39 rfl ?_
  refine gm_ev.callV gm_mono_run (av := [.int p1]) (r := []) (ci := 9) (fs := cF17 C s) (bM_get (j := 17) rfl) i112_40 rfl rfl rfl (Nat.le_of_ble_eq_true rfl) t3 ?_
  refine gm_ev.iload_n i112_43 rfl ?_
  refine gm_ev.callS gm_mono_run (av := [.int r2, .int p2]) (r := []) i112_44 rfl rfl rfl (Nat.le_of_ble_eq_true rfl) t5 ?_
  exact gm_ev.iret i112_47 rfl
theorem t_X11_letter_0_s1 {N0 : Nat} {K : Nat → Nat} {d C : Nat} {s : cS} {G : gm_H} {sz sl : Nat} {p0 : Int32} {p1 : Int32} {p2 : Int32} {r2 : Int32} {r4 : Int32} (hN : N0 ≤ C) (c1 : p0 = 1) (t3 : gm_to N0 K ra_nm (ra_mt K) d 95 [.ref (C + 21), .int p1] (bM C (cH C s) G) sz (.returned (some (.int r2)), (bM C (cH C s) G), sz, 0)) (t5 : gm_to N0 K ra_nm (ra_mt K) d 93 [.int r2, .int p2] (bM C (cH C s) G) sz (.returned (some (.int r4)), (bM C (cH C s) G), sz, 0)) : gm_ev N0 K ra_nm (ra_mt K) d (some .int) (gm_I cX11_letter) (gm_lkf (lkX11 false K)) 0 [some (.ref C), some (.int p0), some (.int p1), some (.int p2)] [] (bM C (cH C s) G) sz sl (.returned (some (.int r4)), (bM C (cH C s) G), sz, sl) := by
  refine gm_ev.iload_n i112_0 rfl ?_
  refine gm_ev.tableIn (tgt := 48) (off := 47) i112_1 (by rw [c1]; decide) (by rw [c1]; decide) (by decide) ?_
  refine gm_ev.aload_n i112_48 rfl ?_
  refine gm_ev.getfield (v := .ref (C + 4)) i112_49 rfl (bM_fld (j := 0) (fs := cF0 C s) rfl rfl) ?_
  refine gm_ev.getfield (v := .ref (C + 21)) i112_52 rfl (bM_fld (j := 4) (fs := cF4 C s) rfl rfl) ?_
  refine gm_ev.iload_n i112_55 rfl ?_
  refine gm_ev.callV gm_mono_run (av := [.int p1]) (r := []) (ci := 9) (fs := cF21 C s) (bM_get (j := 21) rfl) i112_56 rfl rfl rfl (Nat.le_of_ble_eq_true rfl) t3 ?_
  refine gm_ev.iload_n i112_59 rfl ?_
  refine gm_ev.callS gm_mono_run (av := [.int r2, .int p2]) (r := []) i112_60 rfl rfl rfl (Nat.le_of_ble_eq_true rfl) t5 ?_
  exact gm_ev.iret i112_63 rfl
theorem t_X11_letter_0_s2 {N0 : Nat} {K : Nat → Nat} {d C : Nat} {s : cS} {G : gm_H} {sz sl : Nat} {p0 : Int32} {p1 : Int32} {p2 : Int32} {r2 : Nat} {fso4 : List Value} {r5 : Int32} {r7 : Int32} (hN : N0 ≤ C) (c1 : p0 = 2) (t3 : gm_to N0 K ra_nm (ra_mt K) d 47 [.ref (C + 4), .int (p0 - (2 : Int32))] (bM C (cH C s) G) sz (.returned (some (.ref r2)), (bM C (cH C s) G), sz, 0)) (ho4 : (bM C (cH C s) G) r2 = some (.inr (9, fso4))) (t6 : gm_to N0 K ra_nm (ra_mt K) d 95 [.ref r2, .int p1] (bM C (cH C s) G) sz (.returned (some (.int r5)), (bM C (cH C s) G), sz, 0)) (t8 : gm_to N0 K ra_nm (ra_mt K) d 93 [.int r5, .int p2] (bM C (cH C s) G) sz (.returned (some (.int r7)), (bM C (cH C s) G), sz, 0)) : gm_ev N0 K ra_nm (ra_mt K) d (some .int) (gm_I cX11_letter) (gm_lkf (lkX11 false K)) 0 [some (.ref C), some (.int p0), some (.int p1), some (.int p2)] [] (bM C (cH C s) G) sz sl (.returned (some (.int r7)), (bM C (cH C s) G), sz, sl) := by
  refine gm_ev.iload_n i112_0 rfl ?_
  refine gm_ev.tableIn (tgt := 64) (off := 63) i112_1 (by rw [c1]; decide) (by rw [c1]; decide) (by decide) ?_
  refine gm_ev.aload_n i112_64 rfl ?_
  refine gm_ev.getfield (v := .ref (C + 4)) i112_65 rfl (bM_fld (j := 0) (fs := cF0 C s) rfl rfl) ?_
  refine gm_ev.iload_n i112_68 rfl ?_
  refine gm_ev.iconst (v := 2) i112_69 (by decide) ?_
  refine gm_ev.isub i112_70 ?_
  refine gm_ev.callV gm_mono_run (av := [.int (p0 - (2 : Int32))]) (r := []) (ci := 3) (fs := cF4 C s) (bM_get (j := 4) rfl) i112_71 rfl rfl rfl (Nat.le_of_ble_eq_true rfl) t3 ?_
  refine gm_ev.iload_n i112_74 rfl ?_
  refine gm_ev.callV gm_mono_run (av := [.int p1]) (r := []) (fs := fso4) ho4 i112_75 rfl rfl rfl (Nat.le_of_ble_eq_true rfl) t6 ?_
  refine gm_ev.iload_n i112_78 rfl ?_
  refine gm_ev.callS gm_mono_run (av := [.int r5, .int p2]) (r := []) i112_79 rfl rfl rfl (Nat.le_of_ble_eq_true rfl) t8 ?_
  exact gm_ev.iret i112_82 rfl
theorem t_X11_letter_0_s3 {N0 : Nat} {K : Nat → Nat} {d C : Nat} {s : cS} {G : gm_H} {sz sl : Nat} {p0 : Int32} {p1 : Int32} {p2 : Int32} {r2 : Nat} {fso4 : List Value} {r5 : Int32} {r7 : Int32} (hN : N0 ≤ C) (c1 : p0 = 3) (t3 : gm_to N0 K ra_nm (ra_mt K) d 47 [.ref (C + 4), .int (p0 - (2 : Int32))] (bM C (cH C s) G) sz (.returned (some (.ref r2)), (bM C (cH C s) G), sz, 0)) (ho4 : (bM C (cH C s) G) r2 = some (.inr (9, fso4))) (t6 : gm_to N0 K ra_nm (ra_mt K) d 95 [.ref r2, .int p1] (bM C (cH C s) G) sz (.returned (some (.int r5)), (bM C (cH C s) G), sz, 0)) (t8 : gm_to N0 K ra_nm (ra_mt K) d 93 [.int r5, .int p2] (bM C (cH C s) G) sz (.returned (some (.int r7)), (bM C (cH C s) G), sz, 0)) : gm_ev N0 K ra_nm (ra_mt K) d (some .int) (gm_I cX11_letter) (gm_lkf (lkX11 false K)) 0 [some (.ref C), some (.int p0), some (.int p1), some (.int p2)] [] (bM C (cH C s) G) sz sl (.returned (some (.int r7)), (bM C (cH C s) G), sz, sl) := by
  refine gm_ev.iload_n i112_0 rfl ?_
  refine gm_ev.tableIn (tgt := 64) (off := 63) i112_1 (by rw [c1]; decide) (by rw [c1]; decide) (by decide) ?_
  refine gm_ev.aload_n i112_64 rfl ?_
  refine gm_ev.getfield (v := .ref (C + 4)) i112_65 rfl (bM_fld (j := 0) (fs := cF0 C s) rfl rfl) ?_
  refine gm_ev.iload_n i112_68 rfl ?_
  refine gm_ev.iconst (v := 2) i112_69 (by decide) ?_
  refine gm_ev.isub i112_70 ?_
  refine gm_ev.callV gm_mono_run (av := [.int (p0 - (2 : Int32))]) (r := []) (ci := 3) (fs := cF4 C s) (bM_get (j := 4) rfl) i112_71 rfl rfl rfl (Nat.le_of_ble_eq_true rfl) t3 ?_
  refine gm_ev.iload_n i112_74 rfl ?_
  refine gm_ev.callV gm_mono_run (av := [.int p1]) (r := []) (fs := fso4) ho4 i112_75 rfl rfl rfl (Nat.le_of_ble_eq_true rfl) t6 ?_
  refine gm_ev.iload_n i112_78 rfl ?_
  refine gm_ev.callS gm_mono_run (av := [.int r5, .int p2]) (r := []) i112_79 rfl rfl rfl (Nat.le_of_ble_eq_true rfl) t8 ?_
  exact gm_ev.iret i112_82 rfl
theorem t_X11_letter_0_sNone {N0 : Nat} {K : Nat → Nat} {d C : Nat} {s : cS} {G : gm_H} {sz sl : Nat} {p0 : Int32} {p1 : Int32} {p2 : Int32} (hN : N0 ≤ C) (c1 : p0.toInt < 0 ∨ 3 < p0.toInt) : gm_ev N0 K ra_nm (ra_mt K) d (some .int) (gm_I cX11_letter) (gm_lkf (lkX11 false K)) 0 [some (.ref C), some (.int p0), some (.int p1), some (.int p2)] [] (bM C (cH C s) G) sz sl (.returned (some (.int (-1 : Int32))), (bM C (cH C s) G), sz, sl) := by
  refine gm_ev.iload_n i112_0 rfl ?_
  refine gm_ev.tableOut (tgt := 83) i112_1 c1 (by decide) ?_
  refine gm_ev.iconst (v := -1) i112_83 (by decide) ?_
  exact gm_ev.iret i112_84 rfl
theorem t_X11_play_0_t {N0 : Nat} {K : Nat → Nat} {d C : Nat} {s : cS} {G : gm_H} {sz sl : Nat} {p0 : Int32} {p1 : Int32} {r1 : Int32} (hN : N0 ≤ C) (t2 : gm_to N0 K ra_nm (ra_mt K) d 39 [.ref (C + 4)] (bM C (cH C s) G) sz (.returned (some (.int r1)), (bM C (cH C s) G), sz, 0)) (c3 : ¬ r1 = 0) : gm_ev N0 K ra_nm (ra_mt K) d (some .int) (gm_I cX11_play) (gm_lkf (lkX11 false K)) 0 [some (.ref C), some (.int p0), some (.int p1)] [] (bM C (cH C s) G) sz sl (.threw 2, (bM C (cH C s) G), sz + 1, sl + 6) := by
  refine gm_ev.aload_n i113_0 rfl ?_
  refine gm_ev.getfield (v := .ref (C + 4)) i113_1 rfl (bM_fld (j := 0) (fs := cF0 C s) rfl rfl) ?_
  refine gm_ev.callV gm_mono_run (av := []) (r := []) (ci := 3) (fs := cF4 C s) (bM_get (j := 4) rfl) i113_4 rfl rfl rfl (Nat.le_of_ble_eq_true rfl) t2 ?_
  refine gm_ev.if_ne_t (tgt := 34) i113_7 (by decide) c3 ?_
  exact gm_ev.throw i113_34 rfl (by decide +kernel)
theorem t_X11_play_0_ft {N0 : Nat} {K : Nat → Nat} {d C : Nat} {s : cS} {G : gm_H} {sz sl : Nat} {p0 : Int32} {p1 : Int32} {r1 : Int32} (hN : N0 ≤ C) (t2 : gm_to N0 K ra_nm (ra_mt K) d 39 [.ref (C + 4)] (bM C (cH C s) G) sz (.returned (some (.int r1)), (bM C (cH C s) G), sz, 0)) (c3 : r1 = 0) (c4 : ¬ (s.1 341) = (2 : Int32)) : gm_ev N0 K ra_nm (ra_mt K) d (some .int) (gm_I cX11_play) (gm_lkf (lkX11 false K)) 0 [some (.ref C), some (.int p0), some (.int p1)] [] (bM C (cH C s) G) sz sl (.threw 2, (bM C (cH C s) G), sz + 1, sl + 6) := by
  refine gm_ev.aload_n i113_0 rfl ?_
  refine gm_ev.getfield (v := .ref (C + 4)) i113_1 rfl (bM_fld (j := 0) (fs := cF0 C s) rfl rfl) ?_
  refine gm_ev.callV gm_mono_run (av := []) (r := []) (ci := 3) (fs := cF4 C s) (bM_get (j := 4) rfl) i113_4 rfl rfl rfl (Nat.le_of_ble_eq_true rfl) t2 ?_
  refine gm_ev.if_ne_f i113_7 c3 ?_
  refine gm_ev.aload_n i113_10 rfl ?_
  refine gm_ev.getfield (v := .ref (C + 4)) i113_11 rfl (bM_fld (j := 0) (fs := cF0 C s) rfl rfl) ?_
  refine gm_ev.getfield (v := .ref (C + 17)) i113_14 rfl (bM_fld (j := 4) (fs := cF4 C s) rfl rfl) ?_
  refine gm_ev.getfield (v := .int (s.1 341)) i113_17 rfl (bM_fld (j := 17) (fs := cF17 C s) rfl rfl) ?_
  refine gm_ev.iconst (v := 2) i113_20 (by decide) ?_
  refine gm_ev.icmp_ne_t (tgt := 34) i113_21 (by decide) c4 ?_
  exact gm_ev.throw i113_34 rfl (by decide +kernel)
theorem t_X11_play_0_fftt {N0 : Nat} {K : Nat → Nat} {d C : Nat} {s : cS} {G : gm_H} {sz sl : Nat} {p0 : Int32} {p1 : Int32} {r1 : Int32} {r6 : Nat} {fso8 : List Value} {r9 : Int32} (hN : N0 ≤ C) (t2 : gm_to N0 K ra_nm (ra_mt K) d 39 [.ref (C + 4)] (bM C (cH C s) G) sz (.returned (some (.int r1)), (bM C (cH C s) G), sz, 0)) (c3 : r1 = 0) (c4 : (s.1 341) = (2 : Int32)) (c5 : (s.1 88) = 0) (t7 : gm_to N0 K ra_nm (ra_mt K) d 47 [.ref (C + 4), .int (0 : Int32)] (bM C (cH C s) G) sz (.returned (some (.ref r6)), (bM C (cH C s) G), sz, 0)) (ho8 : (bM C (cH C s) G) r6 = some (.inr (9, fso8))) (t10 : gm_to N0 K ra_nm (ra_mt K) d 95 [.ref r6, .int p0] (bM C (cH C s) G) sz (.returned (some (.int r9)), (bM C (cH C s) G), sz, 0)) (c11 : r9 = 0) : gm_ev N0 K ra_nm (ra_mt K) d (some .int) (gm_I cX11_play) (gm_lkf (lkX11 false K)) 0 [some (.ref C), some (.int p0), some (.int p1)] [] (bM C (cH C s) G) sz sl (.threw 3, (bM C (cH C s) G), sz + 1, sl + 6) := by
  refine gm_ev.aload_n i113_0 rfl ?_
  refine gm_ev.getfield (v := .ref (C + 4)) i113_1 rfl (bM_fld (j := 0) (fs := cF0 C s) rfl rfl) ?_
  refine gm_ev.callV gm_mono_run (av := []) (r := []) (ci := 3) (fs := cF4 C s) (bM_get (j := 4) rfl) i113_4 rfl rfl rfl (Nat.le_of_ble_eq_true rfl) t2 ?_
  refine gm_ev.if_ne_f i113_7 c3 ?_
  refine gm_ev.aload_n i113_10 rfl ?_
  refine gm_ev.getfield (v := .ref (C + 4)) i113_11 rfl (bM_fld (j := 0) (fs := cF0 C s) rfl rfl) ?_
  refine gm_ev.getfield (v := .ref (C + 17)) i113_14 rfl (bM_fld (j := 4) (fs := cF4 C s) rfl rfl) ?_
  refine gm_ev.getfield (v := .int (s.1 341)) i113_17 rfl (bM_fld (j := 17) (fs := cF17 C s) rfl rfl) ?_
  refine gm_ev.iconst (v := 2) i113_20 (by decide) ?_
  refine gm_ev.icmp_ne_f i113_21 c4 ?_
  refine gm_ev.aload_n i113_24 rfl ?_
  refine gm_ev.getfield (v := .ref (C + 4)) i113_25 rfl (bM_fld (j := 0) (fs := cF0 C s) rfl rfl) ?_
  refine gm_ev.getfield (v := .int (s.1 88)) i113_28 rfl (bM_fld (j := 4) (fs := cF4 C s) rfl rfl) ?_
  refine gm_ev.if_eq_t (tgt := 42) i113_31 (by decide) c5 ?_
  refine gm_ev.aload_n i113_42 rfl ?_
  refine gm_ev.getfield (v := .ref (C + 4)) i113_43 rfl (bM_fld (j := 0) (fs := cF0 C s) rfl rfl) ?_
  refine gm_ev.iconst (v := 0) i113_46 (by decide) ?_
  refine gm_ev.callV gm_mono_run (av := [.int (0 : Int32)]) (r := []) (ci := 3) (fs := cF4 C s) (bM_get (j := 4) rfl) i113_47 rfl rfl rfl (Nat.le_of_ble_eq_true rfl) t7 ?_
  refine gm_ev.iload_n i113_50 rfl ?_
  refine gm_ev.callV gm_mono_run (av := [.int p0]) (r := []) (fs := fso8) ho8 i113_51 rfl rfl rfl (Nat.le_of_ble_eq_true rfl) t10 ?_
  refine gm_ev.if_eq_t (tgt := 72) i113_54 (by decide) c11 ?_
  exact gm_ev.throw i113_72 rfl (by decide +kernel)
theorem t_X11_play_0_fftftt {N0 : Nat} {K : Nat → Nat} {d C : Nat} {s : cS} {G : gm_H} {sz sl : Nat} {p0 : Int32} {p1 : Int32} {r1 : Int32} {r6 : Nat} {fso8 : List Value} {r9 : Int32} {r12 : Nat} {fso14 : List Value} {r15 : Int32} {r18 : Int32} {s20 : cS} (hN : N0 ≤ C) (t2 : gm_to N0 K ra_nm (ra_mt K) d 39 [.ref (C + 4)] (bM C (cH C s) G) sz (.returned (some (.int r1)), (bM C (cH C s) G), sz, 0)) (c3 : r1 = 0) (c4 : (s.1 341) = (2 : Int32)) (c5 : (s.1 88) = 0) (t7 : gm_to N0 K ra_nm (ra_mt K) d 47 [.ref (C + 4), .int (0 : Int32)] (bM C (cH C s) G) sz (.returned (some (.ref r6)), (bM C (cH C s) G), sz, 0)) (ho8 : (bM C (cH C s) G) r6 = some (.inr (9, fso8))) (t10 : gm_to N0 K ra_nm (ra_mt K) d 95 [.ref r6, .int p0] (bM C (cH C s) G) sz (.returned (some (.int r9)), (bM C (cH C s) G), sz, 0)) (c11 : ¬ r9 = 0) (t13 : gm_to N0 K ra_nm (ra_mt K) d 47 [.ref (C + 4), .int (1 : Int32)] (bM C (cH C s) G) sz (.returned (some (.ref r12)), (bM C (cH C s) G), sz, 0)) (ho14 : (bM C (cH C s) G) r12 = some (.inr (9, fso14))) (t16 : gm_to N0 K ra_nm (ra_mt K) d 95 [.ref r12, .int p1] (bM C (cH C s) G) sz (.returned (some (.int r15)), (bM C (cH C s) G), sz, 0)) (c17 : ¬ r15 = 0) (t19 : gm_to N0 K ra_nm (ra_mt K) d 45 [.ref (C + 4), .int p0, .int p1] (bM C (cH C s) G) sz (.returned (some (.int r18)), (bM C (cH C s20) G), sz, 0)) (c21 : ¬ r18 = 0) : gm_ev N0 K ra_nm (ra_mt K) d (some .int) (gm_I cX11_play) (gm_lkf (lkX11 false K)) 0 [some (.ref C), some (.int p0), some (.int p1)] [] (bM C (cH C s) G) sz sl (.returned (some (.int (s20.1 421))), (bM C (cH C s20) G), sz, sl) := by
  refine gm_ev.aload_n i113_0 rfl ?_
  refine gm_ev.getfield (v := .ref (C + 4)) i113_1 rfl (bM_fld (j := 0) (fs := cF0 C s) rfl rfl) ?_
  refine gm_ev.callV gm_mono_run (av := []) (r := []) (ci := 3) (fs := cF4 C s) (bM_get (j := 4) rfl) i113_4 rfl rfl rfl (Nat.le_of_ble_eq_true rfl) t2 ?_
  refine gm_ev.if_ne_f i113_7 c3 ?_
  refine gm_ev.aload_n i113_10 rfl ?_
  refine gm_ev.getfield (v := .ref (C + 4)) i113_11 rfl (bM_fld (j := 0) (fs := cF0 C s) rfl rfl) ?_
  refine gm_ev.getfield (v := .ref (C + 17)) i113_14 rfl (bM_fld (j := 4) (fs := cF4 C s) rfl rfl) ?_
  refine gm_ev.getfield (v := .int (s.1 341)) i113_17 rfl (bM_fld (j := 17) (fs := cF17 C s) rfl rfl) ?_
  refine gm_ev.iconst (v := 2) i113_20 (by decide) ?_
  refine gm_ev.icmp_ne_f i113_21 c4 ?_
  refine gm_ev.aload_n i113_24 rfl ?_
  refine gm_ev.getfield (v := .ref (C + 4)) i113_25 rfl (bM_fld (j := 0) (fs := cF0 C s) rfl rfl) ?_
  refine gm_ev.getfield (v := .int (s.1 88)) i113_28 rfl (bM_fld (j := 4) (fs := cF4 C s) rfl rfl) ?_
  refine gm_ev.if_eq_t (tgt := 42) i113_31 (by decide) c5 ?_
  refine gm_ev.aload_n i113_42 rfl ?_
  refine gm_ev.getfield (v := .ref (C + 4)) i113_43 rfl (bM_fld (j := 0) (fs := cF0 C s) rfl rfl) ?_
  refine gm_ev.iconst (v := 0) i113_46 (by decide) ?_
  refine gm_ev.callV gm_mono_run (av := [.int (0 : Int32)]) (r := []) (ci := 3) (fs := cF4 C s) (bM_get (j := 4) rfl) i113_47 rfl rfl rfl (Nat.le_of_ble_eq_true rfl) t7 ?_
  refine gm_ev.iload_n i113_50 rfl ?_
  refine gm_ev.callV gm_mono_run (av := [.int p0]) (r := []) (fs := fso8) ho8 i113_51 rfl rfl rfl (Nat.le_of_ble_eq_true rfl) t10 ?_
  refine gm_ev.if_eq_f i113_54 c11 ?_
  refine gm_ev.aload_n i113_57 rfl ?_
  refine gm_ev.getfield (v := .ref (C + 4)) i113_58 rfl (bM_fld (j := 0) (fs := cF0 C s) rfl rfl) ?_
  refine gm_ev.iconst (v := 1) i113_61 (by decide) ?_
  refine gm_ev.callV gm_mono_run (av := [.int (1 : Int32)]) (r := []) (ci := 3) (fs := cF4 C s) (bM_get (j := 4) rfl) i113_62 rfl rfl rfl (Nat.le_of_ble_eq_true rfl) t13 ?_
  refine gm_ev.iload_n i113_65 rfl ?_
  refine gm_ev.callV gm_mono_run (av := [.int p1]) (r := []) (fs := fso14) ho14 i113_66 rfl rfl rfl (Nat.le_of_ble_eq_true rfl) t16 ?_
  refine gm_ev.if_ne_t (tgt := 80) i113_69 (by decide) c17 ?_
  refine gm_ev.aload_n i113_80 rfl ?_
  refine gm_ev.getfield (v := .ref (C + 4)) i113_81 rfl (bM_fld (j := 0) (fs := cF0 C s) rfl rfl) ?_
  refine gm_ev.iload_n i113_84 rfl ?_
  refine gm_ev.iload_n i113_85 rfl ?_
  refine gm_ev.callV gm_mono_run (av := [.int p0, .int p1]) (r := []) (ci := 3) (fs := cF4 C s) (bM_get (j := 4) rfl) i113_86 rfl rfl rfl (Nat.le_of_ble_eq_true rfl) t19 ?_
  refine gm_ev.if_ne_t (tgt := 100) i113_89 (by decide) c21 ?_
  refine gm_ev.aload_n i113_100 rfl ?_
  refine gm_ev.getfield (v := .ref (C + 4)) i113_101 rfl (bM_fld (j := 0) (fs := cF0 C s20) rfl rfl) ?_
  refine gm_ev.getfield (v := .ref (C + 21)) i113_104 rfl (bM_fld (j := 4) (fs := cF4 C s20) rfl rfl) ?_
  refine gm_ev.getfield (v := .int (s20.1 421)) i113_107 rfl (bM_fld (j := 21) (fs := cF21 C s20) rfl rfl) ?_
  exact gm_ev.iret i113_110 rfl
theorem t_X11_play_0_fftftf {N0 : Nat} {K : Nat → Nat} {d C : Nat} {s : cS} {G : gm_H} {sz sl : Nat} {p0 : Int32} {p1 : Int32} {r1 : Int32} {r6 : Nat} {fso8 : List Value} {r9 : Int32} {r12 : Nat} {fso14 : List Value} {r15 : Int32} {r18 : Int32} {s20 : cS} (hN : N0 ≤ C) (t2 : gm_to N0 K ra_nm (ra_mt K) d 39 [.ref (C + 4)] (bM C (cH C s) G) sz (.returned (some (.int r1)), (bM C (cH C s) G), sz, 0)) (c3 : r1 = 0) (c4 : (s.1 341) = (2 : Int32)) (c5 : (s.1 88) = 0) (t7 : gm_to N0 K ra_nm (ra_mt K) d 47 [.ref (C + 4), .int (0 : Int32)] (bM C (cH C s) G) sz (.returned (some (.ref r6)), (bM C (cH C s) G), sz, 0)) (ho8 : (bM C (cH C s) G) r6 = some (.inr (9, fso8))) (t10 : gm_to N0 K ra_nm (ra_mt K) d 95 [.ref r6, .int p0] (bM C (cH C s) G) sz (.returned (some (.int r9)), (bM C (cH C s) G), sz, 0)) (c11 : ¬ r9 = 0) (t13 : gm_to N0 K ra_nm (ra_mt K) d 47 [.ref (C + 4), .int (1 : Int32)] (bM C (cH C s) G) sz (.returned (some (.ref r12)), (bM C (cH C s) G), sz, 0)) (ho14 : (bM C (cH C s) G) r12 = some (.inr (9, fso14))) (t16 : gm_to N0 K ra_nm (ra_mt K) d 95 [.ref r12, .int p1] (bM C (cH C s) G) sz (.returned (some (.int r15)), (bM C (cH C s) G), sz, 0)) (c17 : ¬ r15 = 0) (t19 : gm_to N0 K ra_nm (ra_mt K) d 45 [.ref (C + 4), .int p0, .int p1] (bM C (cH C s) G) sz (.returned (some (.int r18)), (bM C (cH C s20) G), sz, 0)) (c21 : r18 = 0) : gm_ev N0 K ra_nm (ra_mt K) d (some .int) (gm_I cX11_play) (gm_lkf (lkX11 false K)) 0 [some (.ref C), some (.int p0), some (.int p1)] [] (bM C (cH C s) G) sz sl (.threw 2, (bM C (cH C s20) G), sz + 1, sl + 6) := by
  refine gm_ev.aload_n i113_0 rfl ?_
  refine gm_ev.getfield (v := .ref (C + 4)) i113_1 rfl (bM_fld (j := 0) (fs := cF0 C s) rfl rfl) ?_
  refine gm_ev.callV gm_mono_run (av := []) (r := []) (ci := 3) (fs := cF4 C s) (bM_get (j := 4) rfl) i113_4 rfl rfl rfl (Nat.le_of_ble_eq_true rfl) t2 ?_
  refine gm_ev.if_ne_f i113_7 c3 ?_
  refine gm_ev.aload_n i113_10 rfl ?_
  refine gm_ev.getfield (v := .ref (C + 4)) i113_11 rfl (bM_fld (j := 0) (fs := cF0 C s) rfl rfl) ?_
  refine gm_ev.getfield (v := .ref (C + 17)) i113_14 rfl (bM_fld (j := 4) (fs := cF4 C s) rfl rfl) ?_
  refine gm_ev.getfield (v := .int (s.1 341)) i113_17 rfl (bM_fld (j := 17) (fs := cF17 C s) rfl rfl) ?_
  refine gm_ev.iconst (v := 2) i113_20 (by decide) ?_
  refine gm_ev.icmp_ne_f i113_21 c4 ?_
  refine gm_ev.aload_n i113_24 rfl ?_
  refine gm_ev.getfield (v := .ref (C + 4)) i113_25 rfl (bM_fld (j := 0) (fs := cF0 C s) rfl rfl) ?_
  refine gm_ev.getfield (v := .int (s.1 88)) i113_28 rfl (bM_fld (j := 4) (fs := cF4 C s) rfl rfl) ?_
  refine gm_ev.if_eq_t (tgt := 42) i113_31 (by decide) c5 ?_
  refine gm_ev.aload_n i113_42 rfl ?_
  refine gm_ev.getfield (v := .ref (C + 4)) i113_43 rfl (bM_fld (j := 0) (fs := cF0 C s) rfl rfl) ?_
  refine gm_ev.iconst (v := 0) i113_46 (by decide) ?_
  refine gm_ev.callV gm_mono_run (av := [.int (0 : Int32)]) (r := []) (ci := 3) (fs := cF4 C s) (bM_get (j := 4) rfl) i113_47 rfl rfl rfl (Nat.le_of_ble_eq_true rfl) t7 ?_
  refine gm_ev.iload_n i113_50 rfl ?_
  refine gm_ev.callV gm_mono_run (av := [.int p0]) (r := []) (fs := fso8) ho8 i113_51 rfl rfl rfl (Nat.le_of_ble_eq_true rfl) t10 ?_
  refine gm_ev.if_eq_f i113_54 c11 ?_
  refine gm_ev.aload_n i113_57 rfl ?_
  refine gm_ev.getfield (v := .ref (C + 4)) i113_58 rfl (bM_fld (j := 0) (fs := cF0 C s) rfl rfl) ?_
  refine gm_ev.iconst (v := 1) i113_61 (by decide) ?_
  refine gm_ev.callV gm_mono_run (av := [.int (1 : Int32)]) (r := []) (ci := 3) (fs := cF4 C s) (bM_get (j := 4) rfl) i113_62 rfl rfl rfl (Nat.le_of_ble_eq_true rfl) t13 ?_
  refine gm_ev.iload_n i113_65 rfl ?_
  refine gm_ev.callV gm_mono_run (av := [.int p1]) (r := []) (fs := fso14) ho14 i113_66 rfl rfl rfl (Nat.le_of_ble_eq_true rfl) t16 ?_
  refine gm_ev.if_ne_t (tgt := 80) i113_69 (by decide) c17 ?_
  refine gm_ev.aload_n i113_80 rfl ?_
  refine gm_ev.getfield (v := .ref (C + 4)) i113_81 rfl (bM_fld (j := 0) (fs := cF0 C s) rfl rfl) ?_
  refine gm_ev.iload_n i113_84 rfl ?_
  refine gm_ev.iload_n i113_85 rfl ?_
  refine gm_ev.callV gm_mono_run (av := [.int p0, .int p1]) (r := []) (ci := 3) (fs := cF4 C s) (bM_get (j := 4) rfl) i113_86 rfl rfl rfl (Nat.le_of_ble_eq_true rfl) t19 ?_
  refine gm_ev.if_ne_f i113_89 c21 ?_
  exact gm_ev.throw i113_92 rfl (by decide +kernel)
theorem t_X11_play_0_fftff {N0 : Nat} {K : Nat → Nat} {d C : Nat} {s : cS} {G : gm_H} {sz sl : Nat} {p0 : Int32} {p1 : Int32} {r1 : Int32} {r6 : Nat} {fso8 : List Value} {r9 : Int32} {r12 : Nat} {fso14 : List Value} {r15 : Int32} (hN : N0 ≤ C) (t2 : gm_to N0 K ra_nm (ra_mt K) d 39 [.ref (C + 4)] (bM C (cH C s) G) sz (.returned (some (.int r1)), (bM C (cH C s) G), sz, 0)) (c3 : r1 = 0) (c4 : (s.1 341) = (2 : Int32)) (c5 : (s.1 88) = 0) (t7 : gm_to N0 K ra_nm (ra_mt K) d 47 [.ref (C + 4), .int (0 : Int32)] (bM C (cH C s) G) sz (.returned (some (.ref r6)), (bM C (cH C s) G), sz, 0)) (ho8 : (bM C (cH C s) G) r6 = some (.inr (9, fso8))) (t10 : gm_to N0 K ra_nm (ra_mt K) d 95 [.ref r6, .int p0] (bM C (cH C s) G) sz (.returned (some (.int r9)), (bM C (cH C s) G), sz, 0)) (c11 : ¬ r9 = 0) (t13 : gm_to N0 K ra_nm (ra_mt K) d 47 [.ref (C + 4), .int (1 : Int32)] (bM C (cH C s) G) sz (.returned (some (.ref r12)), (bM C (cH C s) G), sz, 0)) (ho14 : (bM C (cH C s) G) r12 = some (.inr (9, fso14))) (t16 : gm_to N0 K ra_nm (ra_mt K) d 95 [.ref r12, .int p1] (bM C (cH C s) G) sz (.returned (some (.int r15)), (bM C (cH C s) G), sz, 0)) (c17 : r15 = 0) : gm_ev N0 K ra_nm (ra_mt K) d (some .int) (gm_I cX11_play) (gm_lkf (lkX11 false K)) 0 [some (.ref C), some (.int p0), some (.int p1)] [] (bM C (cH C s) G) sz sl (.threw 3, (bM C (cH C s) G), sz + 1, sl + 6) := by
  refine gm_ev.aload_n i113_0 rfl ?_
  refine gm_ev.getfield (v := .ref (C + 4)) i113_1 rfl (bM_fld (j := 0) (fs := cF0 C s) rfl rfl) ?_
  refine gm_ev.callV gm_mono_run (av := []) (r := []) (ci := 3) (fs := cF4 C s) (bM_get (j := 4) rfl) i113_4 rfl rfl rfl (Nat.le_of_ble_eq_true rfl) t2 ?_
  refine gm_ev.if_ne_f i113_7 c3 ?_
  refine gm_ev.aload_n i113_10 rfl ?_
  refine gm_ev.getfield (v := .ref (C + 4)) i113_11 rfl (bM_fld (j := 0) (fs := cF0 C s) rfl rfl) ?_
  refine gm_ev.getfield (v := .ref (C + 17)) i113_14 rfl (bM_fld (j := 4) (fs := cF4 C s) rfl rfl) ?_
  refine gm_ev.getfield (v := .int (s.1 341)) i113_17 rfl (bM_fld (j := 17) (fs := cF17 C s) rfl rfl) ?_
  refine gm_ev.iconst (v := 2) i113_20 (by decide) ?_
  refine gm_ev.icmp_ne_f i113_21 c4 ?_
  refine gm_ev.aload_n i113_24 rfl ?_
  refine gm_ev.getfield (v := .ref (C + 4)) i113_25 rfl (bM_fld (j := 0) (fs := cF0 C s) rfl rfl) ?_
  refine gm_ev.getfield (v := .int (s.1 88)) i113_28 rfl (bM_fld (j := 4) (fs := cF4 C s) rfl rfl) ?_
  refine gm_ev.if_eq_t (tgt := 42) i113_31 (by decide) c5 ?_
  refine gm_ev.aload_n i113_42 rfl ?_
  refine gm_ev.getfield (v := .ref (C + 4)) i113_43 rfl (bM_fld (j := 0) (fs := cF0 C s) rfl rfl) ?_
  refine gm_ev.iconst (v := 0) i113_46 (by decide) ?_
  refine gm_ev.callV gm_mono_run (av := [.int (0 : Int32)]) (r := []) (ci := 3) (fs := cF4 C s) (bM_get (j := 4) rfl) i113_47 rfl rfl rfl (Nat.le_of_ble_eq_true rfl) t7 ?_
  refine gm_ev.iload_n i113_50 rfl ?_
  refine gm_ev.callV gm_mono_run (av := [.int p0]) (r := []) (fs := fso8) ho8 i113_51 rfl rfl rfl (Nat.le_of_ble_eq_true rfl) t10 ?_
  refine gm_ev.if_eq_f i113_54 c11 ?_
  refine gm_ev.aload_n i113_57 rfl ?_
  refine gm_ev.getfield (v := .ref (C + 4)) i113_58 rfl (bM_fld (j := 0) (fs := cF0 C s) rfl rfl) ?_
  refine gm_ev.iconst (v := 1) i113_61 (by decide) ?_
  refine gm_ev.callV gm_mono_run (av := [.int (1 : Int32)]) (r := []) (ci := 3) (fs := cF4 C s) (bM_get (j := 4) rfl) i113_62 rfl rfl rfl (Nat.le_of_ble_eq_true rfl) t13 ?_
  refine gm_ev.iload_n i113_65 rfl ?_
  refine gm_ev.callV gm_mono_run (av := [.int p1]) (r := []) (fs := fso14) ho14 i113_66 rfl rfl rfl (Nat.le_of_ble_eq_true rfl) t16 ?_
  refine gm_ev.if_ne_f i113_69 c17 ?_
  exact gm_ev.throw i113_72 rfl (by decide +kernel)
