/-! typed paths through the class, by program -/
theorem t_X6_readAtom_0_ttftf {N0 : Nat} {K : Nat → Nat} {d C : Nat} {s : cS} {G : gm_H} {sz sl : Nat} {p0 : Int32} {k2 : Nat} {k7 : Nat} {kt8 : Nat → Int32} {s11 : cS} (hN : N0 ≤ C) (h1 : s.2.2 40 = some (C + 1)) (ek2 : (s.1 41) = nI k2) (lk2 : k2 < 241) (hd : 0 < d) (c5 : 0 ≤ (gm_ix (s.2.1 1 k2))) (c6 : 0 ≤ (gm_ix (s.2.1 1 k2))) (ek7 : (gm_ix (s.2.1 1 k2)) = nI k7) (hkt8 : (bM C (cH C (cI s 41 ((s.1 41) + (1 : Int32)))) G) (K 0) = some (.inl (gm_scr, 8, .inl kt8))) (lk7 : k7 < 8) (c9 : ¬ 0 ≤ (gm_ix (s.2.1 1 k2))) (t10 : gm_to N0 K ra_nm (ra_mt K) d 192 [.ref (C + 3), .int (0 : Int32)] (bM C (cH C (cI s 41 ((s.1 41) + (1 : Int32)))) G) sz (.returned none, (bM C (cH C s11) G), sz, 0)) (c12 : (3 : Int32) ≤ 0) (c13 : ¬ (kt8 k7) ≤ (0 : Int32)) : gm_ev N0 K ra_nm (ra_mt K) d (some (.object "RuleArena$Literal")) (gm_I cX6_readAtom) (gm_lkf (lkX6 false K)) 0 [some (.ref (C + 2)), some (.int p0), none, none, none, none, none] [] (bM C (cH C s) G) sz sl (.returned (some (.null)), (bM C (cH C s11) G), sz, sl) := by
  refine gm_ev.aload_n i68_0 rfl ?_
  refine gm_ev.getfield (v := .ref (C + 1)) i68_1 rfl (bM_fld (j := 2) (fs := cF2 C s) rfl (cv_some h1)) ?_
  refine gm_ev.aload_n i68_4 rfl ?_
  refine gm_ev.getfield (v := .int (s.1 41)) i68_5 rfl (bM_fld (j := 2) (fs := cF2 C s) rfl rfl) ?_
  refine gm_ev.caload i68_8 (bM_ai (j := 1) (n := 241) (f := s.2.1 1) rfl ek2 lk2 (by decide)) ?_
  refine gm_ev.istore_n (ls' := [some (.ref (C + 2)), some (.int p0), some (.int (s.2.1 1 k2)), none, none, none, none]) i68_9 (Nat.le_of_ble_eq_true rfl) rfl ?_
  refine gm_ev.ldc i68_10 rfl ?_
  refine gm_ev.iload_n i68_12 rfl ?_
  refine gm_ev.callT gm_mono_run (av := [.int (s.2.1 1 k2)]) (r := []) i68_13 rfl rfl rfl (Nat.le_of_ble_eq_true rfl) (gm_to_ix hd (Or.inr rfl)) ?_
  refine gm_ev.istore_n (ls' := [some (.ref (C + 2)), some (.int p0), some (.int (s.2.1 1 k2)), some (.int (gm_ix (s.2.1 1 k2))), none, none, none]) i68_16 (Nat.le_of_ble_eq_true rfl) rfl ?_
  refine gm_ev.iload_n i68_17 rfl ?_
  refine gm_ev.if_ge_t (tgt := 30) i68_18 (by decide) c5 ?_
  refine gm_ev.aload_n i68_30 rfl ?_
  refine gm_ev.dup i68_31 rfl ?_
  refine gm_ev.getfield (v := .int (s.1 41)) i68_32 rfl (bM_fld (j := 2) (fs := cF2 C s) rfl rfl) ?_
  refine gm_ev.iconst (v := 1) i68_35 (by decide) ?_
  refine gm_ev.iadd i68_36 ?_
  refine gm_ev.putfield (M' := (bM C (cH C (cI s 41 ((s.1 41) + (1 : Int32)))) G)) i68_37 rfl (bM_put (j := 2) (fs := cF2 C s) rfl (Nat.le_of_ble_eq_true rfl) hN (gm_fit_i _) rfl) ?_
  refine gm_ev.iload_n i68_40 rfl ?_
  refine gm_ev.if_ge_t (tgt := 48) i68_41 (by decide) c6 ?_
  refine gm_ev.getstatic i68_48 rfl ?_
  refine gm_ev.iload_n i68_51 rfl ?_
  refine gm_ev.ialoadS i68_52 (gm_ai_of hkt8 ek7 lk7 (by decide)) ?_
  refine gm_ev.istore (ls' := [some (.ref (C + 2)), some (.int p0), some (.int (s.2.1 1 k2)), some (.int (gm_ix (s.2.1 1 k2))), some (.int (kt8 k7)), none, none]) i68_53 (Nat.le_of_ble_eq_true rfl) rfl ?_
  refine gm_ev.iload_n i68_55 rfl ?_
  refine gm_ev.if_ge_f i68_56 c9 ?_
  refine gm_ev.iconst (v := 3) i68_59 (by decide) ?_
  refine gm_ev.goto (tgt := 65) i68_60 (by decide) ?_
  refine gm_ev.istore (ls' := [some (.ref (C + 2)), some (.int p0), some (.int (s.2.1 1 k2)), some (.int (gm_ix (s.2.1 1 k2))), some (.int (kt8 k7)), some (.int (3 : Int32)), none]) i68_65 (Nat.le_of_ble_eq_true rfl) rfl ?_
  refine gm_ev.iconst (v := 0) i68_67 (by decide) ?_
  refine gm_ev.istore (ls' := [some (.ref (C + 2)), some (.int p0), some (.int (s.2.1 1 k2)), some (.int (gm_ix (s.2.1 1 k2))), some (.int (kt8 k7)), some (.int (3 : Int32)), some (.int (0 : Int32))]) i68_68 (Nat.le_of_ble_eq_true rfl) rfl ?_
  refine gm_ev.aload_n i68_70 rfl ?_
  refine gm_ev.getfield (v := .ref (C + 3)) i68_71 rfl (bM_fld (j := 2) (fs := cF2 C (cI s 41 ((s.1 41) + (1 : Int32)))) rfl rfl) ?_
  refine gm_ev.iconst (v := 0) i68_74 (by decide) ?_
  refine gm_ev.callS gm_mono_run (av := [.ref (C + 3), .int (0 : Int32)]) (r := []) i68_75 rfl rfl rfl (Nat.le_of_ble_eq_true rfl) t10 ?_
  refine gm_ev.iload i68_78 rfl ?_
  refine gm_ev.if_le_t (tgt := 152) i68_80 (by decide) c12 ?_
  refine gm_ev.iload i68_152 rfl ?_
  refine gm_ev.iload i68_154 rfl ?_
  refine gm_ev.icmp_ge_f i68_156 c13 ?_
  refine gm_ev.null i68_159 ?_
  exact gm_ev.aretN i68_160 rfl
theorem t_X6_readAtom_0_ttfftt {N0 : Nat} {K : Nat → Nat} {d C : Nat} {s : cS} {G : gm_H} {sz sl : Nat} {p0 : Int32} {k2 : Nat} {k7 : Nat} {kt8 : Nat → Int32} {s11 : cS} {r13 : Int32} {s15 : cS} {r21 : Int32} {k23 : Nat} {k24 : Nat} {k25 : Nat} {G27 : gm_H} (hN : N0 ≤ C) (h1 : s.2.2 40 = some (C + 1)) (ek2 : (s.1 41) = nI k2) (lk2 : k2 < 241) (hd : 0 < d) (c5 : 0 ≤ (gm_ix (s.2.1 1 k2))) (c6 : 0 ≤ (gm_ix (s.2.1 1 k2))) (ek7 : (gm_ix (s.2.1 1 k2)) = nI k7) (hkt8 : (bM C (cH C (cI s 41 ((s.1 41) + (1 : Int32)))) G) (K 0) = some (.inl (gm_scr, 8, .inl kt8))) (lk7 : k7 < 8) (c9 : ¬ 0 ≤ (gm_ix (s.2.1 1 k2))) (t10 : gm_to N0 K ra_nm (ra_mt K) d 192 [.ref (C + 3), .int (0 : Int32)] (bM C (cH C (cI s 41 ((s.1 41) + (1 : Int32)))) G) sz (.returned none, (bM C (cH C s11) G), sz, 0)) (c12 : ¬ (3 : Int32) ≤ 0) (t14 : gm_to N0 K ra_nm (ra_mt K) d 63 [.ref (C + 2), .int (40 : Int32)] (bM C (cH C s11) G) sz (.returned (some (.int r13)), (bM C (cH C s15) G), sz, 0)) (c16 : r13 = 0) (c17 : (kt8 k7) ≤ (0 : Int32)) (hg_sz : C + 34 ≤ sz) (bd18 : gm_bd G sz) (t22 : gm_to N0 K ra_nm (ra_mt K) d 55 [.int (s.2.1 1 k2), .int (0 : Int32)] (bM C (cH C s15) (gm_new G sz (.inr (5, [.int 0, .int 0, .int 0, .int 0, .int 0, .int 0, .int 0])))) (sz + 1) (.returned (some (.int r21)), (bM C (cH C s15) (gm_new G sz (.inr (5, [.int 0, .int 0, .int 0, .int 0, .int 0, .int 0, .int 0])))), (sz + 1), 0)) (ek23 : (0 : Int32) = nI k23) (lk23 : k23 < 3) (ek24 : (1 : Int32) = nI k24) (lk24 : k24 < 3) (ek25 : (2 : Int32) = nI k25) (lk25 : k25 < 3) (t26 : gm_to N0 K ra_nm (ra_mt K) d 54 [.ref sz, .int p0, .int r21, .int (s15.2.1 3 k23), .int (s15.2.1 3 k24), .int (s15.2.1 3 k25)] (bM C (cH C s15) (gm_new G sz (.inr (5, [.int 0, .int 0, .int 0, .int 0, .int 0, .int 0, .int 0])))) (sz + 1) (.returned none, (bM C (cH C s15) G27), (sz + 1), 0)) : gm_ev N0 K ra_nm (ra_mt K) d (some (.object "RuleArena$Literal")) (gm_I cX6_readAtom) (gm_lkf (lkX6 false K)) 0 [some (.ref (C + 2)), some (.int p0), none, none, none, none, none] [] (bM C (cH C s) G) sz sl (.returned (some (.ref sz)), (bM C (cH C s15) G27), (sz + 1), (sl + 7)) := by
  refine gm_ev.aload_n i68_0 rfl ?_
  refine gm_ev.getfield (v := .ref (C + 1)) i68_1 rfl (bM_fld (j := 2) (fs := cF2 C s) rfl (cv_some h1)) ?_
  refine gm_ev.aload_n i68_4 rfl ?_
  refine gm_ev.getfield (v := .int (s.1 41)) i68_5 rfl (bM_fld (j := 2) (fs := cF2 C s) rfl rfl) ?_
  refine gm_ev.caload i68_8 (bM_ai (j := 1) (n := 241) (f := s.2.1 1) rfl ek2 lk2 (by decide)) ?_
  refine gm_ev.istore_n (ls' := [some (.ref (C + 2)), some (.int p0), some (.int (s.2.1 1 k2)), none, none, none, none]) i68_9 (Nat.le_of_ble_eq_true rfl) rfl ?_
  refine gm_ev.ldc i68_10 rfl ?_
  refine gm_ev.iload_n i68_12 rfl ?_
  refine gm_ev.callT gm_mono_run (av := [.int (s.2.1 1 k2)]) (r := []) i68_13 rfl rfl rfl (Nat.le_of_ble_eq_true rfl) (gm_to_ix hd (Or.inr rfl)) ?_
  refine gm_ev.istore_n (ls' := [some (.ref (C + 2)), some (.int p0), some (.int (s.2.1 1 k2)), some (.int (gm_ix (s.2.1 1 k2))), none, none, none]) i68_16 (Nat.le_of_ble_eq_true rfl) rfl ?_
  refine gm_ev.iload_n i68_17 rfl ?_
  refine gm_ev.if_ge_t (tgt := 30) i68_18 (by decide) c5 ?_
  refine gm_ev.aload_n i68_30 rfl ?_
  refine gm_ev.dup i68_31 rfl ?_
  refine gm_ev.getfield (v := .int (s.1 41)) i68_32 rfl (bM_fld (j := 2) (fs := cF2 C s) rfl rfl) ?_
  refine gm_ev.iconst (v := 1) i68_35 (by decide) ?_
  refine gm_ev.iadd i68_36 ?_
  refine gm_ev.putfield (M' := (bM C (cH C (cI s 41 ((s.1 41) + (1 : Int32)))) G)) i68_37 rfl (bM_put (j := 2) (fs := cF2 C s) rfl (Nat.le_of_ble_eq_true rfl) hN (gm_fit_i _) rfl) ?_
  refine gm_ev.iload_n i68_40 rfl ?_
  refine gm_ev.if_ge_t (tgt := 48) i68_41 (by decide) c6 ?_
  refine gm_ev.getstatic i68_48 rfl ?_
  refine gm_ev.iload_n i68_51 rfl ?_
  refine gm_ev.ialoadS i68_52 (gm_ai_of hkt8 ek7 lk7 (by decide)) ?_
  refine gm_ev.istore (ls' := [some (.ref (C + 2)), some (.int p0), some (.int (s.2.1 1 k2)), some (.int (gm_ix (s.2.1 1 k2))), some (.int (kt8 k7)), none, none]) i68_53 (Nat.le_of_ble_eq_true rfl) rfl ?_
  refine gm_ev.iload_n i68_55 rfl ?_
  refine gm_ev.if_ge_f i68_56 c9 ?_
  refine gm_ev.iconst (v := 3) i68_59 (by decide) ?_
  refine gm_ev.goto (tgt := 65) i68_60 (by decide) ?_
  refine gm_ev.istore (ls' := [some (.ref (C + 2)), some (.int p0), some (.int (s.2.1 1 k2)), some (.int (gm_ix (s.2.1 1 k2))), some (.int (kt8 k7)), some (.int (3 : Int32)), none]) i68_65 (Nat.le_of_ble_eq_true rfl) rfl ?_
  refine gm_ev.iconst (v := 0) i68_67 (by decide) ?_
  refine gm_ev.istore (ls' := [some (.ref (C + 2)), some (.int p0), some (.int (s.2.1 1 k2)), some (.int (gm_ix (s.2.1 1 k2))), some (.int (kt8 k7)), some (.int (3 : Int32)), some (.int (0 : Int32))]) i68_68 (Nat.le_of_ble_eq_true rfl) rfl ?_
  refine gm_ev.aload_n i68_70 rfl ?_
  refine gm_ev.getfield (v := .ref (C + 3)) i68_71 rfl (bM_fld (j := 2) (fs := cF2 C (cI s 41 ((s.1 41) + (1 : Int32)))) rfl rfl) ?_
  refine gm_ev.iconst (v := 0) i68_74 (by decide) ?_
  refine gm_ev.callS gm_mono_run (av := [.ref (C + 3), .int (0 : Int32)]) (r := []) i68_75 rfl rfl rfl (Nat.le_of_ble_eq_true rfl) t10 ?_
  refine gm_ev.iload i68_78 rfl ?_
  refine gm_ev.if_le_f i68_80 c12 ?_
  refine gm_ev.aload_n i68_83 rfl ?_
  refine gm_ev.bipush (v := 40) i68_84 (by decide) ?_
  refine gm_ev.callV gm_mono_run (av := [.int (40 : Int32)]) (r := []) (ci := 6) (fs := cF2 C s11) (bM_get (j := 2) rfl) i68_86 rfl rfl rfl (Nat.le_of_ble_eq_true rfl) t14 ?_
  refine gm_ev.if_eq_t (tgt := 152) i68_89 (by decide) c16 ?_
  refine gm_ev.iload i68_152 rfl ?_
  refine gm_ev.iload i68_154 rfl ?_
  refine gm_ev.icmp_ge_t (tgt := 161) i68_156 (by decide) c17 ?_
  refine gm_ev.new i68_161 rfl ?_
  rw [cG_new hg_sz]
  have w19 : (gm_new G sz (.inr (5, [.int 0, .int 0, .int 0, .int 0, .int 0, .int 0, .int 0]))) sz = some (.inr (5, [.int 0, .int 0, .int 0, .int 0, .int 0, .int 0, .int 0])) := gm_set_eq
  have bd20 : gm_bd (gm_new G sz (.inr (5, [.int 0, .int 0, .int 0, .int 0, .int 0, .int 0, .int 0]))) (sz + 1) := gm_bd.new bd18
  refine gm_ev.dup i68_164 rfl ?_
  refine gm_ev.iload_n i68_165 rfl ?_
  refine gm_ev.iload_n i68_166 rfl ?_
  refine gm_ev.iload i68_167 rfl ?_
  refine gm_ev.callS gm_mono_run (av := [.int (s.2.1 1 k2), .int (0 : Int32)]) (r := [.int p0, .ref sz, .ref sz]) i68_169 rfl rfl rfl (Nat.le_of_ble_eq_true rfl) t22 ?_
  refine gm_ev.aload_n i68_172 rfl ?_
  refine gm_ev.getfield (v := .ref (C + 3)) i68_173 rfl (bM_fld (j := 2) (fs := cF2 C s15) rfl rfl) ?_
  refine gm_ev.iconst (v := 0) i68_176 (by decide) ?_
  refine gm_ev.iaload i68_177 (bM_ai (j := 3) (n := 3) (f := s15.2.1 3) rfl ek23 lk23 (by decide)) ?_
  refine gm_ev.aload_n i68_178 rfl ?_
  refine gm_ev.getfield (v := .ref (C + 3)) i68_179 rfl (bM_fld (j := 2) (fs := cF2 C s15) rfl rfl) ?_
  refine gm_ev.iconst (v := 1) i68_182 (by decide) ?_
  refine gm_ev.iaload i68_183 (bM_ai (j := 3) (n := 3) (f := s15.2.1 3) rfl ek24 lk24 (by decide)) ?_
  refine gm_ev.aload_n i68_184 rfl ?_
  refine gm_ev.getfield (v := .ref (C + 3)) i68_185 rfl (bM_fld (j := 2) (fs := cF2 C s15) rfl rfl) ?_
  refine gm_ev.iconst (v := 2) i68_188 (by decide) ?_
  refine gm_ev.iaload i68_189 (bM_ai (j := 3) (n := 3) (f := s15.2.1 3) rfl ek25 lk25 (by decide)) ?_
  refine gm_ev.callI gm_mono_run (av := [.int p0, .int r21, .int (s15.2.1 3 k23), .int (s15.2.1 3 k24), .int (s15.2.1 3 k25)]) (r := [.ref sz]) i68_190 rfl rfl rfl (Nat.le_of_ble_eq_true rfl) t26 ?_
  exact gm_ev.aret i68_193 rfl
theorem t_X6_readAtom_0_ttfftf {N0 : Nat} {K : Nat → Nat} {d C : Nat} {s : cS} {G : gm_H} {sz sl : Nat} {p0 : Int32} {k2 : Nat} {k7 : Nat} {kt8 : Nat → Int32} {s11 : cS} {r13 : Int32} {s15 : cS} (hN : N0 ≤ C) (h1 : s.2.2 40 = some (C + 1)) (ek2 : (s.1 41) = nI k2) (lk2 : k2 < 241) (hd : 0 < d) (c5 : 0 ≤ (gm_ix (s.2.1 1 k2))) (c6 : 0 ≤ (gm_ix (s.2.1 1 k2))) (ek7 : (gm_ix (s.2.1 1 k2)) = nI k7) (hkt8 : (bM C (cH C (cI s 41 ((s.1 41) + (1 : Int32)))) G) (K 0) = some (.inl (gm_scr, 8, .inl kt8))) (lk7 : k7 < 8) (c9 : ¬ 0 ≤ (gm_ix (s.2.1 1 k2))) (t10 : gm_to N0 K ra_nm (ra_mt K) d 192 [.ref (C + 3), .int (0 : Int32)] (bM C (cH C (cI s 41 ((s.1 41) + (1 : Int32)))) G) sz (.returned none, (bM C (cH C s11) G), sz, 0)) (c12 : ¬ (3 : Int32) ≤ 0) (t14 : gm_to N0 K ra_nm (ra_mt K) d 63 [.ref (C + 2), .int (40 : Int32)] (bM C (cH C s11) G) sz (.returned (some (.int r13)), (bM C (cH C s15) G), sz, 0)) (c16 : r13 = 0) (c17 : ¬ (kt8 k7) ≤ (0 : Int32)) : gm_ev N0 K ra_nm (ra_mt K) d (some (.object "RuleArena$Literal")) (gm_I cX6_readAtom) (gm_lkf (lkX6 false K)) 0 [some (.ref (C + 2)), some (.int p0), none, none, none, none, none] [] (bM C (cH C s) G) sz sl (.returned (some (.null)), (bM C (cH C s15) G), sz, sl) := by
  refine gm_ev.aload_n i68_0 rfl ?_
  refine gm_ev.getfield (v := .ref (C + 1)) i68_1 rfl (bM_fld (j := 2) (fs := cF2 C s) rfl (cv_some h1)) ?_
  refine gm_ev.aload_n i68_4 rfl ?_
  refine gm_ev.getfield (v := .int (s.1 41)) i68_5 rfl (bM_fld (j := 2) (fs := cF2 C s) rfl rfl) ?_
  refine gm_ev.caload i68_8 (bM_ai (j := 1) (n := 241) (f := s.2.1 1) rfl ek2 lk2 (by decide)) ?_
  refine gm_ev.istore_n (ls' := [some (.ref (C + 2)), some (.int p0), some (.int (s.2.1 1 k2)), none, none, none, none]) i68_9 (Nat.le_of_ble_eq_true rfl) rfl ?_
  refine gm_ev.ldc i68_10 rfl ?_
  refine gm_ev.iload_n i68_12 rfl ?_
  refine gm_ev.callT gm_mono_run (av := [.int (s.2.1 1 k2)]) (r := []) i68_13 rfl rfl rfl (Nat.le_of_ble_eq_true rfl) (gm_to_ix hd (Or.inr rfl)) ?_
  refine gm_ev.istore_n (ls' := [some (.ref (C + 2)), some (.int p0), some (.int (s.2.1 1 k2)), some (.int (gm_ix (s.2.1 1 k2))), none, none, none]) i68_16 (Nat.le_of_ble_eq_true rfl) rfl ?_
  refine gm_ev.iload_n i68_17 rfl ?_
  refine gm_ev.if_ge_t (tgt := 30) i68_18 (by decide) c5 ?_
  refine gm_ev.aload_n i68_30 rfl ?_
  refine gm_ev.dup i68_31 rfl ?_
  refine gm_ev.getfield (v := .int (s.1 41)) i68_32 rfl (bM_fld (j := 2) (fs := cF2 C s) rfl rfl) ?_
  refine gm_ev.iconst (v := 1) i68_35 (by decide) ?_
  refine gm_ev.iadd i68_36 ?_
  refine gm_ev.putfield (M' := (bM C (cH C (cI s 41 ((s.1 41) + (1 : Int32)))) G)) i68_37 rfl (bM_put (j := 2) (fs := cF2 C s) rfl (Nat.le_of_ble_eq_true rfl) hN (gm_fit_i _) rfl) ?_
  refine gm_ev.iload_n i68_40 rfl ?_
  refine gm_ev.if_ge_t (tgt := 48) i68_41 (by decide) c6 ?_
  refine gm_ev.getstatic i68_48 rfl ?_
  refine gm_ev.iload_n i68_51 rfl ?_
  refine gm_ev.ialoadS i68_52 (gm_ai_of hkt8 ek7 lk7 (by decide)) ?_
  refine gm_ev.istore (ls' := [some (.ref (C + 2)), some (.int p0), some (.int (s.2.1 1 k2)), some (.int (gm_ix (s.2.1 1 k2))), some (.int (kt8 k7)), none, none]) i68_53 (Nat.le_of_ble_eq_true rfl) rfl ?_
  refine gm_ev.iload_n i68_55 rfl ?_
  refine gm_ev.if_ge_f i68_56 c9 ?_
  refine gm_ev.iconst (v := 3) i68_59 (by decide) ?_
  refine gm_ev.goto (tgt := 65) i68_60 (by decide) ?_
  refine gm_ev.istore (ls' := [some (.ref (C + 2)), some (.int p0), some (.int (s.2.1 1 k2)), some (.int (gm_ix (s.2.1 1 k2))), some (.int (kt8 k7)), some (.int (3 : Int32)), none]) i68_65 (Nat.le_of_ble_eq_true rfl) rfl ?_
  refine gm_ev.iconst (v := 0) i68_67 (by decide) ?_
  refine gm_ev.istore (ls' := [some (.ref (C + 2)), some (.int p0), some (.int (s.2.1 1 k2)), some (.int (gm_ix (s.2.1 1 k2))), some (.int (kt8 k7)), some (.int (3 : Int32)), some (.int (0 : Int32))]) i68_68 (Nat.le_of_ble_eq_true rfl) rfl ?_
  refine gm_ev.aload_n i68_70 rfl ?_
  refine gm_ev.getfield (v := .ref (C + 3)) i68_71 rfl (bM_fld (j := 2) (fs := cF2 C (cI s 41 ((s.1 41) + (1 : Int32)))) rfl rfl) ?_
  refine gm_ev.iconst (v := 0) i68_74 (by decide) ?_
  refine gm_ev.callS gm_mono_run (av := [.ref (C + 3), .int (0 : Int32)]) (r := []) i68_75 rfl rfl rfl (Nat.le_of_ble_eq_true rfl) t10 ?_
  refine gm_ev.iload i68_78 rfl ?_
  refine gm_ev.if_le_f i68_80 c12 ?_
  refine gm_ev.aload_n i68_83 rfl ?_
  refine gm_ev.bipush (v := 40) i68_84 (by decide) ?_
  refine gm_ev.callV gm_mono_run (av := [.int (40 : Int32)]) (r := []) (ci := 6) (fs := cF2 C s11) (bM_get (j := 2) rfl) i68_86 rfl rfl rfl (Nat.le_of_ble_eq_true rfl) t14 ?_
  refine gm_ev.if_eq_t (tgt := 152) i68_89 (by decide) c16 ?_
  refine gm_ev.iload i68_152 rfl ?_
  refine gm_ev.iload i68_154 rfl ?_
  refine gm_ev.icmp_ge_f i68_156 c17 ?_
  refine gm_ev.null i68_159 ?_
  exact gm_ev.aretN i68_160 rfl
theorem t_X6_readAtom_0_ttfff_at92 {N0 : Nat} {K : Nat → Nat} {d C : Nat} {s : cS} {G : gm_H} {sz sl : Nat} {R : gm_R} {p0 : Int32} {k2 : Nat} {k7 : Nat} {kt8 : Nat → Int32} {s11 : cS} {r13 : Int32} {s15 : cS} (hN : N0 ≤ C) (h1 : s.2.2 40 = some (C + 1)) (ek2 : (s.1 41) = nI k2) (lk2 : k2 < 241) (hd : 0 < d) (c5 : 0 ≤ (gm_ix (s.2.1 1 k2))) (c6 : 0 ≤ (gm_ix (s.2.1 1 k2))) (ek7 : (gm_ix (s.2.1 1 k2)) = nI k7) (hkt8 : (bM C (cH C (cI s 41 ((s.1 41) + (1 : Int32)))) G) (K 0) = some (.inl (gm_scr, 8, .inl kt8))) (lk7 : k7 < 8) (c9 : ¬ 0 ≤ (gm_ix (s.2.1 1 k2))) (t10 : gm_to N0 K ra_nm (ra_mt K) d 192 [.ref (C + 3), .int (0 : Int32)] (bM C (cH C (cI s 41 ((s.1 41) + (1 : Int32)))) G) sz (.returned none, (bM C (cH C s11) G), sz, 0)) (c12 : ¬ (3 : Int32) ≤ 0) (t14 : gm_to N0 K ra_nm (ra_mt K) d 63 [.ref (C + 2), .int (40 : Int32)] (bM C (cH C s11) G) sz (.returned (some (.int r13)), (bM C (cH C s15) G), sz, 0)) (c16 : ¬ r13 = 0) (k : gm_ev N0 K ra_nm (ra_mt K) d (some (.object "RuleArena$Literal")) (gm_I cX6_readAtom) (gm_lkf (lkX6 false K)) 92 [some (.ref (C + 2)), some (.int p0), some (.int (s.2.1 1 k2)), none, some (.int (kt8 k7)), some (.int (3 : Int32)), some (.int (0 : Int32))] [] (bM C (cH C s15) G) sz sl R) : gm_ev N0 K ra_nm (ra_mt K) d (some (.object "RuleArena$Literal")) (gm_I cX6_readAtom) (gm_lkf (lkX6 false K)) 0 [some (.ref (C + 2)), some (.int p0), none, none, none, none, none] [] (bM C (cH C s) G) sz sl R := by
  refine gm_ev.aload_n i68_0 rfl ?_
  refine gm_ev.getfield (v := .ref (C + 1)) i68_1 rfl (bM_fld (j := 2) (fs := cF2 C s) rfl (cv_some h1)) ?_
  refine gm_ev.aload_n i68_4 rfl ?_
  refine gm_ev.getfield (v := .int (s.1 41)) i68_5 rfl (bM_fld (j := 2) (fs := cF2 C s) rfl rfl) ?_
  refine gm_ev.caload i68_8 (bM_ai (j := 1) (n := 241) (f := s.2.1 1) rfl ek2 lk2 (by decide)) ?_
  refine gm_ev.istore_n (ls' := [some (.ref (C + 2)), some (.int p0), some (.int (s.2.1 1 k2)), none, none, none, none]) i68_9 (Nat.le_of_ble_eq_true rfl) rfl ?_
  refine gm_ev.ldc i68_10 rfl ?_
  refine gm_ev.iload_n i68_12 rfl ?_
  refine gm_ev.callT gm_mono_run (av := [.int (s.2.1 1 k2)]) (r := []) i68_13 rfl rfl rfl (Nat.le_of_ble_eq_true rfl) (gm_to_ix hd (Or.inr rfl)) ?_
  refine gm_ev.istore_n (ls' := [some (.ref (C + 2)), some (.int p0), some (.int (s.2.1 1 k2)), some (.int (gm_ix (s.2.1 1 k2))), none, none, none]) i68_16 (Nat.le_of_ble_eq_true rfl) rfl ?_
  refine gm_ev.iload_n i68_17 rfl ?_
  refine gm_ev.if_ge_t (tgt := 30) i68_18 (by decide) c5 ?_
  refine gm_ev.aload_n i68_30 rfl ?_
  refine gm_ev.dup i68_31 rfl ?_
  refine gm_ev.getfield (v := .int (s.1 41)) i68_32 rfl (bM_fld (j := 2) (fs := cF2 C s) rfl rfl) ?_
  refine gm_ev.iconst (v := 1) i68_35 (by decide) ?_
  refine gm_ev.iadd i68_36 ?_
  refine gm_ev.putfield (M' := (bM C (cH C (cI s 41 ((s.1 41) + (1 : Int32)))) G)) i68_37 rfl (bM_put (j := 2) (fs := cF2 C s) rfl (Nat.le_of_ble_eq_true rfl) hN (gm_fit_i _) rfl) ?_
  refine gm_ev.iload_n i68_40 rfl ?_
  refine gm_ev.if_ge_t (tgt := 48) i68_41 (by decide) c6 ?_
  refine gm_ev.getstatic i68_48 rfl ?_
  refine gm_ev.iload_n i68_51 rfl ?_
  refine gm_ev.ialoadS i68_52 (gm_ai_of hkt8 ek7 lk7 (by decide)) ?_
  refine gm_ev.istore (ls' := [some (.ref (C + 2)), some (.int p0), some (.int (s.2.1 1 k2)), some (.int (gm_ix (s.2.1 1 k2))), some (.int (kt8 k7)), none, none]) i68_53 (Nat.le_of_ble_eq_true rfl) rfl ?_
  refine gm_ev.iload_n i68_55 rfl ?_
  refine gm_ev.if_ge_f i68_56 c9 ?_
  refine gm_ev.iconst (v := 3) i68_59 (by decide) ?_
  refine gm_ev.goto (tgt := 65) i68_60 (by decide) ?_
  refine gm_ev.istore (ls' := [some (.ref (C + 2)), some (.int p0), some (.int (s.2.1 1 k2)), some (.int (gm_ix (s.2.1 1 k2))), some (.int (kt8 k7)), some (.int (3 : Int32)), none]) i68_65 (Nat.le_of_ble_eq_true rfl) rfl ?_
  refine gm_ev.iconst (v := 0) i68_67 (by decide) ?_
  refine gm_ev.istore (ls' := [some (.ref (C + 2)), some (.int p0), some (.int (s.2.1 1 k2)), some (.int (gm_ix (s.2.1 1 k2))), some (.int (kt8 k7)), some (.int (3 : Int32)), some (.int (0 : Int32))]) i68_68 (Nat.le_of_ble_eq_true rfl) rfl ?_
  refine gm_ev.aload_n i68_70 rfl ?_
  refine gm_ev.getfield (v := .ref (C + 3)) i68_71 rfl (bM_fld (j := 2) (fs := cF2 C (cI s 41 ((s.1 41) + (1 : Int32)))) rfl rfl) ?_
  refine gm_ev.iconst (v := 0) i68_74 (by decide) ?_
  refine gm_ev.callS gm_mono_run (av := [.ref (C + 3), .int (0 : Int32)]) (r := []) i68_75 rfl rfl rfl (Nat.le_of_ble_eq_true rfl) t10 ?_
  refine gm_ev.iload i68_78 rfl ?_
  refine gm_ev.if_le_f i68_80 c12 ?_
  refine gm_ev.aload_n i68_83 rfl ?_
  refine gm_ev.bipush (v := 40) i68_84 (by decide) ?_
  refine gm_ev.callV gm_mono_run (av := [.int (40 : Int32)]) (r := []) (ci := 6) (fs := cF2 C s11) (bM_get (j := 2) rfl) i68_86 rfl rfl rfl (Nat.le_of_ble_eq_true rfl) t14 ?_
  refine gm_ev.if_eq_f i68_89 c16 ?_
  refine gm_ev.le (a := [some (.ref (C + 2)), some (.int p0), some (.int (s.2.1 1 k2)), none, some (.int (kt8 k7)), some (.int (3 : Int32)), some (.int (0 : Int32))]) (gm_leL.le (show gm_leL _ _ from ⟨rfl, ⟨rfl, ⟨rfl, ⟨rfl, ⟨rfl, ⟨rfl, trivial⟩⟩⟩⟩⟩⟩)) ?_
  exact k
theorem t_X6_readAtom_0_tfttt {N0 : Nat} {K : Nat → Nat} {d C : Nat} {s : cS} {G : gm_H} {sz sl : Nat} {p0 : Int32} {k2 : Nat} {s9 : cS} {r15 : Int32} {k17 : Nat} {k18 : Nat} {k19 : Nat} {G21 : gm_H} (hN : N0 ≤ C) (h1 : s.2.2 40 = some (C + 1)) (ek2 : (s.1 41) = nI k2) (lk2 : k2 < 241) (hd : 0 < d) (c5 : 0 ≤ (gm_ix (s.2.1 1 k2))) (c6 : ¬ 0 ≤ (gm_ix (s.2.1 1 k2))) (c7 : 0 ≤ (gm_ix (s.2.1 1 k2))) (t8 : gm_to N0 K ra_nm (ra_mt K) d 192 [.ref (C + 3), .int (0 : Int32)] (bM C (cH C (cI s 41 ((s.1 41) + (1 : Int32)))) G) sz (.returned none, (bM C (cH C s9) G), sz, 0)) (c10 : (0 : Int32) ≤ 0) (c11 : (0 : Int32) ≤ (0 : Int32)) (hg_sz : C + 34 ≤ sz) (bd12 : gm_bd G sz) (t16 : gm_to N0 K ra_nm (ra_mt K) d 55 [.int (s.2.1 1 k2), .int (0 : Int32)] (bM C (cH C s9) (gm_new G sz (.inr (5, [.int 0, .int 0, .int 0, .int 0, .int 0, .int 0, .int 0])))) (sz + 1) (.returned (some (.int r15)), (bM C (cH C s9) (gm_new G sz (.inr (5, [.int 0, .int 0, .int 0, .int 0, .int 0, .int 0, .int 0])))), (sz + 1), 0)) (ek17 : (0 : Int32) = nI k17) (lk17 : k17 < 3) (ek18 : (1 : Int32) = nI k18) (lk18 : k18 < 3) (ek19 : (2 : Int32) = nI k19) (lk19 : k19 < 3) (t20 : gm_to N0 K ra_nm (ra_mt K) d 54 [.ref sz, .int p0, .int r15, .int (s9.2.1 3 k17), .int (s9.2.1 3 k18), .int (s9.2.1 3 k19)] (bM C (cH C s9) (gm_new G sz (.inr (5, [.int 0, .int 0, .int 0, .int 0, .int 0, .int 0, .int 0])))) (sz + 1) (.returned none, (bM C (cH C s9) G21), (sz + 1), 0)) : gm_ev N0 K ra_nm (ra_mt K) d (some (.object "RuleArena$Literal")) (gm_I cX6_readAtom) (gm_lkf (lkX6 false K)) 0 [some (.ref (C + 2)), some (.int p0), none, none, none, none, none] [] (bM C (cH C s) G) sz sl (.returned (some (.ref sz)), (bM C (cH C s9) G21), (sz + 1), (sl + 7)) := by
  refine gm_ev.aload_n i68_0 rfl ?_
  refine gm_ev.getfield (v := .ref (C + 1)) i68_1 rfl (bM_fld (j := 2) (fs := cF2 C s) rfl (cv_some h1)) ?_
  refine gm_ev.aload_n i68_4 rfl ?_
  refine gm_ev.getfield (v := .int (s.1 41)) i68_5 rfl (bM_fld (j := 2) (fs := cF2 C s) rfl rfl) ?_
  refine gm_ev.caload i68_8 (bM_ai (j := 1) (n := 241) (f := s.2.1 1) rfl ek2 lk2 (by decide)) ?_
  refine gm_ev.istore_n (ls' := [some (.ref (C + 2)), some (.int p0), some (.int (s.2.1 1 k2)), none, none, none, none]) i68_9 (Nat.le_of_ble_eq_true rfl) rfl ?_
  refine gm_ev.ldc i68_10 rfl ?_
  refine gm_ev.iload_n i68_12 rfl ?_
  refine gm_ev.callT gm_mono_run (av := [.int (s.2.1 1 k2)]) (r := []) i68_13 rfl rfl rfl (Nat.le_of_ble_eq_true rfl) (gm_to_ix hd (Or.inr rfl)) ?_
  refine gm_ev.istore_n (ls' := [some (.ref (C + 2)), some (.int p0), some (.int (s.2.1 1 k2)), some (.int (gm_ix (s.2.1 1 k2))), none, none, none]) i68_16 (Nat.le_of_ble_eq_true rfl) rfl ?_
  refine gm_ev.iload_n i68_17 rfl ?_
  refine gm_ev.if_ge_t (tgt := 30) i68_18 (by decide) c5 ?_
  refine gm_ev.aload_n i68_30 rfl ?_
  refine gm_ev.dup i68_31 rfl ?_
  refine gm_ev.getfield (v := .int (s.1 41)) i68_32 rfl (bM_fld (j := 2) (fs := cF2 C s) rfl rfl) ?_
  refine gm_ev.iconst (v := 1) i68_35 (by decide) ?_
  refine gm_ev.iadd i68_36 ?_
  refine gm_ev.putfield (M' := (bM C (cH C (cI s 41 ((s.1 41) + (1 : Int32)))) G)) i68_37 rfl (bM_put (j := 2) (fs := cF2 C s) rfl (Nat.le_of_ble_eq_true rfl) hN (gm_fit_i _) rfl) ?_
  refine gm_ev.iload_n i68_40 rfl ?_
  refine gm_ev.if_ge_f i68_41 c6 ?_
  refine gm_ev.iconst (v := 0) i68_44 (by decide) ?_
  refine gm_ev.goto (tgt := 53) i68_45 (by decide) ?_
  refine gm_ev.istore (ls' := [some (.ref (C + 2)), some (.int p0), some (.int (s.2.1 1 k2)), some (.int (gm_ix (s.2.1 1 k2))), some (.int (0 : Int32)), none, none]) i68_53 (Nat.le_of_ble_eq_true rfl) rfl ?_
  refine gm_ev.iload_n i68_55 rfl ?_
  refine gm_ev.if_ge_t (tgt := 63) i68_56 (by decide) c7 ?_
  refine gm_ev.iload i68_63 rfl ?_
  refine gm_ev.istore (ls' := [some (.ref (C + 2)), some (.int p0), some (.int (s.2.1 1 k2)), some (.int (gm_ix (s.2.1 1 k2))), some (.int (0 : Int32)), some (.int (0 : Int32)), none]) i68_65 (Nat.le_of_ble_eq_true rfl) rfl ?_
  refine gm_ev.iconst (v := 0) i68_67 (by decide) ?_
  refine gm_ev.istore (ls' := [some (.ref (C + 2)), some (.int p0), some (.int (s.2.1 1 k2)), some (.int (gm_ix (s.2.1 1 k2))), some (.int (0 : Int32)), some (.int (0 : Int32)), some (.int (0 : Int32))]) i68_68 (Nat.le_of_ble_eq_true rfl) rfl ?_
  refine gm_ev.aload_n i68_70 rfl ?_
  refine gm_ev.getfield (v := .ref (C + 3)) i68_71 rfl (bM_fld (j := 2) (fs := cF2 C (cI s 41 ((s.1 41) + (1 : Int32)))) rfl rfl) ?_
  refine gm_ev.iconst (v := 0) i68_74 (by decide) ?_
  refine gm_ev.callS gm_mono_run (av := [.ref (C + 3), .int (0 : Int32)]) (r := []) i68_75 rfl rfl rfl (Nat.le_of_ble_eq_true rfl) t8 ?_
  refine gm_ev.iload i68_78 rfl ?_
  refine gm_ev.if_le_t (tgt := 152) i68_80 (by decide) c10 ?_
  refine gm_ev.iload i68_152 rfl ?_
  refine gm_ev.iload i68_154 rfl ?_
  refine gm_ev.icmp_ge_t (tgt := 161) i68_156 (by decide) c11 ?_
  refine gm_ev.new i68_161 rfl ?_
  rw [cG_new hg_sz]
  have w13 : (gm_new G sz (.inr (5, [.int 0, .int 0, .int 0, .int 0, .int 0, .int 0, .int 0]))) sz = some (.inr (5, [.int 0, .int 0, .int 0, .int 0, .int 0, .int 0, .int 0])) := gm_set_eq
  have bd14 : gm_bd (gm_new G sz (.inr (5, [.int 0, .int 0, .int 0, .int 0, .int 0, .int 0, .int 0]))) (sz + 1) := gm_bd.new bd12
  refine gm_ev.dup i68_164 rfl ?_
  refine gm_ev.iload_n i68_165 rfl ?_
  refine gm_ev.iload_n i68_166 rfl ?_
  refine gm_ev.iload i68_167 rfl ?_
  refine gm_ev.callS gm_mono_run (av := [.int (s.2.1 1 k2), .int (0 : Int32)]) (r := [.int p0, .ref sz, .ref sz]) i68_169 rfl rfl rfl (Nat.le_of_ble_eq_true rfl) t16 ?_
  refine gm_ev.aload_n i68_172 rfl ?_
  refine gm_ev.getfield (v := .ref (C + 3)) i68_173 rfl (bM_fld (j := 2) (fs := cF2 C s9) rfl rfl) ?_
  refine gm_ev.iconst (v := 0) i68_176 (by decide) ?_
  refine gm_ev.iaload i68_177 (bM_ai (j := 3) (n := 3) (f := s9.2.1 3) rfl ek17 lk17 (by decide)) ?_
  refine gm_ev.aload_n i68_178 rfl ?_
  refine gm_ev.getfield (v := .ref (C + 3)) i68_179 rfl (bM_fld (j := 2) (fs := cF2 C s9) rfl rfl) ?_
  refine gm_ev.iconst (v := 1) i68_182 (by decide) ?_
  refine gm_ev.iaload i68_183 (bM_ai (j := 3) (n := 3) (f := s9.2.1 3) rfl ek18 lk18 (by decide)) ?_
  refine gm_ev.aload_n i68_184 rfl ?_
  refine gm_ev.getfield (v := .ref (C + 3)) i68_185 rfl (bM_fld (j := 2) (fs := cF2 C s9) rfl rfl) ?_
  refine gm_ev.iconst (v := 2) i68_188 (by decide) ?_
  refine gm_ev.iaload i68_189 (bM_ai (j := 3) (n := 3) (f := s9.2.1 3) rfl ek19 lk19 (by decide)) ?_
  refine gm_ev.callI gm_mono_run (av := [.int p0, .int r15, .int (s9.2.1 3 k17), .int (s9.2.1 3 k18), .int (s9.2.1 3 k19)]) (r := [.ref sz]) i68_190 rfl rfl rfl (Nat.le_of_ble_eq_true rfl) t20 ?_
  exact gm_ev.aret i68_193 rfl
theorem t_X6_readAtom_0_tfttf {N0 : Nat} {K : Nat → Nat} {d C : Nat} {s : cS} {G : gm_H} {sz sl : Nat} {p0 : Int32} {k2 : Nat} {s9 : cS} (hN : N0 ≤ C) (h1 : s.2.2 40 = some (C + 1)) (ek2 : (s.1 41) = nI k2) (lk2 : k2 < 241) (hd : 0 < d) (c5 : 0 ≤ (gm_ix (s.2.1 1 k2))) (c6 : ¬ 0 ≤ (gm_ix (s.2.1 1 k2))) (c7 : 0 ≤ (gm_ix (s.2.1 1 k2))) (t8 : gm_to N0 K ra_nm (ra_mt K) d 192 [.ref (C + 3), .int (0 : Int32)] (bM C (cH C (cI s 41 ((s.1 41) + (1 : Int32)))) G) sz (.returned none, (bM C (cH C s9) G), sz, 0)) (c10 : (0 : Int32) ≤ 0) (c11 : ¬ (0 : Int32) ≤ (0 : Int32)) : gm_ev N0 K ra_nm (ra_mt K) d (some (.object "RuleArena$Literal")) (gm_I cX6_readAtom) (gm_lkf (lkX6 false K)) 0 [some (.ref (C + 2)), some (.int p0), none, none, none, none, none] [] (bM C (cH C s) G) sz sl (.returned (some (.null)), (bM C (cH C s9) G), sz, sl) := by
  refine gm_ev.aload_n i68_0 rfl ?_
  refine gm_ev.getfield (v := .ref (C + 1)) i68_1 rfl (bM_fld (j := 2) (fs := cF2 C s) rfl (cv_some h1)) ?_
  refine gm_ev.aload_n i68_4 rfl ?_
  refine gm_ev.getfield (v := .int (s.1 41)) i68_5 rfl (bM_fld (j := 2) (fs := cF2 C s) rfl rfl) ?_
  refine gm_ev.caload i68_8 (bM_ai (j := 1) (n := 241) (f := s.2.1 1) rfl ek2 lk2 (by decide)) ?_
  refine gm_ev.istore_n (ls' := [some (.ref (C + 2)), some (.int p0), some (.int (s.2.1 1 k2)), none, none, none, none]) i68_9 (Nat.le_of_ble_eq_true rfl) rfl ?_
  refine gm_ev.ldc i68_10 rfl ?_
  refine gm_ev.iload_n i68_12 rfl ?_
  refine gm_ev.callT gm_mono_run (av := [.int (s.2.1 1 k2)]) (r := []) i68_13 rfl rfl rfl (Nat.le_of_ble_eq_true rfl) (gm_to_ix hd (Or.inr rfl)) ?_
  refine gm_ev.istore_n (ls' := [some (.ref (C + 2)), some (.int p0), some (.int (s.2.1 1 k2)), some (.int (gm_ix (s.2.1 1 k2))), none, none, none]) i68_16 (Nat.le_of_ble_eq_true rfl) rfl ?_
  refine gm_ev.iload_n i68_17 rfl ?_
  refine gm_ev.if_ge_t (tgt := 30) i68_18 (by decide) c5 ?_
  refine gm_ev.aload_n i68_30 rfl ?_
  refine gm_ev.dup i68_31 rfl ?_
  refine gm_ev.getfield (v := .int (s.1 41)) i68_32 rfl (bM_fld (j := 2) (fs := cF2 C s) rfl rfl) ?_
  refine gm_ev.iconst (v := 1) i68_35 (by decide) ?_
  refine gm_ev.iadd i68_36 ?_
  refine gm_ev.putfield (M' := (bM C (cH C (cI s 41 ((s.1 41) + (1 : Int32)))) G)) i68_37 rfl (bM_put (j := 2) (fs := cF2 C s) rfl (Nat.le_of_ble_eq_true rfl) hN (gm_fit_i _) rfl) ?_
  refine gm_ev.iload_n i68_40 rfl ?_
  refine gm_ev.if_ge_f i68_41 c6 ?_
  refine gm_ev.iconst (v := 0) i68_44 (by decide) ?_
  refine gm_ev.goto (tgt := 53) i68_45 (by decide) ?_
  refine gm_ev.istore (ls' := [some (.ref (C + 2)), some (.int p0), some (.int (s.2.1 1 k2)), some (.int (gm_ix (s.2.1 1 k2))), some (.int (0 : Int32)), none, none]) i68_53 (Nat.le_of_ble_eq_true rfl) rfl ?_
  refine gm_ev.iload_n i68_55 rfl ?_
  refine gm_ev.if_ge_t (tgt := 63) i68_56 (by decide) c7 ?_
  refine gm_ev.iload i68_63 rfl ?_
  refine gm_ev.istore (ls' := [some (.ref (C + 2)), some (.int p0), some (.int (s.2.1 1 k2)), some (.int (gm_ix (s.2.1 1 k2))), some (.int (0 : Int32)), some (.int (0 : Int32)), none]) i68_65 (Nat.le_of_ble_eq_true rfl) rfl ?_
  refine gm_ev.iconst (v := 0) i68_67 (by decide) ?_
  refine gm_ev.istore (ls' := [some (.ref (C + 2)), some (.int p0), some (.int (s.2.1 1 k2)), some (.int (gm_ix (s.2.1 1 k2))), some (.int (0 : Int32)), some (.int (0 : Int32)), some (.int (0 : Int32))]) i68_68 (Nat.le_of_ble_eq_true rfl) rfl ?_
  refine gm_ev.aload_n i68_70 rfl ?_
  refine gm_ev.getfield (v := .ref (C + 3)) i68_71 rfl (bM_fld (j := 2) (fs := cF2 C (cI s 41 ((s.1 41) + (1 : Int32)))) rfl rfl) ?_
  refine gm_ev.iconst (v := 0) i68_74 (by decide) ?_
  refine gm_ev.callS gm_mono_run (av := [.ref (C + 3), .int (0 : Int32)]) (r := []) i68_75 rfl rfl rfl (Nat.le_of_ble_eq_true rfl) t8 ?_
  refine gm_ev.iload i68_78 rfl ?_
  refine gm_ev.if_le_t (tgt := 152) i68_80 (by decide) c10 ?_
  refine gm_ev.iload i68_152 rfl ?_
  refine gm_ev.iload i68_154 rfl ?_
  refine gm_ev.icmp_ge_f i68_156 c11 ?_
  refine gm_ev.null i68_159 ?_
  exact gm_ev.aretN i68_160 rfl
theorem t_X6_readAtom_0_tftftt {N0 : Nat} {K : Nat → Nat} {d C : Nat} {s : cS} {G : gm_H} {sz sl : Nat} {p0 : Int32} {k2 : Nat} {s9 : cS} {r11 : Int32} {s13 : cS} {r19 : Int32} {k21 : Nat} {k22 : Nat} {k23 : Nat} {G25 : gm_H} (hN : N0 ≤ C) (h1 : s.2.2 40 = some (C + 1)) (ek2 : (s.1 41) = nI k2) (lk2 : k2 < 241) (hd : 0 < d) (c5 : 0 ≤ (gm_ix (s.2.1 1 k2))) (c6 : ¬ 0 ≤ (gm_ix (s.2.1 1 k2))) (c7 : 0 ≤ (gm_ix (s.2.1 1 k2))) (t8 : gm_to N0 K ra_nm (ra_mt K) d 192 [.ref (C + 3), .int (0 : Int32)] (bM C (cH C (cI s 41 ((s.1 41) + (1 : Int32)))) G) sz (.returned none, (bM C (cH C s9) G), sz, 0)) (c10 : ¬ (0 : Int32) ≤ 0) (t12 : gm_to N0 K ra_nm (ra_mt K) d 63 [.ref (C + 2), .int (40 : Int32)] (bM C (cH C s9) G) sz (.returned (some (.int r11)), (bM C (cH C s13) G), sz, 0)) (c14 : r11 = 0) (c15 : (0 : Int32) ≤ (0 : Int32)) (hg_sz : C + 34 ≤ sz) (bd16 : gm_bd G sz) (t20 : gm_to N0 K ra_nm (ra_mt K) d 55 [.int (s.2.1 1 k2), .int (0 : Int32)] (bM C (cH C s13) (gm_new G sz (.inr (5, [.int 0, .int 0, .int 0, .int 0, .int 0, .int 0, .int 0])))) (sz + 1) (.returned (some (.int r19)), (bM C (cH C s13) (gm_new G sz (.inr (5, [.int 0, .int 0, .int 0, .int 0, .int 0, .int 0, .int 0])))), (sz + 1), 0)) (ek21 : (0 : Int32) = nI k21) (lk21 : k21 < 3) (ek22 : (1 : Int32) = nI k22) (lk22 : k22 < 3) (ek23 : (2 : Int32) = nI k23) (lk23 : k23 < 3) (t24 : gm_to N0 K ra_nm (ra_mt K) d 54 [.ref sz, .int p0, .int r19, .int (s13.2.1 3 k21), .int (s13.2.1 3 k22), .int (s13.2.1 3 k23)] (bM C (cH C s13) (gm_new G sz (.inr (5, [.int 0, .int 0, .int 0, .int 0, .int 0, .int 0, .int 0])))) (sz + 1) (.returned none, (bM C (cH C s13) G25), (sz + 1), 0)) : gm_ev N0 K ra_nm (ra_mt K) d (some (.object "RuleArena$Literal")) (gm_I cX6_readAtom) (gm_lkf (lkX6 false K)) 0 [some (.ref (C + 2)), some (.int p0), none, none, none, none, none] [] (bM C (cH C s) G) sz sl (.returned (some (.ref sz)), (bM C (cH C s13) G25), (sz + 1), (sl + 7)) := by
  refine gm_ev.aload_n i68_0 rfl ?_
  refine gm_ev.getfield (v := .ref (C + 1)) i68_1 rfl (bM_fld (j := 2) (fs := cF2 C s) rfl (cv_some h1)) ?_
  refine gm_ev.aload_n i68_4 rfl ?_
  refine gm_ev.getfield (v := .int (s.1 41)) i68_5 rfl (bM_fld (j := 2) (fs := cF2 C s) rfl rfl) ?_
  refine gm_ev.caload i68_8 (bM_ai (j := 1) (n := 241) (f := s.2.1 1) rfl ek2 lk2 (by decide)) ?_
  refine gm_ev.istore_n (ls' := [some (.ref (C + 2)), some (.int p0), some (.int (s.2.1 1 k2)), none, none, none, none]) i68_9 (Nat.le_of_ble_eq_true rfl) rfl ?_
  refine gm_ev.ldc i68_10 rfl ?_
  refine gm_ev.iload_n i68_12 rfl ?_
  refine gm_ev.callT gm_mono_run (av := [.int (s.2.1 1 k2)]) (r := []) i68_13 rfl rfl rfl (Nat.le_of_ble_eq_true rfl) (gm_to_ix hd (Or.inr rfl)) ?_
  refine gm_ev.istore_n (ls' := [some (.ref (C + 2)), some (.int p0), some (.int (s.2.1 1 k2)), some (.int (gm_ix (s.2.1 1 k2))), none, none, none]) i68_16 (Nat.le_of_ble_eq_true rfl) rfl ?_
  refine gm_ev.iload_n i68_17 rfl ?_
  refine gm_ev.if_ge_t (tgt := 30) i68_18 (by decide) c5 ?_
  refine gm_ev.aload_n i68_30 rfl ?_
  refine gm_ev.dup i68_31 rfl ?_
  refine gm_ev.getfield (v := .int (s.1 41)) i68_32 rfl (bM_fld (j := 2) (fs := cF2 C s) rfl rfl) ?_
  refine gm_ev.iconst (v := 1) i68_35 (by decide) ?_
  refine gm_ev.iadd i68_36 ?_
  refine gm_ev.putfield (M' := (bM C (cH C (cI s 41 ((s.1 41) + (1 : Int32)))) G)) i68_37 rfl (bM_put (j := 2) (fs := cF2 C s) rfl (Nat.le_of_ble_eq_true rfl) hN (gm_fit_i _) rfl) ?_
  refine gm_ev.iload_n i68_40 rfl ?_
  refine gm_ev.if_ge_f i68_41 c6 ?_
  refine gm_ev.iconst (v := 0) i68_44 (by decide) ?_
  refine gm_ev.goto (tgt := 53) i68_45 (by decide) ?_
  refine gm_ev.istore (ls' := [some (.ref (C + 2)), some (.int p0), some (.int (s.2.1 1 k2)), some (.int (gm_ix (s.2.1 1 k2))), some (.int (0 : Int32)), none, none]) i68_53 (Nat.le_of_ble_eq_true rfl) rfl ?_
  refine gm_ev.iload_n i68_55 rfl ?_
  refine gm_ev.if_ge_t (tgt := 63) i68_56 (by decide) c7 ?_
  refine gm_ev.iload i68_63 rfl ?_
  refine gm_ev.istore (ls' := [some (.ref (C + 2)), some (.int p0), some (.int (s.2.1 1 k2)), some (.int (gm_ix (s.2.1 1 k2))), some (.int (0 : Int32)), some (.int (0 : Int32)), none]) i68_65 (Nat.le_of_ble_eq_true rfl) rfl ?_
  refine gm_ev.iconst (v := 0) i68_67 (by decide) ?_
  refine gm_ev.istore (ls' := [some (.ref (C + 2)), some (.int p0), some (.int (s.2.1 1 k2)), some (.int (gm_ix (s.2.1 1 k2))), some (.int (0 : Int32)), some (.int (0 : Int32)), some (.int (0 : Int32))]) i68_68 (Nat.le_of_ble_eq_true rfl) rfl ?_
  refine gm_ev.aload_n i68_70 rfl ?_
  refine gm_ev.getfield (v := .ref (C + 3)) i68_71 rfl (bM_fld (j := 2) (fs := cF2 C (cI s 41 ((s.1 41) + (1 : Int32)))) rfl rfl) ?_
  refine gm_ev.iconst (v := 0) i68_74 (by decide) ?_
  refine gm_ev.callS gm_mono_run (av := [.ref (C + 3), .int (0 : Int32)]) (r := []) i68_75 rfl rfl rfl (Nat.le_of_ble_eq_true rfl) t8 ?_
  refine gm_ev.iload i68_78 rfl ?_
  refine gm_ev.if_le_f i68_80 c10 ?_
  refine gm_ev.aload_n i68_83 rfl ?_
  refine gm_ev.bipush (v := 40) i68_84 (by decide) ?_
  refine gm_ev.callV gm_mono_run (av := [.int (40 : Int32)]) (r := []) (ci := 6) (fs := cF2 C s9) (bM_get (j := 2) rfl) i68_86 rfl rfl rfl (Nat.le_of_ble_eq_true rfl) t12 ?_
  refine gm_ev.if_eq_t (tgt := 152) i68_89 (by decide) c14 ?_
  refine gm_ev.iload i68_152 rfl ?_
  refine gm_ev.iload i68_154 rfl ?_
  refine gm_ev.icmp_ge_t (tgt := 161) i68_156 (by decide) c15 ?_
  refine gm_ev.new i68_161 rfl ?_
  rw [cG_new hg_sz]
  have w17 : (gm_new G sz (.inr (5, [.int 0, .int 0, .int 0, .int 0, .int 0, .int 0, .int 0]))) sz = some (.inr (5, [.int 0, .int 0, .int 0, .int 0, .int 0, .int 0, .int 0])) := gm_set_eq
  have bd18 : gm_bd (gm_new G sz (.inr (5, [.int 0, .int 0, .int 0, .int 0, .int 0, .int 0, .int 0]))) (sz + 1) := gm_bd.new bd16
  refine gm_ev.dup i68_164 rfl ?_
  refine gm_ev.iload_n i68_165 rfl ?_
  refine gm_ev.iload_n i68_166 rfl ?_
  refine gm_ev.iload i68_167 rfl ?_
  refine gm_ev.callS gm_mono_run (av := [.int (s.2.1 1 k2), .int (0 : Int32)]) (r := [.int p0, .ref sz, .ref sz]) i68_169 rfl rfl rfl (Nat.le_of_ble_eq_true rfl) t20 ?_
  refine gm_ev.aload_n i68_172 rfl ?_
  refine gm_ev.getfield (v := .ref (C + 3)) i68_173 rfl (bM_fld (j := 2) (fs := cF2 C s13) rfl rfl) ?_
  refine gm_ev.iconst (v := 0) i68_176 (by decide) ?_
  refine gm_ev.iaload i68_177 (bM_ai (j := 3) (n := 3) (f := s13.2.1 3) rfl ek21 lk21 (by decide)) ?_
  refine gm_ev.aload_n i68_178 rfl ?_
  refine gm_ev.getfield (v := .ref (C + 3)) i68_179 rfl (bM_fld (j := 2) (fs := cF2 C s13) rfl rfl) ?_
  refine gm_ev.iconst (v := 1) i68_182 (by decide) ?_
  refine gm_ev.iaload i68_183 (bM_ai (j := 3) (n := 3) (f := s13.2.1 3) rfl ek22 lk22 (by decide)) ?_
  refine gm_ev.aload_n i68_184 rfl ?_
  refine gm_ev.getfield (v := .ref (C + 3)) i68_185 rfl (bM_fld (j := 2) (fs := cF2 C s13) rfl rfl) ?_
  refine gm_ev.iconst (v := 2) i68_188 (by decide) ?_
  refine gm_ev.iaload i68_189 (bM_ai (j := 3) (n := 3) (f := s13.2.1 3) rfl ek23 lk23 (by decide)) ?_
  refine gm_ev.callI gm_mono_run (av := [.int p0, .int r19, .int (s13.2.1 3 k21), .int (s13.2.1 3 k22), .int (s13.2.1 3 k23)]) (r := [.ref sz]) i68_190 rfl rfl rfl (Nat.le_of_ble_eq_true rfl) t24 ?_
  exact gm_ev.aret i68_193 rfl
theorem t_X6_readAtom_0_tftftf {N0 : Nat} {K : Nat → Nat} {d C : Nat} {s : cS} {G : gm_H} {sz sl : Nat} {p0 : Int32} {k2 : Nat} {s9 : cS} {r11 : Int32} {s13 : cS} (hN : N0 ≤ C) (h1 : s.2.2 40 = some (C + 1)) (ek2 : (s.1 41) = nI k2) (lk2 : k2 < 241) (hd : 0 < d) (c5 : 0 ≤ (gm_ix (s.2.1 1 k2))) (c6 : ¬ 0 ≤ (gm_ix (s.2.1 1 k2))) (c7 : 0 ≤ (gm_ix (s.2.1 1 k2))) (t8 : gm_to N0 K ra_nm (ra_mt K) d 192 [.ref (C + 3), .int (0 : Int32)] (bM C (cH C (cI s 41 ((s.1 41) + (1 : Int32)))) G) sz (.returned none, (bM C (cH C s9) G), sz, 0)) (c10 : ¬ (0 : Int32) ≤ 0) (t12 : gm_to N0 K ra_nm (ra_mt K) d 63 [.ref (C + 2), .int (40 : Int32)] (bM C (cH C s9) G) sz (.returned (some (.int r11)), (bM C (cH C s13) G), sz, 0)) (c14 : r11 = 0) (c15 : ¬ (0 : Int32) ≤ (0 : Int32)) : gm_ev N0 K ra_nm (ra_mt K) d (some (.object "RuleArena$Literal")) (gm_I cX6_readAtom) (gm_lkf (lkX6 false K)) 0 [some (.ref (C + 2)), some (.int p0), none, none, none, none, none] [] (bM C (cH C s) G) sz sl (.returned (some (.null)), (bM C (cH C s13) G), sz, sl) := by
  refine gm_ev.aload_n i68_0 rfl ?_
  refine gm_ev.getfield (v := .ref (C + 1)) i68_1 rfl (bM_fld (j := 2) (fs := cF2 C s) rfl (cv_some h1)) ?_
  refine gm_ev.aload_n i68_4 rfl ?_
  refine gm_ev.getfield (v := .int (s.1 41)) i68_5 rfl (bM_fld (j := 2) (fs := cF2 C s) rfl rfl) ?_
  refine gm_ev.caload i68_8 (bM_ai (j := 1) (n := 241) (f := s.2.1 1) rfl ek2 lk2 (by decide)) ?_
  refine gm_ev.istore_n (ls' := [some (.ref (C + 2)), some (.int p0), some (.int (s.2.1 1 k2)), none, none, none, none]) i68_9 (Nat.le_of_ble_eq_true rfl) rfl ?_
  refine gm_ev.ldc i68_10 rfl ?_
  refine gm_ev.iload_n i68_12 rfl ?_
  refine gm_ev.callT gm_mono_run (av := [.int (s.2.1 1 k2)]) (r := []) i68_13 rfl rfl rfl (Nat.le_of_ble_eq_true rfl) (gm_to_ix hd (Or.inr rfl)) ?_
  refine gm_ev.istore_n (ls' := [some (.ref (C + 2)), some (.int p0), some (.int (s.2.1 1 k2)), some (.int (gm_ix (s.2.1 1 k2))), none, none, none]) i68_16 (Nat.le_of_ble_eq_true rfl) rfl ?_
  refine gm_ev.iload_n i68_17 rfl ?_
  refine gm_ev.if_ge_t (tgt := 30) i68_18 (by decide) c5 ?_
  refine gm_ev.aload_n i68_30 rfl ?_
  refine gm_ev.dup i68_31 rfl ?_
  refine gm_ev.getfield (v := .int (s.1 41)) i68_32 rfl (bM_fld (j := 2) (fs := cF2 C s) rfl rfl) ?_
  refine gm_ev.iconst (v := 1) i68_35 (by decide) ?_
  refine gm_ev.iadd i68_36 ?_
  refine gm_ev.putfield (M' := (bM C (cH C (cI s 41 ((s.1 41) + (1 : Int32)))) G)) i68_37 rfl (bM_put (j := 2) (fs := cF2 C s) rfl (Nat.le_of_ble_eq_true rfl) hN (gm_fit_i _) rfl) ?_
  refine gm_ev.iload_n i68_40 rfl ?_
  refine gm_ev.if_ge_f i68_41 c6 ?_
  refine gm_ev.iconst (v := 0) i68_44 (by decide) ?_
  refine gm_ev.goto (tgt := 53) i68_45 (by decide) ?_
  refine gm_ev.istore (ls' := [some (.ref (C + 2)), some (.int p0), some (.int (s.2.1 1 k2)), some (.int (gm_ix (s.2.1 1 k2))), some (.int (0 : Int32)), none, none]) i68_53 (Nat.le_of_ble_eq_true rfl) rfl ?_
  refine gm_ev.iload_n i68_55 rfl ?_
  refine gm_ev.if_ge_t (tgt := 63) i68_56 (by decide) c7 ?_
  refine gm_ev.iload i68_63 rfl ?_
  refine gm_ev.istore (ls' := [some (.ref (C + 2)), some (.int p0), some (.int (s.2.1 1 k2)), some (.int (gm_ix (s.2.1 1 k2))), some (.int (0 : Int32)), some (.int (0 : Int32)), none]) i68_65 (Nat.le_of_ble_eq_true rfl) rfl ?_
  refine gm_ev.iconst (v := 0) i68_67 (by decide) ?_
  refine gm_ev.istore (ls' := [some (.ref (C + 2)), some (.int p0), some (.int (s.2.1 1 k2)), some (.int (gm_ix (s.2.1 1 k2))), some (.int (0 : Int32)), some (.int (0 : Int32)), some (.int (0 : Int32))]) i68_68 (Nat.le_of_ble_eq_true rfl) rfl ?_
  refine gm_ev.aload_n i68_70 rfl ?_
  refine gm_ev.getfield (v := .ref (C + 3)) i68_71 rfl (bM_fld (j := 2) (fs := cF2 C (cI s 41 ((s.1 41) + (1 : Int32)))) rfl rfl) ?_
  refine gm_ev.iconst (v := 0) i68_74 (by decide) ?_
  refine gm_ev.callS gm_mono_run (av := [.ref (C + 3), .int (0 : Int32)]) (r := []) i68_75 rfl rfl rfl (Nat.le_of_ble_eq_true rfl) t8 ?_
  refine gm_ev.iload i68_78 rfl ?_
  refine gm_ev.if_le_f i68_80 c10 ?_
  refine gm_ev.aload_n i68_83 rfl ?_
  refine gm_ev.bipush (v := 40) i68_84 (by decide) ?_
  refine gm_ev.callV gm_mono_run (av := [.int (40 : Int32)]) (r := []) (ci := 6) (fs := cF2 C s9) (bM_get (j := 2) rfl) i68_86 rfl rfl rfl (Nat.le_of_ble_eq_true rfl) t12 ?_
  refine gm_ev.if_eq_t (tgt := 152) i68_89 (by decide) c14 ?_
  refine gm_ev.iload i68_152 rfl ?_
  refine gm_ev.iload i68_154 rfl ?_
  refine gm_ev.icmp_ge_f i68_156 c15 ?_
  refine gm_ev.null i68_159 ?_
  exact gm_ev.aretN i68_160 rfl
theorem t_X6_readAtom_0_tftff_at92 {N0 : Nat} {K : Nat → Nat} {d C : Nat} {s : cS} {G : gm_H} {sz sl : Nat} {R : gm_R} {p0 : Int32} {k2 : Nat} {s9 : cS} {r11 : Int32} {s13 : cS} (hN : N0 ≤ C) (h1 : s.2.2 40 = some (C + 1)) (ek2 : (s.1 41) = nI k2) (lk2 : k2 < 241) (hd : 0 < d) (c5 : 0 ≤ (gm_ix (s.2.1 1 k2))) (c6 : ¬ 0 ≤ (gm_ix (s.2.1 1 k2))) (c7 : 0 ≤ (gm_ix (s.2.1 1 k2))) (t8 : gm_to N0 K ra_nm (ra_mt K) d 192 [.ref (C + 3), .int (0 : Int32)] (bM C (cH C (cI s 41 ((s.1 41) + (1 : Int32)))) G) sz (.returned none, (bM C (cH C s9) G), sz, 0)) (c10 : ¬ (0 : Int32) ≤ 0) (t12 : gm_to N0 K ra_nm (ra_mt K) d 63 [.ref (C + 2), .int (40 : Int32)] (bM C (cH C s9) G) sz (.returned (some (.int r11)), (bM C (cH C s13) G), sz, 0)) (c14 : ¬ r11 = 0) (k : gm_ev N0 K ra_nm (ra_mt K) d (some (.object "RuleArena$Literal")) (gm_I cX6_readAtom) (gm_lkf (lkX6 false K)) 92 [some (.ref (C + 2)), some (.int p0), some (.int (s.2.1 1 k2)), none, some (.int (0 : Int32)), some (.int (0 : Int32)), some (.int (0 : Int32))] [] (bM C (cH C s13) G) sz sl R) : gm_ev N0 K ra_nm (ra_mt K) d (some (.object "RuleArena$Literal")) (gm_I cX6_readAtom) (gm_lkf (lkX6 false K)) 0 [some (.ref (C + 2)), some (.int p0), none, none, none, none, none] [] (bM C (cH C s) G) sz sl R := by
  refine gm_ev.aload_n i68_0 rfl ?_
  refine gm_ev.getfield (v := .ref (C + 1)) i68_1 rfl (bM_fld (j := 2) (fs := cF2 C s) rfl (cv_some h1)) ?_
  refine gm_ev.aload_n i68_4 rfl ?_
  refine gm_ev.getfield (v := .int (s.1 41)) i68_5 rfl (bM_fld (j := 2) (fs := cF2 C s) rfl rfl) ?_
  refine gm_ev.caload i68_8 (bM_ai (j := 1) (n := 241) (f := s.2.1 1) rfl ek2 lk2 (by decide)) ?_
  refine gm_ev.istore_n (ls' := [some (.ref (C + 2)), some (.int p0), some (.int (s.2.1 1 k2)), none, none, none, none]) i68_9 (Nat.le_of_ble_eq_true rfl) rfl ?_
  refine gm_ev.ldc i68_10 rfl ?_
  refine gm_ev.iload_n i68_12 rfl ?_
  refine gm_ev.callT gm_mono_run (av := [.int (s.2.1 1 k2)]) (r := []) i68_13 rfl rfl rfl (Nat.le_of_ble_eq_true rfl) (gm_to_ix hd (Or.inr rfl)) ?_
  refine gm_ev.istore_n (ls' := [some (.ref (C + 2)), some (.int p0), some (.int (s.2.1 1 k2)), some (.int (gm_ix (s.2.1 1 k2))), none, none, none]) i68_16 (Nat.le_of_ble_eq_true rfl) rfl ?_
  refine gm_ev.iload_n i68_17 rfl ?_
  refine gm_ev.if_ge_t (tgt := 30) i68_18 (by decide) c5 ?_
  refine gm_ev.aload_n i68_30 rfl ?_
  refine gm_ev.dup i68_31 rfl ?_
  refine gm_ev.getfield (v := .int (s.1 41)) i68_32 rfl (bM_fld (j := 2) (fs := cF2 C s) rfl rfl) ?_
  refine gm_ev.iconst (v := 1) i68_35 (by decide) ?_
  refine gm_ev.iadd i68_36 ?_
  refine gm_ev.putfield (M' := (bM C (cH C (cI s 41 ((s.1 41) + (1 : Int32)))) G)) i68_37 rfl (bM_put (j := 2) (fs := cF2 C s) rfl (Nat.le_of_ble_eq_true rfl) hN (gm_fit_i _) rfl) ?_
  refine gm_ev.iload_n i68_40 rfl ?_
  refine gm_ev.if_ge_f i68_41 c6 ?_
  refine gm_ev.iconst (v := 0) i68_44 (by decide) ?_
  refine gm_ev.goto (tgt := 53) i68_45 (by decide) ?_
  refine gm_ev.istore (ls' := [some (.ref (C + 2)), some (.int p0), some (.int (s.2.1 1 k2)), some (.int (gm_ix (s.2.1 1 k2))), some (.int (0 : Int32)), none, none]) i68_53 (Nat.le_of_ble_eq_true rfl) rfl ?_
  refine gm_ev.iload_n i68_55 rfl ?_
  refine gm_ev.if_ge_t (tgt := 63) i68_56 (by decide) c7 ?_
  refine gm_ev.iload i68_63 rfl ?_
  refine gm_ev.istore (ls' := [some (.ref (C + 2)), some (.int p0), some (.int (s.2.1 1 k2)), some (.int (gm_ix (s.2.1 1 k2))), some (.int (0 : Int32)), some (.int (0 : Int32)), none]) i68_65 (Nat.le_of_ble_eq_true rfl) rfl ?_
  refine gm_ev.iconst (v := 0) i68_67 (by decide) ?_
  refine gm_ev.istore (ls' := [some (.ref (C + 2)), some (.int p0), some (.int (s.2.1 1 k2)), some (.int (gm_ix (s.2.1 1 k2))), some (.int (0 : Int32)), some (.int (0 : Int32)), some (.int (0 : Int32))]) i68_68 (Nat.le_of_ble_eq_true rfl) rfl ?_
  refine gm_ev.aload_n i68_70 rfl ?_
  refine gm_ev.getfield (v := .ref (C + 3)) i68_71 rfl (bM_fld (j := 2) (fs := cF2 C (cI s 41 ((s.1 41) + (1 : Int32)))) rfl rfl) ?_
  refine gm_ev.iconst (v := 0) i68_74 (by decide) ?_
  refine gm_ev.callS gm_mono_run (av := [.ref (C + 3), .int (0 : Int32)]) (r := []) i68_75 rfl rfl rfl (Nat.le_of_ble_eq_true rfl) t8 ?_
  refine gm_ev.iload i68_78 rfl ?_
  refine gm_ev.if_le_f i68_80 c10 ?_
  refine gm_ev.aload_n i68_83 rfl ?_
  refine gm_ev.bipush (v := 40) i68_84 (by decide) ?_
  refine gm_ev.callV gm_mono_run (av := [.int (40 : Int32)]) (r := []) (ci := 6) (fs := cF2 C s9) (bM_get (j := 2) rfl) i68_86 rfl rfl rfl (Nat.le_of_ble_eq_true rfl) t12 ?_
  refine gm_ev.if_eq_f i68_89 c14 ?_
  refine gm_ev.le (a := [some (.ref (C + 2)), some (.int p0), some (.int (s.2.1 1 k2)), none, some (.int (0 : Int32)), some (.int (0 : Int32)), some (.int (0 : Int32))]) (gm_leL.le (show gm_leL _ _ from ⟨rfl, ⟨rfl, ⟨rfl, ⟨rfl, ⟨rfl, ⟨rfl, trivial⟩⟩⟩⟩⟩⟩)) ?_
  exact k
theorem t_X6_readAtom_0_tfftt {N0 : Nat} {K : Nat → Nat} {d C : Nat} {s : cS} {G : gm_H} {sz sl : Nat} {p0 : Int32} {k2 : Nat} {s9 : cS} {r15 : Int32} {k17 : Nat} {k18 : Nat} {k19 : Nat} {G21 : gm_H} (hN : N0 ≤ C) (h1 : s.2.2 40 = some (C + 1)) (ek2 : (s.1 41) = nI k2) (lk2 : k2 < 241) (hd : 0 < d) (c5 : 0 ≤ (gm_ix (s.2.1 1 k2))) (c6 : ¬ 0 ≤ (gm_ix (s.2.1 1 k2))) (c7 : ¬ 0 ≤ (gm_ix (s.2.1 1 k2))) (t8 : gm_to N0 K ra_nm (ra_mt K) d 192 [.ref (C + 3), .int (0 : Int32)] (bM C (cH C (cI s 41 ((s.1 41) + (1 : Int32)))) G) sz (.returned none, (bM C (cH C s9) G), sz, 0)) (c10 : (3 : Int32) ≤ 0) (c11 : (0 : Int32) ≤ (0 : Int32)) (hg_sz : C + 34 ≤ sz) (bd12 : gm_bd G sz) (t16 : gm_to N0 K ra_nm (ra_mt K) d 55 [.int (s.2.1 1 k2), .int (0 : Int32)] (bM C (cH C s9) (gm_new G sz (.inr (5, [.int 0, .int 0, .int 0, .int 0, .int 0, .int 0, .int 0])))) (sz + 1) (.returned (some (.int r15)), (bM C (cH C s9) (gm_new G sz (.inr (5, [.int 0, .int 0, .int 0, .int 0, .int 0, .int 0, .int 0])))), (sz + 1), 0)) (ek17 : (0 : Int32) = nI k17) (lk17 : k17 < 3) (ek18 : (1 : Int32) = nI k18) (lk18 : k18 < 3) (ek19 : (2 : Int32) = nI k19) (lk19 : k19 < 3) (t20 : gm_to N0 K ra_nm (ra_mt K) d 54 [.ref sz, .int p0, .int r15, .int (s9.2.1 3 k17), .int (s9.2.1 3 k18), .int (s9.2.1 3 k19)] (bM C (cH C s9) (gm_new G sz (.inr (5, [.int 0, .int 0, .int 0, .int 0, .int 0, .int 0, .int 0])))) (sz + 1) (.returned none, (bM C (cH C s9) G21), (sz + 1), 0)) : gm_ev N0 K ra_nm (ra_mt K) d (some (.object "RuleArena$Literal")) (gm_I cX6_readAtom) (gm_lkf (lkX6 false K)) 0 [some (.ref (C + 2)), some (.int p0), none, none, none, none, none] [] (bM C (cH C s) G) sz sl (.returned (some (.ref sz)), (bM C (cH C s9) G21), (sz + 1), (sl + 7)) := by
  refine gm_ev.aload_n i68_0 rfl ?_
  refine gm_ev.getfield (v := .ref (C + 1)) i68_1 rfl (bM_fld (j := 2) (fs := cF2 C s) rfl (cv_some h1)) ?_
  refine gm_ev.aload_n i68_4 rfl ?_
  refine gm_ev.getfield (v := .int (s.1 41)) i68_5 rfl (bM_fld (j := 2) (fs := cF2 C s) rfl rfl) ?_
  refine gm_ev.caload i68_8 (bM_ai (j := 1) (n := 241) (f := s.2.1 1) rfl ek2 lk2 (by decide)) ?_
  refine gm_ev.istore_n (ls' := [some (.ref (C + 2)), some (.int p0), some (.int (s.2.1 1 k2)), none, none, none, none]) i68_9 (Nat.le_of_ble_eq_true rfl) rfl ?_
  refine gm_ev.ldc i68_10 rfl ?_
  refine gm_ev.iload_n i68_12 rfl ?_
  refine gm_ev.callT gm_mono_run (av := [.int (s.2.1 1 k2)]) (r := []) i68_13 rfl rfl rfl (Nat.le_of_ble_eq_true rfl) (gm_to_ix hd (Or.inr rfl)) ?_
  refine gm_ev.istore_n (ls' := [some (.ref (C + 2)), some (.int p0), some (.int (s.2.1 1 k2)), some (.int (gm_ix (s.2.1 1 k2))), none, none, none]) i68_16 (Nat.le_of_ble_eq_true rfl) rfl ?_
  refine gm_ev.iload_n i68_17 rfl ?_
  refine gm_ev.if_ge_t (tgt := 30) i68_18 (by decide) c5 ?_
  refine gm_ev.aload_n i68_30 rfl ?_
  refine gm_ev.dup i68_31 rfl ?_
  refine gm_ev.getfield (v := .int (s.1 41)) i68_32 rfl (bM_fld (j := 2) (fs := cF2 C s) rfl rfl) ?_
  refine gm_ev.iconst (v := 1) i68_35 (by decide) ?_
  refine gm_ev.iadd i68_36 ?_
  refine gm_ev.putfield (M' := (bM C (cH C (cI s 41 ((s.1 41) + (1 : Int32)))) G)) i68_37 rfl (bM_put (j := 2) (fs := cF2 C s) rfl (Nat.le_of_ble_eq_true rfl) hN (gm_fit_i _) rfl) ?_
  refine gm_ev.iload_n i68_40 rfl ?_
  refine gm_ev.if_ge_f i68_41 c6 ?_
  refine gm_ev.iconst (v := 0) i68_44 (by decide) ?_
  refine gm_ev.goto (tgt := 53) i68_45 (by decide) ?_
  refine gm_ev.istore (ls' := [some (.ref (C + 2)), some (.int p0), some (.int (s.2.1 1 k2)), some (.int (gm_ix (s.2.1 1 k2))), some (.int (0 : Int32)), none, none]) i68_53 (Nat.le_of_ble_eq_true rfl) rfl ?_
  refine gm_ev.iload_n i68_55 rfl ?_
  refine gm_ev.if_ge_f i68_56 c7 ?_
  refine gm_ev.iconst (v := 3) i68_59 (by decide) ?_
  refine gm_ev.goto (tgt := 65) i68_60 (by decide) ?_
  refine gm_ev.istore (ls' := [some (.ref (C + 2)), some (.int p0), some (.int (s.2.1 1 k2)), some (.int (gm_ix (s.2.1 1 k2))), some (.int (0 : Int32)), some (.int (3 : Int32)), none]) i68_65 (Nat.le_of_ble_eq_true rfl) rfl ?_
  refine gm_ev.iconst (v := 0) i68_67 (by decide) ?_
  refine gm_ev.istore (ls' := [some (.ref (C + 2)), some (.int p0), some (.int (s.2.1 1 k2)), some (.int (gm_ix (s.2.1 1 k2))), some (.int (0 : Int32)), some (.int (3 : Int32)), some (.int (0 : Int32))]) i68_68 (Nat.le_of_ble_eq_true rfl) rfl ?_
  refine gm_ev.aload_n i68_70 rfl ?_
  refine gm_ev.getfield (v := .ref (C + 3)) i68_71 rfl (bM_fld (j := 2) (fs := cF2 C (cI s 41 ((s.1 41) + (1 : Int32)))) rfl rfl) ?_
  refine gm_ev.iconst (v := 0) i68_74 (by decide) ?_
  refine gm_ev.callS gm_mono_run (av := [.ref (C + 3), .int (0 : Int32)]) (r := []) i68_75 rfl rfl rfl (Nat.le_of_ble_eq_true rfl) t8 ?_
  refine gm_ev.iload i68_78 rfl ?_
  refine gm_ev.if_le_t (tgt := 152) i68_80 (by decide) c10 ?_
  refine gm_ev.iload i68_152 rfl ?_
  refine gm_ev.iload i68_154 rfl ?_
  refine gm_ev.icmp_ge_t (tgt := 161) i68_156 (by decide) c11 ?_
  refine gm_ev.new i68_161 rfl ?_
  rw [cG_new hg_sz]
  have w13 : (gm_new G sz (.inr (5, [.int 0, .int 0, .int 0, .int 0, .int 0, .int 0, .int 0]))) sz = some (.inr (5, [.int 0, .int 0, .int 0, .int 0, .int 0, .int 0, .int 0])) := gm_set_eq
  have bd14 : gm_bd (gm_new G sz (.inr (5, [.int 0, .int 0, .int 0, .int 0, .int 0, .int 0, .int 0]))) (sz + 1) := gm_bd.new bd12
  refine gm_ev.dup i68_164 rfl ?_
  refine gm_ev.iload_n i68_165 rfl ?_
  refine gm_ev.iload_n i68_166 rfl ?_
  refine gm_ev.iload i68_167 rfl ?_
  refine gm_ev.callS gm_mono_run (av := [.int (s.2.1 1 k2), .int (0 : Int32)]) (r := [.int p0, .ref sz, .ref sz]) i68_169 rfl rfl rfl (Nat.le_of_ble_eq_true rfl) t16 ?_
  refine gm_ev.aload_n i68_172 rfl ?_
  refine gm_ev.getfield (v := .ref (C + 3)) i68_173 rfl (bM_fld (j := 2) (fs := cF2 C s9) rfl rfl) ?_
  refine gm_ev.iconst (v := 0) i68_176 (by decide) ?_
  refine gm_ev.iaload i68_177 (bM_ai (j := 3) (n := 3) (f := s9.2.1 3) rfl ek17 lk17 (by decide)) ?_
  refine gm_ev.aload_n i68_178 rfl ?_
  refine gm_ev.getfield (v := .ref (C + 3)) i68_179 rfl (bM_fld (j := 2) (fs := cF2 C s9) rfl rfl) ?_
  refine gm_ev.iconst (v := 1) i68_182 (by decide) ?_
  refine gm_ev.iaload i68_183 (bM_ai (j := 3) (n := 3) (f := s9.2.1 3) rfl ek18 lk18 (by decide)) ?_
  refine gm_ev.aload_n i68_184 rfl ?_
  refine gm_ev.getfield (v := .ref (C + 3)) i68_185 rfl (bM_fld (j := 2) (fs := cF2 C s9) rfl rfl) ?_
  refine gm_ev.iconst (v := 2) i68_188 (by decide) ?_
  refine gm_ev.iaload i68_189 (bM_ai (j := 3) (n := 3) (f := s9.2.1 3) rfl ek19 lk19 (by decide)) ?_
  refine gm_ev.callI gm_mono_run (av := [.int p0, .int r15, .int (s9.2.1 3 k17), .int (s9.2.1 3 k18), .int (s9.2.1 3 k19)]) (r := [.ref sz]) i68_190 rfl rfl rfl (Nat.le_of_ble_eq_true rfl) t20 ?_
  exact gm_ev.aret i68_193 rfl
theorem t_X6_readAtom_0_tfftf {N0 : Nat} {K : Nat → Nat} {d C : Nat} {s : cS} {G : gm_H} {sz sl : Nat} {p0 : Int32} {k2 : Nat} {s9 : cS} (hN : N0 ≤ C) (h1 : s.2.2 40 = some (C + 1)) (ek2 : (s.1 41) = nI k2) (lk2 : k2 < 241) (hd : 0 < d) (c5 : 0 ≤ (gm_ix (s.2.1 1 k2))) (c6 : ¬ 0 ≤ (gm_ix (s.2.1 1 k2))) (c7 : ¬ 0 ≤ (gm_ix (s.2.1 1 k2))) (t8 : gm_to N0 K ra_nm (ra_mt K) d 192 [.ref (C + 3), .int (0 : Int32)] (bM C (cH C (cI s 41 ((s.1 41) + (1 : Int32)))) G) sz (.returned none, (bM C (cH C s9) G), sz, 0)) (c10 : (3 : Int32) ≤ 0) (c11 : ¬ (0 : Int32) ≤ (0 : Int32)) : gm_ev N0 K ra_nm (ra_mt K) d (some (.object "RuleArena$Literal")) (gm_I cX6_readAtom) (gm_lkf (lkX6 false K)) 0 [some (.ref (C + 2)), some (.int p0), none, none, none, none, none] [] (bM C (cH C s) G) sz sl (.returned (some (.null)), (bM C (cH C s9) G), sz, sl) := by
  refine gm_ev.aload_n i68_0 rfl ?_
  refine gm_ev.getfield (v := .ref (C + 1)) i68_1 rfl (bM_fld (j := 2) (fs := cF2 C s) rfl (cv_some h1)) ?_
  refine gm_ev.aload_n i68_4 rfl ?_
  refine gm_ev.getfield (v := .int (s.1 41)) i68_5 rfl (bM_fld (j := 2) (fs := cF2 C s) rfl rfl) ?_
  refine gm_ev.caload i68_8 (bM_ai (j := 1) (n := 241) (f := s.2.1 1) rfl ek2 lk2 (by decide)) ?_
  refine gm_ev.istore_n (ls' := [some (.ref (C + 2)), some (.int p0), some (.int (s.2.1 1 k2)), none, none, none, none]) i68_9 (Nat.le_of_ble_eq_true rfl) rfl ?_
  refine gm_ev.ldc i68_10 rfl ?_
  refine gm_ev.iload_n i68_12 rfl ?_
  refine gm_ev.callT gm_mono_run (av := [.int (s.2.1 1 k2)]) (r := []) i68_13 rfl rfl rfl (Nat.le_of_ble_eq_true rfl) (gm_to_ix hd (Or.inr rfl)) ?_
  refine gm_ev.istore_n (ls' := [some (.ref (C + 2)), some (.int p0), some (.int (s.2.1 1 k2)), some (.int (gm_ix (s.2.1 1 k2))), none, none, none]) i68_16 (Nat.le_of_ble_eq_true rfl) rfl ?_
  refine gm_ev.iload_n i68_17 rfl ?_
  refine gm_ev.if_ge_t (tgt := 30) i68_18 (by decide) c5 ?_
  refine gm_ev.aload_n i68_30 rfl ?_
  refine gm_ev.dup i68_31 rfl ?_
  refine gm_ev.getfield (v := .int (s.1 41)) i68_32 rfl (bM_fld (j := 2) (fs := cF2 C s) rfl rfl) ?_
  refine gm_ev.iconst (v := 1) i68_35 (by decide) ?_
  refine gm_ev.iadd i68_36 ?_
  refine gm_ev.putfield (M' := (bM C (cH C (cI s 41 ((s.1 41) + (1 : Int32)))) G)) i68_37 rfl (bM_put (j := 2) (fs := cF2 C s) rfl (Nat.le_of_ble_eq_true rfl) hN (gm_fit_i _) rfl) ?_
  refine gm_ev.iload_n i68_40 rfl ?_
  refine gm_ev.if_ge_f i68_41 c6 ?_
  refine gm_ev.iconst (v := 0) i68_44 (by decide) ?_
  refine gm_ev.goto (tgt := 53) i68_45 (by decide) ?_
  refine gm_ev.istore (ls' := [some (.ref (C + 2)), some (.int p0), some (.int (s.2.1 1 k2)), some (.int (gm_ix (s.2.1 1 k2))), some (.int (0 : Int32)), none, none]) i68_53 (Nat.le_of_ble_eq_true rfl) rfl ?_
  refine gm_ev.iload_n i68_55 rfl ?_
  refine gm_ev.if_ge_f i68_56 c7 ?_
  refine gm_ev.iconst (v := 3) i68_59 (by decide) ?_
  refine gm_ev.goto (tgt := 65) i68_60 (by decide) ?_
  refine gm_ev.istore (ls' := [some (.ref (C + 2)), some (.int p0), some (.int (s.2.1 1 k2)), some (.int (gm_ix (s.2.1 1 k2))), some (.int (0 : Int32)), some (.int (3 : Int32)), none]) i68_65 (Nat.le_of_ble_eq_true rfl) rfl ?_
  refine gm_ev.iconst (v := 0) i68_67 (by decide) ?_
  refine gm_ev.istore (ls' := [some (.ref (C + 2)), some (.int p0), some (.int (s.2.1 1 k2)), some (.int (gm_ix (s.2.1 1 k2))), some (.int (0 : Int32)), some (.int (3 : Int32)), some (.int (0 : Int32))]) i68_68 (Nat.le_of_ble_eq_true rfl) rfl ?_
  refine gm_ev.aload_n i68_70 rfl ?_
  refine gm_ev.getfield (v := .ref (C + 3)) i68_71 rfl (bM_fld (j := 2) (fs := cF2 C (cI s 41 ((s.1 41) + (1 : Int32)))) rfl rfl) ?_
  refine gm_ev.iconst (v := 0) i68_74 (by decide) ?_
  refine gm_ev.callS gm_mono_run (av := [.ref (C + 3), .int (0 : Int32)]) (r := []) i68_75 rfl rfl rfl (Nat.le_of_ble_eq_true rfl) t8 ?_
  refine gm_ev.iload i68_78 rfl ?_
  refine gm_ev.if_le_t (tgt := 152) i68_80 (by decide) c10 ?_
  refine gm_ev.iload i68_152 rfl ?_
  refine gm_ev.iload i68_154 rfl ?_
  refine gm_ev.icmp_ge_f i68_156 c11 ?_
  refine gm_ev.null i68_159 ?_
  exact gm_ev.aretN i68_160 rfl
theorem t_X6_readAtom_0_tffftt {N0 : Nat} {K : Nat → Nat} {d C : Nat} {s : cS} {G : gm_H} {sz sl : Nat} {p0 : Int32} {k2 : Nat} {s9 : cS} {r11 : Int32} {s13 : cS} {r19 : Int32} {k21 : Nat} {k22 : Nat} {k23 : Nat} {G25 : gm_H} (hN : N0 ≤ C) (h1 : s.2.2 40 = some (C + 1)) (ek2 : (s.1 41) = nI k2) (lk2 : k2 < 241) (hd : 0 < d) (c5 : 0 ≤ (gm_ix (s.2.1 1 k2))) (c6 : ¬ 0 ≤ (gm_ix (s.2.1 1 k2))) (c7 : ¬ 0 ≤ (gm_ix (s.2.1 1 k2))) (t8 : gm_to N0 K ra_nm (ra_mt K) d 192 [.ref (C + 3), .int (0 : Int32)] (bM C (cH C (cI s 41 ((s.1 41) + (1 : Int32)))) G) sz (.returned none, (bM C (cH C s9) G), sz, 0)) (c10 : ¬ (3 : Int32) ≤ 0) (t12 : gm_to N0 K ra_nm (ra_mt K) d 63 [.ref (C + 2), .int (40 : Int32)] (bM C (cH C s9) G) sz (.returned (some (.int r11)), (bM C (cH C s13) G), sz, 0)) (c14 : r11 = 0) (c15 : (0 : Int32) ≤ (0 : Int32)) (hg_sz : C + 34 ≤ sz) (bd16 : gm_bd G sz) (t20 : gm_to N0 K ra_nm (ra_mt K) d 55 [.int (s.2.1 1 k2), .int (0 : Int32)] (bM C (cH C s13) (gm_new G sz (.inr (5, [.int 0, .int 0, .int 0, .int 0, .int 0, .int 0, .int 0])))) (sz + 1) (.returned (some (.int r19)), (bM C (cH C s13) (gm_new G sz (.inr (5, [.int 0, .int 0, .int 0, .int 0, .int 0, .int 0, .int 0])))), (sz + 1), 0)) (ek21 : (0 : Int32) = nI k21) (lk21 : k21 < 3) (ek22 : (1 : Int32) = nI k22) (lk22 : k22 < 3) (ek23 : (2 : Int32) = nI k23) (lk23 : k23 < 3) (t24 : gm_to N0 K ra_nm (ra_mt K) d 54 [.ref sz, .int p0, .int r19, .int (s13.2.1 3 k21), .int (s13.2.1 3 k22), .int (s13.2.1 3 k23)] (bM C (cH C s13) (gm_new G sz (.inr (5, [.int 0, .int 0, .int 0, .int 0, .int 0, .int 0, .int 0])))) (sz + 1) (.returned none, (bM C (cH C s13) G25), (sz + 1), 0)) : gm_ev N0 K ra_nm (ra_mt K) d (some (.object "RuleArena$Literal")) (gm_I cX6_readAtom) (gm_lkf (lkX6 false K)) 0 [some (.ref (C + 2)), some (.int p0), none, none, none, none, none] [] (bM C (cH C s) G) sz sl (.returned (some (.ref sz)), (bM C (cH C s13) G25), (sz + 1), (sl + 7)) := by
  refine gm_ev.aload_n i68_0 rfl ?_
  refine gm_ev.getfield (v := .ref (C + 1)) i68_1 rfl (bM_fld (j := 2) (fs := cF2 C s) rfl (cv_some h1)) ?_
  refine gm_ev.aload_n i68_4 rfl ?_
  refine gm_ev.getfield (v := .int (s.1 41)) i68_5 rfl (bM_fld (j := 2) (fs := cF2 C s) rfl rfl) ?_
  refine gm_ev.caload i68_8 (bM_ai (j := 1) (n := 241) (f := s.2.1 1) rfl ek2 lk2 (by decide)) ?_
  refine gm_ev.istore_n (ls' := [some (.ref (C + 2)), some (.int p0), some (.int (s.2.1 1 k2)), none, none, none, none]) i68_9 (Nat.le_of_ble_eq_true rfl) rfl ?_
  refine gm_ev.ldc i68_10 rfl ?_
  refine gm_ev.iload_n i68_12 rfl ?_
  refine gm_ev.callT gm_mono_run (av := [.int (s.2.1 1 k2)]) (r := []) i68_13 rfl rfl rfl (Nat.le_of_ble_eq_true rfl) (gm_to_ix hd (Or.inr rfl)) ?_
  refine gm_ev.istore_n (ls' := [some (.ref (C + 2)), some (.int p0), some (.int (s.2.1 1 k2)), some (.int (gm_ix (s.2.1 1 k2))), none, none, none]) i68_16 (Nat.le_of_ble_eq_true rfl) rfl ?_
  refine gm_ev.iload_n i68_17 rfl ?_
  refine gm_ev.if_ge_t (tgt := 30) i68_18 (by decide) c5 ?_
  refine gm_ev.aload_n i68_30 rfl ?_
  refine gm_ev.dup i68_31 rfl ?_
  refine gm_ev.getfield (v := .int (s.1 41)) i68_32 rfl (bM_fld (j := 2) (fs := cF2 C s) rfl rfl) ?_
  refine gm_ev.iconst (v := 1) i68_35 (by decide) ?_
  refine gm_ev.iadd i68_36 ?_
  refine gm_ev.putfield (M' := (bM C (cH C (cI s 41 ((s.1 41) + (1 : Int32)))) G)) i68_37 rfl (bM_put (j := 2) (fs := cF2 C s) rfl (Nat.le_of_ble_eq_true rfl) hN (gm_fit_i _) rfl) ?_
  refine gm_ev.iload_n i68_40 rfl ?_
  refine gm_ev.if_ge_f i68_41 c6 ?_
  refine gm_ev.iconst (v := 0) i68_44 (by decide) ?_
  refine gm_ev.goto (tgt := 53) i68_45 (by decide) ?_
  refine gm_ev.istore (ls' := [some (.ref (C + 2)), some (.int p0), some (.int (s.2.1 1 k2)), some (.int (gm_ix (s.2.1 1 k2))), some (.int (0 : Int32)), none, none]) i68_53 (Nat.le_of_ble_eq_true rfl) rfl ?_
  refine gm_ev.iload_n i68_55 rfl ?_
  refine gm_ev.if_ge_f i68_56 c7 ?_
  refine gm_ev.iconst (v := 3) i68_59 (by decide) ?_
  refine gm_ev.goto (tgt := 65) i68_60 (by decide) ?_
  refine gm_ev.istore (ls' := [some (.ref (C + 2)), some (.int p0), some (.int (s.2.1 1 k2)), some (.int (gm_ix (s.2.1 1 k2))), some (.int (0 : Int32)), some (.int (3 : Int32)), none]) i68_65 (Nat.le_of_ble_eq_true rfl) rfl ?_
  refine gm_ev.iconst (v := 0) i68_67 (by decide) ?_
  refine gm_ev.istore (ls' := [some (.ref (C + 2)), some (.int p0), some (.int (s.2.1 1 k2)), some (.int (gm_ix (s.2.1 1 k2))), some (.int (0 : Int32)), some (.int (3 : Int32)), some (.int (0 : Int32))]) i68_68 (Nat.le_of_ble_eq_true rfl) rfl ?_
  refine gm_ev.aload_n i68_70 rfl ?_
  refine gm_ev.getfield (v := .ref (C + 3)) i68_71 rfl (bM_fld (j := 2) (fs := cF2 C (cI s 41 ((s.1 41) + (1 : Int32)))) rfl rfl) ?_
  refine gm_ev.iconst (v := 0) i68_74 (by decide) ?_
  refine gm_ev.callS gm_mono_run (av := [.ref (C + 3), .int (0 : Int32)]) (r := []) i68_75 rfl rfl rfl (Nat.le_of_ble_eq_true rfl) t8 ?_
  refine gm_ev.iload i68_78 rfl ?_
  refine gm_ev.if_le_f i68_80 c10 ?_
  refine gm_ev.aload_n i68_83 rfl ?_
  refine gm_ev.bipush (v := 40) i68_84 (by decide) ?_
  refine gm_ev.callV gm_mono_run (av := [.int (40 : Int32)]) (r := []) (ci := 6) (fs := cF2 C s9) (bM_get (j := 2) rfl) i68_86 rfl rfl rfl (Nat.le_of_ble_eq_true rfl) t12 ?_
  refine gm_ev.if_eq_t (tgt := 152) i68_89 (by decide) c14 ?_
  refine gm_ev.iload i68_152 rfl ?_
  refine gm_ev.iload i68_154 rfl ?_
  refine gm_ev.icmp_ge_t (tgt := 161) i68_156 (by decide) c15 ?_
  refine gm_ev.new i68_161 rfl ?_
  rw [cG_new hg_sz]
  have w17 : (gm_new G sz (.inr (5, [.int 0, .int 0, .int 0, .int 0, .int 0, .int 0, .int 0]))) sz = some (.inr (5, [.int 0, .int 0, .int 0, .int 0, .int 0, .int 0, .int 0])) := gm_set_eq
  have bd18 : gm_bd (gm_new G sz (.inr (5, [.int 0, .int 0, .int 0, .int 0, .int 0, .int 0, .int 0]))) (sz + 1) := gm_bd.new bd16
  refine gm_ev.dup i68_164 rfl ?_
  refine gm_ev.iload_n i68_165 rfl ?_
  refine gm_ev.iload_n i68_166 rfl ?_
  refine gm_ev.iload i68_167 rfl ?_
  refine gm_ev.callS gm_mono_run (av := [.int (s.2.1 1 k2), .int (0 : Int32)]) (r := [.int p0, .ref sz, .ref sz]) i68_169 rfl rfl rfl (Nat.le_of_ble_eq_true rfl) t20 ?_
  refine gm_ev.aload_n i68_172 rfl ?_
  refine gm_ev.getfield (v := .ref (C + 3)) i68_173 rfl (bM_fld (j := 2) (fs := cF2 C s13) rfl rfl) ?_
  refine gm_ev.iconst (v := 0) i68_176 (by decide) ?_
  refine gm_ev.iaload i68_177 (bM_ai (j := 3) (n := 3) (f := s13.2.1 3) rfl ek21 lk21 (by decide)) ?_
  refine gm_ev.aload_n i68_178 rfl ?_
  refine gm_ev.getfield (v := .ref (C + 3)) i68_179 rfl (bM_fld (j := 2) (fs := cF2 C s13) rfl rfl) ?_
  refine gm_ev.iconst (v := 1) i68_182 (by decide) ?_
  refine gm_ev.iaload i68_183 (bM_ai (j := 3) (n := 3) (f := s13.2.1 3) rfl ek22 lk22 (by decide)) ?_
  refine gm_ev.aload_n i68_184 rfl ?_
  refine gm_ev.getfield (v := .ref (C + 3)) i68_185 rfl (bM_fld (j := 2) (fs := cF2 C s13) rfl rfl) ?_
  refine gm_ev.iconst (v := 2) i68_188 (by decide) ?_
  refine gm_ev.iaload i68_189 (bM_ai (j := 3) (n := 3) (f := s13.2.1 3) rfl ek23 lk23 (by decide)) ?_
  refine gm_ev.callI gm_mono_run (av := [.int p0, .int r19, .int (s13.2.1 3 k21), .int (s13.2.1 3 k22), .int (s13.2.1 3 k23)]) (r := [.ref sz]) i68_190 rfl rfl rfl (Nat.le_of_ble_eq_true rfl) t24 ?_
  exact gm_ev.aret i68_193 rfl
theorem t_X6_readAtom_0_tffftf {N0 : Nat} {K : Nat → Nat} {d C : Nat} {s : cS} {G : gm_H} {sz sl : Nat} {p0 : Int32} {k2 : Nat} {s9 : cS} {r11 : Int32} {s13 : cS} (hN : N0 ≤ C) (h1 : s.2.2 40 = some (C + 1)) (ek2 : (s.1 41) = nI k2) (lk2 : k2 < 241) (hd : 0 < d) (c5 : 0 ≤ (gm_ix (s.2.1 1 k2))) (c6 : ¬ 0 ≤ (gm_ix (s.2.1 1 k2))) (c7 : ¬ 0 ≤ (gm_ix (s.2.1 1 k2))) (t8 : gm_to N0 K ra_nm (ra_mt K) d 192 [.ref (C + 3), .int (0 : Int32)] (bM C (cH C (cI s 41 ((s.1 41) + (1 : Int32)))) G) sz (.returned none, (bM C (cH C s9) G), sz, 0)) (c10 : ¬ (3 : Int32) ≤ 0) (t12 : gm_to N0 K ra_nm (ra_mt K) d 63 [.ref (C + 2), .int (40 : Int32)] (bM C (cH C s9) G) sz (.returned (some (.int r11)), (bM C (cH C s13) G), sz, 0)) (c14 : r11 = 0) (c15 : ¬ (0 : Int32) ≤ (0 : Int32)) : gm_ev N0 K ra_nm (ra_mt K) d (some (.object "RuleArena$Literal")) (gm_I cX6_readAtom) (gm_lkf (lkX6 false K)) 0 [some (.ref (C + 2)), some (.int p0), none, none, none, none, none] [] (bM C (cH C s) G) sz sl (.returned (some (.null)), (bM C (cH C s13) G), sz, sl) := by
  refine gm_ev.aload_n i68_0 rfl ?_
  refine gm_ev.getfield (v := .ref (C + 1)) i68_1 rfl (bM_fld (j := 2) (fs := cF2 C s) rfl (cv_some h1)) ?_
  refine gm_ev.aload_n i68_4 rfl ?_
  refine gm_ev.getfield (v := .int (s.1 41)) i68_5 rfl (bM_fld (j := 2) (fs := cF2 C s) rfl rfl) ?_
  refine gm_ev.caload i68_8 (bM_ai (j := 1) (n := 241) (f := s.2.1 1) rfl ek2 lk2 (by decide)) ?_
  refine gm_ev.istore_n (ls' := [some (.ref (C + 2)), some (.int p0), some (.int (s.2.1 1 k2)), none, none, none, none]) i68_9 (Nat.le_of_ble_eq_true rfl) rfl ?_
  refine gm_ev.ldc i68_10 rfl ?_
  refine gm_ev.iload_n i68_12 rfl ?_
  refine gm_ev.callT gm_mono_run (av := [.int (s.2.1 1 k2)]) (r := []) i68_13 rfl rfl rfl (Nat.le_of_ble_eq_true rfl) (gm_to_ix hd (Or.inr rfl)) ?_
  refine gm_ev.istore_n (ls' := [some (.ref (C + 2)), some (.int p0), some (.int (s.2.1 1 k2)), some (.int (gm_ix (s.2.1 1 k2))), none, none, none]) i68_16 (Nat.le_of_ble_eq_true rfl) rfl ?_
  refine gm_ev.iload_n i68_17 rfl ?_
  refine gm_ev.if_ge_t (tgt := 30) i68_18 (by decide) c5 ?_
  refine gm_ev.aload_n i68_30 rfl ?_
  refine gm_ev.dup i68_31 rfl ?_
  refine gm_ev.getfield (v := .int (s.1 41)) i68_32 rfl (bM_fld (j := 2) (fs := cF2 C s) rfl rfl) ?_
  refine gm_ev.iconst (v := 1) i68_35 (by decide) ?_
  refine gm_ev.iadd i68_36 ?_
  refine gm_ev.putfield (M' := (bM C (cH C (cI s 41 ((s.1 41) + (1 : Int32)))) G)) i68_37 rfl (bM_put (j := 2) (fs := cF2 C s) rfl (Nat.le_of_ble_eq_true rfl) hN (gm_fit_i _) rfl) ?_
  refine gm_ev.iload_n i68_40 rfl ?_
  refine gm_ev.if_ge_f i68_41 c6 ?_
  refine gm_ev.iconst (v := 0) i68_44 (by decide) ?_
  refine gm_ev.goto (tgt := 53) i68_45 (by decide) ?_
  refine gm_ev.istore (ls' := [some (.ref (C + 2)), some (.int p0), some (.int (s.2.1 1 k2)), some (.int (gm_ix (s.2.1 1 k2))), some (.int (0 : Int32)), none, none]) i68_53 (Nat.le_of_ble_eq_true rfl) rfl ?_
  refine gm_ev.iload_n i68_55 rfl ?_
  refine gm_ev.if_ge_f i68_56 c7 ?_
  refine gm_ev.iconst (v := 3) i68_59 (by decide) ?_
  refine gm_ev.goto (tgt := 65) i68_60 (by decide) ?_
  refine gm_ev.istore (ls' := [some (.ref (C + 2)), some (.int p0), some (.int (s.2.1 1 k2)), some (.int (gm_ix (s.2.1 1 k2))), some (.int (0 : Int32)), some (.int (3 : Int32)), none]) i68_65 (Nat.le_of_ble_eq_true rfl) rfl ?_
  refine gm_ev.iconst (v := 0) i68_67 (by decide) ?_
  refine gm_ev.istore (ls' := [some (.ref (C + 2)), some (.int p0), some (.int (s.2.1 1 k2)), some (.int (gm_ix (s.2.1 1 k2))), some (.int (0 : Int32)), some (.int (3 : Int32)), some (.int (0 : Int32))]) i68_68 (Nat.le_of_ble_eq_true rfl) rfl ?_
  refine gm_ev.aload_n i68_70 rfl ?_
  refine gm_ev.getfield (v := .ref (C + 3)) i68_71 rfl (bM_fld (j := 2) (fs := cF2 C (cI s 41 ((s.1 41) + (1 : Int32)))) rfl rfl) ?_
  refine gm_ev.iconst (v := 0) i68_74 (by decide) ?_
  refine gm_ev.callS gm_mono_run (av := [.ref (C + 3), .int (0 : Int32)]) (r := []) i68_75 rfl rfl rfl (Nat.le_of_ble_eq_true rfl) t8 ?_
  refine gm_ev.iload i68_78 rfl ?_
  refine gm_ev.if_le_f i68_80 c10 ?_
  refine gm_ev.aload_n i68_83 rfl ?_
  refine gm_ev.bipush (v := 40) i68_84 (by decide) ?_
  refine gm_ev.callV gm_mono_run (av := [.int (40 : Int32)]) (r := []) (ci := 6) (fs := cF2 C s9) (bM_get (j := 2) rfl) i68_86 rfl rfl rfl (Nat.le_of_ble_eq_true rfl) t12 ?_
  refine gm_ev.if_eq_t (tgt := 152) i68_89 (by decide) c14 ?_
  refine gm_ev.iload i68_152 rfl ?_
  refine gm_ev.iload i68_154 rfl ?_
  refine gm_ev.icmp_ge_f i68_156 c15 ?_
  refine gm_ev.null i68_159 ?_
  exact gm_ev.aretN i68_160 rfl
theorem t_X6_readAtom_0_tffff_at92 {N0 : Nat} {K : Nat → Nat} {d C : Nat} {s : cS} {G : gm_H} {sz sl : Nat} {R : gm_R} {p0 : Int32} {k2 : Nat} {s9 : cS} {r11 : Int32} {s13 : cS} (hN : N0 ≤ C) (h1 : s.2.2 40 = some (C + 1)) (ek2 : (s.1 41) = nI k2) (lk2 : k2 < 241) (hd : 0 < d) (c5 : 0 ≤ (gm_ix (s.2.1 1 k2))) (c6 : ¬ 0 ≤ (gm_ix (s.2.1 1 k2))) (c7 : ¬ 0 ≤ (gm_ix (s.2.1 1 k2))) (t8 : gm_to N0 K ra_nm (ra_mt K) d 192 [.ref (C + 3), .int (0 : Int32)] (bM C (cH C (cI s 41 ((s.1 41) + (1 : Int32)))) G) sz (.returned none, (bM C (cH C s9) G), sz, 0)) (c10 : ¬ (3 : Int32) ≤ 0) (t12 : gm_to N0 K ra_nm (ra_mt K) d 63 [.ref (C + 2), .int (40 : Int32)] (bM C (cH C s9) G) sz (.returned (some (.int r11)), (bM C (cH C s13) G), sz, 0)) (c14 : ¬ r11 = 0) (k : gm_ev N0 K ra_nm (ra_mt K) d (some (.object "RuleArena$Literal")) (gm_I cX6_readAtom) (gm_lkf (lkX6 false K)) 92 [some (.ref (C + 2)), some (.int p0), some (.int (s.2.1 1 k2)), none, some (.int (0 : Int32)), some (.int (3 : Int32)), some (.int (0 : Int32))] [] (bM C (cH C s13) G) sz sl R) : gm_ev N0 K ra_nm (ra_mt K) d (some (.object "RuleArena$Literal")) (gm_I cX6_readAtom) (gm_lkf (lkX6 false K)) 0 [some (.ref (C + 2)), some (.int p0), none, none, none, none, none] [] (bM C (cH C s) G) sz sl R := by
  refine gm_ev.aload_n i68_0 rfl ?_
  refine gm_ev.getfield (v := .ref (C + 1)) i68_1 rfl (bM_fld (j := 2) (fs := cF2 C s) rfl (cv_some h1)) ?_
  refine gm_ev.aload_n i68_4 rfl ?_
  refine gm_ev.getfield (v := .int (s.1 41)) i68_5 rfl (bM_fld (j := 2) (fs := cF2 C s) rfl rfl) ?_
  refine gm_ev.caload i68_8 (bM_ai (j := 1) (n := 241) (f := s.2.1 1) rfl ek2 lk2 (by decide)) ?_
  refine gm_ev.istore_n (ls' := [some (.ref (C + 2)), some (.int p0), some (.int (s.2.1 1 k2)), none, none, none, none]) i68_9 (Nat.le_of_ble_eq_true rfl) rfl ?_
  refine gm_ev.ldc i68_10 rfl ?_
  refine gm_ev.iload_n i68_12 rfl ?_
  refine gm_ev.callT gm_mono_run (av := [.int (s.2.1 1 k2)]) (r := []) i68_13 rfl rfl rfl (Nat.le_of_ble_eq_true rfl) (gm_to_ix hd (Or.inr rfl)) ?_
  refine gm_ev.istore_n (ls' := [some (.ref (C + 2)), some (.int p0), some (.int (s.2.1 1 k2)), some (.int (gm_ix (s.2.1 1 k2))), none, none, none]) i68_16 (Nat.le_of_ble_eq_true rfl) rfl ?_
  refine gm_ev.iload_n i68_17 rfl ?_
  refine gm_ev.if_ge_t (tgt := 30) i68_18 (by decide) c5 ?_
  refine gm_ev.aload_n i68_30 rfl ?_
  refine gm_ev.dup i68_31 rfl ?_
  refine gm_ev.getfield (v := .int (s.1 41)) i68_32 rfl (bM_fld (j := 2) (fs := cF2 C s) rfl rfl) ?_
  refine gm_ev.iconst (v := 1) i68_35 (by decide) ?_
  refine gm_ev.iadd i68_36 ?_
  refine gm_ev.putfield (M' := (bM C (cH C (cI s 41 ((s.1 41) + (1 : Int32)))) G)) i68_37 rfl (bM_put (j := 2) (fs := cF2 C s) rfl (Nat.le_of_ble_eq_true rfl) hN (gm_fit_i _) rfl) ?_
  refine gm_ev.iload_n i68_40 rfl ?_
  refine gm_ev.if_ge_f i68_41 c6 ?_
  refine gm_ev.iconst (v := 0) i68_44 (by decide) ?_
  refine gm_ev.goto (tgt := 53) i68_45 (by decide) ?_
  refine gm_ev.istore (ls' := [some (.ref (C + 2)), some (.int p0), some (.int (s.2.1 1 k2)), some (.int (gm_ix (s.2.1 1 k2))), some (.int (0 : Int32)), none, none]) i68_53 (Nat.le_of_ble_eq_true rfl) rfl ?_
  refine gm_ev.iload_n i68_55 rfl ?_
  refine gm_ev.if_ge_f i68_56 c7 ?_
  refine gm_ev.iconst (v := 3) i68_59 (by decide) ?_
  refine gm_ev.goto (tgt := 65) i68_60 (by decide) ?_
  refine gm_ev.istore (ls' := [some (.ref (C + 2)), some (.int p0), some (.int (s.2.1 1 k2)), some (.int (gm_ix (s.2.1 1 k2))), some (.int (0 : Int32)), some (.int (3 : Int32)), none]) i68_65 (Nat.le_of_ble_eq_true rfl) rfl ?_
  refine gm_ev.iconst (v := 0) i68_67 (by decide) ?_
  refine gm_ev.istore (ls' := [some (.ref (C + 2)), some (.int p0), some (.int (s.2.1 1 k2)), some (.int (gm_ix (s.2.1 1 k2))), some (.int (0 : Int32)), some (.int (3 : Int32)), some (.int (0 : Int32))]) i68_68 (Nat.le_of_ble_eq_true rfl) rfl ?_
  refine gm_ev.aload_n i68_70 rfl ?_
  refine gm_ev.getfield (v := .ref (C + 3)) i68_71 rfl (bM_fld (j := 2) (fs := cF2 C (cI s 41 ((s.1 41) + (1 : Int32)))) rfl rfl) ?_
  refine gm_ev.iconst (v := 0) i68_74 (by decide) ?_
  refine gm_ev.callS gm_mono_run (av := [.ref (C + 3), .int (0 : Int32)]) (r := []) i68_75 rfl rfl rfl (Nat.le_of_ble_eq_true rfl) t8 ?_
  refine gm_ev.iload i68_78 rfl ?_
  refine gm_ev.if_le_f i68_80 c10 ?_
  refine gm_ev.aload_n i68_83 rfl ?_
  refine gm_ev.bipush (v := 40) i68_84 (by decide) ?_
  refine gm_ev.callV gm_mono_run (av := [.int (40 : Int32)]) (r := []) (ci := 6) (fs := cF2 C s9) (bM_get (j := 2) rfl) i68_86 rfl rfl rfl (Nat.le_of_ble_eq_true rfl) t12 ?_
  refine gm_ev.if_eq_f i68_89 c14 ?_
  refine gm_ev.le (a := [some (.ref (C + 2)), some (.int p0), some (.int (s.2.1 1 k2)), none, some (.int (0 : Int32)), some (.int (3 : Int32)), some (.int (0 : Int32))]) (gm_leL.le (show gm_leL _ _ from ⟨rfl, ⟨rfl, ⟨rfl, ⟨rfl, ⟨rfl, ⟨rfl, trivial⟩⟩⟩⟩⟩⟩)) ?_
  exact k
theorem t_X6_readAtom_0_fttttt {N0 : Nat} {K : Nat → Nat} {d C : Nat} {s : cS} {G : gm_H} {sz sl : Nat} {p0 : Int32} {k2 : Nat} {r6 : Int32} {k10 : Nat} {kt11 : Nat → Int32} {s14 : cS} {r20 : Int32} {k22 : Nat} {k23 : Nat} {k24 : Nat} {G26 : gm_H} (hN : N0 ≤ C) (h1 : s.2.2 40 = some (C + 1)) (ek2 : (s.1 41) = nI k2) (lk2 : k2 < 241) (hd : 0 < d) (c5 : ¬ 0 ≤ (gm_ix (s.2.1 1 k2))) (t7 : gm_to N0 K ra_nm (ra_mt K) d 88 [.int (s.2.1 1 k2)] (bM C (cH C s) G) sz (.returned (some (.int r6)), (bM C (cH C s) G), sz, 0)) (c8 : ¬ r6 = 0) (c9 : 0 ≤ (gm_ix (s.2.1 1 k2))) (ek10 : (gm_ix (s.2.1 1 k2)) = nI k10) (hkt11 : (bM C (cH C (cI s 41 ((s.1 41) + (1 : Int32)))) G) (K 0) = some (.inl (gm_scr, 8, .inl kt11))) (lk10 : k10 < 8) (c12 : 0 ≤ (gm_ix (s.2.1 1 k2))) (t13 : gm_to N0 K ra_nm (ra_mt K) d 192 [.ref (C + 3), .int (0 : Int32)] (bM C (cH C (cI s 41 ((s.1 41) + (1 : Int32)))) G) sz (.returned none, (bM C (cH C s14) G), sz, 0)) (c15 : (kt11 k10) ≤ 0) (c16 : (kt11 k10) ≤ (0 : Int32)) (hg_sz : C + 34 ≤ sz) (bd17 : gm_bd G sz) (t21 : gm_to N0 K ra_nm (ra_mt K) d 55 [.int (s.2.1 1 k2), .int (0 : Int32)] (bM C (cH C s14) (gm_new G sz (.inr (5, [.int 0, .int 0, .int 0, .int 0, .int 0, .int 0, .int 0])))) (sz + 1) (.returned (some (.int r20)), (bM C (cH C s14) (gm_new G sz (.inr (5, [.int 0, .int 0, .int 0, .int 0, .int 0, .int 0, .int 0])))), (sz + 1), 0)) (ek22 : (0 : Int32) = nI k22) (lk22 : k22 < 3) (ek23 : (1 : Int32) = nI k23) (lk23 : k23 < 3) (ek24 : (2 : Int32) = nI k24) (lk24 : k24 < 3) (t25 : gm_to N0 K ra_nm (ra_mt K) d 54 [.ref sz, .int p0, .int r20, .int (s14.2.1 3 k22), .int (s14.2.1 3 k23), .int (s14.2.1 3 k24)] (bM C (cH C s14) (gm_new G sz (.inr (5, [.int 0, .int 0, .int 0, .int 0, .int 0, .int 0, .int 0])))) (sz + 1) (.returned none, (bM C (cH C s14) G26), (sz + 1), 0)) : gm_ev N0 K ra_nm (ra_mt K) d (some (.object "RuleArena$Literal")) (gm_I cX6_readAtom) (gm_lkf (lkX6 false K)) 0 [some (.ref (C + 2)), some (.int p0), none, none, none, none, none] [] (bM C (cH C s) G) sz sl (.returned (some (.ref sz)), (bM C (cH C s14) G26), (sz + 1), (sl + 7)) := by
  refine gm_ev.aload_n i68_0 rfl ?_
  refine gm_ev.getfield (v := .ref (C + 1)) i68_1 rfl (bM_fld (j := 2) (fs := cF2 C s) rfl (cv_some h1)) ?_
  refine gm_ev.aload_n i68_4 rfl ?_
  refine gm_ev.getfield (v := .int (s.1 41)) i68_5 rfl (bM_fld (j := 2) (fs := cF2 C s) rfl rfl) ?_
  refine gm_ev.caload i68_8 (bM_ai (j := 1) (n := 241) (f := s.2.1 1) rfl ek2 lk2 (by decide)) ?_
  refine gm_ev.istore_n (ls' := [some (.ref (C + 2)), some (.int p0), some (.int (s.2.1 1 k2)), none, none, none, none]) i68_9 (Nat.le_of_ble_eq_true rfl) rfl ?_
  refine gm_ev.ldc i68_10 rfl ?_
  refine gm_ev.iload_n i68_12 rfl ?_
  refine gm_ev.callT gm_mono_run (av := [.int (s.2.1 1 k2)]) (r := []) i68_13 rfl rfl rfl (Nat.le_of_ble_eq_true rfl) (gm_to_ix hd (Or.inr rfl)) ?_
  refine gm_ev.istore_n (ls' := [some (.ref (C + 2)), some (.int p0), some (.int (s.2.1 1 k2)), some (.int (gm_ix (s.2.1 1 k2))), none, none, none]) i68_16 (Nat.le_of_ble_eq_true rfl) rfl ?_
  refine gm_ev.iload_n i68_17 rfl ?_
  refine gm_ev.if_ge_f i68_18 c5 ?_
  refine gm_ev.iload_n i68_21 rfl ?_
  refine gm_ev.callS gm_mono_run (av := [.int (s.2.1 1 k2)]) (r := []) i68_22 rfl rfl rfl (Nat.le_of_ble_eq_true rfl) t7 ?_
  refine gm_ev.if_ne_t (tgt := 30) i68_25 (by decide) c8 ?_
  refine gm_ev.aload_n i68_30 rfl ?_
  refine gm_ev.dup i68_31 rfl ?_
  refine gm_ev.getfield (v := .int (s.1 41)) i68_32 rfl (bM_fld (j := 2) (fs := cF2 C s) rfl rfl) ?_
  refine gm_ev.iconst (v := 1) i68_35 (by decide) ?_
  refine gm_ev.iadd i68_36 ?_
  refine gm_ev.putfield (M' := (bM C (cH C (cI s 41 ((s.1 41) + (1 : Int32)))) G)) i68_37 rfl (bM_put (j := 2) (fs := cF2 C s) rfl (Nat.le_of_ble_eq_true rfl) hN (gm_fit_i _) rfl) ?_
  refine gm_ev.iload_n i68_40 rfl ?_
  refine gm_ev.if_ge_t (tgt := 48) i68_41 (by decide) c9 ?_
  refine gm_ev.getstatic i68_48 rfl ?_
  refine gm_ev.iload_n i68_51 rfl ?_
  refine gm_ev.ialoadS i68_52 (gm_ai_of hkt11 ek10 lk10 (by decide)) ?_
  refine gm_ev.istore (ls' := [some (.ref (C + 2)), some (.int p0), some (.int (s.2.1 1 k2)), some (.int (gm_ix (s.2.1 1 k2))), some (.int (kt11 k10)), none, none]) i68_53 (Nat.le_of_ble_eq_true rfl) rfl ?_
  refine gm_ev.iload_n i68_55 rfl ?_
  refine gm_ev.if_ge_t (tgt := 63) i68_56 (by decide) c12 ?_
  refine gm_ev.iload i68_63 rfl ?_
  refine gm_ev.istore (ls' := [some (.ref (C + 2)), some (.int p0), some (.int (s.2.1 1 k2)), some (.int (gm_ix (s.2.1 1 k2))), some (.int (kt11 k10)), some (.int (kt11 k10)), none]) i68_65 (Nat.le_of_ble_eq_true rfl) rfl ?_
  refine gm_ev.iconst (v := 0) i68_67 (by decide) ?_
  refine gm_ev.istore (ls' := [some (.ref (C + 2)), some (.int p0), some (.int (s.2.1 1 k2)), some (.int (gm_ix (s.2.1 1 k2))), some (.int (kt11 k10)), some (.int (kt11 k10)), some (.int (0 : Int32))]) i68_68 (Nat.le_of_ble_eq_true rfl) rfl ?_
  refine gm_ev.aload_n i68_70 rfl ?_
  refine gm_ev.getfield (v := .ref (C + 3)) i68_71 rfl (bM_fld (j := 2) (fs := cF2 C (cI s 41 ((s.1 41) + (1 : Int32)))) rfl rfl) ?_
  refine gm_ev.iconst (v := 0) i68_74 (by decide) ?_
  refine gm_ev.callS gm_mono_run (av := [.ref (C + 3), .int (0 : Int32)]) (r := []) i68_75 rfl rfl rfl (Nat.le_of_ble_eq_true rfl) t13 ?_
  refine gm_ev.iload i68_78 rfl ?_
  refine gm_ev.if_le_t (tgt := 152) i68_80 (by decide) c15 ?_
  refine gm_ev.iload i68_152 rfl ?_
  refine gm_ev.iload i68_154 rfl ?_
  refine gm_ev.icmp_ge_t (tgt := 161) i68_156 (by decide) c16 ?_
  refine gm_ev.new i68_161 rfl ?_
  rw [cG_new hg_sz]
  have w18 : (gm_new G sz (.inr (5, [.int 0, .int 0, .int 0, .int 0, .int 0, .int 0, .int 0]))) sz = some (.inr (5, [.int 0, .int 0, .int 0, .int 0, .int 0, .int 0, .int 0])) := gm_set_eq
  have bd19 : gm_bd (gm_new G sz (.inr (5, [.int 0, .int 0, .int 0, .int 0, .int 0, .int 0, .int 0]))) (sz + 1) := gm_bd.new bd17
  refine gm_ev.dup i68_164 rfl ?_
  refine gm_ev.iload_n i68_165 rfl ?_
  refine gm_ev.iload_n i68_166 rfl ?_
  refine gm_ev.iload i68_167 rfl ?_
  refine gm_ev.callS gm_mono_run (av := [.int (s.2.1 1 k2), .int (0 : Int32)]) (r := [.int p0, .ref sz, .ref sz]) i68_169 rfl rfl rfl (Nat.le_of_ble_eq_true rfl) t21 ?_
  refine gm_ev.aload_n i68_172 rfl ?_
  refine gm_ev.getfield (v := .ref (C + 3)) i68_173 rfl (bM_fld (j := 2) (fs := cF2 C s14) rfl rfl) ?_
  refine gm_ev.iconst (v := 0) i68_176 (by decide) ?_
  refine gm_ev.iaload i68_177 (bM_ai (j := 3) (n := 3) (f := s14.2.1 3) rfl ek22 lk22 (by decide)) ?_
  refine gm_ev.aload_n i68_178 rfl ?_
  refine gm_ev.getfield (v := .ref (C + 3)) i68_179 rfl (bM_fld (j := 2) (fs := cF2 C s14) rfl rfl) ?_
  refine gm_ev.iconst (v := 1) i68_182 (by decide) ?_
  refine gm_ev.iaload i68_183 (bM_ai (j := 3) (n := 3) (f := s14.2.1 3) rfl ek23 lk23 (by decide)) ?_
  refine gm_ev.aload_n i68_184 rfl ?_
  refine gm_ev.getfield (v := .ref (C + 3)) i68_185 rfl (bM_fld (j := 2) (fs := cF2 C s14) rfl rfl) ?_
  refine gm_ev.iconst (v := 2) i68_188 (by decide) ?_
  refine gm_ev.iaload i68_189 (bM_ai (j := 3) (n := 3) (f := s14.2.1 3) rfl ek24 lk24 (by decide)) ?_
  refine gm_ev.callI gm_mono_run (av := [.int p0, .int r20, .int (s14.2.1 3 k22), .int (s14.2.1 3 k23), .int (s14.2.1 3 k24)]) (r := [.ref sz]) i68_190 rfl rfl rfl (Nat.le_of_ble_eq_true rfl) t25 ?_
  exact gm_ev.aret i68_193 rfl
theorem t_X6_readAtom_0_fttttf {N0 : Nat} {K : Nat → Nat} {d C : Nat} {s : cS} {G : gm_H} {sz sl : Nat} {p0 : Int32} {k2 : Nat} {r6 : Int32} {k10 : Nat} {kt11 : Nat → Int32} {s14 : cS} (hN : N0 ≤ C) (h1 : s.2.2 40 = some (C + 1)) (ek2 : (s.1 41) = nI k2) (lk2 : k2 < 241) (hd : 0 < d) (c5 : ¬ 0 ≤ (gm_ix (s.2.1 1 k2))) (t7 : gm_to N0 K ra_nm (ra_mt K) d 88 [.int (s.2.1 1 k2)] (bM C (cH C s) G) sz (.returned (some (.int r6)), (bM C (cH C s) G), sz, 0)) (c8 : ¬ r6 = 0) (c9 : 0 ≤ (gm_ix (s.2.1 1 k2))) (ek10 : (gm_ix (s.2.1 1 k2)) = nI k10) (hkt11 : (bM C (cH C (cI s 41 ((s.1 41) + (1 : Int32)))) G) (K 0) = some (.inl (gm_scr, 8, .inl kt11))) (lk10 : k10 < 8) (c12 : 0 ≤ (gm_ix (s.2.1 1 k2))) (t13 : gm_to N0 K ra_nm (ra_mt K) d 192 [.ref (C + 3), .int (0 : Int32)] (bM C (cH C (cI s 41 ((s.1 41) + (1 : Int32)))) G) sz (.returned none, (bM C (cH C s14) G), sz, 0)) (c15 : (kt11 k10) ≤ 0) (c16 : ¬ (kt11 k10) ≤ (0 : Int32)) : gm_ev N0 K ra_nm (ra_mt K) d (some (.object "RuleArena$Literal")) (gm_I cX6_readAtom) (gm_lkf (lkX6 false K)) 0 [some (.ref (C + 2)), some (.int p0), none, none, none, none, none] [] (bM C (cH C s) G) sz sl (.returned (some (.null)), (bM C (cH C s14) G), sz, sl) := by
  refine gm_ev.aload_n i68_0 rfl ?_
  refine gm_ev.getfield (v := .ref (C + 1)) i68_1 rfl (bM_fld (j := 2) (fs := cF2 C s) rfl (cv_some h1)) ?_
  refine gm_ev.aload_n i68_4 rfl ?_
  refine gm_ev.getfield (v := .int (s.1 41)) i68_5 rfl (bM_fld (j := 2) (fs := cF2 C s) rfl rfl) ?_
  refine gm_ev.caload i68_8 (bM_ai (j := 1) (n := 241) (f := s.2.1 1) rfl ek2 lk2 (by decide)) ?_
  refine gm_ev.istore_n (ls' := [some (.ref (C + 2)), some (.int p0), some (.int (s.2.1 1 k2)), none, none, none, none]) i68_9 (Nat.le_of_ble_eq_true rfl) rfl ?_
  refine gm_ev.ldc i68_10 rfl ?_
  refine gm_ev.iload_n i68_12 rfl ?_
  refine gm_ev.callT gm_mono_run (av := [.int (s.2.1 1 k2)]) (r := []) i68_13 rfl rfl rfl (Nat.le_of_ble_eq_true rfl) (gm_to_ix hd (Or.inr rfl)) ?_
  refine gm_ev.istore_n (ls' := [some (.ref (C + 2)), some (.int p0), some (.int (s.2.1 1 k2)), some (.int (gm_ix (s.2.1 1 k2))), none, none, none]) i68_16 (Nat.le_of_ble_eq_true rfl) rfl ?_
  refine gm_ev.iload_n i68_17 rfl ?_
  refine gm_ev.if_ge_f i68_18 c5 ?_
  refine gm_ev.iload_n i68_21 rfl ?_
  refine gm_ev.callS gm_mono_run (av := [.int (s.2.1 1 k2)]) (r := []) i68_22 rfl rfl rfl (Nat.le_of_ble_eq_true rfl) t7 ?_
  refine gm_ev.if_ne_t (tgt := 30) i68_25 (by decide) c8 ?_
  refine gm_ev.aload_n i68_30 rfl ?_
  refine gm_ev.dup i68_31 rfl ?_
  refine gm_ev.getfield (v := .int (s.1 41)) i68_32 rfl (bM_fld (j := 2) (fs := cF2 C s) rfl rfl) ?_
  refine gm_ev.iconst (v := 1) i68_35 (by decide) ?_
  refine gm_ev.iadd i68_36 ?_
  refine gm_ev.putfield (M' := (bM C (cH C (cI s 41 ((s.1 41) + (1 : Int32)))) G)) i68_37 rfl (bM_put (j := 2) (fs := cF2 C s) rfl (Nat.le_of_ble_eq_true rfl) hN (gm_fit_i _) rfl) ?_
  refine gm_ev.iload_n i68_40 rfl ?_
  refine gm_ev.if_ge_t (tgt := 48) i68_41 (by decide) c9 ?_
  refine gm_ev.getstatic i68_48 rfl ?_
  refine gm_ev.iload_n i68_51 rfl ?_
  refine gm_ev.ialoadS i68_52 (gm_ai_of hkt11 ek10 lk10 (by decide)) ?_
  refine gm_ev.istore (ls' := [some (.ref (C + 2)), some (.int p0), some (.int (s.2.1 1 k2)), some (.int (gm_ix (s.2.1 1 k2))), some (.int (kt11 k10)), none, none]) i68_53 (Nat.le_of_ble_eq_true rfl) rfl ?_
  refine gm_ev.iload_n i68_55 rfl ?_
  refine gm_ev.if_ge_t (tgt := 63) i68_56 (by decide) c12 ?_
  refine gm_ev.iload i68_63 rfl ?_
  refine gm_ev.istore (ls' := [some (.ref (C + 2)), some (.int p0), some (.int (s.2.1 1 k2)), some (.int (gm_ix (s.2.1 1 k2))), some (.int (kt11 k10)), some (.int (kt11 k10)), none]) i68_65 (Nat.le_of_ble_eq_true rfl) rfl ?_
  refine gm_ev.iconst (v := 0) i68_67 (by decide) ?_
  refine gm_ev.istore (ls' := [some (.ref (C + 2)), some (.int p0), some (.int (s.2.1 1 k2)), some (.int (gm_ix (s.2.1 1 k2))), some (.int (kt11 k10)), some (.int (kt11 k10)), some (.int (0 : Int32))]) i68_68 (Nat.le_of_ble_eq_true rfl) rfl ?_
  refine gm_ev.aload_n i68_70 rfl ?_
  refine gm_ev.getfield (v := .ref (C + 3)) i68_71 rfl (bM_fld (j := 2) (fs := cF2 C (cI s 41 ((s.1 41) + (1 : Int32)))) rfl rfl) ?_
  refine gm_ev.iconst (v := 0) i68_74 (by decide) ?_
  refine gm_ev.callS gm_mono_run (av := [.ref (C + 3), .int (0 : Int32)]) (r := []) i68_75 rfl rfl rfl (Nat.le_of_ble_eq_true rfl) t13 ?_
  refine gm_ev.iload i68_78 rfl ?_
  refine gm_ev.if_le_t (tgt := 152) i68_80 (by decide) c15 ?_
  refine gm_ev.iload i68_152 rfl ?_
  refine gm_ev.iload i68_154 rfl ?_
  refine gm_ev.icmp_ge_f i68_156 c16 ?_
  refine gm_ev.null i68_159 ?_
  exact gm_ev.aretN i68_160 rfl
theorem t_X6_readAtom_0_ftttftt {N0 : Nat} {K : Nat → Nat} {d C : Nat} {s : cS} {G : gm_H} {sz sl : Nat} {p0 : Int32} {k2 : Nat} {r6 : Int32} {k10 : Nat} {kt11 : Nat → Int32} {s14 : cS} {r16 : Int32} {s18 : cS} {r24 : Int32} {k26 : Nat} {k27 : Nat} {k28 : Nat} {G30 : gm_H} (hN : N0 ≤ C) (h1 : s.2.2 40 = some (C + 1)) (ek2 : (s.1 41) = nI k2) (lk2 : k2 < 241) (hd : 0 < d) (c5 : ¬ 0 ≤ (gm_ix (s.2.1 1 k2))) (t7 : gm_to N0 K ra_nm (ra_mt K) d 88 [.int (s.2.1 1 k2)] (bM C (cH C s) G) sz (.returned (some (.int r6)), (bM C (cH C s) G), sz, 0)) (c8 : ¬ r6 = 0) (c9 : 0 ≤ (gm_ix (s.2.1 1 k2))) (ek10 : (gm_ix (s.2.1 1 k2)) = nI k10) (hkt11 : (bM C (cH C (cI s 41 ((s.1 41) + (1 : Int32)))) G) (K 0) = some (.inl (gm_scr, 8, .inl kt11))) (lk10 : k10 < 8) (c12 : 0 ≤ (gm_ix (s.2.1 1 k2))) (t13 : gm_to N0 K ra_nm (ra_mt K) d 192 [.ref (C + 3), .int (0 : Int32)] (bM C (cH C (cI s 41 ((s.1 41) + (1 : Int32)))) G) sz (.returned none, (bM C (cH C s14) G), sz, 0)) (c15 : ¬ (kt11 k10) ≤ 0) (t17 : gm_to N0 K ra_nm (ra_mt K) d 63 [.ref (C + 2), .int (40 : Int32)] (bM C (cH C s14) G) sz (.returned (some (.int r16)), (bM C (cH C s18) G), sz, 0)) (c19 : r16 = 0) (c20 : (kt11 k10) ≤ (0 : Int32)) (hg_sz : C + 34 ≤ sz) (bd21 : gm_bd G sz) (t25 : gm_to N0 K ra_nm (ra_mt K) d 55 [.int (s.2.1 1 k2), .int (0 : Int32)] (bM C (cH C s18) (gm_new G sz (.inr (5, [.int 0, .int 0, .int 0, .int 0, .int 0, .int 0, .int 0])))) (sz + 1) (.returned (some (.int r24)), (bM C (cH C s18) (gm_new G sz (.inr (5, [.int 0, .int 0, .int 0, .int 0, .int 0, .int 0, .int 0])))), (sz + 1), 0)) (ek26 : (0 : Int32) = nI k26) (lk26 : k26 < 3) (ek27 : (1 : Int32) = nI k27) (lk27 : k27 < 3) (ek28 : (2 : Int32) = nI k28) (lk28 : k28 < 3) (t29 : gm_to N0 K ra_nm (ra_mt K) d 54 [.ref sz, .int p0, .int r24, .int (s18.2.1 3 k26), .int (s18.2.1 3 k27), .int (s18.2.1 3 k28)] (bM C (cH C s18) (gm_new G sz (.inr (5, [.int 0, .int 0, .int 0, .int 0, .int 0, .int 0, .int 0])))) (sz + 1) (.returned none, (bM C (cH C s18) G30), (sz + 1), 0)) : gm_ev N0 K ra_nm (ra_mt K) d (some (.object "RuleArena$Literal")) (gm_I cX6_readAtom) (gm_lkf (lkX6 false K)) 0 [some (.ref (C + 2)), some (.int p0), none, none, none, none, none] [] (bM C (cH C s) G) sz sl (.returned (some (.ref sz)), (bM C (cH C s18) G30), (sz + 1), (sl + 7)) := by
  refine gm_ev.aload_n i68_0 rfl ?_
  refine gm_ev.getfield (v := .ref (C + 1)) i68_1 rfl (bM_fld (j := 2) (fs := cF2 C s) rfl (cv_some h1)) ?_
  refine gm_ev.aload_n i68_4 rfl ?_
  refine gm_ev.getfield (v := .int (s.1 41)) i68_5 rfl (bM_fld (j := 2) (fs := cF2 C s) rfl rfl) ?_
  refine gm_ev.caload i68_8 (bM_ai (j := 1) (n := 241) (f := s.2.1 1) rfl ek2 lk2 (by decide)) ?_
  refine gm_ev.istore_n (ls' := [some (.ref (C + 2)), some (.int p0), some (.int (s.2.1 1 k2)), none, none, none, none]) i68_9 (Nat.le_of_ble_eq_true rfl) rfl ?_
  refine gm_ev.ldc i68_10 rfl ?_
  refine gm_ev.iload_n i68_12 rfl ?_
  refine gm_ev.callT gm_mono_run (av := [.int (s.2.1 1 k2)]) (r := []) i68_13 rfl rfl rfl (Nat.le_of_ble_eq_true rfl) (gm_to_ix hd (Or.inr rfl)) ?_
  refine gm_ev.istore_n (ls' := [some (.ref (C + 2)), some (.int p0), some (.int (s.2.1 1 k2)), some (.int (gm_ix (s.2.1 1 k2))), none, none, none]) i68_16 (Nat.le_of_ble_eq_true rfl) rfl ?_
  refine gm_ev.iload_n i68_17 rfl ?_
  refine gm_ev.if_ge_f i68_18 c5 ?_
  refine gm_ev.iload_n i68_21 rfl ?_
  refine gm_ev.callS gm_mono_run (av := [.int (s.2.1 1 k2)]) (r := []) i68_22 rfl rfl rfl (Nat.le_of_ble_eq_true rfl) t7 ?_
  refine gm_ev.if_ne_t (tgt := 30) i68_25 (by decide) c8 ?_
  refine gm_ev.aload_n i68_30 rfl ?_
  refine gm_ev.dup i68_31 rfl ?_
  refine gm_ev.getfield (v := .int (s.1 41)) i68_32 rfl (bM_fld (j := 2) (fs := cF2 C s) rfl rfl) ?_
  refine gm_ev.iconst (v := 1) i68_35 (by decide) ?_
  refine gm_ev.iadd i68_36 ?_
  refine gm_ev.putfield (M' := (bM C (cH C (cI s 41 ((s.1 41) + (1 : Int32)))) G)) i68_37 rfl (bM_put (j := 2) (fs := cF2 C s) rfl (Nat.le_of_ble_eq_true rfl) hN (gm_fit_i _) rfl) ?_
  refine gm_ev.iload_n i68_40 rfl ?_
  refine gm_ev.if_ge_t (tgt := 48) i68_41 (by decide) c9 ?_
  refine gm_ev.getstatic i68_48 rfl ?_
  refine gm_ev.iload_n i68_51 rfl ?_
  refine gm_ev.ialoadS i68_52 (gm_ai_of hkt11 ek10 lk10 (by decide)) ?_
  refine gm_ev.istore (ls' := [some (.ref (C + 2)), some (.int p0), some (.int (s.2.1 1 k2)), some (.int (gm_ix (s.2.1 1 k2))), some (.int (kt11 k10)), none, none]) i68_53 (Nat.le_of_ble_eq_true rfl) rfl ?_
  refine gm_ev.iload_n i68_55 rfl ?_
  refine gm_ev.if_ge_t (tgt := 63) i68_56 (by decide) c12 ?_
  refine gm_ev.iload i68_63 rfl ?_
  refine gm_ev.istore (ls' := [some (.ref (C + 2)), some (.int p0), some (.int (s.2.1 1 k2)), some (.int (gm_ix (s.2.1 1 k2))), some (.int (kt11 k10)), some (.int (kt11 k10)), none]) i68_65 (Nat.le_of_ble_eq_true rfl) rfl ?_
  refine gm_ev.iconst (v := 0) i68_67 (by decide) ?_
  refine gm_ev.istore (ls' := [some (.ref (C + 2)), some (.int p0), some (.int (s.2.1 1 k2)), some (.int (gm_ix (s.2.1 1 k2))), some (.int (kt11 k10)), some (.int (kt11 k10)), some (.int (0 : Int32))]) i68_68 (Nat.le_of_ble_eq_true rfl) rfl ?_
  refine gm_ev.aload_n i68_70 rfl ?_
  refine gm_ev.getfield (v := .ref (C + 3)) i68_71 rfl (bM_fld (j := 2) (fs := cF2 C (cI s 41 ((s.1 41) + (1 : Int32)))) rfl rfl) ?_
  refine gm_ev.iconst (v := 0) i68_74 (by decide) ?_
  refine gm_ev.callS gm_mono_run (av := [.ref (C + 3), .int (0 : Int32)]) (r := []) i68_75 rfl rfl rfl (Nat.le_of_ble_eq_true rfl) t13 ?_
  refine gm_ev.iload i68_78 rfl ?_
  refine gm_ev.if_le_f i68_80 c15 ?_
  refine gm_ev.aload_n i68_83 rfl ?_
  refine gm_ev.bipush (v := 40) i68_84 (by decide) ?_
  refine gm_ev.callV gm_mono_run (av := [.int (40 : Int32)]) (r := []) (ci := 6) (fs := cF2 C s14) (bM_get (j := 2) rfl) i68_86 rfl rfl rfl (Nat.le_of_ble_eq_true rfl) t17 ?_
  refine gm_ev.if_eq_t (tgt := 152) i68_89 (by decide) c19 ?_
  refine gm_ev.iload i68_152 rfl ?_
  refine gm_ev.iload i68_154 rfl ?_
  refine gm_ev.icmp_ge_t (tgt := 161) i68_156 (by decide) c20 ?_
  refine gm_ev.new i68_161 rfl ?_
  rw [cG_new hg_sz]
  have w22 : (gm_new G sz (.inr (5, [.int 0, .int 0, .int 0, .int 0, .int 0, .int 0, .int 0]))) sz = some (.inr (5, [.int 0, .int 0, .int 0, .int 0, .int 0, .int 0, .int 0])) := gm_set_eq
  have bd23 : gm_bd (gm_new G sz (.inr (5, [.int 0, .int 0, .int 0, .int 0, .int 0, .int 0, .int 0]))) (sz + 1) := gm_bd.new bd21
  refine gm_ev.dup i68_164 rfl ?_
  refine gm_ev.iload_n i68_165 rfl ?_
  refine gm_ev.iload_n i68_166 rfl ?_
  refine gm_ev.iload i68_167 rfl ?_
  refine gm_ev.callS gm_mono_run (av := [.int (s.2.1 1 k2), .int (0 : Int32)]) (r := [.int p0, .ref sz, .ref sz]) i68_169 rfl rfl rfl (Nat.le_of_ble_eq_true rfl) t25 ?_
  refine gm_ev.aload_n i68_172 rfl ?_
  refine gm_ev.getfield (v := .ref (C + 3)) i68_173 rfl (bM_fld (j := 2) (fs := cF2 C s18) rfl rfl) ?_
  refine gm_ev.iconst (v := 0) i68_176 (by decide) ?_
  refine gm_ev.iaload i68_177 (bM_ai (j := 3) (n := 3) (f := s18.2.1 3) rfl ek26 lk26 (by decide)) ?_
  refine gm_ev.aload_n i68_178 rfl ?_
  refine gm_ev.getfield (v := .ref (C + 3)) i68_179 rfl (bM_fld (j := 2) (fs := cF2 C s18) rfl rfl) ?_
  refine gm_ev.iconst (v := 1) i68_182 (by decide) ?_
  refine gm_ev.iaload i68_183 (bM_ai (j := 3) (n := 3) (f := s18.2.1 3) rfl ek27 lk27 (by decide)) ?_
  refine gm_ev.aload_n i68_184 rfl ?_
  refine gm_ev.getfield (v := .ref (C + 3)) i68_185 rfl (bM_fld (j := 2) (fs := cF2 C s18) rfl rfl) ?_
  refine gm_ev.iconst (v := 2) i68_188 (by decide) ?_
  refine gm_ev.iaload i68_189 (bM_ai (j := 3) (n := 3) (f := s18.2.1 3) rfl ek28 lk28 (by decide)) ?_
  refine gm_ev.callI gm_mono_run (av := [.int p0, .int r24, .int (s18.2.1 3 k26), .int (s18.2.1 3 k27), .int (s18.2.1 3 k28)]) (r := [.ref sz]) i68_190 rfl rfl rfl (Nat.le_of_ble_eq_true rfl) t29 ?_
  exact gm_ev.aret i68_193 rfl
theorem t_X6_readAtom_0_ftttftf {N0 : Nat} {K : Nat → Nat} {d C : Nat} {s : cS} {G : gm_H} {sz sl : Nat} {p0 : Int32} {k2 : Nat} {r6 : Int32} {k10 : Nat} {kt11 : Nat → Int32} {s14 : cS} {r16 : Int32} {s18 : cS} (hN : N0 ≤ C) (h1 : s.2.2 40 = some (C + 1)) (ek2 : (s.1 41) = nI k2) (lk2 : k2 < 241) (hd : 0 < d) (c5 : ¬ 0 ≤ (gm_ix (s.2.1 1 k2))) (t7 : gm_to N0 K ra_nm (ra_mt K) d 88 [.int (s.2.1 1 k2)] (bM C (cH C s) G) sz (.returned (some (.int r6)), (bM C (cH C s) G), sz, 0)) (c8 : ¬ r6 = 0) (c9 : 0 ≤ (gm_ix (s.2.1 1 k2))) (ek10 : (gm_ix (s.2.1 1 k2)) = nI k10) (hkt11 : (bM C (cH C (cI s 41 ((s.1 41) + (1 : Int32)))) G) (K 0) = some (.inl (gm_scr, 8, .inl kt11))) (lk10 : k10 < 8) (c12 : 0 ≤ (gm_ix (s.2.1 1 k2))) (t13 : gm_to N0 K ra_nm (ra_mt K) d 192 [.ref (C + 3), .int (0 : Int32)] (bM C (cH C (cI s 41 ((s.1 41) + (1 : Int32)))) G) sz (.returned none, (bM C (cH C s14) G), sz, 0)) (c15 : ¬ (kt11 k10) ≤ 0) (t17 : gm_to N0 K ra_nm (ra_mt K) d 63 [.ref (C + 2), .int (40 : Int32)] (bM C (cH C s14) G) sz (.returned (some (.int r16)), (bM C (cH C s18) G), sz, 0)) (c19 : r16 = 0) (c20 : ¬ (kt11 k10) ≤ (0 : Int32)) : gm_ev N0 K ra_nm (ra_mt K) d (some (.object "RuleArena$Literal")) (gm_I cX6_readAtom) (gm_lkf (lkX6 false K)) 0 [some (.ref (C + 2)), some (.int p0), none, none, none, none, none] [] (bM C (cH C s) G) sz sl (.returned (some (.null)), (bM C (cH C s18) G), sz, sl) := by
  refine gm_ev.aload_n i68_0 rfl ?_
  refine gm_ev.getfield (v := .ref (C + 1)) i68_1 rfl (bM_fld (j := 2) (fs := cF2 C s) rfl (cv_some h1)) ?_
  refine gm_ev.aload_n i68_4 rfl ?_
  refine gm_ev.getfield (v := .int (s.1 41)) i68_5 rfl (bM_fld (j := 2) (fs := cF2 C s) rfl rfl) ?_
  refine gm_ev.caload i68_8 (bM_ai (j := 1) (n := 241) (f := s.2.1 1) rfl ek2 lk2 (by decide)) ?_
  refine gm_ev.istore_n (ls' := [some (.ref (C + 2)), some (.int p0), some (.int (s.2.1 1 k2)), none, none, none, none]) i68_9 (Nat.le_of_ble_eq_true rfl) rfl ?_
  refine gm_ev.ldc i68_10 rfl ?_
  refine gm_ev.iload_n i68_12 rfl ?_
  refine gm_ev.callT gm_mono_run (av := [.int (s.2.1 1 k2)]) (r := []) i68_13 rfl rfl rfl (Nat.le_of_ble_eq_true rfl) (gm_to_ix hd (Or.inr rfl)) ?_
  refine gm_ev.istore_n (ls' := [some (.ref (C + 2)), some (.int p0), some (.int (s.2.1 1 k2)), some (.int (gm_ix (s.2.1 1 k2))), none, none, none]) i68_16 (Nat.le_of_ble_eq_true rfl) rfl ?_
  refine gm_ev.iload_n i68_17 rfl ?_
  refine gm_ev.if_ge_f i68_18 c5 ?_
  refine gm_ev.iload_n i68_21 rfl ?_
  refine gm_ev.callS gm_mono_run (av := [.int (s.2.1 1 k2)]) (r := []) i68_22 rfl rfl rfl (Nat.le_of_ble_eq_true rfl) t7 ?_
  refine gm_ev.if_ne_t (tgt := 30) i68_25 (by decide) c8 ?_
  refine gm_ev.aload_n i68_30 rfl ?_
  refine gm_ev.dup i68_31 rfl ?_
  refine gm_ev.getfield (v := .int (s.1 41)) i68_32 rfl (bM_fld (j := 2) (fs := cF2 C s) rfl rfl) ?_
  refine gm_ev.iconst (v := 1) i68_35 (by decide) ?_
  refine gm_ev.iadd i68_36 ?_
  refine gm_ev.putfield (M' := (bM C (cH C (cI s 41 ((s.1 41) + (1 : Int32)))) G)) i68_37 rfl (bM_put (j := 2) (fs := cF2 C s) rfl (Nat.le_of_ble_eq_true rfl) hN (gm_fit_i _) rfl) ?_
  refine gm_ev.iload_n i68_40 rfl ?_
  refine gm_ev.if_ge_t (tgt := 48) i68_41 (by decide) c9 ?_
  refine gm_ev.getstatic i68_48 rfl ?_
  refine gm_ev.iload_n i68_51 rfl ?_
  refine gm_ev.ialoadS i68_52 (gm_ai_of hkt11 ek10 lk10 (by decide)) ?_
  refine gm_ev.istore (ls' := [some (.ref (C + 2)), some (.int p0), some (.int (s.2.1 1 k2)), some (.int (gm_ix (s.2.1 1 k2))), some (.int (kt11 k10)), none, none]) i68_53 (Nat.le_of_ble_eq_true rfl) rfl ?_
  refine gm_ev.iload_n i68_55 rfl ?_
  refine gm_ev.if_ge_t (tgt := 63) i68_56 (by decide) c12 ?_
  refine gm_ev.iload i68_63 rfl ?_
  refine gm_ev.istore (ls' := [some (.ref (C + 2)), some (.int p0), some (.int (s.2.1 1 k2)), some (.int (gm_ix (s.2.1 1 k2))), some (.int (kt11 k10)), some (.int (kt11 k10)), none]) i68_65 (Nat.le_of_ble_eq_true rfl) rfl ?_
  refine gm_ev.iconst (v := 0) i68_67 (by decide) ?_
  refine gm_ev.istore (ls' := [some (.ref (C + 2)), some (.int p0), some (.int (s.2.1 1 k2)), some (.int (gm_ix (s.2.1 1 k2))), some (.int (kt11 k10)), some (.int (kt11 k10)), some (.int (0 : Int32))]) i68_68 (Nat.le_of_ble_eq_true rfl) rfl ?_
  refine gm_ev.aload_n i68_70 rfl ?_
  refine gm_ev.getfield (v := .ref (C + 3)) i68_71 rfl (bM_fld (j := 2) (fs := cF2 C (cI s 41 ((s.1 41) + (1 : Int32)))) rfl rfl) ?_
  refine gm_ev.iconst (v := 0) i68_74 (by decide) ?_
  refine gm_ev.callS gm_mono_run (av := [.ref (C + 3), .int (0 : Int32)]) (r := []) i68_75 rfl rfl rfl (Nat.le_of_ble_eq_true rfl) t13 ?_
  refine gm_ev.iload i68_78 rfl ?_
  refine gm_ev.if_le_f i68_80 c15 ?_
  refine gm_ev.aload_n i68_83 rfl ?_
  refine gm_ev.bipush (v := 40) i68_84 (by decide) ?_
  refine gm_ev.callV gm_mono_run (av := [.int (40 : Int32)]) (r := []) (ci := 6) (fs := cF2 C s14) (bM_get (j := 2) rfl) i68_86 rfl rfl rfl (Nat.le_of_ble_eq_true rfl) t17 ?_
  refine gm_ev.if_eq_t (tgt := 152) i68_89 (by decide) c19 ?_
  refine gm_ev.iload i68_152 rfl ?_
  refine gm_ev.iload i68_154 rfl ?_
  refine gm_ev.icmp_ge_f i68_156 c20 ?_
  refine gm_ev.null i68_159 ?_
  exact gm_ev.aretN i68_160 rfl
theorem t_X6_readAtom_0_ftttff_at92 {N0 : Nat} {K : Nat → Nat} {d C : Nat} {s : cS} {G : gm_H} {sz sl : Nat} {R : gm_R} {p0 : Int32} {k2 : Nat} {r6 : Int32} {k10 : Nat} {kt11 : Nat → Int32} {s14 : cS} {r16 : Int32} {s18 : cS} (hN : N0 ≤ C) (h1 : s.2.2 40 = some (C + 1)) (ek2 : (s.1 41) = nI k2) (lk2 : k2 < 241) (hd : 0 < d) (c5 : ¬ 0 ≤ (gm_ix (s.2.1 1 k2))) (t7 : gm_to N0 K ra_nm (ra_mt K) d 88 [.int (s.2.1 1 k2)] (bM C (cH C s) G) sz (.returned (some (.int r6)), (bM C (cH C s) G), sz, 0)) (c8 : ¬ r6 = 0) (c9 : 0 ≤ (gm_ix (s.2.1 1 k2))) (ek10 : (gm_ix (s.2.1 1 k2)) = nI k10) (hkt11 : (bM C (cH C (cI s 41 ((s.1 41) + (1 : Int32)))) G) (K 0) = some (.inl (gm_scr, 8, .inl kt11))) (lk10 : k10 < 8) (c12 : 0 ≤ (gm_ix (s.2.1 1 k2))) (t13 : gm_to N0 K ra_nm (ra_mt K) d 192 [.ref (C + 3), .int (0 : Int32)] (bM C (cH C (cI s 41 ((s.1 41) + (1 : Int32)))) G) sz (.returned none, (bM C (cH C s14) G), sz, 0)) (c15 : ¬ (kt11 k10) ≤ 0) (t17 : gm_to N0 K ra_nm (ra_mt K) d 63 [.ref (C + 2), .int (40 : Int32)] (bM C (cH C s14) G) sz (.returned (some (.int r16)), (bM C (cH C s18) G), sz, 0)) (c19 : ¬ r16 = 0) (k : gm_ev N0 K ra_nm (ra_mt K) d (some (.object "RuleArena$Literal")) (gm_I cX6_readAtom) (gm_lkf (lkX6 false K)) 92 [some (.ref (C + 2)), some (.int p0), some (.int (s.2.1 1 k2)), none, some (.int (kt11 k10)), some (.int (kt11 k10)), some (.int (0 : Int32))] [] (bM C (cH C s18) G) sz sl R) : gm_ev N0 K ra_nm (ra_mt K) d (some (.object "RuleArena$Literal")) (gm_I cX6_readAtom) (gm_lkf (lkX6 false K)) 0 [some (.ref (C + 2)), some (.int p0), none, none, none, none, none] [] (bM C (cH C s) G) sz sl R := by
  refine gm_ev.aload_n i68_0 rfl ?_
  refine gm_ev.getfield (v := .ref (C + 1)) i68_1 rfl (bM_fld (j := 2) (fs := cF2 C s) rfl (cv_some h1)) ?_
  refine gm_ev.aload_n i68_4 rfl ?_
  refine gm_ev.getfield (v := .int (s.1 41)) i68_5 rfl (bM_fld (j := 2) (fs := cF2 C s) rfl rfl) ?_
  refine gm_ev.caload i68_8 (bM_ai (j := 1) (n := 241) (f := s.2.1 1) rfl ek2 lk2 (by decide)) ?_
  refine gm_ev.istore_n (ls' := [some (.ref (C + 2)), some (.int p0), some (.int (s.2.1 1 k2)), none, none, none, none]) i68_9 (Nat.le_of_ble_eq_true rfl) rfl ?_
  refine gm_ev.ldc i68_10 rfl ?_
  refine gm_ev.iload_n i68_12 rfl ?_
  refine gm_ev.callT gm_mono_run (av := [.int (s.2.1 1 k2)]) (r := []) i68_13 rfl rfl rfl (Nat.le_of_ble_eq_true rfl) (gm_to_ix hd (Or.inr rfl)) ?_
  refine gm_ev.istore_n (ls' := [some (.ref (C + 2)), some (.int p0), some (.int (s.2.1 1 k2)), some (.int (gm_ix (s.2.1 1 k2))), none, none, none]) i68_16 (Nat.le_of_ble_eq_true rfl) rfl ?_
  refine gm_ev.iload_n i68_17 rfl ?_
  refine gm_ev.if_ge_f i68_18 c5 ?_
  refine gm_ev.iload_n i68_21 rfl ?_
  refine gm_ev.callS gm_mono_run (av := [.int (s.2.1 1 k2)]) (r := []) i68_22 rfl rfl rfl (Nat.le_of_ble_eq_true rfl) t7 ?_
  refine gm_ev.if_ne_t (tgt := 30) i68_25 (by decide) c8 ?_
  refine gm_ev.aload_n i68_30 rfl ?_
  refine gm_ev.dup i68_31 rfl ?_
  refine gm_ev.getfield (v := .int (s.1 41)) i68_32 rfl (bM_fld (j := 2) (fs := cF2 C s) rfl rfl) ?_
  refine gm_ev.iconst (v := 1) i68_35 (by decide) ?_
  refine gm_ev.iadd i68_36 ?_
  refine gm_ev.putfield (M' := (bM C (cH C (cI s 41 ((s.1 41) + (1 : Int32)))) G)) i68_37 rfl (bM_put (j := 2) (fs := cF2 C s) rfl (Nat.le_of_ble_eq_true rfl) hN (gm_fit_i _) rfl) ?_
  refine gm_ev.iload_n i68_40 rfl ?_
  refine gm_ev.if_ge_t (tgt := 48) i68_41 (by decide) c9 ?_
  refine gm_ev.getstatic i68_48 rfl ?_
  refine gm_ev.iload_n i68_51 rfl ?_
  refine gm_ev.ialoadS i68_52 (gm_ai_of hkt11 ek10 lk10 (by decide)) ?_
  refine gm_ev.istore (ls' := [some (.ref (C + 2)), some (.int p0), some (.int (s.2.1 1 k2)), some (.int (gm_ix (s.2.1 1 k2))), some (.int (kt11 k10)), none, none]) i68_53 (Nat.le_of_ble_eq_true rfl) rfl ?_
  refine gm_ev.iload_n i68_55 rfl ?_
  refine gm_ev.if_ge_t (tgt := 63) i68_56 (by decide) c12 ?_
  refine gm_ev.iload i68_63 rfl ?_
  refine gm_ev.istore (ls' := [some (.ref (C + 2)), some (.int p0), some (.int (s.2.1 1 k2)), some (.int (gm_ix (s.2.1 1 k2))), some (.int (kt11 k10)), some (.int (kt11 k10)), none]) i68_65 (Nat.le_of_ble_eq_true rfl) rfl ?_
  refine gm_ev.iconst (v := 0) i68_67 (by decide) ?_
  refine gm_ev.istore (ls' := [some (.ref (C + 2)), some (.int p0), some (.int (s.2.1 1 k2)), some (.int (gm_ix (s.2.1 1 k2))), some (.int (kt11 k10)), some (.int (kt11 k10)), some (.int (0 : Int32))]) i68_68 (Nat.le_of_ble_eq_true rfl) rfl ?_
  refine gm_ev.aload_n i68_70 rfl ?_
  refine gm_ev.getfield (v := .ref (C + 3)) i68_71 rfl (bM_fld (j := 2) (fs := cF2 C (cI s 41 ((s.1 41) + (1 : Int32)))) rfl rfl) ?_
  refine gm_ev.iconst (v := 0) i68_74 (by decide) ?_
  refine gm_ev.callS gm_mono_run (av := [.ref (C + 3), .int (0 : Int32)]) (r := []) i68_75 rfl rfl rfl (Nat.le_of_ble_eq_true rfl) t13 ?_
  refine gm_ev.iload i68_78 rfl ?_
  refine gm_ev.if_le_f i68_80 c15 ?_
  refine gm_ev.aload_n i68_83 rfl ?_
  refine gm_ev.bipush (v := 40) i68_84 (by decide) ?_
  refine gm_ev.callV gm_mono_run (av := [.int (40 : Int32)]) (r := []) (ci := 6) (fs := cF2 C s14) (bM_get (j := 2) rfl) i68_86 rfl rfl rfl (Nat.le_of_ble_eq_true rfl) t17 ?_
  refine gm_ev.if_eq_f i68_89 c19 ?_
  refine gm_ev.le (a := [some (.ref (C + 2)), some (.int p0), some (.int (s.2.1 1 k2)), none, some (.int (kt11 k10)), some (.int (kt11 k10)), some (.int (0 : Int32))]) (gm_leL.le (show gm_leL _ _ from ⟨rfl, ⟨rfl, ⟨rfl, ⟨rfl, ⟨rfl, ⟨rfl, trivial⟩⟩⟩⟩⟩⟩)) ?_
  exact k
theorem t_X6_readAtom_0_fttftt {N0 : Nat} {K : Nat → Nat} {d C : Nat} {s : cS} {G : gm_H} {sz sl : Nat} {p0 : Int32} {k2 : Nat} {r6 : Int32} {k10 : Nat} {kt11 : Nat → Int32} {s14 : cS} {r20 : Int32} {k22 : Nat} {k23 : Nat} {k24 : Nat} {G26 : gm_H} (hN : N0 ≤ C) (h1 : s.2.2 40 = some (C + 1)) (ek2 : (s.1 41) = nI k2) (lk2 : k2 < 241) (hd : 0 < d) (c5 : ¬ 0 ≤ (gm_ix (s.2.1 1 k2))) (t7 : gm_to N0 K ra_nm (ra_mt K) d 88 [.int (s.2.1 1 k2)] (bM C (cH C s) G) sz (.returned (some (.int r6)), (bM C (cH C s) G), sz, 0)) (c8 : ¬ r6 = 0) (c9 : 0 ≤ (gm_ix (s.2.1 1 k2))) (ek10 : (gm_ix (s.2.1 1 k2)) = nI k10) (hkt11 : (bM C (cH C (cI s 41 ((s.1 41) + (1 : Int32)))) G) (K 0) = some (.inl (gm_scr, 8, .inl kt11))) (lk10 : k10 < 8) (c12 : ¬ 0 ≤ (gm_ix (s.2.1 1 k2))) (t13 : gm_to N0 K ra_nm (ra_mt K) d 192 [.ref (C + 3), .int (0 : Int32)] (bM C (cH C (cI s 41 ((s.1 41) + (1 : Int32)))) G) sz (.returned none, (bM C (cH C s14) G), sz, 0)) (c15 : (3 : Int32) ≤ 0) (c16 : (kt11 k10) ≤ (0 : Int32)) (hg_sz : C + 34 ≤ sz) (bd17 : gm_bd G sz) (t21 : gm_to N0 K ra_nm (ra_mt K) d 55 [.int (s.2.1 1 k2), .int (0 : Int32)] (bM C (cH C s14) (gm_new G sz (.inr (5, [.int 0, .int 0, .int 0, .int 0, .int 0, .int 0, .int 0])))) (sz + 1) (.returned (some (.int r20)), (bM C (cH C s14) (gm_new G sz (.inr (5, [.int 0, .int 0, .int 0, .int 0, .int 0, .int 0, .int 0])))), (sz + 1), 0)) (ek22 : (0 : Int32) = nI k22) (lk22 : k22 < 3) (ek23 : (1 : Int32) = nI k23) (lk23 : k23 < 3) (ek24 : (2 : Int32) = nI k24) (lk24 : k24 < 3) (t25 : gm_to N0 K ra_nm (ra_mt K) d 54 [.ref sz, .int p0, .int r20, .int (s14.2.1 3 k22), .int (s14.2.1 3 k23), .int (s14.2.1 3 k24)] (bM C (cH C s14) (gm_new G sz (.inr (5, [.int 0, .int 0, .int 0, .int 0, .int 0, .int 0, .int 0])))) (sz + 1) (.returned none, (bM C (cH C s14) G26), (sz + 1), 0)) : gm_ev N0 K ra_nm (ra_mt K) d (some (.object "RuleArena$Literal")) (gm_I cX6_readAtom) (gm_lkf (lkX6 false K)) 0 [some (.ref (C + 2)), some (.int p0), none, none, none, none, none] [] (bM C (cH C s) G) sz sl (.returned (some (.ref sz)), (bM C (cH C s14) G26), (sz + 1), (sl + 7)) := by
  refine gm_ev.aload_n i68_0 rfl ?_
  refine gm_ev.getfield (v := .ref (C + 1)) i68_1 rfl (bM_fld (j := 2) (fs := cF2 C s) rfl (cv_some h1)) ?_
  refine gm_ev.aload_n i68_4 rfl ?_
  refine gm_ev.getfield (v := .int (s.1 41)) i68_5 rfl (bM_fld (j := 2) (fs := cF2 C s) rfl rfl) ?_
  refine gm_ev.caload i68_8 (bM_ai (j := 1) (n := 241) (f := s.2.1 1) rfl ek2 lk2 (by decide)) ?_
  refine gm_ev.istore_n (ls' := [some (.ref (C + 2)), some (.int p0), some (.int (s.2.1 1 k2)), none, none, none, none]) i68_9 (Nat.le_of_ble_eq_true rfl) rfl ?_
  refine gm_ev.ldc i68_10 rfl ?_
  refine gm_ev.iload_n i68_12 rfl ?_
  refine gm_ev.callT gm_mono_run (av := [.int (s.2.1 1 k2)]) (r := []) i68_13 rfl rfl rfl (Nat.le_of_ble_eq_true rfl) (gm_to_ix hd (Or.inr rfl)) ?_
  refine gm_ev.istore_n (ls' := [some (.ref (C + 2)), some (.int p0), some (.int (s.2.1 1 k2)), some (.int (gm_ix (s.2.1 1 k2))), none, none, none]) i68_16 (Nat.le_of_ble_eq_true rfl) rfl ?_
  refine gm_ev.iload_n i68_17 rfl ?_
  refine gm_ev.if_ge_f i68_18 c5 ?_
  refine gm_ev.iload_n i68_21 rfl ?_
  refine gm_ev.callS gm_mono_run (av := [.int (s.2.1 1 k2)]) (r := []) i68_22 rfl rfl rfl (Nat.le_of_ble_eq_true rfl) t7 ?_
  refine gm_ev.if_ne_t (tgt := 30) i68_25 (by decide) c8 ?_
  refine gm_ev.aload_n i68_30 rfl ?_
  refine gm_ev.dup i68_31 rfl ?_
  refine gm_ev.getfield (v := .int (s.1 41)) i68_32 rfl (bM_fld (j := 2) (fs := cF2 C s) rfl rfl) ?_
  refine gm_ev.iconst (v := 1) i68_35 (by decide) ?_
  refine gm_ev.iadd i68_36 ?_
  refine gm_ev.putfield (M' := (bM C (cH C (cI s 41 ((s.1 41) + (1 : Int32)))) G)) i68_37 rfl (bM_put (j := 2) (fs := cF2 C s) rfl (Nat.le_of_ble_eq_true rfl) hN (gm_fit_i _) rfl) ?_
  refine gm_ev.iload_n i68_40 rfl ?_
  refine gm_ev.if_ge_t (tgt := 48) i68_41 (by decide) c9 ?_
  refine gm_ev.getstatic i68_48 rfl ?_
  refine gm_ev.iload_n i68_51 rfl ?_
  refine gm_ev.ialoadS i68_52 (gm_ai_of hkt11 ek10 lk10 (by decide)) ?_
  refine gm_ev.istore (ls' := [some (.ref (C + 2)), some (.int p0), some (.int (s.2.1 1 k2)), some (.int (gm_ix (s.2.1 1 k2))), some (.int (kt11 k10)), none, none]) i68_53 (Nat.le_of_ble_eq_true rfl) rfl ?_
  refine gm_ev.iload_n i68_55 rfl ?_
  refine gm_ev.if_ge_f i68_56 c12 ?_
  refine gm_ev.iconst (v := 3) i68_59 (by decide) ?_
  refine gm_ev.goto (tgt := 65) i68_60 (by decide) ?_
  refine gm_ev.istore (ls' := [some (.ref (C + 2)), some (.int p0), some (.int (s.2.1 1 k2)), some (.int (gm_ix (s.2.1 1 k2))), some (.int (kt11 k10)), some (.int (3 : Int32)), none]) i68_65 (Nat.le_of_ble_eq_true rfl) rfl ?_
  refine gm_ev.iconst (v := 0) i68_67 (by decide) ?_
  refine gm_ev.istore (ls' := [some (.ref (C + 2)), some (.int p0), some (.int (s.2.1 1 k2)), some (.int (gm_ix (s.2.1 1 k2))), some (.int (kt11 k10)), some (.int (3 : Int32)), some (.int (0 : Int32))]) i68_68 (Nat.le_of_ble_eq_true rfl) rfl ?_
  refine gm_ev.aload_n i68_70 rfl ?_
  refine gm_ev.getfield (v := .ref (C + 3)) i68_71 rfl (bM_fld (j := 2) (fs := cF2 C (cI s 41 ((s.1 41) + (1 : Int32)))) rfl rfl) ?_
  refine gm_ev.iconst (v := 0) i68_74 (by decide) ?_
  refine gm_ev.callS gm_mono_run (av := [.ref (C + 3), .int (0 : Int32)]) (r := []) i68_75 rfl rfl rfl (Nat.le_of_ble_eq_true rfl) t13 ?_
  refine gm_ev.iload i68_78 rfl ?_
  refine gm_ev.if_le_t (tgt := 152) i68_80 (by decide) c15 ?_
  refine gm_ev.iload i68_152 rfl ?_
  refine gm_ev.iload i68_154 rfl ?_
  refine gm_ev.icmp_ge_t (tgt := 161) i68_156 (by decide) c16 ?_
  refine gm_ev.new i68_161 rfl ?_
  rw [cG_new hg_sz]
  have w18 : (gm_new G sz (.inr (5, [.int 0, .int 0, .int 0, .int 0, .int 0, .int 0, .int 0]))) sz = some (.inr (5, [.int 0, .int 0, .int 0, .int 0, .int 0, .int 0, .int 0])) := gm_set_eq
  have bd19 : gm_bd (gm_new G sz (.inr (5, [.int 0, .int 0, .int 0, .int 0, .int 0, .int 0, .int 0]))) (sz + 1) := gm_bd.new bd17
  refine gm_ev.dup i68_164 rfl ?_
  refine gm_ev.iload_n i68_165 rfl ?_
  refine gm_ev.iload_n i68_166 rfl ?_
  refine gm_ev.iload i68_167 rfl ?_
  refine gm_ev.callS gm_mono_run (av := [.int (s.2.1 1 k2), .int (0 : Int32)]) (r := [.int p0, .ref sz, .ref sz]) i68_169 rfl rfl rfl (Nat.le_of_ble_eq_true rfl) t21 ?_
  refine gm_ev.aload_n i68_172 rfl ?_
  refine gm_ev.getfield (v := .ref (C + 3)) i68_173 rfl (bM_fld (j := 2) (fs := cF2 C s14) rfl rfl) ?_
  refine gm_ev.iconst (v := 0) i68_176 (by decide) ?_
  refine gm_ev.iaload i68_177 (bM_ai (j := 3) (n := 3) (f := s14.2.1 3) rfl ek22 lk22 (by decide)) ?_
  refine gm_ev.aload_n i68_178 rfl ?_
  refine gm_ev.getfield (v := .ref (C + 3)) i68_179 rfl (bM_fld (j := 2) (fs := cF2 C s14) rfl rfl) ?_
  refine gm_ev.iconst (v := 1) i68_182 (by decide) ?_
  refine gm_ev.iaload i68_183 (bM_ai (j := 3) (n := 3) (f := s14.2.1 3) rfl ek23 lk23 (by decide)) ?_
  refine gm_ev.aload_n i68_184 rfl ?_
  refine gm_ev.getfield (v := .ref (C + 3)) i68_185 rfl (bM_fld (j := 2) (fs := cF2 C s14) rfl rfl) ?_
  refine gm_ev.iconst (v := 2) i68_188 (by decide) ?_
  refine gm_ev.iaload i68_189 (bM_ai (j := 3) (n := 3) (f := s14.2.1 3) rfl ek24 lk24 (by decide)) ?_
  refine gm_ev.callI gm_mono_run (av := [.int p0, .int r20, .int (s14.2.1 3 k22), .int (s14.2.1 3 k23), .int (s14.2.1 3 k24)]) (r := [.ref sz]) i68_190 rfl rfl rfl (Nat.le_of_ble_eq_true rfl) t25 ?_
  exact gm_ev.aret i68_193 rfl
theorem t_X6_readAtom_0_fttftf {N0 : Nat} {K : Nat → Nat} {d C : Nat} {s : cS} {G : gm_H} {sz sl : Nat} {p0 : Int32} {k2 : Nat} {r6 : Int32} {k10 : Nat} {kt11 : Nat → Int32} {s14 : cS} (hN : N0 ≤ C) (h1 : s.2.2 40 = some (C + 1)) (ek2 : (s.1 41) = nI k2) (lk2 : k2 < 241) (hd : 0 < d) (c5 : ¬ 0 ≤ (gm_ix (s.2.1 1 k2))) (t7 : gm_to N0 K ra_nm (ra_mt K) d 88 [.int (s.2.1 1 k2)] (bM C (cH C s) G) sz (.returned (some (.int r6)), (bM C (cH C s) G), sz, 0)) (c8 : ¬ r6 = 0) (c9 : 0 ≤ (gm_ix (s.2.1 1 k2))) (ek10 : (gm_ix (s.2.1 1 k2)) = nI k10) (hkt11 : (bM C (cH C (cI s 41 ((s.1 41) + (1 : Int32)))) G) (K 0) = some (.inl (gm_scr, 8, .inl kt11))) (lk10 : k10 < 8) (c12 : ¬ 0 ≤ (gm_ix (s.2.1 1 k2))) (t13 : gm_to N0 K ra_nm (ra_mt K) d 192 [.ref (C + 3), .int (0 : Int32)] (bM C (cH C (cI s 41 ((s.1 41) + (1 : Int32)))) G) sz (.returned none, (bM C (cH C s14) G), sz, 0)) (c15 : (3 : Int32) ≤ 0) (c16 : ¬ (kt11 k10) ≤ (0 : Int32)) : gm_ev N0 K ra_nm (ra_mt K) d (some (.object "RuleArena$Literal")) (gm_I cX6_readAtom) (gm_lkf (lkX6 false K)) 0 [some (.ref (C + 2)), some (.int p0), none, none, none, none, none] [] (bM C (cH C s) G) sz sl (.returned (some (.null)), (bM C (cH C s14) G), sz, sl) := by
  refine gm_ev.aload_n i68_0 rfl ?_
  refine gm_ev.getfield (v := .ref (C + 1)) i68_1 rfl (bM_fld (j := 2) (fs := cF2 C s) rfl (cv_some h1)) ?_
  refine gm_ev.aload_n i68_4 rfl ?_
  refine gm_ev.getfield (v := .int (s.1 41)) i68_5 rfl (bM_fld (j := 2) (fs := cF2 C s) rfl rfl) ?_
  refine gm_ev.caload i68_8 (bM_ai (j := 1) (n := 241) (f := s.2.1 1) rfl ek2 lk2 (by decide)) ?_
  refine gm_ev.istore_n (ls' := [some (.ref (C + 2)), some (.int p0), some (.int (s.2.1 1 k2)), none, none, none, none]) i68_9 (Nat.le_of_ble_eq_true rfl) rfl ?_
  refine gm_ev.ldc i68_10 rfl ?_
  refine gm_ev.iload_n i68_12 rfl ?_
  refine gm_ev.callT gm_mono_run (av := [.int (s.2.1 1 k2)]) (r := []) i68_13 rfl rfl rfl (Nat.le_of_ble_eq_true rfl) (gm_to_ix hd (Or.inr rfl)) ?_
  refine gm_ev.istore_n (ls' := [some (.ref (C + 2)), some (.int p0), some (.int (s.2.1 1 k2)), some (.int (gm_ix (s.2.1 1 k2))), none, none, none]) i68_16 (Nat.le_of_ble_eq_true rfl) rfl ?_
  refine gm_ev.iload_n i68_17 rfl ?_
  refine gm_ev.if_ge_f i68_18 c5 ?_
  refine gm_ev.iload_n i68_21 rfl ?_
  refine gm_ev.callS gm_mono_run (av := [.int (s.2.1 1 k2)]) (r := []) i68_22 rfl rfl rfl (Nat.le_of_ble_eq_true rfl) t7 ?_
  refine gm_ev.if_ne_t (tgt := 30) i68_25 (by decide) c8 ?_
  refine gm_ev.aload_n i68_30 rfl ?_
  refine gm_ev.dup i68_31 rfl ?_
  refine gm_ev.getfield (v := .int (s.1 41)) i68_32 rfl (bM_fld (j := 2) (fs := cF2 C s) rfl rfl) ?_
  refine gm_ev.iconst (v := 1) i68_35 (by decide) ?_
  refine gm_ev.iadd i68_36 ?_
  refine gm_ev.putfield (M' := (bM C (cH C (cI s 41 ((s.1 41) + (1 : Int32)))) G)) i68_37 rfl (bM_put (j := 2) (fs := cF2 C s) rfl (Nat.le_of_ble_eq_true rfl) hN (gm_fit_i _) rfl) ?_
  refine gm_ev.iload_n i68_40 rfl ?_
  refine gm_ev.if_ge_t (tgt := 48) i68_41 (by decide) c9 ?_
  refine gm_ev.getstatic i68_48 rfl ?_
  refine gm_ev.iload_n i68_51 rfl ?_
  refine gm_ev.ialoadS i68_52 (gm_ai_of hkt11 ek10 lk10 (by decide)) ?_
  refine gm_ev.istore (ls' := [some (.ref (C + 2)), some (.int p0), some (.int (s.2.1 1 k2)), some (.int (gm_ix (s.2.1 1 k2))), some (.int (kt11 k10)), none, none]) i68_53 (Nat.le_of_ble_eq_true rfl) rfl ?_
  refine gm_ev.iload_n i68_55 rfl ?_
  refine gm_ev.if_ge_f i68_56 c12 ?_
  refine gm_ev.iconst (v := 3) i68_59 (by decide) ?_
  refine gm_ev.goto (tgt := 65) i68_60 (by decide) ?_
  refine gm_ev.istore (ls' := [some (.ref (C + 2)), some (.int p0), some (.int (s.2.1 1 k2)), some (.int (gm_ix (s.2.1 1 k2))), some (.int (kt11 k10)), some (.int (3 : Int32)), none]) i68_65 (Nat.le_of_ble_eq_true rfl) rfl ?_
  refine gm_ev.iconst (v := 0) i68_67 (by decide) ?_
  refine gm_ev.istore (ls' := [some (.ref (C + 2)), some (.int p0), some (.int (s.2.1 1 k2)), some (.int (gm_ix (s.2.1 1 k2))), some (.int (kt11 k10)), some (.int (3 : Int32)), some (.int (0 : Int32))]) i68_68 (Nat.le_of_ble_eq_true rfl) rfl ?_
  refine gm_ev.aload_n i68_70 rfl ?_
  refine gm_ev.getfield (v := .ref (C + 3)) i68_71 rfl (bM_fld (j := 2) (fs := cF2 C (cI s 41 ((s.1 41) + (1 : Int32)))) rfl rfl) ?_
  refine gm_ev.iconst (v := 0) i68_74 (by decide) ?_
  refine gm_ev.callS gm_mono_run (av := [.ref (C + 3), .int (0 : Int32)]) (r := []) i68_75 rfl rfl rfl (Nat.le_of_ble_eq_true rfl) t13 ?_
  refine gm_ev.iload i68_78 rfl ?_
  refine gm_ev.if_le_t (tgt := 152) i68_80 (by decide) c15 ?_
  refine gm_ev.iload i68_152 rfl ?_
  refine gm_ev.iload i68_154 rfl ?_
  refine gm_ev.icmp_ge_f i68_156 c16 ?_
  refine gm_ev.null i68_159 ?_
  exact gm_ev.aretN i68_160 rfl
theorem t_X6_readAtom_0_fttfftt {N0 : Nat} {K : Nat → Nat} {d C : Nat} {s : cS} {G : gm_H} {sz sl : Nat} {p0 : Int32} {k2 : Nat} {r6 : Int32} {k10 : Nat} {kt11 : Nat → Int32} {s14 : cS} {r16 : Int32} {s18 : cS} {r24 : Int32} {k26 : Nat} {k27 : Nat} {k28 : Nat} {G30 : gm_H} (hN : N0 ≤ C) (h1 : s.2.2 40 = some (C + 1)) (ek2 : (s.1 41) = nI k2) (lk2 : k2 < 241) (hd : 0 < d) (c5 : ¬ 0 ≤ (gm_ix (s.2.1 1 k2))) (t7 : gm_to N0 K ra_nm (ra_mt K) d 88 [.int (s.2.1 1 k2)] (bM C (cH C s) G) sz (.returned (some (.int r6)), (bM C (cH C s) G), sz, 0)) (c8 : ¬ r6 = 0) (c9 : 0 ≤ (gm_ix (s.2.1 1 k2))) (ek10 : (gm_ix (s.2.1 1 k2)) = nI k10) (hkt11 : (bM C (cH C (cI s 41 ((s.1 41) + (1 : Int32)))) G) (K 0) = some (.inl (gm_scr, 8, .inl kt11))) (lk10 : k10 < 8) (c12 : ¬ 0 ≤ (gm_ix (s.2.1 1 k2))) (t13 : gm_to N0 K ra_nm (ra_mt K) d 192 [.ref (C + 3), .int (0 : Int32)] (bM C (cH C (cI s 41 ((s.1 41) + (1 : Int32)))) G) sz (.returned none, (bM C (cH C s14) G), sz, 0)) (c15 : ¬ (3 : Int32) ≤ 0) (t17 : gm_to N0 K ra_nm (ra_mt K) d 63 [.ref (C + 2), .int (40 : Int32)] (bM C (cH C s14) G) sz (.returned (some (.int r16)), (bM C (cH C s18) G), sz, 0)) (c19 : r16 = 0) (c20 : (kt11 k10) ≤ (0 : Int32)) (hg_sz : C + 34 ≤ sz) (bd21 : gm_bd G sz) (t25 : gm_to N0 K ra_nm (ra_mt K) d 55 [.int (s.2.1 1 k2), .int (0 : Int32)] (bM C (cH C s18) (gm_new G sz (.inr (5, [.int 0, .int 0, .int 0, .int 0, .int 0, .int 0, .int 0])))) (sz + 1) (.returned (some (.int r24)), (bM C (cH C s18) (gm_new G sz (.inr (5, [.int 0, .int 0, .int 0, .int 0, .int 0, .int 0, .int 0])))), (sz + 1), 0)) (ek26 : (0 : Int32) = nI k26) (lk26 : k26 < 3) (ek27 : (1 : Int32) = nI k27) (lk27 : k27 < 3) (ek28 : (2 : Int32) = nI k28) (lk28 : k28 < 3) (t29 : gm_to N0 K ra_nm (ra_mt K) d 54 [.ref sz, .int p0, .int r24, .int (s18.2.1 3 k26), .int (s18.2.1 3 k27), .int (s18.2.1 3 k28)] (bM C (cH C s18) (gm_new G sz (.inr (5, [.int 0, .int 0, .int 0, .int 0, .int 0, .int 0, .int 0])))) (sz + 1) (.returned none, (bM C (cH C s18) G30), (sz + 1), 0)) : gm_ev N0 K ra_nm (ra_mt K) d (some (.object "RuleArena$Literal")) (gm_I cX6_readAtom) (gm_lkf (lkX6 false K)) 0 [some (.ref (C + 2)), some (.int p0), none, none, none, none, none] [] (bM C (cH C s) G) sz sl (.returned (some (.ref sz)), (bM C (cH C s18) G30), (sz + 1), (sl + 7)) := by
  refine gm_ev.aload_n i68_0 rfl ?_
  refine gm_ev.getfield (v := .ref (C + 1)) i68_1 rfl (bM_fld (j := 2) (fs := cF2 C s) rfl (cv_some h1)) ?_
  refine gm_ev.aload_n i68_4 rfl ?_
  refine gm_ev.getfield (v := .int (s.1 41)) i68_5 rfl (bM_fld (j := 2) (fs := cF2 C s) rfl rfl) ?_
  refine gm_ev.caload i68_8 (bM_ai (j := 1) (n := 241) (f := s.2.1 1) rfl ek2 lk2 (by decide)) ?_
  refine gm_ev.istore_n (ls' := [some (.ref (C + 2)), some (.int p0), some (.int (s.2.1 1 k2)), none, none, none, none]) i68_9 (Nat.le_of_ble_eq_true rfl) rfl ?_
  refine gm_ev.ldc i68_10 rfl ?_
  refine gm_ev.iload_n i68_12 rfl ?_
  refine gm_ev.callT gm_mono_run (av := [.int (s.2.1 1 k2)]) (r := []) i68_13 rfl rfl rfl (Nat.le_of_ble_eq_true rfl) (gm_to_ix hd (Or.inr rfl)) ?_
  refine gm_ev.istore_n (ls' := [some (.ref (C + 2)), some (.int p0), some (.int (s.2.1 1 k2)), some (.int (gm_ix (s.2.1 1 k2))), none, none, none]) i68_16 (Nat.le_of_ble_eq_true rfl) rfl ?_
  refine gm_ev.iload_n i68_17 rfl ?_
  refine gm_ev.if_ge_f i68_18 c5 ?_
  refine gm_ev.iload_n i68_21 rfl ?_
  refine gm_ev.callS gm_mono_run (av := [.int (s.2.1 1 k2)]) (r := []) i68_22 rfl rfl rfl (Nat.le_of_ble_eq_true rfl) t7 ?_
  refine gm_ev.if_ne_t (tgt := 30) i68_25 (by decide) c8 ?_
  refine gm_ev.aload_n i68_30 rfl ?_
  refine gm_ev.dup i68_31 rfl ?_
  refine gm_ev.getfield (v := .int (s.1 41)) i68_32 rfl (bM_fld (j := 2) (fs := cF2 C s) rfl rfl) ?_
  refine gm_ev.iconst (v := 1) i68_35 (by decide) ?_
  refine gm_ev.iadd i68_36 ?_
  refine gm_ev.putfield (M' := (bM C (cH C (cI s 41 ((s.1 41) + (1 : Int32)))) G)) i68_37 rfl (bM_put (j := 2) (fs := cF2 C s) rfl (Nat.le_of_ble_eq_true rfl) hN (gm_fit_i _) rfl) ?_
  refine gm_ev.iload_n i68_40 rfl ?_
  refine gm_ev.if_ge_t (tgt := 48) i68_41 (by decide) c9 ?_
  refine gm_ev.getstatic i68_48 rfl ?_
  refine gm_ev.iload_n i68_51 rfl ?_
  refine gm_ev.ialoadS i68_52 (gm_ai_of hkt11 ek10 lk10 (by decide)) ?_
  refine gm_ev.istore (ls' := [some (.ref (C + 2)), some (.int p0), some (.int (s.2.1 1 k2)), some (.int (gm_ix (s.2.1 1 k2))), some (.int (kt11 k10)), none, none]) i68_53 (Nat.le_of_ble_eq_true rfl) rfl ?_
  refine gm_ev.iload_n i68_55 rfl ?_
  refine gm_ev.if_ge_f i68_56 c12 ?_
  refine gm_ev.iconst (v := 3) i68_59 (by decide) ?_
  refine gm_ev.goto (tgt := 65) i68_60 (by decide) ?_
  refine gm_ev.istore (ls' := [some (.ref (C + 2)), some (.int p0), some (.int (s.2.1 1 k2)), some (.int (gm_ix (s.2.1 1 k2))), some (.int (kt11 k10)), some (.int (3 : Int32)), none]) i68_65 (Nat.le_of_ble_eq_true rfl) rfl ?_
  refine gm_ev.iconst (v := 0) i68_67 (by decide) ?_
  refine gm_ev.istore (ls' := [some (.ref (C + 2)), some (.int p0), some (.int (s.2.1 1 k2)), some (.int (gm_ix (s.2.1 1 k2))), some (.int (kt11 k10)), some (.int (3 : Int32)), some (.int (0 : Int32))]) i68_68 (Nat.le_of_ble_eq_true rfl) rfl ?_
  refine gm_ev.aload_n i68_70 rfl ?_
  refine gm_ev.getfield (v := .ref (C + 3)) i68_71 rfl (bM_fld (j := 2) (fs := cF2 C (cI s 41 ((s.1 41) + (1 : Int32)))) rfl rfl) ?_
  refine gm_ev.iconst (v := 0) i68_74 (by decide) ?_
  refine gm_ev.callS gm_mono_run (av := [.ref (C + 3), .int (0 : Int32)]) (r := []) i68_75 rfl rfl rfl (Nat.le_of_ble_eq_true rfl) t13 ?_
  refine gm_ev.iload i68_78 rfl ?_
  refine gm_ev.if_le_f i68_80 c15 ?_
  refine gm_ev.aload_n i68_83 rfl ?_
  refine gm_ev.bipush (v := 40) i68_84 (by decide) ?_
  refine gm_ev.callV gm_mono_run (av := [.int (40 : Int32)]) (r := []) (ci := 6) (fs := cF2 C s14) (bM_get (j := 2) rfl) i68_86 rfl rfl rfl (Nat.le_of_ble_eq_true rfl) t17 ?_
  refine gm_ev.if_eq_t (tgt := 152) i68_89 (by decide) c19 ?_
  refine gm_ev.iload i68_152 rfl ?_
  refine gm_ev.iload i68_154 rfl ?_
  refine gm_ev.icmp_ge_t (tgt := 161) i68_156 (by decide) c20 ?_
  refine gm_ev.new i68_161 rfl ?_
  rw [cG_new hg_sz]
  have w22 : (gm_new G sz (.inr (5, [.int 0, .int 0, .int 0, .int 0, .int 0, .int 0, .int 0]))) sz = some (.inr (5, [.int 0, .int 0, .int 0, .int 0, .int 0, .int 0, .int 0])) := gm_set_eq
  have bd23 : gm_bd (gm_new G sz (.inr (5, [.int 0, .int 0, .int 0, .int 0, .int 0, .int 0, .int 0]))) (sz + 1) := gm_bd.new bd21
  refine gm_ev.dup i68_164 rfl ?_
  refine gm_ev.iload_n i68_165 rfl ?_
  refine gm_ev.iload_n i68_166 rfl ?_
  refine gm_ev.iload i68_167 rfl ?_
  refine gm_ev.callS gm_mono_run (av := [.int (s.2.1 1 k2), .int (0 : Int32)]) (r := [.int p0, .ref sz, .ref sz]) i68_169 rfl rfl rfl (Nat.le_of_ble_eq_true rfl) t25 ?_
  refine gm_ev.aload_n i68_172 rfl ?_
  refine gm_ev.getfield (v := .ref (C + 3)) i68_173 rfl (bM_fld (j := 2) (fs := cF2 C s18) rfl rfl) ?_
  refine gm_ev.iconst (v := 0) i68_176 (by decide) ?_
  refine gm_ev.iaload i68_177 (bM_ai (j := 3) (n := 3) (f := s18.2.1 3) rfl ek26 lk26 (by decide)) ?_
  refine gm_ev.aload_n i68_178 rfl ?_
  refine gm_ev.getfield (v := .ref (C + 3)) i68_179 rfl (bM_fld (j := 2) (fs := cF2 C s18) rfl rfl) ?_
  refine gm_ev.iconst (v := 1) i68_182 (by decide) ?_
  refine gm_ev.iaload i68_183 (bM_ai (j := 3) (n := 3) (f := s18.2.1 3) rfl ek27 lk27 (by decide)) ?_
  refine gm_ev.aload_n i68_184 rfl ?_
  refine gm_ev.getfield (v := .ref (C + 3)) i68_185 rfl (bM_fld (j := 2) (fs := cF2 C s18) rfl rfl) ?_
  refine gm_ev.iconst (v := 2) i68_188 (by decide) ?_
  refine gm_ev.iaload i68_189 (bM_ai (j := 3) (n := 3) (f := s18.2.1 3) rfl ek28 lk28 (by decide)) ?_
  refine gm_ev.callI gm_mono_run (av := [.int p0, .int r24, .int (s18.2.1 3 k26), .int (s18.2.1 3 k27), .int (s18.2.1 3 k28)]) (r := [.ref sz]) i68_190 rfl rfl rfl (Nat.le_of_ble_eq_true rfl) t29 ?_
  exact gm_ev.aret i68_193 rfl
theorem t_X6_readAtom_0_fttfftf {N0 : Nat} {K : Nat → Nat} {d C : Nat} {s : cS} {G : gm_H} {sz sl : Nat} {p0 : Int32} {k2 : Nat} {r6 : Int32} {k10 : Nat} {kt11 : Nat → Int32} {s14 : cS} {r16 : Int32} {s18 : cS} (hN : N0 ≤ C) (h1 : s.2.2 40 = some (C + 1)) (ek2 : (s.1 41) = nI k2) (lk2 : k2 < 241) (hd : 0 < d) (c5 : ¬ 0 ≤ (gm_ix (s.2.1 1 k2))) (t7 : gm_to N0 K ra_nm (ra_mt K) d 88 [.int (s.2.1 1 k2)] (bM C (cH C s) G) sz (.returned (some (.int r6)), (bM C (cH C s) G), sz, 0)) (c8 : ¬ r6 = 0) (c9 : 0 ≤ (gm_ix (s.2.1 1 k2))) (ek10 : (gm_ix (s.2.1 1 k2)) = nI k10) (hkt11 : (bM C (cH C (cI s 41 ((s.1 41) + (1 : Int32)))) G) (K 0) = some (.inl (gm_scr, 8, .inl kt11))) (lk10 : k10 < 8) (c12 : ¬ 0 ≤ (gm_ix (s.2.1 1 k2))) (t13 : gm_to N0 K ra_nm (ra_mt K) d 192 [.ref (C + 3), .int (0 : Int32)] (bM C (cH C (cI s 41 ((s.1 41) + (1 : Int32)))) G) sz (.returned none, (bM C (cH C s14) G), sz, 0)) (c15 : ¬ (3 : Int32) ≤ 0) (t17 : gm_to N0 K ra_nm (ra_mt K) d 63 [.ref (C + 2), .int (40 : Int32)] (bM C (cH C s14) G) sz (.returned (some (.int r16)), (bM C (cH C s18) G), sz, 0)) (c19 : r16 = 0) (c20 : ¬ (kt11 k10) ≤ (0 : Int32)) : gm_ev N0 K ra_nm (ra_mt K) d (some (.object "RuleArena$Literal")) (gm_I cX6_readAtom) (gm_lkf (lkX6 false K)) 0 [some (.ref (C + 2)), some (.int p0), none, none, none, none, none] [] (bM C (cH C s) G) sz sl (.returned (some (.null)), (bM C (cH C s18) G), sz, sl) := by
  refine gm_ev.aload_n i68_0 rfl ?_
  refine gm_ev.getfield (v := .ref (C + 1)) i68_1 rfl (bM_fld (j := 2) (fs := cF2 C s) rfl (cv_some h1)) ?_
  refine gm_ev.aload_n i68_4 rfl ?_
  refine gm_ev.getfield (v := .int (s.1 41)) i68_5 rfl (bM_fld (j := 2) (fs := cF2 C s) rfl rfl) ?_
  refine gm_ev.caload i68_8 (bM_ai (j := 1) (n := 241) (f := s.2.1 1) rfl ek2 lk2 (by decide)) ?_
  refine gm_ev.istore_n (ls' := [some (.ref (C + 2)), some (.int p0), some (.int (s.2.1 1 k2)), none, none, none, none]) i68_9 (Nat.le_of_ble_eq_true rfl) rfl ?_
  refine gm_ev.ldc i68_10 rfl ?_
  refine gm_ev.iload_n i68_12 rfl ?_
  refine gm_ev.callT gm_mono_run (av := [.int (s.2.1 1 k2)]) (r := []) i68_13 rfl rfl rfl (Nat.le_of_ble_eq_true rfl) (gm_to_ix hd (Or.inr rfl)) ?_
  refine gm_ev.istore_n (ls' := [some (.ref (C + 2)), some (.int p0), some (.int (s.2.1 1 k2)), some (.int (gm_ix (s.2.1 1 k2))), none, none, none]) i68_16 (Nat.le_of_ble_eq_true rfl) rfl ?_
  refine gm_ev.iload_n i68_17 rfl ?_
  refine gm_ev.if_ge_f i68_18 c5 ?_
  refine gm_ev.iload_n i68_21 rfl ?_
  refine gm_ev.callS gm_mono_run (av := [.int (s.2.1 1 k2)]) (r := []) i68_22 rfl rfl rfl (Nat.le_of_ble_eq_true rfl) t7 ?_
  refine gm_ev.if_ne_t (tgt := 30) i68_25 (by decide) c8 ?_
  refine gm_ev.aload_n i68_30 rfl ?_
  refine gm_ev.dup i68_31 rfl ?_
  refine gm_ev.getfield (v := .int (s.1 41)) i68_32 rfl (bM_fld (j := 2) (fs := cF2 C s) rfl rfl) ?_
  refine gm_ev.iconst (v := 1) i68_35 (by decide) ?_
  refine gm_ev.iadd i68_36 ?_
  refine gm_ev.putfield (M' := (bM C (cH C (cI s 41 ((s.1 41) + (1 : Int32)))) G)) i68_37 rfl (bM_put (j := 2) (fs := cF2 C s) rfl (Nat.le_of_ble_eq_true rfl) hN (gm_fit_i _) rfl) ?_
  refine gm_ev.iload_n i68_40 rfl ?_
  refine gm_ev.if_ge_t (tgt := 48) i68_41 (by decide) c9 ?_
  refine gm_ev.getstatic i68_48 rfl ?_
  refine gm_ev.iload_n i68_51 rfl ?_
  refine gm_ev.ialoadS i68_52 (gm_ai_of hkt11 ek10 lk10 (by decide)) ?_
  refine gm_ev.istore (ls' := [some (.ref (C + 2)), some (.int p0), some (.int (s.2.1 1 k2)), some (.int (gm_ix (s.2.1 1 k2))), some (.int (kt11 k10)), none, none]) i68_53 (Nat.le_of_ble_eq_true rfl) rfl ?_
  refine gm_ev.iload_n i68_55 rfl ?_
  refine gm_ev.if_ge_f i68_56 c12 ?_
  refine gm_ev.iconst (v := 3) i68_59 (by decide) ?_
  refine gm_ev.goto (tgt := 65) i68_60 (by decide) ?_
  refine gm_ev.istore (ls' := [some (.ref (C + 2)), some (.int p0), some (.int (s.2.1 1 k2)), some (.int (gm_ix (s.2.1 1 k2))), some (.int (kt11 k10)), some (.int (3 : Int32)), none]) i68_65 (Nat.le_of_ble_eq_true rfl) rfl ?_
  refine gm_ev.iconst (v := 0) i68_67 (by decide) ?_
  refine gm_ev.istore (ls' := [some (.ref (C + 2)), some (.int p0), some (.int (s.2.1 1 k2)), some (.int (gm_ix (s.2.1 1 k2))), some (.int (kt11 k10)), some (.int (3 : Int32)), some (.int (0 : Int32))]) i68_68 (Nat.le_of_ble_eq_true rfl) rfl ?_
  refine gm_ev.aload_n i68_70 rfl ?_
  refine gm_ev.getfield (v := .ref (C + 3)) i68_71 rfl (bM_fld (j := 2) (fs := cF2 C (cI s 41 ((s.1 41) + (1 : Int32)))) rfl rfl) ?_
  refine gm_ev.iconst (v := 0) i68_74 (by decide) ?_
  refine gm_ev.callS gm_mono_run (av := [.ref (C + 3), .int (0 : Int32)]) (r := []) i68_75 rfl rfl rfl (Nat.le_of_ble_eq_true rfl) t13 ?_
  refine gm_ev.iload i68_78 rfl ?_
  refine gm_ev.if_le_f i68_80 c15 ?_
  refine gm_ev.aload_n i68_83 rfl ?_
  refine gm_ev.bipush (v := 40) i68_84 (by decide) ?_
  refine gm_ev.callV gm_mono_run (av := [.int (40 : Int32)]) (r := []) (ci := 6) (fs := cF2 C s14) (bM_get (j := 2) rfl) i68_86 rfl rfl rfl (Nat.le_of_ble_eq_true rfl) t17 ?_
  refine gm_ev.if_eq_t (tgt := 152) i68_89 (by decide) c19 ?_
  refine gm_ev.iload i68_152 rfl ?_
  refine gm_ev.iload i68_154 rfl ?_
  refine gm_ev.icmp_ge_f i68_156 c20 ?_
  refine gm_ev.null i68_159 ?_
  exact gm_ev.aretN i68_160 rfl
theorem t_X6_readAtom_0_fttfff_at92 {N0 : Nat} {K : Nat → Nat} {d C : Nat} {s : cS} {G : gm_H} {sz sl : Nat} {R : gm_R} {p0 : Int32} {k2 : Nat} {r6 : Int32} {k10 : Nat} {kt11 : Nat → Int32} {s14 : cS} {r16 : Int32} {s18 : cS} (hN : N0 ≤ C) (h1 : s.2.2 40 = some (C + 1)) (ek2 : (s.1 41) = nI k2) (lk2 : k2 < 241) (hd : 0 < d) (c5 : ¬ 0 ≤ (gm_ix (s.2.1 1 k2))) (t7 : gm_to N0 K ra_nm (ra_mt K) d 88 [.int (s.2.1 1 k2)] (bM C (cH C s) G) sz (.returned (some (.int r6)), (bM C (cH C s) G), sz, 0)) (c8 : ¬ r6 = 0) (c9 : 0 ≤ (gm_ix (s.2.1 1 k2))) (ek10 : (gm_ix (s.2.1 1 k2)) = nI k10) (hkt11 : (bM C (cH C (cI s 41 ((s.1 41) + (1 : Int32)))) G) (K 0) = some (.inl (gm_scr, 8, .inl kt11))) (lk10 : k10 < 8) (c12 : ¬ 0 ≤ (gm_ix (s.2.1 1 k2))) (t13 : gm_to N0 K ra_nm (ra_mt K) d 192 [.ref (C + 3), .int (0 : Int32)] (bM C (cH C (cI s 41 ((s.1 41) + (1 : Int32)))) G) sz (.returned none, (bM C (cH C s14) G), sz, 0)) (c15 : ¬ (3 : Int32) ≤ 0) (t17 : gm_to N0 K ra_nm (ra_mt K) d 63 [.ref (C + 2), .int (40 : Int32)] (bM C (cH C s14) G) sz (.returned (some (.int r16)), (bM C (cH C s18) G), sz, 0)) (c19 : ¬ r16 = 0) (k : gm_ev N0 K ra_nm (ra_mt K) d (some (.object "RuleArena$Literal")) (gm_I cX6_readAtom) (gm_lkf (lkX6 false K)) 92 [some (.ref (C + 2)), some (.int p0), some (.int (s.2.1 1 k2)), none, some (.int (kt11 k10)), some (.int (3 : Int32)), some (.int (0 : Int32))] [] (bM C (cH C s18) G) sz sl R) : gm_ev N0 K ra_nm (ra_mt K) d (some (.object "RuleArena$Literal")) (gm_I cX6_readAtom) (gm_lkf (lkX6 false K)) 0 [some (.ref (C + 2)), some (.int p0), none, none, none, none, none] [] (bM C (cH C s) G) sz sl R := by
  refine gm_ev.aload_n i68_0 rfl ?_
  refine gm_ev.getfield (v := .ref (C + 1)) i68_1 rfl (bM_fld (j := 2) (fs := cF2 C s) rfl (cv_some h1)) ?_
  refine gm_ev.aload_n i68_4 rfl ?_
  refine gm_ev.getfield (v := .int (s.1 41)) i68_5 rfl (bM_fld (j := 2) (fs := cF2 C s) rfl rfl) ?_
  refine gm_ev.caload i68_8 (bM_ai (j := 1) (n := 241) (f := s.2.1 1) rfl ek2 lk2 (by decide)) ?_
  refine gm_ev.istore_n (ls' := [some (.ref (C + 2)), some (.int p0), some (.int (s.2.1 1 k2)), none, none, none, none]) i68_9 (Nat.le_of_ble_eq_true rfl) rfl ?_
  refine gm_ev.ldc i68_10 rfl ?_
  refine gm_ev.iload_n i68_12 rfl ?_
  refine gm_ev.callT gm_mono_run (av := [.int (s.2.1 1 k2)]) (r := []) i68_13 rfl rfl rfl (Nat.le_of_ble_eq_true rfl) (gm_to_ix hd (Or.inr rfl)) ?_
  refine gm_ev.istore_n (ls' := [some (.ref (C + 2)), some (.int p0), some (.int (s.2.1 1 k2)), some (.int (gm_ix (s.2.1 1 k2))), none, none, none]) i68_16 (Nat.le_of_ble_eq_true rfl) rfl ?_
  refine gm_ev.iload_n i68_17 rfl ?_
  refine gm_ev.if_ge_f i68_18 c5 ?_
  refine gm_ev.iload_n i68_21 rfl ?_
  refine gm_ev.callS gm_mono_run (av := [.int (s.2.1 1 k2)]) (r := []) i68_22 rfl rfl rfl (Nat.le_of_ble_eq_true rfl) t7 ?_
  refine gm_ev.if_ne_t (tgt := 30) i68_25 (by decide) c8 ?_
  refine gm_ev.aload_n i68_30 rfl ?_
  refine gm_ev.dup i68_31 rfl ?_
  refine gm_ev.getfield (v := .int (s.1 41)) i68_32 rfl (bM_fld (j := 2) (fs := cF2 C s) rfl rfl) ?_
  refine gm_ev.iconst (v := 1) i68_35 (by decide) ?_
  refine gm_ev.iadd i68_36 ?_
  refine gm_ev.putfield (M' := (bM C (cH C (cI s 41 ((s.1 41) + (1 : Int32)))) G)) i68_37 rfl (bM_put (j := 2) (fs := cF2 C s) rfl (Nat.le_of_ble_eq_true rfl) hN (gm_fit_i _) rfl) ?_
  refine gm_ev.iload_n i68_40 rfl ?_
  refine gm_ev.if_ge_t (tgt := 48) i68_41 (by decide) c9 ?_
  refine gm_ev.getstatic i68_48 rfl ?_
  refine gm_ev.iload_n i68_51 rfl ?_
  refine gm_ev.ialoadS i68_52 (gm_ai_of hkt11 ek10 lk10 (by decide)) ?_
  refine gm_ev.istore (ls' := [some (.ref (C + 2)), some (.int p0), some (.int (s.2.1 1 k2)), some (.int (gm_ix (s.2.1 1 k2))), some (.int (kt11 k10)), none, none]) i68_53 (Nat.le_of_ble_eq_true rfl) rfl ?_
  refine gm_ev.iload_n i68_55 rfl ?_
  refine gm_ev.if_ge_f i68_56 c12 ?_
  refine gm_ev.iconst (v := 3) i68_59 (by decide) ?_
  refine gm_ev.goto (tgt := 65) i68_60 (by decide) ?_
  refine gm_ev.istore (ls' := [some (.ref (C + 2)), some (.int p0), some (.int (s.2.1 1 k2)), some (.int (gm_ix (s.2.1 1 k2))), some (.int (kt11 k10)), some (.int (3 : Int32)), none]) i68_65 (Nat.le_of_ble_eq_true rfl) rfl ?_
  refine gm_ev.iconst (v := 0) i68_67 (by decide) ?_
  refine gm_ev.istore (ls' := [some (.ref (C + 2)), some (.int p0), some (.int (s.2.1 1 k2)), some (.int (gm_ix (s.2.1 1 k2))), some (.int (kt11 k10)), some (.int (3 : Int32)), some (.int (0 : Int32))]) i68_68 (Nat.le_of_ble_eq_true rfl) rfl ?_
  refine gm_ev.aload_n i68_70 rfl ?_
  refine gm_ev.getfield (v := .ref (C + 3)) i68_71 rfl (bM_fld (j := 2) (fs := cF2 C (cI s 41 ((s.1 41) + (1 : Int32)))) rfl rfl) ?_
  refine gm_ev.iconst (v := 0) i68_74 (by decide) ?_
  refine gm_ev.callS gm_mono_run (av := [.ref (C + 3), .int (0 : Int32)]) (r := []) i68_75 rfl rfl rfl (Nat.le_of_ble_eq_true rfl) t13 ?_
  refine gm_ev.iload i68_78 rfl ?_
  refine gm_ev.if_le_f i68_80 c15 ?_
  refine gm_ev.aload_n i68_83 rfl ?_
  refine gm_ev.bipush (v := 40) i68_84 (by decide) ?_
  refine gm_ev.callV gm_mono_run (av := [.int (40 : Int32)]) (r := []) (ci := 6) (fs := cF2 C s14) (bM_get (j := 2) rfl) i68_86 rfl rfl rfl (Nat.le_of_ble_eq_true rfl) t17 ?_
  refine gm_ev.if_eq_f i68_89 c19 ?_
  refine gm_ev.le (a := [some (.ref (C + 2)), some (.int p0), some (.int (s.2.1 1 k2)), none, some (.int (kt11 k10)), some (.int (3 : Int32)), some (.int (0 : Int32))]) (gm_leL.le (show gm_leL _ _ from ⟨rfl, ⟨rfl, ⟨rfl, ⟨rfl, ⟨rfl, ⟨rfl, trivial⟩⟩⟩⟩⟩⟩)) ?_
  exact k
theorem t_X6_readAtom_0_ftfttt {N0 : Nat} {K : Nat → Nat} {d C : Nat} {s : cS} {G : gm_H} {sz sl : Nat} {p0 : Int32} {k2 : Nat} {r6 : Int32} {s12 : cS} {r18 : Int32} {k20 : Nat} {k21 : Nat} {k22 : Nat} {G24 : gm_H} (hN : N0 ≤ C) (h1 : s.2.2 40 = some (C + 1)) (ek2 : (s.1 41) = nI k2) (lk2 : k2 < 241) (hd : 0 < d) (c5 : ¬ 0 ≤ (gm_ix (s.2.1 1 k2))) (t7 : gm_to N0 K ra_nm (ra_mt K) d 88 [.int (s.2.1 1 k2)] (bM C (cH C s) G) sz (.returned (some (.int r6)), (bM C (cH C s) G), sz, 0)) (c8 : ¬ r6 = 0) (c9 : ¬ 0 ≤ (gm_ix (s.2.1 1 k2))) (c10 : 0 ≤ (gm_ix (s.2.1 1 k2))) (t11 : gm_to N0 K ra_nm (ra_mt K) d 192 [.ref (C + 3), .int (0 : Int32)] (bM C (cH C (cI s 41 ((s.1 41) + (1 : Int32)))) G) sz (.returned none, (bM C (cH C s12) G), sz, 0)) (c13 : (0 : Int32) ≤ 0) (c14 : (0 : Int32) ≤ (0 : Int32)) (hg_sz : C + 34 ≤ sz) (bd15 : gm_bd G sz) (t19 : gm_to N0 K ra_nm (ra_mt K) d 55 [.int (s.2.1 1 k2), .int (0 : Int32)] (bM C (cH C s12) (gm_new G sz (.inr (5, [.int 0, .int 0, .int 0, .int 0, .int 0, .int 0, .int 0])))) (sz + 1) (.returned (some (.int r18)), (bM C (cH C s12) (gm_new G sz (.inr (5, [.int 0, .int 0, .int 0, .int 0, .int 0, .int 0, .int 0])))), (sz + 1), 0)) (ek20 : (0 : Int32) = nI k20) (lk20 : k20 < 3) (ek21 : (1 : Int32) = nI k21) (lk21 : k21 < 3) (ek22 : (2 : Int32) = nI k22) (lk22 : k22 < 3) (t23 : gm_to N0 K ra_nm (ra_mt K) d 54 [.ref sz, .int p0, .int r18, .int (s12.2.1 3 k20), .int (s12.2.1 3 k21), .int (s12.2.1 3 k22)] (bM C (cH C s12) (gm_new G sz (.inr (5, [.int 0, .int 0, .int 0, .int 0, .int 0, .int 0, .int 0])))) (sz + 1) (.returned none, (bM C (cH C s12) G24), (sz + 1), 0)) : gm_ev N0 K ra_nm (ra_mt K) d (some (.object "RuleArena$Literal")) (gm_I cX6_readAtom) (gm_lkf (lkX6 false K)) 0 [some (.ref (C + 2)), some (.int p0), none, none, none, none, none] [] (bM C (cH C s) G) sz sl (.returned (some (.ref sz)), (bM C (cH C s12) G24), (sz + 1), (sl + 7)) := by
  refine gm_ev.aload_n i68_0 rfl ?_
  refine gm_ev.getfield (v := .ref (C + 1)) i68_1 rfl (bM_fld (j := 2) (fs := cF2 C s) rfl (cv_some h1)) ?_
  refine gm_ev.aload_n i68_4 rfl ?_
  refine gm_ev.getfield (v := .int (s.1 41)) i68_5 rfl (bM_fld (j := 2) (fs := cF2 C s) rfl rfl) ?_
  refine gm_ev.caload i68_8 (bM_ai (j := 1) (n := 241) (f := s.2.1 1) rfl ek2 lk2 (by decide)) ?_
  refine gm_ev.istore_n (ls' := [some (.ref (C + 2)), some (.int p0), some (.int (s.2.1 1 k2)), none, none, none, none]) i68_9 (Nat.le_of_ble_eq_true rfl) rfl ?_
  refine gm_ev.ldc i68_10 rfl ?_
  refine gm_ev.iload_n i68_12 rfl ?_
  refine gm_ev.callT gm_mono_run (av := [.int (s.2.1 1 k2)]) (r := []) i68_13 rfl rfl rfl (Nat.le_of_ble_eq_true rfl) (gm_to_ix hd (Or.inr rfl)) ?_
  refine gm_ev.istore_n (ls' := [some (.ref (C + 2)), some (.int p0), some (.int (s.2.1 1 k2)), some (.int (gm_ix (s.2.1 1 k2))), none, none, none]) i68_16 (Nat.le_of_ble_eq_true rfl) rfl ?_
  refine gm_ev.iload_n i68_17 rfl ?_
  refine gm_ev.if_ge_f i68_18 c5 ?_
  refine gm_ev.iload_n i68_21 rfl ?_
  refine gm_ev.callS gm_mono_run (av := [.int (s.2.1 1 k2)]) (r := []) i68_22 rfl rfl rfl (Nat.le_of_ble_eq_true rfl) t7 ?_
  refine gm_ev.if_ne_t (tgt := 30) i68_25 (by decide) c8 ?_
  refine gm_ev.aload_n i68_30 rfl ?_
  refine gm_ev.dup i68_31 rfl ?_
  refine gm_ev.getfield (v := .int (s.1 41)) i68_32 rfl (bM_fld (j := 2) (fs := cF2 C s) rfl rfl) ?_
  refine gm_ev.iconst (v := 1) i68_35 (by decide) ?_
  refine gm_ev.iadd i68_36 ?_
  refine gm_ev.putfield (M' := (bM C (cH C (cI s 41 ((s.1 41) + (1 : Int32)))) G)) i68_37 rfl (bM_put (j := 2) (fs := cF2 C s) rfl (Nat.le_of_ble_eq_true rfl) hN (gm_fit_i _) rfl) ?_
  refine gm_ev.iload_n i68_40 rfl ?_
  refine gm_ev.if_ge_f i68_41 c9 ?_
  refine gm_ev.iconst (v := 0) i68_44 (by decide) ?_
  refine gm_ev.goto (tgt := 53) i68_45 (by decide) ?_
  refine gm_ev.istore (ls' := [some (.ref (C + 2)), some (.int p0), some (.int (s.2.1 1 k2)), some (.int (gm_ix (s.2.1 1 k2))), some (.int (0 : Int32)), none, none]) i68_53 (Nat.le_of_ble_eq_true rfl) rfl ?_
  refine gm_ev.iload_n i68_55 rfl ?_
  refine gm_ev.if_ge_t (tgt := 63) i68_56 (by decide) c10 ?_
  refine gm_ev.iload i68_63 rfl ?_
  refine gm_ev.istore (ls' := [some (.ref (C + 2)), some (.int p0), some (.int (s.2.1 1 k2)), some (.int (gm_ix (s.2.1 1 k2))), some (.int (0 : Int32)), some (.int (0 : Int32)), none]) i68_65 (Nat.le_of_ble_eq_true rfl) rfl ?_
  refine gm_ev.iconst (v := 0) i68_67 (by decide) ?_
  refine gm_ev.istore (ls' := [some (.ref (C + 2)), some (.int p0), some (.int (s.2.1 1 k2)), some (.int (gm_ix (s.2.1 1 k2))), some (.int (0 : Int32)), some (.int (0 : Int32)), some (.int (0 : Int32))]) i68_68 (Nat.le_of_ble_eq_true rfl) rfl ?_
  refine gm_ev.aload_n i68_70 rfl ?_
  refine gm_ev.getfield (v := .ref (C + 3)) i68_71 rfl (bM_fld (j := 2) (fs := cF2 C (cI s 41 ((s.1 41) + (1 : Int32)))) rfl rfl) ?_
  refine gm_ev.iconst (v := 0) i68_74 (by decide) ?_
  refine gm_ev.callS gm_mono_run (av := [.ref (C + 3), .int (0 : Int32)]) (r := []) i68_75 rfl rfl rfl (Nat.le_of_ble_eq_true rfl) t11 ?_
  refine gm_ev.iload i68_78 rfl ?_
  refine gm_ev.if_le_t (tgt := 152) i68_80 (by decide) c13 ?_
  refine gm_ev.iload i68_152 rfl ?_
  refine gm_ev.iload i68_154 rfl ?_
  refine gm_ev.icmp_ge_t (tgt := 161) i68_156 (by decide) c14 ?_
  refine gm_ev.new i68_161 rfl ?_
  rw [cG_new hg_sz]
  have w16 : (gm_new G sz (.inr (5, [.int 0, .int 0, .int 0, .int 0, .int 0, .int 0, .int 0]))) sz = some (.inr (5, [.int 0, .int 0, .int 0, .int 0, .int 0, .int 0, .int 0])) := gm_set_eq
  have bd17 : gm_bd (gm_new G sz (.inr (5, [.int 0, .int 0, .int 0, .int 0, .int 0, .int 0, .int 0]))) (sz + 1) := gm_bd.new bd15
  refine gm_ev.dup i68_164 rfl ?_
  refine gm_ev.iload_n i68_165 rfl ?_
  refine gm_ev.iload_n i68_166 rfl ?_
  refine gm_ev.iload i68_167 rfl ?_
  refine gm_ev.callS gm_mono_run (av := [.int (s.2.1 1 k2), .int (0 : Int32)]) (r := [.int p0, .ref sz, .ref sz]) i68_169 rfl rfl rfl (Nat.le_of_ble_eq_true rfl) t19 ?_
  refine gm_ev.aload_n i68_172 rfl ?_
  refine gm_ev.getfield (v := .ref (C + 3)) i68_173 rfl (bM_fld (j := 2) (fs := cF2 C s12) rfl rfl) ?_
  refine gm_ev.iconst (v := 0) i68_176 (by decide) ?_
  refine gm_ev.iaload i68_177 (bM_ai (j := 3) (n := 3) (f := s12.2.1 3) rfl ek20 lk20 (by decide)) ?_
  refine gm_ev.aload_n i68_178 rfl ?_
  refine gm_ev.getfield (v := .ref (C + 3)) i68_179 rfl (bM_fld (j := 2) (fs := cF2 C s12) rfl rfl) ?_
  refine gm_ev.iconst (v := 1) i68_182 (by decide) ?_
  refine gm_ev.iaload i68_183 (bM_ai (j := 3) (n := 3) (f := s12.2.1 3) rfl ek21 lk21 (by decide)) ?_
  refine gm_ev.aload_n i68_184 rfl ?_
  refine gm_ev.getfield (v := .ref (C + 3)) i68_185 rfl (bM_fld (j := 2) (fs := cF2 C s12) rfl rfl) ?_
  refine gm_ev.iconst (v := 2) i68_188 (by decide) ?_
  refine gm_ev.iaload i68_189 (bM_ai (j := 3) (n := 3) (f := s12.2.1 3) rfl ek22 lk22 (by decide)) ?_
  refine gm_ev.callI gm_mono_run (av := [.int p0, .int r18, .int (s12.2.1 3 k20), .int (s12.2.1 3 k21), .int (s12.2.1 3 k22)]) (r := [.ref sz]) i68_190 rfl rfl rfl (Nat.le_of_ble_eq_true rfl) t23 ?_
  exact gm_ev.aret i68_193 rfl
theorem t_X6_readAtom_0_ftfttf {N0 : Nat} {K : Nat → Nat} {d C : Nat} {s : cS} {G : gm_H} {sz sl : Nat} {p0 : Int32} {k2 : Nat} {r6 : Int32} {s12 : cS} (hN : N0 ≤ C) (h1 : s.2.2 40 = some (C + 1)) (ek2 : (s.1 41) = nI k2) (lk2 : k2 < 241) (hd : 0 < d) (c5 : ¬ 0 ≤ (gm_ix (s.2.1 1 k2))) (t7 : gm_to N0 K ra_nm (ra_mt K) d 88 [.int (s.2.1 1 k2)] (bM C (cH C s) G) sz (.returned (some (.int r6)), (bM C (cH C s) G), sz, 0)) (c8 : ¬ r6 = 0) (c9 : ¬ 0 ≤ (gm_ix (s.2.1 1 k2))) (c10 : 0 ≤ (gm_ix (s.2.1 1 k2))) (t11 : gm_to N0 K ra_nm (ra_mt K) d 192 [.ref (C + 3), .int (0 : Int32)] (bM C (cH C (cI s 41 ((s.1 41) + (1 : Int32)))) G) sz (.returned none, (bM C (cH C s12) G), sz, 0)) (c13 : (0 : Int32) ≤ 0) (c14 : ¬ (0 : Int32) ≤ (0 : Int32)) : gm_ev N0 K ra_nm (ra_mt K) d (some (.object "RuleArena$Literal")) (gm_I cX6_readAtom) (gm_lkf (lkX6 false K)) 0 [some (.ref (C + 2)), some (.int p0), none, none, none, none, none] [] (bM C (cH C s) G) sz sl (.returned (some (.null)), (bM C (cH C s12) G), sz, sl) := by
  refine gm_ev.aload_n i68_0 rfl ?_
  refine gm_ev.getfield (v := .ref (C + 1)) i68_1 rfl (bM_fld (j := 2) (fs := cF2 C s) rfl (cv_some h1)) ?_
  refine gm_ev.aload_n i68_4 rfl ?_
  refine gm_ev.getfield (v := .int (s.1 41)) i68_5 rfl (bM_fld (j := 2) (fs := cF2 C s) rfl rfl) ?_
  refine gm_ev.caload i68_8 (bM_ai (j := 1) (n := 241) (f := s.2.1 1) rfl ek2 lk2 (by decide)) ?_
  refine gm_ev.istore_n (ls' := [some (.ref (C + 2)), some (.int p0), some (.int (s.2.1 1 k2)), none, none, none, none]) i68_9 (Nat.le_of_ble_eq_true rfl) rfl ?_
  refine gm_ev.ldc i68_10 rfl ?_
  refine gm_ev.iload_n i68_12 rfl ?_
  refine gm_ev.callT gm_mono_run (av := [.int (s.2.1 1 k2)]) (r := []) i68_13 rfl rfl rfl (Nat.le_of_ble_eq_true rfl) (gm_to_ix hd (Or.inr rfl)) ?_
  refine gm_ev.istore_n (ls' := [some (.ref (C + 2)), some (.int p0), some (.int (s.2.1 1 k2)), some (.int (gm_ix (s.2.1 1 k2))), none, none, none]) i68_16 (Nat.le_of_ble_eq_true rfl) rfl ?_
  refine gm_ev.iload_n i68_17 rfl ?_
  refine gm_ev.if_ge_f i68_18 c5 ?_
  refine gm_ev.iload_n i68_21 rfl ?_
  refine gm_ev.callS gm_mono_run (av := [.int (s.2.1 1 k2)]) (r := []) i68_22 rfl rfl rfl (Nat.le_of_ble_eq_true rfl) t7 ?_
  refine gm_ev.if_ne_t (tgt := 30) i68_25 (by decide) c8 ?_
  refine gm_ev.aload_n i68_30 rfl ?_
  refine gm_ev.dup i68_31 rfl ?_
  refine gm_ev.getfield (v := .int (s.1 41)) i68_32 rfl (bM_fld (j := 2) (fs := cF2 C s) rfl rfl) ?_
  refine gm_ev.iconst (v := 1) i68_35 (by decide) ?_
  refine gm_ev.iadd i68_36 ?_
  refine gm_ev.putfield (M' := (bM C (cH C (cI s 41 ((s.1 41) + (1 : Int32)))) G)) i68_37 rfl (bM_put (j := 2) (fs := cF2 C s) rfl (Nat.le_of_ble_eq_true rfl) hN (gm_fit_i _) rfl) ?_
  refine gm_ev.iload_n i68_40 rfl ?_
  refine gm_ev.if_ge_f i68_41 c9 ?_
  refine gm_ev.iconst (v := 0) i68_44 (by decide) ?_
  refine gm_ev.goto (tgt := 53) i68_45 (by decide) ?_
  refine gm_ev.istore (ls' := [some (.ref (C + 2)), some (.int p0), some (.int (s.2.1 1 k2)), some (.int (gm_ix (s.2.1 1 k2))), some (.int (0 : Int32)), none, none]) i68_53 (Nat.le_of_ble_eq_true rfl) rfl ?_
  refine gm_ev.iload_n i68_55 rfl ?_
  refine gm_ev.if_ge_t (tgt := 63) i68_56 (by decide) c10 ?_
  refine gm_ev.iload i68_63 rfl ?_
  refine gm_ev.istore (ls' := [some (.ref (C + 2)), some (.int p0), some (.int (s.2.1 1 k2)), some (.int (gm_ix (s.2.1 1 k2))), some (.int (0 : Int32)), some (.int (0 : Int32)), none]) i68_65 (Nat.le_of_ble_eq_true rfl) rfl ?_
  refine gm_ev.iconst (v := 0) i68_67 (by decide) ?_
  refine gm_ev.istore (ls' := [some (.ref (C + 2)), some (.int p0), some (.int (s.2.1 1 k2)), some (.int (gm_ix (s.2.1 1 k2))), some (.int (0 : Int32)), some (.int (0 : Int32)), some (.int (0 : Int32))]) i68_68 (Nat.le_of_ble_eq_true rfl) rfl ?_
  refine gm_ev.aload_n i68_70 rfl ?_
  refine gm_ev.getfield (v := .ref (C + 3)) i68_71 rfl (bM_fld (j := 2) (fs := cF2 C (cI s 41 ((s.1 41) + (1 : Int32)))) rfl rfl) ?_
  refine gm_ev.iconst (v := 0) i68_74 (by decide) ?_
  refine gm_ev.callS gm_mono_run (av := [.ref (C + 3), .int (0 : Int32)]) (r := []) i68_75 rfl rfl rfl (Nat.le_of_ble_eq_true rfl) t11 ?_
  refine gm_ev.iload i68_78 rfl ?_
  refine gm_ev.if_le_t (tgt := 152) i68_80 (by decide) c13 ?_
  refine gm_ev.iload i68_152 rfl ?_
  refine gm_ev.iload i68_154 rfl ?_
  refine gm_ev.icmp_ge_f i68_156 c14 ?_
  refine gm_ev.null i68_159 ?_
  exact gm_ev.aretN i68_160 rfl
theorem t_X6_readAtom_0_ftftftt {N0 : Nat} {K : Nat → Nat} {d C : Nat} {s : cS} {G : gm_H} {sz sl : Nat} {p0 : Int32} {k2 : Nat} {r6 : Int32} {s12 : cS} {r14 : Int32} {s16 : cS} {r22 : Int32} {k24 : Nat} {k25 : Nat} {k26 : Nat} {G28 : gm_H} (hN : N0 ≤ C) (h1 : s.2.2 40 = some (C + 1)) (ek2 : (s.1 41) = nI k2) (lk2 : k2 < 241) (hd : 0 < d) (c5 : ¬ 0 ≤ (gm_ix (s.2.1 1 k2))) (t7 : gm_to N0 K ra_nm (ra_mt K) d 88 [.int (s.2.1 1 k2)] (bM C (cH C s) G) sz (.returned (some (.int r6)), (bM C (cH C s) G), sz, 0)) (c8 : ¬ r6 = 0) (c9 : ¬ 0 ≤ (gm_ix (s.2.1 1 k2))) (c10 : 0 ≤ (gm_ix (s.2.1 1 k2))) (t11 : gm_to N0 K ra_nm (ra_mt K) d 192 [.ref (C + 3), .int (0 : Int32)] (bM C (cH C (cI s 41 ((s.1 41) + (1 : Int32)))) G) sz (.returned none, (bM C (cH C s12) G), sz, 0)) (c13 : ¬ (0 : Int32) ≤ 0) (t15 : gm_to N0 K ra_nm (ra_mt K) d 63 [.ref (C + 2), .int (40 : Int32)] (bM C (cH C s12) G) sz (.returned (some (.int r14)), (bM C (cH C s16) G), sz, 0)) (c17 : r14 = 0) (c18 : (0 : Int32) ≤ (0 : Int32)) (hg_sz : C + 34 ≤ sz) (bd19 : gm_bd G sz) (t23 : gm_to N0 K ra_nm (ra_mt K) d 55 [.int (s.2.1 1 k2), .int (0 : Int32)] (bM C (cH C s16) (gm_new G sz (.inr (5, [.int 0, .int 0, .int 0, .int 0, .int 0, .int 0, .int 0])))) (sz + 1) (.returned (some (.int r22)), (bM C (cH C s16) (gm_new G sz (.inr (5, [.int 0, .int 0, .int 0, .int 0, .int 0, .int 0, .int 0])))), (sz + 1), 0)) (ek24 : (0 : Int32) = nI k24) (lk24 : k24 < 3) (ek25 : (1 : Int32) = nI k25) (lk25 : k25 < 3) (ek26 : (2 : Int32) = nI k26) (lk26 : k26 < 3) (t27 : gm_to N0 K ra_nm (ra_mt K) d 54 [.ref sz, .int p0, .int r22, .int (s16.2.1 3 k24), .int (s16.2.1 3 k25), .int (s16.2.1 3 k26)] (bM C (cH C s16) (gm_new G sz (.inr (5, [.int 0, .int 0, .int 0, .int 0, .int 0, .int 0, .int 0])))) (sz + 1) (.returned none, (bM C (cH C s16) G28), (sz + 1), 0)) : gm_ev N0 K ra_nm (ra_mt K) d (some (.object "RuleArena$Literal")) (gm_I cX6_readAtom) (gm_lkf (lkX6 false K)) 0 [some (.ref (C + 2)), some (.int p0), none, none, none, none, none] [] (bM C (cH C s) G) sz sl (.returned (some (.ref sz)), (bM C (cH C s16) G28), (sz + 1), (sl + 7)) := by
  refine gm_ev.aload_n i68_0 rfl ?_
  refine gm_ev.getfield (v := .ref (C + 1)) i68_1 rfl (bM_fld (j := 2) (fs := cF2 C s) rfl (cv_some h1)) ?_
  refine gm_ev.aload_n i68_4 rfl ?_
  refine gm_ev.getfield (v := .int (s.1 41)) i68_5 rfl (bM_fld (j := 2) (fs := cF2 C s) rfl rfl) ?_
  refine gm_ev.caload i68_8 (bM_ai (j := 1) (n := 241) (f := s.2.1 1) rfl ek2 lk2 (by decide)) ?_
  refine gm_ev.istore_n (ls' := [some (.ref (C + 2)), some (.int p0), some (.int (s.2.1 1 k2)), none, none, none, none]) i68_9 (Nat.le_of_ble_eq_true rfl) rfl ?_
  refine gm_ev.ldc i68_10 rfl ?_
  refine gm_ev.iload_n i68_12 rfl ?_
  refine gm_ev.callT gm_mono_run (av := [.int (s.2.1 1 k2)]) (r := []) i68_13 rfl rfl rfl (Nat.le_of_ble_eq_true rfl) (gm_to_ix hd (Or.inr rfl)) ?_
  refine gm_ev.istore_n (ls' := [some (.ref (C + 2)), some (.int p0), some (.int (s.2.1 1 k2)), some (.int (gm_ix (s.2.1 1 k2))), none, none, none]) i68_16 (Nat.le_of_ble_eq_true rfl) rfl ?_
  refine gm_ev.iload_n i68_17 rfl ?_
  refine gm_ev.if_ge_f i68_18 c5 ?_
  refine gm_ev.iload_n i68_21 rfl ?_
  refine gm_ev.callS gm_mono_run (av := [.int (s.2.1 1 k2)]) (r := []) i68_22 rfl rfl rfl (Nat.le_of_ble_eq_true rfl) t7 ?_
  refine gm_ev.if_ne_t (tgt := 30) i68_25 (by decide) c8 ?_
  refine gm_ev.aload_n i68_30 rfl ?_
  refine gm_ev.dup i68_31 rfl ?_
  refine gm_ev.getfield (v := .int (s.1 41)) i68_32 rfl (bM_fld (j := 2) (fs := cF2 C s) rfl rfl) ?_
  refine gm_ev.iconst (v := 1) i68_35 (by decide) ?_
  refine gm_ev.iadd i68_36 ?_
  refine gm_ev.putfield (M' := (bM C (cH C (cI s 41 ((s.1 41) + (1 : Int32)))) G)) i68_37 rfl (bM_put (j := 2) (fs := cF2 C s) rfl (Nat.le_of_ble_eq_true rfl) hN (gm_fit_i _) rfl) ?_
  refine gm_ev.iload_n i68_40 rfl ?_
  refine gm_ev.if_ge_f i68_41 c9 ?_
  refine gm_ev.iconst (v := 0) i68_44 (by decide) ?_
  refine gm_ev.goto (tgt := 53) i68_45 (by decide) ?_
  refine gm_ev.istore (ls' := [some (.ref (C + 2)), some (.int p0), some (.int (s.2.1 1 k2)), some (.int (gm_ix (s.2.1 1 k2))), some (.int (0 : Int32)), none, none]) i68_53 (Nat.le_of_ble_eq_true rfl) rfl ?_
  refine gm_ev.iload_n i68_55 rfl ?_
  refine gm_ev.if_ge_t (tgt := 63) i68_56 (by decide) c10 ?_
  refine gm_ev.iload i68_63 rfl ?_
  refine gm_ev.istore (ls' := [some (.ref (C + 2)), some (.int p0), some (.int (s.2.1 1 k2)), some (.int (gm_ix (s.2.1 1 k2))), some (.int (0 : Int32)), some (.int (0 : Int32)), none]) i68_65 (Nat.le_of_ble_eq_true rfl) rfl ?_
  refine gm_ev.iconst (v := 0) i68_67 (by decide) ?_
  refine gm_ev.istore (ls' := [some (.ref (C + 2)), some (.int p0), some (.int (s.2.1 1 k2)), some (.int (gm_ix (s.2.1 1 k2))), some (.int (0 : Int32)), some (.int (0 : Int32)), some (.int (0 : Int32))]) i68_68 (Nat.le_of_ble_eq_true rfl) rfl ?_
  refine gm_ev.aload_n i68_70 rfl ?_
  refine gm_ev.getfield (v := .ref (C + 3)) i68_71 rfl (bM_fld (j := 2) (fs := cF2 C (cI s 41 ((s.1 41) + (1 : Int32)))) rfl rfl) ?_
  refine gm_ev.iconst (v := 0) i68_74 (by decide) ?_
  refine gm_ev.callS gm_mono_run (av := [.ref (C + 3), .int (0 : Int32)]) (r := []) i68_75 rfl rfl rfl (Nat.le_of_ble_eq_true rfl) t11 ?_
  refine gm_ev.iload i68_78 rfl ?_
  refine gm_ev.if_le_f i68_80 c13 ?_
  refine gm_ev.aload_n i68_83 rfl ?_
  refine gm_ev.bipush (v := 40) i68_84 (by decide) ?_
  refine gm_ev.callV gm_mono_run (av := [.int (40 : Int32)]) (r := []) (ci := 6) (fs := cF2 C s12) (bM_get (j := 2) rfl) i68_86 rfl rfl rfl (Nat.le_of_ble_eq_true rfl) t15 ?_
  refine gm_ev.if_eq_t (tgt := 152) i68_89 (by decide) c17 ?_
  refine gm_ev.iload i68_152 rfl ?_
  refine gm_ev.iload i68_154 rfl ?_
  refine gm_ev.icmp_ge_t (tgt := 161) i68_156 (by decide) c18 ?_
  refine gm_ev.new i68_161 rfl ?_
  rw [cG_new hg_sz]
  have w20 : (gm_new G sz (.inr (5, [.int 0, .int 0, .int 0, .int 0, .int 0, .int 0, .int 0]))) sz = some (.inr (5, [.int 0, .int 0, .int 0, .int 0, .int 0, .int 0, .int 0])) := gm_set_eq
  have bd21 : gm_bd (gm_new G sz (.inr (5, [.int 0, .int 0, .int 0, .int 0, .int 0, .int 0, .int 0]))) (sz + 1) := gm_bd.new bd19
  refine gm_ev.dup i68_164 rfl ?_
  refine gm_ev.iload_n i68_165 rfl ?_
  refine gm_ev.iload_n i68_166 rfl ?_
  refine gm_ev.iload i68_167 rfl ?_
  refine gm_ev.callS gm_mono_run (av := [.int (s.2.1 1 k2), .int (0 : Int32)]) (r := [.int p0, .ref sz, .ref sz]) i68_169 rfl rfl rfl (Nat.le_of_ble_eq_true rfl) t23 ?_
  refine gm_ev.aload_n i68_172 rfl ?_
  refine gm_ev.getfield (v := .ref (C + 3)) i68_173 rfl (bM_fld (j := 2) (fs := cF2 C s16) rfl rfl) ?_
  refine gm_ev.iconst (v := 0) i68_176 (by decide) ?_
  refine gm_ev.iaload i68_177 (bM_ai (j := 3) (n := 3) (f := s16.2.1 3) rfl ek24 lk24 (by decide)) ?_
  refine gm_ev.aload_n i68_178 rfl ?_
  refine gm_ev.getfield (v := .ref (C + 3)) i68_179 rfl (bM_fld (j := 2) (fs := cF2 C s16) rfl rfl) ?_
  refine gm_ev.iconst (v := 1) i68_182 (by decide) ?_
  refine gm_ev.iaload i68_183 (bM_ai (j := 3) (n := 3) (f := s16.2.1 3) rfl ek25 lk25 (by decide)) ?_
  refine gm_ev.aload_n i68_184 rfl ?_
  refine gm_ev.getfield (v := .ref (C + 3)) i68_185 rfl (bM_fld (j := 2) (fs := cF2 C s16) rfl rfl) ?_
  refine gm_ev.iconst (v := 2) i68_188 (by decide) ?_
  refine gm_ev.iaload i68_189 (bM_ai (j := 3) (n := 3) (f := s16.2.1 3) rfl ek26 lk26 (by decide)) ?_
  refine gm_ev.callI gm_mono_run (av := [.int p0, .int r22, .int (s16.2.1 3 k24), .int (s16.2.1 3 k25), .int (s16.2.1 3 k26)]) (r := [.ref sz]) i68_190 rfl rfl rfl (Nat.le_of_ble_eq_true rfl) t27 ?_
  exact gm_ev.aret i68_193 rfl
theorem t_X6_readAtom_0_ftftftf {N0 : Nat} {K : Nat → Nat} {d C : Nat} {s : cS} {G : gm_H} {sz sl : Nat} {p0 : Int32} {k2 : Nat} {r6 : Int32} {s12 : cS} {r14 : Int32} {s16 : cS} (hN : N0 ≤ C) (h1 : s.2.2 40 = some (C + 1)) (ek2 : (s.1 41) = nI k2) (lk2 : k2 < 241) (hd : 0 < d) (c5 : ¬ 0 ≤ (gm_ix (s.2.1 1 k2))) (t7 : gm_to N0 K ra_nm (ra_mt K) d 88 [.int (s.2.1 1 k2)] (bM C (cH C s) G) sz (.returned (some (.int r6)), (bM C (cH C s) G), sz, 0)) (c8 : ¬ r6 = 0) (c9 : ¬ 0 ≤ (gm_ix (s.2.1 1 k2))) (c10 : 0 ≤ (gm_ix (s.2.1 1 k2))) (t11 : gm_to N0 K ra_nm (ra_mt K) d 192 [.ref (C + 3), .int (0 : Int32)] (bM C (cH C (cI s 41 ((s.1 41) + (1 : Int32)))) G) sz (.returned none, (bM C (cH C s12) G), sz, 0)) (c13 : ¬ (0 : Int32) ≤ 0) (t15 : gm_to N0 K ra_nm (ra_mt K) d 63 [.ref (C + 2), .int (40 : Int32)] (bM C (cH C s12) G) sz (.returned (some (.int r14)), (bM C (cH C s16) G), sz, 0)) (c17 : r14 = 0) (c18 : ¬ (0 : Int32) ≤ (0 : Int32)) : gm_ev N0 K ra_nm (ra_mt K) d (some (.object "RuleArena$Literal")) (gm_I cX6_readAtom) (gm_lkf (lkX6 false K)) 0 [some (.ref (C + 2)), some (.int p0), none, none, none, none, none] [] (bM C (cH C s) G) sz sl (.returned (some (.null)), (bM C (cH C s16) G), sz, sl) := by
  refine gm_ev.aload_n i68_0 rfl ?_
  refine gm_ev.getfield (v := .ref (C + 1)) i68_1 rfl (bM_fld (j := 2) (fs := cF2 C s) rfl (cv_some h1)) ?_
  refine gm_ev.aload_n i68_4 rfl ?_
  refine gm_ev.getfield (v := .int (s.1 41)) i68_5 rfl (bM_fld (j := 2) (fs := cF2 C s) rfl rfl) ?_
  refine gm_ev.caload i68_8 (bM_ai (j := 1) (n := 241) (f := s.2.1 1) rfl ek2 lk2 (by decide)) ?_
  refine gm_ev.istore_n (ls' := [some (.ref (C + 2)), some (.int p0), some (.int (s.2.1 1 k2)), none, none, none, none]) i68_9 (Nat.le_of_ble_eq_true rfl) rfl ?_
  refine gm_ev.ldc i68_10 rfl ?_
  refine gm_ev.iload_n i68_12 rfl ?_
  refine gm_ev.callT gm_mono_run (av := [.int (s.2.1 1 k2)]) (r := []) i68_13 rfl rfl rfl (Nat.le_of_ble_eq_true rfl) (gm_to_ix hd (Or.inr rfl)) ?_
  refine gm_ev.istore_n (ls' := [some (.ref (C + 2)), some (.int p0), some (.int (s.2.1 1 k2)), some (.int (gm_ix (s.2.1 1 k2))), none, none, none]) i68_16 (Nat.le_of_ble_eq_true rfl) rfl ?_
  refine gm_ev.iload_n i68_17 rfl ?_
  refine gm_ev.if_ge_f i68_18 c5 ?_
  refine gm_ev.iload_n i68_21 rfl ?_
  refine gm_ev.callS gm_mono_run (av := [.int (s.2.1 1 k2)]) (r := []) i68_22 rfl rfl rfl (Nat.le_of_ble_eq_true rfl) t7 ?_
  refine gm_ev.if_ne_t (tgt := 30) i68_25 (by decide) c8 ?_
  refine gm_ev.aload_n i68_30 rfl ?_
  refine gm_ev.dup i68_31 rfl ?_
  refine gm_ev.getfield (v := .int (s.1 41)) i68_32 rfl (bM_fld (j := 2) (fs := cF2 C s) rfl rfl) ?_
  refine gm_ev.iconst (v := 1) i68_35 (by decide) ?_
  refine gm_ev.iadd i68_36 ?_
  refine gm_ev.putfield (M' := (bM C (cH C (cI s 41 ((s.1 41) + (1 : Int32)))) G)) i68_37 rfl (bM_put (j := 2) (fs := cF2 C s) rfl (Nat.le_of_ble_eq_true rfl) hN (gm_fit_i _) rfl) ?_
  refine gm_ev.iload_n i68_40 rfl ?_
  refine gm_ev.if_ge_f i68_41 c9 ?_
  refine gm_ev.iconst (v := 0) i68_44 (by decide) ?_
  refine gm_ev.goto (tgt := 53) i68_45 (by decide) ?_
  refine gm_ev.istore (ls' := [some (.ref (C + 2)), some (.int p0), some (.int (s.2.1 1 k2)), some (.int (gm_ix (s.2.1 1 k2))), some (.int (0 : Int32)), none, none]) i68_53 (Nat.le_of_ble_eq_true rfl) rfl ?_
  refine gm_ev.iload_n i68_55 rfl ?_
  refine gm_ev.if_ge_t (tgt := 63) i68_56 (by decide) c10 ?_
  refine gm_ev.iload i68_63 rfl ?_
  refine gm_ev.istore (ls' := [some (.ref (C + 2)), some (.int p0), some (.int (s.2.1 1 k2)), some (.int (gm_ix (s.2.1 1 k2))), some (.int (0 : Int32)), some (.int (0 : Int32)), none]) i68_65 (Nat.le_of_ble_eq_true rfl) rfl ?_
  refine gm_ev.iconst (v := 0) i68_67 (by decide) ?_
  refine gm_ev.istore (ls' := [some (.ref (C + 2)), some (.int p0), some (.int (s.2.1 1 k2)), some (.int (gm_ix (s.2.1 1 k2))), some (.int (0 : Int32)), some (.int (0 : Int32)), some (.int (0 : Int32))]) i68_68 (Nat.le_of_ble_eq_true rfl) rfl ?_
  refine gm_ev.aload_n i68_70 rfl ?_
  refine gm_ev.getfield (v := .ref (C + 3)) i68_71 rfl (bM_fld (j := 2) (fs := cF2 C (cI s 41 ((s.1 41) + (1 : Int32)))) rfl rfl) ?_
  refine gm_ev.iconst (v := 0) i68_74 (by decide) ?_
  refine gm_ev.callS gm_mono_run (av := [.ref (C + 3), .int (0 : Int32)]) (r := []) i68_75 rfl rfl rfl (Nat.le_of_ble_eq_true rfl) t11 ?_
  refine gm_ev.iload i68_78 rfl ?_
  refine gm_ev.if_le_f i68_80 c13 ?_
  refine gm_ev.aload_n i68_83 rfl ?_
  refine gm_ev.bipush (v := 40) i68_84 (by decide) ?_
  refine gm_ev.callV gm_mono_run (av := [.int (40 : Int32)]) (r := []) (ci := 6) (fs := cF2 C s12) (bM_get (j := 2) rfl) i68_86 rfl rfl rfl (Nat.le_of_ble_eq_true rfl) t15 ?_
  refine gm_ev.if_eq_t (tgt := 152) i68_89 (by decide) c17 ?_
  refine gm_ev.iload i68_152 rfl ?_
  refine gm_ev.iload i68_154 rfl ?_
  refine gm_ev.icmp_ge_f i68_156 c18 ?_
  refine gm_ev.null i68_159 ?_
  exact gm_ev.aretN i68_160 rfl
theorem t_X6_readAtom_0_ftftff_at92 {N0 : Nat} {K : Nat → Nat} {d C : Nat} {s : cS} {G : gm_H} {sz sl : Nat} {R : gm_R} {p0 : Int32} {k2 : Nat} {r6 : Int32} {s12 : cS} {r14 : Int32} {s16 : cS} (hN : N0 ≤ C) (h1 : s.2.2 40 = some (C + 1)) (ek2 : (s.1 41) = nI k2) (lk2 : k2 < 241) (hd : 0 < d) (c5 : ¬ 0 ≤ (gm_ix (s.2.1 1 k2))) (t7 : gm_to N0 K ra_nm (ra_mt K) d 88 [.int (s.2.1 1 k2)] (bM C (cH C s) G) sz (.returned (some (.int r6)), (bM C (cH C s) G), sz, 0)) (c8 : ¬ r6 = 0) (c9 : ¬ 0 ≤ (gm_ix (s.2.1 1 k2))) (c10 : 0 ≤ (gm_ix (s.2.1 1 k2))) (t11 : gm_to N0 K ra_nm (ra_mt K) d 192 [.ref (C + 3), .int (0 : Int32)] (bM C (cH C (cI s 41 ((s.1 41) + (1 : Int32)))) G) sz (.returned none, (bM C (cH C s12) G), sz, 0)) (c13 : ¬ (0 : Int32) ≤ 0) (t15 : gm_to N0 K ra_nm (ra_mt K) d 63 [.ref (C + 2), .int (40 : Int32)] (bM C (cH C s12) G) sz (.returned (some (.int r14)), (bM C (cH C s16) G), sz, 0)) (c17 : ¬ r14 = 0) (k : gm_ev N0 K ra_nm (ra_mt K) d (some (.object "RuleArena$Literal")) (gm_I cX6_readAtom) (gm_lkf (lkX6 false K)) 92 [some (.ref (C + 2)), some (.int p0), some (.int (s.2.1 1 k2)), none, some (.int (0 : Int32)), some (.int (0 : Int32)), some (.int (0 : Int32))] [] (bM C (cH C s16) G) sz sl R) : gm_ev N0 K ra_nm (ra_mt K) d (some (.object "RuleArena$Literal")) (gm_I cX6_readAtom) (gm_lkf (lkX6 false K)) 0 [some (.ref (C + 2)), some (.int p0), none, none, none, none, none] [] (bM C (cH C s) G) sz sl R := by
  refine gm_ev.aload_n i68_0 rfl ?_
  refine gm_ev.getfield (v := .ref (C + 1)) i68_1 rfl (bM_fld (j := 2) (fs := cF2 C s) rfl (cv_some h1)) ?_
  refine gm_ev.aload_n i68_4 rfl ?_
  refine gm_ev.getfield (v := .int (s.1 41)) i68_5 rfl (bM_fld (j := 2) (fs := cF2 C s) rfl rfl) ?_
  refine gm_ev.caload i68_8 (bM_ai (j := 1) (n := 241) (f := s.2.1 1) rfl ek2 lk2 (by decide)) ?_
  refine gm_ev.istore_n (ls' := [some (.ref (C + 2)), some (.int p0), some (.int (s.2.1 1 k2)), none, none, none, none]) i68_9 (Nat.le_of_ble_eq_true rfl) rfl ?_
  refine gm_ev.ldc i68_10 rfl ?_
  refine gm_ev.iload_n i68_12 rfl ?_
  refine gm_ev.callT gm_mono_run (av := [.int (s.2.1 1 k2)]) (r := []) i68_13 rfl rfl rfl (Nat.le_of_ble_eq_true rfl) (gm_to_ix hd (Or.inr rfl)) ?_
  refine gm_ev.istore_n (ls' := [some (.ref (C + 2)), some (.int p0), some (.int (s.2.1 1 k2)), some (.int (gm_ix (s.2.1 1 k2))), none, none, none]) i68_16 (Nat.le_of_ble_eq_true rfl) rfl ?_
  refine gm_ev.iload_n i68_17 rfl ?_
  refine gm_ev.if_ge_f i68_18 c5 ?_
  refine gm_ev.iload_n i68_21 rfl ?_
  refine gm_ev.callS gm_mono_run (av := [.int (s.2.1 1 k2)]) (r := []) i68_22 rfl rfl rfl (Nat.le_of_ble_eq_true rfl) t7 ?_
  refine gm_ev.if_ne_t (tgt := 30) i68_25 (by decide) c8 ?_
  refine gm_ev.aload_n i68_30 rfl ?_
  refine gm_ev.dup i68_31 rfl ?_
  refine gm_ev.getfield (v := .int (s.1 41)) i68_32 rfl (bM_fld (j := 2) (fs := cF2 C s) rfl rfl) ?_
  refine gm_ev.iconst (v := 1) i68_35 (by decide) ?_
  refine gm_ev.iadd i68_36 ?_
  refine gm_ev.putfield (M' := (bM C (cH C (cI s 41 ((s.1 41) + (1 : Int32)))) G)) i68_37 rfl (bM_put (j := 2) (fs := cF2 C s) rfl (Nat.le_of_ble_eq_true rfl) hN (gm_fit_i _) rfl) ?_
  refine gm_ev.iload_n i68_40 rfl ?_
  refine gm_ev.if_ge_f i68_41 c9 ?_
  refine gm_ev.iconst (v := 0) i68_44 (by decide) ?_
  refine gm_ev.goto (tgt := 53) i68_45 (by decide) ?_
  refine gm_ev.istore (ls' := [some (.ref (C + 2)), some (.int p0), some (.int (s.2.1 1 k2)), some (.int (gm_ix (s.2.1 1 k2))), some (.int (0 : Int32)), none, none]) i68_53 (Nat.le_of_ble_eq_true rfl) rfl ?_
  refine gm_ev.iload_n i68_55 rfl ?_
  refine gm_ev.if_ge_t (tgt := 63) i68_56 (by decide) c10 ?_
  refine gm_ev.iload i68_63 rfl ?_
  refine gm_ev.istore (ls' := [some (.ref (C + 2)), some (.int p0), some (.int (s.2.1 1 k2)), some (.int (gm_ix (s.2.1 1 k2))), some (.int (0 : Int32)), some (.int (0 : Int32)), none]) i68_65 (Nat.le_of_ble_eq_true rfl) rfl ?_
  refine gm_ev.iconst (v := 0) i68_67 (by decide) ?_
  refine gm_ev.istore (ls' := [some (.ref (C + 2)), some (.int p0), some (.int (s.2.1 1 k2)), some (.int (gm_ix (s.2.1 1 k2))), some (.int (0 : Int32)), some (.int (0 : Int32)), some (.int (0 : Int32))]) i68_68 (Nat.le_of_ble_eq_true rfl) rfl ?_
  refine gm_ev.aload_n i68_70 rfl ?_
  refine gm_ev.getfield (v := .ref (C + 3)) i68_71 rfl (bM_fld (j := 2) (fs := cF2 C (cI s 41 ((s.1 41) + (1 : Int32)))) rfl rfl) ?_
  refine gm_ev.iconst (v := 0) i68_74 (by decide) ?_
  refine gm_ev.callS gm_mono_run (av := [.ref (C + 3), .int (0 : Int32)]) (r := []) i68_75 rfl rfl rfl (Nat.le_of_ble_eq_true rfl) t11 ?_
  refine gm_ev.iload i68_78 rfl ?_
  refine gm_ev.if_le_f i68_80 c13 ?_
  refine gm_ev.aload_n i68_83 rfl ?_
  refine gm_ev.bipush (v := 40) i68_84 (by decide) ?_
  refine gm_ev.callV gm_mono_run (av := [.int (40 : Int32)]) (r := []) (ci := 6) (fs := cF2 C s12) (bM_get (j := 2) rfl) i68_86 rfl rfl rfl (Nat.le_of_ble_eq_true rfl) t15 ?_
  refine gm_ev.if_eq_f i68_89 c17 ?_
  refine gm_ev.le (a := [some (.ref (C + 2)), some (.int p0), some (.int (s.2.1 1 k2)), none, some (.int (0 : Int32)), some (.int (0 : Int32)), some (.int (0 : Int32))]) (gm_leL.le (show gm_leL _ _ from ⟨rfl, ⟨rfl, ⟨rfl, ⟨rfl, ⟨rfl, ⟨rfl, trivial⟩⟩⟩⟩⟩⟩)) ?_
  exact k
