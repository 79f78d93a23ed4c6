/-! paths through the class over a general heap, by program -/
theorem c_X7_meritOf_0_tf {N0 : Nat} {K : Nat → Nat} {d : Nat} {M : gm_H} {sz sl : Nat} {p0 : Nat} {p1 : Int32} {p2 : Int32} {fso1 : List Value} {r2 : Int32} {M4 : gm_H} {sz5 : Nat} {dd6 : Nat} {fso8 : List Value} {x9 : Int32} (ho1 : M p0 = some (.inr (5, fso1))) (t3 : gm_to N0 K ra_nm (ra_mt K) d 56 [.ref p0] M sz (.returned (some (.int r2)), M4, sz5, dd6)) (c7 : ¬ (r2 &&& p1) = 0) (ho8 : M4 p0 = some (.inr (5, fso8))) (f10 : fso8[0]? = some (.int x9)) (c11 : ¬ x9 = 0) : gm_ev N0 K ra_nm (ra_mt K) d (some .int) (gm_I cX7_meritOf) (gm_lkf (lkX7 false K)) 0 [some (.ref p0), some (.int p1), some (.int p2), none, none] [] M sz sl (.returned (some (.int (-1 : Int32))), M4, sz5, (sl + dd6)) := by
  refine gm_ev.aload_n i78_0 rfl ?_
  refine gm_ev.callV gm_mono_run (av := []) (r := []) (fs := fso1) ho1 i78_1 rfl rfl rfl (Nat.le_of_ble_eq_true rfl) t3 ?_
  refine gm_ev.iload_n i78_4 rfl ?_
  refine gm_ev.iand i78_5 ?_
  refine gm_ev.istore_n (ls' := [some (.ref p0), some (.int p1), some (.int p2), some (.int (r2 &&& p1)), none]) i78_6 (Nat.le_of_ble_eq_true rfl) rfl ?_
  refine gm_ev.iload_n i78_7 rfl ?_
  refine gm_ev.if_ne_t (tgt := 14) i78_8 (by decide) c7 ?_
  refine gm_ev.aload_n i78_14 rfl ?_
  refine gm_ev.getfield (v := .int x9) i78_15 rfl (gm_fld_of ho8 f10) ?_
  refine gm_ev.if_eq_f i78_18 c11 ?_
  refine gm_ev.iconst (v := -1) i78_21 (by decide) ?_
  exact gm_ev.iret i78_22 rfl
theorem c_X7_meritOf_0_f {N0 : Nat} {K : Nat → Nat} {d : Nat} {M : gm_H} {sz sl : Nat} {p0 : Nat} {p1 : Int32} {p2 : Int32} {fso1 : List Value} {r2 : Int32} {M4 : gm_H} {sz5 : Nat} {dd6 : Nat} (ho1 : M p0 = some (.inr (5, fso1))) (t3 : gm_to N0 K ra_nm (ra_mt K) d 56 [.ref p0] M sz (.returned (some (.int r2)), M4, sz5, dd6)) (c7 : (r2 &&& p1) = 0) : gm_ev N0 K ra_nm (ra_mt K) d (some .int) (gm_I cX7_meritOf) (gm_lkf (lkX7 false K)) 0 [some (.ref p0), some (.int p1), some (.int p2), none, none] [] M sz sl (.returned (some (.int (100 : Int32))), M4, sz5, (sl + dd6)) := by
  refine gm_ev.aload_n i78_0 rfl ?_
  refine gm_ev.callV gm_mono_run (av := []) (r := []) (fs := fso1) ho1 i78_1 rfl rfl rfl (Nat.le_of_ble_eq_true rfl) t3 ?_
  refine gm_ev.iload_n i78_4 rfl ?_
  refine gm_ev.iand i78_5 ?_
  refine gm_ev.istore_n (ls' := [some (.ref p0), some (.int p1), some (.int p2), some (.int (r2 &&& p1)), none]) i78_6 (Nat.le_of_ble_eq_true rfl) rfl ?_
  refine gm_ev.iload_n i78_7 rfl ?_
  refine gm_ev.if_ne_f i78_8 c7 ?_
  refine gm_ev.bipush (v := 100) i78_11 (by decide) ?_
  exact gm_ev.iret i78_13 rfl
theorem c_X7_termMerit_0_ttt {N0 : Nat} {K : Nat → Nat} {d : Nat} {M : gm_H} {sz sl : Nat} {p0 : Int32} {p1 : Int32} {r2 : Int32} {M4 : gm_H} {sz5 : Nat} {dd6 : Nat} (c1 : ¬ p0 = 0) (t3 : gm_to N0 K ra_nm (ra_mt K) d 91 [.int p0] M sz (.returned (some (.int r2)), M4, sz5, dd6)) (c7 : ¬ (r2 &&& p1) = 0) (c8 : (p0 &&& (2097151 : Int32)) = 0) : gm_ev N0 K ra_nm (ra_mt K) d (some .int) (gm_I cX7_termMerit) (gm_lkf (lkX7 false K)) 0 [some (.int p0), some (.int p1)] [] M sz sl (.returned (some (.int (0 : Int32))), M4, sz5, (sl + dd6)) := by
  refine gm_ev.iload_n i79_0 rfl ?_
  refine gm_ev.if_ne_t (tgt := 6) i79_1 (by decide) c1 ?_
  refine gm_ev.iload_n i79_6 rfl ?_
  refine gm_ev.callS gm_mono_run (av := [.int p0]) (r := []) i79_7 rfl rfl rfl (Nat.le_of_ble_eq_true rfl) t3 ?_
  refine gm_ev.iload_n i79_10 rfl ?_
  refine gm_ev.iand i79_11 ?_
  refine gm_ev.if_ne_t (tgt := 18) i79_12 (by decide) c7 ?_
  refine gm_ev.iload_n i79_18 rfl ?_
  refine gm_ev.ldc i79_19 rfl ?_
  refine gm_ev.iand i79_21 ?_
  refine gm_ev.if_eq_t (tgt := 29) i79_22 (by decide) c8 ?_
  refine gm_ev.iconst (v := 0) i79_29 (by decide) ?_
  exact gm_ev.iret i79_30 rfl
theorem c_X7_termMerit_0_ttf {N0 : Nat} {K : Nat → Nat} {d : Nat} {M : gm_H} {sz sl : Nat} {p0 : Int32} {p1 : Int32} {r2 : Int32} {M4 : gm_H} {sz5 : Nat} {dd6 : Nat} (c1 : ¬ p0 = 0) (t3 : gm_to N0 K ra_nm (ra_mt K) d 91 [.int p0] M sz (.returned (some (.int r2)), M4, sz5, dd6)) (c7 : ¬ (r2 &&& p1) = 0) (c8 : ¬ (p0 &&& (2097151 : Int32)) = 0) : gm_ev N0 K ra_nm (ra_mt K) d (some .int) (gm_I cX7_termMerit) (gm_lkf (lkX7 false K)) 0 [some (.int p0), some (.int p1)] [] M sz sl (.returned (some (.int (4 : Int32))), M4, sz5, (sl + dd6)) := by
  refine gm_ev.iload_n i79_0 rfl ?_
  refine gm_ev.if_ne_t (tgt := 6) i79_1 (by decide) c1 ?_
  refine gm_ev.iload_n i79_6 rfl ?_
  refine gm_ev.callS gm_mono_run (av := [.int p0]) (r := []) i79_7 rfl rfl rfl (Nat.le_of_ble_eq_true rfl) t3 ?_
  refine gm_ev.iload_n i79_10 rfl ?_
  refine gm_ev.iand i79_11 ?_
  refine gm_ev.if_ne_t (tgt := 18) i79_12 (by decide) c7 ?_
  refine gm_ev.iload_n i79_18 rfl ?_
  refine gm_ev.ldc i79_19 rfl ?_
  refine gm_ev.iand i79_21 ?_
  refine gm_ev.if_eq_f i79_22 c8 ?_
  refine gm_ev.iconst (v := 4) i79_25 (by decide) ?_
  refine gm_ev.goto (tgt := 30) i79_26 (by decide) ?_
  exact gm_ev.iret i79_30 rfl
theorem c_X7_termMerit_0_tf {N0 : Nat} {K : Nat → Nat} {d : Nat} {M : gm_H} {sz sl : Nat} {p0 : Int32} {p1 : Int32} {r2 : Int32} {M4 : gm_H} {sz5 : Nat} {dd6 : Nat} (c1 : ¬ p0 = 0) (t3 : gm_to N0 K ra_nm (ra_mt K) d 91 [.int p0] M sz (.returned (some (.int r2)), M4, sz5, dd6)) (c7 : (r2 &&& p1) = 0) : gm_ev N0 K ra_nm (ra_mt K) d (some .int) (gm_I cX7_termMerit) (gm_lkf (lkX7 false K)) 0 [some (.int p0), some (.int p1)] [] M sz sl (.returned (some (.int (10 : Int32))), M4, sz5, (sl + dd6)) := by
  refine gm_ev.iload_n i79_0 rfl ?_
  refine gm_ev.if_ne_t (tgt := 6) i79_1 (by decide) c1 ?_
  refine gm_ev.iload_n i79_6 rfl ?_
  refine gm_ev.callS gm_mono_run (av := [.int p0]) (r := []) i79_7 rfl rfl rfl (Nat.le_of_ble_eq_true rfl) t3 ?_
  refine gm_ev.iload_n i79_10 rfl ?_
  refine gm_ev.iand i79_11 ?_
  refine gm_ev.if_ne_f i79_12 c7 ?_
  refine gm_ev.bipush (v := 10) i79_15 (by decide) ?_
  exact gm_ev.iret i79_17 rfl
theorem c_X7_termMerit_0_f {N0 : Nat} {K : Nat → Nat} {d : Nat} {M : gm_H} {sz sl : Nat} {p0 : Int32} {p1 : Int32} (c1 : p0 = 0) : gm_ev N0 K ra_nm (ra_mt K) d (some .int) (gm_I cX7_termMerit) (gm_lkf (lkX7 false K)) 0 [some (.int p0), some (.int p1)] [] M sz sl (.returned (some (.int (0 : Int32))), M, sz, sl) := by
  refine gm_ev.iload_n i79_0 rfl ?_
  refine gm_ev.if_ne_f i79_1 c1 ?_
  refine gm_ev.iconst (v := 0) i79_4 (by decide) ?_
  exact gm_ev.iret i79_5 rfl
theorem c_X8_init_0_ {N0 : Nat} {K : Nat → Nat} {d : Nat} {M : gm_H} {sz sl : Nat} {q : Nat} {fso6 : List Value} (hd : 0 < d) (bd2 : gm_bd M sz) (ho6 : (gm_new M sz (.inl (.object "RuleArena$Rule", 24, .inr (.inr (.inr (.inr (fun _ => none))))))) q = some (.inr (8, fso6))) (hNq : N0 ≤ q) (l7 : 0 < fso6.length) (l17 : 2 < (fso6.set 0 (.ref sz)).length) (l30 : 3 < ((fso6.set 0 (.ref sz)).set 2 (.ref (sz + 1))).length) (l46 : 4 < (((fso6.set 0 (.ref sz)).set 2 (.ref (sz + 1))).set 3 (.ref ((sz + 1) + 1))).length) (l57 : 1 < ((((fso6.set 0 (.ref sz)).set 2 (.ref (sz + 1))).set 3 (.ref ((sz + 1) + 1))).set 4 (.ref (((sz + 1) + 1) + 1))).length) : gm_ev N0 K ra_nm (ra_mt K) d none (gm_I cX8_init) (gm_lkf (lkX8 true K)) 0 [some (.ref q)] [] M sz sl (.returned none, (gm_set (gm_set (gm_new (gm_set (gm_new (gm_set (gm_new (gm_set (gm_new M sz (.inl (.object "RuleArena$Rule", 24, .inr (.inr (.inr (.inr (fun _ => none))))))) q (.inr (8, (fso6.set 0 (.ref sz))))) (sz + 1) (.inl (.int, 24, .inl (fun _ => 0)))) q (.inr (8, ((fso6.set 0 (.ref sz)).set 2 (.ref (sz + 1)))))) ((sz + 1) + 1) (.inl (.int, 24, .inl (fun _ => 0)))) q (.inr (8, (((fso6.set 0 (.ref sz)).set 2 (.ref (sz + 1))).set 3 (.ref ((sz + 1) + 1)))))) (((sz + 1) + 1) + 1) (.inl (.int, 24, .inl (fun _ => 0)))) q (.inr (8, ((((fso6.set 0 (.ref sz)).set 2 (.ref (sz + 1))).set 3 (.ref ((sz + 1) + 1))).set 4 (.ref (((sz + 1) + 1) + 1)))))) q (.inr (8, (((((fso6.set 0 (.ref sz)).set 2 (.ref (sz + 1))).set 3 (.ref ((sz + 1) + 1))).set 4 (.ref (((sz + 1) + 1) + 1))).set 1 (.int (0 : Int32)))))), ((((sz + 1) + 1) + 1) + 1), ((((sl + 24) + 24) + 24) + 24)) := by
  refine gm_ev.aload_n i80_0 rfl ?_
  refine gm_ev.callI gm_mono_run (av := []) (r := []) i80_1 rfl rfl rfl (Nat.le_of_ble_eq_true rfl) (gm_to_obj hd _) ?_
  refine gm_ev.aload_n i80_4 rfl ?_
  refine gm_ev.bipush (v := 24) i80_5 (by decide) ?_
  refine gm_ev.anewarray (n := 24) i80_7 rfl (by decide) (by decide) ?_
  have w3 : (gm_new M sz (.inl (.object "RuleArena$Rule", 24, .inr (.inr (.inr (.inr (fun _ => none))))))) sz = some (.inl (.object "RuleArena$Rule", 24, .inr (.inr (.inr (.inr (fun _ => none)))))) := gm_set_eq
  have b5 : 24 < 2 ^ 31 := by decide
  have bd4 : gm_bd (gm_new M sz (.inl (.object "RuleArena$Rule", 24, .inr (.inr (.inr (.inr (fun _ => none))))))) (sz + 1) := gm_bd.new bd2
  refine gm_ev.putfield (M' := (gm_set (gm_new M sz (.inl (.object "RuleArena$Rule", 24, .inr (.inr (.inr (.inr (fun _ => none))))))) q (.inr (8, (fso6.set 0 (.ref sz)))))) i80_10 rfl (gm_put_of ho6 l7 hNq (gm_fit_a _ _)) ?_
  have g8 : (fso6.set 0 (.ref sz))[0]? = some (.ref sz) := gm_fs_eq l7
  have bd9 : gm_bd (gm_set (gm_new M sz (.inl (.object "RuleArena$Rule", 24, .inr (.inr (.inr (.inr (fun _ => none))))))) q (.inr (8, (fso6.set 0 (.ref sz))))) (sz + 1) := gm_bd.set bd4 ho6
  have w10 : (gm_set (gm_new M sz (.inl (.object "RuleArena$Rule", 24, .inr (.inr (.inr (.inr (fun _ => none))))))) q (.inr (8, (fso6.set 0 (.ref sz))))) q = some (.inr (8, (fso6.set 0 (.ref sz)))) := gm_set_eq
  have w11 : (gm_set (gm_new M sz (.inl (.object "RuleArena$Rule", 24, .inr (.inr (.inr (.inr (fun _ => none))))))) q (.inr (8, (fso6.set 0 (.ref sz))))) sz = some (.inl (.object "RuleArena$Rule", 24, .inr (.inr (.inr (.inr (fun _ => none)))))) := (gm_set_ne ((gm_ne_oa ho6 w3).symm)).trans w3
  refine gm_ev.aload_n i80_13 rfl ?_
  refine gm_ev.bipush (v := 24) i80_14 (by decide) ?_
  refine gm_ev.newarray (n := 24) i80_16 (by decide) (by decide) rfl ?_
  have w12 : (gm_new (gm_set (gm_new M sz (.inl (.object "RuleArena$Rule", 24, .inr (.inr (.inr (.inr (fun _ => none))))))) q (.inr (8, (fso6.set 0 (.ref sz))))) (sz + 1) (.inl (.int, 24, .inl (fun _ => 0)))) q = some (.inr (8, (fso6.set 0 (.ref sz)))) := gm_new_old bd9 w10
  have w13 : (gm_new (gm_set (gm_new M sz (.inl (.object "RuleArena$Rule", 24, .inr (.inr (.inr (.inr (fun _ => none))))))) q (.inr (8, (fso6.set 0 (.ref sz))))) (sz + 1) (.inl (.int, 24, .inl (fun _ => 0)))) sz = some (.inl (.object "RuleArena$Rule", 24, .inr (.inr (.inr (.inr (fun _ => none)))))) := gm_new_old bd9 w11
  have w14 : (gm_new (gm_set (gm_new M sz (.inl (.object "RuleArena$Rule", 24, .inr (.inr (.inr (.inr (fun _ => none))))))) q (.inr (8, (fso6.set 0 (.ref sz))))) (sz + 1) (.inl (.int, 24, .inl (fun _ => 0)))) (sz + 1) = some (.inl (.int, 24, .inl (fun _ => 0))) := gm_set_eq
  have b16 : 24 < 2 ^ 31 := by decide
  have bd15 : gm_bd (gm_new (gm_set (gm_new M sz (.inl (.object "RuleArena$Rule", 24, .inr (.inr (.inr (.inr (fun _ => none))))))) q (.inr (8, (fso6.set 0 (.ref sz))))) (sz + 1) (.inl (.int, 24, .inl (fun _ => 0)))) ((sz + 1) + 1) := gm_bd.new bd9
  refine gm_ev.putfield (M' := (gm_set (gm_new (gm_set (gm_new M sz (.inl (.object "RuleArena$Rule", 24, .inr (.inr (.inr (.inr (fun _ => none))))))) q (.inr (8, (fso6.set 0 (.ref sz))))) (sz + 1) (.inl (.int, 24, .inl (fun _ => 0)))) q (.inr (8, ((fso6.set 0 (.ref sz)).set 2 (.ref (sz + 1))))))) i80_18 rfl (gm_put_of w12 l17 hNq (gm_fit_a _ _)) ?_
  have g18 : ((fso6.set 0 (.ref sz)).set 2 (.ref (sz + 1)))[0]? = some (.ref sz) := (gm_fs_ne (by decide)).trans g8
  have g19 : ((fso6.set 0 (.ref sz)).set 2 (.ref (sz + 1)))[2]? = some (.ref (sz + 1)) := gm_fs_eq l17
  have bd20 : gm_bd (gm_set (gm_new (gm_set (gm_new M sz (.inl (.object "RuleArena$Rule", 24, .inr (.inr (.inr (.inr (fun _ => none))))))) q (.inr (8, (fso6.set 0 (.ref sz))))) (sz + 1) (.inl (.int, 24, .inl (fun _ => 0)))) q (.inr (8, ((fso6.set 0 (.ref sz)).set 2 (.ref (sz + 1)))))) ((sz + 1) + 1) := gm_bd.set bd15 w12
  have w21 : (gm_set (gm_new (gm_set (gm_new M sz (.inl (.object "RuleArena$Rule", 24, .inr (.inr (.inr (.inr (fun _ => none))))))) q (.inr (8, (fso6.set 0 (.ref sz))))) (sz + 1) (.inl (.int, 24, .inl (fun _ => 0)))) q (.inr (8, ((fso6.set 0 (.ref sz)).set 2 (.ref (sz + 1)))))) q = some (.inr (8, ((fso6.set 0 (.ref sz)).set 2 (.ref (sz + 1))))) := gm_set_eq
  have w22 : (gm_set (gm_new (gm_set (gm_new M sz (.inl (.object "RuleArena$Rule", 24, .inr (.inr (.inr (.inr (fun _ => none))))))) q (.inr (8, (fso6.set 0 (.ref sz))))) (sz + 1) (.inl (.int, 24, .inl (fun _ => 0)))) q (.inr (8, ((fso6.set 0 (.ref sz)).set 2 (.ref (sz + 1)))))) sz = some (.inl (.object "RuleArena$Rule", 24, .inr (.inr (.inr (.inr (fun _ => none)))))) := (gm_set_ne ((gm_ne_oa w12 w13).symm)).trans w13
  have w23 : (gm_set (gm_new (gm_set (gm_new M sz (.inl (.object "RuleArena$Rule", 24, .inr (.inr (.inr (.inr (fun _ => none))))))) q (.inr (8, (fso6.set 0 (.ref sz))))) (sz + 1) (.inl (.int, 24, .inl (fun _ => 0)))) q (.inr (8, ((fso6.set 0 (.ref sz)).set 2 (.ref (sz + 1)))))) (sz + 1) = some (.inl (.int, 24, .inl (fun _ => 0))) := (gm_set_ne ((gm_ne_oa w12 w14).symm)).trans w14
  refine gm_ev.aload_n i80_21 rfl ?_
  refine gm_ev.bipush (v := 24) i80_22 (by decide) ?_
  refine gm_ev.newarray (n := 24) i80_24 (by decide) (by decide) rfl ?_
  have w24 : (gm_new (gm_set (gm_new (gm_set (gm_new M sz (.inl (.object "RuleArena$Rule", 24, .inr (.inr (.inr (.inr (fun _ => none))))))) q (.inr (8, (fso6.set 0 (.ref sz))))) (sz + 1) (.inl (.int, 24, .inl (fun _ => 0)))) q (.inr (8, ((fso6.set 0 (.ref sz)).set 2 (.ref (sz + 1)))))) ((sz + 1) + 1) (.inl (.int, 24, .inl (fun _ => 0)))) q = some (.inr (8, ((fso6.set 0 (.ref sz)).set 2 (.ref (sz + 1))))) := gm_new_old bd20 w21
  have w25 : (gm_new (gm_set (gm_new (gm_set (gm_new M sz (.inl (.object "RuleArena$Rule", 24, .inr (.inr (.inr (.inr (fun _ => none))))))) q (.inr (8, (fso6.set 0 (.ref sz))))) (sz + 1) (.inl (.int, 24, .inl (fun _ => 0)))) q (.inr (8, ((fso6.set 0 (.ref sz)).set 2 (.ref (sz + 1)))))) ((sz + 1) + 1) (.inl (.int, 24, .inl (fun _ => 0)))) sz = some (.inl (.object "RuleArena$Rule", 24, .inr (.inr (.inr (.inr (fun _ => none)))))) := gm_new_old bd20 w22
  have w26 : (gm_new (gm_set (gm_new (gm_set (gm_new M sz (.inl (.object "RuleArena$Rule", 24, .inr (.inr (.inr (.inr (fun _ => none))))))) q (.inr (8, (fso6.set 0 (.ref sz))))) (sz + 1) (.inl (.int, 24, .inl (fun _ => 0)))) q (.inr (8, ((fso6.set 0 (.ref sz)).set 2 (.ref (sz + 1)))))) ((sz + 1) + 1) (.inl (.int, 24, .inl (fun _ => 0)))) (sz + 1) = some (.inl (.int, 24, .inl (fun _ => 0))) := gm_new_old bd20 w23
  have w27 : (gm_new (gm_set (gm_new (gm_set (gm_new M sz (.inl (.object "RuleArena$Rule", 24, .inr (.inr (.inr (.inr (fun _ => none))))))) q (.inr (8, (fso6.set 0 (.ref sz))))) (sz + 1) (.inl (.int, 24, .inl (fun _ => 0)))) q (.inr (8, ((fso6.set 0 (.ref sz)).set 2 (.ref (sz + 1)))))) ((sz + 1) + 1) (.inl (.int, 24, .inl (fun _ => 0)))) ((sz + 1) + 1) = some (.inl (.int, 24, .inl (fun _ => 0))) := gm_set_eq
  have b29 : 24 < 2 ^ 31 := by decide
  have bd28 : gm_bd (gm_new (gm_set (gm_new (gm_set (gm_new M sz (.inl (.object "RuleArena$Rule", 24, .inr (.inr (.inr (.inr (fun _ => none))))))) q (.inr (8, (fso6.set 0 (.ref sz))))) (sz + 1) (.inl (.int, 24, .inl (fun _ => 0)))) q (.inr (8, ((fso6.set 0 (.ref sz)).set 2 (.ref (sz + 1)))))) ((sz + 1) + 1) (.inl (.int, 24, .inl (fun _ => 0)))) (((sz + 1) + 1) + 1) := gm_bd.new bd20
  refine gm_ev.putfield (M' := (gm_set (gm_new (gm_set (gm_new (gm_set (gm_new M sz (.inl (.object "RuleArena$Rule", 24, .inr (.inr (.inr (.inr (fun _ => none))))))) q (.inr (8, (fso6.set 0 (.ref sz))))) (sz + 1) (.inl (.int, 24, .inl (fun _ => 0)))) q (.inr (8, ((fso6.set 0 (.ref sz)).set 2 (.ref (sz + 1)))))) ((sz + 1) + 1) (.inl (.int, 24, .inl (fun _ => 0)))) q (.inr (8, (((fso6.set 0 (.ref sz)).set 2 (.ref (sz + 1))).set 3 (.ref ((sz + 1) + 1))))))) i80_26 rfl (gm_put_of w24 l30 hNq (gm_fit_a _ _)) ?_
  have g31 : (((fso6.set 0 (.ref sz)).set 2 (.ref (sz + 1))).set 3 (.ref ((sz + 1) + 1)))[0]? = some (.ref sz) := (gm_fs_ne (by decide)).trans g18
  have g32 : (((fso6.set 0 (.ref sz)).set 2 (.ref (sz + 1))).set 3 (.ref ((sz + 1) + 1)))[2]? = some (.ref (sz + 1)) := (gm_fs_ne (by decide)).trans g19
  have g33 : (((fso6.set 0 (.ref sz)).set 2 (.ref (sz + 1))).set 3 (.ref ((sz + 1) + 1)))[3]? = some (.ref ((sz + 1) + 1)) := gm_fs_eq l30
  have bd34 : gm_bd (gm_set (gm_new (gm_set (gm_new (gm_set (gm_new M sz (.inl (.object "RuleArena$Rule", 24, .inr (.inr (.inr (.inr (fun _ => none))))))) q (.inr (8, (fso6.set 0 (.ref sz))))) (sz + 1) (.inl (.int, 24, .inl (fun _ => 0)))) q (.inr (8, ((fso6.set 0 (.ref sz)).set 2 (.ref (sz + 1)))))) ((sz + 1) + 1) (.inl (.int, 24, .inl (fun _ => 0)))) q (.inr (8, (((fso6.set 0 (.ref sz)).set 2 (.ref (sz + 1))).set 3 (.ref ((sz + 1) + 1)))))) (((sz + 1) + 1) + 1) := gm_bd.set bd28 w24
  have w35 : (gm_set (gm_new (gm_set (gm_new (gm_set (gm_new M sz (.inl (.object "RuleArena$Rule", 24, .inr (.inr (.inr (.inr (fun _ => none))))))) q (.inr (8, (fso6.set 0 (.ref sz))))) (sz + 1) (.inl (.int, 24, .inl (fun _ => 0)))) q (.inr (8, ((fso6.set 0 (.ref sz)).set 2 (.ref (sz + 1)))))) ((sz + 1) + 1) (.inl (.int, 24, .inl (fun _ => 0)))) q (.inr (8, (((fso6.set 0 (.ref sz)).set 2 (.ref (sz + 1))).set 3 (.ref ((sz + 1) + 1)))))) q = some (.inr (8, (((fso6.set 0 (.ref sz)).set 2 (.ref (sz + 1))).set 3 (.ref ((sz + 1) + 1))))) := gm_set_eq
  have w36 : (gm_set (gm_new (gm_set (gm_new (gm_set (gm_new M sz (.inl (.object "RuleArena$Rule", 24, .inr (.inr (.inr (.inr (fun _ => none))))))) q (.inr (8, (fso6.set 0 (.ref sz))))) (sz + 1) (.inl (.int, 24, .inl (fun _ => 0)))) q (.inr (8, ((fso6.set 0 (.ref sz)).set 2 (.ref (sz + 1)))))) ((sz + 1) + 1) (.inl (.int, 24, .inl (fun _ => 0)))) q (.inr (8, (((fso6.set 0 (.ref sz)).set 2 (.ref (sz + 1))).set 3 (.ref ((sz + 1) + 1)))))) sz = some (.inl (.object "RuleArena$Rule", 24, .inr (.inr (.inr (.inr (fun _ => none)))))) := (gm_set_ne ((gm_ne_oa w24 w25).symm)).trans w25
  have w37 : (gm_set (gm_new (gm_set (gm_new (gm_set (gm_new M sz (.inl (.object "RuleArena$Rule", 24, .inr (.inr (.inr (.inr (fun _ => none))))))) q (.inr (8, (fso6.set 0 (.ref sz))))) (sz + 1) (.inl (.int, 24, .inl (fun _ => 0)))) q (.inr (8, ((fso6.set 0 (.ref sz)).set 2 (.ref (sz + 1)))))) ((sz + 1) + 1) (.inl (.int, 24, .inl (fun _ => 0)))) q (.inr (8, (((fso6.set 0 (.ref sz)).set 2 (.ref (sz + 1))).set 3 (.ref ((sz + 1) + 1)))))) (sz + 1) = some (.inl (.int, 24, .inl (fun _ => 0))) := (gm_set_ne ((gm_ne_oa w24 w26).symm)).trans w26
  have w38 : (gm_set (gm_new (gm_set (gm_new (gm_set (gm_new M sz (.inl (.object "RuleArena$Rule", 24, .inr (.inr (.inr (.inr (fun _ => none))))))) q (.inr (8, (fso6.set 0 (.ref sz))))) (sz + 1) (.inl (.int, 24, .inl (fun _ => 0)))) q (.inr (8, ((fso6.set 0 (.ref sz)).set 2 (.ref (sz + 1)))))) ((sz + 1) + 1) (.inl (.int, 24, .inl (fun _ => 0)))) q (.inr (8, (((fso6.set 0 (.ref sz)).set 2 (.ref (sz + 1))).set 3 (.ref ((sz + 1) + 1)))))) ((sz + 1) + 1) = some (.inl (.int, 24, .inl (fun _ => 0))) := (gm_set_ne ((gm_ne_oa w24 w27).symm)).trans w27
  refine gm_ev.aload_n i80_29 rfl ?_
  refine gm_ev.bipush (v := 24) i80_30 (by decide) ?_
  refine gm_ev.newarray (n := 24) i80_32 (by decide) (by decide) rfl ?_
  have w39 : (gm_new (gm_set (gm_new (gm_set (gm_new (gm_set (gm_new M sz (.inl (.object "RuleArena$Rule", 24, .inr (.inr (.inr (.inr (fun _ => none))))))) q (.inr (8, (fso6.set 0 (.ref sz))))) (sz + 1) (.inl (.int, 24, .inl (fun _ => 0)))) q (.inr (8, ((fso6.set 0 (.ref sz)).set 2 (.ref (sz + 1)))))) ((sz + 1) + 1) (.inl (.int, 24, .inl (fun _ => 0)))) q (.inr (8, (((fso6.set 0 (.ref sz)).set 2 (.ref (sz + 1))).set 3 (.ref ((sz + 1) + 1)))))) (((sz + 1) + 1) + 1) (.inl (.int, 24, .inl (fun _ => 0)))) q = some (.inr (8, (((fso6.set 0 (.ref sz)).set 2 (.ref (sz + 1))).set 3 (.ref ((sz + 1) + 1))))) := gm_new_old bd34 w35
  have w40 : (gm_new (gm_set (gm_new (gm_set (gm_new (gm_set (gm_new M sz (.inl (.object "RuleArena$Rule", 24, .inr (.inr (.inr (.inr (fun _ => none))))))) q (.inr (8, (fso6.set 0 (.ref sz))))) (sz + 1) (.inl (.int, 24, .inl (fun _ => 0)))) q (.inr (8, ((fso6.set 0 (.ref sz)).set 2 (.ref (sz + 1)))))) ((sz + 1) + 1) (.inl (.int, 24, .inl (fun _ => 0)))) q (.inr (8, (((fso6.set 0 (.ref sz)).set 2 (.ref (sz + 1))).set 3 (.ref ((sz + 1) + 1)))))) (((sz + 1) + 1) + 1) (.inl (.int, 24, .inl (fun _ => 0)))) sz = some (.inl (.object "RuleArena$Rule", 24, .inr (.inr (.inr (.inr (fun _ => none)))))) := gm_new_old bd34 w36
  have w41 : (gm_new (gm_set (gm_new (gm_set (gm_new (gm_set (gm_new M sz (.inl (.object "RuleArena$Rule", 24, .inr (.inr (.inr (.inr (fun _ => none))))))) q (.inr (8, (fso6.set 0 (.ref sz))))) (sz + 1) (.inl (.int, 24, .inl (fun _ => 0)))) q (.inr (8, ((fso6.set 0 (.ref sz)).set 2 (.ref (sz + 1)))))) ((sz + 1) + 1) (.inl (.int, 24, .inl (fun _ => 0)))) q (.inr (8, (((fso6.set 0 (.ref sz)).set 2 (.ref (sz + 1))).set 3 (.ref ((sz + 1) + 1)))))) (((sz + 1) + 1) + 1) (.inl (.int, 24, .inl (fun _ => 0)))) (sz + 1) = some (.inl (.int, 24, .inl (fun _ => 0))) := gm_new_old bd34 w37
  have w42 : (gm_new (gm_set (gm_new (gm_set (gm_new (gm_set (gm_new M sz (.inl (.object "RuleArena$Rule", 24, .inr (.inr (.inr (.inr (fun _ => none))))))) q (.inr (8, (fso6.set 0 (.ref sz))))) (sz + 1) (.inl (.int, 24, .inl (fun _ => 0)))) q (.inr (8, ((fso6.set 0 (.ref sz)).set 2 (.ref (sz + 1)))))) ((sz + 1) + 1) (.inl (.int, 24, .inl (fun _ => 0)))) q (.inr (8, (((fso6.set 0 (.ref sz)).set 2 (.ref (sz + 1))).set 3 (.ref ((sz + 1) + 1)))))) (((sz + 1) + 1) + 1) (.inl (.int, 24, .inl (fun _ => 0)))) ((sz + 1) + 1) = some (.inl (.int, 24, .inl (fun _ => 0))) := gm_new_old bd34 w38
  have w43 : (gm_new (gm_set (gm_new (gm_set (gm_new (gm_set (gm_new M sz (.inl (.object "RuleArena$Rule", 24, .inr (.inr (.inr (.inr (fun _ => none))))))) q (.inr (8, (fso6.set 0 (.ref sz))))) (sz + 1) (.inl (.int, 24, .inl (fun _ => 0)))) q (.inr (8, ((fso6.set 0 (.ref sz)).set 2 (.ref (sz + 1)))))) ((sz + 1) + 1) (.inl (.int, 24, .inl (fun _ => 0)))) q (.inr (8, (((fso6.set 0 (.ref sz)).set 2 (.ref (sz + 1))).set 3 (.ref ((sz + 1) + 1)))))) (((sz + 1) + 1) + 1) (.inl (.int, 24, .inl (fun _ => 0)))) (((sz + 1) + 1) + 1) = some (.inl (.int, 24, .inl (fun _ => 0))) := gm_set_eq
  have b45 : 24 < 2 ^ 31 := by decide
  have bd44 : gm_bd (gm_new (gm_set (gm_new (gm_set (gm_new (gm_set (gm_new M sz (.inl (.object "RuleArena$Rule", 24, .inr (.inr (.inr (.inr (fun _ => none))))))) q (.inr (8, (fso6.set 0 (.ref sz))))) (sz + 1) (.inl (.int, 24, .inl (fun _ => 0)))) q (.inr (8, ((fso6.set 0 (.ref sz)).set 2 (.ref (sz + 1)))))) ((sz + 1) + 1) (.inl (.int, 24, .inl (fun _ => 0)))) q (.inr (8, (((fso6.set 0 (.ref sz)).set 2 (.ref (sz + 1))).set 3 (.ref ((sz + 1) + 1)))))) (((sz + 1) + 1) + 1) (.inl (.int, 24, .inl (fun _ => 0)))) ((((sz + 1) + 1) + 1) + 1) := gm_bd.new bd34
  refine gm_ev.putfield (M' := (gm_set (gm_new (gm_set (gm_new (gm_set (gm_new (gm_set (gm_new M sz (.inl (.object "RuleArena$Rule", 24, .inr (.inr (.inr (.inr (fun _ => none))))))) q (.inr (8, (fso6.set 0 (.ref sz))))) (sz + 1) (.inl (.int, 24, .inl (fun _ => 0)))) q (.inr (8, ((fso6.set 0 (.ref sz)).set 2 (.ref (sz + 1)))))) ((sz + 1) + 1) (.inl (.int, 24, .inl (fun _ => 0)))) q (.inr (8, (((fso6.set 0 (.ref sz)).set 2 (.ref (sz + 1))).set 3 (.ref ((sz + 1) + 1)))))) (((sz + 1) + 1) + 1) (.inl (.int, 24, .inl (fun _ => 0)))) q (.inr (8, ((((fso6.set 0 (.ref sz)).set 2 (.ref (sz + 1))).set 3 (.ref ((sz + 1) + 1))).set 4 (.ref (((sz + 1) + 1) + 1))))))) i80_34 rfl (gm_put_of w39 l46 hNq (gm_fit_a _ _)) ?_
  have g47 : ((((fso6.set 0 (.ref sz)).set 2 (.ref (sz + 1))).set 3 (.ref ((sz + 1) + 1))).set 4 (.ref (((sz + 1) + 1) + 1)))[0]? = some (.ref sz) := (gm_fs_ne (by decide)).trans g31
  have g48 : ((((fso6.set 0 (.ref sz)).set 2 (.ref (sz + 1))).set 3 (.ref ((sz + 1) + 1))).set 4 (.ref (((sz + 1) + 1) + 1)))[2]? = some (.ref (sz + 1)) := (gm_fs_ne (by decide)).trans g32
  have g49 : ((((fso6.set 0 (.ref sz)).set 2 (.ref (sz + 1))).set 3 (.ref ((sz + 1) + 1))).set 4 (.ref (((sz + 1) + 1) + 1)))[3]? = some (.ref ((sz + 1) + 1)) := (gm_fs_ne (by decide)).trans g33
  have g50 : ((((fso6.set 0 (.ref sz)).set 2 (.ref (sz + 1))).set 3 (.ref ((sz + 1) + 1))).set 4 (.ref (((sz + 1) + 1) + 1)))[4]? = some (.ref (((sz + 1) + 1) + 1)) := gm_fs_eq l46
  have bd51 : gm_bd (gm_set (gm_new (gm_set (gm_new (gm_set (gm_new (gm_set (gm_new M sz (.inl (.object "RuleArena$Rule", 24, .inr (.inr (.inr (.inr (fun _ => none))))))) q (.inr (8, (fso6.set 0 (.ref sz))))) (sz + 1) (.inl (.int, 24, .inl (fun _ => 0)))) q (.inr (8, ((fso6.set 0 (.ref sz)).set 2 (.ref (sz + 1)))))) ((sz + 1) + 1) (.inl (.int, 24, .inl (fun _ => 0)))) q (.inr (8, (((fso6.set 0 (.ref sz)).set 2 (.ref (sz + 1))).set 3 (.ref ((sz + 1) + 1)))))) (((sz + 1) + 1) + 1) (.inl (.int, 24, .inl (fun _ => 0)))) q (.inr (8, ((((fso6.set 0 (.ref sz)).set 2 (.ref (sz + 1))).set 3 (.ref ((sz + 1) + 1))).set 4 (.ref (((sz + 1) + 1) + 1)))))) ((((sz + 1) + 1) + 1) + 1) := gm_bd.set bd44 w39
  have w52 : (gm_set (gm_new (gm_set (gm_new (gm_set (gm_new (gm_set (gm_new M sz (.inl (.object "RuleArena$Rule", 24, .inr (.inr (.inr (.inr (fun _ => none))))))) q (.inr (8, (fso6.set 0 (.ref sz))))) (sz + 1) (.inl (.int, 24, .inl (fun _ => 0)))) q (.inr (8, ((fso6.set 0 (.ref sz)).set 2 (.ref (sz + 1)))))) ((sz + 1) + 1) (.inl (.int, 24, .inl (fun _ => 0)))) q (.inr (8, (((fso6.set 0 (.ref sz)).set 2 (.ref (sz + 1))).set 3 (.ref ((sz + 1) + 1)))))) (((sz + 1) + 1) + 1) (.inl (.int, 24, .inl (fun _ => 0)))) q (.inr (8, ((((fso6.set 0 (.ref sz)).set 2 (.ref (sz + 1))).set 3 (.ref ((sz + 1) + 1))).set 4 (.ref (((sz + 1) + 1) + 1)))))) q = some (.inr (8, ((((fso6.set 0 (.ref sz)).set 2 (.ref (sz + 1))).set 3 (.ref ((sz + 1) + 1))).set 4 (.ref (((sz + 1) + 1) + 1))))) := gm_set_eq
  have w53 : (gm_set (gm_new (gm_set (gm_new (gm_set (gm_new (gm_set (gm_new M sz (.inl (.object "RuleArena$Rule", 24, .inr (.inr (.inr (.inr (fun _ => none))))))) q (.inr (8, (fso6.set 0 (.ref sz))))) (sz + 1) (.inl (.int, 24, .inl (fun _ => 0)))) q (.inr (8, ((fso6.set 0 (.ref sz)).set 2 (.ref (sz + 1)))))) ((sz + 1) + 1) (.inl (.int, 24, .inl (fun _ => 0)))) q (.inr (8, (((fso6.set 0 (.ref sz)).set 2 (.ref (sz + 1))).set 3 (.ref ((sz + 1) + 1)))))) (((sz + 1) + 1) + 1) (.inl (.int, 24, .inl (fun _ => 0)))) q (.inr (8, ((((fso6.set 0 (.ref sz)).set 2 (.ref (sz + 1))).set 3 (.ref ((sz + 1) + 1))).set 4 (.ref (((sz + 1) + 1) + 1)))))) sz = some (.inl (.object "RuleArena$Rule", 24, .inr (.inr (.inr (.inr (fun _ => none)))))) := (gm_set_ne ((gm_ne_oa w39 w40).symm)).trans w40
  have w54 : (gm_set (gm_new (gm_set (gm_new (gm_set (gm_new (gm_set (gm_new M sz (.inl (.object "RuleArena$Rule", 24, .inr (.inr (.inr (.inr (fun _ => none))))))) q (.inr (8, (fso6.set 0 (.ref sz))))) (sz + 1) (.inl (.int, 24, .inl (fun _ => 0)))) q (.inr (8, ((fso6.set 0 (.ref sz)).set 2 (.ref (sz + 1)))))) ((sz + 1) + 1) (.inl (.int, 24, .inl (fun _ => 0)))) q (.inr (8, (((fso6.set 0 (.ref sz)).set 2 (.ref (sz + 1))).set 3 (.ref ((sz + 1) + 1)))))) (((sz + 1) + 1) + 1) (.inl (.int, 24, .inl (fun _ => 0)))) q (.inr (8, ((((fso6.set 0 (.ref sz)).set 2 (.ref (sz + 1))).set 3 (.ref ((sz + 1) + 1))).set 4 (.ref (((sz + 1) + 1) + 1)))))) (sz + 1) = some (.inl (.int, 24, .inl (fun _ => 0))) := (gm_set_ne ((gm_ne_oa w39 w41).symm)).trans w41
  have w55 : (gm_set (gm_new (gm_set (gm_new (gm_set (gm_new (gm_set (gm_new M sz (.inl (.object "RuleArena$Rule", 24, .inr (.inr (.inr (.inr (fun _ => none))))))) q (.inr (8, (fso6.set 0 (.ref sz))))) (sz + 1) (.inl (.int, 24, .inl (fun _ => 0)))) q (.inr (8, ((fso6.set 0 (.ref sz)).set 2 (.ref (sz + 1)))))) ((sz + 1) + 1) (.inl (.int, 24, .inl (fun _ => 0)))) q (.inr (8, (((fso6.set 0 (.ref sz)).set 2 (.ref (sz + 1))).set 3 (.ref ((sz + 1) + 1)))))) (((sz + 1) + 1) + 1) (.inl (.int, 24, .inl (fun _ => 0)))) q (.inr (8, ((((fso6.set 0 (.ref sz)).set 2 (.ref (sz + 1))).set 3 (.ref ((sz + 1) + 1))).set 4 (.ref (((sz + 1) + 1) + 1)))))) ((sz + 1) + 1) = some (.inl (.int, 24, .inl (fun _ => 0))) := (gm_set_ne ((gm_ne_oa w39 w42).symm)).trans w42
  have w56 : (gm_set (gm_new (gm_set (gm_new (gm_set (gm_new (gm_set (gm_new M sz (.inl (.object "RuleArena$Rule", 24, .inr (.inr (.inr (.inr (fun _ => none))))))) q (.inr (8, (fso6.set 0 (.ref sz))))) (sz + 1) (.inl (.int, 24, .inl (fun _ => 0)))) q (.inr (8, ((fso6.set 0 (.ref sz)).set 2 (.ref (sz + 1)))))) ((sz + 1) + 1) (.inl (.int, 24, .inl (fun _ => 0)))) q (.inr (8, (((fso6.set 0 (.ref sz)).set 2 (.ref (sz + 1))).set 3 (.ref ((sz + 1) + 1)))))) (((sz + 1) + 1) + 1) (.inl (.int, 24, .inl (fun _ => 0)))) q (.inr (8, ((((fso6.set 0 (.ref sz)).set 2 (.ref (sz + 1))).set 3 (.ref ((sz + 1) + 1))).set 4 (.ref (((sz + 1) + 1) + 1)))))) (((sz + 1) + 1) + 1) = some (.inl (.int, 24, .inl (fun _ => 0))) := (gm_set_ne ((gm_ne_oa w39 w43).symm)).trans w43
  refine gm_ev.aload_n i80_37 rfl ?_
  refine gm_ev.iconst (v := 0) i80_38 (by decide) ?_
  refine gm_ev.putfield (M' := (gm_set (gm_set (gm_new (gm_set (gm_new (gm_set (gm_new (gm_set (gm_new M sz (.inl (.object "RuleArena$Rule", 24, .inr (.inr (.inr (.inr (fun _ => none))))))) q (.inr (8, (fso6.set 0 (.ref sz))))) (sz + 1) (.inl (.int, 24, .inl (fun _ => 0)))) q (.inr (8, ((fso6.set 0 (.ref sz)).set 2 (.ref (sz + 1)))))) ((sz + 1) + 1) (.inl (.int, 24, .inl (fun _ => 0)))) q (.inr (8, (((fso6.set 0 (.ref sz)).set 2 (.ref (sz + 1))).set 3 (.ref ((sz + 1) + 1)))))) (((sz + 1) + 1) + 1) (.inl (.int, 24, .inl (fun _ => 0)))) q (.inr (8, ((((fso6.set 0 (.ref sz)).set 2 (.ref (sz + 1))).set 3 (.ref ((sz + 1) + 1))).set 4 (.ref (((sz + 1) + 1) + 1)))))) q (.inr (8, (((((fso6.set 0 (.ref sz)).set 2 (.ref (sz + 1))).set 3 (.ref ((sz + 1) + 1))).set 4 (.ref (((sz + 1) + 1) + 1))).set 1 (.int (0 : Int32))))))) i80_39 rfl (gm_put_of w52 l57 hNq (gm_fit_i _)) ?_
  have g58 : (((((fso6.set 0 (.ref sz)).set 2 (.ref (sz + 1))).set 3 (.ref ((sz + 1) + 1))).set 4 (.ref (((sz + 1) + 1) + 1))).set 1 (.int (0 : Int32)))[0]? = some (.ref sz) := (gm_fs_ne (by decide)).trans g47
  have g59 : (((((fso6.set 0 (.ref sz)).set 2 (.ref (sz + 1))).set 3 (.ref ((sz + 1) + 1))).set 4 (.ref (((sz + 1) + 1) + 1))).set 1 (.int (0 : Int32)))[2]? = some (.ref (sz + 1)) := (gm_fs_ne (by decide)).trans g48
  have g60 : (((((fso6.set 0 (.ref sz)).set 2 (.ref (sz + 1))).set 3 (.ref ((sz + 1) + 1))).set 4 (.ref (((sz + 1) + 1) + 1))).set 1 (.int (0 : Int32)))[3]? = some (.ref ((sz + 1) + 1)) := (gm_fs_ne (by decide)).trans g49
  have g61 : (((((fso6.set 0 (.ref sz)).set 2 (.ref (sz + 1))).set 3 (.ref ((sz + 1) + 1))).set 4 (.ref (((sz + 1) + 1) + 1))).set 1 (.int (0 : Int32)))[4]? = some (.ref (((sz + 1) + 1) + 1)) := (gm_fs_ne (by decide)).trans g50
  have g62 : (((((fso6.set 0 (.ref sz)).set 2 (.ref (sz + 1))).set 3 (.ref ((sz + 1) + 1))).set 4 (.ref (((sz + 1) + 1) + 1))).set 1 (.int (0 : Int32)))[1]? = some (.int (0 : Int32)) := gm_fs_eq l57
  have bd63 : gm_bd (gm_set (gm_set (gm_new (gm_set (gm_new (gm_set (gm_new (gm_set (gm_new M sz (.inl (.object "RuleArena$Rule", 24, .inr (.inr (.inr (.inr (fun _ => none))))))) q (.inr (8, (fso6.set 0 (.ref sz))))) (sz + 1) (.inl (.int, 24, .inl (fun _ => 0)))) q (.inr (8, ((fso6.set 0 (.ref sz)).set 2 (.ref (sz + 1)))))) ((sz + 1) + 1) (.inl (.int, 24, .inl (fun _ => 0)))) q (.inr (8, (((fso6.set 0 (.ref sz)).set 2 (.ref (sz + 1))).set 3 (.ref ((sz + 1) + 1)))))) (((sz + 1) + 1) + 1) (.inl (.int, 24, .inl (fun _ => 0)))) q (.inr (8, ((((fso6.set 0 (.ref sz)).set 2 (.ref (sz + 1))).set 3 (.ref ((sz + 1) + 1))).set 4 (.ref (((sz + 1) + 1) + 1)))))) q (.inr (8, (((((fso6.set 0 (.ref sz)).set 2 (.ref (sz + 1))).set 3 (.ref ((sz + 1) + 1))).set 4 (.ref (((sz + 1) + 1) + 1))).set 1 (.int (0 : Int32)))))) ((((sz + 1) + 1) + 1) + 1) := gm_bd.set bd51 w52
  have w64 : (gm_set (gm_set (gm_new (gm_set (gm_new (gm_set (gm_new (gm_set (gm_new M sz (.inl (.object "RuleArena$Rule", 24, .inr (.inr (.inr (.inr (fun _ => none))))))) q (.inr (8, (fso6.set 0 (.ref sz))))) (sz + 1) (.inl (.int, 24, .inl (fun _ => 0)))) q (.inr (8, ((fso6.set 0 (.ref sz)).set 2 (.ref (sz + 1)))))) ((sz + 1) + 1) (.inl (.int, 24, .inl (fun _ => 0)))) q (.inr (8, (((fso6.set 0 (.ref sz)).set 2 (.ref (sz + 1))).set 3 (.ref ((sz + 1) + 1)))))) (((sz + 1) + 1) + 1) (.inl (.int, 24, .inl (fun _ => 0)))) q (.inr (8, ((((fso6.set 0 (.ref sz)).set 2 (.ref (sz + 1))).set 3 (.ref ((sz + 1) + 1))).set 4 (.ref (((sz + 1) + 1) + 1)))))) q (.inr (8, (((((fso6.set 0 (.ref sz)).set 2 (.ref (sz + 1))).set 3 (.ref ((sz + 1) + 1))).set 4 (.ref (((sz + 1) + 1) + 1))).set 1 (.int (0 : Int32)))))) q = some (.inr (8, (((((fso6.set 0 (.ref sz)).set 2 (.ref (sz + 1))).set 3 (.ref ((sz + 1) + 1))).set 4 (.ref (((sz + 1) + 1) + 1))).set 1 (.int (0 : Int32))))) := gm_set_eq
  have w65 : (gm_set (gm_set (gm_new (gm_set (gm_new (gm_set (gm_new (gm_set (gm_new M sz (.inl (.object "RuleArena$Rule", 24, .inr (.inr (.inr (.inr (fun _ => none))))))) q (.inr (8, (fso6.set 0 (.ref sz))))) (sz + 1) (.inl (.int, 24, .inl (fun _ => 0)))) q (.inr (8, ((fso6.set 0 (.ref sz)).set 2 (.ref (sz + 1)))))) ((sz + 1) + 1) (.inl (.int, 24, .inl (fun _ => 0)))) q (.inr (8, (((fso6.set 0 (.ref sz)).set 2 (.ref (sz + 1))).set 3 (.ref ((sz + 1) + 1)))))) (((sz + 1) + 1) + 1) (.inl (.int, 24, .inl (fun _ => 0)))) q (.inr (8, ((((fso6.set 0 (.ref sz)).set 2 (.ref (sz + 1))).set 3 (.ref ((sz + 1) + 1))).set 4 (.ref (((sz + 1) + 1) + 1)))))) q (.inr (8, (((((fso6.set 0 (.ref sz)).set 2 (.ref (sz + 1))).set 3 (.ref ((sz + 1) + 1))).set 4 (.ref (((sz + 1) + 1) + 1))).set 1 (.int (0 : Int32)))))) sz = some (.inl (.object "RuleArena$Rule", 24, .inr (.inr (.inr (.inr (fun _ => none)))))) := (gm_set_ne ((gm_ne_oa w52 w53).symm)).trans w53
  have w66 : (gm_set (gm_set (gm_new (gm_set (gm_new (gm_set (gm_new (gm_set (gm_new M sz (.inl (.object "RuleArena$Rule", 24, .inr (.inr (.inr (.inr (fun _ => none))))))) q (.inr (8, (fso6.set 0 (.ref sz))))) (sz + 1) (.inl (.int, 24, .inl (fun _ => 0)))) q (.inr (8, ((fso6.set 0 (.ref sz)).set 2 (.ref (sz + 1)))))) ((sz + 1) + 1) (.inl (.int, 24, .inl (fun _ => 0)))) q (.inr (8, (((fso6.set 0 (.ref sz)).set 2 (.ref (sz + 1))).set 3 (.ref ((sz + 1) + 1)))))) (((sz + 1) + 1) + 1) (.inl (.int, 24, .inl (fun _ => 0)))) q (.inr (8, ((((fso6.set 0 (.ref sz)).set 2 (.ref (sz + 1))).set 3 (.ref ((sz + 1) + 1))).set 4 (.ref (((sz + 1) + 1) + 1)))))) q (.inr (8, (((((fso6.set 0 (.ref sz)).set 2 (.ref (sz + 1))).set 3 (.ref ((sz + 1) + 1))).set 4 (.ref (((sz + 1) + 1) + 1))).set 1 (.int (0 : Int32)))))) (sz + 1) = some (.inl (.int, 24, .inl (fun _ => 0))) := (gm_set_ne ((gm_ne_oa w52 w54).symm)).trans w54
  have w67 : (gm_set (gm_set (gm_new (gm_set (gm_new (gm_set (gm_new (gm_set (gm_new M sz (.inl (.object "RuleArena$Rule", 24, .inr (.inr (.inr (.inr (fun _ => none))))))) q (.inr (8, (fso6.set 0 (.ref sz))))) (sz + 1) (.inl (.int, 24, .inl (fun _ => 0)))) q (.inr (8, ((fso6.set 0 (.ref sz)).set 2 (.ref (sz + 1)))))) ((sz + 1) + 1) (.inl (.int, 24, .inl (fun _ => 0)))) q (.inr (8, (((fso6.set 0 (.ref sz)).set 2 (.ref (sz + 1))).set 3 (.ref ((sz + 1) + 1)))))) (((sz + 1) + 1) + 1) (.inl (.int, 24, .inl (fun _ => 0)))) q (.inr (8, ((((fso6.set 0 (.ref sz)).set 2 (.ref (sz + 1))).set 3 (.ref ((sz + 1) + 1))).set 4 (.ref (((sz + 1) + 1) + 1)))))) q (.inr (8, (((((fso6.set 0 (.ref sz)).set 2 (.ref (sz + 1))).set 3 (.ref ((sz + 1) + 1))).set 4 (.ref (((sz + 1) + 1) + 1))).set 1 (.int (0 : Int32)))))) ((sz + 1) + 1) = some (.inl (.int, 24, .inl (fun _ => 0))) := (gm_set_ne ((gm_ne_oa w52 w55).symm)).trans w55
  have w68 : (gm_set (gm_set (gm_new (gm_set (gm_new (gm_set (gm_new (gm_set (gm_new M sz (.inl (.object "RuleArena$Rule", 24, .inr (.inr (.inr (.inr (fun _ => none))))))) q (.inr (8, (fso6.set 0 (.ref sz))))) (sz + 1) (.inl (.int, 24, .inl (fun _ => 0)))) q (.inr (8, ((fso6.set 0 (.ref sz)).set 2 (.ref (sz + 1)))))) ((sz + 1) + 1) (.inl (.int, 24, .inl (fun _ => 0)))) q (.inr (8, (((fso6.set 0 (.ref sz)).set 2 (.ref (sz + 1))).set 3 (.ref ((sz + 1) + 1)))))) (((sz + 1) + 1) + 1) (.inl (.int, 24, .inl (fun _ => 0)))) q (.inr (8, ((((fso6.set 0 (.ref sz)).set 2 (.ref (sz + 1))).set 3 (.ref ((sz + 1) + 1))).set 4 (.ref (((sz + 1) + 1) + 1)))))) q (.inr (8, (((((fso6.set 0 (.ref sz)).set 2 (.ref (sz + 1))).set 3 (.ref ((sz + 1) + 1))).set 4 (.ref (((sz + 1) + 1) + 1))).set 1 (.int (0 : Int32)))))) (((sz + 1) + 1) + 1) = some (.inl (.int, 24, .inl (fun _ => 0))) := (gm_set_ne ((gm_ne_oa w52 w56).symm)).trans w56
  exact gm_ev.vret i80_42 rfl
theorem c_X8_append_0_t {N0 : Nat} {K : Nat → Nat} {d : Nat} {M : gm_H} {sz sl : Nat} {q : Nat} {p0 : Nat} {fso1 : List Value} {x2 : Int32} (ho1 : M q = some (.inr (8, fso1))) (f3 : fso1[1]? = some (.int x2)) (c4 : (24 : Int32) ≤ x2) : gm_ev N0 K ra_nm (ra_mt K) d none (gm_I cX8_append) (gm_lkf (lkX8 false K)) 0 [some (.ref q), some (.ref p0)] [] M sz sl (.returned none, M, sz, sl) := by
  refine gm_ev.aload_n i81_0 rfl ?_
  refine gm_ev.getfield (v := .int x2) i81_1 rfl (gm_fld_of ho1 f3) ?_
  refine gm_ev.bipush (v := 24) i81_4 (by decide) ?_
  refine gm_ev.icmp_ge_t (tgt := 29) i81_6 (by decide) c4 ?_
  exact gm_ev.vret i81_29 rfl
theorem c_X8_append_0_f {N0 : Nat} {K : Nat → Nat} {d : Nat} {M : gm_H} {sz sl : Nat} {q : Nat} {p0 : Nat} {fso1 : List Value} {x2 : Int32} {r5 : Nat} {na7 : Nat} {fa7 : Nat → Option Nat} {k8 : Nat} {fso9 : List Value} (ho1 : M q = some (.inr (8, fso1))) (f3 : fso1[1]? = some (.int x2)) (c4 : ¬ (24 : Int32) ≤ x2) (f6 : fso1[0]? = some (.ref r5)) (ha7 : M r5 = some (.inl (.object "RuleArena$Rule", na7, .inr (.inr (.inr (.inr fa7)))))) (ba7 : na7 < 2 ^ 31) (hNr5 : N0 ≤ r5) (ek8 : x2 = nI k8) (lk8 : k8 < na7) (ho9 : M p0 = some (.inr (7, fso9))) (hNq : N0 ≤ q) : gm_ev N0 K ra_nm (ra_mt K) d none (gm_I cX8_append) (gm_lkf (lkX8 false K)) 0 [some (.ref q), some (.ref p0)] [] M sz sl (.returned none, (gm_set (gm_set M r5 (.inl (.object "RuleArena$Rule", na7, .inr (.inr (.inr (.inr (va_up fa7 k8 (some p0)))))))) q (.inr (8, (fso1.set 1 (.int (x2 + (1 : Int32))))))), sz, sl) := by
  refine gm_ev.aload_n i81_0 rfl ?_
  refine gm_ev.getfield (v := .int x2) i81_1 rfl (gm_fld_of ho1 f3) ?_
  refine gm_ev.bipush (v := 24) i81_4 (by decide) ?_
  refine gm_ev.icmp_ge_f i81_6 c4 ?_
  refine gm_ev.aload_n i81_9 rfl ?_
  refine gm_ev.getfield (v := .ref r5) i81_10 rfl (gm_fld_of ho1 f6) ?_
  refine gm_ev.aload_n i81_13 rfl ?_
  refine gm_ev.getfield (v := .int x2) i81_14 rfl (gm_fld_of ho1 f3) ?_
  refine gm_ev.aload_n i81_17 rfl ?_
  refine gm_ev.aastore (M' := (gm_set M r5 (.inl (.object "RuleArena$Rule", na7, .inr (.inr (.inr (.inr (va_up fa7 k8 (some p0))))))))) i81_18 (gm_astq_of ha7 ek8 lk8 ba7 hNr5 ho9 rfl) ?_
  have w10 : (gm_set M r5 (.inl (.object "RuleArena$Rule", na7, .inr (.inr (.inr (.inr (va_up fa7 k8 (some p0)))))))) q = some (.inr (8, fso1)) := (gm_set_ne (gm_ne_oa ho1 ha7)).trans ho1
  have w11 : (gm_set M r5 (.inl (.object "RuleArena$Rule", na7, .inr (.inr (.inr (.inr (va_up fa7 k8 (some p0)))))))) p0 = some (.inr (7, fso9)) := (gm_set_ne (gm_ne_oa ho9 ha7)).trans ho9
  have w12 : (gm_set M r5 (.inl (.object "RuleArena$Rule", na7, .inr (.inr (.inr (.inr (va_up fa7 k8 (some p0)))))))) r5 = some (.inl (.object "RuleArena$Rule", na7, .inr (.inr (.inr (.inr (va_up fa7 k8 (some p0))))))) := gm_set_eq
  refine gm_ev.aload_n i81_19 rfl ?_
  refine gm_ev.dup i81_20 rfl ?_
  refine gm_ev.getfield (v := .int x2) i81_21 rfl (gm_fld_of w10 f3) ?_
  refine gm_ev.iconst (v := 1) i81_24 (by decide) ?_
  refine gm_ev.iadd i81_25 ?_
  refine gm_ev.putfield (M' := (gm_set (gm_set M r5 (.inl (.object "RuleArena$Rule", na7, .inr (.inr (.inr (.inr (va_up fa7 k8 (some p0)))))))) q (.inr (8, (fso1.set 1 (.int (x2 + (1 : Int32)))))))) i81_26 rfl (gm_put_of w10 (gm_lt f3) hNq (gm_fit_i _)) ?_
  have g13 : (fso1.set 1 (.int (x2 + (1 : Int32))))[0]? = some (.ref r5) := (gm_fs_ne (by decide)).trans f6
  have g14 : (fso1.set 1 (.int (x2 + (1 : Int32))))[1]? = some (.int (x2 + (1 : Int32))) := gm_fs_eq (gm_lt f3)
  have w15 : (gm_set (gm_set M r5 (.inl (.object "RuleArena$Rule", na7, .inr (.inr (.inr (.inr (va_up fa7 k8 (some p0)))))))) q (.inr (8, (fso1.set 1 (.int (x2 + (1 : Int32))))))) q = some (.inr (8, (fso1.set 1 (.int (x2 + (1 : Int32)))))) := gm_set_eq
  have w16 : (gm_set (gm_set M r5 (.inl (.object "RuleArena$Rule", na7, .inr (.inr (.inr (.inr (va_up fa7 k8 (some p0)))))))) q (.inr (8, (fso1.set 1 (.int (x2 + (1 : Int32))))))) p0 = some (.inr (7, fso9)) := (gm_set_ne (gm_ne_oo w11 w10 (by decide))).trans w11
  have w17 : (gm_set (gm_set M r5 (.inl (.object "RuleArena$Rule", na7, .inr (.inr (.inr (.inr (va_up fa7 k8 (some p0)))))))) q (.inr (8, (fso1.set 1 (.int (x2 + (1 : Int32))))))) r5 = some (.inl (.object "RuleArena$Rule", na7, .inr (.inr (.inr (.inr (va_up fa7 k8 (some p0))))))) := (gm_set_ne ((gm_ne_oa w10 w12).symm)).trans w12
  exact gm_ev.vret i81_29 rfl
theorem c_X8_trace_0__at2 {N0 : Nat} {K : Nat → Nat} {d : Nat} {M : gm_H} {sz sl : Nat} {R : gm_R} {q : Nat}  (k : gm_ev N0 K ra_nm (ra_mt K) d none (gm_I cX8_trace) (gm_lkf (lkX8 false K)) 2 [some (.ref q), some (.int (0 : Int32)), none, none] [] M sz sl R) : gm_ev N0 K ra_nm (ra_mt K) d none (gm_I cX8_trace) (gm_lkf (lkX8 false K)) 0 [some (.ref q), none, none, none] [] M sz sl R := by
  refine gm_ev.iconst (v := 0) i82_0 (by decide) ?_
  refine gm_ev.istore_n (ls' := [some (.ref q), some (.int (0 : Int32)), none, none]) i82_1 (Nat.le_of_ble_eq_true rfl) rfl ?_
  exact k
theorem c_X8_trace_2_t_at94 {N0 : Nat} {K : Nat → Nat} {d : Nat} {M : gm_H} {sz sl : Nat} {R : gm_R} {q : Nat} {u1 : Int32} {fso1 : List Value} {x2 : Int32} (ho1 : M q = some (.inr (8, fso1))) (f3 : fso1[1]? = some (.int x2)) (c4 : x2 ≤ u1) (k : gm_ev N0 K ra_nm (ra_mt K) d none (gm_I cX8_trace) (gm_lkf (lkX8 false K)) 94 [some (.ref q), some (.int (0 : Int32)), none, none] [] M sz sl R) : gm_ev N0 K ra_nm (ra_mt K) d none (gm_I cX8_trace) (gm_lkf (lkX8 false K)) 2 [some (.ref q), some (.int u1), none, none] [] M sz sl R := by
  refine gm_ev.iload_n i82_2 rfl ?_
  refine gm_ev.aload_n i82_3 rfl ?_
  refine gm_ev.getfield (v := .int x2) i82_4 rfl (gm_fld_of ho1 f3) ?_
  refine gm_ev.icmp_ge_t (tgt := 92) i82_7 (by decide) c4 ?_
  refine gm_ev.iconst (v := 0) i82_92 (by decide) ?_
  refine gm_ev.istore_n (ls' := [some (.ref q), some (.int (0 : Int32)), none, none]) i82_93 (Nat.le_of_ble_eq_true rfl) rfl ?_
  exact k
theorem c_X8_trace_2_f_at23 {N0 : Nat} {K : Nat → Nat} {d : Nat} {M : gm_H} {sz sl : Nat} {R : gm_R} {q : Nat} {u1 : Int32} {fso1 : List Value} {x2 : Int32} {r5 : Nat} {na7 : Nat} {fa7 : Nat → Option Nat} {k8 : Nat} {r9 : Nat} {r10 : Int32} {M12 : gm_H} {sz13 : Nat} {dd14 : Nat} (ho1 : M q = some (.inr (8, fso1))) (f3 : fso1[1]? = some (.int x2)) (c4 : ¬ x2 ≤ u1) (f6 : fso1[0]? = some (.ref r5)) (ha7 : M r5 = some (.inl (.object "RuleArena$Rule", na7, .inr (.inr (.inr (.inr fa7)))))) (ba7 : na7 < 2 ^ 31) (ek8 : u1 = nI k8) (lk8 : k8 < na7) (qk8 : fa7 k8 = some r9) (t11 : gm_to N0 K ra_nm (ra_mt K) d 83 [.ref q, .ref r9] M sz (.returned (some (.int r10)), M12, sz13, dd14)) (k : gm_ev N0 K ra_nm (ra_mt K) d none (gm_I cX8_trace) (gm_lkf (lkX8 false K)) 23 [some (.ref q), some (.int u1), some (.int r10), some (.int (0 : Int32))] [] M12 sz13 (sl + dd14) R) : gm_ev N0 K ra_nm (ra_mt K) d none (gm_I cX8_trace) (gm_lkf (lkX8 false K)) 2 [some (.ref q), some (.int u1), none, none] [] M sz sl R := by
  refine gm_ev.iload_n i82_2 rfl ?_
  refine gm_ev.aload_n i82_3 rfl ?_
  refine gm_ev.getfield (v := .int x2) i82_4 rfl (gm_fld_of ho1 f3) ?_
  refine gm_ev.icmp_ge_f i82_7 c4 ?_
  refine gm_ev.aload_n i82_10 rfl ?_
  refine gm_ev.aload_n i82_11 rfl ?_
  refine gm_ev.getfield (v := .ref r5) i82_12 rfl (gm_fld_of ho1 f6) ?_
  refine gm_ev.iload_n i82_15 rfl ?_
  refine gm_ev.aaload (x := some r9) i82_16 (gm_aq_of ha7 ek8 lk8 ba7 qk8) ?_
  refine gm_ev.callV gm_mono_run (av := [.ref r9]) (r := []) (fs := fso1) ho1 i82_17 rfl rfl rfl (Nat.le_of_ble_eq_true rfl) t11 ?_
  refine gm_ev.istore_n (ls' := [some (.ref q), some (.int u1), some (.int r10), none]) i82_20 (Nat.le_of_ble_eq_true rfl) rfl ?_
  refine gm_ev.iconst (v := 0) i82_21 (by decide) ?_
  refine gm_ev.istore_n (ls' := [some (.ref q), some (.int u1), some (.int r10), some (.int (0 : Int32))]) i82_22 (Nat.le_of_ble_eq_true rfl) rfl ?_
  exact k
theorem c_X8_trace_94_t_at154 {N0 : Nat} {K : Nat → Nat} {d : Nat} {M : gm_H} {sz sl : Nat} {R : gm_R} {q : Nat} {u1 : Int32} {fso1 : List Value} {x2 : Int32} (ho1 : M q = some (.inr (8, fso1))) (f3 : fso1[1]? = some (.int x2)) (c4 : x2 ≤ u1) (k : gm_ev N0 K ra_nm (ra_mt K) d none (gm_I cX8_trace) (gm_lkf (lkX8 false K)) 154 [some (.ref q), some (.int (0 : Int32)), none, none] [] M sz sl R) : gm_ev N0 K ra_nm (ra_mt K) d none (gm_I cX8_trace) (gm_lkf (lkX8 false K)) 94 [some (.ref q), some (.int u1), none, none] [] M sz sl R := by
  refine gm_ev.iload_n i82_94 rfl ?_
  refine gm_ev.aload_n i82_95 rfl ?_
  refine gm_ev.getfield (v := .int x2) i82_96 rfl (gm_fld_of ho1 f3) ?_
  refine gm_ev.icmp_ge_t (tgt := 152) i82_99 (by decide) c4 ?_
  refine gm_ev.iconst (v := 0) i82_152 (by decide) ?_
  refine gm_ev.istore_n (ls' := [some (.ref q), some (.int (0 : Int32)), none, none]) i82_153 (Nat.le_of_ble_eq_true rfl) rfl ?_
  exact k
theorem c_X8_trace_94_f_at104 {N0 : Nat} {K : Nat → Nat} {d : Nat} {M : gm_H} {sz sl : Nat} {R : gm_R} {q : Nat} {u1 : Int32} {fso1 : List Value} {x2 : Int32} (ho1 : M q = some (.inr (8, fso1))) (f3 : fso1[1]? = some (.int x2)) (c4 : ¬ x2 ≤ u1) (k : gm_ev N0 K ra_nm (ra_mt K) d none (gm_I cX8_trace) (gm_lkf (lkX8 false K)) 104 [some (.ref q), some (.int u1), some (.int (0 : Int32)), none] [] M sz sl R) : gm_ev N0 K ra_nm (ra_mt K) d none (gm_I cX8_trace) (gm_lkf (lkX8 false K)) 94 [some (.ref q), some (.int u1), none, none] [] M sz sl R := by
  refine gm_ev.iload_n i82_94 rfl ?_
  refine gm_ev.aload_n i82_95 rfl ?_
  refine gm_ev.getfield (v := .int x2) i82_96 rfl (gm_fld_of ho1 f3) ?_
  refine gm_ev.icmp_ge_f i82_99 c4 ?_
  refine gm_ev.iconst (v := 0) i82_102 (by decide) ?_
  refine gm_ev.istore_n (ls' := [some (.ref q), some (.int u1), some (.int (0 : Int32)), none]) i82_103 (Nat.le_of_ble_eq_true rfl) rfl ?_
  exact k
theorem c_X8_trace_23_t_at2 {N0 : Nat} {K : Nat → Nat} {d : Nat} {M : gm_H} {sz sl : Nat} {R : gm_R} {q : Nat} {u1 : Int32} {u2 : Int32} {u3 : Int32} {fso1 : List Value} {x2 : Int32} (ho1 : M q = some (.inr (8, fso1))) (f3 : fso1[1]? = some (.int x2)) (c4 : x2 ≤ u3) (k : gm_ev N0 K ra_nm (ra_mt K) d none (gm_I cX8_trace) (gm_lkf (lkX8 false K)) 2 [some (.ref q), some (.int (u1 + (1 : Int32))), none, none] [] M sz sl R) : gm_ev N0 K ra_nm (ra_mt K) d none (gm_I cX8_trace) (gm_lkf (lkX8 false K)) 23 [some (.ref q), some (.int u1), some (.int u2), some (.int u3)] [] M sz sl R := by
  refine gm_ev.iload_n i82_23 rfl ?_
  refine gm_ev.aload_n i82_24 rfl ?_
  refine gm_ev.getfield (v := .int x2) i82_25 rfl (gm_fld_of ho1 f3) ?_
  refine gm_ev.icmp_ge_t (tgt := 86) i82_28 (by decide) c4 ?_
  refine gm_ev.iinc (v := u1 + (1 : Int32)) (ls' := [some (.ref q), some (.int (u1 + (1 : Int32))), some (.int u2), some (.int u3)]) i82_86 rfl (by rfl) rfl ?_
  refine gm_ev.goto (tgt := 2) i82_89 (by decide) ?_
  refine gm_ev.le (a := [some (.ref q), some (.int (u1 + (1 : Int32))), none, none]) (gm_leL.le (show gm_leL _ _ from ⟨rfl, ⟨rfl, trivial⟩⟩)) ?_
  exact k
theorem c_X8_trace_23_ft_at23 {N0 : Nat} {K : Nat → Nat} {d : Nat} {M : gm_H} {sz sl : Nat} {R : gm_R} {q : Nat} {u1 : Int32} {u2 : Int32} {u3 : Int32} {fso1 : List Value} {x2 : Int32} {r5 : Nat} {na7 : Nat} {fa7 : Nat → Option Nat} {k8 : Nat} {r9 : Nat} {fso10 : List Value} {r11 : Nat} {fso13 : List Value} {x14 : Int32} {k16 : Nat} {r17 : Nat} {fso18 : List Value} {r19 : Nat} {fso21 : List Value} {x22 : Int32} (ho1 : M q = some (.inr (8, fso1))) (f3 : fso1[1]? = some (.int x2)) (c4 : ¬ x2 ≤ u3) (f6 : fso1[0]? = some (.ref r5)) (ha7 : M r5 = some (.inl (.object "RuleArena$Rule", na7, .inr (.inr (.inr (.inr fa7)))))) (ba7 : na7 < 2 ^ 31) (ek8 : u1 = nI k8) (lk8 : k8 < na7) (qk8 : fa7 k8 = some r9) (ho10 : M r9 = some (.inr (7, fso10))) (f12 : fso10[0]? = some (.ref r11)) (ho13 : M r11 = some (.inr (5, fso13))) (f15 : fso13[1]? = some (.int x14)) (ek16 : u3 = nI k16) (lk16 : k16 < na7) (qk16 : fa7 k16 = some r17) (ho18 : M r17 = some (.inr (7, fso18))) (f20 : fso18[0]? = some (.ref r19)) (ho21 : M r19 = some (.inr (5, fso21))) (f23 : fso21[1]? = some (.int x22)) (c24 : ¬ x14 = x22) (k : gm_ev N0 K ra_nm (ra_mt K) d none (gm_I cX8_trace) (gm_lkf (lkX8 false K)) 23 [some (.ref q), some (.int u1), some (.int u2), some (.int (u3 + (1 : Int32)))] [] M sz sl R) : gm_ev N0 K ra_nm (ra_mt K) d none (gm_I cX8_trace) (gm_lkf (lkX8 false K)) 23 [some (.ref q), some (.int u1), some (.int u2), some (.int u3)] [] M sz sl R := by
  refine gm_ev.iload_n i82_23 rfl ?_
  refine gm_ev.aload_n i82_24 rfl ?_
  refine gm_ev.getfield (v := .int x2) i82_25 rfl (gm_fld_of ho1 f3) ?_
  refine gm_ev.icmp_ge_f i82_28 c4 ?_
  refine gm_ev.aload_n i82_31 rfl ?_
  refine gm_ev.getfield (v := .ref r5) i82_32 rfl (gm_fld_of ho1 f6) ?_
  refine gm_ev.iload_n i82_35 rfl ?_
  refine gm_ev.aaload (x := some r9) i82_36 (gm_aq_of ha7 ek8 lk8 ba7 qk8) ?_
  refine gm_ev.getfield (v := .ref r11) i82_37 rfl (gm_fld_of ho10 f12) ?_
  refine gm_ev.getfield (v := .int x14) i82_40 rfl (gm_fld_of ho13 f15) ?_
  refine gm_ev.aload_n i82_43 rfl ?_
  refine gm_ev.getfield (v := .ref r5) i82_44 rfl (gm_fld_of ho1 f6) ?_
  refine gm_ev.iload_n i82_47 rfl ?_
  refine gm_ev.aaload (x := some r17) i82_48 (gm_aq_of ha7 ek16 lk16 ba7 qk16) ?_
  refine gm_ev.getfield (v := .ref r19) i82_49 rfl (gm_fld_of ho18 f20) ?_
  refine gm_ev.getfield (v := .int x22) i82_52 rfl (gm_fld_of ho21 f23) ?_
  refine gm_ev.icmp_ne_t (tgt := 80) i82_55 (by decide) c24 ?_
  refine gm_ev.iinc (v := u3 + (1 : Int32)) (ls' := [some (.ref q), some (.int u1), some (.int u2), some (.int (u3 + (1 : Int32)))]) i82_80 rfl (by rfl) rfl ?_
  refine gm_ev.goto (tgt := 23) i82_83 (by decide) ?_
  exact k
theorem c_X8_trace_23_ff_at23 {N0 : Nat} {K : Nat → Nat} {d : Nat} {M : gm_H} {sz sl : Nat} {R : gm_R} {q : Nat} {u1 : Int32} {u2 : Int32} {u3 : Int32} {fso1 : List Value} {x2 : Int32} {r5 : Nat} {na7 : Nat} {fa7 : Nat → Option Nat} {k8 : Nat} {r9 : Nat} {fso10 : List Value} {r11 : Nat} {fso13 : List Value} {x14 : Int32} {k16 : Nat} {r17 : Nat} {fso18 : List Value} {r19 : Nat} {fso21 : List Value} {x22 : Int32} {r25 : Nat} {na27 : Nat} {fa27 : Nat → Int32} {k28 : Nat} {k29 : Nat} {r37 : Nat} {na39 : Nat} {fa39 : Nat → Int32} {k40 : Nat} {k41 : Nat} (ho1 : M q = some (.inr (8, fso1))) (f3 : fso1[1]? = some (.int x2)) (c4 : ¬ x2 ≤ u3) (f6 : fso1[0]? = some (.ref r5)) (ha7 : M r5 = some (.inl (.object "RuleArena$Rule", na7, .inr (.inr (.inr (.inr fa7)))))) (ba7 : na7 < 2 ^ 31) (ek8 : u1 = nI k8) (lk8 : k8 < na7) (qk8 : fa7 k8 = some r9) (ho10 : M r9 = some (.inr (7, fso10))) (f12 : fso10[0]? = some (.ref r11)) (ho13 : M r11 = some (.inr (5, fso13))) (f15 : fso13[1]? = some (.int x14)) (ek16 : u3 = nI k16) (lk16 : k16 < na7) (qk16 : fa7 k16 = some r17) (ho18 : M r17 = some (.inr (7, fso18))) (f20 : fso18[0]? = some (.ref r19)) (ho21 : M r19 = some (.inr (5, fso21))) (f23 : fso21[1]? = some (.int x22)) (c24 : x14 = x22) (f26 : fso1[2]? = some (.ref r25)) (ha27 : M r25 = some (.inl (.int, na27, .inl fa27))) (ba27 : na27 < 2 ^ 31) (ek28 : u3 = nI k28) (lk28 : k28 < na27) (hNr25 : N0 ≤ r25) (ek29 : u3 = nI k29) (lk29 : k29 < na27) (f38 : fso1[3]? = some (.ref r37)) (ha39 : (gm_set M r25 (.inl (.int, na27, .inl (upd fa27 k29 ((fa27 k28) ||| ((1 : Int32) <<< (u1 &&& 31))))))) r37 = some (.inl (.int, na39, .inl fa39))) (ba39 : na39 < 2 ^ 31) (ek40 : u3 = nI k40) (lk40 : k40 < na39) (hNr37 : N0 ≤ r37) (ek41 : u3 = nI k41) (lk41 : k41 < na39) (ne_r25_r37 : r25 ≠ r37) (k : gm_ev N0 K ra_nm (ra_mt K) d none (gm_I cX8_trace) (gm_lkf (lkX8 false K)) 23 [some (.ref q), some (.int u1), some (.int u2), some (.int (u3 + (1 : Int32)))] [] (gm_set (gm_set M r25 (.inl (.int, na27, .inl (upd fa27 k29 ((fa27 k28) ||| ((1 : Int32) <<< (u1 &&& 31))))))) r37 (.inl (.int, na39, .inl (upd fa39 k41 ((fa39 k40) ||| u2))))) sz sl R) : gm_ev N0 K ra_nm (ra_mt K) d none (gm_I cX8_trace) (gm_lkf (lkX8 false K)) 23 [some (.ref q), some (.int u1), some (.int u2), some (.int u3)] [] M sz sl R := by
  refine gm_ev.iload_n i82_23 rfl ?_
  refine gm_ev.aload_n i82_24 rfl ?_
  refine gm_ev.getfield (v := .int x2) i82_25 rfl (gm_fld_of ho1 f3) ?_
  refine gm_ev.icmp_ge_f i82_28 c4 ?_
  refine gm_ev.aload_n i82_31 rfl ?_
  refine gm_ev.getfield (v := .ref r5) i82_32 rfl (gm_fld_of ho1 f6) ?_
  refine gm_ev.iload_n i82_35 rfl ?_
  refine gm_ev.aaload (x := some r9) i82_36 (gm_aq_of ha7 ek8 lk8 ba7 qk8) ?_
  refine gm_ev.getfield (v := .ref r11) i82_37 rfl (gm_fld_of ho10 f12) ?_
  refine gm_ev.getfield (v := .int x14) i82_40 rfl (gm_fld_of ho13 f15) ?_
  refine gm_ev.aload_n i82_43 rfl ?_
  refine gm_ev.getfield (v := .ref r5) i82_44 rfl (gm_fld_of ho1 f6) ?_
  refine gm_ev.iload_n i82_47 rfl ?_
  refine gm_ev.aaload (x := some r17) i82_48 (gm_aq_of ha7 ek16 lk16 ba7 qk16) ?_
  refine gm_ev.getfield (v := .ref r19) i82_49 rfl (gm_fld_of ho18 f20) ?_
  refine gm_ev.getfield (v := .int x22) i82_52 rfl (gm_fld_of ho21 f23) ?_
  refine gm_ev.icmp_ne_f i82_55 c24 ?_
  refine gm_ev.aload_n i82_58 rfl ?_
  refine gm_ev.getfield (v := .ref r25) i82_59 rfl (gm_fld_of ho1 f26) ?_
  refine gm_ev.iload_n i82_62 rfl ?_
  refine gm_ev.dup2 i82_63 rfl rfl ?_
  refine gm_ev.iaload i82_64 (gm_ai_of ha27 ek28 lk28 ba27) ?_
  refine gm_ev.iconst (v := 1) i82_65 (by decide) ?_
  refine gm_ev.iload_n i82_66 rfl ?_
  refine gm_ev.ishl i82_67 ?_
  refine gm_ev.ior i82_68 ?_
  refine gm_ev.iastore (M' := (gm_set M r25 (.inl (.int, na27, .inl (upd fa27 k29 ((fa27 k28) ||| ((1 : Int32) <<< (u1 &&& 31)))))))) i82_69 (gm_asti_of ha27 ek29 lk29 ba27 hNr25) ?_
  have w30 : (gm_set M r25 (.inl (.int, na27, .inl (upd fa27 k29 ((fa27 k28) ||| ((1 : Int32) <<< (u1 &&& 31))))))) q = some (.inr (8, fso1)) := (gm_set_ne (gm_ne_oa ho1 ha27)).trans ho1
  have w31 : (gm_set M r25 (.inl (.int, na27, .inl (upd fa27 k29 ((fa27 k28) ||| ((1 : Int32) <<< (u1 &&& 31))))))) r9 = some (.inr (7, fso10)) := (gm_set_ne (gm_ne_oa ho10 ha27)).trans ho10
  have w32 : (gm_set M r25 (.inl (.int, na27, .inl (upd fa27 k29 ((fa27 k28) ||| ((1 : Int32) <<< (u1 &&& 31))))))) r11 = some (.inr (5, fso13)) := (gm_set_ne (gm_ne_oa ho13 ha27)).trans ho13
  have w33 : (gm_set M r25 (.inl (.int, na27, .inl (upd fa27 k29 ((fa27 k28) ||| ((1 : Int32) <<< (u1 &&& 31))))))) r17 = some (.inr (7, fso18)) := (gm_set_ne (gm_ne_oa ho18 ha27)).trans ho18
  have w34 : (gm_set M r25 (.inl (.int, na27, .inl (upd fa27 k29 ((fa27 k28) ||| ((1 : Int32) <<< (u1 &&& 31))))))) r19 = some (.inr (5, fso21)) := (gm_set_ne (gm_ne_oa ho21 ha27)).trans ho21
  have w35 : (gm_set M r25 (.inl (.int, na27, .inl (upd fa27 k29 ((fa27 k28) ||| ((1 : Int32) <<< (u1 &&& 31))))))) r5 = some (.inl (.object "RuleArena$Rule", na7, .inr (.inr (.inr (.inr fa7))))) := (gm_set_ne (gm_ne_aa ha7 ha27 (by decide))).trans ha7
  have w36 : (gm_set M r25 (.inl (.int, na27, .inl (upd fa27 k29 ((fa27 k28) ||| ((1 : Int32) <<< (u1 &&& 31))))))) r25 = some (.inl (.int, na27, .inl (upd fa27 k29 ((fa27 k28) ||| ((1 : Int32) <<< (u1 &&& 31)))))) := gm_set_eq
  refine gm_ev.aload_n i82_70 rfl ?_
  refine gm_ev.getfield (v := .ref r37) i82_71 rfl (gm_fld_of w30 f38) ?_
  refine gm_ev.iload_n i82_74 rfl ?_
  refine gm_ev.dup2 i82_75 rfl rfl ?_
  refine gm_ev.iaload i82_76 (gm_ai_of ha39 ek40 lk40 ba39) ?_
  refine gm_ev.iload_n i82_77 rfl ?_
  refine gm_ev.ior i82_78 ?_
  refine gm_ev.iastore (M' := (gm_set (gm_set M r25 (.inl (.int, na27, .inl (upd fa27 k29 ((fa27 k28) ||| ((1 : Int32) <<< (u1 &&& 31))))))) r37 (.inl (.int, na39, .inl (upd fa39 k41 ((fa39 k40) ||| u2)))))) i82_79 (gm_asti_of ha39 ek41 lk41 ba39 hNr37) ?_
  have w42 : (gm_set (gm_set M r25 (.inl (.int, na27, .inl (upd fa27 k29 ((fa27 k28) ||| ((1 : Int32) <<< (u1 &&& 31))))))) r37 (.inl (.int, na39, .inl (upd fa39 k41 ((fa39 k40) ||| u2))))) q = some (.inr (8, fso1)) := (gm_set_ne (gm_ne_oa w30 ha39)).trans w30
  have w43 : (gm_set (gm_set M r25 (.inl (.int, na27, .inl (upd fa27 k29 ((fa27 k28) ||| ((1 : Int32) <<< (u1 &&& 31))))))) r37 (.inl (.int, na39, .inl (upd fa39 k41 ((fa39 k40) ||| u2))))) r9 = some (.inr (7, fso10)) := (gm_set_ne (gm_ne_oa w31 ha39)).trans w31
  have w44 : (gm_set (gm_set M r25 (.inl (.int, na27, .inl (upd fa27 k29 ((fa27 k28) ||| ((1 : Int32) <<< (u1 &&& 31))))))) r37 (.inl (.int, na39, .inl (upd fa39 k41 ((fa39 k40) ||| u2))))) r11 = some (.inr (5, fso13)) := (gm_set_ne (gm_ne_oa w32 ha39)).trans w32
  have w45 : (gm_set (gm_set M r25 (.inl (.int, na27, .inl (upd fa27 k29 ((fa27 k28) ||| ((1 : Int32) <<< (u1 &&& 31))))))) r37 (.inl (.int, na39, .inl (upd fa39 k41 ((fa39 k40) ||| u2))))) r17 = some (.inr (7, fso18)) := (gm_set_ne (gm_ne_oa w33 ha39)).trans w33
  have w46 : (gm_set (gm_set M r25 (.inl (.int, na27, .inl (upd fa27 k29 ((fa27 k28) ||| ((1 : Int32) <<< (u1 &&& 31))))))) r37 (.inl (.int, na39, .inl (upd fa39 k41 ((fa39 k40) ||| u2))))) r19 = some (.inr (5, fso21)) := (gm_set_ne (gm_ne_oa w34 ha39)).trans w34
  have w47 : (gm_set (gm_set M r25 (.inl (.int, na27, .inl (upd fa27 k29 ((fa27 k28) ||| ((1 : Int32) <<< (u1 &&& 31))))))) r37 (.inl (.int, na39, .inl (upd fa39 k41 ((fa39 k40) ||| u2))))) r5 = some (.inl (.object "RuleArena$Rule", na7, .inr (.inr (.inr (.inr fa7))))) := (gm_set_ne (gm_ne_aa w35 ha39 (by decide))).trans w35
  have w48 : (gm_set (gm_set M r25 (.inl (.int, na27, .inl (upd fa27 k29 ((fa27 k28) ||| ((1 : Int32) <<< (u1 &&& 31))))))) r37 (.inl (.int, na39, .inl (upd fa39 k41 ((fa39 k40) ||| u2))))) r25 = some (.inl (.int, na27, .inl (upd fa27 k29 ((fa27 k28) ||| ((1 : Int32) <<< (u1 &&& 31)))))) := (gm_set_ne (ne_r25_r37)).trans w36
  have w49 : (gm_set (gm_set M r25 (.inl (.int, na27, .inl (upd fa27 k29 ((fa27 k28) ||| ((1 : Int32) <<< (u1 &&& 31))))))) r37 (.inl (.int, na39, .inl (upd fa39 k41 ((fa39 k40) ||| u2))))) r37 = some (.inl (.int, na39, .inl (upd fa39 k41 ((fa39 k40) ||| u2)))) := gm_set_eq
  refine gm_ev.iinc (v := u3 + (1 : Int32)) (ls' := [some (.ref q), some (.int u1), some (.int u2), some (.int (u3 + (1 : Int32)))]) i82_80 rfl (by rfl) rfl ?_
  refine gm_ev.goto (tgt := 23) i82_83 (by decide) ?_
  exact k
theorem c_X8_trace_154_t {N0 : Nat} {K : Nat → Nat} {d : Nat} {M : gm_H} {sz sl : Nat} {q : Nat} {u1 : Int32} {fso1 : List Value} {x2 : Int32} (ho1 : M q = some (.inr (8, fso1))) (f3 : fso1[1]? = some (.int x2)) (c4 : x2 ≤ u1) : gm_ev N0 K ra_nm (ra_mt K) d none (gm_I cX8_trace) (gm_lkf (lkX8 false K)) 154 [some (.ref q), some (.int u1), none, none] [] M sz sl (.returned none, M, sz, sl) := by
  refine gm_ev.iload_n i82_154 rfl ?_
  refine gm_ev.aload_n i82_155 rfl ?_
  refine gm_ev.getfield (v := .int x2) i82_156 rfl (gm_fld_of ho1 f3) ?_
  refine gm_ev.icmp_ge_t (tgt := 222) i82_159 (by decide) c4 ?_
  exact gm_ev.vret i82_222 rfl
theorem c_X8_trace_154_f_at164 {N0 : Nat} {K : Nat → Nat} {d : Nat} {M : gm_H} {sz sl : Nat} {R : gm_R} {q : Nat} {u1 : Int32} {fso1 : List Value} {x2 : Int32} (ho1 : M q = some (.inr (8, fso1))) (f3 : fso1[1]? = some (.int x2)) (c4 : ¬ x2 ≤ u1) (k : gm_ev N0 K ra_nm (ra_mt K) d none (gm_I cX8_trace) (gm_lkf (lkX8 false K)) 164 [some (.ref q), some (.int u1), some (.int (0 : Int32)), none] [] M sz sl R) : gm_ev N0 K ra_nm (ra_mt K) d none (gm_I cX8_trace) (gm_lkf (lkX8 false K)) 154 [some (.ref q), some (.int u1), none, none] [] M sz sl R := by
  refine gm_ev.iload_n i82_154 rfl ?_
  refine gm_ev.aload_n i82_155 rfl ?_
  refine gm_ev.getfield (v := .int x2) i82_156 rfl (gm_fld_of ho1 f3) ?_
  refine gm_ev.icmp_ge_f i82_159 c4 ?_
  refine gm_ev.iconst (v := 0) i82_162 (by decide) ?_
  refine gm_ev.istore_n (ls' := [some (.ref q), some (.int u1), some (.int (0 : Int32)), none]) i82_163 (Nat.le_of_ble_eq_true rfl) rfl ?_
  exact k
theorem c_X8_trace_104_t_at94 {N0 : Nat} {K : Nat → Nat} {d : Nat} {M : gm_H} {sz sl : Nat} {R : gm_R} {q : Nat} {u1 : Int32} {u2 : Int32} {fso1 : List Value} {x2 : Int32} (ho1 : M q = some (.inr (8, fso1))) (f3 : fso1[1]? = some (.int x2)) (c4 : x2 ≤ u2) (k : gm_ev N0 K ra_nm (ra_mt K) d none (gm_I cX8_trace) (gm_lkf (lkX8 false K)) 94 [some (.ref q), some (.int (u1 + (1 : Int32))), none, none] [] M sz sl R) : gm_ev N0 K ra_nm (ra_mt K) d none (gm_I cX8_trace) (gm_lkf (lkX8 false K)) 104 [some (.ref q), some (.int u1), some (.int u2), none] [] M sz sl R := by
  refine gm_ev.iload_n i82_104 rfl ?_
  refine gm_ev.aload_n i82_105 rfl ?_
  refine gm_ev.getfield (v := .int x2) i82_106 rfl (gm_fld_of ho1 f3) ?_
  refine gm_ev.icmp_ge_t (tgt := 146) i82_109 (by decide) c4 ?_
  refine gm_ev.iinc (v := u1 + (1 : Int32)) (ls' := [some (.ref q), some (.int (u1 + (1 : Int32))), some (.int u2), none]) i82_146 rfl (by rfl) rfl ?_
  refine gm_ev.goto (tgt := 94) i82_149 (by decide) ?_
  refine gm_ev.le (a := [some (.ref q), some (.int (u1 + (1 : Int32))), none, none]) (gm_leL.le (show gm_leL _ _ from ⟨rfl, ⟨rfl, trivial⟩⟩)) ?_
  exact k
theorem c_X8_trace_104_ft_at104 {N0 : Nat} {K : Nat → Nat} {d : Nat} {M : gm_H} {sz sl : Nat} {R : gm_R} {q : Nat} {u1 : Int32} {u2 : Int32} {fso1 : List Value} {x2 : Int32} {r5 : Nat} {na7 : Nat} {fa7 : Nat → Int32} {k8 : Nat} (ho1 : M q = some (.inr (8, fso1))) (f3 : fso1[1]? = some (.int x2)) (c4 : ¬ x2 ≤ u2) (f6 : fso1[3]? = some (.ref r5)) (ha7 : M r5 = some (.inl (.int, na7, .inl fa7))) (ba7 : na7 < 2 ^ 31) (ek8 : u2 = nI k8) (lk8 : k8 < na7) (c9 : (((((fa7 k8)).toUInt32 >>> ((u1).toUInt32 &&& Int32.toUInt32 31)).toInt32) &&& (1 : Int32)) = 0) (k : gm_ev N0 K ra_nm (ra_mt K) d none (gm_I cX8_trace) (gm_lkf (lkX8 false K)) 104 [some (.ref q), some (.int u1), some (.int (u2 + (1 : Int32))), none] [] M sz sl R) : gm_ev N0 K ra_nm (ra_mt K) d none (gm_I cX8_trace) (gm_lkf (lkX8 false K)) 104 [some (.ref q), some (.int u1), some (.int u2), none] [] M sz sl R := by
  refine gm_ev.iload_n i82_104 rfl ?_
  refine gm_ev.aload_n i82_105 rfl ?_
  refine gm_ev.getfield (v := .int x2) i82_106 rfl (gm_fld_of ho1 f3) ?_
  refine gm_ev.icmp_ge_f i82_109 c4 ?_
  refine gm_ev.aload_n i82_112 rfl ?_
  refine gm_ev.getfield (v := .ref r5) i82_113 rfl (gm_fld_of ho1 f6) ?_
  refine gm_ev.iload_n i82_116 rfl ?_
  refine gm_ev.iaload i82_117 (gm_ai_of ha7 ek8 lk8 ba7) ?_
  refine gm_ev.iload_n i82_118 rfl ?_
  refine gm_ev.iushr i82_119 ?_
  refine gm_ev.iconst (v := 1) i82_120 (by decide) ?_
  refine gm_ev.iand i82_121 ?_
  refine gm_ev.if_eq_t (tgt := 140) i82_122 (by decide) c9 ?_
  refine gm_ev.iinc (v := u2 + (1 : Int32)) (ls' := [some (.ref q), some (.int u1), some (.int (u2 + (1 : Int32))), none]) i82_140 rfl (by rfl) rfl ?_
  refine gm_ev.goto (tgt := 104) i82_143 (by decide) ?_
  exact k
theorem c_X8_trace_104_ff_at104 {N0 : Nat} {K : Nat → Nat} {d : Nat} {M : gm_H} {sz sl : Nat} {R : gm_R} {q : Nat} {u1 : Int32} {u2 : Int32} {fso1 : List Value} {x2 : Int32} {r5 : Nat} {na7 : Nat} {fa7 : Nat → Int32} {k8 : Nat} {k10 : Nat} {k11 : Nat} {k12 : Nat} (ho1 : M q = some (.inr (8, fso1))) (f3 : fso1[1]? = some (.int x2)) (c4 : ¬ x2 ≤ u2) (f6 : fso1[3]? = some (.ref r5)) (ha7 : M r5 = some (.inl (.int, na7, .inl fa7))) (ba7 : na7 < 2 ^ 31) (ek8 : u2 = nI k8) (lk8 : k8 < na7) (c9 : ¬ (((((fa7 k8)).toUInt32 >>> ((u1).toUInt32 &&& Int32.toUInt32 31)).toInt32) &&& (1 : Int32)) = 0) (ek10 : u2 = nI k10) (lk10 : k10 < na7) (ek11 : u1 = nI k11) (lk11 : k11 < na7) (hNr5 : N0 ≤ r5) (ek12 : u2 = nI k12) (lk12 : k12 < na7) (k : gm_ev N0 K ra_nm (ra_mt K) d none (gm_I cX8_trace) (gm_lkf (lkX8 false K)) 104 [some (.ref q), some (.int u1), some (.int (u2 + (1 : Int32))), none] [] (gm_set M r5 (.inl (.int, na7, .inl (upd fa7 k12 ((fa7 k10) ||| (fa7 k11)))))) sz sl R) : gm_ev N0 K ra_nm (ra_mt K) d none (gm_I cX8_trace) (gm_lkf (lkX8 false K)) 104 [some (.ref q), some (.int u1), some (.int u2), none] [] M sz sl R := by
  refine gm_ev.iload_n i82_104 rfl ?_
  refine gm_ev.aload_n i82_105 rfl ?_
  refine gm_ev.getfield (v := .int x2) i82_106 rfl (gm_fld_of ho1 f3) ?_
  refine gm_ev.icmp_ge_f i82_109 c4 ?_
  refine gm_ev.aload_n i82_112 rfl ?_
  refine gm_ev.getfield (v := .ref r5) i82_113 rfl (gm_fld_of ho1 f6) ?_
  refine gm_ev.iload_n i82_116 rfl ?_
  refine gm_ev.iaload i82_117 (gm_ai_of ha7 ek8 lk8 ba7) ?_
  refine gm_ev.iload_n i82_118 rfl ?_
  refine gm_ev.iushr i82_119 ?_
  refine gm_ev.iconst (v := 1) i82_120 (by decide) ?_
  refine gm_ev.iand i82_121 ?_
  refine gm_ev.if_eq_f i82_122 c9 ?_
  refine gm_ev.aload_n i82_125 rfl ?_
  refine gm_ev.getfield (v := .ref r5) i82_126 rfl (gm_fld_of ho1 f6) ?_
  refine gm_ev.iload_n i82_129 rfl ?_
  refine gm_ev.dup2 i82_130 rfl rfl ?_
  refine gm_ev.iaload i82_131 (gm_ai_of ha7 ek10 lk10 ba7) ?_
  refine gm_ev.aload_n i82_132 rfl ?_
  refine gm_ev.getfield (v := .ref r5) i82_133 rfl (gm_fld_of ho1 f6) ?_
  refine gm_ev.iload_n i82_136 rfl ?_
  refine gm_ev.iaload i82_137 (gm_ai_of ha7 ek11 lk11 ba7) ?_
  refine gm_ev.ior i82_138 ?_
  refine gm_ev.iastore (M' := (gm_set M r5 (.inl (.int, na7, .inl (upd fa7 k12 ((fa7 k10) ||| (fa7 k11))))))) i82_139 (gm_asti_of ha7 ek12 lk12 ba7 hNr5) ?_
  have w13 : (gm_set M r5 (.inl (.int, na7, .inl (upd fa7 k12 ((fa7 k10) ||| (fa7 k11)))))) q = some (.inr (8, fso1)) := (gm_set_ne (gm_ne_oa ho1 ha7)).trans ho1
  have w14 : (gm_set M r5 (.inl (.int, na7, .inl (upd fa7 k12 ((fa7 k10) ||| (fa7 k11)))))) r5 = some (.inl (.int, na7, .inl (upd fa7 k12 ((fa7 k10) ||| (fa7 k11))))) := gm_set_eq
  refine gm_ev.iinc (v := u2 + (1 : Int32)) (ls' := [some (.ref q), some (.int u1), some (.int (u2 + (1 : Int32))), none]) i82_140 rfl (by rfl) rfl ?_
  refine gm_ev.goto (tgt := 104) i82_143 (by decide) ?_
  exact k
theorem c_X8_trace_164_t_at154 {N0 : Nat} {K : Nat → Nat} {d : Nat} {M : gm_H} {sz sl : Nat} {R : gm_R} {q : Nat} {u1 : Int32} {u2 : Int32} {fso1 : List Value} {x2 : Int32} (ho1 : M q = some (.inr (8, fso1))) (f3 : fso1[1]? = some (.int x2)) (c4 : x2 ≤ u2) (k : gm_ev N0 K ra_nm (ra_mt K) d none (gm_I cX8_trace) (gm_lkf (lkX8 false K)) 154 [some (.ref q), some (.int (u1 + (1 : Int32))), none, none] [] M sz sl R) : gm_ev N0 K ra_nm (ra_mt K) d none (gm_I cX8_trace) (gm_lkf (lkX8 false K)) 164 [some (.ref q), some (.int u1), some (.int u2), none] [] M sz sl R := by
  refine gm_ev.iload_n i82_164 rfl ?_
  refine gm_ev.aload_n i82_165 rfl ?_
  refine gm_ev.getfield (v := .int x2) i82_166 rfl (gm_fld_of ho1 f3) ?_
  refine gm_ev.icmp_ge_t (tgt := 216) i82_169 (by decide) c4 ?_
  refine gm_ev.iinc (v := u1 + (1 : Int32)) (ls' := [some (.ref q), some (.int (u1 + (1 : Int32))), some (.int u2), none]) i82_216 rfl (by rfl) rfl ?_
  refine gm_ev.goto (tgt := 154) i82_219 (by decide) ?_
  refine gm_ev.le (a := [some (.ref q), some (.int (u1 + (1 : Int32))), none, none]) (gm_leL.le (show gm_leL _ _ from ⟨rfl, ⟨rfl, trivial⟩⟩)) ?_
  exact k
theorem c_X8_trace_164_ft_at164 {N0 : Nat} {K : Nat → Nat} {d : Nat} {M : gm_H} {sz sl : Nat} {R : gm_R} {q : Nat} {u1 : Int32} {u2 : Int32} {fso1 : List Value} {x2 : Int32} {r5 : Nat} {na7 : Nat} {fa7 : Nat → Int32} {k8 : Nat} {r9 : Nat} {na11 : Nat} {fa11 : Nat → Int32} {k12 : Nat} (ho1 : M q = some (.inr (8, fso1))) (f3 : fso1[1]? = some (.int x2)) (c4 : ¬ x2 ≤ u2) (f6 : fso1[2]? = some (.ref r5)) (ha7 : M r5 = some (.inl (.int, na7, .inl fa7))) (ba7 : na7 < 2 ^ 31) (ek8 : u1 = nI k8) (lk8 : k8 < na7) (f10 : fso1[3]? = some (.ref r9)) (ha11 : M r9 = some (.inl (.int, na11, .inl fa11))) (ba11 : na11 < 2 ^ 31) (ek12 : u1 = nI k12) (lk12 : k12 < na11) (c13 : ((((((fa7 k8) ||| (fa11 k12))).toUInt32 >>> ((u2).toUInt32 &&& Int32.toUInt32 31)).toInt32) &&& (1 : Int32)) = 0) (k : gm_ev N0 K ra_nm (ra_mt K) d none (gm_I cX8_trace) (gm_lkf (lkX8 false K)) 164 [some (.ref q), some (.int u1), some (.int (u2 + (1 : Int32))), none] [] M sz sl R) : gm_ev N0 K ra_nm (ra_mt K) d none (gm_I cX8_trace) (gm_lkf (lkX8 false K)) 164 [some (.ref q), some (.int u1), some (.int u2), none] [] M sz sl R := by
  refine gm_ev.iload_n i82_164 rfl ?_
  refine gm_ev.aload_n i82_165 rfl ?_
  refine gm_ev.getfield (v := .int x2) i82_166 rfl (gm_fld_of ho1 f3) ?_
  refine gm_ev.icmp_ge_f i82_169 c4 ?_
  refine gm_ev.aload_n i82_172 rfl ?_
  refine gm_ev.getfield (v := .ref r5) i82_173 rfl (gm_fld_of ho1 f6) ?_
  refine gm_ev.iload_n i82_176 rfl ?_
  refine gm_ev.iaload i82_177 (gm_ai_of ha7 ek8 lk8 ba7) ?_
  refine gm_ev.aload_n i82_178 rfl ?_
  refine gm_ev.getfield (v := .ref r9) i82_179 rfl (gm_fld_of ho1 f10) ?_
  refine gm_ev.iload_n i82_182 rfl ?_
  refine gm_ev.iaload i82_183 (gm_ai_of ha11 ek12 lk12 ba11) ?_
  refine gm_ev.ior i82_184 ?_
  refine gm_ev.iload_n i82_185 rfl ?_
  refine gm_ev.iushr i82_186 ?_
  refine gm_ev.iconst (v := 1) i82_187 (by decide) ?_
  refine gm_ev.iand i82_188 ?_
  refine gm_ev.if_eq_t (tgt := 210) i82_189 (by decide) c13 ?_
  refine gm_ev.iinc (v := u2 + (1 : Int32)) (ls' := [some (.ref q), some (.int u1), some (.int (u2 + (1 : Int32))), none]) i82_210 rfl (by rfl) rfl ?_
  refine gm_ev.goto (tgt := 164) i82_213 (by decide) ?_
  exact k
theorem c_X8_trace_164_ff_at164 {N0 : Nat} {K : Nat → Nat} {d : Nat} {M : gm_H} {sz sl : Nat} {R : gm_R} {q : Nat} {u1 : Int32} {u2 : Int32} {fso1 : List Value} {x2 : Int32} {r5 : Nat} {na7 : Nat} {fa7 : Nat → Int32} {k8 : Nat} {r9 : Nat} {na11 : Nat} {fa11 : Nat → Int32} {k12 : Nat} {r14 : Nat} {na16 : Nat} {fa16 : Nat → Int32} {k17 : Nat} {r18 : Nat} {na20 : Nat} {fa20 : Nat → Option Nat} {k21 : Nat} {r22 : Nat} {fso23 : List Value} {r24 : Int32} {M26 : gm_H} {sz27 : Nat} {dd28 : Nat} {na29 : Nat} {fa29 : Nat → Int32} {k30 : Nat} (ho1 : M q = some (.inr (8, fso1))) (f3 : fso1[1]? = some (.int x2)) (c4 : ¬ x2 ≤ u2) (f6 : fso1[2]? = some (.ref r5)) (ha7 : M r5 = some (.inl (.int, na7, .inl fa7))) (ba7 : na7 < 2 ^ 31) (ek8 : u1 = nI k8) (lk8 : k8 < na7) (f10 : fso1[3]? = some (.ref r9)) (ha11 : M r9 = some (.inl (.int, na11, .inl fa11))) (ba11 : na11 < 2 ^ 31) (ek12 : u1 = nI k12) (lk12 : k12 < na11) (c13 : ¬ ((((((fa7 k8) ||| (fa11 k12))).toUInt32 >>> ((u2).toUInt32 &&& Int32.toUInt32 31)).toInt32) &&& (1 : Int32)) = 0) (f15 : fso1[4]? = some (.ref r14)) (ha16 : M r14 = some (.inl (.int, na16, .inl fa16))) (ba16 : na16 < 2 ^ 31) (ek17 : u1 = nI k17) (lk17 : k17 < na16) (f19 : fso1[0]? = some (.ref r18)) (ha20 : M r18 = some (.inl (.object "RuleArena$Rule", na20, .inr (.inr (.inr (.inr fa20)))))) (ba20 : na20 < 2 ^ 31) (ek21 : u2 = nI k21) (lk21 : k21 < na20) (qk21 : fa20 k21 = some r22) (ho23 : M r22 = some (.inr (7, fso23))) (t25 : gm_to N0 K ra_nm (ra_mt K) d 75 [.ref r22] M sz (.returned (some (.int r24)), M26, sz27, dd28)) (ha29 : M26 r14 = some (.inl (.int, na29, .inl fa29))) (ba29 : na29 < 2 ^ 31) (hNr14 : N0 ≤ r14) (ek30 : u1 = nI k30) (lk30 : k30 < na29) (k : gm_ev N0 K ra_nm (ra_mt K) d none (gm_I cX8_trace) (gm_lkf (lkX8 false K)) 164 [some (.ref q), some (.int u1), some (.int (u2 + (1 : Int32))), none] [] (gm_set M26 r14 (.inl (.int, na29, .inl (upd fa29 k30 ((fa16 k17) ||| r24))))) sz27 (sl + dd28) R) : gm_ev N0 K ra_nm (ra_mt K) d none (gm_I cX8_trace) (gm_lkf (lkX8 false K)) 164 [some (.ref q), some (.int u1), some (.int u2), none] [] M sz sl R := by
  refine gm_ev.iload_n i82_164 rfl ?_
  refine gm_ev.aload_n i82_165 rfl ?_
  refine gm_ev.getfield (v := .int x2) i82_166 rfl (gm_fld_of ho1 f3) ?_
  refine gm_ev.icmp_ge_f i82_169 c4 ?_
  refine gm_ev.aload_n i82_172 rfl ?_
  refine gm_ev.getfield (v := .ref r5) i82_173 rfl (gm_fld_of ho1 f6) ?_
  refine gm_ev.iload_n i82_176 rfl ?_
  refine gm_ev.iaload i82_177 (gm_ai_of ha7 ek8 lk8 ba7) ?_
  refine gm_ev.aload_n i82_178 rfl ?_
  refine gm_ev.getfield (v := .ref r9) i82_179 rfl (gm_fld_of ho1 f10) ?_
  refine gm_ev.iload_n i82_182 rfl ?_
  refine gm_ev.iaload i82_183 (gm_ai_of ha11 ek12 lk12 ba11) ?_
  refine gm_ev.ior i82_184 ?_
  refine gm_ev.iload_n i82_185 rfl ?_
  refine gm_ev.iushr i82_186 ?_
  refine gm_ev.iconst (v := 1) i82_187 (by decide) ?_
  refine gm_ev.iand i82_188 ?_
  refine gm_ev.if_eq_f i82_189 c13 ?_
  refine gm_ev.aload_n i82_192 rfl ?_
  refine gm_ev.getfield (v := .ref r14) i82_193 rfl (gm_fld_of ho1 f15) ?_
  refine gm_ev.iload_n i82_196 rfl ?_
  refine gm_ev.dup2 i82_197 rfl rfl ?_
  refine gm_ev.iaload i82_198 (gm_ai_of ha16 ek17 lk17 ba16) ?_
  refine gm_ev.aload_n i82_199 rfl ?_
  refine gm_ev.getfield (v := .ref r18) i82_200 rfl (gm_fld_of ho1 f19) ?_
  refine gm_ev.iload_n i82_203 rfl ?_
  refine gm_ev.aaload (x := some r22) i82_204 (gm_aq_of ha20 ek21 lk21 ba20 qk21) ?_
  refine gm_ev.callV gm_mono_run (av := []) (r := [.int (fa16 k17), .int u1, .ref r14]) (fs := fso23) ho23 i82_205 rfl rfl rfl (Nat.le_of_ble_eq_true rfl) t25 ?_
  refine gm_ev.ior i82_208 ?_
  refine gm_ev.iastore (M' := (gm_set M26 r14 (.inl (.int, na29, .inl (upd fa29 k30 ((fa16 k17) ||| r24)))))) i82_209 (gm_asti_of ha29 ek30 lk30 ba29 hNr14) ?_
  have w31 : (gm_set M26 r14 (.inl (.int, na29, .inl (upd fa29 k30 ((fa16 k17) ||| r24))))) r14 = some (.inl (.int, na29, .inl (upd fa29 k30 ((fa16 k17) ||| r24)))) := gm_set_eq
  refine gm_ev.iinc (v := u2 + (1 : Int32)) (ls' := [some (.ref q), some (.int u1), some (.int (u2 + (1 : Int32))), none]) i82_210 rfl (by rfl) rfl ?_
  refine gm_ev.goto (tgt := 164) i82_213 (by decide) ?_
  exact k
theorem c_X8_headsIn_0__at4 {N0 : Nat} {K : Nat → Nat} {d : Nat} {M : gm_H} {sz sl : Nat} {R : gm_R} {q : Nat} {p0 : Nat}  (k : gm_ev N0 K ra_nm (ra_mt K) d (some .int) (gm_I cX8_headsIn) (gm_lkf (lkX8 false K)) 4 [some (.ref q), some (.ref p0), some (.int (0 : Int32)), some (.int (0 : Int32))] [] M sz sl R) : gm_ev N0 K ra_nm (ra_mt K) d (some .int) (gm_I cX8_headsIn) (gm_lkf (lkX8 false K)) 0 [some (.ref q), some (.ref p0), none, none] [] M sz sl R := by
  refine gm_ev.iconst (v := 0) i83_0 (by decide) ?_
  refine gm_ev.istore_n (ls' := [some (.ref q), some (.ref p0), some (.int (0 : Int32)), none]) i83_1 (Nat.le_of_ble_eq_true rfl) rfl ?_
  refine gm_ev.iconst (v := 0) i83_2 (by decide) ?_
  refine gm_ev.istore_n (ls' := [some (.ref q), some (.ref p0), some (.int (0 : Int32)), some (.int (0 : Int32))]) i83_3 (Nat.le_of_ble_eq_true rfl) rfl ?_
  exact k
theorem c_X8_headsIn_4_t {N0 : Nat} {K : Nat → Nat} {d : Nat} {M : gm_H} {sz sl : Nat} {q : Nat} {p0 : Nat} {u2 : Int32} {u3 : Int32} {fso1 : List Value} {x2 : Int32} (ho1 : M q = some (.inr (8, fso1))) (f3 : fso1[1]? = some (.int x2)) (c4 : x2 ≤ u3) : gm_ev N0 K ra_nm (ra_mt K) d (some .int) (gm_I cX8_headsIn) (gm_lkf (lkX8 false K)) 4 [some (.ref q), some (.ref p0), some (.int u2), some (.int u3)] [] M sz sl (.returned (some (.int u2)), M, sz, sl) := by
  refine gm_ev.iload_n i83_4 rfl ?_
  refine gm_ev.aload_n i83_5 rfl ?_
  refine gm_ev.getfield (v := .int x2) i83_6 rfl (gm_fld_of ho1 f3) ?_
  refine gm_ev.icmp_ge_t (tgt := 43) i83_9 (by decide) c4 ?_
  refine gm_ev.iload_n i83_43 rfl ?_
  exact gm_ev.iret i83_44 rfl
theorem c_X8_headsIn_4_ft_at4 {N0 : Nat} {K : Nat → Nat} {d : Nat} {M : gm_H} {sz sl : Nat} {R : gm_R} {q : Nat} {p0 : Nat} {u2 : Int32} {u3 : Int32} {fso1 : List Value} {x2 : Int32} {r5 : Nat} {na7 : Nat} {fa7 : Nat → Option Nat} {k8 : Nat} {r9 : Nat} {fso10 : List Value} {r11 : Nat} {fso13 : List Value} {x14 : Int32} {fso16 : List Value} {r17 : Int32} {M19 : gm_H} {sz20 : Nat} {dd21 : Nat} (ho1 : M q = some (.inr (8, fso1))) (f3 : fso1[1]? = some (.int x2)) (c4 : ¬ x2 ≤ u3) (f6 : fso1[0]? = some (.ref r5)) (ha7 : M r5 = some (.inl (.object "RuleArena$Rule", na7, .inr (.inr (.inr (.inr fa7)))))) (ba7 : na7 < 2 ^ 31) (ek8 : u3 = nI k8) (lk8 : k8 < na7) (qk8 : fa7 k8 = some r9) (ho10 : M r9 = some (.inr (7, fso10))) (f12 : fso10[0]? = some (.ref r11)) (ho13 : M r11 = some (.inr (5, fso13))) (f15 : fso13[1]? = some (.int x14)) (ho16 : M p0 = some (.inr (7, fso16))) (t18 : gm_to N0 K ra_nm (ra_mt K) d 74 [.ref p0, .int x14] M sz (.returned (some (.int r17)), M19, sz20, dd21)) (c22 : r17 = 0) (k : gm_ev N0 K ra_nm (ra_mt K) d (some .int) (gm_I cX8_headsIn) (gm_lkf (lkX8 false K)) 4 [some (.ref q), some (.ref p0), some (.int u2), some (.int (u3 + (1 : Int32)))] [] M19 sz20 (sl + dd21) R) : gm_ev N0 K ra_nm (ra_mt K) d (some .int) (gm_I cX8_headsIn) (gm_lkf (lkX8 false K)) 4 [some (.ref q), some (.ref p0), some (.int u2), some (.int u3)] [] M sz sl R := by
  refine gm_ev.iload_n i83_4 rfl ?_
  refine gm_ev.aload_n i83_5 rfl ?_
  refine gm_ev.getfield (v := .int x2) i83_6 rfl (gm_fld_of ho1 f3) ?_
  refine gm_ev.icmp_ge_f i83_9 c4 ?_
  refine gm_ev.aload_n i83_12 rfl ?_
  refine gm_ev.aload_n i83_13 rfl ?_
  refine gm_ev.getfield (v := .ref r5) i83_14 rfl (gm_fld_of ho1 f6) ?_
  refine gm_ev.iload_n i83_17 rfl ?_
  refine gm_ev.aaload (x := some r9) i83_18 (gm_aq_of ha7 ek8 lk8 ba7 qk8) ?_
  refine gm_ev.getfield (v := .ref r11) i83_19 rfl (gm_fld_of ho10 f12) ?_
  refine gm_ev.getfield (v := .int x14) i83_22 rfl (gm_fld_of ho13 f15) ?_
  refine gm_ev.callV gm_mono_run (av := [.int x14]) (r := []) (fs := fso16) ho16 i83_25 rfl rfl rfl (Nat.le_of_ble_eq_true rfl) t18 ?_
  refine gm_ev.if_eq_t (tgt := 37) i83_28 (by decide) c22 ?_
  refine gm_ev.iinc (v := u3 + (1 : Int32)) (ls' := [some (.ref q), some (.ref p0), some (.int u2), some (.int (u3 + (1 : Int32)))]) i83_37 rfl (by rfl) rfl ?_
  refine gm_ev.goto (tgt := 4) i83_40 (by decide) ?_
  exact k
theorem c_X8_headsIn_4_ff_at4 {N0 : Nat} {K : Nat → Nat} {d : Nat} {M : gm_H} {sz sl : Nat} {R : gm_R} {q : Nat} {p0 : Nat} {u2 : Int32} {u3 : Int32} {fso1 : List Value} {x2 : Int32} {r5 : Nat} {na7 : Nat} {fa7 : Nat → Option Nat} {k8 : Nat} {r9 : Nat} {fso10 : List Value} {r11 : Nat} {fso13 : List Value} {x14 : Int32} {fso16 : List Value} {r17 : Int32} {M19 : gm_H} {sz20 : Nat} {dd21 : Nat} (ho1 : M q = some (.inr (8, fso1))) (f3 : fso1[1]? = some (.int x2)) (c4 : ¬ x2 ≤ u3) (f6 : fso1[0]? = some (.ref r5)) (ha7 : M r5 = some (.inl (.object "RuleArena$Rule", na7, .inr (.inr (.inr (.inr fa7)))))) (ba7 : na7 < 2 ^ 31) (ek8 : u3 = nI k8) (lk8 : k8 < na7) (qk8 : fa7 k8 = some r9) (ho10 : M r9 = some (.inr (7, fso10))) (f12 : fso10[0]? = some (.ref r11)) (ho13 : M r11 = some (.inr (5, fso13))) (f15 : fso13[1]? = some (.int x14)) (ho16 : M p0 = some (.inr (7, fso16))) (t18 : gm_to N0 K ra_nm (ra_mt K) d 74 [.ref p0, .int x14] M sz (.returned (some (.int r17)), M19, sz20, dd21)) (c22 : ¬ r17 = 0) (k : gm_ev N0 K ra_nm (ra_mt K) d (some .int) (gm_I cX8_headsIn) (gm_lkf (lkX8 false K)) 4 [some (.ref q), some (.ref p0), some (.int (u2 ||| ((1 : Int32) <<< (u3 &&& 31)))), some (.int (u3 + (1 : Int32)))] [] M19 sz20 (sl + dd21) R) : gm_ev N0 K ra_nm (ra_mt K) d (some .int) (gm_I cX8_headsIn) (gm_lkf (lkX8 false K)) 4 [some (.ref q), some (.ref p0), some (.int u2), some (.int u3)] [] M sz sl R := by
  refine gm_ev.iload_n i83_4 rfl ?_
  refine gm_ev.aload_n i83_5 rfl ?_
  refine gm_ev.getfield (v := .int x2) i83_6 rfl (gm_fld_of ho1 f3) ?_
  refine gm_ev.icmp_ge_f i83_9 c4 ?_
  refine gm_ev.aload_n i83_12 rfl ?_
  refine gm_ev.aload_n i83_13 rfl ?_
  refine gm_ev.getfield (v := .ref r5) i83_14 rfl (gm_fld_of ho1 f6) ?_
  refine gm_ev.iload_n i83_17 rfl ?_
  refine gm_ev.aaload (x := some r9) i83_18 (gm_aq_of ha7 ek8 lk8 ba7 qk8) ?_
  refine gm_ev.getfield (v := .ref r11) i83_19 rfl (gm_fld_of ho10 f12) ?_
  refine gm_ev.getfield (v := .int x14) i83_22 rfl (gm_fld_of ho13 f15) ?_
  refine gm_ev.callV gm_mono_run (av := [.int x14]) (r := []) (fs := fso16) ho16 i83_25 rfl rfl rfl (Nat.le_of_ble_eq_true rfl) t18 ?_
  refine gm_ev.if_eq_f i83_28 c22 ?_
  refine gm_ev.iload_n i83_31 rfl ?_
  refine gm_ev.iconst (v := 1) i83_32 (by decide) ?_
  refine gm_ev.iload_n i83_33 rfl ?_
  refine gm_ev.ishl i83_34 ?_
  refine gm_ev.ior i83_35 ?_
  refine gm_ev.istore_n (ls' := [some (.ref q), some (.ref p0), some (.int (u2 ||| ((1 : Int32) <<< (u3 &&& 31)))), some (.int u3)]) i83_36 (Nat.le_of_ble_eq_true rfl) rfl ?_
  refine gm_ev.iinc (v := u3 + (1 : Int32)) (ls' := [some (.ref q), some (.ref p0), some (.int (u2 ||| ((1 : Int32) <<< (u3 &&& 31)))), some (.int (u3 + (1 : Int32)))]) i83_37 rfl (by rfl) rfl ?_
  refine gm_ev.goto (tgt := 4) i83_40 (by decide) ?_
  exact k
theorem c_X8_placeOf_0__at2 {N0 : Nat} {K : Nat → Nat} {d : Nat} {M : gm_H} {sz sl : Nat} {R : gm_R} {q : Nat} {p0 : Int32}  (k : gm_ev N0 K ra_nm (ra_mt K) d (some .int) (gm_I cX8_placeOf) (gm_lkf (lkX8 false K)) 2 [some (.ref q), some (.int p0), some (.int (0 : Int32))] [] M sz sl R) : gm_ev N0 K ra_nm (ra_mt K) d (some .int) (gm_I cX8_placeOf) (gm_lkf (lkX8 false K)) 0 [some (.ref q), some (.int p0), none] [] M sz sl R := by
  refine gm_ev.iconst (v := 0) i84_0 (by decide) ?_
  refine gm_ev.istore_n (ls' := [some (.ref q), some (.int p0), some (.int (0 : Int32))]) i84_1 (Nat.le_of_ble_eq_true rfl) rfl ?_
  exact k
theorem c_X8_placeOf_2_t {N0 : Nat} {K : Nat → Nat} {d : Nat} {M : gm_H} {sz sl : Nat} {q : Nat} {u1 : Int32} {u2 : Int32} {fso1 : List Value} {x2 : Int32} (ho1 : M q = some (.inr (8, fso1))) (f3 : fso1[1]? = some (.int x2)) (c4 : x2 ≤ u2) : gm_ev N0 K ra_nm (ra_mt K) d (some .int) (gm_I cX8_placeOf) (gm_lkf (lkX8 false K)) 2 [some (.ref q), some (.int u1), some (.int u2)] [] M sz sl (.returned (some (.int (-1 : Int32))), M, sz, sl) := by
  refine gm_ev.iload_n i84_2 rfl ?_
  refine gm_ev.aload_n i84_3 rfl ?_
  refine gm_ev.getfield (v := .int x2) i84_4 rfl (gm_fld_of ho1 f3) ?_
  refine gm_ev.icmp_ge_t (tgt := 27) i84_7 (by decide) c4 ?_
  refine gm_ev.iconst (v := -1) i84_27 (by decide) ?_
  exact gm_ev.iret i84_28 rfl
theorem c_X8_placeOf_2_ft_at2 {N0 : Nat} {K : Nat → Nat} {d : Nat} {M : gm_H} {sz sl : Nat} {R : gm_R} {q : Nat} {u1 : Int32} {u2 : Int32} {fso1 : List Value} {x2 : Int32} {r5 : Int32} {M7 : gm_H} {sz8 : Nat} {dd9 : Nat} (ho1 : M q = some (.inr (8, fso1))) (f3 : fso1[1]? = some (.int x2)) (c4 : ¬ x2 ≤ u2) (t6 : gm_to N0 K ra_nm (ra_mt K) d 85 [.ref q, .int u1, .int u2] M sz (.returned (some (.int r5)), M7, sz8, dd9)) (c10 : r5 = 0) (k : gm_ev N0 K ra_nm (ra_mt K) d (some .int) (gm_I cX8_placeOf) (gm_lkf (lkX8 false K)) 2 [some (.ref q), some (.int u1), some (.int (u2 + (1 : Int32)))] [] M7 sz8 (sl + dd9) R) : gm_ev N0 K ra_nm (ra_mt K) d (some .int) (gm_I cX8_placeOf) (gm_lkf (lkX8 false K)) 2 [some (.ref q), some (.int u1), some (.int u2)] [] M sz sl R := by
  refine gm_ev.iload_n i84_2 rfl ?_
  refine gm_ev.aload_n i84_3 rfl ?_
  refine gm_ev.getfield (v := .int x2) i84_4 rfl (gm_fld_of ho1 f3) ?_
  refine gm_ev.icmp_ge_f i84_7 c4 ?_
  refine gm_ev.aload_n i84_10 rfl ?_
  refine gm_ev.iload_n i84_11 rfl ?_
  refine gm_ev.iload_n i84_12 rfl ?_
  refine gm_ev.callV gm_mono_run (av := [.int u1, .int u2]) (r := []) (fs := fso1) ho1 i84_13 rfl rfl rfl (Nat.le_of_ble_eq_true rfl) t6 ?_
  refine gm_ev.if_eq_t (tgt := 21) i84_16 (by decide) c10 ?_
  refine gm_ev.iinc (v := u2 + (1 : Int32)) (ls' := [some (.ref q), some (.int u1), some (.int (u2 + (1 : Int32)))]) i84_21 rfl (by rfl) rfl ?_
  refine gm_ev.goto (tgt := 2) i84_24 (by decide) ?_
  exact k
theorem c_X8_placeOf_2_ff {N0 : Nat} {K : Nat → Nat} {d : Nat} {M : gm_H} {sz sl : Nat} {q : Nat} {u1 : Int32} {u2 : Int32} {fso1 : List Value} {x2 : Int32} {r5 : Int32} {M7 : gm_H} {sz8 : Nat} {dd9 : Nat} (ho1 : M q = some (.inr (8, fso1))) (f3 : fso1[1]? = some (.int x2)) (c4 : ¬ x2 ≤ u2) (t6 : gm_to N0 K ra_nm (ra_mt K) d 85 [.ref q, .int u1, .int u2] M sz (.returned (some (.int r5)), M7, sz8, dd9)) (c10 : ¬ r5 = 0) : gm_ev N0 K ra_nm (ra_mt K) d (some .int) (gm_I cX8_placeOf) (gm_lkf (lkX8 false K)) 2 [some (.ref q), some (.int u1), some (.int u2)] [] M sz sl (.returned (some (.int u2)), M7, sz8, (sl + dd9)) := by
  refine gm_ev.iload_n i84_2 rfl ?_
  refine gm_ev.aload_n i84_3 rfl ?_
  refine gm_ev.getfield (v := .int x2) i84_4 rfl (gm_fld_of ho1 f3) ?_
  refine gm_ev.icmp_ge_f i84_7 c4 ?_
  refine gm_ev.aload_n i84_10 rfl ?_
  refine gm_ev.iload_n i84_11 rfl ?_
  refine gm_ev.iload_n i84_12 rfl ?_
  refine gm_ev.callV gm_mono_run (av := [.int u1, .int u2]) (r := []) (fs := fso1) ho1 i84_13 rfl rfl rfl (Nat.le_of_ble_eq_true rfl) t6 ?_
  refine gm_ev.if_eq_f i84_16 c10 ?_
  refine gm_ev.iload_n i84_19 rfl ?_
  exact gm_ev.iret i84_20 rfl
theorem c_X8_hasFault_0_s2 {N0 : Nat} {K : Nat → Nat} {d : Nat} {M : gm_H} {sz sl : Nat} {q : Nat} {p0 : Int32} {p1 : Int32} {fso2 : List Value} {r3 : Nat} {na5 : Nat} {fa5 : Nat → Option Nat} {k6 : Nat} {r7 : Nat} {fso8 : List Value} {r9 : Int32} {M11 : gm_H} {sz12 : Nat} {dd13 : Nat} (c1 : p0 = 2) (ho2 : M q = some (.inr (8, fso2))) (f4 : fso2[0]? = some (.ref r3)) (ha5 : M r3 = some (.inl (.object "RuleArena$Rule", na5, .inr (.inr (.inr (.inr fa5)))))) (ba5 : na5 < 2 ^ 31) (ek6 : p1 = nI k6) (lk6 : k6 < na5) (qk6 : fa5 k6 = some r7) (ho8 : M r7 = some (.inr (7, fso8))) (t10 : gm_to N0 K ra_nm (ra_mt K) d 72 [.ref r7] M sz (.returned (some (.int r9)), M11, sz12, dd13)) (z14 : r9 = 0 ∨ r9 = 1) : gm_ev N0 K ra_nm (ra_mt K) d (some .boolean) (gm_I cX8_hasFault) (gm_lkf (lkX8 false K)) 0 [some (.ref q), some (.int p0), some (.int p1)] [] M sz sl (.returned (some (.int r9)), M11, sz12, (sl + dd13)) := by
  refine gm_ev.iload_n i85_0 rfl ?_
  refine gm_ev.tableIn (tgt := 28) (off := 27) i85_1 (by rw [c1]; decide) (by rw [c1]; decide) (by decide) ?_
  refine gm_ev.aload_n i85_28 rfl ?_
  refine gm_ev.getfield (v := .ref r3) i85_29 rfl (gm_fld_of ho2 f4) ?_
  refine gm_ev.iload_n i85_32 rfl ?_
  refine gm_ev.aaload (x := some r7) i85_33 (gm_aq_of ha5 ek6 lk6 ba5 qk6) ?_
  refine gm_ev.callV gm_mono_run (av := []) (r := []) (fs := fso8) ho8 i85_34 rfl rfl rfl (Nat.le_of_ble_eq_true rfl) t10 ?_
  exact gm_ev.zret i85_37 rfl z14
theorem c_X8_hasFault_0_s3 {N0 : Nat} {K : Nat → Nat} {d : Nat} {M : gm_H} {sz sl : Nat} {q : Nat} {p0 : Int32} {p1 : Int32} {fso2 : List Value} {r3 : Nat} {na5 : Nat} {fa5 : Nat → Option Nat} {k6 : Nat} {r7 : Nat} {fso8 : List Value} {r9 : Int32} {M11 : gm_H} {sz12 : Nat} {dd13 : Nat} (c1 : p0 = 3) (ho2 : M q = some (.inr (8, fso2))) (f4 : fso2[0]? = some (.ref r3)) (ha5 : M r3 = some (.inl (.object "RuleArena$Rule", na5, .inr (.inr (.inr (.inr fa5)))))) (ba5 : na5 < 2 ^ 31) (ek6 : p1 = nI k6) (lk6 : k6 < na5) (qk6 : fa5 k6 = some r7) (ho8 : M r7 = some (.inr (7, fso8))) (t10 : gm_to N0 K ra_nm (ra_mt K) d 73 [.ref r7] M sz (.returned (some (.int r9)), M11, sz12, dd13)) (z14 : r9 = 0 ∨ r9 = 1) : gm_ev N0 K ra_nm (ra_mt K) d (some .boolean) (gm_I cX8_hasFault) (gm_lkf (lkX8 false K)) 0 [some (.ref q), some (.int p0), some (.int p1)] [] M sz sl (.returned (some (.int r9)), M11, sz12, (sl + dd13)) := by
  refine gm_ev.iload_n i85_0 rfl ?_
  refine gm_ev.tableIn (tgt := 38) (off := 37) i85_1 (by rw [c1]; decide) (by rw [c1]; decide) (by decide) ?_
  refine gm_ev.aload_n i85_38 rfl ?_
  refine gm_ev.getfield (v := .ref r3) i85_39 rfl (gm_fld_of ho2 f4) ?_
  refine gm_ev.iload_n i85_42 rfl ?_
  refine gm_ev.aaload (x := some r7) i85_43 (gm_aq_of ha5 ek6 lk6 ba5 qk6) ?_
  refine gm_ev.callV gm_mono_run (av := []) (r := []) (fs := fso8) ho8 i85_44 rfl rfl rfl (Nat.le_of_ble_eq_true rfl) t10 ?_
  exact gm_ev.zret i85_47 rfl z14
theorem c_X8_hasFault_0_s4 {N0 : Nat} {K : Nat → Nat} {d : Nat} {M : gm_H} {sz sl : Nat} {q : Nat} {p0 : Int32} {p1 : Int32} {fso2 : List Value} {r3 : Int32} {M5 : gm_H} {sz6 : Nat} {dd7 : Nat} (c1 : p0 = 4) (ho2 : M q = some (.inr (8, fso2))) (t4 : gm_to N0 K ra_nm (ra_mt K) d 86 [.ref q, .int p1] M sz (.returned (some (.int r3)), M5, sz6, dd7)) (z8 : r3 = 0 ∨ r3 = 1) : gm_ev N0 K ra_nm (ra_mt K) d (some .boolean) (gm_I cX8_hasFault) (gm_lkf (lkX8 false K)) 0 [some (.ref q), some (.int p0), some (.int p1)] [] M sz sl (.returned (some (.int r3)), M5, sz6, (sl + dd7)) := by
  refine gm_ev.iload_n i85_0 rfl ?_
  refine gm_ev.tableIn (tgt := 48) (off := 47) i85_1 (by rw [c1]; decide) (by rw [c1]; decide) (by decide) ?_
  refine gm_ev.aload_n i85_48 rfl ?_
  refine gm_ev.iload_n i85_49 rfl ?_
  refine gm_ev.callV gm_mono_run (av := [.int p1]) (r := []) (fs := fso2) ho2 i85_50 rfl rfl rfl (Nat.le_of_ble_eq_true rfl) t4 ?_
  exact gm_ev.zret i85_53 rfl z8
theorem c_X8_hasFault_0_sNone {N0 : Nat} {K : Nat → Nat} {d : Nat} {M : gm_H} {sz sl : Nat} {q : Nat} {p0 : Int32} {p1 : Int32} {fso2 : List Value} {r3 : Int32} {M5 : gm_H} {sz6 : Nat} {dd7 : Nat} (c1 : p0.toInt < 2 ∨ 4 < p0.toInt) (ho2 : M q = some (.inr (8, fso2))) (t4 : gm_to N0 K ra_nm (ra_mt K) d 87 [.ref q, .int p1] M sz (.returned (some (.int r3)), M5, sz6, dd7)) (z8 : r3 = 0 ∨ r3 = 1) : gm_ev N0 K ra_nm (ra_mt K) d (some .boolean) (gm_I cX8_hasFault) (gm_lkf (lkX8 false K)) 0 [some (.ref q), some (.int p0), some (.int p1)] [] M sz sl (.returned (some (.int r3)), M5, sz6, (sl + dd7)) := by
  refine gm_ev.iload_n i85_0 rfl ?_
  refine gm_ev.tableOut (tgt := 54) i85_1 c1 (by decide) ?_
  refine gm_ev.aload_n i85_54 rfl ?_
  refine gm_ev.iload_n i85_55 rfl ?_
  refine gm_ev.callV gm_mono_run (av := [.int p1]) (r := []) (fs := fso2) ho2 i85_56 rfl rfl rfl (Nat.le_of_ble_eq_true rfl) t4 ?_
  exact gm_ev.zret i85_59 rfl z8
theorem c_X8_deniesItself_0__at2 {N0 : Nat} {K : Nat → Nat} {d : Nat} {M : gm_H} {sz sl : Nat} {R : gm_R} {q : Nat} {p0 : Int32}  (k : gm_ev N0 K ra_nm (ra_mt K) d (some .boolean) (gm_I cX8_deniesItself) (gm_lkf (lkX8 false K)) 2 [some (.ref q), some (.int p0), some (.int (0 : Int32)), none, none] [] M sz sl R) : gm_ev N0 K ra_nm (ra_mt K) d (some .boolean) (gm_I cX8_deniesItself) (gm_lkf (lkX8 false K)) 0 [some (.ref q), some (.int p0), none, none, none] [] M sz sl R := by
  refine gm_ev.iconst (v := 0) i86_0 (by decide) ?_
  refine gm_ev.istore_n (ls' := [some (.ref q), some (.int p0), some (.int (0 : Int32)), none, none]) i86_1 (Nat.le_of_ble_eq_true rfl) rfl ?_
  exact k
theorem c_X8_deniesItself_2_t {N0 : Nat} {K : Nat → Nat} {d : Nat} {M : gm_H} {sz sl : Nat} {q : Nat} {u1 : Int32} {u2 : Int32} {fso1 : List Value} {r2 : Nat} {na4 : Nat} {fa4 : Nat → Option Nat} {k5 : Nat} {r6 : Nat} {fso7 : List Value} {x8 : Int32} (ho1 : M q = some (.inr (8, fso1))) (f3 : fso1[0]? = some (.ref r2)) (ha4 : M r2 = some (.inl (.object "RuleArena$Rule", na4, .inr (.inr (.inr (.inr fa4)))))) (ba4 : na4 < 2 ^ 31) (ek5 : u1 = nI k5) (lk5 : k5 < na4) (qk5 : fa4 k5 = some r6) (ho7 : M r6 = some (.inr (7, fso7))) (f9 : fso7[2]? = some (.int x8)) (c10 : x8 ≤ u2) : gm_ev N0 K ra_nm (ra_mt K) d (some .boolean) (gm_I cX8_deniesItself) (gm_lkf (lkX8 false K)) 2 [some (.ref q), some (.int u1), some (.int u2), none, none] [] M sz sl (.returned (some (.int (0 : Int32))), M, sz, sl) := by
  refine gm_ev.iload_n i86_2 rfl ?_
  refine gm_ev.aload_n i86_3 rfl ?_
  refine gm_ev.getfield (v := .ref r2) i86_4 rfl (gm_fld_of ho1 f3) ?_
  refine gm_ev.iload_n i86_7 rfl ?_
  refine gm_ev.aaload (x := some r6) i86_8 (gm_aq_of ha4 ek5 lk5 ba4 qk5) ?_
  refine gm_ev.getfield (v := .int x8) i86_9 rfl (gm_fld_of ho7 f9) ?_
  refine gm_ev.icmp_ge_t (tgt := 95) i86_12 (by decide) c10 ?_
  refine gm_ev.iconst (v := 0) i86_95 (by decide) ?_
  exact gm_ev.zret i86_96 rfl (by decide)
theorem c_X8_deniesItself_2_f_at30 {N0 : Nat} {K : Nat → Nat} {d : Nat} {M : gm_H} {sz sl : Nat} {R : gm_R} {q : Nat} {u1 : Int32} {u2 : Int32} {fso1 : List Value} {r2 : Nat} {na4 : Nat} {fa4 : Nat → Option Nat} {k5 : Nat} {r6 : Nat} {fso7 : List Value} {x8 : Int32} {k11 : Nat} {r12 : Nat} {fso13 : List Value} {r14 : Nat} {na16 : Nat} {fa16 : Nat → Option Nat} {k17 : Nat} {r18 : Nat} (ho1 : M q = some (.inr (8, fso1))) (f3 : fso1[0]? = some (.ref r2)) (ha4 : M r2 = some (.inl (.object "RuleArena$Rule", na4, .inr (.inr (.inr (.inr fa4)))))) (ba4 : na4 < 2 ^ 31) (ek5 : u1 = nI k5) (lk5 : k5 < na4) (qk5 : fa4 k5 = some r6) (ho7 : M r6 = some (.inr (7, fso7))) (f9 : fso7[2]? = some (.int x8)) (c10 : ¬ x8 ≤ u2) (ek11 : u1 = nI k11) (lk11 : k11 < na4) (qk11 : fa4 k11 = some r12) (ho13 : M r12 = some (.inr (7, fso13))) (f15 : fso13[1]? = some (.ref r14)) (ha16 : M r14 = some (.inl (.object "RuleArena$Literal", na16, .inr (.inr (.inr (.inr fa16)))))) (ba16 : na16 < 2 ^ 31) (ek17 : u2 = nI k17) (lk17 : k17 < na16) (qk17 : fa16 k17 = some r18) (k : gm_ev N0 K ra_nm (ra_mt K) d (some .boolean) (gm_I cX8_deniesItself) (gm_lkf (lkX8 false K)) 30 [some (.ref q), some (.int u1), some (.int u2), some (.ref r18), some (.int (0 : Int32))] [] M sz sl R) : gm_ev N0 K ra_nm (ra_mt K) d (some .boolean) (gm_I cX8_deniesItself) (gm_lkf (lkX8 false K)) 2 [some (.ref q), some (.int u1), some (.int u2), none, none] [] M sz sl R := by
  refine gm_ev.iload_n i86_2 rfl ?_
  refine gm_ev.aload_n i86_3 rfl ?_
  refine gm_ev.getfield (v := .ref r2) i86_4 rfl (gm_fld_of ho1 f3) ?_
  refine gm_ev.iload_n i86_7 rfl ?_
  refine gm_ev.aaload (x := some r6) i86_8 (gm_aq_of ha4 ek5 lk5 ba4 qk5) ?_
  refine gm_ev.getfield (v := .int x8) i86_9 rfl (gm_fld_of ho7 f9) ?_
  refine gm_ev.icmp_ge_f i86_12 c10 ?_
  refine gm_ev.aload_n i86_15 rfl ?_
  refine gm_ev.getfield (v := .ref r2) i86_16 rfl (gm_fld_of ho1 f3) ?_
  refine gm_ev.iload_n i86_19 rfl ?_
  refine gm_ev.aaload (x := some r12) i86_20 (gm_aq_of ha4 ek11 lk11 ba4 qk11) ?_
  refine gm_ev.getfield (v := .ref r14) i86_21 rfl (gm_fld_of ho13 f15) ?_
  refine gm_ev.iload_n i86_24 rfl ?_
  refine gm_ev.aaload (x := some r18) i86_25 (gm_aq_of ha16 ek17 lk17 ba16 qk17) ?_
  refine gm_ev.astore_n (ls' := [some (.ref q), some (.int u1), some (.int u2), some (.ref r18), none]) i86_26 (Nat.le_of_ble_eq_true rfl) rfl ?_
  refine gm_ev.iconst (v := 0) i86_27 (by decide) ?_
  refine gm_ev.istore (ls' := [some (.ref q), some (.int u1), some (.int u2), some (.ref r18), some (.int (0 : Int32))]) i86_28 (Nat.le_of_ble_eq_true rfl) rfl ?_
  exact k
theorem c_X8_deniesItself_30_t_at2 {N0 : Nat} {K : Nat → Nat} {d : Nat} {M : gm_H} {sz sl : Nat} {R : gm_R} {q : Nat} {u1 : Int32} {u2 : Int32} {a3 : Nat} {u4 : Int32} {fso1 : List Value} {x2 : Int32} (ho1 : M q = some (.inr (8, fso1))) (f3 : fso1[1]? = some (.int x2)) (c4 : x2 ≤ u4) (k : gm_ev N0 K ra_nm (ra_mt K) d (some .boolean) (gm_I cX8_deniesItself) (gm_lkf (lkX8 false K)) 2 [some (.ref q), some (.int u1), some (.int (u2 + (1 : Int32))), none, none] [] M sz sl R) : gm_ev N0 K ra_nm (ra_mt K) d (some .boolean) (gm_I cX8_deniesItself) (gm_lkf (lkX8 false K)) 30 [some (.ref q), some (.int u1), some (.int u2), some (.ref a3), some (.int u4)] [] M sz sl R := by
  refine gm_ev.iload i86_30 rfl ?_
  refine gm_ev.aload_n i86_32 rfl ?_
  refine gm_ev.getfield (v := .int x2) i86_33 rfl (gm_fld_of ho1 f3) ?_
  refine gm_ev.icmp_ge_t (tgt := 89) i86_36 (by decide) c4 ?_
  refine gm_ev.iinc (v := u2 + (1 : Int32)) (ls' := [some (.ref q), some (.int u1), some (.int (u2 + (1 : Int32))), some (.ref a3), some (.int u4)]) i86_89 rfl (by rfl) rfl ?_
  refine gm_ev.goto (tgt := 2) i86_92 (by decide) ?_
  refine gm_ev.le (a := [some (.ref q), some (.int u1), some (.int (u2 + (1 : Int32))), none, none]) (gm_leL.le (show gm_leL _ _ from ⟨rfl, ⟨rfl, ⟨rfl, trivial⟩⟩⟩)) ?_
  exact k
theorem c_X8_deniesItself_30_ft_at2 {N0 : Nat} {K : Nat → Nat} {d : Nat} {M : gm_H} {sz sl : Nat} {R : gm_R} {q : Nat} {u1 : Int32} {u2 : Int32} {a3 : Nat} {u4 : Int32} {fso1 : List Value} {x2 : Int32} {fso5 : List Value} {x6 : Int32} (ho1 : M q = some (.inr (8, fso1))) (f3 : fso1[1]? = some (.int x2)) (c4 : ¬ x2 ≤ u4) (ho5 : M a3 = some (.inr (5, fso5))) (f7 : fso5[0]? = some (.int x6)) (c8 : ¬ x6 = (1 : Int32)) (k : gm_ev N0 K ra_nm (ra_mt K) d (some .boolean) (gm_I cX8_deniesItself) (gm_lkf (lkX8 false K)) 2 [some (.ref q), some (.int u1), some (.int (u2 + (1 : Int32))), none, none] [] M sz sl R) : gm_ev N0 K ra_nm (ra_mt K) d (some .boolean) (gm_I cX8_deniesItself) (gm_lkf (lkX8 false K)) 30 [some (.ref q), some (.int u1), some (.int u2), some (.ref a3), some (.int u4)] [] M sz sl R := by
  refine gm_ev.iload i86_30 rfl ?_
  refine gm_ev.aload_n i86_32 rfl ?_
  refine gm_ev.getfield (v := .int x2) i86_33 rfl (gm_fld_of ho1 f3) ?_
  refine gm_ev.icmp_ge_f i86_36 c4 ?_
  refine gm_ev.aload_n i86_39 rfl ?_
  refine gm_ev.getfield (v := .int x6) i86_40 rfl (gm_fld_of ho5 f7) ?_
  refine gm_ev.iconst (v := 1) i86_43 (by decide) ?_
  refine gm_ev.icmp_ne_t (tgt := 89) i86_44 (by decide) c8 ?_
  refine gm_ev.iinc (v := u2 + (1 : Int32)) (ls' := [some (.ref q), some (.int u1), some (.int (u2 + (1 : Int32))), some (.ref a3), some (.int u4)]) i86_89 rfl (by rfl) rfl ?_
  refine gm_ev.goto (tgt := 2) i86_92 (by decide) ?_
  refine gm_ev.le (a := [some (.ref q), some (.int u1), some (.int (u2 + (1 : Int32))), none, none]) (gm_leL.le (show gm_leL _ _ from ⟨rfl, ⟨rfl, ⟨rfl, trivial⟩⟩⟩)) ?_
  exact k
theorem c_X8_deniesItself_30_fft_at30 {N0 : Nat} {K : Nat → Nat} {d : Nat} {M : gm_H} {sz sl : Nat} {R : gm_R} {q : Nat} {u1 : Int32} {u2 : Int32} {a3 : Nat} {u4 : Int32} {fso1 : List Value} {x2 : Int32} {fso5 : List Value} {x6 : Int32} {r9 : Nat} {na11 : Nat} {fa11 : Nat → Option Nat} {k12 : Nat} {r13 : Nat} {fso14 : List Value} {r15 : Nat} {fso17 : List Value} {x18 : Int32} {x20 : Int32} (ho1 : M q = some (.inr (8, fso1))) (f3 : fso1[1]? = some (.int x2)) (c4 : ¬ x2 ≤ u4) (ho5 : M a3 = some (.inr (5, fso5))) (f7 : fso5[0]? = some (.int x6)) (c8 : x6 = (1 : Int32)) (f10 : fso1[0]? = some (.ref r9)) (ha11 : M r9 = some (.inl (.object "RuleArena$Rule", na11, .inr (.inr (.inr (.inr fa11)))))) (ba11 : na11 < 2 ^ 31) (ek12 : u4 = nI k12) (lk12 : k12 < na11) (qk12 : fa11 k12 = some r13) (ho14 : M r13 = some (.inr (7, fso14))) (f16 : fso14[0]? = some (.ref r15)) (ho17 : M r15 = some (.inr (5, fso17))) (f19 : fso17[1]? = some (.int x18)) (f21 : fso5[1]? = some (.int x20)) (c22 : ¬ x18 = x20) (k : gm_ev N0 K ra_nm (ra_mt K) d (some .boolean) (gm_I cX8_deniesItself) (gm_lkf (lkX8 false K)) 30 [some (.ref q), some (.int u1), some (.int u2), some (.ref a3), some (.int (u4 + (1 : Int32)))] [] M sz sl R) : gm_ev N0 K ra_nm (ra_mt K) d (some .boolean) (gm_I cX8_deniesItself) (gm_lkf (lkX8 false K)) 30 [some (.ref q), some (.int u1), some (.int u2), some (.ref a3), some (.int u4)] [] M sz sl R := by
  refine gm_ev.iload i86_30 rfl ?_
  refine gm_ev.aload_n i86_32 rfl ?_
  refine gm_ev.getfield (v := .int x2) i86_33 rfl (gm_fld_of ho1 f3) ?_
  refine gm_ev.icmp_ge_f i86_36 c4 ?_
  refine gm_ev.aload_n i86_39 rfl ?_
  refine gm_ev.getfield (v := .int x6) i86_40 rfl (gm_fld_of ho5 f7) ?_
  refine gm_ev.iconst (v := 1) i86_43 (by decide) ?_
  refine gm_ev.icmp_ne_f i86_44 c8 ?_
  refine gm_ev.aload_n i86_47 rfl ?_
  refine gm_ev.getfield (v := .ref r9) i86_48 rfl (gm_fld_of ho1 f10) ?_
  refine gm_ev.iload i86_51 rfl ?_
  refine gm_ev.aaload (x := some r13) i86_53 (gm_aq_of ha11 ek12 lk12 ba11 qk12) ?_
  refine gm_ev.getfield (v := .ref r15) i86_54 rfl (gm_fld_of ho14 f16) ?_
  refine gm_ev.getfield (v := .int x18) i86_57 rfl (gm_fld_of ho17 f19) ?_
  refine gm_ev.aload_n i86_60 rfl ?_
  refine gm_ev.getfield (v := .int x20) i86_61 rfl (gm_fld_of ho5 f21) ?_
  refine gm_ev.icmp_ne_t (tgt := 83) i86_64 (by decide) c22 ?_
  refine gm_ev.iinc (v := u4 + (1 : Int32)) (ls' := [some (.ref q), some (.int u1), some (.int u2), some (.ref a3), some (.int (u4 + (1 : Int32)))]) i86_83 rfl (by rfl) rfl ?_
  refine gm_ev.goto (tgt := 30) i86_86 (by decide) ?_
  exact k
theorem c_X8_deniesItself_30_ffft_at30 {N0 : Nat} {K : Nat → Nat} {d : Nat} {M : gm_H} {sz sl : Nat} {R : gm_R} {q : Nat} {u1 : Int32} {u2 : Int32} {a3 : Nat} {u4 : Int32} {fso1 : List Value} {x2 : Int32} {fso5 : List Value} {x6 : Int32} {r9 : Nat} {na11 : Nat} {fa11 : Nat → Option Nat} {k12 : Nat} {r13 : Nat} {fso14 : List Value} {r15 : Nat} {fso17 : List Value} {x18 : Int32} {x20 : Int32} {r23 : Nat} {na25 : Nat} {fa25 : Nat → Int32} {k26 : Nat} (ho1 : M q = some (.inr (8, fso1))) (f3 : fso1[1]? = some (.int x2)) (c4 : ¬ x2 ≤ u4) (ho5 : M a3 = some (.inr (5, fso5))) (f7 : fso5[0]? = some (.int x6)) (c8 : x6 = (1 : Int32)) (f10 : fso1[0]? = some (.ref r9)) (ha11 : M r9 = some (.inl (.object "RuleArena$Rule", na11, .inr (.inr (.inr (.inr fa11)))))) (ba11 : na11 < 2 ^ 31) (ek12 : u4 = nI k12) (lk12 : k12 < na11) (qk12 : fa11 k12 = some r13) (ho14 : M r13 = some (.inr (7, fso14))) (f16 : fso14[0]? = some (.ref r15)) (ho17 : M r15 = some (.inr (5, fso17))) (f19 : fso17[1]? = some (.int x18)) (f21 : fso5[1]? = some (.int x20)) (c22 : x18 = x20) (f24 : fso1[3]? = some (.ref r23)) (ha25 : M r23 = some (.inl (.int, na25, .inl fa25))) (ba25 : na25 < 2 ^ 31) (ek26 : u4 = nI k26) (lk26 : k26 < na25) (c27 : (((((fa25 k26)).toUInt32 >>> ((u1).toUInt32 &&& Int32.toUInt32 31)).toInt32) &&& (1 : Int32)) = 0) (k : gm_ev N0 K ra_nm (ra_mt K) d (some .boolean) (gm_I cX8_deniesItself) (gm_lkf (lkX8 false K)) 30 [some (.ref q), some (.int u1), some (.int u2), some (.ref a3), some (.int (u4 + (1 : Int32)))] [] M sz sl R) : gm_ev N0 K ra_nm (ra_mt K) d (some .boolean) (gm_I cX8_deniesItself) (gm_lkf (lkX8 false K)) 30 [some (.ref q), some (.int u1), some (.int u2), some (.ref a3), some (.int u4)] [] M sz sl R := by
  refine gm_ev.iload i86_30 rfl ?_
  refine gm_ev.aload_n i86_32 rfl ?_
  refine gm_ev.getfield (v := .int x2) i86_33 rfl (gm_fld_of ho1 f3) ?_
  refine gm_ev.icmp_ge_f i86_36 c4 ?_
  refine gm_ev.aload_n i86_39 rfl ?_
  refine gm_ev.getfield (v := .int x6) i86_40 rfl (gm_fld_of ho5 f7) ?_
  refine gm_ev.iconst (v := 1) i86_43 (by decide) ?_
  refine gm_ev.icmp_ne_f i86_44 c8 ?_
  refine gm_ev.aload_n i86_47 rfl ?_
  refine gm_ev.getfield (v := .ref r9) i86_48 rfl (gm_fld_of ho1 f10) ?_
  refine gm_ev.iload i86_51 rfl ?_
  refine gm_ev.aaload (x := some r13) i86_53 (gm_aq_of ha11 ek12 lk12 ba11 qk12) ?_
  refine gm_ev.getfield (v := .ref r15) i86_54 rfl (gm_fld_of ho14 f16) ?_
  refine gm_ev.getfield (v := .int x18) i86_57 rfl (gm_fld_of ho17 f19) ?_
  refine gm_ev.aload_n i86_60 rfl ?_
  refine gm_ev.getfield (v := .int x20) i86_61 rfl (gm_fld_of ho5 f21) ?_
  refine gm_ev.icmp_ne_f i86_64 c22 ?_
  refine gm_ev.aload_n i86_67 rfl ?_
  refine gm_ev.getfield (v := .ref r23) i86_68 rfl (gm_fld_of ho1 f24) ?_
  refine gm_ev.iload i86_71 rfl ?_
  refine gm_ev.iaload i86_73 (gm_ai_of ha25 ek26 lk26 ba25) ?_
  refine gm_ev.iload_n i86_74 rfl ?_
  refine gm_ev.iushr i86_75 ?_
  refine gm_ev.iconst (v := 1) i86_76 (by decide) ?_
  refine gm_ev.iand i86_77 ?_
  refine gm_ev.if_eq_t (tgt := 83) i86_78 (by decide) c27 ?_
  refine gm_ev.iinc (v := u4 + (1 : Int32)) (ls' := [some (.ref q), some (.int u1), some (.int u2), some (.ref a3), some (.int (u4 + (1 : Int32)))]) i86_83 rfl (by rfl) rfl ?_
  refine gm_ev.goto (tgt := 30) i86_86 (by decide) ?_
  exact k
theorem c_X8_deniesItself_30_ffff {N0 : Nat} {K : Nat → Nat} {d : Nat} {M : gm_H} {sz sl : Nat} {q : Nat} {u1 : Int32} {u2 : Int32} {a3 : Nat} {u4 : Int32} {fso1 : List Value} {x2 : Int32} {fso5 : List Value} {x6 : Int32} {r9 : Nat} {na11 : Nat} {fa11 : Nat → Option Nat} {k12 : Nat} {r13 : Nat} {fso14 : List Value} {r15 : Nat} {fso17 : List Value} {x18 : Int32} {x20 : Int32} {r23 : Nat} {na25 : Nat} {fa25 : Nat → Int32} {k26 : Nat} (ho1 : M q = some (.inr (8, fso1))) (f3 : fso1[1]? = some (.int x2)) (c4 : ¬ x2 ≤ u4) (ho5 : M a3 = some (.inr (5, fso5))) (f7 : fso5[0]? = some (.int x6)) (c8 : x6 = (1 : Int32)) (f10 : fso1[0]? = some (.ref r9)) (ha11 : M r9 = some (.inl (.object "RuleArena$Rule", na11, .inr (.inr (.inr (.inr fa11)))))) (ba11 : na11 < 2 ^ 31) (ek12 : u4 = nI k12) (lk12 : k12 < na11) (qk12 : fa11 k12 = some r13) (ho14 : M r13 = some (.inr (7, fso14))) (f16 : fso14[0]? = some (.ref r15)) (ho17 : M r15 = some (.inr (5, fso17))) (f19 : fso17[1]? = some (.int x18)) (f21 : fso5[1]? = some (.int x20)) (c22 : x18 = x20) (f24 : fso1[3]? = some (.ref r23)) (ha25 : M r23 = some (.inl (.int, na25, .inl fa25))) (ba25 : na25 < 2 ^ 31) (ek26 : u4 = nI k26) (lk26 : k26 < na25) (c27 : ¬ (((((fa25 k26)).toUInt32 >>> ((u1).toUInt32 &&& Int32.toUInt32 31)).toInt32) &&& (1 : Int32)) = 0) : gm_ev N0 K ra_nm (ra_mt K) d (some .boolean) (gm_I cX8_deniesItself) (gm_lkf (lkX8 false K)) 30 [some (.ref q), some (.int u1), some (.int u2), some (.ref a3), some (.int u4)] [] M sz sl (.returned (some (.int (1 : Int32))), M, sz, sl) := by
  refine gm_ev.iload i86_30 rfl ?_
  refine gm_ev.aload_n i86_32 rfl ?_
  refine gm_ev.getfield (v := .int x2) i86_33 rfl (gm_fld_of ho1 f3) ?_
  refine gm_ev.icmp_ge_f i86_36 c4 ?_
  refine gm_ev.aload_n i86_39 rfl ?_
  refine gm_ev.getfield (v := .int x6) i86_40 rfl (gm_fld_of ho5 f7) ?_
  refine gm_ev.iconst (v := 1) i86_43 (by decide) ?_
  refine gm_ev.icmp_ne_f i86_44 c8 ?_
  refine gm_ev.aload_n i86_47 rfl ?_
  refine gm_ev.getfield (v := .ref r9) i86_48 rfl (gm_fld_of ho1 f10) ?_
  refine gm_ev.iload i86_51 rfl ?_
  refine gm_ev.aaload (x := some r13) i86_53 (gm_aq_of ha11 ek12 lk12 ba11 qk12) ?_
  refine gm_ev.getfield (v := .ref r15) i86_54 rfl (gm_fld_of ho14 f16) ?_
  refine gm_ev.getfield (v := .int x18) i86_57 rfl (gm_fld_of ho17 f19) ?_
  refine gm_ev.aload_n i86_60 rfl ?_
  refine gm_ev.getfield (v := .int x20) i86_61 rfl (gm_fld_of ho5 f21) ?_
  refine gm_ev.icmp_ne_f i86_64 c22 ?_
  refine gm_ev.aload_n i86_67 rfl ?_
  refine gm_ev.getfield (v := .ref r23) i86_68 rfl (gm_fld_of ho1 f24) ?_
  refine gm_ev.iload i86_71 rfl ?_
  refine gm_ev.iaload i86_73 (gm_ai_of ha25 ek26 lk26 ba25) ?_
  refine gm_ev.iload_n i86_74 rfl ?_
  refine gm_ev.iushr i86_75 ?_
  refine gm_ev.iconst (v := 1) i86_76 (by decide) ?_
  refine gm_ev.iand i86_77 ?_
  refine gm_ev.if_eq_f i86_78 c27 ?_
  refine gm_ev.iconst (v := 1) i86_81 (by decide) ?_
  exact gm_ev.zret i86_82 rfl (by decide)
theorem c_X8_looksAhead_0_s1t {N0 : Nat} {K : Nat → Nat} {d : Nat} {M : gm_H} {sz sl : Nat} {q : Nat} {p0 : Int32} {fso1 : List Value} {r2 : Nat} {na4 : Nat} {fa4 : Nat → Option Nat} {k5 : Nat} {r6 : Nat} {fso7 : List Value} {r8 : Nat} {fso10 : List Value} {x11 : Int32} {r14 : Nat} {na16 : Nat} {fa16 : Nat → Int32} {k17 : Nat} (ho1 : M q = some (.inr (8, fso1))) (f3 : fso1[0]? = some (.ref r2)) (ha4 : M r2 = some (.inl (.object "RuleArena$Rule", na4, .inr (.inr (.inr (.inr fa4)))))) (ba4 : na4 < 2 ^ 31) (ek5 : p0 = nI k5) (lk5 : k5 < na4) (qk5 : fa4 k5 = some r6) (ho7 : M r6 = some (.inr (7, fso7))) (f9 : fso7[0]? = some (.ref r8)) (ho10 : M r8 = some (.inr (5, fso10))) (f12 : fso10[1]? = some (.int x11)) (c13 : x11 = 1) (f15 : fso1[4]? = some (.ref r14)) (ha16 : M r14 = some (.inl (.int, na16, .inl fa16))) (ba16 : na16 < 2 ^ 31) (ek17 : p0 = nI k17) (lk17 : k17 < na16) (c18 : ((fa16 k17) &&& (244 : Int32)) = 0) : gm_ev N0 K ra_nm (ra_mt K) d (some .boolean) (gm_I cX8_looksAhead) (gm_lkf (lkX8 false K)) 0 [some (.ref q), some (.int p0)] [] M sz sl (.returned (some (.int (0 : Int32))), M, sz, sl) := by
  refine gm_ev.aload_n i87_0 rfl ?_
  refine gm_ev.getfield (v := .ref r2) i87_1 rfl (gm_fld_of ho1 f3) ?_
  refine gm_ev.iload_n i87_4 rfl ?_
  refine gm_ev.aaload (x := some r6) i87_5 (gm_aq_of ha4 ek5 lk5 ba4 qk5) ?_
  refine gm_ev.getfield (v := .ref r8) i87_6 rfl (gm_fld_of ho7 f9) ?_
  refine gm_ev.getfield (v := .int x11) i87_9 rfl (gm_fld_of ho10 f12) ?_
  refine gm_ev.tableIn (tgt := 56) (off := 44) i87_12 (by rw [c13]; decide) (by rw [c13]; decide) (by decide) ?_
  refine gm_ev.aload_n i87_56 rfl ?_
  refine gm_ev.getfield (v := .ref r14) i87_57 rfl (gm_fld_of ho1 f15) ?_
  refine gm_ev.iload_n i87_60 rfl ?_
  refine gm_ev.iaload i87_61 (gm_ai_of ha16 ek17 lk17 ba16) ?_
  refine gm_ev.sipush (v := 244) i87_62 (by decide) ?_
  refine gm_ev.iand i87_65 ?_
  refine gm_ev.if_eq_t (tgt := 73) i87_66 (by decide) c18 ?_
  refine gm_ev.iconst (v := 0) i87_73 (by decide) ?_
  exact gm_ev.zret i87_74 rfl (by decide)
theorem c_X8_looksAhead_0_s1f {N0 : Nat} {K : Nat → Nat} {d : Nat} {M : gm_H} {sz sl : Nat} {q : Nat} {p0 : Int32} {fso1 : List Value} {r2 : Nat} {na4 : Nat} {fa4 : Nat → Option Nat} {k5 : Nat} {r6 : Nat} {fso7 : List Value} {r8 : Nat} {fso10 : List Value} {x11 : Int32} {r14 : Nat} {na16 : Nat} {fa16 : Nat → Int32} {k17 : Nat} (ho1 : M q = some (.inr (8, fso1))) (f3 : fso1[0]? = some (.ref r2)) (ha4 : M r2 = some (.inl (.object "RuleArena$Rule", na4, .inr (.inr (.inr (.inr fa4)))))) (ba4 : na4 < 2 ^ 31) (ek5 : p0 = nI k5) (lk5 : k5 < na4) (qk5 : fa4 k5 = some r6) (ho7 : M r6 = some (.inr (7, fso7))) (f9 : fso7[0]? = some (.ref r8)) (ho10 : M r8 = some (.inr (5, fso10))) (f12 : fso10[1]? = some (.int x11)) (c13 : x11 = 1) (f15 : fso1[4]? = some (.ref r14)) (ha16 : M r14 = some (.inl (.int, na16, .inl fa16))) (ba16 : na16 < 2 ^ 31) (ek17 : p0 = nI k17) (lk17 : k17 < na16) (c18 : ¬ ((fa16 k17) &&& (244 : Int32)) = 0) : gm_ev N0 K ra_nm (ra_mt K) d (some .boolean) (gm_I cX8_looksAhead) (gm_lkf (lkX8 false K)) 0 [some (.ref q), some (.int p0)] [] M sz sl (.returned (some (.int (1 : Int32))), M, sz, sl) := by
  refine gm_ev.aload_n i87_0 rfl ?_
  refine gm_ev.getfield (v := .ref r2) i87_1 rfl (gm_fld_of ho1 f3) ?_
  refine gm_ev.iload_n i87_4 rfl ?_
  refine gm_ev.aaload (x := some r6) i87_5 (gm_aq_of ha4 ek5 lk5 ba4 qk5) ?_
  refine gm_ev.getfield (v := .ref r8) i87_6 rfl (gm_fld_of ho7 f9) ?_
  refine gm_ev.getfield (v := .int x11) i87_9 rfl (gm_fld_of ho10 f12) ?_
  refine gm_ev.tableIn (tgt := 56) (off := 44) i87_12 (by rw [c13]; decide) (by rw [c13]; decide) (by decide) ?_
  refine gm_ev.aload_n i87_56 rfl ?_
  refine gm_ev.getfield (v := .ref r14) i87_57 rfl (gm_fld_of ho1 f15) ?_
  refine gm_ev.iload_n i87_60 rfl ?_
  refine gm_ev.iaload i87_61 (gm_ai_of ha16 ek17 lk17 ba16) ?_
  refine gm_ev.sipush (v := 244) i87_62 (by decide) ?_
  refine gm_ev.iand i87_65 ?_
  refine gm_ev.if_eq_f i87_66 c18 ?_
  refine gm_ev.iconst (v := 1) i87_69 (by decide) ?_
  refine gm_ev.goto (tgt := 74) i87_70 (by decide) ?_
  exact gm_ev.zret i87_74 rfl (by decide)
theorem c_X8_looksAhead_0_s2 {N0 : Nat} {K : Nat → Nat} {d : Nat} {M : gm_H} {sz sl : Nat} {q : Nat} {p0 : Int32} {fso1 : List Value} {r2 : Nat} {na4 : Nat} {fa4 : Nat → Option Nat} {k5 : Nat} {r6 : Nat} {fso7 : List Value} {r8 : Nat} {fso10 : List Value} {x11 : Int32} (ho1 : M q = some (.inr (8, fso1))) (f3 : fso1[0]? = some (.ref r2)) (ha4 : M r2 = some (.inl (.object "RuleArena$Rule", na4, .inr (.inr (.inr (.inr fa4)))))) (ba4 : na4 < 2 ^ 31) (ek5 : p0 = nI k5) (lk5 : k5 < na4) (qk5 : fa4 k5 = some r6) (ho7 : M r6 = some (.inr (7, fso7))) (f9 : fso7[0]? = some (.ref r8)) (ho10 : M r8 = some (.inr (5, fso10))) (f12 : fso10[1]? = some (.int x11)) (c13 : x11 = 2) : gm_ev N0 K ra_nm (ra_mt K) d (some .boolean) (gm_I cX8_looksAhead) (gm_lkf (lkX8 false K)) 0 [some (.ref q), some (.int p0)] [] M sz sl (.returned (some (.int (0 : Int32))), M, sz, sl) := by
  refine gm_ev.aload_n i87_0 rfl ?_
  refine gm_ev.getfield (v := .ref r2) i87_1 rfl (gm_fld_of ho1 f3) ?_
  refine gm_ev.iload_n i87_4 rfl ?_
  refine gm_ev.aaload (x := some r6) i87_5 (gm_aq_of ha4 ek5 lk5 ba4 qk5) ?_
  refine gm_ev.getfield (v := .ref r8) i87_6 rfl (gm_fld_of ho7 f9) ?_
  refine gm_ev.getfield (v := .int x11) i87_9 rfl (gm_fld_of ho10 f12) ?_
  refine gm_ev.tableIn (tgt := 93) (off := 81) i87_12 (by rw [c13]; decide) (by rw [c13]; decide) (by decide) ?_
  refine gm_ev.iconst (v := 0) i87_93 (by decide) ?_
  exact gm_ev.zret i87_94 rfl (by decide)
theorem c_X8_looksAhead_0_s3 {N0 : Nat} {K : Nat → Nat} {d : Nat} {M : gm_H} {sz sl : Nat} {q : Nat} {p0 : Int32} {fso1 : List Value} {r2 : Nat} {na4 : Nat} {fa4 : Nat → Option Nat} {k5 : Nat} {r6 : Nat} {fso7 : List Value} {r8 : Nat} {fso10 : List Value} {x11 : Int32} (ho1 : M q = some (.inr (8, fso1))) (f3 : fso1[0]? = some (.ref r2)) (ha4 : M r2 = some (.inl (.object "RuleArena$Rule", na4, .inr (.inr (.inr (.inr fa4)))))) (ba4 : na4 < 2 ^ 31) (ek5 : p0 = nI k5) (lk5 : k5 < na4) (qk5 : fa4 k5 = some r6) (ho7 : M r6 = some (.inr (7, fso7))) (f9 : fso7[0]? = some (.ref r8)) (ho10 : M r8 = some (.inr (5, fso10))) (f12 : fso10[1]? = some (.int x11)) (c13 : x11 = 3) : gm_ev N0 K ra_nm (ra_mt K) d (some .boolean) (gm_I cX8_looksAhead) (gm_lkf (lkX8 false K)) 0 [some (.ref q), some (.int p0)] [] M sz sl (.returned (some (.int (0 : Int32))), M, sz, sl) := by
  refine gm_ev.aload_n i87_0 rfl ?_
  refine gm_ev.getfield (v := .ref r2) i87_1 rfl (gm_fld_of ho1 f3) ?_
  refine gm_ev.iload_n i87_4 rfl ?_
  refine gm_ev.aaload (x := some r6) i87_5 (gm_aq_of ha4 ek5 lk5 ba4 qk5) ?_
  refine gm_ev.getfield (v := .ref r8) i87_6 rfl (gm_fld_of ho7 f9) ?_
  refine gm_ev.getfield (v := .int x11) i87_9 rfl (gm_fld_of ho10 f12) ?_
  refine gm_ev.tableIn (tgt := 93) (off := 81) i87_12 (by rw [c13]; decide) (by rw [c13]; decide) (by decide) ?_
  refine gm_ev.iconst (v := 0) i87_93 (by decide) ?_
  exact gm_ev.zret i87_94 rfl (by decide)
theorem c_X8_looksAhead_0_s4 {N0 : Nat} {K : Nat → Nat} {d : Nat} {M : gm_H} {sz sl : Nat} {q : Nat} {p0 : Int32} {fso1 : List Value} {r2 : Nat} {na4 : Nat} {fa4 : Nat → Option Nat} {k5 : Nat} {r6 : Nat} {fso7 : List Value} {r8 : Nat} {fso10 : List Value} {x11 : Int32} (ho1 : M q = some (.inr (8, fso1))) (f3 : fso1[0]? = some (.ref r2)) (ha4 : M r2 = some (.inl (.object "RuleArena$Rule", na4, .inr (.inr (.inr (.inr fa4)))))) (ba4 : na4 < 2 ^ 31) (ek5 : p0 = nI k5) (lk5 : k5 < na4) (qk5 : fa4 k5 = some r6) (ho7 : M r6 = some (.inr (7, fso7))) (f9 : fso7[0]? = some (.ref r8)) (ho10 : M r8 = some (.inr (5, fso10))) (f12 : fso10[1]? = some (.int x11)) (c13 : x11 = 4) : gm_ev N0 K ra_nm (ra_mt K) d (some .boolean) (gm_I cX8_looksAhead) (gm_lkf (lkX8 false K)) 0 [some (.ref q), some (.int p0)] [] M sz sl (.returned (some (.int (0 : Int32))), M, sz, sl) := by
  refine gm_ev.aload_n i87_0 rfl ?_
  refine gm_ev.getfield (v := .ref r2) i87_1 rfl (gm_fld_of ho1 f3) ?_
  refine gm_ev.iload_n i87_4 rfl ?_
  refine gm_ev.aaload (x := some r6) i87_5 (gm_aq_of ha4 ek5 lk5 ba4 qk5) ?_
  refine gm_ev.getfield (v := .ref r8) i87_6 rfl (gm_fld_of ho7 f9) ?_
  refine gm_ev.getfield (v := .int x11) i87_9 rfl (gm_fld_of ho10 f12) ?_
  refine gm_ev.tableIn (tgt := 93) (off := 81) i87_12 (by rw [c13]; decide) (by rw [c13]; decide) (by decide) ?_
  refine gm_ev.iconst (v := 0) i87_93 (by decide) ?_
  exact gm_ev.zret i87_94 rfl (by decide)
theorem c_X8_looksAhead_0_s5t {N0 : Nat} {K : Nat → Nat} {d : Nat} {M : gm_H} {sz sl : Nat} {q : Nat} {p0 : Int32} {fso1 : List Value} {r2 : Nat} {na4 : Nat} {fa4 : Nat → Option Nat} {k5 : Nat} {r6 : Nat} {fso7 : List Value} {r8 : Nat} {fso10 : List Value} {x11 : Int32} {r14 : Nat} {na16 : Nat} {fa16 : Nat → Int32} {k17 : Nat} (ho1 : M q = some (.inr (8, fso1))) (f3 : fso1[0]? = some (.ref r2)) (ha4 : M r2 = some (.inl (.object "RuleArena$Rule", na4, .inr (.inr (.inr (.inr fa4)))))) (ba4 : na4 < 2 ^ 31) (ek5 : p0 = nI k5) (lk5 : k5 < na4) (qk5 : fa4 k5 = some r6) (ho7 : M r6 = some (.inr (7, fso7))) (f9 : fso7[0]? = some (.ref r8)) (ho10 : M r8 = some (.inr (5, fso10))) (f12 : fso10[1]? = some (.int x11)) (c13 : x11 = 5) (f15 : fso1[4]? = some (.ref r14)) (ha16 : M r14 = some (.inl (.int, na16, .inl fa16))) (ba16 : na16 < 2 ^ 31) (ek17 : p0 = nI k17) (lk17 : k17 < na16) (c18 : ((fa16 k17) &&& (16 : Int32)) = 0) : gm_ev N0 K ra_nm (ra_mt K) d (some .boolean) (gm_I cX8_looksAhead) (gm_lkf (lkX8 false K)) 0 [some (.ref q), some (.int p0)] [] M sz sl (.returned (some (.int (0 : Int32))), M, sz, sl) := by
  refine gm_ev.aload_n i87_0 rfl ?_
  refine gm_ev.getfield (v := .ref r2) i87_1 rfl (gm_fld_of ho1 f3) ?_
  refine gm_ev.iload_n i87_4 rfl ?_
  refine gm_ev.aaload (x := some r6) i87_5 (gm_aq_of ha4 ek5 lk5 ba4 qk5) ?_
  refine gm_ev.getfield (v := .ref r8) i87_6 rfl (gm_fld_of ho7 f9) ?_
  refine gm_ev.getfield (v := .int x11) i87_9 rfl (gm_fld_of ho10 f12) ?_
  refine gm_ev.tableIn (tgt := 75) (off := 63) i87_12 (by rw [c13]; decide) (by rw [c13]; decide) (by decide) ?_
  refine gm_ev.aload_n i87_75 rfl ?_
  refine gm_ev.getfield (v := .ref r14) i87_76 rfl (gm_fld_of ho1 f15) ?_
  refine gm_ev.iload_n i87_79 rfl ?_
  refine gm_ev.iaload i87_80 (gm_ai_of ha16 ek17 lk17 ba16) ?_
  refine gm_ev.bipush (v := 16) i87_81 (by decide) ?_
  refine gm_ev.iand i87_83 ?_
  refine gm_ev.if_eq_t (tgt := 91) i87_84 (by decide) c18 ?_
  refine gm_ev.iconst (v := 0) i87_91 (by decide) ?_
  exact gm_ev.zret i87_92 rfl (by decide)
theorem c_X8_looksAhead_0_s5f {N0 : Nat} {K : Nat → Nat} {d : Nat} {M : gm_H} {sz sl : Nat} {q : Nat} {p0 : Int32} {fso1 : List Value} {r2 : Nat} {na4 : Nat} {fa4 : Nat → Option Nat} {k5 : Nat} {r6 : Nat} {fso7 : List Value} {r8 : Nat} {fso10 : List Value} {x11 : Int32} {r14 : Nat} {na16 : Nat} {fa16 : Nat → Int32} {k17 : Nat} (ho1 : M q = some (.inr (8, fso1))) (f3 : fso1[0]? = some (.ref r2)) (ha4 : M r2 = some (.inl (.object "RuleArena$Rule", na4, .inr (.inr (.inr (.inr fa4)))))) (ba4 : na4 < 2 ^ 31) (ek5 : p0 = nI k5) (lk5 : k5 < na4) (qk5 : fa4 k5 = some r6) (ho7 : M r6 = some (.inr (7, fso7))) (f9 : fso7[0]? = some (.ref r8)) (ho10 : M r8 = some (.inr (5, fso10))) (f12 : fso10[1]? = some (.int x11)) (c13 : x11 = 5) (f15 : fso1[4]? = some (.ref r14)) (ha16 : M r14 = some (.inl (.int, na16, .inl fa16))) (ba16 : na16 < 2 ^ 31) (ek17 : p0 = nI k17) (lk17 : k17 < na16) (c18 : ¬ ((fa16 k17) &&& (16 : Int32)) = 0) : gm_ev N0 K ra_nm (ra_mt K) d (some .boolean) (gm_I cX8_looksAhead) (gm_lkf (lkX8 false K)) 0 [some (.ref q), some (.int p0)] [] M sz sl (.returned (some (.int (1 : Int32))), M, sz, sl) := by
  refine gm_ev.aload_n i87_0 rfl ?_
  refine gm_ev.getfield (v := .ref r2) i87_1 rfl (gm_fld_of ho1 f3) ?_
  refine gm_ev.iload_n i87_4 rfl ?_
  refine gm_ev.aaload (x := some r6) i87_5 (gm_aq_of ha4 ek5 lk5 ba4 qk5) ?_
  refine gm_ev.getfield (v := .ref r8) i87_6 rfl (gm_fld_of ho7 f9) ?_
  refine gm_ev.getfield (v := .int x11) i87_9 rfl (gm_fld_of ho10 f12) ?_
  refine gm_ev.tableIn (tgt := 75) (off := 63) i87_12 (by rw [c13]; decide) (by rw [c13]; decide) (by decide) ?_
  refine gm_ev.aload_n i87_75 rfl ?_
  refine gm_ev.getfield (v := .ref r14) i87_76 rfl (gm_fld_of ho1 f15) ?_
  refine gm_ev.iload_n i87_79 rfl ?_
  refine gm_ev.iaload i87_80 (gm_ai_of ha16 ek17 lk17 ba16) ?_
  refine gm_ev.bipush (v := 16) i87_81 (by decide) ?_
  refine gm_ev.iand i87_83 ?_
  refine gm_ev.if_eq_f i87_84 c18 ?_
  refine gm_ev.iconst (v := 1) i87_87 (by decide) ?_
  refine gm_ev.goto (tgt := 92) i87_88 (by decide) ?_
  exact gm_ev.zret i87_92 rfl (by decide)
theorem c_X8_looksAhead_0_s6t {N0 : Nat} {K : Nat → Nat} {d : Nat} {M : gm_H} {sz sl : Nat} {q : Nat} {p0 : Int32} {fso1 : List Value} {r2 : Nat} {na4 : Nat} {fa4 : Nat → Option Nat} {k5 : Nat} {r6 : Nat} {fso7 : List Value} {r8 : Nat} {fso10 : List Value} {x11 : Int32} {r14 : Nat} {na16 : Nat} {fa16 : Nat → Int32} {k17 : Nat} (ho1 : M q = some (.inr (8, fso1))) (f3 : fso1[0]? = some (.ref r2)) (ha4 : M r2 = some (.inl (.object "RuleArena$Rule", na4, .inr (.inr (.inr (.inr fa4)))))) (ba4 : na4 < 2 ^ 31) (ek5 : p0 = nI k5) (lk5 : k5 < na4) (qk5 : fa4 k5 = some r6) (ho7 : M r6 = some (.inr (7, fso7))) (f9 : fso7[0]? = some (.ref r8)) (ho10 : M r8 = some (.inr (5, fso10))) (f12 : fso10[1]? = some (.int x11)) (c13 : x11 = 6) (f15 : fso1[4]? = some (.ref r14)) (ha16 : M r14 = some (.inl (.int, na16, .inl fa16))) (ba16 : na16 < 2 ^ 31) (ek17 : p0 = nI k17) (lk17 : k17 < na16) (c18 : ((fa16 k17) &&& (16 : Int32)) = 0) : gm_ev N0 K ra_nm (ra_mt K) d (some .boolean) (gm_I cX8_looksAhead) (gm_lkf (lkX8 false K)) 0 [some (.ref q), some (.int p0)] [] M sz sl (.returned (some (.int (0 : Int32))), M, sz, sl) := by
  refine gm_ev.aload_n i87_0 rfl ?_
  refine gm_ev.getfield (v := .ref r2) i87_1 rfl (gm_fld_of ho1 f3) ?_
  refine gm_ev.iload_n i87_4 rfl ?_
  refine gm_ev.aaload (x := some r6) i87_5 (gm_aq_of ha4 ek5 lk5 ba4 qk5) ?_
  refine gm_ev.getfield (v := .ref r8) i87_6 rfl (gm_fld_of ho7 f9) ?_
  refine gm_ev.getfield (v := .int x11) i87_9 rfl (gm_fld_of ho10 f12) ?_
  refine gm_ev.tableIn (tgt := 75) (off := 63) i87_12 (by rw [c13]; decide) (by rw [c13]; decide) (by decide) ?_
  refine gm_ev.aload_n i87_75 rfl ?_
  refine gm_ev.getfield (v := .ref r14) i87_76 rfl (gm_fld_of ho1 f15) ?_
  refine gm_ev.iload_n i87_79 rfl ?_
  refine gm_ev.iaload i87_80 (gm_ai_of ha16 ek17 lk17 ba16) ?_
  refine gm_ev.bipush (v := 16) i87_81 (by decide) ?_
  refine gm_ev.iand i87_83 ?_
  refine gm_ev.if_eq_t (tgt := 91) i87_84 (by decide) c18 ?_
  refine gm_ev.iconst (v := 0) i87_91 (by decide) ?_
  exact gm_ev.zret i87_92 rfl (by decide)
theorem c_X8_looksAhead_0_s6f {N0 : Nat} {K : Nat → Nat} {d : Nat} {M : gm_H} {sz sl : Nat} {q : Nat} {p0 : Int32} {fso1 : List Value} {r2 : Nat} {na4 : Nat} {fa4 : Nat → Option Nat} {k5 : Nat} {r6 : Nat} {fso7 : List Value} {r8 : Nat} {fso10 : List Value} {x11 : Int32} {r14 : Nat} {na16 : Nat} {fa16 : Nat → Int32} {k17 : Nat} (ho1 : M q = some (.inr (8, fso1))) (f3 : fso1[0]? = some (.ref r2)) (ha4 : M r2 = some (.inl (.object "RuleArena$Rule", na4, .inr (.inr (.inr (.inr fa4)))))) (ba4 : na4 < 2 ^ 31) (ek5 : p0 = nI k5) (lk5 : k5 < na4) (qk5 : fa4 k5 = some r6) (ho7 : M r6 = some (.inr (7, fso7))) (f9 : fso7[0]? = some (.ref r8)) (ho10 : M r8 = some (.inr (5, fso10))) (f12 : fso10[1]? = some (.int x11)) (c13 : x11 = 6) (f15 : fso1[4]? = some (.ref r14)) (ha16 : M r14 = some (.inl (.int, na16, .inl fa16))) (ba16 : na16 < 2 ^ 31) (ek17 : p0 = nI k17) (lk17 : k17 < na16) (c18 : ¬ ((fa16 k17) &&& (16 : Int32)) = 0) : gm_ev N0 K ra_nm (ra_mt K) d (some .boolean) (gm_I cX8_looksAhead) (gm_lkf (lkX8 false K)) 0 [some (.ref q), some (.int p0)] [] M sz sl (.returned (some (.int (1 : Int32))), M, sz, sl) := by
  refine gm_ev.aload_n i87_0 rfl ?_
  refine gm_ev.getfield (v := .ref r2) i87_1 rfl (gm_fld_of ho1 f3) ?_
  refine gm_ev.iload_n i87_4 rfl ?_
  refine gm_ev.aaload (x := some r6) i87_5 (gm_aq_of ha4 ek5 lk5 ba4 qk5) ?_
  refine gm_ev.getfield (v := .ref r8) i87_6 rfl (gm_fld_of ho7 f9) ?_
  refine gm_ev.getfield (v := .int x11) i87_9 rfl (gm_fld_of ho10 f12) ?_
  refine gm_ev.tableIn (tgt := 75) (off := 63) i87_12 (by rw [c13]; decide) (by rw [c13]; decide) (by decide) ?_
  refine gm_ev.aload_n i87_75 rfl ?_
  refine gm_ev.getfield (v := .ref r14) i87_76 rfl (gm_fld_of ho1 f15) ?_
  refine gm_ev.iload_n i87_79 rfl ?_
  refine gm_ev.iaload i87_80 (gm_ai_of ha16 ek17 lk17 ba16) ?_
  refine gm_ev.bipush (v := 16) i87_81 (by decide) ?_
  refine gm_ev.iand i87_83 ?_
  refine gm_ev.if_eq_f i87_84 c18 ?_
  refine gm_ev.iconst (v := 1) i87_87 (by decide) ?_
  refine gm_ev.goto (tgt := 92) i87_88 (by decide) ?_
  exact gm_ev.zret i87_92 rfl (by decide)
theorem c_X8_looksAhead_0_s7t {N0 : Nat} {K : Nat → Nat} {d : Nat} {M : gm_H} {sz sl : Nat} {q : Nat} {p0 : Int32} {fso1 : List Value} {r2 : Nat} {na4 : Nat} {fa4 : Nat → Option Nat} {k5 : Nat} {r6 : Nat} {fso7 : List Value} {r8 : Nat} {fso10 : List Value} {x11 : Int32} {r14 : Nat} {na16 : Nat} {fa16 : Nat → Int32} {k17 : Nat} (ho1 : M q = some (.inr (8, fso1))) (f3 : fso1[0]? = some (.ref r2)) (ha4 : M r2 = some (.inl (.object "RuleArena$Rule", na4, .inr (.inr (.inr (.inr fa4)))))) (ba4 : na4 < 2 ^ 31) (ek5 : p0 = nI k5) (lk5 : k5 < na4) (qk5 : fa4 k5 = some r6) (ho7 : M r6 = some (.inr (7, fso7))) (f9 : fso7[0]? = some (.ref r8)) (ho10 : M r8 = some (.inr (5, fso10))) (f12 : fso10[1]? = some (.int x11)) (c13 : x11 = 7) (f15 : fso1[4]? = some (.ref r14)) (ha16 : M r14 = some (.inl (.int, na16, .inl fa16))) (ba16 : na16 < 2 ^ 31) (ek17 : p0 = nI k17) (lk17 : k17 < na16) (c18 : ((fa16 k17) &&& (16 : Int32)) = 0) : gm_ev N0 K ra_nm (ra_mt K) d (some .boolean) (gm_I cX8_looksAhead) (gm_lkf (lkX8 false K)) 0 [some (.ref q), some (.int p0)] [] M sz sl (.returned (some (.int (0 : Int32))), M, sz, sl) := by
  refine gm_ev.aload_n i87_0 rfl ?_
  refine gm_ev.getfield (v := .ref r2) i87_1 rfl (gm_fld_of ho1 f3) ?_
  refine gm_ev.iload_n i87_4 rfl ?_
  refine gm_ev.aaload (x := some r6) i87_5 (gm_aq_of ha4 ek5 lk5 ba4 qk5) ?_
  refine gm_ev.getfield (v := .ref r8) i87_6 rfl (gm_fld_of ho7 f9) ?_
  refine gm_ev.getfield (v := .int x11) i87_9 rfl (gm_fld_of ho10 f12) ?_
  refine gm_ev.tableIn (tgt := 75) (off := 63) i87_12 (by rw [c13]; decide) (by rw [c13]; decide) (by decide) ?_
  refine gm_ev.aload_n i87_75 rfl ?_
  refine gm_ev.getfield (v := .ref r14) i87_76 rfl (gm_fld_of ho1 f15) ?_
  refine gm_ev.iload_n i87_79 rfl ?_
  refine gm_ev.iaload i87_80 (gm_ai_of ha16 ek17 lk17 ba16) ?_
  refine gm_ev.bipush (v := 16) i87_81 (by decide) ?_
  refine gm_ev.iand i87_83 ?_
  refine gm_ev.if_eq_t (tgt := 91) i87_84 (by decide) c18 ?_
  refine gm_ev.iconst (v := 0) i87_91 (by decide) ?_
  exact gm_ev.zret i87_92 rfl (by decide)
theorem c_X8_looksAhead_0_s7f {N0 : Nat} {K : Nat → Nat} {d : Nat} {M : gm_H} {sz sl : Nat} {q : Nat} {p0 : Int32} {fso1 : List Value} {r2 : Nat} {na4 : Nat} {fa4 : Nat → Option Nat} {k5 : Nat} {r6 : Nat} {fso7 : List Value} {r8 : Nat} {fso10 : List Value} {x11 : Int32} {r14 : Nat} {na16 : Nat} {fa16 : Nat → Int32} {k17 : Nat} (ho1 : M q = some (.inr (8, fso1))) (f3 : fso1[0]? = some (.ref r2)) (ha4 : M r2 = some (.inl (.object "RuleArena$Rule", na4, .inr (.inr (.inr (.inr fa4)))))) (ba4 : na4 < 2 ^ 31) (ek5 : p0 = nI k5) (lk5 : k5 < na4) (qk5 : fa4 k5 = some r6) (ho7 : M r6 = some (.inr (7, fso7))) (f9 : fso7[0]? = some (.ref r8)) (ho10 : M r8 = some (.inr (5, fso10))) (f12 : fso10[1]? = some (.int x11)) (c13 : x11 = 7) (f15 : fso1[4]? = some (.ref r14)) (ha16 : M r14 = some (.inl (.int, na16, .inl fa16))) (ba16 : na16 < 2 ^ 31) (ek17 : p0 = nI k17) (lk17 : k17 < na16) (c18 : ¬ ((fa16 k17) &&& (16 : Int32)) = 0) : gm_ev N0 K ra_nm (ra_mt K) d (some .boolean) (gm_I cX8_looksAhead) (gm_lkf (lkX8 false K)) 0 [some (.ref q), some (.int p0)] [] M sz sl (.returned (some (.int (1 : Int32))), M, sz, sl) := by
  refine gm_ev.aload_n i87_0 rfl ?_
  refine gm_ev.getfield (v := .ref r2) i87_1 rfl (gm_fld_of ho1 f3) ?_
  refine gm_ev.iload_n i87_4 rfl ?_
  refine gm_ev.aaload (x := some r6) i87_5 (gm_aq_of ha4 ek5 lk5 ba4 qk5) ?_
  refine gm_ev.getfield (v := .ref r8) i87_6 rfl (gm_fld_of ho7 f9) ?_
  refine gm_ev.getfield (v := .int x11) i87_9 rfl (gm_fld_of ho10 f12) ?_
  refine gm_ev.tableIn (tgt := 75) (off := 63) i87_12 (by rw [c13]; decide) (by rw [c13]; decide) (by decide) ?_
  refine gm_ev.aload_n i87_75 rfl ?_
  refine gm_ev.getfield (v := .ref r14) i87_76 rfl (gm_fld_of ho1 f15) ?_
  refine gm_ev.iload_n i87_79 rfl ?_
  refine gm_ev.iaload i87_80 (gm_ai_of ha16 ek17 lk17 ba16) ?_
  refine gm_ev.bipush (v := 16) i87_81 (by decide) ?_
  refine gm_ev.iand i87_83 ?_
  refine gm_ev.if_eq_f i87_84 c18 ?_
  refine gm_ev.iconst (v := 1) i87_87 (by decide) ?_
  refine gm_ev.goto (tgt := 92) i87_88 (by decide) ?_
  exact gm_ev.zret i87_92 rfl (by decide)
theorem c_X8_looksAhead_0_sNone {N0 : Nat} {K : Nat → Nat} {d : Nat} {M : gm_H} {sz sl : Nat} {q : Nat} {p0 : Int32} {fso1 : List Value} {r2 : Nat} {na4 : Nat} {fa4 : Nat → Option Nat} {k5 : Nat} {r6 : Nat} {fso7 : List Value} {r8 : Nat} {fso10 : List Value} {x11 : Int32} (ho1 : M q = some (.inr (8, fso1))) (f3 : fso1[0]? = some (.ref r2)) (ha4 : M r2 = some (.inl (.object "RuleArena$Rule", na4, .inr (.inr (.inr (.inr fa4)))))) (ba4 : na4 < 2 ^ 31) (ek5 : p0 = nI k5) (lk5 : k5 < na4) (qk5 : fa4 k5 = some r6) (ho7 : M r6 = some (.inr (7, fso7))) (f9 : fso7[0]? = some (.ref r8)) (ho10 : M r8 = some (.inr (5, fso10))) (f12 : fso10[1]? = some (.int x11)) (c13 : x11.toInt < 1 ∨ 7 < x11.toInt) : gm_ev N0 K ra_nm (ra_mt K) d (some .boolean) (gm_I cX8_looksAhead) (gm_lkf (lkX8 false K)) 0 [some (.ref q), some (.int p0)] [] M sz sl (.returned (some (.int (0 : Int32))), M, sz, sl) := by
  refine gm_ev.aload_n i87_0 rfl ?_
  refine gm_ev.getfield (v := .ref r2) i87_1 rfl (gm_fld_of ho1 f3) ?_
  refine gm_ev.iload_n i87_4 rfl ?_
  refine gm_ev.aaload (x := some r6) i87_5 (gm_aq_of ha4 ek5 lk5 ba4 qk5) ?_
  refine gm_ev.getfield (v := .ref r8) i87_6 rfl (gm_fld_of ho7 f9) ?_
  refine gm_ev.getfield (v := .int x11) i87_9 rfl (gm_fld_of ho10 f12) ?_
  refine gm_ev.tableOut (tgt := 93) i87_12 c13 (by decide) ?_
  refine gm_ev.iconst (v := 0) i87_93 (by decide) ?_
  exact gm_ev.zret i87_94 rfl (by decide)
theorem c_X9_isLetter_0_t {N0 : Nat} {K : Nat → Nat} {d : Nat} {M : gm_H} {sz sl : Nat} {p0 : Int32} (c1 : p0 < (97 : Int32)) : gm_ev N0 K ra_nm (ra_mt K) d (some .boolean) (gm_I cX9_isLetter) (gm_lkf (lkX9 false K)) 0 [some (.int p0)] [] M sz sl (.returned (some (.int (0 : Int32))), M, sz, sl) := by
  refine gm_ev.iload_n i88_0 rfl ?_
  refine gm_ev.bipush (v := 97) i88_1 (by decide) ?_
  refine gm_ev.icmp_lt_t (tgt := 16) i88_3 (by decide) c1 ?_
  refine gm_ev.iconst (v := 0) i88_16 (by decide) ?_
  exact gm_ev.zret i88_17 rfl (by decide)
theorem c_X9_isLetter_0_ft {N0 : Nat} {K : Nat → Nat} {d : Nat} {M : gm_H} {sz sl : Nat} {p0 : Int32} (c1 : ¬ p0 < (97 : Int32)) (c2 : (122 : Int32) < p0) : gm_ev N0 K ra_nm (ra_mt K) d (some .boolean) (gm_I cX9_isLetter) (gm_lkf (lkX9 false K)) 0 [some (.int p0)] [] M sz sl (.returned (some (.int (0 : Int32))), M, sz, sl) := by
  refine gm_ev.iload_n i88_0 rfl ?_
  refine gm_ev.bipush (v := 97) i88_1 (by decide) ?_
  refine gm_ev.icmp_lt_f i88_3 c1 ?_
  refine gm_ev.iload_n i88_6 rfl ?_
  refine gm_ev.bipush (v := 122) i88_7 (by decide) ?_
  refine gm_ev.icmp_gt_t (tgt := 16) i88_9 (by decide) c2 ?_
  refine gm_ev.iconst (v := 0) i88_16 (by decide) ?_
  exact gm_ev.zret i88_17 rfl (by decide)
theorem c_X9_isLetter_0_ff {N0 : Nat} {K : Nat → Nat} {d : Nat} {M : gm_H} {sz sl : Nat} {p0 : Int32} (c1 : ¬ p0 < (97 : Int32)) (c2 : ¬ (122 : Int32) < p0) : gm_ev N0 K ra_nm (ra_mt K) d (some .boolean) (gm_I cX9_isLetter) (gm_lkf (lkX9 false K)) 0 [some (.int p0)] [] M sz sl (.returned (some (.int (1 : Int32))), M, sz, sl) := by
  refine gm_ev.iload_n i88_0 rfl ?_
  refine gm_ev.bipush (v := 97) i88_1 (by decide) ?_
  refine gm_ev.icmp_lt_f i88_3 c1 ?_
  refine gm_ev.iload_n i88_6 rfl ?_
  refine gm_ev.bipush (v := 122) i88_7 (by decide) ?_
  refine gm_ev.icmp_gt_f i88_9 c2 ?_
  refine gm_ev.iconst (v := 1) i88_12 (by decide) ?_
  refine gm_ev.goto (tgt := 17) i88_13 (by decide) ?_
  exact gm_ev.zret i88_17 rfl (by decide)
theorem c_X9_isVariable_0_t {N0 : Nat} {K : Nat → Nat} {d : Nat} {M : gm_H} {sz sl : Nat} {p0 : Int32} (c1 : p0 < (85 : Int32)) : gm_ev N0 K ra_nm (ra_mt K) d (some .boolean) (gm_I cX9_isVariable) (gm_lkf (lkX9 false K)) 0 [some (.int p0)] [] M sz sl (.returned (some (.int (0 : Int32))), M, sz, sl) := by
  refine gm_ev.iload_n i89_0 rfl ?_
  refine gm_ev.bipush (v := 85) i89_1 (by decide) ?_
  refine gm_ev.icmp_lt_t (tgt := 16) i89_3 (by decide) c1 ?_
  refine gm_ev.iconst (v := 0) i89_16 (by decide) ?_
  exact gm_ev.zret i89_17 rfl (by decide)
theorem c_X9_isVariable_0_ft {N0 : Nat} {K : Nat → Nat} {d : Nat} {M : gm_H} {sz sl : Nat} {p0 : Int32} (c1 : ¬ p0 < (85 : Int32)) (c2 : (90 : Int32) < p0) : gm_ev N0 K ra_nm (ra_mt K) d (some .boolean) (gm_I cX9_isVariable) (gm_lkf (lkX9 false K)) 0 [some (.int p0)] [] M sz sl (.returned (some (.int (0 : Int32))), M, sz, sl) := by
  refine gm_ev.iload_n i89_0 rfl ?_
  refine gm_ev.bipush (v := 85) i89_1 (by decide) ?_
  refine gm_ev.icmp_lt_f i89_3 c1 ?_
  refine gm_ev.iload_n i89_6 rfl ?_
  refine gm_ev.bipush (v := 90) i89_7 (by decide) ?_
  refine gm_ev.icmp_gt_t (tgt := 16) i89_9 (by decide) c2 ?_
  refine gm_ev.iconst (v := 0) i89_16 (by decide) ?_
  exact gm_ev.zret i89_17 rfl (by decide)
theorem c_X9_isVariable_0_ff {N0 : Nat} {K : Nat → Nat} {d : Nat} {M : gm_H} {sz sl : Nat} {p0 : Int32} (c1 : ¬ p0 < (85 : Int32)) (c2 : ¬ (90 : Int32) < p0) : gm_ev N0 K ra_nm (ra_mt K) d (some .boolean) (gm_I cX9_isVariable) (gm_lkf (lkX9 false K)) 0 [some (.int p0)] [] M sz sl (.returned (some (.int (1 : Int32))), M, sz, sl) := by
  refine gm_ev.iload_n i89_0 rfl ?_
  refine gm_ev.bipush (v := 85) i89_1 (by decide) ?_
  refine gm_ev.icmp_lt_f i89_3 c1 ?_
  refine gm_ev.iload_n i89_6 rfl ?_
  refine gm_ev.bipush (v := 90) i89_7 (by decide) ?_
  refine gm_ev.icmp_gt_f i89_9 c2 ?_
  refine gm_ev.iconst (v := 1) i89_12 (by decide) ?_
  refine gm_ev.goto (tgt := 17) i89_13 (by decide) ?_
  exact gm_ev.zret i89_17 rfl (by decide)
theorem c_X9_isPlain_0_ttt {N0 : Nat} {K : Nat → Nat} {d : Nat} {M : gm_H} {sz sl : Nat} {p0 : Int32} (c1 : p0 < (97 : Int32)) (c2 : p0 < (85 : Int32)) (c3 : p0 < (48 : Int32)) : gm_ev N0 K ra_nm (ra_mt K) d (some .boolean) (gm_I cX9_isPlain) (gm_lkf (lkX9 false K)) 0 [some (.int p0)] [] M sz sl (.returned (some (.int (0 : Int32))), M, sz, sl) := by
  refine gm_ev.iload_n i90_0 rfl ?_
  refine gm_ev.bipush (v := 97) i90_1 (by decide) ?_
  refine gm_ev.icmp_lt_t (tgt := 12) i90_3 (by decide) c1 ?_
  refine gm_ev.iload_n i90_12 rfl ?_
  refine gm_ev.bipush (v := 85) i90_13 (by decide) ?_
  refine gm_ev.icmp_lt_t (tgt := 24) i90_15 (by decide) c2 ?_
  refine gm_ev.iload_n i90_24 rfl ?_
  refine gm_ev.bipush (v := 48) i90_25 (by decide) ?_
  refine gm_ev.icmp_lt_t (tgt := 40) i90_27 (by decide) c3 ?_
  refine gm_ev.iconst (v := 0) i90_40 (by decide) ?_
  exact gm_ev.zret i90_41 rfl (by decide)
theorem c_X9_isPlain_0_ttft {N0 : Nat} {K : Nat → Nat} {d : Nat} {M : gm_H} {sz sl : Nat} {p0 : Int32} (c1 : p0 < (97 : Int32)) (c2 : p0 < (85 : Int32)) (c3 : ¬ p0 < (48 : Int32)) (c4 : (57 : Int32) < p0) : gm_ev N0 K ra_nm (ra_mt K) d (some .boolean) (gm_I cX9_isPlain) (gm_lkf (lkX9 false K)) 0 [some (.int p0)] [] M sz sl (.returned (some (.int (0 : Int32))), M, sz, sl) := by
  refine gm_ev.iload_n i90_0 rfl ?_
  refine gm_ev.bipush (v := 97) i90_1 (by decide) ?_
  refine gm_ev.icmp_lt_t (tgt := 12) i90_3 (by decide) c1 ?_
  refine gm_ev.iload_n i90_12 rfl ?_
  refine gm_ev.bipush (v := 85) i90_13 (by decide) ?_
  refine gm_ev.icmp_lt_t (tgt := 24) i90_15 (by decide) c2 ?_
  refine gm_ev.iload_n i90_24 rfl ?_
  refine gm_ev.bipush (v := 48) i90_25 (by decide) ?_
  refine gm_ev.icmp_lt_f i90_27 c3 ?_
  refine gm_ev.iload_n i90_30 rfl ?_
  refine gm_ev.bipush (v := 57) i90_31 (by decide) ?_
  refine gm_ev.icmp_gt_t (tgt := 40) i90_33 (by decide) c4 ?_
  refine gm_ev.iconst (v := 0) i90_40 (by decide) ?_
  exact gm_ev.zret i90_41 rfl (by decide)
theorem c_X9_isPlain_0_ttff {N0 : Nat} {K : Nat → Nat} {d : Nat} {M : gm_H} {sz sl : Nat} {p0 : Int32} (c1 : p0 < (97 : Int32)) (c2 : p0 < (85 : Int32)) (c3 : ¬ p0 < (48 : Int32)) (c4 : ¬ (57 : Int32) < p0) : gm_ev N0 K ra_nm (ra_mt K) d (some .boolean) (gm_I cX9_isPlain) (gm_lkf (lkX9 false K)) 0 [some (.int p0)] [] M sz sl (.returned (some (.int (1 : Int32))), M, sz, sl) := by
  refine gm_ev.iload_n i90_0 rfl ?_
  refine gm_ev.bipush (v := 97) i90_1 (by decide) ?_
  refine gm_ev.icmp_lt_t (tgt := 12) i90_3 (by decide) c1 ?_
  refine gm_ev.iload_n i90_12 rfl ?_
  refine gm_ev.bipush (v := 85) i90_13 (by decide) ?_
  refine gm_ev.icmp_lt_t (tgt := 24) i90_15 (by decide) c2 ?_
  refine gm_ev.iload_n i90_24 rfl ?_
  refine gm_ev.bipush (v := 48) i90_25 (by decide) ?_
  refine gm_ev.icmp_lt_f i90_27 c3 ?_
  refine gm_ev.iload_n i90_30 rfl ?_
  refine gm_ev.bipush (v := 57) i90_31 (by decide) ?_
  refine gm_ev.icmp_gt_f i90_33 c4 ?_
  refine gm_ev.iconst (v := 1) i90_36 (by decide) ?_
  refine gm_ev.goto (tgt := 41) i90_37 (by decide) ?_
  exact gm_ev.zret i90_41 rfl (by decide)
theorem c_X9_isPlain_0_tft {N0 : Nat} {K : Nat → Nat} {d : Nat} {M : gm_H} {sz sl : Nat} {p0 : Int32} (c1 : p0 < (97 : Int32)) (c2 : ¬ p0 < (85 : Int32)) (c3 : p0 ≤ (90 : Int32)) : gm_ev N0 K ra_nm (ra_mt K) d (some .boolean) (gm_I cX9_isPlain) (gm_lkf (lkX9 false K)) 0 [some (.int p0)] [] M sz sl (.returned (some (.int (1 : Int32))), M, sz, sl) := by
  refine gm_ev.iload_n i90_0 rfl ?_
  refine gm_ev.bipush (v := 97) i90_1 (by decide) ?_
  refine gm_ev.icmp_lt_t (tgt := 12) i90_3 (by decide) c1 ?_
  refine gm_ev.iload_n i90_12 rfl ?_
  refine gm_ev.bipush (v := 85) i90_13 (by decide) ?_
  refine gm_ev.icmp_lt_f i90_15 c2 ?_
  refine gm_ev.iload_n i90_18 rfl ?_
  refine gm_ev.bipush (v := 90) i90_19 (by decide) ?_
  refine gm_ev.icmp_le_t (tgt := 36) i90_21 (by decide) c3 ?_
  refine gm_ev.iconst (v := 1) i90_36 (by decide) ?_
  refine gm_ev.goto (tgt := 41) i90_37 (by decide) ?_
  exact gm_ev.zret i90_41 rfl (by decide)
theorem c_X9_isPlain_0_tfft {N0 : Nat} {K : Nat → Nat} {d : Nat} {M : gm_H} {sz sl : Nat} {p0 : Int32} (c1 : p0 < (97 : Int32)) (c2 : ¬ p0 < (85 : Int32)) (c3 : ¬ p0 ≤ (90 : Int32)) (c4 : p0 < (48 : Int32)) : gm_ev N0 K ra_nm (ra_mt K) d (some .boolean) (gm_I cX9_isPlain) (gm_lkf (lkX9 false K)) 0 [some (.int p0)] [] M sz sl (.returned (some (.int (0 : Int32))), M, sz, sl) := by
  refine gm_ev.iload_n i90_0 rfl ?_
  refine gm_ev.bipush (v := 97) i90_1 (by decide) ?_
  refine gm_ev.icmp_lt_t (tgt := 12) i90_3 (by decide) c1 ?_
  refine gm_ev.iload_n i90_12 rfl ?_
  refine gm_ev.bipush (v := 85) i90_13 (by decide) ?_
  refine gm_ev.icmp_lt_f i90_15 c2 ?_
  refine gm_ev.iload_n i90_18 rfl ?_
  refine gm_ev.bipush (v := 90) i90_19 (by decide) ?_
  refine gm_ev.icmp_le_f i90_21 c3 ?_
  refine gm_ev.iload_n i90_24 rfl ?_
  refine gm_ev.bipush (v := 48) i90_25 (by decide) ?_
  refine gm_ev.icmp_lt_t (tgt := 40) i90_27 (by decide) c4 ?_
  refine gm_ev.iconst (v := 0) i90_40 (by decide) ?_
  exact gm_ev.zret i90_41 rfl (by decide)
theorem c_X9_isPlain_0_tffft {N0 : Nat} {K : Nat → Nat} {d : Nat} {M : gm_H} {sz sl : Nat} {p0 : Int32} (c1 : p0 < (97 : Int32)) (c2 : ¬ p0 < (85 : Int32)) (c3 : ¬ p0 ≤ (90 : Int32)) (c4 : ¬ p0 < (48 : Int32)) (c5 : (57 : Int32) < p0) : gm_ev N0 K ra_nm (ra_mt K) d (some .boolean) (gm_I cX9_isPlain) (gm_lkf (lkX9 false K)) 0 [some (.int p0)] [] M sz sl (.returned (some (.int (0 : Int32))), M, sz, sl) := by
  refine gm_ev.iload_n i90_0 rfl ?_
  refine gm_ev.bipush (v := 97) i90_1 (by decide) ?_
  refine gm_ev.icmp_lt_t (tgt := 12) i90_3 (by decide) c1 ?_
  refine gm_ev.iload_n i90_12 rfl ?_
  refine gm_ev.bipush (v := 85) i90_13 (by decide) ?_
  refine gm_ev.icmp_lt_f i90_15 c2 ?_
  refine gm_ev.iload_n i90_18 rfl ?_
  refine gm_ev.bipush (v := 90) i90_19 (by decide) ?_
  refine gm_ev.icmp_le_f i90_21 c3 ?_
  refine gm_ev.iload_n i90_24 rfl ?_
  refine gm_ev.bipush (v := 48) i90_25 (by decide) ?_
  refine gm_ev.icmp_lt_f i90_27 c4 ?_
  refine gm_ev.iload_n i90_30 rfl ?_
  refine gm_ev.bipush (v := 57) i90_31 (by decide) ?_
  refine gm_ev.icmp_gt_t (tgt := 40) i90_33 (by decide) c5 ?_
  refine gm_ev.iconst (v := 0) i90_40 (by decide) ?_
  exact gm_ev.zret i90_41 rfl (by decide)
theorem c_X9_isPlain_0_tffff {N0 : Nat} {K : Nat → Nat} {d : Nat} {M : gm_H} {sz sl : Nat} {p0 : Int32} (c1 : p0 < (97 : Int32)) (c2 : ¬ p0 < (85 : Int32)) (c3 : ¬ p0 ≤ (90 : Int32)) (c4 : ¬ p0 < (48 : Int32)) (c5 : ¬ (57 : Int32) < p0) : gm_ev N0 K ra_nm (ra_mt K) d (some .boolean) (gm_I cX9_isPlain) (gm_lkf (lkX9 false K)) 0 [some (.int p0)] [] M sz sl (.returned (some (.int (1 : Int32))), M, sz, sl) := by
  refine gm_ev.iload_n i90_0 rfl ?_
  refine gm_ev.bipush (v := 97) i90_1 (by decide) ?_
  refine gm_ev.icmp_lt_t (tgt := 12) i90_3 (by decide) c1 ?_
  refine gm_ev.iload_n i90_12 rfl ?_
  refine gm_ev.bipush (v := 85) i90_13 (by decide) ?_
  refine gm_ev.icmp_lt_f i90_15 c2 ?_
  refine gm_ev.iload_n i90_18 rfl ?_
  refine gm_ev.bipush (v := 90) i90_19 (by decide) ?_
  refine gm_ev.icmp_le_f i90_21 c3 ?_
  refine gm_ev.iload_n i90_24 rfl ?_
  refine gm_ev.bipush (v := 48) i90_25 (by decide) ?_
  refine gm_ev.icmp_lt_f i90_27 c4 ?_
  refine gm_ev.iload_n i90_30 rfl ?_
  refine gm_ev.bipush (v := 57) i90_31 (by decide) ?_
  refine gm_ev.icmp_gt_f i90_33 c5 ?_
  refine gm_ev.iconst (v := 1) i90_36 (by decide) ?_
  refine gm_ev.goto (tgt := 41) i90_37 (by decide) ?_
  exact gm_ev.zret i90_41 rfl (by decide)
theorem c_X9_isPlain_0_ft {N0 : Nat} {K : Nat → Nat} {d : Nat} {M : gm_H} {sz sl : Nat} {p0 : Int32} (c1 : ¬ p0 < (97 : Int32)) (c2 : p0 ≤ (122 : Int32)) : gm_ev N0 K ra_nm (ra_mt K) d (some .boolean) (gm_I cX9_isPlain) (gm_lkf (lkX9 false K)) 0 [some (.int p0)] [] M sz sl (.returned (some (.int (1 : Int32))), M, sz, sl) := by
  refine gm_ev.iload_n i90_0 rfl ?_
  refine gm_ev.bipush (v := 97) i90_1 (by decide) ?_
  refine gm_ev.icmp_lt_f i90_3 c1 ?_
  refine gm_ev.iload_n i90_6 rfl ?_
  refine gm_ev.bipush (v := 122) i90_7 (by decide) ?_
  refine gm_ev.icmp_le_t (tgt := 36) i90_9 (by decide) c2 ?_
  refine gm_ev.iconst (v := 1) i90_36 (by decide) ?_
  refine gm_ev.goto (tgt := 41) i90_37 (by decide) ?_
  exact gm_ev.zret i90_41 rfl (by decide)
theorem c_X9_isPlain_0_fftt {N0 : Nat} {K : Nat → Nat} {d : Nat} {M : gm_H} {sz sl : Nat} {p0 : Int32} (c1 : ¬ p0 < (97 : Int32)) (c2 : ¬ p0 ≤ (122 : Int32)) (c3 : p0 < (85 : Int32)) (c4 : p0 < (48 : Int32)) : gm_ev N0 K ra_nm (ra_mt K) d (some .boolean) (gm_I cX9_isPlain) (gm_lkf (lkX9 false K)) 0 [some (.int p0)] [] M sz sl (.returned (some (.int (0 : Int32))), M, sz, sl) := by
  refine gm_ev.iload_n i90_0 rfl ?_
  refine gm_ev.bipush (v := 97) i90_1 (by decide) ?_
  refine gm_ev.icmp_lt_f i90_3 c1 ?_
  refine gm_ev.iload_n i90_6 rfl ?_
  refine gm_ev.bipush (v := 122) i90_7 (by decide) ?_
  refine gm_ev.icmp_le_f i90_9 c2 ?_
  refine gm_ev.iload_n i90_12 rfl ?_
  refine gm_ev.bipush (v := 85) i90_13 (by decide) ?_
  refine gm_ev.icmp_lt_t (tgt := 24) i90_15 (by decide) c3 ?_
  refine gm_ev.iload_n i90_24 rfl ?_
  refine gm_ev.bipush (v := 48) i90_25 (by decide) ?_
  refine gm_ev.icmp_lt_t (tgt := 40) i90_27 (by decide) c4 ?_
  refine gm_ev.iconst (v := 0) i90_40 (by decide) ?_
  exact gm_ev.zret i90_41 rfl (by decide)
theorem c_X9_isPlain_0_fftft {N0 : Nat} {K : Nat → Nat} {d : Nat} {M : gm_H} {sz sl : Nat} {p0 : Int32} (c1 : ¬ p0 < (97 : Int32)) (c2 : ¬ p0 ≤ (122 : Int32)) (c3 : p0 < (85 : Int32)) (c4 : ¬ p0 < (48 : Int32)) (c5 : (57 : Int32) < p0) : gm_ev N0 K ra_nm (ra_mt K) d (some .boolean) (gm_I cX9_isPlain) (gm_lkf (lkX9 false K)) 0 [some (.int p0)] [] M sz sl (.returned (some (.int (0 : Int32))), M, sz, sl) := by
  refine gm_ev.iload_n i90_0 rfl ?_
  refine gm_ev.bipush (v := 97) i90_1 (by decide) ?_
  refine gm_ev.icmp_lt_f i90_3 c1 ?_
  refine gm_ev.iload_n i90_6 rfl ?_
  refine gm_ev.bipush (v := 122) i90_7 (by decide) ?_
  refine gm_ev.icmp_le_f i90_9 c2 ?_
  refine gm_ev.iload_n i90_12 rfl ?_
  refine gm_ev.bipush (v := 85) i90_13 (by decide) ?_
  refine gm_ev.icmp_lt_t (tgt := 24) i90_15 (by decide) c3 ?_
  refine gm_ev.iload_n i90_24 rfl ?_
  refine gm_ev.bipush (v := 48) i90_25 (by decide) ?_
  refine gm_ev.icmp_lt_f i90_27 c4 ?_
  refine gm_ev.iload_n i90_30 rfl ?_
  refine gm_ev.bipush (v := 57) i90_31 (by decide) ?_
  refine gm_ev.icmp_gt_t (tgt := 40) i90_33 (by decide) c5 ?_
  refine gm_ev.iconst (v := 0) i90_40 (by decide) ?_
  exact gm_ev.zret i90_41 rfl (by decide)
theorem c_X9_isPlain_0_fftff {N0 : Nat} {K : Nat → Nat} {d : Nat} {M : gm_H} {sz sl : Nat} {p0 : Int32} (c1 : ¬ p0 < (97 : Int32)) (c2 : ¬ p0 ≤ (122 : Int32)) (c3 : p0 < (85 : Int32)) (c4 : ¬ p0 < (48 : Int32)) (c5 : ¬ (57 : Int32) < p0) : gm_ev N0 K ra_nm (ra_mt K) d (some .boolean) (gm_I cX9_isPlain) (gm_lkf (lkX9 false K)) 0 [some (.int p0)] [] M sz sl (.returned (some (.int (1 : Int32))), M, sz, sl) := by
  refine gm_ev.iload_n i90_0 rfl ?_
  refine gm_ev.bipush (v := 97) i90_1 (by decide) ?_
  refine gm_ev.icmp_lt_f i90_3 c1 ?_
  refine gm_ev.iload_n i90_6 rfl ?_
  refine gm_ev.bipush (v := 122) i90_7 (by decide) ?_
  refine gm_ev.icmp_le_f i90_9 c2 ?_
  refine gm_ev.iload_n i90_12 rfl ?_
  refine gm_ev.bipush (v := 85) i90_13 (by decide) ?_
  refine gm_ev.icmp_lt_t (tgt := 24) i90_15 (by decide) c3 ?_
  refine gm_ev.iload_n i90_24 rfl ?_
  refine gm_ev.bipush (v := 48) i90_25 (by decide) ?_
  refine gm_ev.icmp_lt_f i90_27 c4 ?_
  refine gm_ev.iload_n i90_30 rfl ?_
  refine gm_ev.bipush (v := 57) i90_31 (by decide) ?_
  refine gm_ev.icmp_gt_f i90_33 c5 ?_
  refine gm_ev.iconst (v := 1) i90_36 (by decide) ?_
  refine gm_ev.goto (tgt := 41) i90_37 (by decide) ?_
  exact gm_ev.zret i90_41 rfl (by decide)
theorem c_X9_isPlain_0_ffft {N0 : Nat} {K : Nat → Nat} {d : Nat} {M : gm_H} {sz sl : Nat} {p0 : Int32} (c1 : ¬ p0 < (97 : Int32)) (c2 : ¬ p0 ≤ (122 : Int32)) (c3 : ¬ p0 < (85 : Int32)) (c4 : p0 ≤ (90 : Int32)) : gm_ev N0 K ra_nm (ra_mt K) d (some .boolean) (gm_I cX9_isPlain) (gm_lkf (lkX9 false K)) 0 [some (.int p0)] [] M sz sl (.returned (some (.int (1 : Int32))), M, sz, sl) := by
  refine gm_ev.iload_n i90_0 rfl ?_
  refine gm_ev.bipush (v := 97) i90_1 (by decide) ?_
  refine gm_ev.icmp_lt_f i90_3 c1 ?_
  refine gm_ev.iload_n i90_6 rfl ?_
  refine gm_ev.bipush (v := 122) i90_7 (by decide) ?_
  refine gm_ev.icmp_le_f i90_9 c2 ?_
  refine gm_ev.iload_n i90_12 rfl ?_
  refine gm_ev.bipush (v := 85) i90_13 (by decide) ?_
  refine gm_ev.icmp_lt_f i90_15 c3 ?_
  refine gm_ev.iload_n i90_18 rfl ?_
  refine gm_ev.bipush (v := 90) i90_19 (by decide) ?_
  refine gm_ev.icmp_le_t (tgt := 36) i90_21 (by decide) c4 ?_
  refine gm_ev.iconst (v := 1) i90_36 (by decide) ?_
  refine gm_ev.goto (tgt := 41) i90_37 (by decide) ?_
  exact gm_ev.zret i90_41 rfl (by decide)
theorem c_X9_isPlain_0_fffft {N0 : Nat} {K : Nat → Nat} {d : Nat} {M : gm_H} {sz sl : Nat} {p0 : Int32} (c1 : ¬ p0 < (97 : Int32)) (c2 : ¬ p0 ≤ (122 : Int32)) (c3 : ¬ p0 < (85 : Int32)) (c4 : ¬ p0 ≤ (90 : Int32)) (c5 : p0 < (48 : Int32)) : gm_ev N0 K ra_nm (ra_mt K) d (some .boolean) (gm_I cX9_isPlain) (gm_lkf (lkX9 false K)) 0 [some (.int p0)] [] M sz sl (.returned (some (.int (0 : Int32))), M, sz, sl) := by
  refine gm_ev.iload_n i90_0 rfl ?_
  refine gm_ev.bipush (v := 97) i90_1 (by decide) ?_
  refine gm_ev.icmp_lt_f i90_3 c1 ?_
  refine gm_ev.iload_n i90_6 rfl ?_
  refine gm_ev.bipush (v := 122) i90_7 (by decide) ?_
  refine gm_ev.icmp_le_f i90_9 c2 ?_
  refine gm_ev.iload_n i90_12 rfl ?_
  refine gm_ev.bipush (v := 85) i90_13 (by decide) ?_
  refine gm_ev.icmp_lt_f i90_15 c3 ?_
  refine gm_ev.iload_n i90_18 rfl ?_
  refine gm_ev.bipush (v := 90) i90_19 (by decide) ?_
  refine gm_ev.icmp_le_f i90_21 c4 ?_
  refine gm_ev.iload_n i90_24 rfl ?_
  refine gm_ev.bipush (v := 48) i90_25 (by decide) ?_
  refine gm_ev.icmp_lt_t (tgt := 40) i90_27 (by decide) c5 ?_
  refine gm_ev.iconst (v := 0) i90_40 (by decide) ?_
  exact gm_ev.zret i90_41 rfl (by decide)
theorem c_X9_isPlain_0_ffffft {N0 : Nat} {K : Nat → Nat} {d : Nat} {M : gm_H} {sz sl : Nat} {p0 : Int32} (c1 : ¬ p0 < (97 : Int32)) (c2 : ¬ p0 ≤ (122 : Int32)) (c3 : ¬ p0 < (85 : Int32)) (c4 : ¬ p0 ≤ (90 : Int32)) (c5 : ¬ p0 < (48 : Int32)) (c6 : (57 : Int32) < p0) : gm_ev N0 K ra_nm (ra_mt K) d (some .boolean) (gm_I cX9_isPlain) (gm_lkf (lkX9 false K)) 0 [some (.int p0)] [] M sz sl (.returned (some (.int (0 : Int32))), M, sz, sl) := by
  refine gm_ev.iload_n i90_0 rfl ?_
  refine gm_ev.bipush (v := 97) i90_1 (by decide) ?_
  refine gm_ev.icmp_lt_f i90_3 c1 ?_
  refine gm_ev.iload_n i90_6 rfl ?_
  refine gm_ev.bipush (v := 122) i90_7 (by decide) ?_
  refine gm_ev.icmp_le_f i90_9 c2 ?_
  refine gm_ev.iload_n i90_12 rfl ?_
  refine gm_ev.bipush (v := 85) i90_13 (by decide) ?_
  refine gm_ev.icmp_lt_f i90_15 c3 ?_
  refine gm_ev.iload_n i90_18 rfl ?_
  refine gm_ev.bipush (v := 90) i90_19 (by decide) ?_
  refine gm_ev.icmp_le_f i90_21 c4 ?_
  refine gm_ev.iload_n i90_24 rfl ?_
  refine gm_ev.bipush (v := 48) i90_25 (by decide) ?_
  refine gm_ev.icmp_lt_f i90_27 c5 ?_
  refine gm_ev.iload_n i90_30 rfl ?_
  refine gm_ev.bipush (v := 57) i90_31 (by decide) ?_
  refine gm_ev.icmp_gt_t (tgt := 40) i90_33 (by decide) c6 ?_
  refine gm_ev.iconst (v := 0) i90_40 (by decide) ?_
  exact gm_ev.zret i90_41 rfl (by decide)
theorem c_X9_isPlain_0_ffffff {N0 : Nat} {K : Nat → Nat} {d : Nat} {M : gm_H} {sz sl : Nat} {p0 : Int32} (c1 : ¬ p0 < (97 : Int32)) (c2 : ¬ p0 ≤ (122 : Int32)) (c3 : ¬ p0 < (85 : Int32)) (c4 : ¬ p0 ≤ (90 : Int32)) (c5 : ¬ p0 < (48 : Int32)) (c6 : ¬ (57 : Int32) < p0) : gm_ev N0 K ra_nm (ra_mt K) d (some .boolean) (gm_I cX9_isPlain) (gm_lkf (lkX9 false K)) 0 [some (.int p0)] [] M sz sl (.returned (some (.int (1 : Int32))), M, sz, sl) := by
  refine gm_ev.iload_n i90_0 rfl ?_
  refine gm_ev.bipush (v := 97) i90_1 (by decide) ?_
  refine gm_ev.icmp_lt_f i90_3 c1 ?_
  refine gm_ev.iload_n i90_6 rfl ?_
  refine gm_ev.bipush (v := 122) i90_7 (by decide) ?_
  refine gm_ev.icmp_le_f i90_9 c2 ?_
  refine gm_ev.iload_n i90_12 rfl ?_
  refine gm_ev.bipush (v := 85) i90_13 (by decide) ?_
  refine gm_ev.icmp_lt_f i90_15 c3 ?_
  refine gm_ev.iload_n i90_18 rfl ?_
  refine gm_ev.bipush (v := 90) i90_19 (by decide) ?_
  refine gm_ev.icmp_le_f i90_21 c4 ?_
  refine gm_ev.iload_n i90_24 rfl ?_
  refine gm_ev.bipush (v := 48) i90_25 (by decide) ?_
  refine gm_ev.icmp_lt_f i90_27 c5 ?_
  refine gm_ev.iload_n i90_30 rfl ?_
  refine gm_ev.bipush (v := 57) i90_31 (by decide) ?_
  refine gm_ev.icmp_gt_f i90_33 c6 ?_
  refine gm_ev.iconst (v := 1) i90_36 (by decide) ?_
  refine gm_ev.goto (tgt := 41) i90_37 (by decide) ?_
  exact gm_ev.zret i90_41 rfl (by decide)
theorem c_X9_variables_0__at5 {N0 : Nat} {K : Nat → Nat} {d : Nat} {M : gm_H} {sz sl : Nat} {R : gm_R} {p0 : Int32}  (k : gm_ev N0 K ra_nm (ra_mt K) d (some .int) (gm_I cX9_variables) (gm_lkf (lkX9 false K)) 5 [some (.int p0), some (.int (0 : Int32)), some (.int (21 : Int32)), none] [] M sz sl R) : gm_ev N0 K ra_nm (ra_mt K) d (some .int) (gm_I cX9_variables) (gm_lkf (lkX9 false K)) 0 [some (.int p0), none, none, none] [] M sz sl R := by
  refine gm_ev.iconst (v := 0) i91_0 (by decide) ?_
  refine gm_ev.istore_n (ls' := [some (.int p0), some (.int (0 : Int32)), none, none]) i91_1 (Nat.le_of_ble_eq_true rfl) rfl ?_
  refine gm_ev.bipush (v := 21) i91_2 (by decide) ?_
  refine gm_ev.istore_n (ls' := [some (.int p0), some (.int (0 : Int32)), some (.int (21 : Int32)), none]) i91_4 (Nat.le_of_ble_eq_true rfl) rfl ?_
  exact k
theorem c_X9_variables_5_t {N0 : Nat} {K : Nat → Nat} {d : Nat} {M : gm_H} {sz sl : Nat} {u0 : Int32} {u1 : Int32} {u2 : Int32} (c1 : u2 < 0) : gm_ev N0 K ra_nm (ra_mt K) d (some .int) (gm_I cX9_variables) (gm_lkf (lkX9 false K)) 5 [some (.int u0), some (.int u1), some (.int u2), none] [] M sz sl (.returned (some (.int u1)), M, sz, sl) := by
  refine gm_ev.iload_n i91_5 rfl ?_
  refine gm_ev.if_lt_t (tgt := 38) i91_6 (by decide) c1 ?_
  refine gm_ev.iload_n i91_38 rfl ?_
  exact gm_ev.iret i91_39 rfl
theorem c_X9_variables_5_ft_at5 {N0 : Nat} {K : Nat → Nat} {d : Nat} {M : gm_H} {sz sl : Nat} {R : gm_R} {u0 : Int32} {u1 : Int32} {u2 : Int32} {r2 : Int32} {M4 : gm_H} {sz5 : Nat} {dd6 : Nat} (c1 : ¬ u2 < 0) (t3 : gm_to N0 K ra_nm (ra_mt K) d 89 [.int ((((u0).toUInt32 >>> ((u2).toUInt32 &&& Int32.toUInt32 31)).toInt32) &&& (127 : Int32))] M sz (.returned (some (.int r2)), M4, sz5, dd6)) (c7 : r2 = 0) (k : gm_ev N0 K ra_nm (ra_mt K) d (some .int) (gm_I cX9_variables) (gm_lkf (lkX9 false K)) 5 [some (.int u0), some (.int u1), some (.int (u2 + (-7 : Int32))), none] [] M4 sz5 (sl + dd6) R) : gm_ev N0 K ra_nm (ra_mt K) d (some .int) (gm_I cX9_variables) (gm_lkf (lkX9 false K)) 5 [some (.int u0), some (.int u1), some (.int u2), none] [] M sz sl R := by
  refine gm_ev.iload_n i91_5 rfl ?_
  refine gm_ev.if_lt_f i91_6 c1 ?_
  refine gm_ev.iload_n i91_9 rfl ?_
  refine gm_ev.iload_n i91_10 rfl ?_
  refine gm_ev.iushr i91_11 ?_
  refine gm_ev.bipush (v := 127) i91_12 (by decide) ?_
  refine gm_ev.iand i91_14 ?_
  refine gm_ev.istore_n (ls' := [some (.int u0), some (.int u1), some (.int u2), some (.int ((((u0).toUInt32 >>> ((u2).toUInt32 &&& Int32.toUInt32 31)).toInt32) &&& (127 : Int32)))]) i91_15 (Nat.le_of_ble_eq_true rfl) rfl ?_
  refine gm_ev.iload_n i91_16 rfl ?_
  refine gm_ev.callS gm_mono_run (av := [.int ((((u0).toUInt32 >>> ((u2).toUInt32 &&& Int32.toUInt32 31)).toInt32) &&& (127 : Int32))]) (r := []) i91_17 rfl rfl rfl (Nat.le_of_ble_eq_true rfl) t3 ?_
  refine gm_ev.if_eq_t (tgt := 32) i91_20 (by decide) c7 ?_
  refine gm_ev.iinc (v := u2 + (-7 : Int32)) (ls' := [some (.int u0), some (.int u1), some (.int (u2 + (-7 : Int32))), some (.int ((((u0).toUInt32 >>> ((u2).toUInt32 &&& Int32.toUInt32 31)).toInt32) &&& (127 : Int32)))]) i91_32 rfl (by rfl) rfl ?_
  refine gm_ev.goto (tgt := 5) i91_35 (by decide) ?_
  refine gm_ev.le (a := [some (.int u0), some (.int u1), some (.int (u2 + (-7 : Int32))), none]) (gm_leL.le (show gm_leL _ _ from ⟨rfl, ⟨rfl, ⟨rfl, trivial⟩⟩⟩)) ?_
  exact k
theorem c_X9_variables_5_ff_at5 {N0 : Nat} {K : Nat → Nat} {d : Nat} {M : gm_H} {sz sl : Nat} {R : gm_R} {u0 : Int32} {u1 : Int32} {u2 : Int32} {r2 : Int32} {M4 : gm_H} {sz5 : Nat} {dd6 : Nat} (c1 : ¬ u2 < 0) (t3 : gm_to N0 K ra_nm (ra_mt K) d 89 [.int ((((u0).toUInt32 >>> ((u2).toUInt32 &&& Int32.toUInt32 31)).toInt32) &&& (127 : Int32))] M sz (.returned (some (.int r2)), M4, sz5, dd6)) (c7 : ¬ r2 = 0) (k : gm_ev N0 K ra_nm (ra_mt K) d (some .int) (gm_I cX9_variables) (gm_lkf (lkX9 false K)) 5 [some (.int u0), some (.int (u1 ||| ((1 : Int32) <<< ((((((u0).toUInt32 >>> ((u2).toUInt32 &&& Int32.toUInt32 31)).toInt32) &&& (127 : Int32)) - (85 : Int32)) &&& 31)))), some (.int (u2 + (-7 : Int32))), none] [] M4 sz5 (sl + dd6) R) : gm_ev N0 K ra_nm (ra_mt K) d (some .int) (gm_I cX9_variables) (gm_lkf (lkX9 false K)) 5 [some (.int u0), some (.int u1), some (.int u2), none] [] M sz sl R := by
  refine gm_ev.iload_n i91_5 rfl ?_
  refine gm_ev.if_lt_f i91_6 c1 ?_
  refine gm_ev.iload_n i91_9 rfl ?_
  refine gm_ev.iload_n i91_10 rfl ?_
  refine gm_ev.iushr i91_11 ?_
  refine gm_ev.bipush (v := 127) i91_12 (by decide) ?_
  refine gm_ev.iand i91_14 ?_
  refine gm_ev.istore_n (ls' := [some (.int u0), some (.int u1), some (.int u2), some (.int ((((u0).toUInt32 >>> ((u2).toUInt32 &&& Int32.toUInt32 31)).toInt32) &&& (127 : Int32)))]) i91_15 (Nat.le_of_ble_eq_true rfl) rfl ?_
  refine gm_ev.iload_n i91_16 rfl ?_
  refine gm_ev.callS gm_mono_run (av := [.int ((((u0).toUInt32 >>> ((u2).toUInt32 &&& Int32.toUInt32 31)).toInt32) &&& (127 : Int32))]) (r := []) i91_17 rfl rfl rfl (Nat.le_of_ble_eq_true rfl) t3 ?_
  refine gm_ev.if_eq_f i91_20 c7 ?_
  refine gm_ev.iload_n i91_23 rfl ?_
  refine gm_ev.iconst (v := 1) i91_24 (by decide) ?_
  refine gm_ev.iload_n i91_25 rfl ?_
  refine gm_ev.bipush (v := 85) i91_26 (by decide) ?_
  refine gm_ev.isub i91_28 ?_
  refine gm_ev.ishl i91_29 ?_
  refine gm_ev.ior i91_30 ?_
  refine gm_ev.istore_n (ls' := [some (.int u0), some (.int (u1 ||| ((1 : Int32) <<< ((((((u0).toUInt32 >>> ((u2).toUInt32 &&& Int32.toUInt32 31)).toInt32) &&& (127 : Int32)) - (85 : Int32)) &&& 31)))), some (.int u2), some (.int ((((u0).toUInt32 >>> ((u2).toUInt32 &&& Int32.toUInt32 31)).toInt32) &&& (127 : Int32)))]) i91_31 (Nat.le_of_ble_eq_true rfl) rfl ?_
  refine gm_ev.iinc (v := u2 + (-7 : Int32)) (ls' := [some (.int u0), some (.int (u1 ||| ((1 : Int32) <<< ((((((u0).toUInt32 >>> ((u2).toUInt32 &&& Int32.toUInt32 31)).toInt32) &&& (127 : Int32)) - (85 : Int32)) &&& 31)))), some (.int (u2 + (-7 : Int32))), some (.int ((((u0).toUInt32 >>> ((u2).toUInt32 &&& Int32.toUInt32 31)).toInt32) &&& (127 : Int32)))]) i91_32 rfl (by rfl) rfl ?_
  refine gm_ev.goto (tgt := 5) i91_35 (by decide) ?_
  refine gm_ev.le (a := [some (.int u0), some (.int (u1 ||| ((1 : Int32) <<< ((((((u0).toUInt32 >>> ((u2).toUInt32 &&& Int32.toUInt32 31)).toInt32) &&& (127 : Int32)) - (85 : Int32)) &&& 31)))), some (.int (u2 + (-7 : Int32))), none]) (gm_leL.le (show gm_leL _ _ from ⟨rfl, ⟨rfl, ⟨rfl, trivial⟩⟩⟩)) ?_
  exact k
theorem c_X9_plan_0__at8 {N0 : Nat} {K : Nat → Nat} {d : Nat} {M : gm_H} {sz sl : Nat} {R : gm_R} {p0 : Int32} {p1 : Int32}  (k : gm_ev N0 K ra_nm (ra_mt K) d (some .int) (gm_I cX9_plan) (gm_lkf (lkX9 false K)) 8 [some (.int p0), none, some (.int p0), some (.int p1), some (.int (21 : Int32)), none, none, none] [] M sz sl R) : gm_ev N0 K ra_nm (ra_mt K) d (some .int) (gm_I cX9_plan) (gm_lkf (lkX9 false K)) 0 [some (.int p0), some (.int p1), none, none, none, none, none, none] [] M sz sl R := by
  refine gm_ev.iload_n i92_0 rfl ?_
  refine gm_ev.istore_n (ls' := [some (.int p0), some (.int p1), some (.int p0), none, none, none, none, none]) i92_1 (Nat.le_of_ble_eq_true rfl) rfl ?_
  refine gm_ev.iload_n i92_2 rfl ?_
  refine gm_ev.istore_n (ls' := [some (.int p0), some (.int p1), some (.int p0), some (.int p1), none, none, none, none]) i92_3 (Nat.le_of_ble_eq_true rfl) rfl ?_
  refine gm_ev.bipush (v := 21) i92_4 (by decide) ?_
  refine gm_ev.istore (ls' := [some (.int p0), some (.int p1), some (.int p0), some (.int p1), some (.int (21 : Int32)), none, none, none]) i92_6 (Nat.le_of_ble_eq_true rfl) rfl ?_
  refine gm_ev.le (a := [some (.int p0), none, some (.int p0), some (.int p1), some (.int (21 : Int32)), none, none, none]) (gm_leL.le (show gm_leL _ _ from ⟨rfl, ⟨rfl, ⟨rfl, ⟨rfl, trivial⟩⟩⟩⟩)) ?_
  exact k
theorem c_X9_plan_8_t {N0 : Nat} {K : Nat → Nat} {d : Nat} {M : gm_H} {sz sl : Nat} {u0 : Int32} {u2 : Int32} {u3 : Int32} {u4 : Int32} (c1 : u4 < 0) : gm_ev N0 K ra_nm (ra_mt K) d (some .int) (gm_I cX9_plan) (gm_lkf (lkX9 false K)) 8 [some (.int u0), none, some (.int u2), some (.int u3), some (.int u4), none, none, none] [] M sz sl (.returned (some (.int u2)), M, sz, sl) := by
  refine gm_ev.iload i92_8 rfl ?_
  refine gm_ev.if_lt_t (tgt := 87) i92_10 (by decide) c1 ?_
  refine gm_ev.iload_n i92_87 rfl ?_
  exact gm_ev.iret i92_88 rfl
theorem c_X9_plan_8_ft_at8 {N0 : Nat} {K : Nat → Nat} {d : Nat} {M : gm_H} {sz sl : Nat} {R : gm_R} {u0 : Int32} {u2 : Int32} {u3 : Int32} {u4 : Int32} {r2 : Int32} {M4 : gm_H} {sz5 : Nat} {dd6 : Nat} (c1 : ¬ u4 < 0) (t3 : gm_to N0 K ra_nm (ra_mt K) d 89 [.int ((((u0).toUInt32 >>> ((u4).toUInt32 &&& Int32.toUInt32 31)).toInt32) &&& (127 : Int32))] M sz (.returned (some (.int r2)), M4, sz5, dd6)) (c7 : r2 = 0) (k : gm_ev N0 K ra_nm (ra_mt K) d (some .int) (gm_I cX9_plan) (gm_lkf (lkX9 false K)) 8 [some (.int u0), none, some (.int u2), some (.int u3), some (.int (u4 + (-7 : Int32))), none, none, none] [] M4 sz5 (sl + dd6) R) : gm_ev N0 K ra_nm (ra_mt K) d (some .int) (gm_I cX9_plan) (gm_lkf (lkX9 false K)) 8 [some (.int u0), none, some (.int u2), some (.int u3), some (.int u4), none, none, none] [] M sz sl R := by
  refine gm_ev.iload i92_8 rfl ?_
  refine gm_ev.if_lt_f i92_10 c1 ?_
  refine gm_ev.iload_n i92_13 rfl ?_
  refine gm_ev.iload i92_14 rfl ?_
  refine gm_ev.iushr i92_16 ?_
  refine gm_ev.bipush (v := 127) i92_17 (by decide) ?_
  refine gm_ev.iand i92_19 ?_
  refine gm_ev.istore (ls' := [some (.int u0), none, some (.int u2), some (.int u3), some (.int u4), some (.int ((((u0).toUInt32 >>> ((u4).toUInt32 &&& Int32.toUInt32 31)).toInt32) &&& (127 : Int32))), none, none]) i92_20 (Nat.le_of_ble_eq_true rfl) rfl ?_
  refine gm_ev.iload i92_22 rfl ?_
  refine gm_ev.callS gm_mono_run (av := [.int ((((u0).toUInt32 >>> ((u4).toUInt32 &&& Int32.toUInt32 31)).toInt32) &&& (127 : Int32))]) (r := []) i92_24 rfl rfl rfl (Nat.le_of_ble_eq_true rfl) t3 ?_
  refine gm_ev.if_eq_t (tgt := 81) i92_27 (by decide) c7 ?_
  refine gm_ev.iinc (v := u4 + (-7 : Int32)) (ls' := [some (.int u0), none, some (.int u2), some (.int u3), some (.int (u4 + (-7 : Int32))), some (.int ((((u0).toUInt32 >>> ((u4).toUInt32 &&& Int32.toUInt32 31)).toInt32) &&& (127 : Int32))), none, none]) i92_81 rfl (by rfl) rfl ?_
  refine gm_ev.goto (tgt := 8) i92_84 (by decide) ?_
  refine gm_ev.le (a := [some (.int u0), none, some (.int u2), some (.int u3), some (.int (u4 + (-7 : Int32))), none, none, none]) (gm_leL.le (show gm_leL _ _ from ⟨rfl, ⟨rfl, ⟨rfl, ⟨rfl, trivial⟩⟩⟩⟩)) ?_
  exact k
theorem c_X9_plan_8_fft_at8 {N0 : Nat} {K : Nat → Nat} {d : Nat} {M : gm_H} {sz sl : Nat} {R : gm_R} {u0 : Int32} {u2 : Int32} {u3 : Int32} {u4 : Int32} {r2 : Int32} {M4 : gm_H} {sz5 : Nat} {dd6 : Nat} (c1 : ¬ u4 < 0) (t3 : gm_to N0 K ra_nm (ra_mt K) d 89 [.int ((((u0).toUInt32 >>> ((u4).toUInt32 &&& Int32.toUInt32 31)).toInt32) &&& (127 : Int32))] M sz (.returned (some (.int r2)), M4, sz5, dd6)) (c7 : ¬ r2 = 0) (c8 : (u3 &&& ((1 : Int32) <<< ((((((u0).toUInt32 >>> ((u4).toUInt32 &&& Int32.toUInt32 31)).toInt32) &&& (127 : Int32)) - (85 : Int32)) &&& 31))) = 0) (k : gm_ev N0 K ra_nm (ra_mt K) d (some .int) (gm_I cX9_plan) (gm_lkf (lkX9 false K)) 8 [some (.int u0), none, some (.int (u2 + (((((((((u0).toUInt32 >>> ((u4).toUInt32 &&& Int32.toUInt32 31)).toInt32) &&& (127 : Int32)) - (85 : Int32)) + (1 : Int32)) + (6 : Int32)) - ((((u0).toUInt32 >>> ((u4).toUInt32 &&& Int32.toUInt32 31)).toInt32) &&& (127 : Int32))) <<< (u4 &&& 31)))), some (.int (u3 &&& (((1 : Int32) <<< ((((((u0).toUInt32 >>> ((u4).toUInt32 &&& Int32.toUInt32 31)).toInt32) &&& (127 : Int32)) - (85 : Int32)) &&& 31)) ^^^ (-1 : Int32)))), some (.int (u4 + (-7 : Int32))), none, none, none] [] M4 sz5 (sl + dd6) R) : gm_ev N0 K ra_nm (ra_mt K) d (some .int) (gm_I cX9_plan) (gm_lkf (lkX9 false K)) 8 [some (.int u0), none, some (.int u2), some (.int u3), some (.int u4), none, none, none] [] M sz sl R := by
  refine gm_ev.iload i92_8 rfl ?_
  refine gm_ev.if_lt_f i92_10 c1 ?_
  refine gm_ev.iload_n i92_13 rfl ?_
  refine gm_ev.iload i92_14 rfl ?_
  refine gm_ev.iushr i92_16 ?_
  refine gm_ev.bipush (v := 127) i92_17 (by decide) ?_
  refine gm_ev.iand i92_19 ?_
  refine gm_ev.istore (ls' := [some (.int u0), none, some (.int u2), some (.int u3), some (.int u4), some (.int ((((u0).toUInt32 >>> ((u4).toUInt32 &&& Int32.toUInt32 31)).toInt32) &&& (127 : Int32))), none, none]) i92_20 (Nat.le_of_ble_eq_true rfl) rfl ?_
  refine gm_ev.iload i92_22 rfl ?_
  refine gm_ev.callS gm_mono_run (av := [.int ((((u0).toUInt32 >>> ((u4).toUInt32 &&& Int32.toUInt32 31)).toInt32) &&& (127 : Int32))]) (r := []) i92_24 rfl rfl rfl (Nat.le_of_ble_eq_true rfl) t3 ?_
  refine gm_ev.if_eq_f i92_27 c7 ?_
  refine gm_ev.iload i92_30 rfl ?_
  refine gm_ev.bipush (v := 85) i92_32 (by decide) ?_
  refine gm_ev.isub i92_34 ?_
  refine gm_ev.iconst (v := 1) i92_35 (by decide) ?_
  refine gm_ev.iadd i92_36 ?_
  refine gm_ev.istore (ls' := [some (.int u0), none, some (.int u2), some (.int u3), some (.int u4), some (.int ((((u0).toUInt32 >>> ((u4).toUInt32 &&& Int32.toUInt32 31)).toInt32) &&& (127 : Int32))), some (.int ((((((u0).toUInt32 >>> ((u4).toUInt32 &&& Int32.toUInt32 31)).toInt32) &&& (127 : Int32)) - (85 : Int32)) + (1 : Int32))), none]) i92_37 (Nat.le_of_ble_eq_true rfl) rfl ?_
  refine gm_ev.iconst (v := 1) i92_39 (by decide) ?_
  refine gm_ev.iload i92_40 rfl ?_
  refine gm_ev.bipush (v := 85) i92_42 (by decide) ?_
  refine gm_ev.isub i92_44 ?_
  refine gm_ev.ishl i92_45 ?_
  refine gm_ev.istore (ls' := [some (.int u0), none, some (.int u2), some (.int u3), some (.int u4), some (.int ((((u0).toUInt32 >>> ((u4).toUInt32 &&& Int32.toUInt32 31)).toInt32) &&& (127 : Int32))), some (.int ((((((u0).toUInt32 >>> ((u4).toUInt32 &&& Int32.toUInt32 31)).toInt32) &&& (127 : Int32)) - (85 : Int32)) + (1 : Int32))), some (.int ((1 : Int32) <<< ((((((u0).toUInt32 >>> ((u4).toUInt32 &&& Int32.toUInt32 31)).toInt32) &&& (127 : Int32)) - (85 : Int32)) &&& 31)))]) i92_46 (Nat.le_of_ble_eq_true rfl) rfl ?_
  refine gm_ev.iload_n i92_48 rfl ?_
  refine gm_ev.iload_n i92_49 rfl ?_
  refine gm_ev.iload i92_50 rfl ?_
  refine gm_ev.iand i92_52 ?_
  refine gm_ev.if_eq_t (tgt := 61) i92_53 (by decide) c8 ?_
  refine gm_ev.iload i92_61 rfl ?_
  refine gm_ev.bipush (v := 6) i92_63 (by decide) ?_
  refine gm_ev.iadd i92_65 ?_
  refine gm_ev.iload i92_66 rfl ?_
  refine gm_ev.isub i92_68 ?_
  refine gm_ev.iload i92_69 rfl ?_
  refine gm_ev.ishl i92_71 ?_
  refine gm_ev.iadd i92_72 ?_
  refine gm_ev.istore_n (ls' := [some (.int u0), none, some (.int (u2 + (((((((((u0).toUInt32 >>> ((u4).toUInt32 &&& Int32.toUInt32 31)).toInt32) &&& (127 : Int32)) - (85 : Int32)) + (1 : Int32)) + (6 : Int32)) - ((((u0).toUInt32 >>> ((u4).toUInt32 &&& Int32.toUInt32 31)).toInt32) &&& (127 : Int32))) <<< (u4 &&& 31)))), some (.int u3), some (.int u4), some (.int ((((u0).toUInt32 >>> ((u4).toUInt32 &&& Int32.toUInt32 31)).toInt32) &&& (127 : Int32))), some (.int ((((((u0).toUInt32 >>> ((u4).toUInt32 &&& Int32.toUInt32 31)).toInt32) &&& (127 : Int32)) - (85 : Int32)) + (1 : Int32))), some (.int ((1 : Int32) <<< ((((((u0).toUInt32 >>> ((u4).toUInt32 &&& Int32.toUInt32 31)).toInt32) &&& (127 : Int32)) - (85 : Int32)) &&& 31)))]) i92_73 (Nat.le_of_ble_eq_true rfl) rfl ?_
  refine gm_ev.iload_n i92_74 rfl ?_
  refine gm_ev.iload i92_75 rfl ?_
  refine gm_ev.iconst (v := -1) i92_77 (by decide) ?_
  refine gm_ev.ixor i92_78 ?_
  refine gm_ev.iand i92_79 ?_
  refine gm_ev.istore_n (ls' := [some (.int u0), none, some (.int (u2 + (((((((((u0).toUInt32 >>> ((u4).toUInt32 &&& Int32.toUInt32 31)).toInt32) &&& (127 : Int32)) - (85 : Int32)) + (1 : Int32)) + (6 : Int32)) - ((((u0).toUInt32 >>> ((u4).toUInt32 &&& Int32.toUInt32 31)).toInt32) &&& (127 : Int32))) <<< (u4 &&& 31)))), some (.int (u3 &&& (((1 : Int32) <<< ((((((u0).toUInt32 >>> ((u4).toUInt32 &&& Int32.toUInt32 31)).toInt32) &&& (127 : Int32)) - (85 : Int32)) &&& 31)) ^^^ (-1 : Int32)))), some (.int u4), some (.int ((((u0).toUInt32 >>> ((u4).toUInt32 &&& Int32.toUInt32 31)).toInt32) &&& (127 : Int32))), some (.int ((((((u0).toUInt32 >>> ((u4).toUInt32 &&& Int32.toUInt32 31)).toInt32) &&& (127 : Int32)) - (85 : Int32)) + (1 : Int32))), some (.int ((1 : Int32) <<< ((((((u0).toUInt32 >>> ((u4).toUInt32 &&& Int32.toUInt32 31)).toInt32) &&& (127 : Int32)) - (85 : Int32)) &&& 31)))]) i92_80 (Nat.le_of_ble_eq_true rfl) rfl ?_
  refine gm_ev.iinc (v := u4 + (-7 : Int32)) (ls' := [some (.int u0), none, some (.int (u2 + (((((((((u0).toUInt32 >>> ((u4).toUInt32 &&& Int32.toUInt32 31)).toInt32) &&& (127 : Int32)) - (85 : Int32)) + (1 : Int32)) + (6 : Int32)) - ((((u0).toUInt32 >>> ((u4).toUInt32 &&& Int32.toUInt32 31)).toInt32) &&& (127 : Int32))) <<< (u4 &&& 31)))), some (.int (u3 &&& (((1 : Int32) <<< ((((((u0).toUInt32 >>> ((u4).toUInt32 &&& Int32.toUInt32 31)).toInt32) &&& (127 : Int32)) - (85 : Int32)) &&& 31)) ^^^ (-1 : Int32)))), some (.int (u4 + (-7 : Int32))), some (.int ((((u0).toUInt32 >>> ((u4).toUInt32 &&& Int32.toUInt32 31)).toInt32) &&& (127 : Int32))), some (.int ((((((u0).toUInt32 >>> ((u4).toUInt32 &&& Int32.toUInt32 31)).toInt32) &&& (127 : Int32)) - (85 : Int32)) + (1 : Int32))), some (.int ((1 : Int32) <<< ((((((u0).toUInt32 >>> ((u4).toUInt32 &&& Int32.toUInt32 31)).toInt32) &&& (127 : Int32)) - (85 : Int32)) &&& 31)))]) i92_81 rfl (by rfl) rfl ?_
  refine gm_ev.goto (tgt := 8) i92_84 (by decide) ?_
  refine gm_ev.le (a := [some (.int u0), none, some (.int (u2 + (((((((((u0).toUInt32 >>> ((u4).toUInt32 &&& Int32.toUInt32 31)).toInt32) &&& (127 : Int32)) - (85 : Int32)) + (1 : Int32)) + (6 : Int32)) - ((((u0).toUInt32 >>> ((u4).toUInt32 &&& Int32.toUInt32 31)).toInt32) &&& (127 : Int32))) <<< (u4 &&& 31)))), some (.int (u3 &&& (((1 : Int32) <<< ((((((u0).toUInt32 >>> ((u4).toUInt32 &&& Int32.toUInt32 31)).toInt32) &&& (127 : Int32)) - (85 : Int32)) &&& 31)) ^^^ (-1 : Int32)))), some (.int (u4 + (-7 : Int32))), none, none, none]) (gm_leL.le (show gm_leL _ _ from ⟨rfl, ⟨rfl, ⟨rfl, ⟨rfl, trivial⟩⟩⟩⟩)) ?_
  exact k
theorem c_X9_plan_8_fff_at8 {N0 : Nat} {K : Nat → Nat} {d : Nat} {M : gm_H} {sz sl : Nat} {R : gm_R} {u0 : Int32} {u2 : Int32} {u3 : Int32} {u4 : Int32} {r2 : Int32} {M4 : gm_H} {sz5 : Nat} {dd6 : Nat} (c1 : ¬ u4 < 0) (t3 : gm_to N0 K ra_nm (ra_mt K) d 89 [.int ((((u0).toUInt32 >>> ((u4).toUInt32 &&& Int32.toUInt32 31)).toInt32) &&& (127 : Int32))] M sz (.returned (some (.int r2)), M4, sz5, dd6)) (c7 : ¬ r2 = 0) (c8 : ¬ (u3 &&& ((1 : Int32) <<< ((((((u0).toUInt32 >>> ((u4).toUInt32 &&& Int32.toUInt32 31)).toInt32) &&& (127 : Int32)) - (85 : Int32)) &&& 31))) = 0) (k : gm_ev N0 K ra_nm (ra_mt K) d (some .int) (gm_I cX9_plan) (gm_lkf (lkX9 false K)) 8 [some (.int u0), none, some (.int (u2 + ((((((((u0).toUInt32 >>> ((u4).toUInt32 &&& Int32.toUInt32 31)).toInt32) &&& (127 : Int32)) - (85 : Int32)) + (1 : Int32)) - ((((u0).toUInt32 >>> ((u4).toUInt32 &&& Int32.toUInt32 31)).toInt32) &&& (127 : Int32))) <<< (u4 &&& 31)))), some (.int (u3 &&& (((1 : Int32) <<< ((((((u0).toUInt32 >>> ((u4).toUInt32 &&& Int32.toUInt32 31)).toInt32) &&& (127 : Int32)) - (85 : Int32)) &&& 31)) ^^^ (-1 : Int32)))), some (.int (u4 + (-7 : Int32))), none, none, none] [] M4 sz5 (sl + dd6) R) : gm_ev N0 K ra_nm (ra_mt K) d (some .int) (gm_I cX9_plan) (gm_lkf (lkX9 false K)) 8 [some (.int u0), none, some (.int u2), some (.int u3), some (.int u4), none, none, none] [] M sz sl R := by
  refine gm_ev.iload i92_8 rfl ?_
  refine gm_ev.if_lt_f i92_10 c1 ?_
  refine gm_ev.iload_n i92_13 rfl ?_
  refine gm_ev.iload i92_14 rfl ?_
  refine gm_ev.iushr i92_16 ?_
  refine gm_ev.bipush (v := 127) i92_17 (by decide) ?_
  refine gm_ev.iand i92_19 ?_
  refine gm_ev.istore (ls' := [some (.int u0), none, some (.int u2), some (.int u3), some (.int u4), some (.int ((((u0).toUInt32 >>> ((u4).toUInt32 &&& Int32.toUInt32 31)).toInt32) &&& (127 : Int32))), none, none]) i92_20 (Nat.le_of_ble_eq_true rfl) rfl ?_
  refine gm_ev.iload i92_22 rfl ?_
  refine gm_ev.callS gm_mono_run (av := [.int ((((u0).toUInt32 >>> ((u4).toUInt32 &&& Int32.toUInt32 31)).toInt32) &&& (127 : Int32))]) (r := []) i92_24 rfl rfl rfl (Nat.le_of_ble_eq_true rfl) t3 ?_
  refine gm_ev.if_eq_f i92_27 c7 ?_
  refine gm_ev.iload i92_30 rfl ?_
  refine gm_ev.bipush (v := 85) i92_32 (by decide) ?_
  refine gm_ev.isub i92_34 ?_
  refine gm_ev.iconst (v := 1) i92_35 (by decide) ?_
  refine gm_ev.iadd i92_36 ?_
  refine gm_ev.istore (ls' := [some (.int u0), none, some (.int u2), some (.int u3), some (.int u4), some (.int ((((u0).toUInt32 >>> ((u4).toUInt32 &&& Int32.toUInt32 31)).toInt32) &&& (127 : Int32))), some (.int ((((((u0).toUInt32 >>> ((u4).toUInt32 &&& Int32.toUInt32 31)).toInt32) &&& (127 : Int32)) - (85 : Int32)) + (1 : Int32))), none]) i92_37 (Nat.le_of_ble_eq_true rfl) rfl ?_
  refine gm_ev.iconst (v := 1) i92_39 (by decide) ?_
  refine gm_ev.iload i92_40 rfl ?_
  refine gm_ev.bipush (v := 85) i92_42 (by decide) ?_
  refine gm_ev.isub i92_44 ?_
  refine gm_ev.ishl i92_45 ?_
  refine gm_ev.istore (ls' := [some (.int u0), none, some (.int u2), some (.int u3), some (.int u4), some (.int ((((u0).toUInt32 >>> ((u4).toUInt32 &&& Int32.toUInt32 31)).toInt32) &&& (127 : Int32))), some (.int ((((((u0).toUInt32 >>> ((u4).toUInt32 &&& Int32.toUInt32 31)).toInt32) &&& (127 : Int32)) - (85 : Int32)) + (1 : Int32))), some (.int ((1 : Int32) <<< ((((((u0).toUInt32 >>> ((u4).toUInt32 &&& Int32.toUInt32 31)).toInt32) &&& (127 : Int32)) - (85 : Int32)) &&& 31)))]) i92_46 (Nat.le_of_ble_eq_true rfl) rfl ?_
  refine gm_ev.iload_n i92_48 rfl ?_
  refine gm_ev.iload_n i92_49 rfl ?_
  refine gm_ev.iload i92_50 rfl ?_
  refine gm_ev.iand i92_52 ?_
  refine gm_ev.if_eq_f i92_53 c8 ?_
  refine gm_ev.iload i92_56 rfl ?_
  refine gm_ev.goto (tgt := 66) i92_58 (by decide) ?_
  refine gm_ev.iload i92_66 rfl ?_
  refine gm_ev.isub i92_68 ?_
  refine gm_ev.iload i92_69 rfl ?_
  refine gm_ev.ishl i92_71 ?_
  refine gm_ev.iadd i92_72 ?_
  refine gm_ev.istore_n (ls' := [some (.int u0), none, some (.int (u2 + ((((((((u0).toUInt32 >>> ((u4).toUInt32 &&& Int32.toUInt32 31)).toInt32) &&& (127 : Int32)) - (85 : Int32)) + (1 : Int32)) - ((((u0).toUInt32 >>> ((u4).toUInt32 &&& Int32.toUInt32 31)).toInt32) &&& (127 : Int32))) <<< (u4 &&& 31)))), some (.int u3), some (.int u4), some (.int ((((u0).toUInt32 >>> ((u4).toUInt32 &&& Int32.toUInt32 31)).toInt32) &&& (127 : Int32))), some (.int ((((((u0).toUInt32 >>> ((u4).toUInt32 &&& Int32.toUInt32 31)).toInt32) &&& (127 : Int32)) - (85 : Int32)) + (1 : Int32))), some (.int ((1 : Int32) <<< ((((((u0).toUInt32 >>> ((u4).toUInt32 &&& Int32.toUInt32 31)).toInt32) &&& (127 : Int32)) - (85 : Int32)) &&& 31)))]) i92_73 (Nat.le_of_ble_eq_true rfl) rfl ?_
  refine gm_ev.iload_n i92_74 rfl ?_
  refine gm_ev.iload i92_75 rfl ?_
  refine gm_ev.iconst (v := -1) i92_77 (by decide) ?_
  refine gm_ev.ixor i92_78 ?_
  refine gm_ev.iand i92_79 ?_
  refine gm_ev.istore_n (ls' := [some (.int u0), none, some (.int (u2 + ((((((((u0).toUInt32 >>> ((u4).toUInt32 &&& Int32.toUInt32 31)).toInt32) &&& (127 : Int32)) - (85 : Int32)) + (1 : Int32)) - ((((u0).toUInt32 >>> ((u4).toUInt32 &&& Int32.toUInt32 31)).toInt32) &&& (127 : Int32))) <<< (u4 &&& 31)))), some (.int (u3 &&& (((1 : Int32) <<< ((((((u0).toUInt32 >>> ((u4).toUInt32 &&& Int32.toUInt32 31)).toInt32) &&& (127 : Int32)) - (85 : Int32)) &&& 31)) ^^^ (-1 : Int32)))), some (.int u4), some (.int ((((u0).toUInt32 >>> ((u4).toUInt32 &&& Int32.toUInt32 31)).toInt32) &&& (127 : Int32))), some (.int ((((((u0).toUInt32 >>> ((u4).toUInt32 &&& Int32.toUInt32 31)).toInt32) &&& (127 : Int32)) - (85 : Int32)) + (1 : Int32))), some (.int ((1 : Int32) <<< ((((((u0).toUInt32 >>> ((u4).toUInt32 &&& Int32.toUInt32 31)).toInt32) &&& (127 : Int32)) - (85 : Int32)) &&& 31)))]) i92_80 (Nat.le_of_ble_eq_true rfl) rfl ?_
  refine gm_ev.iinc (v := u4 + (-7 : Int32)) (ls' := [some (.int u0), none, some (.int (u2 + ((((((((u0).toUInt32 >>> ((u4).toUInt32 &&& Int32.toUInt32 31)).toInt32) &&& (127 : Int32)) - (85 : Int32)) + (1 : Int32)) - ((((u0).toUInt32 >>> ((u4).toUInt32 &&& Int32.toUInt32 31)).toInt32) &&& (127 : Int32))) <<< (u4 &&& 31)))), some (.int (u3 &&& (((1 : Int32) <<< ((((((u0).toUInt32 >>> ((u4).toUInt32 &&& Int32.toUInt32 31)).toInt32) &&& (127 : Int32)) - (85 : Int32)) &&& 31)) ^^^ (-1 : Int32)))), some (.int (u4 + (-7 : Int32))), some (.int ((((u0).toUInt32 >>> ((u4).toUInt32 &&& Int32.toUInt32 31)).toInt32) &&& (127 : Int32))), some (.int ((((((u0).toUInt32 >>> ((u4).toUInt32 &&& Int32.toUInt32 31)).toInt32) &&& (127 : Int32)) - (85 : Int32)) + (1 : Int32))), some (.int ((1 : Int32) <<< ((((((u0).toUInt32 >>> ((u4).toUInt32 &&& Int32.toUInt32 31)).toInt32) &&& (127 : Int32)) - (85 : Int32)) &&& 31)))]) i92_81 rfl (by rfl) rfl ?_
  refine gm_ev.goto (tgt := 8) i92_84 (by decide) ?_
  refine gm_ev.le (a := [some (.int u0), none, some (.int (u2 + ((((((((u0).toUInt32 >>> ((u4).toUInt32 &&& Int32.toUInt32 31)).toInt32) &&& (127 : Int32)) - (85 : Int32)) + (1 : Int32)) - ((((u0).toUInt32 >>> ((u4).toUInt32 &&& Int32.toUInt32 31)).toInt32) &&& (127 : Int32))) <<< (u4 &&& 31)))), some (.int (u3 &&& (((1 : Int32) <<< ((((((u0).toUInt32 >>> ((u4).toUInt32 &&& Int32.toUInt32 31)).toInt32) &&& (127 : Int32)) - (85 : Int32)) &&& 31)) ^^^ (-1 : Int32)))), some (.int (u4 + (-7 : Int32))), none, none, none]) (gm_leL.le (show gm_leL _ _ from ⟨rfl, ⟨rfl, ⟨rfl, ⟨rfl, trivial⟩⟩⟩⟩)) ?_
  exact k
theorem c_X9_character_0__at5 {N0 : Nat} {K : Nat → Nat} {d : Nat} {M : gm_H} {sz sl : Nat} {R : gm_R} {p0 : Int32} {p1 : Int32}  (k : gm_ev N0 K ra_nm (ra_mt K) d (some .int) (gm_I cX9_character) (gm_lkf (lkX9 false K)) 5 [some (.int p0), some (.int p1), some (.int (0 : Int32)), some (.int (14 : Int32))] [] M sz sl R) : gm_ev N0 K ra_nm (ra_mt K) d (some .int) (gm_I cX9_character) (gm_lkf (lkX9 false K)) 0 [some (.int p0), some (.int p1), none, none] [] M sz sl R := by
  refine gm_ev.iconst (v := 0) i93_0 (by decide) ?_
  refine gm_ev.istore_n (ls' := [some (.int p0), some (.int p1), some (.int (0 : Int32)), none]) i93_1 (Nat.le_of_ble_eq_true rfl) rfl ?_
  refine gm_ev.bipush (v := 14) i93_2 (by decide) ?_
  refine gm_ev.istore_n (ls' := [some (.int p0), some (.int p1), some (.int (0 : Int32)), some (.int (14 : Int32))]) i93_4 (Nat.le_of_ble_eq_true rfl) rfl ?_
  exact k
theorem c_X9_character_5_ttt {N0 : Nat} {K : Nat → Nat} {d : Nat} {M : gm_H} {sz sl : Nat} {u0 : Int32} {u1 : Int32} {u2 : Int32} {u3 : Int32} (c1 : u3 < 0) (c2 : ¬ u2 = 0) (c3 : u0 = 0) : gm_ev N0 K ra_nm (ra_mt K) d (some .int) (gm_I cX9_character) (gm_lkf (lkX9 false K)) 5 [some (.int u0), some (.int u1), some (.int u2), some (.int u3)] [] M sz sl (.returned (some (.int (-1 : Int32))), M, sz, sl) := by
  refine gm_ev.iload_n i93_5 rfl ?_
  refine gm_ev.if_lt_t (tgt := 32) i93_6 (by decide) c1 ?_
  refine gm_ev.iload_n i93_32 rfl ?_
  refine gm_ev.if_ne_t (tgt := 40) i93_33 (by decide) c2 ?_
  refine gm_ev.iconst (v := 2) i93_40 (by decide) ?_
  refine gm_ev.iload_n i93_41 rfl ?_
  refine gm_ev.imul i93_42 ?_
  refine gm_ev.iconst (v := 1) i93_43 (by decide) ?_
  refine gm_ev.iadd i93_44 ?_
  refine gm_ev.istore_n (ls' := [some (.int u0), some (.int u1), some (.int u2), some (.int (((2 : Int32) * u2) + (1 : Int32)))]) i93_45 (Nat.le_of_ble_eq_true rfl) rfl ?_
  refine gm_ev.iload_n i93_46 rfl ?_
  refine gm_ev.if_eq_t (tgt := 59) i93_47 (by decide) c3 ?_
  refine gm_ev.iconst (v := -1) i93_59 (by decide) ?_
  exact gm_ev.iret i93_60 rfl
theorem c_X9_character_5_ttft {N0 : Nat} {K : Nat → Nat} {d : Nat} {M : gm_H} {sz sl : Nat} {u0 : Int32} {u1 : Int32} {u2 : Int32} {u3 : Int32} (c1 : u3 < 0) (c2 : ¬ u2 = 0) (c3 : ¬ u0 = 0) (c4 : u1 < 0) : gm_ev N0 K ra_nm (ra_mt K) d (some .int) (gm_I cX9_character) (gm_lkf (lkX9 false K)) 5 [some (.int u0), some (.int u1), some (.int u2), some (.int u3)] [] M sz sl (.returned (some (.int (-1 : Int32))), M, sz, sl) := by
  refine gm_ev.iload_n i93_5 rfl ?_
  refine gm_ev.if_lt_t (tgt := 32) i93_6 (by decide) c1 ?_
  refine gm_ev.iload_n i93_32 rfl ?_
  refine gm_ev.if_ne_t (tgt := 40) i93_33 (by decide) c2 ?_
  refine gm_ev.iconst (v := 2) i93_40 (by decide) ?_
  refine gm_ev.iload_n i93_41 rfl ?_
  refine gm_ev.imul i93_42 ?_
  refine gm_ev.iconst (v := 1) i93_43 (by decide) ?_
  refine gm_ev.iadd i93_44 ?_
  refine gm_ev.istore_n (ls' := [some (.int u0), some (.int u1), some (.int u2), some (.int (((2 : Int32) * u2) + (1 : Int32)))]) i93_45 (Nat.le_of_ble_eq_true rfl) rfl ?_
  refine gm_ev.iload_n i93_46 rfl ?_
  refine gm_ev.if_eq_f i93_47 c3 ?_
  refine gm_ev.iload_n i93_50 rfl ?_
  refine gm_ev.if_lt_t (tgt := 59) i93_51 (by decide) c4 ?_
  refine gm_ev.iconst (v := -1) i93_59 (by decide) ?_
  exact gm_ev.iret i93_60 rfl
theorem c_X9_character_5_ttfftttt {N0 : Nat} {K : Nat → Nat} {d : Nat} {M : gm_H} {sz sl : Nat} {u0 : Int32} {u1 : Int32} {u2 : Int32} {u3 : Int32} (c1 : u3 < 0) (c2 : ¬ u2 = 0) (c3 : ¬ u0 = 0) (c4 : ¬ u1 < 0) (c5 : u1 ≤ (((2 : Int32) * u2) + (1 : Int32))) (c6 : ¬ (u1 - u1 / (2 : Int32) * (2 : Int32)) = 0) (c7 : ¬ u1 = (1 : Int32)) (c8 : ¬ u1 = (((2 : Int32) * u2) + (1 : Int32))) : gm_ev N0 K ra_nm (ra_mt K) d (some .int) (gm_I cX9_character) (gm_lkf (lkX9 false K)) 5 [some (.int u0), some (.int u1), some (.int u2), some (.int u3)] [] M sz sl (.returned (some (.int (44 : Int32))), M, sz, sl) := by
  refine gm_ev.iload_n i93_5 rfl ?_
  refine gm_ev.if_lt_t (tgt := 32) i93_6 (by decide) c1 ?_
  refine gm_ev.iload_n i93_32 rfl ?_
  refine gm_ev.if_ne_t (tgt := 40) i93_33 (by decide) c2 ?_
  refine gm_ev.iconst (v := 2) i93_40 (by decide) ?_
  refine gm_ev.iload_n i93_41 rfl ?_
  refine gm_ev.imul i93_42 ?_
  refine gm_ev.iconst (v := 1) i93_43 (by decide) ?_
  refine gm_ev.iadd i93_44 ?_
  refine gm_ev.istore_n (ls' := [some (.int u0), some (.int u1), some (.int u2), some (.int (((2 : Int32) * u2) + (1 : Int32)))]) i93_45 (Nat.le_of_ble_eq_true rfl) rfl ?_
  refine gm_ev.iload_n i93_46 rfl ?_
  refine gm_ev.if_eq_f i93_47 c3 ?_
  refine gm_ev.iload_n i93_50 rfl ?_
  refine gm_ev.if_lt_f i93_51 c4 ?_
  refine gm_ev.iload_n i93_54 rfl ?_
  refine gm_ev.iload_n i93_55 rfl ?_
  refine gm_ev.icmp_le_t (tgt := 61) i93_56 (by decide) c5 ?_
  refine gm_ev.iload_n i93_61 rfl ?_
  refine gm_ev.iconst (v := 2) i93_62 (by decide) ?_
  refine gm_ev.irem i93_63 (by decide) ?_
  refine gm_ev.if_ne_t (tgt := 82) i93_64 (by decide) c6 ?_
  refine gm_ev.iload_n i93_82 rfl ?_
  refine gm_ev.iconst (v := 1) i93_83 (by decide) ?_
  refine gm_ev.icmp_ne_t (tgt := 90) i93_84 (by decide) c7 ?_
  refine gm_ev.iload_n i93_90 rfl ?_
  refine gm_ev.iload_n i93_91 rfl ?_
  refine gm_ev.icmp_ne_t (tgt := 100) i93_92 (by decide) c8 ?_
  refine gm_ev.bipush (v := 44) i93_100 (by decide) ?_
  exact gm_ev.iret i93_102 rfl
theorem c_X9_character_5_ttfftttf {N0 : Nat} {K : Nat → Nat} {d : Nat} {M : gm_H} {sz sl : Nat} {u0 : Int32} {u1 : Int32} {u2 : Int32} {u3 : Int32} (c1 : u3 < 0) (c2 : ¬ u2 = 0) (c3 : ¬ u0 = 0) (c4 : ¬ u1 < 0) (c5 : u1 ≤ (((2 : Int32) * u2) + (1 : Int32))) (c6 : ¬ (u1 - u1 / (2 : Int32) * (2 : Int32)) = 0) (c7 : ¬ u1 = (1 : Int32)) (c8 : u1 = (((2 : Int32) * u2) + (1 : Int32))) : gm_ev N0 K ra_nm (ra_mt K) d (some .int) (gm_I cX9_character) (gm_lkf (lkX9 false K)) 5 [some (.int u0), some (.int u1), some (.int u2), some (.int u3)] [] M sz sl (.returned (some (.int (41 : Int32))), M, sz, sl) := by
  refine gm_ev.iload_n i93_5 rfl ?_
  refine gm_ev.if_lt_t (tgt := 32) i93_6 (by decide) c1 ?_
  refine gm_ev.iload_n i93_32 rfl ?_
  refine gm_ev.if_ne_t (tgt := 40) i93_33 (by decide) c2 ?_
  refine gm_ev.iconst (v := 2) i93_40 (by decide) ?_
  refine gm_ev.iload_n i93_41 rfl ?_
  refine gm_ev.imul i93_42 ?_
  refine gm_ev.iconst (v := 1) i93_43 (by decide) ?_
  refine gm_ev.iadd i93_44 ?_
  refine gm_ev.istore_n (ls' := [some (.int u0), some (.int u1), some (.int u2), some (.int (((2 : Int32) * u2) + (1 : Int32)))]) i93_45 (Nat.le_of_ble_eq_true rfl) rfl ?_
  refine gm_ev.iload_n i93_46 rfl ?_
  refine gm_ev.if_eq_f i93_47 c3 ?_
  refine gm_ev.iload_n i93_50 rfl ?_
  refine gm_ev.if_lt_f i93_51 c4 ?_
  refine gm_ev.iload_n i93_54 rfl ?_
  refine gm_ev.iload_n i93_55 rfl ?_
  refine gm_ev.icmp_le_t (tgt := 61) i93_56 (by decide) c5 ?_
  refine gm_ev.iload_n i93_61 rfl ?_
  refine gm_ev.iconst (v := 2) i93_62 (by decide) ?_
  refine gm_ev.irem i93_63 (by decide) ?_
  refine gm_ev.if_ne_t (tgt := 82) i93_64 (by decide) c6 ?_
  refine gm_ev.iload_n i93_82 rfl ?_
  refine gm_ev.iconst (v := 1) i93_83 (by decide) ?_
  refine gm_ev.icmp_ne_t (tgt := 90) i93_84 (by decide) c7 ?_
  refine gm_ev.iload_n i93_90 rfl ?_
  refine gm_ev.iload_n i93_91 rfl ?_
  refine gm_ev.icmp_ne_f i93_92 c8 ?_
  refine gm_ev.bipush (v := 41) i93_95 (by decide) ?_
  refine gm_ev.goto (tgt := 102) i93_97 (by decide) ?_
  exact gm_ev.iret i93_102 rfl
theorem c_X9_character_5_ttffttf {N0 : Nat} {K : Nat → Nat} {d : Nat} {M : gm_H} {sz sl : Nat} {u0 : Int32} {u1 : Int32} {u2 : Int32} {u3 : Int32} (c1 : u3 < 0) (c2 : ¬ u2 = 0) (c3 : ¬ u0 = 0) (c4 : ¬ u1 < 0) (c5 : u1 ≤ (((2 : Int32) * u2) + (1 : Int32))) (c6 : ¬ (u1 - u1 / (2 : Int32) * (2 : Int32)) = 0) (c7 : u1 = (1 : Int32)) : gm_ev N0 K ra_nm (ra_mt K) d (some .int) (gm_I cX9_character) (gm_lkf (lkX9 false K)) 5 [some (.int u0), some (.int u1), some (.int u2), some (.int u3)] [] M sz sl (.returned (some (.int (40 : Int32))), M, sz, sl) := by
  refine gm_ev.iload_n i93_5 rfl ?_
  refine gm_ev.if_lt_t (tgt := 32) i93_6 (by decide) c1 ?_
  refine gm_ev.iload_n i93_32 rfl ?_
  refine gm_ev.if_ne_t (tgt := 40) i93_33 (by decide) c2 ?_
  refine gm_ev.iconst (v := 2) i93_40 (by decide) ?_
  refine gm_ev.iload_n i93_41 rfl ?_
  refine gm_ev.imul i93_42 ?_
  refine gm_ev.iconst (v := 1) i93_43 (by decide) ?_
  refine gm_ev.iadd i93_44 ?_
  refine gm_ev.istore_n (ls' := [some (.int u0), some (.int u1), some (.int u2), some (.int (((2 : Int32) * u2) + (1 : Int32)))]) i93_45 (Nat.le_of_ble_eq_true rfl) rfl ?_
  refine gm_ev.iload_n i93_46 rfl ?_
  refine gm_ev.if_eq_f i93_47 c3 ?_
  refine gm_ev.iload_n i93_50 rfl ?_
  refine gm_ev.if_lt_f i93_51 c4 ?_
  refine gm_ev.iload_n i93_54 rfl ?_
  refine gm_ev.iload_n i93_55 rfl ?_
  refine gm_ev.icmp_le_t (tgt := 61) i93_56 (by decide) c5 ?_
  refine gm_ev.iload_n i93_61 rfl ?_
  refine gm_ev.iconst (v := 2) i93_62 (by decide) ?_
  refine gm_ev.irem i93_63 (by decide) ?_
  refine gm_ev.if_ne_t (tgt := 82) i93_64 (by decide) c6 ?_
  refine gm_ev.iload_n i93_82 rfl ?_
  refine gm_ev.iconst (v := 1) i93_83 (by decide) ?_
  refine gm_ev.icmp_ne_f i93_84 c7 ?_
  refine gm_ev.bipush (v := 40) i93_87 (by decide) ?_
  exact gm_ev.iret i93_89 rfl
theorem c_X9_character_5_ttfftf {N0 : Nat} {K : Nat → Nat} {d : Nat} {M : gm_H} {sz sl : Nat} {u0 : Int32} {u1 : Int32} {u2 : Int32} {u3 : Int32} (c1 : u3 < 0) (c2 : ¬ u2 = 0) (c3 : ¬ u0 = 0) (c4 : ¬ u1 < 0) (c5 : u1 ≤ (((2 : Int32) * u2) + (1 : Int32))) (c6 : (u1 - u1 / (2 : Int32) * (2 : Int32)) = 0) : gm_ev N0 K ra_nm (ra_mt K) d (some .int) (gm_I cX9_character) (gm_lkf (lkX9 false K)) 5 [some (.int u0), some (.int u1), some (.int u2), some (.int u3)] [] M sz sl (.returned (some (.int ((((u0).toUInt32 >>> ((((21 : Int32) - ((7 : Int32) * (u1 / (2 : Int32))))).toUInt32 &&& Int32.toUInt32 31)).toInt32) &&& (127 : Int32)))), M, sz, sl) := by
  refine gm_ev.iload_n i93_5 rfl ?_
  refine gm_ev.if_lt_t (tgt := 32) i93_6 (by decide) c1 ?_
  refine gm_ev.iload_n i93_32 rfl ?_
  refine gm_ev.if_ne_t (tgt := 40) i93_33 (by decide) c2 ?_
  refine gm_ev.iconst (v := 2) i93_40 (by decide) ?_
  refine gm_ev.iload_n i93_41 rfl ?_
  refine gm_ev.imul i93_42 ?_
  refine gm_ev.iconst (v := 1) i93_43 (by decide) ?_
  refine gm_ev.iadd i93_44 ?_
  refine gm_ev.istore_n (ls' := [some (.int u0), some (.int u1), some (.int u2), some (.int (((2 : Int32) * u2) + (1 : Int32)))]) i93_45 (Nat.le_of_ble_eq_true rfl) rfl ?_
  refine gm_ev.iload_n i93_46 rfl ?_
  refine gm_ev.if_eq_f i93_47 c3 ?_
  refine gm_ev.iload_n i93_50 rfl ?_
  refine gm_ev.if_lt_f i93_51 c4 ?_
  refine gm_ev.iload_n i93_54 rfl ?_
  refine gm_ev.iload_n i93_55 rfl ?_
  refine gm_ev.icmp_le_t (tgt := 61) i93_56 (by decide) c5 ?_
  refine gm_ev.iload_n i93_61 rfl ?_
  refine gm_ev.iconst (v := 2) i93_62 (by decide) ?_
  refine gm_ev.irem i93_63 (by decide) ?_
  refine gm_ev.if_ne_f i93_64 c6 ?_
  refine gm_ev.iload_n i93_67 rfl ?_
  refine gm_ev.bipush (v := 21) i93_68 (by decide) ?_
  refine gm_ev.bipush (v := 7) i93_70 (by decide) ?_
  refine gm_ev.iload_n i93_72 rfl ?_
  refine gm_ev.iconst (v := 2) i93_73 (by decide) ?_
  refine gm_ev.idiv i93_74 (by decide) ?_
  refine gm_ev.imul i93_75 ?_
  refine gm_ev.isub i93_76 ?_
  refine gm_ev.iushr i93_77 ?_
  refine gm_ev.bipush (v := 127) i93_78 (by decide) ?_
  refine gm_ev.iand i93_80 ?_
  exact gm_ev.iret i93_81 rfl
theorem c_X9_character_5_ttfff {N0 : Nat} {K : Nat → Nat} {d : Nat} {M : gm_H} {sz sl : Nat} {u0 : Int32} {u1 : Int32} {u2 : Int32} {u3 : Int32} (c1 : u3 < 0) (c2 : ¬ u2 = 0) (c3 : ¬ u0 = 0) (c4 : ¬ u1 < 0) (c5 : ¬ u1 ≤ (((2 : Int32) * u2) + (1 : Int32))) : gm_ev N0 K ra_nm (ra_mt K) d (some .int) (gm_I cX9_character) (gm_lkf (lkX9 false K)) 5 [some (.int u0), some (.int u1), some (.int u2), some (.int u3)] [] M sz sl (.returned (some (.int (-1 : Int32))), M, sz, sl) := by
  refine gm_ev.iload_n i93_5 rfl ?_
  refine gm_ev.if_lt_t (tgt := 32) i93_6 (by decide) c1 ?_
  refine gm_ev.iload_n i93_32 rfl ?_
  refine gm_ev.if_ne_t (tgt := 40) i93_33 (by decide) c2 ?_
  refine gm_ev.iconst (v := 2) i93_40 (by decide) ?_
  refine gm_ev.iload_n i93_41 rfl ?_
  refine gm_ev.imul i93_42 ?_
  refine gm_ev.iconst (v := 1) i93_43 (by decide) ?_
  refine gm_ev.iadd i93_44 ?_
  refine gm_ev.istore_n (ls' := [some (.int u0), some (.int u1), some (.int u2), some (.int (((2 : Int32) * u2) + (1 : Int32)))]) i93_45 (Nat.le_of_ble_eq_true rfl) rfl ?_
  refine gm_ev.iload_n i93_46 rfl ?_
  refine gm_ev.if_eq_f i93_47 c3 ?_
  refine gm_ev.iload_n i93_50 rfl ?_
  refine gm_ev.if_lt_f i93_51 c4 ?_
  refine gm_ev.iload_n i93_54 rfl ?_
  refine gm_ev.iload_n i93_55 rfl ?_
  refine gm_ev.icmp_le_f i93_56 c5 ?_
  refine gm_ev.iconst (v := -1) i93_59 (by decide) ?_
  exact gm_ev.iret i93_60 rfl
theorem c_X9_character_5_tft {N0 : Nat} {K : Nat → Nat} {d : Nat} {M : gm_H} {sz sl : Nat} {u0 : Int32} {u1 : Int32} {u2 : Int32} {u3 : Int32} (c1 : u3 < 0) (c2 : u2 = 0) (c3 : u0 = 0) : gm_ev N0 K ra_nm (ra_mt K) d (some .int) (gm_I cX9_character) (gm_lkf (lkX9 false K)) 5 [some (.int u0), some (.int u1), some (.int u2), some (.int u3)] [] M sz sl (.returned (some (.int (-1 : Int32))), M, sz, sl) := by
  refine gm_ev.iload_n i93_5 rfl ?_
  refine gm_ev.if_lt_t (tgt := 32) i93_6 (by decide) c1 ?_
  refine gm_ev.iload_n i93_32 rfl ?_
  refine gm_ev.if_ne_f i93_33 c2 ?_
  refine gm_ev.iconst (v := 0) i93_36 (by decide) ?_
  refine gm_ev.goto (tgt := 45) i93_37 (by decide) ?_
  refine gm_ev.istore_n (ls' := [some (.int u0), some (.int u1), some (.int u2), some (.int (0 : Int32))]) i93_45 (Nat.le_of_ble_eq_true rfl) rfl ?_
  refine gm_ev.iload_n i93_46 rfl ?_
  refine gm_ev.if_eq_t (tgt := 59) i93_47 (by decide) c3 ?_
  refine gm_ev.iconst (v := -1) i93_59 (by decide) ?_
  exact gm_ev.iret i93_60 rfl
theorem c_X9_character_5_tfft {N0 : Nat} {K : Nat → Nat} {d : Nat} {M : gm_H} {sz sl : Nat} {u0 : Int32} {u1 : Int32} {u2 : Int32} {u3 : Int32} (c1 : u3 < 0) (c2 : u2 = 0) (c3 : ¬ u0 = 0) (c4 : u1 < 0) : gm_ev N0 K ra_nm (ra_mt K) d (some .int) (gm_I cX9_character) (gm_lkf (lkX9 false K)) 5 [some (.int u0), some (.int u1), some (.int u2), some (.int u3)] [] M sz sl (.returned (some (.int (-1 : Int32))), M, sz, sl) := by
  refine gm_ev.iload_n i93_5 rfl ?_
  refine gm_ev.if_lt_t (tgt := 32) i93_6 (by decide) c1 ?_
  refine gm_ev.iload_n i93_32 rfl ?_
  refine gm_ev.if_ne_f i93_33 c2 ?_
  refine gm_ev.iconst (v := 0) i93_36 (by decide) ?_
  refine gm_ev.goto (tgt := 45) i93_37 (by decide) ?_
  refine gm_ev.istore_n (ls' := [some (.int u0), some (.int u1), some (.int u2), some (.int (0 : Int32))]) i93_45 (Nat.le_of_ble_eq_true rfl) rfl ?_
  refine gm_ev.iload_n i93_46 rfl ?_
  refine gm_ev.if_eq_f i93_47 c3 ?_
  refine gm_ev.iload_n i93_50 rfl ?_
  refine gm_ev.if_lt_t (tgt := 59) i93_51 (by decide) c4 ?_
  refine gm_ev.iconst (v := -1) i93_59 (by decide) ?_
  exact gm_ev.iret i93_60 rfl
theorem c_X9_character_5_tffftttt {N0 : Nat} {K : Nat → Nat} {d : Nat} {M : gm_H} {sz sl : Nat} {u0 : Int32} {u1 : Int32} {u2 : Int32} {u3 : Int32} (c1 : u3 < 0) (c2 : u2 = 0) (c3 : ¬ u0 = 0) (c4 : ¬ u1 < 0) (c5 : u1 ≤ (0 : Int32)) (c6 : ¬ (u1 - u1 / (2 : Int32) * (2 : Int32)) = 0) (c7 : ¬ u1 = (1 : Int32)) (c8 : ¬ u1 = (0 : Int32)) : gm_ev N0 K ra_nm (ra_mt K) d (some .int) (gm_I cX9_character) (gm_lkf (lkX9 false K)) 5 [some (.int u0), some (.int u1), some (.int u2), some (.int u3)] [] M sz sl (.returned (some (.int (44 : Int32))), M, sz, sl) := by
  refine gm_ev.iload_n i93_5 rfl ?_
  refine gm_ev.if_lt_t (tgt := 32) i93_6 (by decide) c1 ?_
  refine gm_ev.iload_n i93_32 rfl ?_
  refine gm_ev.if_ne_f i93_33 c2 ?_
  refine gm_ev.iconst (v := 0) i93_36 (by decide) ?_
  refine gm_ev.goto (tgt := 45) i93_37 (by decide) ?_
  refine gm_ev.istore_n (ls' := [some (.int u0), some (.int u1), some (.int u2), some (.int (0 : Int32))]) i93_45 (Nat.le_of_ble_eq_true rfl) rfl ?_
  refine gm_ev.iload_n i93_46 rfl ?_
  refine gm_ev.if_eq_f i93_47 c3 ?_
  refine gm_ev.iload_n i93_50 rfl ?_
  refine gm_ev.if_lt_f i93_51 c4 ?_
  refine gm_ev.iload_n i93_54 rfl ?_
  refine gm_ev.iload_n i93_55 rfl ?_
  refine gm_ev.icmp_le_t (tgt := 61) i93_56 (by decide) c5 ?_
  refine gm_ev.iload_n i93_61 rfl ?_
  refine gm_ev.iconst (v := 2) i93_62 (by decide) ?_
  refine gm_ev.irem i93_63 (by decide) ?_
  refine gm_ev.if_ne_t (tgt := 82) i93_64 (by decide) c6 ?_
  refine gm_ev.iload_n i93_82 rfl ?_
  refine gm_ev.iconst (v := 1) i93_83 (by decide) ?_
  refine gm_ev.icmp_ne_t (tgt := 90) i93_84 (by decide) c7 ?_
  refine gm_ev.iload_n i93_90 rfl ?_
  refine gm_ev.iload_n i93_91 rfl ?_
  refine gm_ev.icmp_ne_t (tgt := 100) i93_92 (by decide) c8 ?_
  refine gm_ev.bipush (v := 44) i93_100 (by decide) ?_
  exact gm_ev.iret i93_102 rfl
theorem c_X9_character_5_tffftttf {N0 : Nat} {K : Nat → Nat} {d : Nat} {M : gm_H} {sz sl : Nat} {u0 : Int32} {u1 : Int32} {u2 : Int32} {u3 : Int32} (c1 : u3 < 0) (c2 : u2 = 0) (c3 : ¬ u0 = 0) (c4 : ¬ u1 < 0) (c5 : u1 ≤ (0 : Int32)) (c6 : ¬ (u1 - u1 / (2 : Int32) * (2 : Int32)) = 0) (c7 : ¬ u1 = (1 : Int32)) (c8 : u1 = (0 : Int32)) : gm_ev N0 K ra_nm (ra_mt K) d (some .int) (gm_I cX9_character) (gm_lkf (lkX9 false K)) 5 [some (.int u0), some (.int u1), some (.int u2), some (.int u3)] [] M sz sl (.returned (some (.int (41 : Int32))), M, sz, sl) := by
  refine gm_ev.iload_n i93_5 rfl ?_
  refine gm_ev.if_lt_t (tgt := 32) i93_6 (by decide) c1 ?_
  refine gm_ev.iload_n i93_32 rfl ?_
  refine gm_ev.if_ne_f i93_33 c2 ?_
  refine gm_ev.iconst (v := 0) i93_36 (by decide) ?_
  refine gm_ev.goto (tgt := 45) i93_37 (by decide) ?_
  refine gm_ev.istore_n (ls' := [some (.int u0), some (.int u1), some (.int u2), some (.int (0 : Int32))]) i93_45 (Nat.le_of_ble_eq_true rfl) rfl ?_
  refine gm_ev.iload_n i93_46 rfl ?_
  refine gm_ev.if_eq_f i93_47 c3 ?_
  refine gm_ev.iload_n i93_50 rfl ?_
  refine gm_ev.if_lt_f i93_51 c4 ?_
  refine gm_ev.iload_n i93_54 rfl ?_
  refine gm_ev.iload_n i93_55 rfl ?_
  refine gm_ev.icmp_le_t (tgt := 61) i93_56 (by decide) c5 ?_
  refine gm_ev.iload_n i93_61 rfl ?_
  refine gm_ev.iconst (v := 2) i93_62 (by decide) ?_
  refine gm_ev.irem i93_63 (by decide) ?_
  refine gm_ev.if_ne_t (tgt := 82) i93_64 (by decide) c6 ?_
  refine gm_ev.iload_n i93_82 rfl ?_
  refine gm_ev.iconst (v := 1) i93_83 (by decide) ?_
  refine gm_ev.icmp_ne_t (tgt := 90) i93_84 (by decide) c7 ?_
  refine gm_ev.iload_n i93_90 rfl ?_
  refine gm_ev.iload_n i93_91 rfl ?_
  refine gm_ev.icmp_ne_f i93_92 c8 ?_
  refine gm_ev.bipush (v := 41) i93_95 (by decide) ?_
  refine gm_ev.goto (tgt := 102) i93_97 (by decide) ?_
  exact gm_ev.iret i93_102 rfl
