/-! paths through the class over a general heap, by program -/
theorem c_X4_init_0__at50 {N0 : Nat} {K : Nat → Nat} {d : Nat} {M : gm_H} {sz sl : Nat} {R : gm_R} {q : Nat} {p0 : Nat} {fso6 : List Value} {M55 : gm_H} {sz56 : Nat} {dd57 : Nat} (hd : 0 < d) (bd2 : gm_bd M sz) (ho6 : (gm_new M sz (.inl (.object "RuleArena$Rule", 24, .inr (.inr (.inr (.inr (fun _ => none))))))) q = some (.inr (4, fso6))) (hNq : N0 ≤ q) (l7 : 0 < fso6.length) (l17 : 1 < (fso6.set 0 (.ref sz)).length) (l30 : 2 < ((fso6.set 0 (.ref sz)).set 1 (.ref (sz + 1))).length) (t54 : gm_to N0 K ra_nm (ra_mt K) d 50 [.ref p0, .ref (((sz + 1) + 1) + 1), .ref ((((sz + 1) + 1) + 1) + 1)] (gm_new (gm_new (gm_set (gm_new (gm_set (gm_new (gm_set (gm_new M sz (.inl (.object "RuleArena$Rule", 24, .inr (.inr (.inr (.inr (fun _ => none))))))) q (.inr (4, (fso6.set 0 (.ref sz))))) (sz + 1) (.inl (.int, 25, .inl (fun _ => 0)))) q (.inr (4, ((fso6.set 0 (.ref sz)).set 1 (.ref (sz + 1)))))) ((sz + 1) + 1) (.inl (.int, 3, .inl (fun _ => 0)))) q (.inr (4, (((fso6.set 0 (.ref sz)).set 1 (.ref (sz + 1))).set 2 (.ref ((sz + 1) + 1)))))) (((sz + 1) + 1) + 1) (.inl (.long, 24, .inr (.inl (fun _ => 0))))) ((((sz + 1) + 1) + 1) + 1) (.inl (.int, 24, .inl (fun _ => 0)))) (((((sz + 1) + 1) + 1) + 1) + 1) (.returned none, M55, sz56, dd57)) (k : gm_ev N0 K ra_nm (ra_mt K) d none (gm_I cX4_init) (gm_lkf (lkX4 true K)) 50 [some (.ref q), some (.ref p0), some (.ref (((sz + 1) + 1) + 1)), some (.ref ((((sz + 1) + 1) + 1) + 1)), some (.int (0 : Int32)), some (.int (0 : Int32)), none, none] [] M55 sz56 ((((((sl + 24) + 25) + 3) + 24) + 24) + dd57) R) : gm_ev N0 K ra_nm (ra_mt K) d none (gm_I cX4_init) (gm_lkf (lkX4 true K)) 0 [some (.ref q), some (.ref p0), none, none, none, none, none, none] [] M sz sl R := by
  refine gm_ev.aload_n i49_0 rfl ?_
  refine gm_ev.callI gm_mono_run (av := []) (r := []) i49_1 rfl rfl rfl (Nat.le_of_ble_eq_true rfl) (gm_to_obj hd _) ?_
  refine gm_ev.aload_n i49_4 rfl ?_
  refine gm_ev.bipush (v := 24) i49_5 (by decide) ?_
  refine gm_ev.anewarray (n := 24) i49_7 rfl (by decide) (by decide) ?_
  have w3 : (gm_new M sz (.inl (.object "RuleArena$Rule", 24, .inr (.inr (.inr (.inr (fun _ => none))))))) sz = some (.inl (.object "RuleArena$Rule", 24, .inr (.inr (.inr (.inr (fun _ => none)))))) := gm_set_eq
  have b5 : 24 < 2 ^ 31 := by decide
  have bd4 : gm_bd (gm_new M sz (.inl (.object "RuleArena$Rule", 24, .inr (.inr (.inr (.inr (fun _ => none))))))) (sz + 1) := gm_bd.new bd2
  refine gm_ev.putfield (M' := (gm_set (gm_new M sz (.inl (.object "RuleArena$Rule", 24, .inr (.inr (.inr (.inr (fun _ => none))))))) q (.inr (4, (fso6.set 0 (.ref sz)))))) i49_10 rfl (gm_put_of ho6 l7 hNq (gm_fit_a _ _)) ?_
  have g8 : (fso6.set 0 (.ref sz))[0]? = some (.ref sz) := gm_fs_eq l7
  have bd9 : gm_bd (gm_set (gm_new M sz (.inl (.object "RuleArena$Rule", 24, .inr (.inr (.inr (.inr (fun _ => none))))))) q (.inr (4, (fso6.set 0 (.ref sz))))) (sz + 1) := gm_bd.set bd4 ho6
  have w10 : (gm_set (gm_new M sz (.inl (.object "RuleArena$Rule", 24, .inr (.inr (.inr (.inr (fun _ => none))))))) q (.inr (4, (fso6.set 0 (.ref sz))))) q = some (.inr (4, (fso6.set 0 (.ref sz)))) := gm_set_eq
  have w11 : (gm_set (gm_new M sz (.inl (.object "RuleArena$Rule", 24, .inr (.inr (.inr (.inr (fun _ => none))))))) q (.inr (4, (fso6.set 0 (.ref sz))))) sz = some (.inl (.object "RuleArena$Rule", 24, .inr (.inr (.inr (.inr (fun _ => none)))))) := (gm_set_ne ((gm_ne_oa ho6 w3).symm)).trans w3
  refine gm_ev.aload_n i49_13 rfl ?_
  refine gm_ev.bipush (v := 25) i49_14 (by decide) ?_
  refine gm_ev.newarray (n := 25) i49_16 (by decide) (by decide) rfl ?_
  have w12 : (gm_new (gm_set (gm_new M sz (.inl (.object "RuleArena$Rule", 24, .inr (.inr (.inr (.inr (fun _ => none))))))) q (.inr (4, (fso6.set 0 (.ref sz))))) (sz + 1) (.inl (.int, 25, .inl (fun _ => 0)))) q = some (.inr (4, (fso6.set 0 (.ref sz)))) := gm_new_old bd9 w10
  have w13 : (gm_new (gm_set (gm_new M sz (.inl (.object "RuleArena$Rule", 24, .inr (.inr (.inr (.inr (fun _ => none))))))) q (.inr (4, (fso6.set 0 (.ref sz))))) (sz + 1) (.inl (.int, 25, .inl (fun _ => 0)))) sz = some (.inl (.object "RuleArena$Rule", 24, .inr (.inr (.inr (.inr (fun _ => none)))))) := gm_new_old bd9 w11
  have w14 : (gm_new (gm_set (gm_new M sz (.inl (.object "RuleArena$Rule", 24, .inr (.inr (.inr (.inr (fun _ => none))))))) q (.inr (4, (fso6.set 0 (.ref sz))))) (sz + 1) (.inl (.int, 25, .inl (fun _ => 0)))) (sz + 1) = some (.inl (.int, 25, .inl (fun _ => 0))) := gm_set_eq
  have b16 : 25 < 2 ^ 31 := by decide
  have bd15 : gm_bd (gm_new (gm_set (gm_new M sz (.inl (.object "RuleArena$Rule", 24, .inr (.inr (.inr (.inr (fun _ => none))))))) q (.inr (4, (fso6.set 0 (.ref sz))))) (sz + 1) (.inl (.int, 25, .inl (fun _ => 0)))) ((sz + 1) + 1) := gm_bd.new bd9
  refine gm_ev.putfield (M' := (gm_set (gm_new (gm_set (gm_new M sz (.inl (.object "RuleArena$Rule", 24, .inr (.inr (.inr (.inr (fun _ => none))))))) q (.inr (4, (fso6.set 0 (.ref sz))))) (sz + 1) (.inl (.int, 25, .inl (fun _ => 0)))) q (.inr (4, ((fso6.set 0 (.ref sz)).set 1 (.ref (sz + 1))))))) i49_18 rfl (gm_put_of w12 l17 hNq (gm_fit_a _ _)) ?_
  have g18 : ((fso6.set 0 (.ref sz)).set 1 (.ref (sz + 1)))[0]? = some (.ref sz) := (gm_fs_ne (by decide)).trans g8
  have g19 : ((fso6.set 0 (.ref sz)).set 1 (.ref (sz + 1)))[1]? = some (.ref (sz + 1)) := gm_fs_eq l17
  have bd20 : gm_bd (gm_set (gm_new (gm_set (gm_new M sz (.inl (.object "RuleArena$Rule", 24, .inr (.inr (.inr (.inr (fun _ => none))))))) q (.inr (4, (fso6.set 0 (.ref sz))))) (sz + 1) (.inl (.int, 25, .inl (fun _ => 0)))) q (.inr (4, ((fso6.set 0 (.ref sz)).set 1 (.ref (sz + 1)))))) ((sz + 1) + 1) := gm_bd.set bd15 w12
  have w21 : (gm_set (gm_new (gm_set (gm_new M sz (.inl (.object "RuleArena$Rule", 24, .inr (.inr (.inr (.inr (fun _ => none))))))) q (.inr (4, (fso6.set 0 (.ref sz))))) (sz + 1) (.inl (.int, 25, .inl (fun _ => 0)))) q (.inr (4, ((fso6.set 0 (.ref sz)).set 1 (.ref (sz + 1)))))) q = some (.inr (4, ((fso6.set 0 (.ref sz)).set 1 (.ref (sz + 1))))) := gm_set_eq
  have w22 : (gm_set (gm_new (gm_set (gm_new M sz (.inl (.object "RuleArena$Rule", 24, .inr (.inr (.inr (.inr (fun _ => none))))))) q (.inr (4, (fso6.set 0 (.ref sz))))) (sz + 1) (.inl (.int, 25, .inl (fun _ => 0)))) q (.inr (4, ((fso6.set 0 (.ref sz)).set 1 (.ref (sz + 1)))))) sz = some (.inl (.object "RuleArena$Rule", 24, .inr (.inr (.inr (.inr (fun _ => none)))))) := (gm_set_ne ((gm_ne_oa w12 w13).symm)).trans w13
  have w23 : (gm_set (gm_new (gm_set (gm_new M sz (.inl (.object "RuleArena$Rule", 24, .inr (.inr (.inr (.inr (fun _ => none))))))) q (.inr (4, (fso6.set 0 (.ref sz))))) (sz + 1) (.inl (.int, 25, .inl (fun _ => 0)))) q (.inr (4, ((fso6.set 0 (.ref sz)).set 1 (.ref (sz + 1)))))) (sz + 1) = some (.inl (.int, 25, .inl (fun _ => 0))) := (gm_set_ne ((gm_ne_oa w12 w14).symm)).trans w14
  refine gm_ev.aload_n i49_21 rfl ?_
  refine gm_ev.iconst (v := 3) i49_22 (by decide) ?_
  refine gm_ev.newarray (n := 3) i49_23 (by decide) (by decide) rfl ?_
  have w24 : (gm_new (gm_set (gm_new (gm_set (gm_new M sz (.inl (.object "RuleArena$Rule", 24, .inr (.inr (.inr (.inr (fun _ => none))))))) q (.inr (4, (fso6.set 0 (.ref sz))))) (sz + 1) (.inl (.int, 25, .inl (fun _ => 0)))) q (.inr (4, ((fso6.set 0 (.ref sz)).set 1 (.ref (sz + 1)))))) ((sz + 1) + 1) (.inl (.int, 3, .inl (fun _ => 0)))) q = some (.inr (4, ((fso6.set 0 (.ref sz)).set 1 (.ref (sz + 1))))) := gm_new_old bd20 w21
  have w25 : (gm_new (gm_set (gm_new (gm_set (gm_new M sz (.inl (.object "RuleArena$Rule", 24, .inr (.inr (.inr (.inr (fun _ => none))))))) q (.inr (4, (fso6.set 0 (.ref sz))))) (sz + 1) (.inl (.int, 25, .inl (fun _ => 0)))) q (.inr (4, ((fso6.set 0 (.ref sz)).set 1 (.ref (sz + 1)))))) ((sz + 1) + 1) (.inl (.int, 3, .inl (fun _ => 0)))) sz = some (.inl (.object "RuleArena$Rule", 24, .inr (.inr (.inr (.inr (fun _ => none)))))) := gm_new_old bd20 w22
  have w26 : (gm_new (gm_set (gm_new (gm_set (gm_new M sz (.inl (.object "RuleArena$Rule", 24, .inr (.inr (.inr (.inr (fun _ => none))))))) q (.inr (4, (fso6.set 0 (.ref sz))))) (sz + 1) (.inl (.int, 25, .inl (fun _ => 0)))) q (.inr (4, ((fso6.set 0 (.ref sz)).set 1 (.ref (sz + 1)))))) ((sz + 1) + 1) (.inl (.int, 3, .inl (fun _ => 0)))) (sz + 1) = some (.inl (.int, 25, .inl (fun _ => 0))) := gm_new_old bd20 w23
  have w27 : (gm_new (gm_set (gm_new (gm_set (gm_new M sz (.inl (.object "RuleArena$Rule", 24, .inr (.inr (.inr (.inr (fun _ => none))))))) q (.inr (4, (fso6.set 0 (.ref sz))))) (sz + 1) (.inl (.int, 25, .inl (fun _ => 0)))) q (.inr (4, ((fso6.set 0 (.ref sz)).set 1 (.ref (sz + 1)))))) ((sz + 1) + 1) (.inl (.int, 3, .inl (fun _ => 0)))) ((sz + 1) + 1) = some (.inl (.int, 3, .inl (fun _ => 0))) := gm_set_eq
  have b29 : 3 < 2 ^ 31 := by decide
  have bd28 : gm_bd (gm_new (gm_set (gm_new (gm_set (gm_new M sz (.inl (.object "RuleArena$Rule", 24, .inr (.inr (.inr (.inr (fun _ => none))))))) q (.inr (4, (fso6.set 0 (.ref sz))))) (sz + 1) (.inl (.int, 25, .inl (fun _ => 0)))) q (.inr (4, ((fso6.set 0 (.ref sz)).set 1 (.ref (sz + 1)))))) ((sz + 1) + 1) (.inl (.int, 3, .inl (fun _ => 0)))) (((sz + 1) + 1) + 1) := gm_bd.new bd20
  refine gm_ev.putfield (M' := (gm_set (gm_new (gm_set (gm_new (gm_set (gm_new M sz (.inl (.object "RuleArena$Rule", 24, .inr (.inr (.inr (.inr (fun _ => none))))))) q (.inr (4, (fso6.set 0 (.ref sz))))) (sz + 1) (.inl (.int, 25, .inl (fun _ => 0)))) q (.inr (4, ((fso6.set 0 (.ref sz)).set 1 (.ref (sz + 1)))))) ((sz + 1) + 1) (.inl (.int, 3, .inl (fun _ => 0)))) q (.inr (4, (((fso6.set 0 (.ref sz)).set 1 (.ref (sz + 1))).set 2 (.ref ((sz + 1) + 1))))))) i49_25 rfl (gm_put_of w24 l30 hNq (gm_fit_a _ _)) ?_
  have g31 : (((fso6.set 0 (.ref sz)).set 1 (.ref (sz + 1))).set 2 (.ref ((sz + 1) + 1)))[0]? = some (.ref sz) := (gm_fs_ne (by decide)).trans g18
  have g32 : (((fso6.set 0 (.ref sz)).set 1 (.ref (sz + 1))).set 2 (.ref ((sz + 1) + 1)))[1]? = some (.ref (sz + 1)) := (gm_fs_ne (by decide)).trans g19
  have g33 : (((fso6.set 0 (.ref sz)).set 1 (.ref (sz + 1))).set 2 (.ref ((sz + 1) + 1)))[2]? = some (.ref ((sz + 1) + 1)) := gm_fs_eq l30
  have bd34 : gm_bd (gm_set (gm_new (gm_set (gm_new (gm_set (gm_new M sz (.inl (.object "RuleArena$Rule", 24, .inr (.inr (.inr (.inr (fun _ => none))))))) q (.inr (4, (fso6.set 0 (.ref sz))))) (sz + 1) (.inl (.int, 25, .inl (fun _ => 0)))) q (.inr (4, ((fso6.set 0 (.ref sz)).set 1 (.ref (sz + 1)))))) ((sz + 1) + 1) (.inl (.int, 3, .inl (fun _ => 0)))) q (.inr (4, (((fso6.set 0 (.ref sz)).set 1 (.ref (sz + 1))).set 2 (.ref ((sz + 1) + 1)))))) (((sz + 1) + 1) + 1) := gm_bd.set bd28 w24
  have w35 : (gm_set (gm_new (gm_set (gm_new (gm_set (gm_new M sz (.inl (.object "RuleArena$Rule", 24, .inr (.inr (.inr (.inr (fun _ => none))))))) q (.inr (4, (fso6.set 0 (.ref sz))))) (sz + 1) (.inl (.int, 25, .inl (fun _ => 0)))) q (.inr (4, ((fso6.set 0 (.ref sz)).set 1 (.ref (sz + 1)))))) ((sz + 1) + 1) (.inl (.int, 3, .inl (fun _ => 0)))) q (.inr (4, (((fso6.set 0 (.ref sz)).set 1 (.ref (sz + 1))).set 2 (.ref ((sz + 1) + 1)))))) q = some (.inr (4, (((fso6.set 0 (.ref sz)).set 1 (.ref (sz + 1))).set 2 (.ref ((sz + 1) + 1))))) := gm_set_eq
  have w36 : (gm_set (gm_new (gm_set (gm_new (gm_set (gm_new M sz (.inl (.object "RuleArena$Rule", 24, .inr (.inr (.inr (.inr (fun _ => none))))))) q (.inr (4, (fso6.set 0 (.ref sz))))) (sz + 1) (.inl (.int, 25, .inl (fun _ => 0)))) q (.inr (4, ((fso6.set 0 (.ref sz)).set 1 (.ref (sz + 1)))))) ((sz + 1) + 1) (.inl (.int, 3, .inl (fun _ => 0)))) q (.inr (4, (((fso6.set 0 (.ref sz)).set 1 (.ref (sz + 1))).set 2 (.ref ((sz + 1) + 1)))))) sz = some (.inl (.object "RuleArena$Rule", 24, .inr (.inr (.inr (.inr (fun _ => none)))))) := (gm_set_ne ((gm_ne_oa w24 w25).symm)).trans w25
  have w37 : (gm_set (gm_new (gm_set (gm_new (gm_set (gm_new M sz (.inl (.object "RuleArena$Rule", 24, .inr (.inr (.inr (.inr (fun _ => none))))))) q (.inr (4, (fso6.set 0 (.ref sz))))) (sz + 1) (.inl (.int, 25, .inl (fun _ => 0)))) q (.inr (4, ((fso6.set 0 (.ref sz)).set 1 (.ref (sz + 1)))))) ((sz + 1) + 1) (.inl (.int, 3, .inl (fun _ => 0)))) q (.inr (4, (((fso6.set 0 (.ref sz)).set 1 (.ref (sz + 1))).set 2 (.ref ((sz + 1) + 1)))))) (sz + 1) = some (.inl (.int, 25, .inl (fun _ => 0))) := (gm_set_ne ((gm_ne_oa w24 w26).symm)).trans w26
  have w38 : (gm_set (gm_new (gm_set (gm_new (gm_set (gm_new M sz (.inl (.object "RuleArena$Rule", 24, .inr (.inr (.inr (.inr (fun _ => none))))))) q (.inr (4, (fso6.set 0 (.ref sz))))) (sz + 1) (.inl (.int, 25, .inl (fun _ => 0)))) q (.inr (4, ((fso6.set 0 (.ref sz)).set 1 (.ref (sz + 1)))))) ((sz + 1) + 1) (.inl (.int, 3, .inl (fun _ => 0)))) q (.inr (4, (((fso6.set 0 (.ref sz)).set 1 (.ref (sz + 1))).set 2 (.ref ((sz + 1) + 1)))))) ((sz + 1) + 1) = some (.inl (.int, 3, .inl (fun _ => 0))) := (gm_set_ne ((gm_ne_oa w24 w27).symm)).trans w27
  refine gm_ev.bipush (v := 24) i49_28 (by decide) ?_
  refine gm_ev.newarray (n := 24) i49_30 (by decide) (by decide) rfl ?_
  have w39 : (gm_new (gm_set (gm_new (gm_set (gm_new (gm_set (gm_new M sz (.inl (.object "RuleArena$Rule", 24, .inr (.inr (.inr (.inr (fun _ => none))))))) q (.inr (4, (fso6.set 0 (.ref sz))))) (sz + 1) (.inl (.int, 25, .inl (fun _ => 0)))) q (.inr (4, ((fso6.set 0 (.ref sz)).set 1 (.ref (sz + 1)))))) ((sz + 1) + 1) (.inl (.int, 3, .inl (fun _ => 0)))) q (.inr (4, (((fso6.set 0 (.ref sz)).set 1 (.ref (sz + 1))).set 2 (.ref ((sz + 1) + 1)))))) (((sz + 1) + 1) + 1) (.inl (.long, 24, .inr (.inl (fun _ => 0))))) q = some (.inr (4, (((fso6.set 0 (.ref sz)).set 1 (.ref (sz + 1))).set 2 (.ref ((sz + 1) + 1))))) := gm_new_old bd34 w35
  have w40 : (gm_new (gm_set (gm_new (gm_set (gm_new (gm_set (gm_new M sz (.inl (.object "RuleArena$Rule", 24, .inr (.inr (.inr (.inr (fun _ => none))))))) q (.inr (4, (fso6.set 0 (.ref sz))))) (sz + 1) (.inl (.int, 25, .inl (fun _ => 0)))) q (.inr (4, ((fso6.set 0 (.ref sz)).set 1 (.ref (sz + 1)))))) ((sz + 1) + 1) (.inl (.int, 3, .inl (fun _ => 0)))) q (.inr (4, (((fso6.set 0 (.ref sz)).set 1 (.ref (sz + 1))).set 2 (.ref ((sz + 1) + 1)))))) (((sz + 1) + 1) + 1) (.inl (.long, 24, .inr (.inl (fun _ => 0))))) sz = some (.inl (.object "RuleArena$Rule", 24, .inr (.inr (.inr (.inr (fun _ => none)))))) := gm_new_old bd34 w36
  have w41 : (gm_new (gm_set (gm_new (gm_set (gm_new (gm_set (gm_new M sz (.inl (.object "RuleArena$Rule", 24, .inr (.inr (.inr (.inr (fun _ => none))))))) q (.inr (4, (fso6.set 0 (.ref sz))))) (sz + 1) (.inl (.int, 25, .inl (fun _ => 0)))) q (.inr (4, ((fso6.set 0 (.ref sz)).set 1 (.ref (sz + 1)))))) ((sz + 1) + 1) (.inl (.int, 3, .inl (fun _ => 0)))) q (.inr (4, (((fso6.set 0 (.ref sz)).set 1 (.ref (sz + 1))).set 2 (.ref ((sz + 1) + 1)))))) (((sz + 1) + 1) + 1) (.inl (.long, 24, .inr (.inl (fun _ => 0))))) (sz + 1) = some (.inl (.int, 25, .inl (fun _ => 0))) := gm_new_old bd34 w37
  have w42 : (gm_new (gm_set (gm_new (gm_set (gm_new (gm_set (gm_new M sz (.inl (.object "RuleArena$Rule", 24, .inr (.inr (.inr (.inr (fun _ => none))))))) q (.inr (4, (fso6.set 0 (.ref sz))))) (sz + 1) (.inl (.int, 25, .inl (fun _ => 0)))) q (.inr (4, ((fso6.set 0 (.ref sz)).set 1 (.ref (sz + 1)))))) ((sz + 1) + 1) (.inl (.int, 3, .inl (fun _ => 0)))) q (.inr (4, (((fso6.set 0 (.ref sz)).set 1 (.ref (sz + 1))).set 2 (.ref ((sz + 1) + 1)))))) (((sz + 1) + 1) + 1) (.inl (.long, 24, .inr (.inl (fun _ => 0))))) ((sz + 1) + 1) = some (.inl (.int, 3, .inl (fun _ => 0))) := gm_new_old bd34 w38
  have w43 : (gm_new (gm_set (gm_new (gm_set (gm_new (gm_set (gm_new M sz (.inl (.object "RuleArena$Rule", 24, .inr (.inr (.inr (.inr (fun _ => none))))))) q (.inr (4, (fso6.set 0 (.ref sz))))) (sz + 1) (.inl (.int, 25, .inl (fun _ => 0)))) q (.inr (4, ((fso6.set 0 (.ref sz)).set 1 (.ref (sz + 1)))))) ((sz + 1) + 1) (.inl (.int, 3, .inl (fun _ => 0)))) q (.inr (4, (((fso6.set 0 (.ref sz)).set 1 (.ref (sz + 1))).set 2 (.ref ((sz + 1) + 1)))))) (((sz + 1) + 1) + 1) (.inl (.long, 24, .inr (.inl (fun _ => 0))))) (((sz + 1) + 1) + 1) = some (.inl (.long, 24, .inr (.inl (fun _ => 0)))) := gm_set_eq
  have b45 : 24 < 2 ^ 31 := by decide
  have bd44 : gm_bd (gm_new (gm_set (gm_new (gm_set (gm_new (gm_set (gm_new M sz (.inl (.object "RuleArena$Rule", 24, .inr (.inr (.inr (.inr (fun _ => none))))))) q (.inr (4, (fso6.set 0 (.ref sz))))) (sz + 1) (.inl (.int, 25, .inl (fun _ => 0)))) q (.inr (4, ((fso6.set 0 (.ref sz)).set 1 (.ref (sz + 1)))))) ((sz + 1) + 1) (.inl (.int, 3, .inl (fun _ => 0)))) q (.inr (4, (((fso6.set 0 (.ref sz)).set 1 (.ref (sz + 1))).set 2 (.ref ((sz + 1) + 1)))))) (((sz + 1) + 1) + 1) (.inl (.long, 24, .inr (.inl (fun _ => 0))))) ((((sz + 1) + 1) + 1) + 1) := gm_bd.new bd34
  refine gm_ev.astore_n (ls' := [some (.ref q), some (.ref p0), some (.ref (((sz + 1) + 1) + 1)), none, none, none, none, none]) i49_32 (Nat.le_of_ble_eq_true rfl) rfl ?_
  refine gm_ev.bipush (v := 24) i49_33 (by decide) ?_
  refine gm_ev.newarray (n := 24) i49_35 (by decide) (by decide) rfl ?_
  have w46 : (gm_new (gm_new (gm_set (gm_new (gm_set (gm_new (gm_set (gm_new M sz (.inl (.object "RuleArena$Rule", 24, .inr (.inr (.inr (.inr (fun _ => none))))))) q (.inr (4, (fso6.set 0 (.ref sz))))) (sz + 1) (.inl (.int, 25, .inl (fun _ => 0)))) q (.inr (4, ((fso6.set 0 (.ref sz)).set 1 (.ref (sz + 1)))))) ((sz + 1) + 1) (.inl (.int, 3, .inl (fun _ => 0)))) q (.inr (4, (((fso6.set 0 (.ref sz)).set 1 (.ref (sz + 1))).set 2 (.ref ((sz + 1) + 1)))))) (((sz + 1) + 1) + 1) (.inl (.long, 24, .inr (.inl (fun _ => 0))))) ((((sz + 1) + 1) + 1) + 1) (.inl (.int, 24, .inl (fun _ => 0)))) q = some (.inr (4, (((fso6.set 0 (.ref sz)).set 1 (.ref (sz + 1))).set 2 (.ref ((sz + 1) + 1))))) := gm_new_old bd44 w39
  have w47 : (gm_new (gm_new (gm_set (gm_new (gm_set (gm_new (gm_set (gm_new M sz (.inl (.object "RuleArena$Rule", 24, .inr (.inr (.inr (.inr (fun _ => none))))))) q (.inr (4, (fso6.set 0 (.ref sz))))) (sz + 1) (.inl (.int, 25, .inl (fun _ => 0)))) q (.inr (4, ((fso6.set 0 (.ref sz)).set 1 (.ref (sz + 1)))))) ((sz + 1) + 1) (.inl (.int, 3, .inl (fun _ => 0)))) q (.inr (4, (((fso6.set 0 (.ref sz)).set 1 (.ref (sz + 1))).set 2 (.ref ((sz + 1) + 1)))))) (((sz + 1) + 1) + 1) (.inl (.long, 24, .inr (.inl (fun _ => 0))))) ((((sz + 1) + 1) + 1) + 1) (.inl (.int, 24, .inl (fun _ => 0)))) sz = some (.inl (.object "RuleArena$Rule", 24, .inr (.inr (.inr (.inr (fun _ => none)))))) := gm_new_old bd44 w40
  have w48 : (gm_new (gm_new (gm_set (gm_new (gm_set (gm_new (gm_set (gm_new M sz (.inl (.object "RuleArena$Rule", 24, .inr (.inr (.inr (.inr (fun _ => none))))))) q (.inr (4, (fso6.set 0 (.ref sz))))) (sz + 1) (.inl (.int, 25, .inl (fun _ => 0)))) q (.inr (4, ((fso6.set 0 (.ref sz)).set 1 (.ref (sz + 1)))))) ((sz + 1) + 1) (.inl (.int, 3, .inl (fun _ => 0)))) q (.inr (4, (((fso6.set 0 (.ref sz)).set 1 (.ref (sz + 1))).set 2 (.ref ((sz + 1) + 1)))))) (((sz + 1) + 1) + 1) (.inl (.long, 24, .inr (.inl (fun _ => 0))))) ((((sz + 1) + 1) + 1) + 1) (.inl (.int, 24, .inl (fun _ => 0)))) (sz + 1) = some (.inl (.int, 25, .inl (fun _ => 0))) := gm_new_old bd44 w41
  have w49 : (gm_new (gm_new (gm_set (gm_new (gm_set (gm_new (gm_set (gm_new M sz (.inl (.object "RuleArena$Rule", 24, .inr (.inr (.inr (.inr (fun _ => none))))))) q (.inr (4, (fso6.set 0 (.ref sz))))) (sz + 1) (.inl (.int, 25, .inl (fun _ => 0)))) q (.inr (4, ((fso6.set 0 (.ref sz)).set 1 (.ref (sz + 1)))))) ((sz + 1) + 1) (.inl (.int, 3, .inl (fun _ => 0)))) q (.inr (4, (((fso6.set 0 (.ref sz)).set 1 (.ref (sz + 1))).set 2 (.ref ((sz + 1) + 1)))))) (((sz + 1) + 1) + 1) (.inl (.long, 24, .inr (.inl (fun _ => 0))))) ((((sz + 1) + 1) + 1) + 1) (.inl (.int, 24, .inl (fun _ => 0)))) ((sz + 1) + 1) = some (.inl (.int, 3, .inl (fun _ => 0))) := gm_new_old bd44 w42
  have w50 : (gm_new (gm_new (gm_set (gm_new (gm_set (gm_new (gm_set (gm_new M sz (.inl (.object "RuleArena$Rule", 24, .inr (.inr (.inr (.inr (fun _ => none))))))) q (.inr (4, (fso6.set 0 (.ref sz))))) (sz + 1) (.inl (.int, 25, .inl (fun _ => 0)))) q (.inr (4, ((fso6.set 0 (.ref sz)).set 1 (.ref (sz + 1)))))) ((sz + 1) + 1) (.inl (.int, 3, .inl (fun _ => 0)))) q (.inr (4, (((fso6.set 0 (.ref sz)).set 1 (.ref (sz + 1))).set 2 (.ref ((sz + 1) + 1)))))) (((sz + 1) + 1) + 1) (.inl (.long, 24, .inr (.inl (fun _ => 0))))) ((((sz + 1) + 1) + 1) + 1) (.inl (.int, 24, .inl (fun _ => 0)))) (((sz + 1) + 1) + 1) = some (.inl (.long, 24, .inr (.inl (fun _ => 0)))) := gm_new_old bd44 w43
  have w51 : (gm_new (gm_new (gm_set (gm_new (gm_set (gm_new (gm_set (gm_new M sz (.inl (.object "RuleArena$Rule", 24, .inr (.inr (.inr (.inr (fun _ => none))))))) q (.inr (4, (fso6.set 0 (.ref sz))))) (sz + 1) (.inl (.int, 25, .inl (fun _ => 0)))) q (.inr (4, ((fso6.set 0 (.ref sz)).set 1 (.ref (sz + 1)))))) ((sz + 1) + 1) (.inl (.int, 3, .inl (fun _ => 0)))) q (.inr (4, (((fso6.set 0 (.ref sz)).set 1 (.ref (sz + 1))).set 2 (.ref ((sz + 1) + 1)))))) (((sz + 1) + 1) + 1) (.inl (.long, 24, .inr (.inl (fun _ => 0))))) ((((sz + 1) + 1) + 1) + 1) (.inl (.int, 24, .inl (fun _ => 0)))) ((((sz + 1) + 1) + 1) + 1) = some (.inl (.int, 24, .inl (fun _ => 0))) := gm_set_eq
  have b53 : 24 < 2 ^ 31 := by decide
  have bd52 : gm_bd (gm_new (gm_new (gm_set (gm_new (gm_set (gm_new (gm_set (gm_new M sz (.inl (.object "RuleArena$Rule", 24, .inr (.inr (.inr (.inr (fun _ => none))))))) q (.inr (4, (fso6.set 0 (.ref sz))))) (sz + 1) (.inl (.int, 25, .inl (fun _ => 0)))) q (.inr (4, ((fso6.set 0 (.ref sz)).set 1 (.ref (sz + 1)))))) ((sz + 1) + 1) (.inl (.int, 3, .inl (fun _ => 0)))) q (.inr (4, (((fso6.set 0 (.ref sz)).set 1 (.ref (sz + 1))).set 2 (.ref ((sz + 1) + 1)))))) (((sz + 1) + 1) + 1) (.inl (.long, 24, .inr (.inl (fun _ => 0))))) ((((sz + 1) + 1) + 1) + 1) (.inl (.int, 24, .inl (fun _ => 0)))) (((((sz + 1) + 1) + 1) + 1) + 1) := gm_bd.new bd44
  refine gm_ev.astore_n (ls' := [some (.ref q), some (.ref p0), some (.ref (((sz + 1) + 1) + 1)), some (.ref ((((sz + 1) + 1) + 1) + 1)), none, none, none, none]) i49_37 (Nat.le_of_ble_eq_true rfl) rfl ?_
  refine gm_ev.aload_n i49_38 rfl ?_
  refine gm_ev.aload_n i49_39 rfl ?_
  refine gm_ev.aload_n i49_40 rfl ?_
  refine gm_ev.callS gm_mono_run (av := [.ref p0, .ref (((sz + 1) + 1) + 1), .ref ((((sz + 1) + 1) + 1) + 1)]) (r := []) i49_41 rfl rfl rfl (Nat.le_of_ble_eq_true rfl) t54 ?_
  refine gm_ev.iconst (v := 0) i49_44 (by decide) ?_
  refine gm_ev.istore (ls' := [some (.ref q), some (.ref p0), some (.ref (((sz + 1) + 1) + 1)), some (.ref ((((sz + 1) + 1) + 1) + 1)), some (.int (0 : Int32)), none, none, none]) i49_45 (Nat.le_of_ble_eq_true rfl) rfl ?_
  refine gm_ev.iconst (v := 0) i49_47 (by decide) ?_
  refine gm_ev.istore (ls' := [some (.ref q), some (.ref p0), some (.ref (((sz + 1) + 1) + 1)), some (.ref ((((sz + 1) + 1) + 1) + 1)), some (.int (0 : Int32)), some (.int (0 : Int32)), none, none]) i49_48 (Nat.le_of_ble_eq_true rfl) rfl ?_
  exact k
theorem c_X4_init_50_t {N0 : Nat} {K : Nat → Nat} {d : Nat} {M : gm_H} {sz sl : Nat} {q : Nat} {p0 : Nat} {a2 : Nat} {a3 : Nat} {u4 : Int32} {u5 : Int32} {fso1 : List Value} {x2 : Int32} {fso5 : List Value} {r6 : Nat} {na8 : Nat} {fa8 : Nat → Int32} {k9 : Nat} (ho1 : M p0 = some (.inr (8, fso1))) (f3 : fso1[1]? = some (.int x2)) (c4 : x2 ≤ u5) (ho5 : M q = some (.inr (4, fso5))) (f7 : fso5[1]? = some (.ref r6)) (ha8 : M r6 = some (.inl (.int, na8, .inl fa8))) (ba8 : na8 < 2 ^ 31) (hNr6 : N0 ≤ r6) (ek9 : u4 = nI k9) (lk9 : k9 < na8) : gm_ev N0 K ra_nm (ra_mt K) d none (gm_I cX4_init) (gm_lkf (lkX4 true K)) 50 [some (.ref q), some (.ref p0), some (.ref a2), some (.ref a3), some (.int u4), some (.int u5), none, none] [] M sz sl (.returned none, (gm_set M r6 (.inl (.int, na8, .inl (upd fa8 k9 x2)))), sz, sl) := by
  refine gm_ev.iload i49_50 rfl ?_
  refine gm_ev.aload_n i49_52 rfl ?_
  refine gm_ev.getfield (v := .int x2) i49_53 rfl (gm_fld_of ho1 f3) ?_
  refine gm_ev.icmp_ge_t (tgt := 179) i49_56 (by decide) c4 ?_
  refine gm_ev.aload_n i49_179 rfl ?_
  refine gm_ev.getfield (v := .ref r6) i49_180 rfl (gm_fld_of ho5 f7) ?_
  refine gm_ev.iload i49_183 rfl ?_
  refine gm_ev.aload_n i49_185 rfl ?_
  refine gm_ev.getfield (v := .int x2) i49_186 rfl (gm_fld_of ho1 f3) ?_
  refine gm_ev.iastore (M' := (gm_set M r6 (.inl (.int, na8, .inl (upd fa8 k9 x2))))) i49_189 (gm_asti_of ha8 ek9 lk9 ba8 hNr6) ?_
  have w10 : (gm_set M r6 (.inl (.int, na8, .inl (upd fa8 k9 x2)))) p0 = some (.inr (8, fso1)) := (gm_set_ne (gm_ne_oa ho1 ha8)).trans ho1
  have w11 : (gm_set M r6 (.inl (.int, na8, .inl (upd fa8 k9 x2)))) q = some (.inr (4, fso5)) := (gm_set_ne (gm_ne_oa ho5 ha8)).trans ho5
  have w12 : (gm_set M r6 (.inl (.int, na8, .inl (upd fa8 k9 x2)))) r6 = some (.inl (.int, na8, .inl (upd fa8 k9 x2))) := gm_set_eq
  exact gm_ev.vret i49_190 rfl
theorem c_X4_init_50_ft_at152 {N0 : Nat} {K : Nat → Nat} {d : Nat} {M : gm_H} {sz sl : Nat} {R : gm_R} {q : Nat} {p0 : Nat} {a2 : Nat} {a3 : Nat} {u4 : Int32} {u5 : Int32} {fso1 : List Value} {x2 : Int32} {na5 : Nat} {fa5 : Nat → Int32} {k6 : Nat} {fso7 : List Value} {r8 : Nat} {r10 : Nat} {na12 : Nat} {fa12 : Nat → Option Nat} {k13 : Nat} {r14 : Nat} {na15 : Nat} {fa15 : Nat → Option Nat} {k16 : Nat} {fso17 : List Value} {k24 : Nat} {r25 : Nat} {fso26 : List Value} {M28 : gm_H} {sz29 : Nat} {dd30 : Nat} {fso32 : List Value} {r33 : Nat} {na35 : Nat} {fa35 : Nat → Int32} {k36 : Nat} {x39 : Int32} {fso41 : List Value} {r42 : Nat} {na44 : Nat} {fa44 : Nat → Int32} {k45 : Nat} {r52 : Int32} {M54 : gm_H} {sz55 : Nat} {dd56 : Nat} (ho1 : M p0 = some (.inr (8, fso1))) (f3 : fso1[1]? = some (.int x2)) (c4 : ¬ x2 ≤ u5) (ha5 : M a3 = some (.inl (.int, na5, .inl fa5))) (ba5 : na5 < 2 ^ 31) (ek6 : u5 = nI k6) (lk6 : k6 < na5) (ho7 : M q = some (.inr (4, fso7))) (f9 : fso7[0]? = some (.ref r8)) (f11 : fso1[0]? = some (.ref r10)) (ha12 : M r10 = some (.inl (.object "RuleArena$Rule", na12, .inr (.inr (.inr (.inr fa12)))))) (ba12 : na12 < 2 ^ 31) (ek13 : (fa5 k6) = nI k13) (lk13 : k13 < na12) (qk13 : fa12 k13 = some r14) (ha15 : M r8 = some (.inl (.object "RuleArena$Rule", na15, .inr (.inr (.inr (.inr fa15)))))) (ba15 : na15 < 2 ^ 31) (hNr8 : N0 ≤ r8) (ek16 : u5 = nI k16) (lk16 : k16 < na15) (ho17 : M r14 = some (.inr (7, fso17))) (ne_r10_r8 : r10 ≠ r8) (ek24 : u5 = nI k24) (lk24 : k24 < na15) (qk24 : (va_up fa15 k16 (some r14)) k24 = some r25) (ho26 : (gm_set M r8 (.inl (.object "RuleArena$Rule", na15, .inr (.inr (.inr (.inr (va_up fa15 k16 (some r14)))))))) r25 = some (.inr (7, fso26))) (t27 : gm_to N0 K ra_nm (ra_mt K) d 76 [.ref r25] (gm_set M r8 (.inl (.object "RuleArena$Rule", na15, .inr (.inr (.inr (.inr (va_up fa15 k16 (some r14)))))))) sz (.returned none, M28, sz29, dd30)) (c31 : u5 = 0) (ho32 : M28 q = some (.inr (4, fso32))) (f34 : fso32[1]? = some (.ref r33)) (ha35 : M28 r33 = some (.inl (.int, na35, .inl fa35))) (ba35 : na35 < 2 ^ 31) (hNr33 : N0 ≤ r33) (ek36 : u4 = nI k36) (lk36 : k36 < na35) (f40 : fso32[3]? = some (.int x39)) (ho41 : (gm_set M28 r33 (.inl (.int, na35, .inl (upd fa35 k36 u5)))) p0 = some (.inr (8, fso41))) (f43 : fso41[3]? = some (.ref r42)) (ha44 : (gm_set M28 r33 (.inl (.int, na35, .inl (upd fa35 k36 u5)))) r42 = some (.inl (.int, na44, .inl fa44))) (ba44 : na44 < 2 ^ 31) (ek45 : (fa5 k6) = nI k45) (lk45 : k45 < na44) (hNq : N0 ≤ q) (t53 : gm_to N0 K ra_nm (ra_mt K) d 52 [.ref p0, .int (fa5 k6)] (gm_set (gm_set M28 r33 (.inl (.int, na35, .inl (upd fa35 k36 u5)))) q (.inr (4, (fso32.set 3 (.int (x39 ||| ((((((fa44 k45)).toUInt32 >>> (((fa5 k6)).toUInt32 &&& Int32.toUInt32 31)).toInt32) &&& (1 : Int32)) <<< (u4 &&& 31)))))))) sz29 (.returned (some (.int r52)), M54, sz55, dd56)) (k : gm_ev N0 K ra_nm (ra_mt K) d none (gm_I cX4_init) (gm_lkf (lkX4 true K)) 152 [some (.ref q), some (.ref p0), some (.ref a2), some (.ref a3), some (.int (u4 + (1 : Int32))), some (.int u5), none, some (.int r52)] [] M54 sz55 ((sl + dd30) + dd56) R) : gm_ev N0 K ra_nm (ra_mt K) d none (gm_I cX4_init) (gm_lkf (lkX4 true K)) 50 [some (.ref q), some (.ref p0), some (.ref a2), some (.ref a3), some (.int u4), some (.int u5), none, none] [] M sz sl R := by
  refine gm_ev.iload i49_50 rfl ?_
  refine gm_ev.aload_n i49_52 rfl ?_
  refine gm_ev.getfield (v := .int x2) i49_53 rfl (gm_fld_of ho1 f3) ?_
  refine gm_ev.icmp_ge_f i49_56 c4 ?_
  refine gm_ev.aload_n i49_59 rfl ?_
  refine gm_ev.iload i49_60 rfl ?_
  refine gm_ev.iaload i49_62 (gm_ai_of ha5 ek6 lk6 ba5) ?_
  refine gm_ev.istore (ls' := [some (.ref q), some (.ref p0), some (.ref a2), some (.ref a3), some (.int u4), some (.int u5), some (.int (fa5 k6)), none]) i49_63 (Nat.le_of_ble_eq_true rfl) rfl ?_
  refine gm_ev.aload_n i49_65 rfl ?_
  refine gm_ev.getfield (v := .ref r8) i49_66 rfl (gm_fld_of ho7 f9) ?_
  refine gm_ev.iload i49_69 rfl ?_
  refine gm_ev.aload_n i49_71 rfl ?_
  refine gm_ev.getfield (v := .ref r10) i49_72 rfl (gm_fld_of ho1 f11) ?_
  refine gm_ev.iload i49_75 rfl ?_
  refine gm_ev.aaload (x := some r14) i49_77 (gm_aq_of ha12 ek13 lk13 ba12 qk13) ?_
  refine gm_ev.aastore (M' := (gm_set M r8 (.inl (.object "RuleArena$Rule", na15, .inr (.inr (.inr (.inr (va_up fa15 k16 (some r14))))))))) i49_78 (gm_astq_of ha15 ek16 lk16 ba15 hNr8 ho17 rfl) ?_
  have w18 : (gm_set M r8 (.inl (.object "RuleArena$Rule", na15, .inr (.inr (.inr (.inr (va_up fa15 k16 (some r14)))))))) p0 = some (.inr (8, fso1)) := (gm_set_ne (gm_ne_oa ho1 ha15)).trans ho1
  have w19 : (gm_set M r8 (.inl (.object "RuleArena$Rule", na15, .inr (.inr (.inr (.inr (va_up fa15 k16 (some r14)))))))) q = some (.inr (4, fso7)) := (gm_set_ne (gm_ne_oa ho7 ha15)).trans ho7
  have w20 : (gm_set M r8 (.inl (.object "RuleArena$Rule", na15, .inr (.inr (.inr (.inr (va_up fa15 k16 (some r14)))))))) r14 = some (.inr (7, fso17)) := (gm_set_ne (gm_ne_oa ho17 ha15)).trans ho17
  have w21 : (gm_set M r8 (.inl (.object "RuleArena$Rule", na15, .inr (.inr (.inr (.inr (va_up fa15 k16 (some r14)))))))) a3 = some (.inl (.int, na5, .inl fa5)) := (gm_set_ne (gm_ne_aa ha5 ha15 (by decide))).trans ha5
  have w22 : (gm_set M r8 (.inl (.object "RuleArena$Rule", na15, .inr (.inr (.inr (.inr (va_up fa15 k16 (some r14)))))))) r10 = some (.inl (.object "RuleArena$Rule", na12, .inr (.inr (.inr (.inr fa12))))) := (gm_set_ne (ne_r10_r8)).trans ha12
  have w23 : (gm_set M r8 (.inl (.object "RuleArena$Rule", na15, .inr (.inr (.inr (.inr (va_up fa15 k16 (some r14)))))))) r8 = some (.inl (.object "RuleArena$Rule", na15, .inr (.inr (.inr (.inr (va_up fa15 k16 (some r14))))))) := gm_set_eq
  refine gm_ev.aload_n i49_79 rfl ?_
  refine gm_ev.getfield (v := .ref r8) i49_80 rfl (gm_fld_of w19 f9) ?_
  refine gm_ev.iload i49_83 rfl ?_
  refine gm_ev.aaload (x := some r25) i49_85 (gm_aq_of w23 ek24 lk24 ba15 qk24) ?_
  refine gm_ev.callV gm_mono_run (av := []) (r := []) (fs := fso26) ho26 i49_86 rfl rfl rfl (Nat.le_of_ble_eq_true rfl) t27 ?_
  refine gm_ev.iload i49_89 rfl ?_
  refine gm_ev.if_eq_t (tgt := 108) i49_91 (by decide) c31 ?_
  refine gm_ev.aload_n i49_108 rfl ?_
  refine gm_ev.getfield (v := .ref r33) i49_109 rfl (gm_fld_of ho32 f34) ?_
  refine gm_ev.iload i49_112 rfl ?_
  refine gm_ev.iload i49_114 rfl ?_
  refine gm_ev.iastore (M' := (gm_set M28 r33 (.inl (.int, na35, .inl (upd fa35 k36 u5))))) i49_116 (gm_asti_of ha35 ek36 lk36 ba35 hNr33) ?_
  have w37 : (gm_set M28 r33 (.inl (.int, na35, .inl (upd fa35 k36 u5)))) q = some (.inr (4, fso32)) := (gm_set_ne (gm_ne_oa ho32 ha35)).trans ho32
  have w38 : (gm_set M28 r33 (.inl (.int, na35, .inl (upd fa35 k36 u5)))) r33 = some (.inl (.int, na35, .inl (upd fa35 k36 u5))) := gm_set_eq
  refine gm_ev.aload_n i49_117 rfl ?_
  refine gm_ev.dup i49_118 rfl ?_
  refine gm_ev.getfield (v := .int x39) i49_119 rfl (gm_fld_of w37 f40) ?_
  refine gm_ev.aload_n i49_122 rfl ?_
  refine gm_ev.getfield (v := .ref r42) i49_123 rfl (gm_fld_of ho41 f43) ?_
  refine gm_ev.iload i49_126 rfl ?_
  refine gm_ev.iaload i49_128 (gm_ai_of ha44 ek45 lk45 ba44) ?_
  refine gm_ev.iload i49_129 rfl ?_
  refine gm_ev.iushr i49_131 ?_
  refine gm_ev.iconst (v := 1) i49_132 (by decide) ?_
  refine gm_ev.iand i49_133 ?_
  refine gm_ev.iload i49_134 rfl ?_
  refine gm_ev.ishl i49_136 ?_
  refine gm_ev.ior i49_137 ?_
  refine gm_ev.putfield (M' := (gm_set (gm_set M28 r33 (.inl (.int, na35, .inl (upd fa35 k36 u5)))) q (.inr (4, (fso32.set 3 (.int (x39 ||| ((((((fa44 k45)).toUInt32 >>> (((fa5 k6)).toUInt32 &&& Int32.toUInt32 31)).toInt32) &&& (1 : Int32)) <<< (u4 &&& 31))))))))) i49_138 rfl (gm_put_of w37 (gm_lt f40) hNq (gm_fit_i _)) ?_
  have g46 : (fso32.set 3 (.int (x39 ||| ((((((fa44 k45)).toUInt32 >>> (((fa5 k6)).toUInt32 &&& Int32.toUInt32 31)).toInt32) &&& (1 : Int32)) <<< (u4 &&& 31)))))[1]? = some (.ref r33) := (gm_fs_ne (by decide)).trans f34
  have g47 : (fso32.set 3 (.int (x39 ||| ((((((fa44 k45)).toUInt32 >>> (((fa5 k6)).toUInt32 &&& Int32.toUInt32 31)).toInt32) &&& (1 : Int32)) <<< (u4 &&& 31)))))[3]? = some (.int (x39 ||| ((((((fa44 k45)).toUInt32 >>> (((fa5 k6)).toUInt32 &&& Int32.toUInt32 31)).toInt32) &&& (1 : Int32)) <<< (u4 &&& 31)))) := gm_fs_eq (gm_lt f40)
  have w48 : (gm_set (gm_set M28 r33 (.inl (.int, na35, .inl (upd fa35 k36 u5)))) q (.inr (4, (fso32.set 3 (.int (x39 ||| ((((((fa44 k45)).toUInt32 >>> (((fa5 k6)).toUInt32 &&& Int32.toUInt32 31)).toInt32) &&& (1 : Int32)) <<< (u4 &&& 31)))))))) q = some (.inr (4, (fso32.set 3 (.int (x39 ||| ((((((fa44 k45)).toUInt32 >>> (((fa5 k6)).toUInt32 &&& Int32.toUInt32 31)).toInt32) &&& (1 : Int32)) <<< (u4 &&& 31))))))) := gm_set_eq
  have w49 : (gm_set (gm_set M28 r33 (.inl (.int, na35, .inl (upd fa35 k36 u5)))) q (.inr (4, (fso32.set 3 (.int (x39 ||| ((((((fa44 k45)).toUInt32 >>> (((fa5 k6)).toUInt32 &&& Int32.toUInt32 31)).toInt32) &&& (1 : Int32)) <<< (u4 &&& 31)))))))) p0 = some (.inr (8, fso41)) := (gm_set_ne (gm_ne_oo ho41 w37 (by decide))).trans ho41
  have w50 : (gm_set (gm_set M28 r33 (.inl (.int, na35, .inl (upd fa35 k36 u5)))) q (.inr (4, (fso32.set 3 (.int (x39 ||| ((((((fa44 k45)).toUInt32 >>> (((fa5 k6)).toUInt32 &&& Int32.toUInt32 31)).toInt32) &&& (1 : Int32)) <<< (u4 &&& 31)))))))) r33 = some (.inl (.int, na35, .inl (upd fa35 k36 u5))) := (gm_set_ne ((gm_ne_oa w37 w38).symm)).trans w38
  have w51 : (gm_set (gm_set M28 r33 (.inl (.int, na35, .inl (upd fa35 k36 u5)))) q (.inr (4, (fso32.set 3 (.int (x39 ||| ((((((fa44 k45)).toUInt32 >>> (((fa5 k6)).toUInt32 &&& Int32.toUInt32 31)).toInt32) &&& (1 : Int32)) <<< (u4 &&& 31)))))))) r42 = some (.inl (.int, na44, .inl fa44)) := (gm_set_ne ((gm_ne_oa w37 ha44).symm)).trans ha44
  refine gm_ev.iinc (v := u4 + (1 : Int32)) (ls' := [some (.ref q), some (.ref p0), some (.ref a2), some (.ref a3), some (.int (u4 + (1 : Int32))), some (.int u5), some (.int (fa5 k6)), none]) i49_141 rfl (by rfl) rfl ?_
  refine gm_ev.aload_n i49_144 rfl ?_
  refine gm_ev.iload i49_145 rfl ?_
  refine gm_ev.callS gm_mono_run (av := [.ref p0, .int (fa5 k6)]) (r := []) i49_147 rfl rfl rfl (Nat.le_of_ble_eq_true rfl) t53 ?_
  refine gm_ev.istore (ls' := [some (.ref q), some (.ref p0), some (.ref a2), some (.ref a3), some (.int (u4 + (1 : Int32))), some (.int u5), some (.int (fa5 k6)), some (.int r52)]) i49_150 (Nat.le_of_ble_eq_true rfl) rfl ?_
  refine gm_ev.le (a := [some (.ref q), some (.ref p0), some (.ref a2), some (.ref a3), some (.int (u4 + (1 : Int32))), some (.int u5), none, some (.int r52)]) (gm_leL.le (show gm_leL _ _ from ⟨rfl, ⟨rfl, ⟨rfl, ⟨rfl, ⟨rfl, ⟨rfl, ⟨rfl, trivial⟩⟩⟩⟩⟩⟩⟩)) ?_
  exact k
theorem c_X4_init_50_fft_at152 {N0 : Nat} {K : Nat → Nat} {d : Nat} {M : gm_H} {sz sl : Nat} {R : gm_R} {q : Nat} {p0 : Nat} {a2 : Nat} {a3 : Nat} {u4 : Int32} {u5 : Int32} {fso1 : List Value} {x2 : Int32} {na5 : Nat} {fa5 : Nat → Int32} {k6 : Nat} {fso7 : List Value} {r8 : Nat} {r10 : Nat} {na12 : Nat} {fa12 : Nat → Option Nat} {k13 : Nat} {r14 : Nat} {na15 : Nat} {fa15 : Nat → Option Nat} {k16 : Nat} {fso17 : List Value} {k24 : Nat} {r25 : Nat} {fso26 : List Value} {M28 : gm_H} {sz29 : Nat} {dd30 : Nat} {na32 : Nat} {fa32 : Nat → Int64} {k33 : Nat} {k34 : Nat} {r36 : Int32} {M38 : gm_H} {sz39 : Nat} {dd40 : Nat} (ho1 : M p0 = some (.inr (8, fso1))) (f3 : fso1[1]? = some (.int x2)) (c4 : ¬ x2 ≤ u5) (ha5 : M a3 = some (.inl (.int, na5, .inl fa5))) (ba5 : na5 < 2 ^ 31) (ek6 : u5 = nI k6) (lk6 : k6 < na5) (ho7 : M q = some (.inr (4, fso7))) (f9 : fso7[0]? = some (.ref r8)) (f11 : fso1[0]? = some (.ref r10)) (ha12 : M r10 = some (.inl (.object "RuleArena$Rule", na12, .inr (.inr (.inr (.inr fa12)))))) (ba12 : na12 < 2 ^ 31) (ek13 : (fa5 k6) = nI k13) (lk13 : k13 < na12) (qk13 : fa12 k13 = some r14) (ha15 : M r8 = some (.inl (.object "RuleArena$Rule", na15, .inr (.inr (.inr (.inr fa15)))))) (ba15 : na15 < 2 ^ 31) (hNr8 : N0 ≤ r8) (ek16 : u5 = nI k16) (lk16 : k16 < na15) (ho17 : M r14 = some (.inr (7, fso17))) (ne_r10_r8 : r10 ≠ r8) (ek24 : u5 = nI k24) (lk24 : k24 < na15) (qk24 : (va_up fa15 k16 (some r14)) k24 = some r25) (ho26 : (gm_set M r8 (.inl (.object "RuleArena$Rule", na15, .inr (.inr (.inr (.inr (va_up fa15 k16 (some r14)))))))) r25 = some (.inr (7, fso26))) (t27 : gm_to N0 K ra_nm (ra_mt K) d 76 [.ref r25] (gm_set M r8 (.inl (.object "RuleArena$Rule", na15, .inr (.inr (.inr (.inr (va_up fa15 k16 (some r14)))))))) sz (.returned none, M28, sz29, dd30)) (c31 : ¬ u5 = 0) (ha32 : M28 a2 = some (.inl (.long, na32, .inr (.inl fa32)))) (ba32 : na32 < 2 ^ 31) (ek33 : u5 = nI k33) (lk33 : k33 < na32) (ek34 : (u5 - (1 : Int32)) = nI k34) (lk34 : k34 < na32) (c35 : (lg_cmp (fa32 k33) (fa32 k34)) = 0) (t37 : gm_to N0 K ra_nm (ra_mt K) d 52 [.ref p0, .int (fa5 k6)] M28 sz29 (.returned (some (.int r36)), M38, sz39, dd40)) (k : gm_ev N0 K ra_nm (ra_mt K) d none (gm_I cX4_init) (gm_lkf (lkX4 true K)) 152 [some (.ref q), some (.ref p0), some (.ref a2), some (.ref a3), some (.int u4), some (.int u5), none, some (.int r36)] [] M38 sz39 ((sl + dd30) + dd40) R) : gm_ev N0 K ra_nm (ra_mt K) d none (gm_I cX4_init) (gm_lkf (lkX4 true K)) 50 [some (.ref q), some (.ref p0), some (.ref a2), some (.ref a3), some (.int u4), some (.int u5), none, none] [] M sz sl R := by
  refine gm_ev.iload i49_50 rfl ?_
  refine gm_ev.aload_n i49_52 rfl ?_
  refine gm_ev.getfield (v := .int x2) i49_53 rfl (gm_fld_of ho1 f3) ?_
  refine gm_ev.icmp_ge_f i49_56 c4 ?_
  refine gm_ev.aload_n i49_59 rfl ?_
  refine gm_ev.iload i49_60 rfl ?_
  refine gm_ev.iaload i49_62 (gm_ai_of ha5 ek6 lk6 ba5) ?_
  refine gm_ev.istore (ls' := [some (.ref q), some (.ref p0), some (.ref a2), some (.ref a3), some (.int u4), some (.int u5), some (.int (fa5 k6)), none]) i49_63 (Nat.le_of_ble_eq_true rfl) rfl ?_
  refine gm_ev.aload_n i49_65 rfl ?_
  refine gm_ev.getfield (v := .ref r8) i49_66 rfl (gm_fld_of ho7 f9) ?_
  refine gm_ev.iload i49_69 rfl ?_
  refine gm_ev.aload_n i49_71 rfl ?_
  refine gm_ev.getfield (v := .ref r10) i49_72 rfl (gm_fld_of ho1 f11) ?_
  refine gm_ev.iload i49_75 rfl ?_
  refine gm_ev.aaload (x := some r14) i49_77 (gm_aq_of ha12 ek13 lk13 ba12 qk13) ?_
  refine gm_ev.aastore (M' := (gm_set M r8 (.inl (.object "RuleArena$Rule", na15, .inr (.inr (.inr (.inr (va_up fa15 k16 (some r14))))))))) i49_78 (gm_astq_of ha15 ek16 lk16 ba15 hNr8 ho17 rfl) ?_
  have w18 : (gm_set M r8 (.inl (.object "RuleArena$Rule", na15, .inr (.inr (.inr (.inr (va_up fa15 k16 (some r14)))))))) p0 = some (.inr (8, fso1)) := (gm_set_ne (gm_ne_oa ho1 ha15)).trans ho1
  have w19 : (gm_set M r8 (.inl (.object "RuleArena$Rule", na15, .inr (.inr (.inr (.inr (va_up fa15 k16 (some r14)))))))) q = some (.inr (4, fso7)) := (gm_set_ne (gm_ne_oa ho7 ha15)).trans ho7
  have w20 : (gm_set M r8 (.inl (.object "RuleArena$Rule", na15, .inr (.inr (.inr (.inr (va_up fa15 k16 (some r14)))))))) r14 = some (.inr (7, fso17)) := (gm_set_ne (gm_ne_oa ho17 ha15)).trans ho17
  have w21 : (gm_set M r8 (.inl (.object "RuleArena$Rule", na15, .inr (.inr (.inr (.inr (va_up fa15 k16 (some r14)))))))) a3 = some (.inl (.int, na5, .inl fa5)) := (gm_set_ne (gm_ne_aa ha5 ha15 (by decide))).trans ha5
  have w22 : (gm_set M r8 (.inl (.object "RuleArena$Rule", na15, .inr (.inr (.inr (.inr (va_up fa15 k16 (some r14)))))))) r10 = some (.inl (.object "RuleArena$Rule", na12, .inr (.inr (.inr (.inr fa12))))) := (gm_set_ne (ne_r10_r8)).trans ha12
  have w23 : (gm_set M r8 (.inl (.object "RuleArena$Rule", na15, .inr (.inr (.inr (.inr (va_up fa15 k16 (some r14)))))))) r8 = some (.inl (.object "RuleArena$Rule", na15, .inr (.inr (.inr (.inr (va_up fa15 k16 (some r14))))))) := gm_set_eq
  refine gm_ev.aload_n i49_79 rfl ?_
  refine gm_ev.getfield (v := .ref r8) i49_80 rfl (gm_fld_of w19 f9) ?_
  refine gm_ev.iload i49_83 rfl ?_
  refine gm_ev.aaload (x := some r25) i49_85 (gm_aq_of w23 ek24 lk24 ba15 qk24) ?_
  refine gm_ev.callV gm_mono_run (av := []) (r := []) (fs := fso26) ho26 i49_86 rfl rfl rfl (Nat.le_of_ble_eq_true rfl) t27 ?_
  refine gm_ev.iload i49_89 rfl ?_
  refine gm_ev.if_eq_f i49_91 c31 ?_
  refine gm_ev.aload_n i49_94 rfl ?_
  refine gm_ev.iload i49_95 rfl ?_
  refine gm_ev.laload i49_97 (gm_al_of ha32 ek33 lk33 ba32) ?_
  refine gm_ev.aload_n i49_98 rfl ?_
  refine gm_ev.iload i49_99 rfl ?_
  refine gm_ev.iconst (v := 1) i49_101 (by decide) ?_
  refine gm_ev.isub i49_102 ?_
  refine gm_ev.laload i49_103 (gm_al_of ha32 ek34 lk34 ba32) ?_
  refine gm_ev.lcmp i49_104 ?_
  refine gm_ev.if_eq_t (tgt := 144) i49_105 (by decide) c35 ?_
  refine gm_ev.aload_n i49_144 rfl ?_
  refine gm_ev.iload i49_145 rfl ?_
  refine gm_ev.callS gm_mono_run (av := [.ref p0, .int (fa5 k6)]) (r := []) i49_147 rfl rfl rfl (Nat.le_of_ble_eq_true rfl) t37 ?_
  refine gm_ev.istore (ls' := [some (.ref q), some (.ref p0), some (.ref a2), some (.ref a3), some (.int u4), some (.int u5), some (.int (fa5 k6)), some (.int r36)]) i49_150 (Nat.le_of_ble_eq_true rfl) rfl ?_
  refine gm_ev.le (a := [some (.ref q), some (.ref p0), some (.ref a2), some (.ref a3), some (.int u4), some (.int u5), none, some (.int r36)]) (gm_leL.le (show gm_leL _ _ from ⟨rfl, ⟨rfl, ⟨rfl, ⟨rfl, ⟨rfl, ⟨rfl, ⟨rfl, trivial⟩⟩⟩⟩⟩⟩⟩)) ?_
  exact k
theorem c_X4_init_50_fff_at152 {N0 : Nat} {K : Nat → Nat} {d : Nat} {M : gm_H} {sz sl : Nat} {R : gm_R} {q : Nat} {p0 : Nat} {a2 : Nat} {a3 : Nat} {u4 : Int32} {u5 : Int32} {fso1 : List Value} {x2 : Int32} {na5 : Nat} {fa5 : Nat → Int32} {k6 : Nat} {fso7 : List Value} {r8 : Nat} {r10 : Nat} {na12 : Nat} {fa12 : Nat → Option Nat} {k13 : Nat} {r14 : Nat} {na15 : Nat} {fa15 : Nat → Option Nat} {k16 : Nat} {fso17 : List Value} {k24 : Nat} {r25 : Nat} {fso26 : List Value} {M28 : gm_H} {sz29 : Nat} {dd30 : Nat} {na32 : Nat} {fa32 : Nat → Int64} {k33 : Nat} {k34 : Nat} {fso36 : List Value} {r37 : Nat} {na39 : Nat} {fa39 : Nat → Int32} {k40 : Nat} {x44 : Int32} {fso46 : List Value} {r47 : Nat} {na49 : Nat} {fa49 : Nat → Int32} {k50 : Nat} {r58 : Int32} {M60 : gm_H} {sz61 : Nat} {dd62 : Nat} (ho1 : M p0 = some (.inr (8, fso1))) (f3 : fso1[1]? = some (.int x2)) (c4 : ¬ x2 ≤ u5) (ha5 : M a3 = some (.inl (.int, na5, .inl fa5))) (ba5 : na5 < 2 ^ 31) (ek6 : u5 = nI k6) (lk6 : k6 < na5) (ho7 : M q = some (.inr (4, fso7))) (f9 : fso7[0]? = some (.ref r8)) (f11 : fso1[0]? = some (.ref r10)) (ha12 : M r10 = some (.inl (.object "RuleArena$Rule", na12, .inr (.inr (.inr (.inr fa12)))))) (ba12 : na12 < 2 ^ 31) (ek13 : (fa5 k6) = nI k13) (lk13 : k13 < na12) (qk13 : fa12 k13 = some r14) (ha15 : M r8 = some (.inl (.object "RuleArena$Rule", na15, .inr (.inr (.inr (.inr fa15)))))) (ba15 : na15 < 2 ^ 31) (hNr8 : N0 ≤ r8) (ek16 : u5 = nI k16) (lk16 : k16 < na15) (ho17 : M r14 = some (.inr (7, fso17))) (ne_r10_r8 : r10 ≠ r8) (ek24 : u5 = nI k24) (lk24 : k24 < na15) (qk24 : (va_up fa15 k16 (some r14)) k24 = some r25) (ho26 : (gm_set M r8 (.inl (.object "RuleArena$Rule", na15, .inr (.inr (.inr (.inr (va_up fa15 k16 (some r14)))))))) r25 = some (.inr (7, fso26))) (t27 : gm_to N0 K ra_nm (ra_mt K) d 76 [.ref r25] (gm_set M r8 (.inl (.object "RuleArena$Rule", na15, .inr (.inr (.inr (.inr (va_up fa15 k16 (some r14)))))))) sz (.returned none, M28, sz29, dd30)) (c31 : ¬ u5 = 0) (ha32 : M28 a2 = some (.inl (.long, na32, .inr (.inl fa32)))) (ba32 : na32 < 2 ^ 31) (ek33 : u5 = nI k33) (lk33 : k33 < na32) (ek34 : (u5 - (1 : Int32)) = nI k34) (lk34 : k34 < na32) (c35 : ¬ (lg_cmp (fa32 k33) (fa32 k34)) = 0) (ho36 : M28 q = some (.inr (4, fso36))) (f38 : fso36[1]? = some (.ref r37)) (ha39 : M28 r37 = some (.inl (.int, na39, .inl fa39))) (ba39 : na39 < 2 ^ 31) (hNr37 : N0 ≤ r37) (ek40 : u4 = nI k40) (lk40 : k40 < na39) (f45 : fso36[3]? = some (.int x44)) (ho46 : (gm_set M28 r37 (.inl (.int, na39, .inl (upd fa39 k40 u5)))) p0 = some (.inr (8, fso46))) (f48 : fso46[3]? = some (.ref r47)) (ha49 : (gm_set M28 r37 (.inl (.int, na39, .inl (upd fa39 k40 u5)))) r47 = some (.inl (.int, na49, .inl fa49))) (ba49 : na49 < 2 ^ 31) (ek50 : (fa5 k6) = nI k50) (lk50 : k50 < na49) (hNq : N0 ≤ q) (t59 : gm_to N0 K ra_nm (ra_mt K) d 52 [.ref p0, .int (fa5 k6)] (gm_set (gm_set M28 r37 (.inl (.int, na39, .inl (upd fa39 k40 u5)))) q (.inr (4, (fso36.set 3 (.int (x44 ||| ((((((fa49 k50)).toUInt32 >>> (((fa5 k6)).toUInt32 &&& Int32.toUInt32 31)).toInt32) &&& (1 : Int32)) <<< (u4 &&& 31)))))))) sz29 (.returned (some (.int r58)), M60, sz61, dd62)) (k : gm_ev N0 K ra_nm (ra_mt K) d none (gm_I cX4_init) (gm_lkf (lkX4 true K)) 152 [some (.ref q), some (.ref p0), some (.ref a2), some (.ref a3), some (.int (u4 + (1 : Int32))), some (.int u5), none, some (.int r58)] [] M60 sz61 ((sl + dd30) + dd62) R) : gm_ev N0 K ra_nm (ra_mt K) d none (gm_I cX4_init) (gm_lkf (lkX4 true K)) 50 [some (.ref q), some (.ref p0), some (.ref a2), some (.ref a3), some (.int u4), some (.int u5), none, none] [] M sz sl R := by
  refine gm_ev.iload i49_50 rfl ?_
  refine gm_ev.aload_n i49_52 rfl ?_
  refine gm_ev.getfield (v := .int x2) i49_53 rfl (gm_fld_of ho1 f3) ?_
  refine gm_ev.icmp_ge_f i49_56 c4 ?_
  refine gm_ev.aload_n i49_59 rfl ?_
  refine gm_ev.iload i49_60 rfl ?_
  refine gm_ev.iaload i49_62 (gm_ai_of ha5 ek6 lk6 ba5) ?_
  refine gm_ev.istore (ls' := [some (.ref q), some (.ref p0), some (.ref a2), some (.ref a3), some (.int u4), some (.int u5), some (.int (fa5 k6)), none]) i49_63 (Nat.le_of_ble_eq_true rfl) rfl ?_
  refine gm_ev.aload_n i49_65 rfl ?_
  refine gm_ev.getfield (v := .ref r8) i49_66 rfl (gm_fld_of ho7 f9) ?_
  refine gm_ev.iload i49_69 rfl ?_
  refine gm_ev.aload_n i49_71 rfl ?_
  refine gm_ev.getfield (v := .ref r10) i49_72 rfl (gm_fld_of ho1 f11) ?_
  refine gm_ev.iload i49_75 rfl ?_
  refine gm_ev.aaload (x := some r14) i49_77 (gm_aq_of ha12 ek13 lk13 ba12 qk13) ?_
  refine gm_ev.aastore (M' := (gm_set M r8 (.inl (.object "RuleArena$Rule", na15, .inr (.inr (.inr (.inr (va_up fa15 k16 (some r14))))))))) i49_78 (gm_astq_of ha15 ek16 lk16 ba15 hNr8 ho17 rfl) ?_
  have w18 : (gm_set M r8 (.inl (.object "RuleArena$Rule", na15, .inr (.inr (.inr (.inr (va_up fa15 k16 (some r14)))))))) p0 = some (.inr (8, fso1)) := (gm_set_ne (gm_ne_oa ho1 ha15)).trans ho1
  have w19 : (gm_set M r8 (.inl (.object "RuleArena$Rule", na15, .inr (.inr (.inr (.inr (va_up fa15 k16 (some r14)))))))) q = some (.inr (4, fso7)) := (gm_set_ne (gm_ne_oa ho7 ha15)).trans ho7
  have w20 : (gm_set M r8 (.inl (.object "RuleArena$Rule", na15, .inr (.inr (.inr (.inr (va_up fa15 k16 (some r14)))))))) r14 = some (.inr (7, fso17)) := (gm_set_ne (gm_ne_oa ho17 ha15)).trans ho17
  have w21 : (gm_set M r8 (.inl (.object "RuleArena$Rule", na15, .inr (.inr (.inr (.inr (va_up fa15 k16 (some r14)))))))) a3 = some (.inl (.int, na5, .inl fa5)) := (gm_set_ne (gm_ne_aa ha5 ha15 (by decide))).trans ha5
  have w22 : (gm_set M r8 (.inl (.object "RuleArena$Rule", na15, .inr (.inr (.inr (.inr (va_up fa15 k16 (some r14)))))))) r10 = some (.inl (.object "RuleArena$Rule", na12, .inr (.inr (.inr (.inr fa12))))) := (gm_set_ne (ne_r10_r8)).trans ha12
  have w23 : (gm_set M r8 (.inl (.object "RuleArena$Rule", na15, .inr (.inr (.inr (.inr (va_up fa15 k16 (some r14)))))))) r8 = some (.inl (.object "RuleArena$Rule", na15, .inr (.inr (.inr (.inr (va_up fa15 k16 (some r14))))))) := gm_set_eq
  refine gm_ev.aload_n i49_79 rfl ?_
  refine gm_ev.getfield (v := .ref r8) i49_80 rfl (gm_fld_of w19 f9) ?_
  refine gm_ev.iload i49_83 rfl ?_
  refine gm_ev.aaload (x := some r25) i49_85 (gm_aq_of w23 ek24 lk24 ba15 qk24) ?_
  refine gm_ev.callV gm_mono_run (av := []) (r := []) (fs := fso26) ho26 i49_86 rfl rfl rfl (Nat.le_of_ble_eq_true rfl) t27 ?_
  refine gm_ev.iload i49_89 rfl ?_
  refine gm_ev.if_eq_f i49_91 c31 ?_
  refine gm_ev.aload_n i49_94 rfl ?_
  refine gm_ev.iload i49_95 rfl ?_
  refine gm_ev.laload i49_97 (gm_al_of ha32 ek33 lk33 ba32) ?_
  refine gm_ev.aload_n i49_98 rfl ?_
  refine gm_ev.iload i49_99 rfl ?_
  refine gm_ev.iconst (v := 1) i49_101 (by decide) ?_
  refine gm_ev.isub i49_102 ?_
  refine gm_ev.laload i49_103 (gm_al_of ha32 ek34 lk34 ba32) ?_
  refine gm_ev.lcmp i49_104 ?_
  refine gm_ev.if_eq_f i49_105 c35 ?_
  refine gm_ev.aload_n i49_108 rfl ?_
  refine gm_ev.getfield (v := .ref r37) i49_109 rfl (gm_fld_of ho36 f38) ?_
  refine gm_ev.iload i49_112 rfl ?_
  refine gm_ev.iload i49_114 rfl ?_
  refine gm_ev.iastore (M' := (gm_set M28 r37 (.inl (.int, na39, .inl (upd fa39 k40 u5))))) i49_116 (gm_asti_of ha39 ek40 lk40 ba39 hNr37) ?_
  have w41 : (gm_set M28 r37 (.inl (.int, na39, .inl (upd fa39 k40 u5)))) q = some (.inr (4, fso36)) := (gm_set_ne (gm_ne_oa ho36 ha39)).trans ho36
  have w42 : (gm_set M28 r37 (.inl (.int, na39, .inl (upd fa39 k40 u5)))) a2 = some (.inl (.long, na32, .inr (.inl fa32))) := (gm_set_ne (gm_ne_aa ha32 ha39 (by decide))).trans ha32
  have w43 : (gm_set M28 r37 (.inl (.int, na39, .inl (upd fa39 k40 u5)))) r37 = some (.inl (.int, na39, .inl (upd fa39 k40 u5))) := gm_set_eq
  refine gm_ev.aload_n i49_117 rfl ?_
  refine gm_ev.dup i49_118 rfl ?_
  refine gm_ev.getfield (v := .int x44) i49_119 rfl (gm_fld_of w41 f45) ?_
  refine gm_ev.aload_n i49_122 rfl ?_
  refine gm_ev.getfield (v := .ref r47) i49_123 rfl (gm_fld_of ho46 f48) ?_
  refine gm_ev.iload i49_126 rfl ?_
  refine gm_ev.iaload i49_128 (gm_ai_of ha49 ek50 lk50 ba49) ?_
  refine gm_ev.iload i49_129 rfl ?_
  refine gm_ev.iushr i49_131 ?_
  refine gm_ev.iconst (v := 1) i49_132 (by decide) ?_
  refine gm_ev.iand i49_133 ?_
  refine gm_ev.iload i49_134 rfl ?_
  refine gm_ev.ishl i49_136 ?_
  refine gm_ev.ior i49_137 ?_
  refine gm_ev.putfield (M' := (gm_set (gm_set M28 r37 (.inl (.int, na39, .inl (upd fa39 k40 u5)))) q (.inr (4, (fso36.set 3 (.int (x44 ||| ((((((fa49 k50)).toUInt32 >>> (((fa5 k6)).toUInt32 &&& Int32.toUInt32 31)).toInt32) &&& (1 : Int32)) <<< (u4 &&& 31))))))))) i49_138 rfl (gm_put_of w41 (gm_lt f45) hNq (gm_fit_i _)) ?_
  have g51 : (fso36.set 3 (.int (x44 ||| ((((((fa49 k50)).toUInt32 >>> (((fa5 k6)).toUInt32 &&& Int32.toUInt32 31)).toInt32) &&& (1 : Int32)) <<< (u4 &&& 31)))))[1]? = some (.ref r37) := (gm_fs_ne (by decide)).trans f38
  have g52 : (fso36.set 3 (.int (x44 ||| ((((((fa49 k50)).toUInt32 >>> (((fa5 k6)).toUInt32 &&& Int32.toUInt32 31)).toInt32) &&& (1 : Int32)) <<< (u4 &&& 31)))))[3]? = some (.int (x44 ||| ((((((fa49 k50)).toUInt32 >>> (((fa5 k6)).toUInt32 &&& Int32.toUInt32 31)).toInt32) &&& (1 : Int32)) <<< (u4 &&& 31)))) := gm_fs_eq (gm_lt f45)
  have w53 : (gm_set (gm_set M28 r37 (.inl (.int, na39, .inl (upd fa39 k40 u5)))) q (.inr (4, (fso36.set 3 (.int (x44 ||| ((((((fa49 k50)).toUInt32 >>> (((fa5 k6)).toUInt32 &&& Int32.toUInt32 31)).toInt32) &&& (1 : Int32)) <<< (u4 &&& 31)))))))) q = some (.inr (4, (fso36.set 3 (.int (x44 ||| ((((((fa49 k50)).toUInt32 >>> (((fa5 k6)).toUInt32 &&& Int32.toUInt32 31)).toInt32) &&& (1 : Int32)) <<< (u4 &&& 31))))))) := gm_set_eq
  have w54 : (gm_set (gm_set M28 r37 (.inl (.int, na39, .inl (upd fa39 k40 u5)))) q (.inr (4, (fso36.set 3 (.int (x44 ||| ((((((fa49 k50)).toUInt32 >>> (((fa5 k6)).toUInt32 &&& Int32.toUInt32 31)).toInt32) &&& (1 : Int32)) <<< (u4 &&& 31)))))))) p0 = some (.inr (8, fso46)) := (gm_set_ne (gm_ne_oo ho46 w41 (by decide))).trans ho46
  have w55 : (gm_set (gm_set M28 r37 (.inl (.int, na39, .inl (upd fa39 k40 u5)))) q (.inr (4, (fso36.set 3 (.int (x44 ||| ((((((fa49 k50)).toUInt32 >>> (((fa5 k6)).toUInt32 &&& Int32.toUInt32 31)).toInt32) &&& (1 : Int32)) <<< (u4 &&& 31)))))))) a2 = some (.inl (.long, na32, .inr (.inl fa32))) := (gm_set_ne ((gm_ne_oa w41 w42).symm)).trans w42
  have w56 : (gm_set (gm_set M28 r37 (.inl (.int, na39, .inl (upd fa39 k40 u5)))) q (.inr (4, (fso36.set 3 (.int (x44 ||| ((((((fa49 k50)).toUInt32 >>> (((fa5 k6)).toUInt32 &&& Int32.toUInt32 31)).toInt32) &&& (1 : Int32)) <<< (u4 &&& 31)))))))) r37 = some (.inl (.int, na39, .inl (upd fa39 k40 u5))) := (gm_set_ne ((gm_ne_oa w41 w43).symm)).trans w43
  have w57 : (gm_set (gm_set M28 r37 (.inl (.int, na39, .inl (upd fa39 k40 u5)))) q (.inr (4, (fso36.set 3 (.int (x44 ||| ((((((fa49 k50)).toUInt32 >>> (((fa5 k6)).toUInt32 &&& Int32.toUInt32 31)).toInt32) &&& (1 : Int32)) <<< (u4 &&& 31)))))))) r47 = some (.inl (.int, na49, .inl fa49)) := (gm_set_ne ((gm_ne_oa w41 ha49).symm)).trans ha49
  refine gm_ev.iinc (v := u4 + (1 : Int32)) (ls' := [some (.ref q), some (.ref p0), some (.ref a2), some (.ref a3), some (.int (u4 + (1 : Int32))), some (.int u5), some (.int (fa5 k6)), none]) i49_141 rfl (by rfl) rfl ?_
  refine gm_ev.aload_n i49_144 rfl ?_
  refine gm_ev.iload i49_145 rfl ?_
  refine gm_ev.callS gm_mono_run (av := [.ref p0, .int (fa5 k6)]) (r := []) i49_147 rfl rfl rfl (Nat.le_of_ble_eq_true rfl) t59 ?_
  refine gm_ev.istore (ls' := [some (.ref q), some (.ref p0), some (.ref a2), some (.ref a3), some (.int (u4 + (1 : Int32))), some (.int u5), some (.int (fa5 k6)), some (.int r58)]) i49_150 (Nat.le_of_ble_eq_true rfl) rfl ?_
  refine gm_ev.le (a := [some (.ref q), some (.ref p0), some (.ref a2), some (.ref a3), some (.int (u4 + (1 : Int32))), some (.int u5), none, some (.int r58)]) (gm_leL.le (show gm_leL _ _ from ⟨rfl, ⟨rfl, ⟨rfl, ⟨rfl, ⟨rfl, ⟨rfl, ⟨rfl, trivial⟩⟩⟩⟩⟩⟩⟩)) ?_
  exact k
theorem c_X4_init_152_t_at50 {N0 : Nat} {K : Nat → Nat} {d : Nat} {M : gm_H} {sz sl : Nat} {R : gm_R} {q : Nat} {p0 : Nat} {a2 : Nat} {a3 : Nat} {u4 : Int32} {u5 : Int32} {u7 : Int32} (c1 : (3 : Int32) ≤ u7) (k : gm_ev N0 K ra_nm (ra_mt K) d none (gm_I cX4_init) (gm_lkf (lkX4 true K)) 50 [some (.ref q), some (.ref p0), some (.ref a2), some (.ref a3), some (.int u4), some (.int (u5 + (1 : Int32))), none, none] [] M sz sl R) : gm_ev N0 K ra_nm (ra_mt K) d none (gm_I cX4_init) (gm_lkf (lkX4 true K)) 152 [some (.ref q), some (.ref p0), some (.ref a2), some (.ref a3), some (.int u4), some (.int u5), none, some (.int u7)] [] M sz sl R := by
  refine gm_ev.iload i49_152 rfl ?_
  refine gm_ev.iconst (v := 3) i49_154 (by decide) ?_
  refine gm_ev.icmp_ge_t (tgt := 173) i49_155 (by decide) c1 ?_
  refine gm_ev.iinc (v := u5 + (1 : Int32)) (ls' := [some (.ref q), some (.ref p0), some (.ref a2), some (.ref a3), some (.int u4), some (.int (u5 + (1 : Int32))), none, some (.int u7)]) i49_173 rfl (by rfl) rfl ?_
  refine gm_ev.goto (tgt := 50) i49_176 (by decide) ?_
  refine gm_ev.le (a := [some (.ref q), some (.ref p0), some (.ref a2), some (.ref a3), some (.int u4), some (.int (u5 + (1 : Int32))), none, none]) (gm_leL.le (show gm_leL _ _ from ⟨rfl, ⟨rfl, ⟨rfl, ⟨rfl, ⟨rfl, ⟨rfl, trivial⟩⟩⟩⟩⟩⟩)) ?_
  exact k
theorem c_X4_init_152_f_at152 {N0 : Nat} {K : Nat → Nat} {d : Nat} {M : gm_H} {sz sl : Nat} {R : gm_R} {q : Nat} {p0 : Nat} {a2 : Nat} {a3 : Nat} {u4 : Int32} {u5 : Int32} {u7 : Int32} {fso2 : List Value} {r3 : Nat} {na5 : Nat} {fa5 : Nat → Int32} {k6 : Nat} (c1 : ¬ (3 : Int32) ≤ u7) (ho2 : M q = some (.inr (4, fso2))) (f4 : fso2[2]? = some (.ref r3)) (ha5 : M r3 = some (.inl (.int, na5, .inl fa5))) (ba5 : na5 < 2 ^ 31) (hNr3 : N0 ≤ r3) (ek6 : u7 = nI k6) (lk6 : k6 < na5) (k : gm_ev N0 K ra_nm (ra_mt K) d none (gm_I cX4_init) (gm_lkf (lkX4 true K)) 152 [some (.ref q), some (.ref p0), some (.ref a2), some (.ref a3), some (.int u4), some (.int u5), none, some (.int (u7 + (1 : Int32)))] [] (gm_set M r3 (.inl (.int, na5, .inl (upd fa5 k6 u4)))) sz sl R) : gm_ev N0 K ra_nm (ra_mt K) d none (gm_I cX4_init) (gm_lkf (lkX4 true K)) 152 [some (.ref q), some (.ref p0), some (.ref a2), some (.ref a3), some (.int u4), some (.int u5), none, some (.int u7)] [] M sz sl R := by
  refine gm_ev.iload i49_152 rfl ?_
  refine gm_ev.iconst (v := 3) i49_154 (by decide) ?_
  refine gm_ev.icmp_ge_f i49_155 c1 ?_
  refine gm_ev.aload_n i49_158 rfl ?_
  refine gm_ev.getfield (v := .ref r3) i49_159 rfl (gm_fld_of ho2 f4) ?_
  refine gm_ev.iload i49_162 rfl ?_
  refine gm_ev.iload i49_164 rfl ?_
  refine gm_ev.iastore (M' := (gm_set M r3 (.inl (.int, na5, .inl (upd fa5 k6 u4))))) i49_166 (gm_asti_of ha5 ek6 lk6 ba5 hNr3) ?_
  have w7 : (gm_set M r3 (.inl (.int, na5, .inl (upd fa5 k6 u4)))) q = some (.inr (4, fso2)) := (gm_set_ne (gm_ne_oa ho2 ha5)).trans ho2
  have w8 : (gm_set M r3 (.inl (.int, na5, .inl (upd fa5 k6 u4)))) r3 = some (.inl (.int, na5, .inl (upd fa5 k6 u4))) := gm_set_eq
  refine gm_ev.iinc (v := u7 + (1 : Int32)) (ls' := [some (.ref q), some (.ref p0), some (.ref a2), some (.ref a3), some (.int u4), some (.int u5), none, some (.int (u7 + (1 : Int32)))]) i49_167 rfl (by rfl) rfl ?_
  refine gm_ev.goto (tgt := 152) i49_170 (by decide) ?_
  exact k
theorem c_X4_sort_0__at2 {N0 : Nat} {K : Nat → Nat} {d : Nat} {M : gm_H} {sz sl : Nat} {R : gm_R} {p0 : Nat} {p1 : Nat} {p2 : Nat}  (k : gm_ev N0 K ra_nm (ra_mt K) d none (gm_I cX4_sort) (gm_lkf (lkX4 false K)) 2 [some (.ref p0), some (.ref p1), some (.ref p2), some (.int (0 : Int32)), none, none, none] [] M sz sl R) : gm_ev N0 K ra_nm (ra_mt K) d none (gm_I cX4_sort) (gm_lkf (lkX4 false K)) 0 [some (.ref p0), some (.ref p1), some (.ref p2), none, none, none, none] [] M sz sl R := by
  refine gm_ev.iconst (v := 0) i50_0 (by decide) ?_
  refine gm_ev.istore_n (ls' := [some (.ref p0), some (.ref p1), some (.ref p2), some (.int (0 : Int32)), none, none, none]) i50_1 (Nat.le_of_ble_eq_true rfl) rfl ?_
  exact k
theorem c_X4_sort_2_t {N0 : Nat} {K : Nat → Nat} {d : Nat} {M : gm_H} {sz sl : Nat} {p0 : Nat} {p1 : Nat} {p2 : Nat} {u3 : Int32} {fso1 : List Value} {x2 : Int32} (ho1 : M p0 = some (.inr (8, fso1))) (f3 : fso1[1]? = some (.int x2)) (c4 : x2 ≤ u3) : gm_ev N0 K ra_nm (ra_mt K) d none (gm_I cX4_sort) (gm_lkf (lkX4 false K)) 2 [some (.ref p0), some (.ref p1), some (.ref p2), some (.int u3), none, none, none] [] M sz sl (.returned none, M, sz, sl) := by
  refine gm_ev.iload_n i50_2 rfl ?_
  refine gm_ev.aload_n i50_3 rfl ?_
  refine gm_ev.getfield (v := .int x2) i50_4 rfl (gm_fld_of ho1 f3) ?_
  refine gm_ev.icmp_ge_t (tgt := 80) i50_7 (by decide) c4 ?_
  exact gm_ev.vret i50_80 rfl
theorem c_X4_sort_2_f_at20 {N0 : Nat} {K : Nat → Nat} {d : Nat} {M : gm_H} {sz sl : Nat} {R : gm_R} {p0 : Nat} {p1 : Nat} {p2 : Nat} {u3 : Int32} {fso1 : List Value} {x2 : Int32} {r5 : Int64} {M7 : gm_H} {sz8 : Nat} {dd9 : Nat} (ho1 : M p0 = some (.inr (8, fso1))) (f3 : fso1[1]? = some (.int x2)) (c4 : ¬ x2 ≤ u3) (t6 : gm_to N0 K ra_nm (ra_mt K) d 51 [.ref p0, .int u3] M sz (.returned (some (.long r5)), M7, sz8, dd9)) (k : gm_ev N0 K ra_nm (ra_mt K) d none (gm_I cX4_sort) (gm_lkf (lkX4 false K)) 20 [some (.ref p0), some (.ref p1), some (.ref p2), some (.int u3), some (.long r5), none, some (.int u3)] [] M7 sz8 (sl + dd9) R) : gm_ev N0 K ra_nm (ra_mt K) d none (gm_I cX4_sort) (gm_lkf (lkX4 false K)) 2 [some (.ref p0), some (.ref p1), some (.ref p2), some (.int u3), none, none, none] [] M sz sl R := by
  refine gm_ev.iload_n i50_2 rfl ?_
  refine gm_ev.aload_n i50_3 rfl ?_
  refine gm_ev.getfield (v := .int x2) i50_4 rfl (gm_fld_of ho1 f3) ?_
  refine gm_ev.icmp_ge_f i50_7 c4 ?_
  refine gm_ev.aload_n i50_10 rfl ?_
  refine gm_ev.iload_n i50_11 rfl ?_
  refine gm_ev.callS gm_mono_run (av := [.ref p0, .int u3]) (r := []) i50_12 rfl rfl rfl (Nat.le_of_ble_eq_true rfl) t6 ?_
  refine gm_ev.lstore (ls' := [some (.ref p0), some (.ref p1), some (.ref p2), some (.int u3), some (.long r5), none, none]) i50_15 (Nat.le_of_ble_eq_true rfl) rfl ?_
  refine gm_ev.iload_n i50_17 rfl ?_
  refine gm_ev.istore (ls' := [some (.ref p0), some (.ref p1), some (.ref p2), some (.int u3), some (.long r5), none, some (.int u3)]) i50_18 (Nat.le_of_ble_eq_true rfl) rfl ?_
  exact k
theorem c_X4_sort_20_t_at2 {N0 : Nat} {K : Nat → Nat} {d : Nat} {M : gm_H} {sz sl : Nat} {R : gm_R} {p0 : Nat} {p1 : Nat} {p2 : Nat} {u3 : Int32} {y4 : Int64} {u6 : Int32} {na2 : Nat} {fa2 : Nat → Int64} {k3 : Nat} {na5 : Nat} {fa5 : Nat → Int32} {k6 : Nat} (c1 : u6 ≤ 0) (ha2 : M p1 = some (.inl (.long, na2, .inr (.inl fa2)))) (ba2 : na2 < 2 ^ 31) (hNp1 : N0 ≤ p1) (ek3 : u6 = nI k3) (lk3 : k3 < na2) (ha5 : (gm_set M p1 (.inl (.long, na2, .inr (.inl (vp_updL fa2 k3 y4))))) p2 = some (.inl (.int, na5, .inl fa5))) (ba5 : na5 < 2 ^ 31) (hNp2 : N0 ≤ p2) (ek6 : u6 = nI k6) (lk6 : k6 < na5) (k : gm_ev N0 K ra_nm (ra_mt K) d none (gm_I cX4_sort) (gm_lkf (lkX4 false K)) 2 [some (.ref p0), some (.ref p1), some (.ref p2), some (.int (u3 + (1 : Int32))), none, none, none] [] (gm_set (gm_set M p1 (.inl (.long, na2, .inr (.inl (vp_updL fa2 k3 y4))))) p2 (.inl (.int, na5, .inl (upd fa5 k6 u3)))) sz sl R) : gm_ev N0 K ra_nm (ra_mt K) d none (gm_I cX4_sort) (gm_lkf (lkX4 false K)) 20 [some (.ref p0), some (.ref p1), some (.ref p2), some (.int u3), some (.long y4), none, some (.int u6)] [] M sz sl R := by
  refine gm_ev.iload i50_20 rfl ?_
  refine gm_ev.if_le_t (tgt := 63) i50_22 (by decide) c1 ?_
  refine gm_ev.aload_n i50_63 rfl ?_
  refine gm_ev.iload i50_64 rfl ?_
  refine gm_ev.lload i50_66 rfl ?_
  refine gm_ev.lastore (M' := (gm_set M p1 (.inl (.long, na2, .inr (.inl (vp_updL fa2 k3 y4)))))) i50_68 (gm_astl_of ha2 ek3 lk3 ba2 hNp1) ?_
  have w4 : (gm_set M p1 (.inl (.long, na2, .inr (.inl (vp_updL fa2 k3 y4))))) p1 = some (.inl (.long, na2, .inr (.inl (vp_updL fa2 k3 y4)))) := gm_set_eq
  refine gm_ev.aload_n i50_69 rfl ?_
  refine gm_ev.iload i50_70 rfl ?_
  refine gm_ev.iload_n i50_72 rfl ?_
  refine gm_ev.iastore (M' := (gm_set (gm_set M p1 (.inl (.long, na2, .inr (.inl (vp_updL fa2 k3 y4))))) p2 (.inl (.int, na5, .inl (upd fa5 k6 u3))))) i50_73 (gm_asti_of ha5 ek6 lk6 ba5 hNp2) ?_
  have w7 : (gm_set (gm_set M p1 (.inl (.long, na2, .inr (.inl (vp_updL fa2 k3 y4))))) p2 (.inl (.int, na5, .inl (upd fa5 k6 u3)))) p1 = some (.inl (.long, na2, .inr (.inl (vp_updL fa2 k3 y4)))) := (gm_set_ne (gm_ne_aa w4 ha5 (by decide))).trans w4
  have w8 : (gm_set (gm_set M p1 (.inl (.long, na2, .inr (.inl (vp_updL fa2 k3 y4))))) p2 (.inl (.int, na5, .inl (upd fa5 k6 u3)))) p2 = some (.inl (.int, na5, .inl (upd fa5 k6 u3))) := gm_set_eq
  refine gm_ev.iinc (v := u3 + (1 : Int32)) (ls' := [some (.ref p0), some (.ref p1), some (.ref p2), some (.int (u3 + (1 : Int32))), some (.long y4), none, some (.int u6)]) i50_74 rfl (by rfl) rfl ?_
  refine gm_ev.goto (tgt := 2) i50_77 (by decide) ?_
  refine gm_ev.le (a := [some (.ref p0), some (.ref p1), some (.ref p2), some (.int (u3 + (1 : Int32))), none, none, none]) (gm_leL.le (show gm_leL _ _ from ⟨rfl, ⟨rfl, ⟨rfl, ⟨rfl, trivial⟩⟩⟩⟩)) ?_
  exact k
theorem c_X4_sort_20_ft_at2 {N0 : Nat} {K : Nat → Nat} {d : Nat} {M : gm_H} {sz sl : Nat} {R : gm_R} {p0 : Nat} {p1 : Nat} {p2 : Nat} {u3 : Int32} {y4 : Int64} {u6 : Int32} {na2 : Nat} {fa2 : Nat → Int64} {k3 : Nat} {k5 : Nat} {na7 : Nat} {fa7 : Nat → Int32} {k8 : Nat} (c1 : ¬ u6 ≤ 0) (ha2 : M p1 = some (.inl (.long, na2, .inr (.inl fa2)))) (ba2 : na2 < 2 ^ 31) (ek3 : (u6 - (1 : Int32)) = nI k3) (lk3 : k3 < na2) (c4 : (lg_cmp (fa2 k3) y4) ≤ 0) (hNp1 : N0 ≤ p1) (ek5 : u6 = nI k5) (lk5 : k5 < na2) (ha7 : (gm_set M p1 (.inl (.long, na2, .inr (.inl (vp_updL fa2 k5 y4))))) p2 = some (.inl (.int, na7, .inl fa7))) (ba7 : na7 < 2 ^ 31) (hNp2 : N0 ≤ p2) (ek8 : u6 = nI k8) (lk8 : k8 < na7) (k : gm_ev N0 K ra_nm (ra_mt K) d none (gm_I cX4_sort) (gm_lkf (lkX4 false K)) 2 [some (.ref p0), some (.ref p1), some (.ref p2), some (.int (u3 + (1 : Int32))), none, none, none] [] (gm_set (gm_set M p1 (.inl (.long, na2, .inr (.inl (vp_updL fa2 k5 y4))))) p2 (.inl (.int, na7, .inl (upd fa7 k8 u3)))) sz sl R) : gm_ev N0 K ra_nm (ra_mt K) d none (gm_I cX4_sort) (gm_lkf (lkX4 false K)) 20 [some (.ref p0), some (.ref p1), some (.ref p2), some (.int u3), some (.long y4), none, some (.int u6)] [] M sz sl R := by
  refine gm_ev.iload i50_20 rfl ?_
  refine gm_ev.if_le_f i50_22 c1 ?_
  refine gm_ev.aload_n i50_25 rfl ?_
  refine gm_ev.iload i50_26 rfl ?_
  refine gm_ev.iconst (v := 1) i50_28 (by decide) ?_
  refine gm_ev.isub i50_29 ?_
  refine gm_ev.laload i50_30 (gm_al_of ha2 ek3 lk3 ba2) ?_
  refine gm_ev.lload i50_31 rfl ?_
  refine gm_ev.lcmp i50_33 ?_
  refine gm_ev.if_le_t (tgt := 63) i50_34 (by decide) c4 ?_
  refine gm_ev.aload_n i50_63 rfl ?_
  refine gm_ev.iload i50_64 rfl ?_
  refine gm_ev.lload i50_66 rfl ?_
  refine gm_ev.lastore (M' := (gm_set M p1 (.inl (.long, na2, .inr (.inl (vp_updL fa2 k5 y4)))))) i50_68 (gm_astl_of ha2 ek5 lk5 ba2 hNp1) ?_
  have w6 : (gm_set M p1 (.inl (.long, na2, .inr (.inl (vp_updL fa2 k5 y4))))) p1 = some (.inl (.long, na2, .inr (.inl (vp_updL fa2 k5 y4)))) := gm_set_eq
  refine gm_ev.aload_n i50_69 rfl ?_
  refine gm_ev.iload i50_70 rfl ?_
  refine gm_ev.iload_n i50_72 rfl ?_
  refine gm_ev.iastore (M' := (gm_set (gm_set M p1 (.inl (.long, na2, .inr (.inl (vp_updL fa2 k5 y4))))) p2 (.inl (.int, na7, .inl (upd fa7 k8 u3))))) i50_73 (gm_asti_of ha7 ek8 lk8 ba7 hNp2) ?_
  have w9 : (gm_set (gm_set M p1 (.inl (.long, na2, .inr (.inl (vp_updL fa2 k5 y4))))) p2 (.inl (.int, na7, .inl (upd fa7 k8 u3)))) p1 = some (.inl (.long, na2, .inr (.inl (vp_updL fa2 k5 y4)))) := (gm_set_ne (gm_ne_aa w6 ha7 (by decide))).trans w6
  have w10 : (gm_set (gm_set M p1 (.inl (.long, na2, .inr (.inl (vp_updL fa2 k5 y4))))) p2 (.inl (.int, na7, .inl (upd fa7 k8 u3)))) p2 = some (.inl (.int, na7, .inl (upd fa7 k8 u3))) := gm_set_eq
  refine gm_ev.iinc (v := u3 + (1 : Int32)) (ls' := [some (.ref p0), some (.ref p1), some (.ref p2), some (.int (u3 + (1 : Int32))), some (.long y4), none, some (.int u6)]) i50_74 rfl (by rfl) rfl ?_
  refine gm_ev.goto (tgt := 2) i50_77 (by decide) ?_
  refine gm_ev.le (a := [some (.ref p0), some (.ref p1), some (.ref p2), some (.int (u3 + (1 : Int32))), none, none, none]) (gm_leL.le (show gm_leL _ _ from ⟨rfl, ⟨rfl, ⟨rfl, ⟨rfl, trivial⟩⟩⟩⟩)) ?_
  exact k
theorem c_X4_sort_20_ff_at20 {N0 : Nat} {K : Nat → Nat} {d : Nat} {M : gm_H} {sz sl : Nat} {R : gm_R} {p0 : Nat} {p1 : Nat} {p2 : Nat} {u3 : Int32} {y4 : Int64} {u6 : Int32} {na2 : Nat} {fa2 : Nat → Int64} {k3 : Nat} {k5 : Nat} {k6 : Nat} {na8 : Nat} {fa8 : Nat → Int32} {k9 : Nat} {k10 : Nat} (c1 : ¬ u6 ≤ 0) (ha2 : M p1 = some (.inl (.long, na2, .inr (.inl fa2)))) (ba2 : na2 < 2 ^ 31) (ek3 : (u6 - (1 : Int32)) = nI k3) (lk3 : k3 < na2) (c4 : ¬ (lg_cmp (fa2 k3) y4) ≤ 0) (ek5 : (u6 - (1 : Int32)) = nI k5) (lk5 : k5 < na2) (hNp1 : N0 ≤ p1) (ek6 : u6 = nI k6) (lk6 : k6 < na2) (ha8 : (gm_set M p1 (.inl (.long, na2, .inr (.inl (vp_updL fa2 k6 (fa2 k5)))))) p2 = some (.inl (.int, na8, .inl fa8))) (ba8 : na8 < 2 ^ 31) (ek9 : (u6 - (1 : Int32)) = nI k9) (lk9 : k9 < na8) (hNp2 : N0 ≤ p2) (ek10 : u6 = nI k10) (lk10 : k10 < na8) (k : gm_ev N0 K ra_nm (ra_mt K) d none (gm_I cX4_sort) (gm_lkf (lkX4 false K)) 20 [some (.ref p0), some (.ref p1), some (.ref p2), some (.int u3), some (.long y4), none, some (.int (u6 + (-1 : Int32)))] [] (gm_set (gm_set M p1 (.inl (.long, na2, .inr (.inl (vp_updL fa2 k6 (fa2 k5)))))) p2 (.inl (.int, na8, .inl (upd fa8 k10 (fa8 k9))))) sz sl R) : gm_ev N0 K ra_nm (ra_mt K) d none (gm_I cX4_sort) (gm_lkf (lkX4 false K)) 20 [some (.ref p0), some (.ref p1), some (.ref p2), some (.int u3), some (.long y4), none, some (.int u6)] [] M sz sl R := by
  refine gm_ev.iload i50_20 rfl ?_
  refine gm_ev.if_le_f i50_22 c1 ?_
  refine gm_ev.aload_n i50_25 rfl ?_
  refine gm_ev.iload i50_26 rfl ?_
  refine gm_ev.iconst (v := 1) i50_28 (by decide) ?_
  refine gm_ev.isub i50_29 ?_
  refine gm_ev.laload i50_30 (gm_al_of ha2 ek3 lk3 ba2) ?_
  refine gm_ev.lload i50_31 rfl ?_
  refine gm_ev.lcmp i50_33 ?_
  refine gm_ev.if_le_f i50_34 c4 ?_
  refine gm_ev.aload_n i50_37 rfl ?_
  refine gm_ev.iload i50_38 rfl ?_
  refine gm_ev.aload_n i50_40 rfl ?_
  refine gm_ev.iload i50_41 rfl ?_
  refine gm_ev.iconst (v := 1) i50_43 (by decide) ?_
  refine gm_ev.isub i50_44 ?_
  refine gm_ev.laload i50_45 (gm_al_of ha2 ek5 lk5 ba2) ?_
  refine gm_ev.lastore (M' := (gm_set M p1 (.inl (.long, na2, .inr (.inl (vp_updL fa2 k6 (fa2 k5))))))) i50_46 (gm_astl_of ha2 ek6 lk6 ba2 hNp1) ?_
  have w7 : (gm_set M p1 (.inl (.long, na2, .inr (.inl (vp_updL fa2 k6 (fa2 k5)))))) p1 = some (.inl (.long, na2, .inr (.inl (vp_updL fa2 k6 (fa2 k5))))) := gm_set_eq
  refine gm_ev.aload_n i50_47 rfl ?_
  refine gm_ev.iload i50_48 rfl ?_
  refine gm_ev.aload_n i50_50 rfl ?_
  refine gm_ev.iload i50_51 rfl ?_
  refine gm_ev.iconst (v := 1) i50_53 (by decide) ?_
  refine gm_ev.isub i50_54 ?_
  refine gm_ev.iaload i50_55 (gm_ai_of ha8 ek9 lk9 ba8) ?_
  refine gm_ev.iastore (M' := (gm_set (gm_set M p1 (.inl (.long, na2, .inr (.inl (vp_updL fa2 k6 (fa2 k5)))))) p2 (.inl (.int, na8, .inl (upd fa8 k10 (fa8 k9)))))) i50_56 (gm_asti_of ha8 ek10 lk10 ba8 hNp2) ?_
  have w11 : (gm_set (gm_set M p1 (.inl (.long, na2, .inr (.inl (vp_updL fa2 k6 (fa2 k5)))))) p2 (.inl (.int, na8, .inl (upd fa8 k10 (fa8 k9))))) p1 = some (.inl (.long, na2, .inr (.inl (vp_updL fa2 k6 (fa2 k5))))) := (gm_set_ne (gm_ne_aa w7 ha8 (by decide))).trans w7
  have w12 : (gm_set (gm_set M p1 (.inl (.long, na2, .inr (.inl (vp_updL fa2 k6 (fa2 k5)))))) p2 (.inl (.int, na8, .inl (upd fa8 k10 (fa8 k9))))) p2 = some (.inl (.int, na8, .inl (upd fa8 k10 (fa8 k9)))) := gm_set_eq
  refine gm_ev.iinc (v := u6 + (-1 : Int32)) (ls' := [some (.ref p0), some (.ref p1), some (.ref p2), some (.int u3), some (.long y4), none, some (.int (u6 + (-1 : Int32)))]) i50_57 rfl (by rfl) rfl ?_
  refine gm_ev.goto (tgt := 20) i50_60 (by decide) ?_
  exact k
theorem c_X4_keyOf_0_ {N0 : Nat} {K : Nat → Nat} {d : Nat} {M : gm_H} {sz sl : Nat} {p0 : Nat} {p1 : Int32} {fso1 : List Value} {r2 : Nat} {na4 : Nat} {fa4 : Nat → Int32} {k5 : Nat} {r6 : Nat} {na8 : Nat} {fa8 : Nat → Int32} {k9 : Nat} {r10 : Int32} {M12 : gm_H} {sz13 : Nat} {dd14 : Nat} {r15 : Int32} {M17 : gm_H} {sz18 : Nat} {dd19 : Nat} (ho1 : M p0 = some (.inr (8, fso1))) (f3 : fso1[2]? = some (.ref r2)) (ha4 : M r2 = some (.inl (.int, na4, .inl fa4))) (ba4 : na4 < 2 ^ 31) (ek5 : p1 = nI k5) (lk5 : k5 < na4) (f7 : fso1[3]? = some (.ref r6)) (ha8 : M r6 = some (.inl (.int, na8, .inl fa8))) (ba8 : na8 < 2 ^ 31) (ek9 : p1 = nI k9) (lk9 : k9 < na8) (t11 : gm_to N0 K ra_nm (ra_mt K) d 52 [.ref p0, .int p1] M sz (.returned (some (.int r10)), M12, sz13, dd14)) (t16 : gm_to N0 K ra_nm (ra_mt K) d 191 [.int ((fa4 k5) ||| (fa8 k9))] M12 sz13 (.returned (some (.int r15)), M17, sz18, dd19)) : gm_ev N0 K ra_nm (ra_mt K) d (some .long) (gm_I cX4_keyOf) (gm_lkf (lkX4 false K)) 0 [some (.ref p0), some (.int p1), none] [] M sz sl (.returned (some (.long (((r10.toInt64 <<< (((40 : Int32)).toInt64 &&& 63)) ||| (r15.toInt64 <<< (((32 : Int32)).toInt64 &&& 63))) ||| (((fa4 k5) ||| (fa8 k9)).toInt64)))), M17, sz18, ((sl + dd14) + dd19)) := by
  refine gm_ev.aload_n i51_0 rfl ?_
  refine gm_ev.getfield (v := .ref r2) i51_1 rfl (gm_fld_of ho1 f3) ?_
  refine gm_ev.iload_n i51_4 rfl ?_
  refine gm_ev.iaload i51_5 (gm_ai_of ha4 ek5 lk5 ba4) ?_
  refine gm_ev.aload_n i51_6 rfl ?_
  refine gm_ev.getfield (v := .ref r6) i51_7 rfl (gm_fld_of ho1 f7) ?_
  refine gm_ev.iload_n i51_10 rfl ?_
  refine gm_ev.iaload i51_11 (gm_ai_of ha8 ek9 lk9 ba8) ?_
  refine gm_ev.ior i51_12 ?_
  refine gm_ev.istore_n (ls' := [some (.ref p0), some (.int p1), some (.int ((fa4 k5) ||| (fa8 k9)))]) i51_13 (Nat.le_of_ble_eq_true rfl) rfl ?_
  refine gm_ev.aload_n i51_14 rfl ?_
  refine gm_ev.iload_n i51_15 rfl ?_
  refine gm_ev.callS gm_mono_run (av := [.ref p0, .int p1]) (r := []) i51_16 rfl rfl rfl (Nat.le_of_ble_eq_true rfl) t11 ?_
  refine gm_ev.i2l i51_19 ?_
  refine gm_ev.bipush (v := 40) i51_20 (by decide) ?_
  refine gm_ev.lshl i51_22 ?_
  refine gm_ev.iload_n i51_23 rfl ?_
  refine gm_ev.callS gm_mono_run (av := [.int ((fa4 k5) ||| (fa8 k9))]) (r := [.long (r10.toInt64 <<< (((40 : Int32)).toInt64 &&& 63))]) i51_24 rfl rfl rfl (Nat.le_of_ble_eq_true rfl) t16 ?_
  refine gm_ev.i2l i51_27 ?_
  refine gm_ev.bipush (v := 32) i51_28 (by decide) ?_
  refine gm_ev.lshl i51_30 ?_
  refine gm_ev.lor i51_31 ?_
  refine gm_ev.iload_n i51_32 rfl ?_
  refine gm_ev.i2l i51_33 ?_
  refine gm_ev.lor i51_34 ?_
  exact gm_ev.lret i51_35 rfl
theorem c_X4_stageOf_0_tt {N0 : Nat} {K : Nat → Nat} {d : Nat} {M : gm_H} {sz sl : Nat} {p0 : Nat} {p1 : Int32} {fso1 : List Value} {r2 : Nat} {na4 : Nat} {fa4 : Nat → Int32} {k5 : Nat} {k7 : Nat} (ho1 : M p0 = some (.inr (8, fso1))) (f3 : fso1[4]? = some (.ref r2)) (ha4 : M r2 = some (.inl (.int, na4, .inl fa4))) (ba4 : na4 < 2 ^ 31) (ek5 : p1 = nI k5) (lk5 : k5 < na4) (c6 : ((fa4 k5) &&& (16 : Int32)) = 0) (ek7 : p1 = nI k7) (lk7 : k7 < na4) (c8 : ((fa4 k7) &&& (4 : Int32)) = 0) : gm_ev N0 K ra_nm (ra_mt K) d (some .int) (gm_I cX4_stageOf) (gm_lkf (lkX4 false K)) 0 [some (.ref p0), some (.int p1)] [] M sz sl (.returned (some (.int (0 : Int32))), M, sz, sl) := by
  refine gm_ev.aload_n i52_0 rfl ?_
  refine gm_ev.getfield (v := .ref r2) i52_1 rfl (gm_fld_of ho1 f3) ?_
  refine gm_ev.iload_n i52_4 rfl ?_
  refine gm_ev.iaload i52_5 (gm_ai_of ha4 ek5 lk5 ba4) ?_
  refine gm_ev.bipush (v := 16) i52_6 (by decide) ?_
  refine gm_ev.iand i52_8 ?_
  refine gm_ev.if_eq_t (tgt := 14) i52_9 (by decide) c6 ?_
  refine gm_ev.aload_n i52_14 rfl ?_
  refine gm_ev.getfield (v := .ref r2) i52_15 rfl (gm_fld_of ho1 f3) ?_
  refine gm_ev.iload_n i52_18 rfl ?_
  refine gm_ev.iaload i52_19 (gm_ai_of ha4 ek7 lk7 ba4) ?_
  refine gm_ev.iconst (v := 4) i52_20 (by decide) ?_
  refine gm_ev.iand i52_21 ?_
  refine gm_ev.if_eq_t (tgt := 29) i52_22 (by decide) c8 ?_
  refine gm_ev.iconst (v := 0) i52_29 (by decide) ?_
  exact gm_ev.iret i52_30 rfl
theorem c_X4_stageOf_0_tf {N0 : Nat} {K : Nat → Nat} {d : Nat} {M : gm_H} {sz sl : Nat} {p0 : Nat} {p1 : Int32} {fso1 : List Value} {r2 : Nat} {na4 : Nat} {fa4 : Nat → Int32} {k5 : Nat} {k7 : Nat} (ho1 : M p0 = some (.inr (8, fso1))) (f3 : fso1[4]? = some (.ref r2)) (ha4 : M r2 = some (.inl (.int, na4, .inl fa4))) (ba4 : na4 < 2 ^ 31) (ek5 : p1 = nI k5) (lk5 : k5 < na4) (c6 : ((fa4 k5) &&& (16 : Int32)) = 0) (ek7 : p1 = nI k7) (lk7 : k7 < na4) (c8 : ¬ ((fa4 k7) &&& (4 : Int32)) = 0) : gm_ev N0 K ra_nm (ra_mt K) d (some .int) (gm_I cX4_stageOf) (gm_lkf (lkX4 false K)) 0 [some (.ref p0), some (.int p1)] [] M sz sl (.returned (some (.int (1 : Int32))), M, sz, sl) := by
  refine gm_ev.aload_n i52_0 rfl ?_
  refine gm_ev.getfield (v := .ref r2) i52_1 rfl (gm_fld_of ho1 f3) ?_
  refine gm_ev.iload_n i52_4 rfl ?_
  refine gm_ev.iaload i52_5 (gm_ai_of ha4 ek5 lk5 ba4) ?_
  refine gm_ev.bipush (v := 16) i52_6 (by decide) ?_
  refine gm_ev.iand i52_8 ?_
  refine gm_ev.if_eq_t (tgt := 14) i52_9 (by decide) c6 ?_
  refine gm_ev.aload_n i52_14 rfl ?_
  refine gm_ev.getfield (v := .ref r2) i52_15 rfl (gm_fld_of ho1 f3) ?_
  refine gm_ev.iload_n i52_18 rfl ?_
  refine gm_ev.iaload i52_19 (gm_ai_of ha4 ek7 lk7 ba4) ?_
  refine gm_ev.iconst (v := 4) i52_20 (by decide) ?_
  refine gm_ev.iand i52_21 ?_
  refine gm_ev.if_eq_f i52_22 c8 ?_
  refine gm_ev.iconst (v := 1) i52_25 (by decide) ?_
  refine gm_ev.goto (tgt := 30) i52_26 (by decide) ?_
  exact gm_ev.iret i52_30 rfl
theorem c_X4_stageOf_0_f {N0 : Nat} {K : Nat → Nat} {d : Nat} {M : gm_H} {sz sl : Nat} {p0 : Nat} {p1 : Int32} {fso1 : List Value} {r2 : Nat} {na4 : Nat} {fa4 : Nat → Int32} {k5 : Nat} (ho1 : M p0 = some (.inr (8, fso1))) (f3 : fso1[4]? = some (.ref r2)) (ha4 : M r2 = some (.inl (.int, na4, .inl fa4))) (ba4 : na4 < 2 ^ 31) (ek5 : p1 = nI k5) (lk5 : k5 < na4) (c6 : ¬ ((fa4 k5) &&& (16 : Int32)) = 0) : gm_ev N0 K ra_nm (ra_mt K) d (some .int) (gm_I cX4_stageOf) (gm_lkf (lkX4 false K)) 0 [some (.ref p0), some (.int p1)] [] M sz sl (.returned (some (.int (2 : Int32))), M, sz, sl) := by
  refine gm_ev.aload_n i52_0 rfl ?_
  refine gm_ev.getfield (v := .ref r2) i52_1 rfl (gm_fld_of ho1 f3) ?_
  refine gm_ev.iload_n i52_4 rfl ?_
  refine gm_ev.iaload i52_5 (gm_ai_of ha4 ek5 lk5 ba4) ?_
  refine gm_ev.bipush (v := 16) i52_6 (by decide) ?_
  refine gm_ev.iand i52_8 ?_
  refine gm_ev.if_eq_f i52_9 c6 ?_
  refine gm_ev.iconst (v := 2) i52_12 (by decide) ?_
  exact gm_ev.iret i52_13 rfl
theorem c_X4_isRecursive_0_t {N0 : Nat} {K : Nat → Nat} {d : Nat} {M : gm_H} {sz sl : Nat} {q : Nat} {p0 : Int32} {fso1 : List Value} {x2 : Int32} (ho1 : M q = some (.inr (4, fso1))) (f3 : fso1[3]? = some (.int x2)) (c4 : ((((x2).toUInt32 >>> ((p0).toUInt32 &&& Int32.toUInt32 31)).toInt32) &&& (1 : Int32)) = 0) : gm_ev N0 K ra_nm (ra_mt K) d (some .boolean) (gm_I cX4_isRecursive) (gm_lkf (lkX4 false K)) 0 [some (.ref q), some (.int p0)] [] M sz sl (.returned (some (.int (0 : Int32))), M, sz, sl) := by
  refine gm_ev.aload_n i53_0 rfl ?_
  refine gm_ev.getfield (v := .int x2) i53_1 rfl (gm_fld_of ho1 f3) ?_
  refine gm_ev.iload_n i53_4 rfl ?_
  refine gm_ev.iushr i53_5 ?_
  refine gm_ev.iconst (v := 1) i53_6 (by decide) ?_
  refine gm_ev.iand i53_7 ?_
  refine gm_ev.if_eq_t (tgt := 15) i53_8 (by decide) c4 ?_
  refine gm_ev.iconst (v := 0) i53_15 (by decide) ?_
  exact gm_ev.zret i53_16 rfl (by decide)
theorem c_X4_isRecursive_0_f {N0 : Nat} {K : Nat → Nat} {d : Nat} {M : gm_H} {sz sl : Nat} {q : Nat} {p0 : Int32} {fso1 : List Value} {x2 : Int32} (ho1 : M q = some (.inr (4, fso1))) (f3 : fso1[3]? = some (.int x2)) (c4 : ¬ ((((x2).toUInt32 >>> ((p0).toUInt32 &&& Int32.toUInt32 31)).toInt32) &&& (1 : Int32)) = 0) : gm_ev N0 K ra_nm (ra_mt K) d (some .boolean) (gm_I cX4_isRecursive) (gm_lkf (lkX4 false K)) 0 [some (.ref q), some (.int p0)] [] M sz sl (.returned (some (.int (1 : Int32))), M, sz, sl) := by
  refine gm_ev.aload_n i53_0 rfl ?_
  refine gm_ev.getfield (v := .int x2) i53_1 rfl (gm_fld_of ho1 f3) ?_
  refine gm_ev.iload_n i53_4 rfl ?_
  refine gm_ev.iushr i53_5 ?_
  refine gm_ev.iconst (v := 1) i53_6 (by decide) ?_
  refine gm_ev.iand i53_7 ?_
  refine gm_ev.if_eq_f i53_8 c4 ?_
  refine gm_ev.iconst (v := 1) i53_11 (by decide) ?_
  refine gm_ev.goto (tgt := 16) i53_12 (by decide) ?_
  exact gm_ev.zret i53_16 rfl (by decide)
theorem c_X5_init_0_ {N0 : Nat} {K : Nat → Nat} {d : Nat} {M : gm_H} {sz sl : Nat} {q : Nat} {p0 : Int32} {p1 : Int32} {p2 : Int32} {p3 : Int32} {p4 : Int32} {fso2 : List Value} (hd : 0 < d) (ho2 : M q = some (.inr (5, fso2))) (hNq : N0 ≤ q) (l3 : 0 < fso2.length) (l6 : 1 < (fso2.set 0 (.int p0)).length) (l10 : 2 < ((fso2.set 0 (.int p0)).set 1 (.int p1)).length) (l15 : 3 < (((fso2.set 0 (.int p0)).set 1 (.int p1)).set 2 (.int p2)).length) (l21 : 4 < ((((fso2.set 0 (.int p0)).set 1 (.int p1)).set 2 (.int p2)).set 3 (.int p3)).length) : gm_ev N0 K ra_nm (ra_mt K) d none (gm_I cX5_init) (gm_lkf (lkX5 true K)) 0 [some (.ref q), some (.int p0), some (.int p1), some (.int p2), some (.int p3), some (.int p4)] [] M sz sl (.returned none, (gm_set (gm_set (gm_set (gm_set (gm_set M q (.inr (5, (fso2.set 0 (.int p0))))) q (.inr (5, ((fso2.set 0 (.int p0)).set 1 (.int p1))))) q (.inr (5, (((fso2.set 0 (.int p0)).set 1 (.int p1)).set 2 (.int p2))))) q (.inr (5, ((((fso2.set 0 (.int p0)).set 1 (.int p1)).set 2 (.int p2)).set 3 (.int p3))))) q (.inr (5, (((((fso2.set 0 (.int p0)).set 1 (.int p1)).set 2 (.int p2)).set 3 (.int p3)).set 4 (.int p4))))), sz, sl) := by
  refine gm_ev.aload_n i54_0 rfl ?_
  refine gm_ev.callI gm_mono_run (av := []) (r := []) i54_1 rfl rfl rfl (Nat.le_of_ble_eq_true rfl) (gm_to_obj hd _) ?_
  refine gm_ev.aload_n i54_4 rfl ?_
  refine gm_ev.iload_n i54_5 rfl ?_
  refine gm_ev.putfield (M' := (gm_set M q (.inr (5, (fso2.set 0 (.int p0)))))) i54_6 rfl (gm_put_of ho2 l3 hNq (gm_fit_i _)) ?_
  have g4 : (fso2.set 0 (.int p0))[0]? = some (.int p0) := gm_fs_eq l3
  have w5 : (gm_set M q (.inr (5, (fso2.set 0 (.int p0))))) q = some (.inr (5, (fso2.set 0 (.int p0)))) := gm_set_eq
  refine gm_ev.aload_n i54_9 rfl ?_
  refine gm_ev.iload_n i54_10 rfl ?_
  refine gm_ev.putfield (M' := (gm_set (gm_set M q (.inr (5, (fso2.set 0 (.int p0))))) q (.inr (5, ((fso2.set 0 (.int p0)).set 1 (.int p1)))))) i54_11 rfl (gm_put_of w5 l6 hNq (gm_fit_i _)) ?_
  have g7 : ((fso2.set 0 (.int p0)).set 1 (.int p1))[0]? = some (.int p0) := (gm_fs_ne (by decide)).trans g4
  have g8 : ((fso2.set 0 (.int p0)).set 1 (.int p1))[1]? = some (.int p1) := gm_fs_eq l6
  have w9 : (gm_set (gm_set M q (.inr (5, (fso2.set 0 (.int p0))))) q (.inr (5, ((fso2.set 0 (.int p0)).set 1 (.int p1))))) q = some (.inr (5, ((fso2.set 0 (.int p0)).set 1 (.int p1)))) := gm_set_eq
  refine gm_ev.aload_n i54_14 rfl ?_
  refine gm_ev.iload_n i54_15 rfl ?_
  refine gm_ev.putfield (M' := (gm_set (gm_set (gm_set M q (.inr (5, (fso2.set 0 (.int p0))))) q (.inr (5, ((fso2.set 0 (.int p0)).set 1 (.int p1))))) q (.inr (5, (((fso2.set 0 (.int p0)).set 1 (.int p1)).set 2 (.int p2)))))) i54_16 rfl (gm_put_of w9 l10 hNq (gm_fit_i _)) ?_
  have g11 : (((fso2.set 0 (.int p0)).set 1 (.int p1)).set 2 (.int p2))[0]? = some (.int p0) := (gm_fs_ne (by decide)).trans g7
  have g12 : (((fso2.set 0 (.int p0)).set 1 (.int p1)).set 2 (.int p2))[1]? = some (.int p1) := (gm_fs_ne (by decide)).trans g8
  have g13 : (((fso2.set 0 (.int p0)).set 1 (.int p1)).set 2 (.int p2))[2]? = some (.int p2) := gm_fs_eq l10
  have w14 : (gm_set (gm_set (gm_set M q (.inr (5, (fso2.set 0 (.int p0))))) q (.inr (5, ((fso2.set 0 (.int p0)).set 1 (.int p1))))) q (.inr (5, (((fso2.set 0 (.int p0)).set 1 (.int p1)).set 2 (.int p2))))) q = some (.inr (5, (((fso2.set 0 (.int p0)).set 1 (.int p1)).set 2 (.int p2)))) := gm_set_eq
  refine gm_ev.aload_n i54_19 rfl ?_
  refine gm_ev.iload i54_20 rfl ?_
  refine gm_ev.putfield (M' := (gm_set (gm_set (gm_set (gm_set M q (.inr (5, (fso2.set 0 (.int p0))))) q (.inr (5, ((fso2.set 0 (.int p0)).set 1 (.int p1))))) q (.inr (5, (((fso2.set 0 (.int p0)).set 1 (.int p1)).set 2 (.int p2))))) q (.inr (5, ((((fso2.set 0 (.int p0)).set 1 (.int p1)).set 2 (.int p2)).set 3 (.int p3)))))) i54_22 rfl (gm_put_of w14 l15 hNq (gm_fit_i _)) ?_
  have g16 : ((((fso2.set 0 (.int p0)).set 1 (.int p1)).set 2 (.int p2)).set 3 (.int p3))[0]? = some (.int p0) := (gm_fs_ne (by decide)).trans g11
  have g17 : ((((fso2.set 0 (.int p0)).set 1 (.int p1)).set 2 (.int p2)).set 3 (.int p3))[1]? = some (.int p1) := (gm_fs_ne (by decide)).trans g12
  have g18 : ((((fso2.set 0 (.int p0)).set 1 (.int p1)).set 2 (.int p2)).set 3 (.int p3))[2]? = some (.int p2) := (gm_fs_ne (by decide)).trans g13
  have g19 : ((((fso2.set 0 (.int p0)).set 1 (.int p1)).set 2 (.int p2)).set 3 (.int p3))[3]? = some (.int p3) := gm_fs_eq l15
  have w20 : (gm_set (gm_set (gm_set (gm_set M q (.inr (5, (fso2.set 0 (.int p0))))) q (.inr (5, ((fso2.set 0 (.int p0)).set 1 (.int p1))))) q (.inr (5, (((fso2.set 0 (.int p0)).set 1 (.int p1)).set 2 (.int p2))))) q (.inr (5, ((((fso2.set 0 (.int p0)).set 1 (.int p1)).set 2 (.int p2)).set 3 (.int p3))))) q = some (.inr (5, ((((fso2.set 0 (.int p0)).set 1 (.int p1)).set 2 (.int p2)).set 3 (.int p3)))) := gm_set_eq
  refine gm_ev.aload_n i54_25 rfl ?_
  refine gm_ev.iload i54_26 rfl ?_
  refine gm_ev.putfield (M' := (gm_set (gm_set (gm_set (gm_set (gm_set M q (.inr (5, (fso2.set 0 (.int p0))))) q (.inr (5, ((fso2.set 0 (.int p0)).set 1 (.int p1))))) q (.inr (5, (((fso2.set 0 (.int p0)).set 1 (.int p1)).set 2 (.int p2))))) q (.inr (5, ((((fso2.set 0 (.int p0)).set 1 (.int p1)).set 2 (.int p2)).set 3 (.int p3))))) q (.inr (5, (((((fso2.set 0 (.int p0)).set 1 (.int p1)).set 2 (.int p2)).set 3 (.int p3)).set 4 (.int p4)))))) i54_28 rfl (gm_put_of w20 l21 hNq (gm_fit_i _)) ?_
  have g22 : (((((fso2.set 0 (.int p0)).set 1 (.int p1)).set 2 (.int p2)).set 3 (.int p3)).set 4 (.int p4))[0]? = some (.int p0) := (gm_fs_ne (by decide)).trans g16
  have g23 : (((((fso2.set 0 (.int p0)).set 1 (.int p1)).set 2 (.int p2)).set 3 (.int p3)).set 4 (.int p4))[1]? = some (.int p1) := (gm_fs_ne (by decide)).trans g17
  have g24 : (((((fso2.set 0 (.int p0)).set 1 (.int p1)).set 2 (.int p2)).set 3 (.int p3)).set 4 (.int p4))[2]? = some (.int p2) := (gm_fs_ne (by decide)).trans g18
  have g25 : (((((fso2.set 0 (.int p0)).set 1 (.int p1)).set 2 (.int p2)).set 3 (.int p3)).set 4 (.int p4))[3]? = some (.int p3) := (gm_fs_ne (by decide)).trans g19
  have g26 : (((((fso2.set 0 (.int p0)).set 1 (.int p1)).set 2 (.int p2)).set 3 (.int p3)).set 4 (.int p4))[4]? = some (.int p4) := gm_fs_eq l21
  have w27 : (gm_set (gm_set (gm_set (gm_set (gm_set M q (.inr (5, (fso2.set 0 (.int p0))))) q (.inr (5, ((fso2.set 0 (.int p0)).set 1 (.int p1))))) q (.inr (5, (((fso2.set 0 (.int p0)).set 1 (.int p1)).set 2 (.int p2))))) q (.inr (5, ((((fso2.set 0 (.int p0)).set 1 (.int p1)).set 2 (.int p2)).set 3 (.int p3))))) q (.inr (5, (((((fso2.set 0 (.int p0)).set 1 (.int p1)).set 2 (.int p2)).set 3 (.int p3)).set 4 (.int p4))))) q = some (.inr (5, (((((fso2.set 0 (.int p0)).set 1 (.int p1)).set 2 (.int p2)).set 3 (.int p3)).set 4 (.int p4)))) := gm_set_eq
  exact gm_ev.vret i54_31 rfl
theorem c_X5_relationOf_0_tt {N0 : Nat} {K : Nat → Nat} {d : Nat} {M : gm_H} {sz sl : Nat} {p0 : Int32} {p1 : Int32} {r4 : Int32} {M6 : gm_H} {sz7 : Nat} {dd8 : Nat} (hd : 0 < d) (c3 : (gm_ix p0) < 0) (t5 : gm_to N0 K ra_nm (ra_mt K) d 88 [.int p0] M sz (.returned (some (.int r4)), M6, sz7, dd8)) (c9 : r4 = 0) : gm_ev N0 K ra_nm (ra_mt K) d (some .int) (gm_I cX5_relationOf) (gm_lkf (lkX5 false K)) 0 [some (.int p0), some (.int p1), none] [] M sz sl (.returned (some (.int (-1 : Int32))), M6, sz7, (sl + dd8)) := by
  refine gm_ev.ldc i55_0 rfl ?_
  refine gm_ev.iload_n i55_2 rfl ?_
  refine gm_ev.callT gm_mono_run (av := [.int p0]) (r := []) i55_3 rfl rfl rfl (Nat.le_of_ble_eq_true rfl) (gm_to_ix hd (Or.inl rfl)) ?_
  refine gm_ev.istore_n (ls' := [some (.int p0), some (.int p1), some (.int (gm_ix p0))]) i55_6 (Nat.le_of_ble_eq_true rfl) rfl ?_
  refine gm_ev.iload_n i55_7 rfl ?_
  refine gm_ev.if_lt_t (tgt := 26) i55_8 (by decide) c3 ?_
  refine gm_ev.iload_n i55_26 rfl ?_
  refine gm_ev.callS gm_mono_run (av := [.int p0]) (r := []) i55_27 rfl rfl rfl (Nat.le_of_ble_eq_true rfl) t5 ?_
  refine gm_ev.if_eq_t (tgt := 42) i55_30 (by decide) c9 ?_
  refine gm_ev.iconst (v := -1) i55_42 (by decide) ?_
  exact gm_ev.iret i55_43 rfl
theorem c_X5_relationOf_0_tft {N0 : Nat} {K : Nat → Nat} {d : Nat} {M : gm_H} {sz sl : Nat} {p0 : Int32} {p1 : Int32} {r4 : Int32} {M6 : gm_H} {sz7 : Nat} {dd8 : Nat} (hd : 0 < d) (c3 : (gm_ix p0) < 0) (t5 : gm_to N0 K ra_nm (ra_mt K) d 88 [.int p0] M sz (.returned (some (.int r4)), M6, sz7, dd8)) (c9 : ¬ r4 = 0) (c10 : p1 < 0) : gm_ev N0 K ra_nm (ra_mt K) d (some .int) (gm_I cX5_relationOf) (gm_lkf (lkX5 false K)) 0 [some (.int p0), some (.int p1), none] [] M sz sl (.returned (some (.int (-1 : Int32))), M6, sz7, (sl + dd8)) := by
  refine gm_ev.ldc i55_0 rfl ?_
  refine gm_ev.iload_n i55_2 rfl ?_
  refine gm_ev.callT gm_mono_run (av := [.int p0]) (r := []) i55_3 rfl rfl rfl (Nat.le_of_ble_eq_true rfl) (gm_to_ix hd (Or.inl rfl)) ?_
  refine gm_ev.istore_n (ls' := [some (.int p0), some (.int p1), some (.int (gm_ix p0))]) i55_6 (Nat.le_of_ble_eq_true rfl) rfl ?_
  refine gm_ev.iload_n i55_7 rfl ?_
  refine gm_ev.if_lt_t (tgt := 26) i55_8 (by decide) c3 ?_
  refine gm_ev.iload_n i55_26 rfl ?_
  refine gm_ev.callS gm_mono_run (av := [.int p0]) (r := []) i55_27 rfl rfl rfl (Nat.le_of_ble_eq_true rfl) t5 ?_
  refine gm_ev.if_eq_f i55_30 c9 ?_
  refine gm_ev.iload_n i55_33 rfl ?_
  refine gm_ev.if_lt_t (tgt := 42) i55_34 (by decide) c10 ?_
  refine gm_ev.iconst (v := -1) i55_42 (by decide) ?_
  exact gm_ev.iret i55_43 rfl
theorem c_X5_relationOf_0_tfft {N0 : Nat} {K : Nat → Nat} {d : Nat} {M : gm_H} {sz sl : Nat} {p0 : Int32} {p1 : Int32} {r4 : Int32} {M6 : gm_H} {sz7 : Nat} {dd8 : Nat} (hd : 0 < d) (c3 : (gm_ix p0) < 0) (t5 : gm_to N0 K ra_nm (ra_mt K) d 88 [.int p0] M sz (.returned (some (.int r4)), M6, sz7, dd8)) (c9 : ¬ r4 = 0) (c10 : ¬ p1 < 0) (c11 : p1 ≤ (3 : Int32)) : gm_ev N0 K ra_nm (ra_mt K) d (some .int) (gm_I cX5_relationOf) (gm_lkf (lkX5 false K)) 0 [some (.int p0), some (.int p1), none] [] M sz sl (.returned (some (.int (((8 : Int32) + ((p0 - (97 : Int32)) * (4 : Int32))) + p1))), M6, sz7, (sl + dd8)) := by
  refine gm_ev.ldc i55_0 rfl ?_
  refine gm_ev.iload_n i55_2 rfl ?_
  refine gm_ev.callT gm_mono_run (av := [.int p0]) (r := []) i55_3 rfl rfl rfl (Nat.le_of_ble_eq_true rfl) (gm_to_ix hd (Or.inl rfl)) ?_
  refine gm_ev.istore_n (ls' := [some (.int p0), some (.int p1), some (.int (gm_ix p0))]) i55_6 (Nat.le_of_ble_eq_true rfl) rfl ?_
  refine gm_ev.iload_n i55_7 rfl ?_
  refine gm_ev.if_lt_t (tgt := 26) i55_8 (by decide) c3 ?_
  refine gm_ev.iload_n i55_26 rfl ?_
  refine gm_ev.callS gm_mono_run (av := [.int p0]) (r := []) i55_27 rfl rfl rfl (Nat.le_of_ble_eq_true rfl) t5 ?_
  refine gm_ev.if_eq_f i55_30 c9 ?_
  refine gm_ev.iload_n i55_33 rfl ?_
  refine gm_ev.if_lt_f i55_34 c10 ?_
  refine gm_ev.iload_n i55_37 rfl ?_
  refine gm_ev.iconst (v := 3) i55_38 (by decide) ?_
  refine gm_ev.icmp_le_t (tgt := 44) i55_39 (by decide) c11 ?_
  refine gm_ev.bipush (v := 8) i55_44 (by decide) ?_
  refine gm_ev.iload_n i55_46 rfl ?_
  refine gm_ev.bipush (v := 97) i55_47 (by decide) ?_
  refine gm_ev.isub i55_49 ?_
  refine gm_ev.iconst (v := 4) i55_50 (by decide) ?_
  refine gm_ev.imul i55_51 ?_
  refine gm_ev.iadd i55_52 ?_
  refine gm_ev.iload_n i55_53 rfl ?_
  refine gm_ev.iadd i55_54 ?_
  exact gm_ev.iret i55_55 rfl
theorem c_X5_relationOf_0_tfff {N0 : Nat} {K : Nat → Nat} {d : Nat} {M : gm_H} {sz sl : Nat} {p0 : Int32} {p1 : Int32} {r4 : Int32} {M6 : gm_H} {sz7 : Nat} {dd8 : Nat} (hd : 0 < d) (c3 : (gm_ix p0) < 0) (t5 : gm_to N0 K ra_nm (ra_mt K) d 88 [.int p0] M sz (.returned (some (.int r4)), M6, sz7, dd8)) (c9 : ¬ r4 = 0) (c10 : ¬ p1 < 0) (c11 : ¬ p1 ≤ (3 : Int32)) : gm_ev N0 K ra_nm (ra_mt K) d (some .int) (gm_I cX5_relationOf) (gm_lkf (lkX5 false K)) 0 [some (.int p0), some (.int p1), none] [] M sz sl (.returned (some (.int (-1 : Int32))), M6, sz7, (sl + dd8)) := by
  refine gm_ev.ldc i55_0 rfl ?_
  refine gm_ev.iload_n i55_2 rfl ?_
  refine gm_ev.callT gm_mono_run (av := [.int p0]) (r := []) i55_3 rfl rfl rfl (Nat.le_of_ble_eq_true rfl) (gm_to_ix hd (Or.inl rfl)) ?_
  refine gm_ev.istore_n (ls' := [some (.int p0), some (.int p1), some (.int (gm_ix p0))]) i55_6 (Nat.le_of_ble_eq_true rfl) rfl ?_
  refine gm_ev.iload_n i55_7 rfl ?_
  refine gm_ev.if_lt_t (tgt := 26) i55_8 (by decide) c3 ?_
  refine gm_ev.iload_n i55_26 rfl ?_
  refine gm_ev.callS gm_mono_run (av := [.int p0]) (r := []) i55_27 rfl rfl rfl (Nat.le_of_ble_eq_true rfl) t5 ?_
  refine gm_ev.if_eq_f i55_30 c9 ?_
  refine gm_ev.iload_n i55_33 rfl ?_
  refine gm_ev.if_lt_f i55_34 c10 ?_
  refine gm_ev.iload_n i55_37 rfl ?_
  refine gm_ev.iconst (v := 3) i55_38 (by decide) ?_
  refine gm_ev.icmp_le_f i55_39 c11 ?_
  refine gm_ev.iconst (v := -1) i55_42 (by decide) ?_
  exact gm_ev.iret i55_43 rfl
theorem c_X5_relationOf_0_ft {N0 : Nat} {K : Nat → Nat} {d : Nat} {M : gm_H} {sz sl : Nat} {p0 : Int32} {p1 : Int32} {na4 : Nat} {fa4 : Nat → Int32} {k5 : Nat} (hd : 0 < d) (c3 : ¬ (gm_ix p0) < 0) (ha4 : M (K 0) = some (.inl (gm_scr, na4, .inl fa4))) (ba4 : na4 < 2 ^ 31) (ek5 : (gm_ix p0) = nI k5) (lk5 : k5 < na4) (c6 : ¬ (fa4 k5) = p1) : gm_ev N0 K ra_nm (ra_mt K) d (some .int) (gm_I cX5_relationOf) (gm_lkf (lkX5 false K)) 0 [some (.int p0), some (.int p1), none] [] M sz sl (.returned (some (.int (-1 : Int32))), M, sz, sl) := by
  refine gm_ev.ldc i55_0 rfl ?_
  refine gm_ev.iload_n i55_2 rfl ?_
  refine gm_ev.callT gm_mono_run (av := [.int p0]) (r := []) i55_3 rfl rfl rfl (Nat.le_of_ble_eq_true rfl) (gm_to_ix hd (Or.inl rfl)) ?_
  refine gm_ev.istore_n (ls' := [some (.int p0), some (.int p1), some (.int (gm_ix p0))]) i55_6 (Nat.le_of_ble_eq_true rfl) rfl ?_
  refine gm_ev.iload_n i55_7 rfl ?_
  refine gm_ev.if_lt_f i55_8 c3 ?_
  refine gm_ev.getstatic i55_11 rfl ?_
  refine gm_ev.iload_n i55_14 rfl ?_
  refine gm_ev.ialoadS i55_15 (gm_ai_of ha4 ek5 lk5 ba4) ?_
  refine gm_ev.iload_n i55_16 rfl ?_
  refine gm_ev.icmp_ne_t (tgt := 24) i55_17 (by decide) c6 ?_
  refine gm_ev.iconst (v := -1) i55_24 (by decide) ?_
  exact gm_ev.iret i55_25 rfl
theorem c_X5_relationOf_0_ff {N0 : Nat} {K : Nat → Nat} {d : Nat} {M : gm_H} {sz sl : Nat} {p0 : Int32} {p1 : Int32} {na4 : Nat} {fa4 : Nat → Int32} {k5 : Nat} (hd : 0 < d) (c3 : ¬ (gm_ix p0) < 0) (ha4 : M (K 0) = some (.inl (gm_scr, na4, .inl fa4))) (ba4 : na4 < 2 ^ 31) (ek5 : (gm_ix p0) = nI k5) (lk5 : k5 < na4) (c6 : (fa4 k5) = p1) : gm_ev N0 K ra_nm (ra_mt K) d (some .int) (gm_I cX5_relationOf) (gm_lkf (lkX5 false K)) 0 [some (.int p0), some (.int p1), none] [] M sz sl (.returned (some (.int (gm_ix p0))), M, sz, sl) := by
  refine gm_ev.ldc i55_0 rfl ?_
  refine gm_ev.iload_n i55_2 rfl ?_
  refine gm_ev.callT gm_mono_run (av := [.int p0]) (r := []) i55_3 rfl rfl rfl (Nat.le_of_ble_eq_true rfl) (gm_to_ix hd (Or.inl rfl)) ?_
  refine gm_ev.istore_n (ls' := [some (.int p0), some (.int p1), some (.int (gm_ix p0))]) i55_6 (Nat.le_of_ble_eq_true rfl) rfl ?_
  refine gm_ev.iload_n i55_7 rfl ?_
  refine gm_ev.if_lt_f i55_8 c3 ?_
  refine gm_ev.getstatic i55_11 rfl ?_
  refine gm_ev.iload_n i55_14 rfl ?_
  refine gm_ev.ialoadS i55_15 (gm_ai_of ha4 ek5 lk5 ba4) ?_
  refine gm_ev.iload_n i55_16 rfl ?_
  refine gm_ev.icmp_ne_f i55_17 c6 ?_
  refine gm_ev.iload_n i55_20 rfl ?_
  refine gm_ev.goto (tgt := 25) i55_21 (by decide) ?_
  exact gm_ev.iret i55_25 rfl
theorem c_X5_variables_0_ {N0 : Nat} {K : Nat → Nat} {d : Nat} {M : gm_H} {sz sl : Nat} {q : Nat} {fso1 : List Value} {x2 : Int32} {r4 : Int32} {M6 : gm_H} {sz7 : Nat} {dd8 : Nat} {fso9 : List Value} {x10 : Int32} {r12 : Int32} {M14 : gm_H} {sz15 : Nat} {dd16 : Nat} {fso17 : List Value} {x18 : Int32} {r20 : Int32} {M22 : gm_H} {sz23 : Nat} {dd24 : Nat} (ho1 : M q = some (.inr (5, fso1))) (f3 : fso1[2]? = some (.int x2)) (t5 : gm_to N0 K ra_nm (ra_mt K) d 91 [.int x2] M sz (.returned (some (.int r4)), M6, sz7, dd8)) (ho9 : M6 q = some (.inr (5, fso9))) (f11 : fso9[3]? = some (.int x10)) (t13 : gm_to N0 K ra_nm (ra_mt K) d 91 [.int x10] M6 sz7 (.returned (some (.int r12)), M14, sz15, dd16)) (ho17 : M14 q = some (.inr (5, fso17))) (f19 : fso17[4]? = some (.int x18)) (t21 : gm_to N0 K ra_nm (ra_mt K) d 91 [.int x18] M14 sz15 (.returned (some (.int r20)), M22, sz23, dd24)) : gm_ev N0 K ra_nm (ra_mt K) d (some .int) (gm_I cX5_variables) (gm_lkf (lkX5 false K)) 0 [some (.ref q)] [] M sz sl (.returned (some (.int ((r4 ||| r12) ||| r20))), M22, sz23, (((sl + dd8) + dd16) + dd24)) := by
  refine gm_ev.aload_n i56_0 rfl ?_
  refine gm_ev.getfield (v := .int x2) i56_1 rfl (gm_fld_of ho1 f3) ?_
  refine gm_ev.callS gm_mono_run (av := [.int x2]) (r := []) i56_4 rfl rfl rfl (Nat.le_of_ble_eq_true rfl) t5 ?_
  refine gm_ev.aload_n i56_7 rfl ?_
  refine gm_ev.getfield (v := .int x10) i56_8 rfl (gm_fld_of ho9 f11) ?_
  refine gm_ev.callS gm_mono_run (av := [.int x10]) (r := [.int r4]) i56_11 rfl rfl rfl (Nat.le_of_ble_eq_true rfl) t13 ?_
  refine gm_ev.ior i56_14 ?_
  refine gm_ev.aload_n i56_15 rfl ?_
  refine gm_ev.getfield (v := .int x18) i56_16 rfl (gm_fld_of ho17 f19) ?_
  refine gm_ev.callS gm_mono_run (av := [.int x18]) (r := [.int (r4 ||| r12)]) i56_19 rfl rfl rfl (Nat.le_of_ble_eq_true rfl) t21 ?_
  refine gm_ev.ior i56_22 ?_
  exact gm_ev.iret i56_23 rfl
theorem c_X5_partVariables_0_ {N0 : Nat} {K : Nat → Nat} {d : Nat} {M : gm_H} {sz sl : Nat} {q : Nat} {fso1 : List Value} {x2 : Int32} {r4 : Int32} {M6 : gm_H} {sz7 : Nat} {dd8 : Nat} {fso9 : List Value} {x10 : Int32} {r12 : Int32} {M14 : gm_H} {sz15 : Nat} {dd16 : Nat} {fso17 : List Value} {x18 : Int32} {r20 : Int32} {M22 : gm_H} {sz23 : Nat} {dd24 : Nat} (ho1 : M q = some (.inr (5, fso1))) (f3 : fso1[2]? = some (.int x2)) (t5 : gm_to N0 K ra_nm (ra_mt K) d 91 [.int (x2 &&& (2097151 : Int32))] M sz (.returned (some (.int r4)), M6, sz7, dd8)) (ho9 : M6 q = some (.inr (5, fso9))) (f11 : fso9[3]? = some (.int x10)) (t13 : gm_to N0 K ra_nm (ra_mt K) d 91 [.int (x10 &&& (2097151 : Int32))] M6 sz7 (.returned (some (.int r12)), M14, sz15, dd16)) (ho17 : M14 q = some (.inr (5, fso17))) (f19 : fso17[4]? = some (.int x18)) (t21 : gm_to N0 K ra_nm (ra_mt K) d 91 [.int (x18 &&& (2097151 : Int32))] M14 sz15 (.returned (some (.int r20)), M22, sz23, dd24)) : gm_ev N0 K ra_nm (ra_mt K) d (some .int) (gm_I cX5_partVariables) (gm_lkf (lkX5 false K)) 0 [some (.ref q)] [] M sz sl (.returned (some (.int ((r4 ||| r12) ||| r20))), M22, sz23, (((sl + dd8) + dd16) + dd24)) := by
  refine gm_ev.aload_n i57_0 rfl ?_
  refine gm_ev.getfield (v := .int x2) i57_1 rfl (gm_fld_of ho1 f3) ?_
  refine gm_ev.ldc i57_4 rfl ?_
  refine gm_ev.iand i57_6 ?_
  refine gm_ev.callS gm_mono_run (av := [.int (x2 &&& (2097151 : Int32))]) (r := []) i57_7 rfl rfl rfl (Nat.le_of_ble_eq_true rfl) t5 ?_
  refine gm_ev.aload_n i57_10 rfl ?_
  refine gm_ev.getfield (v := .int x10) i57_11 rfl (gm_fld_of ho9 f11) ?_
  refine gm_ev.ldc i57_14 rfl ?_
  refine gm_ev.iand i57_16 ?_
  refine gm_ev.callS gm_mono_run (av := [.int (x10 &&& (2097151 : Int32))]) (r := [.int r4]) i57_17 rfl rfl rfl (Nat.le_of_ble_eq_true rfl) t13 ?_
  refine gm_ev.ior i57_20 ?_
  refine gm_ev.aload_n i57_21 rfl ?_
  refine gm_ev.getfield (v := .int x18) i57_22 rfl (gm_fld_of ho17 f19) ?_
  refine gm_ev.ldc i57_25 rfl ?_
  refine gm_ev.iand i57_27 ?_
  refine gm_ev.callS gm_mono_run (av := [.int (x18 &&& (2097151 : Int32))]) (r := [.int (r4 ||| r12)]) i57_28 rfl rfl rfl (Nat.le_of_ble_eq_true rfl) t21 ?_
  refine gm_ev.ior i57_31 ?_
  exact gm_ev.iret i57_32 rfl
theorem c_X5_asTerm_0_t {N0 : Nat} {K : Nat → Nat} {d : Nat} {M : gm_H} {sz sl : Nat} {q : Nat} {fso1 : List Value} {x2 : Int32} (ho1 : M q = some (.inr (5, fso1))) (f3 : fso1[1]? = some (.int x2)) (c4 : x2 < (8 : Int32)) : gm_ev N0 K ra_nm (ra_mt K) d (some .int) (gm_I cX5_asTerm) (gm_lkf (lkX5 false K)) 0 [some (.ref q), none] [] M sz sl (.returned (some (.int (0 : Int32))), M, sz, sl) := by
  refine gm_ev.aload_n i58_0 rfl ?_
  refine gm_ev.getfield (v := .int x2) i58_1 rfl (gm_fld_of ho1 f3) ?_
  refine gm_ev.bipush (v := 8) i58_4 (by decide) ?_
  refine gm_ev.icmp_lt_t (tgt := 29) i58_6 (by decide) c4 ?_
  refine gm_ev.iconst (v := 0) i58_29 (by decide) ?_
  exact gm_ev.iret i58_30 rfl
theorem c_X5_asTerm_0_ft {N0 : Nat} {K : Nat → Nat} {d : Nat} {M : gm_H} {sz sl : Nat} {q : Nat} {fso1 : List Value} {x2 : Int32} {x5 : Int32} {x7 : Int32} {x9 : Int32} (ho1 : M q = some (.inr (5, fso1))) (f3 : fso1[1]? = some (.int x2)) (c4 : ¬ x2 < (8 : Int32)) (f6 : fso1[2]? = some (.int x5)) (f8 : fso1[3]? = some (.int x7)) (f10 : fso1[4]? = some (.int x9)) (c11 : (((x5 ||| x7) ||| x9) &&& (2097151 : Int32)) = 0) : gm_ev N0 K ra_nm (ra_mt K) d (some .int) (gm_I cX5_asTerm) (gm_lkf (lkX5 false K)) 0 [some (.ref q), none] [] M sz sl (.returned (some (.int ((((((97 : Int32) + ((x2 - (8 : Int32)) / (4 : Int32))) <<< ((21 : Int32) &&& 31)) ||| (((x5).toUInt32 >>> (((7 : Int32)).toUInt32 &&& Int32.toUInt32 31)).toInt32)) ||| (((x7).toUInt32 >>> (((14 : Int32)).toUInt32 &&& Int32.toUInt32 31)).toInt32)) ||| (((x9).toUInt32 >>> (((21 : Int32)).toUInt32 &&& Int32.toUInt32 31)).toInt32)))), M, sz, sl) := by
  refine gm_ev.aload_n i58_0 rfl ?_
  refine gm_ev.getfield (v := .int x2) i58_1 rfl (gm_fld_of ho1 f3) ?_
  refine gm_ev.bipush (v := 8) i58_4 (by decide) ?_
  refine gm_ev.icmp_lt_f i58_6 c4 ?_
  refine gm_ev.aload_n i58_9 rfl ?_
  refine gm_ev.getfield (v := .int x5) i58_10 rfl (gm_fld_of ho1 f6) ?_
  refine gm_ev.aload_n i58_13 rfl ?_
  refine gm_ev.getfield (v := .int x7) i58_14 rfl (gm_fld_of ho1 f8) ?_
  refine gm_ev.ior i58_17 ?_
  refine gm_ev.aload_n i58_18 rfl ?_
  refine gm_ev.getfield (v := .int x9) i58_19 rfl (gm_fld_of ho1 f10) ?_
  refine gm_ev.ior i58_22 ?_
  refine gm_ev.ldc i58_23 rfl ?_
  refine gm_ev.iand i58_25 ?_
  refine gm_ev.if_eq_t (tgt := 31) i58_26 (by decide) c11 ?_
  refine gm_ev.bipush (v := 97) i58_31 (by decide) ?_
  refine gm_ev.aload_n i58_33 rfl ?_
  refine gm_ev.getfield (v := .int x2) i58_34 rfl (gm_fld_of ho1 f3) ?_
  refine gm_ev.bipush (v := 8) i58_37 (by decide) ?_
  refine gm_ev.isub i58_39 ?_
  refine gm_ev.iconst (v := 4) i58_40 (by decide) ?_
  refine gm_ev.idiv i58_41 (by decide) ?_
  refine gm_ev.iadd i58_42 ?_
  refine gm_ev.istore_n (ls' := [some (.ref q), some (.int ((97 : Int32) + ((x2 - (8 : Int32)) / (4 : Int32))))]) i58_43 (Nat.le_of_ble_eq_true rfl) rfl ?_
  refine gm_ev.iload_n i58_44 rfl ?_
  refine gm_ev.bipush (v := 21) i58_45 (by decide) ?_
  refine gm_ev.ishl i58_47 ?_
  refine gm_ev.aload_n i58_48 rfl ?_
  refine gm_ev.getfield (v := .int x5) i58_49 rfl (gm_fld_of ho1 f6) ?_
  refine gm_ev.bipush (v := 7) i58_52 (by decide) ?_
  refine gm_ev.iushr i58_54 ?_
  refine gm_ev.ior i58_55 ?_
  refine gm_ev.aload_n i58_56 rfl ?_
  refine gm_ev.getfield (v := .int x7) i58_57 rfl (gm_fld_of ho1 f8) ?_
  refine gm_ev.bipush (v := 14) i58_60 (by decide) ?_
  refine gm_ev.iushr i58_62 ?_
  refine gm_ev.ior i58_63 ?_
  refine gm_ev.aload_n i58_64 rfl ?_
  refine gm_ev.getfield (v := .int x9) i58_65 rfl (gm_fld_of ho1 f10) ?_
  refine gm_ev.bipush (v := 21) i58_68 (by decide) ?_
  refine gm_ev.iushr i58_70 ?_
  refine gm_ev.ior i58_71 ?_
  exact gm_ev.iret i58_72 rfl
theorem c_X5_asTerm_0_ff {N0 : Nat} {K : Nat → Nat} {d : Nat} {M : gm_H} {sz sl : Nat} {q : Nat} {fso1 : List Value} {x2 : Int32} {x5 : Int32} {x7 : Int32} {x9 : Int32} (ho1 : M q = some (.inr (5, fso1))) (f3 : fso1[1]? = some (.int x2)) (c4 : ¬ x2 < (8 : Int32)) (f6 : fso1[2]? = some (.int x5)) (f8 : fso1[3]? = some (.int x7)) (f10 : fso1[4]? = some (.int x9)) (c11 : ¬ (((x5 ||| x7) ||| x9) &&& (2097151 : Int32)) = 0) : gm_ev N0 K ra_nm (ra_mt K) d (some .int) (gm_I cX5_asTerm) (gm_lkf (lkX5 false K)) 0 [some (.ref q), none] [] M sz sl (.returned (some (.int (0 : Int32))), M, sz, sl) := by
  refine gm_ev.aload_n i58_0 rfl ?_
  refine gm_ev.getfield (v := .int x2) i58_1 rfl (gm_fld_of ho1 f3) ?_
  refine gm_ev.bipush (v := 8) i58_4 (by decide) ?_
  refine gm_ev.icmp_lt_f i58_6 c4 ?_
  refine gm_ev.aload_n i58_9 rfl ?_
  refine gm_ev.getfield (v := .int x5) i58_10 rfl (gm_fld_of ho1 f6) ?_
  refine gm_ev.aload_n i58_13 rfl ?_
  refine gm_ev.getfield (v := .int x7) i58_14 rfl (gm_fld_of ho1 f8) ?_
  refine gm_ev.ior i58_17 ?_
  refine gm_ev.aload_n i58_18 rfl ?_
  refine gm_ev.getfield (v := .int x9) i58_19 rfl (gm_fld_of ho1 f10) ?_
  refine gm_ev.ior i58_22 ?_
  refine gm_ev.ldc i58_23 rfl ?_
  refine gm_ev.iand i58_25 ?_
  refine gm_ev.if_eq_f i58_26 c11 ?_
  refine gm_ev.iconst (v := 0) i58_29 (by decide) ?_
  exact gm_ev.iret i58_30 rfl
theorem c_X5_plan_0_ {N0 : Nat} {K : Nat → Nat} {d : Nat} {M : gm_H} {sz sl : Nat} {q : Nat} {p0 : Int32} {fso1 : List Value} {x2 : Int32} {r4 : Int32} {M6 : gm_H} {sz7 : Nat} {dd8 : Nat} {fso9 : List Value} {x10 : Int32} {r12 : Int32} {M14 : gm_H} {sz15 : Nat} {dd16 : Nat} {fso17 : List Value} {x18 : Int32} {r20 : Int32} {M22 : gm_H} {sz23 : Nat} {dd24 : Nat} {fso25 : List Value} {x29 : Int32} {r31 : Int32} {M33 : gm_H} {sz34 : Nat} {dd35 : Nat} {fso36 : List Value} {x40 : Int32} {r42 : Int32} {M44 : gm_H} {sz45 : Nat} {dd46 : Nat} {fso47 : List Value} (ho1 : M q = some (.inr (5, fso1))) (f3 : fso1[2]? = some (.int x2)) (t5 : gm_to N0 K ra_nm (ra_mt K) d 91 [.int x2] M sz (.returned (some (.int r4)), M6, sz7, dd8)) (ho9 : M6 q = some (.inr (5, fso9))) (f11 : fso9[3]? = some (.int x10)) (t13 : gm_to N0 K ra_nm (ra_mt K) d 91 [.int x10] M6 sz7 (.returned (some (.int r12)), M14, sz15, dd16)) (ho17 : M14 q = some (.inr (5, fso17))) (f19 : fso17[2]? = some (.int x18)) (t21 : gm_to N0 K ra_nm (ra_mt K) d 92 [.int x18, .int p0] M14 sz15 (.returned (some (.int r20)), M22, sz23, dd24)) (ho25 : M22 q = some (.inr (5, fso25))) (hNq : N0 ≤ q) (l26 : 2 < fso25.length) (f30 : (fso25.set 2 (.int r20))[3]? = some (.int x29)) (t32 : gm_to N0 K ra_nm (ra_mt K) d 92 [.int x29, .int (p0 &&& (r4 ^^^ (-1 : Int32)))] (gm_set M22 q (.inr (5, (fso25.set 2 (.int r20))))) sz23 (.returned (some (.int r31)), M33, sz34, dd35)) (ho36 : M33 q = some (.inr (5, fso36))) (l37 : 3 < fso36.length) (f41 : (fso36.set 3 (.int r31))[4]? = some (.int x40)) (t43 : gm_to N0 K ra_nm (ra_mt K) d 92 [.int x40, .int ((p0 &&& (r4 ^^^ (-1 : Int32))) &&& (r12 ^^^ (-1 : Int32)))] (gm_set M33 q (.inr (5, (fso36.set 3 (.int r31))))) sz34 (.returned (some (.int r42)), M44, sz45, dd46)) (ho47 : M44 q = some (.inr (5, fso47))) (l48 : 4 < fso47.length) : gm_ev N0 K ra_nm (ra_mt K) d none (gm_I cX5_plan) (gm_lkf (lkX5 false K)) 0 [some (.ref q), some (.int p0), none, none] [] M sz sl (.returned none, (gm_set M44 q (.inr (5, (fso47.set 4 (.int r42))))), sz45, (((((sl + dd8) + dd16) + dd24) + dd35) + dd46)) := by
  refine gm_ev.iload_n i59_0 rfl ?_
  refine gm_ev.aload_n i59_1 rfl ?_
  refine gm_ev.getfield (v := .int x2) i59_2 rfl (gm_fld_of ho1 f3) ?_
  refine gm_ev.callS gm_mono_run (av := [.int x2]) (r := [.int p0]) i59_5 rfl rfl rfl (Nat.le_of_ble_eq_true rfl) t5 ?_
  refine gm_ev.iconst (v := -1) i59_8 (by decide) ?_
  refine gm_ev.ixor i59_9 ?_
  refine gm_ev.iand i59_10 ?_
  refine gm_ev.istore_n (ls' := [some (.ref q), some (.int p0), some (.int (p0 &&& (r4 ^^^ (-1 : Int32)))), none]) i59_11 (Nat.le_of_ble_eq_true rfl) rfl ?_
  refine gm_ev.iload_n i59_12 rfl ?_
  refine gm_ev.aload_n i59_13 rfl ?_
  refine gm_ev.getfield (v := .int x10) i59_14 rfl (gm_fld_of ho9 f11) ?_
  refine gm_ev.callS gm_mono_run (av := [.int x10]) (r := [.int (p0 &&& (r4 ^^^ (-1 : Int32)))]) i59_17 rfl rfl rfl (Nat.le_of_ble_eq_true rfl) t13 ?_
  refine gm_ev.iconst (v := -1) i59_20 (by decide) ?_
  refine gm_ev.ixor i59_21 ?_
  refine gm_ev.iand i59_22 ?_
  refine gm_ev.istore_n (ls' := [some (.ref q), some (.int p0), some (.int (p0 &&& (r4 ^^^ (-1 : Int32)))), some (.int ((p0 &&& (r4 ^^^ (-1 : Int32))) &&& (r12 ^^^ (-1 : Int32))))]) i59_23 (Nat.le_of_ble_eq_true rfl) rfl ?_
  refine gm_ev.aload_n i59_24 rfl ?_
  refine gm_ev.aload_n i59_25 rfl ?_
  refine gm_ev.getfield (v := .int x18) i59_26 rfl (gm_fld_of ho17 f19) ?_
  refine gm_ev.iload_n i59_29 rfl ?_
  refine gm_ev.callS gm_mono_run (av := [.int x18, .int p0]) (r := [.ref q]) i59_30 rfl rfl rfl (Nat.le_of_ble_eq_true rfl) t21 ?_
  refine gm_ev.putfield (M' := (gm_set M22 q (.inr (5, (fso25.set 2 (.int r20)))))) i59_33 rfl (gm_put_of ho25 l26 hNq (gm_fit_i _)) ?_
  have g27 : (fso25.set 2 (.int r20))[2]? = some (.int r20) := gm_fs_eq l26
  have w28 : (gm_set M22 q (.inr (5, (fso25.set 2 (.int r20))))) q = some (.inr (5, (fso25.set 2 (.int r20)))) := gm_set_eq
  refine gm_ev.aload_n i59_36 rfl ?_
  refine gm_ev.aload_n i59_37 rfl ?_
  refine gm_ev.getfield (v := .int x29) i59_38 rfl (gm_fld_of w28 f30) ?_
  refine gm_ev.iload_n i59_41 rfl ?_
  refine gm_ev.callS gm_mono_run (av := [.int x29, .int (p0 &&& (r4 ^^^ (-1 : Int32)))]) (r := [.ref q]) i59_42 rfl rfl rfl (Nat.le_of_ble_eq_true rfl) t32 ?_
  refine gm_ev.putfield (M' := (gm_set M33 q (.inr (5, (fso36.set 3 (.int r31)))))) i59_45 rfl (gm_put_of ho36 l37 hNq (gm_fit_i _)) ?_
  have g38 : (fso36.set 3 (.int r31))[3]? = some (.int r31) := gm_fs_eq l37
  have w39 : (gm_set M33 q (.inr (5, (fso36.set 3 (.int r31))))) q = some (.inr (5, (fso36.set 3 (.int r31)))) := gm_set_eq
  refine gm_ev.aload_n i59_48 rfl ?_
  refine gm_ev.aload_n i59_49 rfl ?_
  refine gm_ev.getfield (v := .int x40) i59_50 rfl (gm_fld_of w39 f41) ?_
  refine gm_ev.iload_n i59_53 rfl ?_
  refine gm_ev.callS gm_mono_run (av := [.int x40, .int ((p0 &&& (r4 ^^^ (-1 : Int32))) &&& (r12 ^^^ (-1 : Int32)))]) (r := [.ref q]) i59_54 rfl rfl rfl (Nat.le_of_ble_eq_true rfl) t43 ?_
  refine gm_ev.putfield (M' := (gm_set M44 q (.inr (5, (fso47.set 4 (.int r42)))))) i59_57 rfl (gm_put_of ho47 l48 hNq (gm_fit_i _)) ?_
  have g49 : (fso47.set 4 (.int r42))[4]? = some (.int r42) := gm_fs_eq l48
  have w50 : (gm_set M44 q (.inr (5, (fso47.set 4 (.int r42))))) q = some (.inr (5, (fso47.set 4 (.int r42)))) := gm_set_eq
  exact gm_ev.vret i59_60 rfl
theorem c_X7_init_0_ {N0 : Nat} {K : Nat → Nat} {d : Nat} {M : gm_H} {sz sl : Nat} {q : Nat} {p0 : Nat} {fso6 : List Value} (hd : 0 < d) (bd2 : gm_bd M sz) (ho6 : (gm_new M sz (.inl (.object "RuleArena$Literal", 5, .inr (.inr (.inr (.inr (fun _ => none))))))) q = some (.inr (7, fso6))) (hNq : N0 ≤ q) (l7 : 1 < fso6.length) (l12 : 0 < (fso6.set 1 (.ref sz)).length) : gm_ev N0 K ra_nm (ra_mt K) d none (gm_I cX7_init) (gm_lkf (lkX7 true K)) 0 [some (.ref q), some (.ref p0)] [] M sz sl (.returned none, (gm_set (gm_set (gm_new M sz (.inl (.object "RuleArena$Literal", 5, .inr (.inr (.inr (.inr (fun _ => none))))))) q (.inr (7, (fso6.set 1 (.ref sz))))) q (.inr (7, ((fso6.set 1 (.ref sz)).set 0 (.ref p0))))), (sz + 1), (sl + 5)) := by
  refine gm_ev.aload_n i70_0 rfl ?_
  refine gm_ev.callI gm_mono_run (av := []) (r := []) i70_1 rfl rfl rfl (Nat.le_of_ble_eq_true rfl) (gm_to_obj hd _) ?_
  refine gm_ev.aload_n i70_4 rfl ?_
  refine gm_ev.iconst (v := 5) i70_5 (by decide) ?_
  refine gm_ev.anewarray (n := 5) i70_6 rfl (by decide) (by decide) ?_
  have w3 : (gm_new M sz (.inl (.object "RuleArena$Literal", 5, .inr (.inr (.inr (.inr (fun _ => none))))))) sz = some (.inl (.object "RuleArena$Literal", 5, .inr (.inr (.inr (.inr (fun _ => none)))))) := gm_set_eq
  have b5 : 5 < 2 ^ 31 := by decide
  have bd4 : gm_bd (gm_new M sz (.inl (.object "RuleArena$Literal", 5, .inr (.inr (.inr (.inr (fun _ => none))))))) (sz + 1) := gm_bd.new bd2
  refine gm_ev.putfield (M' := (gm_set (gm_new M sz (.inl (.object "RuleArena$Literal", 5, .inr (.inr (.inr (.inr (fun _ => none))))))) q (.inr (7, (fso6.set 1 (.ref sz)))))) i70_9 rfl (gm_put_of ho6 l7 hNq (gm_fit_a _ _)) ?_
  have g8 : (fso6.set 1 (.ref sz))[1]? = some (.ref sz) := gm_fs_eq l7
  have bd9 : gm_bd (gm_set (gm_new M sz (.inl (.object "RuleArena$Literal", 5, .inr (.inr (.inr (.inr (fun _ => none))))))) q (.inr (7, (fso6.set 1 (.ref sz))))) (sz + 1) := gm_bd.set bd4 ho6
  have w10 : (gm_set (gm_new M sz (.inl (.object "RuleArena$Literal", 5, .inr (.inr (.inr (.inr (fun _ => none))))))) q (.inr (7, (fso6.set 1 (.ref sz))))) q = some (.inr (7, (fso6.set 1 (.ref sz)))) := gm_set_eq
  have w11 : (gm_set (gm_new M sz (.inl (.object "RuleArena$Literal", 5, .inr (.inr (.inr (.inr (fun _ => none))))))) q (.inr (7, (fso6.set 1 (.ref sz))))) sz = some (.inl (.object "RuleArena$Literal", 5, .inr (.inr (.inr (.inr (fun _ => none)))))) := (gm_set_ne ((gm_ne_oa ho6 w3).symm)).trans w3
  refine gm_ev.aload_n i70_12 rfl ?_
  refine gm_ev.aload_n i70_13 rfl ?_
  refine gm_ev.putfield (M' := (gm_set (gm_set (gm_new M sz (.inl (.object "RuleArena$Literal", 5, .inr (.inr (.inr (.inr (fun _ => none))))))) q (.inr (7, (fso6.set 1 (.ref sz))))) q (.inr (7, ((fso6.set 1 (.ref sz)).set 0 (.ref p0)))))) i70_14 rfl (gm_put_of w10 l12 hNq (gm_fit_l _ _)) ?_
  have g13 : ((fso6.set 1 (.ref sz)).set 0 (.ref p0))[1]? = some (.ref sz) := (gm_fs_ne (by decide)).trans g8
  have g14 : ((fso6.set 1 (.ref sz)).set 0 (.ref p0))[0]? = some (.ref p0) := gm_fs_eq l12
  have bd15 : gm_bd (gm_set (gm_set (gm_new M sz (.inl (.object "RuleArena$Literal", 5, .inr (.inr (.inr (.inr (fun _ => none))))))) q (.inr (7, (fso6.set 1 (.ref sz))))) q (.inr (7, ((fso6.set 1 (.ref sz)).set 0 (.ref p0))))) (sz + 1) := gm_bd.set bd9 w10
  have w16 : (gm_set (gm_set (gm_new M sz (.inl (.object "RuleArena$Literal", 5, .inr (.inr (.inr (.inr (fun _ => none))))))) q (.inr (7, (fso6.set 1 (.ref sz))))) q (.inr (7, ((fso6.set 1 (.ref sz)).set 0 (.ref p0))))) q = some (.inr (7, ((fso6.set 1 (.ref sz)).set 0 (.ref p0)))) := gm_set_eq
  have w17 : (gm_set (gm_set (gm_new M sz (.inl (.object "RuleArena$Literal", 5, .inr (.inr (.inr (.inr (fun _ => none))))))) q (.inr (7, (fso6.set 1 (.ref sz))))) q (.inr (7, ((fso6.set 1 (.ref sz)).set 0 (.ref p0))))) sz = some (.inl (.object "RuleArena$Literal", 5, .inr (.inr (.inr (.inr (fun _ => none)))))) := (gm_set_ne ((gm_ne_oa w10 w11).symm)).trans w11
  exact gm_ev.vret i70_17 rfl
theorem c_X7_append_0_t {N0 : Nat} {K : Nat → Nat} {d : Nat} {M : gm_H} {sz sl : Nat} {q : Nat} {p0 : Nat} {fso1 : List Value} {x2 : Int32} (ho1 : M q = some (.inr (7, fso1))) (f3 : fso1[2]? = some (.int x2)) (c4 : (5 : Int32) ≤ x2) : gm_ev N0 K ra_nm (ra_mt K) d none (gm_I cX7_append) (gm_lkf (lkX7 false K)) 0 [some (.ref q), some (.ref p0)] [] M sz sl (.returned none, M, sz, sl) := by
  refine gm_ev.aload_n i71_0 rfl ?_
  refine gm_ev.getfield (v := .int x2) i71_1 rfl (gm_fld_of ho1 f3) ?_
  refine gm_ev.iconst (v := 5) i71_4 (by decide) ?_
  refine gm_ev.icmp_ge_t (tgt := 28) i71_5 (by decide) c4 ?_
  exact gm_ev.vret i71_28 rfl
theorem c_X7_append_0_f {N0 : Nat} {K : Nat → Nat} {d : Nat} {M : gm_H} {sz sl : Nat} {q : Nat} {p0 : Nat} {fso1 : List Value} {x2 : Int32} {r5 : Nat} {na7 : Nat} {fa7 : Nat → Option Nat} {k8 : Nat} {fso9 : List Value} (ho1 : M q = some (.inr (7, fso1))) (f3 : fso1[2]? = some (.int x2)) (c4 : ¬ (5 : Int32) ≤ x2) (f6 : fso1[1]? = some (.ref r5)) (ha7 : M r5 = some (.inl (.object "RuleArena$Literal", na7, .inr (.inr (.inr (.inr fa7)))))) (ba7 : na7 < 2 ^ 31) (hNr5 : N0 ≤ r5) (ek8 : x2 = nI k8) (lk8 : k8 < na7) (ho9 : M p0 = some (.inr (5, fso9))) (hNq : N0 ≤ q) : gm_ev N0 K ra_nm (ra_mt K) d none (gm_I cX7_append) (gm_lkf (lkX7 false K)) 0 [some (.ref q), some (.ref p0)] [] M sz sl (.returned none, (gm_set (gm_set M r5 (.inl (.object "RuleArena$Literal", na7, .inr (.inr (.inr (.inr (va_up fa7 k8 (some p0)))))))) q (.inr (7, (fso1.set 2 (.int (x2 + (1 : Int32))))))), sz, sl) := by
  refine gm_ev.aload_n i71_0 rfl ?_
  refine gm_ev.getfield (v := .int x2) i71_1 rfl (gm_fld_of ho1 f3) ?_
  refine gm_ev.iconst (v := 5) i71_4 (by decide) ?_
  refine gm_ev.icmp_ge_f i71_5 c4 ?_
  refine gm_ev.aload_n i71_8 rfl ?_
  refine gm_ev.getfield (v := .ref r5) i71_9 rfl (gm_fld_of ho1 f6) ?_
  refine gm_ev.aload_n i71_12 rfl ?_
  refine gm_ev.getfield (v := .int x2) i71_13 rfl (gm_fld_of ho1 f3) ?_
  refine gm_ev.aload_n i71_16 rfl ?_
  refine gm_ev.aastore (M' := (gm_set M r5 (.inl (.object "RuleArena$Literal", na7, .inr (.inr (.inr (.inr (va_up fa7 k8 (some p0))))))))) i71_17 (gm_astq_of ha7 ek8 lk8 ba7 hNr5 ho9 rfl) ?_
  have w10 : (gm_set M r5 (.inl (.object "RuleArena$Literal", na7, .inr (.inr (.inr (.inr (va_up fa7 k8 (some p0)))))))) q = some (.inr (7, fso1)) := (gm_set_ne (gm_ne_oa ho1 ha7)).trans ho1
  have w11 : (gm_set M r5 (.inl (.object "RuleArena$Literal", na7, .inr (.inr (.inr (.inr (va_up fa7 k8 (some p0)))))))) p0 = some (.inr (5, fso9)) := (gm_set_ne (gm_ne_oa ho9 ha7)).trans ho9
  have w12 : (gm_set M r5 (.inl (.object "RuleArena$Literal", na7, .inr (.inr (.inr (.inr (va_up fa7 k8 (some p0)))))))) r5 = some (.inl (.object "RuleArena$Literal", na7, .inr (.inr (.inr (.inr (va_up fa7 k8 (some p0))))))) := gm_set_eq
  refine gm_ev.aload_n i71_18 rfl ?_
  refine gm_ev.dup i71_19 rfl ?_
  refine gm_ev.getfield (v := .int x2) i71_20 rfl (gm_fld_of w10 f3) ?_
  refine gm_ev.iconst (v := 1) i71_23 (by decide) ?_
  refine gm_ev.iadd i71_24 ?_
  refine gm_ev.putfield (M' := (gm_set (gm_set M r5 (.inl (.object "RuleArena$Literal", na7, .inr (.inr (.inr (.inr (va_up fa7 k8 (some p0)))))))) q (.inr (7, (fso1.set 2 (.int (x2 + (1 : Int32)))))))) i71_25 rfl (gm_put_of w10 (gm_lt f3) hNq (gm_fit_i _)) ?_
  have g13 : (fso1.set 2 (.int (x2 + (1 : Int32))))[1]? = some (.ref r5) := (gm_fs_ne (by decide)).trans f6
  have g14 : (fso1.set 2 (.int (x2 + (1 : Int32))))[2]? = some (.int (x2 + (1 : Int32))) := gm_fs_eq (gm_lt f3)
  have w15 : (gm_set (gm_set M r5 (.inl (.object "RuleArena$Literal", na7, .inr (.inr (.inr (.inr (va_up fa7 k8 (some p0)))))))) q (.inr (7, (fso1.set 2 (.int (x2 + (1 : Int32))))))) q = some (.inr (7, (fso1.set 2 (.int (x2 + (1 : Int32)))))) := gm_set_eq
  have w16 : (gm_set (gm_set M r5 (.inl (.object "RuleArena$Literal", na7, .inr (.inr (.inr (.inr (va_up fa7 k8 (some p0)))))))) q (.inr (7, (fso1.set 2 (.int (x2 + (1 : Int32))))))) p0 = some (.inr (5, fso9)) := (gm_set_ne (gm_ne_oo w11 w10 (by decide))).trans w11
  have w17 : (gm_set (gm_set M r5 (.inl (.object "RuleArena$Literal", na7, .inr (.inr (.inr (.inr (va_up fa7 k8 (some p0)))))))) q (.inr (7, (fso1.set 2 (.int (x2 + (1 : Int32))))))) r5 = some (.inl (.object "RuleArena$Literal", na7, .inr (.inr (.inr (.inr (va_up fa7 k8 (some p0))))))) := (gm_set_ne ((gm_ne_oa w10 w12).symm)).trans w12
  exact gm_ev.vret i71_28 rfl
theorem c_X7_isMisplaced_0__at2 {N0 : Nat} {K : Nat → Nat} {d : Nat} {M : gm_H} {sz sl : Nat} {R : gm_R} {q : Nat}  (k : gm_ev N0 K ra_nm (ra_mt K) d (some .boolean) (gm_I cX7_isMisplaced) (gm_lkf (lkX7 false K)) 2 [some (.ref q), some (.int (0 : Int32))] [] M sz sl R) : gm_ev N0 K ra_nm (ra_mt K) d (some .boolean) (gm_I cX7_isMisplaced) (gm_lkf (lkX7 false K)) 0 [some (.ref q), none] [] M sz sl R := by
  refine gm_ev.iconst (v := 0) i72_0 (by decide) ?_
  refine gm_ev.istore_n (ls' := [some (.ref q), some (.int (0 : Int32))]) i72_1 (Nat.le_of_ble_eq_true rfl) rfl ?_
  exact k
theorem c_X7_isMisplaced_2_ttt {N0 : Nat} {K : Nat → Nat} {d : Nat} {M : gm_H} {sz sl : Nat} {q : Nat} {u1 : Int32} {fso1 : List Value} {x2 : Int32} {r5 : Nat} {fso7 : List Value} {x8 : Int32} (ho1 : M q = some (.inr (7, fso1))) (f3 : fso1[2]? = some (.int x2)) (c4 : x2 ≤ u1) (f6 : fso1[0]? = some (.ref r5)) (ho7 : M r5 = some (.inr (5, fso7))) (f9 : fso7[1]? = some (.int x8)) (c10 : ¬ x8 = 0) (c11 : x8 = (2 : Int32)) : gm_ev N0 K ra_nm (ra_mt K) d (some .boolean) (gm_I cX7_isMisplaced) (gm_lkf (lkX7 false K)) 2 [some (.ref q), some (.int u1)] [] M sz sl (.returned (some (.int (1 : Int32))), M, sz, sl) := by
  refine gm_ev.iload_n i72_2 rfl ?_
  refine gm_ev.aload_n i72_3 rfl ?_
  refine gm_ev.getfield (v := .int x2) i72_4 rfl (gm_fld_of ho1 f3) ?_
  refine gm_ev.icmp_ge_t (tgt := 44) i72_7 (by decide) c4 ?_
  refine gm_ev.aload_n i72_44 rfl ?_
  refine gm_ev.getfield (v := .ref r5) i72_45 rfl (gm_fld_of ho1 f6) ?_
  refine gm_ev.getfield (v := .int x8) i72_48 rfl (gm_fld_of ho7 f9) ?_
  refine gm_ev.if_ne_t (tgt := 77) i72_51 (by decide) c10 ?_
  refine gm_ev.aload_n i72_77 rfl ?_
  refine gm_ev.getfield (v := .ref r5) i72_78 rfl (gm_fld_of ho1 f6) ?_
  refine gm_ev.getfield (v := .int x8) i72_81 rfl (gm_fld_of ho7 f9) ?_
  refine gm_ev.iconst (v := 2) i72_84 (by decide) ?_
  refine gm_ev.icmp_eq_t (tgt := 99) i72_85 (by decide) c11 ?_
  refine gm_ev.iconst (v := 1) i72_99 (by decide) ?_
  refine gm_ev.goto (tgt := 104) i72_100 (by decide) ?_
  exact gm_ev.zret i72_104 rfl (by decide)
theorem c_X7_isMisplaced_2_ttft {N0 : Nat} {K : Nat → Nat} {d : Nat} {M : gm_H} {sz sl : Nat} {q : Nat} {u1 : Int32} {fso1 : List Value} {x2 : Int32} {r5 : Nat} {fso7 : List Value} {x8 : Int32} (ho1 : M q = some (.inr (7, fso1))) (f3 : fso1[2]? = some (.int x2)) (c4 : x2 ≤ u1) (f6 : fso1[0]? = some (.ref r5)) (ho7 : M r5 = some (.inr (5, fso7))) (f9 : fso7[1]? = some (.int x8)) (c10 : ¬ x8 = 0) (c11 : ¬ x8 = (2 : Int32)) (c12 : ¬ x8 = (4 : Int32)) : gm_ev N0 K ra_nm (ra_mt K) d (some .boolean) (gm_I cX7_isMisplaced) (gm_lkf (lkX7 false K)) 2 [some (.ref q), some (.int u1)] [] M sz sl (.returned (some (.int (0 : Int32))), M, sz, sl) := by
  refine gm_ev.iload_n i72_2 rfl ?_
  refine gm_ev.aload_n i72_3 rfl ?_
  refine gm_ev.getfield (v := .int x2) i72_4 rfl (gm_fld_of ho1 f3) ?_
  refine gm_ev.icmp_ge_t (tgt := 44) i72_7 (by decide) c4 ?_
  refine gm_ev.aload_n i72_44 rfl ?_
  refine gm_ev.getfield (v := .ref r5) i72_45 rfl (gm_fld_of ho1 f6) ?_
  refine gm_ev.getfield (v := .int x8) i72_48 rfl (gm_fld_of ho7 f9) ?_
  refine gm_ev.if_ne_t (tgt := 77) i72_51 (by decide) c10 ?_
  refine gm_ev.aload_n i72_77 rfl ?_
  refine gm_ev.getfield (v := .ref r5) i72_78 rfl (gm_fld_of ho1 f6) ?_
  refine gm_ev.getfield (v := .int x8) i72_81 rfl (gm_fld_of ho7 f9) ?_
  refine gm_ev.iconst (v := 2) i72_84 (by decide) ?_
  refine gm_ev.icmp_eq_f i72_85 c11 ?_
  refine gm_ev.aload_n i72_88 rfl ?_
  refine gm_ev.getfield (v := .ref r5) i72_89 rfl (gm_fld_of ho1 f6) ?_
  refine gm_ev.getfield (v := .int x8) i72_92 rfl (gm_fld_of ho7 f9) ?_
  refine gm_ev.iconst (v := 4) i72_95 (by decide) ?_
  refine gm_ev.icmp_ne_t (tgt := 103) i72_96 (by decide) c12 ?_
  refine gm_ev.iconst (v := 0) i72_103 (by decide) ?_
  exact gm_ev.zret i72_104 rfl (by decide)
theorem c_X7_isMisplaced_2_ttff {N0 : Nat} {K : Nat → Nat} {d : Nat} {M : gm_H} {sz sl : Nat} {q : Nat} {u1 : Int32} {fso1 : List Value} {x2 : Int32} {r5 : Nat} {fso7 : List Value} {x8 : Int32} (ho1 : M q = some (.inr (7, fso1))) (f3 : fso1[2]? = some (.int x2)) (c4 : x2 ≤ u1) (f6 : fso1[0]? = some (.ref r5)) (ho7 : M r5 = some (.inr (5, fso7))) (f9 : fso7[1]? = some (.int x8)) (c10 : ¬ x8 = 0) (c11 : ¬ x8 = (2 : Int32)) (c12 : x8 = (4 : Int32)) : gm_ev N0 K ra_nm (ra_mt K) d (some .boolean) (gm_I cX7_isMisplaced) (gm_lkf (lkX7 false K)) 2 [some (.ref q), some (.int u1)] [] M sz sl (.returned (some (.int (1 : Int32))), M, sz, sl) := by
  refine gm_ev.iload_n i72_2 rfl ?_
  refine gm_ev.aload_n i72_3 rfl ?_
  refine gm_ev.getfield (v := .int x2) i72_4 rfl (gm_fld_of ho1 f3) ?_
  refine gm_ev.icmp_ge_t (tgt := 44) i72_7 (by decide) c4 ?_
  refine gm_ev.aload_n i72_44 rfl ?_
  refine gm_ev.getfield (v := .ref r5) i72_45 rfl (gm_fld_of ho1 f6) ?_
  refine gm_ev.getfield (v := .int x8) i72_48 rfl (gm_fld_of ho7 f9) ?_
  refine gm_ev.if_ne_t (tgt := 77) i72_51 (by decide) c10 ?_
  refine gm_ev.aload_n i72_77 rfl ?_
  refine gm_ev.getfield (v := .ref r5) i72_78 rfl (gm_fld_of ho1 f6) ?_
  refine gm_ev.getfield (v := .int x8) i72_81 rfl (gm_fld_of ho7 f9) ?_
  refine gm_ev.iconst (v := 2) i72_84 (by decide) ?_
  refine gm_ev.icmp_eq_f i72_85 c11 ?_
  refine gm_ev.aload_n i72_88 rfl ?_
  refine gm_ev.getfield (v := .ref r5) i72_89 rfl (gm_fld_of ho1 f6) ?_
  refine gm_ev.getfield (v := .int x8) i72_92 rfl (gm_fld_of ho7 f9) ?_
  refine gm_ev.iconst (v := 4) i72_95 (by decide) ?_
  refine gm_ev.icmp_ne_f i72_96 c12 ?_
  refine gm_ev.iconst (v := 1) i72_99 (by decide) ?_
  refine gm_ev.goto (tgt := 104) i72_100 (by decide) ?_
  exact gm_ev.zret i72_104 rfl (by decide)
theorem c_X7_isMisplaced_2_tft {N0 : Nat} {K : Nat → Nat} {d : Nat} {M : gm_H} {sz sl : Nat} {q : Nat} {u1 : Int32} {fso1 : List Value} {x2 : Int32} {r5 : Nat} {fso7 : List Value} {x8 : Int32} (ho1 : M q = some (.inr (7, fso1))) (f3 : fso1[2]? = some (.int x2)) (c4 : x2 ≤ u1) (f6 : fso1[0]? = some (.ref r5)) (ho7 : M r5 = some (.inr (5, fso7))) (f9 : fso7[1]? = some (.int x8)) (c10 : x8 = 0) (c11 : 0 < x2) : gm_ev N0 K ra_nm (ra_mt K) d (some .boolean) (gm_I cX7_isMisplaced) (gm_lkf (lkX7 false K)) 2 [some (.ref q), some (.int u1)] [] M sz sl (.returned (some (.int (1 : Int32))), M, sz, sl) := by
  refine gm_ev.iload_n i72_2 rfl ?_
  refine gm_ev.aload_n i72_3 rfl ?_
  refine gm_ev.getfield (v := .int x2) i72_4 rfl (gm_fld_of ho1 f3) ?_
  refine gm_ev.icmp_ge_t (tgt := 44) i72_7 (by decide) c4 ?_
  refine gm_ev.aload_n i72_44 rfl ?_
  refine gm_ev.getfield (v := .ref r5) i72_45 rfl (gm_fld_of ho1 f6) ?_
  refine gm_ev.getfield (v := .int x8) i72_48 rfl (gm_fld_of ho7 f9) ?_
  refine gm_ev.if_ne_f i72_51 c10 ?_
  refine gm_ev.aload_n i72_54 rfl ?_
  refine gm_ev.getfield (v := .int x2) i72_55 rfl (gm_fld_of ho1 f3) ?_
  refine gm_ev.if_gt_t (tgt := 71) i72_58 (by decide) c11 ?_
  refine gm_ev.iconst (v := 1) i72_71 (by decide) ?_
  refine gm_ev.goto (tgt := 76) i72_72 (by decide) ?_
  exact gm_ev.zret i72_76 rfl (by decide)
theorem c_X7_isMisplaced_2_tfft {N0 : Nat} {K : Nat → Nat} {d : Nat} {M : gm_H} {sz sl : Nat} {q : Nat} {u1 : Int32} {fso1 : List Value} {x2 : Int32} {r5 : Nat} {fso7 : List Value} {x8 : Int32} {r12 : Int32} {M14 : gm_H} {sz15 : Nat} {dd16 : Nat} (ho1 : M q = some (.inr (7, fso1))) (f3 : fso1[2]? = some (.int x2)) (c4 : x2 ≤ u1) (f6 : fso1[0]? = some (.ref r5)) (ho7 : M r5 = some (.inr (5, fso7))) (f9 : fso7[1]? = some (.int x8)) (c10 : x8 = 0) (c11 : ¬ 0 < x2) (t13 : gm_to N0 K ra_nm (ra_mt K) d 56 [.ref r5] M sz (.returned (some (.int r12)), M14, sz15, dd16)) (c17 : r12 = 0) : gm_ev N0 K ra_nm (ra_mt K) d (some .boolean) (gm_I cX7_isMisplaced) (gm_lkf (lkX7 false K)) 2 [some (.ref q), some (.int u1)] [] M sz sl (.returned (some (.int (0 : Int32))), M14, sz15, (sl + dd16)) := by
  refine gm_ev.iload_n i72_2 rfl ?_
  refine gm_ev.aload_n i72_3 rfl ?_
  refine gm_ev.getfield (v := .int x2) i72_4 rfl (gm_fld_of ho1 f3) ?_
  refine gm_ev.icmp_ge_t (tgt := 44) i72_7 (by decide) c4 ?_
  refine gm_ev.aload_n i72_44 rfl ?_
  refine gm_ev.getfield (v := .ref r5) i72_45 rfl (gm_fld_of ho1 f6) ?_
  refine gm_ev.getfield (v := .int x8) i72_48 rfl (gm_fld_of ho7 f9) ?_
  refine gm_ev.if_ne_f i72_51 c10 ?_
  refine gm_ev.aload_n i72_54 rfl ?_
  refine gm_ev.getfield (v := .int x2) i72_55 rfl (gm_fld_of ho1 f3) ?_
  refine gm_ev.if_gt_f i72_58 c11 ?_
  refine gm_ev.aload_n i72_61 rfl ?_
  refine gm_ev.getfield (v := .ref r5) i72_62 rfl (gm_fld_of ho1 f6) ?_
  refine gm_ev.callV gm_mono_run (av := []) (r := []) (fs := fso7) ho7 i72_65 rfl rfl rfl (Nat.le_of_ble_eq_true rfl) t13 ?_
  refine gm_ev.if_eq_t (tgt := 75) i72_68 (by decide) c17 ?_
  refine gm_ev.iconst (v := 0) i72_75 (by decide) ?_
  exact gm_ev.zret i72_76 rfl (by decide)
theorem c_X7_isMisplaced_2_tfff {N0 : Nat} {K : Nat → Nat} {d : Nat} {M : gm_H} {sz sl : Nat} {q : Nat} {u1 : Int32} {fso1 : List Value} {x2 : Int32} {r5 : Nat} {fso7 : List Value} {x8 : Int32} {r12 : Int32} {M14 : gm_H} {sz15 : Nat} {dd16 : Nat} (ho1 : M q = some (.inr (7, fso1))) (f3 : fso1[2]? = some (.int x2)) (c4 : x2 ≤ u1) (f6 : fso1[0]? = some (.ref r5)) (ho7 : M r5 = some (.inr (5, fso7))) (f9 : fso7[1]? = some (.int x8)) (c10 : x8 = 0) (c11 : ¬ 0 < x2) (t13 : gm_to N0 K ra_nm (ra_mt K) d 56 [.ref r5] M sz (.returned (some (.int r12)), M14, sz15, dd16)) (c17 : ¬ r12 = 0) : gm_ev N0 K ra_nm (ra_mt K) d (some .boolean) (gm_I cX7_isMisplaced) (gm_lkf (lkX7 false K)) 2 [some (.ref q), some (.int u1)] [] M sz sl (.returned (some (.int (1 : Int32))), M14, sz15, (sl + dd16)) := by
  refine gm_ev.iload_n i72_2 rfl ?_
  refine gm_ev.aload_n i72_3 rfl ?_
  refine gm_ev.getfield (v := .int x2) i72_4 rfl (gm_fld_of ho1 f3) ?_
  refine gm_ev.icmp_ge_t (tgt := 44) i72_7 (by decide) c4 ?_
  refine gm_ev.aload_n i72_44 rfl ?_
  refine gm_ev.getfield (v := .ref r5) i72_45 rfl (gm_fld_of ho1 f6) ?_
  refine gm_ev.getfield (v := .int x8) i72_48 rfl (gm_fld_of ho7 f9) ?_
  refine gm_ev.if_ne_f i72_51 c10 ?_
  refine gm_ev.aload_n i72_54 rfl ?_
  refine gm_ev.getfield (v := .int x2) i72_55 rfl (gm_fld_of ho1 f3) ?_
  refine gm_ev.if_gt_f i72_58 c11 ?_
  refine gm_ev.aload_n i72_61 rfl ?_
  refine gm_ev.getfield (v := .ref r5) i72_62 rfl (gm_fld_of ho1 f6) ?_
  refine gm_ev.callV gm_mono_run (av := []) (r := []) (fs := fso7) ho7 i72_65 rfl rfl rfl (Nat.le_of_ble_eq_true rfl) t13 ?_
  refine gm_ev.if_eq_f i72_68 c17 ?_
  refine gm_ev.iconst (v := 1) i72_71 (by decide) ?_
  refine gm_ev.goto (tgt := 76) i72_72 (by decide) ?_
  exact gm_ev.zret i72_76 rfl (by decide)
theorem c_X7_isMisplaced_2_ft {N0 : Nat} {K : Nat → Nat} {d : Nat} {M : gm_H} {sz sl : Nat} {q : Nat} {u1 : Int32} {fso1 : List Value} {x2 : Int32} {r5 : Nat} {na7 : Nat} {fa7 : Nat → Option Nat} {k8 : Nat} {r9 : Nat} {fso10 : List Value} {x11 : Int32} (ho1 : M q = some (.inr (7, fso1))) (f3 : fso1[2]? = some (.int x2)) (c4 : ¬ x2 ≤ u1) (f6 : fso1[1]? = some (.ref r5)) (ha7 : M r5 = some (.inl (.object "RuleArena$Literal", na7, .inr (.inr (.inr (.inr fa7)))))) (ba7 : na7 < 2 ^ 31) (ek8 : u1 = nI k8) (lk8 : k8 < na7) (qk8 : fa7 k8 = some r9) (ho10 : M r9 = some (.inr (5, fso10))) (f12 : fso10[1]? = some (.int x11)) (c13 : x11 = (1 : Int32)) : gm_ev N0 K ra_nm (ra_mt K) d (some .boolean) (gm_I cX7_isMisplaced) (gm_lkf (lkX7 false K)) 2 [some (.ref q), some (.int u1)] [] M sz sl (.returned (some (.int (1 : Int32))), M, sz, sl) := by
  refine gm_ev.iload_n i72_2 rfl ?_
  refine gm_ev.aload_n i72_3 rfl ?_
  refine gm_ev.getfield (v := .int x2) i72_4 rfl (gm_fld_of ho1 f3) ?_
  refine gm_ev.icmp_ge_f i72_7 c4 ?_
  refine gm_ev.aload_n i72_10 rfl ?_
  refine gm_ev.getfield (v := .ref r5) i72_11 rfl (gm_fld_of ho1 f6) ?_
  refine gm_ev.iload_n i72_14 rfl ?_
  refine gm_ev.aaload (x := some r9) i72_15 (gm_aq_of ha7 ek8 lk8 ba7 qk8) ?_
  refine gm_ev.getfield (v := .int x11) i72_16 rfl (gm_fld_of ho10 f12) ?_
  refine gm_ev.iconst (v := 1) i72_19 (by decide) ?_
  refine gm_ev.icmp_eq_t (tgt := 36) i72_20 (by decide) c13 ?_
  refine gm_ev.iconst (v := 1) i72_36 (by decide) ?_
  exact gm_ev.zret i72_37 rfl (by decide)
theorem c_X7_isMisplaced_2_fft_at2 {N0 : Nat} {K : Nat → Nat} {d : Nat} {M : gm_H} {sz sl : Nat} {R : gm_R} {q : Nat} {u1 : Int32} {fso1 : List Value} {x2 : Int32} {r5 : Nat} {na7 : Nat} {fa7 : Nat → Option Nat} {k8 : Nat} {r9 : Nat} {fso10 : List Value} {x11 : Int32} {k14 : Nat} {r15 : Nat} {fso16 : List Value} {x17 : Int32} (ho1 : M q = some (.inr (7, fso1))) (f3 : fso1[2]? = some (.int x2)) (c4 : ¬ x2 ≤ u1) (f6 : fso1[1]? = some (.ref r5)) (ha7 : M r5 = some (.inl (.object "RuleArena$Literal", na7, .inr (.inr (.inr (.inr fa7)))))) (ba7 : na7 < 2 ^ 31) (ek8 : u1 = nI k8) (lk8 : k8 < na7) (qk8 : fa7 k8 = some r9) (ho10 : M r9 = some (.inr (5, fso10))) (f12 : fso10[1]? = some (.int x11)) (c13 : ¬ x11 = (1 : Int32)) (ek14 : u1 = nI k14) (lk14 : k14 < na7) (qk14 : fa7 k14 = some r15) (ho16 : M r15 = some (.inr (5, fso16))) (f18 : fso16[1]? = some (.int x17)) (c19 : ¬ x17 = (3 : Int32)) (k : gm_ev N0 K ra_nm (ra_mt K) d (some .boolean) (gm_I cX7_isMisplaced) (gm_lkf (lkX7 false K)) 2 [some (.ref q), some (.int (u1 + (1 : Int32)))] [] M sz sl R) : gm_ev N0 K ra_nm (ra_mt K) d (some .boolean) (gm_I cX7_isMisplaced) (gm_lkf (lkX7 false K)) 2 [some (.ref q), some (.int u1)] [] M sz sl R := by
  refine gm_ev.iload_n i72_2 rfl ?_
  refine gm_ev.aload_n i72_3 rfl ?_
  refine gm_ev.getfield (v := .int x2) i72_4 rfl (gm_fld_of ho1 f3) ?_
  refine gm_ev.icmp_ge_f i72_7 c4 ?_
  refine gm_ev.aload_n i72_10 rfl ?_
  refine gm_ev.getfield (v := .ref r5) i72_11 rfl (gm_fld_of ho1 f6) ?_
  refine gm_ev.iload_n i72_14 rfl ?_
  refine gm_ev.aaload (x := some r9) i72_15 (gm_aq_of ha7 ek8 lk8 ba7 qk8) ?_
  refine gm_ev.getfield (v := .int x11) i72_16 rfl (gm_fld_of ho10 f12) ?_
  refine gm_ev.iconst (v := 1) i72_19 (by decide) ?_
  refine gm_ev.icmp_eq_f i72_20 c13 ?_
  refine gm_ev.aload_n i72_23 rfl ?_
  refine gm_ev.getfield (v := .ref r5) i72_24 rfl (gm_fld_of ho1 f6) ?_
  refine gm_ev.iload_n i72_27 rfl ?_
  refine gm_ev.aaload (x := some r15) i72_28 (gm_aq_of ha7 ek14 lk14 ba7 qk14) ?_
  refine gm_ev.getfield (v := .int x17) i72_29 rfl (gm_fld_of ho16 f18) ?_
  refine gm_ev.iconst (v := 3) i72_32 (by decide) ?_
  refine gm_ev.icmp_ne_t (tgt := 38) i72_33 (by decide) c19 ?_
  refine gm_ev.iinc (v := u1 + (1 : Int32)) (ls' := [some (.ref q), some (.int (u1 + (1 : Int32)))]) i72_38 rfl (by rfl) rfl ?_
  refine gm_ev.goto (tgt := 2) i72_41 (by decide) ?_
  exact k
theorem c_X7_isMisplaced_2_fff {N0 : Nat} {K : Nat → Nat} {d : Nat} {M : gm_H} {sz sl : Nat} {q : Nat} {u1 : Int32} {fso1 : List Value} {x2 : Int32} {r5 : Nat} {na7 : Nat} {fa7 : Nat → Option Nat} {k8 : Nat} {r9 : Nat} {fso10 : List Value} {x11 : Int32} {k14 : Nat} {r15 : Nat} {fso16 : List Value} {x17 : Int32} (ho1 : M q = some (.inr (7, fso1))) (f3 : fso1[2]? = some (.int x2)) (c4 : ¬ x2 ≤ u1) (f6 : fso1[1]? = some (.ref r5)) (ha7 : M r5 = some (.inl (.object "RuleArena$Literal", na7, .inr (.inr (.inr (.inr fa7)))))) (ba7 : na7 < 2 ^ 31) (ek8 : u1 = nI k8) (lk8 : k8 < na7) (qk8 : fa7 k8 = some r9) (ho10 : M r9 = some (.inr (5, fso10))) (f12 : fso10[1]? = some (.int x11)) (c13 : ¬ x11 = (1 : Int32)) (ek14 : u1 = nI k14) (lk14 : k14 < na7) (qk14 : fa7 k14 = some r15) (ho16 : M r15 = some (.inr (5, fso16))) (f18 : fso16[1]? = some (.int x17)) (c19 : x17 = (3 : Int32)) : gm_ev N0 K ra_nm (ra_mt K) d (some .boolean) (gm_I cX7_isMisplaced) (gm_lkf (lkX7 false K)) 2 [some (.ref q), some (.int u1)] [] M sz sl (.returned (some (.int (1 : Int32))), M, sz, sl) := by
  refine gm_ev.iload_n i72_2 rfl ?_
  refine gm_ev.aload_n i72_3 rfl ?_
  refine gm_ev.getfield (v := .int x2) i72_4 rfl (gm_fld_of ho1 f3) ?_
  refine gm_ev.icmp_ge_f i72_7 c4 ?_
  refine gm_ev.aload_n i72_10 rfl ?_
  refine gm_ev.getfield (v := .ref r5) i72_11 rfl (gm_fld_of ho1 f6) ?_
  refine gm_ev.iload_n i72_14 rfl ?_
  refine gm_ev.aaload (x := some r9) i72_15 (gm_aq_of ha7 ek8 lk8 ba7 qk8) ?_
  refine gm_ev.getfield (v := .int x11) i72_16 rfl (gm_fld_of ho10 f12) ?_
  refine gm_ev.iconst (v := 1) i72_19 (by decide) ?_
  refine gm_ev.icmp_eq_f i72_20 c13 ?_
  refine gm_ev.aload_n i72_23 rfl ?_
  refine gm_ev.getfield (v := .ref r5) i72_24 rfl (gm_fld_of ho1 f6) ?_
  refine gm_ev.iload_n i72_27 rfl ?_
  refine gm_ev.aaload (x := some r15) i72_28 (gm_aq_of ha7 ek14 lk14 ba7 qk14) ?_
  refine gm_ev.getfield (v := .int x17) i72_29 rfl (gm_fld_of ho16 f18) ?_
  refine gm_ev.iconst (v := 3) i72_32 (by decide) ?_
  refine gm_ev.icmp_ne_f i72_33 c19 ?_
  refine gm_ev.iconst (v := 1) i72_36 (by decide) ?_
  exact gm_ev.zret i72_37 rfl (by decide)
theorem c_X7_isLoose_0__at12 {N0 : Nat} {K : Nat → Nat} {d : Nat} {M : gm_H} {sz sl : Nat} {R : gm_R} {q : Nat} {fso1 : List Value} {r2 : Nat} {fso4 : List Value} {r5 : Int32} {M7 : gm_H} {sz8 : Nat} {dd9 : Nat} (ho1 : M q = some (.inr (7, fso1))) (f3 : fso1[0]? = some (.ref r2)) (ho4 : M r2 = some (.inr (5, fso4))) (t6 : gm_to N0 K ra_nm (ra_mt K) d 56 [.ref r2] M sz (.returned (some (.int r5)), M7, sz8, dd9)) (k : gm_ev N0 K ra_nm (ra_mt K) d (some .boolean) (gm_I cX7_isLoose) (gm_lkf (lkX7 false K)) 12 [some (.ref q), some (.int (0 : Int32)), some (.int r5), some (.int (0 : Int32))] [] M7 sz8 (sl + dd9) R) : gm_ev N0 K ra_nm (ra_mt K) d (some .boolean) (gm_I cX7_isLoose) (gm_lkf (lkX7 false K)) 0 [some (.ref q), none, none, none] [] M sz sl R := by
  refine gm_ev.iconst (v := 0) i73_0 (by decide) ?_
  refine gm_ev.istore_n (ls' := [some (.ref q), some (.int (0 : Int32)), none, none]) i73_1 (Nat.le_of_ble_eq_true rfl) rfl ?_
  refine gm_ev.aload_n i73_2 rfl ?_
  refine gm_ev.getfield (v := .ref r2) i73_3 rfl (gm_fld_of ho1 f3) ?_
  refine gm_ev.callV gm_mono_run (av := []) (r := []) (fs := fso4) ho4 i73_6 rfl rfl rfl (Nat.le_of_ble_eq_true rfl) t6 ?_
  refine gm_ev.istore_n (ls' := [some (.ref q), some (.int (0 : Int32)), some (.int r5), none]) i73_9 (Nat.le_of_ble_eq_true rfl) rfl ?_
  refine gm_ev.iconst (v := 0) i73_10 (by decide) ?_
  refine gm_ev.istore_n (ls' := [some (.ref q), some (.int (0 : Int32)), some (.int r5), some (.int (0 : Int32))]) i73_11 (Nat.le_of_ble_eq_true rfl) rfl ?_
  exact k
theorem c_X7_isLoose_12_tt {N0 : Nat} {K : Nat → Nat} {d : Nat} {M : gm_H} {sz sl : Nat} {q : Nat} {u1 : Int32} {u2 : Int32} {u3 : Int32} {fso1 : List Value} {x2 : Int32} (ho1 : M q = some (.inr (7, fso1))) (f3 : fso1[2]? = some (.int x2)) (c4 : x2 ≤ u3) (c5 : (u2 &&& (u1 ^^^ (-1 : Int32))) = 0) : gm_ev N0 K ra_nm (ra_mt K) d (some .boolean) (gm_I cX7_isLoose) (gm_lkf (lkX7 false K)) 12 [some (.ref q), some (.int u1), some (.int u2), some (.int u3)] [] M sz sl (.returned (some (.int (0 : Int32))), M, sz, sl) := by
  refine gm_ev.iload_n i73_12 rfl ?_
  refine gm_ev.aload_n i73_13 rfl ?_
  refine gm_ev.getfield (v := .int x2) i73_14 rfl (gm_fld_of ho1 f3) ?_
  refine gm_ev.icmp_ge_t (tgt := 65) i73_17 (by decide) c4 ?_
  refine gm_ev.iload_n i73_65 rfl ?_
  refine gm_ev.iload_n i73_66 rfl ?_
  refine gm_ev.iconst (v := -1) i73_67 (by decide) ?_
  refine gm_ev.ixor i73_68 ?_
  refine gm_ev.iand i73_69 ?_
  refine gm_ev.if_eq_t (tgt := 77) i73_70 (by decide) c5 ?_
  refine gm_ev.iconst (v := 0) i73_77 (by decide) ?_
  exact gm_ev.zret i73_78 rfl (by decide)
theorem c_X7_isLoose_12_tf {N0 : Nat} {K : Nat → Nat} {d : Nat} {M : gm_H} {sz sl : Nat} {q : Nat} {u1 : Int32} {u2 : Int32} {u3 : Int32} {fso1 : List Value} {x2 : Int32} (ho1 : M q = some (.inr (7, fso1))) (f3 : fso1[2]? = some (.int x2)) (c4 : x2 ≤ u3) (c5 : ¬ (u2 &&& (u1 ^^^ (-1 : Int32))) = 0) : gm_ev N0 K ra_nm (ra_mt K) d (some .boolean) (gm_I cX7_isLoose) (gm_lkf (lkX7 false K)) 12 [some (.ref q), some (.int u1), some (.int u2), some (.int u3)] [] M sz sl (.returned (some (.int (1 : Int32))), M, sz, sl) := by
  refine gm_ev.iload_n i73_12 rfl ?_
  refine gm_ev.aload_n i73_13 rfl ?_
  refine gm_ev.getfield (v := .int x2) i73_14 rfl (gm_fld_of ho1 f3) ?_
  refine gm_ev.icmp_ge_t (tgt := 65) i73_17 (by decide) c4 ?_
  refine gm_ev.iload_n i73_65 rfl ?_
  refine gm_ev.iload_n i73_66 rfl ?_
  refine gm_ev.iconst (v := -1) i73_67 (by decide) ?_
  refine gm_ev.ixor i73_68 ?_
  refine gm_ev.iand i73_69 ?_
  refine gm_ev.if_eq_f i73_70 c5 ?_
  refine gm_ev.iconst (v := 1) i73_73 (by decide) ?_
  refine gm_ev.goto (tgt := 78) i73_74 (by decide) ?_
  exact gm_ev.zret i73_78 rfl (by decide)
theorem c_X7_isLoose_12_ft_at12 {N0 : Nat} {K : Nat → Nat} {d : Nat} {M : gm_H} {sz sl : Nat} {R : gm_R} {q : Nat} {u1 : Int32} {u2 : Int32} {u3 : Int32} {fso1 : List Value} {x2 : Int32} {r5 : Nat} {na7 : Nat} {fa7 : Nat → Option Nat} {k8 : Nat} {r9 : Nat} {fso10 : List Value} {x11 : Int32} {k14 : Nat} {r15 : Nat} {fso16 : List Value} {r17 : Int32} {M19 : gm_H} {sz20 : Nat} {dd21 : Nat} (ho1 : M q = some (.inr (7, fso1))) (f3 : fso1[2]? = some (.int x2)) (c4 : ¬ x2 ≤ u3) (f6 : fso1[1]? = some (.ref r5)) (ha7 : M r5 = some (.inl (.object "RuleArena$Literal", na7, .inr (.inr (.inr (.inr fa7)))))) (ba7 : na7 < 2 ^ 31) (ek8 : u3 = nI k8) (lk8 : k8 < na7) (qk8 : fa7 k8 = some r9) (ho10 : M r9 = some (.inr (5, fso10))) (f12 : fso10[0]? = some (.int x11)) (c13 : ¬ x11 = 0) (ek14 : u3 = nI k14) (lk14 : k14 < na7) (qk14 : fa7 k14 = some r15) (ho16 : M r15 = some (.inr (5, fso16))) (t18 : gm_to N0 K ra_nm (ra_mt K) d 56 [.ref r15] M sz (.returned (some (.int r17)), M19, sz20, dd21)) (k : gm_ev N0 K ra_nm (ra_mt K) d (some .boolean) (gm_I cX7_isLoose) (gm_lkf (lkX7 false K)) 12 [some (.ref q), some (.int u1), some (.int (u2 ||| r17)), some (.int (u3 + (1 : Int32)))] [] M19 sz20 (sl + dd21) R) : gm_ev N0 K ra_nm (ra_mt K) d (some .boolean) (gm_I cX7_isLoose) (gm_lkf (lkX7 false K)) 12 [some (.ref q), some (.int u1), some (.int u2), some (.int u3)] [] M sz sl R := by
  refine gm_ev.iload_n i73_12 rfl ?_
  refine gm_ev.aload_n i73_13 rfl ?_
  refine gm_ev.getfield (v := .int x2) i73_14 rfl (gm_fld_of ho1 f3) ?_
  refine gm_ev.icmp_ge_f i73_17 c4 ?_
  refine gm_ev.aload_n i73_20 rfl ?_
  refine gm_ev.getfield (v := .ref r5) i73_21 rfl (gm_fld_of ho1 f6) ?_
  refine gm_ev.iload_n i73_24 rfl ?_
  refine gm_ev.aaload (x := some r9) i73_25 (gm_aq_of ha7 ek8 lk8 ba7 qk8) ?_
  refine gm_ev.getfield (v := .int x11) i73_26 rfl (gm_fld_of ho10 f12) ?_
  refine gm_ev.if_ne_t (tgt := 47) i73_29 (by decide) c13 ?_
  refine gm_ev.iload_n i73_47 rfl ?_
  refine gm_ev.aload_n i73_48 rfl ?_
  refine gm_ev.getfield (v := .ref r5) i73_49 rfl (gm_fld_of ho1 f6) ?_
  refine gm_ev.iload_n i73_52 rfl ?_
  refine gm_ev.aaload (x := some r15) i73_53 (gm_aq_of ha7 ek14 lk14 ba7 qk14) ?_
  refine gm_ev.callV gm_mono_run (av := []) (r := [.int u2]) (fs := fso16) ho16 i73_54 rfl rfl rfl (Nat.le_of_ble_eq_true rfl) t18 ?_
  refine gm_ev.ior i73_57 ?_
  refine gm_ev.istore_n (ls' := [some (.ref q), some (.int u1), some (.int (u2 ||| r17)), some (.int u3)]) i73_58 (Nat.le_of_ble_eq_true rfl) rfl ?_
  refine gm_ev.iinc (v := u3 + (1 : Int32)) (ls' := [some (.ref q), some (.int u1), some (.int (u2 ||| r17)), some (.int (u3 + (1 : Int32)))]) i73_59 rfl (by rfl) rfl ?_
  refine gm_ev.goto (tgt := 12) i73_62 (by decide) ?_
  exact k
theorem c_X7_isLoose_12_ff_at12 {N0 : Nat} {K : Nat → Nat} {d : Nat} {M : gm_H} {sz sl : Nat} {R : gm_R} {q : Nat} {u1 : Int32} {u2 : Int32} {u3 : Int32} {fso1 : List Value} {x2 : Int32} {r5 : Nat} {na7 : Nat} {fa7 : Nat → Option Nat} {k8 : Nat} {r9 : Nat} {fso10 : List Value} {x11 : Int32} {k14 : Nat} {r15 : Nat} {fso16 : List Value} {r17 : Int32} {M19 : gm_H} {sz20 : Nat} {dd21 : Nat} (ho1 : M q = some (.inr (7, fso1))) (f3 : fso1[2]? = some (.int x2)) (c4 : ¬ x2 ≤ u3) (f6 : fso1[1]? = some (.ref r5)) (ha7 : M r5 = some (.inl (.object "RuleArena$Literal", na7, .inr (.inr (.inr (.inr fa7)))))) (ba7 : na7 < 2 ^ 31) (ek8 : u3 = nI k8) (lk8 : k8 < na7) (qk8 : fa7 k8 = some r9) (ho10 : M r9 = some (.inr (5, fso10))) (f12 : fso10[0]? = some (.int x11)) (c13 : x11 = 0) (ek14 : u3 = nI k14) (lk14 : k14 < na7) (qk14 : fa7 k14 = some r15) (ho16 : M r15 = some (.inr (5, fso16))) (t18 : gm_to N0 K ra_nm (ra_mt K) d 56 [.ref r15] M sz (.returned (some (.int r17)), M19, sz20, dd21)) (k : gm_ev N0 K ra_nm (ra_mt K) d (some .boolean) (gm_I cX7_isLoose) (gm_lkf (lkX7 false K)) 12 [some (.ref q), some (.int (u1 ||| r17)), some (.int u2), some (.int (u3 + (1 : Int32)))] [] M19 sz20 (sl + dd21) R) : gm_ev N0 K ra_nm (ra_mt K) d (some .boolean) (gm_I cX7_isLoose) (gm_lkf (lkX7 false K)) 12 [some (.ref q), some (.int u1), some (.int u2), some (.int u3)] [] M sz sl R := by
  refine gm_ev.iload_n i73_12 rfl ?_
  refine gm_ev.aload_n i73_13 rfl ?_
  refine gm_ev.getfield (v := .int x2) i73_14 rfl (gm_fld_of ho1 f3) ?_
  refine gm_ev.icmp_ge_f i73_17 c4 ?_
  refine gm_ev.aload_n i73_20 rfl ?_
  refine gm_ev.getfield (v := .ref r5) i73_21 rfl (gm_fld_of ho1 f6) ?_
  refine gm_ev.iload_n i73_24 rfl ?_
  refine gm_ev.aaload (x := some r9) i73_25 (gm_aq_of ha7 ek8 lk8 ba7 qk8) ?_
  refine gm_ev.getfield (v := .int x11) i73_26 rfl (gm_fld_of ho10 f12) ?_
  refine gm_ev.if_ne_f i73_29 c13 ?_
  refine gm_ev.iload_n i73_32 rfl ?_
  refine gm_ev.aload_n i73_33 rfl ?_
  refine gm_ev.getfield (v := .ref r5) i73_34 rfl (gm_fld_of ho1 f6) ?_
  refine gm_ev.iload_n i73_37 rfl ?_
  refine gm_ev.aaload (x := some r15) i73_38 (gm_aq_of ha7 ek14 lk14 ba7 qk14) ?_
  refine gm_ev.callV gm_mono_run (av := []) (r := [.int u1]) (fs := fso16) ho16 i73_39 rfl rfl rfl (Nat.le_of_ble_eq_true rfl) t18 ?_
  refine gm_ev.ior i73_42 ?_
  refine gm_ev.istore_n (ls' := [some (.ref q), some (.int (u1 ||| r17)), some (.int u2), some (.int u3)]) i73_43 (Nat.le_of_ble_eq_true rfl) rfl ?_
  refine gm_ev.goto (tgt := 59) i73_44 (by decide) ?_
  refine gm_ev.iinc (v := u3 + (1 : Int32)) (ls' := [some (.ref q), some (.int (u1 ||| r17)), some (.int u2), some (.int (u3 + (1 : Int32)))]) i73_59 rfl (by rfl) rfl ?_
  refine gm_ev.goto (tgt := 12) i73_62 (by decide) ?_
  exact k
theorem c_X7_asks_0__at2 {N0 : Nat} {K : Nat → Nat} {d : Nat} {M : gm_H} {sz sl : Nat} {R : gm_R} {q : Nat} {p0 : Int32}  (k : gm_ev N0 K ra_nm (ra_mt K) d (some .boolean) (gm_I cX7_asks) (gm_lkf (lkX7 false K)) 2 [some (.ref q), some (.int p0), some (.int (0 : Int32))] [] M sz sl R) : gm_ev N0 K ra_nm (ra_mt K) d (some .boolean) (gm_I cX7_asks) (gm_lkf (lkX7 false K)) 0 [some (.ref q), some (.int p0), none] [] M sz sl R := by
  refine gm_ev.iconst (v := 0) i74_0 (by decide) ?_
  refine gm_ev.istore_n (ls' := [some (.ref q), some (.int p0), some (.int (0 : Int32))]) i74_1 (Nat.le_of_ble_eq_true rfl) rfl ?_
  exact k
theorem c_X7_asks_2_t {N0 : Nat} {K : Nat → Nat} {d : Nat} {M : gm_H} {sz sl : Nat} {q : Nat} {u1 : Int32} {u2 : Int32} {fso1 : List Value} {x2 : Int32} (ho1 : M q = some (.inr (7, fso1))) (f3 : fso1[2]? = some (.int x2)) (c4 : x2 ≤ u2) : gm_ev N0 K ra_nm (ra_mt K) d (some .boolean) (gm_I cX7_asks) (gm_lkf (lkX7 false K)) 2 [some (.ref q), some (.int u1), some (.int u2)] [] M sz sl (.returned (some (.int (0 : Int32))), M, sz, sl) := by
  refine gm_ev.iload_n i74_2 rfl ?_
  refine gm_ev.aload_n i74_3 rfl ?_
  refine gm_ev.getfield (v := .int x2) i74_4 rfl (gm_fld_of ho1 f3) ?_
  refine gm_ev.icmp_ge_t (tgt := 31) i74_7 (by decide) c4 ?_
  refine gm_ev.iconst (v := 0) i74_31 (by decide) ?_
  exact gm_ev.zret i74_32 rfl (by decide)
theorem c_X7_asks_2_ft_at2 {N0 : Nat} {K : Nat → Nat} {d : Nat} {M : gm_H} {sz sl : Nat} {R : gm_R} {q : Nat} {u1 : Int32} {u2 : Int32} {fso1 : List Value} {x2 : Int32} {r5 : Nat} {na7 : Nat} {fa7 : Nat → Option Nat} {k8 : Nat} {r9 : Nat} {fso10 : List Value} {x11 : Int32} (ho1 : M q = some (.inr (7, fso1))) (f3 : fso1[2]? = some (.int x2)) (c4 : ¬ x2 ≤ u2) (f6 : fso1[1]? = some (.ref r5)) (ha7 : M r5 = some (.inl (.object "RuleArena$Literal", na7, .inr (.inr (.inr (.inr fa7)))))) (ba7 : na7 < 2 ^ 31) (ek8 : u2 = nI k8) (lk8 : k8 < na7) (qk8 : fa7 k8 = some r9) (ho10 : M r9 = some (.inr (5, fso10))) (f12 : fso10[1]? = some (.int x11)) (c13 : ¬ x11 = u1) (k : gm_ev N0 K ra_nm (ra_mt K) d (some .boolean) (gm_I cX7_asks) (gm_lkf (lkX7 false K)) 2 [some (.ref q), some (.int u1), some (.int (u2 + (1 : Int32)))] [] M sz sl R) : gm_ev N0 K ra_nm (ra_mt K) d (some .boolean) (gm_I cX7_asks) (gm_lkf (lkX7 false K)) 2 [some (.ref q), some (.int u1), some (.int u2)] [] M sz sl R := by
  refine gm_ev.iload_n i74_2 rfl ?_
  refine gm_ev.aload_n i74_3 rfl ?_
  refine gm_ev.getfield (v := .int x2) i74_4 rfl (gm_fld_of ho1 f3) ?_
  refine gm_ev.icmp_ge_f i74_7 c4 ?_
  refine gm_ev.aload_n i74_10 rfl ?_
  refine gm_ev.getfield (v := .ref r5) i74_11 rfl (gm_fld_of ho1 f6) ?_
  refine gm_ev.iload_n i74_14 rfl ?_
  refine gm_ev.aaload (x := some r9) i74_15 (gm_aq_of ha7 ek8 lk8 ba7 qk8) ?_
  refine gm_ev.getfield (v := .int x11) i74_16 rfl (gm_fld_of ho10 f12) ?_
  refine gm_ev.iload_n i74_19 rfl ?_
  refine gm_ev.icmp_ne_t (tgt := 25) i74_20 (by decide) c13 ?_
  refine gm_ev.iinc (v := u2 + (1 : Int32)) (ls' := [some (.ref q), some (.int u1), some (.int (u2 + (1 : Int32)))]) i74_25 rfl (by rfl) rfl ?_
  refine gm_ev.goto (tgt := 2) i74_28 (by decide) ?_
  exact k
theorem c_X7_asks_2_ff {N0 : Nat} {K : Nat → Nat} {d : Nat} {M : gm_H} {sz sl : Nat} {q : Nat} {u1 : Int32} {u2 : Int32} {fso1 : List Value} {x2 : Int32} {r5 : Nat} {na7 : Nat} {fa7 : Nat → Option Nat} {k8 : Nat} {r9 : Nat} {fso10 : List Value} {x11 : Int32} (ho1 : M q = some (.inr (7, fso1))) (f3 : fso1[2]? = some (.int x2)) (c4 : ¬ x2 ≤ u2) (f6 : fso1[1]? = some (.ref r5)) (ha7 : M r5 = some (.inl (.object "RuleArena$Literal", na7, .inr (.inr (.inr (.inr fa7)))))) (ba7 : na7 < 2 ^ 31) (ek8 : u2 = nI k8) (lk8 : k8 < na7) (qk8 : fa7 k8 = some r9) (ho10 : M r9 = some (.inr (5, fso10))) (f12 : fso10[1]? = some (.int x11)) (c13 : x11 = u1) : gm_ev N0 K ra_nm (ra_mt K) d (some .boolean) (gm_I cX7_asks) (gm_lkf (lkX7 false K)) 2 [some (.ref q), some (.int u1), some (.int u2)] [] M sz sl (.returned (some (.int (1 : Int32))), M, sz, sl) := by
  refine gm_ev.iload_n i74_2 rfl ?_
  refine gm_ev.aload_n i74_3 rfl ?_
  refine gm_ev.getfield (v := .int x2) i74_4 rfl (gm_fld_of ho1 f3) ?_
  refine gm_ev.icmp_ge_f i74_7 c4 ?_
  refine gm_ev.aload_n i74_10 rfl ?_
  refine gm_ev.getfield (v := .ref r5) i74_11 rfl (gm_fld_of ho1 f6) ?_
  refine gm_ev.iload_n i74_14 rfl ?_
  refine gm_ev.aaload (x := some r9) i74_15 (gm_aq_of ha7 ek8 lk8 ba7 qk8) ?_
  refine gm_ev.getfield (v := .int x11) i74_16 rfl (gm_fld_of ho10 f12) ?_
  refine gm_ev.iload_n i74_19 rfl ?_
  refine gm_ev.icmp_ne_f i74_20 c13 ?_
  refine gm_ev.iconst (v := 1) i74_23 (by decide) ?_
  exact gm_ev.zret i74_24 rfl (by decide)
theorem c_X7_keywords_0__at4 {N0 : Nat} {K : Nat → Nat} {d : Nat} {M : gm_H} {sz sl : Nat} {R : gm_R} {q : Nat}  (k : gm_ev N0 K ra_nm (ra_mt K) d (some .int) (gm_I cX7_keywords) (gm_lkf (lkX7 false K)) 4 [some (.ref q), some (.int (0 : Int32)), some (.int (0 : Int32)), none] [] M sz sl R) : gm_ev N0 K ra_nm (ra_mt K) d (some .int) (gm_I cX7_keywords) (gm_lkf (lkX7 false K)) 0 [some (.ref q), none, none, none] [] M sz sl R := by
  refine gm_ev.iconst (v := 0) i75_0 (by decide) ?_
  refine gm_ev.istore_n (ls' := [some (.ref q), some (.int (0 : Int32)), none, none]) i75_1 (Nat.le_of_ble_eq_true rfl) rfl ?_
  refine gm_ev.iconst (v := 0) i75_2 (by decide) ?_
  refine gm_ev.istore_n (ls' := [some (.ref q), some (.int (0 : Int32)), some (.int (0 : Int32)), none]) i75_3 (Nat.le_of_ble_eq_true rfl) rfl ?_
  exact k
theorem c_X7_keywords_4_t {N0 : Nat} {K : Nat → Nat} {d : Nat} {M : gm_H} {sz sl : Nat} {q : Nat} {u1 : Int32} {u2 : Int32} {fso1 : List Value} {x2 : Int32} (ho1 : M q = some (.inr (7, fso1))) (f3 : fso1[2]? = some (.int x2)) (c4 : x2 ≤ u2) : gm_ev N0 K ra_nm (ra_mt K) d (some .int) (gm_I cX7_keywords) (gm_lkf (lkX7 false K)) 4 [some (.ref q), some (.int u1), some (.int u2), none] [] M sz sl (.returned (some (.int u1)), M, sz, sl) := by
  refine gm_ev.iload_n i75_4 rfl ?_
  refine gm_ev.aload_n i75_5 rfl ?_
  refine gm_ev.getfield (v := .int x2) i75_6 rfl (gm_fld_of ho1 f3) ?_
  refine gm_ev.icmp_ge_t (tgt := 44) i75_9 (by decide) c4 ?_
  refine gm_ev.iload_n i75_44 rfl ?_
  exact gm_ev.iret i75_45 rfl
theorem c_X7_keywords_4_ft_at4 {N0 : Nat} {K : Nat → Nat} {d : Nat} {M : gm_H} {sz sl : Nat} {R : gm_R} {q : Nat} {u1 : Int32} {u2 : Int32} {fso1 : List Value} {x2 : Int32} {r5 : Nat} {na7 : Nat} {fa7 : Nat → Option Nat} {k8 : Nat} {r9 : Nat} {fso10 : List Value} {x11 : Int32} (ho1 : M q = some (.inr (7, fso1))) (f3 : fso1[2]? = some (.int x2)) (c4 : ¬ x2 ≤ u2) (f6 : fso1[1]? = some (.ref r5)) (ha7 : M r5 = some (.inl (.object "RuleArena$Literal", na7, .inr (.inr (.inr (.inr fa7)))))) (ba7 : na7 < 2 ^ 31) (ek8 : u2 = nI k8) (lk8 : k8 < na7) (qk8 : fa7 k8 = some r9) (ho10 : M r9 = some (.inr (5, fso10))) (f12 : fso10[1]? = some (.int x11)) (c13 : x11 < 0) (k : gm_ev N0 K ra_nm (ra_mt K) d (some .int) (gm_I cX7_keywords) (gm_lkf (lkX7 false K)) 4 [some (.ref q), some (.int u1), some (.int (u2 + (1 : Int32))), none] [] M sz sl R) : gm_ev N0 K ra_nm (ra_mt K) d (some .int) (gm_I cX7_keywords) (gm_lkf (lkX7 false K)) 4 [some (.ref q), some (.int u1), some (.int u2), none] [] M sz sl R := by
  refine gm_ev.iload_n i75_4 rfl ?_
  refine gm_ev.aload_n i75_5 rfl ?_
  refine gm_ev.getfield (v := .int x2) i75_6 rfl (gm_fld_of ho1 f3) ?_
  refine gm_ev.icmp_ge_f i75_9 c4 ?_
  refine gm_ev.aload_n i75_12 rfl ?_
  refine gm_ev.getfield (v := .ref r5) i75_13 rfl (gm_fld_of ho1 f6) ?_
  refine gm_ev.iload_n i75_16 rfl ?_
  refine gm_ev.aaload (x := some r9) i75_17 (gm_aq_of ha7 ek8 lk8 ba7 qk8) ?_
  refine gm_ev.getfield (v := .int x11) i75_18 rfl (gm_fld_of ho10 f12) ?_
  refine gm_ev.istore_n (ls' := [some (.ref q), some (.int u1), some (.int u2), some (.int x11)]) i75_21 (Nat.le_of_ble_eq_true rfl) rfl ?_
  refine gm_ev.iload_n i75_22 rfl ?_
  refine gm_ev.if_lt_t (tgt := 38) i75_23 (by decide) c13 ?_
  refine gm_ev.iinc (v := u2 + (1 : Int32)) (ls' := [some (.ref q), some (.int u1), some (.int (u2 + (1 : Int32))), some (.int x11)]) i75_38 rfl (by rfl) rfl ?_
  refine gm_ev.goto (tgt := 4) i75_41 (by decide) ?_
  refine gm_ev.le (a := [some (.ref q), some (.int u1), some (.int (u2 + (1 : Int32))), none]) (gm_leL.le (show gm_leL _ _ from ⟨rfl, ⟨rfl, ⟨rfl, trivial⟩⟩⟩)) ?_
  exact k
theorem c_X7_keywords_4_fft_at4 {N0 : Nat} {K : Nat → Nat} {d : Nat} {M : gm_H} {sz sl : Nat} {R : gm_R} {q : Nat} {u1 : Int32} {u2 : Int32} {fso1 : List Value} {x2 : Int32} {r5 : Nat} {na7 : Nat} {fa7 : Nat → Option Nat} {k8 : Nat} {r9 : Nat} {fso10 : List Value} {x11 : Int32} (ho1 : M q = some (.inr (7, fso1))) (f3 : fso1[2]? = some (.int x2)) (c4 : ¬ x2 ≤ u2) (f6 : fso1[1]? = some (.ref r5)) (ha7 : M r5 = some (.inl (.object "RuleArena$Literal", na7, .inr (.inr (.inr (.inr fa7)))))) (ba7 : na7 < 2 ^ 31) (ek8 : u2 = nI k8) (lk8 : k8 < na7) (qk8 : fa7 k8 = some r9) (ho10 : M r9 = some (.inr (5, fso10))) (f12 : fso10[1]? = some (.int x11)) (c13 : ¬ x11 < 0) (c14 : (8 : Int32) ≤ x11) (k : gm_ev N0 K ra_nm (ra_mt K) d (some .int) (gm_I cX7_keywords) (gm_lkf (lkX7 false K)) 4 [some (.ref q), some (.int u1), some (.int (u2 + (1 : Int32))), none] [] M sz sl R) : gm_ev N0 K ra_nm (ra_mt K) d (some .int) (gm_I cX7_keywords) (gm_lkf (lkX7 false K)) 4 [some (.ref q), some (.int u1), some (.int u2), none] [] M sz sl R := by
  refine gm_ev.iload_n i75_4 rfl ?_
  refine gm_ev.aload_n i75_5 rfl ?_
  refine gm_ev.getfield (v := .int x2) i75_6 rfl (gm_fld_of ho1 f3) ?_
  refine gm_ev.icmp_ge_f i75_9 c4 ?_
  refine gm_ev.aload_n i75_12 rfl ?_
  refine gm_ev.getfield (v := .ref r5) i75_13 rfl (gm_fld_of ho1 f6) ?_
  refine gm_ev.iload_n i75_16 rfl ?_
  refine gm_ev.aaload (x := some r9) i75_17 (gm_aq_of ha7 ek8 lk8 ba7 qk8) ?_
  refine gm_ev.getfield (v := .int x11) i75_18 rfl (gm_fld_of ho10 f12) ?_
  refine gm_ev.istore_n (ls' := [some (.ref q), some (.int u1), some (.int u2), some (.int x11)]) i75_21 (Nat.le_of_ble_eq_true rfl) rfl ?_
  refine gm_ev.iload_n i75_22 rfl ?_
  refine gm_ev.if_lt_f i75_23 c13 ?_
  refine gm_ev.iload_n i75_26 rfl ?_
  refine gm_ev.bipush (v := 8) i75_27 (by decide) ?_
  refine gm_ev.icmp_ge_t (tgt := 38) i75_29 (by decide) c14 ?_
  refine gm_ev.iinc (v := u2 + (1 : Int32)) (ls' := [some (.ref q), some (.int u1), some (.int (u2 + (1 : Int32))), some (.int x11)]) i75_38 rfl (by rfl) rfl ?_
  refine gm_ev.goto (tgt := 4) i75_41 (by decide) ?_
  refine gm_ev.le (a := [some (.ref q), some (.int u1), some (.int (u2 + (1 : Int32))), none]) (gm_leL.le (show gm_leL _ _ from ⟨rfl, ⟨rfl, ⟨rfl, trivial⟩⟩⟩)) ?_
  exact k
theorem c_X7_keywords_4_fff_at4 {N0 : Nat} {K : Nat → Nat} {d : Nat} {M : gm_H} {sz sl : Nat} {R : gm_R} {q : Nat} {u1 : Int32} {u2 : Int32} {fso1 : List Value} {x2 : Int32} {r5 : Nat} {na7 : Nat} {fa7 : Nat → Option Nat} {k8 : Nat} {r9 : Nat} {fso10 : List Value} {x11 : Int32} (ho1 : M q = some (.inr (7, fso1))) (f3 : fso1[2]? = some (.int x2)) (c4 : ¬ x2 ≤ u2) (f6 : fso1[1]? = some (.ref r5)) (ha7 : M r5 = some (.inl (.object "RuleArena$Literal", na7, .inr (.inr (.inr (.inr fa7)))))) (ba7 : na7 < 2 ^ 31) (ek8 : u2 = nI k8) (lk8 : k8 < na7) (qk8 : fa7 k8 = some r9) (ho10 : M r9 = some (.inr (5, fso10))) (f12 : fso10[1]? = some (.int x11)) (c13 : ¬ x11 < 0) (c14 : ¬ (8 : Int32) ≤ x11) (k : gm_ev N0 K ra_nm (ra_mt K) d (some .int) (gm_I cX7_keywords) (gm_lkf (lkX7 false K)) 4 [some (.ref q), some (.int (u1 ||| ((1 : Int32) <<< (x11 &&& 31)))), some (.int (u2 + (1 : Int32))), none] [] M sz sl R) : gm_ev N0 K ra_nm (ra_mt K) d (some .int) (gm_I cX7_keywords) (gm_lkf (lkX7 false K)) 4 [some (.ref q), some (.int u1), some (.int u2), none] [] M sz sl R := by
  refine gm_ev.iload_n i75_4 rfl ?_
  refine gm_ev.aload_n i75_5 rfl ?_
  refine gm_ev.getfield (v := .int x2) i75_6 rfl (gm_fld_of ho1 f3) ?_
  refine gm_ev.icmp_ge_f i75_9 c4 ?_
  refine gm_ev.aload_n i75_12 rfl ?_
  refine gm_ev.getfield (v := .ref r5) i75_13 rfl (gm_fld_of ho1 f6) ?_
  refine gm_ev.iload_n i75_16 rfl ?_
  refine gm_ev.aaload (x := some r9) i75_17 (gm_aq_of ha7 ek8 lk8 ba7 qk8) ?_
  refine gm_ev.getfield (v := .int x11) i75_18 rfl (gm_fld_of ho10 f12) ?_
  refine gm_ev.istore_n (ls' := [some (.ref q), some (.int u1), some (.int u2), some (.int x11)]) i75_21 (Nat.le_of_ble_eq_true rfl) rfl ?_
  refine gm_ev.iload_n i75_22 rfl ?_
  refine gm_ev.if_lt_f i75_23 c13 ?_
  refine gm_ev.iload_n i75_26 rfl ?_
  refine gm_ev.bipush (v := 8) i75_27 (by decide) ?_
  refine gm_ev.icmp_ge_f i75_29 c14 ?_
  refine gm_ev.iload_n i75_32 rfl ?_
  refine gm_ev.iconst (v := 1) i75_33 (by decide) ?_
  refine gm_ev.iload_n i75_34 rfl ?_
  refine gm_ev.ishl i75_35 ?_
  refine gm_ev.ior i75_36 ?_
  refine gm_ev.istore_n (ls' := [some (.ref q), some (.int (u1 ||| ((1 : Int32) <<< (x11 &&& 31)))), some (.int u2), some (.int x11)]) i75_37 (Nat.le_of_ble_eq_true rfl) rfl ?_
  refine gm_ev.iinc (v := u2 + (1 : Int32)) (ls' := [some (.ref q), some (.int (u1 ||| ((1 : Int32) <<< (x11 &&& 31)))), some (.int (u2 + (1 : Int32))), some (.int x11)]) i75_38 rfl (by rfl) rfl ?_
  refine gm_ev.goto (tgt := 4) i75_41 (by decide) ?_
  refine gm_ev.le (a := [some (.ref q), some (.int (u1 ||| ((1 : Int32) <<< (x11 &&& 31)))), some (.int (u2 + (1 : Int32))), none]) (gm_leL.le (show gm_leL _ _ from ⟨rfl, ⟨rfl, ⟨rfl, trivial⟩⟩⟩)) ?_
  exact k
theorem c_X7_plan_0__at24 {N0 : Nat} {K : Nat → Nat} {d : Nat} {M : gm_H} {sz sl : Nat} {R : gm_R} {q : Nat} {fso1 : List Value} {r2 : Nat} {fso4 : List Value} {r5 : Int32} {M7 : gm_H} {sz8 : Nat} {dd9 : Nat} {fso10 : List Value} {r11 : Nat} {fso13 : List Value} {r14 : Int32} {M16 : gm_H} {sz17 : Nat} {dd18 : Nat} {fso19 : List Value} (ho1 : M q = some (.inr (7, fso1))) (f3 : fso1[0]? = some (.ref r2)) (ho4 : M r2 = some (.inr (5, fso4))) (t6 : gm_to N0 K ra_nm (ra_mt K) d 56 [.ref r2] M sz (.returned (some (.int r5)), M7, sz8, dd9)) (ho10 : M7 q = some (.inr (7, fso10))) (f12 : fso10[0]? = some (.ref r11)) (ho13 : M7 r11 = some (.inr (5, fso13))) (t15 : gm_to N0 K ra_nm (ra_mt K) d 57 [.ref r11] M7 sz8 (.returned (some (.int r14)), M16, sz17, dd18)) (ho19 : M16 q = some (.inr (7, fso19))) (hNq : N0 ≤ q) (l20 : 3 < fso19.length) (k : gm_ev N0 K ra_nm (ra_mt K) d none (gm_I cX7_plan) (gm_lkf (lkX7 false K)) 24 [some (.ref q), some (.int (63 : Int32)), some (.int r5), some (.int (0 : Int32)), none, none] [] (gm_set M16 q (.inr (7, (fso19.set 3 (.int r14))))) sz17 ((sl + dd9) + dd18) R) : gm_ev N0 K ra_nm (ra_mt K) d none (gm_I cX7_plan) (gm_lkf (lkX7 false K)) 0 [some (.ref q), none, none, none, none, none] [] M sz sl R := by
  refine gm_ev.bipush (v := 63) i76_0 (by decide) ?_
  refine gm_ev.istore_n (ls' := [some (.ref q), some (.int (63 : Int32)), none, none, none, none]) i76_2 (Nat.le_of_ble_eq_true rfl) rfl ?_
  refine gm_ev.aload_n i76_3 rfl ?_
  refine gm_ev.getfield (v := .ref r2) i76_4 rfl (gm_fld_of ho1 f3) ?_
  refine gm_ev.callV gm_mono_run (av := []) (r := []) (fs := fso4) ho4 i76_7 rfl rfl rfl (Nat.le_of_ble_eq_true rfl) t6 ?_
  refine gm_ev.istore_n (ls' := [some (.ref q), some (.int (63 : Int32)), some (.int r5), none, none, none]) i76_10 (Nat.le_of_ble_eq_true rfl) rfl ?_
  refine gm_ev.aload_n i76_11 rfl ?_
  refine gm_ev.aload_n i76_12 rfl ?_
  refine gm_ev.getfield (v := .ref r11) i76_13 rfl (gm_fld_of ho10 f12) ?_
  refine gm_ev.callV gm_mono_run (av := []) (r := [.ref q]) (fs := fso13) ho13 i76_16 rfl rfl rfl (Nat.le_of_ble_eq_true rfl) t15 ?_
  refine gm_ev.putfield (M' := (gm_set M16 q (.inr (7, (fso19.set 3 (.int r14)))))) i76_19 rfl (gm_put_of ho19 l20 hNq (gm_fit_i _)) ?_
  have g21 : (fso19.set 3 (.int r14))[3]? = some (.int r14) := gm_fs_eq l20
  have w22 : (gm_set M16 q (.inr (7, (fso19.set 3 (.int r14))))) q = some (.inr (7, (fso19.set 3 (.int r14)))) := gm_set_eq
  refine gm_ev.iconst (v := 0) i76_22 (by decide) ?_
  refine gm_ev.istore_n (ls' := [some (.ref q), some (.int (63 : Int32)), some (.int r5), some (.int (0 : Int32)), none, none]) i76_23 (Nat.le_of_ble_eq_true rfl) rfl ?_
  exact k
theorem c_X7_plan_24_t_at58 {N0 : Nat} {K : Nat → Nat} {d : Nat} {M : gm_H} {sz sl : Nat} {R : gm_R} {q : Nat} {u1 : Int32} {u2 : Int32} {u3 : Int32} {fso1 : List Value} {x2 : Int32} (ho1 : M q = some (.inr (7, fso1))) (f3 : fso1[2]? = some (.int x2)) (c4 : x2 ≤ u3) (k : gm_ev N0 K ra_nm (ra_mt K) d none (gm_I cX7_plan) (gm_lkf (lkX7 false K)) 58 [some (.ref q), some (.int u1), some (.int u2), some (.int (0 : Int32)), none, none] [] M sz sl R) : gm_ev N0 K ra_nm (ra_mt K) d none (gm_I cX7_plan) (gm_lkf (lkX7 false K)) 24 [some (.ref q), some (.int u1), some (.int u2), some (.int u3), none, none] [] M sz sl R := by
  refine gm_ev.iload_n i76_24 rfl ?_
  refine gm_ev.aload_n i76_25 rfl ?_
  refine gm_ev.getfield (v := .int x2) i76_26 rfl (gm_fld_of ho1 f3) ?_
  refine gm_ev.icmp_ge_t (tgt := 56) i76_29 (by decide) c4 ?_
  refine gm_ev.iconst (v := 0) i76_56 (by decide) ?_
  refine gm_ev.istore_n (ls' := [some (.ref q), some (.int u1), some (.int u2), some (.int (0 : Int32)), none, none]) i76_57 (Nat.le_of_ble_eq_true rfl) rfl ?_
  exact k
theorem c_X7_plan_24_f_at24 {N0 : Nat} {K : Nat → Nat} {d : Nat} {M : gm_H} {sz sl : Nat} {R : gm_R} {q : Nat} {u1 : Int32} {u2 : Int32} {u3 : Int32} {fso1 : List Value} {x2 : Int32} {x5 : Int32} {r7 : Nat} {na9 : Nat} {fa9 : Nat → Option Nat} {k10 : Nat} {r11 : Nat} {fso12 : List Value} {r13 : Int32} {M15 : gm_H} {sz16 : Nat} {dd17 : Nat} {fso18 : List Value} (ho1 : M q = some (.inr (7, fso1))) (f3 : fso1[2]? = some (.int x2)) (c4 : ¬ x2 ≤ u3) (f6 : fso1[3]? = some (.int x5)) (f8 : fso1[1]? = some (.ref r7)) (ha9 : M r7 = some (.inl (.object "RuleArena$Literal", na9, .inr (.inr (.inr (.inr fa9)))))) (ba9 : na9 < 2 ^ 31) (ek10 : u3 = nI k10) (lk10 : k10 < na9) (qk10 : fa9 k10 = some r11) (ho12 : M r11 = some (.inr (5, fso12))) (t14 : gm_to N0 K ra_nm (ra_mt K) d 57 [.ref r11] M sz (.returned (some (.int r13)), M15, sz16, dd17)) (ho18 : M15 q = some (.inr (7, fso18))) (hNq : N0 ≤ q) (l19 : 3 < fso18.length) (k : gm_ev N0 K ra_nm (ra_mt K) d none (gm_I cX7_plan) (gm_lkf (lkX7 false K)) 24 [some (.ref q), some (.int u1), some (.int u2), some (.int (u3 + (1 : Int32))), none, none] [] (gm_set M15 q (.inr (7, (fso18.set 3 (.int (x5 ||| r13)))))) sz16 (sl + dd17) R) : gm_ev N0 K ra_nm (ra_mt K) d none (gm_I cX7_plan) (gm_lkf (lkX7 false K)) 24 [some (.ref q), some (.int u1), some (.int u2), some (.int u3), none, none] [] M sz sl R := by
  refine gm_ev.iload_n i76_24 rfl ?_
  refine gm_ev.aload_n i76_25 rfl ?_
  refine gm_ev.getfield (v := .int x2) i76_26 rfl (gm_fld_of ho1 f3) ?_
  refine gm_ev.icmp_ge_f i76_29 c4 ?_
  refine gm_ev.aload_n i76_32 rfl ?_
  refine gm_ev.dup i76_33 rfl ?_
  refine gm_ev.getfield (v := .int x5) i76_34 rfl (gm_fld_of ho1 f6) ?_
  refine gm_ev.aload_n i76_37 rfl ?_
  refine gm_ev.getfield (v := .ref r7) i76_38 rfl (gm_fld_of ho1 f8) ?_
  refine gm_ev.iload_n i76_41 rfl ?_
  refine gm_ev.aaload (x := some r11) i76_42 (gm_aq_of ha9 ek10 lk10 ba9 qk10) ?_
  refine gm_ev.callV gm_mono_run (av := []) (r := [.int x5, .ref q]) (fs := fso12) ho12 i76_43 rfl rfl rfl (Nat.le_of_ble_eq_true rfl) t14 ?_
  refine gm_ev.ior i76_46 ?_
  refine gm_ev.putfield (M' := (gm_set M15 q (.inr (7, (fso18.set 3 (.int (x5 ||| r13))))))) i76_47 rfl (gm_put_of ho18 l19 hNq (gm_fit_i _)) ?_
  have g20 : (fso18.set 3 (.int (x5 ||| r13)))[3]? = some (.int (x5 ||| r13)) := gm_fs_eq l19
  have w21 : (gm_set M15 q (.inr (7, (fso18.set 3 (.int (x5 ||| r13)))))) q = some (.inr (7, (fso18.set 3 (.int (x5 ||| r13))))) := gm_set_eq
  refine gm_ev.iinc (v := u3 + (1 : Int32)) (ls' := [some (.ref q), some (.int u1), some (.int u2), some (.int (u3 + (1 : Int32))), none, none]) i76_50 rfl (by rfl) rfl ?_
  refine gm_ev.goto (tgt := 24) i76_53 (by decide) ?_
  exact k
theorem c_X7_plan_58_t {N0 : Nat} {K : Nat → Nat} {d : Nat} {M : gm_H} {sz sl : Nat} {q : Nat} {u1 : Int32} {u2 : Int32} {u3 : Int32} {fso1 : List Value} {x2 : Int32} {r5 : Nat} {fso7 : List Value} {M9 : gm_H} {sz10 : Nat} {dd11 : Nat} (ho1 : M q = some (.inr (7, fso1))) (f3 : fso1[2]? = some (.int x2)) (c4 : x2 ≤ u3) (f6 : fso1[0]? = some (.ref r5)) (ho7 : M r5 = some (.inr (5, fso7))) (t8 : gm_to N0 K ra_nm (ra_mt K) d 59 [.ref r5, .int (0 : Int32)] M sz (.returned none, M9, sz10, dd11)) : gm_ev N0 K ra_nm (ra_mt K) d none (gm_I cX7_plan) (gm_lkf (lkX7 false K)) 58 [some (.ref q), some (.int u1), some (.int u2), some (.int u3), none, none] [] M sz sl (.returned none, M9, sz10, (sl + dd11)) := by
  refine gm_ev.iload_n i76_58 rfl ?_
  refine gm_ev.aload_n i76_59 rfl ?_
  refine gm_ev.getfield (v := .int x2) i76_60 rfl (gm_fld_of ho1 f3) ?_
  refine gm_ev.icmp_ge_t (tgt := 134) i76_63 (by decide) c4 ?_
  refine gm_ev.aload_n i76_134 rfl ?_
  refine gm_ev.getfield (v := .ref r5) i76_135 rfl (gm_fld_of ho1 f6) ?_
  refine gm_ev.iconst (v := 0) i76_138 (by decide) ?_
  refine gm_ev.callV gm_mono_run (av := [.int (0 : Int32)]) (r := []) (fs := fso7) ho7 i76_139 rfl rfl rfl (Nat.le_of_ble_eq_true rfl) t8 ?_
  exact gm_ev.vret i76_142 rfl
theorem c_X7_plan_58_ftt_at58 {N0 : Nat} {K : Nat → Nat} {d : Nat} {M : gm_H} {sz sl : Nat} {R : gm_R} {q : Nat} {u1 : Int32} {u2 : Int32} {u3 : Int32} {fso1 : List Value} {x2 : Int32} {r5 : Nat} {M7 : gm_H} {sz8 : Nat} {dd9 : Nat} {fso10 : List Value} {r11 : Int32} {M13 : gm_H} {sz14 : Nat} {dd15 : Nat} {fso17 : List Value} {M27 : gm_H} {sz28 : Nat} {dd29 : Nat} (ho1 : M q = some (.inr (7, fso1))) (f3 : fso1[2]? = some (.int x2)) (c4 : ¬ x2 ≤ u3) (t6 : gm_to N0 K ra_nm (ra_mt K) d 77 [.ref q, .int u3, .int u1, .int u2] M sz (.returned (some (.ref r5)), M7, sz8, dd9)) (ho10 : M7 r5 = some (.inr (5, fso10))) (t12 : gm_to N0 K ra_nm (ra_mt K) d 56 [.ref r5] M7 sz8 (.returned (some (.int r11)), M13, sz14, dd15)) (c16 : ¬ (r11 &&& u1) = 0) (ho17 : M13 r5 = some (.inr (5, fso17))) (hNr5 : N0 ≤ r5) (l18 : 5 < fso17.length) (c21 : ¬ (u2 &&& u1) = 0) (l22 : 6 < (fso17.set 5 (.int (0 : Int32))).length) (t26 : gm_to N0 K ra_nm (ra_mt K) d 59 [.ref r5, .int u1] (gm_set (gm_set M13 r5 (.inr (5, (fso17.set 5 (.int (0 : Int32)))))) r5 (.inr (5, ((fso17.set 5 (.int (0 : Int32))).set 6 (.int (0 : Int32)))))) sz14 (.returned none, M27, sz28, dd29)) (k : gm_ev N0 K ra_nm (ra_mt K) d none (gm_I cX7_plan) (gm_lkf (lkX7 false K)) 58 [some (.ref q), some (.int (u1 &&& ((r11 &&& u1) ^^^ (-1 : Int32)))), some (.int u2), some (.int (u3 + (1 : Int32))), none, none] [] M27 sz28 (((sl + dd9) + dd15) + dd29) R) : gm_ev N0 K ra_nm (ra_mt K) d none (gm_I cX7_plan) (gm_lkf (lkX7 false K)) 58 [some (.ref q), some (.int u1), some (.int u2), some (.int u3), none, none] [] M sz sl R := by
  refine gm_ev.iload_n i76_58 rfl ?_
  refine gm_ev.aload_n i76_59 rfl ?_
  refine gm_ev.getfield (v := .int x2) i76_60 rfl (gm_fld_of ho1 f3) ?_
  refine gm_ev.icmp_ge_f i76_63 c4 ?_
  refine gm_ev.aload_n i76_66 rfl ?_
  refine gm_ev.iload_n i76_67 rfl ?_
  refine gm_ev.iload_n i76_68 rfl ?_
  refine gm_ev.iload_n i76_69 rfl ?_
  refine gm_ev.callV gm_mono_run (av := [.int u3, .int u1, .int u2]) (r := []) (fs := fso1) ho1 i76_70 rfl rfl rfl (Nat.le_of_ble_eq_true rfl) t6 ?_
  refine gm_ev.astore (ls' := [some (.ref q), some (.int u1), some (.int u2), some (.int u3), some (.ref r5), none]) i76_73 (Nat.le_of_ble_eq_true rfl) rfl ?_
  refine gm_ev.aload i76_75 rfl ?_
  refine gm_ev.callV gm_mono_run (av := []) (r := []) (fs := fso10) ho10 i76_77 rfl rfl rfl (Nat.le_of_ble_eq_true rfl) t12 ?_
  refine gm_ev.iload_n i76_80 rfl ?_
  refine gm_ev.iand i76_81 ?_
  refine gm_ev.istore (ls' := [some (.ref q), some (.int u1), some (.int u2), some (.int u3), some (.ref r5), some (.int (r11 &&& u1))]) i76_82 (Nat.le_of_ble_eq_true rfl) rfl ?_
  refine gm_ev.aload i76_84 rfl ?_
  refine gm_ev.iload i76_86 rfl ?_
  refine gm_ev.if_ne_t (tgt := 95) i76_88 (by decide) c16 ?_
  refine gm_ev.iconst (v := 0) i76_95 (by decide) ?_
  refine gm_ev.putfield (M' := (gm_set M13 r5 (.inr (5, (fso17.set 5 (.int (0 : Int32))))))) i76_96 rfl (gm_put_of ho17 l18 hNr5 (gm_fit_z (by decide))) ?_
  have g19 : (fso17.set 5 (.int (0 : Int32)))[5]? = some (.int (0 : Int32)) := gm_fs_eq l18
  have w20 : (gm_set M13 r5 (.inr (5, (fso17.set 5 (.int (0 : Int32)))))) r5 = some (.inr (5, (fso17.set 5 (.int (0 : Int32))))) := gm_set_eq
  refine gm_ev.aload i76_99 rfl ?_
  refine gm_ev.iload_n i76_101 rfl ?_
  refine gm_ev.iload_n i76_102 rfl ?_
  refine gm_ev.iand i76_103 ?_
  refine gm_ev.if_ne_t (tgt := 111) i76_104 (by decide) c21 ?_
  refine gm_ev.iconst (v := 0) i76_111 (by decide) ?_
  refine gm_ev.putfield (M' := (gm_set (gm_set M13 r5 (.inr (5, (fso17.set 5 (.int (0 : Int32)))))) r5 (.inr (5, ((fso17.set 5 (.int (0 : Int32))).set 6 (.int (0 : Int32))))))) i76_112 rfl (gm_put_of w20 l22 hNr5 (gm_fit_z (by decide))) ?_
  have g23 : ((fso17.set 5 (.int (0 : Int32))).set 6 (.int (0 : Int32)))[5]? = some (.int (0 : Int32)) := (gm_fs_ne (by decide)).trans g19
  have g24 : ((fso17.set 5 (.int (0 : Int32))).set 6 (.int (0 : Int32)))[6]? = some (.int (0 : Int32)) := gm_fs_eq l22
  have w25 : (gm_set (gm_set M13 r5 (.inr (5, (fso17.set 5 (.int (0 : Int32)))))) r5 (.inr (5, ((fso17.set 5 (.int (0 : Int32))).set 6 (.int (0 : Int32)))))) r5 = some (.inr (5, ((fso17.set 5 (.int (0 : Int32))).set 6 (.int (0 : Int32))))) := gm_set_eq
  refine gm_ev.aload i76_115 rfl ?_
  refine gm_ev.iload_n i76_117 rfl ?_
  refine gm_ev.callV gm_mono_run (av := [.int u1]) (r := []) (fs := ((fso17.set 5 (.int (0 : Int32))).set 6 (.int (0 : Int32)))) w25 i76_118 rfl rfl rfl (Nat.le_of_ble_eq_true rfl) t26 ?_
  refine gm_ev.iload_n i76_121 rfl ?_
  refine gm_ev.iload i76_122 rfl ?_
  refine gm_ev.iconst (v := -1) i76_124 (by decide) ?_
  refine gm_ev.ixor i76_125 ?_
  refine gm_ev.iand i76_126 ?_
  refine gm_ev.istore_n (ls' := [some (.ref q), some (.int (u1 &&& ((r11 &&& u1) ^^^ (-1 : Int32)))), some (.int u2), some (.int u3), some (.ref r5), some (.int (r11 &&& u1))]) i76_127 (Nat.le_of_ble_eq_true rfl) rfl ?_
  refine gm_ev.iinc (v := u3 + (1 : Int32)) (ls' := [some (.ref q), some (.int (u1 &&& ((r11 &&& u1) ^^^ (-1 : Int32)))), some (.int u2), some (.int (u3 + (1 : Int32))), some (.ref r5), some (.int (r11 &&& u1))]) i76_128 rfl (by rfl) rfl ?_
  refine gm_ev.goto (tgt := 58) i76_131 (by decide) ?_
  refine gm_ev.le (a := [some (.ref q), some (.int (u1 &&& ((r11 &&& u1) ^^^ (-1 : Int32)))), some (.int u2), some (.int (u3 + (1 : Int32))), none, none]) (gm_leL.le (show gm_leL _ _ from ⟨rfl, ⟨rfl, ⟨rfl, ⟨rfl, trivial⟩⟩⟩⟩)) ?_
  exact k
theorem c_X7_plan_58_ftf_at58 {N0 : Nat} {K : Nat → Nat} {d : Nat} {M : gm_H} {sz sl : Nat} {R : gm_R} {q : Nat} {u1 : Int32} {u2 : Int32} {u3 : Int32} {fso1 : List Value} {x2 : Int32} {r5 : Nat} {M7 : gm_H} {sz8 : Nat} {dd9 : Nat} {fso10 : List Value} {r11 : Int32} {M13 : gm_H} {sz14 : Nat} {dd15 : Nat} {fso17 : List Value} {M27 : gm_H} {sz28 : Nat} {dd29 : Nat} (ho1 : M q = some (.inr (7, fso1))) (f3 : fso1[2]? = some (.int x2)) (c4 : ¬ x2 ≤ u3) (t6 : gm_to N0 K ra_nm (ra_mt K) d 77 [.ref q, .int u3, .int u1, .int u2] M sz (.returned (some (.ref r5)), M7, sz8, dd9)) (ho10 : M7 r5 = some (.inr (5, fso10))) (t12 : gm_to N0 K ra_nm (ra_mt K) d 56 [.ref r5] M7 sz8 (.returned (some (.int r11)), M13, sz14, dd15)) (c16 : ¬ (r11 &&& u1) = 0) (ho17 : M13 r5 = some (.inr (5, fso17))) (hNr5 : N0 ≤ r5) (l18 : 5 < fso17.length) (c21 : (u2 &&& u1) = 0) (l22 : 6 < (fso17.set 5 (.int (0 : Int32))).length) (t26 : gm_to N0 K ra_nm (ra_mt K) d 59 [.ref r5, .int u1] (gm_set (gm_set M13 r5 (.inr (5, (fso17.set 5 (.int (0 : Int32)))))) r5 (.inr (5, ((fso17.set 5 (.int (0 : Int32))).set 6 (.int (1 : Int32)))))) sz14 (.returned none, M27, sz28, dd29)) (k : gm_ev N0 K ra_nm (ra_mt K) d none (gm_I cX7_plan) (gm_lkf (lkX7 false K)) 58 [some (.ref q), some (.int (u1 &&& ((r11 &&& u1) ^^^ (-1 : Int32)))), some (.int u2), some (.int (u3 + (1 : Int32))), none, none] [] M27 sz28 (((sl + dd9) + dd15) + dd29) R) : gm_ev N0 K ra_nm (ra_mt K) d none (gm_I cX7_plan) (gm_lkf (lkX7 false K)) 58 [some (.ref q), some (.int u1), some (.int u2), some (.int u3), none, none] [] M sz sl R := by
  refine gm_ev.iload_n i76_58 rfl ?_
  refine gm_ev.aload_n i76_59 rfl ?_
  refine gm_ev.getfield (v := .int x2) i76_60 rfl (gm_fld_of ho1 f3) ?_
  refine gm_ev.icmp_ge_f i76_63 c4 ?_
  refine gm_ev.aload_n i76_66 rfl ?_
  refine gm_ev.iload_n i76_67 rfl ?_
  refine gm_ev.iload_n i76_68 rfl ?_
  refine gm_ev.iload_n i76_69 rfl ?_
  refine gm_ev.callV gm_mono_run (av := [.int u3, .int u1, .int u2]) (r := []) (fs := fso1) ho1 i76_70 rfl rfl rfl (Nat.le_of_ble_eq_true rfl) t6 ?_
  refine gm_ev.astore (ls' := [some (.ref q), some (.int u1), some (.int u2), some (.int u3), some (.ref r5), none]) i76_73 (Nat.le_of_ble_eq_true rfl) rfl ?_
  refine gm_ev.aload i76_75 rfl ?_
  refine gm_ev.callV gm_mono_run (av := []) (r := []) (fs := fso10) ho10 i76_77 rfl rfl rfl (Nat.le_of_ble_eq_true rfl) t12 ?_
  refine gm_ev.iload_n i76_80 rfl ?_
  refine gm_ev.iand i76_81 ?_
  refine gm_ev.istore (ls' := [some (.ref q), some (.int u1), some (.int u2), some (.int u3), some (.ref r5), some (.int (r11 &&& u1))]) i76_82 (Nat.le_of_ble_eq_true rfl) rfl ?_
  refine gm_ev.aload i76_84 rfl ?_
  refine gm_ev.iload i76_86 rfl ?_
  refine gm_ev.if_ne_t (tgt := 95) i76_88 (by decide) c16 ?_
  refine gm_ev.iconst (v := 0) i76_95 (by decide) ?_
  refine gm_ev.putfield (M' := (gm_set M13 r5 (.inr (5, (fso17.set 5 (.int (0 : Int32))))))) i76_96 rfl (gm_put_of ho17 l18 hNr5 (gm_fit_z (by decide))) ?_
  have g19 : (fso17.set 5 (.int (0 : Int32)))[5]? = some (.int (0 : Int32)) := gm_fs_eq l18
  have w20 : (gm_set M13 r5 (.inr (5, (fso17.set 5 (.int (0 : Int32)))))) r5 = some (.inr (5, (fso17.set 5 (.int (0 : Int32))))) := gm_set_eq
  refine gm_ev.aload i76_99 rfl ?_
  refine gm_ev.iload_n i76_101 rfl ?_
  refine gm_ev.iload_n i76_102 rfl ?_
  refine gm_ev.iand i76_103 ?_
  refine gm_ev.if_ne_f i76_104 c21 ?_
  refine gm_ev.iconst (v := 1) i76_107 (by decide) ?_
  refine gm_ev.goto (tgt := 112) i76_108 (by decide) ?_
  refine gm_ev.putfield (M' := (gm_set (gm_set M13 r5 (.inr (5, (fso17.set 5 (.int (0 : Int32)))))) r5 (.inr (5, ((fso17.set 5 (.int (0 : Int32))).set 6 (.int (1 : Int32))))))) i76_112 rfl (gm_put_of w20 l22 hNr5 (gm_fit_z (by decide))) ?_
  have g23 : ((fso17.set 5 (.int (0 : Int32))).set 6 (.int (1 : Int32)))[5]? = some (.int (0 : Int32)) := (gm_fs_ne (by decide)).trans g19
  have g24 : ((fso17.set 5 (.int (0 : Int32))).set 6 (.int (1 : Int32)))[6]? = some (.int (1 : Int32)) := gm_fs_eq l22
  have w25 : (gm_set (gm_set M13 r5 (.inr (5, (fso17.set 5 (.int (0 : Int32)))))) r5 (.inr (5, ((fso17.set 5 (.int (0 : Int32))).set 6 (.int (1 : Int32)))))) r5 = some (.inr (5, ((fso17.set 5 (.int (0 : Int32))).set 6 (.int (1 : Int32))))) := gm_set_eq
  refine gm_ev.aload i76_115 rfl ?_
  refine gm_ev.iload_n i76_117 rfl ?_
  refine gm_ev.callV gm_mono_run (av := [.int u1]) (r := []) (fs := ((fso17.set 5 (.int (0 : Int32))).set 6 (.int (1 : Int32)))) w25 i76_118 rfl rfl rfl (Nat.le_of_ble_eq_true rfl) t26 ?_
  refine gm_ev.iload_n i76_121 rfl ?_
  refine gm_ev.iload i76_122 rfl ?_
  refine gm_ev.iconst (v := -1) i76_124 (by decide) ?_
  refine gm_ev.ixor i76_125 ?_
  refine gm_ev.iand i76_126 ?_
  refine gm_ev.istore_n (ls' := [some (.ref q), some (.int (u1 &&& ((r11 &&& u1) ^^^ (-1 : Int32)))), some (.int u2), some (.int u3), some (.ref r5), some (.int (r11 &&& u1))]) i76_127 (Nat.le_of_ble_eq_true rfl) rfl ?_
  refine gm_ev.iinc (v := u3 + (1 : Int32)) (ls' := [some (.ref q), some (.int (u1 &&& ((r11 &&& u1) ^^^ (-1 : Int32)))), some (.int u2), some (.int (u3 + (1 : Int32))), some (.ref r5), some (.int (r11 &&& u1))]) i76_128 rfl (by rfl) rfl ?_
  refine gm_ev.goto (tgt := 58) i76_131 (by decide) ?_
  refine gm_ev.le (a := [some (.ref q), some (.int (u1 &&& ((r11 &&& u1) ^^^ (-1 : Int32)))), some (.int u2), some (.int (u3 + (1 : Int32))), none, none]) (gm_leL.le (show gm_leL _ _ from ⟨rfl, ⟨rfl, ⟨rfl, ⟨rfl, trivial⟩⟩⟩⟩)) ?_
  exact k
theorem c_X7_plan_58_fft_at58 {N0 : Nat} {K : Nat → Nat} {d : Nat} {M : gm_H} {sz sl : Nat} {R : gm_R} {q : Nat} {u1 : Int32} {u2 : Int32} {u3 : Int32} {fso1 : List Value} {x2 : Int32} {r5 : Nat} {M7 : gm_H} {sz8 : Nat} {dd9 : Nat} {fso10 : List Value} {r11 : Int32} {M13 : gm_H} {sz14 : Nat} {dd15 : Nat} {fso17 : List Value} {M27 : gm_H} {sz28 : Nat} {dd29 : Nat} (ho1 : M q = some (.inr (7, fso1))) (f3 : fso1[2]? = some (.int x2)) (c4 : ¬ x2 ≤ u3) (t6 : gm_to N0 K ra_nm (ra_mt K) d 77 [.ref q, .int u3, .int u1, .int u2] M sz (.returned (some (.ref r5)), M7, sz8, dd9)) (ho10 : M7 r5 = some (.inr (5, fso10))) (t12 : gm_to N0 K ra_nm (ra_mt K) d 56 [.ref r5] M7 sz8 (.returned (some (.int r11)), M13, sz14, dd15)) (c16 : (r11 &&& u1) = 0) (ho17 : M13 r5 = some (.inr (5, fso17))) (hNr5 : N0 ≤ r5) (l18 : 5 < fso17.length) (c21 : ¬ (u2 &&& u1) = 0) (l22 : 6 < (fso17.set 5 (.int (1 : Int32))).length) (t26 : gm_to N0 K ra_nm (ra_mt K) d 59 [.ref r5, .int u1] (gm_set (gm_set M13 r5 (.inr (5, (fso17.set 5 (.int (1 : Int32)))))) r5 (.inr (5, ((fso17.set 5 (.int (1 : Int32))).set 6 (.int (0 : Int32)))))) sz14 (.returned none, M27, sz28, dd29)) (k : gm_ev N0 K ra_nm (ra_mt K) d none (gm_I cX7_plan) (gm_lkf (lkX7 false K)) 58 [some (.ref q), some (.int (u1 &&& ((r11 &&& u1) ^^^ (-1 : Int32)))), some (.int u2), some (.int (u3 + (1 : Int32))), none, none] [] M27 sz28 (((sl + dd9) + dd15) + dd29) R) : gm_ev N0 K ra_nm (ra_mt K) d none (gm_I cX7_plan) (gm_lkf (lkX7 false K)) 58 [some (.ref q), some (.int u1), some (.int u2), some (.int u3), none, none] [] M sz sl R := by
  refine gm_ev.iload_n i76_58 rfl ?_
  refine gm_ev.aload_n i76_59 rfl ?_
  refine gm_ev.getfield (v := .int x2) i76_60 rfl (gm_fld_of ho1 f3) ?_
  refine gm_ev.icmp_ge_f i76_63 c4 ?_
  refine gm_ev.aload_n i76_66 rfl ?_
  refine gm_ev.iload_n i76_67 rfl ?_
  refine gm_ev.iload_n i76_68 rfl ?_
  refine gm_ev.iload_n i76_69 rfl ?_
  refine gm_ev.callV gm_mono_run (av := [.int u3, .int u1, .int u2]) (r := []) (fs := fso1) ho1 i76_70 rfl rfl rfl (Nat.le_of_ble_eq_true rfl) t6 ?_
  refine gm_ev.astore (ls' := [some (.ref q), some (.int u1), some (.int u2), some (.int u3), some (.ref r5), none]) i76_73 (Nat.le_of_ble_eq_true rfl) rfl ?_
  refine gm_ev.aload i76_75 rfl ?_
  refine gm_ev.callV gm_mono_run (av := []) (r := []) (fs := fso10) ho10 i76_77 rfl rfl rfl (Nat.le_of_ble_eq_true rfl) t12 ?_
  refine gm_ev.iload_n i76_80 rfl ?_
  refine gm_ev.iand i76_81 ?_
  refine gm_ev.istore (ls' := [some (.ref q), some (.int u1), some (.int u2), some (.int u3), some (.ref r5), some (.int (r11 &&& u1))]) i76_82 (Nat.le_of_ble_eq_true rfl) rfl ?_
  refine gm_ev.aload i76_84 rfl ?_
  refine gm_ev.iload i76_86 rfl ?_
  refine gm_ev.if_ne_f i76_88 c16 ?_
  refine gm_ev.iconst (v := 1) i76_91 (by decide) ?_
  refine gm_ev.goto (tgt := 96) i76_92 (by decide) ?_
  refine gm_ev.putfield (M' := (gm_set M13 r5 (.inr (5, (fso17.set 5 (.int (1 : Int32))))))) i76_96 rfl (gm_put_of ho17 l18 hNr5 (gm_fit_z (by decide))) ?_
  have g19 : (fso17.set 5 (.int (1 : Int32)))[5]? = some (.int (1 : Int32)) := gm_fs_eq l18
  have w20 : (gm_set M13 r5 (.inr (5, (fso17.set 5 (.int (1 : Int32)))))) r5 = some (.inr (5, (fso17.set 5 (.int (1 : Int32))))) := gm_set_eq
  refine gm_ev.aload i76_99 rfl ?_
  refine gm_ev.iload_n i76_101 rfl ?_
  refine gm_ev.iload_n i76_102 rfl ?_
  refine gm_ev.iand i76_103 ?_
  refine gm_ev.if_ne_t (tgt := 111) i76_104 (by decide) c21 ?_
  refine gm_ev.iconst (v := 0) i76_111 (by decide) ?_
  refine gm_ev.putfield (M' := (gm_set (gm_set M13 r5 (.inr (5, (fso17.set 5 (.int (1 : Int32)))))) r5 (.inr (5, ((fso17.set 5 (.int (1 : Int32))).set 6 (.int (0 : Int32))))))) i76_112 rfl (gm_put_of w20 l22 hNr5 (gm_fit_z (by decide))) ?_
  have g23 : ((fso17.set 5 (.int (1 : Int32))).set 6 (.int (0 : Int32)))[5]? = some (.int (1 : Int32)) := (gm_fs_ne (by decide)).trans g19
  have g24 : ((fso17.set 5 (.int (1 : Int32))).set 6 (.int (0 : Int32)))[6]? = some (.int (0 : Int32)) := gm_fs_eq l22
  have w25 : (gm_set (gm_set M13 r5 (.inr (5, (fso17.set 5 (.int (1 : Int32)))))) r5 (.inr (5, ((fso17.set 5 (.int (1 : Int32))).set 6 (.int (0 : Int32)))))) r5 = some (.inr (5, ((fso17.set 5 (.int (1 : Int32))).set 6 (.int (0 : Int32))))) := gm_set_eq
  refine gm_ev.aload i76_115 rfl ?_
  refine gm_ev.iload_n i76_117 rfl ?_
  refine gm_ev.callV gm_mono_run (av := [.int u1]) (r := []) (fs := ((fso17.set 5 (.int (1 : Int32))).set 6 (.int (0 : Int32)))) w25 i76_118 rfl rfl rfl (Nat.le_of_ble_eq_true rfl) t26 ?_
  refine gm_ev.iload_n i76_121 rfl ?_
  refine gm_ev.iload i76_122 rfl ?_
  refine gm_ev.iconst (v := -1) i76_124 (by decide) ?_
  refine gm_ev.ixor i76_125 ?_
  refine gm_ev.iand i76_126 ?_
  refine gm_ev.istore_n (ls' := [some (.ref q), some (.int (u1 &&& ((r11 &&& u1) ^^^ (-1 : Int32)))), some (.int u2), some (.int u3), some (.ref r5), some (.int (r11 &&& u1))]) i76_127 (Nat.le_of_ble_eq_true rfl) rfl ?_
  refine gm_ev.iinc (v := u3 + (1 : Int32)) (ls' := [some (.ref q), some (.int (u1 &&& ((r11 &&& u1) ^^^ (-1 : Int32)))), some (.int u2), some (.int (u3 + (1 : Int32))), some (.ref r5), some (.int (r11 &&& u1))]) i76_128 rfl (by rfl) rfl ?_
  refine gm_ev.goto (tgt := 58) i76_131 (by decide) ?_
  refine gm_ev.le (a := [some (.ref q), some (.int (u1 &&& ((r11 &&& u1) ^^^ (-1 : Int32)))), some (.int u2), some (.int (u3 + (1 : Int32))), none, none]) (gm_leL.le (show gm_leL _ _ from ⟨rfl, ⟨rfl, ⟨rfl, ⟨rfl, trivial⟩⟩⟩⟩)) ?_
  exact k
theorem c_X7_plan_58_fff_at58 {N0 : Nat} {K : Nat → Nat} {d : Nat} {M : gm_H} {sz sl : Nat} {R : gm_R} {q : Nat} {u1 : Int32} {u2 : Int32} {u3 : Int32} {fso1 : List Value} {x2 : Int32} {r5 : Nat} {M7 : gm_H} {sz8 : Nat} {dd9 : Nat} {fso10 : List Value} {r11 : Int32} {M13 : gm_H} {sz14 : Nat} {dd15 : Nat} {fso17 : List Value} {M27 : gm_H} {sz28 : Nat} {dd29 : Nat} (ho1 : M q = some (.inr (7, fso1))) (f3 : fso1[2]? = some (.int x2)) (c4 : ¬ x2 ≤ u3) (t6 : gm_to N0 K ra_nm (ra_mt K) d 77 [.ref q, .int u3, .int u1, .int u2] M sz (.returned (some (.ref r5)), M7, sz8, dd9)) (ho10 : M7 r5 = some (.inr (5, fso10))) (t12 : gm_to N0 K ra_nm (ra_mt K) d 56 [.ref r5] M7 sz8 (.returned (some (.int r11)), M13, sz14, dd15)) (c16 : (r11 &&& u1) = 0) (ho17 : M13 r5 = some (.inr (5, fso17))) (hNr5 : N0 ≤ r5) (l18 : 5 < fso17.length) (c21 : (u2 &&& u1) = 0) (l22 : 6 < (fso17.set 5 (.int (1 : Int32))).length) (t26 : gm_to N0 K ra_nm (ra_mt K) d 59 [.ref r5, .int u1] (gm_set (gm_set M13 r5 (.inr (5, (fso17.set 5 (.int (1 : Int32)))))) r5 (.inr (5, ((fso17.set 5 (.int (1 : Int32))).set 6 (.int (1 : Int32)))))) sz14 (.returned none, M27, sz28, dd29)) (k : gm_ev N0 K ra_nm (ra_mt K) d none (gm_I cX7_plan) (gm_lkf (lkX7 false K)) 58 [some (.ref q), some (.int (u1 &&& ((r11 &&& u1) ^^^ (-1 : Int32)))), some (.int u2), some (.int (u3 + (1 : Int32))), none, none] [] M27 sz28 (((sl + dd9) + dd15) + dd29) R) : gm_ev N0 K ra_nm (ra_mt K) d none (gm_I cX7_plan) (gm_lkf (lkX7 false K)) 58 [some (.ref q), some (.int u1), some (.int u2), some (.int u3), none, none] [] M sz sl R := by
  refine gm_ev.iload_n i76_58 rfl ?_
  refine gm_ev.aload_n i76_59 rfl ?_
  refine gm_ev.getfield (v := .int x2) i76_60 rfl (gm_fld_of ho1 f3) ?_
  refine gm_ev.icmp_ge_f i76_63 c4 ?_
  refine gm_ev.aload_n i76_66 rfl ?_
  refine gm_ev.iload_n i76_67 rfl ?_
  refine gm_ev.iload_n i76_68 rfl ?_
  refine gm_ev.iload_n i76_69 rfl ?_
  refine gm_ev.callV gm_mono_run (av := [.int u3, .int u1, .int u2]) (r := []) (fs := fso1) ho1 i76_70 rfl rfl rfl (Nat.le_of_ble_eq_true rfl) t6 ?_
  refine gm_ev.astore (ls' := [some (.ref q), some (.int u1), some (.int u2), some (.int u3), some (.ref r5), none]) i76_73 (Nat.le_of_ble_eq_true rfl) rfl ?_
  refine gm_ev.aload i76_75 rfl ?_
  refine gm_ev.callV gm_mono_run (av := []) (r := []) (fs := fso10) ho10 i76_77 rfl rfl rfl (Nat.le_of_ble_eq_true rfl) t12 ?_
  refine gm_ev.iload_n i76_80 rfl ?_
  refine gm_ev.iand i76_81 ?_
  refine gm_ev.istore (ls' := [some (.ref q), some (.int u1), some (.int u2), some (.int u3), some (.ref r5), some (.int (r11 &&& u1))]) i76_82 (Nat.le_of_ble_eq_true rfl) rfl ?_
  refine gm_ev.aload i76_84 rfl ?_
  refine gm_ev.iload i76_86 rfl ?_
  refine gm_ev.if_ne_f i76_88 c16 ?_
  refine gm_ev.iconst (v := 1) i76_91 (by decide) ?_
  refine gm_ev.goto (tgt := 96) i76_92 (by decide) ?_
  refine gm_ev.putfield (M' := (gm_set M13 r5 (.inr (5, (fso17.set 5 (.int (1 : Int32))))))) i76_96 rfl (gm_put_of ho17 l18 hNr5 (gm_fit_z (by decide))) ?_
  have g19 : (fso17.set 5 (.int (1 : Int32)))[5]? = some (.int (1 : Int32)) := gm_fs_eq l18
  have w20 : (gm_set M13 r5 (.inr (5, (fso17.set 5 (.int (1 : Int32)))))) r5 = some (.inr (5, (fso17.set 5 (.int (1 : Int32))))) := gm_set_eq
  refine gm_ev.aload i76_99 rfl ?_
  refine gm_ev.iload_n i76_101 rfl ?_
  refine gm_ev.iload_n i76_102 rfl ?_
  refine gm_ev.iand i76_103 ?_
  refine gm_ev.if_ne_f i76_104 c21 ?_
  refine gm_ev.iconst (v := 1) i76_107 (by decide) ?_
  refine gm_ev.goto (tgt := 112) i76_108 (by decide) ?_
  refine gm_ev.putfield (M' := (gm_set (gm_set M13 r5 (.inr (5, (fso17.set 5 (.int (1 : Int32)))))) r5 (.inr (5, ((fso17.set 5 (.int (1 : Int32))).set 6 (.int (1 : Int32))))))) i76_112 rfl (gm_put_of w20 l22 hNr5 (gm_fit_z (by decide))) ?_
  have g23 : ((fso17.set 5 (.int (1 : Int32))).set 6 (.int (1 : Int32)))[5]? = some (.int (1 : Int32)) := (gm_fs_ne (by decide)).trans g19
  have g24 : ((fso17.set 5 (.int (1 : Int32))).set 6 (.int (1 : Int32)))[6]? = some (.int (1 : Int32)) := gm_fs_eq l22
  have w25 : (gm_set (gm_set M13 r5 (.inr (5, (fso17.set 5 (.int (1 : Int32)))))) r5 (.inr (5, ((fso17.set 5 (.int (1 : Int32))).set 6 (.int (1 : Int32)))))) r5 = some (.inr (5, ((fso17.set 5 (.int (1 : Int32))).set 6 (.int (1 : Int32))))) := gm_set_eq
  refine gm_ev.aload i76_115 rfl ?_
  refine gm_ev.iload_n i76_117 rfl ?_
  refine gm_ev.callV gm_mono_run (av := [.int u1]) (r := []) (fs := ((fso17.set 5 (.int (1 : Int32))).set 6 (.int (1 : Int32)))) w25 i76_118 rfl rfl rfl (Nat.le_of_ble_eq_true rfl) t26 ?_
  refine gm_ev.iload_n i76_121 rfl ?_
  refine gm_ev.iload i76_122 rfl ?_
  refine gm_ev.iconst (v := -1) i76_124 (by decide) ?_
  refine gm_ev.ixor i76_125 ?_
  refine gm_ev.iand i76_126 ?_
  refine gm_ev.istore_n (ls' := [some (.ref q), some (.int (u1 &&& ((r11 &&& u1) ^^^ (-1 : Int32)))), some (.int u2), some (.int u3), some (.ref r5), some (.int (r11 &&& u1))]) i76_127 (Nat.le_of_ble_eq_true rfl) rfl ?_
  refine gm_ev.iinc (v := u3 + (1 : Int32)) (ls' := [some (.ref q), some (.int (u1 &&& ((r11 &&& u1) ^^^ (-1 : Int32)))), some (.int u2), some (.int (u3 + (1 : Int32))), some (.ref r5), some (.int (r11 &&& u1))]) i76_128 rfl (by rfl) rfl ?_
  refine gm_ev.goto (tgt := 58) i76_131 (by decide) ?_
  refine gm_ev.le (a := [some (.ref q), some (.int (u1 &&& ((r11 &&& u1) ^^^ (-1 : Int32)))), some (.int u2), some (.int (u3 + (1 : Int32))), none, none]) (gm_leL.le (show gm_leL _ _ from ⟨rfl, ⟨rfl, ⟨rfl, ⟨rfl, trivial⟩⟩⟩⟩)) ?_
  exact k
theorem c_X7_bring_0__at9 {N0 : Nat} {K : Nat → Nat} {d : Nat} {M : gm_H} {sz sl : Nat} {R : gm_R} {q : Nat} {p0 : Int32} {p1 : Int32} {p2 : Int32}  (k : gm_ev N0 K ra_nm (ra_mt K) d (some (.object "RuleArena$Literal")) (gm_I cX7_bring) (gm_lkf (lkX7 false K)) 9 [some (.ref q), some (.int p0), some (.int p1), some (.int p2), some (.int p0), some (.int (-1 : Int32)), some (.int p0), none] [] M sz sl R) : gm_ev N0 K ra_nm (ra_mt K) d (some (.object "RuleArena$Literal")) (gm_I cX7_bring) (gm_lkf (lkX7 false K)) 0 [some (.ref q), some (.int p0), some (.int p1), some (.int p2), none, none, none, none] [] M sz sl R := by
  refine gm_ev.iload_n i77_0 rfl ?_
  refine gm_ev.istore (ls' := [some (.ref q), some (.int p0), some (.int p1), some (.int p2), some (.int p0), none, none, none]) i77_1 (Nat.le_of_ble_eq_true rfl) rfl ?_
  refine gm_ev.iconst (v := -1) i77_3 (by decide) ?_
  refine gm_ev.istore (ls' := [some (.ref q), some (.int p0), some (.int p1), some (.int p2), some (.int p0), some (.int (-1 : Int32)), none, none]) i77_4 (Nat.le_of_ble_eq_true rfl) rfl ?_
  refine gm_ev.iload_n i77_6 rfl ?_
  refine gm_ev.istore (ls' := [some (.ref q), some (.int p0), some (.int p1), some (.int p2), some (.int p0), some (.int (-1 : Int32)), some (.int p0), none]) i77_7 (Nat.le_of_ble_eq_true rfl) rfl ?_
  exact k
theorem c_X7_bring_9_t_at66 {N0 : Nat} {K : Nat → Nat} {d : Nat} {M : gm_H} {sz sl : Nat} {R : gm_R} {q : Nat} {u1 : Int32} {u2 : Int32} {u3 : Int32} {u4 : Int32} {u5 : Int32} {u6 : Int32} {fso1 : List Value} {x2 : Int32} {r5 : Nat} {na7 : Nat} {fa7 : Nat → Option Nat} {k8 : Nat} {r9 : Nat} (ho1 : M q = some (.inr (7, fso1))) (f3 : fso1[2]? = some (.int x2)) (c4 : x2 ≤ u6) (f6 : fso1[1]? = some (.ref r5)) (ha7 : M r5 = some (.inl (.object "RuleArena$Literal", na7, .inr (.inr (.inr (.inr fa7)))))) (ba7 : na7 < 2 ^ 31) (ek8 : u4 = nI k8) (lk8 : k8 < na7) (qk8 : fa7 k8 = some r9) (k : gm_ev N0 K ra_nm (ra_mt K) d (some (.object "RuleArena$Literal")) (gm_I cX7_bring) (gm_lkf (lkX7 false K)) 66 [some (.ref q), some (.int u1), none, none, none, none, some (.ref r9), some (.int u4)] [] M sz sl R) : gm_ev N0 K ra_nm (ra_mt K) d (some (.object "RuleArena$Literal")) (gm_I cX7_bring) (gm_lkf (lkX7 false K)) 9 [some (.ref q), some (.int u1), some (.int u2), some (.int u3), some (.int u4), some (.int u5), some (.int u6), none] [] M sz sl R := by
  refine gm_ev.iload i77_9 rfl ?_
  refine gm_ev.aload_n i77_11 rfl ?_
  refine gm_ev.getfield (v := .int x2) i77_12 rfl (gm_fld_of ho1 f3) ?_
  refine gm_ev.icmp_ge_t (tgt := 53) i77_15 (by decide) c4 ?_
  refine gm_ev.aload_n i77_53 rfl ?_
  refine gm_ev.getfield (v := .ref r5) i77_54 rfl (gm_fld_of ho1 f6) ?_
  refine gm_ev.iload i77_57 rfl ?_
  refine gm_ev.aaload (x := some r9) i77_59 (gm_aq_of ha7 ek8 lk8 ba7 qk8) ?_
  refine gm_ev.astore (ls' := [some (.ref q), some (.int u1), some (.int u2), some (.int u3), some (.int u4), some (.int u5), some (.ref r9), none]) i77_60 (Nat.le_of_ble_eq_true rfl) rfl ?_
  refine gm_ev.iload i77_62 rfl ?_
  refine gm_ev.istore (ls' := [some (.ref q), some (.int u1), some (.int u2), some (.int u3), some (.int u4), some (.int u5), some (.ref r9), some (.int u4)]) i77_64 (Nat.le_of_ble_eq_true rfl) rfl ?_
  refine gm_ev.le (a := [some (.ref q), some (.int u1), none, none, none, none, some (.ref r9), some (.int u4)]) (gm_leL.le (show gm_leL _ _ from ⟨rfl, ⟨rfl, ⟨rfl, ⟨rfl, trivial⟩⟩⟩⟩)) ?_
  exact k
theorem c_X7_bring_9_ft_at9 {N0 : Nat} {K : Nat → Nat} {d : Nat} {M : gm_H} {sz sl : Nat} {R : gm_R} {q : Nat} {u1 : Int32} {u2 : Int32} {u3 : Int32} {u4 : Int32} {u5 : Int32} {u6 : Int32} {fso1 : List Value} {x2 : Int32} {r5 : Nat} {na7 : Nat} {fa7 : Nat → Option Nat} {k8 : Nat} {r9 : Nat} {r10 : Int32} {M12 : gm_H} {sz13 : Nat} {dd14 : Nat} (ho1 : M q = some (.inr (7, fso1))) (f3 : fso1[2]? = some (.int x2)) (c4 : ¬ x2 ≤ u6) (f6 : fso1[1]? = some (.ref r5)) (ha7 : M r5 = some (.inl (.object "RuleArena$Literal", na7, .inr (.inr (.inr (.inr fa7)))))) (ba7 : na7 < 2 ^ 31) (ek8 : u6 = nI k8) (lk8 : k8 < na7) (qk8 : fa7 k8 = some r9) (t11 : gm_to N0 K ra_nm (ra_mt K) d 78 [.ref r9, .int u2, .int u3] M sz (.returned (some (.int r10)), M12, sz13, dd14)) (c15 : r10 ≤ u5) (k : gm_ev N0 K ra_nm (ra_mt K) d (some (.object "RuleArena$Literal")) (gm_I cX7_bring) (gm_lkf (lkX7 false K)) 9 [some (.ref q), some (.int u1), some (.int u2), some (.int u3), some (.int u4), some (.int u5), some (.int (u6 + (1 : Int32))), none] [] M12 sz13 (sl + dd14) R) : gm_ev N0 K ra_nm (ra_mt K) d (some (.object "RuleArena$Literal")) (gm_I cX7_bring) (gm_lkf (lkX7 false K)) 9 [some (.ref q), some (.int u1), some (.int u2), some (.int u3), some (.int u4), some (.int u5), some (.int u6), none] [] M sz sl R := by
  refine gm_ev.iload i77_9 rfl ?_
  refine gm_ev.aload_n i77_11 rfl ?_
  refine gm_ev.getfield (v := .int x2) i77_12 rfl (gm_fld_of ho1 f3) ?_
  refine gm_ev.icmp_ge_f i77_15 c4 ?_
  refine gm_ev.aload_n i77_18 rfl ?_
  refine gm_ev.getfield (v := .ref r5) i77_19 rfl (gm_fld_of ho1 f6) ?_
  refine gm_ev.iload i77_22 rfl ?_
  refine gm_ev.aaload (x := some r9) i77_24 (gm_aq_of ha7 ek8 lk8 ba7 qk8) ?_
  refine gm_ev.iload_n i77_25 rfl ?_
  refine gm_ev.iload_n i77_26 rfl ?_
  refine gm_ev.callS gm_mono_run (av := [.ref r9, .int u2, .int u3]) (r := []) i77_27 rfl rfl rfl (Nat.le_of_ble_eq_true rfl) t11 ?_
  refine gm_ev.istore (ls' := [some (.ref q), some (.int u1), some (.int u2), some (.int u3), some (.int u4), some (.int u5), some (.int u6), some (.int r10)]) i77_30 (Nat.le_of_ble_eq_true rfl) rfl ?_
  refine gm_ev.iload i77_32 rfl ?_
  refine gm_ev.iload i77_34 rfl ?_
  refine gm_ev.icmp_le_t (tgt := 47) i77_36 (by decide) c15 ?_
  refine gm_ev.iinc (v := u6 + (1 : Int32)) (ls' := [some (.ref q), some (.int u1), some (.int u2), some (.int u3), some (.int u4), some (.int u5), some (.int (u6 + (1 : Int32))), some (.int r10)]) i77_47 rfl (by rfl) rfl ?_
  refine gm_ev.goto (tgt := 9) i77_50 (by decide) ?_
  refine gm_ev.le (a := [some (.ref q), some (.int u1), some (.int u2), some (.int u3), some (.int u4), some (.int u5), some (.int (u6 + (1 : Int32))), none]) (gm_leL.le (show gm_leL _ _ from ⟨rfl, ⟨rfl, ⟨rfl, ⟨rfl, ⟨rfl, ⟨rfl, ⟨rfl, trivial⟩⟩⟩⟩⟩⟩⟩)) ?_
  exact k
theorem c_X7_bring_9_ff_at9 {N0 : Nat} {K : Nat → Nat} {d : Nat} {M : gm_H} {sz sl : Nat} {R : gm_R} {q : Nat} {u1 : Int32} {u2 : Int32} {u3 : Int32} {u4 : Int32} {u5 : Int32} {u6 : Int32} {fso1 : List Value} {x2 : Int32} {r5 : Nat} {na7 : Nat} {fa7 : Nat → Option Nat} {k8 : Nat} {r9 : Nat} {r10 : Int32} {M12 : gm_H} {sz13 : Nat} {dd14 : Nat} (ho1 : M q = some (.inr (7, fso1))) (f3 : fso1[2]? = some (.int x2)) (c4 : ¬ x2 ≤ u6) (f6 : fso1[1]? = some (.ref r5)) (ha7 : M r5 = some (.inl (.object "RuleArena$Literal", na7, .inr (.inr (.inr (.inr fa7)))))) (ba7 : na7 < 2 ^ 31) (ek8 : u6 = nI k8) (lk8 : k8 < na7) (qk8 : fa7 k8 = some r9) (t11 : gm_to N0 K ra_nm (ra_mt K) d 78 [.ref r9, .int u2, .int u3] M sz (.returned (some (.int r10)), M12, sz13, dd14)) (c15 : ¬ r10 ≤ u5) (k : gm_ev N0 K ra_nm (ra_mt K) d (some (.object "RuleArena$Literal")) (gm_I cX7_bring) (gm_lkf (lkX7 false K)) 9 [some (.ref q), some (.int u1), some (.int u2), some (.int u3), some (.int u6), some (.int r10), some (.int (u6 + (1 : Int32))), none] [] M12 sz13 (sl + dd14) R) : gm_ev N0 K ra_nm (ra_mt K) d (some (.object "RuleArena$Literal")) (gm_I cX7_bring) (gm_lkf (lkX7 false K)) 9 [some (.ref q), some (.int u1), some (.int u2), some (.int u3), some (.int u4), some (.int u5), some (.int u6), none] [] M sz sl R := by
  refine gm_ev.iload i77_9 rfl ?_
  refine gm_ev.aload_n i77_11 rfl ?_
  refine gm_ev.getfield (v := .int x2) i77_12 rfl (gm_fld_of ho1 f3) ?_
  refine gm_ev.icmp_ge_f i77_15 c4 ?_
  refine gm_ev.aload_n i77_18 rfl ?_
  refine gm_ev.getfield (v := .ref r5) i77_19 rfl (gm_fld_of ho1 f6) ?_
  refine gm_ev.iload i77_22 rfl ?_
  refine gm_ev.aaload (x := some r9) i77_24 (gm_aq_of ha7 ek8 lk8 ba7 qk8) ?_
  refine gm_ev.iload_n i77_25 rfl ?_
  refine gm_ev.iload_n i77_26 rfl ?_
  refine gm_ev.callS gm_mono_run (av := [.ref r9, .int u2, .int u3]) (r := []) i77_27 rfl rfl rfl (Nat.le_of_ble_eq_true rfl) t11 ?_
  refine gm_ev.istore (ls' := [some (.ref q), some (.int u1), some (.int u2), some (.int u3), some (.int u4), some (.int u5), some (.int u6), some (.int r10)]) i77_30 (Nat.le_of_ble_eq_true rfl) rfl ?_
  refine gm_ev.iload i77_32 rfl ?_
  refine gm_ev.iload i77_34 rfl ?_
  refine gm_ev.icmp_le_f i77_36 c15 ?_
  refine gm_ev.iload i77_39 rfl ?_
  refine gm_ev.istore (ls' := [some (.ref q), some (.int u1), some (.int u2), some (.int u3), some (.int u4), some (.int r10), some (.int u6), some (.int r10)]) i77_41 (Nat.le_of_ble_eq_true rfl) rfl ?_
  refine gm_ev.iload i77_43 rfl ?_
  refine gm_ev.istore (ls' := [some (.ref q), some (.int u1), some (.int u2), some (.int u3), some (.int u6), some (.int r10), some (.int u6), some (.int r10)]) i77_45 (Nat.le_of_ble_eq_true rfl) rfl ?_
  refine gm_ev.iinc (v := u6 + (1 : Int32)) (ls' := [some (.ref q), some (.int u1), some (.int u2), some (.int u3), some (.int u6), some (.int r10), some (.int (u6 + (1 : Int32))), some (.int r10)]) i77_47 rfl (by rfl) rfl ?_
  refine gm_ev.goto (tgt := 9) i77_50 (by decide) ?_
  refine gm_ev.le (a := [some (.ref q), some (.int u1), some (.int u2), some (.int u3), some (.int u6), some (.int r10), some (.int (u6 + (1 : Int32))), none]) (gm_leL.le (show gm_leL _ _ from ⟨rfl, ⟨rfl, ⟨rfl, ⟨rfl, ⟨rfl, ⟨rfl, ⟨rfl, trivial⟩⟩⟩⟩⟩⟩⟩)) ?_
  exact k
theorem c_X7_bring_66_t {N0 : Nat} {K : Nat → Nat} {d : Nat} {M : gm_H} {sz sl : Nat} {q : Nat} {u1 : Int32} {a6 : Nat} {u7 : Int32} {fso2 : List Value} {r3 : Nat} {na5 : Nat} {fa5 : Nat → Option Nat} {k6 : Nat} {fso7 : List Value} (c1 : u7 ≤ u1) (ho2 : M q = some (.inr (7, fso2))) (f4 : fso2[1]? = some (.ref r3)) (ha5 : M r3 = some (.inl (.object "RuleArena$Literal", na5, .inr (.inr (.inr (.inr fa5)))))) (ba5 : na5 < 2 ^ 31) (hNr3 : N0 ≤ r3) (ek6 : u1 = nI k6) (lk6 : k6 < na5) (ho7 : M a6 = some (.inr (5, fso7))) : gm_ev N0 K ra_nm (ra_mt K) d (some (.object "RuleArena$Literal")) (gm_I cX7_bring) (gm_lkf (lkX7 false K)) 66 [some (.ref q), some (.int u1), none, none, none, none, some (.ref a6), some (.int u7)] [] M sz sl (.returned (some (.ref a6)), (gm_set M r3 (.inl (.object "RuleArena$Literal", na5, .inr (.inr (.inr (.inr (va_up fa5 k6 (some a6)))))))), sz, sl) := by
  refine gm_ev.iload i77_66 rfl ?_
  refine gm_ev.iload_n i77_68 rfl ?_
  refine gm_ev.icmp_le_t (tgt := 94) i77_69 (by decide) c1 ?_
  refine gm_ev.aload_n i77_94 rfl ?_
  refine gm_ev.getfield (v := .ref r3) i77_95 rfl (gm_fld_of ho2 f4) ?_
  refine gm_ev.iload_n i77_98 rfl ?_
  refine gm_ev.aload i77_99 rfl ?_
  refine gm_ev.aastore (M' := (gm_set M r3 (.inl (.object "RuleArena$Literal", na5, .inr (.inr (.inr (.inr (va_up fa5 k6 (some a6))))))))) i77_101 (gm_astq_of ha5 ek6 lk6 ba5 hNr3 ho7 rfl) ?_
  have w8 : (gm_set M r3 (.inl (.object "RuleArena$Literal", na5, .inr (.inr (.inr (.inr (va_up fa5 k6 (some a6)))))))) q = some (.inr (7, fso2)) := (gm_set_ne (gm_ne_oa ho2 ha5)).trans ho2
  have w9 : (gm_set M r3 (.inl (.object "RuleArena$Literal", na5, .inr (.inr (.inr (.inr (va_up fa5 k6 (some a6)))))))) a6 = some (.inr (5, fso7)) := (gm_set_ne (gm_ne_oa ho7 ha5)).trans ho7
  have w10 : (gm_set M r3 (.inl (.object "RuleArena$Literal", na5, .inr (.inr (.inr (.inr (va_up fa5 k6 (some a6)))))))) r3 = some (.inl (.object "RuleArena$Literal", na5, .inr (.inr (.inr (.inr (va_up fa5 k6 (some a6))))))) := gm_set_eq
  refine gm_ev.aload i77_102 rfl ?_
  exact gm_ev.aret i77_104 rfl
theorem c_X7_bring_66_f_at66 {N0 : Nat} {K : Nat → Nat} {d : Nat} {M : gm_H} {sz sl : Nat} {R : gm_R} {q : Nat} {u1 : Int32} {a6 : Nat} {u7 : Int32} {fso2 : List Value} {r3 : Nat} {na5 : Nat} {fa5 : Nat → Option Nat} {k6 : Nat} {r7 : Nat} {k8 : Nat} {fso9 : List Value} (c1 : ¬ u7 ≤ u1) (ho2 : M q = some (.inr (7, fso2))) (f4 : fso2[1]? = some (.ref r3)) (ha5 : M r3 = some (.inl (.object "RuleArena$Literal", na5, .inr (.inr (.inr (.inr fa5)))))) (ba5 : na5 < 2 ^ 31) (ek6 : (u7 - (1 : Int32)) = nI k6) (lk6 : k6 < na5) (qk6 : fa5 k6 = some r7) (hNr3 : N0 ≤ r3) (ek8 : u7 = nI k8) (lk8 : k8 < na5) (ho9 : M r7 = some (.inr (5, fso9))) (k : gm_ev N0 K ra_nm (ra_mt K) d (some (.object "RuleArena$Literal")) (gm_I cX7_bring) (gm_lkf (lkX7 false K)) 66 [some (.ref q), some (.int u1), none, none, none, none, some (.ref a6), some (.int (u7 + (-1 : Int32)))] [] (gm_set M r3 (.inl (.object "RuleArena$Literal", na5, .inr (.inr (.inr (.inr (va_up fa5 k8 (some r7)))))))) sz sl R) : gm_ev N0 K ra_nm (ra_mt K) d (some (.object "RuleArena$Literal")) (gm_I cX7_bring) (gm_lkf (lkX7 false K)) 66 [some (.ref q), some (.int u1), none, none, none, none, some (.ref a6), some (.int u7)] [] M sz sl R := by
  refine gm_ev.iload i77_66 rfl ?_
  refine gm_ev.iload_n i77_68 rfl ?_
  refine gm_ev.icmp_le_f i77_69 c1 ?_
  refine gm_ev.aload_n i77_72 rfl ?_
  refine gm_ev.getfield (v := .ref r3) i77_73 rfl (gm_fld_of ho2 f4) ?_
  refine gm_ev.iload i77_76 rfl ?_
  refine gm_ev.aload_n i77_78 rfl ?_
  refine gm_ev.getfield (v := .ref r3) i77_79 rfl (gm_fld_of ho2 f4) ?_
  refine gm_ev.iload i77_82 rfl ?_
  refine gm_ev.iconst (v := 1) i77_84 (by decide) ?_
  refine gm_ev.isub i77_85 ?_
  refine gm_ev.aaload (x := some r7) i77_86 (gm_aq_of ha5 ek6 lk6 ba5 qk6) ?_
  refine gm_ev.aastore (M' := (gm_set M r3 (.inl (.object "RuleArena$Literal", na5, .inr (.inr (.inr (.inr (va_up fa5 k8 (some r7))))))))) i77_87 (gm_astq_of ha5 ek8 lk8 ba5 hNr3 ho9 rfl) ?_
  have w10 : (gm_set M r3 (.inl (.object "RuleArena$Literal", na5, .inr (.inr (.inr (.inr (va_up fa5 k8 (some r7)))))))) q = some (.inr (7, fso2)) := (gm_set_ne (gm_ne_oa ho2 ha5)).trans ho2
  have w11 : (gm_set M r3 (.inl (.object "RuleArena$Literal", na5, .inr (.inr (.inr (.inr (va_up fa5 k8 (some r7)))))))) r7 = some (.inr (5, fso9)) := (gm_set_ne (gm_ne_oa ho9 ha5)).trans ho9
  have w12 : (gm_set M r3 (.inl (.object "RuleArena$Literal", na5, .inr (.inr (.inr (.inr (va_up fa5 k8 (some r7)))))))) r3 = some (.inl (.object "RuleArena$Literal", na5, .inr (.inr (.inr (.inr (va_up fa5 k8 (some r7))))))) := gm_set_eq
  refine gm_ev.iinc (v := u7 + (-1 : Int32)) (ls' := [some (.ref q), some (.int u1), none, none, none, none, some (.ref a6), some (.int (u7 + (-1 : Int32)))]) i77_88 rfl (by rfl) rfl ?_
  refine gm_ev.goto (tgt := 66) i77_91 (by decide) ?_
  exact k
theorem c_X7_meritOf_0_ttt {N0 : Nat} {K : Nat → Nat} {d : Nat} {M : gm_H} {sz sl : Nat} {p0 : Nat} {p1 : Int32} {p2 : Int32} {fso1 : List Value} {r2 : Int32} {M4 : gm_H} {sz5 : Nat} {dd6 : Nat} {fso8 : List Value} {x9 : Int32} {x12 : Int32} {r14 : Int32} {M16 : gm_H} {sz17 : Nat} {dd18 : Nat} {fso19 : List Value} {x20 : Int32} {r22 : Int32} {M24 : gm_H} {sz25 : Nat} {dd26 : Nat} {fso27 : List Value} {x28 : Int32} {r30 : Int32} {M32 : gm_H} {sz33 : Nat} {dd34 : Nat} (ho1 : M p0 = some (.inr (5, fso1))) (t3 : gm_to N0 K ra_nm (ra_mt K) d 56 [.ref p0] M sz (.returned (some (.int r2)), M4, sz5, dd6)) (c7 : ¬ (r2 &&& p1) = 0) (ho8 : M4 p0 = some (.inr (5, fso8))) (f10 : fso8[0]? = some (.int x9)) (c11 : x9 = 0) (f13 : fso8[2]? = some (.int x12)) (t15 : gm_to N0 K ra_nm (ra_mt K) d 79 [.int x12, .int p1] M4 sz5 (.returned (some (.int r14)), M16, sz17, dd18)) (ho19 : M16 p0 = some (.inr (5, fso19))) (f21 : fso19[3]? = some (.int x20)) (t23 : gm_to N0 K ra_nm (ra_mt K) d 79 [.int x20, .int p1] M16 sz17 (.returned (some (.int r22)), M24, sz25, dd26)) (ho27 : M24 p0 = some (.inr (5, fso27))) (f29 : fso27[4]? = some (.int x28)) (t31 : gm_to N0 K ra_nm (ra_mt K) d 79 [.int x28, .int p1] M24 sz25 (.returned (some (.int r30)), M32, sz33, dd34)) (c35 : ((r2 &&& p1) &&& p2) = 0) : gm_ev N0 K ra_nm (ra_mt K) d (some .int) (gm_I cX7_meritOf) (gm_lkf (lkX7 false K)) 0 [some (.ref p0), some (.int p1), some (.int p2), none, none] [] M sz sl (.returned (some (.int ((r14 + r22) + r30))), M32, sz33, ((((sl + dd6) + dd18) + dd26) + dd34)) := by
  refine gm_ev.aload_n i78_0 rfl ?_
  refine gm_ev.callV gm_mono_run (av := []) (r := []) (fs := fso1) ho1 i78_1 rfl rfl rfl (Nat.le_of_ble_eq_true rfl) t3 ?_
  refine gm_ev.iload_n i78_4 rfl ?_
  refine gm_ev.iand i78_5 ?_
  refine gm_ev.istore_n (ls' := [some (.ref p0), some (.int p1), some (.int p2), some (.int (r2 &&& p1)), none]) i78_6 (Nat.le_of_ble_eq_true rfl) rfl ?_
  refine gm_ev.iload_n i78_7 rfl ?_
  refine gm_ev.if_ne_t (tgt := 14) i78_8 (by decide) c7 ?_
  refine gm_ev.aload_n i78_14 rfl ?_
  refine gm_ev.getfield (v := .int x9) i78_15 rfl (gm_fld_of ho8 f10) ?_
  refine gm_ev.if_eq_t (tgt := 23) i78_18 (by decide) c11 ?_
  refine gm_ev.aload_n i78_23 rfl ?_
  refine gm_ev.getfield (v := .int x12) i78_24 rfl (gm_fld_of ho8 f13) ?_
  refine gm_ev.iload_n i78_27 rfl ?_
  refine gm_ev.callS gm_mono_run (av := [.int x12, .int p1]) (r := []) i78_28 rfl rfl rfl (Nat.le_of_ble_eq_true rfl) t15 ?_
  refine gm_ev.aload_n i78_31 rfl ?_
  refine gm_ev.getfield (v := .int x20) i78_32 rfl (gm_fld_of ho19 f21) ?_
  refine gm_ev.iload_n i78_35 rfl ?_
  refine gm_ev.callS gm_mono_run (av := [.int x20, .int p1]) (r := [.int r14]) i78_36 rfl rfl rfl (Nat.le_of_ble_eq_true rfl) t23 ?_
  refine gm_ev.iadd i78_39 ?_
  refine gm_ev.aload_n i78_40 rfl ?_
  refine gm_ev.getfield (v := .int x28) i78_41 rfl (gm_fld_of ho27 f29) ?_
  refine gm_ev.iload_n i78_44 rfl ?_
  refine gm_ev.callS gm_mono_run (av := [.int x28, .int p1]) (r := [.int (r14 + r22)]) i78_45 rfl rfl rfl (Nat.le_of_ble_eq_true rfl) t31 ?_
  refine gm_ev.iadd i78_48 ?_
  refine gm_ev.istore (ls' := [some (.ref p0), some (.int p1), some (.int p2), some (.int (r2 &&& p1)), some (.int ((r14 + r22) + r30))]) i78_49 (Nat.le_of_ble_eq_true rfl) rfl ?_
  refine gm_ev.iload_n i78_51 rfl ?_
  refine gm_ev.iload_n i78_52 rfl ?_
  refine gm_ev.iand i78_53 ?_
  refine gm_ev.if_eq_t (tgt := 64) i78_54 (by decide) c35 ?_
  refine gm_ev.iload i78_64 rfl ?_
  exact gm_ev.iret i78_66 rfl
theorem c_X7_meritOf_0_ttf {N0 : Nat} {K : Nat → Nat} {d : Nat} {M : gm_H} {sz sl : Nat} {p0 : Nat} {p1 : Int32} {p2 : Int32} {fso1 : List Value} {r2 : Int32} {M4 : gm_H} {sz5 : Nat} {dd6 : Nat} {fso8 : List Value} {x9 : Int32} {x12 : Int32} {r14 : Int32} {M16 : gm_H} {sz17 : Nat} {dd18 : Nat} {fso19 : List Value} {x20 : Int32} {r22 : Int32} {M24 : gm_H} {sz25 : Nat} {dd26 : Nat} {fso27 : List Value} {x28 : Int32} {r30 : Int32} {M32 : gm_H} {sz33 : Nat} {dd34 : Nat} (ho1 : M p0 = some (.inr (5, fso1))) (t3 : gm_to N0 K ra_nm (ra_mt K) d 56 [.ref p0] M sz (.returned (some (.int r2)), M4, sz5, dd6)) (c7 : ¬ (r2 &&& p1) = 0) (ho8 : M4 p0 = some (.inr (5, fso8))) (f10 : fso8[0]? = some (.int x9)) (c11 : x9 = 0) (f13 : fso8[2]? = some (.int x12)) (t15 : gm_to N0 K ra_nm (ra_mt K) d 79 [.int x12, .int p1] M4 sz5 (.returned (some (.int r14)), M16, sz17, dd18)) (ho19 : M16 p0 = some (.inr (5, fso19))) (f21 : fso19[3]? = some (.int x20)) (t23 : gm_to N0 K ra_nm (ra_mt K) d 79 [.int x20, .int p1] M16 sz17 (.returned (some (.int r22)), M24, sz25, dd26)) (ho27 : M24 p0 = some (.inr (5, fso27))) (f29 : fso27[4]? = some (.int x28)) (t31 : gm_to N0 K ra_nm (ra_mt K) d 79 [.int x28, .int p1] M24 sz25 (.returned (some (.int r30)), M32, sz33, dd34)) (c35 : ¬ ((r2 &&& p1) &&& p2) = 0) : gm_ev N0 K ra_nm (ra_mt K) d (some .int) (gm_I cX7_meritOf) (gm_lkf (lkX7 false K)) 0 [some (.ref p0), some (.int p1), some (.int p2), none, none] [] M sz sl (.returned (some (.int (((r14 + r22) + r30) + (5 : Int32)))), M32, sz33, ((((sl + dd6) + dd18) + dd26) + dd34)) := by
  refine gm_ev.aload_n i78_0 rfl ?_
  refine gm_ev.callV gm_mono_run (av := []) (r := []) (fs := fso1) ho1 i78_1 rfl rfl rfl (Nat.le_of_ble_eq_true rfl) t3 ?_
  refine gm_ev.iload_n i78_4 rfl ?_
  refine gm_ev.iand i78_5 ?_
  refine gm_ev.istore_n (ls' := [some (.ref p0), some (.int p1), some (.int p2), some (.int (r2 &&& p1)), none]) i78_6 (Nat.le_of_ble_eq_true rfl) rfl ?_
  refine gm_ev.iload_n i78_7 rfl ?_
  refine gm_ev.if_ne_t (tgt := 14) i78_8 (by decide) c7 ?_
  refine gm_ev.aload_n i78_14 rfl ?_
  refine gm_ev.getfield (v := .int x9) i78_15 rfl (gm_fld_of ho8 f10) ?_
  refine gm_ev.if_eq_t (tgt := 23) i78_18 (by decide) c11 ?_
  refine gm_ev.aload_n i78_23 rfl ?_
  refine gm_ev.getfield (v := .int x12) i78_24 rfl (gm_fld_of ho8 f13) ?_
  refine gm_ev.iload_n i78_27 rfl ?_
  refine gm_ev.callS gm_mono_run (av := [.int x12, .int p1]) (r := []) i78_28 rfl rfl rfl (Nat.le_of_ble_eq_true rfl) t15 ?_
  refine gm_ev.aload_n i78_31 rfl ?_
  refine gm_ev.getfield (v := .int x20) i78_32 rfl (gm_fld_of ho19 f21) ?_
  refine gm_ev.iload_n i78_35 rfl ?_
  refine gm_ev.callS gm_mono_run (av := [.int x20, .int p1]) (r := [.int r14]) i78_36 rfl rfl rfl (Nat.le_of_ble_eq_true rfl) t23 ?_
  refine gm_ev.iadd i78_39 ?_
  refine gm_ev.aload_n i78_40 rfl ?_
  refine gm_ev.getfield (v := .int x28) i78_41 rfl (gm_fld_of ho27 f29) ?_
  refine gm_ev.iload_n i78_44 rfl ?_
  refine gm_ev.callS gm_mono_run (av := [.int x28, .int p1]) (r := [.int (r14 + r22)]) i78_45 rfl rfl rfl (Nat.le_of_ble_eq_true rfl) t31 ?_
  refine gm_ev.iadd i78_48 ?_
  refine gm_ev.istore (ls' := [some (.ref p0), some (.int p1), some (.int p2), some (.int (r2 &&& p1)), some (.int ((r14 + r22) + r30))]) i78_49 (Nat.le_of_ble_eq_true rfl) rfl ?_
  refine gm_ev.iload_n i78_51 rfl ?_
  refine gm_ev.iload_n i78_52 rfl ?_
  refine gm_ev.iand i78_53 ?_
  refine gm_ev.if_eq_f i78_54 c35 ?_
  refine gm_ev.iload i78_57 rfl ?_
  refine gm_ev.iconst (v := 5) i78_59 (by decide) ?_
  refine gm_ev.iadd i78_60 ?_
  refine gm_ev.goto (tgt := 66) i78_61 (by decide) ?_
  exact gm_ev.iret i78_66 rfl
