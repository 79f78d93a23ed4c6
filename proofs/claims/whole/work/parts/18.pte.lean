/-! paths through RuleArena$Terms, by program -/
theorem p94_0_ {N0 : Nat} {K : Nat → Nat} {d : Nat} {M : gm_H} {sz sl : Nat} {q : Nat} {p0 : Int32} {m2 : Nat} {fso9 : List Value} (hd : 0 < d) (c3 : p0 = nI m2) (c4 : m2 ≤ 60000000) (bd5 : gm_bd M sz) (ho9 : (gm_new M sz (.inl (.int, m2, .inl (fun _ => 0)))) q = some (.inr (9, fso9))) (hNq : N0 ≤ q) (l10 : 0 < fso9.length) : gm_ev N0 K ra_nm (ra_mt K) d none (gm_I cX10_init) (gm_lkf (lkX10 true K)) 0 [some (.ref q), some (.int p0)] [] M sz sl (.returned none, (gm_set (gm_new M sz (.inl (.int, m2, .inl (fun _ => 0)))) q (.inr (9, (fso9.set 0 (.ref sz))))), (sz + 1), (sl + m2)) := by
  refine gm_ev.aload_n i94_0 rfl ?_
  refine gm_ev.callI gm_mono_run (av := []) (r := []) i94_1 rfl rfl rfl (Nat.le_of_ble_eq_true rfl) (gm_to_obj hd _) ?_
  refine gm_ev.aload_n i94_4 rfl ?_
  refine gm_ev.iload_n i94_5 rfl ?_
  refine gm_ev.newarray (n := m2) i94_6 c3 c4 rfl ?_
  have w6 : (gm_new M sz (.inl (.int, m2, .inl (fun _ => 0)))) sz = some (.inl (.int, m2, .inl (fun _ => 0))) := gm_set_eq
  have b8 : m2 < 2 ^ 31 := by omega
  have bd7 : gm_bd (gm_new M sz (.inl (.int, m2, .inl (fun _ => 0)))) (sz + 1) := gm_bd.new bd5
  refine gm_ev.putfield (M' := (gm_set (gm_new M sz (.inl (.int, m2, .inl (fun _ => 0)))) q (.inr (9, (fso9.set 0 (.ref sz)))))) i94_8 rfl (gm_put_of ho9 l10 hNq (gm_fit_a _ _)) ?_
  have g11 : (fso9.set 0 (.ref sz))[0]? = some (.ref sz) := gm_fs_eq l10
  have bd12 : gm_bd (gm_set (gm_new M sz (.inl (.int, m2, .inl (fun _ => 0)))) q (.inr (9, (fso9.set 0 (.ref sz))))) (sz + 1) := gm_bd.set bd7 ho9
  have w13 : (gm_set (gm_new M sz (.inl (.int, m2, .inl (fun _ => 0)))) q (.inr (9, (fso9.set 0 (.ref sz))))) q = some (.inr (9, (fso9.set 0 (.ref sz)))) := gm_set_eq
  have w14 : (gm_set (gm_new M sz (.inl (.int, m2, .inl (fun _ => 0)))) q (.inr (9, (fso9.set 0 (.ref sz))))) sz = some (.inl (.int, m2, .inl (fun _ => 0))) := (gm_set_ne ((gm_ne_oa ho9 w6).symm)).trans w6
  exact gm_ev.vret i94_11 rfl
theorem p95_0_t {N0 : Nat} {K : Nat → Nat} {d : Nat} {M : gm_H} {sz sl : Nat} {q : Nat} {p0 : Int32} (c1 : p0 < 0) : gm_ev N0 K ra_nm (ra_mt K) d (some .int) (gm_I cX10_at) (gm_lkf (lkX10 false K)) 0 [some (.ref q), some (.int p0)] [] M sz sl (.returned (some (.int (0 : Int32))), M, sz, sl) := by
  refine gm_ev.iload_n i95_0 rfl ?_
  refine gm_ev.if_lt_t (tgt := 21) i95_1 (by decide) c1 ?_
  refine gm_ev.iconst (v := 0) i95_21 (by decide) ?_
  exact gm_ev.iret i95_22 rfl
theorem p95_0_ft {N0 : Nat} {K : Nat → Nat} {d : Nat} {M : gm_H} {sz sl : Nat} {q : Nat} {p0 : Int32} {fso2 : List Value} {x3 : Int32} (c1 : ¬ p0 < 0) (ho2 : M q = some (.inr (9, fso2))) (f4 : fso2[1]? = some (.int x3)) (c5 : x3 ≤ p0) : gm_ev N0 K ra_nm (ra_mt K) d (some .int) (gm_I cX10_at) (gm_lkf (lkX10 false K)) 0 [some (.ref q), some (.int p0)] [] M sz sl (.returned (some (.int (0 : Int32))), M, sz, sl) := by
  refine gm_ev.iload_n i95_0 rfl ?_
  refine gm_ev.if_lt_f i95_1 c1 ?_
  refine gm_ev.iload_n i95_4 rfl ?_
  refine gm_ev.aload_n i95_5 rfl ?_
  refine gm_ev.getfield (v := .int x3) i95_6 rfl (gm_fld_of ho2 f4) ?_
  refine gm_ev.icmp_ge_t (tgt := 21) i95_9 (by decide) c5 ?_
  refine gm_ev.iconst (v := 0) i95_21 (by decide) ?_
  exact gm_ev.iret i95_22 rfl
theorem p95_0_ff {N0 : Nat} {K : Nat → Nat} {d : Nat} {M : gm_H} {sz sl : Nat} {q : Nat} {p0 : Int32} {fso2 : List Value} {x3 : Int32} {r6 : Nat} {na8 : Nat} {fa8 : Nat → Int32} {k9 : Nat} (c1 : ¬ p0 < 0) (ho2 : M q = some (.inr (9, fso2))) (f4 : fso2[1]? = some (.int x3)) (c5 : ¬ x3 ≤ p0) (f7 : fso2[0]? = some (.ref r6)) (ha8 : M r6 = some (.inl (.int, na8, .inl fa8))) (ba8 : na8 < 2 ^ 31) (ek9 : p0 = nI k9) (lk9 : k9 < na8) : gm_ev N0 K ra_nm (ra_mt K) d (some .int) (gm_I cX10_at) (gm_lkf (lkX10 false K)) 0 [some (.ref q), some (.int p0)] [] M sz sl (.returned (some (.int (fa8 k9))), M, sz, sl) := by
  refine gm_ev.iload_n i95_0 rfl ?_
  refine gm_ev.if_lt_f i95_1 c1 ?_
  refine gm_ev.iload_n i95_4 rfl ?_
  refine gm_ev.aload_n i95_5 rfl ?_
  refine gm_ev.getfield (v := .int x3) i95_6 rfl (gm_fld_of ho2 f4) ?_
  refine gm_ev.icmp_ge_f i95_9 c5 ?_
  refine gm_ev.aload_n i95_12 rfl ?_
  refine gm_ev.getfield (v := .ref r6) i95_13 rfl (gm_fld_of ho2 f7) ?_
  refine gm_ev.iload_n i95_16 rfl ?_
  refine gm_ev.iaload i95_17 (gm_ai_of ha8 ek9 lk9 ba8) ?_
  refine gm_ev.goto (tgt := 22) i95_18 (by decide) ?_
  exact gm_ev.iret i95_22 rfl
theorem p96_0_ {N0 : Nat} {K : Nat → Nat} {d : Nat} {M : gm_H} {sz sl : Nat} {q : Nat} {fso1 : List Value} (ho1 : M q = some (.inr (9, fso1))) (hNq : N0 ≤ q) (l2 : 1 < fso1.length) : gm_ev N0 K ra_nm (ra_mt K) d none (gm_I cX10_clear) (gm_lkf (lkX10 false K)) 0 [some (.ref q)] [] M sz sl (.returned none, (gm_set M q (.inr (9, (fso1.set 1 (.int (0 : Int32)))))), sz, sl) := by
  refine gm_ev.aload_n i96_0 rfl ?_
  refine gm_ev.iconst (v := 0) i96_1 (by decide) ?_
  refine gm_ev.putfield (M' := (gm_set M q (.inr (9, (fso1.set 1 (.int (0 : Int32))))))) i96_2 rfl (gm_put_of ho1 l2 hNq (gm_fit_i _)) ?_
  have g3 : (fso1.set 1 (.int (0 : Int32)))[1]? = some (.int (0 : Int32)) := gm_fs_eq l2
  have w4 : (gm_set M q (.inr (9, (fso1.set 1 (.int (0 : Int32)))))) q = some (.inr (9, (fso1.set 1 (.int (0 : Int32))))) := gm_set_eq
  exact gm_ev.vret i96_5 rfl
theorem p97_0_ {N0 : Nat} {K : Nat → Nat} {d : Nat} {M : gm_H} {sz sl : Nat} {q : Nat} {p0 : Nat} {fso1 : List Value} {x2 : Int32} {fso4 : List Value} {r5 : Nat} {na7 : Nat} {fa7 : Nat → Int32} {r16 : Nat} {M19 : gm_H} {sz20 : Nat} {dd21 : Nat} (ho1 : M p0 = some (.inr (9, fso1))) (f3 : fso1[1]? = some (.int x2)) (ho4 : M q = some (.inr (9, fso4))) (f6 : fso4[0]? = some (.ref r5)) (ha7 : M r5 = some (.inl (.int, na7, .inl fa7))) (ba7 : na7 < 2 ^ 31) (hd : 0 < d) (hNq : N0 ≤ q) (l10 : 1 < fso4.length) (ne_p0_q : p0 ≠ q) (f17 : fso1[0]? = some (.ref r16)) (t18 : gm_to N0 K ra_nm (ra_mt K) d 3 [.ref r16, .int (0 : Int32), .ref r5, .int (0 : Int32), .int (if nI na7 < x2 then nI na7 else x2)] (gm_set M q (.inr (9, (fso4.set 1 (.int (if nI na7 < x2 then nI na7 else x2)))))) sz (.returned none, M19, sz20, dd21)) : gm_ev N0 K ra_nm (ra_mt K) d none (gm_I cX10_copy) (gm_lkf (lkX10 false K)) 0 [some (.ref q), some (.ref p0)] [] M sz sl (.returned none, M19, sz20, (sl + dd21)) := by
  refine gm_ev.aload_n i97_0 rfl ?_
  refine gm_ev.aload_n i97_1 rfl ?_
  refine gm_ev.getfield (v := .int x2) i97_2 rfl (gm_fld_of ho1 f3) ?_
  refine gm_ev.aload_n i97_5 rfl ?_
  refine gm_ev.getfield (v := .ref r5) i97_6 rfl (gm_fld_of ho4 f6) ?_
  refine gm_ev.alen i97_9 (gm_alen_of ha7) ?_
  refine gm_ev.callS gm_mono_run (av := [.int x2, .int (nI na7)]) (r := [.ref q]) i97_10 rfl rfl rfl (Nat.le_of_ble_eq_true rfl) (gm_to_min hd) ?_
  refine gm_ev.putfield (M' := (gm_set M q (.inr (9, (fso4.set 1 (.int (if nI na7 < x2 then nI na7 else x2))))))) i97_13 rfl (gm_put_of ho4 l10 hNq (gm_fit_i _)) ?_
  have g11 : (fso4.set 1 (.int (if nI na7 < x2 then nI na7 else x2)))[0]? = some (.ref r5) := (gm_fs_ne (by decide)).trans f6
  have g12 : (fso4.set 1 (.int (if nI na7 < x2 then nI na7 else x2)))[1]? = some (.int (if nI na7 < x2 then nI na7 else x2)) := gm_fs_eq l10
  have w13 : (gm_set M q (.inr (9, (fso4.set 1 (.int (if nI na7 < x2 then nI na7 else x2)))))) p0 = some (.inr (9, fso1)) := (gm_set_ne (ne_p0_q)).trans ho1
  have w14 : (gm_set M q (.inr (9, (fso4.set 1 (.int (if nI na7 < x2 then nI na7 else x2)))))) q = some (.inr (9, (fso4.set 1 (.int (if nI na7 < x2 then nI na7 else x2))))) := gm_set_eq
  have w15 : (gm_set M q (.inr (9, (fso4.set 1 (.int (if nI na7 < x2 then nI na7 else x2)))))) r5 = some (.inl (.int, na7, .inl fa7)) := (gm_set_ne ((gm_ne_oa ho4 ha7).symm)).trans ha7
  refine gm_ev.aload_n i97_16 rfl ?_
  refine gm_ev.getfield (v := .ref r16) i97_17 rfl (gm_fld_of w13 f17) ?_
  refine gm_ev.iconst (v := 0) i97_20 (by decide) ?_
  refine gm_ev.aload_n i97_21 rfl ?_
  refine gm_ev.getfield (v := .ref r5) i97_22 rfl (gm_fld_of w14 g11) ?_
  refine gm_ev.iconst (v := 0) i97_25 (by decide) ?_
  refine gm_ev.aload_n i97_26 rfl ?_
  refine gm_ev.getfield (v := .int (if nI na7 < x2 then nI na7 else x2)) i97_27 rfl (gm_fld_of w14 g12) ?_
  refine gm_ev.callS gm_mono_run (av := [.ref r16, .int (0 : Int32), .ref r5, .int (0 : Int32), .int (if nI na7 < x2 then nI na7 else x2)]) (r := []) i97_30 rfl rfl rfl (Nat.le_of_ble_eq_true rfl) t18 ?_
  exact gm_ev.vret i97_33 rfl
theorem p98_0_t_at15 {N0 : Nat} {K : Nat → Nat} {d : Nat} {M : gm_H} {sz sl : Nat} {R : gm_R} {q : Nat} {p0 : Nat} {fso1 : List Value} {x2 : Int32} {fso4 : List Value} {x5 : Int32} (ho1 : M q = some (.inr (9, fso1))) (f3 : fso1[1]? = some (.int x2)) (ho4 : M p0 = some (.inr (9, fso4))) (f6 : fso4[1]? = some (.int x5)) (c7 : x2 = x5) (k : gm_ev N0 K ra_nm (ra_mt K) d (some .boolean) (gm_I cX10_isSame) (gm_lkf (lkX10 false K)) 15 [some (.ref q), some (.ref p0), some (.int (0 : Int32))] [] M sz sl R) : gm_ev N0 K ra_nm (ra_mt K) d (some .boolean) (gm_I cX10_isSame) (gm_lkf (lkX10 false K)) 0 [some (.ref q), some (.ref p0), none] [] M sz sl R := by
  refine gm_ev.aload_n i98_0 rfl ?_
  refine gm_ev.getfield (v := .int x2) i98_1 rfl (gm_fld_of ho1 f3) ?_
  refine gm_ev.aload_n i98_4 rfl ?_
  refine gm_ev.getfield (v := .int x5) i98_5 rfl (gm_fld_of ho4 f6) ?_
  refine gm_ev.icmp_eq_t (tgt := 13) i98_8 (by decide) c7 ?_
  refine gm_ev.iconst (v := 0) i98_13 (by decide) ?_
  refine gm_ev.istore_n (ls' := [some (.ref q), some (.ref p0), some (.int (0 : Int32))]) i98_14 (Nat.le_of_ble_eq_true rfl) rfl ?_
  exact k
theorem p98_0_f {N0 : Nat} {K : Nat → Nat} {d : Nat} {M : gm_H} {sz sl : Nat} {q : Nat} {p0 : Nat} {fso1 : List Value} {x2 : Int32} {fso4 : List Value} {x5 : Int32} (ho1 : M q = some (.inr (9, fso1))) (f3 : fso1[1]? = some (.int x2)) (ho4 : M p0 = some (.inr (9, fso4))) (f6 : fso4[1]? = some (.int x5)) (c7 : ¬ x2 = x5) : gm_ev N0 K ra_nm (ra_mt K) d (some .boolean) (gm_I cX10_isSame) (gm_lkf (lkX10 false K)) 0 [some (.ref q), some (.ref p0), none] [] M sz sl (.returned (some (.int (0 : Int32))), M, sz, sl) := by
  refine gm_ev.aload_n i98_0 rfl ?_
  refine gm_ev.getfield (v := .int x2) i98_1 rfl (gm_fld_of ho1 f3) ?_
  refine gm_ev.aload_n i98_4 rfl ?_
  refine gm_ev.getfield (v := .int x5) i98_5 rfl (gm_fld_of ho4 f6) ?_
  refine gm_ev.icmp_eq_f i98_8 c7 ?_
  refine gm_ev.iconst (v := 0) i98_11 (by decide) ?_
  exact gm_ev.zret i98_12 rfl (by decide)
theorem p99_0__at7 {N0 : Nat} {K : Nat → Nat} {d : Nat} {M : gm_H} {sz sl : Nat} {R : gm_R} {q : Nat} {p0 : Int32} {fso1 : List Value} {x2 : Int32} (ho1 : M q = some (.inr (9, fso1))) (f3 : fso1[1]? = some (.int x2)) (k : gm_ev N0 K ra_nm (ra_mt K) d (some .boolean) (gm_I cX10_insert) (gm_lkf (lkX10 false K)) 7 [some (.ref q), some (.int p0), some (.int (0 : Int32)), some (.int x2), none] [] M sz sl R) : gm_ev N0 K ra_nm (ra_mt K) d (some .boolean) (gm_I cX10_insert) (gm_lkf (lkX10 false K)) 0 [some (.ref q), some (.int p0), none, none, none] [] M sz sl R := by
  refine gm_ev.iconst (v := 0) i99_0 (by decide) ?_
  refine gm_ev.istore_n (ls' := [some (.ref q), some (.int p0), some (.int (0 : Int32)), none, none]) i99_1 (Nat.le_of_ble_eq_true rfl) rfl ?_
  refine gm_ev.aload_n i99_2 rfl ?_
  refine gm_ev.getfield (v := .int x2) i99_3 rfl (gm_fld_of ho1 f3) ?_
  refine gm_ev.istore_n (ls' := [some (.ref q), some (.int p0), some (.int (0 : Int32)), some (.int x2), none]) i99_6 (Nat.le_of_ble_eq_true rfl) rfl ?_
  exact k
theorem p99_7_ttt {N0 : Nat} {K : Nat → Nat} {d : Nat} {M : gm_H} {sz sl : Nat} {q : Nat} {p0 : Int32} {lo : Int32} {hi : Int32} {fso2 : List Value} {x3 : Int32} {r6 : Nat} {na8 : Nat} {fa8 : Nat → Int32} {M11 : gm_H} {sz12 : Nat} {dd13 : Nat} {fso14 : List Value} {r15 : Nat} {na17 : Nat} {fa17 : Nat → Int32} {k18 : Nat} {x21 : Int32} (c1 : hi ≤ lo) (ho2 : M q = some (.inr (9, fso2))) (f4 : fso2[1]? = some (.int x3)) (c5 : x3 ≤ lo) (f7 : fso2[0]? = some (.ref r6)) (ha8 : M r6 = some (.inl (.int, na8, .inl fa8))) (ba8 : na8 < 2 ^ 31) (c9 : ¬ x3 = (nI na8)) (t10 : gm_to N0 K ra_nm (ra_mt K) d 3 [.ref r6, .int lo, .ref r6, .int (lo + (1 : Int32)), .int (x3 - lo)] M sz (.returned none, M11, sz12, dd13)) (ho14 : M11 q = some (.inr (9, fso14))) (f16 : fso14[0]? = some (.ref r15)) (ha17 : M11 r15 = some (.inl (.int, na17, .inl fa17))) (ba17 : na17 < 2 ^ 31) (hNr15 : N0 ≤ r15) (ek18 : lo = nI k18) (lk18 : k18 < na17) (f22 : fso14[1]? = some (.int x21)) (hNq : N0 ≤ q) : gm_ev N0 K ra_nm (ra_mt K) d (some .boolean) (gm_I cX10_insert) (gm_lkf (lkX10 false K)) 7 [some (.ref q), some (.int p0), some (.int lo), some (.int hi), none] [] M sz sl (.returned (some (.int (1 : Int32))), (gm_set (gm_set M11 r15 (.inl (.int, na17, .inl (upd fa17 k18 p0)))) q (.inr (9, (fso14.set 1 (.int (x21 + (1 : Int32))))))), sz12, (sl + dd13)) := by
  refine gm_ev.iload_n i99_7 rfl ?_
  refine gm_ev.iload_n i99_8 rfl ?_
  refine gm_ev.icmp_ge_t (tgt := 44) i99_9 (by decide) c1 ?_
  refine gm_ev.iload_n i99_44 rfl ?_
  refine gm_ev.aload_n i99_45 rfl ?_
  refine gm_ev.getfield (v := .int x3) i99_46 rfl (gm_fld_of ho2 f4) ?_
  refine gm_ev.icmp_ge_t (tgt := 64) i99_49 (by decide) c5 ?_
  refine gm_ev.aload_n i99_64 rfl ?_
  refine gm_ev.getfield (v := .int x3) i99_65 rfl (gm_fld_of ho2 f4) ?_
  refine gm_ev.aload_n i99_68 rfl ?_
  refine gm_ev.getfield (v := .ref r6) i99_69 rfl (gm_fld_of ho2 f7) ?_
  refine gm_ev.alen i99_72 (gm_alen_of ha8) ?_
  refine gm_ev.icmp_ne_t (tgt := 78) i99_73 (by decide) c9 ?_
  refine gm_ev.aload_n i99_78 rfl ?_
  refine gm_ev.getfield (v := .ref r6) i99_79 rfl (gm_fld_of ho2 f7) ?_
  refine gm_ev.iload_n i99_82 rfl ?_
  refine gm_ev.aload_n i99_83 rfl ?_
  refine gm_ev.getfield (v := .ref r6) i99_84 rfl (gm_fld_of ho2 f7) ?_
  refine gm_ev.iload_n i99_87 rfl ?_
  refine gm_ev.iconst (v := 1) i99_88 (by decide) ?_
  refine gm_ev.iadd i99_89 ?_
  refine gm_ev.aload_n i99_90 rfl ?_
  refine gm_ev.getfield (v := .int x3) i99_91 rfl (gm_fld_of ho2 f4) ?_
  refine gm_ev.iload_n i99_94 rfl ?_
  refine gm_ev.isub i99_95 ?_
  refine gm_ev.callS gm_mono_run (av := [.ref r6, .int lo, .ref r6, .int (lo + (1 : Int32)), .int (x3 - lo)]) (r := []) i99_96 rfl rfl rfl (Nat.le_of_ble_eq_true rfl) t10 ?_
  refine gm_ev.aload_n i99_99 rfl ?_
  refine gm_ev.getfield (v := .ref r15) i99_100 rfl (gm_fld_of ho14 f16) ?_
  refine gm_ev.iload_n i99_103 rfl ?_
  refine gm_ev.iload_n i99_104 rfl ?_
  refine gm_ev.iastore (M' := (gm_set M11 r15 (.inl (.int, na17, .inl (upd fa17 k18 p0))))) i99_105 (gm_asti_of ha17 ek18 lk18 ba17 hNr15) ?_
  have w19 : (gm_set M11 r15 (.inl (.int, na17, .inl (upd fa17 k18 p0)))) q = some (.inr (9, fso14)) := (gm_set_ne (gm_ne_oa ho14 ha17)).trans ho14
  have w20 : (gm_set M11 r15 (.inl (.int, na17, .inl (upd fa17 k18 p0)))) r15 = some (.inl (.int, na17, .inl (upd fa17 k18 p0))) := gm_set_eq
  refine gm_ev.aload_n i99_106 rfl ?_
  refine gm_ev.dup i99_107 rfl ?_
  refine gm_ev.getfield (v := .int x21) i99_108 rfl (gm_fld_of w19 f22) ?_
  refine gm_ev.iconst (v := 1) i99_111 (by decide) ?_
  refine gm_ev.iadd i99_112 ?_
  refine gm_ev.putfield (M' := (gm_set (gm_set M11 r15 (.inl (.int, na17, .inl (upd fa17 k18 p0)))) q (.inr (9, (fso14.set 1 (.int (x21 + (1 : Int32)))))))) i99_113 rfl (gm_put_of w19 (gm_lt f22) hNq (gm_fit_i _)) ?_
  have g23 : (fso14.set 1 (.int (x21 + (1 : Int32))))[0]? = some (.ref r15) := (gm_fs_ne (by decide)).trans f16
  have g24 : (fso14.set 1 (.int (x21 + (1 : Int32))))[1]? = some (.int (x21 + (1 : Int32))) := gm_fs_eq (gm_lt f22)
  have w25 : (gm_set (gm_set M11 r15 (.inl (.int, na17, .inl (upd fa17 k18 p0)))) q (.inr (9, (fso14.set 1 (.int (x21 + (1 : Int32))))))) q = some (.inr (9, (fso14.set 1 (.int (x21 + (1 : Int32)))))) := gm_set_eq
  have w26 : (gm_set (gm_set M11 r15 (.inl (.int, na17, .inl (upd fa17 k18 p0)))) q (.inr (9, (fso14.set 1 (.int (x21 + (1 : Int32))))))) r15 = some (.inl (.int, na17, .inl (upd fa17 k18 p0))) := (gm_set_ne ((gm_ne_oa w19 w20).symm)).trans w20
  refine gm_ev.iconst (v := 1) i99_116 (by decide) ?_
  exact gm_ev.zret i99_117 rfl (by decide)
theorem p99_7_ttf {N0 : Nat} {K : Nat → Nat} {d : Nat} {M : gm_H} {sz sl : Nat} {q : Nat} {p0 : Int32} {lo : Int32} {hi : Int32} {fso2 : List Value} {x3 : Int32} {r6 : Nat} {na8 : Nat} {fa8 : Nat → Int32} (c1 : hi ≤ lo) (ho2 : M q = some (.inr (9, fso2))) (f4 : fso2[1]? = some (.int x3)) (c5 : x3 ≤ lo) (f7 : fso2[0]? = some (.ref r6)) (ha8 : M r6 = some (.inl (.int, na8, .inl fa8))) (ba8 : na8 < 2 ^ 31) (c9 : x3 = (nI na8)) : gm_ev N0 K ra_nm (ra_mt K) d (some .boolean) (gm_I cX10_insert) (gm_lkf (lkX10 false K)) 7 [some (.ref q), some (.int p0), some (.int lo), some (.int hi), none] [] M sz sl (.returned (some (.int (0 : Int32))), M, sz, sl) := by
  refine gm_ev.iload_n i99_7 rfl ?_
  refine gm_ev.iload_n i99_8 rfl ?_
  refine gm_ev.icmp_ge_t (tgt := 44) i99_9 (by decide) c1 ?_
  refine gm_ev.iload_n i99_44 rfl ?_
  refine gm_ev.aload_n i99_45 rfl ?_
  refine gm_ev.getfield (v := .int x3) i99_46 rfl (gm_fld_of ho2 f4) ?_
  refine gm_ev.icmp_ge_t (tgt := 64) i99_49 (by decide) c5 ?_
  refine gm_ev.aload_n i99_64 rfl ?_
  refine gm_ev.getfield (v := .int x3) i99_65 rfl (gm_fld_of ho2 f4) ?_
  refine gm_ev.aload_n i99_68 rfl ?_
  refine gm_ev.getfield (v := .ref r6) i99_69 rfl (gm_fld_of ho2 f7) ?_
  refine gm_ev.alen i99_72 (gm_alen_of ha8) ?_
  refine gm_ev.icmp_ne_f i99_73 c9 ?_
  refine gm_ev.iconst (v := 0) i99_76 (by decide) ?_
  exact gm_ev.zret i99_77 rfl (by decide)
theorem p99_7_tftt {N0 : Nat} {K : Nat → Nat} {d : Nat} {M : gm_H} {sz sl : Nat} {q : Nat} {p0 : Int32} {lo : Int32} {hi : Int32} {fso2 : List Value} {x3 : Int32} {r6 : Nat} {na8 : Nat} {fa8 : Nat → Int32} {k9 : Nat} {M13 : gm_H} {sz14 : Nat} {dd15 : Nat} {fso16 : List Value} {r17 : Nat} {na19 : Nat} {fa19 : Nat → Int32} {k20 : Nat} {x23 : Int32} (c1 : hi ≤ lo) (ho2 : M q = some (.inr (9, fso2))) (f4 : fso2[1]? = some (.int x3)) (c5 : ¬ x3 ≤ lo) (f7 : fso2[0]? = some (.ref r6)) (ha8 : M r6 = some (.inl (.int, na8, .inl fa8))) (ba8 : na8 < 2 ^ 31) (ek9 : lo = nI k9) (lk9 : k9 < na8) (c10 : ¬ (fa8 k9) = p0) (c11 : ¬ x3 = (nI na8)) (t12 : gm_to N0 K ra_nm (ra_mt K) d 3 [.ref r6, .int lo, .ref r6, .int (lo + (1 : Int32)), .int (x3 - lo)] M sz (.returned none, M13, sz14, dd15)) (ho16 : M13 q = some (.inr (9, fso16))) (f18 : fso16[0]? = some (.ref r17)) (ha19 : M13 r17 = some (.inl (.int, na19, .inl fa19))) (ba19 : na19 < 2 ^ 31) (hNr17 : N0 ≤ r17) (ek20 : lo = nI k20) (lk20 : k20 < na19) (f24 : fso16[1]? = some (.int x23)) (hNq : N0 ≤ q) : gm_ev N0 K ra_nm (ra_mt K) d (some .boolean) (gm_I cX10_insert) (gm_lkf (lkX10 false K)) 7 [some (.ref q), some (.int p0), some (.int lo), some (.int hi), none] [] M sz sl (.returned (some (.int (1 : Int32))), (gm_set (gm_set M13 r17 (.inl (.int, na19, .inl (upd fa19 k20 p0)))) q (.inr (9, (fso16.set 1 (.int (x23 + (1 : Int32))))))), sz14, (sl + dd15)) := by
  refine gm_ev.iload_n i99_7 rfl ?_
  refine gm_ev.iload_n i99_8 rfl ?_
  refine gm_ev.icmp_ge_t (tgt := 44) i99_9 (by decide) c1 ?_
  refine gm_ev.iload_n i99_44 rfl ?_
  refine gm_ev.aload_n i99_45 rfl ?_
  refine gm_ev.getfield (v := .int x3) i99_46 rfl (gm_fld_of ho2 f4) ?_
  refine gm_ev.icmp_ge_f i99_49 c5 ?_
  refine gm_ev.aload_n i99_52 rfl ?_
  refine gm_ev.getfield (v := .ref r6) i99_53 rfl (gm_fld_of ho2 f7) ?_
  refine gm_ev.iload_n i99_56 rfl ?_
  refine gm_ev.iaload i99_57 (gm_ai_of ha8 ek9 lk9 ba8) ?_
  refine gm_ev.iload_n i99_58 rfl ?_
  refine gm_ev.icmp_ne_t (tgt := 64) i99_59 (by decide) c10 ?_
  refine gm_ev.aload_n i99_64 rfl ?_
  refine gm_ev.getfield (v := .int x3) i99_65 rfl (gm_fld_of ho2 f4) ?_
  refine gm_ev.aload_n i99_68 rfl ?_
  refine gm_ev.getfield (v := .ref r6) i99_69 rfl (gm_fld_of ho2 f7) ?_
  refine gm_ev.alen i99_72 (gm_alen_of ha8) ?_
  refine gm_ev.icmp_ne_t (tgt := 78) i99_73 (by decide) c11 ?_
  refine gm_ev.aload_n i99_78 rfl ?_
  refine gm_ev.getfield (v := .ref r6) i99_79 rfl (gm_fld_of ho2 f7) ?_
  refine gm_ev.iload_n i99_82 rfl ?_
  refine gm_ev.aload_n i99_83 rfl ?_
  refine gm_ev.getfield (v := .ref r6) i99_84 rfl (gm_fld_of ho2 f7) ?_
  refine gm_ev.iload_n i99_87 rfl ?_
  refine gm_ev.iconst (v := 1) i99_88 (by decide) ?_
  refine gm_ev.iadd i99_89 ?_
  refine gm_ev.aload_n i99_90 rfl ?_
  refine gm_ev.getfield (v := .int x3) i99_91 rfl (gm_fld_of ho2 f4) ?_
  refine gm_ev.iload_n i99_94 rfl ?_
  refine gm_ev.isub i99_95 ?_
  refine gm_ev.callS gm_mono_run (av := [.ref r6, .int lo, .ref r6, .int (lo + (1 : Int32)), .int (x3 - lo)]) (r := []) i99_96 rfl rfl rfl (Nat.le_of_ble_eq_true rfl) t12 ?_
  refine gm_ev.aload_n i99_99 rfl ?_
  refine gm_ev.getfield (v := .ref r17) i99_100 rfl (gm_fld_of ho16 f18) ?_
  refine gm_ev.iload_n i99_103 rfl ?_
  refine gm_ev.iload_n i99_104 rfl ?_
  refine gm_ev.iastore (M' := (gm_set M13 r17 (.inl (.int, na19, .inl (upd fa19 k20 p0))))) i99_105 (gm_asti_of ha19 ek20 lk20 ba19 hNr17) ?_
  have w21 : (gm_set M13 r17 (.inl (.int, na19, .inl (upd fa19 k20 p0)))) q = some (.inr (9, fso16)) := (gm_set_ne (gm_ne_oa ho16 ha19)).trans ho16
  have w22 : (gm_set M13 r17 (.inl (.int, na19, .inl (upd fa19 k20 p0)))) r17 = some (.inl (.int, na19, .inl (upd fa19 k20 p0))) := gm_set_eq
  refine gm_ev.aload_n i99_106 rfl ?_
  refine gm_ev.dup i99_107 rfl ?_
  refine gm_ev.getfield (v := .int x23) i99_108 rfl (gm_fld_of w21 f24) ?_
  refine gm_ev.iconst (v := 1) i99_111 (by decide) ?_
  refine gm_ev.iadd i99_112 ?_
  refine gm_ev.putfield (M' := (gm_set (gm_set M13 r17 (.inl (.int, na19, .inl (upd fa19 k20 p0)))) q (.inr (9, (fso16.set 1 (.int (x23 + (1 : Int32)))))))) i99_113 rfl (gm_put_of w21 (gm_lt f24) hNq (gm_fit_i _)) ?_
  have g25 : (fso16.set 1 (.int (x23 + (1 : Int32))))[0]? = some (.ref r17) := (gm_fs_ne (by decide)).trans f18
  have g26 : (fso16.set 1 (.int (x23 + (1 : Int32))))[1]? = some (.int (x23 + (1 : Int32))) := gm_fs_eq (gm_lt f24)
  have w27 : (gm_set (gm_set M13 r17 (.inl (.int, na19, .inl (upd fa19 k20 p0)))) q (.inr (9, (fso16.set 1 (.int (x23 + (1 : Int32))))))) q = some (.inr (9, (fso16.set 1 (.int (x23 + (1 : Int32)))))) := gm_set_eq
  have w28 : (gm_set (gm_set M13 r17 (.inl (.int, na19, .inl (upd fa19 k20 p0)))) q (.inr (9, (fso16.set 1 (.int (x23 + (1 : Int32))))))) r17 = some (.inl (.int, na19, .inl (upd fa19 k20 p0))) := (gm_set_ne ((gm_ne_oa w21 w22).symm)).trans w22
  refine gm_ev.iconst (v := 1) i99_116 (by decide) ?_
  exact gm_ev.zret i99_117 rfl (by decide)
theorem p99_7_tftf {N0 : Nat} {K : Nat → Nat} {d : Nat} {M : gm_H} {sz sl : Nat} {q : Nat} {p0 : Int32} {lo : Int32} {hi : Int32} {fso2 : List Value} {x3 : Int32} {r6 : Nat} {na8 : Nat} {fa8 : Nat → Int32} {k9 : Nat} (c1 : hi ≤ lo) (ho2 : M q = some (.inr (9, fso2))) (f4 : fso2[1]? = some (.int x3)) (c5 : ¬ x3 ≤ lo) (f7 : fso2[0]? = some (.ref r6)) (ha8 : M r6 = some (.inl (.int, na8, .inl fa8))) (ba8 : na8 < 2 ^ 31) (ek9 : lo = nI k9) (lk9 : k9 < na8) (c10 : ¬ (fa8 k9) = p0) (c11 : x3 = (nI na8)) : gm_ev N0 K ra_nm (ra_mt K) d (some .boolean) (gm_I cX10_insert) (gm_lkf (lkX10 false K)) 7 [some (.ref q), some (.int p0), some (.int lo), some (.int hi), none] [] M sz sl (.returned (some (.int (0 : Int32))), M, sz, sl) := by
  refine gm_ev.iload_n i99_7 rfl ?_
  refine gm_ev.iload_n i99_8 rfl ?_
  refine gm_ev.icmp_ge_t (tgt := 44) i99_9 (by decide) c1 ?_
  refine gm_ev.iload_n i99_44 rfl ?_
  refine gm_ev.aload_n i99_45 rfl ?_
  refine gm_ev.getfield (v := .int x3) i99_46 rfl (gm_fld_of ho2 f4) ?_
  refine gm_ev.icmp_ge_f i99_49 c5 ?_
  refine gm_ev.aload_n i99_52 rfl ?_
  refine gm_ev.getfield (v := .ref r6) i99_53 rfl (gm_fld_of ho2 f7) ?_
  refine gm_ev.iload_n i99_56 rfl ?_
  refine gm_ev.iaload i99_57 (gm_ai_of ha8 ek9 lk9 ba8) ?_
  refine gm_ev.iload_n i99_58 rfl ?_
  refine gm_ev.icmp_ne_t (tgt := 64) i99_59 (by decide) c10 ?_
  refine gm_ev.aload_n i99_64 rfl ?_
  refine gm_ev.getfield (v := .int x3) i99_65 rfl (gm_fld_of ho2 f4) ?_
  refine gm_ev.aload_n i99_68 rfl ?_
  refine gm_ev.getfield (v := .ref r6) i99_69 rfl (gm_fld_of ho2 f7) ?_
  refine gm_ev.alen i99_72 (gm_alen_of ha8) ?_
  refine gm_ev.icmp_ne_f i99_73 c11 ?_
  refine gm_ev.iconst (v := 0) i99_76 (by decide) ?_
  exact gm_ev.zret i99_77 rfl (by decide)
theorem p99_7_tff {N0 : Nat} {K : Nat → Nat} {d : Nat} {M : gm_H} {sz sl : Nat} {q : Nat} {p0 : Int32} {lo : Int32} {hi : Int32} {fso2 : List Value} {x3 : Int32} {r6 : Nat} {na8 : Nat} {fa8 : Nat → Int32} {k9 : Nat} (c1 : hi ≤ lo) (ho2 : M q = some (.inr (9, fso2))) (f4 : fso2[1]? = some (.int x3)) (c5 : ¬ x3 ≤ lo) (f7 : fso2[0]? = some (.ref r6)) (ha8 : M r6 = some (.inl (.int, na8, .inl fa8))) (ba8 : na8 < 2 ^ 31) (ek9 : lo = nI k9) (lk9 : k9 < na8) (c10 : (fa8 k9) = p0) : gm_ev N0 K ra_nm (ra_mt K) d (some .boolean) (gm_I cX10_insert) (gm_lkf (lkX10 false K)) 7 [some (.ref q), some (.int p0), some (.int lo), some (.int hi), none] [] M sz sl (.returned (some (.int (1 : Int32))), M, sz, sl) := by
  refine gm_ev.iload_n i99_7 rfl ?_
  refine gm_ev.iload_n i99_8 rfl ?_
  refine gm_ev.icmp_ge_t (tgt := 44) i99_9 (by decide) c1 ?_
  refine gm_ev.iload_n i99_44 rfl ?_
  refine gm_ev.aload_n i99_45 rfl ?_
  refine gm_ev.getfield (v := .int x3) i99_46 rfl (gm_fld_of ho2 f4) ?_
  refine gm_ev.icmp_ge_f i99_49 c5 ?_
  refine gm_ev.aload_n i99_52 rfl ?_
  refine gm_ev.getfield (v := .ref r6) i99_53 rfl (gm_fld_of ho2 f7) ?_
  refine gm_ev.iload_n i99_56 rfl ?_
  refine gm_ev.iaload i99_57 (gm_ai_of ha8 ek9 lk9 ba8) ?_
  refine gm_ev.iload_n i99_58 rfl ?_
  refine gm_ev.icmp_ne_f i99_59 c10 ?_
  refine gm_ev.iconst (v := 1) i99_62 (by decide) ?_
  exact gm_ev.zret i99_63 rfl (by decide)
theorem p99_7_ft_at7 {N0 : Nat} {K : Nat → Nat} {d : Nat} {M : gm_H} {sz sl : Nat} {R : gm_R} {q : Nat} {p0 : Int32} {lo : Int32} {hi : Int32} {fso2 : List Value} {r3 : Nat} {na5 : Nat} {fa5 : Nat → Int32} {k6 : Nat} (c1 : ¬ hi ≤ lo) (ho2 : M q = some (.inr (9, fso2))) (f4 : fso2[0]? = some (.ref r3)) (ha5 : M r3 = some (.inl (.int, na5, .inl fa5))) (ba5 : na5 < 2 ^ 31) (ek6 : ((((lo + hi)).toUInt32 >>> (((1 : Int32)).toUInt32 &&& Int32.toUInt32 31)).toInt32) = nI k6) (lk6 : k6 < na5) (c7 : p0 ≤ (fa5 k6)) (k : gm_ev N0 K ra_nm (ra_mt K) d (some .boolean) (gm_I cX10_insert) (gm_lkf (lkX10 false K)) 7 [some (.ref q), some (.int p0), some (.int lo), some (.int ((((lo + hi)).toUInt32 >>> (((1 : Int32)).toUInt32 &&& Int32.toUInt32 31)).toInt32)), some (.int ((((lo + hi)).toUInt32 >>> (((1 : Int32)).toUInt32 &&& Int32.toUInt32 31)).toInt32))] [] M sz sl R) : gm_ev N0 K ra_nm (ra_mt K) d (some .boolean) (gm_I cX10_insert) (gm_lkf (lkX10 false K)) 7 [some (.ref q), some (.int p0), some (.int lo), some (.int hi), none] [] M sz sl R := by
  refine gm_ev.iload_n i99_7 rfl ?_
  refine gm_ev.iload_n i99_8 rfl ?_
  refine gm_ev.icmp_ge_f i99_9 c1 ?_
  refine gm_ev.iload_n i99_12 rfl ?_
  refine gm_ev.iload_n i99_13 rfl ?_
  refine gm_ev.iadd i99_14 ?_
  refine gm_ev.iconst (v := 1) i99_15 (by decide) ?_
  refine gm_ev.iushr i99_16 ?_
  refine gm_ev.istore (ls' := [some (.ref q), some (.int p0), some (.int lo), some (.int hi), some (.int ((((lo + hi)).toUInt32 >>> (((1 : Int32)).toUInt32 &&& Int32.toUInt32 31)).toInt32))]) i99_17 (Nat.le_of_ble_eq_true rfl) rfl ?_
  refine gm_ev.aload_n i99_19 rfl ?_
  refine gm_ev.getfield (v := .ref r3) i99_20 rfl (gm_fld_of ho2 f4) ?_
  refine gm_ev.iload i99_23 rfl ?_
  refine gm_ev.iaload i99_25 (gm_ai_of ha5 ek6 lk6 ba5) ?_
  refine gm_ev.iload_n i99_26 rfl ?_
  refine gm_ev.icmp_ge_t (tgt := 38) i99_27 (by decide) c7 ?_
  refine gm_ev.iload i99_38 rfl ?_
  refine gm_ev.istore_n (ls' := [some (.ref q), some (.int p0), some (.int lo), some (.int ((((lo + hi)).toUInt32 >>> (((1 : Int32)).toUInt32 &&& Int32.toUInt32 31)).toInt32)), some (.int ((((lo + hi)).toUInt32 >>> (((1 : Int32)).toUInt32 &&& Int32.toUInt32 31)).toInt32))]) i99_40 (Nat.le_of_ble_eq_true rfl) rfl ?_
  refine gm_ev.goto (tgt := 7) i99_41 (by decide) ?_
  exact k
theorem p99_7_ff_at7 {N0 : Nat} {K : Nat → Nat} {d : Nat} {M : gm_H} {sz sl : Nat} {R : gm_R} {q : Nat} {p0 : Int32} {lo : Int32} {hi : Int32} {fso2 : List Value} {r3 : Nat} {na5 : Nat} {fa5 : Nat → Int32} {k6 : Nat} (c1 : ¬ hi ≤ lo) (ho2 : M q = some (.inr (9, fso2))) (f4 : fso2[0]? = some (.ref r3)) (ha5 : M r3 = some (.inl (.int, na5, .inl fa5))) (ba5 : na5 < 2 ^ 31) (ek6 : ((((lo + hi)).toUInt32 >>> (((1 : Int32)).toUInt32 &&& Int32.toUInt32 31)).toInt32) = nI k6) (lk6 : k6 < na5) (c7 : ¬ p0 ≤ (fa5 k6)) (k : gm_ev N0 K ra_nm (ra_mt K) d (some .boolean) (gm_I cX10_insert) (gm_lkf (lkX10 false K)) 7 [some (.ref q), some (.int p0), some (.int (((((lo + hi)).toUInt32 >>> (((1 : Int32)).toUInt32 &&& Int32.toUInt32 31)).toInt32) + (1 : Int32))), some (.int hi), some (.int ((((lo + hi)).toUInt32 >>> (((1 : Int32)).toUInt32 &&& Int32.toUInt32 31)).toInt32))] [] M sz sl R) : gm_ev N0 K ra_nm (ra_mt K) d (some .boolean) (gm_I cX10_insert) (gm_lkf (lkX10 false K)) 7 [some (.ref q), some (.int p0), some (.int lo), some (.int hi), none] [] M sz sl R := by
  refine gm_ev.iload_n i99_7 rfl ?_
  refine gm_ev.iload_n i99_8 rfl ?_
  refine gm_ev.icmp_ge_f i99_9 c1 ?_
  refine gm_ev.iload_n i99_12 rfl ?_
  refine gm_ev.iload_n i99_13 rfl ?_
  refine gm_ev.iadd i99_14 ?_
  refine gm_ev.iconst (v := 1) i99_15 (by decide) ?_
  refine gm_ev.iushr i99_16 ?_
  refine gm_ev.istore (ls' := [some (.ref q), some (.int p0), some (.int lo), some (.int hi), some (.int ((((lo + hi)).toUInt32 >>> (((1 : Int32)).toUInt32 &&& Int32.toUInt32 31)).toInt32))]) i99_17 (Nat.le_of_ble_eq_true rfl) rfl ?_
  refine gm_ev.aload_n i99_19 rfl ?_
  refine gm_ev.getfield (v := .ref r3) i99_20 rfl (gm_fld_of ho2 f4) ?_
  refine gm_ev.iload i99_23 rfl ?_
  refine gm_ev.iaload i99_25 (gm_ai_of ha5 ek6 lk6 ba5) ?_
  refine gm_ev.iload_n i99_26 rfl ?_
  refine gm_ev.icmp_ge_f i99_27 c7 ?_
  refine gm_ev.iload i99_30 rfl ?_
  refine gm_ev.iconst (v := 1) i99_32 (by decide) ?_
  refine gm_ev.iadd i99_33 ?_
  refine gm_ev.istore_n (ls' := [some (.ref q), some (.int p0), some (.int (((((lo + hi)).toUInt32 >>> (((1 : Int32)).toUInt32 &&& Int32.toUInt32 31)).toInt32) + (1 : Int32))), some (.int hi), some (.int ((((lo + hi)).toUInt32 >>> (((1 : Int32)).toUInt32 &&& Int32.toUInt32 31)).toInt32))]) i99_34 (Nat.le_of_ble_eq_true rfl) rfl ?_
  refine gm_ev.goto (tgt := 41) i99_35 (by decide) ?_
  refine gm_ev.goto (tgt := 7) i99_41 (by decide) ?_
  exact k
