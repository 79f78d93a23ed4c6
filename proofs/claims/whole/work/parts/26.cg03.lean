/-! paths through the class over a general heap, by program -/
theorem c_X9_character_5_tfffttf {N0 : Nat} {K : Nat → Nat} {d : Nat} {M : gm_H} {sz sl : Nat} {u0 : Int32} {u1 : Int32} {u2 : Int32} {u3 : Int32} (c1 : u3 < 0) (c2 : u2 = 0) (c3 : ¬ u0 = 0) (c4 : ¬ u1 < 0) (c5 : u1 ≤ (0 : Int32)) (c6 : ¬ (u1 - u1 / (2 : Int32) * (2 : Int32)) = 0) (c7 : u1 = (1 : Int32)) : gm_ev N0 K ra_nm (ra_mt K) d (some .int) (gm_I cX9_character) (gm_lkf (lkX9 false K)) 5 [some (.int u0), some (.int u1), some (.int u2), some (.int u3)] [] M sz sl (.returned (some (.int (40 : Int32))), M, sz, sl) := by
  refine gm_ev.iload_n i93_5 rfl ?_
  refine gm_ev.if_lt_t (tgt := 32) i93_6 (by decide) c1 ?_
  refine gm_ev.iload_n i93_32 rfl ?_
  refine gm_ev.if_ne_f i93_33 c2 ?_
  refine gm_ev.iconst (v := 0) i93_36 (by decide) ?_
  refine gm_ev.goto (tgt := 45) i93_37 (by decide) ?_
  refine gm_ev.istore_n (ls' := [some (.int u0), some (.int u1), some (.int u2), some (.int (0 : Int32))]) i93_45 (Nat.le_of_ble_eq_true rfl) rfl ?_
  refine gm_ev.iload_n i93_46 rfl ?_
  refine gm_ev.if_eq_f i93_47 c3 ?_
  refine gm_ev.iload_n i93_50 rfl ?_
  refine gm_ev.if_lt_f i93_51 c4 ?_
  refine gm_ev.iload_n i93_54 rfl ?_
  refine gm_ev.iload_n i93_55 rfl ?_
  refine gm_ev.icmp_le_t (tgt := 61) i93_56 (by decide) c5 ?_
  refine gm_ev.iload_n i93_61 rfl ?_
  refine gm_ev.iconst (v := 2) i93_62 (by decide) ?_
  refine gm_ev.irem i93_63 (by decide) ?_
  refine gm_ev.if_ne_t (tgt := 82) i93_64 (by decide) c6 ?_
  refine gm_ev.iload_n i93_82 rfl ?_
  refine gm_ev.iconst (v := 1) i93_83 (by decide) ?_
  refine gm_ev.icmp_ne_f i93_84 c7 ?_
  refine gm_ev.bipush (v := 40) i93_87 (by decide) ?_
  exact gm_ev.iret i93_89 rfl
theorem c_X9_character_5_tffftf {N0 : Nat} {K : Nat → Nat} {d : Nat} {M : gm_H} {sz sl : Nat} {u0 : Int32} {u1 : Int32} {u2 : Int32} {u3 : Int32} (c1 : u3 < 0) (c2 : u2 = 0) (c3 : ¬ u0 = 0) (c4 : ¬ u1 < 0) (c5 : u1 ≤ (0 : Int32)) (c6 : (u1 - u1 / (2 : Int32) * (2 : Int32)) = 0) : gm_ev N0 K ra_nm (ra_mt K) d (some .int) (gm_I cX9_character) (gm_lkf (lkX9 false K)) 5 [some (.int u0), some (.int u1), some (.int u2), some (.int u3)] [] M sz sl (.returned (some (.int ((((u0).toUInt32 >>> ((((21 : Int32) - ((7 : Int32) * (u1 / (2 : Int32))))).toUInt32 &&& Int32.toUInt32 31)).toInt32) &&& (127 : Int32)))), M, sz, sl) := by
  refine gm_ev.iload_n i93_5 rfl ?_
  refine gm_ev.if_lt_t (tgt := 32) i93_6 (by decide) c1 ?_
  refine gm_ev.iload_n i93_32 rfl ?_
  refine gm_ev.if_ne_f i93_33 c2 ?_
  refine gm_ev.iconst (v := 0) i93_36 (by decide) ?_
  refine gm_ev.goto (tgt := 45) i93_37 (by decide) ?_
  refine gm_ev.istore_n (ls' := [some (.int u0), some (.int u1), some (.int u2), some (.int (0 : Int32))]) i93_45 (Nat.le_of_ble_eq_true rfl) rfl ?_
  refine gm_ev.iload_n i93_46 rfl ?_
  refine gm_ev.if_eq_f i93_47 c3 ?_
  refine gm_ev.iload_n i93_50 rfl ?_
  refine gm_ev.if_lt_f i93_51 c4 ?_
  refine gm_ev.iload_n i93_54 rfl ?_
  refine gm_ev.iload_n i93_55 rfl ?_
  refine gm_ev.icmp_le_t (tgt := 61) i93_56 (by decide) c5 ?_
  refine gm_ev.iload_n i93_61 rfl ?_
  refine gm_ev.iconst (v := 2) i93_62 (by decide) ?_
  refine gm_ev.irem i93_63 (by decide) ?_
  refine gm_ev.if_ne_f i93_64 c6 ?_
  refine gm_ev.iload_n i93_67 rfl ?_
  refine gm_ev.bipush (v := 21) i93_68 (by decide) ?_
  refine gm_ev.bipush (v := 7) i93_70 (by decide) ?_
  refine gm_ev.iload_n i93_72 rfl ?_
  refine gm_ev.iconst (v := 2) i93_73 (by decide) ?_
  refine gm_ev.idiv i93_74 (by decide) ?_
  refine gm_ev.imul i93_75 ?_
  refine gm_ev.isub i93_76 ?_
  refine gm_ev.iushr i93_77 ?_
  refine gm_ev.bipush (v := 127) i93_78 (by decide) ?_
  refine gm_ev.iand i93_80 ?_
  exact gm_ev.iret i93_81 rfl
theorem c_X9_character_5_tffff {N0 : Nat} {K : Nat → Nat} {d : Nat} {M : gm_H} {sz sl : Nat} {u0 : Int32} {u1 : Int32} {u2 : Int32} {u3 : Int32} (c1 : u3 < 0) (c2 : u2 = 0) (c3 : ¬ u0 = 0) (c4 : ¬ u1 < 0) (c5 : ¬ u1 ≤ (0 : Int32)) : gm_ev N0 K ra_nm (ra_mt K) d (some .int) (gm_I cX9_character) (gm_lkf (lkX9 false K)) 5 [some (.int u0), some (.int u1), some (.int u2), some (.int u3)] [] M sz sl (.returned (some (.int (-1 : Int32))), M, sz, sl) := by
  refine gm_ev.iload_n i93_5 rfl ?_
  refine gm_ev.if_lt_t (tgt := 32) i93_6 (by decide) c1 ?_
  refine gm_ev.iload_n i93_32 rfl ?_
  refine gm_ev.if_ne_f i93_33 c2 ?_
  refine gm_ev.iconst (v := 0) i93_36 (by decide) ?_
  refine gm_ev.goto (tgt := 45) i93_37 (by decide) ?_
  refine gm_ev.istore_n (ls' := [some (.int u0), some (.int u1), some (.int u2), some (.int (0 : Int32))]) i93_45 (Nat.le_of_ble_eq_true rfl) rfl ?_
  refine gm_ev.iload_n i93_46 rfl ?_
  refine gm_ev.if_eq_f i93_47 c3 ?_
  refine gm_ev.iload_n i93_50 rfl ?_
  refine gm_ev.if_lt_f i93_51 c4 ?_
  refine gm_ev.iload_n i93_54 rfl ?_
  refine gm_ev.iload_n i93_55 rfl ?_
  refine gm_ev.icmp_le_f i93_56 c5 ?_
  refine gm_ev.iconst (v := -1) i93_59 (by decide) ?_
  exact gm_ev.iret i93_60 rfl
theorem c_X9_character_5_ft_at5 {N0 : Nat} {K : Nat → Nat} {d : Nat} {M : gm_H} {sz sl : Nat} {R : gm_R} {u0 : Int32} {u1 : Int32} {u2 : Int32} {u3 : Int32} (c1 : ¬ u3 < 0) (c2 : ((((u0).toUInt32 >>> ((u3).toUInt32 &&& Int32.toUInt32 31)).toInt32) &&& (127 : Int32)) = 0) (k : gm_ev N0 K ra_nm (ra_mt K) d (some .int) (gm_I cX9_character) (gm_lkf (lkX9 false K)) 5 [some (.int u0), some (.int u1), some (.int (u2 + (0 : Int32))), some (.int (u3 + (-7 : Int32)))] [] M sz sl R) : gm_ev N0 K ra_nm (ra_mt K) d (some .int) (gm_I cX9_character) (gm_lkf (lkX9 false K)) 5 [some (.int u0), some (.int u1), some (.int u2), some (.int u3)] [] M sz sl R := by
  refine gm_ev.iload_n i93_5 rfl ?_
  refine gm_ev.if_lt_f i93_6 c1 ?_
  refine gm_ev.iload_n i93_9 rfl ?_
  refine gm_ev.iload_n i93_10 rfl ?_
  refine gm_ev.iload_n i93_11 rfl ?_
  refine gm_ev.iushr i93_12 ?_
  refine gm_ev.bipush (v := 127) i93_13 (by decide) ?_
  refine gm_ev.iand i93_15 ?_
  refine gm_ev.if_eq_t (tgt := 23) i93_16 (by decide) c2 ?_
  refine gm_ev.iconst (v := 0) i93_23 (by decide) ?_
  refine gm_ev.iadd i93_24 ?_
  refine gm_ev.istore_n (ls' := [some (.int u0), some (.int u1), some (.int (u2 + (0 : Int32))), some (.int u3)]) i93_25 (Nat.le_of_ble_eq_true rfl) rfl ?_
  refine gm_ev.iinc (v := u3 + (-7 : Int32)) (ls' := [some (.int u0), some (.int u1), some (.int (u2 + (0 : Int32))), some (.int (u3 + (-7 : Int32)))]) i93_26 rfl (by rfl) rfl ?_
  refine gm_ev.goto (tgt := 5) i93_29 (by decide) ?_
  exact k
theorem c_X9_character_5_ff_at5 {N0 : Nat} {K : Nat → Nat} {d : Nat} {M : gm_H} {sz sl : Nat} {R : gm_R} {u0 : Int32} {u1 : Int32} {u2 : Int32} {u3 : Int32} (c1 : ¬ u3 < 0) (c2 : ¬ ((((u0).toUInt32 >>> ((u3).toUInt32 &&& Int32.toUInt32 31)).toInt32) &&& (127 : Int32)) = 0) (k : gm_ev N0 K ra_nm (ra_mt K) d (some .int) (gm_I cX9_character) (gm_lkf (lkX9 false K)) 5 [some (.int u0), some (.int u1), some (.int (u2 + (1 : Int32))), some (.int (u3 + (-7 : Int32)))] [] M sz sl R) : gm_ev N0 K ra_nm (ra_mt K) d (some .int) (gm_I cX9_character) (gm_lkf (lkX9 false K)) 5 [some (.int u0), some (.int u1), some (.int u2), some (.int u3)] [] M sz sl R := by
  refine gm_ev.iload_n i93_5 rfl ?_
  refine gm_ev.if_lt_f i93_6 c1 ?_
  refine gm_ev.iload_n i93_9 rfl ?_
  refine gm_ev.iload_n i93_10 rfl ?_
  refine gm_ev.iload_n i93_11 rfl ?_
  refine gm_ev.iushr i93_12 ?_
  refine gm_ev.bipush (v := 127) i93_13 (by decide) ?_
  refine gm_ev.iand i93_15 ?_
  refine gm_ev.if_eq_f i93_16 c2 ?_
  refine gm_ev.iconst (v := 1) i93_19 (by decide) ?_
  refine gm_ev.goto (tgt := 24) i93_20 (by decide) ?_
  refine gm_ev.iadd i93_24 ?_
  refine gm_ev.istore_n (ls' := [some (.int u0), some (.int u1), some (.int (u2 + (1 : Int32))), some (.int u3)]) i93_25 (Nat.le_of_ble_eq_true rfl) rfl ?_
  refine gm_ev.iinc (v := u3 + (-7 : Int32)) (ls' := [some (.int u0), some (.int u1), some (.int (u2 + (1 : Int32))), some (.int (u3 + (-7 : Int32)))]) i93_26 rfl (by rfl) rfl ?_
  refine gm_ev.goto (tgt := 5) i93_29 (by decide) ?_
  exact k
theorem c_X10_init_0_ {N0 : Nat} {K : Nat → Nat} {d : Nat} {M : gm_H} {sz sl : Nat} {q : Nat} {p0 : Int32} {m2 : Nat} {fso9 : List Value} (hd : 0 < d) (c3 : p0 = nI m2) (c4 : m2 ≤ 60000000) (bd5 : gm_bd M sz) (ho9 : (gm_new M sz (.inl (.int, m2, .inl (fun _ => 0)))) q = some (.inr (9, fso9))) (hNq : N0 ≤ q) (l10 : 0 < fso9.length) : gm_ev N0 K ra_nm (ra_mt K) d none (gm_I cX10_init) (gm_lkf (lkX10 true K)) 0 [some (.ref q), some (.int p0)] [] M sz sl (.returned none, (gm_set (gm_new M sz (.inl (.int, m2, .inl (fun _ => 0)))) q (.inr (9, (fso9.set 0 (.ref sz))))), (sz + 1), (sl + m2)) := by
  refine gm_ev.aload_n i94_0 rfl ?_
  refine gm_ev.callI gm_mono_run (av := []) (r := []) i94_1 rfl rfl rfl (Nat.le_of_ble_eq_true rfl) (gm_to_obj hd _) ?_
  refine gm_ev.aload_n i94_4 rfl ?_
  refine gm_ev.iload_n i94_5 rfl ?_
  refine gm_ev.newarray (n := m2) i94_6 c3 c4 rfl ?_
  have w6 : (gm_new M sz (.inl (.int, m2, .inl (fun _ => 0)))) sz = some (.inl (.int, m2, .inl (fun _ => 0))) := gm_set_eq
  have b8 : m2 < 2 ^ 31 := by omega
  have bd7 : gm_bd (gm_new M sz (.inl (.int, m2, .inl (fun _ => 0)))) (sz + 1) := gm_bd.new bd5
  refine gm_ev.putfield (M' := (gm_set (gm_new M sz (.inl (.int, m2, .inl (fun _ => 0)))) q (.inr (9, (fso9.set 0 (.ref sz)))))) i94_8 rfl (gm_put_of ho9 l10 hNq (gm_fit_a _ _)) ?_
  have g11 : (fso9.set 0 (.ref sz))[0]? = some (.ref sz) := gm_fs_eq l10
  have bd12 : gm_bd (gm_set (gm_new M sz (.inl (.int, m2, .inl (fun _ => 0)))) q (.inr (9, (fso9.set 0 (.ref sz))))) (sz + 1) := gm_bd.set bd7 ho9
  have w13 : (gm_set (gm_new M sz (.inl (.int, m2, .inl (fun _ => 0)))) q (.inr (9, (fso9.set 0 (.ref sz))))) q = some (.inr (9, (fso9.set 0 (.ref sz)))) := gm_set_eq
  have w14 : (gm_set (gm_new M sz (.inl (.int, m2, .inl (fun _ => 0)))) q (.inr (9, (fso9.set 0 (.ref sz))))) sz = some (.inl (.int, m2, .inl (fun _ => 0))) := (gm_set_ne ((gm_ne_oa ho9 w6).symm)).trans w6
  exact gm_ev.vret i94_11 rfl
theorem c_X10_at_0_t {N0 : Nat} {K : Nat → Nat} {d : Nat} {M : gm_H} {sz sl : Nat} {q : Nat} {p0 : Int32} (c1 : p0 < 0) : gm_ev N0 K ra_nm (ra_mt K) d (some .int) (gm_I cX10_at) (gm_lkf (lkX10 false K)) 0 [some (.ref q), some (.int p0)] [] M sz sl (.returned (some (.int (0 : Int32))), M, sz, sl) := by
  refine gm_ev.iload_n i95_0 rfl ?_
  refine gm_ev.if_lt_t (tgt := 21) i95_1 (by decide) c1 ?_
  refine gm_ev.iconst (v := 0) i95_21 (by decide) ?_
  exact gm_ev.iret i95_22 rfl
theorem c_X10_at_0_ft {N0 : Nat} {K : Nat → Nat} {d : Nat} {M : gm_H} {sz sl : Nat} {q : Nat} {p0 : Int32} {fso2 : List Value} {x3 : Int32} (c1 : ¬ p0 < 0) (ho2 : M q = some (.inr (9, fso2))) (f4 : fso2[1]? = some (.int x3)) (c5 : x3 ≤ p0) : gm_ev N0 K ra_nm (ra_mt K) d (some .int) (gm_I cX10_at) (gm_lkf (lkX10 false K)) 0 [some (.ref q), some (.int p0)] [] M sz sl (.returned (some (.int (0 : Int32))), M, sz, sl) := by
  refine gm_ev.iload_n i95_0 rfl ?_
  refine gm_ev.if_lt_f i95_1 c1 ?_
  refine gm_ev.iload_n i95_4 rfl ?_
  refine gm_ev.aload_n i95_5 rfl ?_
  refine gm_ev.getfield (v := .int x3) i95_6 rfl (gm_fld_of ho2 f4) ?_
  refine gm_ev.icmp_ge_t (tgt := 21) i95_9 (by decide) c5 ?_
  refine gm_ev.iconst (v := 0) i95_21 (by decide) ?_
  exact gm_ev.iret i95_22 rfl
theorem c_X10_at_0_ff {N0 : Nat} {K : Nat → Nat} {d : Nat} {M : gm_H} {sz sl : Nat} {q : Nat} {p0 : Int32} {fso2 : List Value} {x3 : Int32} {r6 : Nat} {na8 : Nat} {fa8 : Nat → Int32} {k9 : Nat} (c1 : ¬ p0 < 0) (ho2 : M q = some (.inr (9, fso2))) (f4 : fso2[1]? = some (.int x3)) (c5 : ¬ x3 ≤ p0) (f7 : fso2[0]? = some (.ref r6)) (ha8 : M r6 = some (.inl (.int, na8, .inl fa8))) (ba8 : na8 < 2 ^ 31) (ek9 : p0 = nI k9) (lk9 : k9 < na8) : gm_ev N0 K ra_nm (ra_mt K) d (some .int) (gm_I cX10_at) (gm_lkf (lkX10 false K)) 0 [some (.ref q), some (.int p0)] [] M sz sl (.returned (some (.int (fa8 k9))), M, sz, sl) := by
  refine gm_ev.iload_n i95_0 rfl ?_
  refine gm_ev.if_lt_f i95_1 c1 ?_
  refine gm_ev.iload_n i95_4 rfl ?_
  refine gm_ev.aload_n i95_5 rfl ?_
  refine gm_ev.getfield (v := .int x3) i95_6 rfl (gm_fld_of ho2 f4) ?_
  refine gm_ev.icmp_ge_f i95_9 c5 ?_
  refine gm_ev.aload_n i95_12 rfl ?_
  refine gm_ev.getfield (v := .ref r6) i95_13 rfl (gm_fld_of ho2 f7) ?_
  refine gm_ev.iload_n i95_16 rfl ?_
  refine gm_ev.iaload i95_17 (gm_ai_of ha8 ek9 lk9 ba8) ?_
  refine gm_ev.goto (tgt := 22) i95_18 (by decide) ?_
  exact gm_ev.iret i95_22 rfl
theorem c_X10_clear_0_ {N0 : Nat} {K : Nat → Nat} {d : Nat} {M : gm_H} {sz sl : Nat} {q : Nat} {fso1 : List Value} (ho1 : M q = some (.inr (9, fso1))) (hNq : N0 ≤ q) (l2 : 1 < fso1.length) : gm_ev N0 K ra_nm (ra_mt K) d none (gm_I cX10_clear) (gm_lkf (lkX10 false K)) 0 [some (.ref q)] [] M sz sl (.returned none, (gm_set M q (.inr (9, (fso1.set 1 (.int (0 : Int32)))))), sz, sl) := by
  refine gm_ev.aload_n i96_0 rfl ?_
  refine gm_ev.iconst (v := 0) i96_1 (by decide) ?_
  refine gm_ev.putfield (M' := (gm_set M q (.inr (9, (fso1.set 1 (.int (0 : Int32))))))) i96_2 rfl (gm_put_of ho1 l2 hNq (gm_fit_i _)) ?_
  have g3 : (fso1.set 1 (.int (0 : Int32)))[1]? = some (.int (0 : Int32)) := gm_fs_eq l2
  have w4 : (gm_set M q (.inr (9, (fso1.set 1 (.int (0 : Int32)))))) q = some (.inr (9, (fso1.set 1 (.int (0 : Int32))))) := gm_set_eq
  exact gm_ev.vret i96_5 rfl
theorem c_X10_copy_0_ {N0 : Nat} {K : Nat → Nat} {d : Nat} {M : gm_H} {sz sl : Nat} {q : Nat} {p0 : Nat} {fso1 : List Value} {x2 : Int32} {fso4 : List Value} {r5 : Nat} {na7 : Nat} {fa7 : Nat → Int32} {r16 : Nat} {M19 : gm_H} {sz20 : Nat} {dd21 : Nat} (ho1 : M p0 = some (.inr (9, fso1))) (f3 : fso1[1]? = some (.int x2)) (ho4 : M q = some (.inr (9, fso4))) (f6 : fso4[0]? = some (.ref r5)) (ha7 : M r5 = some (.inl (.int, na7, .inl fa7))) (ba7 : na7 < 2 ^ 31) (hd : 0 < d) (hNq : N0 ≤ q) (l10 : 1 < fso4.length) (ne_p0_q : p0 ≠ q) (f17 : fso1[0]? = some (.ref r16)) (t18 : gm_to N0 K ra_nm (ra_mt K) d 3 [.ref r16, .int (0 : Int32), .ref r5, .int (0 : Int32), .int (if nI na7 < x2 then nI na7 else x2)] (gm_set M q (.inr (9, (fso4.set 1 (.int (if nI na7 < x2 then nI na7 else x2)))))) sz (.returned none, M19, sz20, dd21)) : gm_ev N0 K ra_nm (ra_mt K) d none (gm_I cX10_copy) (gm_lkf (lkX10 false K)) 0 [some (.ref q), some (.ref p0)] [] M sz sl (.returned none, M19, sz20, (sl + dd21)) := by
  refine gm_ev.aload_n i97_0 rfl ?_
  refine gm_ev.aload_n i97_1 rfl ?_
  refine gm_ev.getfield (v := .int x2) i97_2 rfl (gm_fld_of ho1 f3) ?_
  refine gm_ev.aload_n i97_5 rfl ?_
  refine gm_ev.getfield (v := .ref r5) i97_6 rfl (gm_fld_of ho4 f6) ?_
  refine gm_ev.alen i97_9 (gm_alen_of ha7) ?_
  refine gm_ev.callS gm_mono_run (av := [.int x2, .int (nI na7)]) (r := [.ref q]) i97_10 rfl rfl rfl (Nat.le_of_ble_eq_true rfl) (gm_to_min hd) ?_
  refine gm_ev.putfield (M' := (gm_set M q (.inr (9, (fso4.set 1 (.int (if nI na7 < x2 then nI na7 else x2))))))) i97_13 rfl (gm_put_of ho4 l10 hNq (gm_fit_i _)) ?_
  have g11 : (fso4.set 1 (.int (if nI na7 < x2 then nI na7 else x2)))[0]? = some (.ref r5) := (gm_fs_ne (by decide)).trans f6
  have g12 : (fso4.set 1 (.int (if nI na7 < x2 then nI na7 else x2)))[1]? = some (.int (if nI na7 < x2 then nI na7 else x2)) := gm_fs_eq l10
  have w13 : (gm_set M q (.inr (9, (fso4.set 1 (.int (if nI na7 < x2 then nI na7 else x2)))))) p0 = some (.inr (9, fso1)) := (gm_set_ne (ne_p0_q)).trans ho1
  have w14 : (gm_set M q (.inr (9, (fso4.set 1 (.int (if nI na7 < x2 then nI na7 else x2)))))) q = some (.inr (9, (fso4.set 1 (.int (if nI na7 < x2 then nI na7 else x2))))) := gm_set_eq
  have w15 : (gm_set M q (.inr (9, (fso4.set 1 (.int (if nI na7 < x2 then nI na7 else x2)))))) r5 = some (.inl (.int, na7, .inl fa7)) := (gm_set_ne ((gm_ne_oa ho4 ha7).symm)).trans ha7
  refine gm_ev.aload_n i97_16 rfl ?_
  refine gm_ev.getfield (v := .ref r16) i97_17 rfl (gm_fld_of w13 f17) ?_
  refine gm_ev.iconst (v := 0) i97_20 (by decide) ?_
  refine gm_ev.aload_n i97_21 rfl ?_
  refine gm_ev.getfield (v := .ref r5) i97_22 rfl (gm_fld_of w14 g11) ?_
  refine gm_ev.iconst (v := 0) i97_25 (by decide) ?_
  refine gm_ev.aload_n i97_26 rfl ?_
  refine gm_ev.getfield (v := .int (if nI na7 < x2 then nI na7 else x2)) i97_27 rfl (gm_fld_of w14 g12) ?_
  refine gm_ev.callS gm_mono_run (av := [.ref r16, .int (0 : Int32), .ref r5, .int (0 : Int32), .int (if nI na7 < x2 then nI na7 else x2)]) (r := []) i97_30 rfl rfl rfl (Nat.le_of_ble_eq_true rfl) t18 ?_
  exact gm_ev.vret i97_33 rfl
theorem c_X10_isSame_0_t_at15 {N0 : Nat} {K : Nat → Nat} {d : Nat} {M : gm_H} {sz sl : Nat} {R : gm_R} {q : Nat} {p0 : Nat} {fso1 : List Value} {x2 : Int32} {fso4 : List Value} {x5 : Int32} (ho1 : M q = some (.inr (9, fso1))) (f3 : fso1[1]? = some (.int x2)) (ho4 : M p0 = some (.inr (9, fso4))) (f6 : fso4[1]? = some (.int x5)) (c7 : x2 = x5) (k : gm_ev N0 K ra_nm (ra_mt K) d (some .boolean) (gm_I cX10_isSame) (gm_lkf (lkX10 false K)) 15 [some (.ref q), some (.ref p0), some (.int (0 : Int32))] [] M sz sl R) : gm_ev N0 K ra_nm (ra_mt K) d (some .boolean) (gm_I cX10_isSame) (gm_lkf (lkX10 false K)) 0 [some (.ref q), some (.ref p0), none] [] M sz sl R := by
  refine gm_ev.aload_n i98_0 rfl ?_
  refine gm_ev.getfield (v := .int x2) i98_1 rfl (gm_fld_of ho1 f3) ?_
  refine gm_ev.aload_n i98_4 rfl ?_
  refine gm_ev.getfield (v := .int x5) i98_5 rfl (gm_fld_of ho4 f6) ?_
  refine gm_ev.icmp_eq_t (tgt := 13) i98_8 (by decide) c7 ?_
  refine gm_ev.iconst (v := 0) i98_13 (by decide) ?_
  refine gm_ev.istore_n (ls' := [some (.ref q), some (.ref p0), some (.int (0 : Int32))]) i98_14 (Nat.le_of_ble_eq_true rfl) rfl ?_
  exact k
theorem c_X10_isSame_0_f {N0 : Nat} {K : Nat → Nat} {d : Nat} {M : gm_H} {sz sl : Nat} {q : Nat} {p0 : Nat} {fso1 : List Value} {x2 : Int32} {fso4 : List Value} {x5 : Int32} (ho1 : M q = some (.inr (9, fso1))) (f3 : fso1[1]? = some (.int x2)) (ho4 : M p0 = some (.inr (9, fso4))) (f6 : fso4[1]? = some (.int x5)) (c7 : ¬ x2 = x5) : gm_ev N0 K ra_nm (ra_mt K) d (some .boolean) (gm_I cX10_isSame) (gm_lkf (lkX10 false K)) 0 [some (.ref q), some (.ref p0), none] [] M sz sl (.returned (some (.int (0 : Int32))), M, sz, sl) := by
  refine gm_ev.aload_n i98_0 rfl ?_
  refine gm_ev.getfield (v := .int x2) i98_1 rfl (gm_fld_of ho1 f3) ?_
  refine gm_ev.aload_n i98_4 rfl ?_
  refine gm_ev.getfield (v := .int x5) i98_5 rfl (gm_fld_of ho4 f6) ?_
  refine gm_ev.icmp_eq_f i98_8 c7 ?_
  refine gm_ev.iconst (v := 0) i98_11 (by decide) ?_
  exact gm_ev.zret i98_12 rfl (by decide)
theorem c_X10_isSame_15_t {N0 : Nat} {K : Nat → Nat} {d : Nat} {M : gm_H} {sz sl : Nat} {q : Nat} {p0 : Nat} {u2 : Int32} {fso1 : List Value} {x2 : Int32} (ho1 : M q = some (.inr (9, fso1))) (f3 : fso1[1]? = some (.int x2)) (c4 : x2 ≤ u2) : gm_ev N0 K ra_nm (ra_mt K) d (some .boolean) (gm_I cX10_isSame) (gm_lkf (lkX10 false K)) 15 [some (.ref q), some (.ref p0), some (.int u2)] [] M sz sl (.returned (some (.int (1 : Int32))), M, sz, sl) := by
  refine gm_ev.iload_n i98_15 rfl ?_
  refine gm_ev.aload_n i98_16 rfl ?_
  refine gm_ev.getfield (v := .int x2) i98_17 rfl (gm_fld_of ho1 f3) ?_
  refine gm_ev.icmp_ge_t (tgt := 46) i98_20 (by decide) c4 ?_
  refine gm_ev.iconst (v := 1) i98_46 (by decide) ?_
  exact gm_ev.zret i98_47 rfl (by decide)
theorem c_X10_isSame_15_ft_at15 {N0 : Nat} {K : Nat → Nat} {d : Nat} {M : gm_H} {sz sl : Nat} {R : gm_R} {q : Nat} {p0 : Nat} {u2 : Int32} {fso1 : List Value} {x2 : Int32} {r5 : Nat} {na7 : Nat} {fa7 : Nat → Int32} {k8 : Nat} {fso9 : List Value} {r10 : Nat} {na12 : Nat} {fa12 : Nat → Int32} {k13 : Nat} (ho1 : M q = some (.inr (9, fso1))) (f3 : fso1[1]? = some (.int x2)) (c4 : ¬ x2 ≤ u2) (f6 : fso1[0]? = some (.ref r5)) (ha7 : M r5 = some (.inl (.int, na7, .inl fa7))) (ba7 : na7 < 2 ^ 31) (ek8 : u2 = nI k8) (lk8 : k8 < na7) (ho9 : M p0 = some (.inr (9, fso9))) (f11 : fso9[0]? = some (.ref r10)) (ha12 : M r10 = some (.inl (.int, na12, .inl fa12))) (ba12 : na12 < 2 ^ 31) (ek13 : u2 = nI k13) (lk13 : k13 < na12) (c14 : (fa7 k8) = (fa12 k13)) (k : gm_ev N0 K ra_nm (ra_mt K) d (some .boolean) (gm_I cX10_isSame) (gm_lkf (lkX10 false K)) 15 [some (.ref q), some (.ref p0), some (.int (u2 + (1 : Int32)))] [] M sz sl R) : gm_ev N0 K ra_nm (ra_mt K) d (some .boolean) (gm_I cX10_isSame) (gm_lkf (lkX10 false K)) 15 [some (.ref q), some (.ref p0), some (.int u2)] [] M sz sl R := by
  refine gm_ev.iload_n i98_15 rfl ?_
  refine gm_ev.aload_n i98_16 rfl ?_
  refine gm_ev.getfield (v := .int x2) i98_17 rfl (gm_fld_of ho1 f3) ?_
  refine gm_ev.icmp_ge_f i98_20 c4 ?_
  refine gm_ev.aload_n i98_23 rfl ?_
  refine gm_ev.getfield (v := .ref r5) i98_24 rfl (gm_fld_of ho1 f6) ?_
  refine gm_ev.iload_n i98_27 rfl ?_
  refine gm_ev.iaload i98_28 (gm_ai_of ha7 ek8 lk8 ba7) ?_
  refine gm_ev.aload_n i98_29 rfl ?_
  refine gm_ev.getfield (v := .ref r10) i98_30 rfl (gm_fld_of ho9 f11) ?_
  refine gm_ev.iload_n i98_33 rfl ?_
  refine gm_ev.iaload i98_34 (gm_ai_of ha12 ek13 lk13 ba12) ?_
  refine gm_ev.icmp_eq_t (tgt := 40) i98_35 (by decide) c14 ?_
  refine gm_ev.iinc (v := u2 + (1 : Int32)) (ls' := [some (.ref q), some (.ref p0), some (.int (u2 + (1 : Int32)))]) i98_40 rfl (by rfl) rfl ?_
  refine gm_ev.goto (tgt := 15) i98_43 (by decide) ?_
  exact k
theorem c_X10_isSame_15_ff {N0 : Nat} {K : Nat → Nat} {d : Nat} {M : gm_H} {sz sl : Nat} {q : Nat} {p0 : Nat} {u2 : Int32} {fso1 : List Value} {x2 : Int32} {r5 : Nat} {na7 : Nat} {fa7 : Nat → Int32} {k8 : Nat} {fso9 : List Value} {r10 : Nat} {na12 : Nat} {fa12 : Nat → Int32} {k13 : Nat} (ho1 : M q = some (.inr (9, fso1))) (f3 : fso1[1]? = some (.int x2)) (c4 : ¬ x2 ≤ u2) (f6 : fso1[0]? = some (.ref r5)) (ha7 : M r5 = some (.inl (.int, na7, .inl fa7))) (ba7 : na7 < 2 ^ 31) (ek8 : u2 = nI k8) (lk8 : k8 < na7) (ho9 : M p0 = some (.inr (9, fso9))) (f11 : fso9[0]? = some (.ref r10)) (ha12 : M r10 = some (.inl (.int, na12, .inl fa12))) (ba12 : na12 < 2 ^ 31) (ek13 : u2 = nI k13) (lk13 : k13 < na12) (c14 : ¬ (fa7 k8) = (fa12 k13)) : gm_ev N0 K ra_nm (ra_mt K) d (some .boolean) (gm_I cX10_isSame) (gm_lkf (lkX10 false K)) 15 [some (.ref q), some (.ref p0), some (.int u2)] [] M sz sl (.returned (some (.int (0 : Int32))), M, sz, sl) := by
  refine gm_ev.iload_n i98_15 rfl ?_
  refine gm_ev.aload_n i98_16 rfl ?_
  refine gm_ev.getfield (v := .int x2) i98_17 rfl (gm_fld_of ho1 f3) ?_
  refine gm_ev.icmp_ge_f i98_20 c4 ?_
  refine gm_ev.aload_n i98_23 rfl ?_
  refine gm_ev.getfield (v := .ref r5) i98_24 rfl (gm_fld_of ho1 f6) ?_
  refine gm_ev.iload_n i98_27 rfl ?_
  refine gm_ev.iaload i98_28 (gm_ai_of ha7 ek8 lk8 ba7) ?_
  refine gm_ev.aload_n i98_29 rfl ?_
  refine gm_ev.getfield (v := .ref r10) i98_30 rfl (gm_fld_of ho9 f11) ?_
  refine gm_ev.iload_n i98_33 rfl ?_
  refine gm_ev.iaload i98_34 (gm_ai_of ha12 ek13 lk13 ba12) ?_
  refine gm_ev.icmp_eq_f i98_35 c14 ?_
  refine gm_ev.iconst (v := 0) i98_38 (by decide) ?_
  exact gm_ev.zret i98_39 rfl (by decide)
theorem c_X10_insert_0__at7 {N0 : Nat} {K : Nat → Nat} {d : Nat} {M : gm_H} {sz sl : Nat} {R : gm_R} {q : Nat} {p0 : Int32} {fso1 : List Value} {x2 : Int32} (ho1 : M q = some (.inr (9, fso1))) (f3 : fso1[1]? = some (.int x2)) (k : gm_ev N0 K ra_nm (ra_mt K) d (some .boolean) (gm_I cX10_insert) (gm_lkf (lkX10 false K)) 7 [some (.ref q), some (.int p0), some (.int (0 : Int32)), some (.int x2), none] [] M sz sl R) : gm_ev N0 K ra_nm (ra_mt K) d (some .boolean) (gm_I cX10_insert) (gm_lkf (lkX10 false K)) 0 [some (.ref q), some (.int p0), none, none, none] [] M sz sl R := by
  refine gm_ev.iconst (v := 0) i99_0 (by decide) ?_
  refine gm_ev.istore_n (ls' := [some (.ref q), some (.int p0), some (.int (0 : Int32)), none, none]) i99_1 (Nat.le_of_ble_eq_true rfl) rfl ?_
  refine gm_ev.aload_n i99_2 rfl ?_
  refine gm_ev.getfield (v := .int x2) i99_3 rfl (gm_fld_of ho1 f3) ?_
  refine gm_ev.istore_n (ls' := [some (.ref q), some (.int p0), some (.int (0 : Int32)), some (.int x2), none]) i99_6 (Nat.le_of_ble_eq_true rfl) rfl ?_
  exact k
theorem c_X10_insert_7_ttt {N0 : Nat} {K : Nat → Nat} {d : Nat} {M : gm_H} {sz sl : Nat} {q : Nat} {u1 : Int32} {u2 : Int32} {u3 : Int32} {fso2 : List Value} {x3 : Int32} {r6 : Nat} {na8 : Nat} {fa8 : Nat → Int32} {M11 : gm_H} {sz12 : Nat} {dd13 : Nat} {fso14 : List Value} {r15 : Nat} {na17 : Nat} {fa17 : Nat → Int32} {k18 : Nat} {x21 : Int32} (c1 : u3 ≤ u2) (ho2 : M q = some (.inr (9, fso2))) (f4 : fso2[1]? = some (.int x3)) (c5 : x3 ≤ u2) (f7 : fso2[0]? = some (.ref r6)) (ha8 : M r6 = some (.inl (.int, na8, .inl fa8))) (ba8 : na8 < 2 ^ 31) (c9 : ¬ x3 = (nI na8)) (t10 : gm_to N0 K ra_nm (ra_mt K) d 3 [.ref r6, .int u2, .ref r6, .int (u2 + (1 : Int32)), .int (x3 - u2)] M sz (.returned none, M11, sz12, dd13)) (ho14 : M11 q = some (.inr (9, fso14))) (f16 : fso14[0]? = some (.ref r15)) (ha17 : M11 r15 = some (.inl (.int, na17, .inl fa17))) (ba17 : na17 < 2 ^ 31) (hNr15 : N0 ≤ r15) (ek18 : u2 = nI k18) (lk18 : k18 < na17) (f22 : fso14[1]? = some (.int x21)) (hNq : N0 ≤ q) : gm_ev N0 K ra_nm (ra_mt K) d (some .boolean) (gm_I cX10_insert) (gm_lkf (lkX10 false K)) 7 [some (.ref q), some (.int u1), some (.int u2), some (.int u3), none] [] M sz sl (.returned (some (.int (1 : Int32))), (gm_set (gm_set M11 r15 (.inl (.int, na17, .inl (upd fa17 k18 u1)))) q (.inr (9, (fso14.set 1 (.int (x21 + (1 : Int32))))))), sz12, (sl + dd13)) := by
  refine gm_ev.iload_n i99_7 rfl ?_
  refine gm_ev.iload_n i99_8 rfl ?_
  refine gm_ev.icmp_ge_t (tgt := 44) i99_9 (by decide) c1 ?_
  refine gm_ev.iload_n i99_44 rfl ?_
  refine gm_ev.aload_n i99_45 rfl ?_
  refine gm_ev.getfield (v := .int x3) i99_46 rfl (gm_fld_of ho2 f4) ?_
  refine gm_ev.icmp_ge_t (tgt := 64) i99_49 (by decide) c5 ?_
  refine gm_ev.aload_n i99_64 rfl ?_
  refine gm_ev.getfield (v := .int x3) i99_65 rfl (gm_fld_of ho2 f4) ?_
  refine gm_ev.aload_n i99_68 rfl ?_
  refine gm_ev.getfield (v := .ref r6) i99_69 rfl (gm_fld_of ho2 f7) ?_
  refine gm_ev.alen i99_72 (gm_alen_of ha8) ?_
  refine gm_ev.icmp_ne_t (tgt := 78) i99_73 (by decide) c9 ?_
  refine gm_ev.aload_n i99_78 rfl ?_
  refine gm_ev.getfield (v := .ref r6) i99_79 rfl (gm_fld_of ho2 f7) ?_
  refine gm_ev.iload_n i99_82 rfl ?_
  refine gm_ev.aload_n i99_83 rfl ?_
  refine gm_ev.getfield (v := .ref r6) i99_84 rfl (gm_fld_of ho2 f7) ?_
  refine gm_ev.iload_n i99_87 rfl ?_
  refine gm_ev.iconst (v := 1) i99_88 (by decide) ?_
  refine gm_ev.iadd i99_89 ?_
  refine gm_ev.aload_n i99_90 rfl ?_
  refine gm_ev.getfield (v := .int x3) i99_91 rfl (gm_fld_of ho2 f4) ?_
  refine gm_ev.iload_n i99_94 rfl ?_
  refine gm_ev.isub i99_95 ?_
  refine gm_ev.callS gm_mono_run (av := [.ref r6, .int u2, .ref r6, .int (u2 + (1 : Int32)), .int (x3 - u2)]) (r := []) i99_96 rfl rfl rfl (Nat.le_of_ble_eq_true rfl) t10 ?_
  refine gm_ev.aload_n i99_99 rfl ?_
  refine gm_ev.getfield (v := .ref r15) i99_100 rfl (gm_fld_of ho14 f16) ?_
  refine gm_ev.iload_n i99_103 rfl ?_
  refine gm_ev.iload_n i99_104 rfl ?_
  refine gm_ev.iastore (M' := (gm_set M11 r15 (.inl (.int, na17, .inl (upd fa17 k18 u1))))) i99_105 (gm_asti_of ha17 ek18 lk18 ba17 hNr15) ?_
  have w19 : (gm_set M11 r15 (.inl (.int, na17, .inl (upd fa17 k18 u1)))) q = some (.inr (9, fso14)) := (gm_set_ne (gm_ne_oa ho14 ha17)).trans ho14
  have w20 : (gm_set M11 r15 (.inl (.int, na17, .inl (upd fa17 k18 u1)))) r15 = some (.inl (.int, na17, .inl (upd fa17 k18 u1))) := gm_set_eq
  refine gm_ev.aload_n i99_106 rfl ?_
  refine gm_ev.dup i99_107 rfl ?_
  refine gm_ev.getfield (v := .int x21) i99_108 rfl (gm_fld_of w19 f22) ?_
  refine gm_ev.iconst (v := 1) i99_111 (by decide) ?_
  refine gm_ev.iadd i99_112 ?_
  refine gm_ev.putfield (M' := (gm_set (gm_set M11 r15 (.inl (.int, na17, .inl (upd fa17 k18 u1)))) q (.inr (9, (fso14.set 1 (.int (x21 + (1 : Int32)))))))) i99_113 rfl (gm_put_of w19 (gm_lt f22) hNq (gm_fit_i _)) ?_
  have g23 : (fso14.set 1 (.int (x21 + (1 : Int32))))[0]? = some (.ref r15) := (gm_fs_ne (by decide)).trans f16
  have g24 : (fso14.set 1 (.int (x21 + (1 : Int32))))[1]? = some (.int (x21 + (1 : Int32))) := gm_fs_eq (gm_lt f22)
  have w25 : (gm_set (gm_set M11 r15 (.inl (.int, na17, .inl (upd fa17 k18 u1)))) q (.inr (9, (fso14.set 1 (.int (x21 + (1 : Int32))))))) q = some (.inr (9, (fso14.set 1 (.int (x21 + (1 : Int32)))))) := gm_set_eq
  have w26 : (gm_set (gm_set M11 r15 (.inl (.int, na17, .inl (upd fa17 k18 u1)))) q (.inr (9, (fso14.set 1 (.int (x21 + (1 : Int32))))))) r15 = some (.inl (.int, na17, .inl (upd fa17 k18 u1))) := (gm_set_ne ((gm_ne_oa w19 w20).symm)).trans w20
  refine gm_ev.iconst (v := 1) i99_116 (by decide) ?_
  exact gm_ev.zret i99_117 rfl (by decide)
theorem c_X10_insert_7_ttf {N0 : Nat} {K : Nat → Nat} {d : Nat} {M : gm_H} {sz sl : Nat} {q : Nat} {u1 : Int32} {u2 : Int32} {u3 : Int32} {fso2 : List Value} {x3 : Int32} {r6 : Nat} {na8 : Nat} {fa8 : Nat → Int32} (c1 : u3 ≤ u2) (ho2 : M q = some (.inr (9, fso2))) (f4 : fso2[1]? = some (.int x3)) (c5 : x3 ≤ u2) (f7 : fso2[0]? = some (.ref r6)) (ha8 : M r6 = some (.inl (.int, na8, .inl fa8))) (ba8 : na8 < 2 ^ 31) (c9 : x3 = (nI na8)) : gm_ev N0 K ra_nm (ra_mt K) d (some .boolean) (gm_I cX10_insert) (gm_lkf (lkX10 false K)) 7 [some (.ref q), some (.int u1), some (.int u2), some (.int u3), none] [] M sz sl (.returned (some (.int (0 : Int32))), M, sz, sl) := by
  refine gm_ev.iload_n i99_7 rfl ?_
  refine gm_ev.iload_n i99_8 rfl ?_
  refine gm_ev.icmp_ge_t (tgt := 44) i99_9 (by decide) c1 ?_
  refine gm_ev.iload_n i99_44 rfl ?_
  refine gm_ev.aload_n i99_45 rfl ?_
  refine gm_ev.getfield (v := .int x3) i99_46 rfl (gm_fld_of ho2 f4) ?_
  refine gm_ev.icmp_ge_t (tgt := 64) i99_49 (by decide) c5 ?_
  refine gm_ev.aload_n i99_64 rfl ?_
  refine gm_ev.getfield (v := .int x3) i99_65 rfl (gm_fld_of ho2 f4) ?_
  refine gm_ev.aload_n i99_68 rfl ?_
  refine gm_ev.getfield (v := .ref r6) i99_69 rfl (gm_fld_of ho2 f7) ?_
  refine gm_ev.alen i99_72 (gm_alen_of ha8) ?_
  refine gm_ev.icmp_ne_f i99_73 c9 ?_
  refine gm_ev.iconst (v := 0) i99_76 (by decide) ?_
  exact gm_ev.zret i99_77 rfl (by decide)
theorem c_X10_insert_7_tftt {N0 : Nat} {K : Nat → Nat} {d : Nat} {M : gm_H} {sz sl : Nat} {q : Nat} {u1 : Int32} {u2 : Int32} {u3 : Int32} {fso2 : List Value} {x3 : Int32} {r6 : Nat} {na8 : Nat} {fa8 : Nat → Int32} {k9 : Nat} {M13 : gm_H} {sz14 : Nat} {dd15 : Nat} {fso16 : List Value} {r17 : Nat} {na19 : Nat} {fa19 : Nat → Int32} {k20 : Nat} {x23 : Int32} (c1 : u3 ≤ u2) (ho2 : M q = some (.inr (9, fso2))) (f4 : fso2[1]? = some (.int x3)) (c5 : ¬ x3 ≤ u2) (f7 : fso2[0]? = some (.ref r6)) (ha8 : M r6 = some (.inl (.int, na8, .inl fa8))) (ba8 : na8 < 2 ^ 31) (ek9 : u2 = nI k9) (lk9 : k9 < na8) (c10 : ¬ (fa8 k9) = u1) (c11 : ¬ x3 = (nI na8)) (t12 : gm_to N0 K ra_nm (ra_mt K) d 3 [.ref r6, .int u2, .ref r6, .int (u2 + (1 : Int32)), .int (x3 - u2)] M sz (.returned none, M13, sz14, dd15)) (ho16 : M13 q = some (.inr (9, fso16))) (f18 : fso16[0]? = some (.ref r17)) (ha19 : M13 r17 = some (.inl (.int, na19, .inl fa19))) (ba19 : na19 < 2 ^ 31) (hNr17 : N0 ≤ r17) (ek20 : u2 = nI k20) (lk20 : k20 < na19) (f24 : fso16[1]? = some (.int x23)) (hNq : N0 ≤ q) : gm_ev N0 K ra_nm (ra_mt K) d (some .boolean) (gm_I cX10_insert) (gm_lkf (lkX10 false K)) 7 [some (.ref q), some (.int u1), some (.int u2), some (.int u3), none] [] M sz sl (.returned (some (.int (1 : Int32))), (gm_set (gm_set M13 r17 (.inl (.int, na19, .inl (upd fa19 k20 u1)))) q (.inr (9, (fso16.set 1 (.int (x23 + (1 : Int32))))))), sz14, (sl + dd15)) := by
  refine gm_ev.iload_n i99_7 rfl ?_
  refine gm_ev.iload_n i99_8 rfl ?_
  refine gm_ev.icmp_ge_t (tgt := 44) i99_9 (by decide) c1 ?_
  refine gm_ev.iload_n i99_44 rfl ?_
  refine gm_ev.aload_n i99_45 rfl ?_
  refine gm_ev.getfield (v := .int x3) i99_46 rfl (gm_fld_of ho2 f4) ?_
  refine gm_ev.icmp_ge_f i99_49 c5 ?_
  refine gm_ev.aload_n i99_52 rfl ?_
  refine gm_ev.getfield (v := .ref r6) i99_53 rfl (gm_fld_of ho2 f7) ?_
  refine gm_ev.iload_n i99_56 rfl ?_
  refine gm_ev.iaload i99_57 (gm_ai_of ha8 ek9 lk9 ba8) ?_
  refine gm_ev.iload_n i99_58 rfl ?_
  refine gm_ev.icmp_ne_t (tgt := 64) i99_59 (by decide) c10 ?_
  refine gm_ev.aload_n i99_64 rfl ?_
  refine gm_ev.getfield (v := .int x3) i99_65 rfl (gm_fld_of ho2 f4) ?_
  refine gm_ev.aload_n i99_68 rfl ?_
  refine gm_ev.getfield (v := .ref r6) i99_69 rfl (gm_fld_of ho2 f7) ?_
  refine gm_ev.alen i99_72 (gm_alen_of ha8) ?_
  refine gm_ev.icmp_ne_t (tgt := 78) i99_73 (by decide) c11 ?_
  refine gm_ev.aload_n i99_78 rfl ?_
  refine gm_ev.getfield (v := .ref r6) i99_79 rfl (gm_fld_of ho2 f7) ?_
  refine gm_ev.iload_n i99_82 rfl ?_
  refine gm_ev.aload_n i99_83 rfl ?_
  refine gm_ev.getfield (v := .ref r6) i99_84 rfl (gm_fld_of ho2 f7) ?_
  refine gm_ev.iload_n i99_87 rfl ?_
  refine gm_ev.iconst (v := 1) i99_88 (by decide) ?_
  refine gm_ev.iadd i99_89 ?_
  refine gm_ev.aload_n i99_90 rfl ?_
  refine gm_ev.getfield (v := .int x3) i99_91 rfl (gm_fld_of ho2 f4) ?_
  refine gm_ev.iload_n i99_94 rfl ?_
  refine gm_ev.isub i99_95 ?_
  refine gm_ev.callS gm_mono_run (av := [.ref r6, .int u2, .ref r6, .int (u2 + (1 : Int32)), .int (x3 - u2)]) (r := []) i99_96 rfl rfl rfl (Nat.le_of_ble_eq_true rfl) t12 ?_
  refine gm_ev.aload_n i99_99 rfl ?_
  refine gm_ev.getfield (v := .ref r17) i99_100 rfl (gm_fld_of ho16 f18) ?_
  refine gm_ev.iload_n i99_103 rfl ?_
  refine gm_ev.iload_n i99_104 rfl ?_
  refine gm_ev.iastore (M' := (gm_set M13 r17 (.inl (.int, na19, .inl (upd fa19 k20 u1))))) i99_105 (gm_asti_of ha19 ek20 lk20 ba19 hNr17) ?_
  have w21 : (gm_set M13 r17 (.inl (.int, na19, .inl (upd fa19 k20 u1)))) q = some (.inr (9, fso16)) := (gm_set_ne (gm_ne_oa ho16 ha19)).trans ho16
  have w22 : (gm_set M13 r17 (.inl (.int, na19, .inl (upd fa19 k20 u1)))) r17 = some (.inl (.int, na19, .inl (upd fa19 k20 u1))) := gm_set_eq
  refine gm_ev.aload_n i99_106 rfl ?_
  refine gm_ev.dup i99_107 rfl ?_
  refine gm_ev.getfield (v := .int x23) i99_108 rfl (gm_fld_of w21 f24) ?_
  refine gm_ev.iconst (v := 1) i99_111 (by decide) ?_
  refine gm_ev.iadd i99_112 ?_
  refine gm_ev.putfield (M' := (gm_set (gm_set M13 r17 (.inl (.int, na19, .inl (upd fa19 k20 u1)))) q (.inr (9, (fso16.set 1 (.int (x23 + (1 : Int32)))))))) i99_113 rfl (gm_put_of w21 (gm_lt f24) hNq (gm_fit_i _)) ?_
  have g25 : (fso16.set 1 (.int (x23 + (1 : Int32))))[0]? = some (.ref r17) := (gm_fs_ne (by decide)).trans f18
  have g26 : (fso16.set 1 (.int (x23 + (1 : Int32))))[1]? = some (.int (x23 + (1 : Int32))) := gm_fs_eq (gm_lt f24)
  have w27 : (gm_set (gm_set M13 r17 (.inl (.int, na19, .inl (upd fa19 k20 u1)))) q (.inr (9, (fso16.set 1 (.int (x23 + (1 : Int32))))))) q = some (.inr (9, (fso16.set 1 (.int (x23 + (1 : Int32)))))) := gm_set_eq
  have w28 : (gm_set (gm_set M13 r17 (.inl (.int, na19, .inl (upd fa19 k20 u1)))) q (.inr (9, (fso16.set 1 (.int (x23 + (1 : Int32))))))) r17 = some (.inl (.int, na19, .inl (upd fa19 k20 u1))) := (gm_set_ne ((gm_ne_oa w21 w22).symm)).trans w22
  refine gm_ev.iconst (v := 1) i99_116 (by decide) ?_
  exact gm_ev.zret i99_117 rfl (by decide)
theorem c_X10_insert_7_tftf {N0 : Nat} {K : Nat → Nat} {d : Nat} {M : gm_H} {sz sl : Nat} {q : Nat} {u1 : Int32} {u2 : Int32} {u3 : Int32} {fso2 : List Value} {x3 : Int32} {r6 : Nat} {na8 : Nat} {fa8 : Nat → Int32} {k9 : Nat} (c1 : u3 ≤ u2) (ho2 : M q = some (.inr (9, fso2))) (f4 : fso2[1]? = some (.int x3)) (c5 : ¬ x3 ≤ u2) (f7 : fso2[0]? = some (.ref r6)) (ha8 : M r6 = some (.inl (.int, na8, .inl fa8))) (ba8 : na8 < 2 ^ 31) (ek9 : u2 = nI k9) (lk9 : k9 < na8) (c10 : ¬ (fa8 k9) = u1) (c11 : x3 = (nI na8)) : gm_ev N0 K ra_nm (ra_mt K) d (some .boolean) (gm_I cX10_insert) (gm_lkf (lkX10 false K)) 7 [some (.ref q), some (.int u1), some (.int u2), some (.int u3), none] [] M sz sl (.returned (some (.int (0 : Int32))), M, sz, sl) := by
  refine gm_ev.iload_n i99_7 rfl ?_
  refine gm_ev.iload_n i99_8 rfl ?_
  refine gm_ev.icmp_ge_t (tgt := 44) i99_9 (by decide) c1 ?_
  refine gm_ev.iload_n i99_44 rfl ?_
  refine gm_ev.aload_n i99_45 rfl ?_
  refine gm_ev.getfield (v := .int x3) i99_46 rfl (gm_fld_of ho2 f4) ?_
  refine gm_ev.icmp_ge_f i99_49 c5 ?_
  refine gm_ev.aload_n i99_52 rfl ?_
  refine gm_ev.getfield (v := .ref r6) i99_53 rfl (gm_fld_of ho2 f7) ?_
  refine gm_ev.iload_n i99_56 rfl ?_
  refine gm_ev.iaload i99_57 (gm_ai_of ha8 ek9 lk9 ba8) ?_
  refine gm_ev.iload_n i99_58 rfl ?_
  refine gm_ev.icmp_ne_t (tgt := 64) i99_59 (by decide) c10 ?_
  refine gm_ev.aload_n i99_64 rfl ?_
  refine gm_ev.getfield (v := .int x3) i99_65 rfl (gm_fld_of ho2 f4) ?_
  refine gm_ev.aload_n i99_68 rfl ?_
  refine gm_ev.getfield (v := .ref r6) i99_69 rfl (gm_fld_of ho2 f7) ?_
  refine gm_ev.alen i99_72 (gm_alen_of ha8) ?_
  refine gm_ev.icmp_ne_f i99_73 c11 ?_
  refine gm_ev.iconst (v := 0) i99_76 (by decide) ?_
  exact gm_ev.zret i99_77 rfl (by decide)
theorem c_X10_insert_7_tff {N0 : Nat} {K : Nat → Nat} {d : Nat} {M : gm_H} {sz sl : Nat} {q : Nat} {u1 : Int32} {u2 : Int32} {u3 : Int32} {fso2 : List Value} {x3 : Int32} {r6 : Nat} {na8 : Nat} {fa8 : Nat → Int32} {k9 : Nat} (c1 : u3 ≤ u2) (ho2 : M q = some (.inr (9, fso2))) (f4 : fso2[1]? = some (.int x3)) (c5 : ¬ x3 ≤ u2) (f7 : fso2[0]? = some (.ref r6)) (ha8 : M r6 = some (.inl (.int, na8, .inl fa8))) (ba8 : na8 < 2 ^ 31) (ek9 : u2 = nI k9) (lk9 : k9 < na8) (c10 : (fa8 k9) = u1) : gm_ev N0 K ra_nm (ra_mt K) d (some .boolean) (gm_I cX10_insert) (gm_lkf (lkX10 false K)) 7 [some (.ref q), some (.int u1), some (.int u2), some (.int u3), none] [] M sz sl (.returned (some (.int (1 : Int32))), M, sz, sl) := by
  refine gm_ev.iload_n i99_7 rfl ?_
  refine gm_ev.iload_n i99_8 rfl ?_
  refine gm_ev.icmp_ge_t (tgt := 44) i99_9 (by decide) c1 ?_
  refine gm_ev.iload_n i99_44 rfl ?_
  refine gm_ev.aload_n i99_45 rfl ?_
  refine gm_ev.getfield (v := .int x3) i99_46 rfl (gm_fld_of ho2 f4) ?_
  refine gm_ev.icmp_ge_f i99_49 c5 ?_
  refine gm_ev.aload_n i99_52 rfl ?_
  refine gm_ev.getfield (v := .ref r6) i99_53 rfl (gm_fld_of ho2 f7) ?_
  refine gm_ev.iload_n i99_56 rfl ?_
  refine gm_ev.iaload i99_57 (gm_ai_of ha8 ek9 lk9 ba8) ?_
  refine gm_ev.iload_n i99_58 rfl ?_
  refine gm_ev.icmp_ne_f i99_59 c10 ?_
  refine gm_ev.iconst (v := 1) i99_62 (by decide) ?_
  exact gm_ev.zret i99_63 rfl (by decide)
theorem c_X10_insert_7_ft_at7 {N0 : Nat} {K : Nat → Nat} {d : Nat} {M : gm_H} {sz sl : Nat} {R : gm_R} {q : Nat} {u1 : Int32} {u2 : Int32} {u3 : Int32} {fso2 : List Value} {r3 : Nat} {na5 : Nat} {fa5 : Nat → Int32} {k6 : Nat} (c1 : ¬ u3 ≤ u2) (ho2 : M q = some (.inr (9, fso2))) (f4 : fso2[0]? = some (.ref r3)) (ha5 : M r3 = some (.inl (.int, na5, .inl fa5))) (ba5 : na5 < 2 ^ 31) (ek6 : ((((u2 + u3)).toUInt32 >>> (((1 : Int32)).toUInt32 &&& Int32.toUInt32 31)).toInt32) = nI k6) (lk6 : k6 < na5) (c7 : u1 ≤ (fa5 k6)) (k : gm_ev N0 K ra_nm (ra_mt K) d (some .boolean) (gm_I cX10_insert) (gm_lkf (lkX10 false K)) 7 [some (.ref q), some (.int u1), some (.int u2), some (.int ((((u2 + u3)).toUInt32 >>> (((1 : Int32)).toUInt32 &&& Int32.toUInt32 31)).toInt32)), none] [] M sz sl R) : gm_ev N0 K ra_nm (ra_mt K) d (some .boolean) (gm_I cX10_insert) (gm_lkf (lkX10 false K)) 7 [some (.ref q), some (.int u1), some (.int u2), some (.int u3), none] [] M sz sl R := by
  refine gm_ev.iload_n i99_7 rfl ?_
  refine gm_ev.iload_n i99_8 rfl ?_
  refine gm_ev.icmp_ge_f i99_9 c1 ?_
  refine gm_ev.iload_n i99_12 rfl ?_
  refine gm_ev.iload_n i99_13 rfl ?_
  refine gm_ev.iadd i99_14 ?_
  refine gm_ev.iconst (v := 1) i99_15 (by decide) ?_
  refine gm_ev.iushr i99_16 ?_
  refine gm_ev.istore (ls' := [some (.ref q), some (.int u1), some (.int u2), some (.int u3), some (.int ((((u2 + u3)).toUInt32 >>> (((1 : Int32)).toUInt32 &&& Int32.toUInt32 31)).toInt32))]) i99_17 (Nat.le_of_ble_eq_true rfl) rfl ?_
  refine gm_ev.aload_n i99_19 rfl ?_
  refine gm_ev.getfield (v := .ref r3) i99_20 rfl (gm_fld_of ho2 f4) ?_
  refine gm_ev.iload i99_23 rfl ?_
  refine gm_ev.iaload i99_25 (gm_ai_of ha5 ek6 lk6 ba5) ?_
  refine gm_ev.iload_n i99_26 rfl ?_
  refine gm_ev.icmp_ge_t (tgt := 38) i99_27 (by decide) c7 ?_
  refine gm_ev.iload i99_38 rfl ?_
  refine gm_ev.istore_n (ls' := [some (.ref q), some (.int u1), some (.int u2), some (.int ((((u2 + u3)).toUInt32 >>> (((1 : Int32)).toUInt32 &&& Int32.toUInt32 31)).toInt32)), some (.int ((((u2 + u3)).toUInt32 >>> (((1 : Int32)).toUInt32 &&& Int32.toUInt32 31)).toInt32))]) i99_40 (Nat.le_of_ble_eq_true rfl) rfl ?_
  refine gm_ev.goto (tgt := 7) i99_41 (by decide) ?_
  refine gm_ev.le (a := [some (.ref q), some (.int u1), some (.int u2), some (.int ((((u2 + u3)).toUInt32 >>> (((1 : Int32)).toUInt32 &&& Int32.toUInt32 31)).toInt32)), none]) (gm_leL.le (show gm_leL _ _ from ⟨rfl, ⟨rfl, ⟨rfl, ⟨rfl, trivial⟩⟩⟩⟩)) ?_
  exact k
theorem c_X10_insert_7_ff_at7 {N0 : Nat} {K : Nat → Nat} {d : Nat} {M : gm_H} {sz sl : Nat} {R : gm_R} {q : Nat} {u1 : Int32} {u2 : Int32} {u3 : Int32} {fso2 : List Value} {r3 : Nat} {na5 : Nat} {fa5 : Nat → Int32} {k6 : Nat} (c1 : ¬ u3 ≤ u2) (ho2 : M q = some (.inr (9, fso2))) (f4 : fso2[0]? = some (.ref r3)) (ha5 : M r3 = some (.inl (.int, na5, .inl fa5))) (ba5 : na5 < 2 ^ 31) (ek6 : ((((u2 + u3)).toUInt32 >>> (((1 : Int32)).toUInt32 &&& Int32.toUInt32 31)).toInt32) = nI k6) (lk6 : k6 < na5) (c7 : ¬ u1 ≤ (fa5 k6)) (k : gm_ev N0 K ra_nm (ra_mt K) d (some .boolean) (gm_I cX10_insert) (gm_lkf (lkX10 false K)) 7 [some (.ref q), some (.int u1), some (.int (((((u2 + u3)).toUInt32 >>> (((1 : Int32)).toUInt32 &&& Int32.toUInt32 31)).toInt32) + (1 : Int32))), some (.int u3), none] [] M sz sl R) : gm_ev N0 K ra_nm (ra_mt K) d (some .boolean) (gm_I cX10_insert) (gm_lkf (lkX10 false K)) 7 [some (.ref q), some (.int u1), some (.int u2), some (.int u3), none] [] M sz sl R := by
  refine gm_ev.iload_n i99_7 rfl ?_
  refine gm_ev.iload_n i99_8 rfl ?_
  refine gm_ev.icmp_ge_f i99_9 c1 ?_
  refine gm_ev.iload_n i99_12 rfl ?_
  refine gm_ev.iload_n i99_13 rfl ?_
  refine gm_ev.iadd i99_14 ?_
  refine gm_ev.iconst (v := 1) i99_15 (by decide) ?_
  refine gm_ev.iushr i99_16 ?_
  refine gm_ev.istore (ls' := [some (.ref q), some (.int u1), some (.int u2), some (.int u3), some (.int ((((u2 + u3)).toUInt32 >>> (((1 : Int32)).toUInt32 &&& Int32.toUInt32 31)).toInt32))]) i99_17 (Nat.le_of_ble_eq_true rfl) rfl ?_
  refine gm_ev.aload_n i99_19 rfl ?_
  refine gm_ev.getfield (v := .ref r3) i99_20 rfl (gm_fld_of ho2 f4) ?_
  refine gm_ev.iload i99_23 rfl ?_
  refine gm_ev.iaload i99_25 (gm_ai_of ha5 ek6 lk6 ba5) ?_
  refine gm_ev.iload_n i99_26 rfl ?_
  refine gm_ev.icmp_ge_f i99_27 c7 ?_
  refine gm_ev.iload i99_30 rfl ?_
  refine gm_ev.iconst (v := 1) i99_32 (by decide) ?_
  refine gm_ev.iadd i99_33 ?_
  refine gm_ev.istore_n (ls' := [some (.ref q), some (.int u1), some (.int (((((u2 + u3)).toUInt32 >>> (((1 : Int32)).toUInt32 &&& Int32.toUInt32 31)).toInt32) + (1 : Int32))), some (.int u3), some (.int ((((u2 + u3)).toUInt32 >>> (((1 : Int32)).toUInt32 &&& Int32.toUInt32 31)).toInt32))]) i99_34 (Nat.le_of_ble_eq_true rfl) rfl ?_
  refine gm_ev.goto (tgt := 41) i99_35 (by decide) ?_
  refine gm_ev.goto (tgt := 7) i99_41 (by decide) ?_
  refine gm_ev.le (a := [some (.ref q), some (.int u1), some (.int (((((u2 + u3)).toUInt32 >>> (((1 : Int32)).toUInt32 &&& Int32.toUInt32 31)).toInt32) + (1 : Int32))), some (.int u3), none]) (gm_leL.le (show gm_leL _ _ from ⟨rfl, ⟨rfl, ⟨rfl, ⟨rfl, trivial⟩⟩⟩⟩)) ?_
  exact k
theorem c_X10_collect_0__at12 {N0 : Nat} {K : Nat → Nat} {d : Nat} {M : gm_H} {sz sl : Nat} {R : gm_R} {q : Nat} {p0 : Nat} {p1 : Int32} {fso1 : List Value} {fso5 : List Value} {r6 : Nat} {na8 : Nat} {fa8 : Nat → Int32} {k9 : Nat} (ho1 : M q = some (.inr (9, fso1))) (hNq : N0 ≤ q) (l2 : 1 < fso1.length) (ho5 : (gm_set M q (.inr (9, (fso1.set 1 (.int (0 : Int32)))))) p0 = some (.inr (1, fso5))) (f7 : fso5[5]? = some (.ref r6)) (ha8 : (gm_set M q (.inr (9, (fso1.set 1 (.int (0 : Int32)))))) r6 = some (.inl (.int, na8, .inl fa8))) (ba8 : na8 < 2 ^ 31) (ek9 : p1 = nI k9) (lk9 : k9 < na8) (k : gm_ev N0 K ra_nm (ra_mt K) d (some .boolean) (gm_I cX10_collect) (gm_lkf (lkX10 false K)) 12 [some (.ref q), some (.ref p0), none, some (.int (fa8 k9))] [] (gm_set M q (.inr (9, (fso1.set 1 (.int (0 : Int32)))))) sz sl R) : gm_ev N0 K ra_nm (ra_mt K) d (some .boolean) (gm_I cX10_collect) (gm_lkf (lkX10 false K)) 0 [some (.ref q), some (.ref p0), some (.int p1), none] [] M sz sl R := by
  refine gm_ev.aload_n i100_0 rfl ?_
  refine gm_ev.iconst (v := 0) i100_1 (by decide) ?_
  refine gm_ev.putfield (M' := (gm_set M q (.inr (9, (fso1.set 1 (.int (0 : Int32))))))) i100_2 rfl (gm_put_of ho1 l2 hNq (gm_fit_i _)) ?_
  have g3 : (fso1.set 1 (.int (0 : Int32)))[1]? = some (.int (0 : Int32)) := gm_fs_eq l2
  have w4 : (gm_set M q (.inr (9, (fso1.set 1 (.int (0 : Int32)))))) q = some (.inr (9, (fso1.set 1 (.int (0 : Int32))))) := gm_set_eq
  refine gm_ev.aload_n i100_5 rfl ?_
  refine gm_ev.getfield (v := .ref r6) i100_6 rfl (gm_fld_of ho5 f7) ?_
  refine gm_ev.iload_n i100_9 rfl ?_
  refine gm_ev.iaload i100_10 (gm_ai_of ha8 ek9 lk9 ba8) ?_
  refine gm_ev.istore_n (ls' := [some (.ref q), some (.ref p0), some (.int p1), some (.int (fa8 k9))]) i100_11 (Nat.le_of_ble_eq_true rfl) rfl ?_
  refine gm_ev.le (a := [some (.ref q), some (.ref p0), none, some (.int (fa8 k9))]) (gm_leL.le (show gm_leL _ _ from ⟨rfl, ⟨rfl, ⟨rfl, trivial⟩⟩⟩)) ?_
  exact k
theorem c_X10_collect_12_t {N0 : Nat} {K : Nat → Nat} {d : Nat} {M : gm_H} {sz sl : Nat} {q : Nat} {p0 : Nat} {u3 : Int32} (c1 : u3 ≤ 0) : gm_ev N0 K ra_nm (ra_mt K) d (some .boolean) (gm_I cX10_collect) (gm_lkf (lkX10 false K)) 12 [some (.ref q), some (.ref p0), none, some (.int u3)] [] M sz sl (.returned (some (.int (1 : Int32))), M, sz, sl) := by
  refine gm_ev.iload_n i100_12 rfl ?_
  refine gm_ev.if_le_t (tgt := 41) i100_13 (by decide) c1 ?_
  refine gm_ev.iconst (v := 1) i100_41 (by decide) ?_
  exact gm_ev.zret i100_42 rfl (by decide)
theorem c_X10_collect_12_ft_at12 {N0 : Nat} {K : Nat → Nat} {d : Nat} {M : gm_H} {sz sl : Nat} {R : gm_R} {q : Nat} {p0 : Nat} {u3 : Int32} {fso2 : List Value} {r3 : Nat} {na5 : Nat} {fa5 : Nat → Int32} {k6 : Nat} {fso7 : List Value} {r8 : Int32} {M10 : gm_H} {sz11 : Nat} {dd12 : Nat} {fso14 : List Value} {r15 : Nat} {na17 : Nat} {fa17 : Nat → Int32} {k18 : Nat} (c1 : ¬ u3 ≤ 0) (ho2 : M p0 = some (.inr (1, fso2))) (f4 : fso2[1]? = some (.ref r3)) (ha5 : M r3 = some (.inl (.int, na5, .inl fa5))) (ba5 : na5 < 2 ^ 31) (ek6 : u3 = nI k6) (lk6 : k6 < na5) (ho7 : M q = some (.inr (9, fso7))) (t9 : gm_to N0 K ra_nm (ra_mt K) d 99 [.ref q, .int (fa5 k6)] M sz (.returned (some (.int r8)), M10, sz11, dd12)) (c13 : ¬ r8 = 0) (ho14 : M10 p0 = some (.inr (1, fso14))) (f16 : fso14[4]? = some (.ref r15)) (ha17 : M10 r15 = some (.inl (.int, na17, .inl fa17))) (ba17 : na17 < 2 ^ 31) (ek18 : u3 = nI k18) (lk18 : k18 < na17) (k : gm_ev N0 K ra_nm (ra_mt K) d (some .boolean) (gm_I cX10_collect) (gm_lkf (lkX10 false K)) 12 [some (.ref q), some (.ref p0), none, some (.int (fa17 k18))] [] M10 sz11 (sl + dd12) R) : gm_ev N0 K ra_nm (ra_mt K) d (some .boolean) (gm_I cX10_collect) (gm_lkf (lkX10 false K)) 12 [some (.ref q), some (.ref p0), none, some (.int u3)] [] M sz sl R := by
  refine gm_ev.iload_n i100_12 rfl ?_
  refine gm_ev.if_le_f i100_13 c1 ?_
  refine gm_ev.aload_n i100_16 rfl ?_
  refine gm_ev.aload_n i100_17 rfl ?_
  refine gm_ev.getfield (v := .ref r3) i100_18 rfl (gm_fld_of ho2 f4) ?_
  refine gm_ev.iload_n i100_21 rfl ?_
  refine gm_ev.iaload i100_22 (gm_ai_of ha5 ek6 lk6 ba5) ?_
  refine gm_ev.callV gm_mono_run (av := [.int (fa5 k6)]) (r := []) (fs := fso7) ho7 i100_23 rfl rfl rfl (Nat.le_of_ble_eq_true rfl) t9 ?_
  refine gm_ev.if_ne_t (tgt := 31) i100_26 (by decide) c13 ?_
  refine gm_ev.aload_n i100_31 rfl ?_
  refine gm_ev.getfield (v := .ref r15) i100_32 rfl (gm_fld_of ho14 f16) ?_
  refine gm_ev.iload_n i100_35 rfl ?_
  refine gm_ev.iaload i100_36 (gm_ai_of ha17 ek18 lk18 ba17) ?_
  refine gm_ev.istore_n (ls' := [some (.ref q), some (.ref p0), none, some (.int (fa17 k18))]) i100_37 (Nat.le_of_ble_eq_true rfl) rfl ?_
  refine gm_ev.goto (tgt := 12) i100_38 (by decide) ?_
  exact k
theorem c_X10_collect_12_ff {N0 : Nat} {K : Nat → Nat} {d : Nat} {M : gm_H} {sz sl : Nat} {q : Nat} {p0 : Nat} {u3 : Int32} {fso2 : List Value} {r3 : Nat} {na5 : Nat} {fa5 : Nat → Int32} {k6 : Nat} {fso7 : List Value} {r8 : Int32} {M10 : gm_H} {sz11 : Nat} {dd12 : Nat} (c1 : ¬ u3 ≤ 0) (ho2 : M p0 = some (.inr (1, fso2))) (f4 : fso2[1]? = some (.ref r3)) (ha5 : M r3 = some (.inl (.int, na5, .inl fa5))) (ba5 : na5 < 2 ^ 31) (ek6 : u3 = nI k6) (lk6 : k6 < na5) (ho7 : M q = some (.inr (9, fso7))) (t9 : gm_to N0 K ra_nm (ra_mt K) d 99 [.ref q, .int (fa5 k6)] M sz (.returned (some (.int r8)), M10, sz11, dd12)) (c13 : r8 = 0) : gm_ev N0 K ra_nm (ra_mt K) d (some .boolean) (gm_I cX10_collect) (gm_lkf (lkX10 false K)) 12 [some (.ref q), some (.ref p0), none, some (.int u3)] [] M sz sl (.returned (some (.int (0 : Int32))), M10, sz11, (sl + dd12)) := by
  refine gm_ev.iload_n i100_12 rfl ?_
  refine gm_ev.if_le_f i100_13 c1 ?_
  refine gm_ev.aload_n i100_16 rfl ?_
  refine gm_ev.aload_n i100_17 rfl ?_
  refine gm_ev.getfield (v := .ref r3) i100_18 rfl (gm_fld_of ho2 f4) ?_
  refine gm_ev.iload_n i100_21 rfl ?_
  refine gm_ev.iaload i100_22 (gm_ai_of ha5 ek6 lk6 ba5) ?_
  refine gm_ev.callV gm_mono_run (av := [.int (fa5 k6)]) (r := []) (fs := fso7) ho7 i100_23 rfl rfl rfl (Nat.le_of_ble_eq_true rfl) t9 ?_
  refine gm_ev.if_ne_f i100_26 c13 ?_
  refine gm_ev.iconst (v := 0) i100_29 (by decide) ?_
  exact gm_ev.zret i100_30 rfl (by decide)
theorem c_X10_collectMoves_0__at12 {N0 : Nat} {K : Nat → Nat} {d : Nat} {M : gm_H} {sz sl : Nat} {R : gm_R} {q : Nat} {p0 : Nat} {p1 : Int32} {fso1 : List Value} {fso5 : List Value} {r6 : Nat} {na8 : Nat} {fa8 : Nat → Int32} {k9 : Nat} (ho1 : M q = some (.inr (9, fso1))) (hNq : N0 ≤ q) (l2 : 1 < fso1.length) (ho5 : (gm_set M q (.inr (9, (fso1.set 1 (.int (0 : Int32)))))) p0 = some (.inr (1, fso5))) (f7 : fso5[5]? = some (.ref r6)) (ha8 : (gm_set M q (.inr (9, (fso1.set 1 (.int (0 : Int32)))))) r6 = some (.inl (.int, na8, .inl fa8))) (ba8 : na8 < 2 ^ 31) (ek9 : (5 : Int32) = nI k9) (lk9 : k9 < na8) (k : gm_ev N0 K ra_nm (ra_mt K) d none (gm_I cX10_collectMoves) (gm_lkf (lkX10 false K)) 12 [some (.ref q), some (.ref p0), some (.int p1), some (.int (fa8 k9))] [] (gm_set M q (.inr (9, (fso1.set 1 (.int (0 : Int32)))))) sz sl R) : gm_ev N0 K ra_nm (ra_mt K) d none (gm_I cX10_collectMoves) (gm_lkf (lkX10 false K)) 0 [some (.ref q), some (.ref p0), some (.int p1), none] [] M sz sl R := by
  refine gm_ev.aload_n i101_0 rfl ?_
  refine gm_ev.iconst (v := 0) i101_1 (by decide) ?_
  refine gm_ev.putfield (M' := (gm_set M q (.inr (9, (fso1.set 1 (.int (0 : Int32))))))) i101_2 rfl (gm_put_of ho1 l2 hNq (gm_fit_i _)) ?_
  have g3 : (fso1.set 1 (.int (0 : Int32)))[1]? = some (.int (0 : Int32)) := gm_fs_eq l2
  have w4 : (gm_set M q (.inr (9, (fso1.set 1 (.int (0 : Int32)))))) q = some (.inr (9, (fso1.set 1 (.int (0 : Int32))))) := gm_set_eq
  refine gm_ev.aload_n i101_5 rfl ?_
  refine gm_ev.getfield (v := .ref r6) i101_6 rfl (gm_fld_of ho5 f7) ?_
  refine gm_ev.iconst (v := 5) i101_9 (by decide) ?_
  refine gm_ev.iaload i101_10 (gm_ai_of ha8 ek9 lk9 ba8) ?_
  refine gm_ev.istore_n (ls' := [some (.ref q), some (.ref p0), some (.int p1), some (.int (fa8 k9))]) i101_11 (Nat.le_of_ble_eq_true rfl) rfl ?_
  exact k
theorem c_X10_collectMoves_12_t {N0 : Nat} {K : Nat → Nat} {d : Nat} {M : gm_H} {sz sl : Nat} {q : Nat} {p0 : Nat} {u2 : Int32} {u3 : Int32} (c1 : u3 ≤ 0) : gm_ev N0 K ra_nm (ra_mt K) d none (gm_I cX10_collectMoves) (gm_lkf (lkX10 false K)) 12 [some (.ref q), some (.ref p0), some (.int u2), some (.int u3)] [] M sz sl (.returned none, M, sz, sl) := by
  refine gm_ev.iload_n i101_12 rfl ?_
  refine gm_ev.if_le_t (tgt := 47) i101_13 (by decide) c1 ?_
  exact gm_ev.vret i101_47 rfl
theorem c_X10_collectMoves_12_ft_at12 {N0 : Nat} {K : Nat → Nat} {d : Nat} {M : gm_H} {sz sl : Nat} {R : gm_R} {q : Nat} {p0 : Nat} {u2 : Int32} {u3 : Int32} {fso2 : List Value} {r3 : Nat} {na5 : Nat} {fa5 : Nat → Int32} {k6 : Nat} {r8 : Nat} {na10 : Nat} {fa10 : Nat → Int32} {k11 : Nat} (c1 : ¬ u3 ≤ 0) (ho2 : M p0 = some (.inr (1, fso2))) (f4 : fso2[1]? = some (.ref r3)) (ha5 : M r3 = some (.inl (.int, na5, .inl fa5))) (ba5 : na5 < 2 ^ 31) (ek6 : u3 = nI k6) (lk6 : k6 < na5) (c7 : ¬ (fa5 k6) = u2) (f9 : fso2[4]? = some (.ref r8)) (ha10 : M r8 = some (.inl (.int, na10, .inl fa10))) (ba10 : na10 < 2 ^ 31) (ek11 : u3 = nI k11) (lk11 : k11 < na10) (k : gm_ev N0 K ra_nm (ra_mt K) d none (gm_I cX10_collectMoves) (gm_lkf (lkX10 false K)) 12 [some (.ref q), some (.ref p0), some (.int u2), some (.int (fa10 k11))] [] M sz sl R) : gm_ev N0 K ra_nm (ra_mt K) d none (gm_I cX10_collectMoves) (gm_lkf (lkX10 false K)) 12 [some (.ref q), some (.ref p0), some (.int u2), some (.int u3)] [] M sz sl R := by
  refine gm_ev.iload_n i101_12 rfl ?_
  refine gm_ev.if_le_f i101_13 c1 ?_
  refine gm_ev.aload_n i101_16 rfl ?_
  refine gm_ev.getfield (v := .ref r3) i101_17 rfl (gm_fld_of ho2 f4) ?_
  refine gm_ev.iload_n i101_20 rfl ?_
  refine gm_ev.iaload i101_21 (gm_ai_of ha5 ek6 lk6 ba5) ?_
  refine gm_ev.iload_n i101_22 rfl ?_
  refine gm_ev.icmp_ne_t (tgt := 37) i101_23 (by decide) c7 ?_
  refine gm_ev.aload_n i101_37 rfl ?_
  refine gm_ev.getfield (v := .ref r8) i101_38 rfl (gm_fld_of ho2 f9) ?_
  refine gm_ev.iload_n i101_41 rfl ?_
  refine gm_ev.iaload i101_42 (gm_ai_of ha10 ek11 lk11 ba10) ?_
  refine gm_ev.istore_n (ls' := [some (.ref q), some (.ref p0), some (.int u2), some (.int (fa10 k11))]) i101_43 (Nat.le_of_ble_eq_true rfl) rfl ?_
  refine gm_ev.goto (tgt := 12) i101_44 (by decide) ?_
  exact k
theorem c_X10_collectMoves_12_ff_at12 {N0 : Nat} {K : Nat → Nat} {d : Nat} {M : gm_H} {sz sl : Nat} {R : gm_R} {q : Nat} {p0 : Nat} {u2 : Int32} {u3 : Int32} {fso2 : List Value} {r3 : Nat} {na5 : Nat} {fa5 : Nat → Int32} {k6 : Nat} {r8 : Nat} {na10 : Nat} {fa10 : Nat → Int32} {k11 : Nat} {fso12 : List Value} {r13 : Int32} {M15 : gm_H} {sz16 : Nat} {dd17 : Nat} {fso18 : List Value} {r19 : Nat} {na21 : Nat} {fa21 : Nat → Int32} {k22 : Nat} (c1 : ¬ u3 ≤ 0) (ho2 : M p0 = some (.inr (1, fso2))) (f4 : fso2[1]? = some (.ref r3)) (ha5 : M r3 = some (.inl (.int, na5, .inl fa5))) (ba5 : na5 < 2 ^ 31) (ek6 : u3 = nI k6) (lk6 : k6 < na5) (c7 : (fa5 k6) = u2) (f9 : fso2[2]? = some (.ref r8)) (ha10 : M r8 = some (.inl (.int, na10, .inl fa10))) (ba10 : na10 < 2 ^ 31) (ek11 : u3 = nI k11) (lk11 : k11 < na10) (ho12 : M q = some (.inr (9, fso12))) (t14 : gm_to N0 K ra_nm (ra_mt K) d 99 [.ref q, .int (fa10 k11)] M sz (.returned (some (.int r13)), M15, sz16, dd17)) (ho18 : M15 p0 = some (.inr (1, fso18))) (f20 : fso18[4]? = some (.ref r19)) (ha21 : M15 r19 = some (.inl (.int, na21, .inl fa21))) (ba21 : na21 < 2 ^ 31) (ek22 : u3 = nI k22) (lk22 : k22 < na21) (k : gm_ev N0 K ra_nm (ra_mt K) d none (gm_I cX10_collectMoves) (gm_lkf (lkX10 false K)) 12 [some (.ref q), some (.ref p0), some (.int u2), some (.int (fa21 k22))] [] M15 sz16 (sl + dd17) R) : gm_ev N0 K ra_nm (ra_mt K) d none (gm_I cX10_collectMoves) (gm_lkf (lkX10 false K)) 12 [some (.ref q), some (.ref p0), some (.int u2), some (.int u3)] [] M sz sl R := by
  refine gm_ev.iload_n i101_12 rfl ?_
  refine gm_ev.if_le_f i101_13 c1 ?_
  refine gm_ev.aload_n i101_16 rfl ?_
  refine gm_ev.getfield (v := .ref r3) i101_17 rfl (gm_fld_of ho2 f4) ?_
  refine gm_ev.iload_n i101_20 rfl ?_
  refine gm_ev.iaload i101_21 (gm_ai_of ha5 ek6 lk6 ba5) ?_
  refine gm_ev.iload_n i101_22 rfl ?_
  refine gm_ev.icmp_ne_f i101_23 c7 ?_
  refine gm_ev.aload_n i101_26 rfl ?_
  refine gm_ev.aload_n i101_27 rfl ?_
  refine gm_ev.getfield (v := .ref r8) i101_28 rfl (gm_fld_of ho2 f9) ?_
  refine gm_ev.iload_n i101_31 rfl ?_
  refine gm_ev.iaload i101_32 (gm_ai_of ha10 ek11 lk11 ba10) ?_
  refine gm_ev.callV gm_mono_run (av := [.int (fa10 k11)]) (r := []) (fs := fso12) ho12 i101_33 rfl rfl rfl (Nat.le_of_ble_eq_true rfl) t14 ?_
  refine gm_ev.pop i101_36 rfl ?_
  refine gm_ev.aload_n i101_37 rfl ?_
  refine gm_ev.getfield (v := .ref r19) i101_38 rfl (gm_fld_of ho18 f20) ?_
  refine gm_ev.iload_n i101_41 rfl ?_
  refine gm_ev.iaload i101_42 (gm_ai_of ha21 ek22 lk22 ba21) ?_
  refine gm_ev.istore_n (ls' := [some (.ref q), some (.ref p0), some (.int u2), some (.int (fa21 k22))]) i101_43 (Nat.le_of_ble_eq_true rfl) rfl ?_
  refine gm_ev.goto (tgt := 12) i101_44 (by decide) ?_
  exact k
theorem c_J6_bitCount_0f7a4_0_ {N0 : Nat} {K : Nat → Nat} {d : Nat} {M : gm_H} {sz sl : Nat} {p0 : Int32}  : gm_ev N0 K ra_nm (ra_mt K) d (some .int) (gm_I cJ6_bitCount_0f7a4) (gm_lkf (lkJ6 false K)) 0 [some (.int p0)] [] M sz sl (.returned (some (.int ((((((((p0 - ((((p0).toUInt32 >>> (((1 : Int32)).toUInt32 &&& Int32.toUInt32 31)).toInt32) &&& (1431655765 : Int32))) &&& (858993459 : Int32)) + (((((p0 - ((((p0).toUInt32 >>> (((1 : Int32)).toUInt32 &&& Int32.toUInt32 31)).toInt32) &&& (1431655765 : Int32)))).toUInt32 >>> (((2 : Int32)).toUInt32 &&& Int32.toUInt32 31)).toInt32) &&& (858993459 : Int32))) + ((((((p0 - ((((p0).toUInt32 >>> (((1 : Int32)).toUInt32 &&& Int32.toUInt32 31)).toInt32) &&& (1431655765 : Int32))) &&& (858993459 : Int32)) + (((((p0 - ((((p0).toUInt32 >>> (((1 : Int32)).toUInt32 &&& Int32.toUInt32 31)).toInt32) &&& (1431655765 : Int32)))).toUInt32 >>> (((2 : Int32)).toUInt32 &&& Int32.toUInt32 31)).toInt32) &&& (858993459 : Int32)))).toUInt32 >>> (((4 : Int32)).toUInt32 &&& Int32.toUInt32 31)).toInt32)) &&& (252645135 : Int32)) + ((((((((p0 - ((((p0).toUInt32 >>> (((1 : Int32)).toUInt32 &&& Int32.toUInt32 31)).toInt32) &&& (1431655765 : Int32))) &&& (858993459 : Int32)) + (((((p0 - ((((p0).toUInt32 >>> (((1 : Int32)).toUInt32 &&& Int32.toUInt32 31)).toInt32) &&& (1431655765 : Int32)))).toUInt32 >>> (((2 : Int32)).toUInt32 &&& Int32.toUInt32 31)).toInt32) &&& (858993459 : Int32))) + ((((((p0 - ((((p0).toUInt32 >>> (((1 : Int32)).toUInt32 &&& Int32.toUInt32 31)).toInt32) &&& (1431655765 : Int32))) &&& (858993459 : Int32)) + (((((p0 - ((((p0).toUInt32 >>> (((1 : Int32)).toUInt32 &&& Int32.toUInt32 31)).toInt32) &&& (1431655765 : Int32)))).toUInt32 >>> (((2 : Int32)).toUInt32 &&& Int32.toUInt32 31)).toInt32) &&& (858993459 : Int32)))).toUInt32 >>> (((4 : Int32)).toUInt32 &&& Int32.toUInt32 31)).toInt32)) &&& (252645135 : Int32))).toUInt32 >>> (((8 : Int32)).toUInt32 &&& Int32.toUInt32 31)).toInt32)) + (((((((((p0 - ((((p0).toUInt32 >>> (((1 : Int32)).toUInt32 &&& Int32.toUInt32 31)).toInt32) &&& (1431655765 : Int32))) &&& (858993459 : Int32)) + (((((p0 - ((((p0).toUInt32 >>> (((1 : Int32)).toUInt32 &&& Int32.toUInt32 31)).toInt32) &&& (1431655765 : Int32)))).toUInt32 >>> (((2 : Int32)).toUInt32 &&& Int32.toUInt32 31)).toInt32) &&& (858993459 : Int32))) + ((((((p0 - ((((p0).toUInt32 >>> (((1 : Int32)).toUInt32 &&& Int32.toUInt32 31)).toInt32) &&& (1431655765 : Int32))) &&& (858993459 : Int32)) + (((((p0 - ((((p0).toUInt32 >>> (((1 : Int32)).toUInt32 &&& Int32.toUInt32 31)).toInt32) &&& (1431655765 : Int32)))).toUInt32 >>> (((2 : Int32)).toUInt32 &&& Int32.toUInt32 31)).toInt32) &&& (858993459 : Int32)))).toUInt32 >>> (((4 : Int32)).toUInt32 &&& Int32.toUInt32 31)).toInt32)) &&& (252645135 : Int32)) + ((((((((p0 - ((((p0).toUInt32 >>> (((1 : Int32)).toUInt32 &&& Int32.toUInt32 31)).toInt32) &&& (1431655765 : Int32))) &&& (858993459 : Int32)) + (((((p0 - ((((p0).toUInt32 >>> (((1 : Int32)).toUInt32 &&& Int32.toUInt32 31)).toInt32) &&& (1431655765 : Int32)))).toUInt32 >>> (((2 : Int32)).toUInt32 &&& Int32.toUInt32 31)).toInt32) &&& (858993459 : Int32))) + ((((((p0 - ((((p0).toUInt32 >>> (((1 : Int32)).toUInt32 &&& Int32.toUInt32 31)).toInt32) &&& (1431655765 : Int32))) &&& (858993459 : Int32)) + (((((p0 - ((((p0).toUInt32 >>> (((1 : Int32)).toUInt32 &&& Int32.toUInt32 31)).toInt32) &&& (1431655765 : Int32)))).toUInt32 >>> (((2 : Int32)).toUInt32 &&& Int32.toUInt32 31)).toInt32) &&& (858993459 : Int32)))).toUInt32 >>> (((4 : Int32)).toUInt32 &&& Int32.toUInt32 31)).toInt32)) &&& (252645135 : Int32))).toUInt32 >>> (((8 : Int32)).toUInt32 &&& Int32.toUInt32 31)).toInt32))).toUInt32 >>> (((16 : Int32)).toUInt32 &&& Int32.toUInt32 31)).toInt32)) &&& (63 : Int32)))), M, sz, sl) := by
  refine gm_ev.iload_n i191_0 rfl ?_
  refine gm_ev.iload_n i191_1 rfl ?_
  refine gm_ev.iconst (v := 1) i191_2 (by decide) ?_
  refine gm_ev.iushr i191_3 ?_
  refine gm_ev.ldcw i191_4 rfl ?_
  refine gm_ev.iand i191_7 ?_
  refine gm_ev.isub i191_8 ?_
  refine gm_ev.istore_n (ls' := [some (.int (p0 - ((((p0).toUInt32 >>> (((1 : Int32)).toUInt32 &&& Int32.toUInt32 31)).toInt32) &&& (1431655765 : Int32))))]) i191_9 (Nat.le_of_ble_eq_true rfl) rfl ?_
  refine gm_ev.iload_n i191_10 rfl ?_
  refine gm_ev.ldcw i191_11 rfl ?_
  refine gm_ev.iand i191_14 ?_
  refine gm_ev.iload_n i191_15 rfl ?_
  refine gm_ev.iconst (v := 2) i191_16 (by decide) ?_
  refine gm_ev.iushr i191_17 ?_
  refine gm_ev.ldcw i191_18 rfl ?_
  refine gm_ev.iand i191_21 ?_
  refine gm_ev.iadd i191_22 ?_
  refine gm_ev.istore_n (ls' := [some (.int (((p0 - ((((p0).toUInt32 >>> (((1 : Int32)).toUInt32 &&& Int32.toUInt32 31)).toInt32) &&& (1431655765 : Int32))) &&& (858993459 : Int32)) + (((((p0 - ((((p0).toUInt32 >>> (((1 : Int32)).toUInt32 &&& Int32.toUInt32 31)).toInt32) &&& (1431655765 : Int32)))).toUInt32 >>> (((2 : Int32)).toUInt32 &&& Int32.toUInt32 31)).toInt32) &&& (858993459 : Int32))))]) i191_23 (Nat.le_of_ble_eq_true rfl) rfl ?_
  refine gm_ev.iload_n i191_24 rfl ?_
  refine gm_ev.iload_n i191_25 rfl ?_
  refine gm_ev.iconst (v := 4) i191_26 (by decide) ?_
  refine gm_ev.iushr i191_27 ?_
  refine gm_ev.iadd i191_28 ?_
  refine gm_ev.ldcw i191_29 rfl ?_
  refine gm_ev.iand i191_32 ?_
  refine gm_ev.istore_n (ls' := [some (.int (((((p0 - ((((p0).toUInt32 >>> (((1 : Int32)).toUInt32 &&& Int32.toUInt32 31)).toInt32) &&& (1431655765 : Int32))) &&& (858993459 : Int32)) + (((((p0 - ((((p0).toUInt32 >>> (((1 : Int32)).toUInt32 &&& Int32.toUInt32 31)).toInt32) &&& (1431655765 : Int32)))).toUInt32 >>> (((2 : Int32)).toUInt32 &&& Int32.toUInt32 31)).toInt32) &&& (858993459 : Int32))) + ((((((p0 - ((((p0).toUInt32 >>> (((1 : Int32)).toUInt32 &&& Int32.toUInt32 31)).toInt32) &&& (1431655765 : Int32))) &&& (858993459 : Int32)) + (((((p0 - ((((p0).toUInt32 >>> (((1 : Int32)).toUInt32 &&& Int32.toUInt32 31)).toInt32) &&& (1431655765 : Int32)))).toUInt32 >>> (((2 : Int32)).toUInt32 &&& Int32.toUInt32 31)).toInt32) &&& (858993459 : Int32)))).toUInt32 >>> (((4 : Int32)).toUInt32 &&& Int32.toUInt32 31)).toInt32)) &&& (252645135 : Int32)))]) i191_33 (Nat.le_of_ble_eq_true rfl) rfl ?_
  refine gm_ev.iload_n i191_34 rfl ?_
  refine gm_ev.iload_n i191_35 rfl ?_
  refine gm_ev.bipush (v := 8) i191_36 (by decide) ?_
  refine gm_ev.iushr i191_38 ?_
  refine gm_ev.iadd i191_39 ?_
  refine gm_ev.istore_n (ls' := [some (.int ((((((p0 - ((((p0).toUInt32 >>> (((1 : Int32)).toUInt32 &&& Int32.toUInt32 31)).toInt32) &&& (1431655765 : Int32))) &&& (858993459 : Int32)) + (((((p0 - ((((p0).toUInt32 >>> (((1 : Int32)).toUInt32 &&& Int32.toUInt32 31)).toInt32) &&& (1431655765 : Int32)))).toUInt32 >>> (((2 : Int32)).toUInt32 &&& Int32.toUInt32 31)).toInt32) &&& (858993459 : Int32))) + ((((((p0 - ((((p0).toUInt32 >>> (((1 : Int32)).toUInt32 &&& Int32.toUInt32 31)).toInt32) &&& (1431655765 : Int32))) &&& (858993459 : Int32)) + (((((p0 - ((((p0).toUInt32 >>> (((1 : Int32)).toUInt32 &&& Int32.toUInt32 31)).toInt32) &&& (1431655765 : Int32)))).toUInt32 >>> (((2 : Int32)).toUInt32 &&& Int32.toUInt32 31)).toInt32) &&& (858993459 : Int32)))).toUInt32 >>> (((4 : Int32)).toUInt32 &&& Int32.toUInt32 31)).toInt32)) &&& (252645135 : Int32)) + ((((((((p0 - ((((p0).toUInt32 >>> (((1 : Int32)).toUInt32 &&& Int32.toUInt32 31)).toInt32) &&& (1431655765 : Int32))) &&& (858993459 : Int32)) + (((((p0 - ((((p0).toUInt32 >>> (((1 : Int32)).toUInt32 &&& Int32.toUInt32 31)).toInt32) &&& (1431655765 : Int32)))).toUInt32 >>> (((2 : Int32)).toUInt32 &&& Int32.toUInt32 31)).toInt32) &&& (858993459 : Int32))) + ((((((p0 - ((((p0).toUInt32 >>> (((1 : Int32)).toUInt32 &&& Int32.toUInt32 31)).toInt32) &&& (1431655765 : Int32))) &&& (858993459 : Int32)) + (((((p0 - ((((p0).toUInt32 >>> (((1 : Int32)).toUInt32 &&& Int32.toUInt32 31)).toInt32) &&& (1431655765 : Int32)))).toUInt32 >>> (((2 : Int32)).toUInt32 &&& Int32.toUInt32 31)).toInt32) &&& (858993459 : Int32)))).toUInt32 >>> (((4 : Int32)).toUInt32 &&& Int32.toUInt32 31)).toInt32)) &&& (252645135 : Int32))).toUInt32 >>> (((8 : Int32)).toUInt32 &&& Int32.toUInt32 31)).toInt32)))]) i191_40 (Nat.le_of_ble_eq_true rfl) rfl ?_
  refine gm_ev.iload_n i191_41 rfl ?_
  refine gm_ev.iload_n i191_42 rfl ?_
  refine gm_ev.bipush (v := 16) i191_43 (by decide) ?_
  refine gm_ev.iushr i191_45 ?_
  refine gm_ev.iadd i191_46 ?_
  refine gm_ev.istore_n (ls' := [some (.int (((((((p0 - ((((p0).toUInt32 >>> (((1 : Int32)).toUInt32 &&& Int32.toUInt32 31)).toInt32) &&& (1431655765 : Int32))) &&& (858993459 : Int32)) + (((((p0 - ((((p0).toUInt32 >>> (((1 : Int32)).toUInt32 &&& Int32.toUInt32 31)).toInt32) &&& (1431655765 : Int32)))).toUInt32 >>> (((2 : Int32)).toUInt32 &&& Int32.toUInt32 31)).toInt32) &&& (858993459 : Int32))) + ((((((p0 - ((((p0).toUInt32 >>> (((1 : Int32)).toUInt32 &&& Int32.toUInt32 31)).toInt32) &&& (1431655765 : Int32))) &&& (858993459 : Int32)) + (((((p0 - ((((p0).toUInt32 >>> (((1 : Int32)).toUInt32 &&& Int32.toUInt32 31)).toInt32) &&& (1431655765 : Int32)))).toUInt32 >>> (((2 : Int32)).toUInt32 &&& Int32.toUInt32 31)).toInt32) &&& (858993459 : Int32)))).toUInt32 >>> (((4 : Int32)).toUInt32 &&& Int32.toUInt32 31)).toInt32)) &&& (252645135 : Int32)) + ((((((((p0 - ((((p0).toUInt32 >>> (((1 : Int32)).toUInt32 &&& Int32.toUInt32 31)).toInt32) &&& (1431655765 : Int32))) &&& (858993459 : Int32)) + (((((p0 - ((((p0).toUInt32 >>> (((1 : Int32)).toUInt32 &&& Int32.toUInt32 31)).toInt32) &&& (1431655765 : Int32)))).toUInt32 >>> (((2 : Int32)).toUInt32 &&& Int32.toUInt32 31)).toInt32) &&& (858993459 : Int32))) + ((((((p0 - ((((p0).toUInt32 >>> (((1 : Int32)).toUInt32 &&& Int32.toUInt32 31)).toInt32) &&& (1431655765 : Int32))) &&& (858993459 : Int32)) + (((((p0 - ((((p0).toUInt32 >>> (((1 : Int32)).toUInt32 &&& Int32.toUInt32 31)).toInt32) &&& (1431655765 : Int32)))).toUInt32 >>> (((2 : Int32)).toUInt32 &&& Int32.toUInt32 31)).toInt32) &&& (858993459 : Int32)))).toUInt32 >>> (((4 : Int32)).toUInt32 &&& Int32.toUInt32 31)).toInt32)) &&& (252645135 : Int32))).toUInt32 >>> (((8 : Int32)).toUInt32 &&& Int32.toUInt32 31)).toInt32)) + (((((((((p0 - ((((p0).toUInt32 >>> (((1 : Int32)).toUInt32 &&& Int32.toUInt32 31)).toInt32) &&& (1431655765 : Int32))) &&& (858993459 : Int32)) + (((((p0 - ((((p0).toUInt32 >>> (((1 : Int32)).toUInt32 &&& Int32.toUInt32 31)).toInt32) &&& (1431655765 : Int32)))).toUInt32 >>> (((2 : Int32)).toUInt32 &&& Int32.toUInt32 31)).toInt32) &&& (858993459 : Int32))) + ((((((p0 - ((((p0).toUInt32 >>> (((1 : Int32)).toUInt32 &&& Int32.toUInt32 31)).toInt32) &&& (1431655765 : Int32))) &&& (858993459 : Int32)) + (((((p0 - ((((p0).toUInt32 >>> (((1 : Int32)).toUInt32 &&& Int32.toUInt32 31)).toInt32) &&& (1431655765 : Int32)))).toUInt32 >>> (((2 : Int32)).toUInt32 &&& Int32.toUInt32 31)).toInt32) &&& (858993459 : Int32)))).toUInt32 >>> (((4 : Int32)).toUInt32 &&& Int32.toUInt32 31)).toInt32)) &&& (252645135 : Int32)) + ((((((((p0 - ((((p0).toUInt32 >>> (((1 : Int32)).toUInt32 &&& Int32.toUInt32 31)).toInt32) &&& (1431655765 : Int32))) &&& (858993459 : Int32)) + (((((p0 - ((((p0).toUInt32 >>> (((1 : Int32)).toUInt32 &&& Int32.toUInt32 31)).toInt32) &&& (1431655765 : Int32)))).toUInt32 >>> (((2 : Int32)).toUInt32 &&& Int32.toUInt32 31)).toInt32) &&& (858993459 : Int32))) + ((((((p0 - ((((p0).toUInt32 >>> (((1 : Int32)).toUInt32 &&& Int32.toUInt32 31)).toInt32) &&& (1431655765 : Int32))) &&& (858993459 : Int32)) + (((((p0 - ((((p0).toUInt32 >>> (((1 : Int32)).toUInt32 &&& Int32.toUInt32 31)).toInt32) &&& (1431655765 : Int32)))).toUInt32 >>> (((2 : Int32)).toUInt32 &&& Int32.toUInt32 31)).toInt32) &&& (858993459 : Int32)))).toUInt32 >>> (((4 : Int32)).toUInt32 &&& Int32.toUInt32 31)).toInt32)) &&& (252645135 : Int32))).toUInt32 >>> (((8 : Int32)).toUInt32 &&& Int32.toUInt32 31)).toInt32))).toUInt32 >>> (((16 : Int32)).toUInt32 &&& Int32.toUInt32 31)).toInt32)))]) i191_47 (Nat.le_of_ble_eq_true rfl) rfl ?_
  refine gm_ev.iload_n i191_48 rfl ?_
  refine gm_ev.bipush (v := 63) i191_49 (by decide) ?_
  refine gm_ev.iand i191_51 ?_
  exact gm_ev.iret i191_52 rfl
theorem c_J7_fill_53178_0__at5 {N0 : Nat} {K : Nat → Nat} {d : Nat} {M : gm_H} {sz sl : Nat} {R : gm_R} {p0 : Nat} {p1 : Int32} {na1 : Nat} {fa1 : Nat → Int32} (ha1 : M p0 = some (.inl (.int, na1, .inl fa1))) (ba1 : na1 < 2 ^ 31) (k : gm_ev N0 K ra_nm (ra_mt K) d none (gm_I cJ7_fill_53178) (fun _ => none) 5 [some (.ref p0), some (.int p1), some (.int (0 : Int32)), some (.int (nI na1))] [] M sz sl R) : gm_ev N0 K ra_nm (ra_mt K) d none (gm_I cJ7_fill_53178) (fun _ => none) 0 [some (.ref p0), some (.int p1), none, none] [] M sz sl R := by
  refine gm_ev.iconst (v := 0) i192_0 (by decide) ?_
  refine gm_ev.istore_n (ls' := [some (.ref p0), some (.int p1), some (.int (0 : Int32)), none]) i192_1 (Nat.le_of_ble_eq_true rfl) rfl ?_
  refine gm_ev.aload_n i192_2 rfl ?_
  refine gm_ev.alen i192_3 (gm_alen_of ha1) ?_
  refine gm_ev.istore_n (ls' := [some (.ref p0), some (.int p1), some (.int (0 : Int32)), some (.int (nI na1))]) i192_4 (Nat.le_of_ble_eq_true rfl) rfl ?_
  exact k
theorem c_J7_fill_53178_5_t {N0 : Nat} {K : Nat → Nat} {d : Nat} {M : gm_H} {sz sl : Nat} {p0 : Nat} {u1 : Int32} {u2 : Int32} {u3 : Int32} (c1 : u3 ≤ u2) : gm_ev N0 K ra_nm (ra_mt K) d none (gm_I cJ7_fill_53178) (fun _ => none) 5 [some (.ref p0), some (.int u1), some (.int u2), some (.int u3)] [] M sz sl (.returned none, M, sz, sl) := by
  refine gm_ev.iload_n i192_5 rfl ?_
  refine gm_ev.iload_n i192_6 rfl ?_
  refine gm_ev.icmp_ge_t (tgt := 20) i192_7 (by decide) c1 ?_
  exact gm_ev.vret i192_20 rfl
theorem c_J7_fill_53178_5_f_at5 {N0 : Nat} {K : Nat → Nat} {d : Nat} {M : gm_H} {sz sl : Nat} {R : gm_R} {p0 : Nat} {u1 : Int32} {u2 : Int32} {u3 : Int32} {na2 : Nat} {fa2 : Nat → Int32} {k3 : Nat} (c1 : ¬ u3 ≤ u2) (ha2 : M p0 = some (.inl (.int, na2, .inl fa2))) (ba2 : na2 < 2 ^ 31) (hNp0 : N0 ≤ p0) (ek3 : u2 = nI k3) (lk3 : k3 < na2) (k : gm_ev N0 K ra_nm (ra_mt K) d none (gm_I cJ7_fill_53178) (fun _ => none) 5 [some (.ref p0), some (.int u1), some (.int (u2 + (1 : Int32))), some (.int u3)] [] (gm_set M p0 (.inl (.int, na2, .inl (upd fa2 k3 u1)))) sz sl R) : gm_ev N0 K ra_nm (ra_mt K) d none (gm_I cJ7_fill_53178) (fun _ => none) 5 [some (.ref p0), some (.int u1), some (.int u2), some (.int u3)] [] M sz sl R := by
  refine gm_ev.iload_n i192_5 rfl ?_
  refine gm_ev.iload_n i192_6 rfl ?_
  refine gm_ev.icmp_ge_f i192_7 c1 ?_
  refine gm_ev.aload_n i192_10 rfl ?_
  refine gm_ev.iload_n i192_11 rfl ?_
  refine gm_ev.iload_n i192_12 rfl ?_
  refine gm_ev.iastore (M' := (gm_set M p0 (.inl (.int, na2, .inl (upd fa2 k3 u1))))) i192_13 (gm_asti_of ha2 ek3 lk3 ba2 hNp0) ?_
  have w4 : (gm_set M p0 (.inl (.int, na2, .inl (upd fa2 k3 u1)))) p0 = some (.inl (.int, na2, .inl (upd fa2 k3 u1))) := gm_set_eq
  refine gm_ev.iinc (v := u2 + (1 : Int32)) (ls' := [some (.ref p0), some (.int u1), some (.int (u2 + (1 : Int32))), some (.int u3)]) i192_14 rfl (by rfl) rfl ?_
  refine gm_ev.goto (tgt := 5) i192_17 (by decide) ?_
  exact k
