/-! typed paths through the class, by program -/
theorem t_X0_valueBehind_4_fftff_at4 {N0 : Nat} {K : Nat → Nat} {d C : Nat} {s : cS} {G : gm_H} {sz sl : Nat} {R : gm_R} {u1 : Int32} {u2 : Int32} {u3 : Int32} {k2 : Nat} {k4 : Nat} {k7 : Nat} {k8 : Nat} {k10 : Nat} (hN : N0 ≤ C) (c1 : ¬ (s.1 584) ≤ u3) (ek2 : ((u1 * (60 : Int32)) + u3) = nI k2) (lk2 : k2 < 3600) (c3 : ¬ (s.2.1 31 k2) = (-1 : Int32)) (ek4 : u3 = nI k4) (lk4 : k4 < 60) (c5 : ¬ (s.2.1 32 k4) = (-1 : Int32)) (c6 : u2 = (-1 : Int32)) (ek7 : u3 = nI k7) (lk7 : k7 < 60) (ek8 : u1 = nI k8) (lk8 : k8 < 60) (c9 : ¬ (s.2.1 33 k8) = 0) (ek10 : u3 = nI k10) (lk10 : k10 < 60) (hd : 0 < d) (k : gm_ev N0 K ra_nm (ra_mt K) d (some .int) (gm_I cX0_valueBehind) (gm_lkf (lkX0 false K)) 4 [some (.ref (C + 29)), some (.int u1), some (.int (if s.2.1 32 k10 < s.2.1 32 k7 then s.2.1 32 k10 else s.2.1 32 k7)), some (.int (u3 + (1 : Int32)))] [] (bM C (cH C s) G) sz sl R) : gm_ev N0 K ra_nm (ra_mt K) d (some .int) (gm_I cX0_valueBehind) (gm_lkf (lkX0 false K)) 4 [some (.ref (C + 29)), some (.int u1), some (.int u2), some (.int u3)] [] (bM C (cH C s) G) sz sl R := by
  refine gm_ev.iload_n i17_4 rfl ?_
  refine gm_ev.aload_n i17_5 rfl ?_
  refine gm_ev.getfield (v := .int (s.1 584)) i17_6 rfl (bM_fld (j := 29) (fs := cF29 C s) rfl rfl) ?_
  refine gm_ev.icmp_ge_f i17_9 c1 ?_
  refine gm_ev.aload_n i17_12 rfl ?_
  refine gm_ev.getfield (v := .ref (C + 31)) i17_13 rfl (bM_fld (j := 29) (fs := cF29 C s) rfl rfl) ?_
  refine gm_ev.iload_n i17_16 rfl ?_
  refine gm_ev.bipush (v := 60) i17_17 (by decide) ?_
  refine gm_ev.imul i17_19 ?_
  refine gm_ev.iload_n i17_20 rfl ?_
  refine gm_ev.iadd i17_21 ?_
  refine gm_ev.iaload i17_22 (bM_ai (j := 31) (n := 3600) (f := s.2.1 31) rfl ek2 lk2 (by decide)) ?_
  refine gm_ev.iconst (v := -1) i17_23 (by decide) ?_
  refine gm_ev.icmp_eq_f i17_24 c3 ?_
  refine gm_ev.aload_n i17_27 rfl ?_
  refine gm_ev.getfield (v := .ref (C + 32)) i17_28 rfl (bM_fld (j := 29) (fs := cF29 C s) rfl rfl) ?_
  refine gm_ev.iload_n i17_31 rfl ?_
  refine gm_ev.iaload i17_32 (bM_ai (j := 32) (n := 60) (f := s.2.1 32) rfl ek4 lk4 (by decide)) ?_
  refine gm_ev.iconst (v := -1) i17_33 (by decide) ?_
  refine gm_ev.icmp_ne_t (tgt := 39) i17_34 (by decide) c5 ?_
  refine gm_ev.iload_n i17_39 rfl ?_
  refine gm_ev.iconst (v := -1) i17_40 (by decide) ?_
  refine gm_ev.icmp_ne_f i17_41 c6 ?_
  refine gm_ev.aload_n i17_44 rfl ?_
  refine gm_ev.getfield (v := .ref (C + 32)) i17_45 rfl (bM_fld (j := 29) (fs := cF29 C s) rfl rfl) ?_
  refine gm_ev.iload_n i17_48 rfl ?_
  refine gm_ev.iaload i17_49 (bM_ai (j := 32) (n := 60) (f := s.2.1 32) rfl ek7 lk7 (by decide)) ?_
  refine gm_ev.istore_n (ls' := [some (.ref (C + 29)), some (.int u1), some (.int (s.2.1 32 k7)), some (.int u3)]) i17_50 (Nat.le_of_ble_eq_true rfl) rfl ?_
  refine gm_ev.aload_n i17_51 rfl ?_
  refine gm_ev.getfield (v := .ref (C + 33)) i17_52 rfl (bM_fld (j := 29) (fs := cF29 C s) rfl rfl) ?_
  refine gm_ev.iload_n i17_55 rfl ?_
  refine gm_ev.zaload i17_56 (bM_ai (j := 33) (n := 60) (f := s.2.1 33) rfl ek8 lk8 (by decide)) ?_
  refine gm_ev.if_eq_f i17_57 c9 ?_
  refine gm_ev.iload_n i17_60 rfl ?_
  refine gm_ev.aload_n i17_61 rfl ?_
  refine gm_ev.getfield (v := .ref (C + 32)) i17_62 rfl (bM_fld (j := 29) (fs := cF29 C s) rfl rfl) ?_
  refine gm_ev.iload_n i17_65 rfl ?_
  refine gm_ev.iaload i17_66 (bM_ai (j := 32) (n := 60) (f := s.2.1 32) rfl ek10 lk10 (by decide)) ?_
  refine gm_ev.callS gm_mono_run (av := [.int (s.2.1 32 k7), .int (s.2.1 32 k10)]) (r := []) i17_67 rfl rfl rfl (Nat.le_of_ble_eq_true rfl) (gm_to_min hd) ?_
  refine gm_ev.goto (tgt := 83) i17_70 (by decide) ?_
  refine gm_ev.istore_n (ls' := [some (.ref (C + 29)), some (.int u1), some (.int (if s.2.1 32 k10 < s.2.1 32 k7 then s.2.1 32 k10 else s.2.1 32 k7)), some (.int u3)]) i17_83 (Nat.le_of_ble_eq_true rfl) rfl ?_
  refine gm_ev.iinc (v := u3 + (1 : Int32)) (ls' := [some (.ref (C + 29)), some (.int u1), some (.int (if s.2.1 32 k10 < s.2.1 32 k7 then s.2.1 32 k10 else s.2.1 32 k7)), some (.int (u3 + (1 : Int32)))]) i17_84 rfl (by rfl) rfl ?_
  refine gm_ev.goto (tgt := 4) i17_87 (by decide) ?_
  exact k
theorem t_X0_valueBehind_4_fff {N0 : Nat} {K : Nat → Nat} {d C : Nat} {s : cS} {G : gm_H} {sz sl : Nat} {u1 : Int32} {u2 : Int32} {u3 : Int32} {k2 : Nat} {k4 : Nat} (hN : N0 ≤ C) (c1 : ¬ (s.1 584) ≤ u3) (ek2 : ((u1 * (60 : Int32)) + u3) = nI k2) (lk2 : k2 < 3600) (c3 : ¬ (s.2.1 31 k2) = (-1 : Int32)) (ek4 : u3 = nI k4) (lk4 : k4 < 60) (c5 : (s.2.1 32 k4) = (-1 : Int32)) : gm_ev N0 K ra_nm (ra_mt K) d (some .int) (gm_I cX0_valueBehind) (gm_lkf (lkX0 false K)) 4 [some (.ref (C + 29)), some (.int u1), some (.int u2), some (.int u3)] [] (bM C (cH C s) G) sz sl (.returned (some (.int (-1 : Int32))), (bM C (cH C s) G), sz, sl) := by
  refine gm_ev.iload_n i17_4 rfl ?_
  refine gm_ev.aload_n i17_5 rfl ?_
  refine gm_ev.getfield (v := .int (s.1 584)) i17_6 rfl (bM_fld (j := 29) (fs := cF29 C s) rfl rfl) ?_
  refine gm_ev.icmp_ge_f i17_9 c1 ?_
  refine gm_ev.aload_n i17_12 rfl ?_
  refine gm_ev.getfield (v := .ref (C + 31)) i17_13 rfl (bM_fld (j := 29) (fs := cF29 C s) rfl rfl) ?_
  refine gm_ev.iload_n i17_16 rfl ?_
  refine gm_ev.bipush (v := 60) i17_17 (by decide) ?_
  refine gm_ev.imul i17_19 ?_
  refine gm_ev.iload_n i17_20 rfl ?_
  refine gm_ev.iadd i17_21 ?_
  refine gm_ev.iaload i17_22 (bM_ai (j := 31) (n := 3600) (f := s.2.1 31) rfl ek2 lk2 (by decide)) ?_
  refine gm_ev.iconst (v := -1) i17_23 (by decide) ?_
  refine gm_ev.icmp_eq_f i17_24 c3 ?_
  refine gm_ev.aload_n i17_27 rfl ?_
  refine gm_ev.getfield (v := .ref (C + 32)) i17_28 rfl (bM_fld (j := 29) (fs := cF29 C s) rfl rfl) ?_
  refine gm_ev.iload_n i17_31 rfl ?_
  refine gm_ev.iaload i17_32 (bM_ai (j := 32) (n := 60) (f := s.2.1 32) rfl ek4 lk4 (by decide)) ?_
  refine gm_ev.iconst (v := -1) i17_33 (by decide) ?_
  refine gm_ev.icmp_ne_f i17_34 c5 ?_
  refine gm_ev.iconst (v := -1) i17_37 (by decide) ?_
  exact gm_ev.iret i17_38 rfl
theorem t_X0_valueAt_0_t {N0 : Nat} {K : Nat → Nat} {d C : Nat} {s : cS} {G : gm_H} {sz sl : Nat} {p0 : Nat} {r1 : Int32} {k4 : Nat} (hN : N0 ≤ C) (t2 : gm_to N0 K ra_nm (ra_mt K) d 15 [.ref (C + 29), .ref p0] (bM C (cH C s) G) sz (.returned (some (.int r1)), (bM C (cH C s) G), sz, 0)) (c3 : ¬ r1 = (-1 : Int32)) (ek4 : r1 = nI k4) (lk4 : k4 < 60) : gm_ev N0 K ra_nm (ra_mt K) d (some .int) (gm_I cX0_valueAt) (gm_lkf (lkX0 false K)) 0 [some (.ref (C + 29)), some (.ref p0), none] [] (bM C (cH C s) G) sz sl (.returned (some (.int (s.2.1 32 k4))), (bM C (cH C s) G), sz, sl) := by
  refine gm_ev.aload_n i18_0 rfl ?_
  refine gm_ev.aload_n i18_1 rfl ?_
  refine gm_ev.callV gm_mono_run (av := [.ref p0]) (r := []) (ci := 0) (fs := cF29 C s) (bM_get (j := 29) rfl) i18_2 rfl rfl rfl (Nat.le_of_ble_eq_true rfl) t2 ?_
  refine gm_ev.istore_n (ls' := [some (.ref (C + 29)), some (.ref p0), some (.int r1)]) i18_5 (Nat.le_of_ble_eq_true rfl) rfl ?_
  refine gm_ev.iload_n i18_6 rfl ?_
  refine gm_ev.iconst (v := -1) i18_7 (by decide) ?_
  refine gm_ev.icmp_ne_t (tgt := 15) i18_8 (by decide) c3 ?_
  refine gm_ev.aload_n i18_15 rfl ?_
  refine gm_ev.getfield (v := .ref (C + 32)) i18_16 rfl (bM_fld (j := 29) (fs := cF29 C s) rfl rfl) ?_
  refine gm_ev.iload_n i18_19 rfl ?_
  refine gm_ev.iaload i18_20 (bM_ai (j := 32) (n := 60) (f := s.2.1 32) rfl ek4 lk4 (by decide)) ?_
  exact gm_ev.iret i18_21 rfl
theorem t_X0_valueAt_0_f {N0 : Nat} {K : Nat → Nat} {d C : Nat} {s : cS} {G : gm_H} {sz sl : Nat} {p0 : Nat} {r1 : Int32} (hN : N0 ≤ C) (t2 : gm_to N0 K ra_nm (ra_mt K) d 15 [.ref (C + 29), .ref p0] (bM C (cH C s) G) sz (.returned (some (.int r1)), (bM C (cH C s) G), sz, 0)) (c3 : r1 = (-1 : Int32)) : gm_ev N0 K ra_nm (ra_mt K) d (some .int) (gm_I cX0_valueAt) (gm_lkf (lkX0 false K)) 0 [some (.ref (C + 29)), some (.ref p0), none] [] (bM C (cH C s) G) sz sl (.returned (some (.int (-1 : Int32))), (bM C (cH C s) G), sz, sl) := by
  refine gm_ev.aload_n i18_0 rfl ?_
  refine gm_ev.aload_n i18_1 rfl ?_
  refine gm_ev.callV gm_mono_run (av := [.ref p0]) (r := []) (ci := 0) (fs := cF29 C s) (bM_get (j := 29) rfl) i18_2 rfl rfl rfl (Nat.le_of_ble_eq_true rfl) t2 ?_
  refine gm_ev.istore_n (ls' := [some (.ref (C + 29)), some (.ref p0), some (.int r1)]) i18_5 (Nat.le_of_ble_eq_true rfl) rfl ?_
  refine gm_ev.iload_n i18_6 rfl ?_
  refine gm_ev.iconst (v := -1) i18_7 (by decide) ?_
  refine gm_ev.icmp_ne_f i18_8 c3 ?_
  refine gm_ev.iconst (v := -1) i18_11 (by decide) ?_
  refine gm_ev.goto (tgt := 21) i18_12 (by decide) ?_
  exact gm_ev.iret i18_21 rfl
theorem t_X0_choiceAt_0__at11 {N0 : Nat} {K : Nat → Nat} {d C : Nat} {s : cS} {G : gm_H} {sz sl : Nat} {R : gm_R} {p0 : Nat} {r1 : Int32} (hN : N0 ≤ C) (t2 : gm_to N0 K ra_nm (ra_mt K) d 15 [.ref (C + 29), .ref p0] (bM C (cH C s) G) sz (.returned (some (.int r1)), (bM C (cH C s) G), sz, 0)) (k : gm_ev N0 K ra_nm (ra_mt K) d (some .int) (gm_I cX0_choiceAt) (gm_lkf (lkX0 false K)) 11 [some (.ref (C + 29)), none, some (.int r1), some (.int (-1 : Int32)), some (.int (0 : Int32)), none] [] (bM C (cH C s) G) sz sl R) : gm_ev N0 K ra_nm (ra_mt K) d (some .int) (gm_I cX0_choiceAt) (gm_lkf (lkX0 false K)) 0 [some (.ref (C + 29)), some (.ref p0), none, none, none, none] [] (bM C (cH C s) G) sz sl R := by
  refine gm_ev.aload_n i19_0 rfl ?_
  refine gm_ev.aload_n i19_1 rfl ?_
  refine gm_ev.callV gm_mono_run (av := [.ref p0]) (r := []) (ci := 0) (fs := cF29 C s) (bM_get (j := 29) rfl) i19_2 rfl rfl rfl (Nat.le_of_ble_eq_true rfl) t2 ?_
  refine gm_ev.istore_n (ls' := [some (.ref (C + 29)), some (.ref p0), some (.int r1), none, none, none]) i19_5 (Nat.le_of_ble_eq_true rfl) rfl ?_
  refine gm_ev.iconst (v := -1) i19_6 (by decide) ?_
  refine gm_ev.istore_n (ls' := [some (.ref (C + 29)), some (.ref p0), some (.int r1), some (.int (-1 : Int32)), none, none]) i19_7 (Nat.le_of_ble_eq_true rfl) rfl ?_
  refine gm_ev.iconst (v := 0) i19_8 (by decide) ?_
  refine gm_ev.istore (ls' := [some (.ref (C + 29)), some (.ref p0), some (.int r1), some (.int (-1 : Int32)), some (.int (0 : Int32)), none]) i19_9 (Nat.le_of_ble_eq_true rfl) rfl ?_
  refine gm_ev.le (a := [some (.ref (C + 29)), none, some (.int r1), some (.int (-1 : Int32)), some (.int (0 : Int32)), none]) (gm_leL.le (show gm_leL _ _ from ⟨rfl, ⟨rfl, ⟨rfl, ⟨rfl, trivial⟩⟩⟩⟩)) ?_
  exact k
theorem t_X0_choiceAt_11_t {N0 : Nat} {K : Nat → Nat} {d C : Nat} {s : cS} {G : gm_H} {sz sl : Nat} {u2 : Int32} {u3 : Int32} {u4 : Int32} (hN : N0 ≤ C) (c1 : (s.1 584) ≤ u4) : gm_ev N0 K ra_nm (ra_mt K) d (some .int) (gm_I cX0_choiceAt) (gm_lkf (lkX0 false K)) 11 [some (.ref (C + 29)), none, some (.int u2), some (.int u3), some (.int u4), none] [] (bM C (cH C s) G) sz sl (.returned (some (.int u3)), (bM C (cH C s) G), sz, sl) := by
  refine gm_ev.iload i19_11 rfl ?_
  refine gm_ev.aload_n i19_13 rfl ?_
  refine gm_ev.getfield (v := .int (s.1 584)) i19_14 rfl (bM_fld (j := 29) (fs := cF29 C s) rfl rfl) ?_
  refine gm_ev.icmp_ge_t (tgt := 81) i19_17 (by decide) c1 ?_
  refine gm_ev.iload_n i19_81 rfl ?_
  exact gm_ev.iret i19_82 rfl
theorem t_X0_choiceAt_11_ft {N0 : Nat} {K : Nat → Nat} {d C : Nat} {s : cS} {G : gm_H} {sz sl : Nat} {u2 : Int32} {u3 : Int32} {u4 : Int32} (hN : N0 ≤ C) (c1 : ¬ (s.1 584) ≤ u4) (c2 : u2 = (-1 : Int32)) : gm_ev N0 K ra_nm (ra_mt K) d (some .int) (gm_I cX0_choiceAt) (gm_lkf (lkX0 false K)) 11 [some (.ref (C + 29)), none, some (.int u2), some (.int u3), some (.int u4), none] [] (bM C (cH C s) G) sz sl (.returned (some (.int u3)), (bM C (cH C s) G), sz, sl) := by
  refine gm_ev.iload i19_11 rfl ?_
  refine gm_ev.aload_n i19_13 rfl ?_
  refine gm_ev.getfield (v := .int (s.1 584)) i19_14 rfl (bM_fld (j := 29) (fs := cF29 C s) rfl rfl) ?_
  refine gm_ev.icmp_ge_f i19_17 c1 ?_
  refine gm_ev.iload_n i19_20 rfl ?_
  refine gm_ev.iconst (v := -1) i19_21 (by decide) ?_
  refine gm_ev.icmp_eq_t (tgt := 81) i19_22 (by decide) c2 ?_
  refine gm_ev.iload_n i19_81 rfl ?_
  exact gm_ev.iret i19_82 rfl
theorem t_X0_choiceAt_11_fft_at11 {N0 : Nat} {K : Nat → Nat} {d C : Nat} {s : cS} {G : gm_H} {sz sl : Nat} {R : gm_R} {u2 : Int32} {u3 : Int32} {u4 : Int32} {k3 : Nat} (hN : N0 ≤ C) (c1 : ¬ (s.1 584) ≤ u4) (c2 : ¬ u2 = (-1 : Int32)) (ek3 : ((u2 * (60 : Int32)) + u4) = nI k3) (lk3 : k3 < 3600) (c4 : (s.2.1 31 k3) = (-1 : Int32)) (k : gm_ev N0 K ra_nm (ra_mt K) d (some .int) (gm_I cX0_choiceAt) (gm_lkf (lkX0 false K)) 11 [some (.ref (C + 29)), none, some (.int u2), some (.int u3), some (.int (u4 + (1 : Int32))), none] [] (bM C (cH C s) G) sz sl R) : gm_ev N0 K ra_nm (ra_mt K) d (some .int) (gm_I cX0_choiceAt) (gm_lkf (lkX0 false K)) 11 [some (.ref (C + 29)), none, some (.int u2), some (.int u3), some (.int u4), none] [] (bM C (cH C s) G) sz sl R := by
  refine gm_ev.iload i19_11 rfl ?_
  refine gm_ev.aload_n i19_13 rfl ?_
  refine gm_ev.getfield (v := .int (s.1 584)) i19_14 rfl (bM_fld (j := 29) (fs := cF29 C s) rfl rfl) ?_
  refine gm_ev.icmp_ge_f i19_17 c1 ?_
  refine gm_ev.iload_n i19_20 rfl ?_
  refine gm_ev.iconst (v := -1) i19_21 (by decide) ?_
  refine gm_ev.icmp_eq_f i19_22 c2 ?_
  refine gm_ev.aload_n i19_25 rfl ?_
  refine gm_ev.getfield (v := .ref (C + 31)) i19_26 rfl (bM_fld (j := 29) (fs := cF29 C s) rfl rfl) ?_
  refine gm_ev.iload_n i19_29 rfl ?_
  refine gm_ev.bipush (v := 60) i19_30 (by decide) ?_
  refine gm_ev.imul i19_32 ?_
  refine gm_ev.iload i19_33 rfl ?_
  refine gm_ev.iadd i19_35 ?_
  refine gm_ev.iaload i19_36 (bM_ai (j := 31) (n := 3600) (f := s.2.1 31) rfl ek3 lk3 (by decide)) ?_
  refine gm_ev.istore (ls' := [some (.ref (C + 29)), none, some (.int u2), some (.int u3), some (.int u4), some (.int (s.2.1 31 k3))]) i19_37 (Nat.le_of_ble_eq_true rfl) rfl ?_
  refine gm_ev.iload i19_39 rfl ?_
  refine gm_ev.iconst (v := -1) i19_41 (by decide) ?_
  refine gm_ev.icmp_eq_t (tgt := 75) i19_42 (by decide) c4 ?_
  refine gm_ev.iinc (v := u4 + (1 : Int32)) (ls' := [some (.ref (C + 29)), none, some (.int u2), some (.int u3), some (.int (u4 + (1 : Int32))), some (.int (s.2.1 31 k3))]) i19_75 rfl (by rfl) rfl ?_
  refine gm_ev.goto (tgt := 11) i19_78 (by decide) ?_
  refine gm_ev.le (a := [some (.ref (C + 29)), none, some (.int u2), some (.int u3), some (.int (u4 + (1 : Int32))), none]) (gm_leL.le (show gm_leL _ _ from ⟨rfl, ⟨rfl, ⟨rfl, ⟨rfl, trivial⟩⟩⟩⟩)) ?_
  exact k
theorem t_X0_choiceAt_11_ffft_at11 {N0 : Nat} {K : Nat → Nat} {d C : Nat} {s : cS} {G : gm_H} {sz sl : Nat} {R : gm_R} {u2 : Int32} {u3 : Int32} {u4 : Int32} {k3 : Nat} {k5 : Nat} {k6 : Nat} (hN : N0 ≤ C) (c1 : ¬ (s.1 584) ≤ u4) (c2 : ¬ u2 = (-1 : Int32)) (ek3 : ((u2 * (60 : Int32)) + u4) = nI k3) (lk3 : k3 < 3600) (c4 : ¬ (s.2.1 31 k3) = (-1 : Int32)) (ek5 : u4 = nI k5) (lk5 : k5 < 60) (ek6 : u2 = nI k6) (lk6 : k6 < 60) (c7 : ¬ (s.2.1 32 k5) = (s.2.1 32 k6)) (k : gm_ev N0 K ra_nm (ra_mt K) d (some .int) (gm_I cX0_choiceAt) (gm_lkf (lkX0 false K)) 11 [some (.ref (C + 29)), none, some (.int u2), some (.int u3), some (.int (u4 + (1 : Int32))), none] [] (bM C (cH C s) G) sz sl R) : gm_ev N0 K ra_nm (ra_mt K) d (some .int) (gm_I cX0_choiceAt) (gm_lkf (lkX0 false K)) 11 [some (.ref (C + 29)), none, some (.int u2), some (.int u3), some (.int u4), none] [] (bM C (cH C s) G) sz sl R := by
  refine gm_ev.iload i19_11 rfl ?_
  refine gm_ev.aload_n i19_13 rfl ?_
  refine gm_ev.getfield (v := .int (s.1 584)) i19_14 rfl (bM_fld (j := 29) (fs := cF29 C s) rfl rfl) ?_
  refine gm_ev.icmp_ge_f i19_17 c1 ?_
  refine gm_ev.iload_n i19_20 rfl ?_
  refine gm_ev.iconst (v := -1) i19_21 (by decide) ?_
  refine gm_ev.icmp_eq_f i19_22 c2 ?_
  refine gm_ev.aload_n i19_25 rfl ?_
  refine gm_ev.getfield (v := .ref (C + 31)) i19_26 rfl (bM_fld (j := 29) (fs := cF29 C s) rfl rfl) ?_
  refine gm_ev.iload_n i19_29 rfl ?_
  refine gm_ev.bipush (v := 60) i19_30 (by decide) ?_
  refine gm_ev.imul i19_32 ?_
  refine gm_ev.iload i19_33 rfl ?_
  refine gm_ev.iadd i19_35 ?_
  refine gm_ev.iaload i19_36 (bM_ai (j := 31) (n := 3600) (f := s.2.1 31) rfl ek3 lk3 (by decide)) ?_
  refine gm_ev.istore (ls' := [some (.ref (C + 29)), none, some (.int u2), some (.int u3), some (.int u4), some (.int (s.2.1 31 k3))]) i19_37 (Nat.le_of_ble_eq_true rfl) rfl ?_
  refine gm_ev.iload i19_39 rfl ?_
  refine gm_ev.iconst (v := -1) i19_41 (by decide) ?_
  refine gm_ev.icmp_eq_f i19_42 c4 ?_
  refine gm_ev.aload_n i19_45 rfl ?_
  refine gm_ev.getfield (v := .ref (C + 32)) i19_46 rfl (bM_fld (j := 29) (fs := cF29 C s) rfl rfl) ?_
  refine gm_ev.iload i19_49 rfl ?_
  refine gm_ev.iaload i19_51 (bM_ai (j := 32) (n := 60) (f := s.2.1 32) rfl ek5 lk5 (by decide)) ?_
  refine gm_ev.aload_n i19_52 rfl ?_
  refine gm_ev.getfield (v := .ref (C + 32)) i19_53 rfl (bM_fld (j := 29) (fs := cF29 C s) rfl rfl) ?_
  refine gm_ev.iload_n i19_56 rfl ?_
  refine gm_ev.iaload i19_57 (bM_ai (j := 32) (n := 60) (f := s.2.1 32) rfl ek6 lk6 (by decide)) ?_
  refine gm_ev.icmp_ne_t (tgt := 75) i19_58 (by decide) c7 ?_
  refine gm_ev.iinc (v := u4 + (1 : Int32)) (ls' := [some (.ref (C + 29)), none, some (.int u2), some (.int u3), some (.int (u4 + (1 : Int32))), some (.int (s.2.1 31 k3))]) i19_75 rfl (by rfl) rfl ?_
  refine gm_ev.goto (tgt := 11) i19_78 (by decide) ?_
  refine gm_ev.le (a := [some (.ref (C + 29)), none, some (.int u2), some (.int u3), some (.int (u4 + (1 : Int32))), none]) (gm_leL.le (show gm_leL _ _ from ⟨rfl, ⟨rfl, ⟨rfl, ⟨rfl, trivial⟩⟩⟩⟩)) ?_
  exact k
theorem t_X0_choiceAt_11_fffft_at11 {N0 : Nat} {K : Nat → Nat} {d C : Nat} {s : cS} {G : gm_H} {sz sl : Nat} {R : gm_R} {u2 : Int32} {u3 : Int32} {u4 : Int32} {k3 : Nat} {k5 : Nat} {k6 : Nat} (hN : N0 ≤ C) (c1 : ¬ (s.1 584) ≤ u4) (c2 : ¬ u2 = (-1 : Int32)) (ek3 : ((u2 * (60 : Int32)) + u4) = nI k3) (lk3 : k3 < 3600) (c4 : ¬ (s.2.1 31 k3) = (-1 : Int32)) (ek5 : u4 = nI k5) (lk5 : k5 < 60) (ek6 : u2 = nI k6) (lk6 : k6 < 60) (c7 : (s.2.1 32 k5) = (s.2.1 32 k6)) (c8 : u3 = (-1 : Int32)) (k : gm_ev N0 K ra_nm (ra_mt K) d (some .int) (gm_I cX0_choiceAt) (gm_lkf (lkX0 false K)) 11 [some (.ref (C + 29)), none, some (.int u2), some (.int (s.2.1 31 k3)), some (.int (u4 + (1 : Int32))), none] [] (bM C (cH C s) G) sz sl R) : gm_ev N0 K ra_nm (ra_mt K) d (some .int) (gm_I cX0_choiceAt) (gm_lkf (lkX0 false K)) 11 [some (.ref (C + 29)), none, some (.int u2), some (.int u3), some (.int u4), none] [] (bM C (cH C s) G) sz sl R := by
  refine gm_ev.iload i19_11 rfl ?_
  refine gm_ev.aload_n i19_13 rfl ?_
  refine gm_ev.getfield (v := .int (s.1 584)) i19_14 rfl (bM_fld (j := 29) (fs := cF29 C s) rfl rfl) ?_
  refine gm_ev.icmp_ge_f i19_17 c1 ?_
  refine gm_ev.iload_n i19_20 rfl ?_
  refine gm_ev.iconst (v := -1) i19_21 (by decide) ?_
  refine gm_ev.icmp_eq_f i19_22 c2 ?_
  refine gm_ev.aload_n i19_25 rfl ?_
  refine gm_ev.getfield (v := .ref (C + 31)) i19_26 rfl (bM_fld (j := 29) (fs := cF29 C s) rfl rfl) ?_
  refine gm_ev.iload_n i19_29 rfl ?_
  refine gm_ev.bipush (v := 60) i19_30 (by decide) ?_
  refine gm_ev.imul i19_32 ?_
  refine gm_ev.iload i19_33 rfl ?_
  refine gm_ev.iadd i19_35 ?_
  refine gm_ev.iaload i19_36 (bM_ai (j := 31) (n := 3600) (f := s.2.1 31) rfl ek3 lk3 (by decide)) ?_
  refine gm_ev.istore (ls' := [some (.ref (C + 29)), none, some (.int u2), some (.int u3), some (.int u4), some (.int (s.2.1 31 k3))]) i19_37 (Nat.le_of_ble_eq_true rfl) rfl ?_
  refine gm_ev.iload i19_39 rfl ?_
  refine gm_ev.iconst (v := -1) i19_41 (by decide) ?_
  refine gm_ev.icmp_eq_f i19_42 c4 ?_
  refine gm_ev.aload_n i19_45 rfl ?_
  refine gm_ev.getfield (v := .ref (C + 32)) i19_46 rfl (bM_fld (j := 29) (fs := cF29 C s) rfl rfl) ?_
  refine gm_ev.iload i19_49 rfl ?_
  refine gm_ev.iaload i19_51 (bM_ai (j := 32) (n := 60) (f := s.2.1 32) rfl ek5 lk5 (by decide)) ?_
  refine gm_ev.aload_n i19_52 rfl ?_
  refine gm_ev.getfield (v := .ref (C + 32)) i19_53 rfl (bM_fld (j := 29) (fs := cF29 C s) rfl rfl) ?_
  refine gm_ev.iload_n i19_56 rfl ?_
  refine gm_ev.iaload i19_57 (bM_ai (j := 32) (n := 60) (f := s.2.1 32) rfl ek6 lk6 (by decide)) ?_
  refine gm_ev.icmp_ne_f i19_58 c7 ?_
  refine gm_ev.iload_n i19_61 rfl ?_
  refine gm_ev.iconst (v := -1) i19_62 (by decide) ?_
  refine gm_ev.icmp_eq_t (tgt := 72) i19_63 (by decide) c8 ?_
  refine gm_ev.iload i19_72 rfl ?_
  refine gm_ev.istore_n (ls' := [some (.ref (C + 29)), none, some (.int u2), some (.int (s.2.1 31 k3)), some (.int u4), some (.int (s.2.1 31 k3))]) i19_74 (Nat.le_of_ble_eq_true rfl) rfl ?_
  refine gm_ev.iinc (v := u4 + (1 : Int32)) (ls' := [some (.ref (C + 29)), none, some (.int u2), some (.int (s.2.1 31 k3)), some (.int (u4 + (1 : Int32))), some (.int (s.2.1 31 k3))]) i19_75 rfl (by rfl) rfl ?_
  refine gm_ev.goto (tgt := 11) i19_78 (by decide) ?_
  refine gm_ev.le (a := [some (.ref (C + 29)), none, some (.int u2), some (.int (s.2.1 31 k3)), some (.int (u4 + (1 : Int32))), none]) (gm_leL.le (show gm_leL _ _ from ⟨rfl, ⟨rfl, ⟨rfl, ⟨rfl, trivial⟩⟩⟩⟩)) ?_
  exact k
theorem t_X0_choiceAt_11_ffffft_at11 {N0 : Nat} {K : Nat → Nat} {d C : Nat} {s : cS} {G : gm_H} {sz sl : Nat} {R : gm_R} {u2 : Int32} {u3 : Int32} {u4 : Int32} {k3 : Nat} {k5 : Nat} {k6 : Nat} (hN : N0 ≤ C) (c1 : ¬ (s.1 584) ≤ u4) (c2 : ¬ u2 = (-1 : Int32)) (ek3 : ((u2 * (60 : Int32)) + u4) = nI k3) (lk3 : k3 < 3600) (c4 : ¬ (s.2.1 31 k3) = (-1 : Int32)) (ek5 : u4 = nI k5) (lk5 : k5 < 60) (ek6 : u2 = nI k6) (lk6 : k6 < 60) (c7 : (s.2.1 32 k5) = (s.2.1 32 k6)) (c8 : ¬ u3 = (-1 : Int32)) (c9 : u3 ≤ (s.2.1 31 k3)) (k : gm_ev N0 K ra_nm (ra_mt K) d (some .int) (gm_I cX0_choiceAt) (gm_lkf (lkX0 false K)) 11 [some (.ref (C + 29)), none, some (.int u2), some (.int u3), some (.int (u4 + (1 : Int32))), none] [] (bM C (cH C s) G) sz sl R) : gm_ev N0 K ra_nm (ra_mt K) d (some .int) (gm_I cX0_choiceAt) (gm_lkf (lkX0 false K)) 11 [some (.ref (C + 29)), none, some (.int u2), some (.int u3), some (.int u4), none] [] (bM C (cH C s) G) sz sl R := by
  refine gm_ev.iload i19_11 rfl ?_
  refine gm_ev.aload_n i19_13 rfl ?_
  refine gm_ev.getfield (v := .int (s.1 584)) i19_14 rfl (bM_fld (j := 29) (fs := cF29 C s) rfl rfl) ?_
  refine gm_ev.icmp_ge_f i19_17 c1 ?_
  refine gm_ev.iload_n i19_20 rfl ?_
  refine gm_ev.iconst (v := -1) i19_21 (by decide) ?_
  refine gm_ev.icmp_eq_f i19_22 c2 ?_
  refine gm_ev.aload_n i19_25 rfl ?_
  refine gm_ev.getfield (v := .ref (C + 31)) i19_26 rfl (bM_fld (j := 29) (fs := cF29 C s) rfl rfl) ?_
  refine gm_ev.iload_n i19_29 rfl ?_
  refine gm_ev.bipush (v := 60) i19_30 (by decide) ?_
  refine gm_ev.imul i19_32 ?_
  refine gm_ev.iload i19_33 rfl ?_
  refine gm_ev.iadd i19_35 ?_
  refine gm_ev.iaload i19_36 (bM_ai (j := 31) (n := 3600) (f := s.2.1 31) rfl ek3 lk3 (by decide)) ?_
  refine gm_ev.istore (ls' := [some (.ref (C + 29)), none, some (.int u2), some (.int u3), some (.int u4), some (.int (s.2.1 31 k3))]) i19_37 (Nat.le_of_ble_eq_true rfl) rfl ?_
  refine gm_ev.iload i19_39 rfl ?_
  refine gm_ev.iconst (v := -1) i19_41 (by decide) ?_
  refine gm_ev.icmp_eq_f i19_42 c4 ?_
  refine gm_ev.aload_n i19_45 rfl ?_
  refine gm_ev.getfield (v := .ref (C + 32)) i19_46 rfl (bM_fld (j := 29) (fs := cF29 C s) rfl rfl) ?_
  refine gm_ev.iload i19_49 rfl ?_
  refine gm_ev.iaload i19_51 (bM_ai (j := 32) (n := 60) (f := s.2.1 32) rfl ek5 lk5 (by decide)) ?_
  refine gm_ev.aload_n i19_52 rfl ?_
  refine gm_ev.getfield (v := .ref (C + 32)) i19_53 rfl (bM_fld (j := 29) (fs := cF29 C s) rfl rfl) ?_
  refine gm_ev.iload_n i19_56 rfl ?_
  refine gm_ev.iaload i19_57 (bM_ai (j := 32) (n := 60) (f := s.2.1 32) rfl ek6 lk6 (by decide)) ?_
  refine gm_ev.icmp_ne_f i19_58 c7 ?_
  refine gm_ev.iload_n i19_61 rfl ?_
  refine gm_ev.iconst (v := -1) i19_62 (by decide) ?_
  refine gm_ev.icmp_eq_f i19_63 c8 ?_
  refine gm_ev.iload i19_66 rfl ?_
  refine gm_ev.iload_n i19_68 rfl ?_
  refine gm_ev.icmp_ge_t (tgt := 75) i19_69 (by decide) c9 ?_
  refine gm_ev.iinc (v := u4 + (1 : Int32)) (ls' := [some (.ref (C + 29)), none, some (.int u2), some (.int u3), some (.int (u4 + (1 : Int32))), some (.int (s.2.1 31 k3))]) i19_75 rfl (by rfl) rfl ?_
  refine gm_ev.goto (tgt := 11) i19_78 (by decide) ?_
  refine gm_ev.le (a := [some (.ref (C + 29)), none, some (.int u2), some (.int u3), some (.int (u4 + (1 : Int32))), none]) (gm_leL.le (show gm_leL _ _ from ⟨rfl, ⟨rfl, ⟨rfl, ⟨rfl, trivial⟩⟩⟩⟩)) ?_
  exact k
theorem t_X0_choiceAt_11_ffffff_at11 {N0 : Nat} {K : Nat → Nat} {d C : Nat} {s : cS} {G : gm_H} {sz sl : Nat} {R : gm_R} {u2 : Int32} {u3 : Int32} {u4 : Int32} {k3 : Nat} {k5 : Nat} {k6 : Nat} (hN : N0 ≤ C) (c1 : ¬ (s.1 584) ≤ u4) (c2 : ¬ u2 = (-1 : Int32)) (ek3 : ((u2 * (60 : Int32)) + u4) = nI k3) (lk3 : k3 < 3600) (c4 : ¬ (s.2.1 31 k3) = (-1 : Int32)) (ek5 : u4 = nI k5) (lk5 : k5 < 60) (ek6 : u2 = nI k6) (lk6 : k6 < 60) (c7 : (s.2.1 32 k5) = (s.2.1 32 k6)) (c8 : ¬ u3 = (-1 : Int32)) (c9 : ¬ u3 ≤ (s.2.1 31 k3)) (k : gm_ev N0 K ra_nm (ra_mt K) d (some .int) (gm_I cX0_choiceAt) (gm_lkf (lkX0 false K)) 11 [some (.ref (C + 29)), none, some (.int u2), some (.int (s.2.1 31 k3)), some (.int (u4 + (1 : Int32))), none] [] (bM C (cH C s) G) sz sl R) : gm_ev N0 K ra_nm (ra_mt K) d (some .int) (gm_I cX0_choiceAt) (gm_lkf (lkX0 false K)) 11 [some (.ref (C + 29)), none, some (.int u2), some (.int u3), some (.int u4), none] [] (bM C (cH C s) G) sz sl R := by
  refine gm_ev.iload i19_11 rfl ?_
  refine gm_ev.aload_n i19_13 rfl ?_
  refine gm_ev.getfield (v := .int (s.1 584)) i19_14 rfl (bM_fld (j := 29) (fs := cF29 C s) rfl rfl) ?_
  refine gm_ev.icmp_ge_f i19_17 c1 ?_
  refine gm_ev.iload_n i19_20 rfl ?_
  refine gm_ev.iconst (v := -1) i19_21 (by decide) ?_
  refine gm_ev.icmp_eq_f i19_22 c2 ?_
  refine gm_ev.aload_n i19_25 rfl ?_
  refine gm_ev.getfield (v := .ref (C + 31)) i19_26 rfl (bM_fld (j := 29) (fs := cF29 C s) rfl rfl) ?_
  refine gm_ev.iload_n i19_29 rfl ?_
  refine gm_ev.bipush (v := 60) i19_30 (by decide) ?_
  refine gm_ev.imul i19_32 ?_
  refine gm_ev.iload i19_33 rfl ?_
  refine gm_ev.iadd i19_35 ?_
  refine gm_ev.iaload i19_36 (bM_ai (j := 31) (n := 3600) (f := s.2.1 31) rfl ek3 lk3 (by decide)) ?_
  refine gm_ev.istore (ls' := [some (.ref (C + 29)), none, some (.int u2), some (.int u3), some (.int u4), some (.int (s.2.1 31 k3))]) i19_37 (Nat.le_of_ble_eq_true rfl) rfl ?_
  refine gm_ev.iload i19_39 rfl ?_
  refine gm_ev.iconst (v := -1) i19_41 (by decide) ?_
  refine gm_ev.icmp_eq_f i19_42 c4 ?_
  refine gm_ev.aload_n i19_45 rfl ?_
  refine gm_ev.getfield (v := .ref (C + 32)) i19_46 rfl (bM_fld (j := 29) (fs := cF29 C s) rfl rfl) ?_
  refine gm_ev.iload i19_49 rfl ?_
  refine gm_ev.iaload i19_51 (bM_ai (j := 32) (n := 60) (f := s.2.1 32) rfl ek5 lk5 (by decide)) ?_
  refine gm_ev.aload_n i19_52 rfl ?_
  refine gm_ev.getfield (v := .ref (C + 32)) i19_53 rfl (bM_fld (j := 29) (fs := cF29 C s) rfl rfl) ?_
  refine gm_ev.iload_n i19_56 rfl ?_
  refine gm_ev.iaload i19_57 (bM_ai (j := 32) (n := 60) (f := s.2.1 32) rfl ek6 lk6 (by decide)) ?_
  refine gm_ev.icmp_ne_f i19_58 c7 ?_
  refine gm_ev.iload_n i19_61 rfl ?_
  refine gm_ev.iconst (v := -1) i19_62 (by decide) ?_
  refine gm_ev.icmp_eq_f i19_63 c8 ?_
  refine gm_ev.iload i19_66 rfl ?_
  refine gm_ev.iload_n i19_68 rfl ?_
  refine gm_ev.icmp_ge_f i19_69 c9 ?_
  refine gm_ev.iload i19_72 rfl ?_
  refine gm_ev.istore_n (ls' := [some (.ref (C + 29)), none, some (.int u2), some (.int (s.2.1 31 k3)), some (.int u4), some (.int (s.2.1 31 k3))]) i19_74 (Nat.le_of_ble_eq_true rfl) rfl ?_
  refine gm_ev.iinc (v := u4 + (1 : Int32)) (ls' := [some (.ref (C + 29)), none, some (.int u2), some (.int (s.2.1 31 k3)), some (.int (u4 + (1 : Int32))), some (.int (s.2.1 31 k3))]) i19_75 rfl (by rfl) rfl ?_
  refine gm_ev.goto (tgt := 11) i19_78 (by decide) ?_
  refine gm_ev.le (a := [some (.ref (C + 29)), none, some (.int u2), some (.int (s.2.1 31 k3)), some (.int (u4 + (1 : Int32))), none]) (gm_leL.le (show gm_leL _ _ from ⟨rfl, ⟨rfl, ⟨rfl, ⟨rfl, trivial⟩⟩⟩⟩)) ?_
  exact k
theorem t_X1_find_0_ {N0 : Nat} {K : Nat → Nat} {d C : Nat} {s : cS} {G : gm_H} {sz sl : Nat} {p0 : Int32} {p1 : Int32} {p2 : Int32} {p3 : Int32} {r1 : Int32} {r3 : Int32} (hN : N0 ≤ C) (t2 : gm_to N0 K ra_nm (ra_mt K) d 24 [.int p0, .int p1, .int p2, .int p3] (bM C (cH C s) G) sz (.returned (some (.int r1)), (bM C (cH C s) G), sz, 0)) (t4 : gm_to N0 K ra_nm (ra_mt K) d 23 [.ref (C + 6), .int r1, .int p0, .int p1, .int p2, .int p3] (bM C (cH C s) G) sz (.returned (some (.int r3)), (bM C (cH C s) G), sz, 0)) : gm_ev N0 K ra_nm (ra_mt K) d (some .int) (gm_I cX1_find) (gm_lkf (lkX1 false K)) 0 [some (.ref (C + 6)), some (.int p0), some (.int p1), some (.int p2), some (.int p3)] [] (bM C (cH C s) G) sz sl (.returned (some (.int r3)), (bM C (cH C s) G), sz, sl) := by
  refine gm_ev.aload_n i21_0 rfl ?_
  refine gm_ev.iload_n i21_1 rfl ?_
  refine gm_ev.iload_n i21_2 rfl ?_
  refine gm_ev.iload_n i21_3 rfl ?_
  refine gm_ev.iload i21_4 rfl ?_
  refine gm_ev.callS gm_mono_run (av := [.int p0, .int p1, .int p2, .int p3]) (r := [.ref (C + 6)]) i21_6 rfl rfl rfl (Nat.le_of_ble_eq_true rfl) t2 ?_
  refine gm_ev.iload_n i21_9 rfl ?_
  refine gm_ev.iload_n i21_10 rfl ?_
  refine gm_ev.iload_n i21_11 rfl ?_
  refine gm_ev.iload i21_12 rfl ?_
  refine gm_ev.callV gm_mono_run (av := [.int r1, .int p0, .int p1, .int p2, .int p3]) (r := []) (ci := 1) (fs := cF6 C s) (bM_get (j := 6) rfl) i21_14 rfl rfl rfl (Nat.le_of_ble_eq_true rfl) t4 ?_
  exact gm_ev.iret i21_17 rfl
theorem t_X1_add_0_tt {N0 : Nat} {K : Nat → Nat} {d C : Nat} {s : cS} {G : gm_H} {sz sl : Nat} {p0 : Int32} {p1 : Int32} {p2 : Int32} {p3 : Int32} {r1 : Int32} {r3 : Int32} {k7 : Nat} {k8 : Nat} {k9 : Nat} {k10 : Nat} {k11 : Nat} {k12 : Nat} {k13 : Nat} {k14 : Nat} {k15 : Nat} {k16 : Nat} {k17 : Nat} {k18 : Nat} (hN : N0 ≤ C) (t2 : gm_to N0 K ra_nm (ra_mt K) d 24 [.int p0, .int p1, .int p2, .int p3] (bM C (cH C s) G) sz (.returned (some (.int r1)), (bM C (cH C s) G), sz, 0)) (t4 : gm_to N0 K ra_nm (ra_mt K) d 23 [.ref (C + 6), .int r1, .int p0, .int p1, .int p2, .int p3] (bM C (cH C s) G) sz (.returned (some (.int r3)), (bM C (cH C s) G), sz, 0)) (c5 : r3 = 0) (c6 : ¬ (s.1 129) = (200 : Int32)) (ek7 : ((s.1 129) + (1 : Int32)) = nI k7) (lk7 : k7 < 201) (ek8 : ((s.1 129) + (1 : Int32)) = nI k8) (lk8 : k8 < 201) (ek9 : ((s.1 129) + (1 : Int32)) = nI k9) (lk9 : k9 < 201) (ek10 : ((s.1 129) + (1 : Int32)) = nI k10) (lk10 : k10 < 201) (ek11 : p0 = nI k11) (lk11 : k11 < 112) (ek12 : ((s.1 129) + (1 : Int32)) = nI k12) (lk12 : k12 < 201) (ek13 : p0 = nI k13) (lk13 : k13 < 112) (ek14 : p0 = nI k14) (lk14 : k14 < 112) (ek15 : p0 = nI k15) (lk15 : k15 < 112) (ek16 : r1 = nI k16) (lk16 : k16 < 256) (ek17 : ((s.1 129) + (1 : Int32)) = nI k17) (lk17 : k17 < 201) (ek18 : r1 = nI k18) (lk18 : k18 < 256) : gm_ev N0 K ra_nm (ra_mt K) d none (gm_I cX1_add) (gm_lkf (lkX1 false K)) 0 [some (.ref (C + 6)), some (.int p0), some (.int p1), some (.int p2), some (.int p3), none] [] (bM C (cH C s) G) sz sl (.returned none, (bM C (cH C (cA (cA (cA (cA (cA (cA (cA (cA (cA (cI s 129 ((s.1 129) + (1 : Int32))) 7 (upd (s.2.1 7) k7 p0)) 8 (upd (s.2.1 8) k8 p1)) 9 (upd (s.2.1 9) k9 p2)) 10 (upd (s.2.1 10) k10 p3)) 11 (upd (s.2.1 11) k12 (s.2.1 12 k11))) 12 (upd (s.2.1 12) k13 ((s.1 129) + (1 : Int32)))) 13 (upd (s.2.1 13) k15 ((s.2.1 13 k14) + (1 : Int32)))) 15 (upd (s.2.1 15) k17 (s.2.1 14 k16))) 14 (upd (s.2.1 14) k18 ((s.1 129) + (1 : Int32))))) G), sz, sl) := by
  refine gm_ev.iload_n i22_0 rfl ?_
  refine gm_ev.iload_n i22_1 rfl ?_
  refine gm_ev.iload_n i22_2 rfl ?_
  refine gm_ev.iload i22_3 rfl ?_
  refine gm_ev.callS gm_mono_run (av := [.int p0, .int p1, .int p2, .int p3]) (r := []) i22_5 rfl rfl rfl (Nat.le_of_ble_eq_true rfl) t2 ?_
  refine gm_ev.istore (ls' := [some (.ref (C + 6)), some (.int p0), some (.int p1), some (.int p2), some (.int p3), some (.int r1)]) i22_8 (Nat.le_of_ble_eq_true rfl) rfl ?_
  refine gm_ev.aload_n i22_10 rfl ?_
  refine gm_ev.iload i22_11 rfl ?_
  refine gm_ev.iload_n i22_13 rfl ?_
  refine gm_ev.iload_n i22_14 rfl ?_
  refine gm_ev.iload_n i22_15 rfl ?_
  refine gm_ev.iload i22_16 rfl ?_
  refine gm_ev.callV gm_mono_run (av := [.int r1, .int p0, .int p1, .int p2, .int p3]) (r := []) (ci := 1) (fs := cF6 C s) (bM_get (j := 6) rfl) i22_18 rfl rfl rfl (Nat.le_of_ble_eq_true rfl) t4 ?_
  refine gm_ev.if_eq_t (tgt := 25) i22_21 (by decide) c5 ?_
  refine gm_ev.aload_n i22_25 rfl ?_
  refine gm_ev.getfield (v := .int (s.1 129)) i22_26 rfl (bM_fld (j := 6) (fs := cF6 C s) rfl rfl) ?_
  refine gm_ev.sipush (v := 200) i22_29 (by decide) ?_
  refine gm_ev.icmp_ne_t (tgt := 41) i22_32 (by decide) c6 ?_
  refine gm_ev.aload_n i22_41 rfl ?_
  refine gm_ev.dup i22_42 rfl ?_
  refine gm_ev.getfield (v := .int (s.1 129)) i22_43 rfl (bM_fld (j := 6) (fs := cF6 C s) rfl rfl) ?_
  refine gm_ev.iconst (v := 1) i22_46 (by decide) ?_
  refine gm_ev.iadd i22_47 ?_
  refine gm_ev.putfield (M' := (bM C (cH C (cI s 129 ((s.1 129) + (1 : Int32)))) G)) i22_48 rfl (bM_put (j := 6) (fs := cF6 C s) rfl (Nat.le_of_ble_eq_true rfl) hN (gm_fit_i _) rfl) ?_
  refine gm_ev.aload_n i22_51 rfl ?_
  refine gm_ev.getfield (v := .ref (C + 7)) i22_52 rfl (bM_fld (j := 6) (fs := cF6 C (cI s 129 ((s.1 129) + (1 : Int32)))) rfl rfl) ?_
  refine gm_ev.aload_n i22_55 rfl ?_
  refine gm_ev.getfield (v := .int ((s.1 129) + (1 : Int32))) i22_56 rfl (bM_fld (j := 6) (fs := cF6 C (cI s 129 ((s.1 129) + (1 : Int32)))) rfl rfl) ?_
  refine gm_ev.iload_n i22_59 rfl ?_
  refine gm_ev.iastore (M' := (bM C (cH C (cA (cI s 129 ((s.1 129) + (1 : Int32))) 7 (upd (s.2.1 7) k7 p0))) G)) i22_60 (bM_asti (j := 7) (n := 201) (f := s.2.1 7) rfl ek7 lk7 (by decide) hN rfl) ?_
  refine gm_ev.aload_n i22_61 rfl ?_
  refine gm_ev.getfield (v := .ref (C + 8)) i22_62 rfl (bM_fld (j := 6) (fs := cF6 C (cA (cI s 129 ((s.1 129) + (1 : Int32))) 7 (upd (s.2.1 7) k7 p0))) rfl rfl) ?_
  refine gm_ev.aload_n i22_65 rfl ?_
  refine gm_ev.getfield (v := .int ((s.1 129) + (1 : Int32))) i22_66 rfl (bM_fld (j := 6) (fs := cF6 C (cA (cI s 129 ((s.1 129) + (1 : Int32))) 7 (upd (s.2.1 7) k7 p0))) rfl rfl) ?_
  refine gm_ev.iload_n i22_69 rfl ?_
  refine gm_ev.iastore (M' := (bM C (cH C (cA (cA (cI s 129 ((s.1 129) + (1 : Int32))) 7 (upd (s.2.1 7) k7 p0)) 8 (upd (s.2.1 8) k8 p1))) G)) i22_70 (bM_asti (j := 8) (n := 201) (f := s.2.1 8) rfl ek8 lk8 (by decide) hN rfl) ?_
  refine gm_ev.aload_n i22_71 rfl ?_
  refine gm_ev.getfield (v := .ref (C + 9)) i22_72 rfl (bM_fld (j := 6) (fs := cF6 C (cA (cA (cI s 129 ((s.1 129) + (1 : Int32))) 7 (upd (s.2.1 7) k7 p0)) 8 (upd (s.2.1 8) k8 p1))) rfl rfl) ?_
  refine gm_ev.aload_n i22_75 rfl ?_
  refine gm_ev.getfield (v := .int ((s.1 129) + (1 : Int32))) i22_76 rfl (bM_fld (j := 6) (fs := cF6 C (cA (cA (cI s 129 ((s.1 129) + (1 : Int32))) 7 (upd (s.2.1 7) k7 p0)) 8 (upd (s.2.1 8) k8 p1))) rfl rfl) ?_
  refine gm_ev.iload_n i22_79 rfl ?_
  refine gm_ev.iastore (M' := (bM C (cH C (cA (cA (cA (cI s 129 ((s.1 129) + (1 : Int32))) 7 (upd (s.2.1 7) k7 p0)) 8 (upd (s.2.1 8) k8 p1)) 9 (upd (s.2.1 9) k9 p2))) G)) i22_80 (bM_asti (j := 9) (n := 201) (f := s.2.1 9) rfl ek9 lk9 (by decide) hN rfl) ?_
  refine gm_ev.aload_n i22_81 rfl ?_
  refine gm_ev.getfield (v := .ref (C + 10)) i22_82 rfl (bM_fld (j := 6) (fs := cF6 C (cA (cA (cA (cI s 129 ((s.1 129) + (1 : Int32))) 7 (upd (s.2.1 7) k7 p0)) 8 (upd (s.2.1 8) k8 p1)) 9 (upd (s.2.1 9) k9 p2))) rfl rfl) ?_
  refine gm_ev.aload_n i22_85 rfl ?_
  refine gm_ev.getfield (v := .int ((s.1 129) + (1 : Int32))) i22_86 rfl (bM_fld (j := 6) (fs := cF6 C (cA (cA (cA (cI s 129 ((s.1 129) + (1 : Int32))) 7 (upd (s.2.1 7) k7 p0)) 8 (upd (s.2.1 8) k8 p1)) 9 (upd (s.2.1 9) k9 p2))) rfl rfl) ?_
  refine gm_ev.iload i22_89 rfl ?_
  refine gm_ev.iastore (M' := (bM C (cH C (cA (cA (cA (cA (cI s 129 ((s.1 129) + (1 : Int32))) 7 (upd (s.2.1 7) k7 p0)) 8 (upd (s.2.1 8) k8 p1)) 9 (upd (s.2.1 9) k9 p2)) 10 (upd (s.2.1 10) k10 p3))) G)) i22_91 (bM_asti (j := 10) (n := 201) (f := s.2.1 10) rfl ek10 lk10 (by decide) hN rfl) ?_
  refine gm_ev.aload_n i22_92 rfl ?_
  refine gm_ev.getfield (v := .ref (C + 11)) i22_93 rfl (bM_fld (j := 6) (fs := cF6 C (cA (cA (cA (cA (cI s 129 ((s.1 129) + (1 : Int32))) 7 (upd (s.2.1 7) k7 p0)) 8 (upd (s.2.1 8) k8 p1)) 9 (upd (s.2.1 9) k9 p2)) 10 (upd (s.2.1 10) k10 p3))) rfl rfl) ?_
  refine gm_ev.aload_n i22_96 rfl ?_
  refine gm_ev.getfield (v := .int ((s.1 129) + (1 : Int32))) i22_97 rfl (bM_fld (j := 6) (fs := cF6 C (cA (cA (cA (cA (cI s 129 ((s.1 129) + (1 : Int32))) 7 (upd (s.2.1 7) k7 p0)) 8 (upd (s.2.1 8) k8 p1)) 9 (upd (s.2.1 9) k9 p2)) 10 (upd (s.2.1 10) k10 p3))) rfl rfl) ?_
  refine gm_ev.aload_n i22_100 rfl ?_
  refine gm_ev.getfield (v := .ref (C + 12)) i22_101 rfl (bM_fld (j := 6) (fs := cF6 C (cA (cA (cA (cA (cI s 129 ((s.1 129) + (1 : Int32))) 7 (upd (s.2.1 7) k7 p0)) 8 (upd (s.2.1 8) k8 p1)) 9 (upd (s.2.1 9) k9 p2)) 10 (upd (s.2.1 10) k10 p3))) rfl rfl) ?_
  refine gm_ev.iload_n i22_104 rfl ?_
  refine gm_ev.iaload i22_105 (bM_ai (j := 12) (n := 112) (f := s.2.1 12) rfl ek11 lk11 (by decide)) ?_
  refine gm_ev.iastore (M' := (bM C (cH C (cA (cA (cA (cA (cA (cI s 129 ((s.1 129) + (1 : Int32))) 7 (upd (s.2.1 7) k7 p0)) 8 (upd (s.2.1 8) k8 p1)) 9 (upd (s.2.1 9) k9 p2)) 10 (upd (s.2.1 10) k10 p3)) 11 (upd (s.2.1 11) k12 (s.2.1 12 k11)))) G)) i22_106 (bM_asti (j := 11) (n := 201) (f := s.2.1 11) rfl ek12 lk12 (by decide) hN rfl) ?_
  refine gm_ev.aload_n i22_107 rfl ?_
  refine gm_ev.getfield (v := .ref (C + 12)) i22_108 rfl (bM_fld (j := 6) (fs := cF6 C (cA (cA (cA (cA (cA (cI s 129 ((s.1 129) + (1 : Int32))) 7 (upd (s.2.1 7) k7 p0)) 8 (upd (s.2.1 8) k8 p1)) 9 (upd (s.2.1 9) k9 p2)) 10 (upd (s.2.1 10) k10 p3)) 11 (upd (s.2.1 11) k12 (s.2.1 12 k11)))) rfl rfl) ?_
  refine gm_ev.iload_n i22_111 rfl ?_
  refine gm_ev.aload_n i22_112 rfl ?_
  refine gm_ev.getfield (v := .int ((s.1 129) + (1 : Int32))) i22_113 rfl (bM_fld (j := 6) (fs := cF6 C (cA (cA (cA (cA (cA (cI s 129 ((s.1 129) + (1 : Int32))) 7 (upd (s.2.1 7) k7 p0)) 8 (upd (s.2.1 8) k8 p1)) 9 (upd (s.2.1 9) k9 p2)) 10 (upd (s.2.1 10) k10 p3)) 11 (upd (s.2.1 11) k12 (s.2.1 12 k11)))) rfl rfl) ?_
  refine gm_ev.iastore (M' := (bM C (cH C (cA (cA (cA (cA (cA (cA (cI s 129 ((s.1 129) + (1 : Int32))) 7 (upd (s.2.1 7) k7 p0)) 8 (upd (s.2.1 8) k8 p1)) 9 (upd (s.2.1 9) k9 p2)) 10 (upd (s.2.1 10) k10 p3)) 11 (upd (s.2.1 11) k12 (s.2.1 12 k11))) 12 (upd (s.2.1 12) k13 ((s.1 129) + (1 : Int32))))) G)) i22_116 (bM_asti (j := 12) (n := 112) (f := s.2.1 12) rfl ek13 lk13 (by decide) hN rfl) ?_
  refine gm_ev.aload_n i22_117 rfl ?_
  refine gm_ev.getfield (v := .ref (C + 13)) i22_118 rfl (bM_fld (j := 6) (fs := cF6 C (cA (cA (cA (cA (cA (cA (cI s 129 ((s.1 129) + (1 : Int32))) 7 (upd (s.2.1 7) k7 p0)) 8 (upd (s.2.1 8) k8 p1)) 9 (upd (s.2.1 9) k9 p2)) 10 (upd (s.2.1 10) k10 p3)) 11 (upd (s.2.1 11) k12 (s.2.1 12 k11))) 12 (upd (s.2.1 12) k13 ((s.1 129) + (1 : Int32))))) rfl rfl) ?_
  refine gm_ev.iload_n i22_121 rfl ?_
  refine gm_ev.dup2 i22_122 rfl rfl ?_
  refine gm_ev.iaload i22_123 (bM_ai (j := 13) (n := 112) (f := s.2.1 13) rfl ek14 lk14 (by decide)) ?_
  refine gm_ev.iconst (v := 1) i22_124 (by decide) ?_
  refine gm_ev.iadd i22_125 ?_
  refine gm_ev.iastore (M' := (bM C (cH C (cA (cA (cA (cA (cA (cA (cA (cI s 129 ((s.1 129) + (1 : Int32))) 7 (upd (s.2.1 7) k7 p0)) 8 (upd (s.2.1 8) k8 p1)) 9 (upd (s.2.1 9) k9 p2)) 10 (upd (s.2.1 10) k10 p3)) 11 (upd (s.2.1 11) k12 (s.2.1 12 k11))) 12 (upd (s.2.1 12) k13 ((s.1 129) + (1 : Int32)))) 13 (upd (s.2.1 13) k15 ((s.2.1 13 k14) + (1 : Int32))))) G)) i22_126 (bM_asti (j := 13) (n := 112) (f := s.2.1 13) rfl ek15 lk15 (by decide) hN rfl) ?_
  refine gm_ev.aload_n i22_127 rfl ?_
  refine gm_ev.getfield (v := .ref (C + 15)) i22_128 rfl (bM_fld (j := 6) (fs := cF6 C (cA (cA (cA (cA (cA (cA (cA (cI s 129 ((s.1 129) + (1 : Int32))) 7 (upd (s.2.1 7) k7 p0)) 8 (upd (s.2.1 8) k8 p1)) 9 (upd (s.2.1 9) k9 p2)) 10 (upd (s.2.1 10) k10 p3)) 11 (upd (s.2.1 11) k12 (s.2.1 12 k11))) 12 (upd (s.2.1 12) k13 ((s.1 129) + (1 : Int32)))) 13 (upd (s.2.1 13) k15 ((s.2.1 13 k14) + (1 : Int32))))) rfl rfl) ?_
  refine gm_ev.aload_n i22_131 rfl ?_
  refine gm_ev.getfield (v := .int ((s.1 129) + (1 : Int32))) i22_132 rfl (bM_fld (j := 6) (fs := cF6 C (cA (cA (cA (cA (cA (cA (cA (cI s 129 ((s.1 129) + (1 : Int32))) 7 (upd (s.2.1 7) k7 p0)) 8 (upd (s.2.1 8) k8 p1)) 9 (upd (s.2.1 9) k9 p2)) 10 (upd (s.2.1 10) k10 p3)) 11 (upd (s.2.1 11) k12 (s.2.1 12 k11))) 12 (upd (s.2.1 12) k13 ((s.1 129) + (1 : Int32)))) 13 (upd (s.2.1 13) k15 ((s.2.1 13 k14) + (1 : Int32))))) rfl rfl) ?_
  refine gm_ev.aload_n i22_135 rfl ?_
  refine gm_ev.getfield (v := .ref (C + 14)) i22_136 rfl (bM_fld (j := 6) (fs := cF6 C (cA (cA (cA (cA (cA (cA (cA (cI s 129 ((s.1 129) + (1 : Int32))) 7 (upd (s.2.1 7) k7 p0)) 8 (upd (s.2.1 8) k8 p1)) 9 (upd (s.2.1 9) k9 p2)) 10 (upd (s.2.1 10) k10 p3)) 11 (upd (s.2.1 11) k12 (s.2.1 12 k11))) 12 (upd (s.2.1 12) k13 ((s.1 129) + (1 : Int32)))) 13 (upd (s.2.1 13) k15 ((s.2.1 13 k14) + (1 : Int32))))) rfl rfl) ?_
  refine gm_ev.iload i22_139 rfl ?_
  refine gm_ev.iaload i22_141 (bM_ai (j := 14) (n := 256) (f := s.2.1 14) rfl ek16 lk16 (by decide)) ?_
  refine gm_ev.iastore (M' := (bM C (cH C (cA (cA (cA (cA (cA (cA (cA (cA (cI s 129 ((s.1 129) + (1 : Int32))) 7 (upd (s.2.1 7) k7 p0)) 8 (upd (s.2.1 8) k8 p1)) 9 (upd (s.2.1 9) k9 p2)) 10 (upd (s.2.1 10) k10 p3)) 11 (upd (s.2.1 11) k12 (s.2.1 12 k11))) 12 (upd (s.2.1 12) k13 ((s.1 129) + (1 : Int32)))) 13 (upd (s.2.1 13) k15 ((s.2.1 13 k14) + (1 : Int32)))) 15 (upd (s.2.1 15) k17 (s.2.1 14 k16)))) G)) i22_142 (bM_asti (j := 15) (n := 201) (f := s.2.1 15) rfl ek17 lk17 (by decide) hN rfl) ?_
  refine gm_ev.aload_n i22_143 rfl ?_
  refine gm_ev.getfield (v := .ref (C + 14)) i22_144 rfl (bM_fld (j := 6) (fs := cF6 C (cA (cA (cA (cA (cA (cA (cA (cA (cI s 129 ((s.1 129) + (1 : Int32))) 7 (upd (s.2.1 7) k7 p0)) 8 (upd (s.2.1 8) k8 p1)) 9 (upd (s.2.1 9) k9 p2)) 10 (upd (s.2.1 10) k10 p3)) 11 (upd (s.2.1 11) k12 (s.2.1 12 k11))) 12 (upd (s.2.1 12) k13 ((s.1 129) + (1 : Int32)))) 13 (upd (s.2.1 13) k15 ((s.2.1 13 k14) + (1 : Int32)))) 15 (upd (s.2.1 15) k17 (s.2.1 14 k16)))) rfl rfl) ?_
  refine gm_ev.iload i22_147 rfl ?_
  refine gm_ev.aload_n i22_149 rfl ?_
  refine gm_ev.getfield (v := .int ((s.1 129) + (1 : Int32))) i22_150 rfl (bM_fld (j := 6) (fs := cF6 C (cA (cA (cA (cA (cA (cA (cA (cA (cI s 129 ((s.1 129) + (1 : Int32))) 7 (upd (s.2.1 7) k7 p0)) 8 (upd (s.2.1 8) k8 p1)) 9 (upd (s.2.1 9) k9 p2)) 10 (upd (s.2.1 10) k10 p3)) 11 (upd (s.2.1 11) k12 (s.2.1 12 k11))) 12 (upd (s.2.1 12) k13 ((s.1 129) + (1 : Int32)))) 13 (upd (s.2.1 13) k15 ((s.2.1 13 k14) + (1 : Int32)))) 15 (upd (s.2.1 15) k17 (s.2.1 14 k16)))) rfl rfl) ?_
  refine gm_ev.iastore (M' := (bM C (cH C (cA (cA (cA (cA (cA (cA (cA (cA (cA (cI s 129 ((s.1 129) + (1 : Int32))) 7 (upd (s.2.1 7) k7 p0)) 8 (upd (s.2.1 8) k8 p1)) 9 (upd (s.2.1 9) k9 p2)) 10 (upd (s.2.1 10) k10 p3)) 11 (upd (s.2.1 11) k12 (s.2.1 12 k11))) 12 (upd (s.2.1 12) k13 ((s.1 129) + (1 : Int32)))) 13 (upd (s.2.1 13) k15 ((s.2.1 13 k14) + (1 : Int32)))) 15 (upd (s.2.1 15) k17 (s.2.1 14 k16))) 14 (upd (s.2.1 14) k18 ((s.1 129) + (1 : Int32))))) G)) i22_153 (bM_asti (j := 14) (n := 256) (f := s.2.1 14) rfl ek18 lk18 (by decide) hN rfl) ?_
  exact gm_ev.vret i22_154 rfl
theorem t_X1_add_0_tf {N0 : Nat} {K : Nat → Nat} {d C : Nat} {s : cS} {G : gm_H} {sz sl : Nat} {p0 : Int32} {p1 : Int32} {p2 : Int32} {p3 : Int32} {r1 : Int32} {r3 : Int32} (hN : N0 ≤ C) (t2 : gm_to N0 K ra_nm (ra_mt K) d 24 [.int p0, .int p1, .int p2, .int p3] (bM C (cH C s) G) sz (.returned (some (.int r1)), (bM C (cH C s) G), sz, 0)) (t4 : gm_to N0 K ra_nm (ra_mt K) d 23 [.ref (C + 6), .int r1, .int p0, .int p1, .int p2, .int p3] (bM C (cH C s) G) sz (.returned (some (.int r3)), (bM C (cH C s) G), sz, 0)) (c5 : r3 = 0) (c6 : (s.1 129) = (200 : Int32)) : gm_ev N0 K ra_nm (ra_mt K) d none (gm_I cX1_add) (gm_lkf (lkX1 false K)) 0 [some (.ref (C + 6)), some (.int p0), some (.int p1), some (.int p2), some (.int p3), none] [] (bM C (cH C s) G) sz sl (.returned none, (bM C (cH C (cI s 130 (1 : Int32))) G), sz, sl) := by
  refine gm_ev.iload_n i22_0 rfl ?_
  refine gm_ev.iload_n i22_1 rfl ?_
  refine gm_ev.iload_n i22_2 rfl ?_
  refine gm_ev.iload i22_3 rfl ?_
  refine gm_ev.callS gm_mono_run (av := [.int p0, .int p1, .int p2, .int p3]) (r := []) i22_5 rfl rfl rfl (Nat.le_of_ble_eq_true rfl) t2 ?_
  refine gm_ev.istore (ls' := [some (.ref (C + 6)), some (.int p0), some (.int p1), some (.int p2), some (.int p3), some (.int r1)]) i22_8 (Nat.le_of_ble_eq_true rfl) rfl ?_
  refine gm_ev.aload_n i22_10 rfl ?_
  refine gm_ev.iload i22_11 rfl ?_
  refine gm_ev.iload_n i22_13 rfl ?_
  refine gm_ev.iload_n i22_14 rfl ?_
  refine gm_ev.iload_n i22_15 rfl ?_
  refine gm_ev.iload i22_16 rfl ?_
  refine gm_ev.callV gm_mono_run (av := [.int r1, .int p0, .int p1, .int p2, .int p3]) (r := []) (ci := 1) (fs := cF6 C s) (bM_get (j := 6) rfl) i22_18 rfl rfl rfl (Nat.le_of_ble_eq_true rfl) t4 ?_
  refine gm_ev.if_eq_t (tgt := 25) i22_21 (by decide) c5 ?_
  refine gm_ev.aload_n i22_25 rfl ?_
  refine gm_ev.getfield (v := .int (s.1 129)) i22_26 rfl (bM_fld (j := 6) (fs := cF6 C s) rfl rfl) ?_
  refine gm_ev.sipush (v := 200) i22_29 (by decide) ?_
  refine gm_ev.icmp_ne_f i22_32 c6 ?_
  refine gm_ev.aload_n i22_35 rfl ?_
  refine gm_ev.iconst (v := 1) i22_36 (by decide) ?_
  refine gm_ev.putfield (M' := (bM C (cH C (cI s 130 (1 : Int32))) G)) i22_37 rfl (bM_put (j := 6) (fs := cF6 C s) rfl (Nat.le_of_ble_eq_true rfl) hN (gm_fit_z (by decide)) rfl) ?_
  exact gm_ev.vret i22_40 rfl
theorem t_X1_add_0_f {N0 : Nat} {K : Nat → Nat} {d C : Nat} {s : cS} {G : gm_H} {sz sl : Nat} {p0 : Int32} {p1 : Int32} {p2 : Int32} {p3 : Int32} {r1 : Int32} {r3 : Int32} (hN : N0 ≤ C) (t2 : gm_to N0 K ra_nm (ra_mt K) d 24 [.int p0, .int p1, .int p2, .int p3] (bM C (cH C s) G) sz (.returned (some (.int r1)), (bM C (cH C s) G), sz, 0)) (t4 : gm_to N0 K ra_nm (ra_mt K) d 23 [.ref (C + 6), .int r1, .int p0, .int p1, .int p2, .int p3] (bM C (cH C s) G) sz (.returned (some (.int r3)), (bM C (cH C s) G), sz, 0)) (c5 : ¬ r3 = 0) : gm_ev N0 K ra_nm (ra_mt K) d none (gm_I cX1_add) (gm_lkf (lkX1 false K)) 0 [some (.ref (C + 6)), some (.int p0), some (.int p1), some (.int p2), some (.int p3), none] [] (bM C (cH C s) G) sz sl (.returned none, (bM C (cH C s) G), sz, sl) := by
  refine gm_ev.iload_n i22_0 rfl ?_
  refine gm_ev.iload_n i22_1 rfl ?_
  refine gm_ev.iload_n i22_2 rfl ?_
  refine gm_ev.iload i22_3 rfl ?_
  refine gm_ev.callS gm_mono_run (av := [.int p0, .int p1, .int p2, .int p3]) (r := []) i22_5 rfl rfl rfl (Nat.le_of_ble_eq_true rfl) t2 ?_
  refine gm_ev.istore (ls' := [some (.ref (C + 6)), some (.int p0), some (.int p1), some (.int p2), some (.int p3), some (.int r1)]) i22_8 (Nat.le_of_ble_eq_true rfl) rfl ?_
  refine gm_ev.aload_n i22_10 rfl ?_
  refine gm_ev.iload i22_11 rfl ?_
  refine gm_ev.iload_n i22_13 rfl ?_
  refine gm_ev.iload_n i22_14 rfl ?_
  refine gm_ev.iload_n i22_15 rfl ?_
  refine gm_ev.iload i22_16 rfl ?_
  refine gm_ev.callV gm_mono_run (av := [.int r1, .int p0, .int p1, .int p2, .int p3]) (r := []) (ci := 1) (fs := cF6 C s) (bM_get (j := 6) rfl) i22_18 rfl rfl rfl (Nat.le_of_ble_eq_true rfl) t4 ?_
  refine gm_ev.if_eq_f i22_21 c5 ?_
  exact gm_ev.vret i22_24 rfl
theorem t_X1_search_0__at8 {N0 : Nat} {K : Nat → Nat} {d C : Nat} {s : cS} {G : gm_H} {sz sl : Nat} {R : gm_R} {p0 : Int32} {p1 : Int32} {p2 : Int32} {p3 : Int32} {p4 : Int32} {k1 : Nat} (hN : N0 ≤ C) (ek1 : p0 = nI k1) (lk1 : k1 < 256) (k : gm_ev N0 K ra_nm (ra_mt K) d (some .int) (gm_I cX1_search) (gm_lkf (lkX1 false K)) 8 [some (.ref (C + 6)), none, some (.int p1), some (.int p2), some (.int p3), some (.int p4), some (.int (s.2.1 14 k1))] [] (bM C (cH C s) G) sz sl R) : gm_ev N0 K ra_nm (ra_mt K) d (some .int) (gm_I cX1_search) (gm_lkf (lkX1 false K)) 0 [some (.ref (C + 6)), some (.int p0), some (.int p1), some (.int p2), some (.int p3), some (.int p4), none] [] (bM C (cH C s) G) sz sl R := by
  refine gm_ev.aload_n i23_0 rfl ?_
  refine gm_ev.getfield (v := .ref (C + 14)) i23_1 rfl (bM_fld (j := 6) (fs := cF6 C s) rfl rfl) ?_
  refine gm_ev.iload_n i23_4 rfl ?_
  refine gm_ev.iaload i23_5 (bM_ai (j := 14) (n := 256) (f := s.2.1 14) rfl ek1 lk1 (by decide)) ?_
  refine gm_ev.istore (ls' := [some (.ref (C + 6)), some (.int p0), some (.int p1), some (.int p2), some (.int p3), some (.int p4), some (.int (s.2.1 14 k1))]) i23_6 (Nat.le_of_ble_eq_true rfl) rfl ?_
  refine gm_ev.le (a := [some (.ref (C + 6)), none, some (.int p1), some (.int p2), some (.int p3), some (.int p4), some (.int (s.2.1 14 k1))]) (gm_leL.le (show gm_leL _ _ from ⟨rfl, ⟨rfl, ⟨rfl, ⟨rfl, ⟨rfl, ⟨rfl, trivial⟩⟩⟩⟩⟩⟩)) ?_
  exact k
theorem t_X1_search_8_t {N0 : Nat} {K : Nat → Nat} {d C : Nat} {s : cS} {G : gm_H} {sz sl : Nat} {u2 : Int32} {u3 : Int32} {u4 : Int32} {u5 : Int32} {u6 : Int32} (hN : N0 ≤ C) (c1 : u6 ≤ 0) : gm_ev N0 K ra_nm (ra_mt K) d (some .int) (gm_I cX1_search) (gm_lkf (lkX1 false K)) 8 [some (.ref (C + 6)), none, some (.int u2), some (.int u3), some (.int u4), some (.int u5), some (.int u6)] [] (bM C (cH C s) G) sz sl (.returned (some (.int (0 : Int32))), (bM C (cH C s) G), sz, sl) := by
  refine gm_ev.iload i23_8 rfl ?_
  refine gm_ev.if_le_t (tgt := 74) i23_10 (by decide) c1 ?_
  refine gm_ev.iconst (v := 0) i23_74 (by decide) ?_
  exact gm_ev.iret i23_75 rfl
theorem t_X1_search_8_ft_at8 {N0 : Nat} {K : Nat → Nat} {d C : Nat} {s : cS} {G : gm_H} {sz sl : Nat} {R : gm_R} {u2 : Int32} {u3 : Int32} {u4 : Int32} {u5 : Int32} {u6 : Int32} {k2 : Nat} {k4 : Nat} (hN : N0 ≤ C) (c1 : ¬ u6 ≤ 0) (ek2 : u6 = nI k2) (lk2 : k2 < 201) (c3 : ¬ (s.2.1 8 k2) = u3) (ek4 : u6 = nI k4) (lk4 : k4 < 201) (k : gm_ev N0 K ra_nm (ra_mt K) d (some .int) (gm_I cX1_search) (gm_lkf (lkX1 false K)) 8 [some (.ref (C + 6)), none, some (.int u2), some (.int u3), some (.int u4), some (.int u5), some (.int (s.2.1 15 k4))] [] (bM C (cH C s) G) sz sl R) : gm_ev N0 K ra_nm (ra_mt K) d (some .int) (gm_I cX1_search) (gm_lkf (lkX1 false K)) 8 [some (.ref (C + 6)), none, some (.int u2), some (.int u3), some (.int u4), some (.int u5), some (.int u6)] [] (bM C (cH C s) G) sz sl R := by
  refine gm_ev.iload i23_8 rfl ?_
  refine gm_ev.if_le_f i23_10 c1 ?_
  refine gm_ev.aload_n i23_13 rfl ?_
  refine gm_ev.getfield (v := .ref (C + 8)) i23_14 rfl (bM_fld (j := 6) (fs := cF6 C s) rfl rfl) ?_
  refine gm_ev.iload i23_17 rfl ?_
  refine gm_ev.iaload i23_19 (bM_ai (j := 8) (n := 201) (f := s.2.1 8) rfl ek2 lk2 (by decide)) ?_
  refine gm_ev.iload_n i23_20 rfl ?_
  refine gm_ev.icmp_ne_t (tgt := 62) i23_21 (by decide) c3 ?_
  refine gm_ev.aload_n i23_62 rfl ?_
  refine gm_ev.getfield (v := .ref (C + 15)) i23_63 rfl (bM_fld (j := 6) (fs := cF6 C s) rfl rfl) ?_
  refine gm_ev.iload i23_66 rfl ?_
  refine gm_ev.iaload i23_68 (bM_ai (j := 15) (n := 201) (f := s.2.1 15) rfl ek4 lk4 (by decide)) ?_
  refine gm_ev.istore (ls' := [some (.ref (C + 6)), none, some (.int u2), some (.int u3), some (.int u4), some (.int u5), some (.int (s.2.1 15 k4))]) i23_69 (Nat.le_of_ble_eq_true rfl) rfl ?_
  refine gm_ev.goto (tgt := 8) i23_71 (by decide) ?_
  exact k
theorem t_X1_search_8_fft_at8 {N0 : Nat} {K : Nat → Nat} {d C : Nat} {s : cS} {G : gm_H} {sz sl : Nat} {R : gm_R} {u2 : Int32} {u3 : Int32} {u4 : Int32} {u5 : Int32} {u6 : Int32} {k2 : Nat} {k4 : Nat} {k6 : Nat} (hN : N0 ≤ C) (c1 : ¬ u6 ≤ 0) (ek2 : u6 = nI k2) (lk2 : k2 < 201) (c3 : (s.2.1 8 k2) = u3) (ek4 : u6 = nI k4) (lk4 : k4 < 201) (c5 : ¬ (s.2.1 9 k4) = u4) (ek6 : u6 = nI k6) (lk6 : k6 < 201) (k : gm_ev N0 K ra_nm (ra_mt K) d (some .int) (gm_I cX1_search) (gm_lkf (lkX1 false K)) 8 [some (.ref (C + 6)), none, some (.int u2), some (.int u3), some (.int u4), some (.int u5), some (.int (s.2.1 15 k6))] [] (bM C (cH C s) G) sz sl R) : gm_ev N0 K ra_nm (ra_mt K) d (some .int) (gm_I cX1_search) (gm_lkf (lkX1 false K)) 8 [some (.ref (C + 6)), none, some (.int u2), some (.int u3), some (.int u4), some (.int u5), some (.int u6)] [] (bM C (cH C s) G) sz sl R := by
  refine gm_ev.iload i23_8 rfl ?_
  refine gm_ev.if_le_f i23_10 c1 ?_
  refine gm_ev.aload_n i23_13 rfl ?_
  refine gm_ev.getfield (v := .ref (C + 8)) i23_14 rfl (bM_fld (j := 6) (fs := cF6 C s) rfl rfl) ?_
  refine gm_ev.iload i23_17 rfl ?_
  refine gm_ev.iaload i23_19 (bM_ai (j := 8) (n := 201) (f := s.2.1 8) rfl ek2 lk2 (by decide)) ?_
  refine gm_ev.iload_n i23_20 rfl ?_
  refine gm_ev.icmp_ne_f i23_21 c3 ?_
  refine gm_ev.aload_n i23_24 rfl ?_
  refine gm_ev.getfield (v := .ref (C + 9)) i23_25 rfl (bM_fld (j := 6) (fs := cF6 C s) rfl rfl) ?_
  refine gm_ev.iload i23_28 rfl ?_
  refine gm_ev.iaload i23_30 (bM_ai (j := 9) (n := 201) (f := s.2.1 9) rfl ek4 lk4 (by decide)) ?_
  refine gm_ev.iload i23_31 rfl ?_
  refine gm_ev.icmp_ne_t (tgt := 62) i23_33 (by decide) c5 ?_
  refine gm_ev.aload_n i23_62 rfl ?_
  refine gm_ev.getfield (v := .ref (C + 15)) i23_63 rfl (bM_fld (j := 6) (fs := cF6 C s) rfl rfl) ?_
  refine gm_ev.iload i23_66 rfl ?_
  refine gm_ev.iaload i23_68 (bM_ai (j := 15) (n := 201) (f := s.2.1 15) rfl ek6 lk6 (by decide)) ?_
  refine gm_ev.istore (ls' := [some (.ref (C + 6)), none, some (.int u2), some (.int u3), some (.int u4), some (.int u5), some (.int (s.2.1 15 k6))]) i23_69 (Nat.le_of_ble_eq_true rfl) rfl ?_
  refine gm_ev.goto (tgt := 8) i23_71 (by decide) ?_
  exact k
theorem t_X1_search_8_ffft_at8 {N0 : Nat} {K : Nat → Nat} {d C : Nat} {s : cS} {G : gm_H} {sz sl : Nat} {R : gm_R} {u2 : Int32} {u3 : Int32} {u4 : Int32} {u5 : Int32} {u6 : Int32} {k2 : Nat} {k4 : Nat} {k6 : Nat} {k8 : Nat} (hN : N0 ≤ C) (c1 : ¬ u6 ≤ 0) (ek2 : u6 = nI k2) (lk2 : k2 < 201) (c3 : (s.2.1 8 k2) = u3) (ek4 : u6 = nI k4) (lk4 : k4 < 201) (c5 : (s.2.1 9 k4) = u4) (ek6 : u6 = nI k6) (lk6 : k6 < 201) (c7 : ¬ (s.2.1 7 k6) = u2) (ek8 : u6 = nI k8) (lk8 : k8 < 201) (k : gm_ev N0 K ra_nm (ra_mt K) d (some .int) (gm_I cX1_search) (gm_lkf (lkX1 false K)) 8 [some (.ref (C + 6)), none, some (.int u2), some (.int u3), some (.int u4), some (.int u5), some (.int (s.2.1 15 k8))] [] (bM C (cH C s) G) sz sl R) : gm_ev N0 K ra_nm (ra_mt K) d (some .int) (gm_I cX1_search) (gm_lkf (lkX1 false K)) 8 [some (.ref (C + 6)), none, some (.int u2), some (.int u3), some (.int u4), some (.int u5), some (.int u6)] [] (bM C (cH C s) G) sz sl R := by
  refine gm_ev.iload i23_8 rfl ?_
  refine gm_ev.if_le_f i23_10 c1 ?_
  refine gm_ev.aload_n i23_13 rfl ?_
  refine gm_ev.getfield (v := .ref (C + 8)) i23_14 rfl (bM_fld (j := 6) (fs := cF6 C s) rfl rfl) ?_
  refine gm_ev.iload i23_17 rfl ?_
  refine gm_ev.iaload i23_19 (bM_ai (j := 8) (n := 201) (f := s.2.1 8) rfl ek2 lk2 (by decide)) ?_
  refine gm_ev.iload_n i23_20 rfl ?_
  refine gm_ev.icmp_ne_f i23_21 c3 ?_
  refine gm_ev.aload_n i23_24 rfl ?_
  refine gm_ev.getfield (v := .ref (C + 9)) i23_25 rfl (bM_fld (j := 6) (fs := cF6 C s) rfl rfl) ?_
  refine gm_ev.iload i23_28 rfl ?_
  refine gm_ev.iaload i23_30 (bM_ai (j := 9) (n := 201) (f := s.2.1 9) rfl ek4 lk4 (by decide)) ?_
  refine gm_ev.iload i23_31 rfl ?_
  refine gm_ev.icmp_ne_f i23_33 c5 ?_
  refine gm_ev.aload_n i23_36 rfl ?_
  refine gm_ev.getfield (v := .ref (C + 7)) i23_37 rfl (bM_fld (j := 6) (fs := cF6 C s) rfl rfl) ?_
  refine gm_ev.iload i23_40 rfl ?_
  refine gm_ev.iaload i23_42 (bM_ai (j := 7) (n := 201) (f := s.2.1 7) rfl ek6 lk6 (by decide)) ?_
  refine gm_ev.iload_n i23_43 rfl ?_
  refine gm_ev.icmp_ne_t (tgt := 62) i23_44 (by decide) c7 ?_
  refine gm_ev.aload_n i23_62 rfl ?_
  refine gm_ev.getfield (v := .ref (C + 15)) i23_63 rfl (bM_fld (j := 6) (fs := cF6 C s) rfl rfl) ?_
  refine gm_ev.iload i23_66 rfl ?_
  refine gm_ev.iaload i23_68 (bM_ai (j := 15) (n := 201) (f := s.2.1 15) rfl ek8 lk8 (by decide)) ?_
  refine gm_ev.istore (ls' := [some (.ref (C + 6)), none, some (.int u2), some (.int u3), some (.int u4), some (.int u5), some (.int (s.2.1 15 k8))]) i23_69 (Nat.le_of_ble_eq_true rfl) rfl ?_
  refine gm_ev.goto (tgt := 8) i23_71 (by decide) ?_
  exact k
theorem t_X1_search_8_fffft_at8 {N0 : Nat} {K : Nat → Nat} {d C : Nat} {s : cS} {G : gm_H} {sz sl : Nat} {R : gm_R} {u2 : Int32} {u3 : Int32} {u4 : Int32} {u5 : Int32} {u6 : Int32} {k2 : Nat} {k4 : Nat} {k6 : Nat} {k8 : Nat} {k10 : Nat} (hN : N0 ≤ C) (c1 : ¬ u6 ≤ 0) (ek2 : u6 = nI k2) (lk2 : k2 < 201) (c3 : (s.2.1 8 k2) = u3) (ek4 : u6 = nI k4) (lk4 : k4 < 201) (c5 : (s.2.1 9 k4) = u4) (ek6 : u6 = nI k6) (lk6 : k6 < 201) (c7 : (s.2.1 7 k6) = u2) (ek8 : u6 = nI k8) (lk8 : k8 < 201) (c9 : ¬ (s.2.1 10 k8) = u5) (ek10 : u6 = nI k10) (lk10 : k10 < 201) (k : gm_ev N0 K ra_nm (ra_mt K) d (some .int) (gm_I cX1_search) (gm_lkf (lkX1 false K)) 8 [some (.ref (C + 6)), none, some (.int u2), some (.int u3), some (.int u4), some (.int u5), some (.int (s.2.1 15 k10))] [] (bM C (cH C s) G) sz sl R) : gm_ev N0 K ra_nm (ra_mt K) d (some .int) (gm_I cX1_search) (gm_lkf (lkX1 false K)) 8 [some (.ref (C + 6)), none, some (.int u2), some (.int u3), some (.int u4), some (.int u5), some (.int u6)] [] (bM C (cH C s) G) sz sl R := by
  refine gm_ev.iload i23_8 rfl ?_
  refine gm_ev.if_le_f i23_10 c1 ?_
  refine gm_ev.aload_n i23_13 rfl ?_
  refine gm_ev.getfield (v := .ref (C + 8)) i23_14 rfl (bM_fld (j := 6) (fs := cF6 C s) rfl rfl) ?_
  refine gm_ev.iload i23_17 rfl ?_
  refine gm_ev.iaload i23_19 (bM_ai (j := 8) (n := 201) (f := s.2.1 8) rfl ek2 lk2 (by decide)) ?_
  refine gm_ev.iload_n i23_20 rfl ?_
  refine gm_ev.icmp_ne_f i23_21 c3 ?_
  refine gm_ev.aload_n i23_24 rfl ?_
  refine gm_ev.getfield (v := .ref (C + 9)) i23_25 rfl (bM_fld (j := 6) (fs := cF6 C s) rfl rfl) ?_
  refine gm_ev.iload i23_28 rfl ?_
  refine gm_ev.iaload i23_30 (bM_ai (j := 9) (n := 201) (f := s.2.1 9) rfl ek4 lk4 (by decide)) ?_
  refine gm_ev.iload i23_31 rfl ?_
  refine gm_ev.icmp_ne_f i23_33 c5 ?_
  refine gm_ev.aload_n i23_36 rfl ?_
  refine gm_ev.getfield (v := .ref (C + 7)) i23_37 rfl (bM_fld (j := 6) (fs := cF6 C s) rfl rfl) ?_
  refine gm_ev.iload i23_40 rfl ?_
  refine gm_ev.iaload i23_42 (bM_ai (j := 7) (n := 201) (f := s.2.1 7) rfl ek6 lk6 (by decide)) ?_
  refine gm_ev.iload_n i23_43 rfl ?_
  refine gm_ev.icmp_ne_f i23_44 c7 ?_
  refine gm_ev.aload_n i23_47 rfl ?_
  refine gm_ev.getfield (v := .ref (C + 10)) i23_48 rfl (bM_fld (j := 6) (fs := cF6 C s) rfl rfl) ?_
  refine gm_ev.iload i23_51 rfl ?_
  refine gm_ev.iaload i23_53 (bM_ai (j := 10) (n := 201) (f := s.2.1 10) rfl ek8 lk8 (by decide)) ?_
  refine gm_ev.iload i23_54 rfl ?_
  refine gm_ev.icmp_ne_t (tgt := 62) i23_56 (by decide) c9 ?_
  refine gm_ev.aload_n i23_62 rfl ?_
  refine gm_ev.getfield (v := .ref (C + 15)) i23_63 rfl (bM_fld (j := 6) (fs := cF6 C s) rfl rfl) ?_
  refine gm_ev.iload i23_66 rfl ?_
  refine gm_ev.iaload i23_68 (bM_ai (j := 15) (n := 201) (f := s.2.1 15) rfl ek10 lk10 (by decide)) ?_
  refine gm_ev.istore (ls' := [some (.ref (C + 6)), none, some (.int u2), some (.int u3), some (.int u4), some (.int u5), some (.int (s.2.1 15 k10))]) i23_69 (Nat.le_of_ble_eq_true rfl) rfl ?_
  refine gm_ev.goto (tgt := 8) i23_71 (by decide) ?_
  exact k
theorem t_X1_search_8_fffff {N0 : Nat} {K : Nat → Nat} {d C : Nat} {s : cS} {G : gm_H} {sz sl : Nat} {u2 : Int32} {u3 : Int32} {u4 : Int32} {u5 : Int32} {u6 : Int32} {k2 : Nat} {k4 : Nat} {k6 : Nat} {k8 : Nat} (hN : N0 ≤ C) (c1 : ¬ u6 ≤ 0) (ek2 : u6 = nI k2) (lk2 : k2 < 201) (c3 : (s.2.1 8 k2) = u3) (ek4 : u6 = nI k4) (lk4 : k4 < 201) (c5 : (s.2.1 9 k4) = u4) (ek6 : u6 = nI k6) (lk6 : k6 < 201) (c7 : (s.2.1 7 k6) = u2) (ek8 : u6 = nI k8) (lk8 : k8 < 201) (c9 : (s.2.1 10 k8) = u5) : gm_ev N0 K ra_nm (ra_mt K) d (some .int) (gm_I cX1_search) (gm_lkf (lkX1 false K)) 8 [some (.ref (C + 6)), none, some (.int u2), some (.int u3), some (.int u4), some (.int u5), some (.int u6)] [] (bM C (cH C s) G) sz sl (.returned (some (.int u6)), (bM C (cH C s) G), sz, sl) := by
  refine gm_ev.iload i23_8 rfl ?_
  refine gm_ev.if_le_f i23_10 c1 ?_
  refine gm_ev.aload_n i23_13 rfl ?_
  refine gm_ev.getfield (v := .ref (C + 8)) i23_14 rfl (bM_fld (j := 6) (fs := cF6 C s) rfl rfl) ?_
  refine gm_ev.iload i23_17 rfl ?_
  refine gm_ev.iaload i23_19 (bM_ai (j := 8) (n := 201) (f := s.2.1 8) rfl ek2 lk2 (by decide)) ?_
  refine gm_ev.iload_n i23_20 rfl ?_
  refine gm_ev.icmp_ne_f i23_21 c3 ?_
  refine gm_ev.aload_n i23_24 rfl ?_
  refine gm_ev.getfield (v := .ref (C + 9)) i23_25 rfl (bM_fld (j := 6) (fs := cF6 C s) rfl rfl) ?_
  refine gm_ev.iload i23_28 rfl ?_
  refine gm_ev.iaload i23_30 (bM_ai (j := 9) (n := 201) (f := s.2.1 9) rfl ek4 lk4 (by decide)) ?_
  refine gm_ev.iload i23_31 rfl ?_
  refine gm_ev.icmp_ne_f i23_33 c5 ?_
  refine gm_ev.aload_n i23_36 rfl ?_
  refine gm_ev.getfield (v := .ref (C + 7)) i23_37 rfl (bM_fld (j := 6) (fs := cF6 C s) rfl rfl) ?_
  refine gm_ev.iload i23_40 rfl ?_
  refine gm_ev.iaload i23_42 (bM_ai (j := 7) (n := 201) (f := s.2.1 7) rfl ek6 lk6 (by decide)) ?_
  refine gm_ev.iload_n i23_43 rfl ?_
  refine gm_ev.icmp_ne_f i23_44 c7 ?_
  refine gm_ev.aload_n i23_47 rfl ?_
  refine gm_ev.getfield (v := .ref (C + 10)) i23_48 rfl (bM_fld (j := 6) (fs := cF6 C s) rfl rfl) ?_
  refine gm_ev.iload i23_51 rfl ?_
  refine gm_ev.iaload i23_53 (bM_ai (j := 10) (n := 201) (f := s.2.1 10) rfl ek8 lk8 (by decide)) ?_
  refine gm_ev.iload i23_54 rfl ?_
  refine gm_ev.icmp_ne_f i23_56 c9 ?_
  refine gm_ev.iload i23_59 rfl ?_
  exact gm_ev.iret i23_61 rfl
theorem t_X1_slotOf_0_ {N0 : Nat} {K : Nat → Nat} {d C : Nat} {s : cS} {G : gm_H} {sz sl : Nat} {p0 : Int32} {p1 : Int32} {p2 : Int32} {p3 : Int32} (hN : N0 ≤ C)  : gm_ev N0 K ra_nm (ra_mt K) d (some .int) (gm_I cX1_slotOf) (gm_lkf (lkX1 false K)) 0 [some (.int p0), some (.int p1), some (.int p2), some (.int p3), none] [] (bM C (cH C s) G) sz sl (.returned (some (.int ((((((((((p0 * (31 : Int32)) + p1) * (31 : Int32)) + p2) * (31 : Int32)) + p3) * (-1640531535 : Int32))).toUInt32 >>> (((24 : Int32)).toUInt32 &&& Int32.toUInt32 31)).toInt32))), (bM C (cH C s) G), sz, sl) := by
  refine gm_ev.iload_n i24_0 rfl ?_
  refine gm_ev.bipush (v := 31) i24_1 (by decide) ?_
  refine gm_ev.imul i24_3 ?_
  refine gm_ev.iload_n i24_4 rfl ?_
  refine gm_ev.iadd i24_5 ?_
  refine gm_ev.bipush (v := 31) i24_6 (by decide) ?_
  refine gm_ev.imul i24_8 ?_
  refine gm_ev.iload_n i24_9 rfl ?_
  refine gm_ev.iadd i24_10 ?_
  refine gm_ev.bipush (v := 31) i24_11 (by decide) ?_
  refine gm_ev.imul i24_13 ?_
  refine gm_ev.iload_n i24_14 rfl ?_
  refine gm_ev.iadd i24_15 ?_
  refine gm_ev.istore (ls' := [some (.int p0), some (.int p1), some (.int p2), some (.int p3), some (.int ((((((p0 * (31 : Int32)) + p1) * (31 : Int32)) + p2) * (31 : Int32)) + p3))]) i24_16 (Nat.le_of_ble_eq_true rfl) rfl ?_
  refine gm_ev.iload i24_18 rfl ?_
  refine gm_ev.ldc i24_20 rfl ?_
  refine gm_ev.imul i24_22 ?_
  refine gm_ev.bipush (v := 24) i24_23 (by decide) ?_
  refine gm_ev.iushr i24_25 ?_
  exact gm_ev.iret i24_26 rfl
theorem t_X1_cut_0__at5 {N0 : Nat} {K : Nat → Nat} {d C : Nat} {s : cS} {G : gm_H} {sz sl : Nat} {R : gm_R} {p0 : Int32} (hN : N0 ≤ C)  (k : gm_ev N0 K ra_nm (ra_mt K) d none (gm_I cX1_cut) (gm_lkf (lkX1 false K)) 5 [some (.ref (C + 6)), some (.int p0), some (.int (s.1 129)), none] [] (bM C (cH C s) G) sz sl R) : gm_ev N0 K ra_nm (ra_mt K) d none (gm_I cX1_cut) (gm_lkf (lkX1 false K)) 0 [some (.ref (C + 6)), some (.int p0), none, none] [] (bM C (cH C s) G) sz sl R := by
  refine gm_ev.aload_n i25_0 rfl ?_
  refine gm_ev.getfield (v := .int (s.1 129)) i25_1 rfl (bM_fld (j := 6) (fs := cF6 C s) rfl rfl) ?_
  refine gm_ev.istore_n (ls' := [some (.ref (C + 6)), some (.int p0), some (.int (s.1 129)), none]) i25_4 (Nat.le_of_ble_eq_true rfl) rfl ?_
  exact k
theorem t_X1_cut_5_t {N0 : Nat} {K : Nat → Nat} {d C : Nat} {s : cS} {G : gm_H} {sz sl : Nat} {u1 : Int32} {u2 : Int32} (hN : N0 ≤ C) (c1 : u2 ≤ u1) (hd : 0 < d) : gm_ev N0 K ra_nm (ra_mt K) d none (gm_I cX1_cut) (gm_lkf (lkX1 false K)) 5 [some (.ref (C + 6)), some (.int u1), some (.int u2), none] [] (bM C (cH C s) G) sz sl (.returned none, (bM C (cH C (cI (cI s 129 (if u1 < s.1 129 then u1 else s.1 129)) 130 (0 : Int32))) G), sz, sl) := by
  refine gm_ev.iload_n i25_5 rfl ?_
  refine gm_ev.iload_n i25_6 rfl ?_
  refine gm_ev.icmp_le_t (tgt := 78) i25_7 (by decide) c1 ?_
  refine gm_ev.aload_n i25_78 rfl ?_
  refine gm_ev.aload_n i25_79 rfl ?_
  refine gm_ev.getfield (v := .int (s.1 129)) i25_80 rfl (bM_fld (j := 6) (fs := cF6 C s) rfl rfl) ?_
  refine gm_ev.iload_n i25_83 rfl ?_
  refine gm_ev.callS gm_mono_run (av := [.int (s.1 129), .int u1]) (r := [.ref (C + 6)]) i25_84 rfl rfl rfl (Nat.le_of_ble_eq_true rfl) (gm_to_min hd) ?_
  refine gm_ev.putfield (M' := (bM C (cH C (cI s 129 (if u1 < s.1 129 then u1 else s.1 129))) G)) i25_87 rfl (bM_put (j := 6) (fs := cF6 C s) rfl (Nat.le_of_ble_eq_true rfl) hN (gm_fit_i _) rfl) ?_
  refine gm_ev.aload_n i25_90 rfl ?_
  refine gm_ev.iconst (v := 0) i25_91 (by decide) ?_
  refine gm_ev.putfield (M' := (bM C (cH C (cI (cI s 129 (if u1 < s.1 129 then u1 else s.1 129)) 130 (0 : Int32))) G)) i25_92 rfl (bM_put (j := 6) (fs := cF6 C (cI s 129 (if u1 < s.1 129 then u1 else s.1 129))) rfl (Nat.le_of_ble_eq_true rfl) hN (gm_fit_z (by decide)) rfl) ?_
  exact gm_ev.vret i25_95 rfl
theorem t_X1_cut_5_f_at5 {N0 : Nat} {K : Nat → Nat} {d C : Nat} {s : cS} {G : gm_H} {sz sl : Nat} {R : gm_R} {u1 : Int32} {u2 : Int32} {k2 : Nat} {k3 : Nat} {k4 : Nat} {k5 : Nat} {k6 : Nat} {k7 : Nat} {k8 : Nat} {k9 : Nat} {r10 : Int32} {k12 : Nat} {k13 : Nat} (hN : N0 ≤ C) (c1 : ¬ u2 ≤ u1) (ek2 : u2 = nI k2) (lk2 : k2 < 201) (ek3 : u2 = nI k3) (lk3 : k3 < 201) (ek4 : (s.2.1 7 k2) = nI k4) (lk4 : k4 < 112) (ek5 : (s.2.1 7 k2) = nI k5) (lk5 : k5 < 112) (ek6 : (s.2.1 7 k2) = nI k6) (lk6 : k6 < 112) (ek7 : u2 = nI k7) (lk7 : k7 < 201) (ek8 : u2 = nI k8) (lk8 : k8 < 201) (ek9 : u2 = nI k9) (lk9 : k9 < 201) (t11 : gm_to N0 K ra_nm (ra_mt K) d 24 [.int (s.2.1 7 k2), .int (s.2.1 8 k7), .int (s.2.1 9 k8), .int (s.2.1 10 k9)] (bM C (cH C (cA (cA s 12 (upd (s.2.1 12) k4 (s.2.1 11 k3))) 13 (upd (s.2.1 13) k6 ((s.2.1 13 k5) - (1 : Int32))))) G) sz (.returned (some (.int r10)), (bM C (cH C (cA (cA s 12 (upd (s.2.1 12) k4 (s.2.1 11 k3))) 13 (upd (s.2.1 13) k6 ((s.2.1 13 k5) - (1 : Int32))))) G), sz, 0)) (ek12 : u2 = nI k12) (lk12 : k12 < 201) (ek13 : r10 = nI k13) (lk13 : k13 < 256) (k : gm_ev N0 K ra_nm (ra_mt K) d none (gm_I cX1_cut) (gm_lkf (lkX1 false K)) 5 [some (.ref (C + 6)), some (.int u1), some (.int (u2 + (-1 : Int32))), none] [] (bM C (cH C (cA (cA (cA s 12 (upd (s.2.1 12) k4 (s.2.1 11 k3))) 13 (upd (s.2.1 13) k6 ((s.2.1 13 k5) - (1 : Int32)))) 14 (upd (s.2.1 14) k13 (s.2.1 15 k12)))) G) sz sl R) : gm_ev N0 K ra_nm (ra_mt K) d none (gm_I cX1_cut) (gm_lkf (lkX1 false K)) 5 [some (.ref (C + 6)), some (.int u1), some (.int u2), none] [] (bM C (cH C s) G) sz sl R := by
  refine gm_ev.iload_n i25_5 rfl ?_
  refine gm_ev.iload_n i25_6 rfl ?_
  refine gm_ev.icmp_le_f i25_7 c1 ?_
  refine gm_ev.aload_n i25_10 rfl ?_
  refine gm_ev.getfield (v := .ref (C + 7)) i25_11 rfl (bM_fld (j := 6) (fs := cF6 C s) rfl rfl) ?_
  refine gm_ev.iload_n i25_14 rfl ?_
  refine gm_ev.iaload i25_15 (bM_ai (j := 7) (n := 201) (f := s.2.1 7) rfl ek2 lk2 (by decide)) ?_
  refine gm_ev.istore_n (ls' := [some (.ref (C + 6)), some (.int u1), some (.int u2), some (.int (s.2.1 7 k2))]) i25_16 (Nat.le_of_ble_eq_true rfl) rfl ?_
  refine gm_ev.aload_n i25_17 rfl ?_
  refine gm_ev.getfield (v := .ref (C + 12)) i25_18 rfl (bM_fld (j := 6) (fs := cF6 C s) rfl rfl) ?_
  refine gm_ev.iload_n i25_21 rfl ?_
  refine gm_ev.aload_n i25_22 rfl ?_
  refine gm_ev.getfield (v := .ref (C + 11)) i25_23 rfl (bM_fld (j := 6) (fs := cF6 C s) rfl rfl) ?_
  refine gm_ev.iload_n i25_26 rfl ?_
  refine gm_ev.iaload i25_27 (bM_ai (j := 11) (n := 201) (f := s.2.1 11) rfl ek3 lk3 (by decide)) ?_
  refine gm_ev.iastore (M' := (bM C (cH C (cA s 12 (upd (s.2.1 12) k4 (s.2.1 11 k3)))) G)) i25_28 (bM_asti (j := 12) (n := 112) (f := s.2.1 12) rfl ek4 lk4 (by decide) hN rfl) ?_
  refine gm_ev.aload_n i25_29 rfl ?_
  refine gm_ev.getfield (v := .ref (C + 13)) i25_30 rfl (bM_fld (j := 6) (fs := cF6 C (cA s 12 (upd (s.2.1 12) k4 (s.2.1 11 k3)))) rfl rfl) ?_
  refine gm_ev.iload_n i25_33 rfl ?_
  refine gm_ev.dup2 i25_34 rfl rfl ?_
  refine gm_ev.iaload i25_35 (bM_ai (j := 13) (n := 112) (f := s.2.1 13) rfl ek5 lk5 (by decide)) ?_
  refine gm_ev.iconst (v := 1) i25_36 (by decide) ?_
  refine gm_ev.isub i25_37 ?_
  refine gm_ev.iastore (M' := (bM C (cH C (cA (cA s 12 (upd (s.2.1 12) k4 (s.2.1 11 k3))) 13 (upd (s.2.1 13) k6 ((s.2.1 13 k5) - (1 : Int32))))) G)) i25_38 (bM_asti (j := 13) (n := 112) (f := s.2.1 13) rfl ek6 lk6 (by decide) hN rfl) ?_
  refine gm_ev.aload_n i25_39 rfl ?_
  refine gm_ev.getfield (v := .ref (C + 14)) i25_40 rfl (bM_fld (j := 6) (fs := cF6 C (cA (cA s 12 (upd (s.2.1 12) k4 (s.2.1 11 k3))) 13 (upd (s.2.1 13) k6 ((s.2.1 13 k5) - (1 : Int32))))) rfl rfl) ?_
  refine gm_ev.iload_n i25_43 rfl ?_
  refine gm_ev.aload_n i25_44 rfl ?_
  refine gm_ev.getfield (v := .ref (C + 8)) i25_45 rfl (bM_fld (j := 6) (fs := cF6 C (cA (cA s 12 (upd (s.2.1 12) k4 (s.2.1 11 k3))) 13 (upd (s.2.1 13) k6 ((s.2.1 13 k5) - (1 : Int32))))) rfl rfl) ?_
  refine gm_ev.iload_n i25_48 rfl ?_
  refine gm_ev.iaload i25_49 (bM_ai (j := 8) (n := 201) (f := s.2.1 8) rfl ek7 lk7 (by decide)) ?_
  refine gm_ev.aload_n i25_50 rfl ?_
  refine gm_ev.getfield (v := .ref (C + 9)) i25_51 rfl (bM_fld (j := 6) (fs := cF6 C (cA (cA s 12 (upd (s.2.1 12) k4 (s.2.1 11 k3))) 13 (upd (s.2.1 13) k6 ((s.2.1 13 k5) - (1 : Int32))))) rfl rfl) ?_
  refine gm_ev.iload_n i25_54 rfl ?_
  refine gm_ev.iaload i25_55 (bM_ai (j := 9) (n := 201) (f := s.2.1 9) rfl ek8 lk8 (by decide)) ?_
  refine gm_ev.aload_n i25_56 rfl ?_
  refine gm_ev.getfield (v := .ref (C + 10)) i25_57 rfl (bM_fld (j := 6) (fs := cF6 C (cA (cA s 12 (upd (s.2.1 12) k4 (s.2.1 11 k3))) 13 (upd (s.2.1 13) k6 ((s.2.1 13 k5) - (1 : Int32))))) rfl rfl) ?_
  refine gm_ev.iload_n i25_60 rfl ?_
  refine gm_ev.iaload i25_61 (bM_ai (j := 10) (n := 201) (f := s.2.1 10) rfl ek9 lk9 (by decide)) ?_
  refine gm_ev.callS gm_mono_run (av := [.int (s.2.1 7 k2), .int (s.2.1 8 k7), .int (s.2.1 9 k8), .int (s.2.1 10 k9)]) (r := [.ref (C + 14)]) i25_62 rfl rfl rfl (Nat.le_of_ble_eq_true rfl) t11 ?_
  refine gm_ev.aload_n i25_65 rfl ?_
  refine gm_ev.getfield (v := .ref (C + 15)) i25_66 rfl (bM_fld (j := 6) (fs := cF6 C (cA (cA s 12 (upd (s.2.1 12) k4 (s.2.1 11 k3))) 13 (upd (s.2.1 13) k6 ((s.2.1 13 k5) - (1 : Int32))))) rfl rfl) ?_
  refine gm_ev.iload_n i25_69 rfl ?_
  refine gm_ev.iaload i25_70 (bM_ai (j := 15) (n := 201) (f := s.2.1 15) rfl ek12 lk12 (by decide)) ?_
  refine gm_ev.iastore (M' := (bM C (cH C (cA (cA (cA s 12 (upd (s.2.1 12) k4 (s.2.1 11 k3))) 13 (upd (s.2.1 13) k6 ((s.2.1 13 k5) - (1 : Int32)))) 14 (upd (s.2.1 14) k13 (s.2.1 15 k12)))) G)) i25_71 (bM_asti (j := 14) (n := 256) (f := s.2.1 14) rfl ek13 lk13 (by decide) hN rfl) ?_
  refine gm_ev.iinc (v := u2 + (-1 : Int32)) (ls' := [some (.ref (C + 6)), some (.int u1), some (.int (u2 + (-1 : Int32))), some (.int (s.2.1 7 k2))]) i25_72 rfl (by rfl) rfl ?_
  refine gm_ev.goto (tgt := 5) i25_75 (by decide) ?_
  refine gm_ev.le (a := [some (.ref (C + 6)), some (.int u1), some (.int (u2 + (-1 : Int32))), none]) (gm_leL.le (show gm_leL _ _ from ⟨rfl, ⟨rfl, ⟨rfl, trivial⟩⟩⟩)) ?_
  exact k
theorem t_X2_begin_0__at15 {N0 : Nat} {K : Nat → Nat} {d C : Nat} {s : cS} {G : gm_H} {sz sl : Nat} {R : gm_R} {p0 : Nat} {s2 : cS} (hN : N0 ≤ C) (t1 : gm_to N0 K ra_nm (ra_mt K) d 25 [.ref (C + 6), .int (0 : Int32)] (bM C (cH C (cR s 101 (some p0))) G) sz (.returned none, (bM C (cH C s2) G), sz, 0)) (k : gm_ev N0 K ra_nm (ra_mt K) d (some .boolean) (gm_I cX2_begin) (gm_lkf (lkX2 false K)) 15 [some (.ref (C + 5)), none, some (.int (0 : Int32))] [] (bM C (cH C s2) G) sz sl R) : gm_ev N0 K ra_nm (ra_mt K) d (some .boolean) (gm_I cX2_begin) (gm_lkf (lkX2 false K)) 0 [some (.ref (C + 5)), some (.ref p0), none] [] (bM C (cH C s) G) sz sl R := by
  refine gm_ev.aload_n i27_0 rfl ?_
  refine gm_ev.aload_n i27_1 rfl ?_
  refine gm_ev.putfield (M' := (bM C (cH C (cR s 101 (some p0))) G)) i27_2 rfl (bM_put (j := 5) (fs := cF5 C s) rfl (Nat.le_of_ble_eq_true rfl) hN (gm_fit_l _ _) rfl) ?_
  refine gm_ev.aload_n i27_5 rfl ?_
  refine gm_ev.getfield (v := .ref (C + 6)) i27_6 rfl (bM_fld (j := 5) (fs := cF5 C (cR s 101 (some p0))) rfl rfl) ?_
  refine gm_ev.iconst (v := 0) i27_9 (by decide) ?_
  refine gm_ev.callV gm_mono_run (av := [.int (0 : Int32)]) (r := []) (ci := 1) (fs := cF6 C (cR s 101 (some p0))) (bM_get (j := 6) rfl) i27_10 rfl rfl rfl (Nat.le_of_ble_eq_true rfl) t1 ?_
  refine gm_ev.iconst (v := 0) i27_13 (by decide) ?_
  refine gm_ev.istore_n (ls' := [some (.ref (C + 5)), some (.ref p0), some (.int (0 : Int32))]) i27_14 (Nat.le_of_ble_eq_true rfl) rfl ?_
  refine gm_ev.le (a := [some (.ref (C + 5)), none, some (.int (0 : Int32))]) (gm_leL.le (show gm_leL _ _ from ⟨rfl, ⟨rfl, trivial⟩⟩)) ?_
  exact k
theorem t_X2_begin_15_tt {N0 : Nat} {K : Nat → Nat} {d C : Nat} {s : cS} {G : gm_H} {sz sl : Nat} {u2 : Int32} {r2 : Nat} {fso3 : List Value} {r4 : Nat} {k6 : Nat} {na7 : Nat} {fa7 : Nat → Int32} (hN : N0 ≤ C) (h1 : s.2.2 101 = some r2) (ho3 : G r2 = some (.inr (4, fso3))) (f5 : fso3[2]? = some (.ref r4)) (hg_r2 : C + 34 ≤ r2) (ek6 : (0 : Int32) = nI k6) (ha7 : G r4 = some (.inl (.int, na7, .inl fa7))) (ba7 : na7 < 2 ^ 31) (hg_r4 : C + 34 ≤ r4) (lk6 : k6 < na7) (c8 : (fa7 k6) ≤ u2) (c9 : ¬ (s.1 130) = 0) : gm_ev N0 K ra_nm (ra_mt K) d (some .boolean) (gm_I cX2_begin) (gm_lkf (lkX2 false K)) 15 [some (.ref (C + 5)), none, some (.int u2)] [] (bM C (cH C s) G) sz sl (.returned (some (.int (0 : Int32))), (bM C (cH C (cI s 102 (s.1 129))) G), sz, sl) := by
  refine gm_ev.iload_n i27_15 rfl ?_
  refine gm_ev.aload_n i27_16 rfl ?_
  refine gm_ev.getfield (v := .ref r2) i27_17 rfl (bM_fld (j := 5) (fs := cF5 C s) rfl (cv_some h1)) ?_
  refine gm_ev.getfield (v := .ref r4) i27_20 rfl (gm_fld_of (cG_get hg_r2 ho3) f5) ?_
  refine gm_ev.iconst (v := 0) i27_23 (by decide) ?_
  refine gm_ev.iaload i27_24 (gm_ai_of (cG_get hg_r4 ha7) ek6 lk6 ba7) ?_
  refine gm_ev.icmp_ge_t (tgt := 39) i27_25 (by decide) c8 ?_
  refine gm_ev.aload_n i27_39 rfl ?_
  refine gm_ev.aload_n i27_40 rfl ?_
  refine gm_ev.getfield (v := .ref (C + 6)) i27_41 rfl (bM_fld (j := 5) (fs := cF5 C s) rfl rfl) ?_
  refine gm_ev.getfield (v := .int (s.1 129)) i27_44 rfl (bM_fld (j := 6) (fs := cF6 C s) rfl rfl) ?_
  refine gm_ev.putfield (M' := (bM C (cH C (cI s 102 (s.1 129))) G)) i27_47 rfl (bM_put (j := 5) (fs := cF5 C s) rfl (Nat.le_of_ble_eq_true rfl) hN (gm_fit_i _) rfl) ?_
  refine gm_ev.aload_n i27_50 rfl ?_
  refine gm_ev.getfield (v := .ref (C + 6)) i27_51 rfl (bM_fld (j := 5) (fs := cF5 C (cI s 102 (s.1 129))) rfl rfl) ?_
  refine gm_ev.getfield (v := .int (s.1 130)) i27_54 rfl (bM_fld (j := 6) (fs := cF6 C (cI s 102 (s.1 129))) rfl rfl) ?_
  refine gm_ev.if_ne_t (tgt := 64) i27_57 (by decide) c9 ?_
  refine gm_ev.iconst (v := 0) i27_64 (by decide) ?_
  exact gm_ev.zret i27_65 rfl (by decide)
theorem t_X2_begin_15_tf {N0 : Nat} {K : Nat → Nat} {d C : Nat} {s : cS} {G : gm_H} {sz sl : Nat} {u2 : Int32} {r2 : Nat} {fso3 : List Value} {r4 : Nat} {k6 : Nat} {na7 : Nat} {fa7 : Nat → Int32} (hN : N0 ≤ C) (h1 : s.2.2 101 = some r2) (ho3 : G r2 = some (.inr (4, fso3))) (f5 : fso3[2]? = some (.ref r4)) (hg_r2 : C + 34 ≤ r2) (ek6 : (0 : Int32) = nI k6) (ha7 : G r4 = some (.inl (.int, na7, .inl fa7))) (ba7 : na7 < 2 ^ 31) (hg_r4 : C + 34 ≤ r4) (lk6 : k6 < na7) (c8 : (fa7 k6) ≤ u2) (c9 : (s.1 130) = 0) : gm_ev N0 K ra_nm (ra_mt K) d (some .boolean) (gm_I cX2_begin) (gm_lkf (lkX2 false K)) 15 [some (.ref (C + 5)), none, some (.int u2)] [] (bM C (cH C s) G) sz sl (.returned (some (.int (1 : Int32))), (bM C (cH C (cI s 102 (s.1 129))) G), sz, sl) := by
  refine gm_ev.iload_n i27_15 rfl ?_
  refine gm_ev.aload_n i27_16 rfl ?_
  refine gm_ev.getfield (v := .ref r2) i27_17 rfl (bM_fld (j := 5) (fs := cF5 C s) rfl (cv_some h1)) ?_
  refine gm_ev.getfield (v := .ref r4) i27_20 rfl (gm_fld_of (cG_get hg_r2 ho3) f5) ?_
  refine gm_ev.iconst (v := 0) i27_23 (by decide) ?_
  refine gm_ev.iaload i27_24 (gm_ai_of (cG_get hg_r4 ha7) ek6 lk6 ba7) ?_
  refine gm_ev.icmp_ge_t (tgt := 39) i27_25 (by decide) c8 ?_
  refine gm_ev.aload_n i27_39 rfl ?_
  refine gm_ev.aload_n i27_40 rfl ?_
  refine gm_ev.getfield (v := .ref (C + 6)) i27_41 rfl (bM_fld (j := 5) (fs := cF5 C s) rfl rfl) ?_
  refine gm_ev.getfield (v := .int (s.1 129)) i27_44 rfl (bM_fld (j := 6) (fs := cF6 C s) rfl rfl) ?_
  refine gm_ev.putfield (M' := (bM C (cH C (cI s 102 (s.1 129))) G)) i27_47 rfl (bM_put (j := 5) (fs := cF5 C s) rfl (Nat.le_of_ble_eq_true rfl) hN (gm_fit_i _) rfl) ?_
  refine gm_ev.aload_n i27_50 rfl ?_
  refine gm_ev.getfield (v := .ref (C + 6)) i27_51 rfl (bM_fld (j := 5) (fs := cF5 C (cI s 102 (s.1 129))) rfl rfl) ?_
  refine gm_ev.getfield (v := .int (s.1 130)) i27_54 rfl (bM_fld (j := 6) (fs := cF6 C (cI s 102 (s.1 129))) rfl rfl) ?_
  refine gm_ev.if_ne_f i27_57 c9 ?_
  refine gm_ev.iconst (v := 1) i27_60 (by decide) ?_
  refine gm_ev.goto (tgt := 65) i27_61 (by decide) ?_
  exact gm_ev.zret i27_65 rfl (by decide)
theorem t_X2_begin_15_f_at15 {N0 : Nat} {K : Nat → Nat} {d C : Nat} {s : cS} {G : gm_H} {sz sl : Nat} {R : gm_R} {u2 : Int32} {r2 : Nat} {fso3 : List Value} {r4 : Nat} {k6 : Nat} {na7 : Nat} {fa7 : Nat → Int32} {s10 : cS} (hN : N0 ≤ C) (h1 : s.2.2 101 = some r2) (ho3 : G r2 = some (.inr (4, fso3))) (f5 : fso3[2]? = some (.ref r4)) (hg_r2 : C + 34 ≤ r2) (ek6 : (0 : Int32) = nI k6) (ha7 : G r4 = some (.inl (.int, na7, .inl fa7))) (ba7 : na7 < 2 ^ 31) (hg_r4 : C + 34 ≤ r4) (lk6 : k6 < na7) (c8 : ¬ (fa7 k6) ≤ u2) (t9 : gm_to N0 K ra_nm (ra_mt K) d 30 [.ref (C + 5), .int u2] (bM C (cH C s) G) sz (.returned none, (bM C (cH C s10) G), sz, 0)) (k : gm_ev N0 K ra_nm (ra_mt K) d (some .boolean) (gm_I cX2_begin) (gm_lkf (lkX2 false K)) 15 [some (.ref (C + 5)), none, some (.int (u2 + (1 : Int32)))] [] (bM C (cH C s10) G) sz sl R) : gm_ev N0 K ra_nm (ra_mt K) d (some .boolean) (gm_I cX2_begin) (gm_lkf (lkX2 false K)) 15 [some (.ref (C + 5)), none, some (.int u2)] [] (bM C (cH C s) G) sz sl R := by
  refine gm_ev.iload_n i27_15 rfl ?_
  refine gm_ev.aload_n i27_16 rfl ?_
  refine gm_ev.getfield (v := .ref r2) i27_17 rfl (bM_fld (j := 5) (fs := cF5 C s) rfl (cv_some h1)) ?_
  refine gm_ev.getfield (v := .ref r4) i27_20 rfl (gm_fld_of (cG_get hg_r2 ho3) f5) ?_
  refine gm_ev.iconst (v := 0) i27_23 (by decide) ?_
  refine gm_ev.iaload i27_24 (gm_ai_of (cG_get hg_r4 ha7) ek6 lk6 ba7) ?_
  refine gm_ev.icmp_ge_f i27_25 c8 ?_
  refine gm_ev.aload_n i27_28 rfl ?_
  refine gm_ev.iload_n i27_29 rfl ?_
  refine gm_ev.callV gm_mono_run (av := [.int u2]) (r := []) (ci := 2) (fs := cF5 C s) (bM_get (j := 5) rfl) i27_30 rfl rfl rfl (Nat.le_of_ble_eq_true rfl) t9 ?_
  refine gm_ev.iinc (v := u2 + (1 : Int32)) (ls' := [some (.ref (C + 5)), none, some (.int (u2 + (1 : Int32)))]) i27_33 rfl (by rfl) rfl ?_
  refine gm_ev.goto (tgt := 15) i27_36 (by decide) ?_
  exact k
theorem t_X2_inState_0__at13 {N0 : Nat} {K : Nat → Nat} {d C : Nat} {s : cS} {G : gm_H} {sz sl : Nat} {R : gm_R} {p0 : Nat} {s2 : cS} (hN : N0 ≤ C) (t1 : gm_to N0 K ra_nm (ra_mt K) d 25 [.ref (C + 6), .int (s.1 102)] (bM C (cH C s) G) sz (.returned none, (bM C (cH C s2) G), sz, 0)) (k : gm_ev N0 K ra_nm (ra_mt K) d (some .boolean) (gm_I cX2_inState) (gm_lkf (lkX2 false K)) 13 [some (.ref (C + 5)), some (.ref p0), some (.int (0 : Int32))] [] (bM C (cH C s2) G) sz sl R) : gm_ev N0 K ra_nm (ra_mt K) d (some .boolean) (gm_I cX2_inState) (gm_lkf (lkX2 false K)) 0 [some (.ref (C + 5)), some (.ref p0), none] [] (bM C (cH C s) G) sz sl R := by
  refine gm_ev.aload_n i28_0 rfl ?_
  refine gm_ev.getfield (v := .ref (C + 6)) i28_1 rfl (bM_fld (j := 5) (fs := cF5 C s) rfl rfl) ?_
  refine gm_ev.aload_n i28_4 rfl ?_
  refine gm_ev.getfield (v := .int (s.1 102)) i28_5 rfl (bM_fld (j := 5) (fs := cF5 C s) rfl rfl) ?_
  refine gm_ev.callV gm_mono_run (av := [.int (s.1 102)]) (r := []) (ci := 1) (fs := cF6 C s) (bM_get (j := 6) rfl) i28_8 rfl rfl rfl (Nat.le_of_ble_eq_true rfl) t1 ?_
  refine gm_ev.iconst (v := 0) i28_11 (by decide) ?_
  refine gm_ev.istore_n (ls' := [some (.ref (C + 5)), some (.ref p0), some (.int (0 : Int32))]) i28_12 (Nat.le_of_ble_eq_true rfl) rfl ?_
  exact k
theorem t_X2_inState_13_t_at53 {N0 : Nat} {K : Nat → Nat} {d C : Nat} {s : cS} {G : gm_H} {sz sl : Nat} {R : gm_R} {p0 : Nat} {u2 : Int32} {fso1 : List Value} {x2 : Int32} {r6 : Nat} {fso7 : List Value} {r8 : Nat} {k10 : Nat} {na11 : Nat} {fa11 : Nat → Int32} (hN : N0 ≤ C) (ho1 : (bM C (cH C s) G) p0 = some (.inr (9, fso1))) (f3 : fso1[1]? = some (.int x2)) (c4 : x2 ≤ u2) (h5 : s.2.2 101 = some r6) (ho7 : G r6 = some (.inr (4, fso7))) (f9 : fso7[2]? = some (.ref r8)) (hg_r6 : C + 34 ≤ r6) (ek10 : (0 : Int32) = nI k10) (ha11 : G r8 = some (.inl (.int, na11, .inl fa11))) (ba11 : na11 < 2 ^ 31) (hg_r8 : C + 34 ≤ r8) (lk10 : k10 < na11) (k : gm_ev N0 K ra_nm (ra_mt K) d (some .boolean) (gm_I cX2_inState) (gm_lkf (lkX2 false K)) 53 [some (.ref (C + 5)), none, some (.int (fa11 k10))] [] (bM C (cH C s) G) sz sl R) : gm_ev N0 K ra_nm (ra_mt K) d (some .boolean) (gm_I cX2_inState) (gm_lkf (lkX2 false K)) 13 [some (.ref (C + 5)), some (.ref p0), some (.int u2)] [] (bM C (cH C s) G) sz sl R := by
  refine gm_ev.iload_n i28_13 rfl ?_
  refine gm_ev.aload_n i28_14 rfl ?_
  refine gm_ev.getfield (v := .int x2) i28_15 rfl (gm_fld_of ho1 f3) ?_
  refine gm_ev.icmp_ge_t (tgt := 43) i28_18 (by decide) c4 ?_
  refine gm_ev.aload_n i28_43 rfl ?_
  refine gm_ev.getfield (v := .ref r6) i28_44 rfl (bM_fld (j := 5) (fs := cF5 C s) rfl (cv_some h5)) ?_
  refine gm_ev.getfield (v := .ref r8) i28_47 rfl (gm_fld_of (cG_get hg_r6 ho7) f9) ?_
  refine gm_ev.iconst (v := 0) i28_50 (by decide) ?_
  refine gm_ev.iaload i28_51 (gm_ai_of (cG_get hg_r8 ha11) ek10 lk10 ba11) ?_
  refine gm_ev.istore_n (ls' := [some (.ref (C + 5)), some (.ref p0), some (.int (fa11 k10))]) i28_52 (Nat.le_of_ble_eq_true rfl) rfl ?_
  refine gm_ev.le (a := [some (.ref (C + 5)), none, some (.int (fa11 k10))]) (gm_leL.le (show gm_leL _ _ from ⟨rfl, ⟨rfl, trivial⟩⟩)) ?_
  exact k
theorem t_X2_inState_13_f_at13 {N0 : Nat} {K : Nat → Nat} {d C : Nat} {s : cS} {G : gm_H} {sz sl : Nat} {R : gm_R} {p0 : Nat} {u2 : Int32} {fso1 : List Value} {x2 : Int32} {r5 : Nat} {k7 : Nat} {na8 : Nat} {fa8 : Nat → Int32} {s10 : cS} (hN : N0 ≤ C) (ho1 : (bM C (cH C s) G) p0 = some (.inr (9, fso1))) (f3 : fso1[1]? = some (.int x2)) (c4 : ¬ x2 ≤ u2) (f6 : fso1[0]? = some (.ref r5)) (ek7 : u2 = nI k7) (ha8 : (bM C (cH C s) G) r5 = some (.inl (.int, na8, .inl fa8))) (ba8 : na8 < 2 ^ 31) (lk7 : k7 < na8) (t9 : gm_to N0 K ra_nm (ra_mt K) d 22 [.ref (C + 6), .int (2 : Int32), .int (fa8 k7), .int (0 : Int32), .int (0 : Int32)] (bM C (cH C s) G) sz (.returned none, (bM C (cH C s10) G), sz, 0)) (k : gm_ev N0 K ra_nm (ra_mt K) d (some .boolean) (gm_I cX2_inState) (gm_lkf (lkX2 false K)) 13 [some (.ref (C + 5)), some (.ref p0), some (.int (u2 + (1 : Int32)))] [] (bM C (cH C s10) G) sz sl R) : gm_ev N0 K ra_nm (ra_mt K) d (some .boolean) (gm_I cX2_inState) (gm_lkf (lkX2 false K)) 13 [some (.ref (C + 5)), some (.ref p0), some (.int u2)] [] (bM C (cH C s) G) sz sl R := by
  refine gm_ev.iload_n i28_13 rfl ?_
  refine gm_ev.aload_n i28_14 rfl ?_
  refine gm_ev.getfield (v := .int x2) i28_15 rfl (gm_fld_of ho1 f3) ?_
  refine gm_ev.icmp_ge_f i28_18 c4 ?_
  refine gm_ev.aload_n i28_21 rfl ?_
  refine gm_ev.getfield (v := .ref (C + 6)) i28_22 rfl (bM_fld (j := 5) (fs := cF5 C s) rfl rfl) ?_
  refine gm_ev.iconst (v := 2) i28_25 (by decide) ?_
  refine gm_ev.aload_n i28_26 rfl ?_
  refine gm_ev.getfield (v := .ref r5) i28_27 rfl (gm_fld_of ho1 f6) ?_
  refine gm_ev.iload_n i28_30 rfl ?_
  refine gm_ev.iaload i28_31 (gm_ai_of ha8 ek7 lk7 ba8) ?_
  refine gm_ev.iconst (v := 0) i28_32 (by decide) ?_
  refine gm_ev.iconst (v := 0) i28_33 (by decide) ?_
  refine gm_ev.callV gm_mono_run (av := [.int (2 : Int32), .int (fa8 k7), .int (0 : Int32), .int (0 : Int32)]) (r := []) (ci := 1) (fs := cF6 C s) (bM_get (j := 6) rfl) i28_34 rfl rfl rfl (Nat.le_of_ble_eq_true rfl) t9 ?_
  refine gm_ev.iinc (v := u2 + (1 : Int32)) (ls' := [some (.ref (C + 5)), some (.ref p0), some (.int (u2 + (1 : Int32)))]) i28_37 rfl (by rfl) rfl ?_
  refine gm_ev.goto (tgt := 13) i28_40 (by decide) ?_
  exact k
theorem t_X2_inState_53_t_at98 {N0 : Nat} {K : Nat → Nat} {d C : Nat} {s : cS} {G : gm_H} {sz sl : Nat} {R : gm_R} {u2 : Int32} {r2 : Nat} {fso3 : List Value} {r4 : Nat} {k6 : Nat} {na7 : Nat} {fa7 : Nat → Int32} {k9 : Nat} (hN : N0 ≤ C) (h1 : s.2.2 101 = some r2) (ho3 : G r2 = some (.inr (4, fso3))) (f5 : fso3[2]? = some (.ref r4)) (hg_r2 : C + 34 ≤ r2) (ek6 : (1 : Int32) = nI k6) (ha7 : G r4 = some (.inl (.int, na7, .inl fa7))) (ba7 : na7 < 2 ^ 31) (hg_r4 : C + 34 ≤ r4) (lk6 : k6 < na7) (c8 : (fa7 k6) ≤ u2) (ek9 : (1 : Int32) = nI k9) (lk9 : k9 < na7) (k : gm_ev N0 K ra_nm (ra_mt K) d (some .boolean) (gm_I cX2_inState) (gm_lkf (lkX2 false K)) 98 [some (.ref (C + 5)), none, some (.int (fa7 k9))] [] (bM C (cH C (cI s 103 (s.1 129))) G) sz sl R) : gm_ev N0 K ra_nm (ra_mt K) d (some .boolean) (gm_I cX2_inState) (gm_lkf (lkX2 false K)) 53 [some (.ref (C + 5)), none, some (.int u2)] [] (bM C (cH C s) G) sz sl R := by
  refine gm_ev.iload_n i28_53 rfl ?_
  refine gm_ev.aload_n i28_54 rfl ?_
  refine gm_ev.getfield (v := .ref r2) i28_55 rfl (bM_fld (j := 5) (fs := cF5 C s) rfl (cv_some h1)) ?_
  refine gm_ev.getfield (v := .ref r4) i28_58 rfl (gm_fld_of (cG_get hg_r2 ho3) f5) ?_
  refine gm_ev.iconst (v := 1) i28_61 (by decide) ?_
  refine gm_ev.iaload i28_62 (gm_ai_of (cG_get hg_r4 ha7) ek6 lk6 ba7) ?_
  refine gm_ev.icmp_ge_t (tgt := 77) i28_63 (by decide) c8 ?_
  refine gm_ev.aload_n i28_77 rfl ?_
  refine gm_ev.aload_n i28_78 rfl ?_
  refine gm_ev.getfield (v := .ref (C + 6)) i28_79 rfl (bM_fld (j := 5) (fs := cF5 C s) rfl rfl) ?_
  refine gm_ev.getfield (v := .int (s.1 129)) i28_82 rfl (bM_fld (j := 6) (fs := cF6 C s) rfl rfl) ?_
  refine gm_ev.putfield (M' := (bM C (cH C (cI s 103 (s.1 129))) G)) i28_85 rfl (bM_put (j := 5) (fs := cF5 C s) rfl (Nat.le_of_ble_eq_true rfl) hN (gm_fit_i _) rfl) ?_
  refine gm_ev.aload_n i28_88 rfl ?_
  refine gm_ev.getfield (v := .ref r2) i28_89 rfl (bM_fld (j := 5) (fs := cF5 C (cI s 103 (s.1 129))) rfl (cv_some h1)) ?_
  refine gm_ev.getfield (v := .ref r4) i28_92 rfl (gm_fld_of (cG_get hg_r2 ho3) f5) ?_
  refine gm_ev.iconst (v := 1) i28_95 (by decide) ?_
  refine gm_ev.iaload i28_96 (gm_ai_of (cG_get hg_r4 ha7) ek9 lk9 ba7) ?_
  refine gm_ev.istore_n (ls' := [some (.ref (C + 5)), none, some (.int (fa7 k9))]) i28_97 (Nat.le_of_ble_eq_true rfl) rfl ?_
  exact k
theorem t_X2_inState_53_f_at53 {N0 : Nat} {K : Nat → Nat} {d C : Nat} {s : cS} {G : gm_H} {sz sl : Nat} {R : gm_R} {u2 : Int32} {r2 : Nat} {fso3 : List Value} {r4 : Nat} {k6 : Nat} {na7 : Nat} {fa7 : Nat → Int32} {s10 : cS} (hN : N0 ≤ C) (h1 : s.2.2 101 = some r2) (ho3 : G r2 = some (.inr (4, fso3))) (f5 : fso3[2]? = some (.ref r4)) (hg_r2 : C + 34 ≤ r2) (ek6 : (1 : Int32) = nI k6) (ha7 : G r4 = some (.inl (.int, na7, .inl fa7))) (ba7 : na7 < 2 ^ 31) (hg_r4 : C + 34 ≤ r4) (lk6 : k6 < na7) (c8 : ¬ (fa7 k6) ≤ u2) (t9 : gm_to N0 K ra_nm (ra_mt K) d 30 [.ref (C + 5), .int u2] (bM C (cH C s) G) sz (.returned none, (bM C (cH C s10) G), sz, 0)) (k : gm_ev N0 K ra_nm (ra_mt K) d (some .boolean) (gm_I cX2_inState) (gm_lkf (lkX2 false K)) 53 [some (.ref (C + 5)), none, some (.int (u2 + (1 : Int32)))] [] (bM C (cH C s10) G) sz sl R) : gm_ev N0 K ra_nm (ra_mt K) d (some .boolean) (gm_I cX2_inState) (gm_lkf (lkX2 false K)) 53 [some (.ref (C + 5)), none, some (.int u2)] [] (bM C (cH C s) G) sz sl R := by
  refine gm_ev.iload_n i28_53 rfl ?_
  refine gm_ev.aload_n i28_54 rfl ?_
  refine gm_ev.getfield (v := .ref r2) i28_55 rfl (bM_fld (j := 5) (fs := cF5 C s) rfl (cv_some h1)) ?_
  refine gm_ev.getfield (v := .ref r4) i28_58 rfl (gm_fld_of (cG_get hg_r2 ho3) f5) ?_
  refine gm_ev.iconst (v := 1) i28_61 (by decide) ?_
  refine gm_ev.iaload i28_62 (gm_ai_of (cG_get hg_r4 ha7) ek6 lk6 ba7) ?_
  refine gm_ev.icmp_ge_f i28_63 c8 ?_
  refine gm_ev.aload_n i28_66 rfl ?_
  refine gm_ev.iload_n i28_67 rfl ?_
  refine gm_ev.callV gm_mono_run (av := [.int u2]) (r := []) (ci := 2) (fs := cF5 C s) (bM_get (j := 5) rfl) i28_68 rfl rfl rfl (Nat.le_of_ble_eq_true rfl) t9 ?_
  refine gm_ev.iinc (v := u2 + (1 : Int32)) (ls' := [some (.ref (C + 5)), none, some (.int (u2 + (1 : Int32)))]) i28_71 rfl (by rfl) rfl ?_
  refine gm_ev.goto (tgt := 53) i28_74 (by decide) ?_
  exact k
theorem t_X2_inState_98_tt {N0 : Nat} {K : Nat → Nat} {d C : Nat} {s : cS} {G : gm_H} {sz sl : Nat} {u2 : Int32} {r2 : Nat} {fso3 : List Value} {r4 : Nat} {k6 : Nat} {na7 : Nat} {fa7 : Nat → Int32} (hN : N0 ≤ C) (h1 : s.2.2 101 = some r2) (ho3 : G r2 = some (.inr (4, fso3))) (f5 : fso3[2]? = some (.ref r4)) (hg_r2 : C + 34 ≤ r2) (ek6 : (2 : Int32) = nI k6) (ha7 : G r4 = some (.inl (.int, na7, .inl fa7))) (ba7 : na7 < 2 ^ 31) (hg_r4 : C + 34 ≤ r4) (lk6 : k6 < na7) (c8 : (fa7 k6) ≤ u2) (c9 : ¬ (s.1 130) = 0) : gm_ev N0 K ra_nm (ra_mt K) d (some .boolean) (gm_I cX2_inState) (gm_lkf (lkX2 false K)) 98 [some (.ref (C + 5)), none, some (.int u2)] [] (bM C (cH C s) G) sz sl (.returned (some (.int (0 : Int32))), (bM C (cH C s) G), sz, sl) := by
  refine gm_ev.iload_n i28_98 rfl ?_
  refine gm_ev.aload_n i28_99 rfl ?_
  refine gm_ev.getfield (v := .ref r2) i28_100 rfl (bM_fld (j := 5) (fs := cF5 C s) rfl (cv_some h1)) ?_
  refine gm_ev.getfield (v := .ref r4) i28_103 rfl (gm_fld_of (cG_get hg_r2 ho3) f5) ?_
  refine gm_ev.iconst (v := 2) i28_106 (by decide) ?_
  refine gm_ev.iaload i28_107 (gm_ai_of (cG_get hg_r4 ha7) ek6 lk6 ba7) ?_
  refine gm_ev.icmp_ge_t (tgt := 122) i28_108 (by decide) c8 ?_
  refine gm_ev.aload_n i28_122 rfl ?_
  refine gm_ev.getfield (v := .ref (C + 6)) i28_123 rfl (bM_fld (j := 5) (fs := cF5 C s) rfl rfl) ?_
  refine gm_ev.getfield (v := .int (s.1 130)) i28_126 rfl (bM_fld (j := 6) (fs := cF6 C s) rfl rfl) ?_
  refine gm_ev.if_ne_t (tgt := 136) i28_129 (by decide) c9 ?_
  refine gm_ev.iconst (v := 0) i28_136 (by decide) ?_
  exact gm_ev.zret i28_137 rfl (by decide)
theorem t_X2_inState_98_tf {N0 : Nat} {K : Nat → Nat} {d C : Nat} {s : cS} {G : gm_H} {sz sl : Nat} {u2 : Int32} {r2 : Nat} {fso3 : List Value} {r4 : Nat} {k6 : Nat} {na7 : Nat} {fa7 : Nat → Int32} (hN : N0 ≤ C) (h1 : s.2.2 101 = some r2) (ho3 : G r2 = some (.inr (4, fso3))) (f5 : fso3[2]? = some (.ref r4)) (hg_r2 : C + 34 ≤ r2) (ek6 : (2 : Int32) = nI k6) (ha7 : G r4 = some (.inl (.int, na7, .inl fa7))) (ba7 : na7 < 2 ^ 31) (hg_r4 : C + 34 ≤ r4) (lk6 : k6 < na7) (c8 : (fa7 k6) ≤ u2) (c9 : (s.1 130) = 0) : gm_ev N0 K ra_nm (ra_mt K) d (some .boolean) (gm_I cX2_inState) (gm_lkf (lkX2 false K)) 98 [some (.ref (C + 5)), none, some (.int u2)] [] (bM C (cH C s) G) sz sl (.returned (some (.int (1 : Int32))), (bM C (cH C s) G), sz, sl) := by
  refine gm_ev.iload_n i28_98 rfl ?_
  refine gm_ev.aload_n i28_99 rfl ?_
  refine gm_ev.getfield (v := .ref r2) i28_100 rfl (bM_fld (j := 5) (fs := cF5 C s) rfl (cv_some h1)) ?_
  refine gm_ev.getfield (v := .ref r4) i28_103 rfl (gm_fld_of (cG_get hg_r2 ho3) f5) ?_
  refine gm_ev.iconst (v := 2) i28_106 (by decide) ?_
  refine gm_ev.iaload i28_107 (gm_ai_of (cG_get hg_r4 ha7) ek6 lk6 ba7) ?_
  refine gm_ev.icmp_ge_t (tgt := 122) i28_108 (by decide) c8 ?_
  refine gm_ev.aload_n i28_122 rfl ?_
  refine gm_ev.getfield (v := .ref (C + 6)) i28_123 rfl (bM_fld (j := 5) (fs := cF5 C s) rfl rfl) ?_
  refine gm_ev.getfield (v := .int (s.1 130)) i28_126 rfl (bM_fld (j := 6) (fs := cF6 C s) rfl rfl) ?_
  refine gm_ev.if_ne_f i28_129 c9 ?_
  refine gm_ev.iconst (v := 1) i28_132 (by decide) ?_
  refine gm_ev.goto (tgt := 137) i28_133 (by decide) ?_
  exact gm_ev.zret i28_137 rfl (by decide)
theorem t_X2_inState_98_f_at98 {N0 : Nat} {K : Nat → Nat} {d C : Nat} {s : cS} {G : gm_H} {sz sl : Nat} {R : gm_R} {u2 : Int32} {r2 : Nat} {fso3 : List Value} {r4 : Nat} {k6 : Nat} {na7 : Nat} {fa7 : Nat → Int32} {s10 : cS} (hN : N0 ≤ C) (h1 : s.2.2 101 = some r2) (ho3 : G r2 = some (.inr (4, fso3))) (f5 : fso3[2]? = some (.ref r4)) (hg_r2 : C + 34 ≤ r2) (ek6 : (2 : Int32) = nI k6) (ha7 : G r4 = some (.inl (.int, na7, .inl fa7))) (ba7 : na7 < 2 ^ 31) (hg_r4 : C + 34 ≤ r4) (lk6 : k6 < na7) (c8 : ¬ (fa7 k6) ≤ u2) (t9 : gm_to N0 K ra_nm (ra_mt K) d 30 [.ref (C + 5), .int u2] (bM C (cH C s) G) sz (.returned none, (bM C (cH C s10) G), sz, 0)) (k : gm_ev N0 K ra_nm (ra_mt K) d (some .boolean) (gm_I cX2_inState) (gm_lkf (lkX2 false K)) 98 [some (.ref (C + 5)), none, some (.int (u2 + (1 : Int32)))] [] (bM C (cH C s10) G) sz sl R) : gm_ev N0 K ra_nm (ra_mt K) d (some .boolean) (gm_I cX2_inState) (gm_lkf (lkX2 false K)) 98 [some (.ref (C + 5)), none, some (.int u2)] [] (bM C (cH C s) G) sz sl R := by
  refine gm_ev.iload_n i28_98 rfl ?_
  refine gm_ev.aload_n i28_99 rfl ?_
  refine gm_ev.getfield (v := .ref r2) i28_100 rfl (bM_fld (j := 5) (fs := cF5 C s) rfl (cv_some h1)) ?_
  refine gm_ev.getfield (v := .ref r4) i28_103 rfl (gm_fld_of (cG_get hg_r2 ho3) f5) ?_
  refine gm_ev.iconst (v := 2) i28_106 (by decide) ?_
  refine gm_ev.iaload i28_107 (gm_ai_of (cG_get hg_r4 ha7) ek6 lk6 ba7) ?_
  refine gm_ev.icmp_ge_f i28_108 c8 ?_
  refine gm_ev.aload_n i28_111 rfl ?_
  refine gm_ev.iload_n i28_112 rfl ?_
  refine gm_ev.callV gm_mono_run (av := [.int u2]) (r := []) (ci := 2) (fs := cF5 C s) (bM_get (j := 5) rfl) i28_113 rfl rfl rfl (Nat.le_of_ble_eq_true rfl) t9 ?_
  refine gm_ev.iinc (v := u2 + (1 : Int32)) (ls' := [some (.ref (C + 5)), none, some (.int (u2 + (1 : Int32)))]) i28_116 rfl (by rfl) rfl ?_
  refine gm_ev.goto (tgt := 98) i28_119 (by decide) ?_
  exact k
theorem t_X2_byMove_0__at45 {N0 : Nat} {K : Nat → Nat} {d C : Nat} {s : cS} {G : gm_H} {sz sl : Nat} {R : gm_R} {p0 : Int32} {p1 : Int32} {p2 : Int32} {p3 : Int32} {s2 : cS} {s4 : cS} {s6 : cS} {r8 : Nat} {fso9 : List Value} {r10 : Nat} {k12 : Nat} {na13 : Nat} {fa13 : Nat → Int32} (hN : N0 ≤ C) (t1 : gm_to N0 K ra_nm (ra_mt K) d 25 [.ref (C + 6), .int (s.1 103)] (bM C (cH C s) G) sz (.returned none, (bM C (cH C s2) G), sz, 0)) (t3 : gm_to N0 K ra_nm (ra_mt K) d 22 [.ref (C + 6), .int (4 : Int32), .int p0, .int p1, .int (0 : Int32)] (bM C (cH C s2) G) sz (.returned none, (bM C (cH C s4) G), sz, 0)) (t5 : gm_to N0 K ra_nm (ra_mt K) d 22 [.ref (C + 6), .int (4 : Int32), .int p2, .int p3, .int (0 : Int32)] (bM C (cH C s4) G) sz (.returned none, (bM C (cH C s6) G), sz, 0)) (h7 : s6.2.2 101 = some r8) (ho9 : G r8 = some (.inr (4, fso9))) (f11 : fso9[2]? = some (.ref r10)) (hg_r8 : C + 34 ≤ r8) (ek12 : (1 : Int32) = nI k12) (ha13 : G r10 = some (.inl (.int, na13, .inl fa13))) (ba13 : na13 < 2 ^ 31) (hg_r10 : C + 34 ≤ r10) (lk12 : k12 < na13) (k : gm_ev N0 K ra_nm (ra_mt K) d (some .boolean) (gm_I cX2_byMove) (gm_lkf (lkX2 false K)) 45 [some (.ref (C + 5)), none, none, none, none, some (.int (fa13 k12))] [] (bM C (cH C s6) G) sz sl R) : gm_ev N0 K ra_nm (ra_mt K) d (some .boolean) (gm_I cX2_byMove) (gm_lkf (lkX2 false K)) 0 [some (.ref (C + 5)), some (.int p0), some (.int p1), some (.int p2), some (.int p3), none] [] (bM C (cH C s) G) sz sl R := by
  refine gm_ev.aload_n i29_0 rfl ?_
  refine gm_ev.getfield (v := .ref (C + 6)) i29_1 rfl (bM_fld (j := 5) (fs := cF5 C s) rfl rfl) ?_
  refine gm_ev.aload_n i29_4 rfl ?_
  refine gm_ev.getfield (v := .int (s.1 103)) i29_5 rfl (bM_fld (j := 5) (fs := cF5 C s) rfl rfl) ?_
  refine gm_ev.callV gm_mono_run (av := [.int (s.1 103)]) (r := []) (ci := 1) (fs := cF6 C s) (bM_get (j := 6) rfl) i29_8 rfl rfl rfl (Nat.le_of_ble_eq_true rfl) t1 ?_
  refine gm_ev.aload_n i29_11 rfl ?_
  refine gm_ev.getfield (v := .ref (C + 6)) i29_12 rfl (bM_fld (j := 5) (fs := cF5 C s2) rfl rfl) ?_
  refine gm_ev.iconst (v := 4) i29_15 (by decide) ?_
  refine gm_ev.iload_n i29_16 rfl ?_
  refine gm_ev.iload_n i29_17 rfl ?_
  refine gm_ev.iconst (v := 0) i29_18 (by decide) ?_
  refine gm_ev.callV gm_mono_run (av := [.int (4 : Int32), .int p0, .int p1, .int (0 : Int32)]) (r := []) (ci := 1) (fs := cF6 C s2) (bM_get (j := 6) rfl) i29_19 rfl rfl rfl (Nat.le_of_ble_eq_true rfl) t3 ?_
  refine gm_ev.aload_n i29_22 rfl ?_
  refine gm_ev.getfield (v := .ref (C + 6)) i29_23 rfl (bM_fld (j := 5) (fs := cF5 C s4) rfl rfl) ?_
  refine gm_ev.iconst (v := 4) i29_26 (by decide) ?_
  refine gm_ev.iload_n i29_27 rfl ?_
  refine gm_ev.iload i29_28 rfl ?_
  refine gm_ev.iconst (v := 0) i29_30 (by decide) ?_
  refine gm_ev.callV gm_mono_run (av := [.int (4 : Int32), .int p2, .int p3, .int (0 : Int32)]) (r := []) (ci := 1) (fs := cF6 C s4) (bM_get (j := 6) rfl) i29_31 rfl rfl rfl (Nat.le_of_ble_eq_true rfl) t5 ?_
  refine gm_ev.aload_n i29_34 rfl ?_
  refine gm_ev.getfield (v := .ref r8) i29_35 rfl (bM_fld (j := 5) (fs := cF5 C s6) rfl (cv_some h7)) ?_
  refine gm_ev.getfield (v := .ref r10) i29_38 rfl (gm_fld_of (cG_get hg_r8 ho9) f11) ?_
  refine gm_ev.iconst (v := 1) i29_41 (by decide) ?_
  refine gm_ev.iaload i29_42 (gm_ai_of (cG_get hg_r10 ha13) ek12 lk12 ba13) ?_
  refine gm_ev.istore (ls' := [some (.ref (C + 5)), some (.int p0), some (.int p1), some (.int p2), some (.int p3), some (.int (fa13 k12))]) i29_43 (Nat.le_of_ble_eq_true rfl) rfl ?_
  refine gm_ev.le (a := [some (.ref (C + 5)), none, none, none, none, some (.int (fa13 k12))]) (gm_leL.le (show gm_leL _ _ from ⟨rfl, ⟨rfl, trivial⟩⟩)) ?_
  exact k
theorem t_X2_byMove_45_tt {N0 : Nat} {K : Nat → Nat} {d C : Nat} {s : cS} {G : gm_H} {sz sl : Nat} {u5 : Int32} {r2 : Nat} {fso3 : List Value} {r4 : Nat} {k6 : Nat} {na7 : Nat} {fa7 : Nat → Int32} (hN : N0 ≤ C) (h1 : s.2.2 101 = some r2) (ho3 : G r2 = some (.inr (4, fso3))) (f5 : fso3[2]? = some (.ref r4)) (hg_r2 : C + 34 ≤ r2) (ek6 : (2 : Int32) = nI k6) (ha7 : G r4 = some (.inl (.int, na7, .inl fa7))) (ba7 : na7 < 2 ^ 31) (hg_r4 : C + 34 ≤ r4) (lk6 : k6 < na7) (c8 : (fa7 k6) ≤ u5) (c9 : ¬ (s.1 130) = 0) : gm_ev N0 K ra_nm (ra_mt K) d (some .boolean) (gm_I cX2_byMove) (gm_lkf (lkX2 false K)) 45 [some (.ref (C + 5)), none, none, none, none, some (.int u5)] [] (bM C (cH C s) G) sz sl (.returned (some (.int (0 : Int32))), (bM C (cH C s) G), sz, sl) := by
  refine gm_ev.iload i29_45 rfl ?_
  refine gm_ev.aload_n i29_47 rfl ?_
  refine gm_ev.getfield (v := .ref r2) i29_48 rfl (bM_fld (j := 5) (fs := cF5 C s) rfl (cv_some h1)) ?_
  refine gm_ev.getfield (v := .ref r4) i29_51 rfl (gm_fld_of (cG_get hg_r2 ho3) f5) ?_
  refine gm_ev.iconst (v := 2) i29_54 (by decide) ?_
  refine gm_ev.iaload i29_55 (gm_ai_of (cG_get hg_r4 ha7) ek6 lk6 ba7) ?_
  refine gm_ev.icmp_ge_t (tgt := 71) i29_56 (by decide) c8 ?_
  refine gm_ev.aload_n i29_71 rfl ?_
  refine gm_ev.getfield (v := .ref (C + 6)) i29_72 rfl (bM_fld (j := 5) (fs := cF5 C s) rfl rfl) ?_
  refine gm_ev.getfield (v := .int (s.1 130)) i29_75 rfl (bM_fld (j := 6) (fs := cF6 C s) rfl rfl) ?_
  refine gm_ev.if_ne_t (tgt := 85) i29_78 (by decide) c9 ?_
  refine gm_ev.iconst (v := 0) i29_85 (by decide) ?_
  exact gm_ev.zret i29_86 rfl (by decide)
theorem t_X2_byMove_45_tf {N0 : Nat} {K : Nat → Nat} {d C : Nat} {s : cS} {G : gm_H} {sz sl : Nat} {u5 : Int32} {r2 : Nat} {fso3 : List Value} {r4 : Nat} {k6 : Nat} {na7 : Nat} {fa7 : Nat → Int32} (hN : N0 ≤ C) (h1 : s.2.2 101 = some r2) (ho3 : G r2 = some (.inr (4, fso3))) (f5 : fso3[2]? = some (.ref r4)) (hg_r2 : C + 34 ≤ r2) (ek6 : (2 : Int32) = nI k6) (ha7 : G r4 = some (.inl (.int, na7, .inl fa7))) (ba7 : na7 < 2 ^ 31) (hg_r4 : C + 34 ≤ r4) (lk6 : k6 < na7) (c8 : (fa7 k6) ≤ u5) (c9 : (s.1 130) = 0) : gm_ev N0 K ra_nm (ra_mt K) d (some .boolean) (gm_I cX2_byMove) (gm_lkf (lkX2 false K)) 45 [some (.ref (C + 5)), none, none, none, none, some (.int u5)] [] (bM C (cH C s) G) sz sl (.returned (some (.int (1 : Int32))), (bM C (cH C s) G), sz, sl) := by
  refine gm_ev.iload i29_45 rfl ?_
  refine gm_ev.aload_n i29_47 rfl ?_
  refine gm_ev.getfield (v := .ref r2) i29_48 rfl (bM_fld (j := 5) (fs := cF5 C s) rfl (cv_some h1)) ?_
  refine gm_ev.getfield (v := .ref r4) i29_51 rfl (gm_fld_of (cG_get hg_r2 ho3) f5) ?_
  refine gm_ev.iconst (v := 2) i29_54 (by decide) ?_
  refine gm_ev.iaload i29_55 (gm_ai_of (cG_get hg_r4 ha7) ek6 lk6 ba7) ?_
  refine gm_ev.icmp_ge_t (tgt := 71) i29_56 (by decide) c8 ?_
  refine gm_ev.aload_n i29_71 rfl ?_
  refine gm_ev.getfield (v := .ref (C + 6)) i29_72 rfl (bM_fld (j := 5) (fs := cF5 C s) rfl rfl) ?_
  refine gm_ev.getfield (v := .int (s.1 130)) i29_75 rfl (bM_fld (j := 6) (fs := cF6 C s) rfl rfl) ?_
  refine gm_ev.if_ne_f i29_78 c9 ?_
  refine gm_ev.iconst (v := 1) i29_81 (by decide) ?_
  refine gm_ev.goto (tgt := 86) i29_82 (by decide) ?_
  exact gm_ev.zret i29_86 rfl (by decide)
theorem t_X2_byMove_45_f_at45 {N0 : Nat} {K : Nat → Nat} {d C : Nat} {s : cS} {G : gm_H} {sz sl : Nat} {R : gm_R} {u5 : Int32} {r2 : Nat} {fso3 : List Value} {r4 : Nat} {k6 : Nat} {na7 : Nat} {fa7 : Nat → Int32} {s10 : cS} (hN : N0 ≤ C) (h1 : s.2.2 101 = some r2) (ho3 : G r2 = some (.inr (4, fso3))) (f5 : fso3[2]? = some (.ref r4)) (hg_r2 : C + 34 ≤ r2) (ek6 : (2 : Int32) = nI k6) (ha7 : G r4 = some (.inl (.int, na7, .inl fa7))) (ba7 : na7 < 2 ^ 31) (hg_r4 : C + 34 ≤ r4) (lk6 : k6 < na7) (c8 : ¬ (fa7 k6) ≤ u5) (t9 : gm_to N0 K ra_nm (ra_mt K) d 30 [.ref (C + 5), .int u5] (bM C (cH C s) G) sz (.returned none, (bM C (cH C s10) G), sz, 0)) (k : gm_ev N0 K ra_nm (ra_mt K) d (some .boolean) (gm_I cX2_byMove) (gm_lkf (lkX2 false K)) 45 [some (.ref (C + 5)), none, none, none, none, some (.int (u5 + (1 : Int32)))] [] (bM C (cH C s10) G) sz sl R) : gm_ev N0 K ra_nm (ra_mt K) d (some .boolean) (gm_I cX2_byMove) (gm_lkf (lkX2 false K)) 45 [some (.ref (C + 5)), none, none, none, none, some (.int u5)] [] (bM C (cH C s) G) sz sl R := by
  refine gm_ev.iload i29_45 rfl ?_
  refine gm_ev.aload_n i29_47 rfl ?_
  refine gm_ev.getfield (v := .ref r2) i29_48 rfl (bM_fld (j := 5) (fs := cF5 C s) rfl (cv_some h1)) ?_
  refine gm_ev.getfield (v := .ref r4) i29_51 rfl (gm_fld_of (cG_get hg_r2 ho3) f5) ?_
  refine gm_ev.iconst (v := 2) i29_54 (by decide) ?_
  refine gm_ev.iaload i29_55 (gm_ai_of (cG_get hg_r4 ha7) ek6 lk6 ba7) ?_
  refine gm_ev.icmp_ge_f i29_56 c8 ?_
  refine gm_ev.aload_n i29_59 rfl ?_
  refine gm_ev.iload i29_60 rfl ?_
  refine gm_ev.callV gm_mono_run (av := [.int u5]) (r := []) (ci := 2) (fs := cF5 C s) (bM_get (j := 5) rfl) i29_62 rfl rfl rfl (Nat.le_of_ble_eq_true rfl) t9 ?_
  refine gm_ev.iinc (v := u5 + (1 : Int32)) (ls' := [some (.ref (C + 5)), none, none, none, none, some (.int (u5 + (1 : Int32)))]) i29_65 rfl (by rfl) rfl ?_
  refine gm_ev.goto (tgt := 45) i29_68 (by decide) ?_
  exact k
theorem t_X2_close_0__at4 {N0 : Nat} {K : Nat → Nat} {d C : Nat} {s : cS} {G : gm_H} {sz sl : Nat} {R : gm_R} {p0 : Int32} (hN : N0 ≤ C)  (k : gm_ev N0 K ra_nm (ra_mt K) d none (gm_I cX2_close) (gm_lkf (lkX2 false K)) 4 [some (.ref (C + 5)), some (.int p0), some (.int (0 : Int32)), some (.int (0 : Int32)), none, none, none, none] [] (bM C (cH C s) G) sz sl R) : gm_ev N0 K ra_nm (ra_mt K) d none (gm_I cX2_close) (gm_lkf (lkX2 false K)) 0 [some (.ref (C + 5)), some (.int p0), none, none, none, none, none, none] [] (bM C (cH C s) G) sz sl R := by
  refine gm_ev.iconst (v := 0) i30_0 (by decide) ?_
  refine gm_ev.istore_n (ls' := [some (.ref (C + 5)), some (.int p0), some (.int (0 : Int32)), none, none, none, none, none]) i30_1 (Nat.le_of_ble_eq_true rfl) rfl ?_
  refine gm_ev.iconst (v := 0) i30_2 (by decide) ?_
  refine gm_ev.istore_n (ls' := [some (.ref (C + 5)), some (.int p0), some (.int (0 : Int32)), some (.int (0 : Int32)), none, none, none, none]) i30_3 (Nat.le_of_ble_eq_true rfl) rfl ?_
  exact k
theorem t_X2_close_4_t {N0 : Nat} {K : Nat → Nat} {d C : Nat} {s : cS} {G : gm_H} {sz sl : Nat} {u1 : Int32} {u2 : Int32} {u3 : Int32} (hN : N0 ≤ C) (c1 : (200 : Int32) < u3) : gm_ev N0 K ra_nm (ra_mt K) d none (gm_I cX2_close) (gm_lkf (lkX2 false K)) 4 [some (.ref (C + 5)), some (.int u1), some (.int u2), some (.int u3), none, none, none, none] [] (bM C (cH C s) G) sz sl (.returned none, (bM C (cH C s) G), sz, sl) := by
  refine gm_ev.iload_n i30_4 rfl ?_
  refine gm_ev.sipush (v := 200) i30_5 (by decide) ?_
  refine gm_ev.icmp_gt_t (tgt := 187) i30_8 (by decide) c1 ?_
  exact gm_ev.vret i30_187 rfl
theorem t_X2_close_4_f_at40 {N0 : Nat} {K : Nat → Nat} {d C : Nat} {s : cS} {G : gm_H} {sz sl : Nat} {R : gm_R} {u1 : Int32} {u2 : Int32} {u3 : Int32} {r3 : Nat} {fso4 : List Value} {r5 : Nat} {k7 : Nat} {na8 : Nat} {fa8 : Nat → Int32} (hN : N0 ≤ C) (c1 : ¬ (200 : Int32) < u3) (h2 : s.2.2 101 = some r3) (ho4 : G r3 = some (.inr (4, fso4))) (f6 : fso4[1]? = some (.ref r5)) (hg_r3 : C + 34 ≤ r3) (ek7 : u1 = nI k7) (ha8 : G r5 = some (.inl (.int, na8, .inl fa8))) (ba8 : na8 < 2 ^ 31) (hg_r5 : C + 34 ≤ r5) (lk7 : k7 < na8) (k : gm_ev N0 K ra_nm (ra_mt K) d none (gm_I cX2_close) (gm_lkf (lkX2 false K)) 40 [some (.ref (C + 5)), some (.int u1), none, some (.int u3), some (.int (fa8 k7)), none, none, none] [] (bM C (cH C (cI (cI s 106 (u2 + (1 : Int32))) 107 (s.1 129))) G) sz sl R) : gm_ev N0 K ra_nm (ra_mt K) d none (gm_I cX2_close) (gm_lkf (lkX2 false K)) 4 [some (.ref (C + 5)), some (.int u1), some (.int u2), some (.int u3), none, none, none, none] [] (bM C (cH C s) G) sz sl R := by
  refine gm_ev.iload_n i30_4 rfl ?_
  refine gm_ev.sipush (v := 200) i30_5 (by decide) ?_
  refine gm_ev.icmp_gt_f i30_8 c1 ?_
  refine gm_ev.aload_n i30_11 rfl ?_
  refine gm_ev.iload_n i30_12 rfl ?_
  refine gm_ev.iconst (v := 1) i30_13 (by decide) ?_
  refine gm_ev.iadd i30_14 ?_
  refine gm_ev.putfield (M' := (bM C (cH C (cI s 106 (u2 + (1 : Int32)))) G)) i30_15 rfl (bM_put (j := 5) (fs := cF5 C s) rfl (Nat.le_of_ble_eq_true rfl) hN (gm_fit_i _) rfl) ?_
  refine gm_ev.aload_n i30_18 rfl ?_
  refine gm_ev.aload_n i30_19 rfl ?_
  refine gm_ev.getfield (v := .ref (C + 6)) i30_20 rfl (bM_fld (j := 5) (fs := cF5 C (cI s 106 (u2 + (1 : Int32)))) rfl rfl) ?_
  refine gm_ev.getfield (v := .int (s.1 129)) i30_23 rfl (bM_fld (j := 6) (fs := cF6 C (cI s 106 (u2 + (1 : Int32)))) rfl rfl) ?_
  refine gm_ev.putfield (M' := (bM C (cH C (cI (cI s 106 (u2 + (1 : Int32))) 107 (s.1 129))) G)) i30_26 rfl (bM_put (j := 5) (fs := cF5 C (cI s 106 (u2 + (1 : Int32)))) rfl (Nat.le_of_ble_eq_true rfl) hN (gm_fit_i _) rfl) ?_
  refine gm_ev.aload_n i30_29 rfl ?_
  refine gm_ev.getfield (v := .ref r3) i30_30 rfl (bM_fld (j := 5) (fs := cF5 C (cI (cI s 106 (u2 + (1 : Int32))) 107 (s.1 129))) rfl (cv_some h2)) ?_
  refine gm_ev.getfield (v := .ref r5) i30_33 rfl (gm_fld_of (cG_get hg_r3 ho4) f6) ?_
  refine gm_ev.iload_n i30_36 rfl ?_
  refine gm_ev.iaload i30_37 (gm_ai_of (cG_get hg_r5 ha8) ek7 lk7 ba8) ?_
  refine gm_ev.istore (ls' := [some (.ref (C + 5)), some (.int u1), some (.int u2), some (.int u3), some (.int (fa8 k7)), none, none, none]) i30_38 (Nat.le_of_ble_eq_true rfl) rfl ?_
  refine gm_ev.le (a := [some (.ref (C + 5)), some (.int u1), none, some (.int u3), some (.int (fa8 k7)), none, none, none]) (gm_leL.le (show gm_leL _ _ from ⟨rfl, ⟨rfl, ⟨rfl, ⟨rfl, trivial⟩⟩⟩⟩)) ?_
  exact k
theorem t_X2_close_40_tt {N0 : Nat} {K : Nat → Nat} {d C : Nat} {s : cS} {G : gm_H} {sz sl : Nat} {u1 : Int32} {u3 : Int32} {u4 : Int32} {r2 : Nat} {fso3 : List Value} {r4 : Nat} {k6 : Nat} {na7 : Nat} {fa7 : Nat → Int32} (hN : N0 ≤ C) (h1 : s.2.2 101 = some r2) (ho3 : G r2 = some (.inr (4, fso3))) (f5 : fso3[1]? = some (.ref r4)) (hg_r2 : C + 34 ≤ r2) (ek6 : (u1 + (1 : Int32)) = nI k6) (ha7 : G r4 = some (.inl (.int, na7, .inl fa7))) (ba7 : na7 < 2 ^ 31) (hg_r4 : C + 34 ≤ r4) (lk6 : k6 < na7) (c8 : (fa7 k6) ≤ u4) (c9 : ¬ (s.1 130) = 0) : gm_ev N0 K ra_nm (ra_mt K) d none (gm_I cX2_close) (gm_lkf (lkX2 false K)) 40 [some (.ref (C + 5)), some (.int u1), none, some (.int u3), some (.int u4), none, none, none] [] (bM C (cH C s) G) sz sl (.returned none, (bM C (cH C s) G), sz, sl) := by
  refine gm_ev.iload i30_40 rfl ?_
  refine gm_ev.aload_n i30_42 rfl ?_
  refine gm_ev.getfield (v := .ref r2) i30_43 rfl (bM_fld (j := 5) (fs := cF5 C s) rfl (cv_some h1)) ?_
  refine gm_ev.getfield (v := .ref r4) i30_46 rfl (gm_fld_of (cG_get hg_r2 ho3) f5) ?_
  refine gm_ev.iload_n i30_49 rfl ?_
  refine gm_ev.iconst (v := 1) i30_50 (by decide) ?_
  refine gm_ev.iadd i30_51 ?_
  refine gm_ev.iaload i30_52 (gm_ai_of (cG_get hg_r4 ha7) ek6 lk6 ba7) ?_
  refine gm_ev.icmp_ge_t (tgt := 140) i30_53 (by decide) c8 ?_
  refine gm_ev.aload_n i30_140 rfl ?_
  refine gm_ev.getfield (v := .ref (C + 6)) i30_141 rfl (bM_fld (j := 5) (fs := cF5 C s) rfl rfl) ?_
  refine gm_ev.getfield (v := .int (s.1 130)) i30_144 rfl (bM_fld (j := 6) (fs := cF6 C s) rfl rfl) ?_
  refine gm_ev.if_ne_t (tgt := 175) i30_147 (by decide) c9 ?_
  exact gm_ev.vret i30_175 rfl
theorem t_X2_close_40_tft {N0 : Nat} {K : Nat → Nat} {d C : Nat} {s : cS} {G : gm_H} {sz sl : Nat} {u1 : Int32} {u3 : Int32} {u4 : Int32} {r2 : Nat} {fso3 : List Value} {r4 : Nat} {k6 : Nat} {na7 : Nat} {fa7 : Nat → Int32} (hN : N0 ≤ C) (h1 : s.2.2 101 = some r2) (ho3 : G r2 = some (.inr (4, fso3))) (f5 : fso3[1]? = some (.ref r4)) (hg_r2 : C + 34 ≤ r2) (ek6 : (u1 + (1 : Int32)) = nI k6) (ha7 : G r4 = some (.inl (.int, na7, .inl fa7))) (ba7 : na7 < 2 ^ 31) (hg_r4 : C + 34 ≤ r4) (lk6 : k6 < na7) (c8 : (fa7 k6) ≤ u4) (c9 : (s.1 130) = 0) (c10 : (s.1 129) = (s.1 107)) : gm_ev N0 K ra_nm (ra_mt K) d none (gm_I cX2_close) (gm_lkf (lkX2 false K)) 40 [some (.ref (C + 5)), some (.int u1), none, some (.int u3), some (.int u4), none, none, none] [] (bM C (cH C s) G) sz sl (.returned none, (bM C (cH C s) G), sz, sl) := by
  refine gm_ev.iload i30_40 rfl ?_
  refine gm_ev.aload_n i30_42 rfl ?_
  refine gm_ev.getfield (v := .ref r2) i30_43 rfl (bM_fld (j := 5) (fs := cF5 C s) rfl (cv_some h1)) ?_
  refine gm_ev.getfield (v := .ref r4) i30_46 rfl (gm_fld_of (cG_get hg_r2 ho3) f5) ?_
  refine gm_ev.iload_n i30_49 rfl ?_
  refine gm_ev.iconst (v := 1) i30_50 (by decide) ?_
  refine gm_ev.iadd i30_51 ?_
  refine gm_ev.iaload i30_52 (gm_ai_of (cG_get hg_r4 ha7) ek6 lk6 ba7) ?_
  refine gm_ev.icmp_ge_t (tgt := 140) i30_53 (by decide) c8 ?_
  refine gm_ev.aload_n i30_140 rfl ?_
  refine gm_ev.getfield (v := .ref (C + 6)) i30_141 rfl (bM_fld (j := 5) (fs := cF5 C s) rfl rfl) ?_
  refine gm_ev.getfield (v := .int (s.1 130)) i30_144 rfl (bM_fld (j := 6) (fs := cF6 C s) rfl rfl) ?_
  refine gm_ev.if_ne_f i30_147 c9 ?_
  refine gm_ev.aload_n i30_150 rfl ?_
  refine gm_ev.getfield (v := .ref (C + 6)) i30_151 rfl (bM_fld (j := 5) (fs := cF5 C s) rfl rfl) ?_
  refine gm_ev.getfield (v := .int (s.1 129)) i30_154 rfl (bM_fld (j := 6) (fs := cF6 C s) rfl rfl) ?_
  refine gm_ev.aload_n i30_157 rfl ?_
  refine gm_ev.getfield (v := .int (s.1 107)) i30_158 rfl (bM_fld (j := 5) (fs := cF5 C s) rfl rfl) ?_
  refine gm_ev.icmp_eq_t (tgt := 175) i30_161 (by decide) c10 ?_
  exact gm_ev.vret i30_175 rfl
theorem t_X2_close_40_tfft_at4 {N0 : Nat} {K : Nat → Nat} {d C : Nat} {s : cS} {G : gm_H} {sz sl : Nat} {R : gm_R} {u1 : Int32} {u3 : Int32} {u4 : Int32} {r2 : Nat} {fso3 : List Value} {r4 : Nat} {k6 : Nat} {na7 : Nat} {fa7 : Nat → Int32} {r11 : Int32} (hN : N0 ≤ C) (h1 : s.2.2 101 = some r2) (ho3 : G r2 = some (.inr (4, fso3))) (f5 : fso3[1]? = some (.ref r4)) (hg_r2 : C + 34 ≤ r2) (ek6 : (u1 + (1 : Int32)) = nI k6) (ha7 : G r4 = some (.inl (.int, na7, .inl fa7))) (ba7 : na7 < 2 ^ 31) (hg_r4 : C + 34 ≤ r4) (lk6 : k6 < na7) (c8 : (fa7 k6) ≤ u4) (c9 : (s.1 130) = 0) (c10 : ¬ (s.1 129) = (s.1 107)) (t12 : gm_to N0 K ra_nm (ra_mt K) d 53 [.ref r2, .int u1] (bM C (cH C s) G) sz (.returned (some (.int r11)), (bM C (cH C s) G), sz, 0)) (c13 : ¬ r11 = 0) (k : gm_ev N0 K ra_nm (ra_mt K) d none (gm_I cX2_close) (gm_lkf (lkX2 false K)) 4 [some (.ref (C + 5)), some (.int u1), some (.int (s.1 107)), some (.int (u3 + (1 : Int32))), none, none, none, none] [] (bM C (cH C s) G) sz sl R) : gm_ev N0 K ra_nm (ra_mt K) d none (gm_I cX2_close) (gm_lkf (lkX2 false K)) 40 [some (.ref (C + 5)), some (.int u1), none, some (.int u3), some (.int u4), none, none, none] [] (bM C (cH C s) G) sz sl R := by
  refine gm_ev.iload i30_40 rfl ?_
  refine gm_ev.aload_n i30_42 rfl ?_
  refine gm_ev.getfield (v := .ref r2) i30_43 rfl (bM_fld (j := 5) (fs := cF5 C s) rfl (cv_some h1)) ?_
  refine gm_ev.getfield (v := .ref r4) i30_46 rfl (gm_fld_of (cG_get hg_r2 ho3) f5) ?_
  refine gm_ev.iload_n i30_49 rfl ?_
  refine gm_ev.iconst (v := 1) i30_50 (by decide) ?_
  refine gm_ev.iadd i30_51 ?_
  refine gm_ev.iaload i30_52 (gm_ai_of (cG_get hg_r4 ha7) ek6 lk6 ba7) ?_
  refine gm_ev.icmp_ge_t (tgt := 140) i30_53 (by decide) c8 ?_
  refine gm_ev.aload_n i30_140 rfl ?_
  refine gm_ev.getfield (v := .ref (C + 6)) i30_141 rfl (bM_fld (j := 5) (fs := cF5 C s) rfl rfl) ?_
  refine gm_ev.getfield (v := .int (s.1 130)) i30_144 rfl (bM_fld (j := 6) (fs := cF6 C s) rfl rfl) ?_
  refine gm_ev.if_ne_f i30_147 c9 ?_
  refine gm_ev.aload_n i30_150 rfl ?_
  refine gm_ev.getfield (v := .ref (C + 6)) i30_151 rfl (bM_fld (j := 5) (fs := cF5 C s) rfl rfl) ?_
  refine gm_ev.getfield (v := .int (s.1 129)) i30_154 rfl (bM_fld (j := 6) (fs := cF6 C s) rfl rfl) ?_
  refine gm_ev.aload_n i30_157 rfl ?_
  refine gm_ev.getfield (v := .int (s.1 107)) i30_158 rfl (bM_fld (j := 5) (fs := cF5 C s) rfl rfl) ?_
  refine gm_ev.icmp_eq_f i30_161 c10 ?_
  refine gm_ev.aload_n i30_164 rfl ?_
  refine gm_ev.getfield (v := .ref r2) i30_165 rfl (bM_fld (j := 5) (fs := cF5 C s) rfl (cv_some h1)) ?_
  refine gm_ev.iload_n i30_168 rfl ?_
  refine gm_ev.callV gm_mono_run (av := [.int u1]) (r := []) (fs := fso3) (cG_get hg_r2 ho3) i30_169 rfl rfl rfl (Nat.le_of_ble_eq_true rfl) t12 ?_
  refine gm_ev.if_ne_t (tgt := 176) i30_172 (by decide) c13 ?_
  refine gm_ev.aload_n i30_176 rfl ?_
  refine gm_ev.getfield (v := .int (s.1 107)) i30_177 rfl (bM_fld (j := 5) (fs := cF5 C s) rfl rfl) ?_
  refine gm_ev.istore_n (ls' := [some (.ref (C + 5)), some (.int u1), some (.int (s.1 107)), some (.int u3), some (.int u4), none, none, none]) i30_180 (Nat.le_of_ble_eq_true rfl) rfl ?_
  refine gm_ev.iinc (v := u3 + (1 : Int32)) (ls' := [some (.ref (C + 5)), some (.int u1), some (.int (s.1 107)), some (.int (u3 + (1 : Int32))), some (.int u4), none, none, none]) i30_181 rfl (by rfl) rfl ?_
  refine gm_ev.goto (tgt := 4) i30_184 (by decide) ?_
  refine gm_ev.le (a := [some (.ref (C + 5)), some (.int u1), some (.int (s.1 107)), some (.int (u3 + (1 : Int32))), none, none, none, none]) (gm_leL.le (show gm_leL _ _ from ⟨rfl, ⟨rfl, ⟨rfl, ⟨rfl, trivial⟩⟩⟩⟩)) ?_
  exact k
theorem t_X2_close_40_tfff {N0 : Nat} {K : Nat → Nat} {d C : Nat} {s : cS} {G : gm_H} {sz sl : Nat} {u1 : Int32} {u3 : Int32} {u4 : Int32} {r2 : Nat} {fso3 : List Value} {r4 : Nat} {k6 : Nat} {na7 : Nat} {fa7 : Nat → Int32} {r11 : Int32} (hN : N0 ≤ C) (h1 : s.2.2 101 = some r2) (ho3 : G r2 = some (.inr (4, fso3))) (f5 : fso3[1]? = some (.ref r4)) (hg_r2 : C + 34 ≤ r2) (ek6 : (u1 + (1 : Int32)) = nI k6) (ha7 : G r4 = some (.inl (.int, na7, .inl fa7))) (ba7 : na7 < 2 ^ 31) (hg_r4 : C + 34 ≤ r4) (lk6 : k6 < na7) (c8 : (fa7 k6) ≤ u4) (c9 : (s.1 130) = 0) (c10 : ¬ (s.1 129) = (s.1 107)) (t12 : gm_to N0 K ra_nm (ra_mt K) d 53 [.ref r2, .int u1] (bM C (cH C s) G) sz (.returned (some (.int r11)), (bM C (cH C s) G), sz, 0)) (c13 : r11 = 0) : gm_ev N0 K ra_nm (ra_mt K) d none (gm_I cX2_close) (gm_lkf (lkX2 false K)) 40 [some (.ref (C + 5)), some (.int u1), none, some (.int u3), some (.int u4), none, none, none] [] (bM C (cH C s) G) sz sl (.returned none, (bM C (cH C s) G), sz, sl) := by
  refine gm_ev.iload i30_40 rfl ?_
  refine gm_ev.aload_n i30_42 rfl ?_
  refine gm_ev.getfield (v := .ref r2) i30_43 rfl (bM_fld (j := 5) (fs := cF5 C s) rfl (cv_some h1)) ?_
  refine gm_ev.getfield (v := .ref r4) i30_46 rfl (gm_fld_of (cG_get hg_r2 ho3) f5) ?_
  refine gm_ev.iload_n i30_49 rfl ?_
  refine gm_ev.iconst (v := 1) i30_50 (by decide) ?_
  refine gm_ev.iadd i30_51 ?_
  refine gm_ev.iaload i30_52 (gm_ai_of (cG_get hg_r4 ha7) ek6 lk6 ba7) ?_
  refine gm_ev.icmp_ge_t (tgt := 140) i30_53 (by decide) c8 ?_
  refine gm_ev.aload_n i30_140 rfl ?_
  refine gm_ev.getfield (v := .ref (C + 6)) i30_141 rfl (bM_fld (j := 5) (fs := cF5 C s) rfl rfl) ?_
  refine gm_ev.getfield (v := .int (s.1 130)) i30_144 rfl (bM_fld (j := 6) (fs := cF6 C s) rfl rfl) ?_
  refine gm_ev.if_ne_f i30_147 c9 ?_
  refine gm_ev.aload_n i30_150 rfl ?_
  refine gm_ev.getfield (v := .ref (C + 6)) i30_151 rfl (bM_fld (j := 5) (fs := cF5 C s) rfl rfl) ?_
  refine gm_ev.getfield (v := .int (s.1 129)) i30_154 rfl (bM_fld (j := 6) (fs := cF6 C s) rfl rfl) ?_
  refine gm_ev.aload_n i30_157 rfl ?_
  refine gm_ev.getfield (v := .int (s.1 107)) i30_158 rfl (bM_fld (j := 5) (fs := cF5 C s) rfl rfl) ?_
  refine gm_ev.icmp_eq_f i30_161 c10 ?_
  refine gm_ev.aload_n i30_164 rfl ?_
  refine gm_ev.getfield (v := .ref r2) i30_165 rfl (bM_fld (j := 5) (fs := cF5 C s) rfl (cv_some h1)) ?_
  refine gm_ev.iload_n i30_168 rfl ?_
  refine gm_ev.callV gm_mono_run (av := [.int u1]) (r := []) (fs := fso3) (cG_get hg_r2 ho3) i30_169 rfl rfl rfl (Nat.le_of_ble_eq_true rfl) t12 ?_
  refine gm_ev.if_ne_f i30_172 c13 ?_
  exact gm_ev.vret i30_175 rfl
theorem t_X2_close_40_ftt_at96 {N0 : Nat} {K : Nat → Nat} {d C : Nat} {s : cS} {G : gm_H} {sz sl : Nat} {R : gm_R} {u1 : Int32} {u3 : Int32} {u4 : Int32} {r2 : Nat} {fso3 : List Value} {r4 : Nat} {k6 : Nat} {na7 : Nat} {fa7 : Nat → Int32} {r9 : Nat} {k11 : Nat} {na12 : Nat} {fa12 : Nat → Option Nat} {r13 : Nat} {fso15 : List Value} {x16 : Int32} (hN : N0 ≤ C) (h1 : s.2.2 101 = some r2) (ho3 : G r2 = some (.inr (4, fso3))) (f5 : fso3[1]? = some (.ref r4)) (hg_r2 : C + 34 ≤ r2) (ek6 : (u1 + (1 : Int32)) = nI k6) (ha7 : G r4 = some (.inl (.int, na7, .inl fa7))) (ba7 : na7 < 2 ^ 31) (hg_r4 : C + 34 ≤ r4) (lk6 : k6 < na7) (c8 : ¬ (fa7 k6) ≤ u4) (f10 : fso3[0]? = some (.ref r9)) (ek11 : u4 = nI k11) (ha12 : G r9 = some (.inl (.object "RuleArena$Rule", na12, .inr (.inr (.inr (.inr fa12)))))) (ba12 : na12 < 2 ^ 31) (hg_r9 : C + 34 ≤ r9) (lk11 : k11 < na12) (qk11 : fa12 k11 = some r13) (c14 : ¬ u3 = 0) (ho15 : G r13 = some (.inr (7, fso15))) (f17 : fso15[2]? = some (.int x16)) (hg_r13 : C + 34 ≤ r13) (c18 : ¬ u3 = 0) (k : gm_ev N0 K ra_nm (ra_mt K) d none (gm_I cX2_close) (gm_lkf (lkX2 false K)) 96 [some (.ref (C + 5)), some (.int u1), none, some (.int u3), some (.int u4), some (.ref r13), some (.int (x16 - (1 : Int32))), some (.int (0 : Int32))] [] (bM C (cH C s) G) sz sl R) : gm_ev N0 K ra_nm (ra_mt K) d none (gm_I cX2_close) (gm_lkf (lkX2 false K)) 40 [some (.ref (C + 5)), some (.int u1), none, some (.int u3), some (.int u4), none, none, none] [] (bM C (cH C s) G) sz sl R := by
  refine gm_ev.iload i30_40 rfl ?_
  refine gm_ev.aload_n i30_42 rfl ?_
  refine gm_ev.getfield (v := .ref r2) i30_43 rfl (bM_fld (j := 5) (fs := cF5 C s) rfl (cv_some h1)) ?_
  refine gm_ev.getfield (v := .ref r4) i30_46 rfl (gm_fld_of (cG_get hg_r2 ho3) f5) ?_
  refine gm_ev.iload_n i30_49 rfl ?_
  refine gm_ev.iconst (v := 1) i30_50 (by decide) ?_
  refine gm_ev.iadd i30_51 ?_
  refine gm_ev.iaload i30_52 (gm_ai_of (cG_get hg_r4 ha7) ek6 lk6 ba7) ?_
  refine gm_ev.icmp_ge_f i30_53 c8 ?_
  refine gm_ev.aload_n i30_56 rfl ?_
  refine gm_ev.getfield (v := .ref r2) i30_57 rfl (bM_fld (j := 5) (fs := cF5 C s) rfl (cv_some h1)) ?_
  refine gm_ev.getfield (v := .ref r9) i30_60 rfl (gm_fld_of (cG_get hg_r2 ho3) f10) ?_
  refine gm_ev.iload i30_63 rfl ?_
  refine gm_ev.aaload (x := some r13) i30_65 (gm_aq_of (cG_get hg_r9 ha12) ek11 lk11 ba12 qk11) ?_
  refine gm_ev.astore (ls' := [some (.ref (C + 5)), some (.int u1), none, some (.int u3), some (.int u4), some (.ref r13), none, none]) i30_66 (Nat.le_of_ble_eq_true rfl) rfl ?_
  refine gm_ev.iload_n i30_68 rfl ?_
  refine gm_ev.if_ne_t (tgt := 76) i30_69 (by decide) c14 ?_
  refine gm_ev.aload i30_76 rfl ?_
  refine gm_ev.getfield (v := .int x16) i30_78 rfl (gm_fld_of (cG_get hg_r13 ho15) f17) ?_
  refine gm_ev.iconst (v := 1) i30_81 (by decide) ?_
  refine gm_ev.isub i30_82 ?_
  refine gm_ev.istore (ls' := [some (.ref (C + 5)), some (.int u1), none, some (.int u3), some (.int u4), some (.ref r13), some (.int (x16 - (1 : Int32))), none]) i30_83 (Nat.le_of_ble_eq_true rfl) rfl ?_
  refine gm_ev.iload_n i30_85 rfl ?_
  refine gm_ev.if_ne_t (tgt := 93) i30_86 (by decide) c18 ?_
  refine gm_ev.iconst (v := 0) i30_93 (by decide) ?_
  refine gm_ev.istore (ls' := [some (.ref (C + 5)), some (.int u1), none, some (.int u3), some (.int u4), some (.ref r13), some (.int (x16 - (1 : Int32))), some (.int (0 : Int32))]) i30_94 (Nat.le_of_ble_eq_true rfl) rfl ?_
  exact k
theorem t_X2_close_40_ftf_at96 {N0 : Nat} {K : Nat → Nat} {d C : Nat} {s : cS} {G : gm_H} {sz sl : Nat} {R : gm_R} {u1 : Int32} {u3 : Int32} {u4 : Int32} {r2 : Nat} {fso3 : List Value} {r4 : Nat} {k6 : Nat} {na7 : Nat} {fa7 : Nat → Int32} {r9 : Nat} {k11 : Nat} {na12 : Nat} {fa12 : Nat → Option Nat} {r13 : Nat} {fso15 : List Value} {x16 : Int32} (hN : N0 ≤ C) (h1 : s.2.2 101 = some r2) (ho3 : G r2 = some (.inr (4, fso3))) (f5 : fso3[1]? = some (.ref r4)) (hg_r2 : C + 34 ≤ r2) (ek6 : (u1 + (1 : Int32)) = nI k6) (ha7 : G r4 = some (.inl (.int, na7, .inl fa7))) (ba7 : na7 < 2 ^ 31) (hg_r4 : C + 34 ≤ r4) (lk6 : k6 < na7) (c8 : ¬ (fa7 k6) ≤ u4) (f10 : fso3[0]? = some (.ref r9)) (ek11 : u4 = nI k11) (ha12 : G r9 = some (.inl (.object "RuleArena$Rule", na12, .inr (.inr (.inr (.inr fa12)))))) (ba12 : na12 < 2 ^ 31) (hg_r9 : C + 34 ≤ r9) (lk11 : k11 < na12) (qk11 : fa12 k11 = some r13) (c14 : ¬ u3 = 0) (ho15 : G r13 = some (.inr (7, fso15))) (f17 : fso15[2]? = some (.int x16)) (hg_r13 : C + 34 ≤ r13) (c18 : u3 = 0) (k : gm_ev N0 K ra_nm (ra_mt K) d none (gm_I cX2_close) (gm_lkf (lkX2 false K)) 96 [some (.ref (C + 5)), some (.int u1), none, some (.int u3), some (.int u4), some (.ref r13), some (.int (x16 - (1 : Int32))), some (.int (-1 : Int32))] [] (bM C (cH C s) G) sz sl R) : gm_ev N0 K ra_nm (ra_mt K) d none (gm_I cX2_close) (gm_lkf (lkX2 false K)) 40 [some (.ref (C + 5)), some (.int u1), none, some (.int u3), some (.int u4), none, none, none] [] (bM C (cH C s) G) sz sl R := by
  refine gm_ev.iload i30_40 rfl ?_
  refine gm_ev.aload_n i30_42 rfl ?_
  refine gm_ev.getfield (v := .ref r2) i30_43 rfl (bM_fld (j := 5) (fs := cF5 C s) rfl (cv_some h1)) ?_
  refine gm_ev.getfield (v := .ref r4) i30_46 rfl (gm_fld_of (cG_get hg_r2 ho3) f5) ?_
  refine gm_ev.iload_n i30_49 rfl ?_
  refine gm_ev.iconst (v := 1) i30_50 (by decide) ?_
  refine gm_ev.iadd i30_51 ?_
  refine gm_ev.iaload i30_52 (gm_ai_of (cG_get hg_r4 ha7) ek6 lk6 ba7) ?_
  refine gm_ev.icmp_ge_f i30_53 c8 ?_
  refine gm_ev.aload_n i30_56 rfl ?_
  refine gm_ev.getfield (v := .ref r2) i30_57 rfl (bM_fld (j := 5) (fs := cF5 C s) rfl (cv_some h1)) ?_
  refine gm_ev.getfield (v := .ref r9) i30_60 rfl (gm_fld_of (cG_get hg_r2 ho3) f10) ?_
  refine gm_ev.iload i30_63 rfl ?_
  refine gm_ev.aaload (x := some r13) i30_65 (gm_aq_of (cG_get hg_r9 ha12) ek11 lk11 ba12 qk11) ?_
  refine gm_ev.astore (ls' := [some (.ref (C + 5)), some (.int u1), none, some (.int u3), some (.int u4), some (.ref r13), none, none]) i30_66 (Nat.le_of_ble_eq_true rfl) rfl ?_
  refine gm_ev.iload_n i30_68 rfl ?_
  refine gm_ev.if_ne_t (tgt := 76) i30_69 (by decide) c14 ?_
  refine gm_ev.aload i30_76 rfl ?_
  refine gm_ev.getfield (v := .int x16) i30_78 rfl (gm_fld_of (cG_get hg_r13 ho15) f17) ?_
  refine gm_ev.iconst (v := 1) i30_81 (by decide) ?_
  refine gm_ev.isub i30_82 ?_
  refine gm_ev.istore (ls' := [some (.ref (C + 5)), some (.int u1), none, some (.int u3), some (.int u4), some (.ref r13), some (.int (x16 - (1 : Int32))), none]) i30_83 (Nat.le_of_ble_eq_true rfl) rfl ?_
  refine gm_ev.iload_n i30_85 rfl ?_
  refine gm_ev.if_ne_f i30_86 c18 ?_
  refine gm_ev.iconst (v := -1) i30_89 (by decide) ?_
  refine gm_ev.goto (tgt := 94) i30_90 (by decide) ?_
  refine gm_ev.istore (ls' := [some (.ref (C + 5)), some (.int u1), none, some (.int u3), some (.int u4), some (.ref r13), some (.int (x16 - (1 : Int32))), some (.int (-1 : Int32))]) i30_94 (Nat.le_of_ble_eq_true rfl) rfl ?_
  exact k
theorem t_X2_close_40_fft_at96 {N0 : Nat} {K : Nat → Nat} {d C : Nat} {s : cS} {G : gm_H} {sz sl : Nat} {R : gm_R} {u1 : Int32} {u3 : Int32} {u4 : Int32} {r2 : Nat} {fso3 : List Value} {r4 : Nat} {k6 : Nat} {na7 : Nat} {fa7 : Nat → Int32} {r9 : Nat} {k11 : Nat} {na12 : Nat} {fa12 : Nat → Option Nat} {r13 : Nat} (hN : N0 ≤ C) (h1 : s.2.2 101 = some r2) (ho3 : G r2 = some (.inr (4, fso3))) (f5 : fso3[1]? = some (.ref r4)) (hg_r2 : C + 34 ≤ r2) (ek6 : (u1 + (1 : Int32)) = nI k6) (ha7 : G r4 = some (.inl (.int, na7, .inl fa7))) (ba7 : na7 < 2 ^ 31) (hg_r4 : C + 34 ≤ r4) (lk6 : k6 < na7) (c8 : ¬ (fa7 k6) ≤ u4) (f10 : fso3[0]? = some (.ref r9)) (ek11 : u4 = nI k11) (ha12 : G r9 = some (.inl (.object "RuleArena$Rule", na12, .inr (.inr (.inr (.inr fa12)))))) (ba12 : na12 < 2 ^ 31) (hg_r9 : C + 34 ≤ r9) (lk11 : k11 < na12) (qk11 : fa12 k11 = some r13) (c14 : u3 = 0) (c15 : ¬ u3 = 0) (k : gm_ev N0 K ra_nm (ra_mt K) d none (gm_I cX2_close) (gm_lkf (lkX2 false K)) 96 [some (.ref (C + 5)), some (.int u1), none, some (.int u3), some (.int u4), some (.ref r13), some (.int (-1 : Int32)), some (.int (0 : Int32))] [] (bM C (cH C s) G) sz sl R) : gm_ev N0 K ra_nm (ra_mt K) d none (gm_I cX2_close) (gm_lkf (lkX2 false K)) 40 [some (.ref (C + 5)), some (.int u1), none, some (.int u3), some (.int u4), none, none, none] [] (bM C (cH C s) G) sz sl R := by
  refine gm_ev.iload i30_40 rfl ?_
  refine gm_ev.aload_n i30_42 rfl ?_
  refine gm_ev.getfield (v := .ref r2) i30_43 rfl (bM_fld (j := 5) (fs := cF5 C s) rfl (cv_some h1)) ?_
  refine gm_ev.getfield (v := .ref r4) i30_46 rfl (gm_fld_of (cG_get hg_r2 ho3) f5) ?_
  refine gm_ev.iload_n i30_49 rfl ?_
  refine gm_ev.iconst (v := 1) i30_50 (by decide) ?_
  refine gm_ev.iadd i30_51 ?_
  refine gm_ev.iaload i30_52 (gm_ai_of (cG_get hg_r4 ha7) ek6 lk6 ba7) ?_
  refine gm_ev.icmp_ge_f i30_53 c8 ?_
  refine gm_ev.aload_n i30_56 rfl ?_
  refine gm_ev.getfield (v := .ref r2) i30_57 rfl (bM_fld (j := 5) (fs := cF5 C s) rfl (cv_some h1)) ?_
  refine gm_ev.getfield (v := .ref r9) i30_60 rfl (gm_fld_of (cG_get hg_r2 ho3) f10) ?_
  refine gm_ev.iload i30_63 rfl ?_
  refine gm_ev.aaload (x := some r13) i30_65 (gm_aq_of (cG_get hg_r9 ha12) ek11 lk11 ba12 qk11) ?_
  refine gm_ev.astore (ls' := [some (.ref (C + 5)), some (.int u1), none, some (.int u3), some (.int u4), some (.ref r13), none, none]) i30_66 (Nat.le_of_ble_eq_true rfl) rfl ?_
  refine gm_ev.iload_n i30_68 rfl ?_
  refine gm_ev.if_ne_f i30_69 c14 ?_
  refine gm_ev.iconst (v := -1) i30_72 (by decide) ?_
  refine gm_ev.goto (tgt := 83) i30_73 (by decide) ?_
  refine gm_ev.istore (ls' := [some (.ref (C + 5)), some (.int u1), none, some (.int u3), some (.int u4), some (.ref r13), some (.int (-1 : Int32)), none]) i30_83 (Nat.le_of_ble_eq_true rfl) rfl ?_
  refine gm_ev.iload_n i30_85 rfl ?_
  refine gm_ev.if_ne_t (tgt := 93) i30_86 (by decide) c15 ?_
  refine gm_ev.iconst (v := 0) i30_93 (by decide) ?_
  refine gm_ev.istore (ls' := [some (.ref (C + 5)), some (.int u1), none, some (.int u3), some (.int u4), some (.ref r13), some (.int (-1 : Int32)), some (.int (0 : Int32))]) i30_94 (Nat.le_of_ble_eq_true rfl) rfl ?_
  exact k
theorem t_X2_close_40_fff_at96 {N0 : Nat} {K : Nat → Nat} {d C : Nat} {s : cS} {G : gm_H} {sz sl : Nat} {R : gm_R} {u1 : Int32} {u3 : Int32} {u4 : Int32} {r2 : Nat} {fso3 : List Value} {r4 : Nat} {k6 : Nat} {na7 : Nat} {fa7 : Nat → Int32} {r9 : Nat} {k11 : Nat} {na12 : Nat} {fa12 : Nat → Option Nat} {r13 : Nat} (hN : N0 ≤ C) (h1 : s.2.2 101 = some r2) (ho3 : G r2 = some (.inr (4, fso3))) (f5 : fso3[1]? = some (.ref r4)) (hg_r2 : C + 34 ≤ r2) (ek6 : (u1 + (1 : Int32)) = nI k6) (ha7 : G r4 = some (.inl (.int, na7, .inl fa7))) (ba7 : na7 < 2 ^ 31) (hg_r4 : C + 34 ≤ r4) (lk6 : k6 < na7) (c8 : ¬ (fa7 k6) ≤ u4) (f10 : fso3[0]? = some (.ref r9)) (ek11 : u4 = nI k11) (ha12 : G r9 = some (.inl (.object "RuleArena$Rule", na12, .inr (.inr (.inr (.inr fa12)))))) (ba12 : na12 < 2 ^ 31) (hg_r9 : C + 34 ≤ r9) (lk11 : k11 < na12) (qk11 : fa12 k11 = some r13) (c14 : u3 = 0) (c15 : u3 = 0) (k : gm_ev N0 K ra_nm (ra_mt K) d none (gm_I cX2_close) (gm_lkf (lkX2 false K)) 96 [some (.ref (C + 5)), some (.int u1), none, some (.int u3), some (.int u4), some (.ref r13), some (.int (-1 : Int32)), some (.int (-1 : Int32))] [] (bM C (cH C s) G) sz sl R) : gm_ev N0 K ra_nm (ra_mt K) d none (gm_I cX2_close) (gm_lkf (lkX2 false K)) 40 [some (.ref (C + 5)), some (.int u1), none, some (.int u3), some (.int u4), none, none, none] [] (bM C (cH C s) G) sz sl R := by
  refine gm_ev.iload i30_40 rfl ?_
  refine gm_ev.aload_n i30_42 rfl ?_
  refine gm_ev.getfield (v := .ref r2) i30_43 rfl (bM_fld (j := 5) (fs := cF5 C s) rfl (cv_some h1)) ?_
  refine gm_ev.getfield (v := .ref r4) i30_46 rfl (gm_fld_of (cG_get hg_r2 ho3) f5) ?_
  refine gm_ev.iload_n i30_49 rfl ?_
  refine gm_ev.iconst (v := 1) i30_50 (by decide) ?_
  refine gm_ev.iadd i30_51 ?_
  refine gm_ev.iaload i30_52 (gm_ai_of (cG_get hg_r4 ha7) ek6 lk6 ba7) ?_
  refine gm_ev.icmp_ge_f i30_53 c8 ?_
  refine gm_ev.aload_n i30_56 rfl ?_
  refine gm_ev.getfield (v := .ref r2) i30_57 rfl (bM_fld (j := 5) (fs := cF5 C s) rfl (cv_some h1)) ?_
  refine gm_ev.getfield (v := .ref r9) i30_60 rfl (gm_fld_of (cG_get hg_r2 ho3) f10) ?_
  refine gm_ev.iload i30_63 rfl ?_
  refine gm_ev.aaload (x := some r13) i30_65 (gm_aq_of (cG_get hg_r9 ha12) ek11 lk11 ba12 qk11) ?_
  refine gm_ev.astore (ls' := [some (.ref (C + 5)), some (.int u1), none, some (.int u3), some (.int u4), some (.ref r13), none, none]) i30_66 (Nat.le_of_ble_eq_true rfl) rfl ?_
  refine gm_ev.iload_n i30_68 rfl ?_
  refine gm_ev.if_ne_f i30_69 c14 ?_
  refine gm_ev.iconst (v := -1) i30_72 (by decide) ?_
  refine gm_ev.goto (tgt := 83) i30_73 (by decide) ?_
  refine gm_ev.istore (ls' := [some (.ref (C + 5)), some (.int u1), none, some (.int u3), some (.int u4), some (.ref r13), some (.int (-1 : Int32)), none]) i30_83 (Nat.le_of_ble_eq_true rfl) rfl ?_
  refine gm_ev.iload_n i30_85 rfl ?_
  refine gm_ev.if_ne_f i30_86 c15 ?_
  refine gm_ev.iconst (v := -1) i30_89 (by decide) ?_
  refine gm_ev.goto (tgt := 94) i30_90 (by decide) ?_
  refine gm_ev.istore (ls' := [some (.ref (C + 5)), some (.int u1), none, some (.int u3), some (.int u4), some (.ref r13), some (.int (-1 : Int32)), some (.int (-1 : Int32))]) i30_94 (Nat.le_of_ble_eq_true rfl) rfl ?_
  exact k
theorem t_X2_close_96_t_at40 {N0 : Nat} {K : Nat → Nat} {d C : Nat} {s : cS} {G : gm_H} {sz sl : Nat} {R : gm_R} {u1 : Int32} {u3 : Int32} {u4 : Int32} {a5 : Nat} {u6 : Int32} {u7 : Int32} (hN : N0 ≤ C) (c1 : u6 < u7) (k : gm_ev N0 K ra_nm (ra_mt K) d none (gm_I cX2_close) (gm_lkf (lkX2 false K)) 40 [some (.ref (C + 5)), some (.int u1), none, some (.int u3), some (.int (u4 + (1 : Int32))), none, none, none] [] (bM C (cH C s) G) sz sl R) : gm_ev N0 K ra_nm (ra_mt K) d none (gm_I cX2_close) (gm_lkf (lkX2 false K)) 96 [some (.ref (C + 5)), some (.int u1), none, some (.int u3), some (.int u4), some (.ref a5), some (.int u6), some (.int u7)] [] (bM C (cH C s) G) sz sl R := by
  refine gm_ev.iload i30_96 rfl ?_
  refine gm_ev.iload i30_98 rfl ?_
  refine gm_ev.icmp_gt_t (tgt := 134) i30_100 (by decide) c1 ?_
  refine gm_ev.iinc (v := u4 + (1 : Int32)) (ls' := [some (.ref (C + 5)), some (.int u1), none, some (.int u3), some (.int (u4 + (1 : Int32))), some (.ref a5), some (.int u6), some (.int u7)]) i30_134 rfl (by rfl) rfl ?_
  refine gm_ev.goto (tgt := 40) i30_137 (by decide) ?_
  refine gm_ev.le (a := [some (.ref (C + 5)), some (.int u1), none, some (.int u3), some (.int (u4 + (1 : Int32))), none, none, none]) (gm_leL.le (show gm_leL _ _ from ⟨rfl, ⟨rfl, ⟨rfl, ⟨rfl, trivial⟩⟩⟩⟩)) ?_
  exact k
theorem t_X2_close_96_ft_at96 {N0 : Nat} {K : Nat → Nat} {d C : Nat} {s : cS} {G : gm_H} {sz sl : Nat} {R : gm_R} {u1 : Int32} {u3 : Int32} {u4 : Int32} {a5 : Nat} {u6 : Int32} {u7 : Int32} {r2 : Int32} {s4 : cS} (hN : N0 ≤ C) (c1 : ¬ u6 < u7) (t3 : gm_to N0 K ra_nm (ra_mt K) d 31 [.ref (C + 5), .ref a5, .int u7] (bM C (cH C s) G) sz (.returned (some (.int r2)), (bM C (cH C s4) G), sz, 0)) (c5 : r2 = 0) (k : gm_ev N0 K ra_nm (ra_mt K) d none (gm_I cX2_close) (gm_lkf (lkX2 false K)) 96 [some (.ref (C + 5)), some (.int u1), none, some (.int u3), some (.int u4), some (.ref a5), some (.int u6), some (.int (u7 + (1 : Int32)))] [] (bM C (cH C s4) G) sz sl R) : gm_ev N0 K ra_nm (ra_mt K) d none (gm_I cX2_close) (gm_lkf (lkX2 false K)) 96 [some (.ref (C + 5)), some (.int u1), none, some (.int u3), some (.int u4), some (.ref a5), some (.int u6), some (.int u7)] [] (bM C (cH C s) G) sz sl R := by
  refine gm_ev.iload i30_96 rfl ?_
  refine gm_ev.iload i30_98 rfl ?_
  refine gm_ev.icmp_gt_f i30_100 c1 ?_
  refine gm_ev.aload_n i30_103 rfl ?_
  refine gm_ev.aload i30_104 rfl ?_
  refine gm_ev.iload i30_106 rfl ?_
  refine gm_ev.callV gm_mono_run (av := [.ref a5, .int u7]) (r := []) (ci := 2) (fs := cF5 C s) (bM_get (j := 5) rfl) i30_108 rfl rfl rfl (Nat.le_of_ble_eq_true rfl) t3 ?_
  refine gm_ev.if_eq_t (tgt := 128) i30_111 (by decide) c5 ?_
  refine gm_ev.iinc (v := u7 + (1 : Int32)) (ls' := [some (.ref (C + 5)), some (.int u1), none, some (.int u3), some (.int u4), some (.ref a5), some (.int u6), some (.int (u7 + (1 : Int32)))]) i30_128 rfl (by rfl) rfl ?_
  refine gm_ev.goto (tgt := 96) i30_131 (by decide) ?_
  exact k
theorem t_X2_close_96_ff_at96 {N0 : Nat} {K : Nat → Nat} {d C : Nat} {s : cS} {G : gm_H} {sz sl : Nat} {R : gm_R} {u1 : Int32} {u3 : Int32} {u4 : Int32} {a5 : Nat} {u6 : Int32} {u7 : Int32} {r2 : Int32} {s4 : cS} {r6 : Int32} {s8 : cS} (hN : N0 ≤ C) (c1 : ¬ u6 < u7) (t3 : gm_to N0 K ra_nm (ra_mt K) d 31 [.ref (C + 5), .ref a5, .int u7] (bM C (cH C s) G) sz (.returned (some (.int r2)), (bM C (cH C s4) G), sz, 0)) (c5 : ¬ r2 = 0) (t7 : gm_to N0 K ra_nm (ra_mt K) d 32 [.ref (C + 5), .ref a5, .int (0 : Int32)] (bM C (cH C (cI s4 105 u7)) G) sz (.returned (some (.int r6)), (bM C (cH C s8) G), sz, 0)) (k : gm_ev N0 K ra_nm (ra_mt K) d none (gm_I cX2_close) (gm_lkf (lkX2 false K)) 96 [some (.ref (C + 5)), some (.int u1), none, some (.int u3), some (.int u4), some (.ref a5), some (.int u6), some (.int (u7 + (1 : Int32)))] [] (bM C (cH C s8) G) sz sl R) : gm_ev N0 K ra_nm (ra_mt K) d none (gm_I cX2_close) (gm_lkf (lkX2 false K)) 96 [some (.ref (C + 5)), some (.int u1), none, some (.int u3), some (.int u4), some (.ref a5), some (.int u6), some (.int u7)] [] (bM C (cH C s) G) sz sl R := by
  refine gm_ev.iload i30_96 rfl ?_
  refine gm_ev.iload i30_98 rfl ?_
  refine gm_ev.icmp_gt_f i30_100 c1 ?_
  refine gm_ev.aload_n i30_103 rfl ?_
  refine gm_ev.aload i30_104 rfl ?_
  refine gm_ev.iload i30_106 rfl ?_
  refine gm_ev.callV gm_mono_run (av := [.ref a5, .int u7]) (r := []) (ci := 2) (fs := cF5 C s) (bM_get (j := 5) rfl) i30_108 rfl rfl rfl (Nat.le_of_ble_eq_true rfl) t3 ?_
  refine gm_ev.if_eq_f i30_111 c5 ?_
  refine gm_ev.aload_n i30_114 rfl ?_
  refine gm_ev.iload i30_115 rfl ?_
  refine gm_ev.putfield (M' := (bM C (cH C (cI s4 105 u7)) G)) i30_117 rfl (bM_put (j := 5) (fs := cF5 C s4) rfl (Nat.le_of_ble_eq_true rfl) hN (gm_fit_i _) rfl) ?_
  refine gm_ev.aload_n i30_120 rfl ?_
  refine gm_ev.aload i30_121 rfl ?_
  refine gm_ev.iconst (v := 0) i30_123 (by decide) ?_
  refine gm_ev.callV gm_mono_run (av := [.ref a5, .int (0 : Int32)]) (r := []) (ci := 2) (fs := cF5 C (cI s4 105 u7)) (bM_get (j := 5) rfl) i30_124 rfl rfl rfl (Nat.le_of_ble_eq_true rfl) t7 ?_
  refine gm_ev.pop i30_127 rfl ?_
  refine gm_ev.iinc (v := u7 + (1 : Int32)) (ls' := [some (.ref (C + 5)), some (.int u1), none, some (.int u3), some (.int u4), some (.ref a5), some (.int u6), some (.int (u7 + (1 : Int32)))]) i30_128 rfl (by rfl) rfl ?_
  refine gm_ev.goto (tgt := 96) i30_131 (by decide) ?_
  exact k
theorem t_X2_isDue_0_tt_at57 {N0 : Nat} {K : Nat → Nat} {d C : Nat} {s : cS} {G : gm_H} {sz sl : Nat} {R : gm_R} {p0 : Nat} {p1 : Int32} (hN : N0 ≤ C) (c1 : (s.1 130) = 0) (c2 : p1 = (-1 : Int32)) (k : gm_ev N0 K ra_nm (ra_mt K) d (some .boolean) (gm_I cX2_isDue) (gm_lkf (lkX2 false K)) 57 [some (.ref (C + 5)), some (.ref p0), none, some (.long (1 : Int64)), none, some (.int (0 : Int32))] [] (bM C (cH C s) G) sz sl R) : gm_ev N0 K ra_nm (ra_mt K) d (some .boolean) (gm_I cX2_isDue) (gm_lkf (lkX2 false K)) 0 [some (.ref (C + 5)), some (.ref p0), some (.int p1), none, none, none] [] (bM C (cH C s) G) sz sl R := by
  refine gm_ev.aload_n i31_0 rfl ?_
  refine gm_ev.getfield (v := .ref (C + 6)) i31_1 rfl (bM_fld (j := 5) (fs := cF5 C s) rfl rfl) ?_
  refine gm_ev.getfield (v := .int (s.1 130)) i31_4 rfl (bM_fld (j := 6) (fs := cF6 C s) rfl rfl) ?_
  refine gm_ev.if_eq_t (tgt := 12) i31_7 (by decide) c1 ?_
  refine gm_ev.iload_n i31_12 rfl ?_
  refine gm_ev.iconst (v := -1) i31_13 (by decide) ?_
  refine gm_ev.icmp_eq_t (tgt := 52) i31_14 (by decide) c2 ?_
  refine gm_ev.lconst (v := 1) i31_52 (by decide) ?_
  refine gm_ev.lstore_n (ls' := [some (.ref (C + 5)), some (.ref p0), some (.int p1), some (.long (1 : Int64)), none, none]) i31_53 (Nat.le_of_ble_eq_true rfl) rfl ?_
  refine gm_ev.iconst (v := 0) i31_54 (by decide) ?_
  refine gm_ev.istore (ls' := [some (.ref (C + 5)), some (.ref p0), some (.int p1), some (.long (1 : Int64)), none, some (.int (0 : Int32))]) i31_55 (Nat.le_of_ble_eq_true rfl) rfl ?_
  refine gm_ev.le (a := [some (.ref (C + 5)), some (.ref p0), none, some (.long (1 : Int64)), none, some (.int (0 : Int32))]) (gm_leL.le (show gm_leL _ _ from ⟨rfl, ⟨rfl, ⟨rfl, ⟨rfl, trivial⟩⟩⟩⟩)) ?_
  exact k
theorem t_X2_isDue_0_tft {N0 : Nat} {K : Nat → Nat} {d C : Nat} {s : cS} {G : gm_H} {sz sl : Nat} {p0 : Nat} {p1 : Int32} {fso3 : List Value} {r4 : Nat} {k6 : Nat} {na7 : Nat} {fa7 : Nat → Option Nat} {r8 : Nat} {fso9 : List Value} {x10 : Int32} (hN : N0 ≤ C) (c1 : (s.1 130) = 0) (c2 : ¬ p1 = (-1 : Int32)) (ho3 : G p0 = some (.inr (7, fso3))) (f5 : fso3[1]? = some (.ref r4)) (hg_p0 : C + 34 ≤ p0) (ek6 : p1 = nI k6) (ha7 : G r4 = some (.inl (.object "RuleArena$Literal", na7, .inr (.inr (.inr (.inr fa7)))))) (ba7 : na7 < 2 ^ 31) (hg_r4 : C + 34 ≤ r4) (lk6 : k6 < na7) (qk6 : fa7 k6 = some r8) (ho9 : G r8 = some (.inr (5, fso9))) (f11 : fso9[0]? = some (.int x10)) (hg_r8 : C + 34 ≤ r8) (c12 : ¬ x10 = 0) : gm_ev N0 K ra_nm (ra_mt K) d (some .boolean) (gm_I cX2_isDue) (gm_lkf (lkX2 false K)) 0 [some (.ref (C + 5)), some (.ref p0), some (.int p1), none, none, none] [] (bM C (cH C s) G) sz sl (.returned (some (.int (0 : Int32))), (bM C (cH C s) G), sz, sl) := by
  refine gm_ev.aload_n i31_0 rfl ?_
  refine gm_ev.getfield (v := .ref (C + 6)) i31_1 rfl (bM_fld (j := 5) (fs := cF5 C s) rfl rfl) ?_
  refine gm_ev.getfield (v := .int (s.1 130)) i31_4 rfl (bM_fld (j := 6) (fs := cF6 C s) rfl rfl) ?_
  refine gm_ev.if_eq_t (tgt := 12) i31_7 (by decide) c1 ?_
  refine gm_ev.iload_n i31_12 rfl ?_
  refine gm_ev.iconst (v := -1) i31_13 (by decide) ?_
  refine gm_ev.icmp_eq_f i31_14 c2 ?_
  refine gm_ev.aload_n i31_17 rfl ?_
  refine gm_ev.getfield (v := .ref r4) i31_18 rfl (gm_fld_of (cG_get hg_p0 ho3) f5) ?_
  refine gm_ev.iload_n i31_21 rfl ?_
  refine gm_ev.aaload (x := some r8) i31_22 (gm_aq_of (cG_get hg_r4 ha7) ek6 lk6 ba7 qk6) ?_
  refine gm_ev.astore_n (ls' := [some (.ref (C + 5)), some (.ref p0), some (.int p1), some (.ref r8), none, none]) i31_23 (Nat.le_of_ble_eq_true rfl) rfl ?_
  refine gm_ev.aload_n i31_24 rfl ?_
  refine gm_ev.getfield (v := .int x10) i31_25 rfl (gm_fld_of (cG_get hg_r8 ho9) f11) ?_
  refine gm_ev.if_ne_t (tgt := 50) i31_28 (by decide) c12 ?_
  refine gm_ev.iconst (v := 0) i31_50 (by decide) ?_
  exact gm_ev.zret i31_51 rfl (by decide)
theorem t_X2_isDue_0_tfft_at57 {N0 : Nat} {K : Nat → Nat} {d C : Nat} {s : cS} {G : gm_H} {sz sl : Nat} {R : gm_R} {p0 : Nat} {p1 : Int32} {fso3 : List Value} {r4 : Nat} {k6 : Nat} {na7 : Nat} {fa7 : Nat → Option Nat} {r8 : Nat} {fso9 : List Value} {x10 : Int32} {x13 : Int32} {k15 : Nat} (hN : N0 ≤ C) (c1 : (s.1 130) = 0) (c2 : ¬ p1 = (-1 : Int32)) (ho3 : G p0 = some (.inr (7, fso3))) (f5 : fso3[1]? = some (.ref r4)) (hg_p0 : C + 34 ≤ p0) (ek6 : p1 = nI k6) (ha7 : G r4 = some (.inl (.object "RuleArena$Literal", na7, .inr (.inr (.inr (.inr fa7)))))) (ba7 : na7 < 2 ^ 31) (hg_r4 : C + 34 ≤ r4) (lk6 : k6 < na7) (qk6 : fa7 k6 = some r8) (ho9 : G r8 = some (.inr (5, fso9))) (f11 : fso9[0]? = some (.int x10)) (hg_r8 : C + 34 ≤ r8) (c12 : x10 = 0) (f14 : fso9[1]? = some (.int x13)) (ek15 : x13 = nI k15) (lk15 : k15 < 112) (c16 : (s.1 106) ≤ (s.2.1 12 k15)) (k : gm_ev N0 K ra_nm (ra_mt K) d (some .boolean) (gm_I cX2_isDue) (gm_lkf (lkX2 false K)) 57 [some (.ref (C + 5)), some (.ref p0), none, some (.long (1 : Int64)), none, some (.int (0 : Int32))] [] (bM C (cH C s) G) sz sl R) : gm_ev N0 K ra_nm (ra_mt K) d (some .boolean) (gm_I cX2_isDue) (gm_lkf (lkX2 false K)) 0 [some (.ref (C + 5)), some (.ref p0), some (.int p1), none, none, none] [] (bM C (cH C s) G) sz sl R := by
  refine gm_ev.aload_n i31_0 rfl ?_
  refine gm_ev.getfield (v := .ref (C + 6)) i31_1 rfl (bM_fld (j := 5) (fs := cF5 C s) rfl rfl) ?_
  refine gm_ev.getfield (v := .int (s.1 130)) i31_4 rfl (bM_fld (j := 6) (fs := cF6 C s) rfl rfl) ?_
  refine gm_ev.if_eq_t (tgt := 12) i31_7 (by decide) c1 ?_
  refine gm_ev.iload_n i31_12 rfl ?_
  refine gm_ev.iconst (v := -1) i31_13 (by decide) ?_
  refine gm_ev.icmp_eq_f i31_14 c2 ?_
  refine gm_ev.aload_n i31_17 rfl ?_
  refine gm_ev.getfield (v := .ref r4) i31_18 rfl (gm_fld_of (cG_get hg_p0 ho3) f5) ?_
  refine gm_ev.iload_n i31_21 rfl ?_
  refine gm_ev.aaload (x := some r8) i31_22 (gm_aq_of (cG_get hg_r4 ha7) ek6 lk6 ba7 qk6) ?_
  refine gm_ev.astore_n (ls' := [some (.ref (C + 5)), some (.ref p0), some (.int p1), some (.ref r8), none, none]) i31_23 (Nat.le_of_ble_eq_true rfl) rfl ?_
  refine gm_ev.aload_n i31_24 rfl ?_
  refine gm_ev.getfield (v := .int x10) i31_25 rfl (gm_fld_of (cG_get hg_r8 ho9) f11) ?_
  refine gm_ev.if_ne_f i31_28 c12 ?_
  refine gm_ev.aload_n i31_31 rfl ?_
  refine gm_ev.getfield (v := .ref (C + 6)) i31_32 rfl (bM_fld (j := 5) (fs := cF5 C s) rfl rfl) ?_
  refine gm_ev.getfield (v := .ref (C + 12)) i31_35 rfl (bM_fld (j := 6) (fs := cF6 C s) rfl rfl) ?_
  refine gm_ev.aload_n i31_38 rfl ?_
  refine gm_ev.getfield (v := .int x13) i31_39 rfl (gm_fld_of (cG_get hg_r8 ho9) f14) ?_
  refine gm_ev.iaload i31_42 (bM_ai (j := 12) (n := 112) (f := s.2.1 12) rfl ek15 lk15 (by decide)) ?_
  refine gm_ev.aload_n i31_43 rfl ?_
  refine gm_ev.getfield (v := .int (s.1 106)) i31_44 rfl (bM_fld (j := 5) (fs := cF5 C s) rfl rfl) ?_
  refine gm_ev.icmp_ge_t (tgt := 52) i31_47 (by decide) c16 ?_
  refine gm_ev.lconst (v := 1) i31_52 (by decide) ?_
  refine gm_ev.lstore_n (ls' := [some (.ref (C + 5)), some (.ref p0), some (.int p1), some (.long (1 : Int64)), none, none]) i31_53 (Nat.le_of_ble_eq_true rfl) rfl ?_
  refine gm_ev.iconst (v := 0) i31_54 (by decide) ?_
  refine gm_ev.istore (ls' := [some (.ref (C + 5)), some (.ref p0), some (.int p1), some (.long (1 : Int64)), none, some (.int (0 : Int32))]) i31_55 (Nat.le_of_ble_eq_true rfl) rfl ?_
  refine gm_ev.le (a := [some (.ref (C + 5)), some (.ref p0), none, some (.long (1 : Int64)), none, some (.int (0 : Int32))]) (gm_leL.le (show gm_leL _ _ from ⟨rfl, ⟨rfl, ⟨rfl, ⟨rfl, trivial⟩⟩⟩⟩)) ?_
  exact k
theorem t_X2_isDue_0_tfff {N0 : Nat} {K : Nat → Nat} {d C : Nat} {s : cS} {G : gm_H} {sz sl : Nat} {p0 : Nat} {p1 : Int32} {fso3 : List Value} {r4 : Nat} {k6 : Nat} {na7 : Nat} {fa7 : Nat → Option Nat} {r8 : Nat} {fso9 : List Value} {x10 : Int32} {x13 : Int32} {k15 : Nat} (hN : N0 ≤ C) (c1 : (s.1 130) = 0) (c2 : ¬ p1 = (-1 : Int32)) (ho3 : G p0 = some (.inr (7, fso3))) (f5 : fso3[1]? = some (.ref r4)) (hg_p0 : C + 34 ≤ p0) (ek6 : p1 = nI k6) (ha7 : G r4 = some (.inl (.object "RuleArena$Literal", na7, .inr (.inr (.inr (.inr fa7)))))) (ba7 : na7 < 2 ^ 31) (hg_r4 : C + 34 ≤ r4) (lk6 : k6 < na7) (qk6 : fa7 k6 = some r8) (ho9 : G r8 = some (.inr (5, fso9))) (f11 : fso9[0]? = some (.int x10)) (hg_r8 : C + 34 ≤ r8) (c12 : x10 = 0) (f14 : fso9[1]? = some (.int x13)) (ek15 : x13 = nI k15) (lk15 : k15 < 112) (c16 : ¬ (s.1 106) ≤ (s.2.1 12 k15)) : gm_ev N0 K ra_nm (ra_mt K) d (some .boolean) (gm_I cX2_isDue) (gm_lkf (lkX2 false K)) 0 [some (.ref (C + 5)), some (.ref p0), some (.int p1), none, none, none] [] (bM C (cH C s) G) sz sl (.returned (some (.int (0 : Int32))), (bM C (cH C s) G), sz, sl) := by
  refine gm_ev.aload_n i31_0 rfl ?_
  refine gm_ev.getfield (v := .ref (C + 6)) i31_1 rfl (bM_fld (j := 5) (fs := cF5 C s) rfl rfl) ?_
  refine gm_ev.getfield (v := .int (s.1 130)) i31_4 rfl (bM_fld (j := 6) (fs := cF6 C s) rfl rfl) ?_
  refine gm_ev.if_eq_t (tgt := 12) i31_7 (by decide) c1 ?_
  refine gm_ev.iload_n i31_12 rfl ?_
  refine gm_ev.iconst (v := -1) i31_13 (by decide) ?_
  refine gm_ev.icmp_eq_f i31_14 c2 ?_
  refine gm_ev.aload_n i31_17 rfl ?_
  refine gm_ev.getfield (v := .ref r4) i31_18 rfl (gm_fld_of (cG_get hg_p0 ho3) f5) ?_
  refine gm_ev.iload_n i31_21 rfl ?_
  refine gm_ev.aaload (x := some r8) i31_22 (gm_aq_of (cG_get hg_r4 ha7) ek6 lk6 ba7 qk6) ?_
  refine gm_ev.astore_n (ls' := [some (.ref (C + 5)), some (.ref p0), some (.int p1), some (.ref r8), none, none]) i31_23 (Nat.le_of_ble_eq_true rfl) rfl ?_
  refine gm_ev.aload_n i31_24 rfl ?_
  refine gm_ev.getfield (v := .int x10) i31_25 rfl (gm_fld_of (cG_get hg_r8 ho9) f11) ?_
  refine gm_ev.if_ne_f i31_28 c12 ?_
  refine gm_ev.aload_n i31_31 rfl ?_
  refine gm_ev.getfield (v := .ref (C + 6)) i31_32 rfl (bM_fld (j := 5) (fs := cF5 C s) rfl rfl) ?_
  refine gm_ev.getfield (v := .ref (C + 12)) i31_35 rfl (bM_fld (j := 6) (fs := cF6 C s) rfl rfl) ?_
  refine gm_ev.aload_n i31_38 rfl ?_
  refine gm_ev.getfield (v := .int x13) i31_39 rfl (gm_fld_of (cG_get hg_r8 ho9) f14) ?_
  refine gm_ev.iaload i31_42 (bM_ai (j := 12) (n := 112) (f := s.2.1 12) rfl ek15 lk15 (by decide)) ?_
  refine gm_ev.aload_n i31_43 rfl ?_
  refine gm_ev.getfield (v := .int (s.1 106)) i31_44 rfl (bM_fld (j := 5) (fs := cF5 C s) rfl rfl) ?_
  refine gm_ev.icmp_ge_f i31_47 c16 ?_
  refine gm_ev.iconst (v := 0) i31_50 (by decide) ?_
  exact gm_ev.zret i31_51 rfl (by decide)
theorem t_X2_isDue_0_f {N0 : Nat} {K : Nat → Nat} {d C : Nat} {s : cS} {G : gm_H} {sz sl : Nat} {p0 : Nat} {p1 : Int32} (hN : N0 ≤ C) (c1 : ¬ (s.1 130) = 0) : gm_ev N0 K ra_nm (ra_mt K) d (some .boolean) (gm_I cX2_isDue) (gm_lkf (lkX2 false K)) 0 [some (.ref (C + 5)), some (.ref p0), some (.int p1), none, none, none] [] (bM C (cH C s) G) sz sl (.returned (some (.int (0 : Int32))), (bM C (cH C s) G), sz, sl) := by
  refine gm_ev.aload_n i31_0 rfl ?_
  refine gm_ev.getfield (v := .ref (C + 6)) i31_1 rfl (bM_fld (j := 5) (fs := cF5 C s) rfl rfl) ?_
  refine gm_ev.getfield (v := .int (s.1 130)) i31_4 rfl (bM_fld (j := 6) (fs := cF6 C s) rfl rfl) ?_
  refine gm_ev.if_eq_f i31_7 c1 ?_
  refine gm_ev.iconst (v := 0) i31_10 (by decide) ?_
  exact gm_ev.zret i31_11 rfl (by decide)
theorem t_X2_isDue_57_ttt {N0 : Nat} {K : Nat → Nat} {d C : Nat} {s : cS} {G : gm_H} {sz sl : Nat} {p0 : Nat} {y3 : Int64} {u5 : Int32} {fso1 : List Value} {x2 : Int32} (hN : N0 ≤ C) (ho1 : G p0 = some (.inr (7, fso1))) (f3 : fso1[2]? = some (.int x2)) (hg_p0 : C + 34 ≤ p0) (c4 : x2 ≤ u5) (c5 : (lg_cmp y3 (100000 : Int64)) ≤ 0) (c6 : (lg_cmp y3 (0 : Int64)) ≤ 0) : gm_ev N0 K ra_nm (ra_mt K) d (some .boolean) (gm_I cX2_isDue) (gm_lkf (lkX2 false K)) 57 [some (.ref (C + 5)), some (.ref p0), none, some (.long y3), none, some (.int u5)] [] (bM C (cH C s) G) sz sl (.returned (some (.int (0 : Int32))), (bM C (cH C (cI s 130 (0 : Int32))) G), sz, sl) := by
  refine gm_ev.iload i31_57 rfl ?_
  refine gm_ev.aload_n i31_59 rfl ?_
  refine gm_ev.getfield (v := .int x2) i31_60 rfl (gm_fld_of (cG_get hg_p0 ho1) f3) ?_
  refine gm_ev.icmp_ge_t (tgt := 107) i31_63 (by decide) c4 ?_
  refine gm_ev.aload_n i31_107 rfl ?_
  refine gm_ev.getfield (v := .ref (C + 6)) i31_108 rfl (bM_fld (j := 5) (fs := cF5 C s) rfl rfl) ?_
  refine gm_ev.lload_n i31_111 rfl ?_
  refine gm_ev.ldc2 i31_112 rfl ?_
  refine gm_ev.lcmp i31_115 ?_
  refine gm_ev.if_le_t (tgt := 123) i31_116 (by decide) c5 ?_
  refine gm_ev.iconst (v := 0) i31_123 (by decide) ?_
  refine gm_ev.putfield (M' := (bM C (cH C (cI s 130 (0 : Int32))) G)) i31_124 rfl (bM_put (j := 6) (fs := cF6 C s) rfl (Nat.le_of_ble_eq_true rfl) hN (gm_fit_z (by decide)) rfl) ?_
  refine gm_ev.lload_n i31_127 rfl ?_
  refine gm_ev.lconst (v := 0) i31_128 (by decide) ?_
  refine gm_ev.lcmp i31_129 ?_
  refine gm_ev.if_le_t (tgt := 147) i31_130 (by decide) c6 ?_
  refine gm_ev.iconst (v := 0) i31_147 (by decide) ?_
  exact gm_ev.zret i31_148 rfl (by decide)
theorem t_X2_isDue_57_ttft {N0 : Nat} {K : Nat → Nat} {d C : Nat} {s : cS} {G : gm_H} {sz sl : Nat} {p0 : Nat} {y3 : Int64} {u5 : Int32} {fso1 : List Value} {x2 : Int32} (hN : N0 ≤ C) (ho1 : G p0 = some (.inr (7, fso1))) (f3 : fso1[2]? = some (.int x2)) (hg_p0 : C + 34 ≤ p0) (c4 : x2 ≤ u5) (c5 : (lg_cmp y3 (100000 : Int64)) ≤ 0) (c6 : ¬ (lg_cmp y3 (0 : Int64)) ≤ 0) (c7 : ¬ (0 : Int32) = 0) : gm_ev N0 K ra_nm (ra_mt K) d (some .boolean) (gm_I cX2_isDue) (gm_lkf (lkX2 false K)) 57 [some (.ref (C + 5)), some (.ref p0), none, some (.long y3), none, some (.int u5)] [] (bM C (cH C s) G) sz sl (.returned (some (.int (0 : Int32))), (bM C (cH C (cI s 130 (0 : Int32))) G), sz, sl) := by
  refine gm_ev.iload i31_57 rfl ?_
  refine gm_ev.aload_n i31_59 rfl ?_
  refine gm_ev.getfield (v := .int x2) i31_60 rfl (gm_fld_of (cG_get hg_p0 ho1) f3) ?_
  refine gm_ev.icmp_ge_t (tgt := 107) i31_63 (by decide) c4 ?_
  refine gm_ev.aload_n i31_107 rfl ?_
  refine gm_ev.getfield (v := .ref (C + 6)) i31_108 rfl (bM_fld (j := 5) (fs := cF5 C s) rfl rfl) ?_
  refine gm_ev.lload_n i31_111 rfl ?_
  refine gm_ev.ldc2 i31_112 rfl ?_
  refine gm_ev.lcmp i31_115 ?_
  refine gm_ev.if_le_t (tgt := 123) i31_116 (by decide) c5 ?_
  refine gm_ev.iconst (v := 0) i31_123 (by decide) ?_
  refine gm_ev.putfield (M' := (bM C (cH C (cI s 130 (0 : Int32))) G)) i31_124 rfl (bM_put (j := 6) (fs := cF6 C s) rfl (Nat.le_of_ble_eq_true rfl) hN (gm_fit_z (by decide)) rfl) ?_
  refine gm_ev.lload_n i31_127 rfl ?_
  refine gm_ev.lconst (v := 0) i31_128 (by decide) ?_
  refine gm_ev.lcmp i31_129 ?_
  refine gm_ev.if_le_f i31_130 c6 ?_
  refine gm_ev.aload_n i31_133 rfl ?_
  refine gm_ev.getfield (v := .ref (C + 6)) i31_134 rfl (bM_fld (j := 5) (fs := cF5 C (cI s 130 (0 : Int32))) rfl rfl) ?_
  refine gm_ev.getfield (v := .int (0 : Int32)) i31_137 rfl (bM_fld (j := 6) (fs := cF6 C (cI s 130 (0 : Int32))) rfl rfl) ?_
  refine gm_ev.if_ne_t (tgt := 147) i31_140 (by decide) c7 ?_
  refine gm_ev.iconst (v := 0) i31_147 (by decide) ?_
  exact gm_ev.zret i31_148 rfl (by decide)
theorem t_X2_isDue_57_ttff {N0 : Nat} {K : Nat → Nat} {d C : Nat} {s : cS} {G : gm_H} {sz sl : Nat} {p0 : Nat} {y3 : Int64} {u5 : Int32} {fso1 : List Value} {x2 : Int32} (hN : N0 ≤ C) (ho1 : G p0 = some (.inr (7, fso1))) (f3 : fso1[2]? = some (.int x2)) (hg_p0 : C + 34 ≤ p0) (c4 : x2 ≤ u5) (c5 : (lg_cmp y3 (100000 : Int64)) ≤ 0) (c6 : ¬ (lg_cmp y3 (0 : Int64)) ≤ 0) (c7 : (0 : Int32) = 0) : gm_ev N0 K ra_nm (ra_mt K) d (some .boolean) (gm_I cX2_isDue) (gm_lkf (lkX2 false K)) 57 [some (.ref (C + 5)), some (.ref p0), none, some (.long y3), none, some (.int u5)] [] (bM C (cH C s) G) sz sl (.returned (some (.int (1 : Int32))), (bM C (cH C (cI s 130 (0 : Int32))) G), sz, sl) := by
  refine gm_ev.iload i31_57 rfl ?_
  refine gm_ev.aload_n i31_59 rfl ?_
  refine gm_ev.getfield (v := .int x2) i31_60 rfl (gm_fld_of (cG_get hg_p0 ho1) f3) ?_
  refine gm_ev.icmp_ge_t (tgt := 107) i31_63 (by decide) c4 ?_
  refine gm_ev.aload_n i31_107 rfl ?_
  refine gm_ev.getfield (v := .ref (C + 6)) i31_108 rfl (bM_fld (j := 5) (fs := cF5 C s) rfl rfl) ?_
  refine gm_ev.lload_n i31_111 rfl ?_
  refine gm_ev.ldc2 i31_112 rfl ?_
  refine gm_ev.lcmp i31_115 ?_
  refine gm_ev.if_le_t (tgt := 123) i31_116 (by decide) c5 ?_
  refine gm_ev.iconst (v := 0) i31_123 (by decide) ?_
  refine gm_ev.putfield (M' := (bM C (cH C (cI s 130 (0 : Int32))) G)) i31_124 rfl (bM_put (j := 6) (fs := cF6 C s) rfl (Nat.le_of_ble_eq_true rfl) hN (gm_fit_z (by decide)) rfl) ?_
  refine gm_ev.lload_n i31_127 rfl ?_
  refine gm_ev.lconst (v := 0) i31_128 (by decide) ?_
  refine gm_ev.lcmp i31_129 ?_
  refine gm_ev.if_le_f i31_130 c6 ?_
  refine gm_ev.aload_n i31_133 rfl ?_
  refine gm_ev.getfield (v := .ref (C + 6)) i31_134 rfl (bM_fld (j := 5) (fs := cF5 C (cI s 130 (0 : Int32))) rfl rfl) ?_
  refine gm_ev.getfield (v := .int (0 : Int32)) i31_137 rfl (bM_fld (j := 6) (fs := cF6 C (cI s 130 (0 : Int32))) rfl rfl) ?_
  refine gm_ev.if_ne_f i31_140 c7 ?_
  refine gm_ev.iconst (v := 1) i31_143 (by decide) ?_
  refine gm_ev.goto (tgt := 148) i31_144 (by decide) ?_
  exact gm_ev.zret i31_148 rfl (by decide)
theorem t_X2_isDue_57_tft {N0 : Nat} {K : Nat → Nat} {d C : Nat} {s : cS} {G : gm_H} {sz sl : Nat} {p0 : Nat} {y3 : Int64} {u5 : Int32} {fso1 : List Value} {x2 : Int32} (hN : N0 ≤ C) (ho1 : G p0 = some (.inr (7, fso1))) (f3 : fso1[2]? = some (.int x2)) (hg_p0 : C + 34 ≤ p0) (c4 : x2 ≤ u5) (c5 : ¬ (lg_cmp y3 (100000 : Int64)) ≤ 0) (c6 : (lg_cmp y3 (0 : Int64)) ≤ 0) : gm_ev N0 K ra_nm (ra_mt K) d (some .boolean) (gm_I cX2_isDue) (gm_lkf (lkX2 false K)) 57 [some (.ref (C + 5)), some (.ref p0), none, some (.long y3), none, some (.int u5)] [] (bM C (cH C s) G) sz sl (.returned (some (.int (0 : Int32))), (bM C (cH C (cI s 130 (1 : Int32))) G), sz, sl) := by
  refine gm_ev.iload i31_57 rfl ?_
  refine gm_ev.aload_n i31_59 rfl ?_
  refine gm_ev.getfield (v := .int x2) i31_60 rfl (gm_fld_of (cG_get hg_p0 ho1) f3) ?_
  refine gm_ev.icmp_ge_t (tgt := 107) i31_63 (by decide) c4 ?_
  refine gm_ev.aload_n i31_107 rfl ?_
  refine gm_ev.getfield (v := .ref (C + 6)) i31_108 rfl (bM_fld (j := 5) (fs := cF5 C s) rfl rfl) ?_
  refine gm_ev.lload_n i31_111 rfl ?_
  refine gm_ev.ldc2 i31_112 rfl ?_
  refine gm_ev.lcmp i31_115 ?_
  refine gm_ev.if_le_f i31_116 c5 ?_
  refine gm_ev.iconst (v := 1) i31_119 (by decide) ?_
  refine gm_ev.goto (tgt := 124) i31_120 (by decide) ?_
  refine gm_ev.putfield (M' := (bM C (cH C (cI s 130 (1 : Int32))) G)) i31_124 rfl (bM_put (j := 6) (fs := cF6 C s) rfl (Nat.le_of_ble_eq_true rfl) hN (gm_fit_z (by decide)) rfl) ?_
  refine gm_ev.lload_n i31_127 rfl ?_
  refine gm_ev.lconst (v := 0) i31_128 (by decide) ?_
  refine gm_ev.lcmp i31_129 ?_
  refine gm_ev.if_le_t (tgt := 147) i31_130 (by decide) c6 ?_
  refine gm_ev.iconst (v := 0) i31_147 (by decide) ?_
  exact gm_ev.zret i31_148 rfl (by decide)
theorem t_X2_isDue_57_tfft {N0 : Nat} {K : Nat → Nat} {d C : Nat} {s : cS} {G : gm_H} {sz sl : Nat} {p0 : Nat} {y3 : Int64} {u5 : Int32} {fso1 : List Value} {x2 : Int32} (hN : N0 ≤ C) (ho1 : G p0 = some (.inr (7, fso1))) (f3 : fso1[2]? = some (.int x2)) (hg_p0 : C + 34 ≤ p0) (c4 : x2 ≤ u5) (c5 : ¬ (lg_cmp y3 (100000 : Int64)) ≤ 0) (c6 : ¬ (lg_cmp y3 (0 : Int64)) ≤ 0) (c7 : ¬ (1 : Int32) = 0) : gm_ev N0 K ra_nm (ra_mt K) d (some .boolean) (gm_I cX2_isDue) (gm_lkf (lkX2 false K)) 57 [some (.ref (C + 5)), some (.ref p0), none, some (.long y3), none, some (.int u5)] [] (bM C (cH C s) G) sz sl (.returned (some (.int (0 : Int32))), (bM C (cH C (cI s 130 (1 : Int32))) G), sz, sl) := by
  refine gm_ev.iload i31_57 rfl ?_
  refine gm_ev.aload_n i31_59 rfl ?_
  refine gm_ev.getfield (v := .int x2) i31_60 rfl (gm_fld_of (cG_get hg_p0 ho1) f3) ?_
  refine gm_ev.icmp_ge_t (tgt := 107) i31_63 (by decide) c4 ?_
  refine gm_ev.aload_n i31_107 rfl ?_
  refine gm_ev.getfield (v := .ref (C + 6)) i31_108 rfl (bM_fld (j := 5) (fs := cF5 C s) rfl rfl) ?_
  refine gm_ev.lload_n i31_111 rfl ?_
  refine gm_ev.ldc2 i31_112 rfl ?_
  refine gm_ev.lcmp i31_115 ?_
  refine gm_ev.if_le_f i31_116 c5 ?_
  refine gm_ev.iconst (v := 1) i31_119 (by decide) ?_
  refine gm_ev.goto (tgt := 124) i31_120 (by decide) ?_
  refine gm_ev.putfield (M' := (bM C (cH C (cI s 130 (1 : Int32))) G)) i31_124 rfl (bM_put (j := 6) (fs := cF6 C s) rfl (Nat.le_of_ble_eq_true rfl) hN (gm_fit_z (by decide)) rfl) ?_
  refine gm_ev.lload_n i31_127 rfl ?_
  refine gm_ev.lconst (v := 0) i31_128 (by decide) ?_
  refine gm_ev.lcmp i31_129 ?_
  refine gm_ev.if_le_f i31_130 c6 ?_
  refine gm_ev.aload_n i31_133 rfl ?_
  refine gm_ev.getfield (v := .ref (C + 6)) i31_134 rfl (bM_fld (j := 5) (fs := cF5 C (cI s 130 (1 : Int32))) rfl rfl) ?_
  refine gm_ev.getfield (v := .int (1 : Int32)) i31_137 rfl (bM_fld (j := 6) (fs := cF6 C (cI s 130 (1 : Int32))) rfl rfl) ?_
  refine gm_ev.if_ne_t (tgt := 147) i31_140 (by decide) c7 ?_
  refine gm_ev.iconst (v := 0) i31_147 (by decide) ?_
  exact gm_ev.zret i31_148 rfl (by decide)
theorem t_X2_isDue_57_tfff {N0 : Nat} {K : Nat → Nat} {d C : Nat} {s : cS} {G : gm_H} {sz sl : Nat} {p0 : Nat} {y3 : Int64} {u5 : Int32} {fso1 : List Value} {x2 : Int32} (hN : N0 ≤ C) (ho1 : G p0 = some (.inr (7, fso1))) (f3 : fso1[2]? = some (.int x2)) (hg_p0 : C + 34 ≤ p0) (c4 : x2 ≤ u5) (c5 : ¬ (lg_cmp y3 (100000 : Int64)) ≤ 0) (c6 : ¬ (lg_cmp y3 (0 : Int64)) ≤ 0) (c7 : (1 : Int32) = 0) : gm_ev N0 K ra_nm (ra_mt K) d (some .boolean) (gm_I cX2_isDue) (gm_lkf (lkX2 false K)) 57 [some (.ref (C + 5)), some (.ref p0), none, some (.long y3), none, some (.int u5)] [] (bM C (cH C s) G) sz sl (.returned (some (.int (1 : Int32))), (bM C (cH C (cI s 130 (1 : Int32))) G), sz, sl) := by
  refine gm_ev.iload i31_57 rfl ?_
  refine gm_ev.aload_n i31_59 rfl ?_
  refine gm_ev.getfield (v := .int x2) i31_60 rfl (gm_fld_of (cG_get hg_p0 ho1) f3) ?_
  refine gm_ev.icmp_ge_t (tgt := 107) i31_63 (by decide) c4 ?_
  refine gm_ev.aload_n i31_107 rfl ?_
  refine gm_ev.getfield (v := .ref (C + 6)) i31_108 rfl (bM_fld (j := 5) (fs := cF5 C s) rfl rfl) ?_
  refine gm_ev.lload_n i31_111 rfl ?_
  refine gm_ev.ldc2 i31_112 rfl ?_
  refine gm_ev.lcmp i31_115 ?_
  refine gm_ev.if_le_f i31_116 c5 ?_
  refine gm_ev.iconst (v := 1) i31_119 (by decide) ?_
  refine gm_ev.goto (tgt := 124) i31_120 (by decide) ?_
  refine gm_ev.putfield (M' := (bM C (cH C (cI s 130 (1 : Int32))) G)) i31_124 rfl (bM_put (j := 6) (fs := cF6 C s) rfl (Nat.le_of_ble_eq_true rfl) hN (gm_fit_z (by decide)) rfl) ?_
  refine gm_ev.lload_n i31_127 rfl ?_
  refine gm_ev.lconst (v := 0) i31_128 (by decide) ?_
  refine gm_ev.lcmp i31_129 ?_
  refine gm_ev.if_le_f i31_130 c6 ?_
  refine gm_ev.aload_n i31_133 rfl ?_
  refine gm_ev.getfield (v := .ref (C + 6)) i31_134 rfl (bM_fld (j := 5) (fs := cF5 C (cI s 130 (1 : Int32))) rfl rfl) ?_
  refine gm_ev.getfield (v := .int (1 : Int32)) i31_137 rfl (bM_fld (j := 6) (fs := cF6 C (cI s 130 (1 : Int32))) rfl rfl) ?_
  refine gm_ev.if_ne_f i31_140 c7 ?_
  refine gm_ev.iconst (v := 1) i31_143 (by decide) ?_
  refine gm_ev.goto (tgt := 148) i31_144 (by decide) ?_
  exact gm_ev.zret i31_148 rfl (by decide)
theorem t_X2_isDue_57_ft_at57 {N0 : Nat} {K : Nat → Nat} {d C : Nat} {s : cS} {G : gm_H} {sz sl : Nat} {R : gm_R} {p0 : Nat} {y3 : Int64} {u5 : Int32} {fso1 : List Value} {x2 : Int32} {r5 : Nat} {k7 : Nat} {na8 : Nat} {fa8 : Nat → Option Nat} {r9 : Nat} {fso10 : List Value} {x11 : Int32} (hN : N0 ≤ C) (ho1 : G p0 = some (.inr (7, fso1))) (f3 : fso1[2]? = some (.int x2)) (hg_p0 : C + 34 ≤ p0) (c4 : ¬ x2 ≤ u5) (f6 : fso1[1]? = some (.ref r5)) (ek7 : u5 = nI k7) (ha8 : G r5 = some (.inl (.object "RuleArena$Literal", na8, .inr (.inr (.inr (.inr fa8)))))) (ba8 : na8 < 2 ^ 31) (hg_r5 : C + 34 ≤ r5) (lk7 : k7 < na8) (qk7 : fa8 k7 = some r9) (ho10 : G r9 = some (.inr (5, fso10))) (f12 : fso10[0]? = some (.int x11)) (hg_r9 : C + 34 ≤ r9) (c13 : ¬ x11 = 0) (k : gm_ev N0 K ra_nm (ra_mt K) d (some .boolean) (gm_I cX2_isDue) (gm_lkf (lkX2 false K)) 57 [some (.ref (C + 5)), some (.ref p0), none, some (.long y3), none, some (.int (u5 + (1 : Int32)))] [] (bM C (cH C s) G) sz sl R) : gm_ev N0 K ra_nm (ra_mt K) d (some .boolean) (gm_I cX2_isDue) (gm_lkf (lkX2 false K)) 57 [some (.ref (C + 5)), some (.ref p0), none, some (.long y3), none, some (.int u5)] [] (bM C (cH C s) G) sz sl R := by
  refine gm_ev.iload i31_57 rfl ?_
  refine gm_ev.aload_n i31_59 rfl ?_
  refine gm_ev.getfield (v := .int x2) i31_60 rfl (gm_fld_of (cG_get hg_p0 ho1) f3) ?_
  refine gm_ev.icmp_ge_f i31_63 c4 ?_
  refine gm_ev.aload_n i31_66 rfl ?_
  refine gm_ev.getfield (v := .ref r5) i31_67 rfl (gm_fld_of (cG_get hg_p0 ho1) f6) ?_
  refine gm_ev.iload i31_70 rfl ?_
  refine gm_ev.aaload (x := some r9) i31_72 (gm_aq_of (cG_get hg_r5 ha8) ek7 lk7 ba8 qk7) ?_
  refine gm_ev.getfield (v := .int x11) i31_73 rfl (gm_fld_of (cG_get hg_r9 ho10) f12) ?_
  refine gm_ev.if_ne_t (tgt := 101) i31_76 (by decide) c13 ?_
  refine gm_ev.iinc (v := u5 + (1 : Int32)) (ls' := [some (.ref (C + 5)), some (.ref p0), none, some (.long y3), none, some (.int (u5 + (1 : Int32)))]) i31_101 rfl (by rfl) rfl ?_
  refine gm_ev.goto (tgt := 57) i31_104 (by decide) ?_
  exact k
theorem t_X2_isDue_57_ff_at57 {N0 : Nat} {K : Nat → Nat} {d C : Nat} {s : cS} {G : gm_H} {sz sl : Nat} {R : gm_R} {p0 : Nat} {y3 : Int64} {u5 : Int32} {fso1 : List Value} {x2 : Int32} {r5 : Nat} {k7 : Nat} {na8 : Nat} {fa8 : Nat → Option Nat} {r9 : Nat} {fso10 : List Value} {x11 : Int32} {k14 : Nat} {r15 : Nat} {fso16 : List Value} {x17 : Int32} {k19 : Nat} (hN : N0 ≤ C) (ho1 : G p0 = some (.inr (7, fso1))) (f3 : fso1[2]? = some (.int x2)) (hg_p0 : C + 34 ≤ p0) (c4 : ¬ x2 ≤ u5) (f6 : fso1[1]? = some (.ref r5)) (ek7 : u5 = nI k7) (ha8 : G r5 = some (.inl (.object "RuleArena$Literal", na8, .inr (.inr (.inr (.inr fa8)))))) (ba8 : na8 < 2 ^ 31) (hg_r5 : C + 34 ≤ r5) (lk7 : k7 < na8) (qk7 : fa8 k7 = some r9) (ho10 : G r9 = some (.inr (5, fso10))) (f12 : fso10[0]? = some (.int x11)) (hg_r9 : C + 34 ≤ r9) (c13 : x11 = 0) (ek14 : u5 = nI k14) (lk14 : k14 < na8) (qk14 : fa8 k14 = some r15) (ho16 : G r15 = some (.inr (5, fso16))) (f18 : fso16[1]? = some (.int x17)) (hg_r15 : C + 34 ≤ r15) (ek19 : x17 = nI k19) (lk19 : k19 < 112) (k : gm_ev N0 K ra_nm (ra_mt K) d (some .boolean) (gm_I cX2_isDue) (gm_lkf (lkX2 false K)) 57 [some (.ref (C + 5)), some (.ref p0), none, some (.long (y3 * ((s.2.1 13 k19).toInt64))), none, some (.int (u5 + (1 : Int32)))] [] (bM C (cH C s) G) sz sl R) : gm_ev N0 K ra_nm (ra_mt K) d (some .boolean) (gm_I cX2_isDue) (gm_lkf (lkX2 false K)) 57 [some (.ref (C + 5)), some (.ref p0), none, some (.long y3), none, some (.int u5)] [] (bM C (cH C s) G) sz sl R := by
  refine gm_ev.iload i31_57 rfl ?_
  refine gm_ev.aload_n i31_59 rfl ?_
  refine gm_ev.getfield (v := .int x2) i31_60 rfl (gm_fld_of (cG_get hg_p0 ho1) f3) ?_
  refine gm_ev.icmp_ge_f i31_63 c4 ?_
  refine gm_ev.aload_n i31_66 rfl ?_
  refine gm_ev.getfield (v := .ref r5) i31_67 rfl (gm_fld_of (cG_get hg_p0 ho1) f6) ?_
  refine gm_ev.iload i31_70 rfl ?_
  refine gm_ev.aaload (x := some r9) i31_72 (gm_aq_of (cG_get hg_r5 ha8) ek7 lk7 ba8 qk7) ?_
  refine gm_ev.getfield (v := .int x11) i31_73 rfl (gm_fld_of (cG_get hg_r9 ho10) f12) ?_
  refine gm_ev.if_ne_f i31_76 c13 ?_
  refine gm_ev.lload_n i31_79 rfl ?_
  refine gm_ev.aload_n i31_80 rfl ?_
  refine gm_ev.getfield (v := .ref (C + 6)) i31_81 rfl (bM_fld (j := 5) (fs := cF5 C s) rfl rfl) ?_
  refine gm_ev.getfield (v := .ref (C + 13)) i31_84 rfl (bM_fld (j := 6) (fs := cF6 C s) rfl rfl) ?_
  refine gm_ev.aload_n i31_87 rfl ?_
  refine gm_ev.getfield (v := .ref r5) i31_88 rfl (gm_fld_of (cG_get hg_p0 ho1) f6) ?_
  refine gm_ev.iload i31_91 rfl ?_
  refine gm_ev.aaload (x := some r15) i31_93 (gm_aq_of (cG_get hg_r5 ha8) ek14 lk14 ba8 qk14) ?_
  refine gm_ev.getfield (v := .int x17) i31_94 rfl (gm_fld_of (cG_get hg_r15 ho16) f18) ?_
  refine gm_ev.iaload i31_97 (bM_ai (j := 13) (n := 112) (f := s.2.1 13) rfl ek19 lk19 (by decide)) ?_
  refine gm_ev.i2l i31_98 ?_
  refine gm_ev.lmul i31_99 ?_
  refine gm_ev.lstore_n (ls' := [some (.ref (C + 5)), some (.ref p0), none, some (.long (y3 * ((s.2.1 13 k19).toInt64))), none, some (.int u5)]) i31_100 (Nat.le_of_ble_eq_true rfl) rfl ?_
  refine gm_ev.iinc (v := u5 + (1 : Int32)) (ls' := [some (.ref (C + 5)), some (.ref p0), none, some (.long (y3 * ((s.2.1 13 k19).toInt64))), none, some (.int (u5 + (1 : Int32)))]) i31_101 rfl (by rfl) rfl ?_
  refine gm_ev.goto (tgt := 57) i31_104 (by decide) ?_
  exact k
theorem t_X2_join_0_ttttt {N0 : Nat} {K : Nat → Nat} {d C : Nat} {s : cS} {G : gm_H} {sz sl : Nat} {p0 : Nat} {p1 : Int32} {fso1 : List Value} {x2 : Int32} {r5 : Nat} {k7 : Nat} {na8 : Nat} {fa8 : Nat → Option Nat} {r9 : Nat} {fso10 : List Value} {x11 : Int32} {x14 : Int32} {x17 : Int32} {x19 : Int32} {r21 : Int32} {x23 : Int32} {r25 : Int32} {x27 : Int32} {r29 : Int32} {r31 : Int32} {r34 : Int32} (hN : N0 ≤ C) (ho1 : G p0 = some (.inr (7, fso1))) (f3 : fso1[2]? = some (.int x2)) (hg_p0 : C + 34 ≤ p0) (c4 : p1 < x2) (f6 : fso1[1]? = some (.ref r5)) (ek7 : p1 = nI k7) (ha8 : G r5 = some (.inl (.object "RuleArena$Literal", na8, .inr (.inr (.inr (.inr fa8)))))) (ba8 : na8 < 2 ^ 31) (hg_r5 : C + 34 ≤ r5) (lk7 : k7 < na8) (qk7 : fa8 k7 = some r9) (ho10 : G r9 = some (.inr (5, fso10))) (f12 : fso10[0]? = some (.int x11)) (hg_r9 : C + 34 ≤ r9) (c13 : ¬ x11 = (2 : Int32)) (f15 : fso10[5]? = some (.int x14)) (c16 : ¬ x14 = 0) (f18 : fso10[1]? = some (.int x17)) (f20 : fso10[2]? = some (.int x19)) (t22 : gm_to N0 K ra_nm (ra_mt K) d 36 [.ref (C + 5), .int x19] (bM C (cH C s) G) sz (.returned (some (.int r21)), (bM C (cH C s) G), sz, 0)) (f24 : fso10[3]? = some (.int x23)) (t26 : gm_to N0 K ra_nm (ra_mt K) d 36 [.ref (C + 5), .int x23] (bM C (cH C s) G) sz (.returned (some (.int r25)), (bM C (cH C s) G), sz, 0)) (f28 : fso10[4]? = some (.int x27)) (t30 : gm_to N0 K ra_nm (ra_mt K) d 36 [.ref (C + 5), .int x27] (bM C (cH C s) G) sz (.returned (some (.int r29)), (bM C (cH C s) G), sz, 0)) (t32 : gm_to N0 K ra_nm (ra_mt K) d 21 [.ref (C + 6), .int x17, .int r21, .int r25, .int r29] (bM C (cH C s) G) sz (.returned (some (.int r31)), (bM C (cH C s) G), sz, 0)) (c33 : ¬ x11 = (1 : Int32)) (t35 : gm_to N0 K ra_nm (ra_mt K) d 34 [.ref (C + 5), .int p1] (bM C (cH C s) G) sz (.returned (some (.int r34)), (bM C (cH C s) G), sz, 0)) (c36 : r31 < r34) : gm_ev N0 K ra_nm (ra_mt K) d (some .boolean) (gm_I cX2_join) (gm_lkf (lkX2 false K)) 0 [some (.ref (C + 5)), some (.ref p0), some (.int p1), none, none] [] (bM C (cH C s) G) sz sl (.returned (some (.int (0 : Int32))), (bM C (cH C s) G), sz, sl) := by
  refine gm_ev.iload_n i32_0 rfl ?_
  refine gm_ev.aload_n i32_1 rfl ?_
  refine gm_ev.getfield (v := .int x2) i32_2 rfl (gm_fld_of (cG_get hg_p0 ho1) f3) ?_
  refine gm_ev.icmp_lt_t (tgt := 50) i32_5 (by decide) c4 ?_
  refine gm_ev.aload_n i32_50 rfl ?_
  refine gm_ev.getfield (v := .ref r5) i32_51 rfl (gm_fld_of (cG_get hg_p0 ho1) f6) ?_
  refine gm_ev.iload_n i32_54 rfl ?_
  refine gm_ev.aaload (x := some r9) i32_55 (gm_aq_of (cG_get hg_r5 ha8) ek7 lk7 ba8 qk7) ?_
  refine gm_ev.astore_n (ls' := [some (.ref (C + 5)), some (.ref p0), some (.int p1), some (.ref r9), none]) i32_56 (Nat.le_of_ble_eq_true rfl) rfl ?_
  refine gm_ev.aload_n i32_57 rfl ?_
  refine gm_ev.getfield (v := .int x11) i32_58 rfl (gm_fld_of (cG_get hg_r9 ho10) f12) ?_
  refine gm_ev.iconst (v := 2) i32_61 (by decide) ?_
  refine gm_ev.icmp_ne_t (tgt := 101) i32_62 (by decide) c13 ?_
  refine gm_ev.aload_n i32_101 rfl ?_
  refine gm_ev.getfield (v := .int x14) i32_102 rfl (gm_fld_of (cG_get hg_r9 ho10) f15) ?_
  refine gm_ev.if_ne_t (tgt := 115) i32_105 (by decide) c16 ?_
  refine gm_ev.aload_n i32_115 rfl ?_
  refine gm_ev.getfield (v := .ref (C + 6)) i32_116 rfl (bM_fld (j := 5) (fs := cF5 C s) rfl rfl) ?_
  refine gm_ev.aload_n i32_119 rfl ?_
  refine gm_ev.getfield (v := .int x17) i32_120 rfl (gm_fld_of (cG_get hg_r9 ho10) f18) ?_
  refine gm_ev.aload_n i32_123 rfl ?_
  refine gm_ev.aload_n i32_124 rfl ?_
  refine gm_ev.getfield (v := .int x19) i32_125 rfl (gm_fld_of (cG_get hg_r9 ho10) f20) ?_
  refine gm_ev.callV gm_mono_run (av := [.int x19]) (r := [.int x17, .ref (C + 6)]) (ci := 2) (fs := cF5 C s) (bM_get (j := 5) rfl) i32_128 rfl rfl rfl (Nat.le_of_ble_eq_true rfl) t22 ?_
  refine gm_ev.aload_n i32_131 rfl ?_
  refine gm_ev.aload_n i32_132 rfl ?_
  refine gm_ev.getfield (v := .int x23) i32_133 rfl (gm_fld_of (cG_get hg_r9 ho10) f24) ?_
  refine gm_ev.callV gm_mono_run (av := [.int x23]) (r := [.int r21, .int x17, .ref (C + 6)]) (ci := 2) (fs := cF5 C s) (bM_get (j := 5) rfl) i32_136 rfl rfl rfl (Nat.le_of_ble_eq_true rfl) t26 ?_
  refine gm_ev.aload_n i32_139 rfl ?_
  refine gm_ev.aload_n i32_140 rfl ?_
  refine gm_ev.getfield (v := .int x27) i32_141 rfl (gm_fld_of (cG_get hg_r9 ho10) f28) ?_
  refine gm_ev.callV gm_mono_run (av := [.int x27]) (r := [.int r25, .int r21, .int x17, .ref (C + 6)]) (ci := 2) (fs := cF5 C s) (bM_get (j := 5) rfl) i32_144 rfl rfl rfl (Nat.le_of_ble_eq_true rfl) t30 ?_
  refine gm_ev.callV gm_mono_run (av := [.int x17, .int r21, .int r25, .int r29]) (r := []) (ci := 1) (fs := cF6 C s) (bM_get (j := 6) rfl) i32_147 rfl rfl rfl (Nat.le_of_ble_eq_true rfl) t32 ?_
  refine gm_ev.istore (ls' := [some (.ref (C + 5)), some (.ref p0), some (.int p1), some (.ref r9), some (.int r31)]) i32_150 (Nat.le_of_ble_eq_true rfl) rfl ?_
  refine gm_ev.aload_n i32_152 rfl ?_
  refine gm_ev.getfield (v := .int x11) i32_153 rfl (gm_fld_of (cG_get hg_r9 ho10) f12) ?_
  refine gm_ev.iconst (v := 1) i32_156 (by decide) ?_
  refine gm_ev.icmp_ne_t (tgt := 182) i32_157 (by decide) c33 ?_
  refine gm_ev.iload i32_182 rfl ?_
  refine gm_ev.aload_n i32_184 rfl ?_
  refine gm_ev.iload_n i32_185 rfl ?_
  refine gm_ev.callV gm_mono_run (av := [.int p1]) (r := [.int r31]) (ci := 2) (fs := cF5 C s) (bM_get (j := 5) rfl) i32_186 rfl rfl rfl (Nat.le_of_ble_eq_true rfl) t35 ?_
  refine gm_ev.icmp_lt_t (tgt := 217) i32_189 (by decide) c36 ?_
  refine gm_ev.iconst (v := 0) i32_217 (by decide) ?_
  exact gm_ev.zret i32_218 rfl (by decide)
theorem t_X2_join_0_ttttft {N0 : Nat} {K : Nat → Nat} {d C : Nat} {s : cS} {G : gm_H} {sz sl : Nat} {p0 : Nat} {p1 : Int32} {fso1 : List Value} {x2 : Int32} {r5 : Nat} {k7 : Nat} {na8 : Nat} {fa8 : Nat → Option Nat} {r9 : Nat} {fso10 : List Value} {x11 : Int32} {x14 : Int32} {x17 : Int32} {x19 : Int32} {r21 : Int32} {x23 : Int32} {r25 : Int32} {x27 : Int32} {r29 : Int32} {r31 : Int32} {r34 : Int32} {r37 : Int32} (hN : N0 ≤ C) (ho1 : G p0 = some (.inr (7, fso1))) (f3 : fso1[2]? = some (.int x2)) (hg_p0 : C + 34 ≤ p0) (c4 : p1 < x2) (f6 : fso1[1]? = some (.ref r5)) (ek7 : p1 = nI k7) (ha8 : G r5 = some (.inl (.object "RuleArena$Literal", na8, .inr (.inr (.inr (.inr fa8)))))) (ba8 : na8 < 2 ^ 31) (hg_r5 : C + 34 ≤ r5) (lk7 : k7 < na8) (qk7 : fa8 k7 = some r9) (ho10 : G r9 = some (.inr (5, fso10))) (f12 : fso10[0]? = some (.int x11)) (hg_r9 : C + 34 ≤ r9) (c13 : ¬ x11 = (2 : Int32)) (f15 : fso10[5]? = some (.int x14)) (c16 : ¬ x14 = 0) (f18 : fso10[1]? = some (.int x17)) (f20 : fso10[2]? = some (.int x19)) (t22 : gm_to N0 K ra_nm (ra_mt K) d 36 [.ref (C + 5), .int x19] (bM C (cH C s) G) sz (.returned (some (.int r21)), (bM C (cH C s) G), sz, 0)) (f24 : fso10[3]? = some (.int x23)) (t26 : gm_to N0 K ra_nm (ra_mt K) d 36 [.ref (C + 5), .int x23] (bM C (cH C s) G) sz (.returned (some (.int r25)), (bM C (cH C s) G), sz, 0)) (f28 : fso10[4]? = some (.int x27)) (t30 : gm_to N0 K ra_nm (ra_mt K) d 36 [.ref (C + 5), .int x27] (bM C (cH C s) G) sz (.returned (some (.int r29)), (bM C (cH C s) G), sz, 0)) (t32 : gm_to N0 K ra_nm (ra_mt K) d 21 [.ref (C + 6), .int x17, .int r21, .int r25, .int r29] (bM C (cH C s) G) sz (.returned (some (.int r31)), (bM C (cH C s) G), sz, 0)) (c33 : ¬ x11 = (1 : Int32)) (t35 : gm_to N0 K ra_nm (ra_mt K) d 34 [.ref (C + 5), .int p1] (bM C (cH C s) G) sz (.returned (some (.int r34)), (bM C (cH C s) G), sz, 0)) (c36 : ¬ r31 < r34) (t38 : gm_to N0 K ra_nm (ra_mt K) d 35 [.ref (C + 5), .int p1] (bM C (cH C s) G) sz (.returned (some (.int r37)), (bM C (cH C s) G), sz, 0)) (c39 : r37 < r31) : gm_ev N0 K ra_nm (ra_mt K) d (some .boolean) (gm_I cX2_join) (gm_lkf (lkX2 false K)) 0 [some (.ref (C + 5)), some (.ref p0), some (.int p1), none, none] [] (bM C (cH C s) G) sz sl (.returned (some (.int (0 : Int32))), (bM C (cH C s) G), sz, sl) := by
  refine gm_ev.iload_n i32_0 rfl ?_
  refine gm_ev.aload_n i32_1 rfl ?_
  refine gm_ev.getfield (v := .int x2) i32_2 rfl (gm_fld_of (cG_get hg_p0 ho1) f3) ?_
  refine gm_ev.icmp_lt_t (tgt := 50) i32_5 (by decide) c4 ?_
  refine gm_ev.aload_n i32_50 rfl ?_
  refine gm_ev.getfield (v := .ref r5) i32_51 rfl (gm_fld_of (cG_get hg_p0 ho1) f6) ?_
  refine gm_ev.iload_n i32_54 rfl ?_
  refine gm_ev.aaload (x := some r9) i32_55 (gm_aq_of (cG_get hg_r5 ha8) ek7 lk7 ba8 qk7) ?_
  refine gm_ev.astore_n (ls' := [some (.ref (C + 5)), some (.ref p0), some (.int p1), some (.ref r9), none]) i32_56 (Nat.le_of_ble_eq_true rfl) rfl ?_
  refine gm_ev.aload_n i32_57 rfl ?_
  refine gm_ev.getfield (v := .int x11) i32_58 rfl (gm_fld_of (cG_get hg_r9 ho10) f12) ?_
  refine gm_ev.iconst (v := 2) i32_61 (by decide) ?_
  refine gm_ev.icmp_ne_t (tgt := 101) i32_62 (by decide) c13 ?_
  refine gm_ev.aload_n i32_101 rfl ?_
  refine gm_ev.getfield (v := .int x14) i32_102 rfl (gm_fld_of (cG_get hg_r9 ho10) f15) ?_
  refine gm_ev.if_ne_t (tgt := 115) i32_105 (by decide) c16 ?_
  refine gm_ev.aload_n i32_115 rfl ?_
  refine gm_ev.getfield (v := .ref (C + 6)) i32_116 rfl (bM_fld (j := 5) (fs := cF5 C s) rfl rfl) ?_
  refine gm_ev.aload_n i32_119 rfl ?_
  refine gm_ev.getfield (v := .int x17) i32_120 rfl (gm_fld_of (cG_get hg_r9 ho10) f18) ?_
  refine gm_ev.aload_n i32_123 rfl ?_
  refine gm_ev.aload_n i32_124 rfl ?_
  refine gm_ev.getfield (v := .int x19) i32_125 rfl (gm_fld_of (cG_get hg_r9 ho10) f20) ?_
  refine gm_ev.callV gm_mono_run (av := [.int x19]) (r := [.int x17, .ref (C + 6)]) (ci := 2) (fs := cF5 C s) (bM_get (j := 5) rfl) i32_128 rfl rfl rfl (Nat.le_of_ble_eq_true rfl) t22 ?_
  refine gm_ev.aload_n i32_131 rfl ?_
  refine gm_ev.aload_n i32_132 rfl ?_
  refine gm_ev.getfield (v := .int x23) i32_133 rfl (gm_fld_of (cG_get hg_r9 ho10) f24) ?_
  refine gm_ev.callV gm_mono_run (av := [.int x23]) (r := [.int r21, .int x17, .ref (C + 6)]) (ci := 2) (fs := cF5 C s) (bM_get (j := 5) rfl) i32_136 rfl rfl rfl (Nat.le_of_ble_eq_true rfl) t26 ?_
  refine gm_ev.aload_n i32_139 rfl ?_
  refine gm_ev.aload_n i32_140 rfl ?_
  refine gm_ev.getfield (v := .int x27) i32_141 rfl (gm_fld_of (cG_get hg_r9 ho10) f28) ?_
  refine gm_ev.callV gm_mono_run (av := [.int x27]) (r := [.int r25, .int r21, .int x17, .ref (C + 6)]) (ci := 2) (fs := cF5 C s) (bM_get (j := 5) rfl) i32_144 rfl rfl rfl (Nat.le_of_ble_eq_true rfl) t30 ?_
  refine gm_ev.callV gm_mono_run (av := [.int x17, .int r21, .int r25, .int r29]) (r := []) (ci := 1) (fs := cF6 C s) (bM_get (j := 6) rfl) i32_147 rfl rfl rfl (Nat.le_of_ble_eq_true rfl) t32 ?_
  refine gm_ev.istore (ls' := [some (.ref (C + 5)), some (.ref p0), some (.int p1), some (.ref r9), some (.int r31)]) i32_150 (Nat.le_of_ble_eq_true rfl) rfl ?_
  refine gm_ev.aload_n i32_152 rfl ?_
  refine gm_ev.getfield (v := .int x11) i32_153 rfl (gm_fld_of (cG_get hg_r9 ho10) f12) ?_
  refine gm_ev.iconst (v := 1) i32_156 (by decide) ?_
  refine gm_ev.icmp_ne_t (tgt := 182) i32_157 (by decide) c33 ?_
  refine gm_ev.iload i32_182 rfl ?_
  refine gm_ev.aload_n i32_184 rfl ?_
  refine gm_ev.iload_n i32_185 rfl ?_
  refine gm_ev.callV gm_mono_run (av := [.int p1]) (r := [.int r31]) (ci := 2) (fs := cF5 C s) (bM_get (j := 5) rfl) i32_186 rfl rfl rfl (Nat.le_of_ble_eq_true rfl) t35 ?_
  refine gm_ev.icmp_lt_f i32_189 c36 ?_
  refine gm_ev.iload i32_192 rfl ?_
  refine gm_ev.aload_n i32_194 rfl ?_
  refine gm_ev.iload_n i32_195 rfl ?_
  refine gm_ev.callV gm_mono_run (av := [.int p1]) (r := [.int r31]) (ci := 2) (fs := cF5 C s) (bM_get (j := 5) rfl) i32_196 rfl rfl rfl (Nat.le_of_ble_eq_true rfl) t38 ?_
  refine gm_ev.icmp_gt_t (tgt := 217) i32_199 (by decide) c39 ?_
  refine gm_ev.iconst (v := 0) i32_217 (by decide) ?_
  exact gm_ev.zret i32_218 rfl (by decide)
theorem t_X2_join_0_ttttfft {N0 : Nat} {K : Nat → Nat} {d C : Nat} {s : cS} {G : gm_H} {sz sl : Nat} {p0 : Nat} {p1 : Int32} {fso1 : List Value} {x2 : Int32} {r5 : Nat} {k7 : Nat} {na8 : Nat} {fa8 : Nat → Option Nat} {r9 : Nat} {fso10 : List Value} {x11 : Int32} {x14 : Int32} {x17 : Int32} {x19 : Int32} {r21 : Int32} {x23 : Int32} {r25 : Int32} {x27 : Int32} {r29 : Int32} {r31 : Int32} {r34 : Int32} {r37 : Int32} {r40 : Int32} {s42 : cS} (hN : N0 ≤ C) (ho1 : G p0 = some (.inr (7, fso1))) (f3 : fso1[2]? = some (.int x2)) (hg_p0 : C + 34 ≤ p0) (c4 : p1 < x2) (f6 : fso1[1]? = some (.ref r5)) (ek7 : p1 = nI k7) (ha8 : G r5 = some (.inl (.object "RuleArena$Literal", na8, .inr (.inr (.inr (.inr fa8)))))) (ba8 : na8 < 2 ^ 31) (hg_r5 : C + 34 ≤ r5) (lk7 : k7 < na8) (qk7 : fa8 k7 = some r9) (ho10 : G r9 = some (.inr (5, fso10))) (f12 : fso10[0]? = some (.int x11)) (hg_r9 : C + 34 ≤ r9) (c13 : ¬ x11 = (2 : Int32)) (f15 : fso10[5]? = some (.int x14)) (c16 : ¬ x14 = 0) (f18 : fso10[1]? = some (.int x17)) (f20 : fso10[2]? = some (.int x19)) (t22 : gm_to N0 K ra_nm (ra_mt K) d 36 [.ref (C + 5), .int x19] (bM C (cH C s) G) sz (.returned (some (.int r21)), (bM C (cH C s) G), sz, 0)) (f24 : fso10[3]? = some (.int x23)) (t26 : gm_to N0 K ra_nm (ra_mt K) d 36 [.ref (C + 5), .int x23] (bM C (cH C s) G) sz (.returned (some (.int r25)), (bM C (cH C s) G), sz, 0)) (f28 : fso10[4]? = some (.int x27)) (t30 : gm_to N0 K ra_nm (ra_mt K) d 36 [.ref (C + 5), .int x27] (bM C (cH C s) G) sz (.returned (some (.int r29)), (bM C (cH C s) G), sz, 0)) (t32 : gm_to N0 K ra_nm (ra_mt K) d 21 [.ref (C + 6), .int x17, .int r21, .int r25, .int r29] (bM C (cH C s) G) sz (.returned (some (.int r31)), (bM C (cH C s) G), sz, 0)) (c33 : ¬ x11 = (1 : Int32)) (t35 : gm_to N0 K ra_nm (ra_mt K) d 34 [.ref (C + 5), .int p1] (bM C (cH C s) G) sz (.returned (some (.int r34)), (bM C (cH C s) G), sz, 0)) (c36 : ¬ r31 < r34) (t38 : gm_to N0 K ra_nm (ra_mt K) d 35 [.ref (C + 5), .int p1] (bM C (cH C s) G) sz (.returned (some (.int r37)), (bM C (cH C s) G), sz, 0)) (c39 : ¬ r37 < r31) (t41 : gm_to N0 K ra_nm (ra_mt K) d 32 [.ref (C + 5), .ref p0, .int (p1 + (1 : Int32))] (bM C (cH C s) G) sz (.returned (some (.int r40)), (bM C (cH C s42) G), sz, 0)) (c43 : r40 = 0) : gm_ev N0 K ra_nm (ra_mt K) d (some .boolean) (gm_I cX2_join) (gm_lkf (lkX2 false K)) 0 [some (.ref (C + 5)), some (.ref p0), some (.int p1), none, none] [] (bM C (cH C s) G) sz sl (.returned (some (.int (0 : Int32))), (bM C (cH C s42) G), sz, sl) := by
  refine gm_ev.iload_n i32_0 rfl ?_
  refine gm_ev.aload_n i32_1 rfl ?_
  refine gm_ev.getfield (v := .int x2) i32_2 rfl (gm_fld_of (cG_get hg_p0 ho1) f3) ?_
  refine gm_ev.icmp_lt_t (tgt := 50) i32_5 (by decide) c4 ?_
  refine gm_ev.aload_n i32_50 rfl ?_
  refine gm_ev.getfield (v := .ref r5) i32_51 rfl (gm_fld_of (cG_get hg_p0 ho1) f6) ?_
  refine gm_ev.iload_n i32_54 rfl ?_
  refine gm_ev.aaload (x := some r9) i32_55 (gm_aq_of (cG_get hg_r5 ha8) ek7 lk7 ba8 qk7) ?_
  refine gm_ev.astore_n (ls' := [some (.ref (C + 5)), some (.ref p0), some (.int p1), some (.ref r9), none]) i32_56 (Nat.le_of_ble_eq_true rfl) rfl ?_
  refine gm_ev.aload_n i32_57 rfl ?_
  refine gm_ev.getfield (v := .int x11) i32_58 rfl (gm_fld_of (cG_get hg_r9 ho10) f12) ?_
  refine gm_ev.iconst (v := 2) i32_61 (by decide) ?_
  refine gm_ev.icmp_ne_t (tgt := 101) i32_62 (by decide) c13 ?_
  refine gm_ev.aload_n i32_101 rfl ?_
  refine gm_ev.getfield (v := .int x14) i32_102 rfl (gm_fld_of (cG_get hg_r9 ho10) f15) ?_
  refine gm_ev.if_ne_t (tgt := 115) i32_105 (by decide) c16 ?_
  refine gm_ev.aload_n i32_115 rfl ?_
  refine gm_ev.getfield (v := .ref (C + 6)) i32_116 rfl (bM_fld (j := 5) (fs := cF5 C s) rfl rfl) ?_
  refine gm_ev.aload_n i32_119 rfl ?_
  refine gm_ev.getfield (v := .int x17) i32_120 rfl (gm_fld_of (cG_get hg_r9 ho10) f18) ?_
  refine gm_ev.aload_n i32_123 rfl ?_
  refine gm_ev.aload_n i32_124 rfl ?_
  refine gm_ev.getfield (v := .int x19) i32_125 rfl (gm_fld_of (cG_get hg_r9 ho10) f20) ?_
  refine gm_ev.callV gm_mono_run (av := [.int x19]) (r := [.int x17, .ref (C + 6)]) (ci := 2) (fs := cF5 C s) (bM_get (j := 5) rfl) i32_128 rfl rfl rfl (Nat.le_of_ble_eq_true rfl) t22 ?_
  refine gm_ev.aload_n i32_131 rfl ?_
  refine gm_ev.aload_n i32_132 rfl ?_
  refine gm_ev.getfield (v := .int x23) i32_133 rfl (gm_fld_of (cG_get hg_r9 ho10) f24) ?_
  refine gm_ev.callV gm_mono_run (av := [.int x23]) (r := [.int r21, .int x17, .ref (C + 6)]) (ci := 2) (fs := cF5 C s) (bM_get (j := 5) rfl) i32_136 rfl rfl rfl (Nat.le_of_ble_eq_true rfl) t26 ?_
  refine gm_ev.aload_n i32_139 rfl ?_
  refine gm_ev.aload_n i32_140 rfl ?_
  refine gm_ev.getfield (v := .int x27) i32_141 rfl (gm_fld_of (cG_get hg_r9 ho10) f28) ?_
  refine gm_ev.callV gm_mono_run (av := [.int x27]) (r := [.int r25, .int r21, .int x17, .ref (C + 6)]) (ci := 2) (fs := cF5 C s) (bM_get (j := 5) rfl) i32_144 rfl rfl rfl (Nat.le_of_ble_eq_true rfl) t30 ?_
  refine gm_ev.callV gm_mono_run (av := [.int x17, .int r21, .int r25, .int r29]) (r := []) (ci := 1) (fs := cF6 C s) (bM_get (j := 6) rfl) i32_147 rfl rfl rfl (Nat.le_of_ble_eq_true rfl) t32 ?_
  refine gm_ev.istore (ls' := [some (.ref (C + 5)), some (.ref p0), some (.int p1), some (.ref r9), some (.int r31)]) i32_150 (Nat.le_of_ble_eq_true rfl) rfl ?_
  refine gm_ev.aload_n i32_152 rfl ?_
  refine gm_ev.getfield (v := .int x11) i32_153 rfl (gm_fld_of (cG_get hg_r9 ho10) f12) ?_
  refine gm_ev.iconst (v := 1) i32_156 (by decide) ?_
  refine gm_ev.icmp_ne_t (tgt := 182) i32_157 (by decide) c33 ?_
  refine gm_ev.iload i32_182 rfl ?_
  refine gm_ev.aload_n i32_184 rfl ?_
  refine gm_ev.iload_n i32_185 rfl ?_
  refine gm_ev.callV gm_mono_run (av := [.int p1]) (r := [.int r31]) (ci := 2) (fs := cF5 C s) (bM_get (j := 5) rfl) i32_186 rfl rfl rfl (Nat.le_of_ble_eq_true rfl) t35 ?_
  refine gm_ev.icmp_lt_f i32_189 c36 ?_
  refine gm_ev.iload i32_192 rfl ?_
  refine gm_ev.aload_n i32_194 rfl ?_
  refine gm_ev.iload_n i32_195 rfl ?_
  refine gm_ev.callV gm_mono_run (av := [.int p1]) (r := [.int r31]) (ci := 2) (fs := cF5 C s) (bM_get (j := 5) rfl) i32_196 rfl rfl rfl (Nat.le_of_ble_eq_true rfl) t38 ?_
  refine gm_ev.icmp_gt_f i32_199 c39 ?_
  refine gm_ev.aload_n i32_202 rfl ?_
  refine gm_ev.aload_n i32_203 rfl ?_
  refine gm_ev.iload_n i32_204 rfl ?_
  refine gm_ev.iconst (v := 1) i32_205 (by decide) ?_
  refine gm_ev.iadd i32_206 ?_
  refine gm_ev.callV gm_mono_run (av := [.ref p0, .int (p1 + (1 : Int32))]) (r := []) (ci := 2) (fs := cF5 C s) (bM_get (j := 5) rfl) i32_207 rfl rfl rfl (Nat.le_of_ble_eq_true rfl) t41 ?_
  refine gm_ev.if_eq_t (tgt := 217) i32_210 (by decide) c43 ?_
  refine gm_ev.iconst (v := 0) i32_217 (by decide) ?_
  exact gm_ev.zret i32_218 rfl (by decide)
