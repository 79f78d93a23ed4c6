/-! paths through RuleArenaModel, by program -/
theorem r_apply_190_tfff_at74 {N0 : Nat} {K : Nat → Nat} {d B : Nat} {s : mS} {G : gm_H} {sz sl : Nat} {R : gm_R} {x1 : Int32} {x2 : Int32} {x3 : Int32} {x4 : Int32} {k2 : Nat} {k3 : Nat} {k4 : Nat} {k6 : Nat} (hN : N0 ≤ B) (c1 : (6 : Int32) ≤ x4) (ek2 : x3 = nI k2) (lk2 : k2 < 7) (ek3 : x3 = nI k3) (lk3 : k3 < 7) (ek4 : ((((6 : Int32) * x1) + (1 : Int32)) + x3) = nI k4) (lk4 : k4 < 144) (c5 : ¬ (s.2.1 13 k4) = 0) (ek6 : x3 = nI k6) (lk6 : k6 < 7) (c7 : ((upd (s.2.1 27) k3 ((s.2.1 27 k2) + (1 : Int32))) k6) = 0) (c8 : (1 : Int32) = 0) (k : gm_ev N0 K ra_nm (ra_mt K) d none (gm_I cX12_apply) (gm_lkf (lkX12 false K)) 74 [some (.ref B), some (.int x1), some (.int x2), some (.int (x3 + (-1 : Int32))), none, none] [] (bM B (mH B (mA s 27 (upd (s.2.1 27) k3 ((s.2.1 27 k2) + (1 : Int32))))) G) sz sl R) : gm_ev N0 K ra_nm (ra_mt K) d none (gm_I cX12_apply) (gm_lkf (lkX12 false K)) 190 [some (.ref B), some (.int x1), some (.int x2), some (.int x3), some (.int x4), none] [] (bM B (mH B s) G) sz sl R := by
  refine gm_ev.iload i157_190 rfl ?_
  refine gm_ev.bipush (v := 6) i157_192 (by decide) ?_
  refine gm_ev.icmp_ge_t (tgt := 232) i157_194 (by decide) c1 ?_
  refine gm_ev.bipush (v := 6) i157_232 (by decide) ?_
  refine gm_ev.iload_n i157_234 rfl ?_
  refine gm_ev.imul i157_235 ?_
  refine gm_ev.iconst (v := 1) i157_236 (by decide) ?_
  refine gm_ev.iadd i157_237 ?_
  refine gm_ev.iload_n i157_238 rfl ?_
  refine gm_ev.iadd i157_239 ?_
  refine gm_ev.istore (ls' := [some (.ref B), some (.int x1), some (.int x2), some (.int x3), some (.int ((((6 : Int32) * x1) + (1 : Int32)) + x3)), none]) i157_240 (Nat.le_of_ble_eq_true rfl) rfl ?_
  refine gm_ev.aload_n i157_242 rfl ?_
  refine gm_ev.getfield (v := .ref (B + 16)) i157_243 rfl (bM_fld (j := 0) (fs := mF B s) rfl rfl) ?_
  refine gm_ev.iload_n i157_246 rfl ?_
  refine gm_ev.dup2 i157_247 rfl rfl ?_
  refine gm_ev.iaload i157_248 (bM_ai (j := 16) (n := 7) (f := s.2.1 27) rfl ek2 lk2 (by decide)) ?_
  refine gm_ev.iconst (v := 1) i157_249 (by decide) ?_
  refine gm_ev.iadd i157_250 ?_
  refine gm_ev.iastore (M' := (bM B (mH B (mA s 27 (upd (s.2.1 27) k3 ((s.2.1 27 k2) + (1 : Int32))))) G)) i157_251 (bM_asti (j := 16) (n := 7) (f := s.2.1 27) rfl ek3 lk3 (by decide) hN rfl) ?_
  refine gm_ev.aload_n i157_252 rfl ?_
  refine gm_ev.getfield (v := .ref (B + 5)) i157_253 rfl (bM_fld (j := 0) (fs := mF B (mA s 27 (upd (s.2.1 27) k3 ((s.2.1 27 k2) + (1 : Int32))))) rfl rfl) ?_
  refine gm_ev.iload i157_256 rfl ?_
  refine gm_ev.iaload i157_258 (bM_ai (j := 5) (n := 144) (f := s.2.1 13) rfl ek4 lk4 (by decide)) ?_
  refine gm_ev.if_eq_f i157_259 c5 ?_
  refine gm_ev.aload_n i157_262 rfl ?_
  refine gm_ev.getfield (v := .ref (B + 16)) i157_263 rfl (bM_fld (j := 0) (fs := mF B (mA s 27 (upd (s.2.1 27) k3 ((s.2.1 27 k2) + (1 : Int32))))) rfl rfl) ?_
  refine gm_ev.iload_n i157_266 rfl ?_
  refine gm_ev.iaload i157_267 (bM_ai (j := 16) (n := 7) (f := (upd (s.2.1 27) k3 ((s.2.1 27 k2) + (1 : Int32)))) rfl ek6 lk6 (by decide)) ?_
  refine gm_ev.if_ne_f i157_268 c7 ?_
  refine gm_ev.iconst (v := 1) i157_271 (by decide) ?_
  refine gm_ev.goto (tgt := 297) i157_272 (by decide) ?_
  refine gm_ev.istore (ls' := [some (.ref B), some (.int x1), some (.int x2), some (.int x3), some (.int ((((6 : Int32) * x1) + (1 : Int32)) + x3)), some (.int (1 : Int32))]) i157_297 (Nat.le_of_ble_eq_true rfl) rfl ?_
  refine gm_ev.iload i157_299 rfl ?_
  refine gm_ev.if_ne_f i157_301 c8 ?_
  refine gm_ev.iinc (v := x3 + (-1 : Int32)) (ls' := [some (.ref B), some (.int x1), some (.int x2), some (.int (x3 + (-1 : Int32))), some (.int ((((6 : Int32) * x1) + (1 : Int32)) + x3)), some (.int (1 : Int32))]) i157_304 rfl (by rfl) rfl ?_
  refine gm_ev.goto (tgt := 346) i157_307 (by decide) ?_
  refine gm_ev.goto (tgt := 74) i157_346 (by decide) ?_
  refine gm_ev.le (a := [some (.ref B), some (.int x1), some (.int x2), some (.int (x3 + (-1 : Int32))), none, none]) (gm_leL.le (show gm_leL _ _ from ⟨rfl, ⟨rfl, ⟨rfl, ⟨rfl, trivial⟩⟩⟩⟩)) ?_
  exact k
theorem r_apply_190_ft_at190 {N0 : Nat} {K : Nat → Nat} {d B : Nat} {s : mS} {G : gm_H} {sz sl : Nat} {R : gm_R} {x1 : Int32} {x2 : Int32} {x3 : Int32} {x4 : Int32} {k2 : Nat} {k4 : Nat} {k5 : Nat} (hN : N0 ≤ B) (c1 : ¬ (6 : Int32) ≤ x4) (ek2 : x4 = nI k2) (lk2 : k2 < 6) (c3 : ¬ (s.2.1 26 k2) = x3) (ek4 : x4 = nI k4) (lk4 : k4 < 6) (ek5 : x4 = nI k5) (lk5 : k5 < 6) (k : gm_ev N0 K ra_nm (ra_mt K) d none (gm_I cX12_apply) (gm_lkf (lkX12 false K)) 190 [some (.ref B), some (.int x1), some (.int x2), some (.int x3), some (.int (x4 + (1 : Int32))), none] [] (bM B (mH B (mA s 26 (upd (s.2.1 26) k5 (s.2.1 26 k4)))) G) sz sl R) : gm_ev N0 K ra_nm (ra_mt K) d none (gm_I cX12_apply) (gm_lkf (lkX12 false K)) 190 [some (.ref B), some (.int x1), some (.int x2), some (.int x3), some (.int x4), none] [] (bM B (mH B s) G) sz sl R := by
  refine gm_ev.iload i157_190 rfl ?_
  refine gm_ev.bipush (v := 6) i157_192 (by decide) ?_
  refine gm_ev.icmp_ge_f i157_194 c1 ?_
  refine gm_ev.aload_n i157_197 rfl ?_
  refine gm_ev.getfield (v := .ref (B + 15)) i157_198 rfl (bM_fld (j := 0) (fs := mF B s) rfl rfl) ?_
  refine gm_ev.iload i157_201 rfl ?_
  refine gm_ev.aload_n i157_203 rfl ?_
  refine gm_ev.getfield (v := .ref (B + 15)) i157_204 rfl (bM_fld (j := 0) (fs := mF B s) rfl rfl) ?_
  refine gm_ev.iload i157_207 rfl ?_
  refine gm_ev.iaload i157_209 (bM_ai (j := 15) (n := 6) (f := s.2.1 26) rfl ek2 lk2 (by decide)) ?_
  refine gm_ev.iload_n i157_210 rfl ?_
  refine gm_ev.icmp_ne_t (tgt := 218) i157_211 (by decide) c3 ?_
  refine gm_ev.aload_n i157_218 rfl ?_
  refine gm_ev.getfield (v := .ref (B + 15)) i157_219 rfl (bM_fld (j := 0) (fs := mF B s) rfl rfl) ?_
  refine gm_ev.iload i157_222 rfl ?_
  refine gm_ev.iaload i157_224 (bM_ai (j := 15) (n := 6) (f := s.2.1 26) rfl ek4 lk4 (by decide)) ?_
  refine gm_ev.iastore (M' := (bM B (mH B (mA s 26 (upd (s.2.1 26) k5 (s.2.1 26 k4)))) G)) i157_225 (bM_asti (j := 15) (n := 6) (f := s.2.1 26) rfl ek5 lk5 (by decide) hN rfl) ?_
  refine gm_ev.iinc (v := x4 + (1 : Int32)) (ls' := [some (.ref B), some (.int x1), some (.int x2), some (.int x3), some (.int (x4 + (1 : Int32))), none]) i157_226 rfl (by rfl) rfl ?_
  refine gm_ev.goto (tgt := 190) i157_229 (by decide) ?_
  exact k
theorem r_apply_190_ff_at190 {N0 : Nat} {K : Nat → Nat} {d B : Nat} {s : mS} {G : gm_H} {sz sl : Nat} {R : gm_R} {x1 : Int32} {x2 : Int32} {x3 : Int32} {x4 : Int32} {k2 : Nat} {k4 : Nat} (hN : N0 ≤ B) (c1 : ¬ (6 : Int32) ≤ x4) (ek2 : x4 = nI k2) (lk2 : k2 < 6) (c3 : (s.2.1 26 k2) = x3) (ek4 : x4 = nI k4) (lk4 : k4 < 6) (k : gm_ev N0 K ra_nm (ra_mt K) d none (gm_I cX12_apply) (gm_lkf (lkX12 false K)) 190 [some (.ref B), some (.int x1), some (.int x2), some (.int x3), some (.int (x4 + (1 : Int32))), none] [] (bM B (mH B (mA s 26 (upd (s.2.1 26) k4 (-1 : Int32)))) G) sz sl R) : gm_ev N0 K ra_nm (ra_mt K) d none (gm_I cX12_apply) (gm_lkf (lkX12 false K)) 190 [some (.ref B), some (.int x1), some (.int x2), some (.int x3), some (.int x4), none] [] (bM B (mH B s) G) sz sl R := by
  refine gm_ev.iload i157_190 rfl ?_
  refine gm_ev.bipush (v := 6) i157_192 (by decide) ?_
  refine gm_ev.icmp_ge_f i157_194 c1 ?_
  refine gm_ev.aload_n i157_197 rfl ?_
  refine gm_ev.getfield (v := .ref (B + 15)) i157_198 rfl (bM_fld (j := 0) (fs := mF B s) rfl rfl) ?_
  refine gm_ev.iload i157_201 rfl ?_
  refine gm_ev.aload_n i157_203 rfl ?_
  refine gm_ev.getfield (v := .ref (B + 15)) i157_204 rfl (bM_fld (j := 0) (fs := mF B s) rfl rfl) ?_
  refine gm_ev.iload i157_207 rfl ?_
  refine gm_ev.iaload i157_209 (bM_ai (j := 15) (n := 6) (f := s.2.1 26) rfl ek2 lk2 (by decide)) ?_
  refine gm_ev.iload_n i157_210 rfl ?_
  refine gm_ev.icmp_ne_f i157_211 c3 ?_
  refine gm_ev.iconst (v := -1) i157_214 (by decide) ?_
  refine gm_ev.goto (tgt := 225) i157_215 (by decide) ?_
  refine gm_ev.iastore (M' := (bM B (mH B (mA s 26 (upd (s.2.1 26) k4 (-1 : Int32)))) G)) i157_225 (bM_asti (j := 15) (n := 6) (f := s.2.1 26) rfl ek4 lk4 (by decide) hN rfl) ?_
  refine gm_ev.iinc (v := x4 + (1 : Int32)) (ls' := [some (.ref B), some (.int x1), some (.int x2), some (.int x3), some (.int (x4 + (1 : Int32))), none]) i157_226 rfl (by rfl) rfl ?_
  refine gm_ev.goto (tgt := 190) i157_229 (by decide) ?_
  exact k
theorem r_follow_0__at4 {N0 : Nat} {K : Nat → Nat} {d B : Nat} {s : mS} {G : gm_H} {sz sl : Nat} {R : gm_R}  (hN : N0 ≤ B)  (k : gm_ev N0 K ra_nm (ra_mt K) d none (gm_I cX12_follow) (gm_lkf (lkX12 false K)) 4 [some (.ref B), some (.int (0 : Int32)), some (.int (0 : Int32)), none, none] [] (bM B (mH B s) G) sz sl R) : gm_ev N0 K ra_nm (ra_mt K) d none (gm_I cX12_follow) (gm_lkf (lkX12 false K)) 0 [some (.ref B), none, none, none, none] [] (bM B (mH B s) G) sz sl R := by
  refine gm_ev.iconst (v := 0) i158_0 (by decide) ?_
  refine gm_ev.istore_n (ls' := [some (.ref B), some (.int (0 : Int32)), none, none, none]) i158_1 (Nat.le_of_ble_eq_true rfl) rfl ?_
  refine gm_ev.iconst (v := 0) i158_2 (by decide) ?_
  refine gm_ev.istore_n (ls' := [some (.ref B), some (.int (0 : Int32)), some (.int (0 : Int32)), none, none]) i158_3 (Nat.le_of_ble_eq_true rfl) rfl ?_
  exact k
theorem r_follow_4_t_at57 {N0 : Nat} {K : Nat → Nat} {d B : Nat} {s : mS} {G : gm_H} {sz sl : Nat} {R : gm_R} {x1 : Int32} {x2 : Int32} (hN : N0 ≤ B) (c1 : (s.1 11) ≤ x2) (k : gm_ev N0 K ra_nm (ra_mt K) d none (gm_I cX12_follow) (gm_lkf (lkX12 false K)) 57 [some (.ref B), some (.int x1), some (.int (0 : Int32)), none, none] [] (bM B (mH B s) G) sz sl R) : gm_ev N0 K ra_nm (ra_mt K) d none (gm_I cX12_follow) (gm_lkf (lkX12 false K)) 4 [some (.ref B), some (.int x1), some (.int x2), none, none] [] (bM B (mH B s) G) sz sl R := by
  refine gm_ev.iload_n i158_4 rfl ?_
  refine gm_ev.aload_n i158_5 rfl ?_
  refine gm_ev.getfield (v := .int (s.1 11)) i158_6 rfl (bM_fld (j := 0) (fs := mF B s) rfl rfl) ?_
  refine gm_ev.icmp_ge_t (tgt := 55) i158_9 (by decide) c1 ?_
  refine gm_ev.iconst (v := 0) i158_55 (by decide) ?_
  refine gm_ev.istore_n (ls' := [some (.ref B), some (.int x1), some (.int (0 : Int32)), none, none]) i158_56 (Nat.le_of_ble_eq_true rfl) rfl ?_
  exact k
theorem r_follow_4_ft_at4 {N0 : Nat} {K : Nat → Nat} {d B : Nat} {s : mS} {G : gm_H} {sz sl : Nat} {R : gm_R} {x1 : Int32} {x2 : Int32} {k2 : Nat} {k3 : Nat} (hN : N0 ≤ B) (c1 : ¬ (s.1 11) ≤ x2) (ek2 : ((6 : Int32) * x2) = nI k2) (lk2 : k2 < 144) (ek3 : (s.2.1 14 k2) = nI k3) (lk3 : k3 < 512) (c4 : (s.2.1 19 k3) ≤ x1) (k : gm_ev N0 K ra_nm (ra_mt K) d none (gm_I cX12_follow) (gm_lkf (lkX12 false K)) 4 [some (.ref B), some (.int x1), some (.int (x2 + (1 : Int32))), none, none] [] (bM B (mH B s) G) sz sl R) : gm_ev N0 K ra_nm (ra_mt K) d none (gm_I cX12_follow) (gm_lkf (lkX12 false K)) 4 [some (.ref B), some (.int x1), some (.int x2), none, none] [] (bM B (mH B s) G) sz sl R := by
  refine gm_ev.iload_n i158_4 rfl ?_
  refine gm_ev.aload_n i158_5 rfl ?_
  refine gm_ev.getfield (v := .int (s.1 11)) i158_6 rfl (bM_fld (j := 0) (fs := mF B s) rfl rfl) ?_
  refine gm_ev.icmp_ge_f i158_9 c1 ?_
  refine gm_ev.aload_n i158_12 rfl ?_
  refine gm_ev.getfield (v := .ref (B + 11)) i158_13 rfl (bM_fld (j := 0) (fs := mF B s) rfl rfl) ?_
  refine gm_ev.aload_n i158_16 rfl ?_
  refine gm_ev.getfield (v := .ref (B + 6)) i158_17 rfl (bM_fld (j := 0) (fs := mF B s) rfl rfl) ?_
  refine gm_ev.bipush (v := 6) i158_20 (by decide) ?_
  refine gm_ev.iload_n i158_22 rfl ?_
  refine gm_ev.imul i158_23 ?_
  refine gm_ev.iaload i158_24 (bM_ai (j := 6) (n := 144) (f := s.2.1 14) rfl ek2 lk2 (by decide)) ?_
  refine gm_ev.iaload i158_25 (bM_ai (j := 11) (n := 512) (f := s.2.1 19) rfl ek3 lk3 (by decide)) ?_
  refine gm_ev.iload_n i158_26 rfl ?_
  refine gm_ev.icmp_le_t (tgt := 47) i158_27 (by decide) c4 ?_
  refine gm_ev.iload_n i158_47 rfl ?_
  refine gm_ev.istore_n (ls' := [some (.ref B), some (.int x1), some (.int x2), none, none]) i158_48 (Nat.le_of_ble_eq_true rfl) rfl ?_
  refine gm_ev.iinc (v := x2 + (1 : Int32)) (ls' := [some (.ref B), some (.int x1), some (.int (x2 + (1 : Int32))), none, none]) i158_49 rfl (by rfl) rfl ?_
  refine gm_ev.goto (tgt := 4) i158_52 (by decide) ?_
  exact k
theorem r_follow_4_ff_at4 {N0 : Nat} {K : Nat → Nat} {d B : Nat} {s : mS} {G : gm_H} {sz sl : Nat} {R : gm_R} {x1 : Int32} {x2 : Int32} {k2 : Nat} {k3 : Nat} {k5 : Nat} {k6 : Nat} (hN : N0 ≤ B) (c1 : ¬ (s.1 11) ≤ x2) (ek2 : ((6 : Int32) * x2) = nI k2) (lk2 : k2 < 144) (ek3 : (s.2.1 14 k2) = nI k3) (lk3 : k3 < 512) (c4 : ¬ (s.2.1 19 k3) ≤ x1) (ek5 : ((6 : Int32) * x2) = nI k5) (lk5 : k5 < 144) (ek6 : (s.2.1 14 k5) = nI k6) (lk6 : k6 < 512) (k : gm_ev N0 K ra_nm (ra_mt K) d none (gm_I cX12_follow) (gm_lkf (lkX12 false K)) 4 [some (.ref B), some (.int (s.2.1 19 k6)), some (.int (x2 + (1 : Int32))), none, none] [] (bM B (mH B s) G) sz sl R) : gm_ev N0 K ra_nm (ra_mt K) d none (gm_I cX12_follow) (gm_lkf (lkX12 false K)) 4 [some (.ref B), some (.int x1), some (.int x2), none, none] [] (bM B (mH B s) G) sz sl R := by
  refine gm_ev.iload_n i158_4 rfl ?_
  refine gm_ev.aload_n i158_5 rfl ?_
  refine gm_ev.getfield (v := .int (s.1 11)) i158_6 rfl (bM_fld (j := 0) (fs := mF B s) rfl rfl) ?_
  refine gm_ev.icmp_ge_f i158_9 c1 ?_
  refine gm_ev.aload_n i158_12 rfl ?_
  refine gm_ev.getfield (v := .ref (B + 11)) i158_13 rfl (bM_fld (j := 0) (fs := mF B s) rfl rfl) ?_
  refine gm_ev.aload_n i158_16 rfl ?_
  refine gm_ev.getfield (v := .ref (B + 6)) i158_17 rfl (bM_fld (j := 0) (fs := mF B s) rfl rfl) ?_
  refine gm_ev.bipush (v := 6) i158_20 (by decide) ?_
  refine gm_ev.iload_n i158_22 rfl ?_
  refine gm_ev.imul i158_23 ?_
  refine gm_ev.iaload i158_24 (bM_ai (j := 6) (n := 144) (f := s.2.1 14) rfl ek2 lk2 (by decide)) ?_
  refine gm_ev.iaload i158_25 (bM_ai (j := 11) (n := 512) (f := s.2.1 19) rfl ek3 lk3 (by decide)) ?_
  refine gm_ev.iload_n i158_26 rfl ?_
  refine gm_ev.icmp_le_f i158_27 c4 ?_
  refine gm_ev.aload_n i158_30 rfl ?_
  refine gm_ev.getfield (v := .ref (B + 11)) i158_31 rfl (bM_fld (j := 0) (fs := mF B s) rfl rfl) ?_
  refine gm_ev.aload_n i158_34 rfl ?_
  refine gm_ev.getfield (v := .ref (B + 6)) i158_35 rfl (bM_fld (j := 0) (fs := mF B s) rfl rfl) ?_
  refine gm_ev.bipush (v := 6) i158_38 (by decide) ?_
  refine gm_ev.iload_n i158_40 rfl ?_
  refine gm_ev.imul i158_41 ?_
  refine gm_ev.iaload i158_42 (bM_ai (j := 6) (n := 144) (f := s.2.1 14) rfl ek5 lk5 (by decide)) ?_
  refine gm_ev.iaload i158_43 (bM_ai (j := 11) (n := 512) (f := s.2.1 19) rfl ek6 lk6 (by decide)) ?_
  refine gm_ev.goto (tgt := 48) i158_44 (by decide) ?_
  refine gm_ev.istore_n (ls' := [some (.ref B), some (.int (s.2.1 19 k6)), some (.int x2), none, none]) i158_48 (Nat.le_of_ble_eq_true rfl) rfl ?_
  refine gm_ev.iinc (v := x2 + (1 : Int32)) (ls' := [some (.ref B), some (.int (s.2.1 19 k6)), some (.int (x2 + (1 : Int32))), none, none]) i158_49 rfl (by rfl) rfl ?_
  refine gm_ev.goto (tgt := 4) i158_52 (by decide) ?_
  exact k
theorem r_follow_57_t_at138 {N0 : Nat} {K : Nat → Nat} {d B : Nat} {s : mS} {G : gm_H} {sz sl : Nat} {R : gm_R} {x1 : Int32} {x2 : Int32} (hN : N0 ≤ B) (c1 : x1 < x2) (k : gm_ev N0 K ra_nm (ra_mt K) d none (gm_I cX12_follow) (gm_lkf (lkX12 false K)) 138 [some (.ref B), none, some (.int (0 : Int32)), none, none] [] (bM B (mH B s) G) sz sl R) : gm_ev N0 K ra_nm (ra_mt K) d none (gm_I cX12_follow) (gm_lkf (lkX12 false K)) 57 [some (.ref B), some (.int x1), some (.int x2), none, none] [] (bM B (mH B s) G) sz sl R := by
  refine gm_ev.iload_n i158_57 rfl ?_
  refine gm_ev.iload_n i158_58 rfl ?_
  refine gm_ev.icmp_gt_t (tgt := 136) i158_59 (by decide) c1 ?_
  refine gm_ev.iconst (v := 0) i158_136 (by decide) ?_
  refine gm_ev.istore_n (ls' := [some (.ref B), some (.int x1), some (.int (0 : Int32)), none, none]) i158_137 (Nat.le_of_ble_eq_true rfl) rfl ?_
  refine gm_ev.le (a := [some (.ref B), none, some (.int (0 : Int32)), none, none]) (gm_leL.le (show gm_leL _ _ from ⟨rfl, ⟨rfl, trivial⟩⟩)) ?_
  exact k
theorem r_follow_57_f_at64 {N0 : Nat} {K : Nat → Nat} {d B : Nat} {s : mS} {G : gm_H} {sz sl : Nat} {R : gm_R} {x1 : Int32} {x2 : Int32} (hN : N0 ≤ B) (c1 : ¬ x1 < x2) (k : gm_ev N0 K ra_nm (ra_mt K) d none (gm_I cX12_follow) (gm_lkf (lkX12 false K)) 64 [some (.ref B), some (.int x1), some (.int x2), some (.int (-1 : Int32)), none] [] (bM B (mH B s) G) sz sl R) : gm_ev N0 K ra_nm (ra_mt K) d none (gm_I cX12_follow) (gm_lkf (lkX12 false K)) 57 [some (.ref B), some (.int x1), some (.int x2), none, none] [] (bM B (mH B s) G) sz sl R := by
  refine gm_ev.iload_n i158_57 rfl ?_
  refine gm_ev.iload_n i158_58 rfl ?_
  refine gm_ev.icmp_gt_f i158_59 c1 ?_
  refine gm_ev.iconst (v := -1) i158_62 (by decide) ?_
  refine gm_ev.istore_n (ls' := [some (.ref B), some (.int x1), some (.int x2), some (.int (-1 : Int32)), none]) i158_63 (Nat.le_of_ble_eq_true rfl) rfl ?_
  exact k
theorem r_follow_138_t {N0 : Nat} {K : Nat → Nat} {d B : Nat} {s : mS} {G : gm_H} {sz sl : Nat} {x2 : Int32} (hN : N0 ≤ B) (c1 : (s.1 11) ≤ x2) : gm_ev N0 K ra_nm (ra_mt K) d none (gm_I cX12_follow) (gm_lkf (lkX12 false K)) 138 [some (.ref B), none, some (.int x2), none, none] [] (bM B (mH B s) G) sz sl (.returned none, (bM B (mH B s) G), sz, sl) := by
  refine gm_ev.iload_n i158_138 rfl ?_
  refine gm_ev.aload_n i158_139 rfl ?_
  refine gm_ev.getfield (v := .int (s.1 11)) i158_140 rfl (bM_fld (j := 0) (fs := mF B s) rfl rfl) ?_
  refine gm_ev.icmp_ge_t (tgt := 180) i158_143 (by decide) c1 ?_
  exact gm_ev.vret i158_180 rfl
theorem r_follow_138_ft_at138 {N0 : Nat} {K : Nat → Nat} {d B : Nat} {s : mS} {G : gm_H} {sz sl : Nat} {R : gm_R} {x2 : Int32} (hN : N0 ≤ B) (c1 : ¬ (s.1 11) ≤ x2) (c2 : ¬ (s.1 23) = 0) (k : gm_ev N0 K ra_nm (ra_mt K) d none (gm_I cX12_follow) (gm_lkf (lkX12 false K)) 138 [some (.ref B), none, some (.int (x2 + (1 : Int32))), none, none] [] (bM B (mH B (mI s 23 (1 : Int32))) G) sz sl R) : gm_ev N0 K ra_nm (ra_mt K) d none (gm_I cX12_follow) (gm_lkf (lkX12 false K)) 138 [some (.ref B), none, some (.int x2), none, none] [] (bM B (mH B s) G) sz sl R := by
  refine gm_ev.iload_n i158_138 rfl ?_
  refine gm_ev.aload_n i158_139 rfl ?_
  refine gm_ev.getfield (v := .int (s.1 11)) i158_140 rfl (bM_fld (j := 0) (fs := mF B s) rfl rfl) ?_
  refine gm_ev.icmp_ge_f i158_143 c1 ?_
  refine gm_ev.aload_n i158_146 rfl ?_
  refine gm_ev.aload_n i158_147 rfl ?_
  refine gm_ev.getfield (v := .int (s.1 23)) i158_148 rfl (bM_fld (j := 0) (fs := mF B s) rfl rfl) ?_
  refine gm_ev.if_ne_t (tgt := 166) i158_151 (by decide) c2 ?_
  refine gm_ev.iconst (v := 1) i158_166 (by decide) ?_
  refine gm_ev.goto (tgt := 171) i158_167 (by decide) ?_
  refine gm_ev.putfield (M' := (bM B (mH B (mI s 23 (1 : Int32))) G)) i158_171 rfl (bM_put (j := 0) (fs := mF B s) rfl (Nat.le_of_ble_eq_true rfl) hN (gm_fit_z (by decide)) rfl) ?_
  refine gm_ev.iinc (v := x2 + (1 : Int32)) (ls' := [some (.ref B), none, some (.int (x2 + (1 : Int32))), none, none]) i158_174 rfl (by rfl) rfl ?_
  refine gm_ev.goto (tgt := 138) i158_177 (by decide) ?_
  exact k
theorem r_follow_138_fft_at138 {N0 : Nat} {K : Nat → Nat} {d B : Nat} {s : mS} {G : gm_H} {sz sl : Nat} {R : gm_R} {x2 : Int32} {r3 : Int64} (hN : N0 ≤ B) (c1 : ¬ (s.1 11) ≤ x2) (c2 : (s.1 23) = 0) (t4 : gm_to N0 K ra_nm (ra_mt K) d 156 [.ref B, .int x2] (bM B (mH B s) G) sz (.returned (some (.long r3)), bM B (mH B s) G, sz, 0)) (c5 : (lg_cmp r3 (100000 : Int64)) ≤ 0) (k : gm_ev N0 K ra_nm (ra_mt K) d none (gm_I cX12_follow) (gm_lkf (lkX12 false K)) 138 [some (.ref B), none, some (.int (x2 + (1 : Int32))), none, none] [] (bM B (mH B (mI s 23 (0 : Int32))) G) sz sl R) : gm_ev N0 K ra_nm (ra_mt K) d none (gm_I cX12_follow) (gm_lkf (lkX12 false K)) 138 [some (.ref B), none, some (.int x2), none, none] [] (bM B (mH B s) G) sz sl R := by
  refine gm_ev.iload_n i158_138 rfl ?_
  refine gm_ev.aload_n i158_139 rfl ?_
  refine gm_ev.getfield (v := .int (s.1 11)) i158_140 rfl (bM_fld (j := 0) (fs := mF B s) rfl rfl) ?_
  refine gm_ev.icmp_ge_f i158_143 c1 ?_
  refine gm_ev.aload_n i158_146 rfl ?_
  refine gm_ev.aload_n i158_147 rfl ?_
  refine gm_ev.getfield (v := .int (s.1 23)) i158_148 rfl (bM_fld (j := 0) (fs := mF B s) rfl rfl) ?_
  refine gm_ev.if_ne_f i158_151 c2 ?_
  refine gm_ev.aload_n i158_154 rfl ?_
  refine gm_ev.iload_n i158_155 rfl ?_
  refine gm_ev.callV gm_mono_run (av := [.int x2]) (r := [.ref B]) (ci := 11) (fs := mF B s) (bM_get (j := 0) rfl) i158_156 rfl rfl rfl (Nat.le_of_ble_eq_true rfl) t4 ?_
  refine gm_ev.ldc2 i158_159 rfl ?_
  refine gm_ev.lcmp i158_162 ?_
  refine gm_ev.if_le_t (tgt := 170) i158_163 (by decide) c5 ?_
  refine gm_ev.iconst (v := 0) i158_170 (by decide) ?_
  refine gm_ev.putfield (M' := (bM B (mH B (mI s 23 (0 : Int32))) G)) i158_171 rfl (bM_put (j := 0) (fs := mF B s) rfl (Nat.le_of_ble_eq_true rfl) hN (gm_fit_z (by decide)) rfl) ?_
  refine gm_ev.iinc (v := x2 + (1 : Int32)) (ls' := [some (.ref B), none, some (.int (x2 + (1 : Int32))), none, none]) i158_174 rfl (by rfl) rfl ?_
  refine gm_ev.goto (tgt := 138) i158_177 (by decide) ?_
  exact k
theorem r_follow_138_fff_at138 {N0 : Nat} {K : Nat → Nat} {d B : Nat} {s : mS} {G : gm_H} {sz sl : Nat} {R : gm_R} {x2 : Int32} {r3 : Int64} (hN : N0 ≤ B) (c1 : ¬ (s.1 11) ≤ x2) (c2 : (s.1 23) = 0) (t4 : gm_to N0 K ra_nm (ra_mt K) d 156 [.ref B, .int x2] (bM B (mH B s) G) sz (.returned (some (.long r3)), bM B (mH B s) G, sz, 0)) (c5 : ¬ (lg_cmp r3 (100000 : Int64)) ≤ 0) (k : gm_ev N0 K ra_nm (ra_mt K) d none (gm_I cX12_follow) (gm_lkf (lkX12 false K)) 138 [some (.ref B), none, some (.int (x2 + (1 : Int32))), none, none] [] (bM B (mH B (mI s 23 (1 : Int32))) G) sz sl R) : gm_ev N0 K ra_nm (ra_mt K) d none (gm_I cX12_follow) (gm_lkf (lkX12 false K)) 138 [some (.ref B), none, some (.int x2), none, none] [] (bM B (mH B s) G) sz sl R := by
  refine gm_ev.iload_n i158_138 rfl ?_
  refine gm_ev.aload_n i158_139 rfl ?_
  refine gm_ev.getfield (v := .int (s.1 11)) i158_140 rfl (bM_fld (j := 0) (fs := mF B s) rfl rfl) ?_
  refine gm_ev.icmp_ge_f i158_143 c1 ?_
  refine gm_ev.aload_n i158_146 rfl ?_
  refine gm_ev.aload_n i158_147 rfl ?_
  refine gm_ev.getfield (v := .int (s.1 23)) i158_148 rfl (bM_fld (j := 0) (fs := mF B s) rfl rfl) ?_
  refine gm_ev.if_ne_f i158_151 c2 ?_
  refine gm_ev.aload_n i158_154 rfl ?_
  refine gm_ev.iload_n i158_155 rfl ?_
  refine gm_ev.callV gm_mono_run (av := [.int x2]) (r := [.ref B]) (ci := 11) (fs := mF B s) (bM_get (j := 0) rfl) i158_156 rfl rfl rfl (Nat.le_of_ble_eq_true rfl) t4 ?_
  refine gm_ev.ldc2 i158_159 rfl ?_
  refine gm_ev.lcmp i158_162 ?_
  refine gm_ev.if_le_f i158_163 c5 ?_
  refine gm_ev.iconst (v := 1) i158_166 (by decide) ?_
  refine gm_ev.goto (tgt := 171) i158_167 (by decide) ?_
  refine gm_ev.putfield (M' := (bM B (mH B (mI s 23 (1 : Int32))) G)) i158_171 rfl (bM_put (j := 0) (fs := mF B s) rfl (Nat.le_of_ble_eq_true rfl) hN (gm_fit_z (by decide)) rfl) ?_
  refine gm_ev.iinc (v := x2 + (1 : Int32)) (ls' := [some (.ref B), none, some (.int (x2 + (1 : Int32))), none, none]) i158_174 rfl (by rfl) rfl ?_
  refine gm_ev.goto (tgt := 138) i158_177 (by decide) ?_
  exact k
theorem r_follow_64_t_at57 {N0 : Nat} {K : Nat → Nat} {d B : Nat} {s : mS} {G : gm_H} {sz sl : Nat} {R : gm_R} {x1 : Int32} {x2 : Int32} {x3 : Int32} (hN : N0 ≤ B) (c1 : x3 = (s.1 20)) (k : gm_ev N0 K ra_nm (ra_mt K) d none (gm_I cX12_follow) (gm_lkf (lkX12 false K)) 57 [some (.ref B), some (.int x1), some (.int (x2 + (1 : Int32))), none, none] [] (bM B (mH B s) G) sz sl R) : gm_ev N0 K ra_nm (ra_mt K) d none (gm_I cX12_follow) (gm_lkf (lkX12 false K)) 64 [some (.ref B), some (.int x1), some (.int x2), some (.int x3), none] [] (bM B (mH B s) G) sz sl R := by
  refine gm_ev.iload_n i158_64 rfl ?_
  refine gm_ev.aload_n i158_65 rfl ?_
  refine gm_ev.getfield (v := .int (s.1 20)) i158_66 rfl (bM_fld (j := 0) (fs := mF B s) rfl rfl) ?_
  refine gm_ev.icmp_eq_t (tgt := 130) i158_69 (by decide) c1 ?_
  refine gm_ev.iinc (v := x2 + (1 : Int32)) (ls' := [some (.ref B), some (.int x1), some (.int (x2 + (1 : Int32))), some (.int x3), none]) i158_130 rfl (by rfl) rfl ?_
  refine gm_ev.goto (tgt := 57) i158_133 (by decide) ?_
  refine gm_ev.le (a := [some (.ref B), some (.int x1), some (.int (x2 + (1 : Int32))), none, none]) (gm_leL.le (show gm_leL _ _ from ⟨rfl, ⟨rfl, ⟨rfl, trivial⟩⟩⟩)) ?_
  exact k
theorem r_follow_64_ft_at57 {N0 : Nat} {K : Nat → Nat} {d B : Nat} {s : mS} {G : gm_H} {sz sl : Nat} {R : gm_R} {x1 : Int32} {x2 : Int32} {x3 : Int32} (hN : N0 ≤ B) (c1 : ¬ x3 = (s.1 20)) (c2 : ¬ (s.1 23) = 0) (k : gm_ev N0 K ra_nm (ra_mt K) d none (gm_I cX12_follow) (gm_lkf (lkX12 false K)) 57 [some (.ref B), some (.int x1), some (.int (x2 + (1 : Int32))), none, none] [] (bM B (mH B s) G) sz sl R) : gm_ev N0 K ra_nm (ra_mt K) d none (gm_I cX12_follow) (gm_lkf (lkX12 false K)) 64 [some (.ref B), some (.int x1), some (.int x2), some (.int x3), none] [] (bM B (mH B s) G) sz sl R := by
  refine gm_ev.iload_n i158_64 rfl ?_
  refine gm_ev.aload_n i158_65 rfl ?_
  refine gm_ev.getfield (v := .int (s.1 20)) i158_66 rfl (bM_fld (j := 0) (fs := mF B s) rfl rfl) ?_
  refine gm_ev.icmp_eq_f i158_69 c1 ?_
  refine gm_ev.aload_n i158_72 rfl ?_
  refine gm_ev.getfield (v := .int (s.1 23)) i158_73 rfl (bM_fld (j := 0) (fs := mF B s) rfl rfl) ?_
  refine gm_ev.if_ne_t (tgt := 130) i158_76 (by decide) c2 ?_
  refine gm_ev.iinc (v := x2 + (1 : Int32)) (ls' := [some (.ref B), some (.int x1), some (.int (x2 + (1 : Int32))), some (.int x3), none]) i158_130 rfl (by rfl) rfl ?_
  refine gm_ev.goto (tgt := 57) i158_133 (by decide) ?_
  refine gm_ev.le (a := [some (.ref B), some (.int x1), some (.int (x2 + (1 : Int32))), none, none]) (gm_leL.le (show gm_leL _ _ from ⟨rfl, ⟨rfl, ⟨rfl, trivial⟩⟩⟩)) ?_
  exact k
theorem r_follow_64_ff_at87 {N0 : Nat} {K : Nat → Nat} {d B : Nat} {s : mS} {G : gm_H} {sz sl : Nat} {R : gm_R} {x1 : Int32} {x2 : Int32} {x3 : Int32} (hN : N0 ≤ B) (c1 : ¬ x3 = (s.1 20)) (c2 : (s.1 23) = 0) (k : gm_ev N0 K ra_nm (ra_mt K) d none (gm_I cX12_follow) (gm_lkf (lkX12 false K)) 87 [some (.ref B), some (.int x1), some (.int x2), some (.int (s.1 20)), some (.int (0 : Int32))] [] (bM B (mH B s) G) sz sl R) : gm_ev N0 K ra_nm (ra_mt K) d none (gm_I cX12_follow) (gm_lkf (lkX12 false K)) 64 [some (.ref B), some (.int x1), some (.int x2), some (.int x3), none] [] (bM B (mH B s) G) sz sl R := by
  refine gm_ev.iload_n i158_64 rfl ?_
  refine gm_ev.aload_n i158_65 rfl ?_
  refine gm_ev.getfield (v := .int (s.1 20)) i158_66 rfl (bM_fld (j := 0) (fs := mF B s) rfl rfl) ?_
  refine gm_ev.icmp_eq_f i158_69 c1 ?_
  refine gm_ev.aload_n i158_72 rfl ?_
  refine gm_ev.getfield (v := .int (s.1 23)) i158_73 rfl (bM_fld (j := 0) (fs := mF B s) rfl rfl) ?_
  refine gm_ev.if_ne_f i158_76 c2 ?_
  refine gm_ev.aload_n i158_79 rfl ?_
  refine gm_ev.getfield (v := .int (s.1 20)) i158_80 rfl (bM_fld (j := 0) (fs := mF B s) rfl rfl) ?_
  refine gm_ev.istore_n (ls' := [some (.ref B), some (.int x1), some (.int x2), some (.int (s.1 20)), none]) i158_83 (Nat.le_of_ble_eq_true rfl) rfl ?_
  refine gm_ev.iconst (v := 0) i158_84 (by decide) ?_
  refine gm_ev.istore (ls' := [some (.ref B), some (.int x1), some (.int x2), some (.int (s.1 20)), some (.int (0 : Int32))]) i158_85 (Nat.le_of_ble_eq_true rfl) rfl ?_
  exact k
theorem r_follow_87_t_at64 {N0 : Nat} {K : Nat → Nat} {d B : Nat} {s : mS} {G : gm_H} {sz sl : Nat} {R : gm_R} {x1 : Int32} {x2 : Int32} {x3 : Int32} {x4 : Int32} (hN : N0 ≤ B) (c1 : (s.1 11) ≤ x4) (k : gm_ev N0 K ra_nm (ra_mt K) d none (gm_I cX12_follow) (gm_lkf (lkX12 false K)) 64 [some (.ref B), some (.int x1), some (.int x2), some (.int x3), none] [] (bM B (mH B s) G) sz sl R) : gm_ev N0 K ra_nm (ra_mt K) d none (gm_I cX12_follow) (gm_lkf (lkX12 false K)) 87 [some (.ref B), some (.int x1), some (.int x2), some (.int x3), some (.int x4)] [] (bM B (mH B s) G) sz sl R := by
  refine gm_ev.iload i158_87 rfl ?_
  refine gm_ev.aload_n i158_89 rfl ?_
  refine gm_ev.getfield (v := .int (s.1 11)) i158_90 rfl (bM_fld (j := 0) (fs := mF B s) rfl rfl) ?_
  refine gm_ev.icmp_ge_t (tgt := 127) i158_93 (by decide) c1 ?_
  refine gm_ev.goto (tgt := 64) i158_127 (by decide) ?_
  refine gm_ev.le (a := [some (.ref B), some (.int x1), some (.int x2), some (.int x3), none]) (gm_leL.le (show gm_leL _ _ from ⟨rfl, ⟨rfl, ⟨rfl, ⟨rfl, trivial⟩⟩⟩⟩)) ?_
  exact k
theorem r_follow_87_ft_at87 {N0 : Nat} {K : Nat → Nat} {d B : Nat} {s : mS} {G : gm_H} {sz sl : Nat} {R : gm_R} {x1 : Int32} {x2 : Int32} {x3 : Int32} {x4 : Int32} {k2 : Nat} {k3 : Nat} (hN : N0 ≤ B) (c1 : ¬ (s.1 11) ≤ x4) (ek2 : ((6 : Int32) * x4) = nI k2) (lk2 : k2 < 144) (ek3 : (s.2.1 14 k2) = nI k3) (lk3 : k3 < 512) (c4 : ¬ (s.2.1 19 k3) = x2) (k : gm_ev N0 K ra_nm (ra_mt K) d none (gm_I cX12_follow) (gm_lkf (lkX12 false K)) 87 [some (.ref B), some (.int x1), some (.int x2), some (.int x3), some (.int (x4 + (1 : Int32)))] [] (bM B (mH B s) G) sz sl R) : gm_ev N0 K ra_nm (ra_mt K) d none (gm_I cX12_follow) (gm_lkf (lkX12 false K)) 87 [some (.ref B), some (.int x1), some (.int x2), some (.int x3), some (.int x4)] [] (bM B (mH B s) G) sz sl R := by
  refine gm_ev.iload i158_87 rfl ?_
  refine gm_ev.aload_n i158_89 rfl ?_
  refine gm_ev.getfield (v := .int (s.1 11)) i158_90 rfl (bM_fld (j := 0) (fs := mF B s) rfl rfl) ?_
  refine gm_ev.icmp_ge_f i158_93 c1 ?_
  refine gm_ev.aload_n i158_96 rfl ?_
  refine gm_ev.getfield (v := .ref (B + 11)) i158_97 rfl (bM_fld (j := 0) (fs := mF B s) rfl rfl) ?_
  refine gm_ev.aload_n i158_100 rfl ?_
  refine gm_ev.getfield (v := .ref (B + 6)) i158_101 rfl (bM_fld (j := 0) (fs := mF B s) rfl rfl) ?_
  refine gm_ev.bipush (v := 6) i158_104 (by decide) ?_
  refine gm_ev.iload i158_106 rfl ?_
  refine gm_ev.imul i158_108 ?_
  refine gm_ev.iaload i158_109 (bM_ai (j := 6) (n := 144) (f := s.2.1 14) rfl ek2 lk2 (by decide)) ?_
  refine gm_ev.iaload i158_110 (bM_ai (j := 11) (n := 512) (f := s.2.1 19) rfl ek3 lk3 (by decide)) ?_
  refine gm_ev.iload_n i158_111 rfl ?_
  refine gm_ev.icmp_ne_t (tgt := 121) i158_112 (by decide) c4 ?_
  refine gm_ev.iinc (v := x4 + (1 : Int32)) (ls' := [some (.ref B), some (.int x1), some (.int x2), some (.int x3), some (.int (x4 + (1 : Int32)))]) i158_121 rfl (by rfl) rfl ?_
  refine gm_ev.goto (tgt := 87) i158_124 (by decide) ?_
  exact k
theorem r_follow_87_ff_at87 {N0 : Nat} {K : Nat → Nat} {d B : Nat} {s : mS} {G : gm_H} {sz sl : Nat} {R : gm_R} {x1 : Int32} {x2 : Int32} {x3 : Int32} {x4 : Int32} {k2 : Nat} {k3 : Nat} {s6 : mS} (hN : N0 ≤ B) (c1 : ¬ (s.1 11) ≤ x4) (ek2 : ((6 : Int32) * x4) = nI k2) (lk2 : k2 < 144) (ek3 : (s.2.1 14 k2) = nI k3) (lk3 : k3 < 512) (c4 : (s.2.1 19 k3) = x2) (t5 : gm_to N0 K ra_nm (ra_mt K) d 157 [.ref B, .int x4] (bM B (mH B s) G) sz (.returned none, bM B (mH B s6) G, sz, 0)) (k : gm_ev N0 K ra_nm (ra_mt K) d none (gm_I cX12_follow) (gm_lkf (lkX12 false K)) 87 [some (.ref B), some (.int x1), some (.int x2), some (.int x3), some (.int (x4 + (1 : Int32)))] [] (bM B (mH B s6) G) sz sl R) : gm_ev N0 K ra_nm (ra_mt K) d none (gm_I cX12_follow) (gm_lkf (lkX12 false K)) 87 [some (.ref B), some (.int x1), some (.int x2), some (.int x3), some (.int x4)] [] (bM B (mH B s) G) sz sl R := by
  refine gm_ev.iload i158_87 rfl ?_
  refine gm_ev.aload_n i158_89 rfl ?_
  refine gm_ev.getfield (v := .int (s.1 11)) i158_90 rfl (bM_fld (j := 0) (fs := mF B s) rfl rfl) ?_
  refine gm_ev.icmp_ge_f i158_93 c1 ?_
  refine gm_ev.aload_n i158_96 rfl ?_
  refine gm_ev.getfield (v := .ref (B + 11)) i158_97 rfl (bM_fld (j := 0) (fs := mF B s) rfl rfl) ?_
  refine gm_ev.aload_n i158_100 rfl ?_
  refine gm_ev.getfield (v := .ref (B + 6)) i158_101 rfl (bM_fld (j := 0) (fs := mF B s) rfl rfl) ?_
  refine gm_ev.bipush (v := 6) i158_104 (by decide) ?_
  refine gm_ev.iload i158_106 rfl ?_
  refine gm_ev.imul i158_108 ?_
  refine gm_ev.iaload i158_109 (bM_ai (j := 6) (n := 144) (f := s.2.1 14) rfl ek2 lk2 (by decide)) ?_
  refine gm_ev.iaload i158_110 (bM_ai (j := 11) (n := 512) (f := s.2.1 19) rfl ek3 lk3 (by decide)) ?_
  refine gm_ev.iload_n i158_111 rfl ?_
  refine gm_ev.icmp_ne_f i158_112 c4 ?_
  refine gm_ev.aload_n i158_115 rfl ?_
  refine gm_ev.iload i158_116 rfl ?_
  refine gm_ev.callV gm_mono_run (av := [.int x4]) (r := []) (ci := 11) (fs := mF B s) (bM_get (j := 0) rfl) i158_118 rfl rfl rfl (Nat.le_of_ble_eq_true rfl) t5 ?_
  refine gm_ev.iinc (v := x4 + (1 : Int32)) (ls' := [some (.ref B), some (.int x1), some (.int x2), some (.int x3), some (.int (x4 + (1 : Int32)))]) i158_121 rfl (by rfl) rfl ?_
  refine gm_ev.goto (tgt := 87) i158_124 (by decide) ?_
  exact k
theorem r_nothing_0_ {N0 : Nat} {K : Nat → Nat} {d B : Nat} {s : mS} {G : gm_H} {sz sl : Nat}  (hN : N0 ≤ B)  : gm_ev N0 K ra_nm (ra_mt K) d none (gm_I cX12_nothing) (gm_lkf (lkX12 false K)) 0 [some (.ref B)] [] (bM B (mH B s) G) sz sl (.returned none, (bM B (mH B (mI (mI (mI s 20 (0 : Int32)) 23 (0 : Int32)) 24 (0 : Int32))) G), sz, sl) := by
  refine gm_ev.aload_n i159_0 rfl ?_
  refine gm_ev.iconst (v := 0) i159_1 (by decide) ?_
  refine gm_ev.putfield (M' := (bM B (mH B (mI s 20 (0 : Int32))) G)) i159_2 rfl (bM_put (j := 0) (fs := mF B s) rfl (Nat.le_of_ble_eq_true rfl) hN (gm_fit_i _) rfl) ?_
  refine gm_ev.aload_n i159_5 rfl ?_
  refine gm_ev.iconst (v := 0) i159_6 (by decide) ?_
  refine gm_ev.putfield (M' := (bM B (mH B (mI (mI s 20 (0 : Int32)) 23 (0 : Int32))) G)) i159_7 rfl (bM_put (j := 0) (fs := mF B (mI s 20 (0 : Int32))) rfl (Nat.le_of_ble_eq_true rfl) hN (gm_fit_z (by decide)) rfl) ?_
  refine gm_ev.aload_n i159_10 rfl ?_
  refine gm_ev.iconst (v := 0) i159_11 (by decide) ?_
  refine gm_ev.putfield (M' := (bM B (mH B (mI (mI (mI s 20 (0 : Int32)) 23 (0 : Int32)) 24 (0 : Int32))) G)) i159_12 rfl (bM_put (j := 0) (fs := mF B (mI (mI s 20 (0 : Int32)) 23 (0 : Int32))) rfl (Nat.le_of_ble_eq_true rfl) hN (gm_fit_z (by decide)) rfl) ?_
  exact gm_ev.vret i159_15 rfl
theorem r_inState_now_0__at7 {N0 : Nat} {K : Nat → Nat} {d B : Nat} {s : mS} {G : gm_H} {sz sl : Nat} {R : gm_R} {p1 : Int32} {p2 : Int32} {s2 : mS} (hN : N0 ≤ B) (t1 : gm_to N0 K ra_nm (ra_mt K) d 159 [.ref B] (bM B (mH B s) G) sz (.returned none, bM B (mH B s2) G, sz, 0)) (k : gm_ev N0 K ra_nm (ra_mt K) d none (gm_I cX12_inState) (gm_lkf (lkX12 false K)) 7 [some (.ref B), some (.ref (B + 17)), some (.int p1), some (.int p2), some (.int (0 : Int32))] [] (bM B (mH B s2) G) sz sl R) : gm_ev N0 K ra_nm (ra_mt K) d none (gm_I cX12_inState) (gm_lkf (lkX12 false K)) 0 [some (.ref B), some (.ref (B + 17)), some (.int p1), some (.int p2), none] [] (bM B (mH B s) G) sz sl R := by
  refine gm_ev.aload_n i160_0 rfl ?_
  refine gm_ev.callV gm_mono_run (av := []) (r := []) (ci := 11) (fs := mF B s) (bM_get (j := 0) rfl) i160_1 rfl rfl rfl (Nat.le_of_ble_eq_true rfl) t1 ?_
  refine gm_ev.iconst (v := 0) i160_4 (by decide) ?_
  refine gm_ev.istore (ls' := [some (.ref B), some (.ref (B + 17)), some (.int p1), some (.int p2), some (.int (0 : Int32))]) i160_5 (Nat.le_of_ble_eq_true rfl) rfl ?_
  exact k
theorem r_inState_now_7_t {N0 : Nat} {K : Nat → Nat} {d B : Nat} {s : mS} {G : gm_H} {sz sl : Nat} {x2 : Int32} {x3 : Int32} {x4 : Int32} {s3 : mS} (hN : N0 ≤ B) (c1 : x3 ≤ x4) (t2 : gm_to N0 K ra_nm (ra_mt K) d 158 [.ref B] (bM B (mH B s) G) sz (.returned none, bM B (mH B s3) G, sz, 0)) : gm_ev N0 K ra_nm (ra_mt K) d none (gm_I cX12_inState) (gm_lkf (lkX12 false K)) 7 [some (.ref B), some (.ref (B + 17)), some (.int x2), some (.int x3), some (.int x4)] [] (bM B (mH B s) G) sz sl (.returned none, (bM B (mH B s3) G), sz, sl) := by
  refine gm_ev.iload i160_7 rfl ?_
  refine gm_ev.iload_n i160_9 rfl ?_
  refine gm_ev.icmp_ge_t (tgt := 34) i160_10 (by decide) c1 ?_
  refine gm_ev.aload_n i160_34 rfl ?_
  refine gm_ev.callV gm_mono_run (av := []) (r := []) (ci := 11) (fs := mF B s) (bM_get (j := 0) rfl) i160_35 rfl rfl rfl (Nat.le_of_ble_eq_true rfl) t2 ?_
  exact gm_ev.vret i160_38 rfl
theorem r_inState_now_7_f_at7 {N0 : Nat} {K : Nat → Nat} {d B : Nat} {s : mS} {G : gm_H} {sz sl : Nat} {R : gm_R} {x2 : Int32} {x3 : Int32} {x4 : Int32} {k2 : Nat} {s4 : mS} (hN : N0 ≤ B) (c1 : ¬ x3 ≤ x4) (ek2 : (x2 + x4) = nI k2) (lk2 : k2 < 24) (t3 : gm_to N0 K ra_nm (ra_mt K) d 145 [.ref B, .int (337 : Int32), .long (s.2.2 29 k2), .long (0 : Int64), .long (0 : Int64)] (bM B (mH B s) G) sz (.returned none, bM B (mH B s4) G, sz, 0)) (k : gm_ev N0 K ra_nm (ra_mt K) d none (gm_I cX12_inState) (gm_lkf (lkX12 false K)) 7 [some (.ref B), some (.ref (B + 17)), some (.int x2), some (.int x3), some (.int (x4 + (1 : Int32)))] [] (bM B (mH B s4) G) sz sl R) : gm_ev N0 K ra_nm (ra_mt K) d none (gm_I cX12_inState) (gm_lkf (lkX12 false K)) 7 [some (.ref B), some (.ref (B + 17)), some (.int x2), some (.int x3), some (.int x4)] [] (bM B (mH B s) G) sz sl R := by
  refine gm_ev.iload i160_7 rfl ?_
  refine gm_ev.iload_n i160_9 rfl ?_
  refine gm_ev.icmp_ge_f i160_10 c1 ?_
  refine gm_ev.aload_n i160_13 rfl ?_
  refine gm_ev.sipush (v := 337) i160_14 (by decide) ?_
  refine gm_ev.aload_n i160_17 rfl ?_
  refine gm_ev.iload_n i160_18 rfl ?_
  refine gm_ev.iload i160_19 rfl ?_
  refine gm_ev.iadd i160_21 ?_
  refine gm_ev.laload i160_22 (bM_al (j := 17) (n := 24) (fl := s.2.2 29) rfl ek2 lk2 (by decide)) ?_
  refine gm_ev.lconst (v := 0) i160_23 (by decide) ?_
  refine gm_ev.lconst (v := 0) i160_24 (by decide) ?_
  refine gm_ev.callV gm_mono_run (av := [.int (337 : Int32), .long (s.2.2 29 k2), .long (0 : Int64), .long (0 : Int64)]) (r := []) (ci := 11) (fs := mF B s) (bM_get (j := 0) rfl) i160_25 rfl rfl rfl (Nat.le_of_ble_eq_true rfl) t3 ?_
  refine gm_ev.iinc (v := x4 + (1 : Int32)) (ls' := [some (.ref B), some (.ref (B + 17)), some (.int x2), some (.int x3), some (.int (x4 + (1 : Int32)))]) i160_28 rfl (by rfl) rfl ?_
  refine gm_ev.goto (tgt := 7) i160_31 (by decide) ?_
  exact k
theorem r_inState_next_0__at7 {N0 : Nat} {K : Nat → Nat} {d B : Nat} {s : mS} {G : gm_H} {sz sl : Nat} {R : gm_R} {p1 : Int32} {p2 : Int32} {s2 : mS} (hN : N0 ≤ B) (t1 : gm_to N0 K ra_nm (ra_mt K) d 159 [.ref B] (bM B (mH B s) G) sz (.returned none, bM B (mH B s2) G, sz, 0)) (k : gm_ev N0 K ra_nm (ra_mt K) d none (gm_I cX12_inState) (gm_lkf (lkX12 false K)) 7 [some (.ref B), some (.ref (B + 19)), some (.int p1), some (.int p2), some (.int (0 : Int32))] [] (bM B (mH B s2) G) sz sl R) : gm_ev N0 K ra_nm (ra_mt K) d none (gm_I cX12_inState) (gm_lkf (lkX12 false K)) 0 [some (.ref B), some (.ref (B + 19)), some (.int p1), some (.int p2), none] [] (bM B (mH B s) G) sz sl R := by
  refine gm_ev.aload_n i160_0 rfl ?_
  refine gm_ev.callV gm_mono_run (av := []) (r := []) (ci := 11) (fs := mF B s) (bM_get (j := 0) rfl) i160_1 rfl rfl rfl (Nat.le_of_ble_eq_true rfl) t1 ?_
  refine gm_ev.iconst (v := 0) i160_4 (by decide) ?_
  refine gm_ev.istore (ls' := [some (.ref B), some (.ref (B + 19)), some (.int p1), some (.int p2), some (.int (0 : Int32))]) i160_5 (Nat.le_of_ble_eq_true rfl) rfl ?_
  exact k
theorem r_inState_next_7_t {N0 : Nat} {K : Nat → Nat} {d B : Nat} {s : mS} {G : gm_H} {sz sl : Nat} {x2 : Int32} {x3 : Int32} {x4 : Int32} {s3 : mS} (hN : N0 ≤ B) (c1 : x3 ≤ x4) (t2 : gm_to N0 K ra_nm (ra_mt K) d 158 [.ref B] (bM B (mH B s) G) sz (.returned none, bM B (mH B s3) G, sz, 0)) : gm_ev N0 K ra_nm (ra_mt K) d none (gm_I cX12_inState) (gm_lkf (lkX12 false K)) 7 [some (.ref B), some (.ref (B + 19)), some (.int x2), some (.int x3), some (.int x4)] [] (bM B (mH B s) G) sz sl (.returned none, (bM B (mH B s3) G), sz, sl) := by
  refine gm_ev.iload i160_7 rfl ?_
  refine gm_ev.iload_n i160_9 rfl ?_
  refine gm_ev.icmp_ge_t (tgt := 34) i160_10 (by decide) c1 ?_
  refine gm_ev.aload_n i160_34 rfl ?_
  refine gm_ev.callV gm_mono_run (av := []) (r := []) (ci := 11) (fs := mF B s) (bM_get (j := 0) rfl) i160_35 rfl rfl rfl (Nat.le_of_ble_eq_true rfl) t2 ?_
  exact gm_ev.vret i160_38 rfl
theorem r_inState_next_7_f_at7 {N0 : Nat} {K : Nat → Nat} {d B : Nat} {s : mS} {G : gm_H} {sz sl : Nat} {R : gm_R} {x2 : Int32} {x3 : Int32} {x4 : Int32} {k2 : Nat} {s4 : mS} (hN : N0 ≤ B) (c1 : ¬ x3 ≤ x4) (ek2 : (x2 + x4) = nI k2) (lk2 : k2 < 24) (t3 : gm_to N0 K ra_nm (ra_mt K) d 145 [.ref B, .int (337 : Int32), .long (s.2.2 33 k2), .long (0 : Int64), .long (0 : Int64)] (bM B (mH B s) G) sz (.returned none, bM B (mH B s4) G, sz, 0)) (k : gm_ev N0 K ra_nm (ra_mt K) d none (gm_I cX12_inState) (gm_lkf (lkX12 false K)) 7 [some (.ref B), some (.ref (B + 19)), some (.int x2), some (.int x3), some (.int (x4 + (1 : Int32)))] [] (bM B (mH B s4) G) sz sl R) : gm_ev N0 K ra_nm (ra_mt K) d none (gm_I cX12_inState) (gm_lkf (lkX12 false K)) 7 [some (.ref B), some (.ref (B + 19)), some (.int x2), some (.int x3), some (.int x4)] [] (bM B (mH B s) G) sz sl R := by
  refine gm_ev.iload i160_7 rfl ?_
  refine gm_ev.iload_n i160_9 rfl ?_
  refine gm_ev.icmp_ge_f i160_10 c1 ?_
  refine gm_ev.aload_n i160_13 rfl ?_
  refine gm_ev.sipush (v := 337) i160_14 (by decide) ?_
  refine gm_ev.aload_n i160_17 rfl ?_
  refine gm_ev.iload_n i160_18 rfl ?_
  refine gm_ev.iload i160_19 rfl ?_
  refine gm_ev.iadd i160_21 ?_
  refine gm_ev.laload i160_22 (bM_al (j := 19) (n := 24) (fl := s.2.2 33) rfl ek2 lk2 (by decide)) ?_
  refine gm_ev.lconst (v := 0) i160_23 (by decide) ?_
  refine gm_ev.lconst (v := 0) i160_24 (by decide) ?_
  refine gm_ev.callV gm_mono_run (av := [.int (337 : Int32), .long (s.2.2 33 k2), .long (0 : Int64), .long (0 : Int64)]) (r := []) (ci := 11) (fs := mF B s) (bM_get (j := 0) rfl) i160_25 rfl rfl rfl (Nat.le_of_ble_eq_true rfl) t3 ?_
  refine gm_ev.iinc (v := x4 + (1 : Int32)) (ls' := [some (.ref B), some (.ref (B + 19)), some (.int x2), some (.int x3), some (.int (x4 + (1 : Int32)))]) i160_28 rfl (by rfl) rfl ?_
  refine gm_ev.goto (tgt := 7) i160_31 (by decide) ?_
  exact k
theorem r_inState_stateTerm_0__at7 {N0 : Nat} {K : Nat → Nat} {d B : Nat} {s : mS} {G : gm_H} {sz sl : Nat} {R : gm_R} {p1 : Int32} {p2 : Int32} {s2 : mS} (hN : N0 ≤ B) (t1 : gm_to N0 K ra_nm (ra_mt K) d 159 [.ref B] (bM B (mH B s) G) sz (.returned none, bM B (mH B s2) G, sz, 0)) (k : gm_ev N0 K ra_nm (ra_mt K) d none (gm_I cX12_inState) (gm_lkf (lkX12 false K)) 7 [some (.ref B), some (.ref (B + 24)), some (.int p1), some (.int p2), some (.int (0 : Int32))] [] (bM B (mH B s2) G) sz sl R) : gm_ev N0 K ra_nm (ra_mt K) d none (gm_I cX12_inState) (gm_lkf (lkX12 false K)) 0 [some (.ref B), some (.ref (B + 24)), some (.int p1), some (.int p2), none] [] (bM B (mH B s) G) sz sl R := by
  refine gm_ev.aload_n i160_0 rfl ?_
  refine gm_ev.callV gm_mono_run (av := []) (r := []) (ci := 11) (fs := mF B s) (bM_get (j := 0) rfl) i160_1 rfl rfl rfl (Nat.le_of_ble_eq_true rfl) t1 ?_
  refine gm_ev.iconst (v := 0) i160_4 (by decide) ?_
  refine gm_ev.istore (ls' := [some (.ref B), some (.ref (B + 24)), some (.int p1), some (.int p2), some (.int (0 : Int32))]) i160_5 (Nat.le_of_ble_eq_true rfl) rfl ?_
  exact k
theorem r_inState_stateTerm_7_t {N0 : Nat} {K : Nat → Nat} {d B : Nat} {s : mS} {G : gm_H} {sz sl : Nat} {x2 : Int32} {x3 : Int32} {x4 : Int32} {s3 : mS} (hN : N0 ≤ B) (c1 : x3 ≤ x4) (t2 : gm_to N0 K ra_nm (ra_mt K) d 158 [.ref B] (bM B (mH B s) G) sz (.returned none, bM B (mH B s3) G, sz, 0)) : gm_ev N0 K ra_nm (ra_mt K) d none (gm_I cX12_inState) (gm_lkf (lkX12 false K)) 7 [some (.ref B), some (.ref (B + 24)), some (.int x2), some (.int x3), some (.int x4)] [] (bM B (mH B s) G) sz sl (.returned none, (bM B (mH B s3) G), sz, sl) := by
  refine gm_ev.iload i160_7 rfl ?_
  refine gm_ev.iload_n i160_9 rfl ?_
  refine gm_ev.icmp_ge_t (tgt := 34) i160_10 (by decide) c1 ?_
  refine gm_ev.aload_n i160_34 rfl ?_
  refine gm_ev.callV gm_mono_run (av := []) (r := []) (ci := 11) (fs := mF B s) (bM_get (j := 0) rfl) i160_35 rfl rfl rfl (Nat.le_of_ble_eq_true rfl) t2 ?_
  exact gm_ev.vret i160_38 rfl
theorem r_inState_stateTerm_7_f_at7 {N0 : Nat} {K : Nat → Nat} {d B : Nat} {s : mS} {G : gm_H} {sz sl : Nat} {R : gm_R} {x2 : Int32} {x3 : Int32} {x4 : Int32} {k2 : Nat} {s4 : mS} (hN : N0 ≤ B) (c1 : ¬ x3 ≤ x4) (ek2 : (x2 + x4) = nI k2) (lk2 : k2 < 1440) (t3 : gm_to N0 K ra_nm (ra_mt K) d 145 [.ref B, .int (337 : Int32), .long (s.2.2 44 k2), .long (0 : Int64), .long (0 : Int64)] (bM B (mH B s) G) sz (.returned none, bM B (mH B s4) G, sz, 0)) (k : gm_ev N0 K ra_nm (ra_mt K) d none (gm_I cX12_inState) (gm_lkf (lkX12 false K)) 7 [some (.ref B), some (.ref (B + 24)), some (.int x2), some (.int x3), some (.int (x4 + (1 : Int32)))] [] (bM B (mH B s4) G) sz sl R) : gm_ev N0 K ra_nm (ra_mt K) d none (gm_I cX12_inState) (gm_lkf (lkX12 false K)) 7 [some (.ref B), some (.ref (B + 24)), some (.int x2), some (.int x3), some (.int x4)] [] (bM B (mH B s) G) sz sl R := by
  refine gm_ev.iload i160_7 rfl ?_
  refine gm_ev.iload_n i160_9 rfl ?_
  refine gm_ev.icmp_ge_f i160_10 c1 ?_
  refine gm_ev.aload_n i160_13 rfl ?_
  refine gm_ev.sipush (v := 337) i160_14 (by decide) ?_
  refine gm_ev.aload_n i160_17 rfl ?_
  refine gm_ev.iload_n i160_18 rfl ?_
  refine gm_ev.iload i160_19 rfl ?_
  refine gm_ev.iadd i160_21 ?_
  refine gm_ev.laload i160_22 (bM_al (j := 24) (n := 1440) (fl := s.2.2 44) rfl ek2 lk2 (by decide)) ?_
  refine gm_ev.lconst (v := 0) i160_23 (by decide) ?_
  refine gm_ev.lconst (v := 0) i160_24 (by decide) ?_
  refine gm_ev.callV gm_mono_run (av := [.int (337 : Int32), .long (s.2.2 44 k2), .long (0 : Int64), .long (0 : Int64)]) (r := []) (ci := 11) (fs := mF B s) (bM_get (j := 0) rfl) i160_25 rfl rfl rfl (Nat.le_of_ble_eq_true rfl) t3 ?_
  refine gm_ev.iinc (v := x4 + (1 : Int32)) (ls' := [some (.ref B), some (.ref (B + 24)), some (.int x2), some (.int x3), some (.int (x4 + (1 : Int32)))]) i160_28 rfl (by rfl) rfl ?_
  refine gm_ev.goto (tgt := 7) i160_31 (by decide) ?_
  exact k
theorem r_look_0_t {N0 : Nat} {K : Nat → Nat} {d B : Nat} {s : mS} {G : gm_H} {sz sl : Nat}  (hN : N0 ≤ B) (c1 : ¬ (s.1 24) = 0) : gm_ev N0 K ra_nm (ra_mt K) d none (gm_I cX12_look) (gm_lkf (lkX12 false K)) 0 [some (.ref B)] [] (bM B (mH B s) G) sz sl (.returned none, (bM B (mH B (mI s 24 (1 : Int32))) G), sz, sl) := by
  refine gm_ev.aload_n i161_0 rfl ?_
  refine gm_ev.getfield (v := .int (s.1 24)) i161_1 rfl (bM_fld (j := 0) (fs := mF B s) rfl rfl) ?_
  refine gm_ev.if_ne_t (tgt := 20) i161_4 (by decide) c1 ?_
  refine gm_ev.aload_n i161_20 rfl ?_
  refine gm_ev.iconst (v := 1) i161_21 (by decide) ?_
  refine gm_ev.putfield (M' := (bM B (mH B (mI s 24 (1 : Int32))) G)) i161_22 rfl (bM_put (j := 0) (fs := mF B s) rfl (Nat.le_of_ble_eq_true rfl) hN (gm_fit_z (by decide)) rfl) ?_
  exact gm_ev.vret i161_25 rfl
theorem r_look_0_f {N0 : Nat} {K : Nat → Nat} {d B : Nat} {s : mS} {G : gm_H} {sz sl : Nat} {s3 : mS} (hN : N0 ≤ B) (c1 : (s.1 24) = 0) (t2 : gm_to N0 K ra_nm (ra_mt K) d 160 [.ref B, .ref (B + 17), .int (0 : Int32), .int (s.1 30)] (bM B (mH B s) G) sz (.returned none, bM B (mH B s3) G, sz, 0)) : gm_ev N0 K ra_nm (ra_mt K) d none (gm_I cX12_look) (gm_lkf (lkX12 false K)) 0 [some (.ref B)] [] (bM B (mH B s) G) sz sl (.returned none, (bM B (mH B (mI s3 24 (1 : Int32))) G), sz, sl) := by
  refine gm_ev.aload_n i161_0 rfl ?_
  refine gm_ev.getfield (v := .int (s.1 24)) i161_1 rfl (bM_fld (j := 0) (fs := mF B s) rfl rfl) ?_
  refine gm_ev.if_ne_f i161_4 c1 ?_
  refine gm_ev.aload_n i161_7 rfl ?_
  refine gm_ev.aload_n i161_8 rfl ?_
  refine gm_ev.getfield (v := .ref (B + 17)) i161_9 rfl (bM_fld (j := 0) (fs := mF B s) rfl rfl) ?_
  refine gm_ev.iconst (v := 0) i161_12 (by decide) ?_
  refine gm_ev.aload_n i161_13 rfl ?_
  refine gm_ev.getfield (v := .int (s.1 30)) i161_14 rfl (bM_fld (j := 0) (fs := mF B s) rfl rfl) ?_
  refine gm_ev.callV gm_mono_run (av := [.ref (B + 17), .int (0 : Int32), .int (s.1 30)]) (r := []) (ci := 11) (fs := mF B s) (bM_get (j := 0) rfl) i161_17 rfl rfl rfl (Nat.le_of_ble_eq_true rfl) t2 ?_
  refine gm_ev.aload_n i161_20 rfl ?_
  refine gm_ev.iconst (v := 1) i161_21 (by decide) ?_
  refine gm_ev.putfield (M' := (bM B (mH B (mI s3 24 (1 : Int32))) G)) i161_22 rfl (bM_put (j := 0) (fs := mF B s3) rfl (Nat.le_of_ble_eq_true rfl) hN (gm_fit_z (by decide)) rfl) ?_
  exact gm_ev.vret i161_25 rfl
theorem r_collect_0__at8 {N0 : Nat} {K : Nat → Nat} {d B : Nat} {s : mS} {G : gm_H} {sz sl : Nat} {R : gm_R} {p0 : Int32} {p1 : Int64} {p2 : Int32} (hN : N0 ≤ B)  (k : gm_ev N0 K ra_nm (ra_mt K) d none (gm_I cX12_collect) (gm_lkf (lkX12 false K)) 8 [some (.ref B), some (.int p0), some (.long p1), none, some (.int p2), some (.int (0 : Int32)), none, none, none] [] (bM B (mH B (mI s 38 (0 : Int32))) G) sz sl R) : gm_ev N0 K ra_nm (ra_mt K) d none (gm_I cX12_collect) (gm_lkf (lkX12 false K)) 0 [some (.ref B), some (.int p0), some (.long p1), none, some (.int p2), none, none, none, none] [] (bM B (mH B s) G) sz sl R := by
  refine gm_ev.aload_n i162_0 rfl ?_
  refine gm_ev.iconst (v := 0) i162_1 (by decide) ?_
  refine gm_ev.putfield (M' := (bM B (mH B (mI s 38 (0 : Int32))) G)) i162_2 rfl (bM_put (j := 0) (fs := mF B s) rfl (Nat.le_of_ble_eq_true rfl) hN (gm_fit_i _) rfl) ?_
  refine gm_ev.iconst (v := 0) i162_5 (by decide) ?_
  refine gm_ev.istore (ls' := [some (.ref B), some (.int p0), some (.long p1), none, some (.int p2), some (.int (0 : Int32)), none, none, none]) i162_6 (Nat.le_of_ble_eq_true rfl) rfl ?_
  exact k
theorem r_collect_8_t {N0 : Nat} {K : Nat → Nat} {d B : Nat} {s : mS} {G : gm_H} {sz sl : Nat} {x1 : Int32} {y2 : Int64} {x4 : Int32} {x5 : Int32} (hN : N0 ≤ B) (c1 : (s.1 20) ≤ x5) : gm_ev N0 K ra_nm (ra_mt K) d none (gm_I cX12_collect) (gm_lkf (lkX12 false K)) 8 [some (.ref B), some (.int x1), some (.long y2), none, some (.int x4), some (.int x5), none, none, none] [] (bM B (mH B s) G) sz sl (.returned none, (bM B (mH B s) G), sz, sl) := by
  refine gm_ev.iload i162_8 rfl ?_
  refine gm_ev.aload_n i162_10 rfl ?_
  refine gm_ev.getfield (v := .int (s.1 20)) i162_11 rfl (bM_fld (j := 0) (fs := mF B s) rfl rfl) ?_
  refine gm_ev.icmp_ge_t (tgt := 135) i162_14 (by decide) c1 ?_
  exact gm_ev.vret i162_135 rfl
theorem r_collect_8_ft_at8 {N0 : Nat} {K : Nat → Nat} {d B : Nat} {s : mS} {G : gm_H} {sz sl : Nat} {R : gm_R} {x1 : Int32} {y2 : Int64} {x4 : Int32} {x5 : Int32} {k2 : Nat} (hN : N0 ≤ B) (c1 : ¬ (s.1 20) ≤ x5) (ek2 : x5 = nI k2) (lk2 : k2 < 201) (c3 : ¬ (s.2.1 21 k2) = x1) (k : gm_ev N0 K ra_nm (ra_mt K) d none (gm_I cX12_collect) (gm_lkf (lkX12 false K)) 8 [some (.ref B), some (.int x1), some (.long y2), none, some (.int x4), some (.int (x5 + (1 : Int32))), none, none, none] [] (bM B (mH B s) G) sz sl R) : gm_ev N0 K ra_nm (ra_mt K) d none (gm_I cX12_collect) (gm_lkf (lkX12 false K)) 8 [some (.ref B), some (.int x1), some (.long y2), none, some (.int x4), some (.int x5), none, none, none] [] (bM B (mH B s) G) sz sl R := by
  refine gm_ev.iload i162_8 rfl ?_
  refine gm_ev.aload_n i162_10 rfl ?_
  refine gm_ev.getfield (v := .int (s.1 20)) i162_11 rfl (bM_fld (j := 0) (fs := mF B s) rfl rfl) ?_
  refine gm_ev.icmp_ge_f i162_14 c1 ?_
  refine gm_ev.aload_n i162_17 rfl ?_
  refine gm_ev.getfield (v := .ref (B + 12)) i162_18 rfl (bM_fld (j := 0) (fs := mF B s) rfl rfl) ?_
  refine gm_ev.iload i162_21 rfl ?_
  refine gm_ev.iaload i162_23 (bM_ai (j := 12) (n := 201) (f := s.2.1 21) rfl ek2 lk2 (by decide)) ?_
  refine gm_ev.iload_n i162_24 rfl ?_
  refine gm_ev.icmp_ne_t (tgt := 129) i162_25 (by decide) c3 ?_
  refine gm_ev.iinc (v := x5 + (1 : Int32)) (ls' := [some (.ref B), some (.int x1), some (.long y2), none, some (.int x4), some (.int (x5 + (1 : Int32))), none, none, none]) i162_129 rfl (by rfl) rfl ?_
  refine gm_ev.goto (tgt := 8) i162_132 (by decide) ?_
  exact k
theorem r_collect_8_fft_at68 {N0 : Nat} {K : Nat → Nat} {d B : Nat} {s : mS} {G : gm_H} {sz sl : Nat} {R : gm_R} {x1 : Int32} {y2 : Int64} {x4 : Int32} {x5 : Int32} {k2 : Nat} {k5 : Nat} (hN : N0 ≤ B) (c1 : ¬ (s.1 20) ≤ x5) (ek2 : x5 = nI k2) (lk2 : k2 < 201) (c3 : (s.2.1 21 k2) = x1) (c4 : (lg_cmp y2 (0 : Int64)) = 0) (ek5 : (((3 : Int32) * x5) + x4) = nI k5) (lk5 : k5 < 603) (k : gm_ev N0 K ra_nm (ra_mt K) d none (gm_I cX12_collect) (gm_lkf (lkX12 false K)) 68 [some (.ref B), some (.int x1), some (.long y2), none, some (.int x4), some (.int x5), some (.long (s.2.2 22 k5)), none, some (.int (s.1 38))] [] (bM B (mH B s) G) sz sl R) : gm_ev N0 K ra_nm (ra_mt K) d none (gm_I cX12_collect) (gm_lkf (lkX12 false K)) 8 [some (.ref B), some (.int x1), some (.long y2), none, some (.int x4), some (.int x5), none, none, none] [] (bM B (mH B s) G) sz sl R := by
  refine gm_ev.iload i162_8 rfl ?_
  refine gm_ev.aload_n i162_10 rfl ?_
  refine gm_ev.getfield (v := .int (s.1 20)) i162_11 rfl (bM_fld (j := 0) (fs := mF B s) rfl rfl) ?_
  refine gm_ev.icmp_ge_f i162_14 c1 ?_
  refine gm_ev.aload_n i162_17 rfl ?_
  refine gm_ev.getfield (v := .ref (B + 12)) i162_18 rfl (bM_fld (j := 0) (fs := mF B s) rfl rfl) ?_
  refine gm_ev.iload i162_21 rfl ?_
  refine gm_ev.iaload i162_23 (bM_ai (j := 12) (n := 201) (f := s.2.1 21) rfl ek2 lk2 (by decide)) ?_
  refine gm_ev.iload_n i162_24 rfl ?_
  refine gm_ev.icmp_ne_f i162_25 c3 ?_
  refine gm_ev.lload_n i162_28 rfl ?_
  refine gm_ev.lconst (v := 0) i162_29 (by decide) ?_
  refine gm_ev.lcmp i162_30 ?_
  refine gm_ev.if_eq_t (tgt := 48) i162_31 (by decide) c4 ?_
  refine gm_ev.aload_n i162_48 rfl ?_
  refine gm_ev.getfield (v := .ref (B + 13)) i162_49 rfl (bM_fld (j := 0) (fs := mF B s) rfl rfl) ?_
  refine gm_ev.iconst (v := 3) i162_52 (by decide) ?_
  refine gm_ev.iload i162_53 rfl ?_
  refine gm_ev.imul i162_55 ?_
  refine gm_ev.iload i162_56 rfl ?_
  refine gm_ev.iadd i162_58 ?_
  refine gm_ev.laload i162_59 (bM_al (j := 13) (n := 603) (fl := s.2.2 22) rfl ek5 lk5 (by decide)) ?_
  refine gm_ev.lstore (ls' := [some (.ref B), some (.int x1), some (.long y2), none, some (.int x4), some (.int x5), some (.long (s.2.2 22 k5)), none, none]) i162_60 (Nat.le_of_ble_eq_true rfl) rfl ?_
  refine gm_ev.aload_n i162_62 rfl ?_
  refine gm_ev.getfield (v := .int (s.1 38)) i162_63 rfl (bM_fld (j := 0) (fs := mF B s) rfl rfl) ?_
  refine gm_ev.istore (ls' := [some (.ref B), some (.int x1), some (.long y2), none, some (.int x4), some (.int x5), some (.long (s.2.2 22 k5)), none, some (.int (s.1 38))]) i162_66 (Nat.le_of_ble_eq_true rfl) rfl ?_
  exact k
theorem r_collect_8_ffft_at8 {N0 : Nat} {K : Nat → Nat} {d B : Nat} {s : mS} {G : gm_H} {sz sl : Nat} {R : gm_R} {x1 : Int32} {y2 : Int64} {x4 : Int32} {x5 : Int32} {k2 : Nat} {k5 : Nat} (hN : N0 ≤ B) (c1 : ¬ (s.1 20) ≤ x5) (ek2 : x5 = nI k2) (lk2 : k2 < 201) (c3 : (s.2.1 21 k2) = x1) (c4 : ¬ (lg_cmp y2 (0 : Int64)) = 0) (ek5 : ((3 : Int32) * x5) = nI k5) (lk5 : k5 < 603) (c6 : ¬ (lg_cmp (s.2.2 22 k5) y2) = 0) (k : gm_ev N0 K ra_nm (ra_mt K) d none (gm_I cX12_collect) (gm_lkf (lkX12 false K)) 8 [some (.ref B), some (.int x1), some (.long y2), none, some (.int x4), some (.int (x5 + (1 : Int32))), none, none, none] [] (bM B (mH B s) G) sz sl R) : gm_ev N0 K ra_nm (ra_mt K) d none (gm_I cX12_collect) (gm_lkf (lkX12 false K)) 8 [some (.ref B), some (.int x1), some (.long y2), none, some (.int x4), some (.int x5), none, none, none] [] (bM B (mH B s) G) sz sl R := by
  refine gm_ev.iload i162_8 rfl ?_
  refine gm_ev.aload_n i162_10 rfl ?_
  refine gm_ev.getfield (v := .int (s.1 20)) i162_11 rfl (bM_fld (j := 0) (fs := mF B s) rfl rfl) ?_
  refine gm_ev.icmp_ge_f i162_14 c1 ?_
  refine gm_ev.aload_n i162_17 rfl ?_
  refine gm_ev.getfield (v := .ref (B + 12)) i162_18 rfl (bM_fld (j := 0) (fs := mF B s) rfl rfl) ?_
  refine gm_ev.iload i162_21 rfl ?_
  refine gm_ev.iaload i162_23 (bM_ai (j := 12) (n := 201) (f := s.2.1 21) rfl ek2 lk2 (by decide)) ?_
  refine gm_ev.iload_n i162_24 rfl ?_
  refine gm_ev.icmp_ne_f i162_25 c3 ?_
  refine gm_ev.lload_n i162_28 rfl ?_
  refine gm_ev.lconst (v := 0) i162_29 (by decide) ?_
  refine gm_ev.lcmp i162_30 ?_
  refine gm_ev.if_eq_f i162_31 c4 ?_
  refine gm_ev.aload_n i162_34 rfl ?_
  refine gm_ev.getfield (v := .ref (B + 13)) i162_35 rfl (bM_fld (j := 0) (fs := mF B s) rfl rfl) ?_
  refine gm_ev.iconst (v := 3) i162_38 (by decide) ?_
  refine gm_ev.iload i162_39 rfl ?_
  refine gm_ev.imul i162_41 ?_
  refine gm_ev.laload i162_42 (bM_al (j := 13) (n := 603) (fl := s.2.2 22) rfl ek5 lk5 (by decide)) ?_
  refine gm_ev.lload_n i162_43 rfl ?_
  refine gm_ev.lcmp i162_44 ?_
  refine gm_ev.if_ne_t (tgt := 129) i162_45 (by decide) c6 ?_
  refine gm_ev.iinc (v := x5 + (1 : Int32)) (ls' := [some (.ref B), some (.int x1), some (.long y2), none, some (.int x4), some (.int (x5 + (1 : Int32))), none, none, none]) i162_129 rfl (by rfl) rfl ?_
  refine gm_ev.goto (tgt := 8) i162_132 (by decide) ?_
  exact k
theorem r_collect_8_ffff_at68 {N0 : Nat} {K : Nat → Nat} {d B : Nat} {s : mS} {G : gm_H} {sz sl : Nat} {R : gm_R} {x1 : Int32} {y2 : Int64} {x4 : Int32} {x5 : Int32} {k2 : Nat} {k5 : Nat} {k7 : Nat} (hN : N0 ≤ B) (c1 : ¬ (s.1 20) ≤ x5) (ek2 : x5 = nI k2) (lk2 : k2 < 201) (c3 : (s.2.1 21 k2) = x1) (c4 : ¬ (lg_cmp y2 (0 : Int64)) = 0) (ek5 : ((3 : Int32) * x5) = nI k5) (lk5 : k5 < 603) (c6 : (lg_cmp (s.2.2 22 k5) y2) = 0) (ek7 : (((3 : Int32) * x5) + x4) = nI k7) (lk7 : k7 < 603) (k : gm_ev N0 K ra_nm (ra_mt K) d none (gm_I cX12_collect) (gm_lkf (lkX12 false K)) 68 [some (.ref B), some (.int x1), some (.long y2), none, some (.int x4), some (.int x5), some (.long (s.2.2 22 k7)), none, some (.int (s.1 38))] [] (bM B (mH B s) G) sz sl R) : gm_ev N0 K ra_nm (ra_mt K) d none (gm_I cX12_collect) (gm_lkf (lkX12 false K)) 8 [some (.ref B), some (.int x1), some (.long y2), none, some (.int x4), some (.int x5), none, none, none] [] (bM B (mH B s) G) sz sl R := by
  refine gm_ev.iload i162_8 rfl ?_
  refine gm_ev.aload_n i162_10 rfl ?_
  refine gm_ev.getfield (v := .int (s.1 20)) i162_11 rfl (bM_fld (j := 0) (fs := mF B s) rfl rfl) ?_
  refine gm_ev.icmp_ge_f i162_14 c1 ?_
  refine gm_ev.aload_n i162_17 rfl ?_
  refine gm_ev.getfield (v := .ref (B + 12)) i162_18 rfl (bM_fld (j := 0) (fs := mF B s) rfl rfl) ?_
  refine gm_ev.iload i162_21 rfl ?_
  refine gm_ev.iaload i162_23 (bM_ai (j := 12) (n := 201) (f := s.2.1 21) rfl ek2 lk2 (by decide)) ?_
  refine gm_ev.iload_n i162_24 rfl ?_
  refine gm_ev.icmp_ne_f i162_25 c3 ?_
  refine gm_ev.lload_n i162_28 rfl ?_
  refine gm_ev.lconst (v := 0) i162_29 (by decide) ?_
  refine gm_ev.lcmp i162_30 ?_
  refine gm_ev.if_eq_f i162_31 c4 ?_
  refine gm_ev.aload_n i162_34 rfl ?_
  refine gm_ev.getfield (v := .ref (B + 13)) i162_35 rfl (bM_fld (j := 0) (fs := mF B s) rfl rfl) ?_
  refine gm_ev.iconst (v := 3) i162_38 (by decide) ?_
  refine gm_ev.iload i162_39 rfl ?_
  refine gm_ev.imul i162_41 ?_
  refine gm_ev.laload i162_42 (bM_al (j := 13) (n := 603) (fl := s.2.2 22) rfl ek5 lk5 (by decide)) ?_
  refine gm_ev.lload_n i162_43 rfl ?_
  refine gm_ev.lcmp i162_44 ?_
  refine gm_ev.if_ne_f i162_45 c6 ?_
  refine gm_ev.aload_n i162_48 rfl ?_
  refine gm_ev.getfield (v := .ref (B + 13)) i162_49 rfl (bM_fld (j := 0) (fs := mF B s) rfl rfl) ?_
  refine gm_ev.iconst (v := 3) i162_52 (by decide) ?_
  refine gm_ev.iload i162_53 rfl ?_
  refine gm_ev.imul i162_55 ?_
  refine gm_ev.iload i162_56 rfl ?_
  refine gm_ev.iadd i162_58 ?_
  refine gm_ev.laload i162_59 (bM_al (j := 13) (n := 603) (fl := s.2.2 22) rfl ek7 lk7 (by decide)) ?_
  refine gm_ev.lstore (ls' := [some (.ref B), some (.int x1), some (.long y2), none, some (.int x4), some (.int x5), some (.long (s.2.2 22 k7)), none, none]) i162_60 (Nat.le_of_ble_eq_true rfl) rfl ?_
  refine gm_ev.aload_n i162_62 rfl ?_
  refine gm_ev.getfield (v := .int (s.1 38)) i162_63 rfl (bM_fld (j := 0) (fs := mF B s) rfl rfl) ?_
  refine gm_ev.istore (ls' := [some (.ref B), some (.int x1), some (.long y2), none, some (.int x4), some (.int x5), some (.long (s.2.2 22 k7)), none, some (.int (s.1 38))]) i162_66 (Nat.le_of_ble_eq_true rfl) rfl ?_
  exact k
theorem r_collect_68_t_at8 {N0 : Nat} {K : Nat → Nat} {d B : Nat} {s : mS} {G : gm_H} {sz sl : Nat} {R : gm_R} {x1 : Int32} {y2 : Int64} {x4 : Int32} {x5 : Int32} {y6 : Int64} {x8 : Int32} {k2 : Nat} (hN : N0 ≤ B) (c1 : x8 ≤ 0) (ek2 : x8 = nI k2) (lk2 : k2 < 201) (k : gm_ev N0 K ra_nm (ra_mt K) d none (gm_I cX12_collect) (gm_lkf (lkX12 false K)) 8 [some (.ref B), some (.int x1), some (.long y2), none, some (.int x4), some (.int (x5 + (1 : Int32))), none, none, none] [] (bM B (mH B (mI (mL s 37 (vp_updL (s.2.2 37) k2 y6)) 38 ((s.1 38) + (1 : Int32)))) G) sz sl R) : gm_ev N0 K ra_nm (ra_mt K) d none (gm_I cX12_collect) (gm_lkf (lkX12 false K)) 68 [some (.ref B), some (.int x1), some (.long y2), none, some (.int x4), some (.int x5), some (.long y6), none, some (.int x8)] [] (bM B (mH B s) G) sz sl R := by
  refine gm_ev.iload i162_68 rfl ?_
  refine gm_ev.if_le_t (tgt := 110) i162_70 (by decide) c1 ?_
  refine gm_ev.aload_n i162_110 rfl ?_
  refine gm_ev.getfield (v := .ref (B + 21)) i162_111 rfl (bM_fld (j := 0) (fs := mF B s) rfl rfl) ?_
  refine gm_ev.iload i162_114 rfl ?_
  refine gm_ev.lload i162_116 rfl ?_
  refine gm_ev.lastore (M' := (bM B (mH B (mL s 37 (vp_updL (s.2.2 37) k2 y6))) G)) i162_118 (bM_astl (j := 21) (n := 201) (fl := s.2.2 37) rfl ek2 lk2 (by decide) hN rfl) ?_
  refine gm_ev.aload_n i162_119 rfl ?_
  refine gm_ev.dup i162_120 rfl ?_
  refine gm_ev.getfield (v := .int (s.1 38)) i162_121 rfl (bM_fld (j := 0) (fs := mF B (mL s 37 (vp_updL (s.2.2 37) k2 y6))) rfl rfl) ?_
  refine gm_ev.iconst (v := 1) i162_124 (by decide) ?_
  refine gm_ev.iadd i162_125 ?_
  refine gm_ev.putfield (M' := (bM B (mH B (mI (mL s 37 (vp_updL (s.2.2 37) k2 y6)) 38 ((s.1 38) + (1 : Int32)))) G)) i162_126 rfl (bM_put (j := 0) (fs := mF B (mL s 37 (vp_updL (s.2.2 37) k2 y6))) rfl (Nat.le_of_ble_eq_true rfl) hN (gm_fit_i _) rfl) ?_
  refine gm_ev.iinc (v := x5 + (1 : Int32)) (ls' := [some (.ref B), some (.int x1), some (.long y2), none, some (.int x4), some (.int (x5 + (1 : Int32))), some (.long y6), none, some (.int x8)]) i162_129 rfl (by rfl) rfl ?_
  refine gm_ev.goto (tgt := 8) i162_132 (by decide) ?_
  refine gm_ev.le (a := [some (.ref B), some (.int x1), some (.long y2), none, some (.int x4), some (.int (x5 + (1 : Int32))), none, none, none]) (gm_leL.le (show gm_leL _ _ from ⟨rfl, ⟨rfl, ⟨rfl, ⟨rfl, ⟨rfl, trivial⟩⟩⟩⟩⟩)) ?_
  exact k
theorem r_collect_68_ft_at8 {N0 : Nat} {K : Nat → Nat} {d B : Nat} {s : mS} {G : gm_H} {sz sl : Nat} {R : gm_R} {x1 : Int32} {y2 : Int64} {x4 : Int32} {x5 : Int32} {y6 : Int64} {x8 : Int32} {k2 : Nat} {k4 : Nat} (hN : N0 ≤ B) (c1 : ¬ x8 ≤ 0) (ek2 : (x8 - (1 : Int32)) = nI k2) (lk2 : k2 < 201) (c3 : (lg_cmp (s.2.2 37 k2) y6) ≤ 0) (ek4 : x8 = nI k4) (lk4 : k4 < 201) (k : gm_ev N0 K ra_nm (ra_mt K) d none (gm_I cX12_collect) (gm_lkf (lkX12 false K)) 8 [some (.ref B), some (.int x1), some (.long y2), none, some (.int x4), some (.int (x5 + (1 : Int32))), none, none, none] [] (bM B (mH B (mI (mL s 37 (vp_updL (s.2.2 37) k4 y6)) 38 ((s.1 38) + (1 : Int32)))) G) sz sl R) : gm_ev N0 K ra_nm (ra_mt K) d none (gm_I cX12_collect) (gm_lkf (lkX12 false K)) 68 [some (.ref B), some (.int x1), some (.long y2), none, some (.int x4), some (.int x5), some (.long y6), none, some (.int x8)] [] (bM B (mH B s) G) sz sl R := by
  refine gm_ev.iload i162_68 rfl ?_
  refine gm_ev.if_le_f i162_70 c1 ?_
  refine gm_ev.aload_n i162_73 rfl ?_
  refine gm_ev.getfield (v := .ref (B + 21)) i162_74 rfl (bM_fld (j := 0) (fs := mF B s) rfl rfl) ?_
  refine gm_ev.iload i162_77 rfl ?_
  refine gm_ev.iconst (v := 1) i162_79 (by decide) ?_
  refine gm_ev.isub i162_80 ?_
  refine gm_ev.laload i162_81 (bM_al (j := 21) (n := 201) (fl := s.2.2 37) rfl ek2 lk2 (by decide)) ?_
  refine gm_ev.lload i162_82 rfl ?_
  refine gm_ev.lcmp i162_84 ?_
  refine gm_ev.if_le_t (tgt := 110) i162_85 (by decide) c3 ?_
  refine gm_ev.aload_n i162_110 rfl ?_
  refine gm_ev.getfield (v := .ref (B + 21)) i162_111 rfl (bM_fld (j := 0) (fs := mF B s) rfl rfl) ?_
  refine gm_ev.iload i162_114 rfl ?_
  refine gm_ev.lload i162_116 rfl ?_
  refine gm_ev.lastore (M' := (bM B (mH B (mL s 37 (vp_updL (s.2.2 37) k4 y6))) G)) i162_118 (bM_astl (j := 21) (n := 201) (fl := s.2.2 37) rfl ek4 lk4 (by decide) hN rfl) ?_
  refine gm_ev.aload_n i162_119 rfl ?_
  refine gm_ev.dup i162_120 rfl ?_
  refine gm_ev.getfield (v := .int (s.1 38)) i162_121 rfl (bM_fld (j := 0) (fs := mF B (mL s 37 (vp_updL (s.2.2 37) k4 y6))) rfl rfl) ?_
  refine gm_ev.iconst (v := 1) i162_124 (by decide) ?_
  refine gm_ev.iadd i162_125 ?_
  refine gm_ev.putfield (M' := (bM B (mH B (mI (mL s 37 (vp_updL (s.2.2 37) k4 y6)) 38 ((s.1 38) + (1 : Int32)))) G)) i162_126 rfl (bM_put (j := 0) (fs := mF B (mL s 37 (vp_updL (s.2.2 37) k4 y6))) rfl (Nat.le_of_ble_eq_true rfl) hN (gm_fit_i _) rfl) ?_
  refine gm_ev.iinc (v := x5 + (1 : Int32)) (ls' := [some (.ref B), some (.int x1), some (.long y2), none, some (.int x4), some (.int (x5 + (1 : Int32))), some (.long y6), none, some (.int x8)]) i162_129 rfl (by rfl) rfl ?_
  refine gm_ev.goto (tgt := 8) i162_132 (by decide) ?_
  refine gm_ev.le (a := [some (.ref B), some (.int x1), some (.long y2), none, some (.int x4), some (.int (x5 + (1 : Int32))), none, none, none]) (gm_leL.le (show gm_leL _ _ from ⟨rfl, ⟨rfl, ⟨rfl, ⟨rfl, ⟨rfl, trivial⟩⟩⟩⟩⟩)) ?_
  exact k
theorem r_collect_68_ff_at68 {N0 : Nat} {K : Nat → Nat} {d B : Nat} {s : mS} {G : gm_H} {sz sl : Nat} {R : gm_R} {x1 : Int32} {y2 : Int64} {x4 : Int32} {x5 : Int32} {y6 : Int64} {x8 : Int32} {k2 : Nat} {k4 : Nat} {k5 : Nat} (hN : N0 ≤ B) (c1 : ¬ x8 ≤ 0) (ek2 : (x8 - (1 : Int32)) = nI k2) (lk2 : k2 < 201) (c3 : ¬ (lg_cmp (s.2.2 37 k2) y6) ≤ 0) (ek4 : (x8 - (1 : Int32)) = nI k4) (lk4 : k4 < 201) (ek5 : x8 = nI k5) (lk5 : k5 < 201) (k : gm_ev N0 K ra_nm (ra_mt K) d none (gm_I cX12_collect) (gm_lkf (lkX12 false K)) 68 [some (.ref B), some (.int x1), some (.long y2), none, some (.int x4), some (.int x5), some (.long y6), none, some (.int (x8 + (-1 : Int32)))] [] (bM B (mH B (mL s 37 (vp_updL (s.2.2 37) k5 (s.2.2 37 k4)))) G) sz sl R) : gm_ev N0 K ra_nm (ra_mt K) d none (gm_I cX12_collect) (gm_lkf (lkX12 false K)) 68 [some (.ref B), some (.int x1), some (.long y2), none, some (.int x4), some (.int x5), some (.long y6), none, some (.int x8)] [] (bM B (mH B s) G) sz sl R := by
  refine gm_ev.iload i162_68 rfl ?_
  refine gm_ev.if_le_f i162_70 c1 ?_
  refine gm_ev.aload_n i162_73 rfl ?_
  refine gm_ev.getfield (v := .ref (B + 21)) i162_74 rfl (bM_fld (j := 0) (fs := mF B s) rfl rfl) ?_
  refine gm_ev.iload i162_77 rfl ?_
  refine gm_ev.iconst (v := 1) i162_79 (by decide) ?_
  refine gm_ev.isub i162_80 ?_
  refine gm_ev.laload i162_81 (bM_al (j := 21) (n := 201) (fl := s.2.2 37) rfl ek2 lk2 (by decide)) ?_
  refine gm_ev.lload i162_82 rfl ?_
  refine gm_ev.lcmp i162_84 ?_
  refine gm_ev.if_le_f i162_85 c3 ?_
  refine gm_ev.aload_n i162_88 rfl ?_
  refine gm_ev.getfield (v := .ref (B + 21)) i162_89 rfl (bM_fld (j := 0) (fs := mF B s) rfl rfl) ?_
  refine gm_ev.iload i162_92 rfl ?_
  refine gm_ev.aload_n i162_94 rfl ?_
  refine gm_ev.getfield (v := .ref (B + 21)) i162_95 rfl (bM_fld (j := 0) (fs := mF B s) rfl rfl) ?_
  refine gm_ev.iload i162_98 rfl ?_
  refine gm_ev.iconst (v := 1) i162_100 (by decide) ?_
  refine gm_ev.isub i162_101 ?_
  refine gm_ev.laload i162_102 (bM_al (j := 21) (n := 201) (fl := s.2.2 37) rfl ek4 lk4 (by decide)) ?_
  refine gm_ev.lastore (M' := (bM B (mH B (mL s 37 (vp_updL (s.2.2 37) k5 (s.2.2 37 k4)))) G)) i162_103 (bM_astl (j := 21) (n := 201) (fl := s.2.2 37) rfl ek5 lk5 (by decide) hN rfl) ?_
  refine gm_ev.iinc (v := x8 + (-1 : Int32)) (ls' := [some (.ref B), some (.int x1), some (.long y2), none, some (.int x4), some (.int x5), some (.long y6), none, some (.int (x8 + (-1 : Int32)))]) i162_104 rfl (by rfl) rfl ?_
  refine gm_ev.goto (tgt := 68) i162_107 (by decide) ?_
  exact k
theorem r_isState_0__at10 {N0 : Nat} {K : Nat → Nat} {d B : Nat} {s : mS} {G : gm_H} {sz sl : Nat} {R : gm_R}  (hN : N0 ≤ B)  (k : gm_ev N0 K ra_nm (ra_mt K) d (some .boolean) (gm_I cX12_isState) (gm_lkf (lkX12 false K)) 10 [some (.ref B), some (.int (0 : Int32))] [] (bM B (mH B (mI s 34 (s.1 38))) G) sz sl R) : gm_ev N0 K ra_nm (ra_mt K) d (some .boolean) (gm_I cX12_isState) (gm_lkf (lkX12 false K)) 0 [some (.ref B), none] [] (bM B (mH B s) G) sz sl R := by
  refine gm_ev.aload_n i163_0 rfl ?_
  refine gm_ev.aload_n i163_1 rfl ?_
  refine gm_ev.getfield (v := .int (s.1 38)) i163_2 rfl (bM_fld (j := 0) (fs := mF B s) rfl rfl) ?_
  refine gm_ev.putfield (M' := (bM B (mH B (mI s 34 (s.1 38))) G)) i163_5 rfl (bM_put (j := 0) (fs := mF B s) rfl (Nat.le_of_ble_eq_true rfl) hN (gm_fit_i _) rfl) ?_
  refine gm_ev.iconst (v := 0) i163_8 (by decide) ?_
  refine gm_ev.istore_n (ls' := [some (.ref B), some (.int (0 : Int32))]) i163_9 (Nat.le_of_ble_eq_true rfl) rfl ?_
  exact k
theorem r_isState_10_tt {N0 : Nat} {K : Nat → Nat} {d B : Nat} {s : mS} {G : gm_H} {sz sl : Nat} {x1 : Int32} (hN : N0 ≤ B) (c1 : (s.1 38) ≤ x1) (c2 : ¬ (s.1 23) = 0) : gm_ev N0 K ra_nm (ra_mt K) d (some .boolean) (gm_I cX12_isState) (gm_lkf (lkX12 false K)) 10 [some (.ref B), some (.int x1)] [] (bM B (mH B s) G) sz sl (.returned (some (.int (0 : Int32))), (bM B (mH B s) G), sz, sl) := by
  refine gm_ev.iload_n i163_10 rfl ?_
  refine gm_ev.aload_n i163_11 rfl ?_
  refine gm_ev.getfield (v := .int (s.1 38)) i163_12 rfl (bM_fld (j := 0) (fs := mF B s) rfl rfl) ?_
  refine gm_ev.icmp_ge_t (tgt := 45) i163_15 (by decide) c1 ?_
  refine gm_ev.aload_n i163_45 rfl ?_
  refine gm_ev.getfield (v := .int (s.1 23)) i163_46 rfl (bM_fld (j := 0) (fs := mF B s) rfl rfl) ?_
  refine gm_ev.if_ne_t (tgt := 65) i163_49 (by decide) c2 ?_
  refine gm_ev.iconst (v := 0) i163_65 (by decide) ?_
  exact gm_ev.zret i163_66 rfl (by decide)
theorem r_isState_10_tft {N0 : Nat} {K : Nat → Nat} {d B : Nat} {s : mS} {G : gm_H} {sz sl : Nat} {x1 : Int32} (hN : N0 ≤ B) (c1 : (s.1 38) ≤ x1) (c2 : (s.1 23) = 0) (c3 : (24 : Int32) < (s.1 38)) : gm_ev N0 K ra_nm (ra_mt K) d (some .boolean) (gm_I cX12_isState) (gm_lkf (lkX12 false K)) 10 [some (.ref B), some (.int x1)] [] (bM B (mH B s) G) sz sl (.returned (some (.int (0 : Int32))), (bM B (mH B s) G), sz, sl) := by
  refine gm_ev.iload_n i163_10 rfl ?_
  refine gm_ev.aload_n i163_11 rfl ?_
  refine gm_ev.getfield (v := .int (s.1 38)) i163_12 rfl (bM_fld (j := 0) (fs := mF B s) rfl rfl) ?_
  refine gm_ev.icmp_ge_t (tgt := 45) i163_15 (by decide) c1 ?_
  refine gm_ev.aload_n i163_45 rfl ?_
  refine gm_ev.getfield (v := .int (s.1 23)) i163_46 rfl (bM_fld (j := 0) (fs := mF B s) rfl rfl) ?_
  refine gm_ev.if_ne_f i163_49 c2 ?_
  refine gm_ev.aload_n i163_52 rfl ?_
  refine gm_ev.getfield (v := .int (s.1 38)) i163_53 rfl (bM_fld (j := 0) (fs := mF B s) rfl rfl) ?_
  refine gm_ev.bipush (v := 24) i163_56 (by decide) ?_
  refine gm_ev.icmp_gt_t (tgt := 65) i163_58 (by decide) c3 ?_
  refine gm_ev.iconst (v := 0) i163_65 (by decide) ?_
  exact gm_ev.zret i163_66 rfl (by decide)
theorem r_isState_10_tff {N0 : Nat} {K : Nat → Nat} {d B : Nat} {s : mS} {G : gm_H} {sz sl : Nat} {x1 : Int32} (hN : N0 ≤ B) (c1 : (s.1 38) ≤ x1) (c2 : (s.1 23) = 0) (c3 : ¬ (24 : Int32) < (s.1 38)) : gm_ev N0 K ra_nm (ra_mt K) d (some .boolean) (gm_I cX12_isState) (gm_lkf (lkX12 false K)) 10 [some (.ref B), some (.int x1)] [] (bM B (mH B s) G) sz sl (.returned (some (.int (1 : Int32))), (bM B (mH B s) G), sz, sl) := by
  refine gm_ev.iload_n i163_10 rfl ?_
  refine gm_ev.aload_n i163_11 rfl ?_
  refine gm_ev.getfield (v := .int (s.1 38)) i163_12 rfl (bM_fld (j := 0) (fs := mF B s) rfl rfl) ?_
  refine gm_ev.icmp_ge_t (tgt := 45) i163_15 (by decide) c1 ?_
  refine gm_ev.aload_n i163_45 rfl ?_
  refine gm_ev.getfield (v := .int (s.1 23)) i163_46 rfl (bM_fld (j := 0) (fs := mF B s) rfl rfl) ?_
  refine gm_ev.if_ne_f i163_49 c2 ?_
  refine gm_ev.aload_n i163_52 rfl ?_
  refine gm_ev.getfield (v := .int (s.1 38)) i163_53 rfl (bM_fld (j := 0) (fs := mF B s) rfl rfl) ?_
  refine gm_ev.bipush (v := 24) i163_56 (by decide) ?_
  refine gm_ev.icmp_gt_f i163_58 c3 ?_
  refine gm_ev.iconst (v := 1) i163_61 (by decide) ?_
  refine gm_ev.goto (tgt := 66) i163_62 (by decide) ?_
  exact gm_ev.zret i163_66 rfl (by decide)
theorem r_isState_10_ftt {N0 : Nat} {K : Nat → Nat} {d B : Nat} {s : mS} {G : gm_H} {sz sl : Nat} {x1 : Int32} (hN : N0 ≤ B) (c1 : ¬ (s.1 38) ≤ x1) (c2 : (24 : Int32) < (s.1 38)) (c3 : ¬ (s.1 23) = 0) : gm_ev N0 K ra_nm (ra_mt K) d (some .boolean) (gm_I cX12_isState) (gm_lkf (lkX12 false K)) 10 [some (.ref B), some (.int x1)] [] (bM B (mH B s) G) sz sl (.returned (some (.int (0 : Int32))), (bM B (mH B s) G), sz, sl) := by
  refine gm_ev.iload_n i163_10 rfl ?_
  refine gm_ev.aload_n i163_11 rfl ?_
  refine gm_ev.getfield (v := .int (s.1 38)) i163_12 rfl (bM_fld (j := 0) (fs := mF B s) rfl rfl) ?_
  refine gm_ev.icmp_ge_f i163_15 c1 ?_
  refine gm_ev.aload_n i163_18 rfl ?_
  refine gm_ev.getfield (v := .int (s.1 38)) i163_19 rfl (bM_fld (j := 0) (fs := mF B s) rfl rfl) ?_
  refine gm_ev.bipush (v := 24) i163_22 (by decide) ?_
  refine gm_ev.icmp_gt_t (tgt := 45) i163_24 (by decide) c2 ?_
  refine gm_ev.aload_n i163_45 rfl ?_
  refine gm_ev.getfield (v := .int (s.1 23)) i163_46 rfl (bM_fld (j := 0) (fs := mF B s) rfl rfl) ?_
  refine gm_ev.if_ne_t (tgt := 65) i163_49 (by decide) c3 ?_
  refine gm_ev.iconst (v := 0) i163_65 (by decide) ?_
  exact gm_ev.zret i163_66 rfl (by decide)
theorem r_isState_10_ftft {N0 : Nat} {K : Nat → Nat} {d B : Nat} {s : mS} {G : gm_H} {sz sl : Nat} {x1 : Int32} (hN : N0 ≤ B) (c1 : ¬ (s.1 38) ≤ x1) (c2 : (24 : Int32) < (s.1 38)) (c3 : (s.1 23) = 0) (c4 : (24 : Int32) < (s.1 38)) : gm_ev N0 K ra_nm (ra_mt K) d (some .boolean) (gm_I cX12_isState) (gm_lkf (lkX12 false K)) 10 [some (.ref B), some (.int x1)] [] (bM B (mH B s) G) sz sl (.returned (some (.int (0 : Int32))), (bM B (mH B s) G), sz, sl) := by
  refine gm_ev.iload_n i163_10 rfl ?_
  refine gm_ev.aload_n i163_11 rfl ?_
  refine gm_ev.getfield (v := .int (s.1 38)) i163_12 rfl (bM_fld (j := 0) (fs := mF B s) rfl rfl) ?_
  refine gm_ev.icmp_ge_f i163_15 c1 ?_
  refine gm_ev.aload_n i163_18 rfl ?_
  refine gm_ev.getfield (v := .int (s.1 38)) i163_19 rfl (bM_fld (j := 0) (fs := mF B s) rfl rfl) ?_
  refine gm_ev.bipush (v := 24) i163_22 (by decide) ?_
  refine gm_ev.icmp_gt_t (tgt := 45) i163_24 (by decide) c2 ?_
  refine gm_ev.aload_n i163_45 rfl ?_
  refine gm_ev.getfield (v := .int (s.1 23)) i163_46 rfl (bM_fld (j := 0) (fs := mF B s) rfl rfl) ?_
  refine gm_ev.if_ne_f i163_49 c3 ?_
  refine gm_ev.aload_n i163_52 rfl ?_
  refine gm_ev.getfield (v := .int (s.1 38)) i163_53 rfl (bM_fld (j := 0) (fs := mF B s) rfl rfl) ?_
  refine gm_ev.bipush (v := 24) i163_56 (by decide) ?_
  refine gm_ev.icmp_gt_t (tgt := 65) i163_58 (by decide) c4 ?_
  refine gm_ev.iconst (v := 0) i163_65 (by decide) ?_
  exact gm_ev.zret i163_66 rfl (by decide)
theorem r_isState_10_ftff {N0 : Nat} {K : Nat → Nat} {d B : Nat} {s : mS} {G : gm_H} {sz sl : Nat} {x1 : Int32} (hN : N0 ≤ B) (c1 : ¬ (s.1 38) ≤ x1) (c2 : (24 : Int32) < (s.1 38)) (c3 : (s.1 23) = 0) (c4 : ¬ (24 : Int32) < (s.1 38)) : gm_ev N0 K ra_nm (ra_mt K) d (some .boolean) (gm_I cX12_isState) (gm_lkf (lkX12 false K)) 10 [some (.ref B), some (.int x1)] [] (bM B (mH B s) G) sz sl (.returned (some (.int (1 : Int32))), (bM B (mH B s) G), sz, sl) := by
  refine gm_ev.iload_n i163_10 rfl ?_
  refine gm_ev.aload_n i163_11 rfl ?_
  refine gm_ev.getfield (v := .int (s.1 38)) i163_12 rfl (bM_fld (j := 0) (fs := mF B s) rfl rfl) ?_
  refine gm_ev.icmp_ge_f i163_15 c1 ?_
  refine gm_ev.aload_n i163_18 rfl ?_
  refine gm_ev.getfield (v := .int (s.1 38)) i163_19 rfl (bM_fld (j := 0) (fs := mF B s) rfl rfl) ?_
  refine gm_ev.bipush (v := 24) i163_22 (by decide) ?_
  refine gm_ev.icmp_gt_t (tgt := 45) i163_24 (by decide) c2 ?_
  refine gm_ev.aload_n i163_45 rfl ?_
  refine gm_ev.getfield (v := .int (s.1 23)) i163_46 rfl (bM_fld (j := 0) (fs := mF B s) rfl rfl) ?_
  refine gm_ev.if_ne_f i163_49 c3 ?_
  refine gm_ev.aload_n i163_52 rfl ?_
  refine gm_ev.getfield (v := .int (s.1 38)) i163_53 rfl (bM_fld (j := 0) (fs := mF B s) rfl rfl) ?_
  refine gm_ev.bipush (v := 24) i163_56 (by decide) ?_
  refine gm_ev.icmp_gt_f i163_58 c4 ?_
  refine gm_ev.iconst (v := 1) i163_61 (by decide) ?_
  refine gm_ev.goto (tgt := 66) i163_62 (by decide) ?_
  exact gm_ev.zret i163_66 rfl (by decide)
theorem r_isState_10_ff_at10 {N0 : Nat} {K : Nat → Nat} {d B : Nat} {s : mS} {G : gm_H} {sz sl : Nat} {R : gm_R} {x1 : Int32} {k3 : Nat} {k4 : Nat} (hN : N0 ≤ B) (c1 : ¬ (s.1 38) ≤ x1) (c2 : ¬ (24 : Int32) < (s.1 38)) (ek3 : x1 = nI k3) (lk3 : k3 < 201) (ek4 : x1 = nI k4) (lk4 : k4 < 24) (k : gm_ev N0 K ra_nm (ra_mt K) d (some .boolean) (gm_I cX12_isState) (gm_lkf (lkX12 false K)) 10 [some (.ref B), some (.int (x1 + (1 : Int32)))] [] (bM B (mH B (mL s 33 (vp_updL (s.2.2 33) k4 (s.2.2 37 k3)))) G) sz sl R) : gm_ev N0 K ra_nm (ra_mt K) d (some .boolean) (gm_I cX12_isState) (gm_lkf (lkX12 false K)) 10 [some (.ref B), some (.int x1)] [] (bM B (mH B s) G) sz sl R := by
  refine gm_ev.iload_n i163_10 rfl ?_
  refine gm_ev.aload_n i163_11 rfl ?_
  refine gm_ev.getfield (v := .int (s.1 38)) i163_12 rfl (bM_fld (j := 0) (fs := mF B s) rfl rfl) ?_
  refine gm_ev.icmp_ge_f i163_15 c1 ?_
  refine gm_ev.aload_n i163_18 rfl ?_
  refine gm_ev.getfield (v := .int (s.1 38)) i163_19 rfl (bM_fld (j := 0) (fs := mF B s) rfl rfl) ?_
  refine gm_ev.bipush (v := 24) i163_22 (by decide) ?_
  refine gm_ev.icmp_gt_f i163_24 c2 ?_
  refine gm_ev.aload_n i163_27 rfl ?_
  refine gm_ev.getfield (v := .ref (B + 19)) i163_28 rfl (bM_fld (j := 0) (fs := mF B s) rfl rfl) ?_
  refine gm_ev.iload_n i163_31 rfl ?_
  refine gm_ev.aload_n i163_32 rfl ?_
  refine gm_ev.getfield (v := .ref (B + 21)) i163_33 rfl (bM_fld (j := 0) (fs := mF B s) rfl rfl) ?_
  refine gm_ev.iload_n i163_36 rfl ?_
  refine gm_ev.laload i163_37 (bM_al (j := 21) (n := 201) (fl := s.2.2 37) rfl ek3 lk3 (by decide)) ?_
  refine gm_ev.lastore (M' := (bM B (mH B (mL s 33 (vp_updL (s.2.2 33) k4 (s.2.2 37 k3)))) G)) i163_38 (bM_astl (j := 19) (n := 24) (fl := s.2.2 33) rfl ek4 lk4 (by decide) hN rfl) ?_
  refine gm_ev.iinc (v := x1 + (1 : Int32)) (ls' := [some (.ref B), some (.int (x1 + (1 : Int32)))]) i163_39 rfl (by rfl) rfl ?_
  refine gm_ev.goto (tgt := 10) i163_42 (by decide) ?_
  exact k
theorem r_leadsOn_now_0__at7 {N0 : Nat} {K : Nat → Nat} {d B : Nat} {s : mS} {G : gm_H} {sz sl : Nat} {R : gm_R} {p1 : Int32} {p2 : Int32} {p3 : Int64} {p4 : Int64} {s2 : mS} (hN : N0 ≤ B) (t1 : gm_to N0 K ra_nm (ra_mt K) d 159 [.ref B] (bM B (mH B s) G) sz (.returned none, bM B (mH B s2) G, sz, 0)) (k : gm_ev N0 K ra_nm (ra_mt K) d (some .boolean) (gm_I cX12_leadsOn) (gm_lkf (lkX12 false K)) 7 [some (.ref B), some (.ref (B + 17)), some (.int p1), some (.int p2), some (.long p3), none, some (.long p4), none, some (.int (0 : Int32))] [] (bM B (mH B s2) G) sz sl R) : gm_ev N0 K ra_nm (ra_mt K) d (some .boolean) (gm_I cX12_leadsOn) (gm_lkf (lkX12 false K)) 0 [some (.ref B), some (.ref (B + 17)), some (.int p1), some (.int p2), some (.long p3), none, some (.long p4), none, none] [] (bM B (mH B s) G) sz sl R := by
  refine gm_ev.aload_n i164_0 rfl ?_
  refine gm_ev.callV gm_mono_run (av := []) (r := []) (ci := 11) (fs := mF B s) (bM_get (j := 0) rfl) i164_1 rfl rfl rfl (Nat.le_of_ble_eq_true rfl) t1 ?_
  refine gm_ev.iconst (v := 0) i164_4 (by decide) ?_
  refine gm_ev.istore (ls' := [some (.ref B), some (.ref (B + 17)), some (.int p1), some (.int p2), some (.long p3), none, some (.long p4), none, some (.int (0 : Int32))]) i164_5 (Nat.le_of_ble_eq_true rfl) rfl ?_
  exact k
theorem r_leadsOn_now_7_t {N0 : Nat} {K : Nat → Nat} {d B : Nat} {s : mS} {G : gm_H} {sz sl : Nat} {x2 : Int32} {x3 : Int32} {y4 : Int64} {y6 : Int64} {x8 : Int32} {k2 : Nat} {s4 : mS} {k5 : Nat} {s7 : mS} {s9 : mS} {s11 : mS} {r12 : Int32} {s14 : mS} (hN : N0 ≤ B) (c1 : x3 ≤ x8) (ek2 : (0 : Int32) = nI k2) (lk2 : k2 < 24) (t3 : gm_to N0 K ra_nm (ra_mt K) d 145 [.ref B, .int (274 : Int32), .long (s.2.2 35 k2), .long y4, .long (0 : Int64)] (bM B (mH B s) G) sz (.returned none, bM B (mH B s4) G, sz, 0)) (ek5 : (1 : Int32) = nI k5) (lk5 : k5 < 24) (t6 : gm_to N0 K ra_nm (ra_mt K) d 145 [.ref B, .int (274 : Int32), .long (s4.2.2 35 k5), .long y6, .long (0 : Int64)] (bM B (mH B s4) G) sz (.returned none, bM B (mH B s7) G, sz, 0)) (t8 : gm_to N0 K ra_nm (ra_mt K) d 158 [.ref B] (bM B (mH B s7) G) sz (.returned none, bM B (mH B s9) G, sz, 0)) (t10 : gm_to N0 K ra_nm (ra_mt K) d 162 [.ref B, .int (313 : Int32), .long (0 : Int64), .int (0 : Int32)] (bM B (mH B s9) G) sz (.returned none, bM B (mH B s11) G, sz, 0)) (t13 : gm_to N0 K ra_nm (ra_mt K) d 163 [.ref B] (bM B (mH B s11) G) sz (.returned (some (.int r12)), bM B (mH B s14) G, sz, 0)) (z15 : r12 = 0 ∨ r12 = 1) : gm_ev N0 K ra_nm (ra_mt K) d (some .boolean) (gm_I cX12_leadsOn) (gm_lkf (lkX12 false K)) 7 [some (.ref B), some (.ref (B + 17)), some (.int x2), some (.int x3), some (.long y4), none, some (.long y6), none, some (.int x8)] [] (bM B (mH B s) G) sz sl (.returned (some (.int r12)), (bM B (mH B s14) G), sz, sl) := by
  refine gm_ev.iload i164_7 rfl ?_
  refine gm_ev.iload_n i164_9 rfl ?_
  refine gm_ev.icmp_ge_t (tgt := 34) i164_10 (by decide) c1 ?_
  refine gm_ev.aload_n i164_34 rfl ?_
  refine gm_ev.sipush (v := 274) i164_35 (by decide) ?_
  refine gm_ev.aload_n i164_38 rfl ?_
  refine gm_ev.getfield (v := .ref (B + 20)) i164_39 rfl (bM_fld (j := 0) (fs := mF B s) rfl rfl) ?_
  refine gm_ev.iconst (v := 0) i164_42 (by decide) ?_
  refine gm_ev.laload i164_43 (bM_al (j := 20) (n := 24) (fl := s.2.2 35) rfl ek2 lk2 (by decide)) ?_
  refine gm_ev.lload i164_44 rfl ?_
  refine gm_ev.lconst (v := 0) i164_46 (by decide) ?_
  refine gm_ev.callV gm_mono_run (av := [.int (274 : Int32), .long (s.2.2 35 k2), .long y4, .long (0 : Int64)]) (r := []) (ci := 11) (fs := mF B s) (bM_get (j := 0) rfl) i164_47 rfl rfl rfl (Nat.le_of_ble_eq_true rfl) t3 ?_
  refine gm_ev.aload_n i164_50 rfl ?_
  refine gm_ev.sipush (v := 274) i164_51 (by decide) ?_
  refine gm_ev.aload_n i164_54 rfl ?_
  refine gm_ev.getfield (v := .ref (B + 20)) i164_55 rfl (bM_fld (j := 0) (fs := mF B s4) rfl rfl) ?_
  refine gm_ev.iconst (v := 1) i164_58 (by decide) ?_
  refine gm_ev.laload i164_59 (bM_al (j := 20) (n := 24) (fl := s4.2.2 35) rfl ek5 lk5 (by decide)) ?_
  refine gm_ev.lload i164_60 rfl ?_
  refine gm_ev.lconst (v := 0) i164_62 (by decide) ?_
  refine gm_ev.callV gm_mono_run (av := [.int (274 : Int32), .long (s4.2.2 35 k5), .long y6, .long (0 : Int64)]) (r := []) (ci := 11) (fs := mF B s4) (bM_get (j := 0) rfl) i164_63 rfl rfl rfl (Nat.le_of_ble_eq_true rfl) t6 ?_
  refine gm_ev.aload_n i164_66 rfl ?_
  refine gm_ev.callV gm_mono_run (av := []) (r := []) (ci := 11) (fs := mF B s7) (bM_get (j := 0) rfl) i164_67 rfl rfl rfl (Nat.le_of_ble_eq_true rfl) t8 ?_
  refine gm_ev.aload_n i164_70 rfl ?_
  refine gm_ev.sipush (v := 313) i164_71 (by decide) ?_
  refine gm_ev.lconst (v := 0) i164_74 (by decide) ?_
  refine gm_ev.iconst (v := 0) i164_75 (by decide) ?_
  refine gm_ev.callV gm_mono_run (av := [.int (313 : Int32), .long (0 : Int64), .int (0 : Int32)]) (r := []) (ci := 11) (fs := mF B s9) (bM_get (j := 0) rfl) i164_76 rfl rfl rfl (Nat.le_of_ble_eq_true rfl) t10 ?_
  refine gm_ev.aload_n i164_79 rfl ?_
  refine gm_ev.callV gm_mono_run (av := []) (r := []) (ci := 11) (fs := mF B s11) (bM_get (j := 0) rfl) i164_80 rfl rfl rfl (Nat.le_of_ble_eq_true rfl) t13 ?_
  exact gm_ev.zret i164_83 rfl z15
theorem r_leadsOn_now_7_f_at7 {N0 : Nat} {K : Nat → Nat} {d B : Nat} {s : mS} {G : gm_H} {sz sl : Nat} {R : gm_R} {x2 : Int32} {x3 : Int32} {y4 : Int64} {y6 : Int64} {x8 : Int32} {k2 : Nat} {s4 : mS} (hN : N0 ≤ B) (c1 : ¬ x3 ≤ x8) (ek2 : (x2 + x8) = nI k2) (lk2 : k2 < 24) (t3 : gm_to N0 K ra_nm (ra_mt K) d 145 [.ref B, .int (337 : Int32), .long (s.2.2 29 k2), .long (0 : Int64), .long (0 : Int64)] (bM B (mH B s) G) sz (.returned none, bM B (mH B s4) G, sz, 0)) (k : gm_ev N0 K ra_nm (ra_mt K) d (some .boolean) (gm_I cX12_leadsOn) (gm_lkf (lkX12 false K)) 7 [some (.ref B), some (.ref (B + 17)), some (.int x2), some (.int x3), some (.long y4), none, some (.long y6), none, some (.int (x8 + (1 : Int32)))] [] (bM B (mH B s4) G) sz sl R) : gm_ev N0 K ra_nm (ra_mt K) d (some .boolean) (gm_I cX12_leadsOn) (gm_lkf (lkX12 false K)) 7 [some (.ref B), some (.ref (B + 17)), some (.int x2), some (.int x3), some (.long y4), none, some (.long y6), none, some (.int x8)] [] (bM B (mH B s) G) sz sl R := by
  refine gm_ev.iload i164_7 rfl ?_
  refine gm_ev.iload_n i164_9 rfl ?_
  refine gm_ev.icmp_ge_f i164_10 c1 ?_
  refine gm_ev.aload_n i164_13 rfl ?_
  refine gm_ev.sipush (v := 337) i164_14 (by decide) ?_
  refine gm_ev.aload_n i164_17 rfl ?_
  refine gm_ev.iload_n i164_18 rfl ?_
  refine gm_ev.iload i164_19 rfl ?_
  refine gm_ev.iadd i164_21 ?_
  refine gm_ev.laload i164_22 (bM_al (j := 17) (n := 24) (fl := s.2.2 29) rfl ek2 lk2 (by decide)) ?_
  refine gm_ev.lconst (v := 0) i164_23 (by decide) ?_
  refine gm_ev.lconst (v := 0) i164_24 (by decide) ?_
  refine gm_ev.callV gm_mono_run (av := [.int (337 : Int32), .long (s.2.2 29 k2), .long (0 : Int64), .long (0 : Int64)]) (r := []) (ci := 11) (fs := mF B s) (bM_get (j := 0) rfl) i164_25 rfl rfl rfl (Nat.le_of_ble_eq_true rfl) t3 ?_
  refine gm_ev.iinc (v := x8 + (1 : Int32)) (ls' := [some (.ref B), some (.ref (B + 17)), some (.int x2), some (.int x3), some (.long y4), none, some (.long y6), none, some (.int (x8 + (1 : Int32)))]) i164_28 rfl (by rfl) rfl ?_
  refine gm_ev.goto (tgt := 7) i164_31 (by decide) ?_
  exact k
theorem r_leadsOn_stateTerm_0__at7 {N0 : Nat} {K : Nat → Nat} {d B : Nat} {s : mS} {G : gm_H} {sz sl : Nat} {R : gm_R} {p1 : Int32} {p2 : Int32} {p3 : Int64} {p4 : Int64} {s2 : mS} (hN : N0 ≤ B) (t1 : gm_to N0 K ra_nm (ra_mt K) d 159 [.ref B] (bM B (mH B s) G) sz (.returned none, bM B (mH B s2) G, sz, 0)) (k : gm_ev N0 K ra_nm (ra_mt K) d (some .boolean) (gm_I cX12_leadsOn) (gm_lkf (lkX12 false K)) 7 [some (.ref B), some (.ref (B + 24)), some (.int p1), some (.int p2), some (.long p3), none, some (.long p4), none, some (.int (0 : Int32))] [] (bM B (mH B s2) G) sz sl R) : gm_ev N0 K ra_nm (ra_mt K) d (some .boolean) (gm_I cX12_leadsOn) (gm_lkf (lkX12 false K)) 0 [some (.ref B), some (.ref (B + 24)), some (.int p1), some (.int p2), some (.long p3), none, some (.long p4), none, none] [] (bM B (mH B s) G) sz sl R := by
  refine gm_ev.aload_n i164_0 rfl ?_
  refine gm_ev.callV gm_mono_run (av := []) (r := []) (ci := 11) (fs := mF B s) (bM_get (j := 0) rfl) i164_1 rfl rfl rfl (Nat.le_of_ble_eq_true rfl) t1 ?_
  refine gm_ev.iconst (v := 0) i164_4 (by decide) ?_
  refine gm_ev.istore (ls' := [some (.ref B), some (.ref (B + 24)), some (.int p1), some (.int p2), some (.long p3), none, some (.long p4), none, some (.int (0 : Int32))]) i164_5 (Nat.le_of_ble_eq_true rfl) rfl ?_
  exact k
theorem r_leadsOn_stateTerm_7_t {N0 : Nat} {K : Nat → Nat} {d B : Nat} {s : mS} {G : gm_H} {sz sl : Nat} {x2 : Int32} {x3 : Int32} {y4 : Int64} {y6 : Int64} {x8 : Int32} {k2 : Nat} {s4 : mS} {k5 : Nat} {s7 : mS} {s9 : mS} {s11 : mS} {r12 : Int32} {s14 : mS} (hN : N0 ≤ B) (c1 : x3 ≤ x8) (ek2 : (0 : Int32) = nI k2) (lk2 : k2 < 24) (t3 : gm_to N0 K ra_nm (ra_mt K) d 145 [.ref B, .int (274 : Int32), .long (s.2.2 35 k2), .long y4, .long (0 : Int64)] (bM B (mH B s) G) sz (.returned none, bM B (mH B s4) G, sz, 0)) (ek5 : (1 : Int32) = nI k5) (lk5 : k5 < 24) (t6 : gm_to N0 K ra_nm (ra_mt K) d 145 [.ref B, .int (274 : Int32), .long (s4.2.2 35 k5), .long y6, .long (0 : Int64)] (bM B (mH B s4) G) sz (.returned none, bM B (mH B s7) G, sz, 0)) (t8 : gm_to N0 K ra_nm (ra_mt K) d 158 [.ref B] (bM B (mH B s7) G) sz (.returned none, bM B (mH B s9) G, sz, 0)) (t10 : gm_to N0 K ra_nm (ra_mt K) d 162 [.ref B, .int (313 : Int32), .long (0 : Int64), .int (0 : Int32)] (bM B (mH B s9) G) sz (.returned none, bM B (mH B s11) G, sz, 0)) (t13 : gm_to N0 K ra_nm (ra_mt K) d 163 [.ref B] (bM B (mH B s11) G) sz (.returned (some (.int r12)), bM B (mH B s14) G, sz, 0)) (z15 : r12 = 0 ∨ r12 = 1) : gm_ev N0 K ra_nm (ra_mt K) d (some .boolean) (gm_I cX12_leadsOn) (gm_lkf (lkX12 false K)) 7 [some (.ref B), some (.ref (B + 24)), some (.int x2), some (.int x3), some (.long y4), none, some (.long y6), none, some (.int x8)] [] (bM B (mH B s) G) sz sl (.returned (some (.int r12)), (bM B (mH B s14) G), sz, sl) := by
  refine gm_ev.iload i164_7 rfl ?_
  refine gm_ev.iload_n i164_9 rfl ?_
  refine gm_ev.icmp_ge_t (tgt := 34) i164_10 (by decide) c1 ?_
  refine gm_ev.aload_n i164_34 rfl ?_
  refine gm_ev.sipush (v := 274) i164_35 (by decide) ?_
  refine gm_ev.aload_n i164_38 rfl ?_
  refine gm_ev.getfield (v := .ref (B + 20)) i164_39 rfl (bM_fld (j := 0) (fs := mF B s) rfl rfl) ?_
  refine gm_ev.iconst (v := 0) i164_42 (by decide) ?_
  refine gm_ev.laload i164_43 (bM_al (j := 20) (n := 24) (fl := s.2.2 35) rfl ek2 lk2 (by decide)) ?_
  refine gm_ev.lload i164_44 rfl ?_
  refine gm_ev.lconst (v := 0) i164_46 (by decide) ?_
  refine gm_ev.callV gm_mono_run (av := [.int (274 : Int32), .long (s.2.2 35 k2), .long y4, .long (0 : Int64)]) (r := []) (ci := 11) (fs := mF B s) (bM_get (j := 0) rfl) i164_47 rfl rfl rfl (Nat.le_of_ble_eq_true rfl) t3 ?_
  refine gm_ev.aload_n i164_50 rfl ?_
  refine gm_ev.sipush (v := 274) i164_51 (by decide) ?_
  refine gm_ev.aload_n i164_54 rfl ?_
  refine gm_ev.getfield (v := .ref (B + 20)) i164_55 rfl (bM_fld (j := 0) (fs := mF B s4) rfl rfl) ?_
  refine gm_ev.iconst (v := 1) i164_58 (by decide) ?_
  refine gm_ev.laload i164_59 (bM_al (j := 20) (n := 24) (fl := s4.2.2 35) rfl ek5 lk5 (by decide)) ?_
  refine gm_ev.lload i164_60 rfl ?_
  refine gm_ev.lconst (v := 0) i164_62 (by decide) ?_
  refine gm_ev.callV gm_mono_run (av := [.int (274 : Int32), .long (s4.2.2 35 k5), .long y6, .long (0 : Int64)]) (r := []) (ci := 11) (fs := mF B s4) (bM_get (j := 0) rfl) i164_63 rfl rfl rfl (Nat.le_of_ble_eq_true rfl) t6 ?_
  refine gm_ev.aload_n i164_66 rfl ?_
  refine gm_ev.callV gm_mono_run (av := []) (r := []) (ci := 11) (fs := mF B s7) (bM_get (j := 0) rfl) i164_67 rfl rfl rfl (Nat.le_of_ble_eq_true rfl) t8 ?_
  refine gm_ev.aload_n i164_70 rfl ?_
  refine gm_ev.sipush (v := 313) i164_71 (by decide) ?_
  refine gm_ev.lconst (v := 0) i164_74 (by decide) ?_
  refine gm_ev.iconst (v := 0) i164_75 (by decide) ?_
  refine gm_ev.callV gm_mono_run (av := [.int (313 : Int32), .long (0 : Int64), .int (0 : Int32)]) (r := []) (ci := 11) (fs := mF B s9) (bM_get (j := 0) rfl) i164_76 rfl rfl rfl (Nat.le_of_ble_eq_true rfl) t10 ?_
  refine gm_ev.aload_n i164_79 rfl ?_
  refine gm_ev.callV gm_mono_run (av := []) (r := []) (ci := 11) (fs := mF B s11) (bM_get (j := 0) rfl) i164_80 rfl rfl rfl (Nat.le_of_ble_eq_true rfl) t13 ?_
  exact gm_ev.zret i164_83 rfl z15
theorem r_leadsOn_stateTerm_7_f_at7 {N0 : Nat} {K : Nat → Nat} {d B : Nat} {s : mS} {G : gm_H} {sz sl : Nat} {R : gm_R} {x2 : Int32} {x3 : Int32} {y4 : Int64} {y6 : Int64} {x8 : Int32} {k2 : Nat} {s4 : mS} (hN : N0 ≤ B) (c1 : ¬ x3 ≤ x8) (ek2 : (x2 + x8) = nI k2) (lk2 : k2 < 1440) (t3 : gm_to N0 K ra_nm (ra_mt K) d 145 [.ref B, .int (337 : Int32), .long (s.2.2 44 k2), .long (0 : Int64), .long (0 : Int64)] (bM B (mH B s) G) sz (.returned none, bM B (mH B s4) G, sz, 0)) (k : gm_ev N0 K ra_nm (ra_mt K) d (some .boolean) (gm_I cX12_leadsOn) (gm_lkf (lkX12 false K)) 7 [some (.ref B), some (.ref (B + 24)), some (.int x2), some (.int x3), some (.long y4), none, some (.long y6), none, some (.int (x8 + (1 : Int32)))] [] (bM B (mH B s4) G) sz sl R) : gm_ev N0 K ra_nm (ra_mt K) d (some .boolean) (gm_I cX12_leadsOn) (gm_lkf (lkX12 false K)) 7 [some (.ref B), some (.ref (B + 24)), some (.int x2), some (.int x3), some (.long y4), none, some (.long y6), none, some (.int x8)] [] (bM B (mH B s) G) sz sl R := by
  refine gm_ev.iload i164_7 rfl ?_
  refine gm_ev.iload_n i164_9 rfl ?_
  refine gm_ev.icmp_ge_f i164_10 c1 ?_
  refine gm_ev.aload_n i164_13 rfl ?_
  refine gm_ev.sipush (v := 337) i164_14 (by decide) ?_
  refine gm_ev.aload_n i164_17 rfl ?_
  refine gm_ev.iload_n i164_18 rfl ?_
  refine gm_ev.iload i164_19 rfl ?_
  refine gm_ev.iadd i164_21 ?_
  refine gm_ev.laload i164_22 (bM_al (j := 24) (n := 1440) (fl := s.2.2 44) rfl ek2 lk2 (by decide)) ?_
  refine gm_ev.lconst (v := 0) i164_23 (by decide) ?_
  refine gm_ev.lconst (v := 0) i164_24 (by decide) ?_
  refine gm_ev.callV gm_mono_run (av := [.int (337 : Int32), .long (s.2.2 44 k2), .long (0 : Int64), .long (0 : Int64)]) (r := []) (ci := 11) (fs := mF B s) (bM_get (j := 0) rfl) i164_25 rfl rfl rfl (Nat.le_of_ble_eq_true rfl) t3 ?_
  refine gm_ev.iinc (v := x8 + (1 : Int32)) (ls' := [some (.ref B), some (.ref (B + 24)), some (.int x2), some (.int x3), some (.long y4), none, some (.long y6), none, some (.int (x8 + (1 : Int32)))]) i164_28 rfl (by rfl) rfl ?_
  refine gm_ev.goto (tgt := 7) i164_31 (by decide) ?_
  exact k
theorem r_fetch_sheet_0__at2 {N0 : Nat} {K : Nat → Nat} {d B : Nat} {s : mS} {G : gm_H} {sz sl : Nat} {R : gm_R} {p1 : Int32} (hN : N0 ≤ B)  (k : gm_ev N0 K ra_nm (ra_mt K) d none (gm_I cX12_fetch) (gm_lkf (lkX12 false K)) 2 [some (.ref B), some (.ref (B + 1)), some (.int p1), some (.int (0 : Int32))] [] (bM B (mH B s) G) sz sl R) : gm_ev N0 K ra_nm (ra_mt K) d none (gm_I cX12_fetch) (gm_lkf (lkX12 false K)) 0 [some (.ref B), some (.ref (B + 1)), some (.int p1), none] [] (bM B (mH B s) G) sz sl R := by
  refine gm_ev.iconst (v := 0) i165_0 (by decide) ?_
  refine gm_ev.istore_n (ls' := [some (.ref B), some (.ref (B + 1)), some (.int p1), some (.int (0 : Int32))]) i165_1 (Nat.le_of_ble_eq_true rfl) rfl ?_
  exact k
theorem r_fetch_sheet_2_t {N0 : Nat} {K : Nat → Nat} {d B : Nat} {s : mS} {G : gm_H} {sz sl : Nat} {x2 : Int32} {x3 : Int32} (hN : N0 ≤ B) (c1 : x2 ≤ x3) : gm_ev N0 K ra_nm (ra_mt K) d none (gm_I cX12_fetch) (gm_lkf (lkX12 false K)) 2 [some (.ref B), some (.ref (B + 1)), some (.int x2), some (.int x3)] [] (bM B (mH B s) G) sz sl (.returned none, (bM B (mH B (mI s 9 x2)) G), sz, sl) := by
  refine gm_ev.iload_n i165_2 rfl ?_
  refine gm_ev.iload_n i165_3 rfl ?_
  refine gm_ev.icmp_ge_t (tgt := 22) i165_4 (by decide) c1 ?_
  refine gm_ev.aload_n i165_22 rfl ?_
  refine gm_ev.iload_n i165_23 rfl ?_
  refine gm_ev.putfield (M' := (bM B (mH B (mI s 9 x2)) G)) i165_24 rfl (bM_put (j := 0) (fs := mF B s) rfl (Nat.le_of_ble_eq_true rfl) hN (gm_fit_i _) rfl) ?_
  exact gm_ev.vret i165_27 rfl
theorem r_fetch_sheet_2_f_at2 {N0 : Nat} {K : Nat → Nat} {d B : Nat} {s : mS} {G : gm_H} {sz sl : Nat} {R : gm_R} {x2 : Int32} {x3 : Int32} {k2 : Nat} {k3 : Nat} (hN : N0 ≤ B) (c1 : ¬ x2 ≤ x3) (ek2 : x3 = nI k2) (lk2 : k2 < 240) (ek3 : x3 = nI k3) (lk3 : k3 < 240) (k : gm_ev N0 K ra_nm (ra_mt K) d none (gm_I cX12_fetch) (gm_lkf (lkX12 false K)) 2 [some (.ref B), some (.ref (B + 1)), some (.int x2), some (.int (x3 + (1 : Int32)))] [] (bM B (mH B (mA s 8 (upd (s.2.1 8) k3 (vp_nar .char (s.2.1 1 k2))))) G) sz sl R) : gm_ev N0 K ra_nm (ra_mt K) d none (gm_I cX12_fetch) (gm_lkf (lkX12 false K)) 2 [some (.ref B), some (.ref (B + 1)), some (.int x2), some (.int x3)] [] (bM B (mH B s) G) sz sl R := by
  refine gm_ev.iload_n i165_2 rfl ?_
  refine gm_ev.iload_n i165_3 rfl ?_
  refine gm_ev.icmp_ge_f i165_4 c1 ?_
  refine gm_ev.aload_n i165_7 rfl ?_
  refine gm_ev.getfield (v := .ref (B + 3)) i165_8 rfl (bM_fld (j := 0) (fs := mF B s) rfl rfl) ?_
  refine gm_ev.iload_n i165_11 rfl ?_
  refine gm_ev.aload_n i165_12 rfl ?_
  refine gm_ev.iload_n i165_13 rfl ?_
  refine gm_ev.caload i165_14 (bM_ai (j := 1) (n := 240) (f := s.2.1 1) rfl ek2 lk2 (by decide)) ?_
  refine gm_ev.castore (M' := (bM B (mH B (mA s 8 (upd (s.2.1 8) k3 (vp_nar .char (s.2.1 1 k2))))) G)) i165_15 (bM_astn (j := 3) (n := 240) (f := s.2.1 8) rfl ek3 lk3 (by decide) hN rfl) ?_
  refine gm_ev.iinc (v := x3 + (1 : Int32)) (ls' := [some (.ref B), some (.ref (B + 1)), some (.int x2), some (.int (x3 + (1 : Int32)))]) i165_16 rfl (by rfl) rfl ?_
  refine gm_ev.goto (tgt := 2) i165_19 (by decide) ?_
  exact k
theorem r_fetch_kept_0__at2 {N0 : Nat} {K : Nat → Nat} {d B : Nat} {s : mS} {G : gm_H} {sz sl : Nat} {R : gm_R} {p1 : Int32} (hN : N0 ≤ B)  (k : gm_ev N0 K ra_nm (ra_mt K) d none (gm_I cX12_fetch) (gm_lkf (lkX12 false K)) 2 [some (.ref B), some (.ref (B + 2)), some (.int p1), some (.int (0 : Int32))] [] (bM B (mH B s) G) sz sl R) : gm_ev N0 K ra_nm (ra_mt K) d none (gm_I cX12_fetch) (gm_lkf (lkX12 false K)) 0 [some (.ref B), some (.ref (B + 2)), some (.int p1), none] [] (bM B (mH B s) G) sz sl R := by
  refine gm_ev.iconst (v := 0) i165_0 (by decide) ?_
  refine gm_ev.istore_n (ls' := [some (.ref B), some (.ref (B + 2)), some (.int p1), some (.int (0 : Int32))]) i165_1 (Nat.le_of_ble_eq_true rfl) rfl ?_
  exact k
theorem r_fetch_kept_2_t {N0 : Nat} {K : Nat → Nat} {d B : Nat} {s : mS} {G : gm_H} {sz sl : Nat} {x2 : Int32} {x3 : Int32} (hN : N0 ≤ B) (c1 : x2 ≤ x3) : gm_ev N0 K ra_nm (ra_mt K) d none (gm_I cX12_fetch) (gm_lkf (lkX12 false K)) 2 [some (.ref B), some (.ref (B + 2)), some (.int x2), some (.int x3)] [] (bM B (mH B s) G) sz sl (.returned none, (bM B (mH B (mI s 9 x2)) G), sz, sl) := by
  refine gm_ev.iload_n i165_2 rfl ?_
  refine gm_ev.iload_n i165_3 rfl ?_
  refine gm_ev.icmp_ge_t (tgt := 22) i165_4 (by decide) c1 ?_
  refine gm_ev.aload_n i165_22 rfl ?_
  refine gm_ev.iload_n i165_23 rfl ?_
  refine gm_ev.putfield (M' := (bM B (mH B (mI s 9 x2)) G)) i165_24 rfl (bM_put (j := 0) (fs := mF B s) rfl (Nat.le_of_ble_eq_true rfl) hN (gm_fit_i _) rfl) ?_
  exact gm_ev.vret i165_27 rfl
theorem r_fetch_kept_2_f_at2 {N0 : Nat} {K : Nat → Nat} {d B : Nat} {s : mS} {G : gm_H} {sz sl : Nat} {R : gm_R} {x2 : Int32} {x3 : Int32} {k2 : Nat} {k3 : Nat} (hN : N0 ≤ B) (c1 : ¬ x2 ≤ x3) (ek2 : x3 = nI k2) (lk2 : k2 < 240) (ek3 : x3 = nI k3) (lk3 : k3 < 240) (k : gm_ev N0 K ra_nm (ra_mt K) d none (gm_I cX12_fetch) (gm_lkf (lkX12 false K)) 2 [some (.ref B), some (.ref (B + 2)), some (.int x2), some (.int (x3 + (1 : Int32)))] [] (bM B (mH B (mA s 8 (upd (s.2.1 8) k3 (vp_nar .char (s.2.1 3 k2))))) G) sz sl R) : gm_ev N0 K ra_nm (ra_mt K) d none (gm_I cX12_fetch) (gm_lkf (lkX12 false K)) 2 [some (.ref B), some (.ref (B + 2)), some (.int x2), some (.int x3)] [] (bM B (mH B s) G) sz sl R := by
  refine gm_ev.iload_n i165_2 rfl ?_
  refine gm_ev.iload_n i165_3 rfl ?_
  refine gm_ev.icmp_ge_f i165_4 c1 ?_
  refine gm_ev.aload_n i165_7 rfl ?_
  refine gm_ev.getfield (v := .ref (B + 3)) i165_8 rfl (bM_fld (j := 0) (fs := mF B s) rfl rfl) ?_
  refine gm_ev.iload_n i165_11 rfl ?_
  refine gm_ev.aload_n i165_12 rfl ?_
  refine gm_ev.iload_n i165_13 rfl ?_
  refine gm_ev.caload i165_14 (bM_ai (j := 2) (n := 240) (f := s.2.1 3) rfl ek2 lk2 (by decide)) ?_
  refine gm_ev.castore (M' := (bM B (mH B (mA s 8 (upd (s.2.1 8) k3 (vp_nar .char (s.2.1 3 k2))))) G)) i165_15 (bM_astn (j := 3) (n := 240) (f := s.2.1 8) rfl ek3 lk3 (by decide) hN rfl) ?_
  refine gm_ev.iinc (v := x3 + (1 : Int32)) (ls' := [some (.ref B), some (.ref (B + 2)), some (.int x2), some (.int (x3 + (1 : Int32)))]) i165_16 rfl (by rfl) rfl ?_
  refine gm_ev.goto (tgt := 2) i165_19 (by decide) ?_
  exact k
theorem r_begins_0_tt {N0 : Nat} {K : Nat → Nat} {d B : Nat} {s : mS} {G : gm_H} {sz sl : Nat} {s2 : mS} {s4 : mS} {s6 : mS} {r7 : Int32} {s9 : mS} {s12 : mS} (hN : N0 ≤ B) (t1 : gm_to N0 K ra_nm (ra_mt K) d 159 [.ref B] (bM B (mH B s) G) sz (.returned none, bM B (mH B s2) G, sz, 0)) (t3 : gm_to N0 K ra_nm (ra_mt K) d 158 [.ref B] (bM B (mH B s2) G) sz (.returned none, bM B (mH B s4) G, sz, 0)) (t5 : gm_to N0 K ra_nm (ra_mt K) d 162 [.ref B, .int (293 : Int32), .long (0 : Int64), .int (0 : Int32)] (bM B (mH B s4) G) sz (.returned none, bM B (mH B s6) G, sz, 0)) (t8 : gm_to N0 K ra_nm (ra_mt K) d 163 [.ref B] (bM B (mH B s6) G) sz (.returned (some (.int r7)), bM B (mH B s9) G, sz, 0)) (c10 : ¬ r7 = 0) (t11 : gm_to N0 K ra_nm (ra_mt K) d 160 [.ref B, .ref (B + 19), .int (0 : Int32), .int (s9.1 34)] (bM B (mH B s9) G) sz (.returned none, bM B (mH B s12) G, sz, 0)) (c13 : ¬ (s12.1 23) = 0) : gm_ev N0 K ra_nm (ra_mt K) d (some .boolean) (gm_I cX12_begins) (gm_lkf (lkX12 false K)) 0 [some (.ref B)] [] (bM B (mH B s) G) sz sl (.returned (some (.int (0 : Int32))), (bM B (mH B s12) G), sz, sl) := by
  refine gm_ev.aload_n i166_0 rfl ?_
  refine gm_ev.callV gm_mono_run (av := []) (r := []) (ci := 11) (fs := mF B s) (bM_get (j := 0) rfl) i166_1 rfl rfl rfl (Nat.le_of_ble_eq_true rfl) t1 ?_
  refine gm_ev.aload_n i166_4 rfl ?_
  refine gm_ev.callV gm_mono_run (av := []) (r := []) (ci := 11) (fs := mF B s2) (bM_get (j := 0) rfl) i166_5 rfl rfl rfl (Nat.le_of_ble_eq_true rfl) t3 ?_
  refine gm_ev.aload_n i166_8 rfl ?_
  refine gm_ev.sipush (v := 293) i166_9 (by decide) ?_
  refine gm_ev.lconst (v := 0) i166_12 (by decide) ?_
  refine gm_ev.iconst (v := 0) i166_13 (by decide) ?_
  refine gm_ev.callV gm_mono_run (av := [.int (293 : Int32), .long (0 : Int64), .int (0 : Int32)]) (r := []) (ci := 11) (fs := mF B s4) (bM_get (j := 0) rfl) i166_14 rfl rfl rfl (Nat.le_of_ble_eq_true rfl) t5 ?_
  refine gm_ev.aload_n i166_17 rfl ?_
  refine gm_ev.callV gm_mono_run (av := []) (r := []) (ci := 11) (fs := mF B s6) (bM_get (j := 0) rfl) i166_18 rfl rfl rfl (Nat.le_of_ble_eq_true rfl) t8 ?_
  refine gm_ev.if_ne_t (tgt := 26) i166_21 (by decide) c10 ?_
  refine gm_ev.aload_n i166_26 rfl ?_
  refine gm_ev.aload_n i166_27 rfl ?_
  refine gm_ev.getfield (v := .ref (B + 19)) i166_28 rfl (bM_fld (j := 0) (fs := mF B s9) rfl rfl) ?_
  refine gm_ev.iconst (v := 0) i166_31 (by decide) ?_
  refine gm_ev.aload_n i166_32 rfl ?_
  refine gm_ev.getfield (v := .int (s9.1 34)) i166_33 rfl (bM_fld (j := 0) (fs := mF B s9) rfl rfl) ?_
  refine gm_ev.callV gm_mono_run (av := [.ref (B + 19), .int (0 : Int32), .int (s9.1 34)]) (r := []) (ci := 11) (fs := mF B s9) (bM_get (j := 0) rfl) i166_36 rfl rfl rfl (Nat.le_of_ble_eq_true rfl) t11 ?_
  refine gm_ev.aload_n i166_39 rfl ?_
  refine gm_ev.getfield (v := .int (s12.1 23)) i166_40 rfl (bM_fld (j := 0) (fs := mF B s12) rfl rfl) ?_
  refine gm_ev.if_ne_t (tgt := 50) i166_43 (by decide) c13 ?_
  refine gm_ev.iconst (v := 0) i166_50 (by decide) ?_
  exact gm_ev.zret i166_51 rfl (by decide)
theorem r_begins_0_tf {N0 : Nat} {K : Nat → Nat} {d B : Nat} {s : mS} {G : gm_H} {sz sl : Nat} {s2 : mS} {s4 : mS} {s6 : mS} {r7 : Int32} {s9 : mS} {s12 : mS} (hN : N0 ≤ B) (t1 : gm_to N0 K ra_nm (ra_mt K) d 159 [.ref B] (bM B (mH B s) G) sz (.returned none, bM B (mH B s2) G, sz, 0)) (t3 : gm_to N0 K ra_nm (ra_mt K) d 158 [.ref B] (bM B (mH B s2) G) sz (.returned none, bM B (mH B s4) G, sz, 0)) (t5 : gm_to N0 K ra_nm (ra_mt K) d 162 [.ref B, .int (293 : Int32), .long (0 : Int64), .int (0 : Int32)] (bM B (mH B s4) G) sz (.returned none, bM B (mH B s6) G, sz, 0)) (t8 : gm_to N0 K ra_nm (ra_mt K) d 163 [.ref B] (bM B (mH B s6) G) sz (.returned (some (.int r7)), bM B (mH B s9) G, sz, 0)) (c10 : ¬ r7 = 0) (t11 : gm_to N0 K ra_nm (ra_mt K) d 160 [.ref B, .ref (B + 19), .int (0 : Int32), .int (s9.1 34)] (bM B (mH B s9) G) sz (.returned none, bM B (mH B s12) G, sz, 0)) (c13 : (s12.1 23) = 0) : gm_ev N0 K ra_nm (ra_mt K) d (some .boolean) (gm_I cX12_begins) (gm_lkf (lkX12 false K)) 0 [some (.ref B)] [] (bM B (mH B s) G) sz sl (.returned (some (.int (1 : Int32))), (bM B (mH B s12) G), sz, sl) := by
  refine gm_ev.aload_n i166_0 rfl ?_
  refine gm_ev.callV gm_mono_run (av := []) (r := []) (ci := 11) (fs := mF B s) (bM_get (j := 0) rfl) i166_1 rfl rfl rfl (Nat.le_of_ble_eq_true rfl) t1 ?_
  refine gm_ev.aload_n i166_4 rfl ?_
  refine gm_ev.callV gm_mono_run (av := []) (r := []) (ci := 11) (fs := mF B s2) (bM_get (j := 0) rfl) i166_5 rfl rfl rfl (Nat.le_of_ble_eq_true rfl) t3 ?_
  refine gm_ev.aload_n i166_8 rfl ?_
  refine gm_ev.sipush (v := 293) i166_9 (by decide) ?_
  refine gm_ev.lconst (v := 0) i166_12 (by decide) ?_
  refine gm_ev.iconst (v := 0) i166_13 (by decide) ?_
  refine gm_ev.callV gm_mono_run (av := [.int (293 : Int32), .long (0 : Int64), .int (0 : Int32)]) (r := []) (ci := 11) (fs := mF B s4) (bM_get (j := 0) rfl) i166_14 rfl rfl rfl (Nat.le_of_ble_eq_true rfl) t5 ?_
  refine gm_ev.aload_n i166_17 rfl ?_
  refine gm_ev.callV gm_mono_run (av := []) (r := []) (ci := 11) (fs := mF B s6) (bM_get (j := 0) rfl) i166_18 rfl rfl rfl (Nat.le_of_ble_eq_true rfl) t8 ?_
  refine gm_ev.if_ne_t (tgt := 26) i166_21 (by decide) c10 ?_
  refine gm_ev.aload_n i166_26 rfl ?_
  refine gm_ev.aload_n i166_27 rfl ?_
  refine gm_ev.getfield (v := .ref (B + 19)) i166_28 rfl (bM_fld (j := 0) (fs := mF B s9) rfl rfl) ?_
  refine gm_ev.iconst (v := 0) i166_31 (by decide) ?_
  refine gm_ev.aload_n i166_32 rfl ?_
  refine gm_ev.getfield (v := .int (s9.1 34)) i166_33 rfl (bM_fld (j := 0) (fs := mF B s9) rfl rfl) ?_
  refine gm_ev.callV gm_mono_run (av := [.ref (B + 19), .int (0 : Int32), .int (s9.1 34)]) (r := []) (ci := 11) (fs := mF B s9) (bM_get (j := 0) rfl) i166_36 rfl rfl rfl (Nat.le_of_ble_eq_true rfl) t11 ?_
  refine gm_ev.aload_n i166_39 rfl ?_
  refine gm_ev.getfield (v := .int (s12.1 23)) i166_40 rfl (bM_fld (j := 0) (fs := mF B s12) rfl rfl) ?_
  refine gm_ev.if_ne_f i166_43 c13 ?_
  refine gm_ev.iconst (v := 1) i166_46 (by decide) ?_
  refine gm_ev.goto (tgt := 51) i166_47 (by decide) ?_
  exact gm_ev.zret i166_51 rfl (by decide)
theorem r_begins_0_f {N0 : Nat} {K : Nat → Nat} {d B : Nat} {s : mS} {G : gm_H} {sz sl : Nat} {s2 : mS} {s4 : mS} {s6 : mS} {r7 : Int32} {s9 : mS} (hN : N0 ≤ B) (t1 : gm_to N0 K ra_nm (ra_mt K) d 159 [.ref B] (bM B (mH B s) G) sz (.returned none, bM B (mH B s2) G, sz, 0)) (t3 : gm_to N0 K ra_nm (ra_mt K) d 158 [.ref B] (bM B (mH B s2) G) sz (.returned none, bM B (mH B s4) G, sz, 0)) (t5 : gm_to N0 K ra_nm (ra_mt K) d 162 [.ref B, .int (293 : Int32), .long (0 : Int64), .int (0 : Int32)] (bM B (mH B s4) G) sz (.returned none, bM B (mH B s6) G, sz, 0)) (t8 : gm_to N0 K ra_nm (ra_mt K) d 163 [.ref B] (bM B (mH B s6) G) sz (.returned (some (.int r7)), bM B (mH B s9) G, sz, 0)) (c10 : r7 = 0) : gm_ev N0 K ra_nm (ra_mt K) d (some .boolean) (gm_I cX12_begins) (gm_lkf (lkX12 false K)) 0 [some (.ref B)] [] (bM B (mH B s) G) sz sl (.returned (some (.int (0 : Int32))), (bM B (mH B s9) G), sz, sl) := by
  refine gm_ev.aload_n i166_0 rfl ?_
  refine gm_ev.callV gm_mono_run (av := []) (r := []) (ci := 11) (fs := mF B s) (bM_get (j := 0) rfl) i166_1 rfl rfl rfl (Nat.le_of_ble_eq_true rfl) t1 ?_
  refine gm_ev.aload_n i166_4 rfl ?_
  refine gm_ev.callV gm_mono_run (av := []) (r := []) (ci := 11) (fs := mF B s2) (bM_get (j := 0) rfl) i166_5 rfl rfl rfl (Nat.le_of_ble_eq_true rfl) t3 ?_
  refine gm_ev.aload_n i166_8 rfl ?_
  refine gm_ev.sipush (v := 293) i166_9 (by decide) ?_
  refine gm_ev.lconst (v := 0) i166_12 (by decide) ?_
  refine gm_ev.iconst (v := 0) i166_13 (by decide) ?_
  refine gm_ev.callV gm_mono_run (av := [.int (293 : Int32), .long (0 : Int64), .int (0 : Int32)]) (r := []) (ci := 11) (fs := mF B s4) (bM_get (j := 0) rfl) i166_14 rfl rfl rfl (Nat.le_of_ble_eq_true rfl) t5 ?_
  refine gm_ev.aload_n i166_17 rfl ?_
  refine gm_ev.callV gm_mono_run (av := []) (r := []) (ci := 11) (fs := mF B s6) (bM_get (j := 0) rfl) i166_18 rfl rfl rfl (Nat.le_of_ble_eq_true rfl) t8 ?_
  refine gm_ev.if_ne_f i166_21 c10 ?_
  refine gm_ev.iconst (v := 0) i166_24 (by decide) ?_
  exact gm_ev.zret i166_25 rfl (by decide)
theorem r_load_0_ttt_at123 {N0 : Nat} {K : Nat → Nat} {d B : Nat} {s : mS} {G : gm_H} {sz sl : Nat} {R : gm_R} {s2 : mS} {r3 : Int32} {s5 : mS} {r7 : Int32} {s9 : mS} (hN : N0 ≤ B) (t1 : gm_to N0 K ra_nm (ra_mt K) d 165 [.ref B, .ref (B + 1), .int (s.1 2)] (bM B (mH B s) G) sz (.returned none, bM B (mH B s2) G, sz, 0)) (t4 : gm_to N0 K ra_nm (ra_mt K) d 142 [.ref B] (bM B (mH B (mI (mI s2 2 (0 : Int32)) 0 (0 : Int32))) G) sz (.returned (some (.int r3)), bM B (mH B s5) G, sz, 0)) (c6 : ¬ r3 = 0) (t8 : gm_to N0 K ra_nm (ra_mt K) d 166 [.ref B] (bM B (mH B s5) G) sz (.returned (some (.int r7)), bM B (mH B s9) G, sz, 0)) (c10 : r7 = 0) (c11 : (3 : Int32) ≤ 0) (k : gm_ev N0 K ra_nm (ra_mt K) d (some .int) (gm_I cX12_load) (gm_lkf (lkX12 false K)) 123 [some (.ref B), none, some (.int (0 : Int32)), none] [] (bM B (mH B (mI s9 0 (3 : Int32))) G) sz sl R) : gm_ev N0 K ra_nm (ra_mt K) d (some .int) (gm_I cX12_load) (gm_lkf (lkX12 false K)) 0 [some (.ref B), none, none, none] [] (bM B (mH B s) G) sz sl R := by
  refine gm_ev.aload_n i167_0 rfl ?_
  refine gm_ev.aload_n i167_1 rfl ?_
  refine gm_ev.getfield (v := .ref (B + 1)) i167_2 rfl (bM_fld (j := 0) (fs := mF B s) rfl rfl) ?_
  refine gm_ev.aload_n i167_5 rfl ?_
  refine gm_ev.getfield (v := .int (s.1 2)) i167_6 rfl (bM_fld (j := 0) (fs := mF B s) rfl rfl) ?_
  refine gm_ev.callV gm_mono_run (av := [.ref (B + 1), .int (s.1 2)]) (r := []) (ci := 11) (fs := mF B s) (bM_get (j := 0) rfl) i167_9 rfl rfl rfl (Nat.le_of_ble_eq_true rfl) t1 ?_
  refine gm_ev.aload_n i167_12 rfl ?_
  refine gm_ev.iconst (v := 0) i167_13 (by decide) ?_
  refine gm_ev.putfield (M' := (bM B (mH B (mI s2 2 (0 : Int32))) G)) i167_14 rfl (bM_put (j := 0) (fs := mF B s2) rfl (Nat.le_of_ble_eq_true rfl) hN (gm_fit_i _) rfl) ?_
  refine gm_ev.aload_n i167_17 rfl ?_
  refine gm_ev.iconst (v := 0) i167_18 (by decide) ?_
  refine gm_ev.putfield (M' := (bM B (mH B (mI (mI s2 2 (0 : Int32)) 0 (0 : Int32))) G)) i167_19 rfl (bM_put (j := 0) (fs := mF B (mI s2 2 (0 : Int32))) rfl (Nat.le_of_ble_eq_true rfl) hN (gm_fit_i _) rfl) ?_
  refine gm_ev.aload_n i167_22 rfl ?_
  refine gm_ev.callV gm_mono_run (av := []) (r := []) (ci := 11) (fs := mF B (mI (mI s2 2 (0 : Int32)) 0 (0 : Int32))) (bM_get (j := 0) rfl) i167_23 rfl rfl rfl (Nat.le_of_ble_eq_true rfl) t4 ?_
  refine gm_ev.istore_n (ls' := [some (.ref B), some (.int r3), none, none]) i167_26 (Nat.le_of_ble_eq_true rfl) rfl ?_
  refine gm_ev.aload_n i167_27 rfl ?_
  refine gm_ev.iload_n i167_28 rfl ?_
  refine gm_ev.if_ne_t (tgt := 48) i167_29 (by decide) c6 ?_
  refine gm_ev.aload_n i167_48 rfl ?_
  refine gm_ev.callV gm_mono_run (av := []) (r := [.ref B]) (ci := 11) (fs := mF B s5) (bM_get (j := 0) rfl) i167_49 rfl rfl rfl (Nat.le_of_ble_eq_true rfl) t8 ?_
  refine gm_ev.if_eq_t (tgt := 59) i167_52 (by decide) c10 ?_
  refine gm_ev.iconst (v := 3) i167_59 (by decide) ?_
  refine gm_ev.putfield (M' := (bM B (mH B (mI s9 0 (3 : Int32))) G)) i167_60 rfl (bM_put (j := 0) (fs := mF B s9) rfl (Nat.le_of_ble_eq_true rfl) hN (gm_fit_i _) rfl) ?_
  refine gm_ev.aload_n i167_63 rfl ?_
  refine gm_ev.getfield (v := .int (3 : Int32)) i167_64 rfl (bM_fld (j := 0) (fs := mF B (mI s9 0 (3 : Int32))) rfl rfl) ?_
  refine gm_ev.if_le_t (tgt := 121) i167_67 (by decide) c11 ?_
  refine gm_ev.iconst (v := 0) i167_121 (by decide) ?_
  refine gm_ev.istore_n (ls' := [some (.ref B), some (.int r3), some (.int (0 : Int32)), none]) i167_122 (Nat.le_of_ble_eq_true rfl) rfl ?_
  refine gm_ev.le (a := [some (.ref B), none, some (.int (0 : Int32)), none]) (gm_leL.le (show gm_leL _ _ from ⟨rfl, ⟨rfl, trivial⟩⟩)) ?_
  exact k
theorem r_load_0_ttft {N0 : Nat} {K : Nat → Nat} {d B : Nat} {s : mS} {G : gm_H} {sz sl : Nat} {s2 : mS} {r3 : Int32} {s5 : mS} {r7 : Int32} {s9 : mS} {s13 : mS} (hN : N0 ≤ B) (t1 : gm_to N0 K ra_nm (ra_mt K) d 165 [.ref B, .ref (B + 1), .int (s.1 2)] (bM B (mH B s) G) sz (.returned none, bM B (mH B s2) G, sz, 0)) (t4 : gm_to N0 K ra_nm (ra_mt K) d 142 [.ref B] (bM B (mH B (mI (mI s2 2 (0 : Int32)) 0 (0 : Int32))) G) sz (.returned (some (.int r3)), bM B (mH B s5) G, sz, 0)) (c6 : ¬ r3 = 0) (t8 : gm_to N0 K ra_nm (ra_mt K) d 166 [.ref B] (bM B (mH B s5) G) sz (.returned (some (.int r7)), bM B (mH B s9) G, sz, 0)) (c10 : r7 = 0) (c11 : ¬ (3 : Int32) ≤ 0) (t12 : gm_to N0 K ra_nm (ra_mt K) d 165 [.ref B, .ref (B + 2), .int (s9.1 4)] (bM B (mH B (mI s9 0 (3 : Int32))) G) sz (.returned none, bM B (mH B s13) G, sz, 0)) (c14 : (s13.1 5) = 0) : gm_ev N0 K ra_nm (ra_mt K) d (some .int) (gm_I cX12_load) (gm_lkf (lkX12 false K)) 0 [some (.ref B), none, none, none] [] (bM B (mH B s) G) sz sl (.returned (some (.int (0 : Int32))), (bM B (mH B (mI (mI (mI s13 6 (s9.1 6)) 7 (s9.1 7)) 24 (0 : Int32))) G), sz, sl) := by
  refine gm_ev.aload_n i167_0 rfl ?_
  refine gm_ev.aload_n i167_1 rfl ?_
  refine gm_ev.getfield (v := .ref (B + 1)) i167_2 rfl (bM_fld (j := 0) (fs := mF B s) rfl rfl) ?_
  refine gm_ev.aload_n i167_5 rfl ?_
  refine gm_ev.getfield (v := .int (s.1 2)) i167_6 rfl (bM_fld (j := 0) (fs := mF B s) rfl rfl) ?_
  refine gm_ev.callV gm_mono_run (av := [.ref (B + 1), .int (s.1 2)]) (r := []) (ci := 11) (fs := mF B s) (bM_get (j := 0) rfl) i167_9 rfl rfl rfl (Nat.le_of_ble_eq_true rfl) t1 ?_
  refine gm_ev.aload_n i167_12 rfl ?_
  refine gm_ev.iconst (v := 0) i167_13 (by decide) ?_
  refine gm_ev.putfield (M' := (bM B (mH B (mI s2 2 (0 : Int32))) G)) i167_14 rfl (bM_put (j := 0) (fs := mF B s2) rfl (Nat.le_of_ble_eq_true rfl) hN (gm_fit_i _) rfl) ?_
  refine gm_ev.aload_n i167_17 rfl ?_
  refine gm_ev.iconst (v := 0) i167_18 (by decide) ?_
  refine gm_ev.putfield (M' := (bM B (mH B (mI (mI s2 2 (0 : Int32)) 0 (0 : Int32))) G)) i167_19 rfl (bM_put (j := 0) (fs := mF B (mI s2 2 (0 : Int32))) rfl (Nat.le_of_ble_eq_true rfl) hN (gm_fit_i _) rfl) ?_
  refine gm_ev.aload_n i167_22 rfl ?_
  refine gm_ev.callV gm_mono_run (av := []) (r := []) (ci := 11) (fs := mF B (mI (mI s2 2 (0 : Int32)) 0 (0 : Int32))) (bM_get (j := 0) rfl) i167_23 rfl rfl rfl (Nat.le_of_ble_eq_true rfl) t4 ?_
  refine gm_ev.istore_n (ls' := [some (.ref B), some (.int r3), none, none]) i167_26 (Nat.le_of_ble_eq_true rfl) rfl ?_
  refine gm_ev.aload_n i167_27 rfl ?_
  refine gm_ev.iload_n i167_28 rfl ?_
  refine gm_ev.if_ne_t (tgt := 48) i167_29 (by decide) c6 ?_
  refine gm_ev.aload_n i167_48 rfl ?_
  refine gm_ev.callV gm_mono_run (av := []) (r := [.ref B]) (ci := 11) (fs := mF B s5) (bM_get (j := 0) rfl) i167_49 rfl rfl rfl (Nat.le_of_ble_eq_true rfl) t8 ?_
  refine gm_ev.if_eq_t (tgt := 59) i167_52 (by decide) c10 ?_
  refine gm_ev.iconst (v := 3) i167_59 (by decide) ?_
  refine gm_ev.putfield (M' := (bM B (mH B (mI s9 0 (3 : Int32))) G)) i167_60 rfl (bM_put (j := 0) (fs := mF B s9) rfl (Nat.le_of_ble_eq_true rfl) hN (gm_fit_i _) rfl) ?_
  refine gm_ev.aload_n i167_63 rfl ?_
  refine gm_ev.getfield (v := .int (3 : Int32)) i167_64 rfl (bM_fld (j := 0) (fs := mF B (mI s9 0 (3 : Int32))) rfl rfl) ?_
  refine gm_ev.if_le_f i167_67 c11 ?_
  refine gm_ev.aload_n i167_70 rfl ?_
  refine gm_ev.getfield (v := .int (s9.1 6)) i167_71 rfl (bM_fld (j := 0) (fs := mF B (mI s9 0 (3 : Int32))) rfl rfl) ?_
  refine gm_ev.istore_n (ls' := [some (.ref B), some (.int r3), some (.int (s9.1 6)), none]) i167_74 (Nat.le_of_ble_eq_true rfl) rfl ?_
  refine gm_ev.aload_n i167_75 rfl ?_
  refine gm_ev.getfield (v := .int (s9.1 7)) i167_76 rfl (bM_fld (j := 0) (fs := mF B (mI s9 0 (3 : Int32))) rfl rfl) ?_
  refine gm_ev.istore_n (ls' := [some (.ref B), some (.int r3), some (.int (s9.1 6)), some (.int (s9.1 7))]) i167_79 (Nat.le_of_ble_eq_true rfl) rfl ?_
  refine gm_ev.aload_n i167_80 rfl ?_
  refine gm_ev.aload_n i167_81 rfl ?_
  refine gm_ev.getfield (v := .ref (B + 2)) i167_82 rfl (bM_fld (j := 0) (fs := mF B (mI s9 0 (3 : Int32))) rfl rfl) ?_
  refine gm_ev.aload_n i167_85 rfl ?_
  refine gm_ev.getfield (v := .int (s9.1 4)) i167_86 rfl (bM_fld (j := 0) (fs := mF B (mI s9 0 (3 : Int32))) rfl rfl) ?_
  refine gm_ev.callV gm_mono_run (av := [.ref (B + 2), .int (s9.1 4)]) (r := []) (ci := 11) (fs := mF B (mI s9 0 (3 : Int32))) (bM_get (j := 0) rfl) i167_89 rfl rfl rfl (Nat.le_of_ble_eq_true rfl) t12 ?_
  refine gm_ev.aload_n i167_92 rfl ?_
  refine gm_ev.getfield (v := .int (s13.1 5)) i167_93 rfl (bM_fld (j := 0) (fs := mF B s13) rfl rfl) ?_
  refine gm_ev.if_eq_t (tgt := 104) i167_96 (by decide) c14 ?_
  refine gm_ev.aload_n i167_104 rfl ?_
  refine gm_ev.iload_n i167_105 rfl ?_
  refine gm_ev.putfield (M' := (bM B (mH B (mI s13 6 (s9.1 6))) G)) i167_106 rfl (bM_put (j := 0) (fs := mF B s13) rfl (Nat.le_of_ble_eq_true rfl) hN (gm_fit_i _) rfl) ?_
  refine gm_ev.aload_n i167_109 rfl ?_
  refine gm_ev.iload_n i167_110 rfl ?_
  refine gm_ev.putfield (M' := (bM B (mH B (mI (mI s13 6 (s9.1 6)) 7 (s9.1 7))) G)) i167_111 rfl (bM_put (j := 0) (fs := mF B (mI s13 6 (s9.1 6))) rfl (Nat.le_of_ble_eq_true rfl) hN (gm_fit_i _) rfl) ?_
  refine gm_ev.aload_n i167_114 rfl ?_
  refine gm_ev.iconst (v := 0) i167_115 (by decide) ?_
  refine gm_ev.putfield (M' := (bM B (mH B (mI (mI (mI s13 6 (s9.1 6)) 7 (s9.1 7)) 24 (0 : Int32))) G)) i167_116 rfl (bM_put (j := 0) (fs := mF B (mI (mI s13 6 (s9.1 6)) 7 (s9.1 7))) rfl (Nat.le_of_ble_eq_true rfl) hN (gm_fit_z (by decide)) rfl) ?_
  refine gm_ev.iconst (v := 0) i167_119 (by decide) ?_
  exact gm_ev.iret i167_120 rfl
theorem r_load_0_ttff {N0 : Nat} {K : Nat → Nat} {d B : Nat} {s : mS} {G : gm_H} {sz sl : Nat} {s2 : mS} {r3 : Int32} {s5 : mS} {r7 : Int32} {s9 : mS} {s13 : mS} {r15 : Int32} {s17 : mS} (hN : N0 ≤ B) (t1 : gm_to N0 K ra_nm (ra_mt K) d 165 [.ref B, .ref (B + 1), .int (s.1 2)] (bM B (mH B s) G) sz (.returned none, bM B (mH B s2) G, sz, 0)) (t4 : gm_to N0 K ra_nm (ra_mt K) d 142 [.ref B] (bM B (mH B (mI (mI s2 2 (0 : Int32)) 0 (0 : Int32))) G) sz (.returned (some (.int r3)), bM B (mH B s5) G, sz, 0)) (c6 : ¬ r3 = 0) (t8 : gm_to N0 K ra_nm (ra_mt K) d 166 [.ref B] (bM B (mH B s5) G) sz (.returned (some (.int r7)), bM B (mH B s9) G, sz, 0)) (c10 : r7 = 0) (c11 : ¬ (3 : Int32) ≤ 0) (t12 : gm_to N0 K ra_nm (ra_mt K) d 165 [.ref B, .ref (B + 2), .int (s9.1 4)] (bM B (mH B (mI s9 0 (3 : Int32))) G) sz (.returned none, bM B (mH B s13) G, sz, 0)) (c14 : ¬ (s13.1 5) = 0) (t16 : gm_to N0 K ra_nm (ra_mt K) d 142 [.ref B] (bM B (mH B s13) G) sz (.returned (some (.int r15)), bM B (mH B s17) G, sz, 0)) : gm_ev N0 K ra_nm (ra_mt K) d (some .int) (gm_I cX12_load) (gm_lkf (lkX12 false K)) 0 [some (.ref B), none, none, none] [] (bM B (mH B s) G) sz sl (.returned (some (.int (0 : Int32))), (bM B (mH B (mI (mI (mI s17 6 (s9.1 6)) 7 (s9.1 7)) 24 (0 : Int32))) G), sz, sl) := by
  refine gm_ev.aload_n i167_0 rfl ?_
  refine gm_ev.aload_n i167_1 rfl ?_
  refine gm_ev.getfield (v := .ref (B + 1)) i167_2 rfl (bM_fld (j := 0) (fs := mF B s) rfl rfl) ?_
  refine gm_ev.aload_n i167_5 rfl ?_
  refine gm_ev.getfield (v := .int (s.1 2)) i167_6 rfl (bM_fld (j := 0) (fs := mF B s) rfl rfl) ?_
  refine gm_ev.callV gm_mono_run (av := [.ref (B + 1), .int (s.1 2)]) (r := []) (ci := 11) (fs := mF B s) (bM_get (j := 0) rfl) i167_9 rfl rfl rfl (Nat.le_of_ble_eq_true rfl) t1 ?_
  refine gm_ev.aload_n i167_12 rfl ?_
  refine gm_ev.iconst (v := 0) i167_13 (by decide) ?_
  refine gm_ev.putfield (M' := (bM B (mH B (mI s2 2 (0 : Int32))) G)) i167_14 rfl (bM_put (j := 0) (fs := mF B s2) rfl (Nat.le_of_ble_eq_true rfl) hN (gm_fit_i _) rfl) ?_
  refine gm_ev.aload_n i167_17 rfl ?_
  refine gm_ev.iconst (v := 0) i167_18 (by decide) ?_
  refine gm_ev.putfield (M' := (bM B (mH B (mI (mI s2 2 (0 : Int32)) 0 (0 : Int32))) G)) i167_19 rfl (bM_put (j := 0) (fs := mF B (mI s2 2 (0 : Int32))) rfl (Nat.le_of_ble_eq_true rfl) hN (gm_fit_i _) rfl) ?_
  refine gm_ev.aload_n i167_22 rfl ?_
  refine gm_ev.callV gm_mono_run (av := []) (r := []) (ci := 11) (fs := mF B (mI (mI s2 2 (0 : Int32)) 0 (0 : Int32))) (bM_get (j := 0) rfl) i167_23 rfl rfl rfl (Nat.le_of_ble_eq_true rfl) t4 ?_
  refine gm_ev.istore_n (ls' := [some (.ref B), some (.int r3), none, none]) i167_26 (Nat.le_of_ble_eq_true rfl) rfl ?_
  refine gm_ev.aload_n i167_27 rfl ?_
  refine gm_ev.iload_n i167_28 rfl ?_
  refine gm_ev.if_ne_t (tgt := 48) i167_29 (by decide) c6 ?_
  refine gm_ev.aload_n i167_48 rfl ?_
  refine gm_ev.callV gm_mono_run (av := []) (r := [.ref B]) (ci := 11) (fs := mF B s5) (bM_get (j := 0) rfl) i167_49 rfl rfl rfl (Nat.le_of_ble_eq_true rfl) t8 ?_
  refine gm_ev.if_eq_t (tgt := 59) i167_52 (by decide) c10 ?_
  refine gm_ev.iconst (v := 3) i167_59 (by decide) ?_
  refine gm_ev.putfield (M' := (bM B (mH B (mI s9 0 (3 : Int32))) G)) i167_60 rfl (bM_put (j := 0) (fs := mF B s9) rfl (Nat.le_of_ble_eq_true rfl) hN (gm_fit_i _) rfl) ?_
  refine gm_ev.aload_n i167_63 rfl ?_
  refine gm_ev.getfield (v := .int (3 : Int32)) i167_64 rfl (bM_fld (j := 0) (fs := mF B (mI s9 0 (3 : Int32))) rfl rfl) ?_
  refine gm_ev.if_le_f i167_67 c11 ?_
  refine gm_ev.aload_n i167_70 rfl ?_
  refine gm_ev.getfield (v := .int (s9.1 6)) i167_71 rfl (bM_fld (j := 0) (fs := mF B (mI s9 0 (3 : Int32))) rfl rfl) ?_
  refine gm_ev.istore_n (ls' := [some (.ref B), some (.int r3), some (.int (s9.1 6)), none]) i167_74 (Nat.le_of_ble_eq_true rfl) rfl ?_
  refine gm_ev.aload_n i167_75 rfl ?_
  refine gm_ev.getfield (v := .int (s9.1 7)) i167_76 rfl (bM_fld (j := 0) (fs := mF B (mI s9 0 (3 : Int32))) rfl rfl) ?_
  refine gm_ev.istore_n (ls' := [some (.ref B), some (.int r3), some (.int (s9.1 6)), some (.int (s9.1 7))]) i167_79 (Nat.le_of_ble_eq_true rfl) rfl ?_
  refine gm_ev.aload_n i167_80 rfl ?_
  refine gm_ev.aload_n i167_81 rfl ?_
  refine gm_ev.getfield (v := .ref (B + 2)) i167_82 rfl (bM_fld (j := 0) (fs := mF B (mI s9 0 (3 : Int32))) rfl rfl) ?_
  refine gm_ev.aload_n i167_85 rfl ?_
  refine gm_ev.getfield (v := .int (s9.1 4)) i167_86 rfl (bM_fld (j := 0) (fs := mF B (mI s9 0 (3 : Int32))) rfl rfl) ?_
  refine gm_ev.callV gm_mono_run (av := [.ref (B + 2), .int (s9.1 4)]) (r := []) (ci := 11) (fs := mF B (mI s9 0 (3 : Int32))) (bM_get (j := 0) rfl) i167_89 rfl rfl rfl (Nat.le_of_ble_eq_true rfl) t12 ?_
  refine gm_ev.aload_n i167_92 rfl ?_
  refine gm_ev.getfield (v := .int (s13.1 5)) i167_93 rfl (bM_fld (j := 0) (fs := mF B s13) rfl rfl) ?_
  refine gm_ev.if_eq_f i167_96 c14 ?_
  refine gm_ev.aload_n i167_99 rfl ?_
  refine gm_ev.callV gm_mono_run (av := []) (r := []) (ci := 11) (fs := mF B s13) (bM_get (j := 0) rfl) i167_100 rfl rfl rfl (Nat.le_of_ble_eq_true rfl) t16 ?_
  refine gm_ev.istore_n (ls' := [some (.ref B), some (.int r15), some (.int (s9.1 6)), some (.int (s9.1 7))]) i167_103 (Nat.le_of_ble_eq_true rfl) rfl ?_
  refine gm_ev.aload_n i167_104 rfl ?_
  refine gm_ev.iload_n i167_105 rfl ?_
  refine gm_ev.putfield (M' := (bM B (mH B (mI s17 6 (s9.1 6))) G)) i167_106 rfl (bM_put (j := 0) (fs := mF B s17) rfl (Nat.le_of_ble_eq_true rfl) hN (gm_fit_i _) rfl) ?_
  refine gm_ev.aload_n i167_109 rfl ?_
  refine gm_ev.iload_n i167_110 rfl ?_
  refine gm_ev.putfield (M' := (bM B (mH B (mI (mI s17 6 (s9.1 6)) 7 (s9.1 7))) G)) i167_111 rfl (bM_put (j := 0) (fs := mF B (mI s17 6 (s9.1 6))) rfl (Nat.le_of_ble_eq_true rfl) hN (gm_fit_i _) rfl) ?_
  refine gm_ev.aload_n i167_114 rfl ?_
  refine gm_ev.iconst (v := 0) i167_115 (by decide) ?_
  refine gm_ev.putfield (M' := (bM B (mH B (mI (mI (mI s17 6 (s9.1 6)) 7 (s9.1 7)) 24 (0 : Int32))) G)) i167_116 rfl (bM_put (j := 0) (fs := mF B (mI (mI s17 6 (s9.1 6)) 7 (s9.1 7))) rfl (Nat.le_of_ble_eq_true rfl) hN (gm_fit_z (by decide)) rfl) ?_
  refine gm_ev.iconst (v := 0) i167_119 (by decide) ?_
  exact gm_ev.iret i167_120 rfl
theorem r_load_0_tft_at123 {N0 : Nat} {K : Nat → Nat} {d B : Nat} {s : mS} {G : gm_H} {sz sl : Nat} {R : gm_R} {s2 : mS} {r3 : Int32} {s5 : mS} {r7 : Int32} {s9 : mS} (hN : N0 ≤ B) (t1 : gm_to N0 K ra_nm (ra_mt K) d 165 [.ref B, .ref (B + 1), .int (s.1 2)] (bM B (mH B s) G) sz (.returned none, bM B (mH B s2) G, sz, 0)) (t4 : gm_to N0 K ra_nm (ra_mt K) d 142 [.ref B] (bM B (mH B (mI (mI s2 2 (0 : Int32)) 0 (0 : Int32))) G) sz (.returned (some (.int r3)), bM B (mH B s5) G, sz, 0)) (c6 : ¬ r3 = 0) (t8 : gm_to N0 K ra_nm (ra_mt K) d 166 [.ref B] (bM B (mH B s5) G) sz (.returned (some (.int r7)), bM B (mH B s9) G, sz, 0)) (c10 : ¬ r7 = 0) (c11 : (0 : Int32) ≤ 0) (k : gm_ev N0 K ra_nm (ra_mt K) d (some .int) (gm_I cX12_load) (gm_lkf (lkX12 false K)) 123 [some (.ref B), none, some (.int (0 : Int32)), none] [] (bM B (mH B (mI s9 0 (0 : Int32))) G) sz sl R) : gm_ev N0 K ra_nm (ra_mt K) d (some .int) (gm_I cX12_load) (gm_lkf (lkX12 false K)) 0 [some (.ref B), none, none, none] [] (bM B (mH B s) G) sz sl R := by
  refine gm_ev.aload_n i167_0 rfl ?_
  refine gm_ev.aload_n i167_1 rfl ?_
  refine gm_ev.getfield (v := .ref (B + 1)) i167_2 rfl (bM_fld (j := 0) (fs := mF B s) rfl rfl) ?_
  refine gm_ev.aload_n i167_5 rfl ?_
  refine gm_ev.getfield (v := .int (s.1 2)) i167_6 rfl (bM_fld (j := 0) (fs := mF B s) rfl rfl) ?_
  refine gm_ev.callV gm_mono_run (av := [.ref (B + 1), .int (s.1 2)]) (r := []) (ci := 11) (fs := mF B s) (bM_get (j := 0) rfl) i167_9 rfl rfl rfl (Nat.le_of_ble_eq_true rfl) t1 ?_
  refine gm_ev.aload_n i167_12 rfl ?_
  refine gm_ev.iconst (v := 0) i167_13 (by decide) ?_
  refine gm_ev.putfield (M' := (bM B (mH B (mI s2 2 (0 : Int32))) G)) i167_14 rfl (bM_put (j := 0) (fs := mF B s2) rfl (Nat.le_of_ble_eq_true rfl) hN (gm_fit_i _) rfl) ?_
  refine gm_ev.aload_n i167_17 rfl ?_
  refine gm_ev.iconst (v := 0) i167_18 (by decide) ?_
  refine gm_ev.putfield (M' := (bM B (mH B (mI (mI s2 2 (0 : Int32)) 0 (0 : Int32))) G)) i167_19 rfl (bM_put (j := 0) (fs := mF B (mI s2 2 (0 : Int32))) rfl (Nat.le_of_ble_eq_true rfl) hN (gm_fit_i _) rfl) ?_
  refine gm_ev.aload_n i167_22 rfl ?_
  refine gm_ev.callV gm_mono_run (av := []) (r := []) (ci := 11) (fs := mF B (mI (mI s2 2 (0 : Int32)) 0 (0 : Int32))) (bM_get (j := 0) rfl) i167_23 rfl rfl rfl (Nat.le_of_ble_eq_true rfl) t4 ?_
  refine gm_ev.istore_n (ls' := [some (.ref B), some (.int r3), none, none]) i167_26 (Nat.le_of_ble_eq_true rfl) rfl ?_
  refine gm_ev.aload_n i167_27 rfl ?_
  refine gm_ev.iload_n i167_28 rfl ?_
  refine gm_ev.if_ne_t (tgt := 48) i167_29 (by decide) c6 ?_
  refine gm_ev.aload_n i167_48 rfl ?_
  refine gm_ev.callV gm_mono_run (av := []) (r := [.ref B]) (ci := 11) (fs := mF B s5) (bM_get (j := 0) rfl) i167_49 rfl rfl rfl (Nat.le_of_ble_eq_true rfl) t8 ?_
  refine gm_ev.if_eq_f i167_52 c10 ?_
  refine gm_ev.iconst (v := 0) i167_55 (by decide) ?_
  refine gm_ev.goto (tgt := 60) i167_56 (by decide) ?_
  refine gm_ev.putfield (M' := (bM B (mH B (mI s9 0 (0 : Int32))) G)) i167_60 rfl (bM_put (j := 0) (fs := mF B s9) rfl (Nat.le_of_ble_eq_true rfl) hN (gm_fit_i _) rfl) ?_
  refine gm_ev.aload_n i167_63 rfl ?_
  refine gm_ev.getfield (v := .int (0 : Int32)) i167_64 rfl (bM_fld (j := 0) (fs := mF B (mI s9 0 (0 : Int32))) rfl rfl) ?_
  refine gm_ev.if_le_t (tgt := 121) i167_67 (by decide) c11 ?_
  refine gm_ev.iconst (v := 0) i167_121 (by decide) ?_
  refine gm_ev.istore_n (ls' := [some (.ref B), some (.int r3), some (.int (0 : Int32)), none]) i167_122 (Nat.le_of_ble_eq_true rfl) rfl ?_
  refine gm_ev.le (a := [some (.ref B), none, some (.int (0 : Int32)), none]) (gm_leL.le (show gm_leL _ _ from ⟨rfl, ⟨rfl, trivial⟩⟩)) ?_
  exact k
theorem r_load_0_tfft {N0 : Nat} {K : Nat → Nat} {d B : Nat} {s : mS} {G : gm_H} {sz sl : Nat} {s2 : mS} {r3 : Int32} {s5 : mS} {r7 : Int32} {s9 : mS} {s13 : mS} (hN : N0 ≤ B) (t1 : gm_to N0 K ra_nm (ra_mt K) d 165 [.ref B, .ref (B + 1), .int (s.1 2)] (bM B (mH B s) G) sz (.returned none, bM B (mH B s2) G, sz, 0)) (t4 : gm_to N0 K ra_nm (ra_mt K) d 142 [.ref B] (bM B (mH B (mI (mI s2 2 (0 : Int32)) 0 (0 : Int32))) G) sz (.returned (some (.int r3)), bM B (mH B s5) G, sz, 0)) (c6 : ¬ r3 = 0) (t8 : gm_to N0 K ra_nm (ra_mt K) d 166 [.ref B] (bM B (mH B s5) G) sz (.returned (some (.int r7)), bM B (mH B s9) G, sz, 0)) (c10 : ¬ r7 = 0) (c11 : ¬ (0 : Int32) ≤ 0) (t12 : gm_to N0 K ra_nm (ra_mt K) d 165 [.ref B, .ref (B + 2), .int (s9.1 4)] (bM B (mH B (mI s9 0 (0 : Int32))) G) sz (.returned none, bM B (mH B s13) G, sz, 0)) (c14 : (s13.1 5) = 0) : gm_ev N0 K ra_nm (ra_mt K) d (some .int) (gm_I cX12_load) (gm_lkf (lkX12 false K)) 0 [some (.ref B), none, none, none] [] (bM B (mH B s) G) sz sl (.returned (some (.int (0 : Int32))), (bM B (mH B (mI (mI (mI s13 6 (s9.1 6)) 7 (s9.1 7)) 24 (0 : Int32))) G), sz, sl) := by
  refine gm_ev.aload_n i167_0 rfl ?_
  refine gm_ev.aload_n i167_1 rfl ?_
  refine gm_ev.getfield (v := .ref (B + 1)) i167_2 rfl (bM_fld (j := 0) (fs := mF B s) rfl rfl) ?_
  refine gm_ev.aload_n i167_5 rfl ?_
  refine gm_ev.getfield (v := .int (s.1 2)) i167_6 rfl (bM_fld (j := 0) (fs := mF B s) rfl rfl) ?_
  refine gm_ev.callV gm_mono_run (av := [.ref (B + 1), .int (s.1 2)]) (r := []) (ci := 11) (fs := mF B s) (bM_get (j := 0) rfl) i167_9 rfl rfl rfl (Nat.le_of_ble_eq_true rfl) t1 ?_
  refine gm_ev.aload_n i167_12 rfl ?_
  refine gm_ev.iconst (v := 0) i167_13 (by decide) ?_
  refine gm_ev.putfield (M' := (bM B (mH B (mI s2 2 (0 : Int32))) G)) i167_14 rfl (bM_put (j := 0) (fs := mF B s2) rfl (Nat.le_of_ble_eq_true rfl) hN (gm_fit_i _) rfl) ?_
  refine gm_ev.aload_n i167_17 rfl ?_
  refine gm_ev.iconst (v := 0) i167_18 (by decide) ?_
  refine gm_ev.putfield (M' := (bM B (mH B (mI (mI s2 2 (0 : Int32)) 0 (0 : Int32))) G)) i167_19 rfl (bM_put (j := 0) (fs := mF B (mI s2 2 (0 : Int32))) rfl (Nat.le_of_ble_eq_true rfl) hN (gm_fit_i _) rfl) ?_
  refine gm_ev.aload_n i167_22 rfl ?_
  refine gm_ev.callV gm_mono_run (av := []) (r := []) (ci := 11) (fs := mF B (mI (mI s2 2 (0 : Int32)) 0 (0 : Int32))) (bM_get (j := 0) rfl) i167_23 rfl rfl rfl (Nat.le_of_ble_eq_true rfl) t4 ?_
  refine gm_ev.istore_n (ls' := [some (.ref B), some (.int r3), none, none]) i167_26 (Nat.le_of_ble_eq_true rfl) rfl ?_
  refine gm_ev.aload_n i167_27 rfl ?_
  refine gm_ev.iload_n i167_28 rfl ?_
  refine gm_ev.if_ne_t (tgt := 48) i167_29 (by decide) c6 ?_
  refine gm_ev.aload_n i167_48 rfl ?_
  refine gm_ev.callV gm_mono_run (av := []) (r := [.ref B]) (ci := 11) (fs := mF B s5) (bM_get (j := 0) rfl) i167_49 rfl rfl rfl (Nat.le_of_ble_eq_true rfl) t8 ?_
  refine gm_ev.if_eq_f i167_52 c10 ?_
  refine gm_ev.iconst (v := 0) i167_55 (by decide) ?_
  refine gm_ev.goto (tgt := 60) i167_56 (by decide) ?_
  refine gm_ev.putfield (M' := (bM B (mH B (mI s9 0 (0 : Int32))) G)) i167_60 rfl (bM_put (j := 0) (fs := mF B s9) rfl (Nat.le_of_ble_eq_true rfl) hN (gm_fit_i _) rfl) ?_
  refine gm_ev.aload_n i167_63 rfl ?_
  refine gm_ev.getfield (v := .int (0 : Int32)) i167_64 rfl (bM_fld (j := 0) (fs := mF B (mI s9 0 (0 : Int32))) rfl rfl) ?_
  refine gm_ev.if_le_f i167_67 c11 ?_
  refine gm_ev.aload_n i167_70 rfl ?_
  refine gm_ev.getfield (v := .int (s9.1 6)) i167_71 rfl (bM_fld (j := 0) (fs := mF B (mI s9 0 (0 : Int32))) rfl rfl) ?_
  refine gm_ev.istore_n (ls' := [some (.ref B), some (.int r3), some (.int (s9.1 6)), none]) i167_74 (Nat.le_of_ble_eq_true rfl) rfl ?_
  refine gm_ev.aload_n i167_75 rfl ?_
  refine gm_ev.getfield (v := .int (s9.1 7)) i167_76 rfl (bM_fld (j := 0) (fs := mF B (mI s9 0 (0 : Int32))) rfl rfl) ?_
  refine gm_ev.istore_n (ls' := [some (.ref B), some (.int r3), some (.int (s9.1 6)), some (.int (s9.1 7))]) i167_79 (Nat.le_of_ble_eq_true rfl) rfl ?_
  refine gm_ev.aload_n i167_80 rfl ?_
  refine gm_ev.aload_n i167_81 rfl ?_
  refine gm_ev.getfield (v := .ref (B + 2)) i167_82 rfl (bM_fld (j := 0) (fs := mF B (mI s9 0 (0 : Int32))) rfl rfl) ?_
  refine gm_ev.aload_n i167_85 rfl ?_
  refine gm_ev.getfield (v := .int (s9.1 4)) i167_86 rfl (bM_fld (j := 0) (fs := mF B (mI s9 0 (0 : Int32))) rfl rfl) ?_
  refine gm_ev.callV gm_mono_run (av := [.ref (B + 2), .int (s9.1 4)]) (r := []) (ci := 11) (fs := mF B (mI s9 0 (0 : Int32))) (bM_get (j := 0) rfl) i167_89 rfl rfl rfl (Nat.le_of_ble_eq_true rfl) t12 ?_
  refine gm_ev.aload_n i167_92 rfl ?_
  refine gm_ev.getfield (v := .int (s13.1 5)) i167_93 rfl (bM_fld (j := 0) (fs := mF B s13) rfl rfl) ?_
  refine gm_ev.if_eq_t (tgt := 104) i167_96 (by decide) c14 ?_
  refine gm_ev.aload_n i167_104 rfl ?_
  refine gm_ev.iload_n i167_105 rfl ?_
  refine gm_ev.putfield (M' := (bM B (mH B (mI s13 6 (s9.1 6))) G)) i167_106 rfl (bM_put (j := 0) (fs := mF B s13) rfl (Nat.le_of_ble_eq_true rfl) hN (gm_fit_i _) rfl) ?_
  refine gm_ev.aload_n i167_109 rfl ?_
  refine gm_ev.iload_n i167_110 rfl ?_
  refine gm_ev.putfield (M' := (bM B (mH B (mI (mI s13 6 (s9.1 6)) 7 (s9.1 7))) G)) i167_111 rfl (bM_put (j := 0) (fs := mF B (mI s13 6 (s9.1 6))) rfl (Nat.le_of_ble_eq_true rfl) hN (gm_fit_i _) rfl) ?_
  refine gm_ev.aload_n i167_114 rfl ?_
  refine gm_ev.iconst (v := 0) i167_115 (by decide) ?_
  refine gm_ev.putfield (M' := (bM B (mH B (mI (mI (mI s13 6 (s9.1 6)) 7 (s9.1 7)) 24 (0 : Int32))) G)) i167_116 rfl (bM_put (j := 0) (fs := mF B (mI (mI s13 6 (s9.1 6)) 7 (s9.1 7))) rfl (Nat.le_of_ble_eq_true rfl) hN (gm_fit_z (by decide)) rfl) ?_
  refine gm_ev.iconst (v := 0) i167_119 (by decide) ?_
  exact gm_ev.iret i167_120 rfl
theorem r_load_0_tfff {N0 : Nat} {K : Nat → Nat} {d B : Nat} {s : mS} {G : gm_H} {sz sl : Nat} {s2 : mS} {r3 : Int32} {s5 : mS} {r7 : Int32} {s9 : mS} {s13 : mS} {r15 : Int32} {s17 : mS} (hN : N0 ≤ B) (t1 : gm_to N0 K ra_nm (ra_mt K) d 165 [.ref B, .ref (B + 1), .int (s.1 2)] (bM B (mH B s) G) sz (.returned none, bM B (mH B s2) G, sz, 0)) (t4 : gm_to N0 K ra_nm (ra_mt K) d 142 [.ref B] (bM B (mH B (mI (mI s2 2 (0 : Int32)) 0 (0 : Int32))) G) sz (.returned (some (.int r3)), bM B (mH B s5) G, sz, 0)) (c6 : ¬ r3 = 0) (t8 : gm_to N0 K ra_nm (ra_mt K) d 166 [.ref B] (bM B (mH B s5) G) sz (.returned (some (.int r7)), bM B (mH B s9) G, sz, 0)) (c10 : ¬ r7 = 0) (c11 : ¬ (0 : Int32) ≤ 0) (t12 : gm_to N0 K ra_nm (ra_mt K) d 165 [.ref B, .ref (B + 2), .int (s9.1 4)] (bM B (mH B (mI s9 0 (0 : Int32))) G) sz (.returned none, bM B (mH B s13) G, sz, 0)) (c14 : ¬ (s13.1 5) = 0) (t16 : gm_to N0 K ra_nm (ra_mt K) d 142 [.ref B] (bM B (mH B s13) G) sz (.returned (some (.int r15)), bM B (mH B s17) G, sz, 0)) : gm_ev N0 K ra_nm (ra_mt K) d (some .int) (gm_I cX12_load) (gm_lkf (lkX12 false K)) 0 [some (.ref B), none, none, none] [] (bM B (mH B s) G) sz sl (.returned (some (.int (0 : Int32))), (bM B (mH B (mI (mI (mI s17 6 (s9.1 6)) 7 (s9.1 7)) 24 (0 : Int32))) G), sz, sl) := by
  refine gm_ev.aload_n i167_0 rfl ?_
  refine gm_ev.aload_n i167_1 rfl ?_
  refine gm_ev.getfield (v := .ref (B + 1)) i167_2 rfl (bM_fld (j := 0) (fs := mF B s) rfl rfl) ?_
  refine gm_ev.aload_n i167_5 rfl ?_
  refine gm_ev.getfield (v := .int (s.1 2)) i167_6 rfl (bM_fld (j := 0) (fs := mF B s) rfl rfl) ?_
  refine gm_ev.callV gm_mono_run (av := [.ref (B + 1), .int (s.1 2)]) (r := []) (ci := 11) (fs := mF B s) (bM_get (j := 0) rfl) i167_9 rfl rfl rfl (Nat.le_of_ble_eq_true rfl) t1 ?_
  refine gm_ev.aload_n i167_12 rfl ?_
  refine gm_ev.iconst (v := 0) i167_13 (by decide) ?_
  refine gm_ev.putfield (M' := (bM B (mH B (mI s2 2 (0 : Int32))) G)) i167_14 rfl (bM_put (j := 0) (fs := mF B s2) rfl (Nat.le_of_ble_eq_true rfl) hN (gm_fit_i _) rfl) ?_
  refine gm_ev.aload_n i167_17 rfl ?_
  refine gm_ev.iconst (v := 0) i167_18 (by decide) ?_
  refine gm_ev.putfield (M' := (bM B (mH B (mI (mI s2 2 (0 : Int32)) 0 (0 : Int32))) G)) i167_19 rfl (bM_put (j := 0) (fs := mF B (mI s2 2 (0 : Int32))) rfl (Nat.le_of_ble_eq_true rfl) hN (gm_fit_i _) rfl) ?_
  refine gm_ev.aload_n i167_22 rfl ?_
  refine gm_ev.callV gm_mono_run (av := []) (r := []) (ci := 11) (fs := mF B (mI (mI s2 2 (0 : Int32)) 0 (0 : Int32))) (bM_get (j := 0) rfl) i167_23 rfl rfl rfl (Nat.le_of_ble_eq_true rfl) t4 ?_
  refine gm_ev.istore_n (ls' := [some (.ref B), some (.int r3), none, none]) i167_26 (Nat.le_of_ble_eq_true rfl) rfl ?_
  refine gm_ev.aload_n i167_27 rfl ?_
  refine gm_ev.iload_n i167_28 rfl ?_
  refine gm_ev.if_ne_t (tgt := 48) i167_29 (by decide) c6 ?_
  refine gm_ev.aload_n i167_48 rfl ?_
  refine gm_ev.callV gm_mono_run (av := []) (r := [.ref B]) (ci := 11) (fs := mF B s5) (bM_get (j := 0) rfl) i167_49 rfl rfl rfl (Nat.le_of_ble_eq_true rfl) t8 ?_
  refine gm_ev.if_eq_f i167_52 c10 ?_
  refine gm_ev.iconst (v := 0) i167_55 (by decide) ?_
  refine gm_ev.goto (tgt := 60) i167_56 (by decide) ?_
  refine gm_ev.putfield (M' := (bM B (mH B (mI s9 0 (0 : Int32))) G)) i167_60 rfl (bM_put (j := 0) (fs := mF B s9) rfl (Nat.le_of_ble_eq_true rfl) hN (gm_fit_i _) rfl) ?_
  refine gm_ev.aload_n i167_63 rfl ?_
  refine gm_ev.getfield (v := .int (0 : Int32)) i167_64 rfl (bM_fld (j := 0) (fs := mF B (mI s9 0 (0 : Int32))) rfl rfl) ?_
  refine gm_ev.if_le_f i167_67 c11 ?_
  refine gm_ev.aload_n i167_70 rfl ?_
  refine gm_ev.getfield (v := .int (s9.1 6)) i167_71 rfl (bM_fld (j := 0) (fs := mF B (mI s9 0 (0 : Int32))) rfl rfl) ?_
  refine gm_ev.istore_n (ls' := [some (.ref B), some (.int r3), some (.int (s9.1 6)), none]) i167_74 (Nat.le_of_ble_eq_true rfl) rfl ?_
  refine gm_ev.aload_n i167_75 rfl ?_
  refine gm_ev.getfield (v := .int (s9.1 7)) i167_76 rfl (bM_fld (j := 0) (fs := mF B (mI s9 0 (0 : Int32))) rfl rfl) ?_
  refine gm_ev.istore_n (ls' := [some (.ref B), some (.int r3), some (.int (s9.1 6)), some (.int (s9.1 7))]) i167_79 (Nat.le_of_ble_eq_true rfl) rfl ?_
  refine gm_ev.aload_n i167_80 rfl ?_
  refine gm_ev.aload_n i167_81 rfl ?_
  refine gm_ev.getfield (v := .ref (B + 2)) i167_82 rfl (bM_fld (j := 0) (fs := mF B (mI s9 0 (0 : Int32))) rfl rfl) ?_
  refine gm_ev.aload_n i167_85 rfl ?_
  refine gm_ev.getfield (v := .int (s9.1 4)) i167_86 rfl (bM_fld (j := 0) (fs := mF B (mI s9 0 (0 : Int32))) rfl rfl) ?_
  refine gm_ev.callV gm_mono_run (av := [.ref (B + 2), .int (s9.1 4)]) (r := []) (ci := 11) (fs := mF B (mI s9 0 (0 : Int32))) (bM_get (j := 0) rfl) i167_89 rfl rfl rfl (Nat.le_of_ble_eq_true rfl) t12 ?_
  refine gm_ev.aload_n i167_92 rfl ?_
  refine gm_ev.getfield (v := .int (s13.1 5)) i167_93 rfl (bM_fld (j := 0) (fs := mF B s13) rfl rfl) ?_
  refine gm_ev.if_eq_f i167_96 c14 ?_
  refine gm_ev.aload_n i167_99 rfl ?_
  refine gm_ev.callV gm_mono_run (av := []) (r := []) (ci := 11) (fs := mF B s13) (bM_get (j := 0) rfl) i167_100 rfl rfl rfl (Nat.le_of_ble_eq_true rfl) t16 ?_
  refine gm_ev.istore_n (ls' := [some (.ref B), some (.int r15), some (.int (s9.1 6)), some (.int (s9.1 7))]) i167_103 (Nat.le_of_ble_eq_true rfl) rfl ?_
  refine gm_ev.aload_n i167_104 rfl ?_
  refine gm_ev.iload_n i167_105 rfl ?_
  refine gm_ev.putfield (M' := (bM B (mH B (mI s17 6 (s9.1 6))) G)) i167_106 rfl (bM_put (j := 0) (fs := mF B s17) rfl (Nat.le_of_ble_eq_true rfl) hN (gm_fit_i _) rfl) ?_
  refine gm_ev.aload_n i167_109 rfl ?_
  refine gm_ev.iload_n i167_110 rfl ?_
  refine gm_ev.putfield (M' := (bM B (mH B (mI (mI s17 6 (s9.1 6)) 7 (s9.1 7))) G)) i167_111 rfl (bM_put (j := 0) (fs := mF B (mI s17 6 (s9.1 6))) rfl (Nat.le_of_ble_eq_true rfl) hN (gm_fit_i _) rfl) ?_
  refine gm_ev.aload_n i167_114 rfl ?_
  refine gm_ev.iconst (v := 0) i167_115 (by decide) ?_
  refine gm_ev.putfield (M' := (bM B (mH B (mI (mI (mI s17 6 (s9.1 6)) 7 (s9.1 7)) 24 (0 : Int32))) G)) i167_116 rfl (bM_put (j := 0) (fs := mF B (mI (mI s17 6 (s9.1 6)) 7 (s9.1 7))) rfl (Nat.le_of_ble_eq_true rfl) hN (gm_fit_z (by decide)) rfl) ?_
  refine gm_ev.iconst (v := 0) i167_119 (by decide) ?_
  exact gm_ev.iret i167_120 rfl
theorem r_load_0_ftt_at123 {N0 : Nat} {K : Nat → Nat} {d B : Nat} {s : mS} {G : gm_H} {sz sl : Nat} {R : gm_R} {s2 : mS} {r3 : Int32} {s5 : mS} (hN : N0 ≤ B) (t1 : gm_to N0 K ra_nm (ra_mt K) d 165 [.ref B, .ref (B + 1), .int (s.1 2)] (bM B (mH B s) G) sz (.returned none, bM B (mH B s2) G, sz, 0)) (t4 : gm_to N0 K ra_nm (ra_mt K) d 142 [.ref B] (bM B (mH B (mI (mI s2 2 (0 : Int32)) 0 (0 : Int32))) G) sz (.returned (some (.int r3)), bM B (mH B s5) G, sz, 0)) (c6 : r3 = 0) (c7 : ¬ (s5.1 6) = (1 : Int32)) (c8 : (2 : Int32) ≤ 0) (k : gm_ev N0 K ra_nm (ra_mt K) d (some .int) (gm_I cX12_load) (gm_lkf (lkX12 false K)) 123 [some (.ref B), none, some (.int (0 : Int32)), none] [] (bM B (mH B (mI s5 0 (2 : Int32))) G) sz sl R) : gm_ev N0 K ra_nm (ra_mt K) d (some .int) (gm_I cX12_load) (gm_lkf (lkX12 false K)) 0 [some (.ref B), none, none, none] [] (bM B (mH B s) G) sz sl R := by
  refine gm_ev.aload_n i167_0 rfl ?_
  refine gm_ev.aload_n i167_1 rfl ?_
  refine gm_ev.getfield (v := .ref (B + 1)) i167_2 rfl (bM_fld (j := 0) (fs := mF B s) rfl rfl) ?_
  refine gm_ev.aload_n i167_5 rfl ?_
  refine gm_ev.getfield (v := .int (s.1 2)) i167_6 rfl (bM_fld (j := 0) (fs := mF B s) rfl rfl) ?_
  refine gm_ev.callV gm_mono_run (av := [.ref (B + 1), .int (s.1 2)]) (r := []) (ci := 11) (fs := mF B s) (bM_get (j := 0) rfl) i167_9 rfl rfl rfl (Nat.le_of_ble_eq_true rfl) t1 ?_
  refine gm_ev.aload_n i167_12 rfl ?_
  refine gm_ev.iconst (v := 0) i167_13 (by decide) ?_
  refine gm_ev.putfield (M' := (bM B (mH B (mI s2 2 (0 : Int32))) G)) i167_14 rfl (bM_put (j := 0) (fs := mF B s2) rfl (Nat.le_of_ble_eq_true rfl) hN (gm_fit_i _) rfl) ?_
  refine gm_ev.aload_n i167_17 rfl ?_
  refine gm_ev.iconst (v := 0) i167_18 (by decide) ?_
  refine gm_ev.putfield (M' := (bM B (mH B (mI (mI s2 2 (0 : Int32)) 0 (0 : Int32))) G)) i167_19 rfl (bM_put (j := 0) (fs := mF B (mI s2 2 (0 : Int32))) rfl (Nat.le_of_ble_eq_true rfl) hN (gm_fit_i _) rfl) ?_
  refine gm_ev.aload_n i167_22 rfl ?_
  refine gm_ev.callV gm_mono_run (av := []) (r := []) (ci := 11) (fs := mF B (mI (mI s2 2 (0 : Int32)) 0 (0 : Int32))) (bM_get (j := 0) rfl) i167_23 rfl rfl rfl (Nat.le_of_ble_eq_true rfl) t4 ?_
  refine gm_ev.istore_n (ls' := [some (.ref B), some (.int r3), none, none]) i167_26 (Nat.le_of_ble_eq_true rfl) rfl ?_
  refine gm_ev.aload_n i167_27 rfl ?_
  refine gm_ev.iload_n i167_28 rfl ?_
  refine gm_ev.if_ne_f i167_29 c6 ?_
  refine gm_ev.aload_n i167_32 rfl ?_
  refine gm_ev.getfield (v := .int (s5.1 6)) i167_33 rfl (bM_fld (j := 0) (fs := mF B s5) rfl rfl) ?_
  refine gm_ev.iconst (v := 1) i167_36 (by decide) ?_
  refine gm_ev.icmp_ne_t (tgt := 44) i167_37 (by decide) c7 ?_
  refine gm_ev.iconst (v := 2) i167_44 (by decide) ?_
  refine gm_ev.goto (tgt := 60) i167_45 (by decide) ?_
  refine gm_ev.putfield (M' := (bM B (mH B (mI s5 0 (2 : Int32))) G)) i167_60 rfl (bM_put (j := 0) (fs := mF B s5) rfl (Nat.le_of_ble_eq_true rfl) hN (gm_fit_i _) rfl) ?_
  refine gm_ev.aload_n i167_63 rfl ?_
  refine gm_ev.getfield (v := .int (2 : Int32)) i167_64 rfl (bM_fld (j := 0) (fs := mF B (mI s5 0 (2 : Int32))) rfl rfl) ?_
  refine gm_ev.if_le_t (tgt := 121) i167_67 (by decide) c8 ?_
  refine gm_ev.iconst (v := 0) i167_121 (by decide) ?_
  refine gm_ev.istore_n (ls' := [some (.ref B), some (.int r3), some (.int (0 : Int32)), none]) i167_122 (Nat.le_of_ble_eq_true rfl) rfl ?_
  refine gm_ev.le (a := [some (.ref B), none, some (.int (0 : Int32)), none]) (gm_leL.le (show gm_leL _ _ from ⟨rfl, ⟨rfl, trivial⟩⟩)) ?_
  exact k
theorem r_load_0_ftft {N0 : Nat} {K : Nat → Nat} {d B : Nat} {s : mS} {G : gm_H} {sz sl : Nat} {s2 : mS} {r3 : Int32} {s5 : mS} {s10 : mS} (hN : N0 ≤ B) (t1 : gm_to N0 K ra_nm (ra_mt K) d 165 [.ref B, .ref (B + 1), .int (s.1 2)] (bM B (mH B s) G) sz (.returned none, bM B (mH B s2) G, sz, 0)) (t4 : gm_to N0 K ra_nm (ra_mt K) d 142 [.ref B] (bM B (mH B (mI (mI s2 2 (0 : Int32)) 0 (0 : Int32))) G) sz (.returned (some (.int r3)), bM B (mH B s5) G, sz, 0)) (c6 : r3 = 0) (c7 : ¬ (s5.1 6) = (1 : Int32)) (c8 : ¬ (2 : Int32) ≤ 0) (t9 : gm_to N0 K ra_nm (ra_mt K) d 165 [.ref B, .ref (B + 2), .int (s5.1 4)] (bM B (mH B (mI s5 0 (2 : Int32))) G) sz (.returned none, bM B (mH B s10) G, sz, 0)) (c11 : (s10.1 5) = 0) : gm_ev N0 K ra_nm (ra_mt K) d (some .int) (gm_I cX12_load) (gm_lkf (lkX12 false K)) 0 [some (.ref B), none, none, none] [] (bM B (mH B s) G) sz sl (.returned (some (.int (0 : Int32))), (bM B (mH B (mI (mI (mI s10 6 (s5.1 6)) 7 (s5.1 7)) 24 (0 : Int32))) G), sz, sl) := by
  refine gm_ev.aload_n i167_0 rfl ?_
  refine gm_ev.aload_n i167_1 rfl ?_
  refine gm_ev.getfield (v := .ref (B + 1)) i167_2 rfl (bM_fld (j := 0) (fs := mF B s) rfl rfl) ?_
  refine gm_ev.aload_n i167_5 rfl ?_
  refine gm_ev.getfield (v := .int (s.1 2)) i167_6 rfl (bM_fld (j := 0) (fs := mF B s) rfl rfl) ?_
  refine gm_ev.callV gm_mono_run (av := [.ref (B + 1), .int (s.1 2)]) (r := []) (ci := 11) (fs := mF B s) (bM_get (j := 0) rfl) i167_9 rfl rfl rfl (Nat.le_of_ble_eq_true rfl) t1 ?_
  refine gm_ev.aload_n i167_12 rfl ?_
  refine gm_ev.iconst (v := 0) i167_13 (by decide) ?_
  refine gm_ev.putfield (M' := (bM B (mH B (mI s2 2 (0 : Int32))) G)) i167_14 rfl (bM_put (j := 0) (fs := mF B s2) rfl (Nat.le_of_ble_eq_true rfl) hN (gm_fit_i _) rfl) ?_
  refine gm_ev.aload_n i167_17 rfl ?_
  refine gm_ev.iconst (v := 0) i167_18 (by decide) ?_
  refine gm_ev.putfield (M' := (bM B (mH B (mI (mI s2 2 (0 : Int32)) 0 (0 : Int32))) G)) i167_19 rfl (bM_put (j := 0) (fs := mF B (mI s2 2 (0 : Int32))) rfl (Nat.le_of_ble_eq_true rfl) hN (gm_fit_i _) rfl) ?_
  refine gm_ev.aload_n i167_22 rfl ?_
  refine gm_ev.callV gm_mono_run (av := []) (r := []) (ci := 11) (fs := mF B (mI (mI s2 2 (0 : Int32)) 0 (0 : Int32))) (bM_get (j := 0) rfl) i167_23 rfl rfl rfl (Nat.le_of_ble_eq_true rfl) t4 ?_
  refine gm_ev.istore_n (ls' := [some (.ref B), some (.int r3), none, none]) i167_26 (Nat.le_of_ble_eq_true rfl) rfl ?_
  refine gm_ev.aload_n i167_27 rfl ?_
  refine gm_ev.iload_n i167_28 rfl ?_
  refine gm_ev.if_ne_f i167_29 c6 ?_
  refine gm_ev.aload_n i167_32 rfl ?_
  refine gm_ev.getfield (v := .int (s5.1 6)) i167_33 rfl (bM_fld (j := 0) (fs := mF B s5) rfl rfl) ?_
  refine gm_ev.iconst (v := 1) i167_36 (by decide) ?_
  refine gm_ev.icmp_ne_t (tgt := 44) i167_37 (by decide) c7 ?_
  refine gm_ev.iconst (v := 2) i167_44 (by decide) ?_
  refine gm_ev.goto (tgt := 60) i167_45 (by decide) ?_
  refine gm_ev.putfield (M' := (bM B (mH B (mI s5 0 (2 : Int32))) G)) i167_60 rfl (bM_put (j := 0) (fs := mF B s5) rfl (Nat.le_of_ble_eq_true rfl) hN (gm_fit_i _) rfl) ?_
  refine gm_ev.aload_n i167_63 rfl ?_
  refine gm_ev.getfield (v := .int (2 : Int32)) i167_64 rfl (bM_fld (j := 0) (fs := mF B (mI s5 0 (2 : Int32))) rfl rfl) ?_
  refine gm_ev.if_le_f i167_67 c8 ?_
  refine gm_ev.aload_n i167_70 rfl ?_
  refine gm_ev.getfield (v := .int (s5.1 6)) i167_71 rfl (bM_fld (j := 0) (fs := mF B (mI s5 0 (2 : Int32))) rfl rfl) ?_
  refine gm_ev.istore_n (ls' := [some (.ref B), some (.int r3), some (.int (s5.1 6)), none]) i167_74 (Nat.le_of_ble_eq_true rfl) rfl ?_
  refine gm_ev.aload_n i167_75 rfl ?_
  refine gm_ev.getfield (v := .int (s5.1 7)) i167_76 rfl (bM_fld (j := 0) (fs := mF B (mI s5 0 (2 : Int32))) rfl rfl) ?_
  refine gm_ev.istore_n (ls' := [some (.ref B), some (.int r3), some (.int (s5.1 6)), some (.int (s5.1 7))]) i167_79 (Nat.le_of_ble_eq_true rfl) rfl ?_
  refine gm_ev.aload_n i167_80 rfl ?_
  refine gm_ev.aload_n i167_81 rfl ?_
  refine gm_ev.getfield (v := .ref (B + 2)) i167_82 rfl (bM_fld (j := 0) (fs := mF B (mI s5 0 (2 : Int32))) rfl rfl) ?_
  refine gm_ev.aload_n i167_85 rfl ?_
  refine gm_ev.getfield (v := .int (s5.1 4)) i167_86 rfl (bM_fld (j := 0) (fs := mF B (mI s5 0 (2 : Int32))) rfl rfl) ?_
  refine gm_ev.callV gm_mono_run (av := [.ref (B + 2), .int (s5.1 4)]) (r := []) (ci := 11) (fs := mF B (mI s5 0 (2 : Int32))) (bM_get (j := 0) rfl) i167_89 rfl rfl rfl (Nat.le_of_ble_eq_true rfl) t9 ?_
  refine gm_ev.aload_n i167_92 rfl ?_
  refine gm_ev.getfield (v := .int (s10.1 5)) i167_93 rfl (bM_fld (j := 0) (fs := mF B s10) rfl rfl) ?_
  refine gm_ev.if_eq_t (tgt := 104) i167_96 (by decide) c11 ?_
  refine gm_ev.aload_n i167_104 rfl ?_
  refine gm_ev.iload_n i167_105 rfl ?_
  refine gm_ev.putfield (M' := (bM B (mH B (mI s10 6 (s5.1 6))) G)) i167_106 rfl (bM_put (j := 0) (fs := mF B s10) rfl (Nat.le_of_ble_eq_true rfl) hN (gm_fit_i _) rfl) ?_
  refine gm_ev.aload_n i167_109 rfl ?_
  refine gm_ev.iload_n i167_110 rfl ?_
  refine gm_ev.putfield (M' := (bM B (mH B (mI (mI s10 6 (s5.1 6)) 7 (s5.1 7))) G)) i167_111 rfl (bM_put (j := 0) (fs := mF B (mI s10 6 (s5.1 6))) rfl (Nat.le_of_ble_eq_true rfl) hN (gm_fit_i _) rfl) ?_
  refine gm_ev.aload_n i167_114 rfl ?_
  refine gm_ev.iconst (v := 0) i167_115 (by decide) ?_
  refine gm_ev.putfield (M' := (bM B (mH B (mI (mI (mI s10 6 (s5.1 6)) 7 (s5.1 7)) 24 (0 : Int32))) G)) i167_116 rfl (bM_put (j := 0) (fs := mF B (mI (mI s10 6 (s5.1 6)) 7 (s5.1 7))) rfl (Nat.le_of_ble_eq_true rfl) hN (gm_fit_z (by decide)) rfl) ?_
  refine gm_ev.iconst (v := 0) i167_119 (by decide) ?_
  exact gm_ev.iret i167_120 rfl
theorem r_load_0_ftff {N0 : Nat} {K : Nat → Nat} {d B : Nat} {s : mS} {G : gm_H} {sz sl : Nat} {s2 : mS} {r3 : Int32} {s5 : mS} {s10 : mS} {r12 : Int32} {s14 : mS} (hN : N0 ≤ B) (t1 : gm_to N0 K ra_nm (ra_mt K) d 165 [.ref B, .ref (B + 1), .int (s.1 2)] (bM B (mH B s) G) sz (.returned none, bM B (mH B s2) G, sz, 0)) (t4 : gm_to N0 K ra_nm (ra_mt K) d 142 [.ref B] (bM B (mH B (mI (mI s2 2 (0 : Int32)) 0 (0 : Int32))) G) sz (.returned (some (.int r3)), bM B (mH B s5) G, sz, 0)) (c6 : r3 = 0) (c7 : ¬ (s5.1 6) = (1 : Int32)) (c8 : ¬ (2 : Int32) ≤ 0) (t9 : gm_to N0 K ra_nm (ra_mt K) d 165 [.ref B, .ref (B + 2), .int (s5.1 4)] (bM B (mH B (mI s5 0 (2 : Int32))) G) sz (.returned none, bM B (mH B s10) G, sz, 0)) (c11 : ¬ (s10.1 5) = 0) (t13 : gm_to N0 K ra_nm (ra_mt K) d 142 [.ref B] (bM B (mH B s10) G) sz (.returned (some (.int r12)), bM B (mH B s14) G, sz, 0)) : gm_ev N0 K ra_nm (ra_mt K) d (some .int) (gm_I cX12_load) (gm_lkf (lkX12 false K)) 0 [some (.ref B), none, none, none] [] (bM B (mH B s) G) sz sl (.returned (some (.int (0 : Int32))), (bM B (mH B (mI (mI (mI s14 6 (s5.1 6)) 7 (s5.1 7)) 24 (0 : Int32))) G), sz, sl) := by
  refine gm_ev.aload_n i167_0 rfl ?_
  refine gm_ev.aload_n i167_1 rfl ?_
  refine gm_ev.getfield (v := .ref (B + 1)) i167_2 rfl (bM_fld (j := 0) (fs := mF B s) rfl rfl) ?_
  refine gm_ev.aload_n i167_5 rfl ?_
  refine gm_ev.getfield (v := .int (s.1 2)) i167_6 rfl (bM_fld (j := 0) (fs := mF B s) rfl rfl) ?_
  refine gm_ev.callV gm_mono_run (av := [.ref (B + 1), .int (s.1 2)]) (r := []) (ci := 11) (fs := mF B s) (bM_get (j := 0) rfl) i167_9 rfl rfl rfl (Nat.le_of_ble_eq_true rfl) t1 ?_
  refine gm_ev.aload_n i167_12 rfl ?_
  refine gm_ev.iconst (v := 0) i167_13 (by decide) ?_
  refine gm_ev.putfield (M' := (bM B (mH B (mI s2 2 (0 : Int32))) G)) i167_14 rfl (bM_put (j := 0) (fs := mF B s2) rfl (Nat.le_of_ble_eq_true rfl) hN (gm_fit_i _) rfl) ?_
  refine gm_ev.aload_n i167_17 rfl ?_
  refine gm_ev.iconst (v := 0) i167_18 (by decide) ?_
  refine gm_ev.putfield (M' := (bM B (mH B (mI (mI s2 2 (0 : Int32)) 0 (0 : Int32))) G)) i167_19 rfl (bM_put (j := 0) (fs := mF B (mI s2 2 (0 : Int32))) rfl (Nat.le_of_ble_eq_true rfl) hN (gm_fit_i _) rfl) ?_
  refine gm_ev.aload_n i167_22 rfl ?_
  refine gm_ev.callV gm_mono_run (av := []) (r := []) (ci := 11) (fs := mF B (mI (mI s2 2 (0 : Int32)) 0 (0 : Int32))) (bM_get (j := 0) rfl) i167_23 rfl rfl rfl (Nat.le_of_ble_eq_true rfl) t4 ?_
  refine gm_ev.istore_n (ls' := [some (.ref B), some (.int r3), none, none]) i167_26 (Nat.le_of_ble_eq_true rfl) rfl ?_
  refine gm_ev.aload_n i167_27 rfl ?_
  refine gm_ev.iload_n i167_28 rfl ?_
  refine gm_ev.if_ne_f i167_29 c6 ?_
  refine gm_ev.aload_n i167_32 rfl ?_
  refine gm_ev.getfield (v := .int (s5.1 6)) i167_33 rfl (bM_fld (j := 0) (fs := mF B s5) rfl rfl) ?_
  refine gm_ev.iconst (v := 1) i167_36 (by decide) ?_
  refine gm_ev.icmp_ne_t (tgt := 44) i167_37 (by decide) c7 ?_
  refine gm_ev.iconst (v := 2) i167_44 (by decide) ?_
  refine gm_ev.goto (tgt := 60) i167_45 (by decide) ?_
  refine gm_ev.putfield (M' := (bM B (mH B (mI s5 0 (2 : Int32))) G)) i167_60 rfl (bM_put (j := 0) (fs := mF B s5) rfl (Nat.le_of_ble_eq_true rfl) hN (gm_fit_i _) rfl) ?_
  refine gm_ev.aload_n i167_63 rfl ?_
  refine gm_ev.getfield (v := .int (2 : Int32)) i167_64 rfl (bM_fld (j := 0) (fs := mF B (mI s5 0 (2 : Int32))) rfl rfl) ?_
  refine gm_ev.if_le_f i167_67 c8 ?_
  refine gm_ev.aload_n i167_70 rfl ?_
  refine gm_ev.getfield (v := .int (s5.1 6)) i167_71 rfl (bM_fld (j := 0) (fs := mF B (mI s5 0 (2 : Int32))) rfl rfl) ?_
  refine gm_ev.istore_n (ls' := [some (.ref B), some (.int r3), some (.int (s5.1 6)), none]) i167_74 (Nat.le_of_ble_eq_true rfl) rfl ?_
  refine gm_ev.aload_n i167_75 rfl ?_
  refine gm_ev.getfield (v := .int (s5.1 7)) i167_76 rfl (bM_fld (j := 0) (fs := mF B (mI s5 0 (2 : Int32))) rfl rfl) ?_
  refine gm_ev.istore_n (ls' := [some (.ref B), some (.int r3), some (.int (s5.1 6)), some (.int (s5.1 7))]) i167_79 (Nat.le_of_ble_eq_true rfl) rfl ?_
  refine gm_ev.aload_n i167_80 rfl ?_
  refine gm_ev.aload_n i167_81 rfl ?_
  refine gm_ev.getfield (v := .ref (B + 2)) i167_82 rfl (bM_fld (j := 0) (fs := mF B (mI s5 0 (2 : Int32))) rfl rfl) ?_
  refine gm_ev.aload_n i167_85 rfl ?_
  refine gm_ev.getfield (v := .int (s5.1 4)) i167_86 rfl (bM_fld (j := 0) (fs := mF B (mI s5 0 (2 : Int32))) rfl rfl) ?_
  refine gm_ev.callV gm_mono_run (av := [.ref (B + 2), .int (s5.1 4)]) (r := []) (ci := 11) (fs := mF B (mI s5 0 (2 : Int32))) (bM_get (j := 0) rfl) i167_89 rfl rfl rfl (Nat.le_of_ble_eq_true rfl) t9 ?_
  refine gm_ev.aload_n i167_92 rfl ?_
  refine gm_ev.getfield (v := .int (s10.1 5)) i167_93 rfl (bM_fld (j := 0) (fs := mF B s10) rfl rfl) ?_
  refine gm_ev.if_eq_f i167_96 c11 ?_
  refine gm_ev.aload_n i167_99 rfl ?_
  refine gm_ev.callV gm_mono_run (av := []) (r := []) (ci := 11) (fs := mF B s10) (bM_get (j := 0) rfl) i167_100 rfl rfl rfl (Nat.le_of_ble_eq_true rfl) t13 ?_
  refine gm_ev.istore_n (ls' := [some (.ref B), some (.int r12), some (.int (s5.1 6)), some (.int (s5.1 7))]) i167_103 (Nat.le_of_ble_eq_true rfl) rfl ?_
  refine gm_ev.aload_n i167_104 rfl ?_
  refine gm_ev.iload_n i167_105 rfl ?_
  refine gm_ev.putfield (M' := (bM B (mH B (mI s14 6 (s5.1 6))) G)) i167_106 rfl (bM_put (j := 0) (fs := mF B s14) rfl (Nat.le_of_ble_eq_true rfl) hN (gm_fit_i _) rfl) ?_
  refine gm_ev.aload_n i167_109 rfl ?_
  refine gm_ev.iload_n i167_110 rfl ?_
  refine gm_ev.putfield (M' := (bM B (mH B (mI (mI s14 6 (s5.1 6)) 7 (s5.1 7))) G)) i167_111 rfl (bM_put (j := 0) (fs := mF B (mI s14 6 (s5.1 6))) rfl (Nat.le_of_ble_eq_true rfl) hN (gm_fit_i _) rfl) ?_
  refine gm_ev.aload_n i167_114 rfl ?_
  refine gm_ev.iconst (v := 0) i167_115 (by decide) ?_
  refine gm_ev.putfield (M' := (bM B (mH B (mI (mI (mI s14 6 (s5.1 6)) 7 (s5.1 7)) 24 (0 : Int32))) G)) i167_116 rfl (bM_put (j := 0) (fs := mF B (mI (mI s14 6 (s5.1 6)) 7 (s5.1 7))) rfl (Nat.le_of_ble_eq_true rfl) hN (gm_fit_z (by decide)) rfl) ?_
  refine gm_ev.iconst (v := 0) i167_119 (by decide) ?_
  exact gm_ev.iret i167_120 rfl
theorem r_load_0_fft_at123 {N0 : Nat} {K : Nat → Nat} {d B : Nat} {s : mS} {G : gm_H} {sz sl : Nat} {R : gm_R} {s2 : mS} {r3 : Int32} {s5 : mS} (hN : N0 ≤ B) (t1 : gm_to N0 K ra_nm (ra_mt K) d 165 [.ref B, .ref (B + 1), .int (s.1 2)] (bM B (mH B s) G) sz (.returned none, bM B (mH B s2) G, sz, 0)) (t4 : gm_to N0 K ra_nm (ra_mt K) d 142 [.ref B] (bM B (mH B (mI (mI s2 2 (0 : Int32)) 0 (0 : Int32))) G) sz (.returned (some (.int r3)), bM B (mH B s5) G, sz, 0)) (c6 : r3 = 0) (c7 : (s5.1 6) = (1 : Int32)) (c8 : (1 : Int32) ≤ 0) (k : gm_ev N0 K ra_nm (ra_mt K) d (some .int) (gm_I cX12_load) (gm_lkf (lkX12 false K)) 123 [some (.ref B), none, some (.int (0 : Int32)), none] [] (bM B (mH B (mI s5 0 (1 : Int32))) G) sz sl R) : gm_ev N0 K ra_nm (ra_mt K) d (some .int) (gm_I cX12_load) (gm_lkf (lkX12 false K)) 0 [some (.ref B), none, none, none] [] (bM B (mH B s) G) sz sl R := by
  refine gm_ev.aload_n i167_0 rfl ?_
  refine gm_ev.aload_n i167_1 rfl ?_
  refine gm_ev.getfield (v := .ref (B + 1)) i167_2 rfl (bM_fld (j := 0) (fs := mF B s) rfl rfl) ?_
  refine gm_ev.aload_n i167_5 rfl ?_
  refine gm_ev.getfield (v := .int (s.1 2)) i167_6 rfl (bM_fld (j := 0) (fs := mF B s) rfl rfl) ?_
  refine gm_ev.callV gm_mono_run (av := [.ref (B + 1), .int (s.1 2)]) (r := []) (ci := 11) (fs := mF B s) (bM_get (j := 0) rfl) i167_9 rfl rfl rfl (Nat.le_of_ble_eq_true rfl) t1 ?_
  refine gm_ev.aload_n i167_12 rfl ?_
  refine gm_ev.iconst (v := 0) i167_13 (by decide) ?_
  refine gm_ev.putfield (M' := (bM B (mH B (mI s2 2 (0 : Int32))) G)) i167_14 rfl (bM_put (j := 0) (fs := mF B s2) rfl (Nat.le_of_ble_eq_true rfl) hN (gm_fit_i _) rfl) ?_
  refine gm_ev.aload_n i167_17 rfl ?_
  refine gm_ev.iconst (v := 0) i167_18 (by decide) ?_
  refine gm_ev.putfield (M' := (bM B (mH B (mI (mI s2 2 (0 : Int32)) 0 (0 : Int32))) G)) i167_19 rfl (bM_put (j := 0) (fs := mF B (mI s2 2 (0 : Int32))) rfl (Nat.le_of_ble_eq_true rfl) hN (gm_fit_i _) rfl) ?_
  refine gm_ev.aload_n i167_22 rfl ?_
  refine gm_ev.callV gm_mono_run (av := []) (r := []) (ci := 11) (fs := mF B (mI (mI s2 2 (0 : Int32)) 0 (0 : Int32))) (bM_get (j := 0) rfl) i167_23 rfl rfl rfl (Nat.le_of_ble_eq_true rfl) t4 ?_
  refine gm_ev.istore_n (ls' := [some (.ref B), some (.int r3), none, none]) i167_26 (Nat.le_of_ble_eq_true rfl) rfl ?_
  refine gm_ev.aload_n i167_27 rfl ?_
  refine gm_ev.iload_n i167_28 rfl ?_
  refine gm_ev.if_ne_f i167_29 c6 ?_
  refine gm_ev.aload_n i167_32 rfl ?_
  refine gm_ev.getfield (v := .int (s5.1 6)) i167_33 rfl (bM_fld (j := 0) (fs := mF B s5) rfl rfl) ?_
  refine gm_ev.iconst (v := 1) i167_36 (by decide) ?_
  refine gm_ev.icmp_ne_f i167_37 c7 ?_
  refine gm_ev.iconst (v := 1) i167_40 (by decide) ?_
  refine gm_ev.goto (tgt := 60) i167_41 (by decide) ?_
  refine gm_ev.putfield (M' := (bM B (mH B (mI s5 0 (1 : Int32))) G)) i167_60 rfl (bM_put (j := 0) (fs := mF B s5) rfl (Nat.le_of_ble_eq_true rfl) hN (gm_fit_i _) rfl) ?_
  refine gm_ev.aload_n i167_63 rfl ?_
  refine gm_ev.getfield (v := .int (1 : Int32)) i167_64 rfl (bM_fld (j := 0) (fs := mF B (mI s5 0 (1 : Int32))) rfl rfl) ?_
  refine gm_ev.if_le_t (tgt := 121) i167_67 (by decide) c8 ?_
  refine gm_ev.iconst (v := 0) i167_121 (by decide) ?_
  refine gm_ev.istore_n (ls' := [some (.ref B), some (.int r3), some (.int (0 : Int32)), none]) i167_122 (Nat.le_of_ble_eq_true rfl) rfl ?_
  refine gm_ev.le (a := [some (.ref B), none, some (.int (0 : Int32)), none]) (gm_leL.le (show gm_leL _ _ from ⟨rfl, ⟨rfl, trivial⟩⟩)) ?_
  exact k
theorem r_load_0_ffft {N0 : Nat} {K : Nat → Nat} {d B : Nat} {s : mS} {G : gm_H} {sz sl : Nat} {s2 : mS} {r3 : Int32} {s5 : mS} {s10 : mS} (hN : N0 ≤ B) (t1 : gm_to N0 K ra_nm (ra_mt K) d 165 [.ref B, .ref (B + 1), .int (s.1 2)] (bM B (mH B s) G) sz (.returned none, bM B (mH B s2) G, sz, 0)) (t4 : gm_to N0 K ra_nm (ra_mt K) d 142 [.ref B] (bM B (mH B (mI (mI s2 2 (0 : Int32)) 0 (0 : Int32))) G) sz (.returned (some (.int r3)), bM B (mH B s5) G, sz, 0)) (c6 : r3 = 0) (c7 : (s5.1 6) = (1 : Int32)) (c8 : ¬ (1 : Int32) ≤ 0) (t9 : gm_to N0 K ra_nm (ra_mt K) d 165 [.ref B, .ref (B + 2), .int (s5.1 4)] (bM B (mH B (mI s5 0 (1 : Int32))) G) sz (.returned none, bM B (mH B s10) G, sz, 0)) (c11 : (s10.1 5) = 0) : gm_ev N0 K ra_nm (ra_mt K) d (some .int) (gm_I cX12_load) (gm_lkf (lkX12 false K)) 0 [some (.ref B), none, none, none] [] (bM B (mH B s) G) sz sl (.returned (some (.int (0 : Int32))), (bM B (mH B (mI (mI (mI s10 6 (s5.1 6)) 7 (s5.1 7)) 24 (0 : Int32))) G), sz, sl) := by
  refine gm_ev.aload_n i167_0 rfl ?_
  refine gm_ev.aload_n i167_1 rfl ?_
  refine gm_ev.getfield (v := .ref (B + 1)) i167_2 rfl (bM_fld (j := 0) (fs := mF B s) rfl rfl) ?_
  refine gm_ev.aload_n i167_5 rfl ?_
  refine gm_ev.getfield (v := .int (s.1 2)) i167_6 rfl (bM_fld (j := 0) (fs := mF B s) rfl rfl) ?_
  refine gm_ev.callV gm_mono_run (av := [.ref (B + 1), .int (s.1 2)]) (r := []) (ci := 11) (fs := mF B s) (bM_get (j := 0) rfl) i167_9 rfl rfl rfl (Nat.le_of_ble_eq_true rfl) t1 ?_
  refine gm_ev.aload_n i167_12 rfl ?_
  refine gm_ev.iconst (v := 0) i167_13 (by decide) ?_
  refine gm_ev.putfield (M' := (bM B (mH B (mI s2 2 (0 : Int32))) G)) i167_14 rfl (bM_put (j := 0) (fs := mF B s2) rfl (Nat.le_of_ble_eq_true rfl) hN (gm_fit_i _) rfl) ?_
  refine gm_ev.aload_n i167_17 rfl ?_
  refine gm_ev.iconst (v := 0) i167_18 (by decide) ?_
  refine gm_ev.putfield (M' := (bM B (mH B (mI (mI s2 2 (0 : Int32)) 0 (0 : Int32))) G)) i167_19 rfl (bM_put (j := 0) (fs := mF B (mI s2 2 (0 : Int32))) rfl (Nat.le_of_ble_eq_true rfl) hN (gm_fit_i _) rfl) ?_
  refine gm_ev.aload_n i167_22 rfl ?_
  refine gm_ev.callV gm_mono_run (av := []) (r := []) (ci := 11) (fs := mF B (mI (mI s2 2 (0 : Int32)) 0 (0 : Int32))) (bM_get (j := 0) rfl) i167_23 rfl rfl rfl (Nat.le_of_ble_eq_true rfl) t4 ?_
  refine gm_ev.istore_n (ls' := [some (.ref B), some (.int r3), none, none]) i167_26 (Nat.le_of_ble_eq_true rfl) rfl ?_
  refine gm_ev.aload_n i167_27 rfl ?_
  refine gm_ev.iload_n i167_28 rfl ?_
  refine gm_ev.if_ne_f i167_29 c6 ?_
  refine gm_ev.aload_n i167_32 rfl ?_
  refine gm_ev.getfield (v := .int (s5.1 6)) i167_33 rfl (bM_fld (j := 0) (fs := mF B s5) rfl rfl) ?_
  refine gm_ev.iconst (v := 1) i167_36 (by decide) ?_
  refine gm_ev.icmp_ne_f i167_37 c7 ?_
  refine gm_ev.iconst (v := 1) i167_40 (by decide) ?_
  refine gm_ev.goto (tgt := 60) i167_41 (by decide) ?_
  refine gm_ev.putfield (M' := (bM B (mH B (mI s5 0 (1 : Int32))) G)) i167_60 rfl (bM_put (j := 0) (fs := mF B s5) rfl (Nat.le_of_ble_eq_true rfl) hN (gm_fit_i _) rfl) ?_
  refine gm_ev.aload_n i167_63 rfl ?_
  refine gm_ev.getfield (v := .int (1 : Int32)) i167_64 rfl (bM_fld (j := 0) (fs := mF B (mI s5 0 (1 : Int32))) rfl rfl) ?_
  refine gm_ev.if_le_f i167_67 c8 ?_
  refine gm_ev.aload_n i167_70 rfl ?_
  refine gm_ev.getfield (v := .int (s5.1 6)) i167_71 rfl (bM_fld (j := 0) (fs := mF B (mI s5 0 (1 : Int32))) rfl rfl) ?_
  refine gm_ev.istore_n (ls' := [some (.ref B), some (.int r3), some (.int (s5.1 6)), none]) i167_74 (Nat.le_of_ble_eq_true rfl) rfl ?_
  refine gm_ev.aload_n i167_75 rfl ?_
  refine gm_ev.getfield (v := .int (s5.1 7)) i167_76 rfl (bM_fld (j := 0) (fs := mF B (mI s5 0 (1 : Int32))) rfl rfl) ?_
  refine gm_ev.istore_n (ls' := [some (.ref B), some (.int r3), some (.int (s5.1 6)), some (.int (s5.1 7))]) i167_79 (Nat.le_of_ble_eq_true rfl) rfl ?_
  refine gm_ev.aload_n i167_80 rfl ?_
  refine gm_ev.aload_n i167_81 rfl ?_
  refine gm_ev.getfield (v := .ref (B + 2)) i167_82 rfl (bM_fld (j := 0) (fs := mF B (mI s5 0 (1 : Int32))) rfl rfl) ?_
  refine gm_ev.aload_n i167_85 rfl ?_
  refine gm_ev.getfield (v := .int (s5.1 4)) i167_86 rfl (bM_fld (j := 0) (fs := mF B (mI s5 0 (1 : Int32))) rfl rfl) ?_
  refine gm_ev.callV gm_mono_run (av := [.ref (B + 2), .int (s5.1 4)]) (r := []) (ci := 11) (fs := mF B (mI s5 0 (1 : Int32))) (bM_get (j := 0) rfl) i167_89 rfl rfl rfl (Nat.le_of_ble_eq_true rfl) t9 ?_
  refine gm_ev.aload_n i167_92 rfl ?_
  refine gm_ev.getfield (v := .int (s10.1 5)) i167_93 rfl (bM_fld (j := 0) (fs := mF B s10) rfl rfl) ?_
  refine gm_ev.if_eq_t (tgt := 104) i167_96 (by decide) c11 ?_
  refine gm_ev.aload_n i167_104 rfl ?_
  refine gm_ev.iload_n i167_105 rfl ?_
  refine gm_ev.putfield (M' := (bM B (mH B (mI s10 6 (s5.1 6))) G)) i167_106 rfl (bM_put (j := 0) (fs := mF B s10) rfl (Nat.le_of_ble_eq_true rfl) hN (gm_fit_i _) rfl) ?_
  refine gm_ev.aload_n i167_109 rfl ?_
  refine gm_ev.iload_n i167_110 rfl ?_
  refine gm_ev.putfield (M' := (bM B (mH B (mI (mI s10 6 (s5.1 6)) 7 (s5.1 7))) G)) i167_111 rfl (bM_put (j := 0) (fs := mF B (mI s10 6 (s5.1 6))) rfl (Nat.le_of_ble_eq_true rfl) hN (gm_fit_i _) rfl) ?_
  refine gm_ev.aload_n i167_114 rfl ?_
  refine gm_ev.iconst (v := 0) i167_115 (by decide) ?_
  refine gm_ev.putfield (M' := (bM B (mH B (mI (mI (mI s10 6 (s5.1 6)) 7 (s5.1 7)) 24 (0 : Int32))) G)) i167_116 rfl (bM_put (j := 0) (fs := mF B (mI (mI s10 6 (s5.1 6)) 7 (s5.1 7))) rfl (Nat.le_of_ble_eq_true rfl) hN (gm_fit_z (by decide)) rfl) ?_
  refine gm_ev.iconst (v := 0) i167_119 (by decide) ?_
  exact gm_ev.iret i167_120 rfl
theorem r_load_0_ffff {N0 : Nat} {K : Nat → Nat} {d B : Nat} {s : mS} {G : gm_H} {sz sl : Nat} {s2 : mS} {r3 : Int32} {s5 : mS} {s10 : mS} {r12 : Int32} {s14 : mS} (hN : N0 ≤ B) (t1 : gm_to N0 K ra_nm (ra_mt K) d 165 [.ref B, .ref (B + 1), .int (s.1 2)] (bM B (mH B s) G) sz (.returned none, bM B (mH B s2) G, sz, 0)) (t4 : gm_to N0 K ra_nm (ra_mt K) d 142 [.ref B] (bM B (mH B (mI (mI s2 2 (0 : Int32)) 0 (0 : Int32))) G) sz (.returned (some (.int r3)), bM B (mH B s5) G, sz, 0)) (c6 : r3 = 0) (c7 : (s5.1 6) = (1 : Int32)) (c8 : ¬ (1 : Int32) ≤ 0) (t9 : gm_to N0 K ra_nm (ra_mt K) d 165 [.ref B, .ref (B + 2), .int (s5.1 4)] (bM B (mH B (mI s5 0 (1 : Int32))) G) sz (.returned none, bM B (mH B s10) G, sz, 0)) (c11 : ¬ (s10.1 5) = 0) (t13 : gm_to N0 K ra_nm (ra_mt K) d 142 [.ref B] (bM B (mH B s10) G) sz (.returned (some (.int r12)), bM B (mH B s14) G, sz, 0)) : gm_ev N0 K ra_nm (ra_mt K) d (some .int) (gm_I cX12_load) (gm_lkf (lkX12 false K)) 0 [some (.ref B), none, none, none] [] (bM B (mH B s) G) sz sl (.returned (some (.int (0 : Int32))), (bM B (mH B (mI (mI (mI s14 6 (s5.1 6)) 7 (s5.1 7)) 24 (0 : Int32))) G), sz, sl) := by
  refine gm_ev.aload_n i167_0 rfl ?_
  refine gm_ev.aload_n i167_1 rfl ?_
  refine gm_ev.getfield (v := .ref (B + 1)) i167_2 rfl (bM_fld (j := 0) (fs := mF B s) rfl rfl) ?_
  refine gm_ev.aload_n i167_5 rfl ?_
  refine gm_ev.getfield (v := .int (s.1 2)) i167_6 rfl (bM_fld (j := 0) (fs := mF B s) rfl rfl) ?_
  refine gm_ev.callV gm_mono_run (av := [.ref (B + 1), .int (s.1 2)]) (r := []) (ci := 11) (fs := mF B s) (bM_get (j := 0) rfl) i167_9 rfl rfl rfl (Nat.le_of_ble_eq_true rfl) t1 ?_
  refine gm_ev.aload_n i167_12 rfl ?_
  refine gm_ev.iconst (v := 0) i167_13 (by decide) ?_
  refine gm_ev.putfield (M' := (bM B (mH B (mI s2 2 (0 : Int32))) G)) i167_14 rfl (bM_put (j := 0) (fs := mF B s2) rfl (Nat.le_of_ble_eq_true rfl) hN (gm_fit_i _) rfl) ?_
  refine gm_ev.aload_n i167_17 rfl ?_
  refine gm_ev.iconst (v := 0) i167_18 (by decide) ?_
  refine gm_ev.putfield (M' := (bM B (mH B (mI (mI s2 2 (0 : Int32)) 0 (0 : Int32))) G)) i167_19 rfl (bM_put (j := 0) (fs := mF B (mI s2 2 (0 : Int32))) rfl (Nat.le_of_ble_eq_true rfl) hN (gm_fit_i _) rfl) ?_
  refine gm_ev.aload_n i167_22 rfl ?_
  refine gm_ev.callV gm_mono_run (av := []) (r := []) (ci := 11) (fs := mF B (mI (mI s2 2 (0 : Int32)) 0 (0 : Int32))) (bM_get (j := 0) rfl) i167_23 rfl rfl rfl (Nat.le_of_ble_eq_true rfl) t4 ?_
  refine gm_ev.istore_n (ls' := [some (.ref B), some (.int r3), none, none]) i167_26 (Nat.le_of_ble_eq_true rfl) rfl ?_
  refine gm_ev.aload_n i167_27 rfl ?_
  refine gm_ev.iload_n i167_28 rfl ?_
  refine gm_ev.if_ne_f i167_29 c6 ?_
  refine gm_ev.aload_n i167_32 rfl ?_
  refine gm_ev.getfield (v := .int (s5.1 6)) i167_33 rfl (bM_fld (j := 0) (fs := mF B s5) rfl rfl) ?_
  refine gm_ev.iconst (v := 1) i167_36 (by decide) ?_
  refine gm_ev.icmp_ne_f i167_37 c7 ?_
  refine gm_ev.iconst (v := 1) i167_40 (by decide) ?_
  refine gm_ev.goto (tgt := 60) i167_41 (by decide) ?_
  refine gm_ev.putfield (M' := (bM B (mH B (mI s5 0 (1 : Int32))) G)) i167_60 rfl (bM_put (j := 0) (fs := mF B s5) rfl (Nat.le_of_ble_eq_true rfl) hN (gm_fit_i _) rfl) ?_
  refine gm_ev.aload_n i167_63 rfl ?_
  refine gm_ev.getfield (v := .int (1 : Int32)) i167_64 rfl (bM_fld (j := 0) (fs := mF B (mI s5 0 (1 : Int32))) rfl rfl) ?_
  refine gm_ev.if_le_f i167_67 c8 ?_
  refine gm_ev.aload_n i167_70 rfl ?_
  refine gm_ev.getfield (v := .int (s5.1 6)) i167_71 rfl (bM_fld (j := 0) (fs := mF B (mI s5 0 (1 : Int32))) rfl rfl) ?_
  refine gm_ev.istore_n (ls' := [some (.ref B), some (.int r3), some (.int (s5.1 6)), none]) i167_74 (Nat.le_of_ble_eq_true rfl) rfl ?_
  refine gm_ev.aload_n i167_75 rfl ?_
  refine gm_ev.getfield (v := .int (s5.1 7)) i167_76 rfl (bM_fld (j := 0) (fs := mF B (mI s5 0 (1 : Int32))) rfl rfl) ?_
  refine gm_ev.istore_n (ls' := [some (.ref B), some (.int r3), some (.int (s5.1 6)), some (.int (s5.1 7))]) i167_79 (Nat.le_of_ble_eq_true rfl) rfl ?_
  refine gm_ev.aload_n i167_80 rfl ?_
  refine gm_ev.aload_n i167_81 rfl ?_
  refine gm_ev.getfield (v := .ref (B + 2)) i167_82 rfl (bM_fld (j := 0) (fs := mF B (mI s5 0 (1 : Int32))) rfl rfl) ?_
  refine gm_ev.aload_n i167_85 rfl ?_
  refine gm_ev.getfield (v := .int (s5.1 4)) i167_86 rfl (bM_fld (j := 0) (fs := mF B (mI s5 0 (1 : Int32))) rfl rfl) ?_
  refine gm_ev.callV gm_mono_run (av := [.ref (B + 2), .int (s5.1 4)]) (r := []) (ci := 11) (fs := mF B (mI s5 0 (1 : Int32))) (bM_get (j := 0) rfl) i167_89 rfl rfl rfl (Nat.le_of_ble_eq_true rfl) t9 ?_
  refine gm_ev.aload_n i167_92 rfl ?_
  refine gm_ev.getfield (v := .int (s10.1 5)) i167_93 rfl (bM_fld (j := 0) (fs := mF B s10) rfl rfl) ?_
  refine gm_ev.if_eq_f i167_96 c11 ?_
  refine gm_ev.aload_n i167_99 rfl ?_
  refine gm_ev.callV gm_mono_run (av := []) (r := []) (ci := 11) (fs := mF B s10) (bM_get (j := 0) rfl) i167_100 rfl rfl rfl (Nat.le_of_ble_eq_true rfl) t13 ?_
  refine gm_ev.istore_n (ls' := [some (.ref B), some (.int r12), some (.int (s5.1 6)), some (.int (s5.1 7))]) i167_103 (Nat.le_of_ble_eq_true rfl) rfl ?_
  refine gm_ev.aload_n i167_104 rfl ?_
  refine gm_ev.iload_n i167_105 rfl ?_
  refine gm_ev.putfield (M' := (bM B (mH B (mI s14 6 (s5.1 6))) G)) i167_106 rfl (bM_put (j := 0) (fs := mF B s14) rfl (Nat.le_of_ble_eq_true rfl) hN (gm_fit_i _) rfl) ?_
  refine gm_ev.aload_n i167_109 rfl ?_
  refine gm_ev.iload_n i167_110 rfl ?_
  refine gm_ev.putfield (M' := (bM B (mH B (mI (mI s14 6 (s5.1 6)) 7 (s5.1 7))) G)) i167_111 rfl (bM_put (j := 0) (fs := mF B (mI s14 6 (s5.1 6))) rfl (Nat.le_of_ble_eq_true rfl) hN (gm_fit_i _) rfl) ?_
  refine gm_ev.aload_n i167_114 rfl ?_
  refine gm_ev.iconst (v := 0) i167_115 (by decide) ?_
  refine gm_ev.putfield (M' := (bM B (mH B (mI (mI (mI s14 6 (s5.1 6)) 7 (s5.1 7)) 24 (0 : Int32))) G)) i167_116 rfl (bM_put (j := 0) (fs := mF B (mI (mI s14 6 (s5.1 6)) 7 (s5.1 7))) rfl (Nat.le_of_ble_eq_true rfl) hN (gm_fit_z (by decide)) rfl) ?_
  refine gm_ev.iconst (v := 0) i167_119 (by decide) ?_
  exact gm_ev.iret i167_120 rfl
theorem r_load_123_t_at182 {N0 : Nat} {K : Nat → Nat} {d B : Nat} {s : mS} {G : gm_H} {sz sl : Nat} {R : gm_R} {x2 : Int32} (hN : N0 ≤ B) (c1 : (s.1 9) ≤ x2) (k : gm_ev N0 K ra_nm (ra_mt K) d (some .int) (gm_I cX12_load) (gm_lkf (lkX12 false K)) 182 [some (.ref B), none, some (.int (0 : Int32)), none] [] (bM B (mH B (mI (mI (mI (mI (mI s 4 (s.1 9)) 5 (1 : Int32)) 41 (0 : Int32)) 43 (0 : Int32)) 32 (s.1 34))) G) sz sl R) : gm_ev N0 K ra_nm (ra_mt K) d (some .int) (gm_I cX12_load) (gm_lkf (lkX12 false K)) 123 [some (.ref B), none, some (.int x2), none] [] (bM B (mH B s) G) sz sl R := by
  refine gm_ev.iload_n i167_123 rfl ?_
  refine gm_ev.aload_n i167_124 rfl ?_
  refine gm_ev.getfield (v := .int (s.1 9)) i167_125 rfl (bM_fld (j := 0) (fs := mF B s) rfl rfl) ?_
  refine gm_ev.icmp_ge_t (tgt := 149) i167_128 (by decide) c1 ?_
  refine gm_ev.aload_n i167_149 rfl ?_
  refine gm_ev.aload_n i167_150 rfl ?_
  refine gm_ev.getfield (v := .int (s.1 9)) i167_151 rfl (bM_fld (j := 0) (fs := mF B s) rfl rfl) ?_
  refine gm_ev.putfield (M' := (bM B (mH B (mI s 4 (s.1 9))) G)) i167_154 rfl (bM_put (j := 0) (fs := mF B s) rfl (Nat.le_of_ble_eq_true rfl) hN (gm_fit_i _) rfl) ?_
  refine gm_ev.aload_n i167_157 rfl ?_
  refine gm_ev.iconst (v := 1) i167_158 (by decide) ?_
  refine gm_ev.putfield (M' := (bM B (mH B (mI (mI s 4 (s.1 9)) 5 (1 : Int32))) G)) i167_159 rfl (bM_put (j := 0) (fs := mF B (mI s 4 (s.1 9))) rfl (Nat.le_of_ble_eq_true rfl) hN (gm_fit_z (by decide)) rfl) ?_
  refine gm_ev.aload_n i167_162 rfl ?_
  refine gm_ev.iconst (v := 0) i167_163 (by decide) ?_
  refine gm_ev.putfield (M' := (bM B (mH B (mI (mI (mI s 4 (s.1 9)) 5 (1 : Int32)) 41 (0 : Int32))) G)) i167_164 rfl (bM_put (j := 0) (fs := mF B (mI (mI s 4 (s.1 9)) 5 (1 : Int32))) rfl (Nat.le_of_ble_eq_true rfl) hN (gm_fit_z (by decide)) rfl) ?_
  refine gm_ev.aload_n i167_167 rfl ?_
  refine gm_ev.iconst (v := 0) i167_168 (by decide) ?_
  refine gm_ev.putfield (M' := (bM B (mH B (mI (mI (mI (mI s 4 (s.1 9)) 5 (1 : Int32)) 41 (0 : Int32)) 43 (0 : Int32))) G)) i167_169 rfl (bM_put (j := 0) (fs := mF B (mI (mI (mI s 4 (s.1 9)) 5 (1 : Int32)) 41 (0 : Int32))) rfl (Nat.le_of_ble_eq_true rfl) hN (gm_fit_i _) rfl) ?_
  refine gm_ev.aload_n i167_172 rfl ?_
  refine gm_ev.aload_n i167_173 rfl ?_
  refine gm_ev.getfield (v := .int (s.1 34)) i167_174 rfl (bM_fld (j := 0) (fs := mF B (mI (mI (mI (mI s 4 (s.1 9)) 5 (1 : Int32)) 41 (0 : Int32)) 43 (0 : Int32))) rfl rfl) ?_
  refine gm_ev.putfield (M' := (bM B (mH B (mI (mI (mI (mI (mI s 4 (s.1 9)) 5 (1 : Int32)) 41 (0 : Int32)) 43 (0 : Int32)) 32 (s.1 34))) G)) i167_177 rfl (bM_put (j := 0) (fs := mF B (mI (mI (mI (mI s 4 (s.1 9)) 5 (1 : Int32)) 41 (0 : Int32)) 43 (0 : Int32))) rfl (Nat.le_of_ble_eq_true rfl) hN (gm_fit_i _) rfl) ?_
  refine gm_ev.iconst (v := 0) i167_180 (by decide) ?_
  refine gm_ev.istore_n (ls' := [some (.ref B), none, some (.int (0 : Int32)), none]) i167_181 (Nat.le_of_ble_eq_true rfl) rfl ?_
  exact k
theorem r_load_123_f_at123 {N0 : Nat} {K : Nat → Nat} {d B : Nat} {s : mS} {G : gm_H} {sz sl : Nat} {R : gm_R} {x2 : Int32} {k2 : Nat} {k3 : Nat} (hN : N0 ≤ B) (c1 : ¬ (s.1 9) ≤ x2) (ek2 : x2 = nI k2) (lk2 : k2 < 240) (ek3 : x2 = nI k3) (lk3 : k3 < 240) (k : gm_ev N0 K ra_nm (ra_mt K) d (some .int) (gm_I cX12_load) (gm_lkf (lkX12 false K)) 123 [some (.ref B), none, some (.int (x2 + (1 : Int32))), none] [] (bM B (mH B (mA s 3 (upd (s.2.1 3) k3 (vp_nar .char (s.2.1 8 k2))))) G) sz sl R) : gm_ev N0 K ra_nm (ra_mt K) d (some .int) (gm_I cX12_load) (gm_lkf (lkX12 false K)) 123 [some (.ref B), none, some (.int x2), none] [] (bM B (mH B s) G) sz sl R := by
  refine gm_ev.iload_n i167_123 rfl ?_
  refine gm_ev.aload_n i167_124 rfl ?_
  refine gm_ev.getfield (v := .int (s.1 9)) i167_125 rfl (bM_fld (j := 0) (fs := mF B s) rfl rfl) ?_
  refine gm_ev.icmp_ge_f i167_128 c1 ?_
  refine gm_ev.aload_n i167_131 rfl ?_
  refine gm_ev.getfield (v := .ref (B + 2)) i167_132 rfl (bM_fld (j := 0) (fs := mF B s) rfl rfl) ?_
  refine gm_ev.iload_n i167_135 rfl ?_
  refine gm_ev.aload_n i167_136 rfl ?_
  refine gm_ev.getfield (v := .ref (B + 3)) i167_137 rfl (bM_fld (j := 0) (fs := mF B s) rfl rfl) ?_
  refine gm_ev.iload_n i167_140 rfl ?_
  refine gm_ev.caload i167_141 (bM_ai (j := 3) (n := 240) (f := s.2.1 8) rfl ek2 lk2 (by decide)) ?_
  refine gm_ev.castore (M' := (bM B (mH B (mA s 3 (upd (s.2.1 3) k3 (vp_nar .char (s.2.1 8 k2))))) G)) i167_142 (bM_astn (j := 2) (n := 240) (f := s.2.1 3) rfl ek3 lk3 (by decide) hN rfl) ?_
  refine gm_ev.iinc (v := x2 + (1 : Int32)) (ls' := [some (.ref B), none, some (.int (x2 + (1 : Int32))), none]) i167_143 rfl (by rfl) rfl ?_
  refine gm_ev.goto (tgt := 123) i167_146 (by decide) ?_
  exact k
