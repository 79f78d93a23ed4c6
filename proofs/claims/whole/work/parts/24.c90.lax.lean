/-! .. each meets what gm_lawB says -/
section GMX
variable {N0 : Nat} {nm : Nat → Option String} {ret : Option FieldType} {I : Nat → Option Instr} {lk : Nat → Option gm_L} {ex : Nat → gm_H → Nat → Option Nat} {call : gm_Call} {n pc pc' : Nat} {ls ls' : gm_Ls} {st st' : List Value} {M M' : gm_H} {sz sz' sl d : Nat} {i : Instr} {R : gm_R}
theorem gm_x_pure (hi : I pc = some i) (h : gm_pure i pc ls st = some (pc', ls', st')) : gm_exec N0 nm ret I lk ex call (n + 1) pc ls st M sz sl = gm_exec N0 nm ret I lk ex call n pc' ls' st' M sz sl := by
  simp only [gm_exec, hi, h]
theorem gm_x_heap (hi : I pc = some i) (h0 : gm_pure i pc ls st = none) (h : gm_heap N0 nm lk i pc ls st M sz = some (pc', ls', st', M', sz', d)) : gm_exec N0 nm ret I lk ex call (n + 1) pc ls st M sz sl = gm_exec N0 nm ret I lk ex call n pc' ls' st' M' sz' (sl + d) := by
  simp only [gm_exec, hi, h0, h]
theorem gm_x_end (hi : I pc = some i) (h0 : gm_pure i pc ls st = none) (h : gm_heap N0 nm lk i pc ls st M sz = none) (hs : gm_site lk i st M = none) (he : gm_end lk ret i st M sz sl = some R) : gm_exec N0 nm ret I lk ex call (n + 1) pc ls st M sz sl = some R := by
  simp only [gm_exec, hi, h0, h, hs]
  exact he
end GMX
section LWR
variable {l : Launch} {D : va_G} {AC : FieldType → ClassId} {N0 : Nat} {K : Nat → Nat} {bIx : ByteArray} {nIx : Nat}
theorem gm_wrt_load {N0 : Nat} {K : Nat → Nat} {x out : Nat} {w : Int32} {M1 : gm_H} {sz1 d1 : Nat} {f : Nat → Int64} (hM1 : M1 out = some (.inl (.long, 1, .inr (.inl f)))) (hN1 : N0 ≤ out) : gm_exec N0 ra_nm (some .int) (gm_I cL_load) (gm_lkf (lkL false K)) (fun _ _ _ => none) (fun _ _ _ _ => none) 6 (3 + 3) [some (.ref x), some (.ref out), none] [.int w, .int 0, .ref out] M1 sz1 d1 = some (.returned (some (.int 0)), gm_set M1 out (.inl (.long, 1, .inr (.inl (vp_updL f 0 w.toInt64)))), sz1, d1) := by
  have hs : gm_astl N0 M1 out 0 w.toInt64 = some (gm_set M1 out (.inl (.long, 1, .inr (.inl (vp_updL f 0 w.toInt64))))) := gm_astl_of (k := 0) hM1 rfl (by decide) (by decide) hN1
  exact (gm_x_pure iLload_6 rfl).trans ((gm_x_heap iLload_7 rfl (show gm_heap N0 ra_nm _ .lastore _ _ (.long w.toInt64 :: .int 0 :: .ref out :: []) M1 sz1 = some (8, [some (.ref x), some (.ref out), none], [], gm_set M1 out (.inl (.long, 1, .inr (.inl (vp_updL f 0 w.toInt64)))), sz1, 0) by simp only [gm_heap, hs, Option.map_some])).trans ((gm_x_pure iLload_8 rfl).trans ((gm_x_pure iLload_20 rfl).trans (gm_x_end iLload_21 rfl rfl rfl rfl))))
theorem gm_wrh_load_11 {N0 : Nat} {K : Nat → Nat} {x out q : Nat} {M1 : gm_H} {sz1 d1 : Nat} : gm_exec N0 ra_nm (some .int) (gm_I cL_load) (gm_lkf (lkL false K)) (fun _ _ _ => none) (fun _ _ _ _ => none) 4 11 [some (.ref x), some (.ref out), none] [.ref q] M1 sz1 d1 = some (.returned (some (.int 1)), M1, sz1, d1) := by
  exact (gm_x_pure iLload_11 rfl).trans ((gm_x_pure iLload_12 rfl).trans (gm_x_end iLload_13 rfl rfl rfl rfl))
theorem gm_wrh_load_14 {N0 : Nat} {K : Nat → Nat} {x out q : Nat} {M1 : gm_H} {sz1 d1 : Nat} : gm_exec N0 ra_nm (some .int) (gm_I cL_load) (gm_lkf (lkL false K)) (fun _ _ _ => none) (fun _ _ _ _ => none) 4 14 [some (.ref x), some (.ref out), none] [.ref q] M1 sz1 d1 = some (.returned (some (.int 2)), M1, sz1, d1) := by
  exact (gm_x_pure iLload_14 rfl).trans ((gm_x_pure iLload_15 rfl).trans (gm_x_end iLload_16 rfl rfl rfl rfl))
theorem gm_wrh_load_17 {N0 : Nat} {K : Nat → Nat} {x out q : Nat} {M1 : gm_H} {sz1 d1 : Nat} : gm_exec N0 ra_nm (some .int) (gm_I cL_load) (gm_lkf (lkL false K)) (fun _ _ _ => none) (fun _ _ _ _ => none) 4 17 [some (.ref x), some (.ref out), none] [.ref q] M1 sz1 d1 = some (.returned (some (.int 3)), M1, sz1, d1) := by
  exact (gm_x_pure iLload_17 rfl).trans ((gm_x_pure iLload_18 rfl).trans (gm_x_end iLload_19 rfl rfl rfl rfl))
set_option maxRecDepth 4096 in
theorem wr_load (E : gm_env l D vwCl AC N0 ra_Tg ra_Ns ra_As (ra_Zs K) (ra_Ss K) ra_nm (ra_mt K) K bIx nIx) (hlt : l.stackTraces = false) {d : Nat} (hd2 : 2 ≤ d) : ∀ n av M sz v M' sz' dd, gm_lawC N0 K ra_nm (ra_mt K) d 10 ra_wt n 1000 av M sz = some (.returned v, M', sz', dd) → vx_Met l yL_load (Cond.codeWith yL_load cL_load 3 (some .int) [(0, 8, 11, 13), (0, 8, 14, 15), (0, 8, 17, 17)] :: ra_Tg) (gm_room (d + 1) (sz' - sz) dd) (va_Pc av (gm_PreT D vwCl AC N0 ra_Ns ra_As (ra_Zs K) (ra_Ss K) ra_Xs ra_Cs M sz)) (gm_Qc D vwCl AC N0 v M' sz') (fun _ _ _ => False) (sz' - sz) dd (fun q => N0 ≤ q) := by
  intro n av M sz v M' sz' dd h
  obtain ⟨hpool, hconsts, hcalls⟩ := gm_all (lLf K)
  unfold gm_lawC at h
  split at h
  · rename_i h1; cases h1
  · rename_i x out h1
    cases h1
    refine gm_lawB_met (Xs := ra_Xs) (Cs := ra_Cs) (na := 0) (is := []) (nL := 3) (k0 := 3) (pc0 := 3) (n1 := 6) (n2 := 4) (ls0 := [some (.ref x), some (.ref out), none]) (I := gm_I cL_load) E hlt (by decide +kernel) rfl (fun _ _ h => gm_I_dec h) hpool hconsts hcalls hd2 (by decide) (Nat.le_of_ble_eq_true rfl) ?_ iLload_3 rfl rfl ?_ (own1 := RX11) rfl (th_load K) w_79 (by decide) (by decide) (by decide +kernel) w_603 w_604 rfl w_605 ?_ h
    · simp only [gm_pn, iLload_0, iLload_1, iLload_2]; rfl
    · intro w M1 sz1 d1 f hM1 hN1
      exact gm_wrt_load hM1 hN1
    · intro e k hk
      split at hk
      · cases hk
        exact ⟨"java/lang/IllegalArgumentException", [], (⟨0, 8, 11, 13⟩ : ExceptionTableEntry), [(⟨0, 8, 14, 15⟩ : ExceptionTableEntry), (⟨0, 8, 17, 17⟩ : ExceptionTableEntry)], rfl, rfl, fun _ h => absurd h List.not_mem_nil, by decide, by decide, w_600, by decide, fun q M1 sz1 d1 => gm_wrh_load_11⟩
      · cases hk
        exact ⟨"java/lang/UnsupportedOperationException", [(⟨0, 8, 11, 13⟩ : ExceptionTableEntry)], (⟨0, 8, 14, 15⟩ : ExceptionTableEntry), [(⟨0, 8, 17, 17⟩ : ExceptionTableEntry)], rfl, rfl, List.forall_mem_cons.mpr ⟨⟨by decide, _, w_600, by decide⟩, fun _ h => absurd h List.not_mem_nil⟩, by decide, by decide, w_601, by decide, fun q M1 sz1 d1 => gm_wrh_load_14⟩
      · cases hk
        exact ⟨"java/lang/IllegalStateException", [(⟨0, 8, 11, 13⟩ : ExceptionTableEntry), (⟨0, 8, 14, 15⟩ : ExceptionTableEntry)], (⟨0, 8, 17, 17⟩ : ExceptionTableEntry), [], rfl, rfl, List.forall_mem_cons.mpr ⟨⟨by decide, _, w_600, by decide⟩, List.forall_mem_cons.mpr ⟨⟨by decide, _, w_601, by decide⟩, fun _ h => absurd h List.not_mem_nil⟩⟩, by decide, by decide, w_602, by decide, fun q M1 sz1 d1 => gm_wrh_load_17⟩
      · cases hk
  · rename_i h1; cases h1
  · cases h
theorem gm_wrt_play {N0 : Nat} {K : Nat → Nat} {x out : Nat} {i j : Int32} {w : Int32} {M1 : gm_H} {sz1 d1 : Nat} {f : Nat → Int64} (hM1 : M1 out = some (.inl (.long, 1, .inr (.inl f)))) (hN1 : N0 ≤ out) : gm_exec N0 ra_nm (some .int) (gm_I cL_play) (gm_lkf (lkL false K)) (fun _ _ _ => none) (fun _ _ _ _ => none) 6 (5 + 3) [some (.ref x), some (.int i), some (.int j), some (.ref out), none] [.int w, .int 0, .ref out] M1 sz1 d1 = some (.returned (some (.int 0)), gm_set M1 out (.inl (.long, 1, .inr (.inl (vp_updL f 0 w.toInt64)))), sz1, d1) := by
  have hs : gm_astl N0 M1 out 0 w.toInt64 = some (gm_set M1 out (.inl (.long, 1, .inr (.inl (vp_updL f 0 w.toInt64))))) := gm_astl_of (k := 0) hM1 rfl (by decide) (by decide) hN1
  exact (gm_x_pure iLplay_8 rfl).trans ((gm_x_heap iLplay_9 rfl (show gm_heap N0 ra_nm _ .lastore _ _ (.long w.toInt64 :: .int 0 :: .ref out :: []) M1 sz1 = some (10, [some (.ref x), some (.int i), some (.int j), some (.ref out), none], [], gm_set M1 out (.inl (.long, 1, .inr (.inl (vp_updL f 0 w.toInt64)))), sz1, 0) by simp only [gm_heap, hs, Option.map_some])).trans ((gm_x_pure iLplay_10 rfl).trans ((gm_x_pure iLplay_21 rfl).trans (gm_x_end iLplay_22 rfl rfl rfl rfl))))
theorem gm_wrh_play_13 {N0 : Nat} {K : Nat → Nat} {x out q : Nat} {i j : Int32} {M1 : gm_H} {sz1 d1 : Nat} : gm_exec N0 ra_nm (some .int) (gm_I cL_play) (gm_lkf (lkL false K)) (fun _ _ _ => none) (fun _ _ _ _ => none) 4 13 [some (.ref x), some (.int i), some (.int j), some (.ref out), none] [.ref q] M1 sz1 d1 = some (.returned (some (.int 1)), M1, sz1, d1) := by
  exact (gm_x_pure iLplay_13 rfl).trans ((gm_x_pure iLplay_15 rfl).trans (gm_x_end iLplay_16 rfl rfl rfl rfl))
theorem gm_wrh_play_17 {N0 : Nat} {K : Nat → Nat} {x out q : Nat} {i j : Int32} {M1 : gm_H} {sz1 d1 : Nat} : gm_exec N0 ra_nm (some .int) (gm_I cL_play) (gm_lkf (lkL false K)) (fun _ _ _ => none) (fun _ _ _ _ => none) 4 17 [some (.ref x), some (.int i), some (.int j), some (.ref out), none] [.ref q] M1 sz1 d1 = some (.returned (some (.int 2)), M1, sz1, d1) := by
  exact (gm_x_pure iLplay_17 rfl).trans ((gm_x_pure iLplay_19 rfl).trans (gm_x_end iLplay_20 rfl rfl rfl rfl))
set_option maxRecDepth 4096 in
theorem wr_play (E : gm_env l D vwCl AC N0 ra_Tg ra_Ns ra_As (ra_Zs K) (ra_Ss K) ra_nm (ra_mt K) K bIx nIx) (hlt : l.stackTraces = false) {d : Nat} (hd2 : 2 ≤ d) : ∀ n av M sz v M' sz' dd, gm_lawC N0 K ra_nm (ra_mt K) d 10 ra_wt n 1001 av M sz = some (.returned v, M', sz', dd) → vx_Met l yL_play (Cond.codeWith yL_play cL_play 5 (some .int) [(0, 10, 13, 17), (0, 10, 17, 23)] :: ra_Tg) (gm_room (d + 1) (sz' - sz) dd) (va_Pc av (gm_PreT D vwCl AC N0 ra_Ns ra_As (ra_Zs K) (ra_Ss K) ra_Xs ra_Cs M sz)) (gm_Qc D vwCl AC N0 v M' sz') (fun _ _ _ => False) (sz' - sz) dd (fun q => N0 ≤ q) := by
  intro n av M sz v M' sz' dd h
  obtain ⟨hpool, hconsts, hcalls⟩ := gm_all (lLf K)
  unfold gm_lawC at h
  split at h
  · rename_i h1; cases h1
  · rename_i h1; cases h1
  · rename_i x i j out h1
    cases h1
    refine gm_lawB_met (Xs := ra_Xs) (Cs := ra_Cs) (na := 2) (is := [.int i, .int j]) (nL := 5) (k0 := 5) (pc0 := 5) (n1 := 6) (n2 := 4) (ls0 := [some (.ref x), some (.int i), some (.int j), some (.ref out), none]) (I := gm_I cL_play) E hlt (by decide +kernel) rfl (fun _ _ h => gm_I_dec h) hpool hconsts hcalls hd2 (by decide) (Nat.le_of_ble_eq_true rfl) ?_ iLplay_5 rfl rfl ?_ (own1 := RX11) rfl (th_play K) w_79 (by decide) (by decide) (by decide +kernel) w_1002 w_1003 rfl w_1004 ?_ h
    · simp only [gm_pn, iLplay_0, iLplay_1, iLplay_2, iLplay_3, iLplay_4]; rfl
    · intro w M1 sz1 d1 f hM1 hN1
      exact gm_wrt_play hM1 hN1
    · intro e k hk
      split at hk
      · cases hk
        exact ⟨"java/lang/IllegalStateException", [], (⟨0, 10, 13, 17⟩ : ExceptionTableEntry), [(⟨0, 10, 17, 23⟩ : ExceptionTableEntry)], rfl, rfl, fun _ h => absurd h List.not_mem_nil, by decide, by decide, w_602, by decide, fun q M1 sz1 d1 => gm_wrh_play_13⟩
      · cases hk
        exact ⟨"java/lang/IndexOutOfBoundsException", [(⟨0, 10, 13, 17⟩ : ExceptionTableEntry)], (⟨0, 10, 17, 23⟩ : ExceptionTableEntry), [], rfl, rfl, List.forall_mem_cons.mpr ⟨⟨by decide, _, w_602, by decide⟩, fun _ h => absurd h List.not_mem_nil⟩, by decide, by decide, w_1001, by decide, fun q M1 sz1 d1 => gm_wrh_play_17⟩
      · cases hk
  · cases h
theorem gm_wrt_audit {N0 : Nat} {K : Nat → Nat} {x out : Nat} {w : Int32} {M1 : gm_H} {sz1 d1 : Nat} {f : Nat → Int64} (hM1 : M1 out = some (.inl (.long, 1, .inr (.inl f)))) (hN1 : N0 ≤ out) : gm_exec N0 ra_nm (some .int) (gm_I cL_audit) (gm_lkf (lkL false K)) (fun _ _ _ => none) (fun _ _ _ _ => none) 6 (3 + 3) [some (.ref x), some (.ref out), none] [.int w, .int 0, .ref out] M1 sz1 d1 = some (.returned (some (.int 0)), gm_set M1 out (.inl (.long, 1, .inr (.inl (vp_updL f 0 w.toInt64)))), sz1, d1) := by
  have hs : gm_astl N0 M1 out 0 w.toInt64 = some (gm_set M1 out (.inl (.long, 1, .inr (.inl (vp_updL f 0 w.toInt64))))) := gm_astl_of (k := 0) hM1 rfl (by decide) (by decide) hN1
  exact (gm_x_pure iLaudit_6 rfl).trans ((gm_x_heap iLaudit_7 rfl (show gm_heap N0 ra_nm _ .lastore _ _ (.long w.toInt64 :: .int 0 :: .ref out :: []) M1 sz1 = some (8, [some (.ref x), some (.ref out), none], [], gm_set M1 out (.inl (.long, 1, .inr (.inl (vp_updL f 0 w.toInt64)))), sz1, 0) by simp only [gm_heap, hs, Option.map_some])).trans ((gm_x_pure iLaudit_8 rfl).trans ((gm_x_pure iLaudit_14 rfl).trans (gm_x_end iLaudit_15 rfl rfl rfl rfl))))
theorem gm_wrh_audit_11 {N0 : Nat} {K : Nat → Nat} {x out q : Nat} {M1 : gm_H} {sz1 d1 : Nat} : gm_exec N0 ra_nm (some .int) (gm_I cL_audit) (gm_lkf (lkL false K)) (fun _ _ _ => none) (fun _ _ _ _ => none) 4 11 [some (.ref x), some (.ref out), none] [.ref q] M1 sz1 d1 = some (.returned (some (.int 1)), M1, sz1, d1) := by
  exact (gm_x_pure iLaudit_11 rfl).trans ((gm_x_pure iLaudit_12 rfl).trans (gm_x_end iLaudit_13 rfl rfl rfl rfl))
set_option maxRecDepth 4096 in
theorem wr_audit (E : gm_env l D vwCl AC N0 ra_Tg ra_Ns ra_As (ra_Zs K) (ra_Ss K) ra_nm (ra_mt K) K bIx nIx) (hlt : l.stackTraces = false) {d : Nat} (hd2 : 2 ≤ d) : ∀ n av M sz v M' sz' dd, gm_lawC N0 K ra_nm (ra_mt K) d 10 ra_wt n 1002 av M sz = some (.returned v, M', sz', dd) → vx_Met l yL_audit (Cond.codeWith yL_audit cL_audit 3 (some .int) [(0, 8, 11, 17)] :: ra_Tg) (gm_room (d + 1) (sz' - sz) dd) (va_Pc av (gm_PreT D vwCl AC N0 ra_Ns ra_As (ra_Zs K) (ra_Ss K) ra_Xs ra_Cs M sz)) (gm_Qc D vwCl AC N0 v M' sz') (fun _ _ _ => False) (sz' - sz) dd (fun q => N0 ≤ q) := by
  intro n av M sz v M' sz' dd h
  obtain ⟨hpool, hconsts, hcalls⟩ := gm_all (lLf K)
  unfold gm_lawC at h
  split at h
  · rename_i h1; cases h1
  · rename_i x out h1
    cases h1
    refine gm_lawB_met (Xs := ra_Xs) (Cs := ra_Cs) (na := 0) (is := []) (nL := 3) (k0 := 3) (pc0 := 3) (n1 := 6) (n2 := 4) (ls0 := [some (.ref x), some (.ref out), none]) (I := gm_I cL_audit) E hlt (by decide +kernel) rfl (fun _ _ h => gm_I_dec h) hpool hconsts hcalls hd2 (by decide) (Nat.le_of_ble_eq_true rfl) ?_ iLaudit_3 rfl rfl ?_ (own1 := RX11) rfl (th_audit K) w_79 (by decide) (by decide) (by decide +kernel) w_1036 w_1037 rfl w_1038 ?_ h
    · simp only [gm_pn, iLaudit_0, iLaudit_1, iLaudit_2]; rfl
    · intro w M1 sz1 d1 f hM1 hN1
      exact gm_wrt_audit hM1 hN1
    · intro e k hk
      split at hk
      · cases hk
        exact ⟨"java/lang/IllegalStateException", [], (⟨0, 8, 11, 17⟩ : ExceptionTableEntry), [], rfl, rfl, fun _ h => absurd h List.not_mem_nil, by decide, by decide, w_602, by decide, fun q M1 sz1 d1 => gm_wrh_audit_11⟩
      · cases hk
  · rename_i h1; cases h1
  · cases h
theorem gm_wrt_worth {N0 : Nat} {K : Nat → Nat} {x out : Nat} {w : Int32} {M1 : gm_H} {sz1 d1 : Nat} {f : Nat → Int64} (hM1 : M1 out = some (.inl (.long, 1, .inr (.inl f)))) (hN1 : N0 ≤ out) : gm_exec N0 ra_nm (some .int) (gm_I cL_worth) (gm_lkf (lkL false K)) (fun _ _ _ => none) (fun _ _ _ _ => none) 6 (3 + 3) [some (.ref x), some (.ref out), none] [.int w, .int 0, .ref out] M1 sz1 d1 = some (.returned (some (.int 0)), gm_set M1 out (.inl (.long, 1, .inr (.inl (vp_updL f 0 w.toInt64)))), sz1, d1) := by
  have hs : gm_astl N0 M1 out 0 w.toInt64 = some (gm_set M1 out (.inl (.long, 1, .inr (.inl (vp_updL f 0 w.toInt64))))) := gm_astl_of (k := 0) hM1 rfl (by decide) (by decide) hN1
  exact (gm_x_pure iLworth_6 rfl).trans ((gm_x_heap iLworth_7 rfl (show gm_heap N0 ra_nm _ .lastore _ _ (.long w.toInt64 :: .int 0 :: .ref out :: []) M1 sz1 = some (8, [some (.ref x), some (.ref out), none], [], gm_set M1 out (.inl (.long, 1, .inr (.inl (vp_updL f 0 w.toInt64)))), sz1, 0) by simp only [gm_heap, hs, Option.map_some])).trans ((gm_x_pure iLworth_8 rfl).trans ((gm_x_pure iLworth_17 rfl).trans (gm_x_end iLworth_18 rfl rfl rfl rfl))))
theorem gm_wrh_worth_11 {N0 : Nat} {K : Nat → Nat} {x out q : Nat} {M1 : gm_H} {sz1 d1 : Nat} : gm_exec N0 ra_nm (some .int) (gm_I cL_worth) (gm_lkf (lkL false K)) (fun _ _ _ => none) (fun _ _ _ _ => none) 4 11 [some (.ref x), some (.ref out), none] [.ref q] M1 sz1 d1 = some (.returned (some (.int 1)), M1, sz1, d1) := by
  exact (gm_x_pure iLworth_11 rfl).trans ((gm_x_pure iLworth_12 rfl).trans (gm_x_end iLworth_13 rfl rfl rfl rfl))
theorem gm_wrh_worth_14 {N0 : Nat} {K : Nat → Nat} {x out q : Nat} {M1 : gm_H} {sz1 d1 : Nat} : gm_exec N0 ra_nm (some .int) (gm_I cL_worth) (gm_lkf (lkL false K)) (fun _ _ _ => none) (fun _ _ _ _ => none) 4 14 [some (.ref x), some (.ref out), none] [.ref q] M1 sz1 d1 = some (.returned (some (.int 2)), M1, sz1, d1) := by
  exact (gm_x_pure iLworth_14 rfl).trans ((gm_x_pure iLworth_15 rfl).trans (gm_x_end iLworth_16 rfl rfl rfl rfl))
set_option maxRecDepth 4096 in
theorem wr_worth (E : gm_env l D vwCl AC N0 ra_Tg ra_Ns ra_As (ra_Zs K) (ra_Ss K) ra_nm (ra_mt K) K bIx nIx) (hlt : l.stackTraces = false) {d : Nat} (hd2 : 2 ≤ d) : ∀ n av M sz v M' sz' dd, gm_lawC N0 K ra_nm (ra_mt K) d 10 ra_wt n 1003 av M sz = some (.returned v, M', sz', dd) → vx_Met l yL_worth (Cond.codeWith yL_worth cL_worth 3 (some .int) [(0, 8, 11, 17), (0, 8, 14, 15)] :: ra_Tg) (gm_room (d + 1) (sz' - sz) dd) (va_Pc av (gm_PreT D vwCl AC N0 ra_Ns ra_As (ra_Zs K) (ra_Ss K) ra_Xs ra_Cs M sz)) (gm_Qc D vwCl AC N0 v M' sz') (fun _ _ _ => False) (sz' - sz) dd (fun q => N0 ≤ q) := by
  intro n av M sz v M' sz' dd h
  obtain ⟨hpool, hconsts, hcalls⟩ := gm_all (lLf K)
  unfold gm_lawC at h
  split at h
  · rename_i h1; cases h1
  · rename_i x out h1
    cases h1
    refine gm_lawB_met (Xs := ra_Xs) (Cs := ra_Cs) (na := 0) (is := []) (nL := 3) (k0 := 3) (pc0 := 3) (n1 := 6) (n2 := 4) (ls0 := [some (.ref x), some (.ref out), none]) (I := gm_I cL_worth) E hlt (by decide +kernel) rfl (fun _ _ h => gm_I_dec h) hpool hconsts hcalls hd2 (by decide) (Nat.le_of_ble_eq_true rfl) ?_ iLworth_3 rfl rfl ?_ (own1 := RX11) rfl (th_worth K) w_79 (by decide) (by decide) (by decide +kernel) w_1078 w_1079 rfl w_1080 ?_ h
    · simp only [gm_pn, iLworth_0, iLworth_1, iLworth_2]; rfl
    · intro w M1 sz1 d1 f hM1 hN1
      exact gm_wrt_worth hM1 hN1
    · intro e k hk
      split at hk
      · cases hk
        exact ⟨"java/lang/IllegalStateException", [], (⟨0, 8, 11, 17⟩ : ExceptionTableEntry), [(⟨0, 8, 14, 15⟩ : ExceptionTableEntry)], rfl, rfl, fun _ h => absurd h List.not_mem_nil, by decide, by decide, w_602, by decide, fun q M1 sz1 d1 => gm_wrh_worth_11⟩
      · cases hk
        exact ⟨"java/lang/UnsupportedOperationException", [(⟨0, 8, 11, 17⟩ : ExceptionTableEntry)], (⟨0, 8, 14, 15⟩ : ExceptionTableEntry), [], rfl, rfl, List.forall_mem_cons.mpr ⟨⟨by decide, _, w_602, by decide⟩, fun _ h => absurd h List.not_mem_nil⟩, by decide, by decide, w_601, by decide, fun q M1 sz1 d1 => gm_wrh_worth_14⟩
      · cases hk
  · rename_i h1; cases h1
  · cases h
theorem gm_wrt_best {N0 : Nat} {K : Nat → Nat} {x out : Nat} {w : Int32} {M1 : gm_H} {sz1 d1 : Nat} {f : Nat → Int64} (hM1 : M1 out = some (.inl (.long, 1, .inr (.inl f)))) (hN1 : N0 ≤ out) : gm_exec N0 ra_nm (some .int) (gm_I cL_best) (gm_lkf (lkL false K)) (fun _ _ _ => none) (fun _ _ _ _ => none) 6 (3 + 3) [some (.ref x), some (.ref out), none] [.int w, .int 0, .ref out] M1 sz1 d1 = some (.returned (some (.int 0)), gm_set M1 out (.inl (.long, 1, .inr (.inl (vp_updL f 0 w.toInt64)))), sz1, d1) := by
  have hs : gm_astl N0 M1 out 0 w.toInt64 = some (gm_set M1 out (.inl (.long, 1, .inr (.inl (vp_updL f 0 w.toInt64))))) := gm_astl_of (k := 0) hM1 rfl (by decide) (by decide) hN1
  exact (gm_x_pure iLbest_6 rfl).trans ((gm_x_heap iLbest_7 rfl (show gm_heap N0 ra_nm _ .lastore _ _ (.long w.toInt64 :: .int 0 :: .ref out :: []) M1 sz1 = some (8, [some (.ref x), some (.ref out), none], [], gm_set M1 out (.inl (.long, 1, .inr (.inl (vp_updL f 0 w.toInt64)))), sz1, 0) by simp only [gm_heap, hs, Option.map_some])).trans ((gm_x_pure iLbest_8 rfl).trans ((gm_x_pure iLbest_20 rfl).trans (gm_x_end iLbest_21 rfl rfl rfl rfl))))
theorem gm_wrh_best_11 {N0 : Nat} {K : Nat → Nat} {x out q : Nat} {M1 : gm_H} {sz1 d1 : Nat} : gm_exec N0 ra_nm (some .int) (gm_I cL_best) (gm_lkf (lkL false K)) (fun _ _ _ => none) (fun _ _ _ _ => none) 4 11 [some (.ref x), some (.ref out), none] [.ref q] M1 sz1 d1 = some (.returned (some (.int 1)), M1, sz1, d1) := by
  exact (gm_x_pure iLbest_11 rfl).trans ((gm_x_pure iLbest_12 rfl).trans (gm_x_end iLbest_13 rfl rfl rfl rfl))
theorem gm_wrh_best_14 {N0 : Nat} {K : Nat → Nat} {x out q : Nat} {M1 : gm_H} {sz1 d1 : Nat} : gm_exec N0 ra_nm (some .int) (gm_I cL_best) (gm_lkf (lkL false K)) (fun _ _ _ => none) (fun _ _ _ _ => none) 4 14 [some (.ref x), some (.ref out), none] [.ref q] M1 sz1 d1 = some (.returned (some (.int 2)), M1, sz1, d1) := by
  exact (gm_x_pure iLbest_14 rfl).trans ((gm_x_pure iLbest_15 rfl).trans (gm_x_end iLbest_16 rfl rfl rfl rfl))
theorem gm_wrh_best_17 {N0 : Nat} {K : Nat → Nat} {x out q : Nat} {M1 : gm_H} {sz1 d1 : Nat} : gm_exec N0 ra_nm (some .int) (gm_I cL_best) (gm_lkf (lkL false K)) (fun _ _ _ => none) (fun _ _ _ _ => none) 4 17 [some (.ref x), some (.ref out), none] [.ref q] M1 sz1 d1 = some (.returned (some (.int 3)), M1, sz1, d1) := by
  exact (gm_x_pure iLbest_17 rfl).trans ((gm_x_pure iLbest_18 rfl).trans (gm_x_end iLbest_19 rfl rfl rfl rfl))
set_option maxRecDepth 4096 in
theorem wr_best (E : gm_env l D vwCl AC N0 ra_Tg ra_Ns ra_As (ra_Zs K) (ra_Ss K) ra_nm (ra_mt K) K bIx nIx) (hlt : l.stackTraces = false) {d : Nat} (hd2 : 2 ≤ d) : ∀ n av M sz v M' sz' dd, gm_lawC N0 K ra_nm (ra_mt K) d 10 ra_wt n 1004 av M sz = some (.returned v, M', sz', dd) → vx_Met l yL_best (Cond.codeWith yL_best cL_best 3 (some .int) [(0, 8, 11, 17), (0, 8, 14, 15), (0, 8, 17, 34)] :: ra_Tg) (gm_room (d + 1) (sz' - sz) dd) (va_Pc av (gm_PreT D vwCl AC N0 ra_Ns ra_As (ra_Zs K) (ra_Ss K) ra_Xs ra_Cs M sz)) (gm_Qc D vwCl AC N0 v M' sz') (fun _ _ _ => False) (sz' - sz) dd (fun q => N0 ≤ q) := by
  intro n av M sz v M' sz' dd h
  obtain ⟨hpool, hconsts, hcalls⟩ := gm_all (lLf K)
  unfold gm_lawC at h
  split at h
  · rename_i h1; cases h1
  · rename_i x out h1
    cases h1
    refine gm_lawB_met (Xs := ra_Xs) (Cs := ra_Cs) (na := 0) (is := []) (nL := 3) (k0 := 3) (pc0 := 3) (n1 := 6) (n2 := 4) (ls0 := [some (.ref x), some (.ref out), none]) (I := gm_I cL_best) E hlt (by decide +kernel) rfl (fun _ _ h => gm_I_dec h) hpool hconsts hcalls hd2 (by decide) (Nat.le_of_ble_eq_true rfl) ?_ iLbest_3 rfl rfl ?_ (own1 := RX11) rfl (th_best K) w_79 (by decide) (by decide) (by decide +kernel) w_1090 w_1091 rfl w_1092 ?_ h
    · simp only [gm_pn, iLbest_0, iLbest_1, iLbest_2]; rfl
    · intro w M1 sz1 d1 f hM1 hN1
      exact gm_wrt_best hM1 hN1
    · intro e k hk
      split at hk
      · cases hk
        exact ⟨"java/lang/IllegalStateException", [], (⟨0, 8, 11, 17⟩ : ExceptionTableEntry), [(⟨0, 8, 14, 15⟩ : ExceptionTableEntry), (⟨0, 8, 17, 34⟩ : ExceptionTableEntry)], rfl, rfl, fun _ h => absurd h List.not_mem_nil, by decide, by decide, w_602, by decide, fun q M1 sz1 d1 => gm_wrh_best_11⟩
      · cases hk
        exact ⟨"java/lang/UnsupportedOperationException", [(⟨0, 8, 11, 17⟩ : ExceptionTableEntry)], (⟨0, 8, 14, 15⟩ : ExceptionTableEntry), [(⟨0, 8, 17, 34⟩ : ExceptionTableEntry)], rfl, rfl, List.forall_mem_cons.mpr ⟨⟨by decide, _, w_602, by decide⟩, fun _ h => absurd h List.not_mem_nil⟩, by decide, by decide, w_601, by decide, fun q M1 sz1 d1 => gm_wrh_best_14⟩
      · cases hk
        exact ⟨"java/util/NoSuchElementException", [(⟨0, 8, 11, 17⟩ : ExceptionTableEntry), (⟨0, 8, 14, 15⟩ : ExceptionTableEntry)], (⟨0, 8, 17, 34⟩ : ExceptionTableEntry), [], rfl, rfl, List.forall_mem_cons.mpr ⟨⟨by decide, _, w_602, by decide⟩, List.forall_mem_cons.mpr ⟨⟨by decide, _, w_601, by decide⟩, fun _ h => absurd h List.not_mem_nil⟩⟩, by decide, by decide, w_1089, by decide, fun q M1 sz1 d1 => gm_wrh_best_17⟩
      · cases hk
  · rename_i h1; cases h1
  · cases h
end LWR
