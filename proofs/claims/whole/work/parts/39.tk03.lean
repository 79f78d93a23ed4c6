theorem TX3_isIdle_0 {N0 : Nat} {K : Nat → Nat} {d C : Nat} {s : cS} {G : gm_H} {sz sl : Nat} {Q : Int32 → Prop} (hN : N0 ≤ C) (h : ((s.2.2 80 = none) ∧ (Q (1 : Int32))) ∨ (∃ r2 : Nat, (s.2.2 80 = some r2) ∧ (Q (0 : Int32)))) : hX3_isIdle_0 N0 K d C s G sz sl Q := by
  rcases h with ⟨h1, h⟩ | ⟨r2, h1, h⟩
  · exact ⟨_, _, _, _, t_X3_isIdle_0_n hN h1, _, _, rfl, rfl, rfl, rfl, rfl, h⟩
  · exact ⟨_, _, _, _, t_X3_isIdle_0_r hN h1, _, _, rfl, rfl, rfl, rfl, rfl, h⟩
theorem kX3_isIdle.of {N0 : Nat} {K : Nat → Nat} {d C : Nat} {s : cS} {G : gm_H} {sz : Nat} {Q : Int32 → Prop} (h : hX3_isIdle_0 N0 K d C s G sz 0 Q) : kX3_isIdle N0 K (d + 1) C s G sz Q := gC.of rfl (by decide) (Nat.le_of_ble_eq_true rfl) rfl h
theorem TX3_take_0 {N0 : Nat} {K : Nat → Nat} {d C : Nat} {p0 : Nat} {s : cS} {G : gm_H} {sz sl : Nat} {Q : Int32 → cS → Prop} (hN : N0 ≤ C) (h : kX10_clear_s N0 K d C (C + 23) s G sz (fun _ s1 => kX2_begin N0 K d C p0 s1 G sz (fun r4 s4 => if r4 = 0 then (((s4.2.2 80 = none) ∧ (Q (0 : Int32) s4)) ∨ (∃ r8 : Nat, (s4.2.2 80 = some r8) ∧ (kX2_begin N0 K d C r8 s4 G sz (fun r10 s10 => kX3_look N0 K d C (C + 21) s10 G sz (fun r13 s13 => Q (0 : Int32) s13))))) else (kX2_inState N0 K d C (C + 23) s4 G sz (fun r8 s8 => if r8 = 0 then (((s8.2.2 80 = none) ∧ (Q (0 : Int32) s8)) ∨ (∃ r12 : Nat, (s8.2.2 80 = some r12) ∧ (kX2_begin N0 K d C r12 s8 G sz (fun r14 s14 => kX3_look N0 K d C (C + 21) s14 G sz (fun r17 s17 => Q (0 : Int32) s17))))) else (kX10_collect_s N0 K d C (C + 23) (C + 6) (1 : Int32) s8 G sz (fun r12 s12 => if r12 = 0 then (((s12.2.2 80 = none) ∧ (Q (0 : Int32) s12)) ∨ (∃ r16 : Nat, (s12.2.2 80 = some r16) ∧ (kX2_begin N0 K d C r16 s12 G sz (fun r18 s18 => kX3_look N0 K d C (C + 21) s18 G sz (fun r21 s21 => Q (0 : Int32) s21))))) else (kX2_inState N0 K d C (C + 23) s12 G sz (fun r16 s16 => if r16 = 0 then (((s16.2.2 80 = none) ∧ (Q (0 : Int32) s16)) ∨ (∃ r20 : Nat, (s16.2.2 80 = some r20) ∧ (kX2_begin N0 K d C r20 s16 G sz (fun r22 s22 => kX3_look N0 K d C (C + 21) s22 G sz (fun r25 s25 => Q (0 : Int32) s25))))) else (kX10_copy_s N0 K d C (C + 19) (C + 23) (cR s16 80 (some p0)) G sz (fun _ s19 => kX10_copy_s N0 K d C (C + 21) (C + 23) s19 G sz (fun _ s21 => kX10_collect_s N0 K d C (C + 17) (C + 6) (0 : Int32) s21 G sz (fun r24 s24 => kX3_seeMoves N0 K d C s24 G sz (fun _ s26 => Q (1 : Int32) s26)))))))))))))) : hX3_take_0 N0 K d C p0 s G sz sl Q := by
  obtain ⟨_, _, z_, d_, t1, s1, G_, rfl, e2_, e3_, e4_, h⟩ := h
  rw [e2_, e3_, e4_] at t1
  obtain ⟨r4, _, z_, d_, t4, s4, G_, rfl, e2_, e3_, e4_, h⟩ := h
  rw [e2_, e3_, e4_] at t4
  by_cases c6 : r4 = 0
  · rw [if_pos c6] at h
    rcases h with ⟨h7, h⟩ | ⟨r8, h7, h⟩
    · exact ⟨_, _, _, _, t_X3_take_0_tn hN t1 t4 c6 h7, _, _, rfl, rfl, rfl, rfl, h⟩
    · obtain ⟨r10, _, z_, d_, t10, s10, G_, rfl, e2_, e3_, e4_, h⟩ := h
      rw [e2_, e3_, e4_] at t10
      obtain ⟨r13, _, z_, d_, t13, s13, G_, rfl, e2_, e3_, e4_, h⟩ := h
      rw [e2_, e3_, e4_] at t13
      exact ⟨_, _, _, _, t_X3_take_0_tr hN t1 t4 c6 h7 t10 t13, _, _, rfl, rfl, rfl, rfl, h⟩
  · rw [if_neg c6] at h
    obtain ⟨r8, _, z_, d_, t8, s8, G_, rfl, e2_, e3_, e4_, h⟩ := h
    rw [e2_, e3_, e4_] at t8
    by_cases c10 : r8 = 0
    · rw [if_pos c10] at h
      rcases h with ⟨h11, h⟩ | ⟨r12, h11, h⟩
      · exact ⟨_, _, _, _, t_X3_take_0_ftn hN t1 t4 c6 t8 c10 h11, _, _, rfl, rfl, rfl, rfl, h⟩
      · obtain ⟨r14, _, z_, d_, t14, s14, G_, rfl, e2_, e3_, e4_, h⟩ := h
        rw [e2_, e3_, e4_] at t14
        obtain ⟨r17, _, z_, d_, t17, s17, G_, rfl, e2_, e3_, e4_, h⟩ := h
        rw [e2_, e3_, e4_] at t17
        exact ⟨_, _, _, _, t_X3_take_0_ftr hN t1 t4 c6 t8 c10 h11 t14 t17, _, _, rfl, rfl, rfl, rfl, h⟩
    · rw [if_neg c10] at h
      obtain ⟨r12, _, z_, d_, t12, s12, G_, rfl, e2_, e3_, e4_, h⟩ := h
      rw [e2_, e3_, e4_] at t12
      by_cases c14 : r12 = 0
      · rw [if_pos c14] at h
        rcases h with ⟨h15, h⟩ | ⟨r16, h15, h⟩
        · exact ⟨_, _, _, _, t_X3_take_0_fftn hN t1 t4 c6 t8 c10 t12 c14 h15, _, _, rfl, rfl, rfl, rfl, h⟩
        · obtain ⟨r18, _, z_, d_, t18, s18, G_, rfl, e2_, e3_, e4_, h⟩ := h
          rw [e2_, e3_, e4_] at t18
          obtain ⟨r21, _, z_, d_, t21, s21, G_, rfl, e2_, e3_, e4_, h⟩ := h
          rw [e2_, e3_, e4_] at t21
          exact ⟨_, _, _, _, t_X3_take_0_fftr hN t1 t4 c6 t8 c10 t12 c14 h15 t18 t21, _, _, rfl, rfl, rfl, rfl, h⟩
      · rw [if_neg c14] at h
        obtain ⟨r16, _, z_, d_, t16, s16, G_, rfl, e2_, e3_, e4_, h⟩ := h
        rw [e2_, e3_, e4_] at t16
        by_cases c18 : r16 = 0
        · rw [if_pos c18] at h
          rcases h with ⟨h19, h⟩ | ⟨r20, h19, h⟩
          · exact ⟨_, _, _, _, t_X3_take_0_ffftn hN t1 t4 c6 t8 c10 t12 c14 t16 c18 h19, _, _, rfl, rfl, rfl, rfl, h⟩
          · obtain ⟨r22, _, z_, d_, t22, s22, G_, rfl, e2_, e3_, e4_, h⟩ := h
            rw [e2_, e3_, e4_] at t22
            obtain ⟨r25, _, z_, d_, t25, s25, G_, rfl, e2_, e3_, e4_, h⟩ := h
            rw [e2_, e3_, e4_] at t25
            exact ⟨_, _, _, _, t_X3_take_0_ffftr hN t1 t4 c6 t8 c10 t12 c14 t16 c18 h19 t22 t25, _, _, rfl, rfl, rfl, rfl, h⟩
        · rw [if_neg c18] at h
          obtain ⟨_, _, z_, d_, t19, s19, G_, rfl, e2_, e3_, e4_, h⟩ := h
          rw [e2_, e3_, e4_] at t19
          obtain ⟨_, _, z_, d_, t21, s21, G_, rfl, e2_, e3_, e4_, h⟩ := h
          rw [e2_, e3_, e4_] at t21
          obtain ⟨r24, _, z_, d_, t24, s24, G_, rfl, e2_, e3_, e4_, h⟩ := h
          rw [e2_, e3_, e4_] at t24
          obtain ⟨_, _, z_, d_, t26, s26, G_, rfl, e2_, e3_, e4_, h⟩ := h
          rw [e2_, e3_, e4_] at t26
          exact ⟨_, _, _, _, t_X3_take_0_ffff hN t1 t4 c6 t8 c10 t12 c14 t16 c18 t19 t21 t24 t26, _, _, rfl, rfl, rfl, rfl, h⟩
theorem kX3_take.of {N0 : Nat} {K : Nat → Nat} {d C : Nat} {p0 : Nat} {s : cS} {G : gm_H} {sz : Nat} {Q : Int32 → cS → Prop} (h : hX3_take_0 N0 K d C p0 s G sz 0 Q) : kX3_take N0 K (d + 1) C p0 s G sz Q := gC.of rfl (by decide) (Nat.le_of_ble_eq_true rfl) rfl h
theorem TX3_look_0 {N0 : Nat} {K : Nat → Nat} {d C : Nat} {p0 : Nat} {s : cS} {G : gm_H} {sz sl : Nat} {Q : Int32 → cS → Prop} (hN : N0 ≤ C) (h : kX2_inState N0 K d C p0 s G sz (fun r2 s2 => if r2 = 0 then (Q (0 : Int32) s2) else (kX3_seeMoves N0 K d C s2 G sz (fun _ s5 => Q (1 : Int32) s5)))) : hX3_look_0 N0 K d C p0 s G sz sl Q := by
  obtain ⟨r2, _, z_, d_, t2, s2, G_, rfl, e2_, e3_, e4_, h⟩ := h
  rw [e2_, e3_, e4_] at t2
  by_cases c4 : r2 = 0
  · rw [if_pos c4] at h
    exact ⟨_, _, _, _, t_X3_look_0_f hN t2 c4, _, _, rfl, rfl, rfl, rfl, h⟩
  · rw [if_neg c4] at h
    obtain ⟨_, _, z_, d_, t5, s5, G_, rfl, e2_, e3_, e4_, h⟩ := h
    rw [e2_, e3_, e4_] at t5
    exact ⟨_, _, _, _, t_X3_look_0_t hN t2 c4 t5, _, _, rfl, rfl, rfl, rfl, h⟩
theorem kX3_look.of {N0 : Nat} {K : Nat → Nat} {d C : Nat} {p0 : Nat} {s : cS} {G : gm_H} {sz : Nat} {Q : Int32 → cS → Prop} (h : hX3_look_0 N0 K d C p0 s G sz 0 Q) : kX3_look N0 K (d + 1) C p0 s G sz Q := gC.of rfl (by decide) (Nat.le_of_ble_eq_true rfl) rfl h
theorem TX3_seeMoves_0 {N0 : Nat} {K : Nat → Nat} {d C : Nat} {s : cS} {G : gm_H} {sz sl : Nat} {Q : Unit → cS → Prop} (hN : N0 ≤ C) (h : if (s.2.1 13 7) ≤ 0 then (kX10_at N0 K d C (C + 17) (0 : Int32) (cI s 88 (0 : Int32)) G sz (fun r4 => kX10_collectMoves_s N0 K d C (C + 25) (C + 6) r4 (cI s 88 (0 : Int32)) G sz (fun _ s5 => kX10_at N0 K d C (C + 17) (1 : Int32) s5 G sz (fun r8 => kX10_collectMoves_s N0 K d C (C + 27) (C + 6) r8 s5 G sz (fun _ s9 => Q () s9))))) else (kX10_at N0 K d C (C + 17) (0 : Int32) (cI s 88 (1 : Int32)) G sz (fun r4 => kX10_collectMoves_s N0 K d C (C + 25) (C + 6) r4 (cI s 88 (1 : Int32)) G sz (fun _ s5 => kX10_at N0 K d C (C + 17) (1 : Int32) s5 G sz (fun r8 => kX10_collectMoves_s N0 K d C (C + 27) (C + 6) r8 s5 G sz (fun _ s9 => Q () s9)))))) : hX3_seeMoves_0 N0 K d C s G sz sl Q := by
  by_cases c2 : (s.2.1 13 7) ≤ 0
  · rw [if_pos c2] at h
    obtain ⟨r4, _, z_, d_, t4, s_, G_, rfl, e1_, e2_, e3_, e4_, h⟩ := h
    rw [e1_, e2_, e3_, e4_] at t4
    obtain ⟨_, _, z_, d_, t5, s5, G_, rfl, e2_, e3_, e4_, h⟩ := h
    rw [e2_, e3_, e4_] at t5
    obtain ⟨r8, _, z_, d_, t8, s_, G_, rfl, e1_, e2_, e3_, e4_, h⟩ := h
    rw [e1_, e2_, e3_, e4_] at t8
    obtain ⟨_, _, z_, d_, t9, s9, G_, rfl, e2_, e3_, e4_, h⟩ := h
    rw [e2_, e3_, e4_] at t9
    exact ⟨_, _, _, _, t_X3_seeMoves_0_t hN rfl (by decide) c2 t4 t5 t8 t9, _, _, rfl, rfl, rfl, rfl, h⟩
  · rw [if_neg c2] at h
    obtain ⟨r4, _, z_, d_, t4, s_, G_, rfl, e1_, e2_, e3_, e4_, h⟩ := h
    rw [e1_, e2_, e3_, e4_] at t4
    obtain ⟨_, _, z_, d_, t5, s5, G_, rfl, e2_, e3_, e4_, h⟩ := h
    rw [e2_, e3_, e4_] at t5
    obtain ⟨r8, _, z_, d_, t8, s_, G_, rfl, e1_, e2_, e3_, e4_, h⟩ := h
    rw [e1_, e2_, e3_, e4_] at t8
    obtain ⟨_, _, z_, d_, t9, s9, G_, rfl, e2_, e3_, e4_, h⟩ := h
    rw [e2_, e3_, e4_] at t9
    exact ⟨_, _, _, _, t_X3_seeMoves_0_f hN rfl (by decide) c2 t4 t5 t8 t9, _, _, rfl, rfl, rfl, rfl, h⟩
theorem kX3_seeMoves.of {N0 : Nat} {K : Nat → Nat} {d C : Nat} {s : cS} {G : gm_H} {sz : Nat} {Q : Unit → cS → Prop} (h : hX3_seeMoves_0 N0 K d C s G sz 0 Q) : kX3_seeMoves N0 K (d + 1) C s G sz Q := gC.of rfl (by decide) (Nat.le_of_ble_eq_true rfl) rfl h
theorem TX3_goBack_0 {N0 : Nat} {K : Nat → Nat} {d C : Nat} {s : cS} {G : gm_H} {sz sl : Nat} {Q : Unit → cS → Prop} (hN : N0 ≤ C) (h : kX10_copy_s N0 K d C (C + 21) (C + 19) s G sz (fun _ s1 => kX3_look N0 K d C (C + 21) s1 G sz (fun r4 s4 => Q () s4))) : hX3_goBack_0 N0 K d C s G sz sl Q := by
  obtain ⟨_, _, z_, d_, t1, s1, G_, rfl, e2_, e3_, e4_, h⟩ := h
  rw [e2_, e3_, e4_] at t1
  obtain ⟨r4, _, z_, d_, t4, s4, G_, rfl, e2_, e3_, e4_, h⟩ := h
  rw [e2_, e3_, e4_] at t4
  exact ⟨_, _, _, _, t_X3_goBack_0_ hN t1 t4, _, _, rfl, rfl, rfl, rfl, h⟩
theorem kX3_goBack.of {N0 : Nat} {K : Nat → Nat} {d C : Nat} {s : cS} {G : gm_H} {sz : Nat} {Q : Unit → cS → Prop} (h : hX3_goBack_0 N0 K d C s G sz 0 Q) : kX3_goBack N0 K (d + 1) C s G sz Q := gC.of rfl (by decide) (Nat.le_of_ble_eq_true rfl) rfl h
theorem TX3_lead_0 {N0 : Nat} {K : Nat → Nat} {d C : Nat} {p0 : Int32} {p1 : Int32} {s : cS} {G : gm_H} {sz sl : Nat} {Q : Int32 → cS → Prop} (hN : N0 ≤ C) (h : kX10_at N0 K d C (C + 17) (0 : Int32) s G sz (fun r2 => kX10_at N0 K d C (C + 25) p0 s G sz (fun r4 => kX10_at N0 K d C (C + 17) (1 : Int32) s G sz (fun r6 => kX10_at N0 K d C (C + 27) p1 s G sz (fun r8 => kX2_byMove N0 K d C r2 r4 r6 r8 s G sz (fun r10 s10 => if r10 = 0 then (Q (0 : Int32) s10) else (kX10_collect_s N0 K d C (C + 23) (C + 6) (3 : Int32) s10 G sz (fun r14 s14 => if r14 = 0 then (Q (0 : Int32) s14) else (Q (1 : Int32) s14))))))))) : hX3_lead_0 N0 K d C p0 p1 s G sz sl Q := by
  obtain ⟨r2, _, z_, d_, t2, s_, G_, rfl, e1_, e2_, e3_, e4_, h⟩ := h
  rw [e1_, e2_, e3_, e4_] at t2
  obtain ⟨r4, _, z_, d_, t4, s_, G_, rfl, e1_, e2_, e3_, e4_, h⟩ := h
  rw [e1_, e2_, e3_, e4_] at t4
  obtain ⟨r6, _, z_, d_, t6, s_, G_, rfl, e1_, e2_, e3_, e4_, h⟩ := h
  rw [e1_, e2_, e3_, e4_] at t6
  obtain ⟨r8, _, z_, d_, t8, s_, G_, rfl, e1_, e2_, e3_, e4_, h⟩ := h
  rw [e1_, e2_, e3_, e4_] at t8
  obtain ⟨r10, _, z_, d_, t10, s10, G_, rfl, e2_, e3_, e4_, h⟩ := h
  rw [e2_, e3_, e4_] at t10
  by_cases c12 : r10 = 0
  · rw [if_pos c12] at h
    exact ⟨_, _, _, _, t_X3_lead_0_t hN t2 t4 t6 t8 t10 c12, _, _, rfl, rfl, rfl, rfl, h⟩
  · rw [if_neg c12] at h
    obtain ⟨r14, _, z_, d_, t14, s14, G_, rfl, e2_, e3_, e4_, h⟩ := h
    rw [e2_, e3_, e4_] at t14
    by_cases c16 : r14 = 0
    · rw [if_pos c16] at h
      exact ⟨_, _, _, _, t_X3_lead_0_ft hN t2 t4 t6 t8 t10 c12 t14 c16, _, _, rfl, rfl, rfl, rfl, h⟩
    · rw [if_neg c16] at h
      exact ⟨_, _, _, _, t_X3_lead_0_ff hN t2 t4 t6 t8 t10 c12 t14 c16, _, _, rfl, rfl, rfl, rfl, h⟩
theorem kX3_lead.of {N0 : Nat} {K : Nat → Nat} {d C : Nat} {p0 : Int32} {p1 : Int32} {s : cS} {G : gm_H} {sz : Nat} {Q : Int32 → cS → Prop} (h : hX3_lead_0 N0 K d C p0 p1 s G sz 0 Q) : kX3_lead N0 K (d + 1) C p0 p1 s G sz Q := gC.of rfl (by decide) (Nat.le_of_ble_eq_true rfl) rfl h
theorem TX3_advance_0 {N0 : Nat} {K : Nat → Nat} {d C : Nat} {p0 : Int32} {p1 : Int32} {s : cS} {G : gm_H} {sz sl : Nat} {Q : Int32 → cS → Prop} (hN : N0 ≤ C) (h : kX3_lead N0 K d C p0 p1 s G sz (fun r2 s2 => if r2 = 0 then (kX3_look N0 K d C (C + 21) s2 G sz (fun r6 s6 => Q (0 : Int32) s6)) else (kX3_look N0 K d C (C + 23) s2 G sz (fun r6 s6 => if r6 = 0 then (kX3_look N0 K d C (C + 21) s6 G sz (fun r10 s10 => Q (0 : Int32) s10)) else (kX10_copy_s N0 K d C (C + 21) (C + 23) s6 G sz (fun _ s9 => Q (1 : Int32) s9)))))) : hX3_advance_0 N0 K d C p0 p1 s G sz sl Q := by
  obtain ⟨r2, _, z_, d_, t2, s2, G_, rfl, e2_, e3_, e4_, h⟩ := h
  rw [e2_, e3_, e4_] at t2
  by_cases c4 : r2 = 0
  · rw [if_pos c4] at h
    obtain ⟨r6, _, z_, d_, t6, s6, G_, rfl, e2_, e3_, e4_, h⟩ := h
    rw [e2_, e3_, e4_] at t6
    exact ⟨_, _, _, _, t_X3_advance_0_t hN t2 c4 t6, _, _, rfl, rfl, rfl, rfl, h⟩
  · rw [if_neg c4] at h
    obtain ⟨r6, _, z_, d_, t6, s6, G_, rfl, e2_, e3_, e4_, h⟩ := h
    rw [e2_, e3_, e4_] at t6
    by_cases c8 : r6 = 0
    · rw [if_pos c8] at h
      obtain ⟨r10, _, z_, d_, t10, s10, G_, rfl, e2_, e3_, e4_, h⟩ := h
      rw [e2_, e3_, e4_] at t10
      exact ⟨_, _, _, _, t_X3_advance_0_ft hN t2 c4 t6 c8 t10, _, _, rfl, rfl, rfl, rfl, h⟩
    · rw [if_neg c8] at h
      obtain ⟨_, _, z_, d_, t9, s9, G_, rfl, e2_, e3_, e4_, h⟩ := h
      rw [e2_, e3_, e4_] at t9
      exact ⟨_, _, _, _, t_X3_advance_0_ff hN t2 c4 t6 c8 t9, _, _, rfl, rfl, rfl, rfl, h⟩
theorem kX3_advance.of {N0 : Nat} {K : Nat → Nat} {d C : Nat} {p0 : Int32} {p1 : Int32} {s : cS} {G : gm_H} {sz : Nat} {Q : Int32 → cS → Prop} (h : hX3_advance_0 N0 K d C p0 p1 s G sz 0 Q) : kX3_advance N0 K (d + 1) C p0 p1 s G sz Q := gC.of rfl (by decide) (Nat.le_of_ble_eq_true rfl) rfl h
theorem TX3_hasPlayer_0 {N0 : Nat} {K : Nat → Nat} {d C : Nat} {p0 : Int32} {s : cS} {G : gm_H} {sz sl : Nat} {Q : Int32 → Prop} (hN : N0 ≤ C) (h : if p0 < 0 then (Q (0 : Int32)) else ((0 < d) ∧ (if (if s.1 341 < (2 : Int32) then s.1 341 else (2 : Int32)) ≤ p0 then (Q (0 : Int32)) else (Q (1 : Int32))))) : hX3_hasPlayer_0 N0 K d C p0 s G sz sl Q := by
  by_cases c1 : p0 < 0
  · rw [if_pos c1] at h
    exact ⟨_, _, _, _, t_X3_hasPlayer_0_t hN c1, _, _, rfl, rfl, rfl, rfl, rfl, h⟩
  · rw [if_neg c1] at h
    obtain ⟨hd, h⟩ := h
    by_cases c4 : (if s.1 341 < (2 : Int32) then s.1 341 else (2 : Int32)) ≤ p0
    · rw [if_pos c4] at h
      exact ⟨_, _, _, _, t_X3_hasPlayer_0_ft hN c1 hd c4, _, _, rfl, rfl, rfl, rfl, rfl, h⟩
    · rw [if_neg c4] at h
      exact ⟨_, _, _, _, t_X3_hasPlayer_0_ff hN c1 hd c4, _, _, rfl, rfl, rfl, rfl, rfl, h⟩
theorem kX3_hasPlayer.of {N0 : Nat} {K : Nat → Nat} {d C : Nat} {p0 : Int32} {s : cS} {G : gm_H} {sz : Nat} {Q : Int32 → Prop} (h : hX3_hasPlayer_0 N0 K d C p0 s G sz 0 Q) : kX3_hasPlayer N0 K (d + 1) C p0 s G sz Q := gC.of rfl (by decide) (Nat.le_of_ble_eq_true rfl) rfl h
theorem TX3_movesOf_0 {N0 : Nat} {K : Nat → Nat} {d C : Nat} {p0 : Int32} {s : cS} {G : gm_H} {sz sl : Nat} {Q : Nat → Prop} (hN : N0 ≤ C) (h : if p0 = 0 then (Q (C + 25)) else (Q (C + 27))) : hX3_movesOf_0 N0 K d C p0 s G sz sl Q := by
  by_cases c1 : p0 = 0
  · rw [if_pos c1] at h
    exact ⟨_, _, _, _, t_X3_movesOf_0_f hN c1, _, _, rfl, rfl, rfl, rfl, rfl, h⟩
  · rw [if_neg c1] at h
    exact ⟨_, _, _, _, t_X3_movesOf_0_t hN c1, _, _, rfl, rfl, rfl, rfl, rfl, h⟩
theorem kX3_movesOf.of {N0 : Nat} {K : Nat → Nat} {d C : Nat} {p0 : Int32} {s : cS} {G : gm_H} {sz : Nat} {Q : Nat → Prop} (h : hX3_movesOf_0 N0 K d C p0 s G sz 0 Q) : kX3_movesOf N0 K (d + 1) C p0 s G sz Q := gC.of rfl (by decide) (Nat.le_of_ble_eq_true rfl) rfl h
theorem TX3_goalOf_0 {N0 : Nat} {K : Nat → Nat} {d C : Nat} {p0 : Int32} {s : cS} {G : gm_H} {sz sl : Nat} {Q : Int32 → Prop} (hN : N0 ≤ C) (h : hX3_goalOf_19 N0 K d C p0 (0 : Int32) (s.2.1 12 6) s G sz sl Q) : hX3_goalOf_0 N0 K d C p0 s G sz sl Q := by
  obtain ⟨r9, M9, z9, d9, e9, h⟩ := h
  exact ⟨r9, M9, z9, d9, t_X3_goalOf_0__at19 hN rfl (by decide) e9, h⟩
theorem kX3_goalOf.of {N0 : Nat} {K : Nat → Nat} {d C : Nat} {p0 : Int32} {s : cS} {G : gm_H} {sz : Nat} {Q : Int32 → Prop} (h : hX3_goalOf_0 N0 K d C p0 s G sz 0 Q) : kX3_goalOf N0 K (d + 1) C p0 s G sz Q := gC.of rfl (by decide) (Nat.le_of_ble_eq_true rfl) rfl h
theorem TX3_goalOf_19 {N0 : Nat} {K : Nat → Nat} {d C : Nat} {u1 : Int32} {u3 : Int32} {u4 : Int32} {s : cS} {G : gm_H} {sz sl : Nat} {Q : Int32 → Prop} (hN : N0 ≤ C) (h : if u4 ≤ 0 then (if (u3 &&& (2097151 : Int32)) = 0 then (if ((((u3).toUInt32 >>> (((21 : Int32)).toUInt32 &&& Int32.toUInt32 31)).toInt32) - (48 : Int32)) < 0 then (Q (-1 : Int32)) else (if (8 : Int32) < ((((u3).toUInt32 >>> (((21 : Int32)).toUInt32 &&& Int32.toUInt32 31)).toInt32) - (48 : Int32)) then (Q (-1 : Int32)) else (Q ((((u3).toUInt32 >>> (((21 : Int32)).toUInt32 &&& Int32.toUInt32 31)).toInt32) - (48 : Int32))))) else (Q (-1 : Int32))) else (∃ k2 : Nat, (u4 = nI k2) ∧ ((k2 < 201) ∧ (kX10_at N0 K d C (C + 17) u1 s G sz (fun r4 => if (s.2.1 8 k2) = r4 then (if u3 = 0 then (hX3_goalOf_19 N0 K d C u1 (s.2.1 9 k2) (s.2.1 11 k2) s G sz sl Q) else (Q (-1 : Int32))) else (hX3_goalOf_19 N0 K d C u1 u3 (s.2.1 11 k2) s G sz sl Q)))))) : hX3_goalOf_19 N0 K d C u1 u3 u4 s G sz sl Q := by
  by_cases c1 : u4 ≤ 0
  · rw [if_pos c1] at h
    by_cases c2 : (u3 &&& (2097151 : Int32)) = 0
    · rw [if_pos c2] at h
      by_cases c3 : ((((u3).toUInt32 >>> (((21 : Int32)).toUInt32 &&& Int32.toUInt32 31)).toInt32) - (48 : Int32)) < 0
      · rw [if_pos c3] at h
        exact ⟨_, _, _, _, t_X3_goalOf_19_tft hN c1 c2 c3, _, _, rfl, rfl, rfl, rfl, rfl, h⟩
      · rw [if_neg c3] at h
        by_cases c4 : (8 : Int32) < ((((u3).toUInt32 >>> (((21 : Int32)).toUInt32 &&& Int32.toUInt32 31)).toInt32) - (48 : Int32))
        · rw [if_pos c4] at h
          exact ⟨_, _, _, _, t_X3_goalOf_19_tfft hN c1 c2 c3 c4, _, _, rfl, rfl, rfl, rfl, rfl, h⟩
        · rw [if_neg c4] at h
          exact ⟨_, _, _, _, t_X3_goalOf_19_tfff hN c1 c2 c3 c4, _, _, rfl, rfl, rfl, rfl, rfl, h⟩
    · rw [if_neg c2] at h
      exact ⟨_, _, _, _, t_X3_goalOf_19_tt hN c1 c2, _, _, rfl, rfl, rfl, rfl, rfl, h⟩
  · rw [if_neg c1] at h
    obtain ⟨k2, ek2, h⟩ := h
    obtain ⟨lk2, h⟩ := h
    obtain ⟨r4, _, z_, d_, t4, s_, G_, rfl, e1_, e2_, e3_, e4_, h⟩ := h
    rw [e1_, e2_, e3_, e4_] at t4
    by_cases c5 : (s.2.1 8 k2) = r4
    · rw [if_pos c5] at h
      by_cases c6 : u3 = 0
      · rw [if_pos c6] at h
        obtain ⟨r9, M9, z9, d9, e9, h⟩ := h
        exact ⟨r9, M9, z9, d9, t_X3_goalOf_19_fft_at19 hN c1 ek2 lk2 t4 c5 c6 ek2 lk2 ek2 lk2 e9, h⟩
      · rw [if_neg c6] at h
        exact ⟨_, _, _, _, t_X3_goalOf_19_fff hN c1 ek2 lk2 t4 c5 c6, _, _, rfl, rfl, rfl, rfl, rfl, h⟩
    · rw [if_neg c5] at h
      obtain ⟨r9, M9, z9, d9, e9, h⟩ := h
      exact ⟨r9, M9, z9, d9, t_X3_goalOf_19_ft_at19 hN c1 ek2 lk2 t4 c5 ek2 lk2 e9, h⟩
theorem TX6_place_0 {N0 : Nat} {K : Nat → Nat} {d C : Nat} {s : cS} {G : gm_H} {sz sl : Nat} {Q : Int32 → Prop} (hN : N0 ≤ C) (h : Q (s.1 41)) : hX6_place_0 N0 K d C s G sz sl Q := by
  exact ⟨_, _, _, _, t_X6_place_0_ hN, _, _, rfl, rfl, rfl, rfl, rfl, h⟩
theorem kX6_place.of {N0 : Nat} {K : Nat → Nat} {d C : Nat} {s : cS} {G : gm_H} {sz : Nat} {Q : Int32 → Prop} (h : hX6_place_0 N0 K d C s G sz 0 Q) : kX6_place N0 K (d + 1) C s G sz Q := gC.of rfl (by decide) (Nat.le_of_ble_eq_true rfl) rfl h
theorem TX6_read_0 {N0 : Nat} {K : Nat → Nat} {d C : Nat} {p1 : Int32} {s : cS} {G : gm_H} {sz sl : Nat} {Q : Option Nat → cS → gm_H → Nat → Nat → Prop} (hN : N0 ≤ C) (h : ∃ k1 : Nat, (p1 = nI k1) ∧ ((k1 < 241) ∧ ((C + 34 ≤ sz) ∧ ((gm_bd G sz) ∧ (kX8_init_gz N0 K d C sz (cI (cA (cR s 40 (some (C + 1))) 1 (upd (s.2.1 1) k1 (vp_nar .char (0 : Int32)))) 41 (0 : Int32)) (gm_new G sz (.inr (8, [.null, .int 0, .null, .null, .null]))) (sz + 1) (fun _ G5 z5 d5 => hX6_read_28 N0 K d C p1 sz (0 : Int32) (cI (cA (cR s 40 (some (C + 1))) 1 (upd (s.2.1 1) k1 (vp_nar .char (0 : Int32)))) 41 (0 : Int32)) G5 z5 ((sl + 5) + d5) Q)))))) : hX6_read_0 N0 K d C p1 s G sz sl Q := by
  obtain ⟨k1, ek1, h⟩ := h
  obtain ⟨lk1, h⟩ := h
  obtain ⟨hg_sz, h⟩ := h
  obtain ⟨bd2, h⟩ := h
  obtain ⟨_, _, z5, d5, t5, s_, G5, rfl, e1_, h⟩ := h
  rw [e1_] at t5
  obtain ⟨r9, M9, z9, d9, e9, h⟩ := h
  exact ⟨r9, M9, z9, d9, t_X6_read_0__at28 hN ek1 lk1 hg_sz bd2 t5 e9, h⟩
theorem kX6_read.of {N0 : Nat} {K : Nat → Nat} {d C : Nat} {p1 : Int32} {s : cS} {G : gm_H} {sz : Nat} {Q : Option Nat → cS → gm_H → Nat → Nat → Prop} (h : hX6_read_0 N0 K d C p1 s G sz 0 Q) : kX6_read N0 K (d + 1) C p1 s G sz Q := gC.of rfl (by decide) (Nat.le_of_ble_eq_true rfl) rfl h
theorem TX6_read_28 {N0 : Nat} {K : Nat → Nat} {d C : Nat} {u2 : Int32} {a3 : Nat} {u4 : Int32} {s : cS} {G : gm_H} {sz sl : Nat} {Q : Option Nat → cS → gm_H → Nat → Nat → Prop} (hN : N0 ≤ C) (h : if (24 : Int32) ≤ u4 then (Q none s G sz sl) else (kX6_readRule N0 K d C s G sz (fun r2 s2 G2 z2 d2 => (r2 = none ∧ (Q none s2 G2 z2 (sl + d2))) ∨ (∃ a2 : Nat, r2 = some a2 ∧ (∃ fso8 : List Value, (G2 a3 = some (.inr (8, fso8))) ∧ ((C + 34 ≤ a3) ∧ (kX8_append_g N0 K d C a3 a2 s2 G2 z2 (fun _ G9 => if (s2.1 41) = u2 then (Q (some a3) s2 G9 z2 (sl + d2)) else (hX6_read_28 N0 K d C u2 a3 (u4 + (1 : Int32)) s2 G9 z2 (sl + d2) Q))))))))) : hX6_read_28 N0 K d C u2 a3 u4 s G sz sl Q := by
  by_cases c1 : (24 : Int32) ≤ u4
  · rw [if_pos c1] at h
    exact ⟨_, _, _, _, t_X6_read_28_t hN c1, _, _, rfl, h⟩
  · rw [if_neg c1] at h
    obtain ⟨r2, _, z2, d2, t2, s2, G2, rfl, h⟩ := h
    rcases h with ⟨rfl, h⟩ | ⟨a2, rfl, h⟩
    · exact ⟨_, _, _, _, t_X6_read_28_fn hN c1 t2, _, _, rfl, h⟩
    · obtain ⟨fso8, ho8, h⟩ := h
      obtain ⟨hg_a3, h⟩ := h
      obtain ⟨_, _, z_, d_, t9, s_, G9, rfl, e1_, e3_, e4_, h⟩ := h
      rw [e1_, e3_, e4_] at t9
      by_cases c11 : (s2.1 41) = u2
      · rw [if_pos c11] at h
        exact ⟨_, _, _, _, t_X6_read_28_frf hN c1 t2 ho8 hg_a3 t9 c11, _, _, rfl, h⟩
      · rw [if_neg c11] at h
        obtain ⟨r9, M9, z9, d9, e9, h⟩ := h
        exact ⟨r9, M9, z9, d9, t_X6_read_28_frt_at28 hN c1 t2 ho8 hg_a3 t9 c11 e9, h⟩
theorem TX6_take_0 {N0 : Nat} {K : Nat → Nat} {d C : Nat} {p0 : Int32} {s : cS} {G : gm_H} {sz sl : Nat} {Q : Int32 → cS → Prop} (hN : N0 ≤ C) (h : (s.2.2 40 = some (C + 1)) ∧ (∃ k2 : Nat, ((s.1 41) = nI k2) ∧ ((k2 < 241) ∧ (if (s.2.1 1 k2) = p0 then (Q (1 : Int32) (cI s 41 ((s.1 41) + (1 : Int32)))) else (Q (0 : Int32) s))))) : hX6_take_0 N0 K d C p0 s G sz sl Q := by
  obtain ⟨h1, h⟩ := h
  obtain ⟨k2, ek2, h⟩ := h
  obtain ⟨lk2, h⟩ := h
  by_cases c3 : (s.2.1 1 k2) = p0
  · rw [if_pos c3] at h
    exact ⟨_, _, _, _, t_X6_take_0_t hN h1 ek2 lk2 c3, _, _, rfl, rfl, rfl, rfl, h⟩
  · rw [if_neg c3] at h
    exact ⟨_, _, _, _, t_X6_take_0_f hN h1 ek2 lk2 c3, _, _, rfl, rfl, rfl, rfl, h⟩
theorem kX6_take.of {N0 : Nat} {K : Nat → Nat} {d C : Nat} {p0 : Int32} {s : cS} {G : gm_H} {sz : Nat} {Q : Int32 → cS → Prop} (h : hX6_take_0 N0 K d C p0 s G sz 0 Q) : kX6_take N0 K (d + 1) C p0 s G sz Q := gC.of rfl (by decide) (Nat.le_of_ble_eq_true rfl) rfl h
theorem TX6_readRule_0 {N0 : Nat} {K : Nat → Nat} {d C : Nat} {s : cS} {G : gm_H} {sz sl : Nat} {Q : Option Nat → cS → gm_H → Nat → Nat → Prop} (hN : N0 ≤ C) (h : kX6_readAtom N0 K d C (0 : Int32) s G sz (fun r1 s1 G1 z1 d1 => (r1 = none ∧ (Q none s1 G1 z1 (sl + d1))) ∨ (∃ a1 : Nat, r1 = some a1 ∧ ((C + 34 ≤ z1) ∧ ((gm_bd G1 z1) ∧ (kX7_init_gz N0 K d C z1 a1 s1 (gm_new G1 z1 (.inr (7, [.null, .null, .int 0, .int 0]))) (z1 + 1) (fun _ G10 z10 d10 => kX6_take N0 K d C (58 : Int32) s1 G10 z10 (fun r15 s15 => if r15 = 0 then (kX6_take N0 K d C (46 : Int32) s15 G10 z10 (fun r19 s19 => if r19 = 0 then (Q none s19 G10 z10 (((sl + d1) + 4) + d10)) else (Q (some z1) s19 G10 z10 (((sl + d1) + 4) + d10)))) else (kX6_readBody N0 K d C z1 s15 G10 z10 (fun r19 s19 G19 z19 d19 => if r19 = 0 then (Q none s19 G19 z19 ((((sl + d1) + 4) + d10) + d19)) else (kX6_take N0 K d C (46 : Int32) s19 G19 z19 (fun r26 s26 => if r26 = 0 then (Q none s26 G19 z19 ((((sl + d1) + 4) + d10) + d19)) else (Q (some z1) s26 G19 z19 ((((sl + d1) + 4) + d10) + d19)))))))))))))) : hX6_readRule_0 N0 K d C s G sz sl Q := by
  obtain ⟨r1, _, z1, d1, t1, s1, G1, rfl, h⟩ := h
  rcases h with ⟨rfl, h⟩ | ⟨a1, rfl, h⟩
  · exact ⟨_, _, _, _, t_X6_readRule_0_n hN t1, _, _, rfl, h⟩
  · obtain ⟨hg_sz5, h⟩ := h
    obtain ⟨bd7, h⟩ := h
    obtain ⟨_, _, z10, d10, t10, s_, G10, rfl, e1_, h⟩ := h
    rw [e1_] at t10
    obtain ⟨r15, _, z_, d_, t15, s15, G_, rfl, e2_, e3_, e4_, h⟩ := h
    rw [e2_, e3_, e4_] at t15
    by_cases c17 : r15 = 0
    · rw [if_pos c17] at h
      obtain ⟨r19, _, z_, d_, t19, s19, G_, rfl, e2_, e3_, e4_, h⟩ := h
      rw [e2_, e3_, e4_] at t19
      by_cases c21 : r19 = 0
      · rw [if_pos c21] at h
        exact ⟨_, _, _, _, t_X6_readRule_0_rtt hN t1 hg_sz5 bd7 t10 t15 c17 t19 c21, _, _, rfl, h⟩
      · rw [if_neg c21] at h
        exact ⟨_, _, _, _, t_X6_readRule_0_rtf hN t1 hg_sz5 bd7 t10 t15 c17 t19 c21, _, _, rfl, h⟩
    · rw [if_neg c17] at h
      obtain ⟨r19, _, z19, d19, t19, s19, G19, rfl, h⟩ := h
      dsimp only at h
      by_cases c24 : r19 = 0
      · rw [if_pos c24] at h
        exact ⟨_, _, _, _, t_X6_readRule_0_rff hN t1 hg_sz5 bd7 t10 t15 c17 t19 c24, _, _, rfl, h⟩
      · rw [if_neg c24] at h
        obtain ⟨r26, _, z_, d_, t26, s26, G_, rfl, e2_, e3_, e4_, h⟩ := h
        rw [e2_, e3_, e4_] at t26
        by_cases c28 : r26 = 0
        · rw [if_pos c28] at h
          exact ⟨_, _, _, _, t_X6_readRule_0_rftt hN t1 hg_sz5 bd7 t10 t15 c17 t19 c24 t26 c28, _, _, rfl, h⟩
        · rw [if_neg c28] at h
          exact ⟨_, _, _, _, t_X6_readRule_0_rftf hN t1 hg_sz5 bd7 t10 t15 c17 t19 c24 t26 c28, _, _, rfl, h⟩
theorem kX6_readRule.of {N0 : Nat} {K : Nat → Nat} {d C : Nat} {s : cS} {G : gm_H} {sz : Nat} {Q : Option Nat → cS → gm_H → Nat → Nat → Prop} (h : hX6_readRule_0 N0 K d C s G sz 0 Q) : kX6_readRule N0 K (d + 1) C s G sz Q := gC.of rfl (by decide) (Nat.le_of_ble_eq_true rfl) rfl h
theorem TX6_readBody_0 {N0 : Nat} {K : Nat → Nat} {d C : Nat} {p0 : Nat} {s : cS} {G : gm_H} {sz sl : Nat} {Q : Int32 → cS → gm_H → Nat → Nat → Prop} (hN : N0 ≤ C) (h : hX6_readBody_2 N0 K d C p0 (0 : Int32) s G sz sl Q) : hX6_readBody_0 N0 K d C p0 s G sz sl Q := by
  obtain ⟨r9, M9, z9, d9, e9, h⟩ := h
  exact ⟨r9, M9, z9, d9, t_X6_readBody_0__at2 hN e9, h⟩
theorem kX6_readBody.of {N0 : Nat} {K : Nat → Nat} {d C : Nat} {p0 : Nat} {s : cS} {G : gm_H} {sz : Nat} {Q : Int32 → cS → gm_H → Nat → Nat → Prop} (h : hX6_readBody_0 N0 K d C p0 s G sz 0 Q) : kX6_readBody N0 K (d + 1) C p0 s G sz Q := gC.of rfl (by decide) (Nat.le_of_ble_eq_true rfl) rfl h
theorem TX6_readBody_2 {N0 : Nat} {K : Nat → Nat} {d C : Nat} {p0 : Nat} {u2 : Int32} {s : cS} {G : gm_H} {sz sl : Nat} {Q : Int32 → cS → gm_H → Nat → Nat → Prop} (hN : N0 ≤ C) (h : if (5 : Int32) ≤ u2 then (Q (0 : Int32) s G sz sl) else (kX6_readLiteral N0 K d C s G sz (fun r2 s2 G2 z2 d2 => (r2 = none ∧ (Q (0 : Int32) s2 G2 z2 (sl + d2))) ∨ (∃ a2 : Nat, r2 = some a2 ∧ (∃ fso8 : List Value, (G2 p0 = some (.inr (7, fso8))) ∧ ((C + 34 ≤ p0) ∧ (kX7_append_g N0 K d C p0 a2 s2 G2 z2 (fun _ G9 => kX6_take N0 K d C (44 : Int32) s2 G9 z2 (fun r12 s12 => if r12 = 0 then (Q (1 : Int32) s12 G9 z2 (sl + d2)) else (hX6_readBody_2 N0 K d C p0 (u2 + (1 : Int32)) s12 G9 z2 (sl + d2) Q)))))))))) : hX6_readBody_2 N0 K d C p0 u2 s G sz sl Q := by
  by_cases c1 : (5 : Int32) ≤ u2
  · rw [if_pos c1] at h
    exact ⟨_, _, _, _, t_X6_readBody_2_t hN c1, _, _, rfl, h⟩
  · rw [if_neg c1] at h
    obtain ⟨r2, _, z2, d2, t2, s2, G2, rfl, h⟩ := h
    rcases h with ⟨rfl, h⟩ | ⟨a2, rfl, h⟩
    · exact ⟨_, _, _, _, t_X6_readBody_2_fn hN c1 t2, _, _, rfl, h⟩
    · obtain ⟨fso8, ho8, h⟩ := h
      obtain ⟨hg_p0, h⟩ := h
      obtain ⟨_, _, z_, d_, t9, s_, G9, rfl, e1_, e3_, e4_, h⟩ := h
      rw [e1_, e3_, e4_] at t9
      obtain ⟨r12, _, z_, d_, t12, s12, G_, rfl, e2_, e3_, e4_, h⟩ := h
      rw [e2_, e3_, e4_] at t12
      by_cases c14 : r12 = 0
      · rw [if_pos c14] at h
        exact ⟨_, _, _, _, t_X6_readBody_2_frf hN c1 t2 ho8 hg_p0 t9 t12 c14, _, _, rfl, h⟩
      · rw [if_neg c14] at h
        obtain ⟨r9, M9, z9, d9, e9, h⟩ := h
        exact ⟨r9, M9, z9, d9, t_X6_readBody_2_frt_at2 hN c1 t2 ho8 hg_p0 t9 t12 c14 e9, h⟩
theorem TX6_readLiteral_0 {N0 : Nat} {K : Nat → Nat} {d C : Nat} {s : cS} {G : gm_H} {sz sl : Nat} {Q : Option Nat → cS → gm_H → Nat → Nat → Prop} (hN : N0 ≤ C) (h : kX6_take N0 K d C (126 : Int32) s G sz (fun r2 s2 => if r2 = 0 then ((s2.2.2 40 = some (C + 1)) ∧ (∃ k6 : Nat, ((s2.1 41) = nI k6) ∧ ((k6 < 241) ∧ (kX9_isPlain N0 K d C (s2.2.1 1 k6) s2 G sz (fun r8 => if r8 = 0 then (kX6_readAtom N0 K d C (0 : Int32) s2 G sz (fun r10 s10 G10 z10 d10 => (r10 = none ∧ (Q none s10 G10 z10 (sl + d10))) ∨ (∃ a10 : Nat, r10 = some a10 ∧ ((s10.2.2 40 = some (C + 1)) ∧ (∃ k17 : Nat, ((s10.1 41) = nI k17) ∧ ((k17 < 241) ∧ (if (s10.2.1 1 k17) = (35 : Int32) then (∃ fso19 : List Value, (G10 a10 = some (.inr (5, fso19))) ∧ ((C + 34 ≤ a10) ∧ (kX5_asTerm N0 K d C a10 s10 G10 z10 (fun r21 => if r21 = 0 then (Q (some a10) s10 G10 z10 (sl + d10)) else (kX5_asTerm N0 K d C a10 s10 G10 z10 (fun r24 => kX6_readUnlike N0 K d C r24 s10 G10 z10 (fun r25 s25 G25 z25 d25 => (r25 = none ∧ (Q none s25 G25 z25 ((sl + d10) + d25))) ∨ (∃ a25 : Nat, r25 = some a25 ∧ (Q (some a25) s25 G25 z25 ((sl + d10) + d25)))))))))) else (Q (some a10) s10 G10 z10 (sl + d10))))))))) else (kX9_isLetter N0 K d C (s2.2.1 1 k6) s2 G sz (fun r12 => if r12 = 0 then (kX6_readTerm N0 K d C s2 G sz (fun r15 s15 => kX6_readUnlike N0 K d C r15 s15 G sz (fun r17 s17 G17 z17 d17 => (r17 = none ∧ (Q none s17 G17 z17 (sl + d17))) ∨ (∃ a17 : Nat, r17 = some a17 ∧ (Q (some a17) s17 G17 z17 (sl + d17)))))) else (kX6_readAtom N0 K d C (0 : Int32) s2 G sz (fun r14 s14 G14 z14 d14 => (r14 = none ∧ (Q none s14 G14 z14 (sl + d14))) ∨ (∃ a14 : Nat, r14 = some a14 ∧ ((s14.2.2 40 = some (C + 1)) ∧ (∃ k21 : Nat, ((s14.1 41) = nI k21) ∧ ((k21 < 241) ∧ (if (s14.2.1 1 k21) = (35 : Int32) then (∃ fso23 : List Value, (G14 a14 = some (.inr (5, fso23))) ∧ ((C + 34 ≤ a14) ∧ (kX5_asTerm N0 K d C a14 s14 G14 z14 (fun r25 => if r25 = 0 then (Q (some a14) s14 G14 z14 (sl + d14)) else (kX5_asTerm N0 K d C a14 s14 G14 z14 (fun r28 => kX6_readUnlike N0 K d C r28 s14 G14 z14 (fun r29 s29 G29 z29 d29 => (r29 = none ∧ (Q none s29 G29 z29 ((sl + d14) + d29))) ∨ (∃ a29 : Nat, r29 = some a29 ∧ (Q (some a29) s29 G29 z29 ((sl + d14) + d29)))))))))) else (Q (some a14) s14 G14 z14 (sl + d14)))))))))))))))) else (kX6_readAtom N0 K d C (1 : Int32) s2 G sz (fun r5 s5 G5 z5 d5 => (r5 = none ∧ (Q none s5 G5 z5 (sl + d5))) ∨ (∃ a5 : Nat, r5 = some a5 ∧ (Q (some a5) s5 G5 z5 (sl + d5))))))) : hX6_readLiteral_0 N0 K d C s G sz sl Q := by
  obtain ⟨r2, _, z_, d_, t2, s2, G_, rfl, e2_, e3_, e4_, h⟩ := h
  rw [e2_, e3_, e4_] at t2
  by_cases c4 : r2 = 0
  · rw [if_pos c4] at h
    obtain ⟨h5, h⟩ := h
    obtain ⟨k6, ek6, h⟩ := h
    obtain ⟨lk6, h⟩ := h
    obtain ⟨r8, _, z_, d_, t8, s_, G_, rfl, e1_, e2_, e3_, e4_, h⟩ := h
    rw [e1_, e2_, e3_, e4_] at t8
    by_cases c9 : r8 = 0
    · rw [if_pos c9] at h
      obtain ⟨r10, _, z10, d10, t10, s10, G10, rfl, h⟩ := h
      rcases h with ⟨rfl, h⟩ | ⟨a10, rfl, h⟩
      · exact ⟨_, _, _, _, t_X6_readLiteral_0_ttn hN t2 c4 h5 ek6 lk6 t8 c9 t10, _, _, rfl, h⟩
      · obtain ⟨h16, h⟩ := h
        obtain ⟨k17, ek17, h⟩ := h
        obtain ⟨lk17, h⟩ := h
        by_cases c18 : (s10.2.1 1 k17) = (35 : Int32)
        · rw [if_pos c18] at h
          obtain ⟨fso19, ho19, h⟩ := h
          obtain ⟨hg_r10, h⟩ := h
          obtain ⟨r21, _, z_, d_, t21, s_, G_, rfl, e1_, e2_, e3_, e4_, h⟩ := h
          rw [e1_, e2_, e3_, e4_] at t21
          by_cases c22 : r21 = 0
          · rw [if_pos c22] at h
            exact ⟨_, _, _, _, t_X6_readLiteral_0_ttrff hN t2 c4 h5 ek6 lk6 t8 c9 t10 h16 ek17 lk17 c18 ho19 hg_r10 t21 c22, _, _, rfl, h⟩
          · rw [if_neg c22] at h
            obtain ⟨r24, _, z_, d_, t24, s_, G_, rfl, e1_, e2_, e3_, e4_, h⟩ := h
            rw [e1_, e2_, e3_, e4_] at t24
            obtain ⟨r25, _, z25, d25, t25, s25, G25, rfl, h⟩ := h
            rcases h with ⟨rfl, h⟩ | ⟨a25, rfl, h⟩
            · exact ⟨_, _, _, _, t_X6_readLiteral_0_ttrftn hN t2 c4 h5 ek6 lk6 t8 c9 t10 h16 ek17 lk17 c18 ho19 hg_r10 t21 c22 t24 t25, _, _, rfl, h⟩
            · exact ⟨_, _, _, _, t_X6_readLiteral_0_ttrftr hN t2 c4 h5 ek6 lk6 t8 c9 t10 h16 ek17 lk17 c18 ho19 hg_r10 t21 c22 t24 t25, _, _, rfl, h⟩
        · rw [if_neg c18] at h
          exact ⟨_, _, _, _, t_X6_readLiteral_0_ttrt hN t2 c4 h5 ek6 lk6 t8 c9 t10 h16 ek17 lk17 c18, _, _, rfl, h⟩
    · rw [if_neg c9] at h
      obtain ⟨r12, _, z_, d_, t12, s_, G_, rfl, e1_, e2_, e3_, e4_, h⟩ := h
      rw [e1_, e2_, e3_, e4_] at t12
      by_cases c13 : r12 = 0
      · rw [if_pos c13] at h
        obtain ⟨r15, _, z_, d_, t15, s15, G_, rfl, e2_, e3_, e4_, h⟩ := h
        rw [e2_, e3_, e4_] at t15
        obtain ⟨r17, _, z17, d17, t17, s17, G17, rfl, h⟩ := h
        rcases h with ⟨rfl, h⟩ | ⟨a17, rfl, h⟩
        · exact ⟨_, _, _, _, t_X6_readLiteral_0_tffn hN t2 c4 h5 ek6 lk6 t8 c9 ek6 lk6 t12 c13 t15 t17, _, _, rfl, h⟩
        · exact ⟨_, _, _, _, t_X6_readLiteral_0_tffr hN t2 c4 h5 ek6 lk6 t8 c9 ek6 lk6 t12 c13 t15 t17, _, _, rfl, h⟩
      · rw [if_neg c13] at h
        obtain ⟨r14, _, z14, d14, t14, s14, G14, rfl, h⟩ := h
        rcases h with ⟨rfl, h⟩ | ⟨a14, rfl, h⟩
        · exact ⟨_, _, _, _, t_X6_readLiteral_0_tftn hN t2 c4 h5 ek6 lk6 t8 c9 ek6 lk6 t12 c13 t14, _, _, rfl, h⟩
        · obtain ⟨h20, h⟩ := h
          obtain ⟨k21, ek21, h⟩ := h
          obtain ⟨lk21, h⟩ := h
          by_cases c22 : (s14.2.1 1 k21) = (35 : Int32)
          · rw [if_pos c22] at h
            obtain ⟨fso23, ho23, h⟩ := h
            obtain ⟨hg_r14, h⟩ := h
            obtain ⟨r25, _, z_, d_, t25, s_, G_, rfl, e1_, e2_, e3_, e4_, h⟩ := h
            rw [e1_, e2_, e3_, e4_] at t25
            by_cases c26 : r25 = 0
            · rw [if_pos c26] at h
              exact ⟨_, _, _, _, t_X6_readLiteral_0_tftrff hN t2 c4 h5 ek6 lk6 t8 c9 ek6 lk6 t12 c13 t14 h20 ek21 lk21 c22 ho23 hg_r14 t25 c26, _, _, rfl, h⟩
            · rw [if_neg c26] at h
              obtain ⟨r28, _, z_, d_, t28, s_, G_, rfl, e1_, e2_, e3_, e4_, h⟩ := h
              rw [e1_, e2_, e3_, e4_] at t28
              obtain ⟨r29, _, z29, d29, t29, s29, G29, rfl, h⟩ := h
              rcases h with ⟨rfl, h⟩ | ⟨a29, rfl, h⟩
              · exact ⟨_, _, _, _, t_X6_readLiteral_0_tftrftn hN t2 c4 h5 ek6 lk6 t8 c9 ek6 lk6 t12 c13 t14 h20 ek21 lk21 c22 ho23 hg_r14 t25 c26 t28 t29, _, _, rfl, h⟩
              · exact ⟨_, _, _, _, t_X6_readLiteral_0_tftrftr hN t2 c4 h5 ek6 lk6 t8 c9 ek6 lk6 t12 c13 t14 h20 ek21 lk21 c22 ho23 hg_r14 t25 c26 t28 t29, _, _, rfl, h⟩
          · rw [if_neg c22] at h
            exact ⟨_, _, _, _, t_X6_readLiteral_0_tftrt hN t2 c4 h5 ek6 lk6 t8 c9 ek6 lk6 t12 c13 t14 h20 ek21 lk21 c22, _, _, rfl, h⟩
  · rw [if_neg c4] at h
    obtain ⟨r5, _, z5, d5, t5, s5, G5, rfl, h⟩ := h
    rcases h with ⟨rfl, h⟩ | ⟨a5, rfl, h⟩
    · exact ⟨_, _, _, _, t_X6_readLiteral_0_fn hN t2 c4 t5, _, _, rfl, h⟩
    · exact ⟨_, _, _, _, t_X6_readLiteral_0_fr hN t2 c4 t5, _, _, rfl, h⟩
theorem kX6_readLiteral.of {N0 : Nat} {K : Nat → Nat} {d C : Nat} {s : cS} {G : gm_H} {sz : Nat} {Q : Option Nat → cS → gm_H → Nat → Nat → Prop} (h : hX6_readLiteral_0 N0 K d C s G sz 0 Q) : kX6_readLiteral N0 K (d + 1) C s G sz Q := gC.of rfl (by decide) (Nat.le_of_ble_eq_true rfl) rfl h
theorem TX6_readUnlike_0 {N0 : Nat} {K : Nat → Nat} {d C : Nat} {p0 : Int32} {s : cS} {G : gm_H} {sz sl : Nat} {Q : Option Nat → cS → gm_H → Nat → Nat → Prop} (hN : N0 ≤ C) (h : kX6_take N0 K d C (35 : Int32) s G sz (fun r2 s2 => if r2 = 0 then (Q none s2 G sz sl) else (kX6_readTerm N0 K d C s2 G sz (fun r6 s6 => if r6 = 0 then (Q none s6 G sz sl) else ((C + 34 ≤ sz) ∧ ((gm_bd G sz) ∧ (kX5_init_g N0 K d C sz (2 : Int32) (-1 : Int32) p0 r6 (0 : Int32) s6 (gm_new G sz (.inr (5, [.int 0, .int 0, .int 0, .int 0, .int 0, .int 0, .int 0]))) (sz + 1) (fun _ G12 => Q (some sz) s6 G12 (sz + 1) (sl + 7))))))))) : hX6_readUnlike_0 N0 K d C p0 s G sz sl Q := by
  obtain ⟨r2, _, z_, d_, t2, s2, G_, rfl, e2_, e3_, e4_, h⟩ := h
  rw [e2_, e3_, e4_] at t2
  by_cases c4 : r2 = 0
  · rw [if_pos c4] at h
    exact ⟨_, _, _, _, t_X6_readUnlike_0_f hN t2 c4, _, _, rfl, h⟩
  · rw [if_neg c4] at h
    obtain ⟨r6, _, z_, d_, t6, s6, G_, rfl, e2_, e3_, e4_, h⟩ := h
    rw [e2_, e3_, e4_] at t6
    by_cases c8 : r6 = 0
    · rw [if_pos c8] at h
      exact ⟨_, _, _, _, t_X6_readUnlike_0_tf hN t2 c4 t6 c8, _, _, rfl, h⟩
    · rw [if_neg c8] at h
      obtain ⟨hg_sz, h⟩ := h
      obtain ⟨bd9, h⟩ := h
      obtain ⟨_, _, z_, d_, t12, s_, G12, rfl, e1_, e3_, e4_, h⟩ := h
      rw [e1_, e3_, e4_] at t12
      exact ⟨_, _, _, _, t_X6_readUnlike_0_tt hN t2 c4 t6 c8 hg_sz bd9 t12, _, _, rfl, h⟩
theorem kX6_readUnlike.of {N0 : Nat} {K : Nat → Nat} {d C : Nat} {p0 : Int32} {s : cS} {G : gm_H} {sz : Nat} {Q : Option Nat → cS → gm_H → Nat → Nat → Prop} (h : hX6_readUnlike_0 N0 K d C p0 s G sz 0 Q) : kX6_readUnlike N0 K (d + 1) C p0 s G sz Q := gC.of rfl (by decide) (Nat.le_of_ble_eq_true rfl) rfl h
theorem TX6_readAtom_0 {N0 : Nat} {K : Nat → Nat} {d C : Nat} {p0 : Int32} {s : cS} {G : gm_H} {sz sl : Nat} {Q : Option Nat → cS → gm_H → Nat → Nat → Prop} (hN : N0 ≤ C) (h : (s.2.2 40 = some (C + 1)) ∧ (∃ k2 : Nat, ((s.1 41) = nI k2) ∧ ((k2 < 241) ∧ ((0 < d) ∧ (if 0 ≤ (gm_ix (s.2.1 1 k2)) then (∃ k7 : Nat, ((gm_ix (s.2.1 1 k2)) = nI k7) ∧ (∃ kt8 : Nat → Int32, ((bM C (cH C (cI s 41 ((s.1 41) + (1 : Int32)))) G) (K 0) = some (.inl (gm_scr, 8, .inl kt8))) ∧ ((k7 < 8) ∧ (kJ7_fill_53178_s N0 K d C (C + 3) (0 : Int32) (cI s 41 ((s.1 41) + (1 : Int32))) G sz (fun _ s10 => if (kt8 k7) ≤ 0 then ((C + 34 ≤ sz) ∧ ((gm_bd G sz) ∧ (kX5_relationOf N0 K d C (s.2.1 1 k2) (0 : Int32) s10 (gm_new G sz (.inr (5, [.int 0, .int 0, .int 0, .int 0, .int 0, .int 0, .int 0]))) (sz + 1) (fun r18 => kX5_init_g N0 K d C sz p0 r18 (s10.2.1 3 0) (s10.2.1 3 1) (s10.2.1 3 2) s10 (gm_new G sz (.inr (5, [.int 0, .int 0, .int 0, .int 0, .int 0, .int 0, .int 0]))) (sz + 1) (fun _ G22 => Q (some sz) s10 G22 (sz + 1) (sl + 7)))))) else (kX6_take N0 K d C (40 : Int32) s10 G sz (fun r14 s14 => if r14 = 0 then (Q none s14 G sz sl) else (hX6_readAtom_92 N0 K d C p0 (s.2.1 1 k2) (kt8 k7) (kt8 k7) (0 : Int32) s14 G sz sl Q)))))))) else (kX9_isLetter N0 K d C (s.2.1 1 k2) s G sz (fun r7 => if r7 = 0 then (Q none s G sz sl) else (kJ7_fill_53178_s N0 K d C (C + 3) (0 : Int32) (cI s 41 ((s.1 41) + (1 : Int32))) G sz (fun _ s11 => kX6_take N0 K d C (40 : Int32) s11 G sz (fun r15 s15 => if r15 = 0 then ((C + 34 ≤ sz) ∧ ((gm_bd G sz) ∧ (kX5_relationOf N0 K d C (s.2.1 1 k2) (0 : Int32) s15 (gm_new G sz (.inr (5, [.int 0, .int 0, .int 0, .int 0, .int 0, .int 0, .int 0]))) (sz + 1) (fun r23 => kX5_init_g N0 K d C sz p0 r23 (s15.2.1 3 0) (s15.2.1 3 1) (s15.2.1 3 2) s15 (gm_new G sz (.inr (5, [.int 0, .int 0, .int 0, .int 0, .int 0, .int 0, .int 0]))) (sz + 1) (fun _ G27 => Q (some sz) s15 G27 (sz + 1) (sl + 7)))))) else (hX6_readAtom_92 N0 K d C p0 (s.2.1 1 k2) (0 : Int32) (3 : Int32) (0 : Int32) s15 G sz sl Q))))))))))) : hX6_readAtom_0 N0 K d C p0 s G sz sl Q := by
  obtain ⟨h1, h⟩ := h
  obtain ⟨k2, ek2, h⟩ := h
  obtain ⟨lk2, h⟩ := h
  obtain ⟨hd, h⟩ := h
  by_cases c5 : 0 ≤ (gm_ix (s.2.1 1 k2))
  · rw [if_pos c5] at h
    obtain ⟨k7, ek7, h⟩ := h
    obtain ⟨kt8, hkt8, h⟩ := h
    obtain ⟨lk7, h⟩ := h
    obtain ⟨_, _, z_, d_, t10, s10, G_, rfl, e2_, e3_, e4_, h⟩ := h
    rw [e2_, e3_, e4_] at t10
    by_cases c12 : (kt8 k7) ≤ 0
    · rw [if_pos c12] at h
      obtain ⟨hg_sz, h⟩ := h
      obtain ⟨bd14, h⟩ := h
      obtain ⟨r18, _, z_, d_, t18, s_, G_, rfl, e1_, e2_, e3_, e4_, h⟩ := h
      rw [e1_, e2_, e3_, e4_] at t18
      obtain ⟨_, _, z_, d_, t22, s_, G22, rfl, e1_, e3_, e4_, h⟩ := h
      rw [e1_, e3_, e4_] at t22
      exact ⟨_, _, _, _, t_X6_readAtom_0_ttttt hN h1 ek2 lk2 hd c5 c5 ek7 hkt8 lk7 c5 t10 c12 c12 hg_sz bd14 t18 rfl (by decide) rfl (by decide) rfl (by decide) t22, _, _, rfl, h⟩
    · rw [if_neg c12] at h
      obtain ⟨r14, _, z_, d_, t14, s14, G_, rfl, e2_, e3_, e4_, h⟩ := h
      rw [e2_, e3_, e4_] at t14
      by_cases c16 : r14 = 0
      · rw [if_pos c16] at h
        exact ⟨_, _, _, _, t_X6_readAtom_0_tttftf hN h1 ek2 lk2 hd c5 c5 ek7 hkt8 lk7 c5 t10 c12 t14 c16 c12, _, _, rfl, h⟩
      · rw [if_neg c16] at h
        obtain ⟨r9, M9, z9, d9, e9, h⟩ := h
        exact ⟨r9, M9, z9, d9, t_X6_readAtom_0_tttff_at92 hN h1 ek2 lk2 hd c5 c5 ek7 hkt8 lk7 c5 t10 c12 t14 c16 e9, h⟩
  · rw [if_neg c5] at h
    obtain ⟨r7, _, z_, d_, t7, s_, G_, rfl, e1_, e2_, e3_, e4_, h⟩ := h
    rw [e1_, e2_, e3_, e4_] at t7
    by_cases c8 : r7 = 0
    · rw [if_pos c8] at h
      exact ⟨_, _, _, _, t_X6_readAtom_0_ff hN h1 ek2 lk2 hd c5 t7 c8, _, _, rfl, h⟩
    · rw [if_neg c8] at h
      obtain ⟨_, _, z_, d_, t11, s11, G_, rfl, e2_, e3_, e4_, h⟩ := h
      rw [e2_, e3_, e4_] at t11
      obtain ⟨r15, _, z_, d_, t15, s15, G_, rfl, e2_, e3_, e4_, h⟩ := h
      rw [e2_, e3_, e4_] at t15
      by_cases c17 : r15 = 0
      · rw [if_pos c17] at h
        obtain ⟨hg_sz, h⟩ := h
        obtain ⟨bd19, h⟩ := h
        obtain ⟨r23, _, z_, d_, t23, s_, G_, rfl, e1_, e2_, e3_, e4_, h⟩ := h
        rw [e1_, e2_, e3_, e4_] at t23
        obtain ⟨_, _, z_, d_, t27, s_, G27, rfl, e1_, e3_, e4_, h⟩ := h
        rw [e1_, e3_, e4_] at t27
        exact ⟨_, _, _, _, t_X6_readAtom_0_ftffftt hN h1 ek2 lk2 hd c5 t7 c8 c5 c5 t11 (by decide) t15 c17 (by decide) hg_sz bd19 t23 rfl (by decide) rfl (by decide) rfl (by decide) t27, _, _, rfl, h⟩
      · rw [if_neg c17] at h
        obtain ⟨r9, M9, z9, d9, e9, h⟩ := h
        exact ⟨r9, M9, z9, d9, t_X6_readAtom_0_ftffff_at92 hN h1 ek2 lk2 hd c5 t7 c8 c5 c5 t11 (by decide) t15 c17 e9, h⟩
theorem kX6_readAtom.of {N0 : Nat} {K : Nat → Nat} {d C : Nat} {p0 : Int32} {s : cS} {G : gm_H} {sz : Nat} {Q : Option Nat → cS → gm_H → Nat → Nat → Prop} (h : hX6_readAtom_0 N0 K d C p0 s G sz 0 Q) : kX6_readAtom N0 K (d + 1) C p0 s G sz Q := gC.of rfl (by decide) (Nat.le_of_ble_eq_true rfl) rfl h
theorem TX6_readAtom_92 {N0 : Nat} {K : Nat → Nat} {d C : Nat} {u1 : Int32} {u2 : Int32} {u4 : Int32} {u5 : Int32} {u6 : Int32} {s : cS} {G : gm_H} {sz sl : Nat} {Q : Option Nat → cS → gm_H → Nat → Nat → Prop} (hN : N0 ≤ C) (h : kX6_readTerm N0 K d C s G sz (fun r2 s2 => ∃ k4 : Nat, (u6 = nI k4) ∧ ((k4 < 3) ∧ (if ((upd (s2.2.1 3) k4 r2) k4) = 0 then (Q none (cA s2 3 (upd (s2.2.1 3) k4 r2)) G sz sl) else (if u5 ≤ (u6 + (1 : Int32)) then (if (u6 + (1 : Int32)) < u4 then (Q none (cA s2 3 (upd (s2.2.1 3) k4 r2)) G sz sl) else (kX6_take N0 K d C (41 : Int32) (cA s2 3 (upd (s2.2.1 3) k4 r2)) G sz (fun r10 s10 => if r10 = 0 then (Q none s10 G sz sl) else ((C + 34 ≤ sz) ∧ ((gm_bd G sz) ∧ (kX5_relationOf N0 K d C u2 (u6 + (1 : Int32)) s10 (gm_new G sz (.inr (5, [.int 0, .int 0, .int 0, .int 0, .int 0, .int 0, .int 0]))) (sz + 1) (fun r18 => kX5_init_g N0 K d C sz u1 r18 (s10.2.1 3 0) (s10.2.1 3 1) (s10.2.1 3 2) s10 (gm_new G sz (.inr (5, [.int 0, .int 0, .int 0, .int 0, .int 0, .int 0, .int 0]))) (sz + 1) (fun _ G22 => Q (some sz) s10 G22 (sz + 1) (sl + 7))))))))) else (kX6_take N0 K d C (44 : Int32) (cA s2 3 (upd (s2.2.1 3) k4 r2)) G sz (fun r9 s9 => if r9 = 0 then (if (u6 + (1 : Int32)) < u4 then (Q none s9 G sz sl) else (kX6_take N0 K d C (41 : Int32) s9 G sz (fun r14 s14 => if r14 = 0 then (Q none s14 G sz sl) else ((C + 34 ≤ sz) ∧ ((gm_bd G sz) ∧ (kX5_relationOf N0 K d C u2 (u6 + (1 : Int32)) s14 (gm_new G sz (.inr (5, [.int 0, .int 0, .int 0, .int 0, .int 0, .int 0, .int 0]))) (sz + 1) (fun r22 => kX5_init_g N0 K d C sz u1 r22 (s14.2.1 3 0) (s14.2.1 3 1) (s14.2.1 3 2) s14 (gm_new G sz (.inr (5, [.int 0, .int 0, .int 0, .int 0, .int 0, .int 0, .int 0]))) (sz + 1) (fun _ G26 => Q (some sz) s14 G26 (sz + 1) (sl + 7))))))))) else (hX6_readAtom_92 N0 K d C u1 u2 u4 u5 (u6 + (1 : Int32)) s9 G sz sl Q)))))))) : hX6_readAtom_92 N0 K d C u1 u2 u4 u5 u6 s G sz sl Q := by
  obtain ⟨r2, _, z_, d_, t2, s2, G_, rfl, e2_, e3_, e4_, h⟩ := h
  rw [e2_, e3_, e4_] at t2
  obtain ⟨k4, ek4, h⟩ := h
  obtain ⟨lk4, h⟩ := h
  by_cases c6 : ((upd (s2.2.1 3) k4 r2) k4) = 0
  · rw [if_pos c6] at h
    exact ⟨_, _, _, _, t_X6_readAtom_92_f hN t2 ek4 lk4 ek4 lk4 c6, _, _, rfl, h⟩
  · rw [if_neg c6] at h
    by_cases c7 : u5 ≤ (u6 + (1 : Int32))
    · rw [if_pos c7] at h
      by_cases c8 : (u6 + (1 : Int32)) < u4
      · rw [if_pos c8] at h
        exact ⟨_, _, _, _, t_X6_readAtom_92_ttt hN t2 ek4 lk4 ek4 lk4 c6 c7 c8, _, _, rfl, h⟩
      · rw [if_neg c8] at h
        obtain ⟨r10, _, z_, d_, t10, s10, G_, rfl, e2_, e3_, e4_, h⟩ := h
        rw [e2_, e3_, e4_] at t10
        by_cases c12 : r10 = 0
        · rw [if_pos c12] at h
          exact ⟨_, _, _, _, t_X6_readAtom_92_ttff hN t2 ek4 lk4 ek4 lk4 c6 c7 c8 t10 c12, _, _, rfl, h⟩
        · rw [if_neg c12] at h
          obtain ⟨hg_sz, h⟩ := h
          obtain ⟨bd14, h⟩ := h
          obtain ⟨r18, _, z_, d_, t18, s_, G_, rfl, e1_, e2_, e3_, e4_, h⟩ := h
          rw [e1_, e2_, e3_, e4_] at t18
          obtain ⟨_, _, z_, d_, t22, s_, G22, rfl, e1_, e3_, e4_, h⟩ := h
          rw [e1_, e3_, e4_] at t22
          exact ⟨_, _, _, _, t_X6_readAtom_92_ttftt hN t2 ek4 lk4 ek4 lk4 c6 c7 c8 t10 c12 (Int32.not_lt.mp c8) hg_sz bd14 t18 rfl (by decide) rfl (by decide) rfl (by decide) t22, _, _, rfl, h⟩
    · rw [if_neg c7] at h
      obtain ⟨r9, _, z_, d_, t9, s9, G_, rfl, e2_, e3_, e4_, h⟩ := h
      rw [e2_, e3_, e4_] at t9
      by_cases c11 : r9 = 0
      · rw [if_pos c11] at h
        by_cases c12 : (u6 + (1 : Int32)) < u4
        · rw [if_pos c12] at h
          exact ⟨_, _, _, _, t_X6_readAtom_92_tfft hN t2 ek4 lk4 ek4 lk4 c6 c7 t9 c11 c12, _, _, rfl, h⟩
        · rw [if_neg c12] at h
          obtain ⟨r14, _, z_, d_, t14, s14, G_, rfl, e2_, e3_, e4_, h⟩ := h
          rw [e2_, e3_, e4_] at t14
          by_cases c16 : r14 = 0
          · rw [if_pos c16] at h
            exact ⟨_, _, _, _, t_X6_readAtom_92_tffff hN t2 ek4 lk4 ek4 lk4 c6 c7 t9 c11 c12 t14 c16, _, _, rfl, h⟩
          · rw [if_neg c16] at h
            obtain ⟨hg_sz, h⟩ := h
            obtain ⟨bd18, h⟩ := h
            obtain ⟨r22, _, z_, d_, t22, s_, G_, rfl, e1_, e2_, e3_, e4_, h⟩ := h
            rw [e1_, e2_, e3_, e4_] at t22
            obtain ⟨_, _, z_, d_, t26, s_, G26, rfl, e1_, e3_, e4_, h⟩ := h
            rw [e1_, e3_, e4_] at t26
            exact ⟨_, _, _, _, t_X6_readAtom_92_tffftt hN t2 ek4 lk4 ek4 lk4 c6 c7 t9 c11 c12 t14 c16 (Int32.not_lt.mp c12) hg_sz bd18 t22 rfl (by decide) rfl (by decide) rfl (by decide) t26, _, _, rfl, h⟩
      · rw [if_neg c11] at h
        obtain ⟨r9, M9, z9, d9, e9, h⟩ := h
        exact ⟨r9, M9, z9, d9, t_X6_readAtom_92_tft_at92 hN t2 ek4 lk4 ek4 lk4 c6 c7 t9 c11 e9, h⟩
theorem TX6_readTerm_0 {N0 : Nat} {K : Nat → Nat} {d C : Nat} {s : cS} {G : gm_H} {sz sl : Nat} {Q : Int32 → cS → Prop} (hN : N0 ≤ C) (h : (s.2.2 40 = some (C + 1)) ∧ (∃ k2 : Nat, ((s.1 41) = nI k2) ∧ ((k2 < 241) ∧ (kX9_isPlain N0 K d C (s.2.1 1 k2) s G sz (fun r4 => if r4 = 0 then (Q (0 : Int32) s) else (kX9_isLetter N0 K d C (s.2.1 1 k2) (cI s 41 ((s.1 41) + (1 : Int32))) G sz (fun r7 => if r7 = 0 then (Q ((s.2.1 1 k2) <<< ((21 : Int32) &&& 31)) (cI s 41 ((s.1 41) + (1 : Int32)))) else (kX6_take N0 K d C (40 : Int32) (cI s 41 ((s.1 41) + (1 : Int32))) G sz (fun r10 s10 => if r10 = 0 then (Q ((s.2.1 1 k2) <<< ((21 : Int32) &&& 31)) s10) else (hX6_readTerm_55 N0 K d C ((s.2.1 1 k2) <<< ((21 : Int32) &&& 31)) (21 : Int32) s10 G sz sl Q)))))))))) : hX6_readTerm_0 N0 K d C s G sz sl Q := by
  obtain ⟨h1, h⟩ := h
  obtain ⟨k2, ek2, h⟩ := h
  obtain ⟨lk2, h⟩ := h
  obtain ⟨r4, _, z_, d_, t4, s_, G_, rfl, e1_, e2_, e3_, e4_, h⟩ := h
  rw [e1_, e2_, e3_, e4_] at t4
  by_cases c5 : r4 = 0
  · rw [if_pos c5] at h
    exact ⟨_, _, _, _, t_X6_readTerm_0_f hN h1 ek2 lk2 t4 c5, _, _, rfl, rfl, rfl, rfl, h⟩
  · rw [if_neg c5] at h
    obtain ⟨r7, _, z_, d_, t7, s_, G_, rfl, e1_, e2_, e3_, e4_, h⟩ := h
    rw [e1_, e2_, e3_, e4_] at t7
    by_cases c8 : r7 = 0
    · rw [if_pos c8] at h
      exact ⟨_, _, _, _, t_X6_readTerm_0_tt hN h1 ek2 lk2 t4 c5 t7 c8, _, _, rfl, rfl, rfl, rfl, h⟩
    · rw [if_neg c8] at h
      obtain ⟨r10, _, z_, d_, t10, s10, G_, rfl, e2_, e3_, e4_, h⟩ := h
      rw [e2_, e3_, e4_] at t10
      by_cases c12 : r10 = 0
      · rw [if_pos c12] at h
        exact ⟨_, _, _, _, t_X6_readTerm_0_tff hN h1 ek2 lk2 t4 c5 t7 c8 t10 c12, _, _, rfl, rfl, rfl, rfl, h⟩
      · rw [if_neg c12] at h
        obtain ⟨r9, M9, z9, d9, e9, h⟩ := h
        exact ⟨r9, M9, z9, d9, t_X6_readTerm_0_tft_at55 hN h1 ek2 lk2 t4 c5 t7 c8 t10 c12 e9, h⟩
theorem kX6_readTerm.of {N0 : Nat} {K : Nat → Nat} {d C : Nat} {s : cS} {G : gm_H} {sz : Nat} {Q : Int32 → cS → Prop} (h : hX6_readTerm_0 N0 K d C s G sz 0 Q) : kX6_readTerm N0 K (d + 1) C s G sz Q := gC.of rfl (by decide) (Nat.le_of_ble_eq_true rfl) rfl h
theorem TX6_readTerm_55 {N0 : Nat} {K : Nat → Nat} {d C : Nat} {u2 : Int32} {u3 : Int32} {s : cS} {G : gm_H} {sz sl : Nat} {Q : Int32 → cS → Prop} (hN : N0 ≤ C) (h : (s.2.2 40 = some (C + 1)) ∧ (∃ k2 : Nat, ((s.1 41) = nI k2) ∧ ((k2 < 241) ∧ (kX9_isPlain N0 K d C (s.2.1 1 k2) s G sz (fun r4 => if r4 = 0 then (Q (0 : Int32) s) else (if (u3 + (-7 : Int32)) ≤ 0 then (kX6_take N0 K d C (41 : Int32) (cI s 41 ((s.1 41) + (1 : Int32))) G sz (fun r9 s9 => if r9 = 0 then (Q (0 : Int32) s9) else (Q (u2 ||| ((s.2.1 1 k2) <<< ((u3 + (-7 : Int32)) &&& 31))) s9))) else (kX6_take N0 K d C (44 : Int32) (cI s 41 ((s.1 41) + (1 : Int32))) G sz (fun r9 s9 => if r9 = 0 then (kX6_take N0 K d C (41 : Int32) s9 G sz (fun r13 s13 => if r13 = 0 then (Q (0 : Int32) s13) else (Q (u2 ||| ((s.2.1 1 k2) <<< ((u3 + (-7 : Int32)) &&& 31))) s13))) else (hX6_readTerm_55 N0 K d C (u2 ||| ((s.2.1 1 k2) <<< ((u3 + (-7 : Int32)) &&& 31))) (u3 + (-7 : Int32)) s9 G sz sl Q))))))))) : hX6_readTerm_55 N0 K d C u2 u3 s G sz sl Q := by
  obtain ⟨h1, h⟩ := h
  obtain ⟨k2, ek2, h⟩ := h
  obtain ⟨lk2, h⟩ := h
  obtain ⟨r4, _, z_, d_, t4, s_, G_, rfl, e1_, e2_, e3_, e4_, h⟩ := h
  rw [e1_, e2_, e3_, e4_] at t4
  by_cases c5 : r4 = 0
  · rw [if_pos c5] at h
    exact ⟨_, _, _, _, t_X6_readTerm_55_f hN h1 ek2 lk2 t4 c5, _, _, rfl, rfl, rfl, rfl, h⟩
  · rw [if_neg c5] at h
    by_cases c7 : (u3 + (-7 : Int32)) ≤ 0
    · rw [if_pos c7] at h
      obtain ⟨r9, _, z_, d_, t9, s9, G_, rfl, e2_, e3_, e4_, h⟩ := h
      rw [e2_, e3_, e4_] at t9
      by_cases c11 : r9 = 0
      · rw [if_pos c11] at h
        exact ⟨_, _, _, _, t_X6_readTerm_55_ttt hN h1 ek2 lk2 t4 c5 ek2 lk2 c7 t9 c11, _, _, rfl, rfl, rfl, rfl, h⟩
      · rw [if_neg c11] at h
        exact ⟨_, _, _, _, t_X6_readTerm_55_ttf hN h1 ek2 lk2 t4 c5 ek2 lk2 c7 t9 c11, _, _, rfl, rfl, rfl, rfl, h⟩
    · rw [if_neg c7] at h
      obtain ⟨r9, _, z_, d_, t9, s9, G_, rfl, e2_, e3_, e4_, h⟩ := h
      rw [e2_, e3_, e4_] at t9
      by_cases c11 : r9 = 0
      · rw [if_pos c11] at h
        obtain ⟨r13, _, z_, d_, t13, s13, G_, rfl, e2_, e3_, e4_, h⟩ := h
        rw [e2_, e3_, e4_] at t13
        by_cases c15 : r13 = 0
        · rw [if_pos c15] at h
          exact ⟨_, _, _, _, t_X6_readTerm_55_tfft hN h1 ek2 lk2 t4 c5 ek2 lk2 c7 t9 c11 t13 c15, _, _, rfl, rfl, rfl, rfl, h⟩
        · rw [if_neg c15] at h
          exact ⟨_, _, _, _, t_X6_readTerm_55_tfff hN h1 ek2 lk2 t4 c5 ek2 lk2 c7 t9 c11 t13 c15, _, _, rfl, rfl, rfl, rfl, h⟩
      · rw [if_neg c11] at h
        obtain ⟨r9, M9, z9, d9, e9, h⟩ := h
        exact ⟨r9, M9, z9, d9, t_X6_readTerm_55_tft_at55 hN h1 ek2 lk2 t4 c5 ek2 lk2 c7 t9 c11 e9, h⟩
theorem TX11_write_0 {N0 : Nat} {K : Nat → Nat} {d C : Nat} {p0 : Int64} {s : cS} {G : gm_H} {sz sl : Nat} {Q : Int32 → cS → Prop} (hN : N0 ≤ C) (h : hX11_write_6 N0 K d C p0 (0 : Int32) (56 : Int32) s G sz sl Q) : hX11_write_0 N0 K d C p0 s G sz sl Q := by
  obtain ⟨r9, M9, z9, d9, e9, h⟩ := h
  exact ⟨r9, M9, z9, d9, t_X11_write_0__at6 hN e9, h⟩
theorem kX11_write.of {N0 : Nat} {K : Nat → Nat} {d C : Nat} {p0 : Int64} {s : cS} {G : gm_H} {sz : Nat} {Q : Int32 → cS → Prop} (h : hX11_write_0 N0 K d C p0 s G sz 0 Q) : kX11_write N0 K (d + 1) C p0 s G sz Q := gC.of rfl (by decide) (Nat.le_of_ble_eq_true rfl) rfl h
theorem TX11_write_6 {N0 : Nat} {K : Nat → Nat} {d C : Nat} {y1 : Int64} {u3 : Int32} {u4 : Int32} {s : cS} {G : gm_H} {sz sl : Nat} {Q : Int32 → cS → Prop} (hN : N0 ≤ C) (h : if u4 < 0 then (if ((s.1 1) + u3) ≤ (240 : Int32) then (hX11_write_80 N0 K d C y1 (56 : Int32) s G sz sl Q) else (Q (0 : Int32) s)) else (if (((((y1).toUInt64 >>> ((u4).toInt64.toUInt64 &&& Int64.toUInt64 63)).toInt64).toInt32) &&& (255 : Int32)) = 0 then (hX11_write_6 N0 K d C y1 (u3 + (0 : Int32)) (u4 + (-8 : Int32)) s G sz sl Q) else (if (((((y1).toUInt64 >>> ((u4).toInt64.toUInt64 &&& Int64.toUInt64 63)).toInt64).toInt32) &&& (255 : Int32)) < (32 : Int32) then (Q (0 : Int32) s) else (if (((((y1).toUInt64 >>> ((u4).toInt64.toUInt64 &&& Int64.toUInt64 63)).toInt64).toInt32) &&& (255 : Int32)) ≤ (126 : Int32) then (hX11_write_6 N0 K d C y1 (u3 + (1 : Int32)) (u4 + (-8 : Int32)) s G sz sl Q) else (Q (0 : Int32) s))))) : hX11_write_6 N0 K d C y1 u3 u4 s G sz sl Q := by
  by_cases c1 : u4 < 0
  · rw [if_pos c1] at h
    by_cases c2 : ((s.1 1) + u3) ≤ (240 : Int32)
    · rw [if_pos c2] at h
      obtain ⟨r9, M9, z9, d9, e9, h⟩ := h
      exact ⟨r9, M9, z9, d9, t_X11_write_6_tt_at80 hN c1 c2 e9, h⟩
    · rw [if_neg c2] at h
      exact ⟨_, _, _, _, t_X11_write_6_tf hN c1 c2, _, _, rfl, rfl, rfl, rfl, h⟩
  · rw [if_neg c1] at h
    by_cases c2 : (((((y1).toUInt64 >>> ((u4).toInt64.toUInt64 &&& Int64.toUInt64 63)).toInt64).toInt32) &&& (255 : Int32)) = 0
    · rw [if_pos c2] at h
      obtain ⟨r9, M9, z9, d9, e9, h⟩ := h
      exact ⟨r9, M9, z9, d9, t_X11_write_6_ftt_at6 hN c1 c2 c2 e9, h⟩
    · rw [if_neg c2] at h
      by_cases c3 : (((((y1).toUInt64 >>> ((u4).toInt64.toUInt64 &&& Int64.toUInt64 63)).toInt64).toInt32) &&& (255 : Int32)) < (32 : Int32)
      · rw [if_pos c3] at h
        exact ⟨_, _, _, _, t_X11_write_6_fft hN c1 c2 c3, _, _, rfl, rfl, rfl, rfl, h⟩
      · rw [if_neg c3] at h
        by_cases c4 : (((((y1).toUInt64 >>> ((u4).toInt64.toUInt64 &&& Int64.toUInt64 63)).toInt64).toInt32) &&& (255 : Int32)) ≤ (126 : Int32)
        · rw [if_pos c4] at h
          obtain ⟨r9, M9, z9, d9, e9, h⟩ := h
          exact ⟨r9, M9, z9, d9, t_X11_write_6_ffftf_at6 hN c1 c2 c3 c4 c2 e9, h⟩
        · rw [if_neg c4] at h
          exact ⟨_, _, _, _, t_X11_write_6_ffff hN c1 c2 c3 c4, _, _, rfl, rfl, rfl, rfl, h⟩
theorem TX11_write_80 {N0 : Nat} {K : Nat → Nat} {d C : Nat} {y1 : Int64} {u4 : Int32} {s : cS} {G : gm_H} {sz sl : Nat} {Q : Int32 → cS → Prop} (hN : N0 ≤ C) (h : if u4 < 0 then (Q (1 : Int32) s) else (if (((((y1).toUInt64 >>> ((u4).toInt64.toUInt64 &&& Int64.toUInt64 63)).toInt64).toInt32) &&& (255 : Int32)) = 0 then (hX11_write_80 N0 K d C y1 (u4 + (-8 : Int32)) s G sz sl Q) else (∃ k3 : Nat, ((s.1 1) = nI k3) ∧ ((k3 < 241) ∧ (hX11_write_80 N0 K d C y1 (u4 + (-8 : Int32)) (cI (cA s 1 (upd (s.2.1 1) k3 (vp_nar .char (((((((y1).toUInt64 >>> ((u4).toInt64.toUInt64 &&& Int64.toUInt64 63)).toInt64).toInt32) &&& (255 : Int32)).toUInt32 % 65536).toInt32)))) 1 ((s.1 1) + (1 : Int32))) G sz sl Q))))) : hX11_write_80 N0 K d C y1 u4 s G sz sl Q := by
  by_cases c1 : u4 < 0
  · rw [if_pos c1] at h
    exact ⟨_, _, _, _, t_X11_write_80_t hN c1, _, _, rfl, rfl, rfl, rfl, h⟩
  · rw [if_neg c1] at h
    by_cases c2 : (((((y1).toUInt64 >>> ((u4).toInt64.toUInt64 &&& Int64.toUInt64 63)).toInt64).toInt32) &&& (255 : Int32)) = 0
    · rw [if_pos c2] at h
      obtain ⟨r9, M9, z9, d9, e9, h⟩ := h
      exact ⟨r9, M9, z9, d9, t_X11_write_80_ft_at80 hN c1 c2 e9, h⟩
    · rw [if_neg c2] at h
      obtain ⟨k3, ek3, h⟩ := h
      obtain ⟨lk3, h⟩ := h
      obtain ⟨r9, M9, z9, d9, e9, h⟩ := h
      exact ⟨r9, M9, z9, d9, t_X11_write_80_ff_at80 hN c1 c2 ek3 lk3 e9, h⟩
theorem TX11_wipe_0 {N0 : Nat} {K : Nat → Nat} {d C : Nat} {s : cS} {G : gm_H} {sz sl : Nat} {Q : Unit → cS → Prop} (hN : N0 ≤ C) (h : Q () (cI s 1 (0 : Int32))) : hX11_wipe_0 N0 K d C s G sz sl Q := by
  exact ⟨_, _, _, _, t_X11_wipe_0_ hN, _, _, rfl, rfl, rfl, rfl, h⟩
theorem kX11_wipe.of {N0 : Nat} {K : Nat → Nat} {d C : Nat} {s : cS} {G : gm_H} {sz : Nat} {Q : Unit → cS → Prop} (h : hX11_wipe_0 N0 K d C s G sz 0 Q) : kX11_wipe N0 K (d + 1) C s G sz Q := gC.of rfl (by decide) (Nat.le_of_ble_eq_true rfl) rfl h
theorem TX11_load_0 {N0 : Nat} {K : Nat → Nat} {d C : Nat} {s : cS} {G : gm_H} {sz sl : Nat} {Q : Outcome → cS → gm_H → Nat → Nat → Prop} (hN : N0 ≤ C) (h : kX6_read N0 K d C (s.1 1) (cI (cI (cI s 1 (0 : Int32)) 2 (0 : Int32)) 3 (0 : Int32)) G sz (fun r1 s1 G1 z1 d1 => (r1 = none ∧ (kX6_place N0 K d C (cI s1 2 (1 : Int32)) G1 z1 (fun r7 => Q (.threw 0) (cI (cI s1 2 (1 : Int32)) 3 r7) G1 (z1 + 1) ((sl + d1) + 6)))) ∨ (∃ a1 : Nat, r1 = some a1 ∧ (∃ fso7 : List Value, (G1 a1 = some (.inr (8, fso7))) ∧ ((C + 34 ≤ a1) ∧ (kX8_trace_g N0 K d C a1 s1 G1 z1 (fun _ G8 => hX11_load_67 N0 K d C a1 (2 : Int32) s1 G8 z1 (sl + d1) Q))))))) : hX11_load_0 N0 K d C s G sz sl Q := by
  obtain ⟨r1, _, z1, d1, t1, s1, G1, rfl, h⟩ := h
  rcases h with ⟨rfl, h⟩ | ⟨a1, rfl, h⟩
  · obtain ⟨r7, _, z_, d_, t7, s_, G_, rfl, e1_, e2_, e3_, e4_, h⟩ := h
    rw [e1_, e2_, e3_, e4_] at t7
    exact ⟨_, _, _, _, t_X11_load_0_n hN t1 t7, _, _, rfl, h⟩
  · obtain ⟨fso7, ho7, h⟩ := h
    obtain ⟨hg_r1, h⟩ := h
    obtain ⟨_, _, z_, d_, t8, s_, G8, rfl, e1_, e3_, e4_, h⟩ := h
    rw [e1_, e3_, e4_] at t8
    obtain ⟨r9, M9, z9, d9, e9, h⟩ := h
    exact ⟨r9, M9, z9, d9, t_X11_load_0_r_at67 hN t1 ho7 hg_r1 t8 e9, h⟩
theorem kX11_load.of {N0 : Nat} {K : Nat → Nat} {d C : Nat} {s : cS} {G : gm_H} {sz : Nat} {Q : Outcome → cS → gm_H → Nat → Nat → Prop} (h : hX11_load_0 N0 K d C s G sz 0 Q) : kX11_load N0 K (d + 1) C s G sz Q := gC.of rfl (by decide) (Nat.le_of_ble_eq_true rfl) rfl h
theorem TX11_load_67 {N0 : Nat} {K : Nat → Nat} {d C : Nat} {a2 : Nat} {u3 : Int32} {s : cS} {G : gm_H} {sz sl : Nat} {Q : Outcome → cS → gm_H → Nat → Nat → Prop} (hN : N0 ≤ C) (h : if (5 : Int32) < u3 then ((C + 34 ≤ sz) ∧ ((gm_bd G sz) ∧ (kX4_init_gz N0 K d C sz a2 s (gm_new G sz (.inr (4, [.null, .null, .null, .int 0]))) (sz + 1) (fun _ G5 z5 d5 => kX3_take N0 K d C sz s G5 z5 (fun r10 s10 => if r10 = 0 then (Q (.threw 2) s10 G5 (z5 + 1) (((sl + 4) + d5) + 6)) else (kX0_forget N0 K d C s10 G5 z5 (fun _ s13 => ∃ fso15 : List Value, (G5 a2 = some (.inr (8, fso15))) ∧ (∃ x16 : Int32, (fso15[1]? = some (.int x16)) ∧ ((C + 34 ≤ a2) ∧ (Q (.returned (some (.int x16))) s13 G5 z5 ((sl + 4) + d5))))))))))) else (∃ fso2 : List Value, (G a2 = some (.inr (8, fso2))) ∧ ((C + 34 ≤ a2) ∧ (kX8_placeOf N0 K d C a2 u3 s G sz (fun r4 => if r4 = (-1 : Int32) then (hX11_load_67 N0 K d C a2 (u3 + (1 : Int32)) s G sz sl Q) else (Q (.threw 1) (cI (cI s 2 u3) 3 r4) G (sz + 1) (sl + 6))))))) : hX11_load_67 N0 K d C a2 u3 s G sz sl Q := by
  by_cases c1 : (5 : Int32) < u3
  · rw [if_pos c1] at h
    obtain ⟨hg_sz, h⟩ := h
    obtain ⟨bd2, h⟩ := h
    obtain ⟨_, _, z5, d5, t5, s_, G5, rfl, e1_, h⟩ := h
    rw [e1_] at t5
    obtain ⟨r10, _, z_, d_, t10, s10, G_, rfl, e2_, e3_, e4_, h⟩ := h
    rw [e2_, e3_, e4_] at t10
    by_cases c12 : r10 = 0
    · rw [if_pos c12] at h
      exact ⟨_, _, _, _, t_X11_load_67_tf hN c1 hg_sz bd2 t5 t10 c12, _, _, rfl, h⟩
    · rw [if_neg c12] at h
      obtain ⟨_, _, z_, d_, t13, s13, G_, rfl, e2_, e3_, e4_, h⟩ := h
      rw [e2_, e3_, e4_] at t13
      obtain ⟨fso15, ho15, h⟩ := h
      obtain ⟨x16, f17, h⟩ := h
      obtain ⟨hg_a2, h⟩ := h
      exact ⟨_, _, _, _, t_X11_load_67_tt hN c1 hg_sz bd2 t5 t10 c12 t13 ho15 f17 hg_a2, _, _, rfl, h⟩
  · rw [if_neg c1] at h
    obtain ⟨fso2, ho2, h⟩ := h
    obtain ⟨hg_a2, h⟩ := h
    obtain ⟨r4, _, z_, d_, t4, s_, G_, rfl, e1_, e2_, e3_, e4_, h⟩ := h
    rw [e1_, e2_, e3_, e4_] at t4
    by_cases c5 : r4 = (-1 : Int32)
    · rw [if_pos c5] at h
      obtain ⟨r9, M9, z9, d9, e9, h⟩ := h
      exact ⟨r9, M9, z9, d9, t_X11_load_67_ft_at67 hN c1 ho2 hg_a2 t4 c5 e9, h⟩
    · rw [if_neg c5] at h
      exact ⟨_, _, _, _, t_X11_load_67_ff hN c1 ho2 hg_a2 t4 c5, _, _, rfl, h⟩
theorem TX11_fault_0 {N0 : Nat} {K : Nat → Nat} {d C : Nat} {p0 : Int32} {s : cS} {G : gm_H} {sz sl : Nat} {Q : Int32 → Prop} (hN : N0 ≤ C) (h : ((Op.lookupswitch.offset [(0, 27), (1, 32)] 37 p0.toInt = 27) ∧ (Q (s.1 2))) ∨ ((Op.lookupswitch.offset [(0, 27), (1, 32)] 37 p0.toInt = 32) ∧ (Q (s.1 3))) ∨ ((Op.lookupswitch.offset [(0, 27), (1, 32)] 37 p0.toInt = 37) ∧ (Q (-1 : Int32)))) : hX11_fault_0 N0 K d C p0 s G sz sl Q := by
  rcases h with ⟨cs, h⟩ | ⟨cs, h⟩ | ⟨cs, h⟩
  · exact ⟨_, _, _, _, t_X11_fault_0_s0 hN cs, _, _, rfl, rfl, rfl, rfl, rfl, h⟩
  · exact ⟨_, _, _, _, t_X11_fault_0_s1 hN cs, _, _, rfl, rfl, rfl, rfl, rfl, h⟩
  · exact ⟨_, _, _, _, t_X11_fault_0_sNone hN cs, _, _, rfl, rfl, rfl, rfl, rfl, h⟩
theorem kX11_fault.of {N0 : Nat} {K : Nat → Nat} {d C : Nat} {p0 : Int32} {s : cS} {G : gm_H} {sz : Nat} {Q : Int32 → Prop} (h : hX11_fault_0 N0 K d C p0 s G sz 0 Q) : kX11_fault N0 K (d + 1) C p0 s G sz Q := gC.of rfl (by decide) (Nat.le_of_ble_eq_true rfl) rfl h
theorem TX11_many_0 {N0 : Nat} {K : Nat → Nat} {d C : Nat} {p0 : Int32} {s : cS} {G : gm_H} {sz sl : Nat} {Q : Int32 → Prop} (hN : N0 ≤ C) (h : ((p0 = 0) ∧ (Q (s.1 341))) ∨ ((p0 = 1) ∧ (Q (s.1 421))) ∨ ((p0 = 2) ∧ (Q (s.1 584))) ∨ ((p0.toInt < 0 ∨ 2 < p0.toInt) ∧ (Q (-1 : Int32)))) : hX11_many_0 N0 K d C p0 s G sz sl Q := by
  rcases h with ⟨cs, h⟩ | ⟨cs, h⟩ | ⟨cs, h⟩ | ⟨cs, h⟩
  · exact ⟨_, _, _, _, t_X11_many_0_s0 hN cs, _, _, rfl, rfl, rfl, rfl, rfl, h⟩
  · exact ⟨_, _, _, _, t_X11_many_0_s1 hN cs, _, _, rfl, rfl, rfl, rfl, rfl, h⟩
  · exact ⟨_, _, _, _, t_X11_many_0_s2 hN cs, _, _, rfl, rfl, rfl, rfl, rfl, h⟩
  · exact ⟨_, _, _, _, t_X11_many_0_sNone hN cs, _, _, rfl, rfl, rfl, rfl, rfl, h⟩
theorem kX11_many.of {N0 : Nat} {K : Nat → Nat} {d C : Nat} {p0 : Int32} {s : cS} {G : gm_H} {sz : Nat} {Q : Int32 → Prop} (h : hX11_many_0 N0 K d C p0 s G sz 0 Q) : kX11_many N0 K (d + 1) C p0 s G sz Q := gC.of rfl (by decide) (Nat.le_of_ble_eq_true rfl) rfl h
theorem TX11_facts_0 {N0 : Nat} {K : Nat → Nat} {d C : Nat} {p0 : Int32} {p1 : Int32} {s : cS} {G : gm_H} {sz sl : Nat} {Q : Int32 → Prop} (hN : N0 ≤ C) (h : kX5_relationOf N0 K d C p0 p1 s G sz (fun r2 => kX3_isIdle N0 K d C s G sz (fun r4 => if r4 = 0 then (if r2 = (-1 : Int32) then (Q (0 : Int32)) else (∃ k7 : Nat, (r2 = nI k7) ∧ ((k7 < 112) ∧ (Q (s.2.1 13 k7))))) else (Q (0 : Int32))))) : hX11_facts_0 N0 K d C p0 p1 s G sz sl Q := by
  obtain ⟨r2, _, z_, d_, t2, s_, G_, rfl, e1_, e2_, e3_, e4_, h⟩ := h
  rw [e1_, e2_, e3_, e4_] at t2
  obtain ⟨r4, _, z_, d_, t4, s_, G_, rfl, e1_, e2_, e3_, e4_, h⟩ := h
  rw [e1_, e2_, e3_, e4_] at t4
  by_cases c5 : r4 = 0
  · rw [if_pos c5] at h
    by_cases c6 : r2 = (-1 : Int32)
    · rw [if_pos c6] at h
      exact ⟨_, _, _, _, t_X11_facts_0_ff hN t2 t4 c5 c6, _, _, rfl, rfl, rfl, rfl, rfl, h⟩
    · rw [if_neg c6] at h
      obtain ⟨k7, ek7, h⟩ := h
      obtain ⟨lk7, h⟩ := h
      exact ⟨_, _, _, _, t_X11_facts_0_ft hN t2 t4 c5 c6 ek7 lk7, _, _, rfl, rfl, rfl, rfl, rfl, h⟩
  · rw [if_neg c5] at h
    exact ⟨_, _, _, _, t_X11_facts_0_t hN t2 t4 c5, _, _, rfl, rfl, rfl, rfl, rfl, h⟩
theorem kX11_facts.of {N0 : Nat} {K : Nat → Nat} {d C : Nat} {p0 : Int32} {p1 : Int32} {s : cS} {G : gm_H} {sz : Nat} {Q : Int32 → Prop} (h : hX11_facts_0 N0 K d C p0 p1 s G sz 0 Q) : kX11_facts N0 K (d + 1) C p0 p1 s G sz Q := gC.of rfl (by decide) (Nat.le_of_ble_eq_true rfl) rfl h
theorem TX11_moves_0 {N0 : Nat} {K : Nat → Nat} {d C : Nat} {p0 : Int32} {s : cS} {G : gm_H} {sz sl : Nat} {Q : Int32 → Prop} (hN : N0 ≤ C) (h : kX3_hasPlayer N0 K d C p0 s G sz (fun r2 => if r2 = 0 then (Q (-1 : Int32)) else (kX3_movesOf N0 K d C p0 s G sz (fun r5 => ∃ fso6 : List Value, ((bM C (cH C s) G) r5 = some (.inr (9, fso6))) ∧ (∃ x7 : Int32, (fso6[1]? = some (.int x7)) ∧ (Q x7)))))) : hX11_moves_0 N0 K d C p0 s G sz sl Q := by
  obtain ⟨r2, _, z_, d_, t2, s_, G_, rfl, e1_, e2_, e3_, e4_, h⟩ := h
  rw [e1_, e2_, e3_, e4_] at t2
  by_cases c3 : r2 = 0
  · rw [if_pos c3] at h
    exact ⟨_, _, _, _, t_X11_moves_0_t hN t2 c3, _, _, rfl, rfl, rfl, rfl, rfl, h⟩
  · rw [if_neg c3] at h
    obtain ⟨r5, _, z_, d_, t5, s_, G_, rfl, e1_, e2_, e3_, e4_, h⟩ := h
    rw [e1_, e2_, e3_, e4_] at t5
    obtain ⟨fso6, ho6, h⟩ := h
    obtain ⟨x7, f8, h⟩ := h
    exact ⟨_, _, _, _, t_X11_moves_0_f hN t2 c3 t5 ho6 f8, _, _, rfl, rfl, rfl, rfl, rfl, h⟩
theorem kX11_moves.of {N0 : Nat} {K : Nat → Nat} {d C : Nat} {p0 : Int32} {s : cS} {G : gm_H} {sz : Nat} {Q : Int32 → Prop} (h : hX11_moves_0 N0 K d C p0 s G sz 0 Q) : kX11_moves N0 K (d + 1) C p0 s G sz Q := gC.of rfl (by decide) (Nat.le_of_ble_eq_true rfl) rfl h
theorem TX11_over_0 {N0 : Nat} {K : Nat → Nat} {d C : Nat} {s : cS} {G : gm_H} {sz sl : Nat} {Q : Int32 → Prop} (hN : N0 ≤ C) (h : kX3_isIdle N0 K d C s G sz (fun r2 => if r2 = 0 then (if (s.1 88) = 0 then (Q (0 : Int32)) else (Q (1 : Int32))) else (Q (-1 : Int32)))) : hX11_over_0 N0 K d C s G sz sl Q := by
  obtain ⟨r2, _, z_, d_, t2, s_, G_, rfl, e1_, e2_, e3_, e4_, h⟩ := h
  rw [e1_, e2_, e3_, e4_] at t2
  by_cases c3 : r2 = 0
  · rw [if_pos c3] at h
    by_cases c4 : (s.1 88) = 0
    · rw [if_pos c4] at h
      exact ⟨_, _, _, _, t_X11_over_0_tt hN t2 c3 c4, _, _, rfl, rfl, rfl, rfl, rfl, h⟩
    · rw [if_neg c4] at h
      exact ⟨_, _, _, _, t_X11_over_0_tf hN t2 c3 c4, _, _, rfl, rfl, rfl, rfl, rfl, h⟩
  · rw [if_neg c3] at h
    exact ⟨_, _, _, _, t_X11_over_0_f hN t2 c3, _, _, rfl, rfl, rfl, rfl, rfl, h⟩
theorem kX11_over.of {N0 : Nat} {K : Nat → Nat} {d C : Nat} {s : cS} {G : gm_H} {sz : Nat} {Q : Int32 → Prop} (h : hX11_over_0 N0 K d C s G sz 0 Q) : kX11_over N0 K (d + 1) C s G sz Q := gC.of rfl (by decide) (Nat.le_of_ble_eq_true rfl) rfl h
theorem TX11_goal_0 {N0 : Nat} {K : Nat → Nat} {d C : Nat} {p0 : Int32} {s : cS} {G : gm_H} {sz sl : Nat} {Q : Int32 → Prop} (hN : N0 ≤ C) (h : kX3_hasPlayer N0 K d C p0 s G sz (fun r2 => if r2 = 0 then (Q (-1 : Int32)) else (kX3_goalOf N0 K d C p0 s G sz (fun r5 => Q r5)))) : hX11_goal_0 N0 K d C p0 s G sz sl Q := by
  obtain ⟨r2, _, z_, d_, t2, s_, G_, rfl, e1_, e2_, e3_, e4_, h⟩ := h
  rw [e1_, e2_, e3_, e4_] at t2
  by_cases c3 : r2 = 0
  · rw [if_pos c3] at h
    exact ⟨_, _, _, _, t_X11_goal_0_t hN t2 c3, _, _, rfl, rfl, rfl, rfl, rfl, h⟩
  · rw [if_neg c3] at h
    obtain ⟨r5, _, z_, d_, t5, s_, G_, rfl, e1_, e2_, e3_, e4_, h⟩ := h
    rw [e1_, e2_, e3_, e4_] at t5
    exact ⟨_, _, _, _, t_X11_goal_0_f hN t2 c3 t5, _, _, rfl, rfl, rfl, rfl, rfl, h⟩
theorem kX11_goal.of {N0 : Nat} {K : Nat → Nat} {d C : Nat} {p0 : Int32} {s : cS} {G : gm_H} {sz : Nat} {Q : Int32 → Prop} (h : hX11_goal_0 N0 K d C p0 s G sz 0 Q) : kX11_goal N0 K (d + 1) C p0 s G sz Q := gC.of rfl (by decide) (Nat.le_of_ble_eq_true rfl) rfl h
theorem TX11_letter_0 {N0 : Nat} {K : Nat → Nat} {d C : Nat} {p0 : Int32} {p1 : Int32} {p2 : Int32} {s : cS} {G : gm_H} {sz sl : Nat} {Q : Int32 → Prop} (hN : N0 ≤ C) (h : ((p0 = 0) ∧ (kX10_at N0 K d C (C + 17) p1 s G sz (fun r3 => kX9_character N0 K d C r3 p2 s G sz (fun r5 => Q r5)))) ∨ ((p0 = 1) ∧ (kX10_at N0 K d C (C + 21) p1 s G sz (fun r3 => kX9_character N0 K d C r3 p2 s G sz (fun r5 => Q r5)))) ∨ ((p0 = 2) ∧ (kX3_movesOf N0 K d C (p0 - (2 : Int32)) s G sz (fun r3 => ∃ fso4 : List Value, ((bM C (cH C s) G) r3 = some (.inr (9, fso4))) ∧ (kX10_at N0 K d C r3 p1 s G sz (fun r6 => kX9_character N0 K d C r6 p2 s G sz (fun r8 => Q r8)))))) ∨ ((p0 = 3) ∧ (kX3_movesOf N0 K d C (p0 - (2 : Int32)) s G sz (fun r3 => ∃ fso4 : List Value, ((bM C (cH C s) G) r3 = some (.inr (9, fso4))) ∧ (kX10_at N0 K d C r3 p1 s G sz (fun r6 => kX9_character N0 K d C r6 p2 s G sz (fun r8 => Q r8)))))) ∨ ((p0.toInt < 0 ∨ 3 < p0.toInt) ∧ (Q (-1 : Int32)))) : hX11_letter_0 N0 K d C p0 p1 p2 s G sz sl Q := by
  rcases h with ⟨cs, h⟩ | ⟨cs, h⟩ | ⟨cs, h⟩ | ⟨cs, h⟩ | ⟨cs, h⟩
  · obtain ⟨r3, _, z_, d_, t3, s_, G_, rfl, e1_, e2_, e3_, e4_, h⟩ := h
    rw [e1_, e2_, e3_, e4_] at t3
    obtain ⟨r5, _, z_, d_, t5, s_, G_, rfl, e1_, e2_, e3_, e4_, h⟩ := h
    rw [e1_, e2_, e3_, e4_] at t5
    exact ⟨_, _, _, _, t_X11_letter_0_s0 hN cs t3 t5, _, _, rfl, rfl, rfl, rfl, rfl, h⟩
  · obtain ⟨r3, _, z_, d_, t3, s_, G_, rfl, e1_, e2_, e3_, e4_, h⟩ := h
    rw [e1_, e2_, e3_, e4_] at t3
    obtain ⟨r5, _, z_, d_, t5, s_, G_, rfl, e1_, e2_, e3_, e4_, h⟩ := h
    rw [e1_, e2_, e3_, e4_] at t5
    exact ⟨_, _, _, _, t_X11_letter_0_s1 hN cs t3 t5, _, _, rfl, rfl, rfl, rfl, rfl, h⟩
  · obtain ⟨r3, _, z_, d_, t3, s_, G_, rfl, e1_, e2_, e3_, e4_, h⟩ := h
    rw [e1_, e2_, e3_, e4_] at t3
    obtain ⟨fso4, ho4, h⟩ := h
    obtain ⟨r6, _, z_, d_, t6, s_, G_, rfl, e1_, e2_, e3_, e4_, h⟩ := h
    rw [e1_, e2_, e3_, e4_] at t6
    obtain ⟨r8, _, z_, d_, t8, s_, G_, rfl, e1_, e2_, e3_, e4_, h⟩ := h
    rw [e1_, e2_, e3_, e4_] at t8
    exact ⟨_, _, _, _, t_X11_letter_0_s2 hN cs t3 ho4 t6 t8, _, _, rfl, rfl, rfl, rfl, rfl, h⟩
  · obtain ⟨r3, _, z_, d_, t3, s_, G_, rfl, e1_, e2_, e3_, e4_, h⟩ := h
    rw [e1_, e2_, e3_, e4_] at t3
    obtain ⟨fso4, ho4, h⟩ := h
    obtain ⟨r6, _, z_, d_, t6, s_, G_, rfl, e1_, e2_, e3_, e4_, h⟩ := h
    rw [e1_, e2_, e3_, e4_] at t6
    obtain ⟨r8, _, z_, d_, t8, s_, G_, rfl, e1_, e2_, e3_, e4_, h⟩ := h
    rw [e1_, e2_, e3_, e4_] at t8
    exact ⟨_, _, _, _, t_X11_letter_0_s3 hN cs t3 ho4 t6 t8, _, _, rfl, rfl, rfl, rfl, rfl, h⟩
  · exact ⟨_, _, _, _, t_X11_letter_0_sNone hN cs, _, _, rfl, rfl, rfl, rfl, rfl, h⟩
theorem kX11_letter.of {N0 : Nat} {K : Nat → Nat} {d C : Nat} {p0 : Int32} {p1 : Int32} {p2 : Int32} {s : cS} {G : gm_H} {sz : Nat} {Q : Int32 → Prop} (h : hX11_letter_0 N0 K d C p0 p1 p2 s G sz 0 Q) : kX11_letter N0 K (d + 1) C p0 p1 p2 s G sz Q := gC.of rfl (by decide) (Nat.le_of_ble_eq_true rfl) rfl h
theorem TX11_play_0 {N0 : Nat} {K : Nat → Nat} {d C : Nat} {p0 : Int32} {p1 : Int32} {s : cS} {G : gm_H} {sz sl : Nat} {Q : Outcome → cS → Nat → Nat → Prop} (hN : N0 ≤ C) (h : kX3_isIdle N0 K d C s G sz (fun r2 => if r2 = 0 then (if (s.1 341) = (2 : Int32) then (if (s.1 88) = 0 then (kX3_movesOf N0 K d C (0 : Int32) s G sz (fun r7 => ∃ fso8 : List Value, ((bM C (cH C s) G) r7 = some (.inr (9, fso8))) ∧ (kX10_at N0 K d C r7 p0 s G sz (fun r10 => if r10 = 0 then (Q (.threw 3) s (sz + 1) (sl + 6)) else (kX3_movesOf N0 K d C (1 : Int32) s G sz (fun r13 => ∃ fso14 : List Value, ((bM C (cH C s) G) r13 = some (.inr (9, fso14))) ∧ (kX10_at N0 K d C r13 p1 s G sz (fun r16 => if r16 = 0 then (Q (.threw 3) s (sz + 1) (sl + 6)) else (kX3_advance N0 K d C p0 p1 s G sz (fun r19 s19 => if r19 = 0 then (Q (.threw 2) s19 (sz + 1) (sl + 6)) else (Q (.returned (some (.int (s19.1 421)))) s19 sz sl))))))))))) else (Q (.threw 2) s (sz + 1) (sl + 6))) else (Q (.threw 2) s (sz + 1) (sl + 6))) else (Q (.threw 2) s (sz + 1) (sl + 6)))) : hX11_play_0 N0 K d C p0 p1 s G sz sl Q := by
  obtain ⟨r2, _, z_, d_, t2, s_, G_, rfl, e1_, e2_, e3_, e4_, h⟩ := h
  rw [e1_, e2_, e3_, e4_] at t2
  by_cases c3 : r2 = 0
  · rw [if_pos c3] at h
    by_cases c4 : (s.1 341) = (2 : Int32)
    · rw [if_pos c4] at h
      by_cases c5 : (s.1 88) = 0
      · rw [if_pos c5] at h
        obtain ⟨r7, _, z_, d_, t7, s_, G_, rfl, e1_, e2_, e3_, e4_, h⟩ := h
        rw [e1_, e2_, e3_, e4_] at t7
        obtain ⟨fso8, ho8, h⟩ := h
        obtain ⟨r10, _, z_, d_, t10, s_, G_, rfl, e1_, e2_, e3_, e4_, h⟩ := h
        rw [e1_, e2_, e3_, e4_] at t10
        by_cases c11 : r10 = 0
        · rw [if_pos c11] at h
          exact ⟨_, _, _, _, t_X11_play_0_fftt hN t2 c3 c4 c5 t7 ho8 t10 c11, _, _, rfl, rfl, h⟩
        · rw [if_neg c11] at h
          obtain ⟨r13, _, z_, d_, t13, s_, G_, rfl, e1_, e2_, e3_, e4_, h⟩ := h
          rw [e1_, e2_, e3_, e4_] at t13
          obtain ⟨fso14, ho14, h⟩ := h
          obtain ⟨r16, _, z_, d_, t16, s_, G_, rfl, e1_, e2_, e3_, e4_, h⟩ := h
          rw [e1_, e2_, e3_, e4_] at t16
          by_cases c17 : r16 = 0
          · rw [if_pos c17] at h
            exact ⟨_, _, _, _, t_X11_play_0_fftff hN t2 c3 c4 c5 t7 ho8 t10 c11 t13 ho14 t16 c17, _, _, rfl, rfl, h⟩
          · rw [if_neg c17] at h
            obtain ⟨r19, _, z_, d_, t19, s19, G_, rfl, e2_, e3_, e4_, h⟩ := h
            rw [e2_, e3_, e4_] at t19
            by_cases c21 : r19 = 0
            · rw [if_pos c21] at h
              exact ⟨_, _, _, _, t_X11_play_0_fftftf hN t2 c3 c4 c5 t7 ho8 t10 c11 t13 ho14 t16 c17 t19 c21, _, _, rfl, rfl, h⟩
            · rw [if_neg c21] at h
              exact ⟨_, _, _, _, t_X11_play_0_fftftt hN t2 c3 c4 c5 t7 ho8 t10 c11 t13 ho14 t16 c17 t19 c21, _, _, rfl, rfl, h⟩
      · rw [if_neg c5] at h
        exact ⟨_, _, _, _, t_X11_play_0_fff hN t2 c3 c4 c5, _, _, rfl, rfl, h⟩
    · rw [if_neg c4] at h
      exact ⟨_, _, _, _, t_X11_play_0_ft hN t2 c3 c4, _, _, rfl, rfl, h⟩
  · rw [if_neg c3] at h
    exact ⟨_, _, _, _, t_X11_play_0_t hN t2 c3, _, _, rfl, rfl, h⟩
theorem kX11_play.of {N0 : Nat} {K : Nat → Nat} {d C : Nat} {p0 : Int32} {p1 : Int32} {s : cS} {G : gm_H} {sz : Nat} {Q : Outcome → cS → Nat → Nat → Prop} (h : hX11_play_0 N0 K d C p0 p1 s G sz 0 Q) : kX11_play N0 K (d + 1) C p0 p1 s G sz Q := gC.of rfl (by decide) (Nat.le_of_ble_eq_true rfl) rfl h
theorem TX11_restart_0 {N0 : Nat} {K : Nat → Nat} {d C : Nat} {s : cS} {G : gm_H} {sz sl : Nat} {Q : Int32 → cS → Prop} (hN : N0 ≤ C) (h : kX3_isIdle N0 K d C s G sz (fun r2 => if r2 = 0 then (kX3_goBack N0 K d C s G sz (fun _ s4 => Q (1 : Int32) s4)) else (Q (0 : Int32) s))) : hX11_restart_0 N0 K d C s G sz sl Q := by
  obtain ⟨r2, _, z_, d_, t2, s_, G_, rfl, e1_, e2_, e3_, e4_, h⟩ := h
  rw [e1_, e2_, e3_, e4_] at t2
  by_cases c3 : r2 = 0
  · rw [if_pos c3] at h
    obtain ⟨_, _, z_, d_, t4, s4, G_, rfl, e2_, e3_, e4_, h⟩ := h
    rw [e2_, e3_, e4_] at t4
    exact ⟨_, _, _, _, t_X11_restart_0_t hN t2 c3 t4, _, _, rfl, rfl, rfl, rfl, h⟩
  · rw [if_neg c3] at h
    exact ⟨_, _, _, _, t_X11_restart_0_f hN t2 c3, _, _, rfl, rfl, rfl, rfl, h⟩
theorem kX11_restart.of {N0 : Nat} {K : Nat → Nat} {d C : Nat} {s : cS} {G : gm_H} {sz : Nat} {Q : Int32 → cS → Prop} (h : hX11_restart_0 N0 K d C s G sz 0 Q) : kX11_restart N0 K (d + 1) C s G sz Q := gC.of rfl (by decide) (Nat.le_of_ble_eq_true rfl) rfl h
theorem TX11_audit_0 {N0 : Nat} {K : Nat → Nat} {d C : Nat} {s : cS} {G : gm_H} {sz sl : Nat} {Q : Outcome → cS → gm_H → Nat → Nat → Prop} (hN : N0 ≤ C) (h : kX3_isIdle N0 K d C s G sz (fun r2 => if r2 = 0 then (kX0_run N0 K d C s G sz (fun r5 s5 G5 => Q (.returned (some (.int r5))) s5 G5 sz sl)) else (Q (.threw 2) s G (sz + 1) (sl + 6)))) : hX11_audit_0 N0 K d C s G sz sl Q := by
  obtain ⟨r2, _, z_, d_, t2, s_, G_, rfl, e1_, e2_, e3_, e4_, h⟩ := h
  rw [e1_, e2_, e3_, e4_] at t2
  by_cases c3 : r2 = 0
  · rw [if_pos c3] at h
    obtain ⟨r5, _, z_, d_, t5, s5, G5, rfl, e3_, e4_, h⟩ := h
    rw [e3_, e4_] at t5
    exact ⟨_, _, _, _, t_X11_audit_0_t hN t2 c3 t5, _, _, rfl, h⟩
  · rw [if_neg c3] at h
    exact ⟨_, _, _, _, t_X11_audit_0_f hN t2 c3, _, _, rfl, h⟩
theorem kX11_audit.of {N0 : Nat} {K : Nat → Nat} {d C : Nat} {s : cS} {G : gm_H} {sz : Nat} {Q : Outcome → cS → gm_H → Nat → Nat → Prop} (h : hX11_audit_0 N0 K d C s G sz 0 Q) : kX11_audit N0 K (d + 1) C s G sz Q := gC.of rfl (by decide) (Nat.le_of_ble_eq_true rfl) rfl h
theorem TX11_worth_0 {N0 : Nat} {K : Nat → Nat} {d C : Nat} {s : cS} {G : gm_H} {sz sl : Nat} {Q : Outcome → cS → gm_H → Nat → Nat → Prop} (hN : N0 ≤ C) (h : kX3_isIdle N0 K d C s G sz (fun r2 => if r2 = 0 then (kX0_run N0 K d C s G sz (fun r5 s5 G5 => if r5 = 0 then (kX0_valueAt N0 K d C (C + 21) s5 G5 sz (fun r10 => Q (.returned (some (.int r10))) s5 G5 sz sl)) else (Q (.threw 1) s5 G5 (sz + 1) (sl + 6)))) else (Q (.threw 2) s G (sz + 1) (sl + 6)))) : hX11_worth_0 N0 K d C s G sz sl Q := by
  obtain ⟨r2, _, z_, d_, t2, s_, G_, rfl, e1_, e2_, e3_, e4_, h⟩ := h
  rw [e1_, e2_, e3_, e4_] at t2
  by_cases c3 : r2 = 0
  · rw [if_pos c3] at h
    obtain ⟨r5, _, z_, d_, t5, s5, G5, rfl, e3_, e4_, h⟩ := h
    rw [e3_, e4_] at t5
    by_cases c8 : r5 = 0
    · rw [if_pos c8] at h
      obtain ⟨r10, _, z_, d_, t10, s_, G_, rfl, e1_, e2_, e3_, e4_, h⟩ := h
      rw [e1_, e2_, e3_, e4_] at t10
      exact ⟨_, _, _, _, t_X11_worth_0_tt hN t2 c3 t5 c8 t10, _, _, rfl, h⟩
    · rw [if_neg c8] at h
      exact ⟨_, _, _, _, t_X11_worth_0_tf hN t2 c3 t5 c8, _, _, rfl, h⟩
  · rw [if_neg c3] at h
    exact ⟨_, _, _, _, t_X11_worth_0_f hN t2 c3, _, _, rfl, h⟩
theorem kX11_worth.of {N0 : Nat} {K : Nat → Nat} {d C : Nat} {s : cS} {G : gm_H} {sz : Nat} {Q : Outcome → cS → gm_H → Nat → Nat → Prop} (h : hX11_worth_0 N0 K d C s G sz 0 Q) : kX11_worth N0 K (d + 1) C s G sz Q := gC.of rfl (by decide) (Nat.le_of_ble_eq_true rfl) rfl h
theorem TX11_best_0 {N0 : Nat} {K : Nat → Nat} {d C : Nat} {s : cS} {G : gm_H} {sz sl : Nat} {Q : Outcome → cS → gm_H → Nat → Nat → Prop} (hN : N0 ≤ C) (h : kX3_isIdle N0 K d C s G sz (fun r2 => if r2 = 0 then (kX0_run N0 K d C s G sz (fun r5 s5 G5 => if r5 = 0 then (if (s5.1 88) = 0 then (kX0_choiceAt N0 K d C (C + 21) s5 G5 sz (fun r11 => Q (.returned (some (.int r11))) s5 G5 sz sl)) else (Q (.threw 4) s5 G5 (sz + 1) (sl + 6))) else (Q (.threw 1) s5 G5 (sz + 1) (sl + 6)))) else (Q (.threw 2) s G (sz + 1) (sl + 6)))) : hX11_best_0 N0 K d C s G sz sl Q := by
  obtain ⟨r2, _, z_, d_, t2, s_, G_, rfl, e1_, e2_, e3_, e4_, h⟩ := h
  rw [e1_, e2_, e3_, e4_] at t2
  by_cases c3 : r2 = 0
  · rw [if_pos c3] at h
    obtain ⟨r5, _, z_, d_, t5, s5, G5, rfl, e3_, e4_, h⟩ := h
    rw [e3_, e4_] at t5
    by_cases c8 : r5 = 0
    · rw [if_pos c8] at h
      by_cases c9 : (s5.1 88) = 0
      · rw [if_pos c9] at h
        obtain ⟨r11, _, z_, d_, t11, s_, G_, rfl, e1_, e2_, e3_, e4_, h⟩ := h
        rw [e1_, e2_, e3_, e4_] at t11
        exact ⟨_, _, _, _, t_X11_best_0_ttt hN t2 c3 t5 c8 c9 t11, _, _, rfl, h⟩
      · rw [if_neg c9] at h
        exact ⟨_, _, _, _, t_X11_best_0_ttf hN t2 c3 t5 c8 c9, _, _, rfl, h⟩
    · rw [if_neg c8] at h
      exact ⟨_, _, _, _, t_X11_best_0_tf hN t2 c3 t5 c8, _, _, rfl, h⟩
  · rw [if_neg c3] at h
    exact ⟨_, _, _, _, t_X11_best_0_f hN t2 c3, _, _, rfl, h⟩
theorem kX11_best.of {N0 : Nat} {K : Nat → Nat} {d C : Nat} {s : cS} {G : gm_H} {sz : Nat} {Q : Outcome → cS → gm_H → Nat → Nat → Prop} (h : hX11_best_0 N0 K d C s G sz 0 Q) : kX11_best N0 K (d + 1) C s G sz Q := gC.of rfl (by decide) (Nat.le_of_ble_eq_true rfl) rfl h
