theorem m_letter.of {d : Nat} {p0 : Int32} {p1 : Int32} {p2 : Int32} {s : mS} {Q : Int32 → mS → Prop} (h : h_letter_0 d p0 p1 p2 s Q) : m_letter (d + 1) p0 p1 p2 s Q := mC.of (fun _ => rfl) (by decide) (fun _ => Nat.le_of_ble_eq_true rfl) (fun _ => rfl) h
theorem q_letter.of {d : Nat} {p0 : Int32} {p1 : Int32} {p2 : Int32} {s : mS} {Q : Int32 → Prop} (h : h_letter_0 d p0 p1 p2 s (fun r s' => s' = s ∧ Q r)) : q_letter (d + 1) p0 p1 p2 s Q := mQ.of (m_letter.of h)
theorem T_play_0 {d : Nat} {p0 : Int32} {p1 : Int32} {s : mS} {Q : Int32 → mS → Prop} (h : if (s.1 5) = 0 then (m_fail d (1 : Int32) (mI s 0 (0 : Int32)) (fun r2 s4 => Q r2 s4)) else (if (s.1 36) = (2 : Int32) then (m_look d (mI s 0 (0 : Int32)) (fun _ s4 => q_isEnd d s4 (fun r5 => if r5 = 0 then (m_legal d (0 : Int32) s4 (fun _ s9 => if p0 < 0 then (m_fail d (2 : Int32) s9 (fun r11 s13 => Q r11 s13)) else (if p0 < (s9.1 38) then (∃ k12 : Nat, p0 = nI k12 ∧ k12 < 201 ∧ (m_legal d (1 : Int32) s9 (fun _ s14 => if p1 < 0 then (m_fail d (2 : Int32) s14 (fun r16 s18 => Q r16 s18)) else (if p1 < (s14.1 38) then (∃ k17 : Nat, p1 = nI k17 ∧ k17 < 201 ∧ (m_leadsOn_now d (0 : Int32) (s14.1 30) (s9.2.2 37 k12) (s14.2.2 37 k17) s14 (fun r18 s20 => if r18 = 0 then (m_fail d (1 : Int32) (mI s20 24 (0 : Int32)) (fun r23 s25 => Q r23 s25)) else (m_inState_next d (0 : Int32) (s20.1 34) s20 (fun _ s23 => if (s23.1 23) = 0 then (h_play_170 d (0 : Int32) (mI (mI s23 24 (0 : Int32)) 30 (s23.1 34)) Q) else (m_fail d (1 : Int32) (mI s23 24 (0 : Int32)) (fun r26 s28 => Q r26 s28))))))) else (m_fail d (2 : Int32) s14 (fun r17 s19 => Q r17 s19)))))) else (m_fail d (2 : Int32) s9 (fun r12 s14 => Q r12 s14))))) else (m_fail d (1 : Int32) s4 (fun r8 s10 => Q r8 s10))))) else (m_fail d (1 : Int32) (mI s 0 (0 : Int32)) (fun r3 s5 => Q r3 s5)))) : h_play_0 d p0 p1 s Q := by
  by_cases c1 : (s.1 5) = 0
  · rw [if_pos c1] at h
    obtain ⟨r2, s4, t3, h⟩ := h
    exact ⟨_, _, fun N0 K B G sz sl hN => r_play_0_t hN c1 (t3 N0 K B G sz hN), h⟩
  · rw [if_neg c1] at h
    by_cases c2 : (s.1 36) = (2 : Int32)
    · rw [if_pos c2] at h
      obtain ⟨_r, s4, t3, h⟩ := h
      obtain ⟨r5, t6, h⟩ := h
      by_cases c7 : r5 = 0
      · rw [if_pos c7] at h
        obtain ⟨_r, s9, t8, h⟩ := h
        by_cases c10 : p0 < 0
        · rw [if_pos c10] at h
          obtain ⟨r11, s13, t12, h⟩ := h
          exact ⟨_, _, fun N0 K B G sz sl hN => r_play_0_fttt hN c1 c2 (t3 N0 K B G sz hN) (t6 N0 K B G sz hN) c7 (t8 N0 K B G sz hN) c10 (t12 N0 K B G sz hN), h⟩
        · rw [if_neg c10] at h
          by_cases c11 : p0 < (s9.1 38)
          · rw [if_pos c11] at h
            obtain ⟨k12, ek12, lk12, h⟩ := h
            obtain ⟨_r, s14, t13, h⟩ := h
            by_cases c15 : p1 < 0
            · rw [if_pos c15] at h
              obtain ⟨r16, s18, t17, h⟩ := h
              exact ⟨_, _, fun N0 K B G sz sl hN => r_play_0_fttftt hN c1 c2 (t3 N0 K B G sz hN) (t6 N0 K B G sz hN) c7 (t8 N0 K B G sz hN) c10 c11 ek12 lk12 (t13 N0 K B G sz hN) c15 (t17 N0 K B G sz hN), h⟩
            · rw [if_neg c15] at h
              by_cases c16 : p1 < (s14.1 38)
              · rw [if_pos c16] at h
                obtain ⟨k17, ek17, lk17, h⟩ := h
                obtain ⟨r18, s20, t19, h⟩ := h
                by_cases c21 : r18 = 0
                · rw [if_pos c21] at h
                  obtain ⟨r23, s25, t24, h⟩ := h
                  exact ⟨_, _, fun N0 K B G sz sl hN => r_play_0_fttftfttt hN c1 c2 (t3 N0 K B G sz hN) (t6 N0 K B G sz hN) c7 (t8 N0 K B G sz hN) c10 c11 ek12 lk12 (t13 N0 K B G sz hN) c15 c16 ek17 lk17 (t19 N0 K B G sz hN) c21 c21 (t24 N0 K B G sz hN), h⟩
                · rw [if_neg c21] at h
                  obtain ⟨_r, s23, t22, h⟩ := h
                  by_cases c25 : (s23.1 23) = 0
                  · rw [if_pos c25] at h
                    obtain ⟨r, s9, e, h⟩ := h
                    exact ⟨r, s9, fun N0 K B G sz sl hN => r_play_0_fttftftfft_at170 hN c1 c2 (t3 N0 K B G sz hN) (t6 N0 K B G sz hN) c7 (t8 N0 K B G sz hN) c10 c11 ek12 lk12 (t13 N0 K B G sz hN) c15 c16 ek17 lk17 (t19 N0 K B G sz hN) c21 (t22 N0 K B G sz hN) c21 c25 (e N0 K B G sz sl hN), h⟩
                  · rw [if_neg c25] at h
                    obtain ⟨r26, s28, t27, h⟩ := h
                    exact ⟨_, _, fun N0 K B G sz sl hN => r_play_0_fttftftfff hN c1 c2 (t3 N0 K B G sz hN) (t6 N0 K B G sz hN) c7 (t8 N0 K B G sz hN) c10 c11 ek12 lk12 (t13 N0 K B G sz hN) c15 c16 ek17 lk17 (t19 N0 K B G sz hN) c21 (t22 N0 K B G sz hN) c21 c25 (t27 N0 K B G sz hN), h⟩
              · rw [if_neg c16] at h
                obtain ⟨r17, s19, t18, h⟩ := h
                exact ⟨_, _, fun N0 K B G sz sl hN => r_play_0_fttftff hN c1 c2 (t3 N0 K B G sz hN) (t6 N0 K B G sz hN) c7 (t8 N0 K B G sz hN) c10 c11 ek12 lk12 (t13 N0 K B G sz hN) c15 c16 (t18 N0 K B G sz hN), h⟩
          · rw [if_neg c11] at h
            obtain ⟨r12, s14, t13, h⟩ := h
            exact ⟨_, _, fun N0 K B G sz sl hN => r_play_0_fttff hN c1 c2 (t3 N0 K B G sz hN) (t6 N0 K B G sz hN) c7 (t8 N0 K B G sz hN) c10 c11 (t13 N0 K B G sz hN), h⟩
      · rw [if_neg c7] at h
        obtain ⟨r8, s10, t9, h⟩ := h
        exact ⟨_, _, fun N0 K B G sz sl hN => r_play_0_ftf hN c1 c2 (t3 N0 K B G sz hN) (t6 N0 K B G sz hN) c7 (t9 N0 K B G sz hN), h⟩
    · rw [if_neg c2] at h
      obtain ⟨r3, s5, t4, h⟩ := h
      exact ⟨_, _, fun N0 K B G sz sl hN => r_play_0_ff hN c1 c2 (t4 N0 K B G sz hN), h⟩
theorem m_play.of {d : Nat} {p0 : Int32} {p1 : Int32} {s : mS} {Q : Int32 → mS → Prop} (h : h_play_0 d p0 p1 s Q) : m_play (d + 1) p0 p1 s Q := mC.of (fun _ => rfl) (by decide) (fun _ => Nat.le_of_ble_eq_true rfl) (fun _ => rfl) h
theorem q_play.of {d : Nat} {p0 : Int32} {p1 : Int32} {s : mS} {Q : Int32 → Prop} (h : h_play_0 d p0 p1 s (fun r s' => s' = s ∧ Q r)) : q_play (d + 1) p0 p1 s Q := mQ.of (m_play.of h)
theorem T_play_170 {d : Nat} {x6 : Int32} {s : mS} {Q : Int32 → mS → Prop} (h : if (s.1 34) ≤ x6 then (Q (s.1 30) s) else (∃ k2 : Nat, x6 = nI k2 ∧ k2 < 24 ∧ (h_play_170 d (x6 + (1 : Int32)) (mL s 29 (vp_updL (s.2.2 29) k2 (s.2.2 33 k2))) Q))) : h_play_170 d x6 s Q := by
  by_cases c1 : (s.1 34) ≤ x6
  · rw [if_pos c1] at h
    exact ⟨_, _, fun N0 K B G sz sl hN => r_play_170_t hN c1, h⟩
  · rw [if_neg c1] at h
    obtain ⟨k2, ek2, lk2, h⟩ := h
    obtain ⟨r, s9, e, h⟩ := h
    exact ⟨r, s9, fun N0 K B G sz sl hN => r_play_170_f_at170 hN c1 ek2 lk2 ek2 lk2 (e N0 K B G sz sl hN), h⟩
theorem T_restart_0 {d : Nat} {s : mS} {Q : Int32 → mS → Prop} (h : if (s.1 5) = 0 then (((s.1 5) = 0 ∨ (s.1 5) = 1) ∧ (Q (s.1 5) (mI s 0 (0 : Int32)))) else (m_begin d (mI s 0 (0 : Int32)) (fun _ s3 => ((s3.1 5) = 0 ∨ (s3.1 5) = 1) ∧ (Q (s3.1 5) s3)))) : h_restart_0 d s Q := by
  by_cases c1 : (s.1 5) = 0
  · rw [if_pos c1] at h
    obtain ⟨z2, h⟩ := h
    exact ⟨_, _, fun N0 K B G sz sl hN => r_restart_0_t hN c1 z2, h⟩
  · rw [if_neg c1] at h
    obtain ⟨_r, s3, t2, h⟩ := h
    obtain ⟨z4, h⟩ := h
    exact ⟨_, _, fun N0 K B G sz sl hN => r_restart_0_f hN c1 (t2 N0 K B G sz hN) z4, h⟩
theorem m_restart.of {d : Nat} {s : mS} {Q : Int32 → mS → Prop} (h : h_restart_0 d s Q) : m_restart (d + 1) s Q := mC.of (fun _ => rfl) (by decide) (fun _ => Nat.le_of_ble_eq_true rfl) (fun _ => rfl) h
theorem q_restart.of {d : Nat} {s : mS} {Q : Int32 → Prop} (h : h_restart_0 d s (fun r s' => s' = s ∧ Q r)) : q_restart (d + 1) s Q := mQ.of (m_restart.of h)
theorem T_find_next_0 {d : Nat} {p1 : Int32} {s : mS} {Q : Int32 → mS → Prop} (h : h_find_next_2 d p1 (0 : Int32) s Q) : h_find_next_0 d p1 s Q := by
  obtain ⟨r, s9, e, h⟩ := h
  exact ⟨r, s9, fun N0 K B G sz sl hN => r_find_next_0__at2 hN (e N0 K B G sz sl hN), h⟩
theorem m_find_next.of {d : Nat} {p1 : Int32} {s : mS} {Q : Int32 → mS → Prop} (h : h_find_next_0 d p1 s Q) : m_find_next (d + 1) p1 s Q := mC.of (fun _ => rfl) (by decide) (fun _ => Nat.le_of_ble_eq_true rfl) (fun _ => rfl) h
theorem q_find_next.of {d : Nat} {p1 : Int32} {s : mS} {Q : Int32 → Prop} (h : h_find_next_0 d p1 s (fun r s' => s' = s ∧ Q r)) : q_find_next (d + 1) p1 s Q := mQ.of (m_find_next.of h)
theorem T_find_next_2 {d : Nat} {x2 : Int32} {x3 : Int32} {s : mS} {Q : Int32 → mS → Prop} (h : if (s.1 43) ≤ x3 then (Q (-1 : Int32) s) else (∃ k2 : Nat, x3 = nI k2 ∧ k2 < 60 ∧ (if (s.2.1 45 k2) = x2 then (h_find_next_30 d x2 x3 (1 : Int32) (0 : Int32) s Q) else (h_find_next_30 d x2 x3 (0 : Int32) (0 : Int32) s Q)))) : h_find_next_2 d x2 x3 s Q := by
  by_cases c1 : (s.1 43) ≤ x3
  · rw [if_pos c1] at h
    exact ⟨_, _, fun N0 K B G sz sl hN => r_find_next_2_t hN c1, h⟩
  · rw [if_neg c1] at h
    obtain ⟨k2, ek2, lk2, h⟩ := h
    by_cases c3 : (s.2.1 45 k2) = x2
    · rw [if_pos c3] at h
      obtain ⟨r, s9, e, h⟩ := h
      exact ⟨r, s9, fun N0 K B G sz sl hN => r_find_next_2_ff_at30 hN c1 ek2 lk2 c3 (e N0 K B G sz sl hN), h⟩
    · rw [if_neg c3] at h
      obtain ⟨r, s9, e, h⟩ := h
      exact ⟨r, s9, fun N0 K B G sz sl hN => r_find_next_2_ft_at30 hN c1 ek2 lk2 c3 (e N0 K B G sz sl hN), h⟩
theorem T_find_next_30 {d : Nat} {x2 : Int32} {x3 : Int32} {x4 : Int32} {x5 : Int32} {s : mS} {Q : Int32 → mS → Prop} (h : if x2 ≤ x5 then (if x4 = 0 then (h_find_next_2 d x2 (x3 + (1 : Int32)) s Q) else (Q x3 s)) else (if x4 = 0 then (h_find_next_2 d x2 (x3 + (1 : Int32)) s Q) else (∃ k3 : Nat, (((24 : Int32) * x3) + x5) = nI k3 ∧ k3 < 1440 ∧ (∃ k4 : Nat, x5 = nI k4 ∧ k4 < 24 ∧ (if (lg_cmp (s.2.2 44 k3) (s.2.2 33 k4)) = 0 then (h_find_next_30 d x2 x3 (1 : Int32) (x5 + (1 : Int32)) s Q) else (h_find_next_30 d x2 x3 (0 : Int32) (x5 + (1 : Int32)) s Q)))))) : h_find_next_30 d x2 x3 x4 x5 s Q := by
  by_cases c1 : x2 ≤ x5
  · rw [if_pos c1] at h
    by_cases c2 : x4 = 0
    · rw [if_pos c2] at h
      obtain ⟨r, s9, e, h⟩ := h
      exact ⟨r, s9, fun N0 K B G sz sl hN => r_find_next_30_tt_at2 hN c1 c2 (e N0 K B G sz sl hN), h⟩
    · rw [if_neg c2] at h
      exact ⟨_, _, fun N0 K B G sz sl hN => r_find_next_30_tf hN c1 c2, h⟩
  · rw [if_neg c1] at h
    by_cases c2 : x4 = 0
    · rw [if_pos c2] at h
      obtain ⟨r, s9, e, h⟩ := h
      exact ⟨r, s9, fun N0 K B G sz sl hN => r_find_next_30_ftt_at2 hN c1 c2 c2 (e N0 K B G sz sl hN), h⟩
    · rw [if_neg c2] at h
      obtain ⟨k3, ek3, lk3, h⟩ := h
      obtain ⟨k4, ek4, lk4, h⟩ := h
      by_cases c5 : (lg_cmp (s.2.2 44 k3) (s.2.2 33 k4)) = 0
      · rw [if_pos c5] at h
        obtain ⟨r, s9, e, h⟩ := h
        exact ⟨r, s9, fun N0 K B G sz sl hN => r_find_next_30_fff_at30 hN c1 c2 ek3 lk3 ek4 lk4 c5 (e N0 K B G sz sl hN), h⟩
      · rw [if_neg c5] at h
        obtain ⟨r, s9, e, h⟩ := h
        exact ⟨r, s9, fun N0 K B G sz sl hN => r_find_next_30_fft_at30 hN c1 c2 ek3 lk3 ek4 lk4 c5 (e N0 K B G sz sl hN), h⟩
theorem T_find_now_0 {d : Nat} {p1 : Int32} {s : mS} {Q : Int32 → mS → Prop} (h : h_find_now_2 d p1 (0 : Int32) s Q) : h_find_now_0 d p1 s Q := by
  obtain ⟨r, s9, e, h⟩ := h
  exact ⟨r, s9, fun N0 K B G sz sl hN => r_find_now_0__at2 hN (e N0 K B G sz sl hN), h⟩
theorem m_find_now.of {d : Nat} {p1 : Int32} {s : mS} {Q : Int32 → mS → Prop} (h : h_find_now_0 d p1 s Q) : m_find_now (d + 1) p1 s Q := mC.of (fun _ => rfl) (by decide) (fun _ => Nat.le_of_ble_eq_true rfl) (fun _ => rfl) h
theorem q_find_now.of {d : Nat} {p1 : Int32} {s : mS} {Q : Int32 → Prop} (h : h_find_now_0 d p1 s (fun r s' => s' = s ∧ Q r)) : q_find_now (d + 1) p1 s Q := mQ.of (m_find_now.of h)
theorem T_find_now_2 {d : Nat} {x2 : Int32} {x3 : Int32} {s : mS} {Q : Int32 → mS → Prop} (h : if (s.1 43) ≤ x3 then (Q (-1 : Int32) s) else (∃ k2 : Nat, x3 = nI k2 ∧ k2 < 60 ∧ (if (s.2.1 45 k2) = x2 then (h_find_now_30 d x2 x3 (1 : Int32) (0 : Int32) s Q) else (h_find_now_30 d x2 x3 (0 : Int32) (0 : Int32) s Q)))) : h_find_now_2 d x2 x3 s Q := by
  by_cases c1 : (s.1 43) ≤ x3
  · rw [if_pos c1] at h
    exact ⟨_, _, fun N0 K B G sz sl hN => r_find_now_2_t hN c1, h⟩
  · rw [if_neg c1] at h
    obtain ⟨k2, ek2, lk2, h⟩ := h
    by_cases c3 : (s.2.1 45 k2) = x2
    · rw [if_pos c3] at h
      obtain ⟨r, s9, e, h⟩ := h
      exact ⟨r, s9, fun N0 K B G sz sl hN => r_find_now_2_ff_at30 hN c1 ek2 lk2 c3 (e N0 K B G sz sl hN), h⟩
    · rw [if_neg c3] at h
      obtain ⟨r, s9, e, h⟩ := h
      exact ⟨r, s9, fun N0 K B G sz sl hN => r_find_now_2_ft_at30 hN c1 ek2 lk2 c3 (e N0 K B G sz sl hN), h⟩
theorem T_find_now_30 {d : Nat} {x2 : Int32} {x3 : Int32} {x4 : Int32} {x5 : Int32} {s : mS} {Q : Int32 → mS → Prop} (h : if x2 ≤ x5 then (if x4 = 0 then (h_find_now_2 d x2 (x3 + (1 : Int32)) s Q) else (Q x3 s)) else (if x4 = 0 then (h_find_now_2 d x2 (x3 + (1 : Int32)) s Q) else (∃ k3 : Nat, (((24 : Int32) * x3) + x5) = nI k3 ∧ k3 < 1440 ∧ (∃ k4 : Nat, x5 = nI k4 ∧ k4 < 24 ∧ (if (lg_cmp (s.2.2 44 k3) (s.2.2 29 k4)) = 0 then (h_find_now_30 d x2 x3 (1 : Int32) (x5 + (1 : Int32)) s Q) else (h_find_now_30 d x2 x3 (0 : Int32) (x5 + (1 : Int32)) s Q)))))) : h_find_now_30 d x2 x3 x4 x5 s Q := by
  by_cases c1 : x2 ≤ x5
  · rw [if_pos c1] at h
    by_cases c2 : x4 = 0
    · rw [if_pos c2] at h
      obtain ⟨r, s9, e, h⟩ := h
      exact ⟨r, s9, fun N0 K B G sz sl hN => r_find_now_30_tt_at2 hN c1 c2 (e N0 K B G sz sl hN), h⟩
    · rw [if_neg c2] at h
      exact ⟨_, _, fun N0 K B G sz sl hN => r_find_now_30_tf hN c1 c2, h⟩
  · rw [if_neg c1] at h
    by_cases c2 : x4 = 0
    · rw [if_pos c2] at h
      obtain ⟨r, s9, e, h⟩ := h
      exact ⟨r, s9, fun N0 K B G sz sl hN => r_find_now_30_ftt_at2 hN c1 c2 c2 (e N0 K B G sz sl hN), h⟩
    · rw [if_neg c2] at h
      obtain ⟨k3, ek3, lk3, h⟩ := h
      obtain ⟨k4, ek4, lk4, h⟩ := h
      by_cases c5 : (lg_cmp (s.2.2 44 k3) (s.2.2 29 k4)) = 0
      · rw [if_pos c5] at h
        obtain ⟨r, s9, e, h⟩ := h
        exact ⟨r, s9, fun N0 K B G sz sl hN => r_find_now_30_fff_at30 hN c1 c2 ek3 lk3 ek4 lk4 c5 (e N0 K B G sz sl hN), h⟩
      · rw [if_neg c5] at h
        obtain ⟨r, s9, e, h⟩ := h
        exact ⟨r, s9, fun N0 K B G sz sl hN => r_find_now_30_fft_at30 hN c1 c2 ek3 lk3 ek4 lk4 c5 (e N0 K B G sz sl hN), h⟩
theorem T_comes_first_0 {d : Nat} {p1 : Int32} {s : mS} {Q : Unit → mS → Prop} (h : ∃ k1 : Nat, (s.1 43) = nI k1 ∧ k1 < 60 ∧ (h_comes_first_12 d p1 (0 : Int32) (mA s 45 (upd (s.2.1 45) k1 p1)) Q)) : h_comes_first_0 d p1 s Q := by
  obtain ⟨k1, ek1, lk1, h⟩ := h
  obtain ⟨r, s9, e, h⟩ := h
  exact ⟨r, s9, fun N0 K B G sz sl hN => r_comes_first_0__at12 hN ek1 lk1 (e N0 K B G sz sl hN), h⟩
theorem m_comes_first.of {d : Nat} {p1 : Int32} {s : mS} {Q : Unit → mS → Prop} (h : h_comes_first_0 d p1 s Q) : m_comes_first (d + 1) p1 s Q := mC.of (fun _ => rfl) (by decide) (fun _ => Nat.le_of_ble_eq_true rfl) (fun _ => rfl) h
theorem q_comes_first.of {d : Nat} {p1 : Int32} {s : mS} {Q : Unit → Prop} (h : h_comes_first_0 d p1 s (fun r s' => s' = s ∧ Q r)) : q_comes_first (d + 1) p1 s Q := mQ.of (m_comes_first.of h)
theorem T_comes_first_12 {d : Nat} {x2 : Int32} {x3 : Int32} {s : mS} {Q : Unit → mS → Prop} (h : if x2 ≤ x3 then (Q () (mI s 43 ((s.1 43) + (1 : Int32)))) else (∃ k2 : Nat, x3 = nI k2 ∧ k2 < 24 ∧ (∃ k3 : Nat, (((24 : Int32) * (s.1 43)) + x3) = nI k3 ∧ k3 < 1440 ∧ (h_comes_first_12 d x2 (x3 + (1 : Int32)) (mL s 44 (vp_updL (s.2.2 44) k3 (s.2.2 31 k2))) Q)))) : h_comes_first_12 d x2 x3 s Q := by
  by_cases c1 : x2 ≤ x3
  · rw [if_pos c1] at h
    exact ⟨_, _, fun N0 K B G sz sl hN => r_comes_first_12_t hN c1, h⟩
  · rw [if_neg c1] at h
    obtain ⟨k2, ek2, lk2, h⟩ := h
    obtain ⟨k3, ek3, lk3, h⟩ := h
    obtain ⟨r, s9, e, h⟩ := h
    exact ⟨r, s9, fun N0 K B G sz sl hN => r_comes_first_12_f_at12 hN c1 ek2 lk2 ek3 lk3 (e N0 K B G sz sl hN), h⟩
theorem T_comes_next_0 {d : Nat} {p1 : Int32} {s : mS} {Q : Unit → mS → Prop} (h : ∃ k1 : Nat, (s.1 43) = nI k1 ∧ k1 < 60 ∧ (h_comes_next_12 d p1 (0 : Int32) (mA s 45 (upd (s.2.1 45) k1 p1)) Q)) : h_comes_next_0 d p1 s Q := by
  obtain ⟨k1, ek1, lk1, h⟩ := h
  obtain ⟨r, s9, e, h⟩ := h
  exact ⟨r, s9, fun N0 K B G sz sl hN => r_comes_next_0__at12 hN ek1 lk1 (e N0 K B G sz sl hN), h⟩
theorem m_comes_next.of {d : Nat} {p1 : Int32} {s : mS} {Q : Unit → mS → Prop} (h : h_comes_next_0 d p1 s Q) : m_comes_next (d + 1) p1 s Q := mC.of (fun _ => rfl) (by decide) (fun _ => Nat.le_of_ble_eq_true rfl) (fun _ => rfl) h
theorem q_comes_next.of {d : Nat} {p1 : Int32} {s : mS} {Q : Unit → Prop} (h : h_comes_next_0 d p1 s (fun r s' => s' = s ∧ Q r)) : q_comes_next (d + 1) p1 s Q := mQ.of (m_comes_next.of h)
theorem T_comes_next_12 {d : Nat} {x2 : Int32} {x3 : Int32} {s : mS} {Q : Unit → mS → Prop} (h : if x2 ≤ x3 then (Q () (mI s 43 ((s.1 43) + (1 : Int32)))) else (∃ k2 : Nat, x3 = nI k2 ∧ k2 < 24 ∧ (∃ k3 : Nat, (((24 : Int32) * (s.1 43)) + x3) = nI k3 ∧ k3 < 1440 ∧ (h_comes_next_12 d x2 (x3 + (1 : Int32)) (mL s 44 (vp_updL (s.2.2 44) k3 (s.2.2 33 k2))) Q)))) : h_comes_next_12 d x2 x3 s Q := by
  by_cases c1 : x2 ≤ x3
  · rw [if_pos c1] at h
    exact ⟨_, _, fun N0 K B G sz sl hN => r_comes_next_12_t hN c1, h⟩
  · rw [if_neg c1] at h
    obtain ⟨k2, ek2, lk2, h⟩ := h
    obtain ⟨k3, ek3, lk3, h⟩ := h
    obtain ⟨r, s9, e, h⟩ := h
    exact ⟨r, s9, fun N0 K B G sz sl hN => r_comes_next_12_f_at12 hN c1 ek2 lk2 ek3 lk3 (e N0 K B G sz sl hN), h⟩
theorem T_looksAt_0 {d : Nat} {p0 : Int32} {s : mS} {Q : Int32 → mS → Prop} (h : ∃ k1 : Nat, p0 = nI k1 ∧ k1 < 61 ∧ (∃ k2 : Nat, (p0 + (1 : Int32)) = nI k2 ∧ k2 < 61 ∧ (∃ k3 : Nat, p0 = nI k3 ∧ k3 < 60 ∧ (m_inState_stateTerm d ((24 : Int32) * p0) (s.2.1 45 k3) (mA (mA s 46 (upd (s.2.1 46) k2 (s.2.1 46 k1))) 48 (upd (s.2.1 48) k3 (0 : Int32))) (fun _ s6 => if (s6.1 23) = 0 then (q_isEnd d s6 (fun r8 => if r8 = 0 then (m_legal d (0 : Int32) s6 (fun _ s12 => h_looksAt_113 d p0 (s12.1 38) (0 : Int32) s12 Q)) else (m_goalOf d (0 : Int32) s6 (fun r11 s13 => m_goalOf d (1 : Int32) s13 (fun r14 s16 => if r11 < 0 then (Q (4 : Int32) (mA s16 49 (upd (s16.2.1 49) k3 r11))) else (if 0 ≤ r14 then (if (r11 + r14) = (8 : Int32) then (Q (0 : Int32) (mA s16 49 (upd (s16.2.1 49) k3 r11))) else (Q (5 : Int32) (mA s16 49 (upd (s16.2.1 49) k3 r11)))) else (Q (4 : Int32) (mA s16 49 (upd (s16.2.1 49) k3 r11))))))))) else (Q (7 : Int32) s6)))))) : h_looksAt_0 d p0 s Q := by
  obtain ⟨k1, ek1, lk1, h⟩ := h
  obtain ⟨k2, ek2, lk2, h⟩ := h
  obtain ⟨k3, ek3, lk3, h⟩ := h
  obtain ⟨_r, s6, t5, h⟩ := h
  by_cases c7 : (s6.1 23) = 0
  · rw [if_pos c7] at h
    obtain ⟨r8, t9, h⟩ := h
    by_cases c10 : r8 = 0
    · rw [if_pos c10] at h
      obtain ⟨_r, s12, t11, h⟩ := h
      obtain ⟨r, s9, e, h⟩ := h
      exact ⟨r, s9, fun N0 K B G sz sl hN => r_looksAt_0_tt_at113 hN ek1 lk1 ek2 lk2 ek3 lk3 ek3 lk3 (t5 N0 K B G sz hN) c7 (t9 N0 K B G sz hN) c10 (t11 N0 K B G sz hN) (e N0 K B G sz sl hN), h⟩
    · rw [if_neg c10] at h
      obtain ⟨r11, s13, t12, h⟩ := h
      obtain ⟨r14, s16, t15, h⟩ := h
      by_cases c18 : r11 < 0
      · rw [if_pos c18] at h
        exact ⟨_, _, fun N0 K B G sz sl hN => r_looksAt_0_tft hN ek1 lk1 ek2 lk2 ek3 lk3 ek3 lk3 (t5 N0 K B G sz hN) c7 (t9 N0 K B G sz hN) c10 (t12 N0 K B G sz hN) (t15 N0 K B G sz hN) ek3 lk3 c18, h⟩
      · rw [if_neg c18] at h
        by_cases c19 : 0 ≤ r14
        · rw [if_pos c19] at h
          by_cases c20 : (r11 + r14) = (8 : Int32)
          · rw [if_pos c20] at h
            exact ⟨_, _, fun N0 K B G sz sl hN => r_looksAt_0_tfftt hN ek1 lk1 ek2 lk2 ek3 lk3 ek3 lk3 (t5 N0 K B G sz hN) c7 (t9 N0 K B G sz hN) c10 (t12 N0 K B G sz hN) (t15 N0 K B G sz hN) ek3 lk3 c18 c19 c20, h⟩
          · rw [if_neg c20] at h
            exact ⟨_, _, fun N0 K B G sz sl hN => r_looksAt_0_tfftf hN ek1 lk1 ek2 lk2 ek3 lk3 ek3 lk3 (t5 N0 K B G sz hN) c7 (t9 N0 K B G sz hN) c10 (t12 N0 K B G sz hN) (t15 N0 K B G sz hN) ek3 lk3 c18 c19 c20, h⟩
        · rw [if_neg c19] at h
          exact ⟨_, _, fun N0 K B G sz sl hN => r_looksAt_0_tfff hN ek1 lk1 ek2 lk2 ek3 lk3 ek3 lk3 (t5 N0 K B G sz hN) c7 (t9 N0 K B G sz hN) c10 (t12 N0 K B G sz hN) (t15 N0 K B G sz hN) ek3 lk3 c18 c19, h⟩
  · rw [if_neg c7] at h
    exact ⟨_, _, fun N0 K B G sz sl hN => r_looksAt_0_f hN ek1 lk1 ek2 lk2 ek3 lk3 ek3 lk3 (t5 N0 K B G sz hN) c7, h⟩
theorem m_looksAt.of {d : Nat} {p0 : Int32} {s : mS} {Q : Int32 → mS → Prop} (h : h_looksAt_0 d p0 s Q) : m_looksAt (d + 1) p0 s Q := mC.of (fun _ => rfl) (by decide) (fun _ => Nat.le_of_ble_eq_true rfl) (fun _ => rfl) h
theorem q_looksAt.of {d : Nat} {p0 : Int32} {s : mS} {Q : Int32 → Prop} (h : h_looksAt_0 d p0 s (fun r s' => s' = s ∧ Q r)) : q_looksAt (d + 1) p0 s Q := mQ.of (m_looksAt.of h)
theorem T_looksAt_113 {d : Nat} {x1 : Int32} {x2 : Int32} {x3 : Int32} {s : mS} {Q : Int32 → mS → Prop} (h : if x2 ≤ x3 then (m_legal d (1 : Int32) s (fun _ s3 => h_looksAt_149 d x1 x2 (s3.1 38) (0 : Int32) s3 Q)) else (∃ k2 : Nat, x3 = nI k2 ∧ k2 < 201 ∧ (h_looksAt_113 d x1 x2 (x3 + (1 : Int32)) (mL s 39 (vp_updL (s.2.2 39) k2 (s.2.2 37 k2))) Q))) : h_looksAt_113 d x1 x2 x3 s Q := by
  by_cases c1 : x2 ≤ x3
  · rw [if_pos c1] at h
    obtain ⟨_r, s3, t2, h⟩ := h
    obtain ⟨r, s9, e, h⟩ := h
    exact ⟨r, s9, fun N0 K B G sz sl hN => r_looksAt_113_t_at149 hN c1 (t2 N0 K B G sz hN) (e N0 K B G sz sl hN), h⟩
  · rw [if_neg c1] at h
    obtain ⟨k2, ek2, lk2, h⟩ := h
    obtain ⟨r, s9, e, h⟩ := h
    exact ⟨r, s9, fun N0 K B G sz sl hN => r_looksAt_113_f_at113 hN c1 ek2 lk2 ek2 lk2 (e N0 K B G sz sl hN), h⟩
theorem T_looksAt_149 {d : Nat} {x1 : Int32} {x2 : Int32} {x3 : Int32} {x4 : Int32} {s : mS} {Q : Int32 → mS → Prop} (h : if x3 ≤ x4 then (if x2 = 0 then (Q (2 : Int32) s) else (if x3 = 0 then (Q (2 : Int32) s) else (if x2 ≤ (1 : Int32) then (∃ k5 : Nat, x1 = nI k5 ∧ k5 < 60 ∧ (h_looksAt_207 d x1 x2 x3 (0 : Int32) (mA s 48 (upd (s.2.1 48) k5 x3)) Q)) else (if x3 ≤ (1 : Int32) then (∃ k6 : Nat, x1 = nI k6 ∧ k6 < 60 ∧ (h_looksAt_207 d x1 x2 x3 (0 : Int32) (mA s 48 (upd (s.2.1 48) k6 x3)) Q)) else (Q (3 : Int32) s))))) else (∃ k2 : Nat, x4 = nI k2 ∧ k2 < 201 ∧ (h_looksAt_149 d x1 x2 x3 (x4 + (1 : Int32)) (mL s 40 (vp_updL (s.2.2 40) k2 (s.2.2 37 k2))) Q))) : h_looksAt_149 d x1 x2 x3 x4 s Q := by
  by_cases c1 : x3 ≤ x4
  · rw [if_pos c1] at h
    by_cases c2 : x2 = 0
    · rw [if_pos c2] at h
      exact ⟨_, _, fun N0 K B G sz sl hN => r_looksAt_149_tt hN c1 c2, h⟩
    · rw [if_neg c2] at h
      by_cases c3 : x3 = 0
      · rw [if_pos c3] at h
        exact ⟨_, _, fun N0 K B G sz sl hN => r_looksAt_149_tff hN c1 c2 c3, h⟩
      · rw [if_neg c3] at h
        by_cases c4 : x2 ≤ (1 : Int32)
        · rw [if_pos c4] at h
          obtain ⟨k5, ek5, lk5, h⟩ := h
          obtain ⟨r, s9, e, h⟩ := h
          exact ⟨r, s9, fun N0 K B G sz sl hN => r_looksAt_149_tftt_at207 hN c1 c2 c3 c4 ek5 lk5 (e N0 K B G sz sl hN), h⟩
        · rw [if_neg c4] at h
          by_cases c5 : x3 ≤ (1 : Int32)
          · rw [if_pos c5] at h
            obtain ⟨k6, ek6, lk6, h⟩ := h
            obtain ⟨r, s9, e, h⟩ := h
            exact ⟨r, s9, fun N0 K B G sz sl hN => r_looksAt_149_tftft_at207 hN c1 c2 c3 c4 c5 ek6 lk6 (e N0 K B G sz sl hN), h⟩
          · rw [if_neg c5] at h
            exact ⟨_, _, fun N0 K B G sz sl hN => r_looksAt_149_tftff hN c1 c2 c3 c4 c5, h⟩
  · rw [if_neg c1] at h
    obtain ⟨k2, ek2, lk2, h⟩ := h
    obtain ⟨r, s9, e, h⟩ := h
    exact ⟨r, s9, fun N0 K B G sz sl hN => r_looksAt_149_f_at149 hN c1 ek2 lk2 ek2 lk2 (e N0 K B G sz sl hN), h⟩
theorem T_looksAt_207 {d : Nat} {x1 : Int32} {x2 : Int32} {x3 : Int32} {x4 : Int32} {s : mS} {Q : Int32 → mS → Prop} (h : if (x2 * x3) ≤ x4 then (Q (0 : Int32) s) else (∃ k2 : Nat, x1 = nI k2 ∧ k2 < 60 ∧ ((¬ x3 = 0) ∧ (∃ k4 : Nat, (x4 / x3) = nI k4 ∧ k4 < 201 ∧ ((¬ x3 = 0) ∧ (∃ k6 : Nat, (x4 - x4 / x3 * x3) = nI k6 ∧ k6 < 201 ∧ (m_leadsOn_stateTerm d ((24 : Int32) * x1) (s.2.1 45 k2) (s.2.2 39 k4) (s.2.2 40 k6) s (fun r7 s9 => if r7 = 0 then (Q (7 : Int32) s9) else (q_find_next d (s9.1 34) s9 (fun r11 => if 0 ≤ r11 then (∃ k15 : Nat, (x1 + (1 : Int32)) = nI k15 ∧ k15 < 61 ∧ (∃ k16 : Nat, (s9.2.1 46 k15) = nI k16 ∧ k16 < 12500 ∧ (h_looksAt_207 d x1 x2 x3 (x4 + (1 : Int32)) (mA (mA s9 47 (upd (s9.2.1 47) k16 r11)) 46 (upd (s9.2.1 46) k15 ((s9.2.1 46 k15) + (1 : Int32)))) Q))) else (if (s9.1 43) = (60 : Int32) then (Q (7 : Int32) s9) else (m_comes_next d (s9.1 34) s9 (fun _ s17 => ∃ k18 : Nat, (x1 + (1 : Int32)) = nI k18 ∧ k18 < 61 ∧ (∃ k19 : Nat, (s17.2.1 46 k18) = nI k19 ∧ k19 < 12500 ∧ (h_looksAt_207 d x1 x2 x3 (x4 + (1 : Int32)) (mA (mA s17 47 (upd (s17.2.1 47) k19 (s9.1 43))) 46 (upd (s17.2.1 46) k18 ((s17.2.1 46 k18) + (1 : Int32)))) Q))))))))))))))) : h_looksAt_207 d x1 x2 x3 x4 s Q := by
  by_cases c1 : (x2 * x3) ≤ x4
  · rw [if_pos c1] at h
    exact ⟨_, _, fun N0 K B G sz sl hN => r_looksAt_207_t hN c1, h⟩
  · rw [if_neg c1] at h
    obtain ⟨k2, ek2, lk2, h⟩ := h
    obtain ⟨z3, h⟩ := h
    obtain ⟨k4, ek4, lk4, h⟩ := h
    obtain ⟨z5, h⟩ := h
    obtain ⟨k6, ek6, lk6, h⟩ := h
    obtain ⟨r7, s9, t8, h⟩ := h
    by_cases c10 : r7 = 0
    · rw [if_pos c10] at h
      exact ⟨_, _, fun N0 K B G sz sl hN => r_looksAt_207_ff hN c1 ek2 lk2 z3 ek4 lk4 z5 ek6 lk6 (t8 N0 K B G sz hN) c10, h⟩
    · rw [if_neg c10] at h
      obtain ⟨r11, t12, h⟩ := h
      by_cases c13 : 0 ≤ r11
      · rw [if_pos c13] at h
        obtain ⟨k15, ek15, lk15, h⟩ := h
        obtain ⟨k16, ek16, lk16, h⟩ := h
        obtain ⟨r, s9, e, h⟩ := h
        exact ⟨r, s9, fun N0 K B G sz sl hN => r_looksAt_207_fttt_at207 hN c1 ek2 lk2 z3 ek4 lk4 z5 ek6 lk6 (t8 N0 K B G sz hN) c10 (t12 N0 K B G sz hN) c13 c13 ek15 lk15 ek16 lk16 ek15 lk15 ek15 lk15 (e N0 K B G sz sl hN), h⟩
      · rw [if_neg c13] at h
        by_cases c14 : (s9.1 43) = (60 : Int32)
        · rw [if_pos c14] at h
          exact ⟨_, _, fun N0 K B G sz sl hN => r_looksAt_207_ftff hN c1 ek2 lk2 z3 ek4 lk4 z5 ek6 lk6 (t8 N0 K B G sz hN) c10 (t12 N0 K B G sz hN) c13 c14, h⟩
        · rw [if_neg c14] at h
          obtain ⟨_r, s17, t16, h⟩ := h
          obtain ⟨k18, ek18, lk18, h⟩ := h
          obtain ⟨k19, ek19, lk19, h⟩ := h
          obtain ⟨r, s9, e, h⟩ := h
          exact ⟨r, s9, fun N0 K B G sz sl hN => r_looksAt_207_ftftf_at207 hN c1 ek2 lk2 z3 ek4 lk4 z5 ek6 lk6 (t8 N0 K B G sz hN) c10 (t12 N0 K B G sz hN) c13 c14 c13 (t16 N0 K B G sz hN) ek18 lk18 ek19 lk19 ek18 lk18 ek18 lk18 (e N0 K B G sz sl hN), h⟩
theorem T_weighs_0 {d : Nat} {s : mS} {Q : Int32 → mS → Prop} (h : h_weighs_6 d (1 : Int32) (0 : Int32) (0 : Int32) s Q) : h_weighs_0 d s Q := by
  obtain ⟨r, s9, e, h⟩ := h
  exact ⟨r, s9, fun N0 K B G sz sl hN => r_weighs_0__at6 hN (e N0 K B G sz sl hN), h⟩
theorem m_weighs.of {d : Nat} {s : mS} {Q : Int32 → mS → Prop} (h : h_weighs_0 d s Q) : m_weighs (d + 1) s Q := mC.of (fun _ => rfl) (by decide) (fun _ => Nat.le_of_ble_eq_true rfl) (fun _ => rfl) h
theorem q_weighs.of {d : Nat} {s : mS} {Q : Int32 → Prop} (h : h_weighs_0 d s (fun r s' => s' = s ∧ Q r)) : q_weighs (d + 1) s Q := mQ.of (m_weighs.of h)
theorem T_weighs_6 {d : Nat} {x1 : Int32} {x2 : Int32} {x3 : Int32} {s : mS} {Q : Int32 → mS → Prop} (h : if (s.1 43) ≤ x3 then (h_weighs_36 d x1 x2 s Q) else (∃ k2 : Nat, x3 = nI k2 ∧ k2 < 60 ∧ (if (s.2.1 48 k2) ≤ 0 then (h_weighs_6 d x1 x2 (x3 + (1 : Int32)) s Q) else (h_weighs_6 d x1 x2 (x3 + (1 : Int32)) (mA s 49 (upd (s.2.1 49) k2 (-1 : Int32))) Q)))) : h_weighs_6 d x1 x2 x3 s Q := by
  by_cases c1 : (s.1 43) ≤ x3
  · rw [if_pos c1] at h
    obtain ⟨r, s9, e, h⟩ := h
    exact ⟨r, s9, fun N0 K B G sz sl hN => r_weighs_6_t_at36 hN c1 (e N0 K B G sz sl hN), h⟩
  · rw [if_neg c1] at h
    obtain ⟨k2, ek2, lk2, h⟩ := h
    by_cases c3 : (s.2.1 48 k2) ≤ 0
    · rw [if_pos c3] at h
      obtain ⟨r, s9, e, h⟩ := h
      exact ⟨r, s9, fun N0 K B G sz sl hN => r_weighs_6_ft_at6 hN c1 ek2 lk2 c3 (e N0 K B G sz sl hN), h⟩
    · rw [if_neg c3] at h
      obtain ⟨r, s9, e, h⟩ := h
      exact ⟨r, s9, fun N0 K B G sz sl hN => r_weighs_6_ff_at6 hN c1 ek2 lk2 c3 ek2 lk2 (e N0 K B G sz sl hN), h⟩
theorem T_weighs_36 {d : Nat} {x1 : Int32} {x2 : Int32} {s : mS} {Q : Int32 → mS → Prop} (h : if x1 = 0 then (if x2 = 0 then (Q (1 : Int32) s) else (Q (0 : Int32) s)) else (h_weighs_46 d (0 : Int32) (0 : Int32) (0 : Int32) s Q)) : h_weighs_36 d x1 x2 s Q := by
  by_cases c1 : x1 = 0
  · rw [if_pos c1] at h
    by_cases c2 : x2 = 0
    · rw [if_pos c2] at h
      exact ⟨_, _, fun N0 K B G sz sl hN => r_weighs_36_tf hN c1 c2, h⟩
    · rw [if_neg c2] at h
      exact ⟨_, _, fun N0 K B G sz sl hN => r_weighs_36_tt hN c1 c2, h⟩
  · rw [if_neg c1] at h
    obtain ⟨r, s9, e, h⟩ := h
    exact ⟨r, s9, fun N0 K B G sz sl hN => r_weighs_36_f_at46 hN c1 (e N0 K B G sz sl hN), h⟩
theorem T_weighs_46 {d : Nat} {x1 : Int32} {x2 : Int32} {x3 : Int32} {s : mS} {Q : Int32 → mS → Prop} (h : if (s.1 43) ≤ x3 then (h_weighs_36 d x1 x2 s Q) else (∃ k2 : Nat, x3 = nI k2 ∧ k2 < 60 ∧ (if (s.2.1 49 k2) < 0 then (∃ k4 : Nat, x3 = nI k4 ∧ k4 < 61 ∧ (h_weighs_83 d x1 (x2 + (1 : Int32)) x3 (-1 : Int32) (1 : Int32) (s.2.1 46 k4) s Q)) else (h_weighs_46 d x1 x2 (x3 + (1 : Int32)) s Q)))) : h_weighs_46 d x1 x2 x3 s Q := by
  by_cases c1 : (s.1 43) ≤ x3
  · rw [if_pos c1] at h
    obtain ⟨r, s9, e, h⟩ := h
    exact ⟨r, s9, fun N0 K B G sz sl hN => r_weighs_46_t_at36 hN c1 (e N0 K B G sz sl hN), h⟩
  · rw [if_neg c1] at h
    obtain ⟨k2, ek2, lk2, h⟩ := h
    by_cases c3 : (s.2.1 49 k2) < 0
    · rw [if_pos c3] at h
      obtain ⟨k4, ek4, lk4, h⟩ := h
      obtain ⟨r, s9, e, h⟩ := h
      exact ⟨r, s9, fun N0 K B G sz sl hN => r_weighs_46_ft_at83 hN c1 ek2 lk2 c3 ek4 lk4 (e N0 K B G sz sl hN), h⟩
    · rw [if_neg c3] at h
      obtain ⟨r, s9, e, h⟩ := h
      exact ⟨r, s9, fun N0 K B G sz sl hN => r_weighs_46_ff_at46 hN c1 ek2 lk2 c3 (e N0 K B G sz sl hN), h⟩
theorem T_weighs_83 {d : Nat} {x1 : Int32} {x2 : Int32} {x3 : Int32} {x4 : Int32} {x5 : Int32} {x6 : Int32} {s : mS} {Q : Int32 → mS → Prop} (h : ∃ k1 : Nat, (x3 + (1 : Int32)) = nI k1 ∧ k1 < 61 ∧ (if (s.2.1 46 k1) ≤ x6 then (if x5 = 0 then (∃ k4 : Nat, x3 = nI k4 ∧ k4 < 60 ∧ (if x1 = 0 then (h_weighs_46 d (0 : Int32) x2 (x3 + (1 : Int32)) (mA s 49 (upd (s.2.1 49) k4 (-1 : Int32))) Q) else (h_weighs_46 d (1 : Int32) x2 (x3 + (1 : Int32)) (mA s 49 (upd (s.2.1 49) k4 (-1 : Int32))) Q))) else (∃ k4 : Nat, x3 = nI k4 ∧ k4 < 60 ∧ (if x1 = 0 then (h_weighs_46 d (1 : Int32) x2 (x3 + (1 : Int32)) (mA s 49 (upd (s.2.1 49) k4 x4)) Q) else (h_weighs_46 d (1 : Int32) x2 (x3 + (1 : Int32)) (mA s 49 (upd (s.2.1 49) k4 x4)) Q)))) else (∃ k3 : Nat, x6 = nI k3 ∧ k3 < 12500 ∧ (∃ k4 : Nat, (s.2.1 47 k3) = nI k4 ∧ k4 < 60 ∧ (if x5 = 0 then (if x4 < 0 then (h_weighs_83 d x1 x2 x3 (s.2.1 49 k4) (0 : Int32) (x6 + (1 : Int32)) s Q) else (∃ k7 : Nat, x3 = nI k7 ∧ k7 < 60 ∧ (if (s.2.1 48 k7) = (1 : Int32) then (if (s.2.1 49 k4) ≤ x4 then (h_weighs_83 d x1 x2 x3 x4 (0 : Int32) (x6 + (1 : Int32)) s Q) else (h_weighs_83 d x1 x2 x3 (s.2.1 49 k4) (0 : Int32) (x6 + (1 : Int32)) s Q)) else (if x4 ≤ (s.2.1 49 k4) then (h_weighs_83 d x1 x2 x3 x4 (0 : Int32) (x6 + (1 : Int32)) s Q) else (h_weighs_83 d x1 x2 x3 (s.2.1 49 k4) (0 : Int32) (x6 + (1 : Int32)) s Q))))) else (if (s.2.1 49 k4) < 0 then (if x4 < 0 then (h_weighs_83 d x1 x2 x3 (s.2.1 49 k4) (0 : Int32) (x6 + (1 : Int32)) s Q) else (∃ k8 : Nat, x3 = nI k8 ∧ k8 < 60 ∧ (if (s.2.1 48 k8) = (1 : Int32) then (if (s.2.1 49 k4) ≤ x4 then (h_weighs_83 d x1 x2 x3 x4 (0 : Int32) (x6 + (1 : Int32)) s Q) else (h_weighs_83 d x1 x2 x3 (s.2.1 49 k4) (0 : Int32) (x6 + (1 : Int32)) s Q)) else (if x4 ≤ (s.2.1 49 k4) then (h_weighs_83 d x1 x2 x3 x4 (0 : Int32) (x6 + (1 : Int32)) s Q) else (h_weighs_83 d x1 x2 x3 (s.2.1 49 k4) (0 : Int32) (x6 + (1 : Int32)) s Q))))) else (if x4 < 0 then (h_weighs_83 d x1 x2 x3 (s.2.1 49 k4) (1 : Int32) (x6 + (1 : Int32)) s Q) else (∃ k8 : Nat, x3 = nI k8 ∧ k8 < 60 ∧ (if (s.2.1 48 k8) = (1 : Int32) then (if (s.2.1 49 k4) ≤ x4 then (h_weighs_83 d x1 x2 x3 x4 (1 : Int32) (x6 + (1 : Int32)) s Q) else (h_weighs_83 d x1 x2 x3 (s.2.1 49 k4) (1 : Int32) (x6 + (1 : Int32)) s Q)) else (if x4 ≤ (s.2.1 49 k4) then (h_weighs_83 d x1 x2 x3 x4 (1 : Int32) (x6 + (1 : Int32)) s Q) else (h_weighs_83 d x1 x2 x3 (s.2.1 49 k4) (1 : Int32) (x6 + (1 : Int32)) s Q))))))))))) : h_weighs_83 d x1 x2 x3 x4 x5 x6 s Q := by
  obtain ⟨k1, ek1, lk1, h⟩ := h
  by_cases c2 : (s.2.1 46 k1) ≤ x6
  · rw [if_pos c2] at h
    by_cases c3 : x5 = 0
    · rw [if_pos c3] at h
      obtain ⟨k4, ek4, lk4, h⟩ := h
      by_cases c5 : x1 = 0
      · rw [if_pos c5] at h
        obtain ⟨r, s9, e, h⟩ := h
        exact ⟨r, s9, fun N0 K B G sz sl hN => r_weighs_83_ttft_at46 hN ek1 lk1 c2 c3 ek4 lk4 c5 c3 (e N0 K B G sz sl hN), h⟩
      · rw [if_neg c5] at h
        obtain ⟨r, s9, e, h⟩ := h
        exact ⟨r, s9, fun N0 K B G sz sl hN => r_weighs_83_ttt_at46 hN ek1 lk1 c2 c3 ek4 lk4 c5 (e N0 K B G sz sl hN), h⟩
    · rw [if_neg c3] at h
      obtain ⟨k4, ek4, lk4, h⟩ := h
      by_cases c5 : x1 = 0
      · rw [if_pos c5] at h
        obtain ⟨r, s9, e, h⟩ := h
        exact ⟨r, s9, fun N0 K B G sz sl hN => r_weighs_83_tfff_at46 hN ek1 lk1 c2 c3 ek4 lk4 c5 c3 (e N0 K B G sz sl hN), h⟩
      · rw [if_neg c5] at h
        obtain ⟨r, s9, e, h⟩ := h
        exact ⟨r, s9, fun N0 K B G sz sl hN => r_weighs_83_tft_at46 hN ek1 lk1 c2 c3 ek4 lk4 c5 (e N0 K B G sz sl hN), h⟩
  · rw [if_neg c2] at h
    obtain ⟨k3, ek3, lk3, h⟩ := h
    obtain ⟨k4, ek4, lk4, h⟩ := h
    by_cases c5 : x5 = 0
    · rw [if_pos c5] at h
      by_cases c6 : x4 < 0
      · rw [if_pos c6] at h
        obtain ⟨r, s9, e, h⟩ := h
        exact ⟨r, s9, fun N0 K B G sz sl hN => r_weighs_83_ftt_at83 hN ek1 lk1 c2 ek3 lk3 ek4 lk4 c5 c6 (e N0 K B G sz sl hN), h⟩
      · rw [if_neg c6] at h
        obtain ⟨k7, ek7, lk7, h⟩ := h
        by_cases c8 : (s.2.1 48 k7) = (1 : Int32)
        · rw [if_pos c8] at h
          by_cases c9 : (s.2.1 49 k4) ≤ x4
          · rw [if_pos c9] at h
            obtain ⟨r, s9, e, h⟩ := h
            exact ⟨r, s9, fun N0 K B G sz sl hN => r_weighs_83_ftfft_at83 hN ek1 lk1 c2 ek3 lk3 ek4 lk4 c5 c6 ek7 lk7 c8 c9 (e N0 K B G sz sl hN), h⟩
          · rw [if_neg c9] at h
            obtain ⟨r, s9, e, h⟩ := h
            exact ⟨r, s9, fun N0 K B G sz sl hN => r_weighs_83_ftfff_at83 hN ek1 lk1 c2 ek3 lk3 ek4 lk4 c5 c6 ek7 lk7 c8 c9 (e N0 K B G sz sl hN), h⟩
        · rw [if_neg c8] at h
          by_cases c9 : x4 ≤ (s.2.1 49 k4)
          · rw [if_pos c9] at h
            obtain ⟨r, s9, e, h⟩ := h
            exact ⟨r, s9, fun N0 K B G sz sl hN => r_weighs_83_ftftt_at83 hN ek1 lk1 c2 ek3 lk3 ek4 lk4 c5 c6 ek7 lk7 c8 c9 (e N0 K B G sz sl hN), h⟩
          · rw [if_neg c9] at h
            obtain ⟨r, s9, e, h⟩ := h
            exact ⟨r, s9, fun N0 K B G sz sl hN => r_weighs_83_ftftf_at83 hN ek1 lk1 c2 ek3 lk3 ek4 lk4 c5 c6 ek7 lk7 c8 c9 (e N0 K B G sz sl hN), h⟩
    · rw [if_neg c5] at h
      by_cases c6 : (s.2.1 49 k4) < 0
      · rw [if_pos c6] at h
        by_cases c7 : x4 < 0
        · rw [if_pos c7] at h
          obtain ⟨r, s9, e, h⟩ := h
          exact ⟨r, s9, fun N0 K B G sz sl hN => r_weighs_83_fftt_at83 hN ek1 lk1 c2 ek3 lk3 ek4 lk4 c5 c6 c7 (e N0 K B G sz sl hN), h⟩
        · rw [if_neg c7] at h
          obtain ⟨k8, ek8, lk8, h⟩ := h
          by_cases c9 : (s.2.1 48 k8) = (1 : Int32)
          · rw [if_pos c9] at h
            by_cases c10 : (s.2.1 49 k4) ≤ x4
            · rw [if_pos c10] at h
              obtain ⟨r, s9, e, h⟩ := h
              exact ⟨r, s9, fun N0 K B G sz sl hN => r_weighs_83_fftfft_at83 hN ek1 lk1 c2 ek3 lk3 ek4 lk4 c5 c6 c7 ek8 lk8 c9 c10 (e N0 K B G sz sl hN), h⟩
            · rw [if_neg c10] at h
              obtain ⟨r, s9, e, h⟩ := h
              exact ⟨r, s9, fun N0 K B G sz sl hN => r_weighs_83_fftfff_at83 hN ek1 lk1 c2 ek3 lk3 ek4 lk4 c5 c6 c7 ek8 lk8 c9 c10 (e N0 K B G sz sl hN), h⟩
          · rw [if_neg c9] at h
            by_cases c10 : x4 ≤ (s.2.1 49 k4)
            · rw [if_pos c10] at h
              obtain ⟨r, s9, e, h⟩ := h
              exact ⟨r, s9, fun N0 K B G sz sl hN => r_weighs_83_fftftt_at83 hN ek1 lk1 c2 ek3 lk3 ek4 lk4 c5 c6 c7 ek8 lk8 c9 c10 (e N0 K B G sz sl hN), h⟩
            · rw [if_neg c10] at h
              obtain ⟨r, s9, e, h⟩ := h
              exact ⟨r, s9, fun N0 K B G sz sl hN => r_weighs_83_fftftf_at83 hN ek1 lk1 c2 ek3 lk3 ek4 lk4 c5 c6 c7 ek8 lk8 c9 c10 (e N0 K B G sz sl hN), h⟩
      · rw [if_neg c6] at h
        by_cases c7 : x4 < 0
        · rw [if_pos c7] at h
          obtain ⟨r, s9, e, h⟩ := h
          exact ⟨r, s9, fun N0 K B G sz sl hN => r_weighs_83_ffft_at83 hN ek1 lk1 c2 ek3 lk3 ek4 lk4 c5 c6 c7 (e N0 K B G sz sl hN), h⟩
        · rw [if_neg c7] at h
          obtain ⟨k8, ek8, lk8, h⟩ := h
          by_cases c9 : (s.2.1 48 k8) = (1 : Int32)
          · rw [if_pos c9] at h
            by_cases c10 : (s.2.1 49 k4) ≤ x4
            · rw [if_pos c10] at h
              obtain ⟨r, s9, e, h⟩ := h
              exact ⟨r, s9, fun N0 K B G sz sl hN => r_weighs_83_ffffft_at83 hN ek1 lk1 c2 ek3 lk3 ek4 lk4 c5 c6 c7 ek8 lk8 c9 c10 (e N0 K B G sz sl hN), h⟩
            · rw [if_neg c10] at h
              obtain ⟨r, s9, e, h⟩ := h
              exact ⟨r, s9, fun N0 K B G sz sl hN => r_weighs_83_ffffff_at83 hN ek1 lk1 c2 ek3 lk3 ek4 lk4 c5 c6 c7 ek8 lk8 c9 c10 (e N0 K B G sz sl hN), h⟩
          · rw [if_neg c9] at h
            by_cases c10 : x4 ≤ (s.2.1 49 k4)
            · rw [if_pos c10] at h
              obtain ⟨r, s9, e, h⟩ := h
              exact ⟨r, s9, fun N0 K B G sz sl hN => r_weighs_83_fffftt_at83 hN ek1 lk1 c2 ek3 lk3 ek4 lk4 c5 c6 c7 ek8 lk8 c9 c10 (e N0 K B G sz sl hN), h⟩
            · rw [if_neg c10] at h
              obtain ⟨r, s9, e, h⟩ := h
              exact ⟨r, s9, fun N0 K B G sz sl hN => r_weighs_83_fffftf_at83 hN ek1 lk1 c2 ek3 lk3 ek4 lk4 c5 c6 c7 ek8 lk8 c9 c10 (e N0 K B G sz sl hN), h⟩
theorem T_examine_0 {d : Nat} {s : mS} {Q : Int32 → mS → Prop} (h : m_comes_first d (s.1 32) (mI (mI (mI s 41 (1 : Int32)) 24 (0 : Int32)) 43 (0 : Int32)) (fun _ s2 => if (s2.1 36) = (2 : Int32) then (h_examine_46 d (0 : Int32) (mA s2 46 (upd (s2.2.1 46) 0 (0 : Int32))) Q) else (Q (1 : Int32) s2))) : h_examine_0 d s Q := by
  obtain ⟨_r, s2, t1, h⟩ := h
  by_cases c3 : (s2.1 36) = (2 : Int32)
  · rw [if_pos c3] at h
    obtain ⟨r, s9, e, h⟩ := h
    exact ⟨r, s9, fun N0 K B G sz sl hN => r_examine_0_t_at46 hN (t1 N0 K B G sz hN) c3 rfl (by decide) (e N0 K B G sz sl hN), h⟩
  · rw [if_neg c3] at h
    exact ⟨_, _, fun N0 K B G sz sl hN => r_examine_0_f hN (t1 N0 K B G sz hN) c3, h⟩
theorem m_examine.of {d : Nat} {s : mS} {Q : Int32 → mS → Prop} (h : h_examine_0 d s Q) : m_examine (d + 1) s Q := mC.of (fun _ => rfl) (by decide) (fun _ => Nat.le_of_ble_eq_true rfl) (fun _ => rfl) h
theorem q_examine.of {d : Nat} {s : mS} {Q : Int32 → Prop} (h : h_examine_0 d s (fun r s' => s' = s ∧ Q r)) : q_examine (d + 1) s Q := mQ.of (m_examine.of h)
theorem T_examine_46 {d : Nat} {x1 : Int32} {s : mS} {Q : Int32 → mS → Prop} (h : if (s.1 43) ≤ x1 then (m_weighs d s (fun r2 s4 => if r2 = 0 then (Q (6 : Int32) s4) else (Q (0 : Int32) s4))) else (m_looksAt d x1 s (fun r2 s4 => if r2 ≤ 0 then (h_examine_46 d (x1 + (1 : Int32)) s4 Q) else (Q r2 s4)))) : h_examine_46 d x1 s Q := by
  by_cases c1 : (s.1 43) ≤ x1
  · rw [if_pos c1] at h
    obtain ⟨r2, s4, t3, h⟩ := h
    by_cases c5 : r2 = 0
    · rw [if_pos c5] at h
      exact ⟨_, _, fun N0 K B G sz sl hN => r_examine_46_tt hN c1 (t3 N0 K B G sz hN) c5, h⟩
    · rw [if_neg c5] at h
      exact ⟨_, _, fun N0 K B G sz sl hN => r_examine_46_tf hN c1 (t3 N0 K B G sz hN) c5, h⟩
  · rw [if_neg c1] at h
    obtain ⟨r2, s4, t3, h⟩ := h
    by_cases c5 : r2 ≤ 0
    · rw [if_pos c5] at h
      obtain ⟨r, s9, e, h⟩ := h
      exact ⟨r, s9, fun N0 K B G sz sl hN => r_examine_46_ft_at46 hN c1 (t3 N0 K B G sz hN) c5 (e N0 K B G sz sl hN), h⟩
    · rw [if_neg c5] at h
      exact ⟨_, _, fun N0 K B G sz sl hN => r_examine_46_ff hN c1 (t3 N0 K B G sz hN) c5, h⟩
theorem T_audit_0 {d : Nat} {s : mS} {Q : Int32 → mS → Prop} (h : if (s.1 5) = 0 then (m_fail d (1 : Int32) (mI s 0 (0 : Int32)) (fun r2 s4 => Q r2 s4)) else (m_examine d (mI s 0 (0 : Int32)) (fun r2 s4 => Q r2 (mI (mI s4 42 r2) 24 (0 : Int32))))) : h_audit_0 d s Q := by
  by_cases c1 : (s.1 5) = 0
  · rw [if_pos c1] at h
    obtain ⟨r2, s4, t3, h⟩ := h
    exact ⟨_, _, fun N0 K B G sz sl hN => r_audit_0_f hN c1 (t3 N0 K B G sz hN), h⟩
  · rw [if_neg c1] at h
    obtain ⟨r2, s4, t3, h⟩ := h
    exact ⟨_, _, fun N0 K B G sz sl hN => r_audit_0_t hN c1 (t3 N0 K B G sz hN), h⟩
theorem m_audit.of {d : Nat} {s : mS} {Q : Int32 → mS → Prop} (h : h_audit_0 d s Q) : m_audit (d + 1) s Q := mC.of (fun _ => rfl) (by decide) (fun _ => Nat.le_of_ble_eq_true rfl) (fun _ => rfl) h
theorem q_audit.of {d : Nat} {s : mS} {Q : Int32 → Prop} (h : h_audit_0 d s (fun r s' => s' = s ∧ Q r)) : q_audit (d + 1) s Q := mQ.of (m_audit.of h)
theorem T_refuses_0 {d : Nat} {s : mS} {Q : Int32 → mS → Prop} (h : if (s.1 5) = 0 then (Q (1 : Int32) s) else (if (s.1 41) = 0 then (m_examine d s (fun r3 s5 => if r3 = 0 then (Q (0 : Int32) (mI s5 42 r3)) else (Q (2 : Int32) (mI s5 42 r3)))) else (if (s.1 42) = 0 then (Q (0 : Int32) s) else (Q (2 : Int32) s)))) : h_refuses_0 d s Q := by
  by_cases c1 : (s.1 5) = 0
  · rw [if_pos c1] at h
    exact ⟨_, _, fun N0 K B G sz sl hN => r_refuses_0_f hN c1, h⟩
  · rw [if_neg c1] at h
    by_cases c2 : (s.1 41) = 0
    · rw [if_pos c2] at h
      obtain ⟨r3, s5, t4, h⟩ := h
      by_cases c6 : r3 = 0
      · rw [if_pos c6] at h
        exact ⟨_, _, fun N0 K B G sz sl hN => r_refuses_0_tft hN c1 c2 (t4 N0 K B G sz hN) c6, h⟩
      · rw [if_neg c6] at h
        exact ⟨_, _, fun N0 K B G sz sl hN => r_refuses_0_tff hN c1 c2 (t4 N0 K B G sz hN) c6, h⟩
    · rw [if_neg c2] at h
      by_cases c3 : (s.1 42) = 0
      · rw [if_pos c3] at h
        exact ⟨_, _, fun N0 K B G sz sl hN => r_refuses_0_ttt hN c1 c2 c3, h⟩
      · rw [if_neg c3] at h
        exact ⟨_, _, fun N0 K B G sz sl hN => r_refuses_0_ttf hN c1 c2 c3, h⟩
theorem m_refuses.of {d : Nat} {s : mS} {Q : Int32 → mS → Prop} (h : h_refuses_0 d s Q) : m_refuses (d + 1) s Q := mC.of (fun _ => rfl) (by decide) (fun _ => Nat.le_of_ble_eq_true rfl) (fun _ => rfl) h
theorem q_refuses.of {d : Nat} {s : mS} {Q : Int32 → Prop} (h : h_refuses_0 d s (fun r s' => s' = s ∧ Q r)) : q_refuses (d + 1) s Q := mQ.of (m_refuses.of h)
theorem T_worth_0 {d : Nat} {s : mS} {Q : Int32 → mS → Prop} (h : m_refuses d s (fun r1 s3 => if r1 ≤ 0 then (q_find_now d (s3.1 30) (mI (mI s3 0 r1) 24 (0 : Int32)) (fun r5 => ∃ k7 : Nat, r5 = nI k7 ∧ k7 < 60 ∧ (Q (s3.2.1 49 k7) (mI (mI s3 0 r1) 24 (0 : Int32))))) else (Q (0 : Int32) (mI (mI s3 0 r1) 24 (0 : Int32))))) : h_worth_0 d s Q := by
  obtain ⟨r1, s3, t2, h⟩ := h
  by_cases c4 : r1 ≤ 0
  · rw [if_pos c4] at h
    obtain ⟨r5, t6, h⟩ := h
    obtain ⟨k7, ek7, lk7, h⟩ := h
    exact ⟨_, _, fun N0 K B G sz sl hN => r_worth_0_t hN (t2 N0 K B G sz hN) c4 (t6 N0 K B G sz hN) ek7 lk7, h⟩
  · rw [if_neg c4] at h
    exact ⟨_, _, fun N0 K B G sz sl hN => r_worth_0_f hN (t2 N0 K B G sz hN) c4, h⟩
theorem m_worth.of {d : Nat} {s : mS} {Q : Int32 → mS → Prop} (h : h_worth_0 d s Q) : m_worth (d + 1) s Q := mC.of (fun _ => rfl) (by decide) (fun _ => Nat.le_of_ble_eq_true rfl) (fun _ => rfl) h
theorem q_worth.of {d : Nat} {s : mS} {Q : Int32 → Prop} (h : h_worth_0 d s (fun r s' => s' = s ∧ Q r)) : q_worth (d + 1) s Q := mQ.of (m_worth.of h)
theorem T_best_0 {d : Nat} {s : mS} {Q : Int32 → mS → Prop} (h : m_refuses d s (fun r1 s3 => if r1 ≤ 0 then (q_find_now d (s3.1 30) (mI (mI s3 0 r1) 24 (0 : Int32)) (fun r5 => ∃ k7 : Nat, r5 = nI k7 ∧ k7 < 60 ∧ (if (s3.2.1 48 k7) = 0 then (m_fail d (3 : Int32) (mI (mI s3 0 r1) 24 (0 : Int32)) (fun r9 s11 => Q r9 s11)) else (∃ k9 : Nat, r5 = nI k9 ∧ k9 < 61 ∧ (h_best_57 d r5 (s3.2.1 46 k9) (mI (mI s3 0 r1) 24 (0 : Int32)) Q))))) else (Q (0 : Int32) (mI (mI s3 0 r1) 24 (0 : Int32))))) : h_best_0 d s Q := by
  obtain ⟨r1, s3, t2, h⟩ := h
  by_cases c4 : r1 ≤ 0
  · rw [if_pos c4] at h
    obtain ⟨r5, t6, h⟩ := h
    obtain ⟨k7, ek7, lk7, h⟩ := h
    by_cases c8 : (s3.2.1 48 k7) = 0
    · rw [if_pos c8] at h
      obtain ⟨r9, s11, t10, h⟩ := h
      exact ⟨_, _, fun N0 K B G sz sl hN => r_best_0_tf hN (t2 N0 K B G sz hN) c4 (t6 N0 K B G sz hN) ek7 lk7 c8 (t10 N0 K B G sz hN), h⟩
    · rw [if_neg c8] at h
      obtain ⟨k9, ek9, lk9, h⟩ := h
      obtain ⟨r, s9, e, h⟩ := h
      exact ⟨r, s9, fun N0 K B G sz sl hN => r_best_0_tt_at57 hN (t2 N0 K B G sz hN) c4 (t6 N0 K B G sz hN) ek7 lk7 c8 ek9 lk9 (e N0 K B G sz sl hN), h⟩
  · rw [if_neg c4] at h
    exact ⟨_, _, fun N0 K B G sz sl hN => r_best_0_f hN (t2 N0 K B G sz hN) c4, h⟩
theorem m_best.of {d : Nat} {s : mS} {Q : Int32 → mS → Prop} (h : h_best_0 d s Q) : m_best (d + 1) s Q := mC.of (fun _ => rfl) (by decide) (fun _ => Nat.le_of_ble_eq_true rfl) (fun _ => rfl) h
theorem q_best.of {d : Nat} {s : mS} {Q : Int32 → Prop} (h : h_best_0 d s (fun r s' => s' = s ∧ Q r)) : q_best (d + 1) s Q := mQ.of (m_best.of h)
theorem T_best_57 {d : Nat} {x1 : Int32} {x2 : Int32} {s : mS} {Q : Int32 → mS → Prop} (h : ∃ k1 : Nat, (x1 + (1 : Int32)) = nI k1 ∧ k1 < 61 ∧ (if (s.2.1 46 k1) ≤ x2 then (Q (0 : Int32) s) else (∃ k3 : Nat, x1 = nI k3 ∧ k3 < 61 ∧ (∃ k4 : Nat, x2 = nI k4 ∧ k4 < 12500 ∧ (∃ k5 : Nat, (s.2.1 47 k4) = nI k5 ∧ k5 < 60 ∧ (∃ k6 : Nat, x1 = nI k6 ∧ k6 < 60 ∧ (if (s.2.1 49 k5) = (s.2.1 49 k6) then ((¬ (s.2.1 48 k6) = 0) ∧ ((¬ (s.2.1 48 k6) = 0) ∧ (Q (((256 : Int32) * ((x2 - (s.2.1 46 k3)) / (s.2.1 48 k6))) + ((x2 - (s.2.1 46 k3)) - (x2 - (s.2.1 46 k3)) / (s.2.1 48 k6) * (s.2.1 48 k6))) s))) else (h_best_57 d x1 (x2 + (1 : Int32)) s Q)))))))) : h_best_57 d x1 x2 s Q := by
  obtain ⟨k1, ek1, lk1, h⟩ := h
  by_cases c2 : (s.2.1 46 k1) ≤ x2
  · rw [if_pos c2] at h
    exact ⟨_, _, fun N0 K B G sz sl hN => r_best_57_t hN ek1 lk1 c2, h⟩
  · rw [if_neg c2] at h
    obtain ⟨k3, ek3, lk3, h⟩ := h
    obtain ⟨k4, ek4, lk4, h⟩ := h
    obtain ⟨k5, ek5, lk5, h⟩ := h
    obtain ⟨k6, ek6, lk6, h⟩ := h
    by_cases c7 : (s.2.1 49 k5) = (s.2.1 49 k6)
    · rw [if_pos c7] at h
      obtain ⟨z9, h⟩ := h
      obtain ⟨z11, h⟩ := h
      exact ⟨_, _, fun N0 K B G sz sl hN => r_best_57_ff hN ek1 lk1 c2 ek3 lk3 ek4 lk4 ek5 lk5 ek6 lk6 c7 ek6 lk6 z9 ek6 lk6 z11, h⟩
    · rw [if_neg c7] at h
      obtain ⟨r, s9, e, h⟩ := h
      exact ⟨r, s9, fun N0 K B G sz sl hN => r_best_57_ft_at57 hN ek1 lk1 c2 ek3 lk3 ek4 lk4 ek5 lk5 ek6 lk6 c7 (e N0 K B G sz sl hN), h⟩
