theorem T_layers_0 {d : Nat} {s : mS} {Q : Unit → mS → Prop} (h : h_layers_2 d (0 : Int32) s Q) : h_layers_0 d s Q := by
  obtain ⟨r, s9, e, h⟩ := h
  exact ⟨r, s9, fun N0 K B G sz sl hN => r_layers_0__at2 hN (e N0 K B G sz sl hN), h⟩
theorem m_layers.of {d : Nat} {s : mS} {Q : Unit → mS → Prop} (h : h_layers_0 d s Q) : m_layers (d + 1) s Q := mC.of (fun _ => rfl) (by decide) (fun _ => Nat.le_of_ble_eq_true rfl) (fun _ => rfl) h
theorem q_layers.of {d : Nat} {s : mS} {Q : Unit → Prop} (h : h_layers_0 d s (fun r s' => s' = s ∧ Q r)) : q_layers (d + 1) s Q := mQ.of (m_layers.of h)
theorem T_layers_2 {d : Nat} {x1 : Int32} {s : mS} {Q : Unit → mS → Prop} (h : if (512 : Int32) ≤ x1 then (h_layers_24 d (1 : Int32) s Q) else (∃ k2 : Nat, x1 = nI k2 ∧ k2 < 512 ∧ (h_layers_2 d (x1 + (1 : Int32)) (mA s 19 (upd (s.2.1 19) k2 (0 : Int32))) Q))) : h_layers_2 d x1 s Q := by
  by_cases c1 : (512 : Int32) ≤ x1
  · rw [if_pos c1] at h
    obtain ⟨r, s9, e, h⟩ := h
    exact ⟨r, s9, fun N0 K B G sz sl hN => r_layers_2_t_at24 hN c1 (e N0 K B G sz sl hN), h⟩
  · rw [if_neg c1] at h
    obtain ⟨k2, ek2, lk2, h⟩ := h
    obtain ⟨r, s9, e, h⟩ := h
    exact ⟨r, s9, fun N0 K B G sz sl hN => r_layers_2_f_at2 hN c1 ek2 lk2 (e N0 K B G sz sl hN), h⟩
theorem T_layers_24 {d : Nat} {x1 : Int32} {s : mS} {Q : Unit → mS → Prop} (h : if x1 = 0 then (Q () s) else (h_layers_32 d (0 : Int32) (0 : Int32) s Q)) : h_layers_24 d x1 s Q := by
  by_cases c1 : x1 = 0
  · rw [if_pos c1] at h
    exact ⟨_, _, fun N0 K B G sz sl hN => r_layers_24_t hN c1, h⟩
  · rw [if_neg c1] at h
    obtain ⟨r, s9, e, h⟩ := h
    exact ⟨r, s9, fun N0 K B G sz sl hN => r_layers_24_f_at32 hN c1 (e N0 K B G sz sl hN), h⟩
theorem T_layers_32 {d : Nat} {x1 : Int32} {x2 : Int32} {s : mS} {Q : Unit → mS → Prop} (h : if (s.1 11) ≤ x2 then (h_layers_24 d x1 s Q) else (∃ k2 : Nat, ((6 : Int32) * x2) = nI k2 ∧ k2 < 144 ∧ (h_layers_58 d x1 x2 (s.2.1 14 k2) (((6 : Int32) * x2) + (1 : Int32)) s Q))) : h_layers_32 d x1 x2 s Q := by
  by_cases c1 : (s.1 11) ≤ x2
  · rw [if_pos c1] at h
    obtain ⟨r, s9, e, h⟩ := h
    exact ⟨r, s9, fun N0 K B G sz sl hN => r_layers_32_t_at24 hN c1 (e N0 K B G sz sl hN), h⟩
  · rw [if_neg c1] at h
    obtain ⟨k2, ek2, lk2, h⟩ := h
    obtain ⟨r, s9, e, h⟩ := h
    exact ⟨r, s9, fun N0 K B G sz sl hN => r_layers_32_f_at58 hN c1 ek2 lk2 (e N0 K B G sz sl hN), h⟩
theorem T_layers_58 {d : Nat} {x1 : Int32} {x2 : Int32} {x3 : Int32} {x4 : Int32} {s : mS} {Q : Unit → mS → Prop} (h : ∃ k1 : Nat, x2 = nI k1 ∧ k1 < 24 ∧ (if (((6 : Int32) * x2) + (s.2.1 12 k1)) < x4 then (h_layers_32 d x1 (x2 + (1 : Int32)) s Q) else (∃ k3 : Nat, x4 = nI k3 ∧ k3 < 144 ∧ (if (s.2.1 13 k3) = (2 : Int32) then (∃ k5 : Nat, x3 = nI k5 ∧ k5 < 512 ∧ (if (0 : Int32) ≤ (s.2.1 19 k5) then (h_layers_58 d x1 x2 x3 (x4 + (1 : Int32)) s Q) else (h_layers_58 d (1 : Int32) x2 x3 (x4 + (1 : Int32)) (mA s 19 (upd (s.2.1 19) k5 (0 : Int32))) Q))) else (∃ k6 : Nat, (s.2.1 14 k3) = nI k6 ∧ k6 < 512 ∧ (∃ k8 : Nat, x3 = nI k8 ∧ k8 < 512 ∧ (if ((s.2.1 19 k6) + (s.2.1 13 k3)) ≤ (s.2.1 19 k8) then (h_layers_58 d x1 x2 x3 (x4 + (1 : Int32)) s Q) else (h_layers_58 d (1 : Int32) x2 x3 (x4 + (1 : Int32)) (mA s 19 (upd (s.2.1 19) k8 ((s.2.1 19 k6) + (s.2.1 13 k3)))) Q)))))))) : h_layers_58 d x1 x2 x3 x4 s Q := by
  obtain ⟨k1, ek1, lk1, h⟩ := h
  by_cases c2 : (((6 : Int32) * x2) + (s.2.1 12 k1)) < x4
  · rw [if_pos c2] at h
    obtain ⟨r, s9, e, h⟩ := h
    exact ⟨r, s9, fun N0 K B G sz sl hN => r_layers_58_t_at32 hN ek1 lk1 c2 (e N0 K B G sz sl hN), h⟩
  · rw [if_neg c2] at h
    obtain ⟨k3, ek3, lk3, h⟩ := h
    by_cases c4 : (s.2.1 13 k3) = (2 : Int32)
    · rw [if_pos c4] at h
      obtain ⟨k5, ek5, lk5, h⟩ := h
      by_cases c6 : (0 : Int32) ≤ (s.2.1 19 k5)
      · rw [if_pos c6] at h
        obtain ⟨r, s9, e, h⟩ := h
        exact ⟨r, s9, fun N0 K B G sz sl hN => r_layers_58_fft_at58 hN ek1 lk1 c2 ek3 lk3 c4 ek5 lk5 c6 (e N0 K B G sz sl hN), h⟩
      · rw [if_neg c6] at h
        obtain ⟨r, s9, e, h⟩ := h
        exact ⟨r, s9, fun N0 K B G sz sl hN => r_layers_58_fff_at58 hN ek1 lk1 c2 ek3 lk3 c4 ek5 lk5 c6 ek5 lk5 (e N0 K B G sz sl hN), h⟩
    · rw [if_neg c4] at h
      obtain ⟨k6, ek6, lk6, h⟩ := h
      obtain ⟨k8, ek8, lk8, h⟩ := h
      by_cases c9 : ((s.2.1 19 k6) + (s.2.1 13 k3)) ≤ (s.2.1 19 k8)
      · rw [if_pos c9] at h
        obtain ⟨r, s9, e, h⟩ := h
        exact ⟨r, s9, fun N0 K B G sz sl hN => r_layers_58_ftt_at58 hN ek1 lk1 c2 ek3 lk3 c4 ek3 lk3 ek6 lk6 ek3 lk3 ek8 lk8 c9 (e N0 K B G sz sl hN), h⟩
      · rw [if_neg c9] at h
        obtain ⟨r, s9, e, h⟩ := h
        exact ⟨r, s9, fun N0 K B G sz sl hN => r_layers_58_ftf_at58 hN ek1 lk1 c2 ek3 lk3 c4 ek3 lk3 ek6 lk6 ek3 lk3 ek8 lk8 c9 ek8 lk8 (e N0 K B G sz sl hN), h⟩
theorem T_holds_0 {d : Nat} {p0 : Int32} {p1 : Int64} {p2 : Int64} {p3 : Int64} {s : mS} {Q : Int32 → mS → Prop} (h : h_holds_3 d p0 p1 p2 p3 (0 : Int32) s Q) : h_holds_0 d p0 p1 p2 p3 s Q := by
  obtain ⟨r, s9, e, h⟩ := h
  exact ⟨r, s9, fun N0 K B G sz sl hN => r_holds_0__at3 hN (e N0 K B G sz sl hN), h⟩
theorem m_holds.of {d : Nat} {p0 : Int32} {p1 : Int64} {p2 : Int64} {p3 : Int64} {s : mS} {Q : Int32 → mS → Prop} (h : h_holds_0 d p0 p1 p2 p3 s Q) : m_holds (d + 1) p0 p1 p2 p3 s Q := mC.of (fun _ => rfl) (by decide) (fun _ => Nat.le_of_ble_eq_true rfl) (fun _ => rfl) h
theorem q_holds.of {d : Nat} {p0 : Int32} {p1 : Int64} {p2 : Int64} {p3 : Int64} {s : mS} {Q : Int32 → Prop} (h : h_holds_0 d p0 p1 p2 p3 s (fun r s' => s' = s ∧ Q r)) : q_holds (d + 1) p0 p1 p2 p3 s Q := mQ.of (m_holds.of h)
theorem T_holds_3 {d : Nat} {x1 : Int32} {y2 : Int64} {y4 : Int64} {y6 : Int64} {x8 : Int32} {s : mS} {Q : Int32 → mS → Prop} (h : if (s.1 20) ≤ x8 then (Q (0 : Int32) s) else (∃ k2 : Nat, x8 = nI k2 ∧ k2 < 201 ∧ (if (s.2.1 21 k2) = x1 then (∃ k4 : Nat, ((3 : Int32) * x8) = nI k4 ∧ k4 < 603 ∧ (if (lg_cmp (s.2.2 22 k4) y2) = 0 then (∃ k6 : Nat, (((3 : Int32) * x8) + (1 : Int32)) = nI k6 ∧ k6 < 603 ∧ (if (lg_cmp (s.2.2 22 k6) y4) = 0 then (∃ k8 : Nat, (((3 : Int32) * x8) + (2 : Int32)) = nI k8 ∧ k8 < 603 ∧ (if (lg_cmp (s.2.2 22 k8) y6) = 0 then (Q (1 : Int32) s) else (h_holds_3 d x1 y2 y4 y6 (x8 + (1 : Int32)) s Q))) else (h_holds_3 d x1 y2 y4 y6 (x8 + (1 : Int32)) s Q))) else (h_holds_3 d x1 y2 y4 y6 (x8 + (1 : Int32)) s Q))) else (h_holds_3 d x1 y2 y4 y6 (x8 + (1 : Int32)) s Q)))) : h_holds_3 d x1 y2 y4 y6 x8 s Q := by
  by_cases c1 : (s.1 20) ≤ x8
  · rw [if_pos c1] at h
    exact ⟨_, _, fun N0 K B G sz sl hN => r_holds_3_t hN c1, h⟩
  · rw [if_neg c1] at h
    obtain ⟨k2, ek2, lk2, h⟩ := h
    by_cases c3 : (s.2.1 21 k2) = x1
    · rw [if_pos c3] at h
      obtain ⟨k4, ek4, lk4, h⟩ := h
      by_cases c5 : (lg_cmp (s.2.2 22 k4) y2) = 0
      · rw [if_pos c5] at h
        obtain ⟨k6, ek6, lk6, h⟩ := h
        by_cases c7 : (lg_cmp (s.2.2 22 k6) y4) = 0
        · rw [if_pos c7] at h
          obtain ⟨k8, ek8, lk8, h⟩ := h
          by_cases c9 : (lg_cmp (s.2.2 22 k8) y6) = 0
          · rw [if_pos c9] at h
            exact ⟨_, _, fun N0 K B G sz sl hN => r_holds_3_fffff hN c1 ek2 lk2 c3 ek4 lk4 c5 ek6 lk6 c7 ek8 lk8 c9, h⟩
          · rw [if_neg c9] at h
            obtain ⟨r, s9, e, h⟩ := h
            exact ⟨r, s9, fun N0 K B G sz sl hN => r_holds_3_fffft_at3 hN c1 ek2 lk2 c3 ek4 lk4 c5 ek6 lk6 c7 ek8 lk8 c9 (e N0 K B G sz sl hN), h⟩
        · rw [if_neg c7] at h
          obtain ⟨r, s9, e, h⟩ := h
          exact ⟨r, s9, fun N0 K B G sz sl hN => r_holds_3_ffft_at3 hN c1 ek2 lk2 c3 ek4 lk4 c5 ek6 lk6 c7 (e N0 K B G sz sl hN), h⟩
      · rw [if_neg c5] at h
        obtain ⟨r, s9, e, h⟩ := h
        exact ⟨r, s9, fun N0 K B G sz sl hN => r_holds_3_fft_at3 hN c1 ek2 lk2 c3 ek4 lk4 c5 (e N0 K B G sz sl hN), h⟩
    · rw [if_neg c3] at h
      obtain ⟨r, s9, e, h⟩ := h
      exact ⟨r, s9, fun N0 K B G sz sl hN => r_holds_3_ft_at3 hN c1 ek2 lk2 c3 (e N0 K B G sz sl hN), h⟩
theorem T_add_0 {d : Nat} {p0 : Int32} {p1 : Int64} {p2 : Int64} {p3 : Int64} {s : mS} {Q : Unit → mS → Prop} (h : if (s.1 23) = 0 then (q_holds d p0 p1 p2 p3 s (fun r2 => if r2 = 0 then (if (s.1 20) = (200 : Int32) then (Q () (mI s 23 (1 : Int32))) else (∃ k6 : Nat, (s.1 20) = nI k6 ∧ k6 < 201 ∧ (∃ k7 : Nat, ((3 : Int32) * (s.1 20)) = nI k7 ∧ k7 < 603 ∧ (∃ k8 : Nat, (((3 : Int32) * (s.1 20)) + (1 : Int32)) = nI k8 ∧ k8 < 603 ∧ (∃ k9 : Nat, (((3 : Int32) * (s.1 20)) + (2 : Int32)) = nI k9 ∧ k9 < 603 ∧ (Q () (mI (mL (mL (mL (mA s 21 (upd (s.2.1 21) k6 p0)) 22 (vp_updL (s.2.2 22) k7 p1)) 22 (vp_updL (vp_updL (s.2.2 22) k7 p1) k8 p2)) 22 (vp_updL (vp_updL (vp_updL (s.2.2 22) k7 p1) k8 p2) k9 p3)) 20 ((s.1 20) + (1 : Int32))))))))) else (Q () s))) else (Q () s)) : h_add_0 d p0 p1 p2 p3 s Q := by
  by_cases c1 : (s.1 23) = 0
  · rw [if_pos c1] at h
    obtain ⟨r2, t3, h⟩ := h
    by_cases c4 : r2 = 0
    · rw [if_pos c4] at h
      by_cases c5 : (s.1 20) = (200 : Int32)
      · rw [if_pos c5] at h
        exact ⟨_, _, fun N0 K B G sz sl hN => r_add_0_ftf hN c1 (t3 N0 K B G sz hN) c4 c5, h⟩
      · rw [if_neg c5] at h
        obtain ⟨k6, ek6, lk6, h⟩ := h
        obtain ⟨k7, ek7, lk7, h⟩ := h
        obtain ⟨k8, ek8, lk8, h⟩ := h
        obtain ⟨k9, ek9, lk9, h⟩ := h
        exact ⟨_, _, fun N0 K B G sz sl hN => r_add_0_ftt hN c1 (t3 N0 K B G sz hN) c4 c5 ek6 lk6 ek7 lk7 ek8 lk8 ek9 lk9, h⟩
    · rw [if_neg c4] at h
      exact ⟨_, _, fun N0 K B G sz sl hN => r_add_0_ff hN c1 (t3 N0 K B G sz hN) c4, h⟩
  · rw [if_neg c1] at h
    exact ⟨_, _, fun N0 K B G sz sl hN => r_add_0_t hN c1, h⟩
theorem m_add.of {d : Nat} {p0 : Int32} {p1 : Int64} {p2 : Int64} {p3 : Int64} {s : mS} {Q : Unit → mS → Prop} (h : h_add_0 d p0 p1 p2 p3 s Q) : m_add (d + 1) p0 p1 p2 p3 s Q := mC.of (fun _ => rfl) (by decide) (fun _ => Nat.le_of_ble_eq_true rfl) (fun _ => rfl) h
theorem q_add.of {d : Nat} {p0 : Int32} {p1 : Int64} {p2 : Int64} {p3 : Int64} {s : mS} {Q : Unit → Prop} (h : h_add_0 d p0 p1 p2 p3 s (fun r s' => s' = s ∧ Q r)) : q_add (d + 1) p0 p1 p2 p3 s Q := mQ.of (m_add.of h)
theorem T_isConstant_0 {d : Nat} {p0 : Int64} {s : mS} {Q : Int32 → mS → Prop} (h : if (lg_cmp (p0 <<< (((8 : Int32)).toInt64 &&& 63)) (0 : Int64)) = 0 then (Q (1 : Int32) s) else (Q (0 : Int32) s)) : h_isConstant_0 d p0 s Q := by
  by_cases c1 : (lg_cmp (p0 <<< (((8 : Int32)).toInt64 &&& 63)) (0 : Int64)) = 0
  · rw [if_pos c1] at h
    exact ⟨_, _, fun N0 K B G sz sl hN => r_isConstant_0_f hN c1, h⟩
  · rw [if_neg c1] at h
    exact ⟨_, _, fun N0 K B G sz sl hN => r_isConstant_0_t hN c1, h⟩
theorem m_isConstant.of {d : Nat} {p0 : Int64} {s : mS} {Q : Int32 → mS → Prop} (h : h_isConstant_0 d p0 s Q) : m_isConstant (d + 1) p0 s Q := mC.of (fun _ => rfl) (by decide) (fun _ => Nat.le_of_ble_eq_true rfl) (fun _ => rfl) h
theorem q_isConstant.of {d : Nat} {p0 : Int64} {s : mS} {Q : Int32 → Prop} (h : h_isConstant_0 d p0 s (fun r s' => s' = s ∧ Q r)) : q_isConstant (d + 1) p0 s Q := mQ.of (m_isConstant.of h)
theorem T_letterOf_0 {d : Nat} {p0 : Int64} {p1 : Int32} {s : mS} {Q : Int32 → mS → Prop} (h : if (8 : Int32) ≤ p1 then (Q (0 : Int32) s) else (Q (((p0 >>> ((((56 : Int32) - ((8 : Int32) * p1))).toInt64 &&& 63)) &&& (255 : Int64)).toInt32) s)) : h_letterOf_0 d p0 p1 s Q := by
  by_cases c1 : (8 : Int32) ≤ p1
  · rw [if_pos c1] at h
    exact ⟨_, _, fun N0 K B G sz sl hN => r_letterOf_0_t hN c1, h⟩
  · rw [if_neg c1] at h
    exact ⟨_, _, fun N0 K B G sz sl hN => r_letterOf_0_f hN c1, h⟩
theorem m_letterOf.of {d : Nat} {p0 : Int64} {p1 : Int32} {s : mS} {Q : Int32 → mS → Prop} (h : h_letterOf_0 d p0 p1 s Q) : m_letterOf (d + 1) p0 p1 s Q := mC.of (fun _ => rfl) (by decide) (fun _ => Nat.le_of_ble_eq_true rfl) (fun _ => rfl) h
theorem q_letterOf.of {d : Nat} {p0 : Int64} {p1 : Int32} {s : mS} {Q : Int32 → Prop} (h : h_letterOf_0 d p0 p1 s (fun r s' => s' = s ∧ Q r)) : q_letterOf (d + 1) p0 p1 s Q := mQ.of (m_letterOf.of h)
theorem T_meets_0 {d : Nat} {p0 : Int32} {p1 : Int64} {p2 : Int32} {s : mS} {Q : Int32 → mS → Prop} (h : q_isVariable d p0 s (fun r1 => if r1 = 0 then (if (lg_cmp p1 (p0.toInt64 <<< (((56 : Int32)).toInt64 &&& 63))) = 0 then (Q (1 : Int32) s) else (Q (0 : Int32) s)) else (if (((s.1 28) >>> ((p0 - (85 : Int32)) &&& 31)) &&& (1 : Int32)) = (1 : Int32) then (q_isConstant d p1 s (fun r5 => if r5 = 0 then (Q (0 : Int32) s) else (∃ k8 : Nat, (p0 - (85 : Int32)) = nI k8 ∧ k8 < 6 ∧ (if (s.2.1 26 k8) < 0 then (Q (1 : Int32) (mL (mA s 26 (upd (s.2.1 26) k8 p2)) 25 (vp_updL (s.2.2 25) k8 p1))) else (if (lg_cmp (s.2.2 25 k8) p1) = 0 then (Q (1 : Int32) s) else (Q (0 : Int32) s)))))) else (∃ k5 : Nat, (p0 - (85 : Int32)) = nI k5 ∧ k5 < 6 ∧ (if (s.2.1 26 k5) < 0 then (Q (1 : Int32) (mL (mA s 26 (upd (s.2.1 26) k5 p2)) 25 (vp_updL (s.2.2 25) k5 p1))) else (if (lg_cmp (s.2.2 25 k5) p1) = 0 then (Q (1 : Int32) s) else (Q (0 : Int32) s))))))) : h_meets_0 d p0 p1 p2 s Q := by
  obtain ⟨r1, t2, h⟩ := h
  by_cases c3 : r1 = 0
  · rw [if_pos c3] at h
    by_cases c4 : (lg_cmp p1 (p0.toInt64 <<< (((56 : Int32)).toInt64 &&& 63))) = 0
    · rw [if_pos c4] at h
      exact ⟨_, _, fun N0 K B G sz sl hN => r_meets_0_ff hN (t2 N0 K B G sz hN) c3 c4, h⟩
    · rw [if_neg c4] at h
      exact ⟨_, _, fun N0 K B G sz sl hN => r_meets_0_ft hN (t2 N0 K B G sz hN) c3 c4, h⟩
  · rw [if_neg c3] at h
    by_cases c4 : (((s.1 28) >>> ((p0 - (85 : Int32)) &&& 31)) &&& (1 : Int32)) = (1 : Int32)
    · rw [if_pos c4] at h
      obtain ⟨r5, t6, h⟩ := h
      by_cases c7 : r5 = 0
      · rw [if_pos c7] at h
        exact ⟨_, _, fun N0 K B G sz sl hN => r_meets_0_tff hN (t2 N0 K B G sz hN) c3 c4 (t6 N0 K B G sz hN) c7, h⟩
      · rw [if_neg c7] at h
        obtain ⟨k8, ek8, lk8, h⟩ := h
        by_cases c9 : (s.2.1 26 k8) < 0
        · rw [if_pos c9] at h
          exact ⟨_, _, fun N0 K B G sz sl hN => r_meets_0_tftt hN (t2 N0 K B G sz hN) c3 c4 (t6 N0 K B G sz hN) c7 ek8 lk8 c9 ek8 lk8 ek8 lk8, h⟩
        · rw [if_neg c9] at h
          by_cases c11 : (lg_cmp (s.2.2 25 k8) p1) = 0
          · rw [if_pos c11] at h
            exact ⟨_, _, fun N0 K B G sz sl hN => r_meets_0_tftff hN (t2 N0 K B G sz hN) c3 c4 (t6 N0 K B G sz hN) c7 ek8 lk8 c9 ek8 lk8 c11, h⟩
          · rw [if_neg c11] at h
            exact ⟨_, _, fun N0 K B G sz sl hN => r_meets_0_tftft hN (t2 N0 K B G sz hN) c3 c4 (t6 N0 K B G sz hN) c7 ek8 lk8 c9 ek8 lk8 c11, h⟩
    · rw [if_neg c4] at h
      obtain ⟨k5, ek5, lk5, h⟩ := h
      by_cases c6 : (s.2.1 26 k5) < 0
      · rw [if_pos c6] at h
        exact ⟨_, _, fun N0 K B G sz sl hN => r_meets_0_ttt hN (t2 N0 K B G sz hN) c3 c4 ek5 lk5 c6 ek5 lk5 ek5 lk5, h⟩
      · rw [if_neg c6] at h
        by_cases c8 : (lg_cmp (s.2.2 25 k5) p1) = 0
        · rw [if_pos c8] at h
          exact ⟨_, _, fun N0 K B G sz sl hN => r_meets_0_ttff hN (t2 N0 K B G sz hN) c3 c4 ek5 lk5 c6 ek5 lk5 c8, h⟩
        · rw [if_neg c8] at h
          exact ⟨_, _, fun N0 K B G sz sl hN => r_meets_0_ttft hN (t2 N0 K B G sz hN) c3 c4 ek5 lk5 c6 ek5 lk5 c8, h⟩
theorem m_meets.of {d : Nat} {p0 : Int32} {p1 : Int64} {p2 : Int32} {s : mS} {Q : Int32 → mS → Prop} (h : h_meets_0 d p0 p1 p2 s Q) : m_meets (d + 1) p0 p1 p2 s Q := mC.of (fun _ => rfl) (by decide) (fun _ => Nat.le_of_ble_eq_true rfl) (fun _ => rfl) h
theorem q_meets.of {d : Nat} {p0 : Int32} {p1 : Int64} {p2 : Int32} {s : mS} {Q : Int32 → Prop} (h : h_meets_0 d p0 p1 p2 s (fun r s' => s' = s ∧ Q r)) : q_meets (d + 1) p0 p1 p2 s Q := mQ.of (m_meets.of h)
theorem T_meetsTerm_0 {d : Nat} {p0 : Int32} {p1 : Int64} {p2 : Int32} {s : mS} {Q : Int32 → mS → Prop} (h : ∃ k1 : Nat, p0 = nI k1 ∧ k1 < 432 ∧ (if (s.2.1 15 k1) = 0 then (∃ k3 : Nat, ((3 : Int32) * p0) = nI k3 ∧ k3 < 1296 ∧ (m_meets d (s.2.1 17 k3) p1 p2 s (fun r4 s6 => (r4 = 0 ∨ r4 = 1) ∧ (Q r4 s6)))) else (q_letterOf d p1 (0 : Int32) s (fun r4 => if r4 = (s.2.1 15 k1) then (q_letterOf d p1 (1 : Int32) s (fun r8 => if r8 = (40 : Int32) then (q_letterOf d p1 (((2 : Int32) * (s.2.1 16 k1)) + (1 : Int32)) s (fun r11 => if r11 = (41 : Int32) then (h_meetsTerm_77 d p0 p1 p2 (s.2.1 16 k1) (0 : Int32) s Q) else (Q (0 : Int32) s))) else (Q (0 : Int32) s))) else (Q (0 : Int32) s))))) : h_meetsTerm_0 d p0 p1 p2 s Q := by
  obtain ⟨k1, ek1, lk1, h⟩ := h
  by_cases c2 : (s.2.1 15 k1) = 0
  · rw [if_pos c2] at h
    obtain ⟨k3, ek3, lk3, h⟩ := h
    obtain ⟨r4, s6, t5, h⟩ := h
    obtain ⟨z7, h⟩ := h
    exact ⟨_, _, fun N0 K B G sz sl hN => r_meetsTerm_0_f hN ek1 lk1 c2 ek3 lk3 (t5 N0 K B G sz hN) z7, h⟩
  · rw [if_neg c2] at h
    obtain ⟨r4, t5, h⟩ := h
    by_cases c7 : r4 = (s.2.1 15 k1)
    · rw [if_pos c7] at h
      obtain ⟨r8, t9, h⟩ := h
      by_cases c10 : r8 = (40 : Int32)
      · rw [if_pos c10] at h
        obtain ⟨r11, t12, h⟩ := h
        by_cases c13 : r11 = (41 : Int32)
        · rw [if_pos c13] at h
          obtain ⟨r, s9, e, h⟩ := h
          exact ⟨r, s9, fun N0 K B G sz sl hN => r_meetsTerm_0_tfft_at77 hN ek1 lk1 c2 ek1 lk1 (t5 N0 K B G sz hN) ek1 lk1 c7 (t9 N0 K B G sz hN) c10 (t12 N0 K B G sz hN) c13 (e N0 K B G sz sl hN), h⟩
        · rw [if_neg c13] at h
          exact ⟨_, _, fun N0 K B G sz sl hN => r_meetsTerm_0_tfff hN ek1 lk1 c2 ek1 lk1 (t5 N0 K B G sz hN) ek1 lk1 c7 (t9 N0 K B G sz hN) c10 (t12 N0 K B G sz hN) c13, h⟩
      · rw [if_neg c10] at h
        exact ⟨_, _, fun N0 K B G sz sl hN => r_meetsTerm_0_tft hN ek1 lk1 c2 ek1 lk1 (t5 N0 K B G sz hN) ek1 lk1 c7 (t9 N0 K B G sz hN) c10, h⟩
    · rw [if_neg c7] at h
      exact ⟨_, _, fun N0 K B G sz sl hN => r_meetsTerm_0_tt hN ek1 lk1 c2 ek1 lk1 (t5 N0 K B G sz hN) ek1 lk1 c7, h⟩
theorem m_meetsTerm.of {d : Nat} {p0 : Int32} {p1 : Int64} {p2 : Int32} {s : mS} {Q : Int32 → mS → Prop} (h : h_meetsTerm_0 d p0 p1 p2 s Q) : m_meetsTerm (d + 1) p0 p1 p2 s Q := mC.of (fun _ => rfl) (by decide) (fun _ => Nat.le_of_ble_eq_true rfl) (fun _ => rfl) h
theorem q_meetsTerm.of {d : Nat} {p0 : Int32} {p1 : Int64} {p2 : Int32} {s : mS} {Q : Int32 → Prop} (h : h_meetsTerm_0 d p0 p1 p2 s (fun r s' => s' = s ∧ Q r)) : q_meetsTerm (d + 1) p0 p1 p2 s Q := mQ.of (m_meetsTerm.of h)
theorem T_meetsTerm_77 {d : Nat} {x1 : Int32} {y2 : Int64} {x4 : Int32} {x5 : Int32} {x6 : Int32} {s : mS} {Q : Int32 → mS → Prop} (h : if x5 ≤ x6 then (Q (1 : Int32) s) else (∃ k2 : Nat, (((3 : Int32) * x1) + x6) = nI k2 ∧ k2 < 1296 ∧ (q_letterOf d y2 ((2 : Int32) + ((2 : Int32) * x6)) s (fun r3 => m_meets d (s.2.1 17 k2) (r3.toInt64 <<< (((56 : Int32)).toInt64 &&& 63)) x4 s (fun r5 s7 => if r5 = 0 then (Q (0 : Int32) s7) else (h_meetsTerm_77 d x1 y2 x4 x5 (x6 + (1 : Int32)) s7 Q)))))) : h_meetsTerm_77 d x1 y2 x4 x5 x6 s Q := by
  by_cases c1 : x5 ≤ x6
  · rw [if_pos c1] at h
    exact ⟨_, _, fun N0 K B G sz sl hN => r_meetsTerm_77_t hN c1, h⟩
  · rw [if_neg c1] at h
    obtain ⟨k2, ek2, lk2, h⟩ := h
    obtain ⟨r3, t4, h⟩ := h
    obtain ⟨r5, s7, t6, h⟩ := h
    by_cases c8 : r5 = 0
    · rw [if_pos c8] at h
      exact ⟨_, _, fun N0 K B G sz sl hN => r_meetsTerm_77_ff hN c1 ek2 lk2 (t4 N0 K B G sz hN) (t6 N0 K B G sz hN) c8, h⟩
    · rw [if_neg c8] at h
      obtain ⟨r, s9, e, h⟩ := h
      exact ⟨r, s9, fun N0 K B G sz sl hN => r_meetsTerm_77_ft_at77 hN c1 ek2 lk2 (t4 N0 K B G sz hN) (t6 N0 K B G sz hN) c8 (e N0 K B G sz sl hN), h⟩
theorem T_meetsFact_0 {d : Nat} {p0 : Int32} {p1 : Int32} {p2 : Int32} {s : mS} {Q : Int32 → mS → Prop} (h : ∃ k1 : Nat, p0 = nI k1 ∧ k1 < 144 ∧ (∃ k2 : Nat, p1 = nI k2 ∧ k2 < 201 ∧ (if (s.2.1 14 k1) = (s.2.1 21 k2) then (h_meetsFact_20 d p0 p1 p2 (0 : Int32) s Q) else (Q (0 : Int32) s)))) : h_meetsFact_0 d p0 p1 p2 s Q := by
  obtain ⟨k1, ek1, lk1, h⟩ := h
  obtain ⟨k2, ek2, lk2, h⟩ := h
  by_cases c3 : (s.2.1 14 k1) = (s.2.1 21 k2)
  · rw [if_pos c3] at h
    obtain ⟨r, s9, e, h⟩ := h
    exact ⟨r, s9, fun N0 K B G sz sl hN => r_meetsFact_0_t_at20 hN ek1 lk1 ek2 lk2 c3 (e N0 K B G sz sl hN), h⟩
  · rw [if_neg c3] at h
    exact ⟨_, _, fun N0 K B G sz sl hN => r_meetsFact_0_f hN ek1 lk1 ek2 lk2 c3, h⟩
theorem m_meetsFact.of {d : Nat} {p0 : Int32} {p1 : Int32} {p2 : Int32} {s : mS} {Q : Int32 → mS → Prop} (h : h_meetsFact_0 d p0 p1 p2 s Q) : m_meetsFact (d + 1) p0 p1 p2 s Q := mC.of (fun _ => rfl) (by decide) (fun _ => Nat.le_of_ble_eq_true rfl) (fun _ => rfl) h
theorem q_meetsFact.of {d : Nat} {p0 : Int32} {p1 : Int32} {p2 : Int32} {s : mS} {Q : Int32 → Prop} (h : h_meetsFact_0 d p0 p1 p2 s (fun r s' => s' = s ∧ Q r)) : q_meetsFact (d + 1) p0 p1 p2 s Q := mQ.of (m_meetsFact.of h)
theorem T_meetsFact_20 {d : Nat} {x1 : Int32} {x2 : Int32} {x3 : Int32} {x4 : Int32} {s : mS} {Q : Int32 → mS → Prop} (h : ∃ k1 : Nat, x1 = nI k1 ∧ k1 < 144 ∧ (if ((s.2.1 14 k1) &&& (3 : Int32)) ≤ x4 then (Q (1 : Int32) s) else (∃ k3 : Nat, (((3 : Int32) * x2) + x4) = nI k3 ∧ k3 < 603 ∧ (m_meetsTerm d (((3 : Int32) * x1) + x4) (s.2.2 22 k3) x3 s (fun r4 s6 => if r4 = 0 then (Q (0 : Int32) s6) else (h_meetsFact_20 d x1 x2 x3 (x4 + (1 : Int32)) s6 Q)))))) : h_meetsFact_20 d x1 x2 x3 x4 s Q := by
  obtain ⟨k1, ek1, lk1, h⟩ := h
  by_cases c2 : ((s.2.1 14 k1) &&& (3 : Int32)) ≤ x4
  · rw [if_pos c2] at h
    exact ⟨_, _, fun N0 K B G sz sl hN => r_meetsFact_20_t hN ek1 lk1 c2, h⟩
  · rw [if_neg c2] at h
    obtain ⟨k3, ek3, lk3, h⟩ := h
    obtain ⟨r4, s6, t5, h⟩ := h
    by_cases c7 : r4 = 0
    · rw [if_pos c7] at h
      exact ⟨_, _, fun N0 K B G sz sl hN => r_meetsFact_20_ff hN ek1 lk1 c2 ek3 lk3 (t5 N0 K B G sz hN) c7, h⟩
    · rw [if_neg c7] at h
      obtain ⟨r, s9, e, h⟩ := h
      exact ⟨r, s9, fun N0 K B G sz sl hN => r_meetsFact_20_ft_at20 hN ek1 lk1 c2 ek3 lk3 (t5 N0 K B G sz hN) c7 (e N0 K B G sz sl hN), h⟩
theorem T_valueOf_0 {d : Nat} {p0 : Int32} {s : mS} {Q : Int64 → mS → Prop} (h : q_isVariable d p0 s (fun r1 => if r1 = 0 then (Q (p0.toInt64 <<< (((56 : Int32)).toInt64 &&& 63)) s) else (∃ k4 : Nat, (p0 - (85 : Int32)) = nI k4 ∧ k4 < 6 ∧ (Q (s.2.2 25 k4) s)))) : h_valueOf_0 d p0 s Q := by
  obtain ⟨r1, t2, h⟩ := h
  by_cases c3 : r1 = 0
  · rw [if_pos c3] at h
    exact ⟨_, _, fun N0 K B G sz sl hN => r_valueOf_0_t hN (t2 N0 K B G sz hN) c3, h⟩
  · rw [if_neg c3] at h
    obtain ⟨k4, ek4, lk4, h⟩ := h
    exact ⟨_, _, fun N0 K B G sz sl hN => r_valueOf_0_f hN (t2 N0 K B G sz hN) c3 ek4 lk4, h⟩
theorem m_valueOf.of {d : Nat} {p0 : Int32} {s : mS} {Q : Int64 → mS → Prop} (h : h_valueOf_0 d p0 s Q) : m_valueOf (d + 1) p0 s Q := mC.of (fun _ => rfl) (by decide) (fun _ => Nat.le_of_ble_eq_true rfl) (fun _ => rfl) h
theorem q_valueOf.of {d : Nat} {p0 : Int32} {s : mS} {Q : Int64 → Prop} (h : h_valueOf_0 d p0 s (fun r s' => s' = s ∧ Q r)) : q_valueOf (d + 1) p0 s Q := mQ.of (m_valueOf.of h)
theorem T_made_0 {d : Nat} {p0 : Int32} {s : mS} {Q : Int64 → mS → Prop} (h : ∃ k1 : Nat, p0 = nI k1 ∧ k1 < 432 ∧ (if (s.2.1 15 k1) = 0 then (∃ k3 : Nat, ((3 : Int32) * p0) = nI k3 ∧ k3 < 1296 ∧ (q_valueOf d (s.2.1 17 k3) s (fun r4 => Q r4 s))) else (h_made_40 d p0 ((((s.2.1 15 k1).toInt64) <<< (((56 : Int32)).toInt64 &&& 63)) ||| (11258999068426240 : Int64)) (0 : Int32) s Q))) : h_made_0 d p0 s Q := by
  obtain ⟨k1, ek1, lk1, h⟩ := h
  by_cases c2 : (s.2.1 15 k1) = 0
  · rw [if_pos c2] at h
    obtain ⟨k3, ek3, lk3, h⟩ := h
    obtain ⟨r4, t5, h⟩ := h
    exact ⟨_, _, fun N0 K B G sz sl hN => r_made_0_f hN ek1 lk1 c2 ek3 lk3 (t5 N0 K B G sz hN), h⟩
  · rw [if_neg c2] at h
    obtain ⟨r, s9, e, h⟩ := h
    exact ⟨r, s9, fun N0 K B G sz sl hN => r_made_0_t_at40 hN ek1 lk1 c2 ek1 lk1 (e N0 K B G sz sl hN), h⟩
theorem m_made.of {d : Nat} {p0 : Int32} {s : mS} {Q : Int64 → mS → Prop} (h : h_made_0 d p0 s Q) : m_made (d + 1) p0 s Q := mC.of (fun _ => rfl) (by decide) (fun _ => Nat.le_of_ble_eq_true rfl) (fun _ => rfl) h
theorem q_made.of {d : Nat} {p0 : Int32} {s : mS} {Q : Int64 → Prop} (h : h_made_0 d p0 s (fun r s' => s' = s ∧ Q r)) : q_made (d + 1) p0 s Q := mQ.of (m_made.of h)
theorem T_made_40 {d : Nat} {x1 : Int32} {y2 : Int64} {x4 : Int32} {s : mS} {Q : Int64 → mS → Prop} (h : ∃ k1 : Nat, x1 = nI k1 ∧ k1 < 432 ∧ (if (s.2.1 16 k1) ≤ x4 then (Q y2 s) else (∃ k3 : Nat, (((3 : Int32) * x1) + x4) = nI k3 ∧ k3 < 1296 ∧ (q_valueOf d (s.2.1 17 k3) s (fun r4 => if (x4 + (1 : Int32)) = (s.2.1 16 k1) then (h_made_40 d x1 ((y2 ||| (r4 >>> ((((16 : Int32) + ((16 : Int32) * x4))).toInt64 &&& 63))) ||| (((41 : Int32).toInt64) <<< ((((32 : Int32) - ((16 : Int32) * x4))).toInt64 &&& 63))) (x4 + (1 : Int32)) s Q) else (h_made_40 d x1 ((y2 ||| (r4 >>> ((((16 : Int32) + ((16 : Int32) * x4))).toInt64 &&& 63))) ||| (((44 : Int32).toInt64) <<< ((((32 : Int32) - ((16 : Int32) * x4))).toInt64 &&& 63))) (x4 + (1 : Int32)) s Q)))))) : h_made_40 d x1 y2 x4 s Q := by
  obtain ⟨k1, ek1, lk1, h⟩ := h
  by_cases c2 : (s.2.1 16 k1) ≤ x4
  · rw [if_pos c2] at h
    exact ⟨_, _, fun N0 K B G sz sl hN => r_made_40_t hN ek1 lk1 c2, h⟩
  · rw [if_neg c2] at h
    obtain ⟨k3, ek3, lk3, h⟩ := h
    obtain ⟨r4, t5, h⟩ := h
    by_cases c7 : (x4 + (1 : Int32)) = (s.2.1 16 k1)
    · rw [if_pos c7] at h
      obtain ⟨r, s9, e, h⟩ := h
      exact ⟨r, s9, fun N0 K B G sz sl hN => r_made_40_ff_at40 hN ek1 lk1 c2 ek3 lk3 (t5 N0 K B G sz hN) ek1 lk1 c7 (e N0 K B G sz sl hN), h⟩
    · rw [if_neg c7] at h
      obtain ⟨r, s9, e, h⟩ := h
      exact ⟨r, s9, fun N0 K B G sz sl hN => r_made_40_ft_at40 hN ek1 lk1 c2 ek3 lk3 (t5 N0 K B G sz hN) ek1 lk1 c7 (e N0 K B G sz sl hN), h⟩
theorem T_part_0 {d : Nat} {p0 : Int32} {p1 : Int32} {s : mS} {Q : Int64 → mS → Prop} (h : ∃ k1 : Nat, p0 = nI k1 ∧ k1 < 144 ∧ (if ((s.2.1 14 k1) &&& (3 : Int32)) ≤ p1 then (Q (0 : Int64) s) else (q_made d (((3 : Int32) * p0) + p1) s (fun r3 => Q r3 s)))) : h_part_0 d p0 p1 s Q := by
  obtain ⟨k1, ek1, lk1, h⟩ := h
  by_cases c2 : ((s.2.1 14 k1) &&& (3 : Int32)) ≤ p1
  · rw [if_pos c2] at h
    exact ⟨_, _, fun N0 K B G sz sl hN => r_part_0_t hN ek1 lk1 c2, h⟩
  · rw [if_neg c2] at h
    obtain ⟨r3, t4, h⟩ := h
    exact ⟨_, _, fun N0 K B G sz sl hN => r_part_0_f hN ek1 lk1 c2 (t4 N0 K B G sz hN), h⟩
theorem m_part.of {d : Nat} {p0 : Int32} {p1 : Int32} {s : mS} {Q : Int64 → mS → Prop} (h : h_part_0 d p0 p1 s Q) : m_part (d + 1) p0 p1 s Q := mC.of (fun _ => rfl) (by decide) (fun _ => Nat.le_of_ble_eq_true rfl) (fun _ => rfl) h
theorem q_part.of {d : Nat} {p0 : Int32} {p1 : Int32} {s : mS} {Q : Int64 → Prop} (h : h_part_0 d p0 p1 s (fun r s' => s' = s ∧ Q r)) : q_part (d + 1) p0 p1 s Q := mQ.of (m_part.of h)
theorem T_agrees_0 {d : Nat} {p0 : Int32} {s : mS} {Q : Int32 → mS → Prop} (h : h_agrees_7 d p0 (((6 : Int32) * p0) + (1 : Int32)) s Q) : h_agrees_0 d p0 s Q := by
  obtain ⟨r, s9, e, h⟩ := h
  exact ⟨r, s9, fun N0 K B G sz sl hN => r_agrees_0__at7 hN (e N0 K B G sz sl hN), h⟩
theorem m_agrees.of {d : Nat} {p0 : Int32} {s : mS} {Q : Int32 → mS → Prop} (h : h_agrees_0 d p0 s Q) : m_agrees (d + 1) p0 s Q := mC.of (fun _ => rfl) (by decide) (fun _ => Nat.le_of_ble_eq_true rfl) (fun _ => rfl) h
theorem q_agrees.of {d : Nat} {p0 : Int32} {s : mS} {Q : Int32 → Prop} (h : h_agrees_0 d p0 s (fun r s' => s' = s ∧ Q r)) : q_agrees (d + 1) p0 s Q := mQ.of (m_agrees.of h)
theorem T_agrees_7 {d : Nat} {x1 : Int32} {x2 : Int32} {s : mS} {Q : Int32 → mS → Prop} (h : ∃ k1 : Nat, x1 = nI k1 ∧ k1 < 24 ∧ (if (((6 : Int32) * x1) + (s.2.1 12 k1)) < x2 then (Q (1 : Int32) s) else (∃ k3 : Nat, x2 = nI k3 ∧ k3 < 144 ∧ (if (s.2.1 13 k3) = (1 : Int32) then (q_part d x2 (0 : Int32) s (fun r6 => q_part d x2 (1 : Int32) s (fun r8 => q_part d x2 (2 : Int32) s (fun r10 => q_holds d (s.2.1 14 k3) r6 r8 r10 s (fun r12 => if r12 = 0 then (if (s.2.1 13 k3) = (2 : Int32) then (q_made d ((3 : Int32) * x2) s (fun r17 => q_made d (((3 : Int32) * x2) + (1 : Int32)) s (fun r19 => if (lg_cmp r17 r19) = 0 then (Q (0 : Int32) s) else (h_agrees_7 d x1 (x2 + (1 : Int32)) s Q)))) else (h_agrees_7 d x1 (x2 + (1 : Int32)) s Q)) else (Q (0 : Int32) s)))))) else (if (s.2.1 13 k3) = (2 : Int32) then (q_made d ((3 : Int32) * x2) s (fun r7 => q_made d (((3 : Int32) * x2) + (1 : Int32)) s (fun r9 => if (lg_cmp r7 r9) = 0 then (Q (0 : Int32) s) else (h_agrees_7 d x1 (x2 + (1 : Int32)) s Q)))) else (h_agrees_7 d x1 (x2 + (1 : Int32)) s Q)))))) : h_agrees_7 d x1 x2 s Q := by
  obtain ⟨k1, ek1, lk1, h⟩ := h
  by_cases c2 : (((6 : Int32) * x1) + (s.2.1 12 k1)) < x2
  · rw [if_pos c2] at h
    exact ⟨_, _, fun N0 K B G sz sl hN => r_agrees_7_t hN ek1 lk1 c2, h⟩
  · rw [if_neg c2] at h
    obtain ⟨k3, ek3, lk3, h⟩ := h
    by_cases c4 : (s.2.1 13 k3) = (1 : Int32)
    · rw [if_pos c4] at h
      obtain ⟨r6, t7, h⟩ := h
      obtain ⟨r8, t9, h⟩ := h
      obtain ⟨r10, t11, h⟩ := h
      obtain ⟨r12, t13, h⟩ := h
      by_cases c14 : r12 = 0
      · rw [if_pos c14] at h
        by_cases c16 : (s.2.1 13 k3) = (2 : Int32)
        · rw [if_pos c16] at h
          obtain ⟨r17, t18, h⟩ := h
          obtain ⟨r19, t20, h⟩ := h
          by_cases c21 : (lg_cmp r17 r19) = 0
          · rw [if_pos c21] at h
            exact ⟨_, _, fun N0 K B G sz sl hN => r_agrees_7_fftff hN ek1 lk1 c2 ek3 lk3 c4 ek3 lk3 (t7 N0 K B G sz hN) (t9 N0 K B G sz hN) (t11 N0 K B G sz hN) (t13 N0 K B G sz hN) c14 ek3 lk3 c16 (t18 N0 K B G sz hN) (t20 N0 K B G sz hN) c21, h⟩
          · rw [if_neg c21] at h
            obtain ⟨r, s9, e, h⟩ := h
            exact ⟨r, s9, fun N0 K B G sz sl hN => r_agrees_7_fftft_at7 hN ek1 lk1 c2 ek3 lk3 c4 ek3 lk3 (t7 N0 K B G sz hN) (t9 N0 K B G sz hN) (t11 N0 K B G sz hN) (t13 N0 K B G sz hN) c14 ek3 lk3 c16 (t18 N0 K B G sz hN) (t20 N0 K B G sz hN) c21 (e N0 K B G sz sl hN), h⟩
        · rw [if_neg c16] at h
          obtain ⟨r, s9, e, h⟩ := h
          exact ⟨r, s9, fun N0 K B G sz sl hN => r_agrees_7_fftt_at7 hN ek1 lk1 c2 ek3 lk3 c4 ek3 lk3 (t7 N0 K B G sz hN) (t9 N0 K B G sz hN) (t11 N0 K B G sz hN) (t13 N0 K B G sz hN) c14 ek3 lk3 c16 (e N0 K B G sz sl hN), h⟩
      · rw [if_neg c14] at h
        exact ⟨_, _, fun N0 K B G sz sl hN => r_agrees_7_fff hN ek1 lk1 c2 ek3 lk3 c4 ek3 lk3 (t7 N0 K B G sz hN) (t9 N0 K B G sz hN) (t11 N0 K B G sz hN) (t13 N0 K B G sz hN) c14, h⟩
    · rw [if_neg c4] at h
      by_cases c6 : (s.2.1 13 k3) = (2 : Int32)
      · rw [if_pos c6] at h
        obtain ⟨r7, t8, h⟩ := h
        obtain ⟨r9, t10, h⟩ := h
        by_cases c11 : (lg_cmp r7 r9) = 0
        · rw [if_pos c11] at h
          exact ⟨_, _, fun N0 K B G sz sl hN => r_agrees_7_ftff hN ek1 lk1 c2 ek3 lk3 c4 ek3 lk3 c6 (t8 N0 K B G sz hN) (t10 N0 K B G sz hN) c11, h⟩
        · rw [if_neg c11] at h
          obtain ⟨r, s9, e, h⟩ := h
          exact ⟨r, s9, fun N0 K B G sz sl hN => r_agrees_7_ftft_at7 hN ek1 lk1 c2 ek3 lk3 c4 ek3 lk3 c6 (t8 N0 K B G sz hN) (t10 N0 K B G sz hN) c11 (e N0 K B G sz sl hN), h⟩
      · rw [if_neg c6] at h
        obtain ⟨r, s9, e, h⟩ := h
        exact ⟨r, s9, fun N0 K B G sz sl hN => r_agrees_7_ftt_at7 hN ek1 lk1 c2 ek3 lk3 c4 ek3 lk3 c6 (e N0 K B G sz sl hN), h⟩
theorem T_held_0 {d : Nat} {p0 : Int32} {s : mS} {Q : Int32 → mS → Prop} (h : h_held_7 d p0 (0 : Int32) ((6 : Int32) * p0) s Q) : h_held_0 d p0 s Q := by
  obtain ⟨r, s9, e, h⟩ := h
  exact ⟨r, s9, fun N0 K B G sz sl hN => r_held_0__at7 hN (e N0 K B G sz sl hN), h⟩
theorem m_held.of {d : Nat} {p0 : Int32} {s : mS} {Q : Int32 → mS → Prop} (h : h_held_0 d p0 s Q) : m_held (d + 1) p0 s Q := mC.of (fun _ => rfl) (by decide) (fun _ => Nat.le_of_ble_eq_true rfl) (fun _ => rfl) h
theorem q_held.of {d : Nat} {p0 : Int32} {s : mS} {Q : Int32 → Prop} (h : h_held_0 d p0 s (fun r s' => s' = s ∧ Q r)) : q_held (d + 1) p0 s Q := mQ.of (m_held.of h)
theorem T_held_7 {d : Nat} {x1 : Int32} {x2 : Int32} {x3 : Int32} {s : mS} {Q : Int32 → mS → Prop} (h : ∃ k1 : Nat, x1 = nI k1 ∧ k1 < 24 ∧ (if (((6 : Int32) * x1) + (s.2.1 12 k1)) < x3 then (Q x2 s) else (h_held_27 d x1 x2 x3 ((3 : Int32) * x3) s Q))) : h_held_7 d x1 x2 x3 s Q := by
  obtain ⟨k1, ek1, lk1, h⟩ := h
  by_cases c2 : (((6 : Int32) * x1) + (s.2.1 12 k1)) < x3
  · rw [if_pos c2] at h
    exact ⟨_, _, fun N0 K B G sz sl hN => r_held_7_t hN ek1 lk1 c2, h⟩
  · rw [if_neg c2] at h
    obtain ⟨r, s9, e, h⟩ := h
    exact ⟨r, s9, fun N0 K B G sz sl hN => r_held_7_f_at27 hN ek1 lk1 c2 (e N0 K B G sz sl hN), h⟩
theorem T_held_27 {d : Nat} {x1 : Int32} {x2 : Int32} {x3 : Int32} {x4 : Int32} {s : mS} {Q : Int32 → mS → Prop} (h : ∃ k1 : Nat, x3 = nI k1 ∧ k1 < 144 ∧ (if (s.2.1 13 k1) = (2 : Int32) then (if (((3 : Int32) * x3) + (2 : Int32)) ≤ x4 then (h_held_7 d x1 x2 (x3 + (1 : Int32)) s Q) else (h_held_61 d x1 x2 x3 x4 (0 : Int32) s Q)) else (if (((3 : Int32) * x3) + ((s.2.1 14 k1) &&& (3 : Int32))) ≤ x4 then (h_held_7 d x1 x2 (x3 + (1 : Int32)) s Q) else (h_held_61 d x1 x2 x3 x4 (0 : Int32) s Q)))) : h_held_27 d x1 x2 x3 x4 s Q := by
  obtain ⟨k1, ek1, lk1, h⟩ := h
  by_cases c2 : (s.2.1 13 k1) = (2 : Int32)
  · rw [if_pos c2] at h
    by_cases c3 : (((3 : Int32) * x3) + (2 : Int32)) ≤ x4
    · rw [if_pos c3] at h
      obtain ⟨r, s9, e, h⟩ := h
      exact ⟨r, s9, fun N0 K B G sz sl hN => r_held_27_ft_at7 hN ek1 lk1 c2 c3 (e N0 K B G sz sl hN), h⟩
    · rw [if_neg c3] at h
      obtain ⟨r, s9, e, h⟩ := h
      exact ⟨r, s9, fun N0 K B G sz sl hN => r_held_27_ff_at61 hN ek1 lk1 c2 c3 (e N0 K B G sz sl hN), h⟩
  · rw [if_neg c2] at h
    by_cases c4 : (((3 : Int32) * x3) + ((s.2.1 14 k1) &&& (3 : Int32))) ≤ x4
    · rw [if_pos c4] at h
      obtain ⟨r, s9, e, h⟩ := h
      exact ⟨r, s9, fun N0 K B G sz sl hN => r_held_27_tt_at7 hN ek1 lk1 c2 ek1 lk1 c4 (e N0 K B G sz sl hN), h⟩
    · rw [if_neg c4] at h
      obtain ⟨r, s9, e, h⟩ := h
      exact ⟨r, s9, fun N0 K B G sz sl hN => r_held_27_tf_at61 hN ek1 lk1 c2 ek1 lk1 c4 (e N0 K B G sz sl hN), h⟩
theorem T_held_61 {d : Nat} {x1 : Int32} {x2 : Int32} {x3 : Int32} {x4 : Int32} {x5 : Int32} {s : mS} {Q : Int32 → mS → Prop} (h : ∃ k1 : Nat, x4 = nI k1 ∧ k1 < 432 ∧ (if (s.2.1 16 k1) ≤ x5 then (h_held_27 d x1 x2 x3 (x4 + (1 : Int32)) s Q) else (if (s.2.1 15 k1) = 0 then (h_held_27 d x1 x2 x3 (x4 + (1 : Int32)) s Q) else (∃ k5 : Nat, (((3 : Int32) * x4) + x5) = nI k5 ∧ k5 < 1296 ∧ (q_isVariable d (s.2.1 17 k5) s (fun r6 => if r6 = 0 then (h_held_61 d x1 x2 x3 x4 (x5 + (1 : Int32)) s Q) else (h_held_61 d x1 (x2 ||| ((1 : Int32) <<< (((s.2.1 17 k5) - (85 : Int32)) &&& 31))) x3 x4 (x5 + (1 : Int32)) s Q))))))) : h_held_61 d x1 x2 x3 x4 x5 s Q := by
  obtain ⟨k1, ek1, lk1, h⟩ := h
  by_cases c2 : (s.2.1 16 k1) ≤ x5
  · rw [if_pos c2] at h
    obtain ⟨r, s9, e, h⟩ := h
    exact ⟨r, s9, fun N0 K B G sz sl hN => r_held_61_t_at27 hN ek1 lk1 c2 (e N0 K B G sz sl hN), h⟩
  · rw [if_neg c2] at h
    by_cases c4 : (s.2.1 15 k1) = 0
    · rw [if_pos c4] at h
      obtain ⟨r, s9, e, h⟩ := h
      exact ⟨r, s9, fun N0 K B G sz sl hN => r_held_61_ft_at27 hN ek1 lk1 c2 ek1 lk1 c4 (e N0 K B G sz sl hN), h⟩
    · rw [if_neg c4] at h
      obtain ⟨k5, ek5, lk5, h⟩ := h
      obtain ⟨r6, t7, h⟩ := h
      by_cases c8 : r6 = 0
      · rw [if_pos c8] at h
        obtain ⟨r, s9, e, h⟩ := h
        exact ⟨r, s9, fun N0 K B G sz sl hN => r_held_61_fft_at61 hN ek1 lk1 c2 ek1 lk1 c4 ek5 lk5 (t7 N0 K B G sz hN) c8 (e N0 K B G sz sl hN), h⟩
      · rw [if_neg c8] at h
        obtain ⟨r, s9, e, h⟩ := h
        exact ⟨r, s9, fun N0 K B G sz sl hN => r_held_61_fff_at61 hN ek1 lk1 c2 ek1 lk1 c4 ek5 lk5 (t7 N0 K B G sz hN) c8 ek5 lk5 (e N0 K B G sz sl hN), h⟩
theorem T_ways_0 {d : Nat} {p0 : Int32} {s : mS} {Q : Int64 → mS → Prop} (h : h_ways_10 d p0 (1 : Int64) (((6 : Int32) * p0) + (1 : Int32)) s Q) : h_ways_0 d p0 s Q := by
  obtain ⟨r, s9, e, h⟩ := h
  exact ⟨r, s9, fun N0 K B G sz sl hN => r_ways_0__at10 hN (e N0 K B G sz sl hN), h⟩
theorem m_ways.of {d : Nat} {p0 : Int32} {s : mS} {Q : Int64 → mS → Prop} (h : h_ways_0 d p0 s Q) : m_ways (d + 1) p0 s Q := mC.of (fun _ => rfl) (by decide) (fun _ => Nat.le_of_ble_eq_true rfl) (fun _ => rfl) h
theorem q_ways.of {d : Nat} {p0 : Int32} {s : mS} {Q : Int64 → Prop} (h : h_ways_0 d p0 s (fun r s' => s' = s ∧ Q r)) : q_ways (d + 1) p0 s Q := mQ.of (m_ways.of h)
theorem T_ways_10 {d : Nat} {x1 : Int32} {y2 : Int64} {x4 : Int32} {s : mS} {Q : Int64 → mS → Prop} (h : ∃ k1 : Nat, x1 = nI k1 ∧ k1 < 24 ∧ (if (((6 : Int32) * x1) + (s.2.1 12 k1)) < x4 then (Q y2 s) else (h_ways_32 d x1 y2 x4 (0 : Int64) (0 : Int32) s Q))) : h_ways_10 d x1 y2 x4 s Q := by
  obtain ⟨k1, ek1, lk1, h⟩ := h
  by_cases c2 : (((6 : Int32) * x1) + (s.2.1 12 k1)) < x4
  · rw [if_pos c2] at h
    exact ⟨_, _, fun N0 K B G sz sl hN => r_ways_10_t hN ek1 lk1 c2, h⟩
  · rw [if_neg c2] at h
    obtain ⟨r, s9, e, h⟩ := h
    exact ⟨r, s9, fun N0 K B G sz sl hN => r_ways_10_f_at32 hN ek1 lk1 c2 (e N0 K B G sz sl hN), h⟩
theorem T_ways_32 {d : Nat} {x1 : Int32} {y2 : Int64} {x4 : Int32} {y5 : Int64} {x7 : Int32} {s : mS} {Q : Int64 → mS → Prop} (h : if (s.1 20) ≤ x7 then (∃ k2 : Nat, x4 = nI k2 ∧ k2 < 144 ∧ (if (s.2.1 13 k2) = 0 then (h_ways_10 d x1 (y2 * y5) (x4 + (1 : Int32)) s Q) else (h_ways_10 d x1 y2 (x4 + (1 : Int32)) s Q))) else (∃ k2 : Nat, x4 = nI k2 ∧ k2 < 144 ∧ (if (s.2.1 13 k2) = 0 then (∃ k4 : Nat, x7 = nI k4 ∧ k4 < 201 ∧ (if (s.2.1 21 k4) = (s.2.1 14 k2) then (h_ways_32 d x1 y2 x4 (y5 + (1 : Int64)) (x7 + (1 : Int32)) s Q) else (h_ways_32 d x1 y2 x4 y5 (x7 + (1 : Int32)) s Q))) else (h_ways_10 d x1 y2 (x4 + (1 : Int32)) s Q)))) : h_ways_32 d x1 y2 x4 y5 x7 s Q := by
  by_cases c1 : (s.1 20) ≤ x7
  · rw [if_pos c1] at h
    obtain ⟨k2, ek2, lk2, h⟩ := h
    by_cases c3 : (s.2.1 13 k2) = 0
    · rw [if_pos c3] at h
      obtain ⟨r, s9, e, h⟩ := h
      exact ⟨r, s9, fun N0 K B G sz sl hN => r_ways_32_tf_at10 hN c1 ek2 lk2 c3 (e N0 K B G sz sl hN), h⟩
    · rw [if_neg c3] at h
      obtain ⟨r, s9, e, h⟩ := h
      exact ⟨r, s9, fun N0 K B G sz sl hN => r_ways_32_tt_at10 hN c1 ek2 lk2 c3 (e N0 K B G sz sl hN), h⟩
  · rw [if_neg c1] at h
    obtain ⟨k2, ek2, lk2, h⟩ := h
    by_cases c3 : (s.2.1 13 k2) = 0
    · rw [if_pos c3] at h
      obtain ⟨k4, ek4, lk4, h⟩ := h
      by_cases c6 : (s.2.1 21 k4) = (s.2.1 14 k2)
      · rw [if_pos c6] at h
        obtain ⟨r, s9, e, h⟩ := h
        exact ⟨r, s9, fun N0 K B G sz sl hN => r_ways_32_fff_at32 hN c1 ek2 lk2 c3 ek4 lk4 ek2 lk2 c6 (e N0 K B G sz sl hN), h⟩
      · rw [if_neg c6] at h
        obtain ⟨r, s9, e, h⟩ := h
        exact ⟨r, s9, fun N0 K B G sz sl hN => r_ways_32_fft_at32 hN c1 ek2 lk2 c3 ek4 lk4 ek2 lk2 c6 (e N0 K B G sz sl hN), h⟩
    · rw [if_neg c3] at h
      obtain ⟨r, s9, e, h⟩ := h
      exact ⟨r, s9, fun N0 K B G sz sl hN => r_ways_32_ftt_at10 hN c1 ek2 lk2 c3 ek2 lk2 c3 (e N0 K B G sz sl hN), h⟩
theorem T_apply_0 {d : Nat} {p0 : Int32} {s : mS} {Q : Unit → mS → Prop} (h : q_held d p0 s (fun r1 => h_apply_11 d p0 (0 : Int32) (mI s 28 r1) Q)) : h_apply_0 d p0 s Q := by
  obtain ⟨r1, t2, h⟩ := h
  obtain ⟨r, s9, e, h⟩ := h
  exact ⟨r, s9, fun N0 K B G sz sl hN => r_apply_0__at11 hN (t2 N0 K B G sz hN) (e N0 K B G sz sl hN), h⟩
theorem m_apply.of {d : Nat} {p0 : Int32} {s : mS} {Q : Unit → mS → Prop} (h : h_apply_0 d p0 s Q) : m_apply (d + 1) p0 s Q := mC.of (fun _ => rfl) (by decide) (fun _ => Nat.le_of_ble_eq_true rfl) (fun _ => rfl) h
theorem q_apply.of {d : Nat} {p0 : Int32} {s : mS} {Q : Unit → Prop} (h : h_apply_0 d p0 s (fun r s' => s' = s ∧ Q r)) : q_apply (d + 1) p0 s Q := mQ.of (m_apply.of h)
theorem T_apply_11 {d : Nat} {x1 : Int32} {x2 : Int32} {s : mS} {Q : Unit → mS → Prop} (h : if (6 : Int32) ≤ x2 then (∃ k2 : Nat, x1 = nI k2 ∧ k2 < 24 ∧ (if (s.1 23) = 0 then (q_ways d x1 (mA s 27 (upd (s.2.1 27) 0 (-1 : Int32))) (fun r5 => if (lg_cmp r5 (100000 : Int64)) ≤ 0 then (h_apply_74 d x1 (s.2.1 12 k2) (0 : Int32) (mI (mA s 27 (upd (s.2.1 27) 0 (-1 : Int32))) 23 (0 : Int32)) Q) else (h_apply_74 d x1 (s.2.1 12 k2) (0 : Int32) (mI (mA s 27 (upd (s.2.1 27) 0 (-1 : Int32))) 23 (1 : Int32)) Q))) else (h_apply_74 d x1 (s.2.1 12 k2) (0 : Int32) (mI (mA s 27 (upd (s.2.1 27) 0 (-1 : Int32))) 23 (1 : Int32)) Q))) else (∃ k2 : Nat, x2 = nI k2 ∧ k2 < 6 ∧ (h_apply_11 d x1 (x2 + (1 : Int32)) (mA s 26 (upd (s.2.1 26) k2 (-1 : Int32))) Q))) : h_apply_11 d x1 x2 s Q := by
  by_cases c1 : (6 : Int32) ≤ x2
  · rw [if_pos c1] at h
    obtain ⟨k2, ek2, lk2, h⟩ := h
    by_cases c4 : (s.1 23) = 0
    · rw [if_pos c4] at h
      obtain ⟨r5, t6, h⟩ := h
      by_cases c7 : (lg_cmp r5 (100000 : Int64)) ≤ 0
      · rw [if_pos c7] at h
        obtain ⟨r, s9, e, h⟩ := h
        exact ⟨r, s9, fun N0 K B G sz sl hN => r_apply_11_tft_at74 hN c1 ek2 lk2 rfl (by decide) c4 (t6 N0 K B G sz hN) c7 (e N0 K B G sz sl hN), h⟩
      · rw [if_neg c7] at h
        obtain ⟨r, s9, e, h⟩ := h
        exact ⟨r, s9, fun N0 K B G sz sl hN => r_apply_11_tff_at74 hN c1 ek2 lk2 rfl (by decide) c4 (t6 N0 K B G sz hN) c7 (e N0 K B G sz sl hN), h⟩
    · rw [if_neg c4] at h
      obtain ⟨r, s9, e, h⟩ := h
      exact ⟨r, s9, fun N0 K B G sz sl hN => r_apply_11_tt_at74 hN c1 ek2 lk2 rfl (by decide) c4 (e N0 K B G sz sl hN), h⟩
  · rw [if_neg c1] at h
    obtain ⟨k2, ek2, lk2, h⟩ := h
    obtain ⟨r, s9, e, h⟩ := h
    exact ⟨r, s9, fun N0 K B G sz sl hN => r_apply_11_f_at11 hN c1 ek2 lk2 (e N0 K B G sz sl hN), h⟩
theorem T_apply_74 {d : Nat} {x1 : Int32} {x2 : Int32} {x3 : Int32} {s : mS} {Q : Unit → mS → Prop} (h : if x3 < 0 then (Q () s) else (if (s.1 23) = 0 then (if x3 = x2 then (q_agrees d x1 s (fun r4 => if r4 = 0 then (h_apply_74 d x1 x2 (x3 + (-1 : Int32)) (mI s 23 (0 : Int32)) Q) else (∃ k7 : Nat, ((6 : Int32) * x1) = nI k7 ∧ k7 < 144 ∧ (q_part d ((6 : Int32) * x1) (0 : Int32) s (fun r8 => q_part d ((6 : Int32) * x1) (1 : Int32) s (fun r10 => q_part d ((6 : Int32) * x1) (2 : Int32) s (fun r12 => m_add d (s.2.1 14 k7) r8 r10 r12 s (fun _ s15 => if (s15.1 23) = 0 then (if (s15.1 20) ≤ (s.1 20) then (h_apply_74 d x1 x2 (x3 + (-1 : Int32)) (mI s15 23 (0 : Int32)) Q) else (q_ways d x1 s15 (fun r18 => if (lg_cmp r18 (100000 : Int64)) ≤ 0 then (h_apply_74 d x1 x2 (x3 + (-1 : Int32)) (mI s15 23 (0 : Int32)) Q) else (h_apply_74 d x1 x2 (x3 + (-1 : Int32)) (mI s15 23 (1 : Int32)) Q)))) else (h_apply_74 d x1 x2 (x3 + (-1 : Int32)) (mI s15 23 (1 : Int32)) Q))))))))) else (h_apply_190 d x1 x2 x3 (0 : Int32) s Q)) else (Q () s))) : h_apply_74 d x1 x2 x3 s Q := by
  by_cases c1 : x3 < 0
  · rw [if_pos c1] at h
    exact ⟨_, _, fun N0 K B G sz sl hN => r_apply_74_t hN c1, h⟩
  · rw [if_neg c1] at h
    by_cases c2 : (s.1 23) = 0
    · rw [if_pos c2] at h
      by_cases c3 : x3 = x2
      · rw [if_pos c3] at h
        obtain ⟨r4, t5, h⟩ := h
        by_cases c6 : r4 = 0
        · rw [if_pos c6] at h
          obtain ⟨r, s9, e, h⟩ := h
          exact ⟨r, s9, fun N0 K B G sz sl hN => r_apply_74_ffftft_at74 hN c1 c2 c3 (t5 N0 K B G sz hN) c6 c2 (Int32.le_refl _) (e N0 K B G sz sl hN), h⟩
        · rw [if_neg c6] at h
          obtain ⟨k7, ek7, lk7, h⟩ := h
          obtain ⟨r8, t9, h⟩ := h
          obtain ⟨r10, t11, h⟩ := h
          obtain ⟨r12, t13, h⟩ := h
          obtain ⟨_r, s15, t14, h⟩ := h
          by_cases c16 : (s15.1 23) = 0
          · rw [if_pos c16] at h
            by_cases c17 : (s15.1 20) ≤ (s.1 20)
            · rw [if_pos c17] at h
              obtain ⟨r, s9, e, h⟩ := h
              exact ⟨r, s9, fun N0 K B G sz sl hN => r_apply_74_ffffft_at74 hN c1 c2 c3 (t5 N0 K B G sz hN) c6 ek7 lk7 (t9 N0 K B G sz hN) (t11 N0 K B G sz hN) (t13 N0 K B G sz hN) (t14 N0 K B G sz hN) c16 c17 (e N0 K B G sz sl hN), h⟩
            · rw [if_neg c17] at h
              obtain ⟨r18, t19, h⟩ := h
              by_cases c20 : (lg_cmp r18 (100000 : Int64)) ≤ 0
              · rw [if_pos c20] at h
                obtain ⟨r, s9, e, h⟩ := h
                exact ⟨r, s9, fun N0 K B G sz sl hN => r_apply_74_fffffft_at74 hN c1 c2 c3 (t5 N0 K B G sz hN) c6 ek7 lk7 (t9 N0 K B G sz hN) (t11 N0 K B G sz hN) (t13 N0 K B G sz hN) (t14 N0 K B G sz hN) c16 c17 (t19 N0 K B G sz hN) c20 (e N0 K B G sz sl hN), h⟩
              · rw [if_neg c20] at h
                obtain ⟨r, s9, e, h⟩ := h
                exact ⟨r, s9, fun N0 K B G sz sl hN => r_apply_74_fffffff_at74 hN c1 c2 c3 (t5 N0 K B G sz hN) c6 ek7 lk7 (t9 N0 K B G sz hN) (t11 N0 K B G sz hN) (t13 N0 K B G sz hN) (t14 N0 K B G sz hN) c16 c17 (t19 N0 K B G sz hN) c20 (e N0 K B G sz sl hN), h⟩
          · rw [if_neg c16] at h
            obtain ⟨r, s9, e, h⟩ := h
            exact ⟨r, s9, fun N0 K B G sz sl hN => r_apply_74_fffft_at74 hN c1 c2 c3 (t5 N0 K B G sz hN) c6 ek7 lk7 (t9 N0 K B G sz hN) (t11 N0 K B G sz hN) (t13 N0 K B G sz hN) (t14 N0 K B G sz hN) c16 (e N0 K B G sz sl hN), h⟩
      · rw [if_neg c3] at h
        obtain ⟨r, s9, e, h⟩ := h
        exact ⟨r, s9, fun N0 K B G sz sl hN => r_apply_74_fft_at190 hN c1 c2 c3 (e N0 K B G sz sl hN), h⟩
    · rw [if_neg c2] at h
      exact ⟨_, _, fun N0 K B G sz sl hN => r_apply_74_ft hN c1 c2, h⟩
theorem T_apply_190 {d : Nat} {x1 : Int32} {x2 : Int32} {x3 : Int32} {x4 : Int32} {s : mS} {Q : Unit → mS → Prop} (h : if (6 : Int32) ≤ x4 then (∃ k2 : Nat, x3 = nI k2 ∧ k2 < 7 ∧ (∃ k4 : Nat, ((((6 : Int32) * x1) + (1 : Int32)) + x3) = nI k4 ∧ k4 < 144 ∧ (if (s.2.1 13 k4) = 0 then (if (s.1 20) ≤ ((upd (s.2.1 27) k2 ((s.2.1 27 k2) + (1 : Int32))) k2) then (h_apply_74 d x1 x2 (x3 + (-1 : Int32)) (mA s 27 (upd (s.2.1 27) k2 ((s.2.1 27 k2) + (1 : Int32)))) Q) else (m_meetsFact d ((((6 : Int32) * x1) + (1 : Int32)) + x3) ((upd (s.2.1 27) k2 ((s.2.1 27 k2) + (1 : Int32))) k2) x3 (mA s 27 (upd (s.2.1 27) k2 ((s.2.1 27 k2) + (1 : Int32)))) (fun r12 s14 => if r12 = 0 then (h_apply_74 d x1 x2 x3 s14 Q) else (∃ k16 : Nat, (x3 + (1 : Int32)) = nI k16 ∧ k16 < 7 ∧ (h_apply_74 d x1 x2 (x3 + (1 : Int32)) (mA s14 27 (upd (s14.2.1 27) k16 (-1 : Int32))) Q))))) else (if ((upd (s.2.1 27) k2 ((s.2.1 27 k2) + (1 : Int32))) k2) = 0 then (∃ k11 : Nat, (x3 + (1 : Int32)) = nI k11 ∧ k11 < 7 ∧ (h_apply_74 d x1 x2 (x3 + (1 : Int32)) (mA (mA s 27 (upd (s.2.1 27) k2 ((s.2.1 27 k2) + (1 : Int32)))) 27 (upd (upd (s.2.1 27) k2 ((s.2.1 27 k2) + (1 : Int32))) k11 (-1 : Int32))) Q)) else (h_apply_74 d x1 x2 (x3 + (-1 : Int32)) (mA s 27 (upd (s.2.1 27) k2 ((s.2.1 27 k2) + (1 : Int32)))) Q))))) else (∃ k2 : Nat, x4 = nI k2 ∧ k2 < 6 ∧ (if (s.2.1 26 k2) = x3 then (h_apply_190 d x1 x2 x3 (x4 + (1 : Int32)) (mA s 26 (upd (s.2.1 26) k2 (-1 : Int32))) Q) else (h_apply_190 d x1 x2 x3 (x4 + (1 : Int32)) (mA s 26 (upd (s.2.1 26) k2 (s.2.1 26 k2))) Q)))) : h_apply_190 d x1 x2 x3 x4 s Q := by
  by_cases c1 : (6 : Int32) ≤ x4
  · rw [if_pos c1] at h
    obtain ⟨k2, ek2, lk2, h⟩ := h
    obtain ⟨k4, ek4, lk4, h⟩ := h
    by_cases c5 : (s.2.1 13 k4) = 0
    · rw [if_pos c5] at h
      by_cases c7 : (s.1 20) ≤ ((upd (s.2.1 27) k2 ((s.2.1 27 k2) + (1 : Int32))) k2)
      · rw [if_pos c7] at h
        obtain ⟨r, s9, e, h⟩ := h
        exact ⟨r, s9, fun N0 K B G sz sl hN => r_apply_190_tttf_at74 hN c1 ek2 lk2 ek2 lk2 ek4 lk4 c5 ek2 lk2 c7 (by decide) (e N0 K B G sz sl hN), h⟩
      · rw [if_neg c7] at h
        obtain ⟨r12, s14, t13, h⟩ := h
        by_cases c15 : r12 = 0
        · rw [if_pos c15] at h
          obtain ⟨r, s9, e, h⟩ := h
          exact ⟨r, s9, fun N0 K B G sz sl hN => r_apply_190_ttftft_at74 hN c1 ek2 lk2 ek2 lk2 ek4 lk4 c5 ek2 lk2 c7 (by decide) ek4 lk4 c5 ek2 lk2 (t13 N0 K B G sz hN) c15 (e N0 K B G sz sl hN), h⟩
        · rw [if_neg c15] at h
          obtain ⟨k16, ek16, lk16, h⟩ := h
          obtain ⟨r, s9, e, h⟩ := h
          exact ⟨r, s9, fun N0 K B G sz sl hN => r_apply_190_ttftff_at74 hN c1 ek2 lk2 ek2 lk2 ek4 lk4 c5 ek2 lk2 c7 (by decide) ek4 lk4 c5 ek2 lk2 (t13 N0 K B G sz hN) c15 ek16 lk16 (e N0 K B G sz sl hN), h⟩
    · rw [if_neg c5] at h
      by_cases c7 : ((upd (s.2.1 27) k2 ((s.2.1 27 k2) + (1 : Int32))) k2) = 0
      · rw [if_pos c7] at h
        obtain ⟨k11, ek11, lk11, h⟩ := h
        obtain ⟨r, s9, e, h⟩ := h
        exact ⟨r, s9, fun N0 K B G sz sl hN => r_apply_190_tfftt_at74 hN c1 ek2 lk2 ek2 lk2 ek4 lk4 c5 ek2 lk2 c7 (by decide) ek4 lk4 c5 ek11 lk11 (e N0 K B G sz sl hN), h⟩
      · rw [if_neg c7] at h
        obtain ⟨r, s9, e, h⟩ := h
        exact ⟨r, s9, fun N0 K B G sz sl hN => r_apply_190_tftf_at74 hN c1 ek2 lk2 ek2 lk2 ek4 lk4 c5 ek2 lk2 c7 (by decide) (e N0 K B G sz sl hN), h⟩
  · rw [if_neg c1] at h
    obtain ⟨k2, ek2, lk2, h⟩ := h
    by_cases c3 : (s.2.1 26 k2) = x3
    · rw [if_pos c3] at h
      obtain ⟨r, s9, e, h⟩ := h
      exact ⟨r, s9, fun N0 K B G sz sl hN => r_apply_190_ff_at190 hN c1 ek2 lk2 c3 ek2 lk2 (e N0 K B G sz sl hN), h⟩
    · rw [if_neg c3] at h
      obtain ⟨r, s9, e, h⟩ := h
      exact ⟨r, s9, fun N0 K B G sz sl hN => r_apply_190_ft_at190 hN c1 ek2 lk2 c3 ek2 lk2 ek2 lk2 (e N0 K B G sz sl hN), h⟩
theorem T_follow_0 {d : Nat} {s : mS} {Q : Unit → mS → Prop} (h : h_follow_4 d (0 : Int32) (0 : Int32) s Q) : h_follow_0 d s Q := by
  obtain ⟨r, s9, e, h⟩ := h
  exact ⟨r, s9, fun N0 K B G sz sl hN => r_follow_0__at4 hN (e N0 K B G sz sl hN), h⟩
theorem m_follow.of {d : Nat} {s : mS} {Q : Unit → mS → Prop} (h : h_follow_0 d s Q) : m_follow (d + 1) s Q := mC.of (fun _ => rfl) (by decide) (fun _ => Nat.le_of_ble_eq_true rfl) (fun _ => rfl) h
theorem q_follow.of {d : Nat} {s : mS} {Q : Unit → Prop} (h : h_follow_0 d s (fun r s' => s' = s ∧ Q r)) : q_follow (d + 1) s Q := mQ.of (m_follow.of h)
theorem T_follow_4 {d : Nat} {x1 : Int32} {x2 : Int32} {s : mS} {Q : Unit → mS → Prop} (h : if (s.1 11) ≤ x2 then (h_follow_57 d x1 (0 : Int32) s Q) else (∃ k2 : Nat, ((6 : Int32) * x2) = nI k2 ∧ k2 < 144 ∧ (∃ k3 : Nat, (s.2.1 14 k2) = nI k3 ∧ k3 < 512 ∧ (if (s.2.1 19 k3) ≤ x1 then (h_follow_4 d x1 (x2 + (1 : Int32)) s Q) else (h_follow_4 d (s.2.1 19 k3) (x2 + (1 : Int32)) s Q))))) : h_follow_4 d x1 x2 s Q := by
  by_cases c1 : (s.1 11) ≤ x2
  · rw [if_pos c1] at h
    obtain ⟨r, s9, e, h⟩ := h
    exact ⟨r, s9, fun N0 K B G sz sl hN => r_follow_4_t_at57 hN c1 (e N0 K B G sz sl hN), h⟩
  · rw [if_neg c1] at h
    obtain ⟨k2, ek2, lk2, h⟩ := h
    obtain ⟨k3, ek3, lk3, h⟩ := h
    by_cases c4 : (s.2.1 19 k3) ≤ x1
    · rw [if_pos c4] at h
      obtain ⟨r, s9, e, h⟩ := h
      exact ⟨r, s9, fun N0 K B G sz sl hN => r_follow_4_ft_at4 hN c1 ek2 lk2 ek3 lk3 c4 (e N0 K B G sz sl hN), h⟩
    · rw [if_neg c4] at h
      obtain ⟨r, s9, e, h⟩ := h
      exact ⟨r, s9, fun N0 K B G sz sl hN => r_follow_4_ff_at4 hN c1 ek2 lk2 ek3 lk3 c4 ek2 lk2 ek3 lk3 (e N0 K B G sz sl hN), h⟩
theorem T_follow_57 {d : Nat} {x1 : Int32} {x2 : Int32} {s : mS} {Q : Unit → mS → Prop} (h : if x1 < x2 then (h_follow_138 d (0 : Int32) s Q) else (h_follow_64 d x1 x2 (-1 : Int32) s Q)) : h_follow_57 d x1 x2 s Q := by
  by_cases c1 : x1 < x2
  · rw [if_pos c1] at h
    obtain ⟨r, s9, e, h⟩ := h
    exact ⟨r, s9, fun N0 K B G sz sl hN => r_follow_57_t_at138 hN c1 (e N0 K B G sz sl hN), h⟩
  · rw [if_neg c1] at h
    obtain ⟨r, s9, e, h⟩ := h
    exact ⟨r, s9, fun N0 K B G sz sl hN => r_follow_57_f_at64 hN c1 (e N0 K B G sz sl hN), h⟩
theorem T_follow_138 {d : Nat} {x2 : Int32} {s : mS} {Q : Unit → mS → Prop} (h : if (s.1 11) ≤ x2 then (Q () s) else (if (s.1 23) = 0 then (q_ways d x2 s (fun r3 => if (lg_cmp r3 (100000 : Int64)) ≤ 0 then (h_follow_138 d (x2 + (1 : Int32)) (mI s 23 (0 : Int32)) Q) else (h_follow_138 d (x2 + (1 : Int32)) (mI s 23 (1 : Int32)) Q))) else (h_follow_138 d (x2 + (1 : Int32)) (mI s 23 (1 : Int32)) Q))) : h_follow_138 d x2 s Q := by
  by_cases c1 : (s.1 11) ≤ x2
  · rw [if_pos c1] at h
    exact ⟨_, _, fun N0 K B G sz sl hN => r_follow_138_t hN c1, h⟩
  · rw [if_neg c1] at h
    by_cases c2 : (s.1 23) = 0
    · rw [if_pos c2] at h
      obtain ⟨r3, t4, h⟩ := h
      by_cases c5 : (lg_cmp r3 (100000 : Int64)) ≤ 0
      · rw [if_pos c5] at h
        obtain ⟨r, s9, e, h⟩ := h
        exact ⟨r, s9, fun N0 K B G sz sl hN => r_follow_138_fft_at138 hN c1 c2 (t4 N0 K B G sz hN) c5 (e N0 K B G sz sl hN), h⟩
      · rw [if_neg c5] at h
        obtain ⟨r, s9, e, h⟩ := h
        exact ⟨r, s9, fun N0 K B G sz sl hN => r_follow_138_fff_at138 hN c1 c2 (t4 N0 K B G sz hN) c5 (e N0 K B G sz sl hN), h⟩
    · rw [if_neg c2] at h
      obtain ⟨r, s9, e, h⟩ := h
      exact ⟨r, s9, fun N0 K B G sz sl hN => r_follow_138_ft_at138 hN c1 c2 (e N0 K B G sz sl hN), h⟩
theorem T_follow_64 {d : Nat} {x1 : Int32} {x2 : Int32} {x3 : Int32} {s : mS} {Q : Unit → mS → Prop} (h : if x3 = (s.1 20) then (h_follow_57 d x1 (x2 + (1 : Int32)) s Q) else (if (s.1 23) = 0 then (h_follow_87 d x1 x2 (s.1 20) (0 : Int32) s Q) else (h_follow_57 d x1 (x2 + (1 : Int32)) s Q))) : h_follow_64 d x1 x2 x3 s Q := by
  by_cases c1 : x3 = (s.1 20)
  · rw [if_pos c1] at h
    obtain ⟨r, s9, e, h⟩ := h
    exact ⟨r, s9, fun N0 K B G sz sl hN => r_follow_64_t_at57 hN c1 (e N0 K B G sz sl hN), h⟩
  · rw [if_neg c1] at h
    by_cases c2 : (s.1 23) = 0
    · rw [if_pos c2] at h
      obtain ⟨r, s9, e, h⟩ := h
      exact ⟨r, s9, fun N0 K B G sz sl hN => r_follow_64_ff_at87 hN c1 c2 (e N0 K B G sz sl hN), h⟩
    · rw [if_neg c2] at h
      obtain ⟨r, s9, e, h⟩ := h
      exact ⟨r, s9, fun N0 K B G sz sl hN => r_follow_64_ft_at57 hN c1 c2 (e N0 K B G sz sl hN), h⟩
theorem T_follow_87 {d : Nat} {x1 : Int32} {x2 : Int32} {x3 : Int32} {x4 : Int32} {s : mS} {Q : Unit → mS → Prop} (h : if (s.1 11) ≤ x4 then (h_follow_64 d x1 x2 x3 s Q) else (∃ k2 : Nat, ((6 : Int32) * x4) = nI k2 ∧ k2 < 144 ∧ (∃ k3 : Nat, (s.2.1 14 k2) = nI k3 ∧ k3 < 512 ∧ (if (s.2.1 19 k3) = x2 then (m_apply d x4 s (fun _ s6 => h_follow_87 d x1 x2 x3 (x4 + (1 : Int32)) s6 Q)) else (h_follow_87 d x1 x2 x3 (x4 + (1 : Int32)) s Q))))) : h_follow_87 d x1 x2 x3 x4 s Q := by
  by_cases c1 : (s.1 11) ≤ x4
  · rw [if_pos c1] at h
    obtain ⟨r, s9, e, h⟩ := h
    exact ⟨r, s9, fun N0 K B G sz sl hN => r_follow_87_t_at64 hN c1 (e N0 K B G sz sl hN), h⟩
  · rw [if_neg c1] at h
    obtain ⟨k2, ek2, lk2, h⟩ := h
    obtain ⟨k3, ek3, lk3, h⟩ := h
    by_cases c4 : (s.2.1 19 k3) = x2
    · rw [if_pos c4] at h
      obtain ⟨_r, s6, t5, h⟩ := h
      obtain ⟨r, s9, e, h⟩ := h
      exact ⟨r, s9, fun N0 K B G sz sl hN => r_follow_87_ff_at87 hN c1 ek2 lk2 ek3 lk3 c4 (t5 N0 K B G sz hN) (e N0 K B G sz sl hN), h⟩
    · rw [if_neg c4] at h
      obtain ⟨r, s9, e, h⟩ := h
      exact ⟨r, s9, fun N0 K B G sz sl hN => r_follow_87_ft_at87 hN c1 ek2 lk2 ek3 lk3 c4 (e N0 K B G sz sl hN), h⟩
theorem T_nothing_0 {d : Nat} {s : mS} {Q : Unit → mS → Prop} (h : Q () (mI (mI (mI s 20 (0 : Int32)) 23 (0 : Int32)) 24 (0 : Int32))) : h_nothing_0 d s Q := by
  exact ⟨_, _, fun N0 K B G sz sl hN => r_nothing_0_ hN , h⟩
theorem m_nothing.of {d : Nat} {s : mS} {Q : Unit → mS → Prop} (h : h_nothing_0 d s Q) : m_nothing (d + 1) s Q := mC.of (fun _ => rfl) (by decide) (fun _ => Nat.le_of_ble_eq_true rfl) (fun _ => rfl) h
theorem q_nothing.of {d : Nat} {s : mS} {Q : Unit → Prop} (h : h_nothing_0 d s (fun r s' => s' = s ∧ Q r)) : q_nothing (d + 1) s Q := mQ.of (m_nothing.of h)
theorem T_inState_now_0 {d : Nat} {p1 : Int32} {p2 : Int32} {s : mS} {Q : Unit → mS → Prop} (h : m_nothing d s (fun _ s2 => h_inState_now_7 d p1 p2 (0 : Int32) s2 Q)) : h_inState_now_0 d p1 p2 s Q := by
  obtain ⟨_r, s2, t1, h⟩ := h
  obtain ⟨r, s9, e, h⟩ := h
  exact ⟨r, s9, fun N0 K B G sz sl hN => r_inState_now_0__at7 hN (t1 N0 K B G sz hN) (e N0 K B G sz sl hN), h⟩
theorem m_inState_now.of {d : Nat} {p1 : Int32} {p2 : Int32} {s : mS} {Q : Unit → mS → Prop} (h : h_inState_now_0 d p1 p2 s Q) : m_inState_now (d + 1) p1 p2 s Q := mC.of (fun _ => rfl) (by decide) (fun _ => Nat.le_of_ble_eq_true rfl) (fun _ => rfl) h
theorem q_inState_now.of {d : Nat} {p1 : Int32} {p2 : Int32} {s : mS} {Q : Unit → Prop} (h : h_inState_now_0 d p1 p2 s (fun r s' => s' = s ∧ Q r)) : q_inState_now (d + 1) p1 p2 s Q := mQ.of (m_inState_now.of h)
theorem T_inState_now_7 {d : Nat} {x2 : Int32} {x3 : Int32} {x4 : Int32} {s : mS} {Q : Unit → mS → Prop} (h : if x3 ≤ x4 then (m_follow d s (fun _ s3 => Q () s3)) else (∃ k2 : Nat, (x2 + x4) = nI k2 ∧ k2 < 24 ∧ (m_add d (337 : Int32) (s.2.2 29 k2) (0 : Int64) (0 : Int64) s (fun _ s4 => h_inState_now_7 d x2 x3 (x4 + (1 : Int32)) s4 Q)))) : h_inState_now_7 d x2 x3 x4 s Q := by
  by_cases c1 : x3 ≤ x4
  · rw [if_pos c1] at h
    obtain ⟨_r, s3, t2, h⟩ := h
    exact ⟨_, _, fun N0 K B G sz sl hN => r_inState_now_7_t hN c1 (t2 N0 K B G sz hN), h⟩
  · rw [if_neg c1] at h
    obtain ⟨k2, ek2, lk2, h⟩ := h
    obtain ⟨_r, s4, t3, h⟩ := h
    obtain ⟨r, s9, e, h⟩ := h
    exact ⟨r, s9, fun N0 K B G sz sl hN => r_inState_now_7_f_at7 hN c1 ek2 lk2 (t3 N0 K B G sz hN) (e N0 K B G sz sl hN), h⟩
theorem T_inState_next_0 {d : Nat} {p1 : Int32} {p2 : Int32} {s : mS} {Q : Unit → mS → Prop} (h : m_nothing d s (fun _ s2 => h_inState_next_7 d p1 p2 (0 : Int32) s2 Q)) : h_inState_next_0 d p1 p2 s Q := by
  obtain ⟨_r, s2, t1, h⟩ := h
  obtain ⟨r, s9, e, h⟩ := h
  exact ⟨r, s9, fun N0 K B G sz sl hN => r_inState_next_0__at7 hN (t1 N0 K B G sz hN) (e N0 K B G sz sl hN), h⟩
theorem m_inState_next.of {d : Nat} {p1 : Int32} {p2 : Int32} {s : mS} {Q : Unit → mS → Prop} (h : h_inState_next_0 d p1 p2 s Q) : m_inState_next (d + 1) p1 p2 s Q := mC.of (fun _ => rfl) (by decide) (fun _ => Nat.le_of_ble_eq_true rfl) (fun _ => rfl) h
theorem q_inState_next.of {d : Nat} {p1 : Int32} {p2 : Int32} {s : mS} {Q : Unit → Prop} (h : h_inState_next_0 d p1 p2 s (fun r s' => s' = s ∧ Q r)) : q_inState_next (d + 1) p1 p2 s Q := mQ.of (m_inState_next.of h)
theorem T_inState_next_7 {d : Nat} {x2 : Int32} {x3 : Int32} {x4 : Int32} {s : mS} {Q : Unit → mS → Prop} (h : if x3 ≤ x4 then (m_follow d s (fun _ s3 => Q () s3)) else (∃ k2 : Nat, (x2 + x4) = nI k2 ∧ k2 < 24 ∧ (m_add d (337 : Int32) (s.2.2 33 k2) (0 : Int64) (0 : Int64) s (fun _ s4 => h_inState_next_7 d x2 x3 (x4 + (1 : Int32)) s4 Q)))) : h_inState_next_7 d x2 x3 x4 s Q := by
  by_cases c1 : x3 ≤ x4
  · rw [if_pos c1] at h
    obtain ⟨_r, s3, t2, h⟩ := h
    exact ⟨_, _, fun N0 K B G sz sl hN => r_inState_next_7_t hN c1 (t2 N0 K B G sz hN), h⟩
  · rw [if_neg c1] at h
    obtain ⟨k2, ek2, lk2, h⟩ := h
    obtain ⟨_r, s4, t3, h⟩ := h
    obtain ⟨r, s9, e, h⟩ := h
    exact ⟨r, s9, fun N0 K B G sz sl hN => r_inState_next_7_f_at7 hN c1 ek2 lk2 (t3 N0 K B G sz hN) (e N0 K B G sz sl hN), h⟩
theorem T_inState_stateTerm_0 {d : Nat} {p1 : Int32} {p2 : Int32} {s : mS} {Q : Unit → mS → Prop} (h : m_nothing d s (fun _ s2 => h_inState_stateTerm_7 d p1 p2 (0 : Int32) s2 Q)) : h_inState_stateTerm_0 d p1 p2 s Q := by
  obtain ⟨_r, s2, t1, h⟩ := h
  obtain ⟨r, s9, e, h⟩ := h
  exact ⟨r, s9, fun N0 K B G sz sl hN => r_inState_stateTerm_0__at7 hN (t1 N0 K B G sz hN) (e N0 K B G sz sl hN), h⟩
theorem m_inState_stateTerm.of {d : Nat} {p1 : Int32} {p2 : Int32} {s : mS} {Q : Unit → mS → Prop} (h : h_inState_stateTerm_0 d p1 p2 s Q) : m_inState_stateTerm (d + 1) p1 p2 s Q := mC.of (fun _ => rfl) (by decide) (fun _ => Nat.le_of_ble_eq_true rfl) (fun _ => rfl) h
theorem q_inState_stateTerm.of {d : Nat} {p1 : Int32} {p2 : Int32} {s : mS} {Q : Unit → Prop} (h : h_inState_stateTerm_0 d p1 p2 s (fun r s' => s' = s ∧ Q r)) : q_inState_stateTerm (d + 1) p1 p2 s Q := mQ.of (m_inState_stateTerm.of h)
theorem T_inState_stateTerm_7 {d : Nat} {x2 : Int32} {x3 : Int32} {x4 : Int32} {s : mS} {Q : Unit → mS → Prop} (h : if x3 ≤ x4 then (m_follow d s (fun _ s3 => Q () s3)) else (∃ k2 : Nat, (x2 + x4) = nI k2 ∧ k2 < 1440 ∧ (m_add d (337 : Int32) (s.2.2 44 k2) (0 : Int64) (0 : Int64) s (fun _ s4 => h_inState_stateTerm_7 d x2 x3 (x4 + (1 : Int32)) s4 Q)))) : h_inState_stateTerm_7 d x2 x3 x4 s Q := by
  by_cases c1 : x3 ≤ x4
  · rw [if_pos c1] at h
    obtain ⟨_r, s3, t2, h⟩ := h
    exact ⟨_, _, fun N0 K B G sz sl hN => r_inState_stateTerm_7_t hN c1 (t2 N0 K B G sz hN), h⟩
  · rw [if_neg c1] at h
    obtain ⟨k2, ek2, lk2, h⟩ := h
    obtain ⟨_r, s4, t3, h⟩ := h
    obtain ⟨r, s9, e, h⟩ := h
    exact ⟨r, s9, fun N0 K B G sz sl hN => r_inState_stateTerm_7_f_at7 hN c1 ek2 lk2 (t3 N0 K B G sz hN) (e N0 K B G sz sl hN), h⟩
theorem T_look_0 {d : Nat} {s : mS} {Q : Unit → mS → Prop} (h : if (s.1 24) = 0 then (m_inState_now d (0 : Int32) (s.1 30) s (fun _ s3 => Q () (mI s3 24 (1 : Int32)))) else (Q () (mI s 24 (1 : Int32)))) : h_look_0 d s Q := by
  by_cases c1 : (s.1 24) = 0
  · rw [if_pos c1] at h
    obtain ⟨_r, s3, t2, h⟩ := h
    exact ⟨_, _, fun N0 K B G sz sl hN => r_look_0_f hN c1 (t2 N0 K B G sz hN), h⟩
  · rw [if_neg c1] at h
    exact ⟨_, _, fun N0 K B G sz sl hN => r_look_0_t hN c1, h⟩
theorem m_look.of {d : Nat} {s : mS} {Q : Unit → mS → Prop} (h : h_look_0 d s Q) : m_look (d + 1) s Q := mC.of (fun _ => rfl) (by decide) (fun _ => Nat.le_of_ble_eq_true rfl) (fun _ => rfl) h
theorem q_look.of {d : Nat} {s : mS} {Q : Unit → Prop} (h : h_look_0 d s (fun r s' => s' = s ∧ Q r)) : q_look (d + 1) s Q := mQ.of (m_look.of h)
theorem T_collect_0 {d : Nat} {p0 : Int32} {p1 : Int64} {p2 : Int32} {s : mS} {Q : Unit → mS → Prop} (h : h_collect_8 d p0 p1 p2 (0 : Int32) (mI s 38 (0 : Int32)) Q) : h_collect_0 d p0 p1 p2 s Q := by
  obtain ⟨r, s9, e, h⟩ := h
  exact ⟨r, s9, fun N0 K B G sz sl hN => r_collect_0__at8 hN (e N0 K B G sz sl hN), h⟩
theorem m_collect.of {d : Nat} {p0 : Int32} {p1 : Int64} {p2 : Int32} {s : mS} {Q : Unit → mS → Prop} (h : h_collect_0 d p0 p1 p2 s Q) : m_collect (d + 1) p0 p1 p2 s Q := mC.of (fun _ => rfl) (by decide) (fun _ => Nat.le_of_ble_eq_true rfl) (fun _ => rfl) h
theorem q_collect.of {d : Nat} {p0 : Int32} {p1 : Int64} {p2 : Int32} {s : mS} {Q : Unit → Prop} (h : h_collect_0 d p0 p1 p2 s (fun r s' => s' = s ∧ Q r)) : q_collect (d + 1) p0 p1 p2 s Q := mQ.of (m_collect.of h)
theorem T_collect_8 {d : Nat} {x1 : Int32} {y2 : Int64} {x4 : Int32} {x5 : Int32} {s : mS} {Q : Unit → mS → Prop} (h : if (s.1 20) ≤ x5 then (Q () s) else (∃ k2 : Nat, x5 = nI k2 ∧ k2 < 201 ∧ (if (s.2.1 21 k2) = x1 then (if (lg_cmp y2 (0 : Int64)) = 0 then (∃ k5 : Nat, (((3 : Int32) * x5) + x4) = nI k5 ∧ k5 < 603 ∧ (h_collect_68 d x1 y2 x4 x5 (s.2.2 22 k5) (s.1 38) s Q)) else (∃ k5 : Nat, ((3 : Int32) * x5) = nI k5 ∧ k5 < 603 ∧ (if (lg_cmp (s.2.2 22 k5) y2) = 0 then (∃ k7 : Nat, (((3 : Int32) * x5) + x4) = nI k7 ∧ k7 < 603 ∧ (h_collect_68 d x1 y2 x4 x5 (s.2.2 22 k7) (s.1 38) s Q)) else (h_collect_8 d x1 y2 x4 (x5 + (1 : Int32)) s Q)))) else (h_collect_8 d x1 y2 x4 (x5 + (1 : Int32)) s Q)))) : h_collect_8 d x1 y2 x4 x5 s Q := by
  by_cases c1 : (s.1 20) ≤ x5
  · rw [if_pos c1] at h
    exact ⟨_, _, fun N0 K B G sz sl hN => r_collect_8_t hN c1, h⟩
  · rw [if_neg c1] at h
    obtain ⟨k2, ek2, lk2, h⟩ := h
    by_cases c3 : (s.2.1 21 k2) = x1
    · rw [if_pos c3] at h
      by_cases c4 : (lg_cmp y2 (0 : Int64)) = 0
      · rw [if_pos c4] at h
        obtain ⟨k5, ek5, lk5, h⟩ := h
        obtain ⟨r, s9, e, h⟩ := h
        exact ⟨r, s9, fun N0 K B G sz sl hN => r_collect_8_fft_at68 hN c1 ek2 lk2 c3 c4 ek5 lk5 (e N0 K B G sz sl hN), h⟩
      · rw [if_neg c4] at h
        obtain ⟨k5, ek5, lk5, h⟩ := h
        by_cases c6 : (lg_cmp (s.2.2 22 k5) y2) = 0
        · rw [if_pos c6] at h
          obtain ⟨k7, ek7, lk7, h⟩ := h
          obtain ⟨r, s9, e, h⟩ := h
          exact ⟨r, s9, fun N0 K B G sz sl hN => r_collect_8_ffff_at68 hN c1 ek2 lk2 c3 c4 ek5 lk5 c6 ek7 lk7 (e N0 K B G sz sl hN), h⟩
        · rw [if_neg c6] at h
          obtain ⟨r, s9, e, h⟩ := h
          exact ⟨r, s9, fun N0 K B G sz sl hN => r_collect_8_ffft_at8 hN c1 ek2 lk2 c3 c4 ek5 lk5 c6 (e N0 K B G sz sl hN), h⟩
    · rw [if_neg c3] at h
      obtain ⟨r, s9, e, h⟩ := h
      exact ⟨r, s9, fun N0 K B G sz sl hN => r_collect_8_ft_at8 hN c1 ek2 lk2 c3 (e N0 K B G sz sl hN), h⟩
theorem T_collect_68 {d : Nat} {x1 : Int32} {y2 : Int64} {x4 : Int32} {x5 : Int32} {y6 : Int64} {x8 : Int32} {s : mS} {Q : Unit → mS → Prop} (h : if x8 ≤ 0 then (∃ k2 : Nat, x8 = nI k2 ∧ k2 < 201 ∧ (h_collect_8 d x1 y2 x4 (x5 + (1 : Int32)) (mI (mL s 37 (vp_updL (s.2.2 37) k2 y6)) 38 ((s.1 38) + (1 : Int32))) Q)) else (∃ k2 : Nat, (x8 - (1 : Int32)) = nI k2 ∧ k2 < 201 ∧ (if (lg_cmp (s.2.2 37 k2) y6) ≤ 0 then (∃ k4 : Nat, x8 = nI k4 ∧ k4 < 201 ∧ (h_collect_8 d x1 y2 x4 (x5 + (1 : Int32)) (mI (mL s 37 (vp_updL (s.2.2 37) k4 y6)) 38 ((s.1 38) + (1 : Int32))) Q)) else (∃ k5 : Nat, x8 = nI k5 ∧ k5 < 201 ∧ (h_collect_68 d x1 y2 x4 x5 y6 (x8 + (-1 : Int32)) (mL s 37 (vp_updL (s.2.2 37) k5 (s.2.2 37 k2))) Q))))) : h_collect_68 d x1 y2 x4 x5 y6 x8 s Q := by
  by_cases c1 : x8 ≤ 0
  · rw [if_pos c1] at h
    obtain ⟨k2, ek2, lk2, h⟩ := h
    obtain ⟨r, s9, e, h⟩ := h
    exact ⟨r, s9, fun N0 K B G sz sl hN => r_collect_68_t_at8 hN c1 ek2 lk2 (e N0 K B G sz sl hN), h⟩
  · rw [if_neg c1] at h
    obtain ⟨k2, ek2, lk2, h⟩ := h
    by_cases c3 : (lg_cmp (s.2.2 37 k2) y6) ≤ 0
    · rw [if_pos c3] at h
      obtain ⟨k4, ek4, lk4, h⟩ := h
      obtain ⟨r, s9, e, h⟩ := h
      exact ⟨r, s9, fun N0 K B G sz sl hN => r_collect_68_ft_at8 hN c1 ek2 lk2 c3 ek4 lk4 (e N0 K B G sz sl hN), h⟩
    · rw [if_neg c3] at h
      obtain ⟨k5, ek5, lk5, h⟩ := h
      obtain ⟨r, s9, e, h⟩ := h
      exact ⟨r, s9, fun N0 K B G sz sl hN => r_collect_68_ff_at68 hN c1 ek2 lk2 c3 ek2 lk2 ek5 lk5 (e N0 K B G sz sl hN), h⟩
theorem T_isState_0 {d : Nat} {s : mS} {Q : Int32 → mS → Prop} (h : h_isState_10 d (0 : Int32) (mI s 34 (s.1 38)) Q) : h_isState_0 d s Q := by
  obtain ⟨r, s9, e, h⟩ := h
  exact ⟨r, s9, fun N0 K B G sz sl hN => r_isState_0__at10 hN (e N0 K B G sz sl hN), h⟩
theorem m_isState.of {d : Nat} {s : mS} {Q : Int32 → mS → Prop} (h : h_isState_0 d s Q) : m_isState (d + 1) s Q := mC.of (fun _ => rfl) (by decide) (fun _ => Nat.le_of_ble_eq_true rfl) (fun _ => rfl) h
theorem q_isState.of {d : Nat} {s : mS} {Q : Int32 → Prop} (h : h_isState_0 d s (fun r s' => s' = s ∧ Q r)) : q_isState (d + 1) s Q := mQ.of (m_isState.of h)
theorem T_isState_10 {d : Nat} {x1 : Int32} {s : mS} {Q : Int32 → mS → Prop} (h : if (s.1 38) ≤ x1 then (if (s.1 23) = 0 then (if (24 : Int32) < (s.1 38) then (Q (0 : Int32) s) else (Q (1 : Int32) s)) else (Q (0 : Int32) s)) else (if (24 : Int32) < (s.1 38) then (if (s.1 23) = 0 then (Q (0 : Int32) s) else (Q (0 : Int32) s)) else (∃ k3 : Nat, x1 = nI k3 ∧ k3 < 201 ∧ (∃ k4 : Nat, x1 = nI k4 ∧ k4 < 24 ∧ (h_isState_10 d (x1 + (1 : Int32)) (mL s 33 (vp_updL (s.2.2 33) k4 (s.2.2 37 k3))) Q))))) : h_isState_10 d x1 s Q := by
  by_cases c1 : (s.1 38) ≤ x1
  · rw [if_pos c1] at h
    by_cases c2 : (s.1 23) = 0
    · rw [if_pos c2] at h
      by_cases c3 : (24 : Int32) < (s.1 38)
      · rw [if_pos c3] at h
        exact ⟨_, _, fun N0 K B G sz sl hN => r_isState_10_tft hN c1 c2 c3, h⟩
      · rw [if_neg c3] at h
        exact ⟨_, _, fun N0 K B G sz sl hN => r_isState_10_tff hN c1 c2 c3, h⟩
    · rw [if_neg c2] at h
      exact ⟨_, _, fun N0 K B G sz sl hN => r_isState_10_tt hN c1 c2, h⟩
  · rw [if_neg c1] at h
    by_cases c2 : (24 : Int32) < (s.1 38)
    · rw [if_pos c2] at h
      by_cases c3 : (s.1 23) = 0
      · rw [if_pos c3] at h
        exact ⟨_, _, fun N0 K B G sz sl hN => r_isState_10_ftft hN c1 c2 c3 c2, h⟩
      · rw [if_neg c3] at h
        exact ⟨_, _, fun N0 K B G sz sl hN => r_isState_10_ftt hN c1 c2 c3, h⟩
    · rw [if_neg c2] at h
      obtain ⟨k3, ek3, lk3, h⟩ := h
      obtain ⟨k4, ek4, lk4, h⟩ := h
      obtain ⟨r, s9, e, h⟩ := h
      exact ⟨r, s9, fun N0 K B G sz sl hN => r_isState_10_ff_at10 hN c1 c2 ek3 lk3 ek4 lk4 (e N0 K B G sz sl hN), h⟩
theorem T_leadsOn_now_0 {d : Nat} {p1 : Int32} {p2 : Int32} {p3 : Int64} {p4 : Int64} {s : mS} {Q : Int32 → mS → Prop} (h : m_nothing d s (fun _ s2 => h_leadsOn_now_7 d p1 p2 p3 p4 (0 : Int32) s2 Q)) : h_leadsOn_now_0 d p1 p2 p3 p4 s Q := by
  obtain ⟨_r, s2, t1, h⟩ := h
  obtain ⟨r, s9, e, h⟩ := h
  exact ⟨r, s9, fun N0 K B G sz sl hN => r_leadsOn_now_0__at7 hN (t1 N0 K B G sz hN) (e N0 K B G sz sl hN), h⟩
theorem m_leadsOn_now.of {d : Nat} {p1 : Int32} {p2 : Int32} {p3 : Int64} {p4 : Int64} {s : mS} {Q : Int32 → mS → Prop} (h : h_leadsOn_now_0 d p1 p2 p3 p4 s Q) : m_leadsOn_now (d + 1) p1 p2 p3 p4 s Q := mC.of (fun _ => rfl) (by decide) (fun _ => Nat.le_of_ble_eq_true rfl) (fun _ => rfl) h
theorem q_leadsOn_now.of {d : Nat} {p1 : Int32} {p2 : Int32} {p3 : Int64} {p4 : Int64} {s : mS} {Q : Int32 → Prop} (h : h_leadsOn_now_0 d p1 p2 p3 p4 s (fun r s' => s' = s ∧ Q r)) : q_leadsOn_now (d + 1) p1 p2 p3 p4 s Q := mQ.of (m_leadsOn_now.of h)
theorem T_leadsOn_now_7 {d : Nat} {x2 : Int32} {x3 : Int32} {y4 : Int64} {y6 : Int64} {x8 : Int32} {s : mS} {Q : Int32 → mS → Prop} (h : if x3 ≤ x8 then (m_add d (274 : Int32) (s.2.2 35 0) y4 (0 : Int64) s (fun _ s4 => m_add d (274 : Int32) (s4.2.2 35 1) y6 (0 : Int64) s4 (fun _ s7 => m_follow d s7 (fun _ s9 => m_collect d (313 : Int32) (0 : Int64) (0 : Int32) s9 (fun _ s11 => m_isState d s11 (fun r12 s14 => (r12 = 0 ∨ r12 = 1) ∧ (Q r12 s14))))))) else (∃ k2 : Nat, (x2 + x8) = nI k2 ∧ k2 < 24 ∧ (m_add d (337 : Int32) (s.2.2 29 k2) (0 : Int64) (0 : Int64) s (fun _ s4 => h_leadsOn_now_7 d x2 x3 y4 y6 (x8 + (1 : Int32)) s4 Q)))) : h_leadsOn_now_7 d x2 x3 y4 y6 x8 s Q := by
  by_cases c1 : x3 ≤ x8
  · rw [if_pos c1] at h
    obtain ⟨_r, s4, t3, h⟩ := h
    obtain ⟨_r, s7, t6, h⟩ := h
    obtain ⟨_r, s9, t8, h⟩ := h
    obtain ⟨_r, s11, t10, h⟩ := h
    obtain ⟨r12, s14, t13, h⟩ := h
    obtain ⟨z15, h⟩ := h
    exact ⟨_, _, fun N0 K B G sz sl hN => r_leadsOn_now_7_t hN c1 rfl (by decide) (t3 N0 K B G sz hN) rfl (by decide) (t6 N0 K B G sz hN) (t8 N0 K B G sz hN) (t10 N0 K B G sz hN) (t13 N0 K B G sz hN) z15, h⟩
  · rw [if_neg c1] at h
    obtain ⟨k2, ek2, lk2, h⟩ := h
    obtain ⟨_r, s4, t3, h⟩ := h
    obtain ⟨r, s9, e, h⟩ := h
    exact ⟨r, s9, fun N0 K B G sz sl hN => r_leadsOn_now_7_f_at7 hN c1 ek2 lk2 (t3 N0 K B G sz hN) (e N0 K B G sz sl hN), h⟩
theorem T_leadsOn_stateTerm_0 {d : Nat} {p1 : Int32} {p2 : Int32} {p3 : Int64} {p4 : Int64} {s : mS} {Q : Int32 → mS → Prop} (h : m_nothing d s (fun _ s2 => h_leadsOn_stateTerm_7 d p1 p2 p3 p4 (0 : Int32) s2 Q)) : h_leadsOn_stateTerm_0 d p1 p2 p3 p4 s Q := by
  obtain ⟨_r, s2, t1, h⟩ := h
  obtain ⟨r, s9, e, h⟩ := h
  exact ⟨r, s9, fun N0 K B G sz sl hN => r_leadsOn_stateTerm_0__at7 hN (t1 N0 K B G sz hN) (e N0 K B G sz sl hN), h⟩
theorem m_leadsOn_stateTerm.of {d : Nat} {p1 : Int32} {p2 : Int32} {p3 : Int64} {p4 : Int64} {s : mS} {Q : Int32 → mS → Prop} (h : h_leadsOn_stateTerm_0 d p1 p2 p3 p4 s Q) : m_leadsOn_stateTerm (d + 1) p1 p2 p3 p4 s Q := mC.of (fun _ => rfl) (by decide) (fun _ => Nat.le_of_ble_eq_true rfl) (fun _ => rfl) h
theorem q_leadsOn_stateTerm.of {d : Nat} {p1 : Int32} {p2 : Int32} {p3 : Int64} {p4 : Int64} {s : mS} {Q : Int32 → Prop} (h : h_leadsOn_stateTerm_0 d p1 p2 p3 p4 s (fun r s' => s' = s ∧ Q r)) : q_leadsOn_stateTerm (d + 1) p1 p2 p3 p4 s Q := mQ.of (m_leadsOn_stateTerm.of h)
theorem T_leadsOn_stateTerm_7 {d : Nat} {x2 : Int32} {x3 : Int32} {y4 : Int64} {y6 : Int64} {x8 : Int32} {s : mS} {Q : Int32 → mS → Prop} (h : if x3 ≤ x8 then (m_add d (274 : Int32) (s.2.2 35 0) y4 (0 : Int64) s (fun _ s4 => m_add d (274 : Int32) (s4.2.2 35 1) y6 (0 : Int64) s4 (fun _ s7 => m_follow d s7 (fun _ s9 => m_collect d (313 : Int32) (0 : Int64) (0 : Int32) s9 (fun _ s11 => m_isState d s11 (fun r12 s14 => (r12 = 0 ∨ r12 = 1) ∧ (Q r12 s14))))))) else (∃ k2 : Nat, (x2 + x8) = nI k2 ∧ k2 < 1440 ∧ (m_add d (337 : Int32) (s.2.2 44 k2) (0 : Int64) (0 : Int64) s (fun _ s4 => h_leadsOn_stateTerm_7 d x2 x3 y4 y6 (x8 + (1 : Int32)) s4 Q)))) : h_leadsOn_stateTerm_7 d x2 x3 y4 y6 x8 s Q := by
  by_cases c1 : x3 ≤ x8
  · rw [if_pos c1] at h
    obtain ⟨_r, s4, t3, h⟩ := h
    obtain ⟨_r, s7, t6, h⟩ := h
    obtain ⟨_r, s9, t8, h⟩ := h
    obtain ⟨_r, s11, t10, h⟩ := h
    obtain ⟨r12, s14, t13, h⟩ := h
    obtain ⟨z15, h⟩ := h
    exact ⟨_, _, fun N0 K B G sz sl hN => r_leadsOn_stateTerm_7_t hN c1 rfl (by decide) (t3 N0 K B G sz hN) rfl (by decide) (t6 N0 K B G sz hN) (t8 N0 K B G sz hN) (t10 N0 K B G sz hN) (t13 N0 K B G sz hN) z15, h⟩
  · rw [if_neg c1] at h
    obtain ⟨k2, ek2, lk2, h⟩ := h
    obtain ⟨_r, s4, t3, h⟩ := h
    obtain ⟨r, s9, e, h⟩ := h
    exact ⟨r, s9, fun N0 K B G sz sl hN => r_leadsOn_stateTerm_7_f_at7 hN c1 ek2 lk2 (t3 N0 K B G sz hN) (e N0 K B G sz sl hN), h⟩
theorem T_fetch_sheet_0 {d : Nat} {p1 : Int32} {s : mS} {Q : Unit → mS → Prop} (h : h_fetch_sheet_2 d p1 (0 : Int32) s Q) : h_fetch_sheet_0 d p1 s Q := by
  obtain ⟨r, s9, e, h⟩ := h
  exact ⟨r, s9, fun N0 K B G sz sl hN => r_fetch_sheet_0__at2 hN (e N0 K B G sz sl hN), h⟩
theorem m_fetch_sheet.of {d : Nat} {p1 : Int32} {s : mS} {Q : Unit → mS → Prop} (h : h_fetch_sheet_0 d p1 s Q) : m_fetch_sheet (d + 1) p1 s Q := mC.of (fun _ => rfl) (by decide) (fun _ => Nat.le_of_ble_eq_true rfl) (fun _ => rfl) h
theorem q_fetch_sheet.of {d : Nat} {p1 : Int32} {s : mS} {Q : Unit → Prop} (h : h_fetch_sheet_0 d p1 s (fun r s' => s' = s ∧ Q r)) : q_fetch_sheet (d + 1) p1 s Q := mQ.of (m_fetch_sheet.of h)
theorem T_fetch_sheet_2 {d : Nat} {x2 : Int32} {x3 : Int32} {s : mS} {Q : Unit → mS → Prop} (h : if x2 ≤ x3 then (Q () (mI s 9 x2)) else (∃ k2 : Nat, x3 = nI k2 ∧ k2 < 240 ∧ (h_fetch_sheet_2 d x2 (x3 + (1 : Int32)) (mA s 8 (upd (s.2.1 8) k2 (vp_nar .char (s.2.1 1 k2)))) Q))) : h_fetch_sheet_2 d x2 x3 s Q := by
  by_cases c1 : x2 ≤ x3
  · rw [if_pos c1] at h
    exact ⟨_, _, fun N0 K B G sz sl hN => r_fetch_sheet_2_t hN c1, h⟩
  · rw [if_neg c1] at h
    obtain ⟨k2, ek2, lk2, h⟩ := h
    obtain ⟨r, s9, e, h⟩ := h
    exact ⟨r, s9, fun N0 K B G sz sl hN => r_fetch_sheet_2_f_at2 hN c1 ek2 lk2 ek2 lk2 (e N0 K B G sz sl hN), h⟩
theorem T_fetch_kept_0 {d : Nat} {p1 : Int32} {s : mS} {Q : Unit → mS → Prop} (h : h_fetch_kept_2 d p1 (0 : Int32) s Q) : h_fetch_kept_0 d p1 s Q := by
  obtain ⟨r, s9, e, h⟩ := h
  exact ⟨r, s9, fun N0 K B G sz sl hN => r_fetch_kept_0__at2 hN (e N0 K B G sz sl hN), h⟩
theorem m_fetch_kept.of {d : Nat} {p1 : Int32} {s : mS} {Q : Unit → mS → Prop} (h : h_fetch_kept_0 d p1 s Q) : m_fetch_kept (d + 1) p1 s Q := mC.of (fun _ => rfl) (by decide) (fun _ => Nat.le_of_ble_eq_true rfl) (fun _ => rfl) h
theorem q_fetch_kept.of {d : Nat} {p1 : Int32} {s : mS} {Q : Unit → Prop} (h : h_fetch_kept_0 d p1 s (fun r s' => s' = s ∧ Q r)) : q_fetch_kept (d + 1) p1 s Q := mQ.of (m_fetch_kept.of h)
theorem T_fetch_kept_2 {d : Nat} {x2 : Int32} {x3 : Int32} {s : mS} {Q : Unit → mS → Prop} (h : if x2 ≤ x3 then (Q () (mI s 9 x2)) else (∃ k2 : Nat, x3 = nI k2 ∧ k2 < 240 ∧ (h_fetch_kept_2 d x2 (x3 + (1 : Int32)) (mA s 8 (upd (s.2.1 8) k2 (vp_nar .char (s.2.1 3 k2)))) Q))) : h_fetch_kept_2 d x2 x3 s Q := by
  by_cases c1 : x2 ≤ x3
  · rw [if_pos c1] at h
    exact ⟨_, _, fun N0 K B G sz sl hN => r_fetch_kept_2_t hN c1, h⟩
  · rw [if_neg c1] at h
    obtain ⟨k2, ek2, lk2, h⟩ := h
    obtain ⟨r, s9, e, h⟩ := h
    exact ⟨r, s9, fun N0 K B G sz sl hN => r_fetch_kept_2_f_at2 hN c1 ek2 lk2 ek2 lk2 (e N0 K B G sz sl hN), h⟩
theorem T_begins_0 {d : Nat} {s : mS} {Q : Int32 → mS → Prop} (h : m_nothing d s (fun _ s2 => m_follow d s2 (fun _ s4 => m_collect d (293 : Int32) (0 : Int64) (0 : Int32) s4 (fun _ s6 => m_isState d s6 (fun r7 s9 => if r7 = 0 then (Q (0 : Int32) s9) else (m_inState_next d (0 : Int32) (s9.1 34) s9 (fun _ s12 => if (s12.1 23) = 0 then (Q (1 : Int32) s12) else (Q (0 : Int32) s12)))))))) : h_begins_0 d s Q := by
  obtain ⟨_r, s2, t1, h⟩ := h
  obtain ⟨_r, s4, t3, h⟩ := h
  obtain ⟨_r, s6, t5, h⟩ := h
  obtain ⟨r7, s9, t8, h⟩ := h
  by_cases c10 : r7 = 0
  · rw [if_pos c10] at h
    exact ⟨_, _, fun N0 K B G sz sl hN => r_begins_0_f hN (t1 N0 K B G sz hN) (t3 N0 K B G sz hN) (t5 N0 K B G sz hN) (t8 N0 K B G sz hN) c10, h⟩
  · rw [if_neg c10] at h
    obtain ⟨_r, s12, t11, h⟩ := h
    by_cases c13 : (s12.1 23) = 0
    · rw [if_pos c13] at h
      exact ⟨_, _, fun N0 K B G sz sl hN => r_begins_0_tf hN (t1 N0 K B G sz hN) (t3 N0 K B G sz hN) (t5 N0 K B G sz hN) (t8 N0 K B G sz hN) c10 (t11 N0 K B G sz hN) c13, h⟩
    · rw [if_neg c13] at h
      exact ⟨_, _, fun N0 K B G sz sl hN => r_begins_0_tt hN (t1 N0 K B G sz hN) (t3 N0 K B G sz hN) (t5 N0 K B G sz hN) (t8 N0 K B G sz hN) c10 (t11 N0 K B G sz hN) c13, h⟩
theorem m_begins.of {d : Nat} {s : mS} {Q : Int32 → mS → Prop} (h : h_begins_0 d s Q) : m_begins (d + 1) s Q := mC.of (fun _ => rfl) (by decide) (fun _ => Nat.le_of_ble_eq_true rfl) (fun _ => rfl) h
theorem q_begins.of {d : Nat} {s : mS} {Q : Int32 → Prop} (h : h_begins_0 d s (fun r s' => s' = s ∧ Q r)) : q_begins (d + 1) s Q := mQ.of (m_begins.of h)
theorem T_load_0 {d : Nat} {s : mS} {Q : Int32 → mS → Prop} (h : m_fetch_sheet d (s.1 2) s (fun _ s2 => m_isWell d (mI (mI s2 2 (0 : Int32)) 0 (0 : Int32)) (fun r3 s5 => if r3 = 0 then (if (s5.1 6) = (1 : Int32) then (m_fetch_kept d (s5.1 4) (mI s5 0 (1 : Int32)) (fun _ s10 => if (s10.1 5) = 0 then (Q (0 : Int32) (mI (mI (mI s10 6 (s5.1 6)) 7 (s5.1 7)) 24 (0 : Int32))) else (m_isWell d s10 (fun r12 s14 => Q (0 : Int32) (mI (mI (mI s14 6 (s5.1 6)) 7 (s5.1 7)) 24 (0 : Int32)))))) else (m_fetch_kept d (s5.1 4) (mI s5 0 (2 : Int32)) (fun _ s10 => if (s10.1 5) = 0 then (Q (0 : Int32) (mI (mI (mI s10 6 (s5.1 6)) 7 (s5.1 7)) 24 (0 : Int32))) else (m_isWell d s10 (fun r12 s14 => Q (0 : Int32) (mI (mI (mI s14 6 (s5.1 6)) 7 (s5.1 7)) 24 (0 : Int32))))))) else (m_begins d s5 (fun r7 s9 => if r7 = 0 then (m_fetch_kept d (s9.1 4) (mI s9 0 (3 : Int32)) (fun _ s13 => if (s13.1 5) = 0 then (Q (0 : Int32) (mI (mI (mI s13 6 (s9.1 6)) 7 (s9.1 7)) 24 (0 : Int32))) else (m_isWell d s13 (fun r15 s17 => Q (0 : Int32) (mI (mI (mI s17 6 (s9.1 6)) 7 (s9.1 7)) 24 (0 : Int32)))))) else (h_load_123 d (0 : Int32) (mI s9 0 (0 : Int32)) Q)))))) : h_load_0 d s Q := by
  obtain ⟨_r, s2, t1, h⟩ := h
  obtain ⟨r3, s5, t4, h⟩ := h
  by_cases c6 : r3 = 0
  · rw [if_pos c6] at h
    by_cases c7 : (s5.1 6) = (1 : Int32)
    · rw [if_pos c7] at h
      obtain ⟨_r, s10, t9, h⟩ := h
      by_cases c11 : (s10.1 5) = 0
      · rw [if_pos c11] at h
        exact ⟨_, _, fun N0 K B G sz sl hN => r_load_0_ffft hN (t1 N0 K B G sz hN) (t4 N0 K B G sz hN) c6 c7 (by decide) (t9 N0 K B G sz hN) c11, h⟩
      · rw [if_neg c11] at h
        obtain ⟨r12, s14, t13, h⟩ := h
        exact ⟨_, _, fun N0 K B G sz sl hN => r_load_0_ffff hN (t1 N0 K B G sz hN) (t4 N0 K B G sz hN) c6 c7 (by decide) (t9 N0 K B G sz hN) c11 (t13 N0 K B G sz hN), h⟩
    · rw [if_neg c7] at h
      obtain ⟨_r, s10, t9, h⟩ := h
      by_cases c11 : (s10.1 5) = 0
      · rw [if_pos c11] at h
        exact ⟨_, _, fun N0 K B G sz sl hN => r_load_0_ftft hN (t1 N0 K B G sz hN) (t4 N0 K B G sz hN) c6 c7 (by decide) (t9 N0 K B G sz hN) c11, h⟩
      · rw [if_neg c11] at h
        obtain ⟨r12, s14, t13, h⟩ := h
        exact ⟨_, _, fun N0 K B G sz sl hN => r_load_0_ftff hN (t1 N0 K B G sz hN) (t4 N0 K B G sz hN) c6 c7 (by decide) (t9 N0 K B G sz hN) c11 (t13 N0 K B G sz hN), h⟩
  · rw [if_neg c6] at h
    obtain ⟨r7, s9, t8, h⟩ := h
    by_cases c10 : r7 = 0
    · rw [if_pos c10] at h
      obtain ⟨_r, s13, t12, h⟩ := h
      by_cases c14 : (s13.1 5) = 0
      · rw [if_pos c14] at h
        exact ⟨_, _, fun N0 K B G sz sl hN => r_load_0_ttft hN (t1 N0 K B G sz hN) (t4 N0 K B G sz hN) c6 (t8 N0 K B G sz hN) c10 (by decide) (t12 N0 K B G sz hN) c14, h⟩
      · rw [if_neg c14] at h
        obtain ⟨r15, s17, t16, h⟩ := h
        exact ⟨_, _, fun N0 K B G sz sl hN => r_load_0_ttff hN (t1 N0 K B G sz hN) (t4 N0 K B G sz hN) c6 (t8 N0 K B G sz hN) c10 (by decide) (t12 N0 K B G sz hN) c14 (t16 N0 K B G sz hN), h⟩
    · rw [if_neg c10] at h
      obtain ⟨r, s9, e, h⟩ := h
      exact ⟨r, s9, fun N0 K B G sz sl hN => r_load_0_tft_at123 hN (t1 N0 K B G sz hN) (t4 N0 K B G sz hN) c6 (t8 N0 K B G sz hN) c10 (by decide) (e N0 K B G sz sl hN), h⟩
theorem m_load.of {d : Nat} {s : mS} {Q : Int32 → mS → Prop} (h : h_load_0 d s Q) : m_load (d + 1) s Q := mC.of (fun _ => rfl) (by decide) (fun _ => Nat.le_of_ble_eq_true rfl) (fun _ => rfl) h
theorem q_load.of {d : Nat} {s : mS} {Q : Int32 → Prop} (h : h_load_0 d s (fun r s' => s' = s ∧ Q r)) : q_load (d + 1) s Q := mQ.of (m_load.of h)
theorem T_load_123 {d : Nat} {x2 : Int32} {s : mS} {Q : Int32 → mS → Prop} (h : if (s.1 9) ≤ x2 then (h_load_182 d (0 : Int32) (mI (mI (mI (mI (mI s 4 (s.1 9)) 5 (1 : Int32)) 41 (0 : Int32)) 43 (0 : Int32)) 32 (s.1 34)) Q) else (∃ k2 : Nat, x2 = nI k2 ∧ k2 < 240 ∧ (h_load_123 d (x2 + (1 : Int32)) (mA s 3 (upd (s.2.1 3) k2 (vp_nar .char (s.2.1 8 k2)))) Q))) : h_load_123 d x2 s Q := by
  by_cases c1 : (s.1 9) ≤ x2
  · rw [if_pos c1] at h
    obtain ⟨r, s9, e, h⟩ := h
    exact ⟨r, s9, fun N0 K B G sz sl hN => r_load_123_t_at182 hN c1 (e N0 K B G sz sl hN), h⟩
  · rw [if_neg c1] at h
    obtain ⟨k2, ek2, lk2, h⟩ := h
    obtain ⟨r, s9, e, h⟩ := h
    exact ⟨r, s9, fun N0 K B G sz sl hN => r_load_123_f_at123 hN c1 ek2 lk2 ek2 lk2 (e N0 K B G sz sl hN), h⟩
theorem T_load_182 {d : Nat} {x2 : Int32} {s : mS} {Q : Int32 → mS → Prop} (h : if (s.1 34) ≤ x2 then (m_begin d s (fun _ s3 => m_look d s3 (fun _ s5 => m_collect d (329 : Int32) (0 : Int64) (0 : Int32) s5 (fun _ s7 => h_load_235 d (0 : Int32) (mI s7 36 (s7.1 38)) Q)))) else (∃ k2 : Nat, x2 = nI k2 ∧ k2 < 24 ∧ (h_load_182 d (x2 + (1 : Int32)) (mL s 31 (vp_updL (s.2.2 31) k2 (s.2.2 33 k2))) Q))) : h_load_182 d x2 s Q := by
  by_cases c1 : (s.1 34) ≤ x2
  · rw [if_pos c1] at h
    obtain ⟨_r, s3, t2, h⟩ := h
    obtain ⟨_r, s5, t4, h⟩ := h
    obtain ⟨_r, s7, t6, h⟩ := h
    obtain ⟨r, s9, e, h⟩ := h
    exact ⟨r, s9, fun N0 K B G sz sl hN => r_load_182_t_at235 hN c1 (t2 N0 K B G sz hN) (t4 N0 K B G sz hN) (t6 N0 K B G sz hN) (e N0 K B G sz sl hN), h⟩
  · rw [if_neg c1] at h
    obtain ⟨k2, ek2, lk2, h⟩ := h
    obtain ⟨r, s9, e, h⟩ := h
    exact ⟨r, s9, fun N0 K B G sz sl hN => r_load_182_f_at182 hN c1 ek2 lk2 ek2 lk2 (e N0 K B G sz sl hN), h⟩
theorem T_load_235 {d : Nat} {x2 : Int32} {s : mS} {Q : Int32 → mS → Prop} (h : if (s.1 36) ≤ x2 then (Q (s.1 11) s) else (∃ k2 : Nat, x2 = nI k2 ∧ k2 < 201 ∧ (∃ k3 : Nat, x2 = nI k3 ∧ k3 < 24 ∧ (h_load_235 d (x2 + (1 : Int32)) (mL s 35 (vp_updL (s.2.2 35) k3 (s.2.2 37 k2))) Q)))) : h_load_235 d x2 s Q := by
  by_cases c1 : (s.1 36) ≤ x2
  · rw [if_pos c1] at h
    exact ⟨_, _, fun N0 K B G sz sl hN => r_load_235_t hN c1, h⟩
  · rw [if_neg c1] at h
    obtain ⟨k2, ek2, lk2, h⟩ := h
    obtain ⟨k3, ek3, lk3, h⟩ := h
    obtain ⟨r, s9, e, h⟩ := h
    exact ⟨r, s9, fun N0 K B G sz sl hN => r_load_235_f_at235 hN c1 ek2 lk2 ek3 lk3 (e N0 K B G sz sl hN), h⟩
theorem T_begin_0 {d : Nat} {s : mS} {Q : Unit → mS → Prop} (h : h_begin_10 d (0 : Int32) (mI s 30 (s.1 32)) Q) : h_begin_0 d s Q := by
  obtain ⟨r, s9, e, h⟩ := h
  exact ⟨r, s9, fun N0 K B G sz sl hN => r_begin_0__at10 hN (e N0 K B G sz sl hN), h⟩
theorem m_begin.of {d : Nat} {s : mS} {Q : Unit → mS → Prop} (h : h_begin_0 d s Q) : m_begin (d + 1) s Q := mC.of (fun _ => rfl) (by decide) (fun _ => Nat.le_of_ble_eq_true rfl) (fun _ => rfl) h
theorem q_begin.of {d : Nat} {s : mS} {Q : Unit → Prop} (h : h_begin_0 d s (fun r s' => s' = s ∧ Q r)) : q_begin (d + 1) s Q := mQ.of (m_begin.of h)
theorem T_begin_10 {d : Nat} {x1 : Int32} {s : mS} {Q : Unit → mS → Prop} (h : if (s.1 32) ≤ x1 then (Q () (mI s 24 (0 : Int32))) else (∃ k2 : Nat, x1 = nI k2 ∧ k2 < 24 ∧ (h_begin_10 d (x1 + (1 : Int32)) (mL s 29 (vp_updL (s.2.2 29) k2 (s.2.2 31 k2))) Q))) : h_begin_10 d x1 s Q := by
  by_cases c1 : (s.1 32) ≤ x1
  · rw [if_pos c1] at h
    exact ⟨_, _, fun N0 K B G sz sl hN => r_begin_10_t hN c1, h⟩
  · rw [if_neg c1] at h
    obtain ⟨k2, ek2, lk2, h⟩ := h
    obtain ⟨r, s9, e, h⟩ := h
    exact ⟨r, s9, fun N0 K B G sz sl hN => r_begin_10_f_at10 hN c1 ek2 lk2 ek2 lk2 (e N0 K B G sz sl hN), h⟩
theorem T_fault_0 {d : Nat} {p0 : Int32} {s : mS} {Q : Int32 → mS → Prop} (h : if p0 = 0 then (Q (s.1 6) (mI s 0 (0 : Int32))) else (if p0 = (1 : Int32) then (Q (s.1 7) (mI s 0 (0 : Int32))) else (Q (-1 : Int32) (mI s 0 (0 : Int32))))) : h_fault_0 d p0 s Q := by
  by_cases c1 : p0 = 0
  · rw [if_pos c1] at h
    exact ⟨_, _, fun N0 K B G sz sl hN => r_fault_0_f hN c1, h⟩
  · rw [if_neg c1] at h
    by_cases c2 : p0 = (1 : Int32)
    · rw [if_pos c2] at h
      exact ⟨_, _, fun N0 K B G sz sl hN => r_fault_0_tf hN c1 c2, h⟩
    · rw [if_neg c2] at h
      exact ⟨_, _, fun N0 K B G sz sl hN => r_fault_0_tt hN c1 c2, h⟩
theorem m_fault.of {d : Nat} {p0 : Int32} {s : mS} {Q : Int32 → mS → Prop} (h : h_fault_0 d p0 s Q) : m_fault (d + 1) p0 s Q := mC.of (fun _ => rfl) (by decide) (fun _ => Nat.le_of_ble_eq_true rfl) (fun _ => rfl) h
theorem q_fault.of {d : Nat} {p0 : Int32} {s : mS} {Q : Int32 → Prop} (h : h_fault_0 d p0 s (fun r s' => s' = s ∧ Q r)) : q_fault (d + 1) p0 s Q := mQ.of (m_fault.of h)
theorem T_isPlayer_0 {d : Nat} {p0 : Int32} {s : mS} {Q : Int32 → mS → Prop} (h : if (s.1 5) = 0 then (Q (0 : Int32) s) else (if p0 < 0 then (Q (0 : Int32) s) else (if (2 : Int32) ≤ p0 then (Q (0 : Int32) s) else (if (s.1 36) ≤ p0 then (Q (0 : Int32) s) else (Q (1 : Int32) s))))) : h_isPlayer_0 d p0 s Q := by
  by_cases c1 : (s.1 5) = 0
  · rw [if_pos c1] at h
    exact ⟨_, _, fun N0 K B G sz sl hN => r_isPlayer_0_t hN c1, h⟩
  · rw [if_neg c1] at h
    by_cases c2 : p0 < 0
    · rw [if_pos c2] at h
      exact ⟨_, _, fun N0 K B G sz sl hN => r_isPlayer_0_ft hN c1 c2, h⟩
    · rw [if_neg c2] at h
      by_cases c3 : (2 : Int32) ≤ p0
      · rw [if_pos c3] at h
        exact ⟨_, _, fun N0 K B G sz sl hN => r_isPlayer_0_fft hN c1 c2 c3, h⟩
      · rw [if_neg c3] at h
        by_cases c4 : (s.1 36) ≤ p0
        · rw [if_pos c4] at h
          exact ⟨_, _, fun N0 K B G sz sl hN => r_isPlayer_0_ffft hN c1 c2 c3 c4, h⟩
        · rw [if_neg c4] at h
          exact ⟨_, _, fun N0 K B G sz sl hN => r_isPlayer_0_ffff hN c1 c2 c3 c4, h⟩
theorem m_isPlayer.of {d : Nat} {p0 : Int32} {s : mS} {Q : Int32 → mS → Prop} (h : h_isPlayer_0 d p0 s Q) : m_isPlayer (d + 1) p0 s Q := mC.of (fun _ => rfl) (by decide) (fun _ => Nat.le_of_ble_eq_true rfl) (fun _ => rfl) h
theorem q_isPlayer.of {d : Nat} {p0 : Int32} {s : mS} {Q : Int32 → Prop} (h : h_isPlayer_0 d p0 s (fun r s' => s' = s ∧ Q r)) : q_isPlayer (d + 1) p0 s Q := mQ.of (m_isPlayer.of h)
theorem T_legal_0 {d : Nat} {p0 : Int32} {s : mS} {Q : Unit → mS → Prop} (h : ∃ k1 : Nat, p0 = nI k1 ∧ k1 < 24 ∧ (m_collect d (306 : Int32) (s.2.2 35 k1) (1 : Int32) s (fun _ s3 => Q () s3))) : h_legal_0 d p0 s Q := by
  obtain ⟨k1, ek1, lk1, h⟩ := h
  obtain ⟨_r, s3, t2, h⟩ := h
  exact ⟨_, _, fun N0 K B G sz sl hN => r_legal_0_ hN ek1 lk1 (t2 N0 K B G sz hN), h⟩
theorem m_legal.of {d : Nat} {p0 : Int32} {s : mS} {Q : Unit → mS → Prop} (h : h_legal_0 d p0 s Q) : m_legal (d + 1) p0 s Q := mC.of (fun _ => rfl) (by decide) (fun _ => Nat.le_of_ble_eq_true rfl) (fun _ => rfl) h
theorem q_legal.of {d : Nat} {p0 : Int32} {s : mS} {Q : Unit → Prop} (h : h_legal_0 d p0 s (fun r s' => s' = s ∧ Q r)) : q_legal (d + 1) p0 s Q := mQ.of (m_legal.of h)
theorem T_isEnd_0 {d : Nat} {s : mS} {Q : Int32 → mS → Prop} (h : q_holds d (276 : Int32) (0 : Int64) (0 : Int64) (0 : Int64) s (fun r1 => (r1 = 0 ∨ r1 = 1) ∧ (Q r1 s))) : h_isEnd_0 d s Q := by
  obtain ⟨r1, t2, h⟩ := h
  obtain ⟨z3, h⟩ := h
  exact ⟨_, _, fun N0 K B G sz sl hN => r_isEnd_0_ hN (t2 N0 K B G sz hN) z3, h⟩
theorem m_isEnd.of {d : Nat} {s : mS} {Q : Int32 → mS → Prop} (h : h_isEnd_0 d s Q) : m_isEnd (d + 1) s Q := mC.of (fun _ => rfl) (by decide) (fun _ => Nat.le_of_ble_eq_true rfl) (fun _ => rfl) h
theorem q_isEnd.of {d : Nat} {s : mS} {Q : Int32 → Prop} (h : h_isEnd_0 d s (fun r s' => s' = s ∧ Q r)) : q_isEnd (d + 1) s Q := mQ.of (m_isEnd.of h)
theorem T_goalOf_0 {d : Nat} {p0 : Int32} {s : mS} {Q : Int32 → mS → Prop} (h : ∃ k1 : Nat, p0 = nI k1 ∧ k1 < 24 ∧ (m_collect d (286 : Int32) (s.2.2 35 k1) (1 : Int32) s (fun _ s3 => if (s3.1 38) = (1 : Int32) then (q_isConstant d (s3.2.2 37 0) s3 (fun r6 => if r6 = 0 then (Q (-1 : Int32) s3) else (q_letterOf d (s3.2.2 37 0) (0 : Int32) s3 (fun r10 => if (r10 - (48 : Int32)) < 0 then (Q (-1 : Int32) s3) else (if (9 : Int32) ≤ (r10 - (48 : Int32)) then (Q (-1 : Int32) s3) else (Q (r10 - (48 : Int32)) s3)))))) else (Q (-1 : Int32) s3)))) : h_goalOf_0 d p0 s Q := by
  obtain ⟨k1, ek1, lk1, h⟩ := h
  obtain ⟨_r, s3, t2, h⟩ := h
  by_cases c4 : (s3.1 38) = (1 : Int32)
  · rw [if_pos c4] at h
    obtain ⟨r6, t7, h⟩ := h
    by_cases c8 : r6 = 0
    · rw [if_pos c8] at h
      exact ⟨_, _, fun N0 K B G sz sl hN => r_goalOf_0_ff hN ek1 lk1 (t2 N0 K B G sz hN) c4 rfl (by decide) (t7 N0 K B G sz hN) c8, h⟩
    · rw [if_neg c8] at h
      obtain ⟨r10, t11, h⟩ := h
      by_cases c12 : (r10 - (48 : Int32)) < 0
      · rw [if_pos c12] at h
        exact ⟨_, _, fun N0 K B G sz sl hN => r_goalOf_0_ftt hN ek1 lk1 (t2 N0 K B G sz hN) c4 rfl (by decide) (t7 N0 K B G sz hN) c8 rfl (by decide) (t11 N0 K B G sz hN) c12, h⟩
      · rw [if_neg c12] at h
        by_cases c13 : (9 : Int32) ≤ (r10 - (48 : Int32))
        · rw [if_pos c13] at h
          exact ⟨_, _, fun N0 K B G sz sl hN => r_goalOf_0_ftft hN ek1 lk1 (t2 N0 K B G sz hN) c4 rfl (by decide) (t7 N0 K B G sz hN) c8 rfl (by decide) (t11 N0 K B G sz hN) c12 c13, h⟩
        · rw [if_neg c13] at h
          exact ⟨_, _, fun N0 K B G sz sl hN => r_goalOf_0_ftff hN ek1 lk1 (t2 N0 K B G sz hN) c4 rfl (by decide) (t7 N0 K B G sz hN) c8 rfl (by decide) (t11 N0 K B G sz hN) c12 c13, h⟩
  · rw [if_neg c4] at h
    exact ⟨_, _, fun N0 K B G sz sl hN => r_goalOf_0_t hN ek1 lk1 (t2 N0 K B G sz hN) c4, h⟩
theorem m_goalOf.of {d : Nat} {p0 : Int32} {s : mS} {Q : Int32 → mS → Prop} (h : h_goalOf_0 d p0 s Q) : m_goalOf (d + 1) p0 s Q := mC.of (fun _ => rfl) (by decide) (fun _ => Nat.le_of_ble_eq_true rfl) (fun _ => rfl) h
theorem q_goalOf.of {d : Nat} {p0 : Int32} {s : mS} {Q : Int32 → Prop} (h : h_goalOf_0 d p0 s (fun r s' => s' = s ∧ Q r)) : q_goalOf (d + 1) p0 s Q := mQ.of (m_goalOf.of h)
theorem T_many_0 {d : Nat} {p0 : Int32} {s : mS} {Q : Int32 → mS → Prop} (h : if p0 < 0 then (Q (-1 : Int32) (mI s 0 (0 : Int32))) else (if p0 ≤ (2 : Int32) then (if (s.1 5) = 0 then (Q (0 : Int32) (mI s 0 (0 : Int32))) else (if p0 = 0 then (Q (s.1 36) (mI s 0 (0 : Int32))) else (if p0 = (1 : Int32) then (Q (s.1 30) (mI s 0 (0 : Int32))) else (Q (s.1 43) (mI s 0 (0 : Int32)))))) else (Q (-1 : Int32) (mI s 0 (0 : Int32))))) : h_many_0 d p0 s Q := by
  by_cases c1 : p0 < 0
  · rw [if_pos c1] at h
    exact ⟨_, _, fun N0 K B G sz sl hN => r_many_0_t hN c1, h⟩
  · rw [if_neg c1] at h
    by_cases c2 : p0 ≤ (2 : Int32)
    · rw [if_pos c2] at h
      by_cases c3 : (s.1 5) = 0
      · rw [if_pos c3] at h
        exact ⟨_, _, fun N0 K B G sz sl hN => r_many_0_ftf hN c1 c2 c3, h⟩
      · rw [if_neg c3] at h
        by_cases c4 : p0 = 0
        · rw [if_pos c4] at h
          exact ⟨_, _, fun N0 K B G sz sl hN => r_many_0_fttf hN c1 c2 c3 c4, h⟩
        · rw [if_neg c4] at h
          by_cases c5 : p0 = (1 : Int32)
          · rw [if_pos c5] at h
            exact ⟨_, _, fun N0 K B G sz sl hN => r_many_0_ftttf hN c1 c2 c3 c4 c5, h⟩
          · rw [if_neg c5] at h
            exact ⟨_, _, fun N0 K B G sz sl hN => r_many_0_ftttt hN c1 c2 c3 c4 c5, h⟩
    · rw [if_neg c2] at h
      exact ⟨_, _, fun N0 K B G sz sl hN => r_many_0_ff hN c1 c2, h⟩
theorem m_many.of {d : Nat} {p0 : Int32} {s : mS} {Q : Int32 → mS → Prop} (h : h_many_0 d p0 s Q) : m_many (d + 1) p0 s Q := mC.of (fun _ => rfl) (by decide) (fun _ => Nat.le_of_ble_eq_true rfl) (fun _ => rfl) h
theorem q_many.of {d : Nat} {p0 : Int32} {s : mS} {Q : Int32 → Prop} (h : h_many_0 d p0 s (fun r s' => s' = s ∧ Q r)) : q_many (d + 1) p0 s Q := mQ.of (m_many.of h)
theorem T_facts_0 {d : Nat} {p0 : Int32} {p1 : Int32} {s : mS} {Q : Int32 → mS → Prop} (h : q_terms d p0 (mI s 0 (0 : Int32)) (fun r1 => if (s.1 5) = 0 then (Q (0 : Int32) (mI s 0 (0 : Int32))) else (if p1 < 0 then (Q (0 : Int32) (mI s 0 (0 : Int32))) else (if (3 : Int32) < p1 then (Q (0 : Int32) (mI s 0 (0 : Int32))) else (q_isLetter d p0 (mI s 0 (0 : Int32)) (fun r6 => if r6 = 0 then (if r1 = p1 then (m_look d (mI s 0 (0 : Int32)) (fun _ s11 => h_facts_50 d p0 p1 (0 : Int32) (0 : Int32) s11 Q)) else (Q (0 : Int32) (mI s 0 (0 : Int32)))) else (m_look d (mI s 0 (0 : Int32)) (fun _ s10 => h_facts_50 d p0 p1 (0 : Int32) (0 : Int32) s10 Q)))))))) : h_facts_0 d p0 p1 s Q := by
  obtain ⟨r1, t2, h⟩ := h
  by_cases c3 : (s.1 5) = 0
  · rw [if_pos c3] at h
    exact ⟨_, _, fun N0 K B G sz sl hN => r_facts_0_t hN (t2 N0 K B G sz hN) c3, h⟩
  · rw [if_neg c3] at h
    by_cases c4 : p1 < 0
    · rw [if_pos c4] at h
      exact ⟨_, _, fun N0 K B G sz sl hN => r_facts_0_ft hN (t2 N0 K B G sz hN) c3 c4, h⟩
    · rw [if_neg c4] at h
      by_cases c5 : (3 : Int32) < p1
      · rw [if_pos c5] at h
        exact ⟨_, _, fun N0 K B G sz sl hN => r_facts_0_fft hN (t2 N0 K B G sz hN) c3 c4 c5, h⟩
      · rw [if_neg c5] at h
        obtain ⟨r6, t7, h⟩ := h
        by_cases c8 : r6 = 0
        · rw [if_pos c8] at h
          by_cases c9 : r1 = p1
          · rw [if_pos c9] at h
            obtain ⟨_r, s11, t10, h⟩ := h
            obtain ⟨r, s9, e, h⟩ := h
            exact ⟨r, s9, fun N0 K B G sz sl hN => r_facts_0_fffft_at50 hN (t2 N0 K B G sz hN) c3 c4 c5 (t7 N0 K B G sz hN) c8 c9 (t10 N0 K B G sz hN) (e N0 K B G sz sl hN), h⟩
          · rw [if_neg c9] at h
            exact ⟨_, _, fun N0 K B G sz sl hN => r_facts_0_fffff hN (t2 N0 K B G sz hN) c3 c4 c5 (t7 N0 K B G sz hN) c8 c9, h⟩
        · rw [if_neg c8] at h
          obtain ⟨_r, s10, t9, h⟩ := h
          obtain ⟨r, s9, e, h⟩ := h
          exact ⟨r, s9, fun N0 K B G sz sl hN => r_facts_0_ffft_at50 hN (t2 N0 K B G sz hN) c3 c4 c5 (t7 N0 K B G sz hN) c8 (t9 N0 K B G sz hN) (e N0 K B G sz sl hN), h⟩
theorem m_facts.of {d : Nat} {p0 : Int32} {p1 : Int32} {s : mS} {Q : Int32 → mS → Prop} (h : h_facts_0 d p0 p1 s Q) : m_facts (d + 1) p0 p1 s Q := mC.of (fun _ => rfl) (by decide) (fun _ => Nat.le_of_ble_eq_true rfl) (fun _ => rfl) h
theorem q_facts.of {d : Nat} {p0 : Int32} {p1 : Int32} {s : mS} {Q : Int32 → Prop} (h : h_facts_0 d p0 p1 s (fun r s' => s' = s ∧ Q r)) : q_facts (d + 1) p0 p1 s Q := mQ.of (m_facts.of h)
theorem T_facts_50 {d : Nat} {x1 : Int32} {x2 : Int32} {x4 : Int32} {x5 : Int32} {s : mS} {Q : Int32 → mS → Prop} (h : if (s.1 20) ≤ x5 then (Q x4 s) else (∃ k2 : Nat, x5 = nI k2 ∧ k2 < 201 ∧ (if (s.2.1 21 k2) = (((4 : Int32) * x1) + x2) then (h_facts_50 d x1 x2 (x4 + (1 : Int32)) (x5 + (1 : Int32)) s Q) else (h_facts_50 d x1 x2 x4 (x5 + (1 : Int32)) s Q)))) : h_facts_50 d x1 x2 x4 x5 s Q := by
  by_cases c1 : (s.1 20) ≤ x5
  · rw [if_pos c1] at h
    exact ⟨_, _, fun N0 K B G sz sl hN => r_facts_50_t hN c1, h⟩
  · rw [if_neg c1] at h
    obtain ⟨k2, ek2, lk2, h⟩ := h
    by_cases c3 : (s.2.1 21 k2) = (((4 : Int32) * x1) + x2)
    · rw [if_pos c3] at h
      obtain ⟨r, s9, e, h⟩ := h
      exact ⟨r, s9, fun N0 K B G sz sl hN => r_facts_50_ff_at50 hN c1 ek2 lk2 c3 (e N0 K B G sz sl hN), h⟩
    · rw [if_neg c3] at h
      obtain ⟨r, s9, e, h⟩ := h
      exact ⟨r, s9, fun N0 K B G sz sl hN => r_facts_50_ft_at50 hN c1 ek2 lk2 c3 (e N0 K B G sz sl hN), h⟩
theorem T_moves_0 {d : Nat} {p0 : Int32} {s : mS} {Q : Int32 → mS → Prop} (h : q_isPlayer d p0 (mI s 0 (0 : Int32)) (fun r1 => if r1 = 0 then (Q (-1 : Int32) (mI s 0 (0 : Int32))) else (m_look d (mI s 0 (0 : Int32)) (fun _ s5 => m_legal d p0 s5 (fun _ s7 => Q (s7.1 38) s7))))) : h_moves_0 d p0 s Q := by
  obtain ⟨r1, t2, h⟩ := h
  by_cases c3 : r1 = 0
  · rw [if_pos c3] at h
    exact ⟨_, _, fun N0 K B G sz sl hN => r_moves_0_f hN (t2 N0 K B G sz hN) c3, h⟩
  · rw [if_neg c3] at h
    obtain ⟨_r, s5, t4, h⟩ := h
    obtain ⟨_r, s7, t6, h⟩ := h
    exact ⟨_, _, fun N0 K B G sz sl hN => r_moves_0_t hN (t2 N0 K B G sz hN) c3 (t4 N0 K B G sz hN) (t6 N0 K B G sz hN), h⟩
theorem m_moves.of {d : Nat} {p0 : Int32} {s : mS} {Q : Int32 → mS → Prop} (h : h_moves_0 d p0 s Q) : m_moves (d + 1) p0 s Q := mC.of (fun _ => rfl) (by decide) (fun _ => Nat.le_of_ble_eq_true rfl) (fun _ => rfl) h
theorem q_moves.of {d : Nat} {p0 : Int32} {s : mS} {Q : Int32 → Prop} (h : h_moves_0 d p0 s (fun r s' => s' = s ∧ Q r)) : q_moves (d + 1) p0 s Q := mQ.of (m_moves.of h)
theorem T_over_0 {d : Nat} {s : mS} {Q : Int32 → mS → Prop} (h : if (s.1 5) = 0 then (Q (-1 : Int32) (mI s 0 (0 : Int32))) else (m_look d (mI s 0 (0 : Int32)) (fun _ s3 => q_isEnd d s3 (fun r4 => if r4 = 0 then (Q (0 : Int32) s3) else (Q (1 : Int32) s3))))) : h_over_0 d s Q := by
  by_cases c1 : (s.1 5) = 0
  · rw [if_pos c1] at h
    exact ⟨_, _, fun N0 K B G sz sl hN => r_over_0_f hN c1, h⟩
  · rw [if_neg c1] at h
    obtain ⟨_r, s3, t2, h⟩ := h
    obtain ⟨r4, t5, h⟩ := h
    by_cases c6 : r4 = 0
    · rw [if_pos c6] at h
      exact ⟨_, _, fun N0 K B G sz sl hN => r_over_0_tt hN c1 (t2 N0 K B G sz hN) (t5 N0 K B G sz hN) c6, h⟩
    · rw [if_neg c6] at h
      exact ⟨_, _, fun N0 K B G sz sl hN => r_over_0_tf hN c1 (t2 N0 K B G sz hN) (t5 N0 K B G sz hN) c6, h⟩
theorem m_over.of {d : Nat} {s : mS} {Q : Int32 → mS → Prop} (h : h_over_0 d s Q) : m_over (d + 1) s Q := mC.of (fun _ => rfl) (by decide) (fun _ => Nat.le_of_ble_eq_true rfl) (fun _ => rfl) h
theorem q_over.of {d : Nat} {s : mS} {Q : Int32 → Prop} (h : h_over_0 d s (fun r s' => s' = s ∧ Q r)) : q_over (d + 1) s Q := mQ.of (m_over.of h)
theorem T_goal_0 {d : Nat} {p0 : Int32} {s : mS} {Q : Int32 → mS → Prop} (h : q_isPlayer d p0 (mI s 0 (0 : Int32)) (fun r1 => if r1 = 0 then (Q (-1 : Int32) (mI s 0 (0 : Int32))) else (m_look d (mI s 0 (0 : Int32)) (fun _ s5 => m_goalOf d p0 s5 (fun r6 s8 => Q r6 s8))))) : h_goal_0 d p0 s Q := by
  obtain ⟨r1, t2, h⟩ := h
  by_cases c3 : r1 = 0
  · rw [if_pos c3] at h
    exact ⟨_, _, fun N0 K B G sz sl hN => r_goal_0_f hN (t2 N0 K B G sz hN) c3, h⟩
  · rw [if_neg c3] at h
    obtain ⟨_r, s5, t4, h⟩ := h
    obtain ⟨r6, s8, t7, h⟩ := h
    exact ⟨_, _, fun N0 K B G sz sl hN => r_goal_0_t hN (t2 N0 K B G sz hN) c3 (t4 N0 K B G sz hN) (t7 N0 K B G sz hN), h⟩
theorem m_goal.of {d : Nat} {p0 : Int32} {s : mS} {Q : Int32 → mS → Prop} (h : h_goal_0 d p0 s Q) : m_goal (d + 1) p0 s Q := mC.of (fun _ => rfl) (by decide) (fun _ => Nat.le_of_ble_eq_true rfl) (fun _ => rfl) h
theorem q_goal.of {d : Nat} {p0 : Int32} {s : mS} {Q : Int32 → Prop} (h : h_goal_0 d p0 s (fun r s' => s' = s ∧ Q r)) : q_goal (d + 1) p0 s Q := mQ.of (m_goal.of h)
theorem T_letter_0 {d : Nat} {p0 : Int32} {p1 : Int32} {p2 : Int32} {s : mS} {Q : Int32 → mS → Prop} (h : if p0 < 0 then (Q (-1 : Int32) (mI s 0 (0 : Int32))) else (if (3 : Int32) < p0 then (Q (-1 : Int32) (mI s 0 (0 : Int32))) else (if p1 < 0 then (Q (-1 : Int32) (mI s 0 (0 : Int32))) else (if p2 < 0 then (Q (-1 : Int32) (mI s 0 (0 : Int32))) else (if (s.1 5) = 0 then (Q (-1 : Int32) (mI s 0 (0 : Int32))) else (if p0 ≤ (1 : Int32) then (m_look d (mI s 0 (0 : Int32)) (fun _ s8 => if p0 = 0 then (if p1 < (s8.1 36) then (∃ k13 : Nat, p1 = nI k13 ∧ k13 < 24 ∧ (if p2 ≤ (8 : Int32) then (q_letterOf d (s8.2.2 35 k13) p2 s8 (fun r15 => if r15 = 0 then (Q (-1 : Int32) s8) else (Q r15 s8))) else (q_letterOf d (s8.2.2 35 k13) (8 : Int32) s8 (fun r15 => if r15 = 0 then (Q (-1 : Int32) s8) else (Q r15 s8))))) else (Q (-1 : Int32) s8)) else (if p0 = (1 : Int32) then (if p1 < (s8.1 30) then (∃ k15 : Nat, p1 = nI k15 ∧ k15 < 24 ∧ (if p2 ≤ (8 : Int32) then (q_letterOf d (s8.2.2 29 k15) p2 s8 (fun r17 => if r17 = 0 then (Q (-1 : Int32) s8) else (Q r17 s8))) else (q_letterOf d (s8.2.2 29 k15) (8 : Int32) s8 (fun r17 => if r17 = 0 then (Q (-1 : Int32) s8) else (Q r17 s8))))) else (Q (-1 : Int32) s8)) else (if p1 < (s8.1 38) then (∃ k15 : Nat, p1 = nI k15 ∧ k15 < 201 ∧ (if p2 ≤ (8 : Int32) then (q_letterOf d (s8.2.2 37 k15) p2 s8 (fun r17 => if r17 = 0 then (Q (-1 : Int32) s8) else (Q r17 s8))) else (q_letterOf d (s8.2.2 37 k15) (8 : Int32) s8 (fun r17 => if r17 = 0 then (Q (-1 : Int32) s8) else (Q r17 s8))))) else (Q (-1 : Int32) s8))))) else (q_isPlayer d (p0 - (2 : Int32)) (mI s 0 (0 : Int32)) (fun r7 => if r7 = 0 then (Q (-1 : Int32) (mI s 0 (0 : Int32))) else (m_look d (mI s 0 (0 : Int32)) (fun _ s11 => m_legal d (p0 - (2 : Int32)) s11 (fun _ s14 => if p0 = 0 then (if p1 < (s14.1 36) then (∃ k18 : Nat, p1 = nI k18 ∧ k18 < 24 ∧ (if p2 ≤ (8 : Int32) then (q_letterOf d (s14.2.2 35 k18) p2 s14 (fun r20 => if r20 = 0 then (Q (-1 : Int32) s14) else (Q r20 s14))) else (q_letterOf d (s14.2.2 35 k18) (8 : Int32) s14 (fun r20 => if r20 = 0 then (Q (-1 : Int32) s14) else (Q r20 s14))))) else (Q (-1 : Int32) s14)) else (if p0 = (1 : Int32) then (if p1 < (s14.1 30) then (∃ k20 : Nat, p1 = nI k20 ∧ k20 < 24 ∧ (if p2 ≤ (8 : Int32) then (q_letterOf d (s14.2.2 29 k20) p2 s14 (fun r22 => if r22 = 0 then (Q (-1 : Int32) s14) else (Q r22 s14))) else (q_letterOf d (s14.2.2 29 k20) (8 : Int32) s14 (fun r22 => if r22 = 0 then (Q (-1 : Int32) s14) else (Q r22 s14))))) else (Q (-1 : Int32) s14)) else (if p1 < (s14.1 38) then (∃ k20 : Nat, p1 = nI k20 ∧ k20 < 201 ∧ (if p2 ≤ (8 : Int32) then (q_letterOf d (s14.2.2 37 k20) p2 s14 (fun r22 => if r22 = 0 then (Q (-1 : Int32) s14) else (Q r22 s14))) else (q_letterOf d (s14.2.2 37 k20) (8 : Int32) s14 (fun r22 => if r22 = 0 then (Q (-1 : Int32) s14) else (Q r22 s14))))) else (Q (-1 : Int32) s14)))))))))))))) : h_letter_0 d p0 p1 p2 s Q := by
  by_cases c1 : p0 < 0
  · rw [if_pos c1] at h
    exact ⟨_, _, fun N0 K B G sz sl hN => r_letter_0_t hN c1, h⟩
  · rw [if_neg c1] at h
    by_cases c2 : (3 : Int32) < p0
    · rw [if_pos c2] at h
      exact ⟨_, _, fun N0 K B G sz sl hN => r_letter_0_ft hN c1 c2, h⟩
    · rw [if_neg c2] at h
      by_cases c3 : p1 < 0
      · rw [if_pos c3] at h
        exact ⟨_, _, fun N0 K B G sz sl hN => r_letter_0_fft hN c1 c2 c3, h⟩
      · rw [if_neg c3] at h
        by_cases c4 : p2 < 0
        · rw [if_pos c4] at h
          exact ⟨_, _, fun N0 K B G sz sl hN => r_letter_0_ffft hN c1 c2 c3 c4, h⟩
        · rw [if_neg c4] at h
          by_cases c5 : (s.1 5) = 0
          · rw [if_pos c5] at h
            exact ⟨_, _, fun N0 K B G sz sl hN => r_letter_0_fffft hN c1 c2 c3 c4 c5, h⟩
          · rw [if_neg c5] at h
            by_cases c6 : p0 ≤ (1 : Int32)
            · rw [if_pos c6] at h
              obtain ⟨_r, s8, t7, h⟩ := h
              by_cases c10 : p0 = 0
              · rw [if_pos c10] at h
                by_cases c11 : p1 < (s8.1 36)
                · rw [if_pos c11] at h
                  obtain ⟨k13, ek13, lk13, h⟩ := h
                  by_cases c14 : p2 ≤ (8 : Int32)
                  · rw [if_pos c14] at h
                    obtain ⟨r15, t16, h⟩ := h
                    by_cases c17 : r15 = 0
                    · rw [if_pos c17] at h
                      exact ⟨_, _, fun N0 K B G sz sl hN => r_letter_0_fffffttftftf hN c1 c2 c3 c4 c5 c6 (t7 N0 K B G sz hN) c6 c10 c11 c10 ek13 lk13 c14 (t16 N0 K B G sz hN) c17, h⟩
                    · rw [if_neg c17] at h
                      exact ⟨_, _, fun N0 K B G sz sl hN => r_letter_0_fffffttftftt hN c1 c2 c3 c4 c5 c6 (t7 N0 K B G sz hN) c6 c10 c11 c10 ek13 lk13 c14 (t16 N0 K B G sz hN) c17, h⟩
                  · rw [if_neg c14] at h
                    obtain ⟨r15, t16, h⟩ := h
                    by_cases c17 : r15 = 0
                    · rw [if_pos c17] at h
                      exact ⟨_, _, fun N0 K B G sz sl hN => r_letter_0_fffffttftfff hN c1 c2 c3 c4 c5 c6 (t7 N0 K B G sz hN) c6 c10 c11 c10 ek13 lk13 c14 (t16 N0 K B G sz hN) c17, h⟩
                    · rw [if_neg c17] at h
                      exact ⟨_, _, fun N0 K B G sz sl hN => r_letter_0_fffffttftfft hN c1 c2 c3 c4 c5 c6 (t7 N0 K B G sz hN) c6 c10 c11 c10 ek13 lk13 c14 (t16 N0 K B G sz hN) c17, h⟩
                · rw [if_neg c11] at h
                  exact ⟨_, _, fun N0 K B G sz sl hN => r_letter_0_fffffttff hN c1 c2 c3 c4 c5 c6 (t7 N0 K B G sz hN) c6 c10 c11, h⟩
              · rw [if_neg c10] at h
                by_cases c11 : p0 = (1 : Int32)
                · rw [if_pos c11] at h
                  by_cases c12 : p1 < (s8.1 30)
                  · rw [if_pos c12] at h
                    obtain ⟨k15, ek15, lk15, h⟩ := h
                    by_cases c16 : p2 ≤ (8 : Int32)
                    · rw [if_pos c16] at h
                      obtain ⟨r17, t18, h⟩ := h
                      by_cases c19 : r17 = 0
                      · rw [if_pos c19] at h
                        exact ⟨_, _, fun N0 K B G sz sl hN => r_letter_0_ffffftttfttftf hN c1 c2 c3 c4 c5 c6 (t7 N0 K B G sz hN) c6 c10 c11 c12 c10 c11 ek15 lk15 c16 (t18 N0 K B G sz hN) c19, h⟩
                      · rw [if_neg c19] at h
                        exact ⟨_, _, fun N0 K B G sz sl hN => r_letter_0_ffffftttfttftt hN c1 c2 c3 c4 c5 c6 (t7 N0 K B G sz hN) c6 c10 c11 c12 c10 c11 ek15 lk15 c16 (t18 N0 K B G sz hN) c19, h⟩
                    · rw [if_neg c16] at h
                      obtain ⟨r17, t18, h⟩ := h
                      by_cases c19 : r17 = 0
                      · rw [if_pos c19] at h
                        exact ⟨_, _, fun N0 K B G sz sl hN => r_letter_0_ffffftttfttfff hN c1 c2 c3 c4 c5 c6 (t7 N0 K B G sz hN) c6 c10 c11 c12 c10 c11 ek15 lk15 c16 (t18 N0 K B G sz hN) c19, h⟩
                      · rw [if_neg c19] at h
                        exact ⟨_, _, fun N0 K B G sz sl hN => r_letter_0_ffffftttfttfft hN c1 c2 c3 c4 c5 c6 (t7 N0 K B G sz hN) c6 c10 c11 c12 c10 c11 ek15 lk15 c16 (t18 N0 K B G sz hN) c19, h⟩
                  · rw [if_neg c12] at h
                    exact ⟨_, _, fun N0 K B G sz sl hN => r_letter_0_ffffftttff hN c1 c2 c3 c4 c5 c6 (t7 N0 K B G sz hN) c6 c10 c11 c12, h⟩
                · rw [if_neg c11] at h
                  by_cases c12 : p1 < (s8.1 38)
                  · rw [if_pos c12] at h
                    obtain ⟨k15, ek15, lk15, h⟩ := h
                    by_cases c16 : p2 ≤ (8 : Int32)
                    · rw [if_pos c16] at h
                      obtain ⟨r17, t18, h⟩ := h
                      by_cases c19 : r17 = 0
                      · rw [if_pos c19] at h
                        exact ⟨_, _, fun N0 K B G sz sl hN => r_letter_0_fffffttttttttf hN c1 c2 c3 c4 c5 c6 (t7 N0 K B G sz hN) c6 c10 c11 c12 c10 c11 ek15 lk15 c16 (t18 N0 K B G sz hN) c19, h⟩
                      · rw [if_neg c19] at h
                        exact ⟨_, _, fun N0 K B G sz sl hN => r_letter_0_fffffttttttttt hN c1 c2 c3 c4 c5 c6 (t7 N0 K B G sz hN) c6 c10 c11 c12 c10 c11 ek15 lk15 c16 (t18 N0 K B G sz hN) c19, h⟩
                    · rw [if_neg c16] at h
                      obtain ⟨r17, t18, h⟩ := h
                      by_cases c19 : r17 = 0
                      · rw [if_pos c19] at h
                        exact ⟨_, _, fun N0 K B G sz sl hN => r_letter_0_ffffftttttttff hN c1 c2 c3 c4 c5 c6 (t7 N0 K B G sz hN) c6 c10 c11 c12 c10 c11 ek15 lk15 c16 (t18 N0 K B G sz hN) c19, h⟩
                      · rw [if_neg c19] at h
                        exact ⟨_, _, fun N0 K B G sz sl hN => r_letter_0_ffffftttttttft hN c1 c2 c3 c4 c5 c6 (t7 N0 K B G sz hN) c6 c10 c11 c12 c10 c11 ek15 lk15 c16 (t18 N0 K B G sz hN) c19, h⟩
                  · rw [if_neg c12] at h
                    exact ⟨_, _, fun N0 K B G sz sl hN => r_letter_0_fffffttttf hN c1 c2 c3 c4 c5 c6 (t7 N0 K B G sz hN) c6 c10 c11 c12, h⟩
            · rw [if_neg c6] at h
              obtain ⟨r7, t8, h⟩ := h
              by_cases c9 : r7 = 0
              · rw [if_pos c9] at h
                exact ⟨_, _, fun N0 K B G sz sl hN => r_letter_0_fffffff hN c1 c2 c3 c4 c5 c6 (t8 N0 K B G sz hN) c9, h⟩
              · rw [if_neg c9] at h
                obtain ⟨_r, s11, t10, h⟩ := h
                obtain ⟨_r, s14, t13, h⟩ := h
                by_cases c15 : p0 = 0
                · rw [if_pos c15] at h
                  by_cases c16 : p1 < (s14.1 36)
                  · rw [if_pos c16] at h
                    obtain ⟨k18, ek18, lk18, h⟩ := h
                    by_cases c19 : p2 ≤ (8 : Int32)
                    · rw [if_pos c19] at h
                      obtain ⟨r20, t21, h⟩ := h
                      by_cases c22 : r20 = 0
                      · rw [if_pos c22] at h
                        exact ⟨_, _, fun N0 K B G sz sl hN => r_letter_0_fffffftfftftf hN c1 c2 c3 c4 c5 c6 (t8 N0 K B G sz hN) c9 (t10 N0 K B G sz hN) c6 (t13 N0 K B G sz hN) c15 c16 c15 ek18 lk18 c19 (t21 N0 K B G sz hN) c22, h⟩
                      · rw [if_neg c22] at h
                        exact ⟨_, _, fun N0 K B G sz sl hN => r_letter_0_fffffftfftftt hN c1 c2 c3 c4 c5 c6 (t8 N0 K B G sz hN) c9 (t10 N0 K B G sz hN) c6 (t13 N0 K B G sz hN) c15 c16 c15 ek18 lk18 c19 (t21 N0 K B G sz hN) c22, h⟩
                    · rw [if_neg c19] at h
                      obtain ⟨r20, t21, h⟩ := h
                      by_cases c22 : r20 = 0
                      · rw [if_pos c22] at h
                        exact ⟨_, _, fun N0 K B G sz sl hN => r_letter_0_fffffftfftfff hN c1 c2 c3 c4 c5 c6 (t8 N0 K B G sz hN) c9 (t10 N0 K B G sz hN) c6 (t13 N0 K B G sz hN) c15 c16 c15 ek18 lk18 c19 (t21 N0 K B G sz hN) c22, h⟩
                      · rw [if_neg c22] at h
                        exact ⟨_, _, fun N0 K B G sz sl hN => r_letter_0_fffffftfftfft hN c1 c2 c3 c4 c5 c6 (t8 N0 K B G sz hN) c9 (t10 N0 K B G sz hN) c6 (t13 N0 K B G sz hN) c15 c16 c15 ek18 lk18 c19 (t21 N0 K B G sz hN) c22, h⟩
                  · rw [if_neg c16] at h
                    exact ⟨_, _, fun N0 K B G sz sl hN => r_letter_0_fffffftfff hN c1 c2 c3 c4 c5 c6 (t8 N0 K B G sz hN) c9 (t10 N0 K B G sz hN) c6 (t13 N0 K B G sz hN) c15 c16, h⟩
                · rw [if_neg c15] at h
                  by_cases c16 : p0 = (1 : Int32)
                  · rw [if_pos c16] at h
                    by_cases c17 : p1 < (s14.1 30)
                    · rw [if_pos c17] at h
                      obtain ⟨k20, ek20, lk20, h⟩ := h
                      by_cases c21 : p2 ≤ (8 : Int32)
                      · rw [if_pos c21] at h
                        obtain ⟨r22, t23, h⟩ := h
                        by_cases c24 : r22 = 0
                        · rw [if_pos c24] at h
                          exact ⟨_, _, fun N0 K B G sz sl hN => r_letter_0_fffffftftfttftf hN c1 c2 c3 c4 c5 c6 (t8 N0 K B G sz hN) c9 (t10 N0 K B G sz hN) c6 (t13 N0 K B G sz hN) c15 c16 c17 c15 c16 ek20 lk20 c21 (t23 N0 K B G sz hN) c24, h⟩
                        · rw [if_neg c24] at h
                          exact ⟨_, _, fun N0 K B G sz sl hN => r_letter_0_fffffftftfttftt hN c1 c2 c3 c4 c5 c6 (t8 N0 K B G sz hN) c9 (t10 N0 K B G sz hN) c6 (t13 N0 K B G sz hN) c15 c16 c17 c15 c16 ek20 lk20 c21 (t23 N0 K B G sz hN) c24, h⟩
                      · rw [if_neg c21] at h
                        obtain ⟨r22, t23, h⟩ := h
                        by_cases c24 : r22 = 0
                        · rw [if_pos c24] at h
                          exact ⟨_, _, fun N0 K B G sz sl hN => r_letter_0_fffffftftfttfff hN c1 c2 c3 c4 c5 c6 (t8 N0 K B G sz hN) c9 (t10 N0 K B G sz hN) c6 (t13 N0 K B G sz hN) c15 c16 c17 c15 c16 ek20 lk20 c21 (t23 N0 K B G sz hN) c24, h⟩
                        · rw [if_neg c24] at h
                          exact ⟨_, _, fun N0 K B G sz sl hN => r_letter_0_fffffftftfttfft hN c1 c2 c3 c4 c5 c6 (t8 N0 K B G sz hN) c9 (t10 N0 K B G sz hN) c6 (t13 N0 K B G sz hN) c15 c16 c17 c15 c16 ek20 lk20 c21 (t23 N0 K B G sz hN) c24, h⟩
                    · rw [if_neg c17] at h
                      exact ⟨_, _, fun N0 K B G sz sl hN => r_letter_0_fffffftftff hN c1 c2 c3 c4 c5 c6 (t8 N0 K B G sz hN) c9 (t10 N0 K B G sz hN) c6 (t13 N0 K B G sz hN) c15 c16 c17, h⟩
                  · rw [if_neg c16] at h
                    by_cases c17 : p1 < (s14.1 38)
                    · rw [if_pos c17] at h
                      obtain ⟨k20, ek20, lk20, h⟩ := h
                      by_cases c21 : p2 ≤ (8 : Int32)
                      · rw [if_pos c21] at h
                        obtain ⟨r22, t23, h⟩ := h
                        by_cases c24 : r22 = 0
                        · rw [if_pos c24] at h
                          exact ⟨_, _, fun N0 K B G sz sl hN => r_letter_0_fffffftfttttttf hN c1 c2 c3 c4 c5 c6 (t8 N0 K B G sz hN) c9 (t10 N0 K B G sz hN) c6 (t13 N0 K B G sz hN) c15 c16 c17 c15 c16 ek20 lk20 c21 (t23 N0 K B G sz hN) c24, h⟩
                        · rw [if_neg c24] at h
                          exact ⟨_, _, fun N0 K B G sz sl hN => r_letter_0_fffffftfttttttt hN c1 c2 c3 c4 c5 c6 (t8 N0 K B G sz hN) c9 (t10 N0 K B G sz hN) c6 (t13 N0 K B G sz hN) c15 c16 c17 c15 c16 ek20 lk20 c21 (t23 N0 K B G sz hN) c24, h⟩
                      · rw [if_neg c21] at h
                        obtain ⟨r22, t23, h⟩ := h
                        by_cases c24 : r22 = 0
                        · rw [if_pos c24] at h
                          exact ⟨_, _, fun N0 K B G sz sl hN => r_letter_0_fffffftftttttff hN c1 c2 c3 c4 c5 c6 (t8 N0 K B G sz hN) c9 (t10 N0 K B G sz hN) c6 (t13 N0 K B G sz hN) c15 c16 c17 c15 c16 ek20 lk20 c21 (t23 N0 K B G sz hN) c24, h⟩
                        · rw [if_neg c24] at h
                          exact ⟨_, _, fun N0 K B G sz sl hN => r_letter_0_fffffftftttttft hN c1 c2 c3 c4 c5 c6 (t8 N0 K B G sz hN) c9 (t10 N0 K B G sz hN) c6 (t13 N0 K B G sz hN) c15 c16 c17 c15 c16 ek20 lk20 c21 (t23 N0 K B G sz hN) c24, h⟩
                    · rw [if_neg c17] at h
                      exact ⟨_, _, fun N0 K B G sz sl hN => r_letter_0_fffffftfttf hN c1 c2 c3 c4 c5 c6 (t8 N0 K B G sz hN) c9 (t10 N0 K B G sz hN) c6 (t13 N0 K B G sz hN) c15 c16 c17, h⟩
