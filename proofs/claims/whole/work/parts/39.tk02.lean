theorem gX9_isPlain.of {N0 : Nat} {K : Nat → Nat} {d : Nat} {p0 : Int32} {M : gm_H} {sz : Nat} {Q : Int32 → Prop} (h : hX9_isPlain_0 N0 K d p0 M sz 0 Q) : gX9_isPlain N0 K (d + 1) p0 M sz (fun r M' sz' dd => M' = M ∧ sz' = sz ∧ dd = 0 ∧ Q r) := gC.of rfl (by decide) (Nat.le_of_ble_eq_true rfl) rfl h
theorem TX9_variables_0 {N0 : Nat} {K : Nat → Nat} {d : Nat} {p0 : Int32} {M : gm_H} {sz sl : Nat} {Q : Int32 → gm_H → Nat → Nat → Prop} (h : hX9_variables_5 N0 K d p0 (0 : Int32) (21 : Int32) M sz sl Q) : hX9_variables_0 N0 K d p0 M sz sl Q := by
  obtain ⟨r9, M9, z9, d9, e9, h⟩ := h
  exact ⟨r9, M9, z9, d9, c_X9_variables_0__at5  e9, h⟩
theorem gX9_variables.of {N0 : Nat} {K : Nat → Nat} {d : Nat} {p0 : Int32} {M : gm_H} {sz : Nat} {Q : Int32 → gm_H → Nat → Nat → Prop} (h : hX9_variables_0 N0 K d p0 M sz 0 Q) : gX9_variables N0 K (d + 1) p0 M sz Q := gC.of rfl (by decide) (Nat.le_of_ble_eq_true rfl) rfl h
theorem TX9_variables_5 {N0 : Nat} {K : Nat → Nat} {d : Nat} {u0 : Int32} {u1 : Int32} {u2 : Int32} {M : gm_H} {sz sl : Nat} {Q : Int32 → gm_H → Nat → Nat → Prop} (h : if u2 < 0 then (Q u1 M sz sl) else (gX9_isVariable N0 K d ((((u0).toUInt32 >>> ((u2).toUInt32 &&& Int32.toUInt32 31)).toInt32) &&& (127 : Int32)) M sz (fun r3 M3 z3 d3 => if r3 = 0 then (hX9_variables_5 N0 K d u0 u1 (u2 + (-7 : Int32)) M3 z3 (sl + d3) Q) else (hX9_variables_5 N0 K d u0 (u1 ||| ((1 : Int32) <<< ((((((u0).toUInt32 >>> ((u2).toUInt32 &&& Int32.toUInt32 31)).toInt32) &&& (127 : Int32)) - (85 : Int32)) &&& 31))) (u2 + (-7 : Int32)) M3 z3 (sl + d3) Q)))) : hX9_variables_5 N0 K d u0 u1 u2 M sz sl Q := by
  by_cases c1 : u2 < 0
  · rw [if_pos c1] at h
    exact ⟨_, _, _, _, c_X9_variables_5_t c1, h⟩
  · rw [if_neg c1] at h
    obtain ⟨r3, M3, z3, d3, t3, h⟩ := h
    by_cases c7 : r3 = 0
    · rw [if_pos c7] at h
      obtain ⟨r9, M9, z9, d9, e9, h⟩ := h
      exact ⟨r9, M9, z9, d9, c_X9_variables_5_ft_at5 c1 t3 c7 e9, h⟩
    · rw [if_neg c7] at h
      obtain ⟨r9, M9, z9, d9, e9, h⟩ := h
      exact ⟨r9, M9, z9, d9, c_X9_variables_5_ff_at5 c1 t3 c7 e9, h⟩
theorem TX9_plan_0 {N0 : Nat} {K : Nat → Nat} {d : Nat} {p0 : Int32} {p1 : Int32} {M : gm_H} {sz sl : Nat} {Q : Int32 → gm_H → Nat → Nat → Prop} (h : hX9_plan_8 N0 K d p0 p0 p1 (21 : Int32) M sz sl Q) : hX9_plan_0 N0 K d p0 p1 M sz sl Q := by
  obtain ⟨r9, M9, z9, d9, e9, h⟩ := h
  exact ⟨r9, M9, z9, d9, c_X9_plan_0__at8  e9, h⟩
theorem gX9_plan.of {N0 : Nat} {K : Nat → Nat} {d : Nat} {p0 : Int32} {p1 : Int32} {M : gm_H} {sz : Nat} {Q : Int32 → gm_H → Nat → Nat → Prop} (h : hX9_plan_0 N0 K d p0 p1 M sz 0 Q) : gX9_plan N0 K (d + 1) p0 p1 M sz Q := gC.of rfl (by decide) (Nat.le_of_ble_eq_true rfl) rfl h
theorem TX9_plan_8 {N0 : Nat} {K : Nat → Nat} {d : Nat} {u0 : Int32} {u2 : Int32} {u3 : Int32} {u4 : Int32} {M : gm_H} {sz sl : Nat} {Q : Int32 → gm_H → Nat → Nat → Prop} (h : if u4 < 0 then (Q u2 M sz sl) else (gX9_isVariable N0 K d ((((u0).toUInt32 >>> ((u4).toUInt32 &&& Int32.toUInt32 31)).toInt32) &&& (127 : Int32)) M sz (fun r3 M3 z3 d3 => if r3 = 0 then (hX9_plan_8 N0 K d u0 u2 u3 (u4 + (-7 : Int32)) M3 z3 (sl + d3) Q) else (if (u3 &&& ((1 : Int32) <<< ((((((u0).toUInt32 >>> ((u4).toUInt32 &&& Int32.toUInt32 31)).toInt32) &&& (127 : Int32)) - (85 : Int32)) &&& 31))) = 0 then (hX9_plan_8 N0 K d u0 (u2 + (((((((((u0).toUInt32 >>> ((u4).toUInt32 &&& Int32.toUInt32 31)).toInt32) &&& (127 : Int32)) - (85 : Int32)) + (1 : Int32)) + (6 : Int32)) - ((((u0).toUInt32 >>> ((u4).toUInt32 &&& Int32.toUInt32 31)).toInt32) &&& (127 : Int32))) <<< (u4 &&& 31))) (u3 &&& (((1 : Int32) <<< ((((((u0).toUInt32 >>> ((u4).toUInt32 &&& Int32.toUInt32 31)).toInt32) &&& (127 : Int32)) - (85 : Int32)) &&& 31)) ^^^ (-1 : Int32))) (u4 + (-7 : Int32)) M3 z3 (sl + d3) Q) else (hX9_plan_8 N0 K d u0 (u2 + ((((((((u0).toUInt32 >>> ((u4).toUInt32 &&& Int32.toUInt32 31)).toInt32) &&& (127 : Int32)) - (85 : Int32)) + (1 : Int32)) - ((((u0).toUInt32 >>> ((u4).toUInt32 &&& Int32.toUInt32 31)).toInt32) &&& (127 : Int32))) <<< (u4 &&& 31))) (u3 &&& (((1 : Int32) <<< ((((((u0).toUInt32 >>> ((u4).toUInt32 &&& Int32.toUInt32 31)).toInt32) &&& (127 : Int32)) - (85 : Int32)) &&& 31)) ^^^ (-1 : Int32))) (u4 + (-7 : Int32)) M3 z3 (sl + d3) Q))))) : hX9_plan_8 N0 K d u0 u2 u3 u4 M sz sl Q := by
  by_cases c1 : u4 < 0
  · rw [if_pos c1] at h
    exact ⟨_, _, _, _, c_X9_plan_8_t c1, h⟩
  · rw [if_neg c1] at h
    obtain ⟨r3, M3, z3, d3, t3, h⟩ := h
    by_cases c7 : r3 = 0
    · rw [if_pos c7] at h
      obtain ⟨r9, M9, z9, d9, e9, h⟩ := h
      exact ⟨r9, M9, z9, d9, c_X9_plan_8_ft_at8 c1 t3 c7 e9, h⟩
    · rw [if_neg c7] at h
      by_cases c8 : (u3 &&& ((1 : Int32) <<< ((((((u0).toUInt32 >>> ((u4).toUInt32 &&& Int32.toUInt32 31)).toInt32) &&& (127 : Int32)) - (85 : Int32)) &&& 31))) = 0
      · rw [if_pos c8] at h
        obtain ⟨r9, M9, z9, d9, e9, h⟩ := h
        exact ⟨r9, M9, z9, d9, c_X9_plan_8_fft_at8 c1 t3 c7 c8 e9, h⟩
      · rw [if_neg c8] at h
        obtain ⟨r9, M9, z9, d9, e9, h⟩ := h
        exact ⟨r9, M9, z9, d9, c_X9_plan_8_fff_at8 c1 t3 c7 c8 e9, h⟩
theorem TX9_character_0 {N0 : Nat} {K : Nat → Nat} {d : Nat} {p0 : Int32} {p1 : Int32} {M : gm_H} {sz sl : Nat} {Q : Int32 → Prop} (h : hX9_character_5 N0 K d p0 p1 (0 : Int32) (14 : Int32) M sz sl Q) : hX9_character_0 N0 K d p0 p1 M sz sl Q := by
  obtain ⟨r9, M9, z9, d9, e9, h⟩ := h
  exact ⟨r9, M9, z9, d9, c_X9_character_0__at5  e9, h⟩
theorem gX9_character.of {N0 : Nat} {K : Nat → Nat} {d : Nat} {p0 : Int32} {p1 : Int32} {M : gm_H} {sz : Nat} {Q : Int32 → Prop} (h : hX9_character_0 N0 K d p0 p1 M sz 0 Q) : gX9_character N0 K (d + 1) p0 p1 M sz (fun r M' sz' dd => M' = M ∧ sz' = sz ∧ dd = 0 ∧ Q r) := gC.of rfl (by decide) (Nat.le_of_ble_eq_true rfl) rfl h
theorem TX9_character_5 {N0 : Nat} {K : Nat → Nat} {d : Nat} {u0 : Int32} {u1 : Int32} {u2 : Int32} {u3 : Int32} {M : gm_H} {sz sl : Nat} {Q : Int32 → Prop} (h : if u3 < 0 then (if u2 = 0 then (if u0 = 0 then (Q (-1 : Int32)) else (if u1 < 0 then (Q (-1 : Int32)) else (if u1 ≤ (0 : Int32) then (if (u1 - u1 / (2 : Int32) * (2 : Int32)) = 0 then (Q ((((u0).toUInt32 >>> ((((21 : Int32) - ((7 : Int32) * (u1 / (2 : Int32))))).toUInt32 &&& Int32.toUInt32 31)).toInt32) &&& (127 : Int32))) else (if u1 = (1 : Int32) then (Q (40 : Int32)) else (if u1 = (0 : Int32) then (Q (41 : Int32)) else (Q (44 : Int32))))) else (Q (-1 : Int32))))) else (if u0 = 0 then (Q (-1 : Int32)) else (if u1 < 0 then (Q (-1 : Int32)) else (if u1 ≤ (((2 : Int32) * u2) + (1 : Int32)) then (if (u1 - u1 / (2 : Int32) * (2 : Int32)) = 0 then (Q ((((u0).toUInt32 >>> ((((21 : Int32) - ((7 : Int32) * (u1 / (2 : Int32))))).toUInt32 &&& Int32.toUInt32 31)).toInt32) &&& (127 : Int32))) else (if u1 = (1 : Int32) then (Q (40 : Int32)) else (if u1 = (((2 : Int32) * u2) + (1 : Int32)) then (Q (41 : Int32)) else (Q (44 : Int32))))) else (Q (-1 : Int32)))))) else (if ((((u0).toUInt32 >>> ((u3).toUInt32 &&& Int32.toUInt32 31)).toInt32) &&& (127 : Int32)) = 0 then (hX9_character_5 N0 K d u0 u1 (u2 + (0 : Int32)) (u3 + (-7 : Int32)) M sz sl Q) else (hX9_character_5 N0 K d u0 u1 (u2 + (1 : Int32)) (u3 + (-7 : Int32)) M sz sl Q))) : hX9_character_5 N0 K d u0 u1 u2 u3 M sz sl Q := by
  by_cases c1 : u3 < 0
  · rw [if_pos c1] at h
    by_cases c2 : u2 = 0
    · rw [if_pos c2] at h
      by_cases c3 : u0 = 0
      · rw [if_pos c3] at h
        exact ⟨_, _, _, _, c_X9_character_5_tft c1 c2 c3, rfl, rfl, rfl, h⟩
      · rw [if_neg c3] at h
        by_cases c4 : u1 < 0
        · rw [if_pos c4] at h
          exact ⟨_, _, _, _, c_X9_character_5_tfft c1 c2 c3 c4, rfl, rfl, rfl, h⟩
        · rw [if_neg c4] at h
          by_cases c5 : u1 ≤ (0 : Int32)
          · rw [if_pos c5] at h
            by_cases c6 : (u1 - u1 / (2 : Int32) * (2 : Int32)) = 0
            · rw [if_pos c6] at h
              exact ⟨_, _, _, _, c_X9_character_5_tffftf c1 c2 c3 c4 c5 c6, rfl, rfl, rfl, h⟩
            · rw [if_neg c6] at h
              by_cases c7 : u1 = (1 : Int32)
              · rw [if_pos c7] at h
                exact ⟨_, _, _, _, c_X9_character_5_tfffttf c1 c2 c3 c4 c5 c6 c7, rfl, rfl, rfl, h⟩
              · rw [if_neg c7] at h
                by_cases c8 : u1 = (0 : Int32)
                · rw [if_pos c8] at h
                  exact ⟨_, _, _, _, c_X9_character_5_tffftttf c1 c2 c3 c4 c5 c6 c7 c8, rfl, rfl, rfl, h⟩
                · rw [if_neg c8] at h
                  exact ⟨_, _, _, _, c_X9_character_5_tffftttt c1 c2 c3 c4 c5 c6 c7 c8, rfl, rfl, rfl, h⟩
          · rw [if_neg c5] at h
            exact ⟨_, _, _, _, c_X9_character_5_tffff c1 c2 c3 c4 c5, rfl, rfl, rfl, h⟩
    · rw [if_neg c2] at h
      by_cases c3 : u0 = 0
      · rw [if_pos c3] at h
        exact ⟨_, _, _, _, c_X9_character_5_ttt c1 c2 c3, rfl, rfl, rfl, h⟩
      · rw [if_neg c3] at h
        by_cases c4 : u1 < 0
        · rw [if_pos c4] at h
          exact ⟨_, _, _, _, c_X9_character_5_ttft c1 c2 c3 c4, rfl, rfl, rfl, h⟩
        · rw [if_neg c4] at h
          by_cases c5 : u1 ≤ (((2 : Int32) * u2) + (1 : Int32))
          · rw [if_pos c5] at h
            by_cases c6 : (u1 - u1 / (2 : Int32) * (2 : Int32)) = 0
            · rw [if_pos c6] at h
              exact ⟨_, _, _, _, c_X9_character_5_ttfftf c1 c2 c3 c4 c5 c6, rfl, rfl, rfl, h⟩
            · rw [if_neg c6] at h
              by_cases c7 : u1 = (1 : Int32)
              · rw [if_pos c7] at h
                exact ⟨_, _, _, _, c_X9_character_5_ttffttf c1 c2 c3 c4 c5 c6 c7, rfl, rfl, rfl, h⟩
              · rw [if_neg c7] at h
                by_cases c8 : u1 = (((2 : Int32) * u2) + (1 : Int32))
                · rw [if_pos c8] at h
                  exact ⟨_, _, _, _, c_X9_character_5_ttfftttf c1 c2 c3 c4 c5 c6 c7 c8, rfl, rfl, rfl, h⟩
                · rw [if_neg c8] at h
                  exact ⟨_, _, _, _, c_X9_character_5_ttfftttt c1 c2 c3 c4 c5 c6 c7 c8, rfl, rfl, rfl, h⟩
          · rw [if_neg c5] at h
            exact ⟨_, _, _, _, c_X9_character_5_ttfff c1 c2 c3 c4 c5, rfl, rfl, rfl, h⟩
  · rw [if_neg c1] at h
    by_cases c2 : ((((u0).toUInt32 >>> ((u3).toUInt32 &&& Int32.toUInt32 31)).toInt32) &&& (127 : Int32)) = 0
    · rw [if_pos c2] at h
      obtain ⟨r9, M9, z9, d9, e9, h⟩ := h
      exact ⟨r9, M9, z9, d9, c_X9_character_5_ft_at5 c1 c2 e9, h⟩
    · rw [if_neg c2] at h
      obtain ⟨r9, M9, z9, d9, e9, h⟩ := h
      exact ⟨r9, M9, z9, d9, c_X9_character_5_ff_at5 c1 c2 e9, h⟩
theorem TX10_init_0 {N0 : Nat} {K : Nat → Nat} {d : Nat} {q : Nat} {p0 : Int32} {M : gm_H} {sz sl : Nat} {Q : Unit → gm_H → Nat → Nat → Prop} (h : (0 < d) ∧ (∃ m2 : Nat, (p0 = nI m2) ∧ ((m2 ≤ 60000000) ∧ ((gm_bd M sz) ∧ (∃ fso9 : List Value, ((gm_new M sz (.inl (.int, m2, .inl (fun _ => 0)))) q = some (.inr (9, fso9))) ∧ ((N0 ≤ q) ∧ ((0 < fso9.length) ∧ (Q () (gm_set (gm_new M sz (.inl (.int, m2, .inl (fun _ => 0)))) q (.inr (9, (fso9.set 0 (.ref sz))))) (sz + 1) (sl + m2))))))))) : hX10_init_0 N0 K d q p0 M sz sl Q := by
  obtain ⟨hd, h⟩ := h
  obtain ⟨m2, c3, h⟩ := h
  obtain ⟨c4, h⟩ := h
  obtain ⟨bd5, h⟩ := h
  obtain ⟨fso9, ho9, h⟩ := h
  obtain ⟨hNq, h⟩ := h
  obtain ⟨l10, h⟩ := h
  exact ⟨_, _, _, _, c_X10_init_0_ hd c3 c4 bd5 ho9 hNq l10, h⟩
theorem gX10_init.of {N0 : Nat} {K : Nat → Nat} {d : Nat} {q : Nat} {p0 : Int32} {M : gm_H} {sz : Nat} {Q : Unit → gm_H → Nat → Nat → Prop} (h : hX10_init_0 N0 K d q p0 M sz 0 Q) : gX10_init N0 K (d + 1) q p0 M sz Q := gC.of rfl (by decide) (Nat.le_of_ble_eq_true rfl) rfl h
theorem TX10_at_0 {N0 : Nat} {K : Nat → Nat} {d : Nat} {q : Nat} {p0 : Int32} {M : gm_H} {sz sl : Nat} {Q : Int32 → Prop} (h : if p0 < 0 then (Q (0 : Int32)) else (∃ fso2 : List Value, (M q = some (.inr (9, fso2))) ∧ (∃ x3 : Int32, (fso2[1]? = some (.int x3)) ∧ (if x3 ≤ p0 then (Q (0 : Int32)) else (∃ r6 : Nat, (fso2[0]? = some (.ref r6)) ∧ (∃ na8 : Nat, ∃ fa8 : Nat → Int32, (M r6 = some (.inl (.int, na8, .inl fa8))) ∧ ((na8 < 2 ^ 31) ∧ (∃ k9 : Nat, (p0 = nI k9) ∧ ((k9 < na8) ∧ (Q (fa8 k9))))))))))) : hX10_at_0 N0 K d q p0 M sz sl Q := by
  by_cases c1 : p0 < 0
  · rw [if_pos c1] at h
    exact ⟨_, _, _, _, c_X10_at_0_t c1, rfl, rfl, rfl, h⟩
  · rw [if_neg c1] at h
    obtain ⟨fso2, ho2, h⟩ := h
    obtain ⟨x3, f4, h⟩ := h
    by_cases c5 : x3 ≤ p0
    · rw [if_pos c5] at h
      exact ⟨_, _, _, _, c_X10_at_0_ft c1 ho2 f4 c5, rfl, rfl, rfl, h⟩
    · rw [if_neg c5] at h
      obtain ⟨r6, f7, h⟩ := h
      obtain ⟨na8, fa8, ha8, h⟩ := h
      obtain ⟨ba8, h⟩ := h
      obtain ⟨k9, ek9, h⟩ := h
      obtain ⟨lk9, h⟩ := h
      exact ⟨_, _, _, _, c_X10_at_0_ff c1 ho2 f4 c5 f7 ha8 ba8 ek9 lk9, rfl, rfl, rfl, h⟩
theorem gX10_at.of {N0 : Nat} {K : Nat → Nat} {d : Nat} {q : Nat} {p0 : Int32} {M : gm_H} {sz : Nat} {Q : Int32 → Prop} (h : hX10_at_0 N0 K d q p0 M sz 0 Q) : gX10_at N0 K (d + 1) q p0 M sz (fun r M' sz' dd => M' = M ∧ sz' = sz ∧ dd = 0 ∧ Q r) := gC.of rfl (by decide) (Nat.le_of_ble_eq_true rfl) rfl h
theorem TX10_clear_0 {N0 : Nat} {K : Nat → Nat} {d : Nat} {q : Nat} {M : gm_H} {sz sl : Nat} {Q : Unit → gm_H → Nat → Nat → Prop} (h : ∃ fso1 : List Value, (M q = some (.inr (9, fso1))) ∧ ((N0 ≤ q) ∧ ((1 < fso1.length) ∧ (Q () (gm_set M q (.inr (9, (fso1.set 1 (.int (0 : Int32)))))) sz sl)))) : hX10_clear_0 N0 K d q M sz sl Q := by
  obtain ⟨fso1, ho1, h⟩ := h
  obtain ⟨hNq, h⟩ := h
  obtain ⟨l2, h⟩ := h
  exact ⟨_, _, _, _, c_X10_clear_0_ ho1 hNq l2, h⟩
theorem gX10_clear.of {N0 : Nat} {K : Nat → Nat} {d : Nat} {q : Nat} {M : gm_H} {sz : Nat} {Q : Unit → gm_H → Nat → Nat → Prop} (h : hX10_clear_0 N0 K d q M sz 0 Q) : gX10_clear N0 K (d + 1) q M sz Q := gC.of rfl (by decide) (Nat.le_of_ble_eq_true rfl) rfl h
theorem TX10_copy_0 {N0 : Nat} {K : Nat → Nat} {d : Nat} {q : Nat} {p0 : Nat} {M : gm_H} {sz sl : Nat} {Q : Unit → gm_H → Nat → Nat → Prop} (h : ∃ fso1 : List Value, (M p0 = some (.inr (9, fso1))) ∧ (∃ x2 : Int32, (fso1[1]? = some (.int x2)) ∧ (∃ fso4 : List Value, (M q = some (.inr (9, fso4))) ∧ (∃ r5 : Nat, (fso4[0]? = some (.ref r5)) ∧ (∃ na7 : Nat, ∃ fa7 : Nat → Int32, (M r5 = some (.inl (.int, na7, .inl fa7))) ∧ ((na7 < 2 ^ 31) ∧ ((0 < d) ∧ ((N0 ≤ q) ∧ ((1 < fso4.length) ∧ ((p0 ≠ q) ∧ (∃ r16 : Nat, (fso1[0]? = some (.ref r16)) ∧ (gC wU N0 K d 3 [.ref r16, .int (0 : Int32), .ref r5, .int (0 : Int32), .int (if nI na7 < x2 then nI na7 else x2)] (gm_set M q (.inr (9, (fso4.set 1 (.int (if nI na7 < x2 then nI na7 else x2)))))) sz (fun _ M18 z18 d18 => Q () M18 z18 (sl + d18)))))))))))))) : hX10_copy_0 N0 K d q p0 M sz sl Q := by
  obtain ⟨fso1, ho1, h⟩ := h
  obtain ⟨x2, f3, h⟩ := h
  obtain ⟨fso4, ho4, h⟩ := h
  obtain ⟨r5, f6, h⟩ := h
  obtain ⟨na7, fa7, ha7, h⟩ := h
  obtain ⟨ba7, h⟩ := h
  obtain ⟨hd, h⟩ := h
  obtain ⟨hNq, h⟩ := h
  obtain ⟨l10, h⟩ := h
  obtain ⟨ne_p0_q, h⟩ := h
  obtain ⟨r16, f17, h⟩ := h
  obtain ⟨_, M18, z18, d18, t18, h⟩ := h
  exact ⟨_, _, _, _, c_X10_copy_0_ ho1 f3 ho4 f6 ha7 ba7 hd hNq l10 ne_p0_q f17 t18, h⟩
theorem gX10_copy.of {N0 : Nat} {K : Nat → Nat} {d : Nat} {q : Nat} {p0 : Nat} {M : gm_H} {sz : Nat} {Q : Unit → gm_H → Nat → Nat → Prop} (h : hX10_copy_0 N0 K d q p0 M sz 0 Q) : gX10_copy N0 K (d + 1) q p0 M sz Q := gC.of rfl (by decide) (Nat.le_of_ble_eq_true rfl) rfl h
theorem TX10_isSame_0 {N0 : Nat} {K : Nat → Nat} {d : Nat} {q : Nat} {p0 : Nat} {M : gm_H} {sz sl : Nat} {Q : Int32 → Prop} (h : ∃ fso1 : List Value, (M q = some (.inr (9, fso1))) ∧ (∃ x2 : Int32, (fso1[1]? = some (.int x2)) ∧ (∃ fso4 : List Value, (M p0 = some (.inr (9, fso4))) ∧ (∃ x5 : Int32, (fso4[1]? = some (.int x5)) ∧ (if x2 = x5 then (hX10_isSame_15 N0 K d q p0 (0 : Int32) M sz sl Q) else (Q (0 : Int32))))))) : hX10_isSame_0 N0 K d q p0 M sz sl Q := by
  obtain ⟨fso1, ho1, h⟩ := h
  obtain ⟨x2, f3, h⟩ := h
  obtain ⟨fso4, ho4, h⟩ := h
  obtain ⟨x5, f6, h⟩ := h
  by_cases c7 : x2 = x5
  · rw [if_pos c7] at h
    obtain ⟨r9, M9, z9, d9, e9, h⟩ := h
    exact ⟨r9, M9, z9, d9, c_X10_isSame_0_t_at15 ho1 f3 ho4 f6 c7 e9, h⟩
  · rw [if_neg c7] at h
    exact ⟨_, _, _, _, c_X10_isSame_0_f ho1 f3 ho4 f6 c7, rfl, rfl, rfl, h⟩
theorem gX10_isSame.of {N0 : Nat} {K : Nat → Nat} {d : Nat} {q : Nat} {p0 : Nat} {M : gm_H} {sz : Nat} {Q : Int32 → Prop} (h : hX10_isSame_0 N0 K d q p0 M sz 0 Q) : gX10_isSame N0 K (d + 1) q p0 M sz (fun r M' sz' dd => M' = M ∧ sz' = sz ∧ dd = 0 ∧ Q r) := gC.of rfl (by decide) (Nat.le_of_ble_eq_true rfl) rfl h
theorem TX10_isSame_15 {N0 : Nat} {K : Nat → Nat} {d : Nat} {q : Nat} {p0 : Nat} {u2 : Int32} {M : gm_H} {sz sl : Nat} {Q : Int32 → Prop} (h : ∃ fso1 : List Value, (M q = some (.inr (9, fso1))) ∧ (∃ x2 : Int32, (fso1[1]? = some (.int x2)) ∧ (if x2 ≤ u2 then (Q (1 : Int32)) else (∃ r5 : Nat, (fso1[0]? = some (.ref r5)) ∧ (∃ na7 : Nat, ∃ fa7 : Nat → Int32, (M r5 = some (.inl (.int, na7, .inl fa7))) ∧ ((na7 < 2 ^ 31) ∧ (∃ k8 : Nat, (u2 = nI k8) ∧ ((k8 < na7) ∧ (∃ fso9 : List Value, (M p0 = some (.inr (9, fso9))) ∧ (∃ r10 : Nat, (fso9[0]? = some (.ref r10)) ∧ (∃ na12 : Nat, ∃ fa12 : Nat → Int32, (M r10 = some (.inl (.int, na12, .inl fa12))) ∧ ((na12 < 2 ^ 31) ∧ ((k8 < na12) ∧ (if (fa7 k8) = (fa12 k8) then (hX10_isSame_15 N0 K d q p0 (u2 + (1 : Int32)) M sz sl Q) else (Q (0 : Int32)))))))))))))))) : hX10_isSame_15 N0 K d q p0 u2 M sz sl Q := by
  obtain ⟨fso1, ho1, h⟩ := h
  obtain ⟨x2, f3, h⟩ := h
  by_cases c4 : x2 ≤ u2
  · rw [if_pos c4] at h
    exact ⟨_, _, _, _, c_X10_isSame_15_t ho1 f3 c4, rfl, rfl, rfl, h⟩
  · rw [if_neg c4] at h
    obtain ⟨r5, f6, h⟩ := h
    obtain ⟨na7, fa7, ha7, h⟩ := h
    obtain ⟨ba7, h⟩ := h
    obtain ⟨k8, ek8, h⟩ := h
    obtain ⟨lk8, h⟩ := h
    obtain ⟨fso9, ho9, h⟩ := h
    obtain ⟨r10, f11, h⟩ := h
    obtain ⟨na12, fa12, ha12, h⟩ := h
    obtain ⟨ba12, h⟩ := h
    obtain ⟨lk13, h⟩ := h
    by_cases c14 : (fa7 k8) = (fa12 k8)
    · rw [if_pos c14] at h
      obtain ⟨r9, M9, z9, d9, e9, h⟩ := h
      exact ⟨r9, M9, z9, d9, c_X10_isSame_15_ft_at15 ho1 f3 c4 f6 ha7 ba7 ek8 lk8 ho9 f11 ha12 ba12 ek8 lk13 c14 e9, h⟩
    · rw [if_neg c14] at h
      exact ⟨_, _, _, _, c_X10_isSame_15_ff ho1 f3 c4 f6 ha7 ba7 ek8 lk8 ho9 f11 ha12 ba12 ek8 lk13 c14, rfl, rfl, rfl, h⟩
theorem TX10_insert_0 {N0 : Nat} {K : Nat → Nat} {d : Nat} {q : Nat} {p0 : Int32} {M : gm_H} {sz sl : Nat} {Q : Int32 → gm_H → Nat → Nat → Prop} (h : ∃ fso1 : List Value, (M q = some (.inr (9, fso1))) ∧ (∃ x2 : Int32, (fso1[1]? = some (.int x2)) ∧ (hX10_insert_7 N0 K d q p0 (0 : Int32) x2 M sz sl Q))) : hX10_insert_0 N0 K d q p0 M sz sl Q := by
  obtain ⟨fso1, ho1, h⟩ := h
  obtain ⟨x2, f3, h⟩ := h
  obtain ⟨r9, M9, z9, d9, e9, h⟩ := h
  exact ⟨r9, M9, z9, d9, c_X10_insert_0__at7 ho1 f3 e9, h⟩
theorem gX10_insert.of {N0 : Nat} {K : Nat → Nat} {d : Nat} {q : Nat} {p0 : Int32} {M : gm_H} {sz : Nat} {Q : Int32 → gm_H → Nat → Nat → Prop} (h : hX10_insert_0 N0 K d q p0 M sz 0 Q) : gX10_insert N0 K (d + 1) q p0 M sz Q := gC.of rfl (by decide) (Nat.le_of_ble_eq_true rfl) rfl h
theorem TX10_insert_7 {N0 : Nat} {K : Nat → Nat} {d : Nat} {q : Nat} {u1 : Int32} {u2 : Int32} {u3 : Int32} {M : gm_H} {sz sl : Nat} {Q : Int32 → gm_H → Nat → Nat → Prop} (h : if u3 ≤ u2 then (∃ fso2 : List Value, (M q = some (.inr (9, fso2))) ∧ (∃ x3 : Int32, (fso2[1]? = some (.int x3)) ∧ (if x3 ≤ u2 then (∃ r6 : Nat, (fso2[0]? = some (.ref r6)) ∧ (∃ na8 : Nat, ∃ fa8 : Nat → Int32, (M r6 = some (.inl (.int, na8, .inl fa8))) ∧ ((na8 < 2 ^ 31) ∧ (if x3 = (nI na8) then (Q (0 : Int32) M sz sl) else (gC wU N0 K d 3 [.ref r6, .int u2, .ref r6, .int (u2 + (1 : Int32)), .int (x3 - u2)] M sz (fun _ M10 z10 d10 => ∃ fso14 : List Value, (M10 q = some (.inr (9, fso14))) ∧ (∃ r15 : Nat, (fso14[0]? = some (.ref r15)) ∧ (∃ na17 : Nat, ∃ fa17 : Nat → Int32, (M10 r15 = some (.inl (.int, na17, .inl fa17))) ∧ ((na17 < 2 ^ 31) ∧ ((N0 ≤ r15) ∧ (∃ k18 : Nat, (u2 = nI k18) ∧ ((k18 < na17) ∧ (∃ x21 : Int32, (fso14[1]? = some (.int x21)) ∧ ((N0 ≤ q) ∧ (Q (1 : Int32) (gm_set (gm_set M10 r15 (.inl (.int, na17, .inl (upd fa17 k18 u1)))) q (.inr (9, (fso14.set 1 (.int (x21 + (1 : Int32))))))) z10 (sl + d10)))))))))))))))) else (∃ r6 : Nat, (fso2[0]? = some (.ref r6)) ∧ (∃ na8 : Nat, ∃ fa8 : Nat → Int32, (M r6 = some (.inl (.int, na8, .inl fa8))) ∧ ((na8 < 2 ^ 31) ∧ (∃ k9 : Nat, (u2 = nI k9) ∧ ((k9 < na8) ∧ (if (fa8 k9) = u1 then (Q (1 : Int32) M sz sl) else (if x3 = (nI na8) then (Q (0 : Int32) M sz sl) else (gC wU N0 K d 3 [.ref r6, .int u2, .ref r6, .int (u2 + (1 : Int32)), .int (x3 - u2)] M sz (fun _ M12 z12 d12 => ∃ fso16 : List Value, (M12 q = some (.inr (9, fso16))) ∧ (∃ r17 : Nat, (fso16[0]? = some (.ref r17)) ∧ (∃ na19 : Nat, ∃ fa19 : Nat → Int32, (M12 r17 = some (.inl (.int, na19, .inl fa19))) ∧ ((na19 < 2 ^ 31) ∧ ((N0 ≤ r17) ∧ ((k9 < na19) ∧ (∃ x23 : Int32, (fso16[1]? = some (.int x23)) ∧ ((N0 ≤ q) ∧ (Q (1 : Int32) (gm_set (gm_set M12 r17 (.inl (.int, na19, .inl (upd fa19 k9 u1)))) q (.inr (9, (fso16.set 1 (.int (x23 + (1 : Int32))))))) z12 (sl + d12))))))))))))))))))))) else (∃ fso2 : List Value, (M q = some (.inr (9, fso2))) ∧ (∃ r3 : Nat, (fso2[0]? = some (.ref r3)) ∧ (∃ na5 : Nat, ∃ fa5 : Nat → Int32, (M r3 = some (.inl (.int, na5, .inl fa5))) ∧ ((na5 < 2 ^ 31) ∧ (∃ k6 : Nat, (((((u2 + u3)).toUInt32 >>> (((1 : Int32)).toUInt32 &&& Int32.toUInt32 31)).toInt32) = nI k6) ∧ ((k6 < na5) ∧ (if u1 ≤ (fa5 k6) then (hX10_insert_7 N0 K d q u1 u2 ((((u2 + u3)).toUInt32 >>> (((1 : Int32)).toUInt32 &&& Int32.toUInt32 31)).toInt32) M sz sl Q) else (hX10_insert_7 N0 K d q u1 (((((u2 + u3)).toUInt32 >>> (((1 : Int32)).toUInt32 &&& Int32.toUInt32 31)).toInt32) + (1 : Int32)) u3 M sz sl Q))))))))) : hX10_insert_7 N0 K d q u1 u2 u3 M sz sl Q := by
  by_cases c1 : u3 ≤ u2
  · rw [if_pos c1] at h
    obtain ⟨fso2, ho2, h⟩ := h
    obtain ⟨x3, f4, h⟩ := h
    by_cases c5 : x3 ≤ u2
    · rw [if_pos c5] at h
      obtain ⟨r6, f7, h⟩ := h
      obtain ⟨na8, fa8, ha8, h⟩ := h
      obtain ⟨ba8, h⟩ := h
      by_cases c9 : x3 = (nI na8)
      · rw [if_pos c9] at h
        exact ⟨_, _, _, _, c_X10_insert_7_ttf c1 ho2 f4 c5 f7 ha8 ba8 c9, h⟩
      · rw [if_neg c9] at h
        obtain ⟨_, M10, z10, d10, t10, h⟩ := h
        obtain ⟨fso14, ho14, h⟩ := h
        obtain ⟨r15, f16, h⟩ := h
        obtain ⟨na17, fa17, ha17, h⟩ := h
        obtain ⟨ba17, h⟩ := h
        obtain ⟨hNr15, h⟩ := h
        obtain ⟨k18, ek18, h⟩ := h
        obtain ⟨lk18, h⟩ := h
        obtain ⟨x21, f22, h⟩ := h
        obtain ⟨hNq, h⟩ := h
        exact ⟨_, _, _, _, c_X10_insert_7_ttt c1 ho2 f4 c5 f7 ha8 ba8 c9 t10 ho14 f16 ha17 ba17 hNr15 ek18 lk18 f22 hNq, h⟩
    · rw [if_neg c5] at h
      obtain ⟨r6, f7, h⟩ := h
      obtain ⟨na8, fa8, ha8, h⟩ := h
      obtain ⟨ba8, h⟩ := h
      obtain ⟨k9, ek9, h⟩ := h
      obtain ⟨lk9, h⟩ := h
      by_cases c10 : (fa8 k9) = u1
      · rw [if_pos c10] at h
        exact ⟨_, _, _, _, c_X10_insert_7_tff c1 ho2 f4 c5 f7 ha8 ba8 ek9 lk9 c10, h⟩
      · rw [if_neg c10] at h
        by_cases c11 : x3 = (nI na8)
        · rw [if_pos c11] at h
          exact ⟨_, _, _, _, c_X10_insert_7_tftf c1 ho2 f4 c5 f7 ha8 ba8 ek9 lk9 c10 c11, h⟩
        · rw [if_neg c11] at h
          obtain ⟨_, M12, z12, d12, t12, h⟩ := h
          obtain ⟨fso16, ho16, h⟩ := h
          obtain ⟨r17, f18, h⟩ := h
          obtain ⟨na19, fa19, ha19, h⟩ := h
          obtain ⟨ba19, h⟩ := h
          obtain ⟨hNr17, h⟩ := h
          obtain ⟨lk20, h⟩ := h
          obtain ⟨x23, f24, h⟩ := h
          obtain ⟨hNq, h⟩ := h
          exact ⟨_, _, _, _, c_X10_insert_7_tftt c1 ho2 f4 c5 f7 ha8 ba8 ek9 lk9 c10 c11 t12 ho16 f18 ha19 ba19 hNr17 ek9 lk20 f24 hNq, h⟩
  · rw [if_neg c1] at h
    obtain ⟨fso2, ho2, h⟩ := h
    obtain ⟨r3, f4, h⟩ := h
    obtain ⟨na5, fa5, ha5, h⟩ := h
    obtain ⟨ba5, h⟩ := h
    obtain ⟨k6, ek6, h⟩ := h
    obtain ⟨lk6, h⟩ := h
    by_cases c7 : u1 ≤ (fa5 k6)
    · rw [if_pos c7] at h
      obtain ⟨r9, M9, z9, d9, e9, h⟩ := h
      exact ⟨r9, M9, z9, d9, c_X10_insert_7_ft_at7 c1 ho2 f4 ha5 ba5 ek6 lk6 c7 e9, h⟩
    · rw [if_neg c7] at h
      obtain ⟨r9, M9, z9, d9, e9, h⟩ := h
      exact ⟨r9, M9, z9, d9, c_X10_insert_7_ff_at7 c1 ho2 f4 ha5 ba5 ek6 lk6 c7 e9, h⟩
theorem TX10_collect_0 {N0 : Nat} {K : Nat → Nat} {d : Nat} {q : Nat} {p0 : Nat} {p1 : Int32} {M : gm_H} {sz sl : Nat} {Q : Int32 → gm_H → Nat → Nat → Prop} (h : ∃ fso1 : List Value, (M q = some (.inr (9, fso1))) ∧ ((N0 ≤ q) ∧ ((1 < fso1.length) ∧ (∃ fso5 : List Value, ((gm_set M q (.inr (9, (fso1.set 1 (.int (0 : Int32)))))) p0 = some (.inr (1, fso5))) ∧ (∃ r6 : Nat, (fso5[5]? = some (.ref r6)) ∧ (∃ na8 : Nat, ∃ fa8 : Nat → Int32, ((gm_set M q (.inr (9, (fso1.set 1 (.int (0 : Int32)))))) r6 = some (.inl (.int, na8, .inl fa8))) ∧ ((na8 < 2 ^ 31) ∧ (∃ k9 : Nat, (p1 = nI k9) ∧ ((k9 < na8) ∧ (hX10_collect_12 N0 K d q p0 (fa8 k9) (gm_set M q (.inr (9, (fso1.set 1 (.int (0 : Int32)))))) sz sl Q)))))))))) : hX10_collect_0 N0 K d q p0 p1 M sz sl Q := by
  obtain ⟨fso1, ho1, h⟩ := h
  obtain ⟨hNq, h⟩ := h
  obtain ⟨l2, h⟩ := h
  obtain ⟨fso5, ho5, h⟩ := h
  obtain ⟨r6, f7, h⟩ := h
  obtain ⟨na8, fa8, ha8, h⟩ := h
  obtain ⟨ba8, h⟩ := h
  obtain ⟨k9, ek9, h⟩ := h
  obtain ⟨lk9, h⟩ := h
  obtain ⟨r9, M9, z9, d9, e9, h⟩ := h
  exact ⟨r9, M9, z9, d9, c_X10_collect_0__at12 ho1 hNq l2 ho5 f7 ha8 ba8 ek9 lk9 e9, h⟩
theorem gX10_collect.of {N0 : Nat} {K : Nat → Nat} {d : Nat} {q : Nat} {p0 : Nat} {p1 : Int32} {M : gm_H} {sz : Nat} {Q : Int32 → gm_H → Nat → Nat → Prop} (h : hX10_collect_0 N0 K d q p0 p1 M sz 0 Q) : gX10_collect N0 K (d + 1) q p0 p1 M sz Q := gC.of rfl (by decide) (Nat.le_of_ble_eq_true rfl) rfl h
theorem TX10_collect_12 {N0 : Nat} {K : Nat → Nat} {d : Nat} {q : Nat} {p0 : Nat} {u3 : Int32} {M : gm_H} {sz sl : Nat} {Q : Int32 → gm_H → Nat → Nat → Prop} (h : if u3 ≤ 0 then (Q (1 : Int32) M sz sl) else (∃ fso2 : List Value, (M p0 = some (.inr (1, fso2))) ∧ (∃ r3 : Nat, (fso2[1]? = some (.ref r3)) ∧ (∃ na5 : Nat, ∃ fa5 : Nat → Int32, (M r3 = some (.inl (.int, na5, .inl fa5))) ∧ ((na5 < 2 ^ 31) ∧ (∃ k6 : Nat, (u3 = nI k6) ∧ ((k6 < na5) ∧ (∃ fso7 : List Value, (M q = some (.inr (9, fso7))) ∧ (gX10_insert N0 K d q (fa5 k6) M sz (fun r9 M9 z9 d9 => if r9 = 0 then (Q (0 : Int32) M9 z9 (sl + d9)) else (∃ fso14 : List Value, (M9 p0 = some (.inr (1, fso14))) ∧ (∃ r15 : Nat, (fso14[4]? = some (.ref r15)) ∧ (∃ na17 : Nat, ∃ fa17 : Nat → Int32, (M9 r15 = some (.inl (.int, na17, .inl fa17))) ∧ ((na17 < 2 ^ 31) ∧ ((k6 < na17) ∧ (hX10_collect_12 N0 K d q p0 (fa17 k6) M9 z9 (sl + d9) Q)))))))))))))))) : hX10_collect_12 N0 K d q p0 u3 M sz sl Q := by
  by_cases c1 : u3 ≤ 0
  · rw [if_pos c1] at h
    exact ⟨_, _, _, _, c_X10_collect_12_t c1, h⟩
  · rw [if_neg c1] at h
    obtain ⟨fso2, ho2, h⟩ := h
    obtain ⟨r3, f4, h⟩ := h
    obtain ⟨na5, fa5, ha5, h⟩ := h
    obtain ⟨ba5, h⟩ := h
    obtain ⟨k6, ek6, h⟩ := h
    obtain ⟨lk6, h⟩ := h
    obtain ⟨fso7, ho7, h⟩ := h
    obtain ⟨r9, M9, z9, d9, t9, h⟩ := h
    by_cases c13 : r9 = 0
    · rw [if_pos c13] at h
      exact ⟨_, _, _, _, c_X10_collect_12_ff c1 ho2 f4 ha5 ba5 ek6 lk6 ho7 t9 c13, h⟩
    · rw [if_neg c13] at h
      obtain ⟨fso14, ho14, h⟩ := h
      obtain ⟨r15, f16, h⟩ := h
      obtain ⟨na17, fa17, ha17, h⟩ := h
      obtain ⟨ba17, h⟩ := h
      obtain ⟨lk18, h⟩ := h
      obtain ⟨r9, M9, z9, d9, e9, h⟩ := h
      exact ⟨r9, M9, z9, d9, c_X10_collect_12_ft_at12 c1 ho2 f4 ha5 ba5 ek6 lk6 ho7 t9 c13 ho14 f16 ha17 ba17 ek6 lk18 e9, h⟩
theorem TX10_collectMoves_0 {N0 : Nat} {K : Nat → Nat} {d : Nat} {q : Nat} {p0 : Nat} {p1 : Int32} {M : gm_H} {sz sl : Nat} {Q : Unit → gm_H → Nat → Nat → Prop} (h : ∃ fso1 : List Value, (M q = some (.inr (9, fso1))) ∧ ((N0 ≤ q) ∧ ((1 < fso1.length) ∧ (∃ fso5 : List Value, ((gm_set M q (.inr (9, (fso1.set 1 (.int (0 : Int32)))))) p0 = some (.inr (1, fso5))) ∧ (∃ r6 : Nat, (fso5[5]? = some (.ref r6)) ∧ (∃ na8 : Nat, ∃ fa8 : Nat → Int32, ((gm_set M q (.inr (9, (fso1.set 1 (.int (0 : Int32)))))) r6 = some (.inl (.int, na8, .inl fa8))) ∧ ((na8 < 2 ^ 31) ∧ ((5 < na8) ∧ (hX10_collectMoves_12 N0 K d q p0 p1 (fa8 5) (gm_set M q (.inr (9, (fso1.set 1 (.int (0 : Int32)))))) sz sl Q))))))))) : hX10_collectMoves_0 N0 K d q p0 p1 M sz sl Q := by
  obtain ⟨fso1, ho1, h⟩ := h
  obtain ⟨hNq, h⟩ := h
  obtain ⟨l2, h⟩ := h
  obtain ⟨fso5, ho5, h⟩ := h
  obtain ⟨r6, f7, h⟩ := h
  obtain ⟨na8, fa8, ha8, h⟩ := h
  obtain ⟨ba8, h⟩ := h
  obtain ⟨lk9, h⟩ := h
  obtain ⟨r9, M9, z9, d9, e9, h⟩ := h
  exact ⟨r9, M9, z9, d9, c_X10_collectMoves_0__at12 ho1 hNq l2 ho5 f7 ha8 ba8 rfl lk9 e9, h⟩
theorem gX10_collectMoves.of {N0 : Nat} {K : Nat → Nat} {d : Nat} {q : Nat} {p0 : Nat} {p1 : Int32} {M : gm_H} {sz : Nat} {Q : Unit → gm_H → Nat → Nat → Prop} (h : hX10_collectMoves_0 N0 K d q p0 p1 M sz 0 Q) : gX10_collectMoves N0 K (d + 1) q p0 p1 M sz Q := gC.of rfl (by decide) (Nat.le_of_ble_eq_true rfl) rfl h
theorem TX10_collectMoves_12 {N0 : Nat} {K : Nat → Nat} {d : Nat} {q : Nat} {p0 : Nat} {u2 : Int32} {u3 : Int32} {M : gm_H} {sz sl : Nat} {Q : Unit → gm_H → Nat → Nat → Prop} (h : if u3 ≤ 0 then (Q () M sz sl) else (∃ fso2 : List Value, (M p0 = some (.inr (1, fso2))) ∧ (∃ r3 : Nat, (fso2[1]? = some (.ref r3)) ∧ (∃ na5 : Nat, ∃ fa5 : Nat → Int32, (M r3 = some (.inl (.int, na5, .inl fa5))) ∧ ((na5 < 2 ^ 31) ∧ (∃ k6 : Nat, (u3 = nI k6) ∧ ((k6 < na5) ∧ (if (fa5 k6) = u2 then (∃ r8 : Nat, (fso2[2]? = some (.ref r8)) ∧ (∃ na10 : Nat, ∃ fa10 : Nat → Int32, (M r8 = some (.inl (.int, na10, .inl fa10))) ∧ ((na10 < 2 ^ 31) ∧ ((k6 < na10) ∧ (∃ fso12 : List Value, (M q = some (.inr (9, fso12))) ∧ (gX10_insert N0 K d q (fa10 k6) M sz (fun r14 M14 z14 d14 => ∃ fso18 : List Value, (M14 p0 = some (.inr (1, fso18))) ∧ (∃ r19 : Nat, (fso18[4]? = some (.ref r19)) ∧ (∃ na21 : Nat, ∃ fa21 : Nat → Int32, (M14 r19 = some (.inl (.int, na21, .inl fa21))) ∧ ((na21 < 2 ^ 31) ∧ ((k6 < na21) ∧ (hX10_collectMoves_12 N0 K d q p0 u2 (fa21 k6) M14 z14 (sl + d14) Q)))))))))))) else (∃ r8 : Nat, (fso2[4]? = some (.ref r8)) ∧ (∃ na10 : Nat, ∃ fa10 : Nat → Int32, (M r8 = some (.inl (.int, na10, .inl fa10))) ∧ ((na10 < 2 ^ 31) ∧ ((k6 < na10) ∧ (hX10_collectMoves_12 N0 K d q p0 u2 (fa10 k6) M sz sl Q))))))))))))) : hX10_collectMoves_12 N0 K d q p0 u2 u3 M sz sl Q := by
  by_cases c1 : u3 ≤ 0
  · rw [if_pos c1] at h
    exact ⟨_, _, _, _, c_X10_collectMoves_12_t c1, h⟩
  · rw [if_neg c1] at h
    obtain ⟨fso2, ho2, h⟩ := h
    obtain ⟨r3, f4, h⟩ := h
    obtain ⟨na5, fa5, ha5, h⟩ := h
    obtain ⟨ba5, h⟩ := h
    obtain ⟨k6, ek6, h⟩ := h
    obtain ⟨lk6, h⟩ := h
    by_cases c7 : (fa5 k6) = u2
    · rw [if_pos c7] at h
      obtain ⟨r8, f9, h⟩ := h
      obtain ⟨na10, fa10, ha10, h⟩ := h
      obtain ⟨ba10, h⟩ := h
      obtain ⟨lk11, h⟩ := h
      obtain ⟨fso12, ho12, h⟩ := h
      obtain ⟨r14, M14, z14, d14, t14, h⟩ := h
      obtain ⟨fso18, ho18, h⟩ := h
      obtain ⟨r19, f20, h⟩ := h
      obtain ⟨na21, fa21, ha21, h⟩ := h
      obtain ⟨ba21, h⟩ := h
      obtain ⟨lk22, h⟩ := h
      obtain ⟨r9, M9, z9, d9, e9, h⟩ := h
      exact ⟨r9, M9, z9, d9, c_X10_collectMoves_12_ff_at12 c1 ho2 f4 ha5 ba5 ek6 lk6 c7 f9 ha10 ba10 ek6 lk11 ho12 t14 ho18 f20 ha21 ba21 ek6 lk22 e9, h⟩
    · rw [if_neg c7] at h
      obtain ⟨r8, f9, h⟩ := h
      obtain ⟨na10, fa10, ha10, h⟩ := h
      obtain ⟨ba10, h⟩ := h
      obtain ⟨lk11, h⟩ := h
      obtain ⟨r9, M9, z9, d9, e9, h⟩ := h
      exact ⟨r9, M9, z9, d9, c_X10_collectMoves_12_ft_at12 c1 ho2 f4 ha5 ba5 ek6 lk6 c7 f9 ha10 ba10 ek6 lk11 e9, h⟩
theorem TJ6_bitCount_0f7a4_0 {N0 : Nat} {K : Nat → Nat} {d : Nat} {p0 : Int32} {M : gm_H} {sz sl : Nat} {Q : Int32 → Prop} (h : Q ((((((((p0 - ((((p0).toUInt32 >>> (((1 : Int32)).toUInt32 &&& Int32.toUInt32 31)).toInt32) &&& (1431655765 : Int32))) &&& (858993459 : Int32)) + (((((p0 - ((((p0).toUInt32 >>> (((1 : Int32)).toUInt32 &&& Int32.toUInt32 31)).toInt32) &&& (1431655765 : Int32)))).toUInt32 >>> (((2 : Int32)).toUInt32 &&& Int32.toUInt32 31)).toInt32) &&& (858993459 : Int32))) + ((((((p0 - ((((p0).toUInt32 >>> (((1 : Int32)).toUInt32 &&& Int32.toUInt32 31)).toInt32) &&& (1431655765 : Int32))) &&& (858993459 : Int32)) + (((((p0 - ((((p0).toUInt32 >>> (((1 : Int32)).toUInt32 &&& Int32.toUInt32 31)).toInt32) &&& (1431655765 : Int32)))).toUInt32 >>> (((2 : Int32)).toUInt32 &&& Int32.toUInt32 31)).toInt32) &&& (858993459 : Int32)))).toUInt32 >>> (((4 : Int32)).toUInt32 &&& Int32.toUInt32 31)).toInt32)) &&& (252645135 : Int32)) + ((((((((p0 - ((((p0).toUInt32 >>> (((1 : Int32)).toUInt32 &&& Int32.toUInt32 31)).toInt32) &&& (1431655765 : Int32))) &&& (858993459 : Int32)) + (((((p0 - ((((p0).toUInt32 >>> (((1 : Int32)).toUInt32 &&& Int32.toUInt32 31)).toInt32) &&& (1431655765 : Int32)))).toUInt32 >>> (((2 : Int32)).toUInt32 &&& Int32.toUInt32 31)).toInt32) &&& (858993459 : Int32))) + ((((((p0 - ((((p0).toUInt32 >>> (((1 : Int32)).toUInt32 &&& Int32.toUInt32 31)).toInt32) &&& (1431655765 : Int32))) &&& (858993459 : Int32)) + (((((p0 - ((((p0).toUInt32 >>> (((1 : Int32)).toUInt32 &&& Int32.toUInt32 31)).toInt32) &&& (1431655765 : Int32)))).toUInt32 >>> (((2 : Int32)).toUInt32 &&& Int32.toUInt32 31)).toInt32) &&& (858993459 : Int32)))).toUInt32 >>> (((4 : Int32)).toUInt32 &&& Int32.toUInt32 31)).toInt32)) &&& (252645135 : Int32))).toUInt32 >>> (((8 : Int32)).toUInt32 &&& Int32.toUInt32 31)).toInt32)) + (((((((((p0 - ((((p0).toUInt32 >>> (((1 : Int32)).toUInt32 &&& Int32.toUInt32 31)).toInt32) &&& (1431655765 : Int32))) &&& (858993459 : Int32)) + (((((p0 - ((((p0).toUInt32 >>> (((1 : Int32)).toUInt32 &&& Int32.toUInt32 31)).toInt32) &&& (1431655765 : Int32)))).toUInt32 >>> (((2 : Int32)).toUInt32 &&& Int32.toUInt32 31)).toInt32) &&& (858993459 : Int32))) + ((((((p0 - ((((p0).toUInt32 >>> (((1 : Int32)).toUInt32 &&& Int32.toUInt32 31)).toInt32) &&& (1431655765 : Int32))) &&& (858993459 : Int32)) + (((((p0 - ((((p0).toUInt32 >>> (((1 : Int32)).toUInt32 &&& Int32.toUInt32 31)).toInt32) &&& (1431655765 : Int32)))).toUInt32 >>> (((2 : Int32)).toUInt32 &&& Int32.toUInt32 31)).toInt32) &&& (858993459 : Int32)))).toUInt32 >>> (((4 : Int32)).toUInt32 &&& Int32.toUInt32 31)).toInt32)) &&& (252645135 : Int32)) + ((((((((p0 - ((((p0).toUInt32 >>> (((1 : Int32)).toUInt32 &&& Int32.toUInt32 31)).toInt32) &&& (1431655765 : Int32))) &&& (858993459 : Int32)) + (((((p0 - ((((p0).toUInt32 >>> (((1 : Int32)).toUInt32 &&& Int32.toUInt32 31)).toInt32) &&& (1431655765 : Int32)))).toUInt32 >>> (((2 : Int32)).toUInt32 &&& Int32.toUInt32 31)).toInt32) &&& (858993459 : Int32))) + ((((((p0 - ((((p0).toUInt32 >>> (((1 : Int32)).toUInt32 &&& Int32.toUInt32 31)).toInt32) &&& (1431655765 : Int32))) &&& (858993459 : Int32)) + (((((p0 - ((((p0).toUInt32 >>> (((1 : Int32)).toUInt32 &&& Int32.toUInt32 31)).toInt32) &&& (1431655765 : Int32)))).toUInt32 >>> (((2 : Int32)).toUInt32 &&& Int32.toUInt32 31)).toInt32) &&& (858993459 : Int32)))).toUInt32 >>> (((4 : Int32)).toUInt32 &&& Int32.toUInt32 31)).toInt32)) &&& (252645135 : Int32))).toUInt32 >>> (((8 : Int32)).toUInt32 &&& Int32.toUInt32 31)).toInt32))).toUInt32 >>> (((16 : Int32)).toUInt32 &&& Int32.toUInt32 31)).toInt32)) &&& (63 : Int32))) : hJ6_bitCount_0f7a4_0 N0 K d p0 M sz sl Q := by
  exact ⟨_, _, _, _, c_J6_bitCount_0f7a4_0_ , rfl, rfl, rfl, h⟩
theorem gJ6_bitCount_0f7a4.of {N0 : Nat} {K : Nat → Nat} {d : Nat} {p0 : Int32} {M : gm_H} {sz : Nat} {Q : Int32 → Prop} (h : hJ6_bitCount_0f7a4_0 N0 K d p0 M sz 0 Q) : gJ6_bitCount_0f7a4 N0 K (d + 1) p0 M sz (fun r M' sz' dd => M' = M ∧ sz' = sz ∧ dd = 0 ∧ Q r) := gC.of rfl (by decide) (Nat.le_of_ble_eq_true rfl) rfl h
theorem TJ7_fill_53178_0 {N0 : Nat} {K : Nat → Nat} {d : Nat} {p0 : Nat} {p1 : Int32} {M : gm_H} {sz sl : Nat} {Q : Unit → gm_H → Nat → Nat → Prop} (h : ∃ na1 : Nat, ∃ fa1 : Nat → Int32, (M p0 = some (.inl (.int, na1, .inl fa1))) ∧ ((na1 < 2 ^ 31) ∧ (hJ7_fill_53178_5 N0 K d p0 p1 (0 : Int32) (nI na1) M sz sl Q))) : hJ7_fill_53178_0 N0 K d p0 p1 M sz sl Q := by
  obtain ⟨na1, fa1, ha1, h⟩ := h
  obtain ⟨ba1, h⟩ := h
  obtain ⟨r9, M9, z9, d9, e9, h⟩ := h
  exact ⟨r9, M9, z9, d9, c_J7_fill_53178_0__at5 ha1 ba1 e9, h⟩
theorem gJ7_fill_53178.of {N0 : Nat} {K : Nat → Nat} {d : Nat} {p0 : Nat} {p1 : Int32} {M : gm_H} {sz : Nat} {Q : Unit → gm_H → Nat → Nat → Prop} (h : hJ7_fill_53178_0 N0 K d p0 p1 M sz 0 Q) : gJ7_fill_53178 N0 K (d + 1) p0 p1 M sz Q := gC.of rfl (by decide) (Nat.le_of_ble_eq_true rfl) rfl h
theorem TJ7_fill_53178_5 {N0 : Nat} {K : Nat → Nat} {d : Nat} {p0 : Nat} {u1 : Int32} {u2 : Int32} {u3 : Int32} {M : gm_H} {sz sl : Nat} {Q : Unit → gm_H → Nat → Nat → Prop} (h : if u3 ≤ u2 then (Q () M sz sl) else (∃ na2 : Nat, ∃ fa2 : Nat → Int32, (M p0 = some (.inl (.int, na2, .inl fa2))) ∧ ((na2 < 2 ^ 31) ∧ ((N0 ≤ p0) ∧ (∃ k3 : Nat, (u2 = nI k3) ∧ ((k3 < na2) ∧ (hJ7_fill_53178_5 N0 K d p0 u1 (u2 + (1 : Int32)) u3 (gm_set M p0 (.inl (.int, na2, .inl (upd fa2 k3 u1)))) sz sl Q))))))) : hJ7_fill_53178_5 N0 K d p0 u1 u2 u3 M sz sl Q := by
  by_cases c1 : u3 ≤ u2
  · rw [if_pos c1] at h
    exact ⟨_, _, _, _, c_J7_fill_53178_5_t c1, h⟩
  · rw [if_neg c1] at h
    obtain ⟨na2, fa2, ha2, h⟩ := h
    obtain ⟨ba2, h⟩ := h
    obtain ⟨hNp0, h⟩ := h
    obtain ⟨k3, ek3, h⟩ := h
    obtain ⟨lk3, h⟩ := h
    obtain ⟨r9, M9, z9, d9, e9, h⟩ := h
    exact ⟨r9, M9, z9, d9, c_J7_fill_53178_5_f_at5 c1 ha2 ba2 hNp0 ek3 lk3 e9, h⟩
theorem TX0_forget_0 {N0 : Nat} {K : Nat → Nat} {d C : Nat} {s : cS} {G : gm_H} {sz sl : Nat} {Q : Unit → cS → Prop} (hN : N0 ≤ C) (h : Q () (cI (cI s 585 (0 : Int32)) 584 (0 : Int32))) : hX0_forget_0 N0 K d C s G sz sl Q := by
  exact ⟨_, _, _, _, t_X0_forget_0_ hN, _, _, rfl, rfl, rfl, rfl, h⟩
theorem kX0_forget.of {N0 : Nat} {K : Nat → Nat} {d C : Nat} {s : cS} {G : gm_H} {sz : Nat} {Q : Unit → cS → Prop} (h : hX0_forget_0 N0 K d C s G sz 0 Q) : kX0_forget N0 K (d + 1) C s G sz Q := gC.of rfl (by decide) (Nat.le_of_ble_eq_true rfl) rfl h
theorem TX0_run_0 {N0 : Nat} {K : Nat → Nat} {d C : Nat} {s : cS} {G : gm_H} {sz sl : Nat} {Q : Int32 → cS → gm_H → Prop} (hN : N0 ≤ C) (h : if (s.1 585) = 0 then (∃ fso3 : List Value, (G (C + 34 + 2 * 0) = some (.inr (9, fso3))) ∧ (kX10_copy_g N0 K d C (C + 34 + 2 * 0) (C + 19) (cI (cI s 585 (1 : Int32)) 584 (1 : Int32)) G sz (fun _ G4 => kJ7_fill_53178_s N0 K d C (C + 31) (-1 : Int32) (cI (cI s 585 (1 : Int32)) 584 (1 : Int32)) G4 sz (fun _ s6 => if (s6.1 341) = (2 : Int32) then (hX0_run_65 N0 K d C (0 : Int32) (cI s6 586 (0 : Int32)) G4 sz sl Q) else (hX0_run_65 N0 K d C (0 : Int32) (cI s6 586 (1 : Int32)) G4 sz sl Q))))) else (Q (s.1 586) s G)) : hX0_run_0 N0 K d C s G sz sl Q := by
  by_cases c1 : (s.1 585) = 0
  · rw [if_pos c1] at h
    obtain ⟨fso3, ho3, h⟩ := h
    obtain ⟨_, _, z_, d_, t4, s_, G4, rfl, e1_, e3_, e4_, h⟩ := h
    rw [e1_, e3_, e4_] at t4
    obtain ⟨_, _, z_, d_, t6, s6, G_, rfl, e2_, e3_, e4_, h⟩ := h
    rw [e2_, e3_, e4_] at t6
    by_cases c8 : (s6.1 341) = (2 : Int32)
    · rw [if_pos c8] at h
      obtain ⟨r9, M9, z9, d9, e9, h⟩ := h
      exact ⟨r9, M9, z9, d9, t_X0_run_0_tf_at65 hN c1 rfl (by decide) ho3 t4 t6 c8 e9, h⟩
    · rw [if_neg c8] at h
      obtain ⟨r9, M9, z9, d9, e9, h⟩ := h
      exact ⟨r9, M9, z9, d9, t_X0_run_0_tt_at65 hN c1 rfl (by decide) ho3 t4 t6 c8 e9, h⟩
  · rw [if_neg c1] at h
    exact ⟨_, _, _, _, t_X0_run_0_f hN c1, _, _, rfl, rfl, rfl, h⟩
theorem kX0_run.of {N0 : Nat} {K : Nat → Nat} {d C : Nat} {s : cS} {G : gm_H} {sz : Nat} {Q : Int32 → cS → gm_H → Prop} (h : hX0_run_0 N0 K d C s G sz 0 Q) : kX0_run N0 K (d + 1) C s G sz Q := gC.of rfl (by decide) (Nat.le_of_ble_eq_true rfl) rfl h
theorem TX0_run_65 {N0 : Nat} {K : Nat → Nat} {d C : Nat} {u2 : Int32} {s : cS} {G : gm_H} {sz sl : Nat} {Q : Int32 → cS → gm_H → Prop} (hN : N0 ≤ C) (h : if (s.1 584) ≤ u2 then (if (s.1 586) = 0 then (kX0_weigh N0 K d C s G sz (fun r4 s4 => if r4 = 0 then (kX3_look N0 K d C (C + 21) (cI s4 586 (6 : Int32)) G sz (fun r8 s8 => Q (s8.1 586) s8 G)) else (kX3_look N0 K d C (C + 21) s4 G sz (fun r8 s8 => Q (s8.1 586) s8 G)))) else (kX3_look N0 K d C (C + 21) s G sz (fun r4 s4 => Q (s4.1 586) s4 G))) else (if (s.1 586) = 0 then (∃ k3 : Nat, (u2 = nI k3) ∧ ((k3 < 60) ∧ (kX3_look N0 K d C (C + 34 + 2 * k3) s G sz (fun r5 s5 => if r5 = 0 then (if (s5.1 88) = 0 then (hX0_run_130 N0 K d C u2 (s5.1 501) (0 : Int32) (cI s5 586 (7 : Int32)) G sz sl Q) else (hX0_run_130 N0 K d C u2 (0 : Int32) (0 : Int32) (cI s5 586 (7 : Int32)) G sz sl Q)) else (kX0_judge N0 K d C u2 s5 G sz (fun r9 s9 => if (s9.1 88) = 0 then (hX0_run_130 N0 K d C u2 (s9.1 501) (0 : Int32) (cI s9 586 r9) G sz sl Q) else (hX0_run_130 N0 K d C u2 (0 : Int32) (0 : Int32) (cI s9 586 r9) G sz sl Q))))))) else (kX3_look N0 K d C (C + 21) s G sz (fun r5 s5 => Q (s5.1 586) s5 G)))) : hX0_run_65 N0 K d C u2 s G sz sl Q := by
  by_cases c1 : (s.1 584) ≤ u2
  · rw [if_pos c1] at h
    by_cases c2 : (s.1 586) = 0
    · rw [if_pos c2] at h
      obtain ⟨r4, _, z_, d_, t4, s4, G_, rfl, e2_, e3_, e4_, h⟩ := h
      rw [e2_, e3_, e4_] at t4
      by_cases c6 : r4 = 0
      · rw [if_pos c6] at h
        obtain ⟨r8, _, z_, d_, t8, s8, G_, rfl, e2_, e3_, e4_, h⟩ := h
        rw [e2_, e3_, e4_] at t8
        exact ⟨_, _, _, _, t_X0_run_65_tff hN c1 c2 t4 c6 t8, _, _, rfl, rfl, rfl, h⟩
      · rw [if_neg c6] at h
        obtain ⟨r8, _, z_, d_, t8, s8, G_, rfl, e2_, e3_, e4_, h⟩ := h
        rw [e2_, e3_, e4_] at t8
        exact ⟨_, _, _, _, t_X0_run_65_tft hN c1 c2 t4 c6 t8, _, _, rfl, rfl, rfl, h⟩
    · rw [if_neg c2] at h
      obtain ⟨r4, _, z_, d_, t4, s4, G_, rfl, e2_, e3_, e4_, h⟩ := h
      rw [e2_, e3_, e4_] at t4
      exact ⟨_, _, _, _, t_X0_run_65_tt hN c1 c2 t4, _, _, rfl, rfl, rfl, h⟩
  · rw [if_neg c1] at h
    by_cases c2 : (s.1 586) = 0
    · rw [if_pos c2] at h
      obtain ⟨k3, ek3, h⟩ := h
      obtain ⟨lk3, h⟩ := h
      obtain ⟨r5, _, z_, d_, t5, s5, G_, rfl, e2_, e3_, e4_, h⟩ := h
      rw [e2_, e3_, e4_] at t5
      by_cases c7 : r5 = 0
      · rw [if_pos c7] at h
        by_cases c8 : (s5.1 88) = 0
        · rw [if_pos c8] at h
          obtain ⟨r9, M9, z9, d9, e9, h⟩ := h
          exact ⟨r9, M9, z9, d9, t_X0_run_65_fftt_at130 hN c1 c2 ek3 lk3 t5 c7 c8 e9, h⟩
        · rw [if_neg c8] at h
          obtain ⟨r9, M9, z9, d9, e9, h⟩ := h
          exact ⟨r9, M9, z9, d9, t_X0_run_65_fftf_at130 hN c1 c2 ek3 lk3 t5 c7 c8 e9, h⟩
      · rw [if_neg c7] at h
        obtain ⟨r9, _, z_, d_, t9, s9, G_, rfl, e2_, e3_, e4_, h⟩ := h
        rw [e2_, e3_, e4_] at t9
        by_cases c11 : (s9.1 88) = 0
        · rw [if_pos c11] at h
          obtain ⟨r9, M9, z9, d9, e9, h⟩ := h
          exact ⟨r9, M9, z9, d9, t_X0_run_65_ffft_at130 hN c1 c2 ek3 lk3 t5 c7 t9 c11 e9, h⟩
        · rw [if_neg c11] at h
          obtain ⟨r9, M9, z9, d9, e9, h⟩ := h
          exact ⟨r9, M9, z9, d9, t_X0_run_65_ffff_at130 hN c1 c2 ek3 lk3 t5 c7 t9 c11 e9, h⟩
    · rw [if_neg c2] at h
      obtain ⟨r5, _, z_, d_, t5, s5, G_, rfl, e2_, e3_, e4_, h⟩ := h
      rw [e2_, e3_, e4_] at t5
      exact ⟨_, _, _, _, t_X0_run_65_ftt hN c1 c2 c2 t5, _, _, rfl, rfl, rfl, h⟩
theorem TX0_run_130 {N0 : Nat} {K : Nat → Nat} {d C : Nat} {u2 : Int32} {u3 : Int32} {u4 : Int32} {s : cS} {G : gm_H} {sz sl : Nat} {Q : Int32 → cS → gm_H → Prop} (hN : N0 ≤ C) (h : if u3 ≤ u4 then (hX0_run_65 N0 K d C (u2 + (1 : Int32)) s G sz sl Q) else (if (s.1 586) = 0 then (hX0_run_146 N0 K d C u2 u3 u4 (0 : Int32) s G sz sl Q) else (hX0_run_65 N0 K d C (u2 + (1 : Int32)) s G sz sl Q))) : hX0_run_130 N0 K d C u2 u3 u4 s G sz sl Q := by
  by_cases c1 : u3 ≤ u4
  · rw [if_pos c1] at h
    obtain ⟨r9, M9, z9, d9, e9, h⟩ := h
    exact ⟨r9, M9, z9, d9, t_X0_run_130_t_at65 hN c1 e9, h⟩
  · rw [if_neg c1] at h
    by_cases c2 : (s.1 586) = 0
    · rw [if_pos c2] at h
      obtain ⟨r9, M9, z9, d9, e9, h⟩ := h
      exact ⟨r9, M9, z9, d9, t_X0_run_130_ff_at146 hN c1 c2 e9, h⟩
    · rw [if_neg c2] at h
      obtain ⟨r9, M9, z9, d9, e9, h⟩ := h
      exact ⟨r9, M9, z9, d9, t_X0_run_130_ft_at65 hN c1 c2 e9, h⟩
theorem TX0_run_146 {N0 : Nat} {K : Nat → Nat} {d C : Nat} {u2 : Int32} {u3 : Int32} {u4 : Int32} {u5 : Int32} {s : cS} {G : gm_H} {sz sl : Nat} {Q : Int32 → cS → gm_H → Prop} (hN : N0 ≤ C) (h : if (s.1 541) ≤ u5 then (hX0_run_130 N0 K d C u2 u3 (u4 + (1 : Int32)) s G sz sl Q) else (if (s.1 586) = 0 then (kX3_lead N0 K d C u4 u5 s G sz (fun r4 s4 => if r4 = 0 then (hX0_run_146 N0 K d C u2 u3 u4 (u5 + (1 : Int32)) (cI s4 586 (7 : Int32)) G sz sl Q) else (kX0_note N0 K d C u2 ((u4 <<< ((8 : Int32) &&& 31)) ||| u5) (C + 23) s4 G sz (fun r8 s8 G8 => if r8 = 0 then (hX0_run_146 N0 K d C u2 u3 u4 (u5 + (1 : Int32)) (cI s8 586 (7 : Int32)) G8 sz sl Q) else (hX0_run_146 N0 K d C u2 u3 u4 (u5 + (1 : Int32)) (cI s8 586 (0 : Int32)) G8 sz sl Q))))) else (hX0_run_130 N0 K d C u2 u3 (u4 + (1 : Int32)) s G sz sl Q))) : hX0_run_146 N0 K d C u2 u3 u4 u5 s G sz sl Q := by
  by_cases c1 : (s.1 541) ≤ u5
  · rw [if_pos c1] at h
    obtain ⟨r9, M9, z9, d9, e9, h⟩ := h
    exact ⟨r9, M9, z9, d9, t_X0_run_146_t_at130 hN c1 e9, h⟩
  · rw [if_neg c1] at h
    by_cases c2 : (s.1 586) = 0
    · rw [if_pos c2] at h
      obtain ⟨r4, _, z_, d_, t4, s4, G_, rfl, e2_, e3_, e4_, h⟩ := h
      rw [e2_, e3_, e4_] at t4
      by_cases c6 : r4 = 0
      · rw [if_pos c6] at h
        obtain ⟨r9, M9, z9, d9, e9, h⟩ := h
        exact ⟨r9, M9, z9, d9, t_X0_run_146_fft_at146 hN c1 c2 t4 c6 e9, h⟩
      · rw [if_neg c6] at h
        obtain ⟨r8, _, z_, d_, t8, s8, G8, rfl, e3_, e4_, h⟩ := h
        rw [e3_, e4_] at t8
        by_cases c11 : r8 = 0
        · rw [if_pos c11] at h
          obtain ⟨r9, M9, z9, d9, e9, h⟩ := h
          exact ⟨r9, M9, z9, d9, t_X0_run_146_ffft_at146 hN c1 c2 t4 c6 t8 c11 e9, h⟩
        · rw [if_neg c11] at h
          obtain ⟨r9, M9, z9, d9, e9, h⟩ := h
          exact ⟨r9, M9, z9, d9, t_X0_run_146_ffff_at146 hN c1 c2 t4 c6 t8 c11 e9, h⟩
    · rw [if_neg c2] at h
      obtain ⟨r9, M9, z9, d9, e9, h⟩ := h
      exact ⟨r9, M9, z9, d9, t_X0_run_146_ft_at130 hN c1 c2 e9, h⟩
theorem TX0_judge_0 {N0 : Nat} {K : Nat → Nat} {d C : Nat} {p1 : Int32} {s : cS} {G : gm_H} {sz sl : Nat} {Q : Int32 → cS → Prop} (hN : N0 ≤ C) (h : ∃ k1 : Nat, (p1 = nI k1) ∧ ((k1 < 60) ∧ (if (s.1 541) ≤ (1 : Int32) then (if (s.1 88) = 0 then (if (s.1 501) = 0 then (Q (2 : Int32) (cA (cA s 32 (upd (s.2.1 32) k1 (-1 : Int32))) 33 (upd (s.2.1 33) k1 (vp_nar .boolean (0 : Int32))))) else (if (s.1 541) = 0 then (Q (2 : Int32) (cA (cA s 32 (upd (s.2.1 32) k1 (-1 : Int32))) 33 (upd (s.2.1 33) k1 (vp_nar .boolean (0 : Int32))))) else (if (s.1 501) ≤ (1 : Int32) then (Q (0 : Int32) (cA (cA s 32 (upd (s.2.1 32) k1 (-1 : Int32))) 33 (upd (s.2.1 33) k1 (vp_nar .boolean (0 : Int32))))) else (Q (0 : Int32) (cA (cA s 32 (upd (s.2.1 32) k1 (-1 : Int32))) 33 (upd (s.2.1 33) k1 (vp_nar .boolean (0 : Int32)))))))) else (kX3_goalOf N0 K d C (0 : Int32) (cA (cA s 32 (upd (s.2.1 32) k1 (-1 : Int32))) 33 (upd (s.2.1 33) k1 (vp_nar .boolean (0 : Int32)))) G sz (fun r6 => kX3_goalOf N0 K d C (1 : Int32) (cA (cA s 32 (upd (s.2.1 32) k1 (-1 : Int32))) 33 (upd (s.2.1 33) k1 (vp_nar .boolean (0 : Int32)))) G sz (fun r8 => if r6 = (-1 : Int32) then (Q (4 : Int32) (cA (cA s 32 (upd (s.2.1 32) k1 (-1 : Int32))) 33 (upd (s.2.1 33) k1 (vp_nar .boolean (0 : Int32))))) else (if r8 = (-1 : Int32) then (Q (4 : Int32) (cA (cA s 32 (upd (s.2.1 32) k1 (-1 : Int32))) 33 (upd (s.2.1 33) k1 (vp_nar .boolean (0 : Int32))))) else (if (r6 + r8) = (8 : Int32) then (Q (0 : Int32) (cA (cA (cA s 32 (upd (s.2.1 32) k1 (-1 : Int32))) 33 (upd (s.2.1 33) k1 (vp_nar .boolean (0 : Int32)))) 32 (upd (upd (s.2.1 32) k1 (-1 : Int32)) k1 r6))) else (Q (5 : Int32) (cA (cA (cA s 32 (upd (s.2.1 32) k1 (-1 : Int32))) 33 (upd (s.2.1 33) k1 (vp_nar .boolean (0 : Int32)))) 32 (upd (upd (s.2.1 32) k1 (-1 : Int32)) k1 r6))))))))) else (if (s.1 88) = 0 then (if (s.1 501) = 0 then (Q (2 : Int32) (cA (cA s 32 (upd (s.2.1 32) k1 (-1 : Int32))) 33 (upd (s.2.1 33) k1 (vp_nar .boolean (1 : Int32))))) else (if (s.1 541) = 0 then (Q (2 : Int32) (cA (cA s 32 (upd (s.2.1 32) k1 (-1 : Int32))) 33 (upd (s.2.1 33) k1 (vp_nar .boolean (1 : Int32))))) else (if (s.1 501) ≤ (1 : Int32) then (Q (0 : Int32) (cA (cA s 32 (upd (s.2.1 32) k1 (-1 : Int32))) 33 (upd (s.2.1 33) k1 (vp_nar .boolean (1 : Int32))))) else (Q (3 : Int32) (cA (cA s 32 (upd (s.2.1 32) k1 (-1 : Int32))) 33 (upd (s.2.1 33) k1 (vp_nar .boolean (1 : Int32)))))))) else (kX3_goalOf N0 K d C (0 : Int32) (cA (cA s 32 (upd (s.2.1 32) k1 (-1 : Int32))) 33 (upd (s.2.1 33) k1 (vp_nar .boolean (1 : Int32)))) G sz (fun r6 => kX3_goalOf N0 K d C (1 : Int32) (cA (cA s 32 (upd (s.2.1 32) k1 (-1 : Int32))) 33 (upd (s.2.1 33) k1 (vp_nar .boolean (1 : Int32)))) G sz (fun r8 => if r6 = (-1 : Int32) then (Q (4 : Int32) (cA (cA s 32 (upd (s.2.1 32) k1 (-1 : Int32))) 33 (upd (s.2.1 33) k1 (vp_nar .boolean (1 : Int32))))) else (if r8 = (-1 : Int32) then (Q (4 : Int32) (cA (cA s 32 (upd (s.2.1 32) k1 (-1 : Int32))) 33 (upd (s.2.1 33) k1 (vp_nar .boolean (1 : Int32))))) else (if (r6 + r8) = (8 : Int32) then (Q (0 : Int32) (cA (cA (cA s 32 (upd (s.2.1 32) k1 (-1 : Int32))) 33 (upd (s.2.1 33) k1 (vp_nar .boolean (1 : Int32)))) 32 (upd (upd (s.2.1 32) k1 (-1 : Int32)) k1 r6))) else (Q (5 : Int32) (cA (cA (cA s 32 (upd (s.2.1 32) k1 (-1 : Int32))) 33 (upd (s.2.1 33) k1 (vp_nar .boolean (1 : Int32)))) 32 (upd (upd (s.2.1 32) k1 (-1 : Int32)) k1 r6)))))))))))) : hX0_judge_0 N0 K d C p1 s G sz sl Q := by
  obtain ⟨k1, ek1, h⟩ := h
  obtain ⟨lk1, h⟩ := h
  by_cases c2 : (s.1 541) ≤ (1 : Int32)
  · rw [if_pos c2] at h
    by_cases c4 : (s.1 88) = 0
    · rw [if_pos c4] at h
      by_cases c5 : (s.1 501) = 0
      · rw [if_pos c5] at h
        exact ⟨_, _, _, _, t_X0_judge_0_ttt hN ek1 lk1 c2 ek1 lk1 c4 c5, _, _, rfl, rfl, rfl, rfl, h⟩
      · rw [if_neg c5] at h
        by_cases c6 : (s.1 541) = 0
        · rw [if_pos c6] at h
          exact ⟨_, _, _, _, t_X0_judge_0_ttff hN ek1 lk1 c2 ek1 lk1 c4 c5 c6, _, _, rfl, rfl, rfl, rfl, h⟩
        · rw [if_neg c6] at h
          by_cases c7 : (s.1 501) ≤ (1 : Int32)
          · rw [if_pos c7] at h
            exact ⟨_, _, _, _, t_X0_judge_0_ttftt hN ek1 lk1 c2 ek1 lk1 c4 c5 c6 c7, _, _, rfl, rfl, rfl, rfl, h⟩
          · rw [if_neg c7] at h
            exact ⟨_, _, _, _, t_X0_judge_0_ttftft hN ek1 lk1 c2 ek1 lk1 c4 c5 c6 c7 c2, _, _, rfl, rfl, rfl, rfl, h⟩
    · rw [if_neg c4] at h
      obtain ⟨r6, _, z_, d_, t6, s_, G_, rfl, e1_, e2_, e3_, e4_, h⟩ := h
      rw [e1_, e2_, e3_, e4_] at t6
      obtain ⟨r8, _, z_, d_, t8, s_, G_, rfl, e1_, e2_, e3_, e4_, h⟩ := h
      rw [e1_, e2_, e3_, e4_] at t8
      by_cases c9 : r6 = (-1 : Int32)
      · rw [if_pos c9] at h
        exact ⟨_, _, _, _, t_X0_judge_0_tft hN ek1 lk1 c2 ek1 lk1 c4 t6 t8 c9, _, _, rfl, rfl, rfl, rfl, h⟩
      · rw [if_neg c9] at h
        by_cases c10 : r8 = (-1 : Int32)
        · rw [if_pos c10] at h
          exact ⟨_, _, _, _, t_X0_judge_0_tfff hN ek1 lk1 c2 ek1 lk1 c4 t6 t8 c9 c10, _, _, rfl, rfl, rfl, rfl, h⟩
        · rw [if_neg c10] at h
          by_cases c12 : (r6 + r8) = (8 : Int32)
          · rw [if_pos c12] at h
            exact ⟨_, _, _, _, t_X0_judge_0_tfftf hN ek1 lk1 c2 ek1 lk1 c4 t6 t8 c9 c10 ek1 lk1 c12, _, _, rfl, rfl, rfl, rfl, h⟩
          · rw [if_neg c12] at h
            exact ⟨_, _, _, _, t_X0_judge_0_tfftt hN ek1 lk1 c2 ek1 lk1 c4 t6 t8 c9 c10 ek1 lk1 c12, _, _, rfl, rfl, rfl, rfl, h⟩
  · rw [if_neg c2] at h
    by_cases c4 : (s.1 88) = 0
    · rw [if_pos c4] at h
      by_cases c5 : (s.1 501) = 0
      · rw [if_pos c5] at h
        exact ⟨_, _, _, _, t_X0_judge_0_ftt hN ek1 lk1 c2 ek1 lk1 c4 c5, _, _, rfl, rfl, rfl, rfl, h⟩
      · rw [if_neg c5] at h
        by_cases c6 : (s.1 541) = 0
        · rw [if_pos c6] at h
          exact ⟨_, _, _, _, t_X0_judge_0_ftff hN ek1 lk1 c2 ek1 lk1 c4 c5 c6, _, _, rfl, rfl, rfl, rfl, h⟩
        · rw [if_neg c6] at h
          by_cases c7 : (s.1 501) ≤ (1 : Int32)
          · rw [if_pos c7] at h
            exact ⟨_, _, _, _, t_X0_judge_0_ftftt hN ek1 lk1 c2 ek1 lk1 c4 c5 c6 c7, _, _, rfl, rfl, rfl, rfl, h⟩
          · rw [if_neg c7] at h
            exact ⟨_, _, _, _, t_X0_judge_0_ftftff hN ek1 lk1 c2 ek1 lk1 c4 c5 c6 c7 c2, _, _, rfl, rfl, rfl, rfl, h⟩
    · rw [if_neg c4] at h
      obtain ⟨r6, _, z_, d_, t6, s_, G_, rfl, e1_, e2_, e3_, e4_, h⟩ := h
      rw [e1_, e2_, e3_, e4_] at t6
      obtain ⟨r8, _, z_, d_, t8, s_, G_, rfl, e1_, e2_, e3_, e4_, h⟩ := h
      rw [e1_, e2_, e3_, e4_] at t8
      by_cases c9 : r6 = (-1 : Int32)
      · rw [if_pos c9] at h
        exact ⟨_, _, _, _, t_X0_judge_0_fft hN ek1 lk1 c2 ek1 lk1 c4 t6 t8 c9, _, _, rfl, rfl, rfl, rfl, h⟩
      · rw [if_neg c9] at h
        by_cases c10 : r8 = (-1 : Int32)
        · rw [if_pos c10] at h
          exact ⟨_, _, _, _, t_X0_judge_0_ffff hN ek1 lk1 c2 ek1 lk1 c4 t6 t8 c9 c10, _, _, rfl, rfl, rfl, rfl, h⟩
        · rw [if_neg c10] at h
          by_cases c12 : (r6 + r8) = (8 : Int32)
          · rw [if_pos c12] at h
            exact ⟨_, _, _, _, t_X0_judge_0_ffftf hN ek1 lk1 c2 ek1 lk1 c4 t6 t8 c9 c10 ek1 lk1 c12, _, _, rfl, rfl, rfl, rfl, h⟩
          · rw [if_neg c12] at h
            exact ⟨_, _, _, _, t_X0_judge_0_ffftt hN ek1 lk1 c2 ek1 lk1 c4 t6 t8 c9 c10 ek1 lk1 c12, _, _, rfl, rfl, rfl, rfl, h⟩
theorem kX0_judge.of {N0 : Nat} {K : Nat → Nat} {d C : Nat} {p1 : Int32} {s : cS} {G : gm_H} {sz : Nat} {Q : Int32 → cS → Prop} (h : hX0_judge_0 N0 K d C p1 s G sz 0 Q) : kX0_judge N0 K (d + 1) C p1 s G sz Q := gC.of rfl (by decide) (Nat.le_of_ble_eq_true rfl) rfl h
theorem TX0_note_0 {N0 : Nat} {K : Nat → Nat} {d C : Nat} {p0 : Int32} {p1 : Int32} {p2 : Nat} {s : cS} {G : gm_H} {sz sl : Nat} {Q : Int32 → cS → gm_H → Prop} (hN : N0 ≤ C) (h : kX0_placeOf N0 K d C p2 s G sz (fun r2 => if r2 = (-1 : Int32) then (if (s.1 584) = (60 : Int32) then (Q (0 : Int32) s G) else (∃ k5 : Nat, ((s.1 584) = nI k5) ∧ ((k5 < 60) ∧ (∃ fso6 : List Value, (G (C + 34 + 2 * k5) = some (.inr (9, fso6))) ∧ (kX10_copy_g N0 K d C (C + 34 + 2 * k5) p2 s G sz (fun _ G7 => ∃ k9 : Nat, (((p0 * (60 : Int32)) + (s.1 584)) = nI k9) ∧ ((k9 < 3600) ∧ (if (s.2.1 31 k9) = (-1 : Int32) then (Q (1 : Int32) (cA (cI s 584 ((s.1 584) + (1 : Int32))) 31 (upd (s.2.1 31) k9 p1)) G7) else (Q (1 : Int32) (cI s 584 ((s.1 584) + (1 : Int32))) G7))))))))) else (∃ k4 : Nat, (((p0 * (60 : Int32)) + r2) = nI k4) ∧ ((k4 < 3600) ∧ (if (s.2.1 31 k4) = (-1 : Int32) then (Q (1 : Int32) (cA s 31 (upd (s.2.1 31) k4 p1)) G) else (Q (1 : Int32) s G)))))) : hX0_note_0 N0 K d C p0 p1 p2 s G sz sl Q := by
  obtain ⟨r2, _, z_, d_, t2, s_, G_, rfl, e1_, e2_, e3_, e4_, h⟩ := h
  rw [e1_, e2_, e3_, e4_] at t2
  by_cases c3 : r2 = (-1 : Int32)
  · rw [if_pos c3] at h
    by_cases c4 : (s.1 584) = (60 : Int32)
    · rw [if_pos c4] at h
      exact ⟨_, _, _, _, t_X0_note_0_ff hN t2 c3 c4, _, _, rfl, rfl, rfl, h⟩
    · rw [if_neg c4] at h
      obtain ⟨k5, ek5, h⟩ := h
      obtain ⟨lk5, h⟩ := h
      obtain ⟨fso6, ho6, h⟩ := h
      obtain ⟨_, _, z_, d_, t7, s_, G7, rfl, e1_, e3_, e4_, h⟩ := h
      rw [e1_, e3_, e4_] at t7
      obtain ⟨k9, ek9, h⟩ := h
      obtain ⟨lk9, h⟩ := h
      by_cases c10 : (s.2.1 31 k9) = (-1 : Int32)
      · rw [if_pos c10] at h
        exact ⟨_, _, _, _, t_X0_note_0_ftf hN t2 c3 c4 ek5 lk5 ho6 t7 ek9 lk9 c10 ek9 lk9, _, _, rfl, rfl, rfl, h⟩
      · rw [if_neg c10] at h
        exact ⟨_, _, _, _, t_X0_note_0_ftt hN t2 c3 c4 ek5 lk5 ho6 t7 ek9 lk9 c10, _, _, rfl, rfl, rfl, h⟩
  · rw [if_neg c3] at h
    obtain ⟨k4, ek4, h⟩ := h
    obtain ⟨lk4, h⟩ := h
    by_cases c5 : (s.2.1 31 k4) = (-1 : Int32)
    · rw [if_pos c5] at h
      exact ⟨_, _, _, _, t_X0_note_0_tf hN t2 c3 ek4 lk4 c5 ek4 lk4, _, _, rfl, rfl, rfl, h⟩
    · rw [if_neg c5] at h
      exact ⟨_, _, _, _, t_X0_note_0_tt hN t2 c3 ek4 lk4 c5, _, _, rfl, rfl, rfl, h⟩
theorem kX0_note.of {N0 : Nat} {K : Nat → Nat} {d C : Nat} {p0 : Int32} {p1 : Int32} {p2 : Nat} {s : cS} {G : gm_H} {sz : Nat} {Q : Int32 → cS → gm_H → Prop} (h : hX0_note_0 N0 K d C p0 p1 p2 s G sz 0 Q) : kX0_note N0 K (d + 1) C p0 p1 p2 s G sz Q := gC.of rfl (by decide) (Nat.le_of_ble_eq_true rfl) rfl h
theorem TX0_placeOf_0 {N0 : Nat} {K : Nat → Nat} {d C : Nat} {p0 : Nat} {s : cS} {G : gm_H} {sz sl : Nat} {Q : Int32 → Prop} (hN : N0 ≤ C) (h : hX0_placeOf_2 N0 K d C p0 (0 : Int32) s G sz sl Q) : hX0_placeOf_0 N0 K d C p0 s G sz sl Q := by
  obtain ⟨r9, M9, z9, d9, e9, h⟩ := h
  exact ⟨r9, M9, z9, d9, t_X0_placeOf_0__at2 hN e9, h⟩
theorem kX0_placeOf.of {N0 : Nat} {K : Nat → Nat} {d C : Nat} {p0 : Nat} {s : cS} {G : gm_H} {sz : Nat} {Q : Int32 → Prop} (h : hX0_placeOf_0 N0 K d C p0 s G sz 0 Q) : kX0_placeOf N0 K (d + 1) C p0 s G sz Q := gC.of rfl (by decide) (Nat.le_of_ble_eq_true rfl) rfl h
theorem TX0_placeOf_2 {N0 : Nat} {K : Nat → Nat} {d C : Nat} {p0 : Nat} {u2 : Int32} {s : cS} {G : gm_H} {sz sl : Nat} {Q : Int32 → Prop} (hN : N0 ≤ C) (h : if (s.1 584) ≤ u2 then (Q (-1 : Int32)) else (∃ k2 : Nat, (u2 = nI k2) ∧ ((k2 < 60) ∧ (∃ fso3 : List Value, (G (C + 34 + 2 * k2) = some (.inr (9, fso3))) ∧ (kX10_isSame N0 K d C (C + 34 + 2 * k2) p0 s G sz (fun r5 => if r5 = 0 then (hX0_placeOf_2 N0 K d C p0 (u2 + (1 : Int32)) s G sz sl Q) else (Q u2))))))) : hX0_placeOf_2 N0 K d C p0 u2 s G sz sl Q := by
  by_cases c1 : (s.1 584) ≤ u2
  · rw [if_pos c1] at h
    exact ⟨_, _, _, _, t_X0_placeOf_2_t hN c1, _, _, rfl, rfl, rfl, rfl, rfl, h⟩
  · rw [if_neg c1] at h
    obtain ⟨k2, ek2, h⟩ := h
    obtain ⟨lk2, h⟩ := h
    obtain ⟨fso3, ho3, h⟩ := h
    obtain ⟨r5, _, z_, d_, t5, s_, G_, rfl, e1_, e2_, e3_, e4_, h⟩ := h
    rw [e1_, e2_, e3_, e4_] at t5
    by_cases c6 : r5 = 0
    · rw [if_pos c6] at h
      obtain ⟨r9, M9, z9, d9, e9, h⟩ := h
      exact ⟨r9, M9, z9, d9, t_X0_placeOf_2_ft_at2 hN c1 ek2 lk2 ho3 t5 c6 e9, h⟩
    · rw [if_neg c6] at h
      exact ⟨_, _, _, _, t_X0_placeOf_2_ff hN c1 ek2 lk2 ho3 t5 c6, _, _, rfl, rfl, rfl, rfl, rfl, h⟩
theorem TX0_weigh_0 {N0 : Nat} {K : Nat → Nat} {d C : Nat} {s : cS} {G : gm_H} {sz sl : Nat} {Q : Int32 → cS → Prop} (hN : N0 ≤ C) (h : hX0_weigh_7 N0 K d C (s.1 584) (0 : Int32) s G sz sl Q) : hX0_weigh_0 N0 K d C s G sz sl Q := by
  obtain ⟨r9, M9, z9, d9, e9, h⟩ := h
  exact ⟨r9, M9, z9, d9, t_X0_weigh_0__at7 hN e9, h⟩
theorem kX0_weigh.of {N0 : Nat} {K : Nat → Nat} {d C : Nat} {s : cS} {G : gm_H} {sz : Nat} {Q : Int32 → cS → Prop} (h : hX0_weigh_0 N0 K d C s G sz 0 Q) : kX0_weigh N0 K (d + 1) C s G sz Q := gC.of rfl (by decide) (Nat.le_of_ble_eq_true rfl) rfl h
theorem TX0_weigh_7 {N0 : Nat} {K : Nat → Nat} {d C : Nat} {u1 : Int32} {u2 : Int32} {s : cS} {G : gm_H} {sz sl : Nat} {Q : Int32 → cS → Prop} (hN : N0 ≤ C) (h : if (s.1 584) ≤ u2 then (if u1 = 0 then (Q (1 : Int32) s) else (Q (0 : Int32) s)) else (if u1 ≤ 0 then (if u1 = 0 then (Q (1 : Int32) s) else (Q (0 : Int32) s)) else (hX0_weigh_28 N0 K d C (0 : Int32) u2 ((s.1 584) - (1 : Int32)) s G sz sl Q))) : hX0_weigh_7 N0 K d C u1 u2 s G sz sl Q := by
  by_cases c1 : (s.1 584) ≤ u2
  · rw [if_pos c1] at h
    by_cases c2 : u1 = 0
    · rw [if_pos c2] at h
      exact ⟨_, _, _, _, t_X0_weigh_7_tf hN c1 c2, _, _, rfl, rfl, rfl, rfl, h⟩
    · rw [if_neg c2] at h
      exact ⟨_, _, _, _, t_X0_weigh_7_tt hN c1 c2, _, _, rfl, rfl, rfl, rfl, h⟩
  · rw [if_neg c1] at h
    by_cases c2 : u1 ≤ 0
    · rw [if_pos c2] at h
      by_cases c3 : u1 = 0
      · rw [if_pos c3] at h
        exact ⟨_, _, _, _, t_X0_weigh_7_ftf hN c1 c2 c3, _, _, rfl, rfl, rfl, rfl, h⟩
      · rw [if_neg c3] at h
        exact ⟨_, _, _, _, t_X0_weigh_7_ftt hN c1 c2 c3, _, _, rfl, rfl, rfl, rfl, h⟩
    · rw [if_neg c2] at h
      obtain ⟨r9, M9, z9, d9, e9, h⟩ := h
      exact ⟨r9, M9, z9, d9, t_X0_weigh_7_ff_at28 hN c1 c2 e9, h⟩
theorem TX0_weigh_28 {N0 : Nat} {K : Nat → Nat} {d C : Nat} {u1 : Int32} {u2 : Int32} {u3 : Int32} {s : cS} {G : gm_H} {sz sl : Nat} {Q : Int32 → cS → Prop} (hN : N0 ≤ C) (h : if u3 < 0 then (hX0_weigh_7 N0 K d C u1 (u2 + (1 : Int32)) s G sz sl Q) else (∃ k2 : Nat, (u3 = nI k2) ∧ ((k2 < 60) ∧ (if (s.2.1 32 k2) = (-1 : Int32) then (kX0_valueBehind N0 K d C u3 s G sz (fun r5 => if ((upd (s.2.1 32) k2 r5) k2) = (-1 : Int32) then (hX0_weigh_28 N0 K d C (u1 + (1 : Int32)) u2 (u3 + (-1 : Int32)) (cA s 32 (upd (s.2.1 32) k2 r5)) G sz sl Q) else (hX0_weigh_28 N0 K d C (u1 + (0 : Int32)) u2 (u3 + (-1 : Int32)) (cA s 32 (upd (s.2.1 32) k2 r5)) G sz sl Q))) else (hX0_weigh_28 N0 K d C u1 u2 (u3 + (-1 : Int32)) s G sz sl Q))))) : hX0_weigh_28 N0 K d C u1 u2 u3 s G sz sl Q := by
  by_cases c1 : u3 < 0
  · rw [if_pos c1] at h
    obtain ⟨r9, M9, z9, d9, e9, h⟩ := h
    exact ⟨r9, M9, z9, d9, t_X0_weigh_28_t_at7 hN c1 e9, h⟩
  · rw [if_neg c1] at h
    obtain ⟨k2, ek2, h⟩ := h
    obtain ⟨lk2, h⟩ := h
    by_cases c3 : (s.2.1 32 k2) = (-1 : Int32)
    · rw [if_pos c3] at h
      obtain ⟨r5, _, z_, d_, t5, s_, G_, rfl, e1_, e2_, e3_, e4_, h⟩ := h
      rw [e1_, e2_, e3_, e4_] at t5
      by_cases c8 : ((upd (s.2.1 32) k2 r5) k2) = (-1 : Int32)
      · rw [if_pos c8] at h
        obtain ⟨r9, M9, z9, d9, e9, h⟩ := h
        exact ⟨r9, M9, z9, d9, t_X0_weigh_28_fff_at28 hN c1 ek2 lk2 c3 t5 ek2 lk2 ek2 lk2 c8 e9, h⟩
      · rw [if_neg c8] at h
        obtain ⟨r9, M9, z9, d9, e9, h⟩ := h
        exact ⟨r9, M9, z9, d9, t_X0_weigh_28_fft_at28 hN c1 ek2 lk2 c3 t5 ek2 lk2 ek2 lk2 c8 e9, h⟩
    · rw [if_neg c3] at h
      obtain ⟨r9, M9, z9, d9, e9, h⟩ := h
      exact ⟨r9, M9, z9, d9, t_X0_weigh_28_ft_at28 hN c1 ek2 lk2 c3 e9, h⟩
theorem TX0_valueBehind_0 {N0 : Nat} {K : Nat → Nat} {d C : Nat} {p0 : Int32} {s : cS} {G : gm_H} {sz sl : Nat} {Q : Int32 → Prop} (hN : N0 ≤ C) (h : hX0_valueBehind_4 N0 K d C p0 (-1 : Int32) (0 : Int32) s G sz sl Q) : hX0_valueBehind_0 N0 K d C p0 s G sz sl Q := by
  obtain ⟨r9, M9, z9, d9, e9, h⟩ := h
  exact ⟨r9, M9, z9, d9, t_X0_valueBehind_0__at4 hN e9, h⟩
theorem kX0_valueBehind.of {N0 : Nat} {K : Nat → Nat} {d C : Nat} {p0 : Int32} {s : cS} {G : gm_H} {sz : Nat} {Q : Int32 → Prop} (h : hX0_valueBehind_0 N0 K d C p0 s G sz 0 Q) : kX0_valueBehind N0 K (d + 1) C p0 s G sz Q := gC.of rfl (by decide) (Nat.le_of_ble_eq_true rfl) rfl h
theorem TX0_valueBehind_4 {N0 : Nat} {K : Nat → Nat} {d C : Nat} {u1 : Int32} {u2 : Int32} {u3 : Int32} {s : cS} {G : gm_H} {sz sl : Nat} {Q : Int32 → Prop} (hN : N0 ≤ C) (h : if (s.1 584) ≤ u3 then (Q u2) else (∃ k2 : Nat, (((u1 * (60 : Int32)) + u3) = nI k2) ∧ ((k2 < 3600) ∧ (if (s.2.1 31 k2) = (-1 : Int32) then (hX0_valueBehind_4 N0 K d C u1 u2 (u3 + (1 : Int32)) s G sz sl Q) else (∃ k4 : Nat, (u3 = nI k4) ∧ ((k4 < 60) ∧ (if (s.2.1 32 k4) = (-1 : Int32) then (Q (-1 : Int32)) else (if u2 = (-1 : Int32) then (∃ k8 : Nat, (u1 = nI k8) ∧ ((k8 < 60) ∧ (if (s.2.1 33 k8) = 0 then ((0 < d) ∧ (hX0_valueBehind_4 N0 K d C u1 (if s.2.1 32 k4 < s.2.1 32 k4 then s.2.1 32 k4 else s.2.1 32 k4) (u3 + (1 : Int32)) s G sz sl Q)) else ((0 < d) ∧ (hX0_valueBehind_4 N0 K d C u1 (if s.2.1 32 k4 < s.2.1 32 k4 then s.2.1 32 k4 else s.2.1 32 k4) (u3 + (1 : Int32)) s G sz sl Q))))) else (∃ k7 : Nat, (u1 = nI k7) ∧ ((k7 < 60) ∧ (if (s.2.1 33 k7) = 0 then ((0 < d) ∧ (hX0_valueBehind_4 N0 K d C u1 (if u2 < s.2.1 32 k4 then s.2.1 32 k4 else u2) (u3 + (1 : Int32)) s G sz sl Q)) else ((0 < d) ∧ (hX0_valueBehind_4 N0 K d C u1 (if s.2.1 32 k4 < u2 then s.2.1 32 k4 else u2) (u3 + (1 : Int32)) s G sz sl Q))))))))))))) : hX0_valueBehind_4 N0 K d C u1 u2 u3 s G sz sl Q := by
  by_cases c1 : (s.1 584) ≤ u3
  · rw [if_pos c1] at h
    exact ⟨_, _, _, _, t_X0_valueBehind_4_t hN c1, _, _, rfl, rfl, rfl, rfl, rfl, h⟩
  · rw [if_neg c1] at h
    obtain ⟨k2, ek2, h⟩ := h
    obtain ⟨lk2, h⟩ := h
    by_cases c3 : (s.2.1 31 k2) = (-1 : Int32)
    · rw [if_pos c3] at h
      obtain ⟨r9, M9, z9, d9, e9, h⟩ := h
      exact ⟨r9, M9, z9, d9, t_X0_valueBehind_4_ft_at4 hN c1 ek2 lk2 c3 e9, h⟩
    · rw [if_neg c3] at h
      obtain ⟨k4, ek4, h⟩ := h
      obtain ⟨lk4, h⟩ := h
      by_cases c5 : (s.2.1 32 k4) = (-1 : Int32)
      · rw [if_pos c5] at h
        exact ⟨_, _, _, _, t_X0_valueBehind_4_fff hN c1 ek2 lk2 c3 ek4 lk4 c5, _, _, rfl, rfl, rfl, rfl, rfl, h⟩
      · rw [if_neg c5] at h
        by_cases c6 : u2 = (-1 : Int32)
        · rw [if_pos c6] at h
          obtain ⟨k8, ek8, h⟩ := h
          obtain ⟨lk8, h⟩ := h
          by_cases c9 : (s.2.1 33 k8) = 0
          · rw [if_pos c9] at h
            obtain ⟨hd, h⟩ := h
            obtain ⟨r9, M9, z9, d9, e9, h⟩ := h
            exact ⟨r9, M9, z9, d9, t_X0_valueBehind_4_fftft_at4 hN c1 ek2 lk2 c3 ek4 lk4 c5 c6 ek4 lk4 ek8 lk8 c9 ek4 lk4 hd e9, h⟩
          · rw [if_neg c9] at h
            obtain ⟨hd, h⟩ := h
            obtain ⟨r9, M9, z9, d9, e9, h⟩ := h
            exact ⟨r9, M9, z9, d9, t_X0_valueBehind_4_fftff_at4 hN c1 ek2 lk2 c3 ek4 lk4 c5 c6 ek4 lk4 ek8 lk8 c9 ek4 lk4 hd e9, h⟩
        · rw [if_neg c6] at h
          obtain ⟨k7, ek7, h⟩ := h
          obtain ⟨lk7, h⟩ := h
          by_cases c8 : (s.2.1 33 k7) = 0
          · rw [if_pos c8] at h
            obtain ⟨hd, h⟩ := h
            obtain ⟨r9, M9, z9, d9, e9, h⟩ := h
            exact ⟨r9, M9, z9, d9, t_X0_valueBehind_4_ffttt_at4 hN c1 ek2 lk2 c3 ek4 lk4 c5 c6 ek7 lk7 c8 ek4 lk4 hd e9, h⟩
          · rw [if_neg c8] at h
            obtain ⟨hd, h⟩ := h
            obtain ⟨r9, M9, z9, d9, e9, h⟩ := h
            exact ⟨r9, M9, z9, d9, t_X0_valueBehind_4_ffttf_at4 hN c1 ek2 lk2 c3 ek4 lk4 c5 c6 ek7 lk7 c8 ek4 lk4 hd e9, h⟩
theorem TX0_valueAt_0 {N0 : Nat} {K : Nat → Nat} {d C : Nat} {p0 : Nat} {s : cS} {G : gm_H} {sz sl : Nat} {Q : Int32 → Prop} (hN : N0 ≤ C) (h : kX0_placeOf N0 K d C p0 s G sz (fun r2 => if r2 = (-1 : Int32) then (Q (-1 : Int32)) else (∃ k4 : Nat, (r2 = nI k4) ∧ ((k4 < 60) ∧ (Q (s.2.1 32 k4)))))) : hX0_valueAt_0 N0 K d C p0 s G sz sl Q := by
  obtain ⟨r2, _, z_, d_, t2, s_, G_, rfl, e1_, e2_, e3_, e4_, h⟩ := h
  rw [e1_, e2_, e3_, e4_] at t2
  by_cases c3 : r2 = (-1 : Int32)
  · rw [if_pos c3] at h
    exact ⟨_, _, _, _, t_X0_valueAt_0_f hN t2 c3, _, _, rfl, rfl, rfl, rfl, rfl, h⟩
  · rw [if_neg c3] at h
    obtain ⟨k4, ek4, h⟩ := h
    obtain ⟨lk4, h⟩ := h
    exact ⟨_, _, _, _, t_X0_valueAt_0_t hN t2 c3 ek4 lk4, _, _, rfl, rfl, rfl, rfl, rfl, h⟩
theorem kX0_valueAt.of {N0 : Nat} {K : Nat → Nat} {d C : Nat} {p0 : Nat} {s : cS} {G : gm_H} {sz : Nat} {Q : Int32 → Prop} (h : hX0_valueAt_0 N0 K d C p0 s G sz 0 Q) : kX0_valueAt N0 K (d + 1) C p0 s G sz Q := gC.of rfl (by decide) (Nat.le_of_ble_eq_true rfl) rfl h
theorem TX0_choiceAt_0 {N0 : Nat} {K : Nat → Nat} {d C : Nat} {p0 : Nat} {s : cS} {G : gm_H} {sz sl : Nat} {Q : Int32 → Prop} (hN : N0 ≤ C) (h : kX0_placeOf N0 K d C p0 s G sz (fun r2 => hX0_choiceAt_11 N0 K d C r2 (-1 : Int32) (0 : Int32) s G sz sl Q)) : hX0_choiceAt_0 N0 K d C p0 s G sz sl Q := by
  obtain ⟨r2, _, z_, d_, t2, s_, G_, rfl, e1_, e2_, e3_, e4_, h⟩ := h
  rw [e1_, e2_, e3_, e4_] at t2
  obtain ⟨r9, M9, z9, d9, e9, h⟩ := h
  exact ⟨r9, M9, z9, d9, t_X0_choiceAt_0__at11 hN t2 e9, h⟩
theorem kX0_choiceAt.of {N0 : Nat} {K : Nat → Nat} {d C : Nat} {p0 : Nat} {s : cS} {G : gm_H} {sz : Nat} {Q : Int32 → Prop} (h : hX0_choiceAt_0 N0 K d C p0 s G sz 0 Q) : kX0_choiceAt N0 K (d + 1) C p0 s G sz Q := gC.of rfl (by decide) (Nat.le_of_ble_eq_true rfl) rfl h
theorem TX0_choiceAt_11 {N0 : Nat} {K : Nat → Nat} {d C : Nat} {u2 : Int32} {u3 : Int32} {u4 : Int32} {s : cS} {G : gm_H} {sz sl : Nat} {Q : Int32 → Prop} (hN : N0 ≤ C) (h : if (s.1 584) ≤ u4 then (Q u3) else (if u2 = (-1 : Int32) then (Q u3) else (∃ k3 : Nat, (((u2 * (60 : Int32)) + u4) = nI k3) ∧ ((k3 < 3600) ∧ (if (s.2.1 31 k3) = (-1 : Int32) then (hX0_choiceAt_11 N0 K d C u2 u3 (u4 + (1 : Int32)) s G sz sl Q) else (∃ k5 : Nat, (u4 = nI k5) ∧ ((k5 < 60) ∧ (∃ k6 : Nat, (u2 = nI k6) ∧ ((k6 < 60) ∧ (if (s.2.1 32 k5) = (s.2.1 32 k6) then (if u3 = (-1 : Int32) then (hX0_choiceAt_11 N0 K d C u2 (s.2.1 31 k3) (u4 + (1 : Int32)) s G sz sl Q) else (if u3 ≤ (s.2.1 31 k3) then (hX0_choiceAt_11 N0 K d C u2 u3 (u4 + (1 : Int32)) s G sz sl Q) else (hX0_choiceAt_11 N0 K d C u2 (s.2.1 31 k3) (u4 + (1 : Int32)) s G sz sl Q))) else (hX0_choiceAt_11 N0 K d C u2 u3 (u4 + (1 : Int32)) s G sz sl Q))))))))))) : hX0_choiceAt_11 N0 K d C u2 u3 u4 s G sz sl Q := by
  by_cases c1 : (s.1 584) ≤ u4
  · rw [if_pos c1] at h
    exact ⟨_, _, _, _, t_X0_choiceAt_11_t hN c1, _, _, rfl, rfl, rfl, rfl, rfl, h⟩
  · rw [if_neg c1] at h
    by_cases c2 : u2 = (-1 : Int32)
    · rw [if_pos c2] at h
      exact ⟨_, _, _, _, t_X0_choiceAt_11_ft hN c1 c2, _, _, rfl, rfl, rfl, rfl, rfl, h⟩
    · rw [if_neg c2] at h
      obtain ⟨k3, ek3, h⟩ := h
      obtain ⟨lk3, h⟩ := h
      by_cases c4 : (s.2.1 31 k3) = (-1 : Int32)
      · rw [if_pos c4] at h
        obtain ⟨r9, M9, z9, d9, e9, h⟩ := h
        exact ⟨r9, M9, z9, d9, t_X0_choiceAt_11_fft_at11 hN c1 c2 ek3 lk3 c4 e9, h⟩
      · rw [if_neg c4] at h
        obtain ⟨k5, ek5, h⟩ := h
        obtain ⟨lk5, h⟩ := h
        obtain ⟨k6, ek6, h⟩ := h
        obtain ⟨lk6, h⟩ := h
        by_cases c7 : (s.2.1 32 k5) = (s.2.1 32 k6)
        · rw [if_pos c7] at h
          by_cases c8 : u3 = (-1 : Int32)
          · rw [if_pos c8] at h
            obtain ⟨r9, M9, z9, d9, e9, h⟩ := h
            exact ⟨r9, M9, z9, d9, t_X0_choiceAt_11_fffft_at11 hN c1 c2 ek3 lk3 c4 ek5 lk5 ek6 lk6 c7 c8 e9, h⟩
          · rw [if_neg c8] at h
            by_cases c9 : u3 ≤ (s.2.1 31 k3)
            · rw [if_pos c9] at h
              obtain ⟨r9, M9, z9, d9, e9, h⟩ := h
              exact ⟨r9, M9, z9, d9, t_X0_choiceAt_11_ffffft_at11 hN c1 c2 ek3 lk3 c4 ek5 lk5 ek6 lk6 c7 c8 c9 e9, h⟩
            · rw [if_neg c9] at h
              obtain ⟨r9, M9, z9, d9, e9, h⟩ := h
              exact ⟨r9, M9, z9, d9, t_X0_choiceAt_11_ffffff_at11 hN c1 c2 ek3 lk3 c4 ek5 lk5 ek6 lk6 c7 c8 c9 e9, h⟩
        · rw [if_neg c7] at h
          obtain ⟨r9, M9, z9, d9, e9, h⟩ := h
          exact ⟨r9, M9, z9, d9, t_X0_choiceAt_11_ffft_at11 hN c1 c2 ek3 lk3 c4 ek5 lk5 ek6 lk6 c7 e9, h⟩
theorem TX1_find_0 {N0 : Nat} {K : Nat → Nat} {d C : Nat} {p0 : Int32} {p1 : Int32} {p2 : Int32} {p3 : Int32} {s : cS} {G : gm_H} {sz sl : Nat} {Q : Int32 → Prop} (hN : N0 ≤ C) (h : kX1_slotOf N0 K d C p0 p1 p2 p3 s G sz (fun r2 => kX1_search N0 K d C r2 p0 p1 p2 p3 s G sz (fun r4 => Q r4))) : hX1_find_0 N0 K d C p0 p1 p2 p3 s G sz sl Q := by
  obtain ⟨r2, _, z_, d_, t2, s_, G_, rfl, e1_, e2_, e3_, e4_, h⟩ := h
  rw [e1_, e2_, e3_, e4_] at t2
  obtain ⟨r4, _, z_, d_, t4, s_, G_, rfl, e1_, e2_, e3_, e4_, h⟩ := h
  rw [e1_, e2_, e3_, e4_] at t4
  exact ⟨_, _, _, _, t_X1_find_0_ hN t2 t4, _, _, rfl, rfl, rfl, rfl, rfl, h⟩
theorem kX1_find.of {N0 : Nat} {K : Nat → Nat} {d C : Nat} {p0 : Int32} {p1 : Int32} {p2 : Int32} {p3 : Int32} {s : cS} {G : gm_H} {sz : Nat} {Q : Int32 → Prop} (h : hX1_find_0 N0 K d C p0 p1 p2 p3 s G sz 0 Q) : kX1_find N0 K (d + 1) C p0 p1 p2 p3 s G sz Q := gC.of rfl (by decide) (Nat.le_of_ble_eq_true rfl) rfl h
theorem TX1_add_0 {N0 : Nat} {K : Nat → Nat} {d C : Nat} {p0 : Int32} {p1 : Int32} {p2 : Int32} {p3 : Int32} {s : cS} {G : gm_H} {sz sl : Nat} {Q : Unit → cS → Prop} (hN : N0 ≤ C) (h : kX1_slotOf N0 K d C p0 p1 p2 p3 s G sz (fun r2 => kX1_search N0 K d C r2 p0 p1 p2 p3 s G sz (fun r4 => if r4 = 0 then (if (s.1 129) = (200 : Int32) then (Q () (cI s 130 (1 : Int32))) else (∃ k7 : Nat, (((s.1 129) + (1 : Int32)) = nI k7) ∧ ((k7 < 201) ∧ (∃ k11 : Nat, (p0 = nI k11) ∧ ((k11 < 112) ∧ (∃ k16 : Nat, (r2 = nI k16) ∧ ((k16 < 256) ∧ (Q () (cA (cA (cA (cA (cA (cA (cA (cA (cA (cI s 129 ((s.1 129) + (1 : Int32))) 7 (upd (s.2.1 7) k7 p0)) 8 (upd (s.2.1 8) k7 p1)) 9 (upd (s.2.1 9) k7 p2)) 10 (upd (s.2.1 10) k7 p3)) 11 (upd (s.2.1 11) k7 (s.2.1 12 k11))) 12 (upd (s.2.1 12) k11 ((s.1 129) + (1 : Int32)))) 13 (upd (s.2.1 13) k11 ((s.2.1 13 k11) + (1 : Int32)))) 15 (upd (s.2.1 15) k7 (s.2.1 14 k16))) 14 (upd (s.2.1 14) k16 ((s.1 129) + (1 : Int32)))))))))))) else (Q () s)))) : hX1_add_0 N0 K d C p0 p1 p2 p3 s G sz sl Q := by
  obtain ⟨r2, _, z_, d_, t2, s_, G_, rfl, e1_, e2_, e3_, e4_, h⟩ := h
  rw [e1_, e2_, e3_, e4_] at t2
  obtain ⟨r4, _, z_, d_, t4, s_, G_, rfl, e1_, e2_, e3_, e4_, h⟩ := h
  rw [e1_, e2_, e3_, e4_] at t4
  by_cases c5 : r4 = 0
  · rw [if_pos c5] at h
    by_cases c6 : (s.1 129) = (200 : Int32)
    · rw [if_pos c6] at h
      exact ⟨_, _, _, _, t_X1_add_0_tf hN t2 t4 c5 c6, _, _, rfl, rfl, rfl, rfl, h⟩
    · rw [if_neg c6] at h
      obtain ⟨k7, ek7, h⟩ := h
      obtain ⟨lk7, h⟩ := h
      obtain ⟨k11, ek11, h⟩ := h
      obtain ⟨lk11, h⟩ := h
      obtain ⟨k16, ek16, h⟩ := h
      obtain ⟨lk16, h⟩ := h
      exact ⟨_, _, _, _, t_X1_add_0_tt hN t2 t4 c5 c6 ek7 lk7 ek7 lk7 ek7 lk7 ek7 lk7 ek11 lk11 ek7 lk7 ek11 lk11 ek11 lk11 ek11 lk11 ek16 lk16 ek7 lk7 ek16 lk16, _, _, rfl, rfl, rfl, rfl, h⟩
  · rw [if_neg c5] at h
    exact ⟨_, _, _, _, t_X1_add_0_f hN t2 t4 c5, _, _, rfl, rfl, rfl, rfl, h⟩
theorem kX1_add.of {N0 : Nat} {K : Nat → Nat} {d C : Nat} {p0 : Int32} {p1 : Int32} {p2 : Int32} {p3 : Int32} {s : cS} {G : gm_H} {sz : Nat} {Q : Unit → cS → Prop} (h : hX1_add_0 N0 K d C p0 p1 p2 p3 s G sz 0 Q) : kX1_add N0 K (d + 1) C p0 p1 p2 p3 s G sz Q := gC.of rfl (by decide) (Nat.le_of_ble_eq_true rfl) rfl h
theorem TX1_search_0 {N0 : Nat} {K : Nat → Nat} {d C : Nat} {p0 : Int32} {p1 : Int32} {p2 : Int32} {p3 : Int32} {p4 : Int32} {s : cS} {G : gm_H} {sz sl : Nat} {Q : Int32 → Prop} (hN : N0 ≤ C) (h : ∃ k1 : Nat, (p0 = nI k1) ∧ ((k1 < 256) ∧ (hX1_search_8 N0 K d C p1 p2 p3 p4 (s.2.1 14 k1) s G sz sl Q))) : hX1_search_0 N0 K d C p0 p1 p2 p3 p4 s G sz sl Q := by
  obtain ⟨k1, ek1, h⟩ := h
  obtain ⟨lk1, h⟩ := h
  obtain ⟨r9, M9, z9, d9, e9, h⟩ := h
  exact ⟨r9, M9, z9, d9, t_X1_search_0__at8 hN ek1 lk1 e9, h⟩
theorem kX1_search.of {N0 : Nat} {K : Nat → Nat} {d C : Nat} {p0 : Int32} {p1 : Int32} {p2 : Int32} {p3 : Int32} {p4 : Int32} {s : cS} {G : gm_H} {sz : Nat} {Q : Int32 → Prop} (h : hX1_search_0 N0 K d C p0 p1 p2 p3 p4 s G sz 0 Q) : kX1_search N0 K (d + 1) C p0 p1 p2 p3 p4 s G sz Q := gC.of rfl (by decide) (Nat.le_of_ble_eq_true rfl) rfl h
theorem TX1_search_8 {N0 : Nat} {K : Nat → Nat} {d C : Nat} {u2 : Int32} {u3 : Int32} {u4 : Int32} {u5 : Int32} {u6 : Int32} {s : cS} {G : gm_H} {sz sl : Nat} {Q : Int32 → Prop} (hN : N0 ≤ C) (h : if u6 ≤ 0 then (Q (0 : Int32)) else (∃ k2 : Nat, (u6 = nI k2) ∧ ((k2 < 201) ∧ (if (s.2.1 8 k2) = u3 then (if (s.2.1 9 k2) = u4 then (if (s.2.1 7 k2) = u2 then (if (s.2.1 10 k2) = u5 then (Q u6) else (hX1_search_8 N0 K d C u2 u3 u4 u5 (s.2.1 15 k2) s G sz sl Q)) else (hX1_search_8 N0 K d C u2 u3 u4 u5 (s.2.1 15 k2) s G sz sl Q)) else (hX1_search_8 N0 K d C u2 u3 u4 u5 (s.2.1 15 k2) s G sz sl Q)) else (hX1_search_8 N0 K d C u2 u3 u4 u5 (s.2.1 15 k2) s G sz sl Q))))) : hX1_search_8 N0 K d C u2 u3 u4 u5 u6 s G sz sl Q := by
  by_cases c1 : u6 ≤ 0
  · rw [if_pos c1] at h
    exact ⟨_, _, _, _, t_X1_search_8_t hN c1, _, _, rfl, rfl, rfl, rfl, rfl, h⟩
  · rw [if_neg c1] at h
    obtain ⟨k2, ek2, h⟩ := h
    obtain ⟨lk2, h⟩ := h
    by_cases c3 : (s.2.1 8 k2) = u3
    · rw [if_pos c3] at h
      by_cases c5 : (s.2.1 9 k2) = u4
      · rw [if_pos c5] at h
        by_cases c7 : (s.2.1 7 k2) = u2
        · rw [if_pos c7] at h
          by_cases c9 : (s.2.1 10 k2) = u5
          · rw [if_pos c9] at h
            exact ⟨_, _, _, _, t_X1_search_8_fffff hN c1 ek2 lk2 c3 ek2 lk2 c5 ek2 lk2 c7 ek2 lk2 c9, _, _, rfl, rfl, rfl, rfl, rfl, h⟩
          · rw [if_neg c9] at h
            obtain ⟨r9, M9, z9, d9, e9, h⟩ := h
            exact ⟨r9, M9, z9, d9, t_X1_search_8_fffft_at8 hN c1 ek2 lk2 c3 ek2 lk2 c5 ek2 lk2 c7 ek2 lk2 c9 ek2 lk2 e9, h⟩
        · rw [if_neg c7] at h
          obtain ⟨r9, M9, z9, d9, e9, h⟩ := h
          exact ⟨r9, M9, z9, d9, t_X1_search_8_ffft_at8 hN c1 ek2 lk2 c3 ek2 lk2 c5 ek2 lk2 c7 ek2 lk2 e9, h⟩
      · rw [if_neg c5] at h
        obtain ⟨r9, M9, z9, d9, e9, h⟩ := h
        exact ⟨r9, M9, z9, d9, t_X1_search_8_fft_at8 hN c1 ek2 lk2 c3 ek2 lk2 c5 ek2 lk2 e9, h⟩
    · rw [if_neg c3] at h
      obtain ⟨r9, M9, z9, d9, e9, h⟩ := h
      exact ⟨r9, M9, z9, d9, t_X1_search_8_ft_at8 hN c1 ek2 lk2 c3 ek2 lk2 e9, h⟩
theorem TX1_slotOf_0 {N0 : Nat} {K : Nat → Nat} {d C : Nat} {p0 : Int32} {p1 : Int32} {p2 : Int32} {p3 : Int32} {s : cS} {G : gm_H} {sz sl : Nat} {Q : Int32 → Prop} (hN : N0 ≤ C) (h : Q ((((((((((p0 * (31 : Int32)) + p1) * (31 : Int32)) + p2) * (31 : Int32)) + p3) * (-1640531535 : Int32))).toUInt32 >>> (((24 : Int32)).toUInt32 &&& Int32.toUInt32 31)).toInt32)) : hX1_slotOf_0 N0 K d C p0 p1 p2 p3 s G sz sl Q := by
  exact ⟨_, _, _, _, t_X1_slotOf_0_ hN, _, _, rfl, rfl, rfl, rfl, rfl, h⟩
theorem kX1_slotOf.of {N0 : Nat} {K : Nat → Nat} {d C : Nat} {p0 : Int32} {p1 : Int32} {p2 : Int32} {p3 : Int32} {s : cS} {G : gm_H} {sz : Nat} {Q : Int32 → Prop} (h : hX1_slotOf_0 N0 K d C p0 p1 p2 p3 s G sz 0 Q) : kX1_slotOf N0 K (d + 1) C p0 p1 p2 p3 s G sz Q := gC.of rfl (by decide) (Nat.le_of_ble_eq_true rfl) rfl h
theorem TX1_cut_0 {N0 : Nat} {K : Nat → Nat} {d C : Nat} {p0 : Int32} {s : cS} {G : gm_H} {sz sl : Nat} {Q : Unit → cS → Prop} (hN : N0 ≤ C) (h : hX1_cut_5 N0 K d C p0 (s.1 129) s G sz sl Q) : hX1_cut_0 N0 K d C p0 s G sz sl Q := by
  obtain ⟨r9, M9, z9, d9, e9, h⟩ := h
  exact ⟨r9, M9, z9, d9, t_X1_cut_0__at5 hN e9, h⟩
theorem kX1_cut.of {N0 : Nat} {K : Nat → Nat} {d C : Nat} {p0 : Int32} {s : cS} {G : gm_H} {sz : Nat} {Q : Unit → cS → Prop} (h : hX1_cut_0 N0 K d C p0 s G sz 0 Q) : kX1_cut N0 K (d + 1) C p0 s G sz Q := gC.of rfl (by decide) (Nat.le_of_ble_eq_true rfl) rfl h
theorem TX1_cut_5 {N0 : Nat} {K : Nat → Nat} {d C : Nat} {u1 : Int32} {u2 : Int32} {s : cS} {G : gm_H} {sz sl : Nat} {Q : Unit → cS → Prop} (hN : N0 ≤ C) (h : if u2 ≤ u1 then ((0 < d) ∧ (Q () (cI (cI s 129 (if u1 < s.1 129 then u1 else s.1 129)) 130 (0 : Int32)))) else (∃ k2 : Nat, (u2 = nI k2) ∧ ((k2 < 201) ∧ (∃ k4 : Nat, ((s.2.1 7 k2) = nI k4) ∧ ((k4 < 112) ∧ (kX1_slotOf N0 K d C (s.2.1 7 k2) (s.2.1 8 k2) (s.2.1 9 k2) (s.2.1 10 k2) (cA (cA s 12 (upd (s.2.1 12) k4 (s.2.1 11 k2))) 13 (upd (s.2.1 13) k4 ((s.2.1 13 k4) - (1 : Int32)))) G sz (fun r11 => ∃ k13 : Nat, (r11 = nI k13) ∧ ((k13 < 256) ∧ (hX1_cut_5 N0 K d C u1 (u2 + (-1 : Int32)) (cA (cA (cA s 12 (upd (s.2.1 12) k4 (s.2.1 11 k2))) 13 (upd (s.2.1 13) k4 ((s.2.1 13 k4) - (1 : Int32)))) 14 (upd (s.2.1 14) k13 (s.2.1 15 k2))) G sz sl Q))))))))) : hX1_cut_5 N0 K d C u1 u2 s G sz sl Q := by
  by_cases c1 : u2 ≤ u1
  · rw [if_pos c1] at h
    obtain ⟨hd, h⟩ := h
    exact ⟨_, _, _, _, t_X1_cut_5_t hN c1 hd, _, _, rfl, rfl, rfl, rfl, h⟩
  · rw [if_neg c1] at h
    obtain ⟨k2, ek2, h⟩ := h
    obtain ⟨lk2, h⟩ := h
    obtain ⟨k4, ek4, h⟩ := h
    obtain ⟨lk4, h⟩ := h
    obtain ⟨r11, _, z_, d_, t11, s_, G_, rfl, e1_, e2_, e3_, e4_, h⟩ := h
    rw [e1_, e2_, e3_, e4_] at t11
    obtain ⟨k13, ek13, h⟩ := h
    obtain ⟨lk13, h⟩ := h
    obtain ⟨r9, M9, z9, d9, e9, h⟩ := h
    exact ⟨r9, M9, z9, d9, t_X1_cut_5_f_at5 hN c1 ek2 lk2 ek2 lk2 ek4 lk4 ek4 lk4 ek4 lk4 ek2 lk2 ek2 lk2 ek2 lk2 t11 ek2 lk2 ek13 lk13 e9, h⟩
theorem TX2_begin_0 {N0 : Nat} {K : Nat → Nat} {d C : Nat} {p0 : Nat} {s : cS} {G : gm_H} {sz sl : Nat} {Q : Int32 → cS → Prop} (hN : N0 ≤ C) (h : kX1_cut N0 K d C (0 : Int32) (cR s 101 (some p0)) G sz (fun _ s1 => hX2_begin_15 N0 K d C (0 : Int32) s1 G sz sl Q)) : hX2_begin_0 N0 K d C p0 s G sz sl Q := by
  obtain ⟨_, _, z_, d_, t1, s1, G_, rfl, e2_, e3_, e4_, h⟩ := h
  rw [e2_, e3_, e4_] at t1
  obtain ⟨r9, M9, z9, d9, e9, h⟩ := h
  exact ⟨r9, M9, z9, d9, t_X2_begin_0__at15 hN t1 e9, h⟩
theorem kX2_begin.of {N0 : Nat} {K : Nat → Nat} {d C : Nat} {p0 : Nat} {s : cS} {G : gm_H} {sz : Nat} {Q : Int32 → cS → Prop} (h : hX2_begin_0 N0 K d C p0 s G sz 0 Q) : kX2_begin N0 K (d + 1) C p0 s G sz Q := gC.of rfl (by decide) (Nat.le_of_ble_eq_true rfl) rfl h
theorem TX2_begin_15 {N0 : Nat} {K : Nat → Nat} {d C : Nat} {u2 : Int32} {s : cS} {G : gm_H} {sz sl : Nat} {Q : Int32 → cS → Prop} (hN : N0 ≤ C) (h : ∃ r2 : Nat, (s.2.2 101 = some r2) ∧ (∃ fso3 : List Value, (G r2 = some (.inr (4, fso3))) ∧ (∃ r4 : Nat, (fso3[2]? = some (.ref r4)) ∧ ((C + 34 ≤ r2) ∧ (∃ na7 : Nat, ∃ fa7 : Nat → Int32, (G r4 = some (.inl (.int, na7, .inl fa7))) ∧ ((na7 < 2 ^ 31) ∧ ((C + 34 ≤ r4) ∧ ((0 < na7) ∧ (if (fa7 0) ≤ u2 then (if (s.1 130) = 0 then (Q (1 : Int32) (cI s 102 (s.1 129))) else (Q (0 : Int32) (cI s 102 (s.1 129)))) else (kX2_close N0 K d C u2 s G sz (fun _ s9 => hX2_begin_15 N0 K d C (u2 + (1 : Int32)) s9 G sz sl Q))))))))))) : hX2_begin_15 N0 K d C u2 s G sz sl Q := by
  obtain ⟨r2, h1, h⟩ := h
  obtain ⟨fso3, ho3, h⟩ := h
  obtain ⟨r4, f5, h⟩ := h
  obtain ⟨hg_r2, h⟩ := h
  obtain ⟨na7, fa7, ha7, h⟩ := h
  obtain ⟨ba7, h⟩ := h
  obtain ⟨hg_r4, h⟩ := h
  obtain ⟨lk6, h⟩ := h
  by_cases c8 : (fa7 0) ≤ u2
  · rw [if_pos c8] at h
    by_cases c9 : (s.1 130) = 0
    · rw [if_pos c9] at h
      exact ⟨_, _, _, _, t_X2_begin_15_tf hN h1 ho3 f5 hg_r2 rfl ha7 ba7 hg_r4 lk6 c8 c9, _, _, rfl, rfl, rfl, rfl, h⟩
    · rw [if_neg c9] at h
      exact ⟨_, _, _, _, t_X2_begin_15_tt hN h1 ho3 f5 hg_r2 rfl ha7 ba7 hg_r4 lk6 c8 c9, _, _, rfl, rfl, rfl, rfl, h⟩
  · rw [if_neg c8] at h
    obtain ⟨_, _, z_, d_, t9, s9, G_, rfl, e2_, e3_, e4_, h⟩ := h
    rw [e2_, e3_, e4_] at t9
    obtain ⟨r9, M9, z9, d9, e9, h⟩ := h
    exact ⟨r9, M9, z9, d9, t_X2_begin_15_f_at15 hN h1 ho3 f5 hg_r2 rfl ha7 ba7 hg_r4 lk6 c8 t9 e9, h⟩
theorem TX2_inState_0 {N0 : Nat} {K : Nat → Nat} {d C : Nat} {p0 : Nat} {s : cS} {G : gm_H} {sz sl : Nat} {Q : Int32 → cS → Prop} (hN : N0 ≤ C) (h : kX1_cut N0 K d C (s.1 102) s G sz (fun _ s1 => hX2_inState_13 N0 K d C p0 (0 : Int32) s1 G sz sl Q)) : hX2_inState_0 N0 K d C p0 s G sz sl Q := by
  obtain ⟨_, _, z_, d_, t1, s1, G_, rfl, e2_, e3_, e4_, h⟩ := h
  rw [e2_, e3_, e4_] at t1
  obtain ⟨r9, M9, z9, d9, e9, h⟩ := h
  exact ⟨r9, M9, z9, d9, t_X2_inState_0__at13 hN t1 e9, h⟩
theorem kX2_inState.of {N0 : Nat} {K : Nat → Nat} {d C : Nat} {p0 : Nat} {s : cS} {G : gm_H} {sz : Nat} {Q : Int32 → cS → Prop} (h : hX2_inState_0 N0 K d C p0 s G sz 0 Q) : kX2_inState N0 K (d + 1) C p0 s G sz Q := gC.of rfl (by decide) (Nat.le_of_ble_eq_true rfl) rfl h
theorem TX2_inState_13 {N0 : Nat} {K : Nat → Nat} {d C : Nat} {p0 : Nat} {u2 : Int32} {s : cS} {G : gm_H} {sz sl : Nat} {Q : Int32 → cS → Prop} (hN : N0 ≤ C) (h : ∃ fso1 : List Value, ((bM C (cH C s) G) p0 = some (.inr (9, fso1))) ∧ (∃ x2 : Int32, (fso1[1]? = some (.int x2)) ∧ (if x2 ≤ u2 then (∃ r6 : Nat, (s.2.2 101 = some r6) ∧ (∃ fso7 : List Value, (G r6 = some (.inr (4, fso7))) ∧ (∃ r8 : Nat, (fso7[2]? = some (.ref r8)) ∧ ((C + 34 ≤ r6) ∧ (∃ na11 : Nat, ∃ fa11 : Nat → Int32, (G r8 = some (.inl (.int, na11, .inl fa11))) ∧ ((na11 < 2 ^ 31) ∧ ((C + 34 ≤ r8) ∧ ((0 < na11) ∧ (hX2_inState_53 N0 K d C (fa11 0) s G sz sl Q))))))))) else (∃ r5 : Nat, (fso1[0]? = some (.ref r5)) ∧ (∃ k7 : Nat, (u2 = nI k7) ∧ (∃ na8 : Nat, ∃ fa8 : Nat → Int32, ((bM C (cH C s) G) r5 = some (.inl (.int, na8, .inl fa8))) ∧ ((na8 < 2 ^ 31) ∧ ((k7 < na8) ∧ (kX1_add N0 K d C (2 : Int32) (fa8 k7) (0 : Int32) (0 : Int32) s G sz (fun _ s9 => hX2_inState_13 N0 K d C p0 (u2 + (1 : Int32)) s9 G sz sl Q)))))))))) : hX2_inState_13 N0 K d C p0 u2 s G sz sl Q := by
  obtain ⟨fso1, ho1, h⟩ := h
  obtain ⟨x2, f3, h⟩ := h
  by_cases c4 : x2 ≤ u2
  · rw [if_pos c4] at h
    obtain ⟨r6, h5, h⟩ := h
    obtain ⟨fso7, ho7, h⟩ := h
    obtain ⟨r8, f9, h⟩ := h
    obtain ⟨hg_r6, h⟩ := h
    obtain ⟨na11, fa11, ha11, h⟩ := h
    obtain ⟨ba11, h⟩ := h
    obtain ⟨hg_r8, h⟩ := h
    obtain ⟨lk10, h⟩ := h
    obtain ⟨r9, M9, z9, d9, e9, h⟩ := h
    exact ⟨r9, M9, z9, d9, t_X2_inState_13_t_at53 hN ho1 f3 c4 h5 ho7 f9 hg_r6 rfl ha11 ba11 hg_r8 lk10 e9, h⟩
  · rw [if_neg c4] at h
    obtain ⟨r5, f6, h⟩ := h
    obtain ⟨k7, ek7, h⟩ := h
    obtain ⟨na8, fa8, ha8, h⟩ := h
    obtain ⟨ba8, h⟩ := h
    obtain ⟨lk7, h⟩ := h
    obtain ⟨_, _, z_, d_, t9, s9, G_, rfl, e2_, e3_, e4_, h⟩ := h
    rw [e2_, e3_, e4_] at t9
    obtain ⟨r9, M9, z9, d9, e9, h⟩ := h
    exact ⟨r9, M9, z9, d9, t_X2_inState_13_f_at13 hN ho1 f3 c4 f6 ek7 ha8 ba8 lk7 t9 e9, h⟩
theorem TX2_inState_53 {N0 : Nat} {K : Nat → Nat} {d C : Nat} {u2 : Int32} {s : cS} {G : gm_H} {sz sl : Nat} {Q : Int32 → cS → Prop} (hN : N0 ≤ C) (h : ∃ r2 : Nat, (s.2.2 101 = some r2) ∧ (∃ fso3 : List Value, (G r2 = some (.inr (4, fso3))) ∧ (∃ r4 : Nat, (fso3[2]? = some (.ref r4)) ∧ ((C + 34 ≤ r2) ∧ (∃ na7 : Nat, ∃ fa7 : Nat → Int32, (G r4 = some (.inl (.int, na7, .inl fa7))) ∧ ((na7 < 2 ^ 31) ∧ ((C + 34 ≤ r4) ∧ ((1 < na7) ∧ (if (fa7 1) ≤ u2 then (hX2_inState_98 N0 K d C (fa7 1) (cI s 103 (s.1 129)) G sz sl Q) else (kX2_close N0 K d C u2 s G sz (fun _ s9 => hX2_inState_53 N0 K d C (u2 + (1 : Int32)) s9 G sz sl Q))))))))))) : hX2_inState_53 N0 K d C u2 s G sz sl Q := by
  obtain ⟨r2, h1, h⟩ := h
  obtain ⟨fso3, ho3, h⟩ := h
  obtain ⟨r4, f5, h⟩ := h
  obtain ⟨hg_r2, h⟩ := h
  obtain ⟨na7, fa7, ha7, h⟩ := h
  obtain ⟨ba7, h⟩ := h
  obtain ⟨hg_r4, h⟩ := h
  obtain ⟨lk6, h⟩ := h
  by_cases c8 : (fa7 1) ≤ u2
  · rw [if_pos c8] at h
    obtain ⟨r9, M9, z9, d9, e9, h⟩ := h
    exact ⟨r9, M9, z9, d9, t_X2_inState_53_t_at98 hN h1 ho3 f5 hg_r2 rfl ha7 ba7 hg_r4 lk6 c8 rfl lk6 e9, h⟩
  · rw [if_neg c8] at h
    obtain ⟨_, _, z_, d_, t9, s9, G_, rfl, e2_, e3_, e4_, h⟩ := h
    rw [e2_, e3_, e4_] at t9
    obtain ⟨r9, M9, z9, d9, e9, h⟩ := h
    exact ⟨r9, M9, z9, d9, t_X2_inState_53_f_at53 hN h1 ho3 f5 hg_r2 rfl ha7 ba7 hg_r4 lk6 c8 t9 e9, h⟩
theorem TX2_inState_98 {N0 : Nat} {K : Nat → Nat} {d C : Nat} {u2 : Int32} {s : cS} {G : gm_H} {sz sl : Nat} {Q : Int32 → cS → Prop} (hN : N0 ≤ C) (h : ∃ r2 : Nat, (s.2.2 101 = some r2) ∧ (∃ fso3 : List Value, (G r2 = some (.inr (4, fso3))) ∧ (∃ r4 : Nat, (fso3[2]? = some (.ref r4)) ∧ ((C + 34 ≤ r2) ∧ (∃ na7 : Nat, ∃ fa7 : Nat → Int32, (G r4 = some (.inl (.int, na7, .inl fa7))) ∧ ((na7 < 2 ^ 31) ∧ ((C + 34 ≤ r4) ∧ ((2 < na7) ∧ (if (fa7 2) ≤ u2 then (if (s.1 130) = 0 then (Q (1 : Int32) s) else (Q (0 : Int32) s)) else (kX2_close N0 K d C u2 s G sz (fun _ s9 => hX2_inState_98 N0 K d C (u2 + (1 : Int32)) s9 G sz sl Q))))))))))) : hX2_inState_98 N0 K d C u2 s G sz sl Q := by
  obtain ⟨r2, h1, h⟩ := h
  obtain ⟨fso3, ho3, h⟩ := h
  obtain ⟨r4, f5, h⟩ := h
  obtain ⟨hg_r2, h⟩ := h
  obtain ⟨na7, fa7, ha7, h⟩ := h
  obtain ⟨ba7, h⟩ := h
  obtain ⟨hg_r4, h⟩ := h
  obtain ⟨lk6, h⟩ := h
  by_cases c8 : (fa7 2) ≤ u2
  · rw [if_pos c8] at h
    by_cases c9 : (s.1 130) = 0
    · rw [if_pos c9] at h
      exact ⟨_, _, _, _, t_X2_inState_98_tf hN h1 ho3 f5 hg_r2 rfl ha7 ba7 hg_r4 lk6 c8 c9, _, _, rfl, rfl, rfl, rfl, h⟩
    · rw [if_neg c9] at h
      exact ⟨_, _, _, _, t_X2_inState_98_tt hN h1 ho3 f5 hg_r2 rfl ha7 ba7 hg_r4 lk6 c8 c9, _, _, rfl, rfl, rfl, rfl, h⟩
  · rw [if_neg c8] at h
    obtain ⟨_, _, z_, d_, t9, s9, G_, rfl, e2_, e3_, e4_, h⟩ := h
    rw [e2_, e3_, e4_] at t9
    obtain ⟨r9, M9, z9, d9, e9, h⟩ := h
    exact ⟨r9, M9, z9, d9, t_X2_inState_98_f_at98 hN h1 ho3 f5 hg_r2 rfl ha7 ba7 hg_r4 lk6 c8 t9 e9, h⟩
theorem TX2_byMove_0 {N0 : Nat} {K : Nat → Nat} {d C : Nat} {p0 : Int32} {p1 : Int32} {p2 : Int32} {p3 : Int32} {s : cS} {G : gm_H} {sz sl : Nat} {Q : Int32 → cS → Prop} (hN : N0 ≤ C) (h : kX1_cut N0 K d C (s.1 103) s G sz (fun _ s1 => kX1_add N0 K d C (4 : Int32) p0 p1 (0 : Int32) s1 G sz (fun _ s3 => kX1_add N0 K d C (4 : Int32) p2 p3 (0 : Int32) s3 G sz (fun _ s5 => ∃ r8 : Nat, (s5.2.2 101 = some r8) ∧ (∃ fso9 : List Value, (G r8 = some (.inr (4, fso9))) ∧ (∃ r10 : Nat, (fso9[2]? = some (.ref r10)) ∧ ((C + 34 ≤ r8) ∧ (∃ na13 : Nat, ∃ fa13 : Nat → Int32, (G r10 = some (.inl (.int, na13, .inl fa13))) ∧ ((na13 < 2 ^ 31) ∧ ((C + 34 ≤ r10) ∧ ((1 < na13) ∧ (hX2_byMove_45 N0 K d C (fa13 1) s5 G sz sl Q)))))))))))) : hX2_byMove_0 N0 K d C p0 p1 p2 p3 s G sz sl Q := by
  obtain ⟨_, _, z_, d_, t1, s1, G_, rfl, e2_, e3_, e4_, h⟩ := h
  rw [e2_, e3_, e4_] at t1
  obtain ⟨_, _, z_, d_, t3, s3, G_, rfl, e2_, e3_, e4_, h⟩ := h
  rw [e2_, e3_, e4_] at t3
  obtain ⟨_, _, z_, d_, t5, s5, G_, rfl, e2_, e3_, e4_, h⟩ := h
  rw [e2_, e3_, e4_] at t5
  obtain ⟨r8, h7, h⟩ := h
  obtain ⟨fso9, ho9, h⟩ := h
  obtain ⟨r10, f11, h⟩ := h
  obtain ⟨hg_r8, h⟩ := h
  obtain ⟨na13, fa13, ha13, h⟩ := h
  obtain ⟨ba13, h⟩ := h
  obtain ⟨hg_r10, h⟩ := h
  obtain ⟨lk12, h⟩ := h
  obtain ⟨r9, M9, z9, d9, e9, h⟩ := h
  exact ⟨r9, M9, z9, d9, t_X2_byMove_0__at45 hN t1 t3 t5 h7 ho9 f11 hg_r8 rfl ha13 ba13 hg_r10 lk12 e9, h⟩
theorem kX2_byMove.of {N0 : Nat} {K : Nat → Nat} {d C : Nat} {p0 : Int32} {p1 : Int32} {p2 : Int32} {p3 : Int32} {s : cS} {G : gm_H} {sz : Nat} {Q : Int32 → cS → Prop} (h : hX2_byMove_0 N0 K d C p0 p1 p2 p3 s G sz 0 Q) : kX2_byMove N0 K (d + 1) C p0 p1 p2 p3 s G sz Q := gC.of rfl (by decide) (Nat.le_of_ble_eq_true rfl) rfl h
theorem TX2_byMove_45 {N0 : Nat} {K : Nat → Nat} {d C : Nat} {u5 : Int32} {s : cS} {G : gm_H} {sz sl : Nat} {Q : Int32 → cS → Prop} (hN : N0 ≤ C) (h : ∃ r2 : Nat, (s.2.2 101 = some r2) ∧ (∃ fso3 : List Value, (G r2 = some (.inr (4, fso3))) ∧ (∃ r4 : Nat, (fso3[2]? = some (.ref r4)) ∧ ((C + 34 ≤ r2) ∧ (∃ na7 : Nat, ∃ fa7 : Nat → Int32, (G r4 = some (.inl (.int, na7, .inl fa7))) ∧ ((na7 < 2 ^ 31) ∧ ((C + 34 ≤ r4) ∧ ((2 < na7) ∧ (if (fa7 2) ≤ u5 then (if (s.1 130) = 0 then (Q (1 : Int32) s) else (Q (0 : Int32) s)) else (kX2_close N0 K d C u5 s G sz (fun _ s9 => hX2_byMove_45 N0 K d C (u5 + (1 : Int32)) s9 G sz sl Q))))))))))) : hX2_byMove_45 N0 K d C u5 s G sz sl Q := by
  obtain ⟨r2, h1, h⟩ := h
  obtain ⟨fso3, ho3, h⟩ := h
  obtain ⟨r4, f5, h⟩ := h
  obtain ⟨hg_r2, h⟩ := h
  obtain ⟨na7, fa7, ha7, h⟩ := h
  obtain ⟨ba7, h⟩ := h
  obtain ⟨hg_r4, h⟩ := h
  obtain ⟨lk6, h⟩ := h
  by_cases c8 : (fa7 2) ≤ u5
  · rw [if_pos c8] at h
    by_cases c9 : (s.1 130) = 0
    · rw [if_pos c9] at h
      exact ⟨_, _, _, _, t_X2_byMove_45_tf hN h1 ho3 f5 hg_r2 rfl ha7 ba7 hg_r4 lk6 c8 c9, _, _, rfl, rfl, rfl, rfl, h⟩
    · rw [if_neg c9] at h
      exact ⟨_, _, _, _, t_X2_byMove_45_tt hN h1 ho3 f5 hg_r2 rfl ha7 ba7 hg_r4 lk6 c8 c9, _, _, rfl, rfl, rfl, rfl, h⟩
  · rw [if_neg c8] at h
    obtain ⟨_, _, z_, d_, t9, s9, G_, rfl, e2_, e3_, e4_, h⟩ := h
    rw [e2_, e3_, e4_] at t9
    obtain ⟨r9, M9, z9, d9, e9, h⟩ := h
    exact ⟨r9, M9, z9, d9, t_X2_byMove_45_f_at45 hN h1 ho3 f5 hg_r2 rfl ha7 ba7 hg_r4 lk6 c8 t9 e9, h⟩
theorem TX2_close_0 {N0 : Nat} {K : Nat → Nat} {d C : Nat} {p0 : Int32} {s : cS} {G : gm_H} {sz sl : Nat} {Q : Unit → cS → Prop} (hN : N0 ≤ C) (h : hX2_close_4 N0 K d C p0 (0 : Int32) (0 : Int32) s G sz sl Q) : hX2_close_0 N0 K d C p0 s G sz sl Q := by
  obtain ⟨r9, M9, z9, d9, e9, h⟩ := h
  exact ⟨r9, M9, z9, d9, t_X2_close_0__at4 hN e9, h⟩
theorem kX2_close.of {N0 : Nat} {K : Nat → Nat} {d C : Nat} {p0 : Int32} {s : cS} {G : gm_H} {sz : Nat} {Q : Unit → cS → Prop} (h : hX2_close_0 N0 K d C p0 s G sz 0 Q) : kX2_close N0 K (d + 1) C p0 s G sz Q := gC.of rfl (by decide) (Nat.le_of_ble_eq_true rfl) rfl h
theorem TX2_close_4 {N0 : Nat} {K : Nat → Nat} {d C : Nat} {u1 : Int32} {u2 : Int32} {u3 : Int32} {s : cS} {G : gm_H} {sz sl : Nat} {Q : Unit → cS → Prop} (hN : N0 ≤ C) (h : if (200 : Int32) < u3 then (Q () s) else (∃ r3 : Nat, (s.2.2 101 = some r3) ∧ (∃ fso4 : List Value, (G r3 = some (.inr (4, fso4))) ∧ (∃ r5 : Nat, (fso4[1]? = some (.ref r5)) ∧ ((C + 34 ≤ r3) ∧ (∃ k7 : Nat, (u1 = nI k7) ∧ (∃ na8 : Nat, ∃ fa8 : Nat → Int32, (G r5 = some (.inl (.int, na8, .inl fa8))) ∧ ((na8 < 2 ^ 31) ∧ ((C + 34 ≤ r5) ∧ ((k7 < na8) ∧ (hX2_close_40 N0 K d C u1 u3 (fa8 k7) (cI (cI s 106 (u2 + (1 : Int32))) 107 (s.1 129)) G sz sl Q))))))))))) : hX2_close_4 N0 K d C u1 u2 u3 s G sz sl Q := by
  by_cases c1 : (200 : Int32) < u3
  · rw [if_pos c1] at h
    exact ⟨_, _, _, _, t_X2_close_4_t hN c1, _, _, rfl, rfl, rfl, rfl, h⟩
  · rw [if_neg c1] at h
    obtain ⟨r3, h2, h⟩ := h
    obtain ⟨fso4, ho4, h⟩ := h
    obtain ⟨r5, f6, h⟩ := h
    obtain ⟨hg_r3, h⟩ := h
    obtain ⟨k7, ek7, h⟩ := h
    obtain ⟨na8, fa8, ha8, h⟩ := h
    obtain ⟨ba8, h⟩ := h
    obtain ⟨hg_r5, h⟩ := h
    obtain ⟨lk7, h⟩ := h
    obtain ⟨r9, M9, z9, d9, e9, h⟩ := h
    exact ⟨r9, M9, z9, d9, t_X2_close_4_f_at40 hN c1 h2 ho4 f6 hg_r3 ek7 ha8 ba8 hg_r5 lk7 e9, h⟩
theorem TX2_close_40 {N0 : Nat} {K : Nat → Nat} {d C : Nat} {u1 : Int32} {u3 : Int32} {u4 : Int32} {s : cS} {G : gm_H} {sz sl : Nat} {Q : Unit → cS → Prop} (hN : N0 ≤ C) (h : ∃ r2 : Nat, (s.2.2 101 = some r2) ∧ (∃ fso3 : List Value, (G r2 = some (.inr (4, fso3))) ∧ (∃ r4 : Nat, (fso3[1]? = some (.ref r4)) ∧ ((C + 34 ≤ r2) ∧ (∃ k6 : Nat, ((u1 + (1 : Int32)) = nI k6) ∧ (∃ na7 : Nat, ∃ fa7 : Nat → Int32, (G r4 = some (.inl (.int, na7, .inl fa7))) ∧ ((na7 < 2 ^ 31) ∧ ((C + 34 ≤ r4) ∧ ((k6 < na7) ∧ (if (fa7 k6) ≤ u4 then (if (s.1 130) = 0 then (if (s.1 129) = (s.1 107) then (Q () s) else (kX4_isRecursive N0 K d C r2 u1 s G sz (fun r12 => if r12 = 0 then (Q () s) else (hX2_close_4 N0 K d C u1 (s.1 107) (u3 + (1 : Int32)) s G sz sl Q)))) else (Q () s)) else (∃ r9 : Nat, (fso3[0]? = some (.ref r9)) ∧ (∃ k11 : Nat, (u4 = nI k11) ∧ (∃ na12 : Nat, ∃ fa12 : Nat → Option Nat, (G r9 = some (.inl (.object "RuleArena$Rule", na12, .inr (.inr (.inr (.inr fa12)))))) ∧ ((na12 < 2 ^ 31) ∧ ((C + 34 ≤ r9) ∧ ((k11 < na12) ∧ (∃ r13 : Nat, (fa12 k11 = some r13) ∧ (if u3 = 0 then (hX2_close_96 N0 K d C u1 u3 u4 r13 (-1 : Int32) (-1 : Int32) s G sz sl Q) else (∃ fso15 : List Value, (G r13 = some (.inr (7, fso15))) ∧ (∃ x16 : Int32, (fso15[2]? = some (.int x16)) ∧ ((C + 34 ≤ r13) ∧ (hX2_close_96 N0 K d C u1 u3 u4 r13 (x16 - (1 : Int32)) (0 : Int32) s G sz sl Q)))))))))))))))))))))) : hX2_close_40 N0 K d C u1 u3 u4 s G sz sl Q := by
  obtain ⟨r2, h1, h⟩ := h
  obtain ⟨fso3, ho3, h⟩ := h
  obtain ⟨r4, f5, h⟩ := h
  obtain ⟨hg_r2, h⟩ := h
  obtain ⟨k6, ek6, h⟩ := h
  obtain ⟨na7, fa7, ha7, h⟩ := h
  obtain ⟨ba7, h⟩ := h
  obtain ⟨hg_r4, h⟩ := h
  obtain ⟨lk6, h⟩ := h
  by_cases c8 : (fa7 k6) ≤ u4
  · rw [if_pos c8] at h
    by_cases c9 : (s.1 130) = 0
    · rw [if_pos c9] at h
      by_cases c10 : (s.1 129) = (s.1 107)
      · rw [if_pos c10] at h
        exact ⟨_, _, _, _, t_X2_close_40_tft hN h1 ho3 f5 hg_r2 ek6 ha7 ba7 hg_r4 lk6 c8 c9 c10, _, _, rfl, rfl, rfl, rfl, h⟩
      · rw [if_neg c10] at h
        obtain ⟨r12, _, z_, d_, t12, s_, G_, rfl, e1_, e2_, e3_, e4_, h⟩ := h
        rw [e1_, e2_, e3_, e4_] at t12
        by_cases c13 : r12 = 0
        · rw [if_pos c13] at h
          exact ⟨_, _, _, _, t_X2_close_40_tfff hN h1 ho3 f5 hg_r2 ek6 ha7 ba7 hg_r4 lk6 c8 c9 c10 t12 c13, _, _, rfl, rfl, rfl, rfl, h⟩
        · rw [if_neg c13] at h
          obtain ⟨r9, M9, z9, d9, e9, h⟩ := h
          exact ⟨r9, M9, z9, d9, t_X2_close_40_tfft_at4 hN h1 ho3 f5 hg_r2 ek6 ha7 ba7 hg_r4 lk6 c8 c9 c10 t12 c13 e9, h⟩
    · rw [if_neg c9] at h
      exact ⟨_, _, _, _, t_X2_close_40_tt hN h1 ho3 f5 hg_r2 ek6 ha7 ba7 hg_r4 lk6 c8 c9, _, _, rfl, rfl, rfl, rfl, h⟩
  · rw [if_neg c8] at h
    obtain ⟨r9, f10, h⟩ := h
    obtain ⟨k11, ek11, h⟩ := h
    obtain ⟨na12, fa12, ha12, h⟩ := h
    obtain ⟨ba12, h⟩ := h
    obtain ⟨hg_r9, h⟩ := h
    obtain ⟨lk11, h⟩ := h
    obtain ⟨r13, qk11, h⟩ := h
    by_cases c14 : u3 = 0
    · rw [if_pos c14] at h
      obtain ⟨r9, M9, z9, d9, e9, h⟩ := h
      exact ⟨r9, M9, z9, d9, t_X2_close_40_fff_at96 hN h1 ho3 f5 hg_r2 ek6 ha7 ba7 hg_r4 lk6 c8 f10 ek11 ha12 ba12 hg_r9 lk11 qk11 c14 c14 e9, h⟩
    · rw [if_neg c14] at h
      obtain ⟨fso15, ho15, h⟩ := h
      obtain ⟨x16, f17, h⟩ := h
      obtain ⟨hg_r13, h⟩ := h
      obtain ⟨r9, M9, z9, d9, e9, h⟩ := h
      exact ⟨r9, M9, z9, d9, t_X2_close_40_ftt_at96 hN h1 ho3 f5 hg_r2 ek6 ha7 ba7 hg_r4 lk6 c8 f10 ek11 ha12 ba12 hg_r9 lk11 qk11 c14 ho15 f17 hg_r13 c14 e9, h⟩
theorem TX2_close_96 {N0 : Nat} {K : Nat → Nat} {d C : Nat} {u1 : Int32} {u3 : Int32} {u4 : Int32} {a5 : Nat} {u6 : Int32} {u7 : Int32} {s : cS} {G : gm_H} {sz sl : Nat} {Q : Unit → cS → Prop} (hN : N0 ≤ C) (h : if u6 < u7 then (hX2_close_40 N0 K d C u1 u3 (u4 + (1 : Int32)) s G sz sl Q) else (kX2_isDue N0 K d C a5 u7 s G sz (fun r3 s3 => if r3 = 0 then (hX2_close_96 N0 K d C u1 u3 u4 a5 u6 (u7 + (1 : Int32)) s3 G sz sl Q) else (kX2_join N0 K d C a5 (0 : Int32) (cI s3 105 u7) G sz (fun r7 s7 => hX2_close_96 N0 K d C u1 u3 u4 a5 u6 (u7 + (1 : Int32)) s7 G sz sl Q))))) : hX2_close_96 N0 K d C u1 u3 u4 a5 u6 u7 s G sz sl Q := by
  by_cases c1 : u6 < u7
  · rw [if_pos c1] at h
    obtain ⟨r9, M9, z9, d9, e9, h⟩ := h
    exact ⟨r9, M9, z9, d9, t_X2_close_96_t_at40 hN c1 e9, h⟩
  · rw [if_neg c1] at h
    obtain ⟨r3, _, z_, d_, t3, s3, G_, rfl, e2_, e3_, e4_, h⟩ := h
    rw [e2_, e3_, e4_] at t3
    by_cases c5 : r3 = 0
    · rw [if_pos c5] at h
      obtain ⟨r9, M9, z9, d9, e9, h⟩ := h
      exact ⟨r9, M9, z9, d9, t_X2_close_96_ft_at96 hN c1 t3 c5 e9, h⟩
    · rw [if_neg c5] at h
      obtain ⟨r7, _, z_, d_, t7, s7, G_, rfl, e2_, e3_, e4_, h⟩ := h
      rw [e2_, e3_, e4_] at t7
      obtain ⟨r9, M9, z9, d9, e9, h⟩ := h
      exact ⟨r9, M9, z9, d9, t_X2_close_96_ff_at96 hN c1 t3 c5 t7 e9, h⟩
theorem TX2_isDue_0 {N0 : Nat} {K : Nat → Nat} {d C : Nat} {p0 : Nat} {p1 : Int32} {s : cS} {G : gm_H} {sz sl : Nat} {Q : Int32 → cS → Prop} (hN : N0 ≤ C) (h : if (s.1 130) = 0 then (if p1 = (-1 : Int32) then (hX2_isDue_57 N0 K d C p0 (1 : Int64) (0 : Int32) s G sz sl Q) else (∃ fso3 : List Value, (G p0 = some (.inr (7, fso3))) ∧ (∃ r4 : Nat, (fso3[1]? = some (.ref r4)) ∧ ((C + 34 ≤ p0) ∧ (∃ k6 : Nat, (p1 = nI k6) ∧ (∃ na7 : Nat, ∃ fa7 : Nat → Option Nat, (G r4 = some (.inl (.object "RuleArena$Literal", na7, .inr (.inr (.inr (.inr fa7)))))) ∧ ((na7 < 2 ^ 31) ∧ ((C + 34 ≤ r4) ∧ ((k6 < na7) ∧ (∃ r8 : Nat, (fa7 k6 = some r8) ∧ (∃ fso9 : List Value, (G r8 = some (.inr (5, fso9))) ∧ (∃ x10 : Int32, (fso9[0]? = some (.int x10)) ∧ ((C + 34 ≤ r8) ∧ (if x10 = 0 then (∃ x13 : Int32, (fso9[1]? = some (.int x13)) ∧ (∃ k15 : Nat, (x13 = nI k15) ∧ ((k15 < 112) ∧ (if (s.1 106) ≤ (s.2.1 12 k15) then (hX2_isDue_57 N0 K d C p0 (1 : Int64) (0 : Int32) s G sz sl Q) else (Q (0 : Int32) s))))) else (Q (0 : Int32) s))))))))))))))) else (Q (0 : Int32) s)) : hX2_isDue_0 N0 K d C p0 p1 s G sz sl Q := by
  by_cases c1 : (s.1 130) = 0
  · rw [if_pos c1] at h
    by_cases c2 : p1 = (-1 : Int32)
    · rw [if_pos c2] at h
      obtain ⟨r9, M9, z9, d9, e9, h⟩ := h
      exact ⟨r9, M9, z9, d9, t_X2_isDue_0_tt_at57 hN c1 c2 e9, h⟩
    · rw [if_neg c2] at h
      obtain ⟨fso3, ho3, h⟩ := h
      obtain ⟨r4, f5, h⟩ := h
      obtain ⟨hg_p0, h⟩ := h
      obtain ⟨k6, ek6, h⟩ := h
      obtain ⟨na7, fa7, ha7, h⟩ := h
      obtain ⟨ba7, h⟩ := h
      obtain ⟨hg_r4, h⟩ := h
      obtain ⟨lk6, h⟩ := h
      obtain ⟨r8, qk6, h⟩ := h
      obtain ⟨fso9, ho9, h⟩ := h
      obtain ⟨x10, f11, h⟩ := h
      obtain ⟨hg_r8, h⟩ := h
      by_cases c12 : x10 = 0
      · rw [if_pos c12] at h
        obtain ⟨x13, f14, h⟩ := h
        obtain ⟨k15, ek15, h⟩ := h
        obtain ⟨lk15, h⟩ := h
        by_cases c16 : (s.1 106) ≤ (s.2.1 12 k15)
        · rw [if_pos c16] at h
          obtain ⟨r9, M9, z9, d9, e9, h⟩ := h
          exact ⟨r9, M9, z9, d9, t_X2_isDue_0_tfft_at57 hN c1 c2 ho3 f5 hg_p0 ek6 ha7 ba7 hg_r4 lk6 qk6 ho9 f11 hg_r8 c12 f14 ek15 lk15 c16 e9, h⟩
        · rw [if_neg c16] at h
          exact ⟨_, _, _, _, t_X2_isDue_0_tfff hN c1 c2 ho3 f5 hg_p0 ek6 ha7 ba7 hg_r4 lk6 qk6 ho9 f11 hg_r8 c12 f14 ek15 lk15 c16, _, _, rfl, rfl, rfl, rfl, h⟩
      · rw [if_neg c12] at h
        exact ⟨_, _, _, _, t_X2_isDue_0_tft hN c1 c2 ho3 f5 hg_p0 ek6 ha7 ba7 hg_r4 lk6 qk6 ho9 f11 hg_r8 c12, _, _, rfl, rfl, rfl, rfl, h⟩
  · rw [if_neg c1] at h
    exact ⟨_, _, _, _, t_X2_isDue_0_f hN c1, _, _, rfl, rfl, rfl, rfl, h⟩
theorem kX2_isDue.of {N0 : Nat} {K : Nat → Nat} {d C : Nat} {p0 : Nat} {p1 : Int32} {s : cS} {G : gm_H} {sz : Nat} {Q : Int32 → cS → Prop} (h : hX2_isDue_0 N0 K d C p0 p1 s G sz 0 Q) : kX2_isDue N0 K (d + 1) C p0 p1 s G sz Q := gC.of rfl (by decide) (Nat.le_of_ble_eq_true rfl) rfl h
theorem TX2_isDue_57 {N0 : Nat} {K : Nat → Nat} {d C : Nat} {p0 : Nat} {y3 : Int64} {u5 : Int32} {s : cS} {G : gm_H} {sz sl : Nat} {Q : Int32 → cS → Prop} (hN : N0 ≤ C) (h : ∃ fso1 : List Value, (G p0 = some (.inr (7, fso1))) ∧ (∃ x2 : Int32, (fso1[2]? = some (.int x2)) ∧ ((C + 34 ≤ p0) ∧ (if x2 ≤ u5 then (if (lg_cmp y3 (100000 : Int64)) ≤ 0 then (if (lg_cmp y3 (0 : Int64)) ≤ 0 then (Q (0 : Int32) (cI s 130 (0 : Int32))) else (Q (1 : Int32) (cI s 130 (0 : Int32)))) else (if (lg_cmp y3 (0 : Int64)) ≤ 0 then (Q (0 : Int32) (cI s 130 (1 : Int32))) else (Q (0 : Int32) (cI s 130 (1 : Int32))))) else (∃ r5 : Nat, (fso1[1]? = some (.ref r5)) ∧ (∃ k7 : Nat, (u5 = nI k7) ∧ (∃ na8 : Nat, ∃ fa8 : Nat → Option Nat, (G r5 = some (.inl (.object "RuleArena$Literal", na8, .inr (.inr (.inr (.inr fa8)))))) ∧ ((na8 < 2 ^ 31) ∧ ((C + 34 ≤ r5) ∧ ((k7 < na8) ∧ (∃ r9 : Nat, (fa8 k7 = some r9) ∧ (∃ fso10 : List Value, (G r9 = some (.inr (5, fso10))) ∧ (∃ x11 : Int32, (fso10[0]? = some (.int x11)) ∧ ((C + 34 ≤ r9) ∧ (if x11 = 0 then (∃ r15 : Nat, (fa8 k7 = some r15) ∧ (∃ fso16 : List Value, (G r15 = some (.inr (5, fso16))) ∧ (∃ x17 : Int32, (fso16[1]? = some (.int x17)) ∧ ((C + 34 ≤ r15) ∧ (∃ k19 : Nat, (x17 = nI k19) ∧ ((k19 < 112) ∧ (hX2_isDue_57 N0 K d C p0 (y3 * ((s.2.1 13 k19).toInt64)) (u5 + (1 : Int32)) s G sz sl Q))))))) else (hX2_isDue_57 N0 K d C p0 y3 (u5 + (1 : Int32)) s G sz sl Q)))))))))))))))) : hX2_isDue_57 N0 K d C p0 y3 u5 s G sz sl Q := by
  obtain ⟨fso1, ho1, h⟩ := h
  obtain ⟨x2, f3, h⟩ := h
  obtain ⟨hg_p0, h⟩ := h
  by_cases c4 : x2 ≤ u5
  · rw [if_pos c4] at h
    by_cases c5 : (lg_cmp y3 (100000 : Int64)) ≤ 0
    · rw [if_pos c5] at h
      by_cases c6 : (lg_cmp y3 (0 : Int64)) ≤ 0
      · rw [if_pos c6] at h
        exact ⟨_, _, _, _, t_X2_isDue_57_ttt hN ho1 f3 hg_p0 c4 c5 c6, _, _, rfl, rfl, rfl, rfl, h⟩
      · rw [if_neg c6] at h
        exact ⟨_, _, _, _, t_X2_isDue_57_ttff hN ho1 f3 hg_p0 c4 c5 c6 (by decide), _, _, rfl, rfl, rfl, rfl, h⟩
    · rw [if_neg c5] at h
      by_cases c6 : (lg_cmp y3 (0 : Int64)) ≤ 0
      · rw [if_pos c6] at h
        exact ⟨_, _, _, _, t_X2_isDue_57_tft hN ho1 f3 hg_p0 c4 c5 c6, _, _, rfl, rfl, rfl, rfl, h⟩
      · rw [if_neg c6] at h
        exact ⟨_, _, _, _, t_X2_isDue_57_tfft hN ho1 f3 hg_p0 c4 c5 c6 (by decide), _, _, rfl, rfl, rfl, rfl, h⟩
  · rw [if_neg c4] at h
    obtain ⟨r5, f6, h⟩ := h
    obtain ⟨k7, ek7, h⟩ := h
    obtain ⟨na8, fa8, ha8, h⟩ := h
    obtain ⟨ba8, h⟩ := h
    obtain ⟨hg_r5, h⟩ := h
    obtain ⟨lk7, h⟩ := h
    obtain ⟨r9, qk7, h⟩ := h
    obtain ⟨fso10, ho10, h⟩ := h
    obtain ⟨x11, f12, h⟩ := h
    obtain ⟨hg_r9, h⟩ := h
    by_cases c13 : x11 = 0
    · rw [if_pos c13] at h
      obtain ⟨r15, qk14, h⟩ := h
      obtain ⟨fso16, ho16, h⟩ := h
      obtain ⟨x17, f18, h⟩ := h
      obtain ⟨hg_r15, h⟩ := h
      obtain ⟨k19, ek19, h⟩ := h
      obtain ⟨lk19, h⟩ := h
      obtain ⟨r9, M9, z9, d9, e9, h⟩ := h
      exact ⟨r9, M9, z9, d9, t_X2_isDue_57_ff_at57 hN ho1 f3 hg_p0 c4 f6 ek7 ha8 ba8 hg_r5 lk7 qk7 ho10 f12 hg_r9 c13 ek7 lk7 qk14 ho16 f18 hg_r15 ek19 lk19 e9, h⟩
    · rw [if_neg c13] at h
      obtain ⟨r9, M9, z9, d9, e9, h⟩ := h
      exact ⟨r9, M9, z9, d9, t_X2_isDue_57_ft_at57 hN ho1 f3 hg_p0 c4 f6 ek7 ha8 ba8 hg_r5 lk7 qk7 ho10 f12 hg_r9 c13 e9, h⟩
theorem TX2_join_0 {N0 : Nat} {K : Nat → Nat} {d C : Nat} {p0 : Nat} {p1 : Int32} {s : cS} {G : gm_H} {sz sl : Nat} {Q : Int32 → cS → Prop} (hN : N0 ≤ C) (h : ∃ fso1 : List Value, (G p0 = some (.inr (7, fso1))) ∧ (∃ x2 : Int32, (fso1[2]? = some (.int x2)) ∧ ((C + 34 ≤ p0) ∧ (if p1 < x2 then (∃ r5 : Nat, (fso1[1]? = some (.ref r5)) ∧ (∃ k7 : Nat, (p1 = nI k7) ∧ (∃ na8 : Nat, ∃ fa8 : Nat → Option Nat, (G r5 = some (.inl (.object "RuleArena$Literal", na8, .inr (.inr (.inr (.inr fa8)))))) ∧ ((na8 < 2 ^ 31) ∧ ((C + 34 ≤ r5) ∧ ((k7 < na8) ∧ (∃ r9 : Nat, (fa8 k7 = some r9) ∧ (∃ fso10 : List Value, (G r9 = some (.inr (5, fso10))) ∧ (∃ x11 : Int32, (fso10[0]? = some (.int x11)) ∧ ((C + 34 ≤ r9) ∧ (if x11 = (2 : Int32) then (∃ x14 : Int32, (fso10[2]? = some (.int x14)) ∧ (kX2_fill N0 K d C x14 s G sz (fun r17 => ∃ x18 : Int32, (fso10[3]? = some (.int x18)) ∧ (kX2_fill N0 K d C x18 s G sz (fun r21 => if r17 = r21 then (Q (0 : Int32) s) else (kX2_join N0 K d C p0 (p1 + (1 : Int32)) s G sz (fun r24 s24 => if r24 = 0 then (Q (0 : Int32) s24) else (Q (1 : Int32) s24)))))))) else (∃ x14 : Int32, (fso10[5]? = some (.int x14)) ∧ (if x14 = 0 then (kX2_joinEach N0 K d C p0 p1 s G sz (fun r18 s18 => (r18 = 0 ∨ r18 = 1) ∧ (Q r18 s18))) else (∃ x17 : Int32, (fso10[1]? = some (.int x17)) ∧ (∃ x19 : Int32, (fso10[2]? = some (.int x19)) ∧ (kX2_fill N0 K d C x19 s G sz (fun r22 => ∃ x23 : Int32, (fso10[3]? = some (.int x23)) ∧ (kX2_fill N0 K d C x23 s G sz (fun r26 => ∃ x27 : Int32, (fso10[4]? = some (.int x27)) ∧ (kX2_fill N0 K d C x27 s G sz (fun r30 => kX1_find N0 K d C x17 r22 r26 r30 s G sz (fun r32 => if x11 = (1 : Int32) then (if r32 = 0 then (kX2_join N0 K d C p0 (p1 + (1 : Int32)) s G sz (fun r36 s36 => if r36 = 0 then (Q (0 : Int32) s36) else (Q (1 : Int32) s36))) else (Q (0 : Int32) s)) else (kX2_lowest N0 K d C p1 s G sz (fun r35 => if r32 < r35 then (Q (0 : Int32) s) else (kX2_highest N0 K d C p1 s G sz (fun r38 => if r38 < r32 then (Q (0 : Int32) s) else (kX2_join N0 K d C p0 (p1 + (1 : Int32)) s G sz (fun r41 s41 => if r41 = 0 then (Q (0 : Int32) s41) else (Q (1 : Int32) s41))))))))))))))))))))))))))))) else (∃ r5 : Nat, (fso1[0]? = some (.ref r5)) ∧ (∃ fso7 : List Value, (G r5 = some (.inr (5, fso7))) ∧ (∃ x8 : Int32, (fso7[1]? = some (.int x8)) ∧ ((C + 34 ≤ r5) ∧ (∃ x10 : Int32, (fso7[2]? = some (.int x10)) ∧ (kX2_fill N0 K d C x10 s G sz (fun r13 => ∃ x14 : Int32, (fso7[3]? = some (.int x14)) ∧ (kX2_fill N0 K d C x14 s G sz (fun r17 => ∃ x18 : Int32, (fso7[4]? = some (.int x18)) ∧ (kX2_fill N0 K d C x18 s G sz (fun r21 => kX1_add N0 K d C x8 r13 r17 r21 s G sz (fun _ s22 => Q (1 : Int32) s22)))))))))))))))) : hX2_join_0 N0 K d C p0 p1 s G sz sl Q := by
  obtain ⟨fso1, ho1, h⟩ := h
  obtain ⟨x2, f3, h⟩ := h
  obtain ⟨hg_p0, h⟩ := h
  by_cases c4 : p1 < x2
  · rw [if_pos c4] at h
    obtain ⟨r5, f6, h⟩ := h
    obtain ⟨k7, ek7, h⟩ := h
    obtain ⟨na8, fa8, ha8, h⟩ := h
    obtain ⟨ba8, h⟩ := h
    obtain ⟨hg_r5, h⟩ := h
    obtain ⟨lk7, h⟩ := h
    obtain ⟨r9, qk7, h⟩ := h
    obtain ⟨fso10, ho10, h⟩ := h
    obtain ⟨x11, f12, h⟩ := h
    obtain ⟨hg_r9, h⟩ := h
    by_cases c13 : x11 = (2 : Int32)
    · rw [if_pos c13] at h
      obtain ⟨x14, f15, h⟩ := h
      obtain ⟨r17, _, z_, d_, t17, s_, G_, rfl, e1_, e2_, e3_, e4_, h⟩ := h
      rw [e1_, e2_, e3_, e4_] at t17
      obtain ⟨x18, f19, h⟩ := h
      obtain ⟨r21, _, z_, d_, t21, s_, G_, rfl, e1_, e2_, e3_, e4_, h⟩ := h
      rw [e1_, e2_, e3_, e4_] at t21
      by_cases c22 : r17 = r21
      · rw [if_pos c22] at h
        exact ⟨_, _, _, _, t_X2_join_0_tft hN ho1 f3 hg_p0 c4 f6 ek7 ha8 ba8 hg_r5 lk7 qk7 ho10 f12 hg_r9 c13 f15 t17 f19 t21 c22, _, _, rfl, rfl, rfl, rfl, h⟩
      · rw [if_neg c22] at h
        obtain ⟨r24, _, z_, d_, t24, s24, G_, rfl, e2_, e3_, e4_, h⟩ := h
        rw [e2_, e3_, e4_] at t24
        by_cases c26 : r24 = 0
        · rw [if_pos c26] at h
          exact ⟨_, _, _, _, t_X2_join_0_tfft hN ho1 f3 hg_p0 c4 f6 ek7 ha8 ba8 hg_r5 lk7 qk7 ho10 f12 hg_r9 c13 f15 t17 f19 t21 c22 t24 c26, _, _, rfl, rfl, rfl, rfl, h⟩
        · rw [if_neg c26] at h
          exact ⟨_, _, _, _, t_X2_join_0_tfff hN ho1 f3 hg_p0 c4 f6 ek7 ha8 ba8 hg_r5 lk7 qk7 ho10 f12 hg_r9 c13 f15 t17 f19 t21 c22 t24 c26, _, _, rfl, rfl, rfl, rfl, h⟩
    · rw [if_neg c13] at h
      obtain ⟨x14, f15, h⟩ := h
      by_cases c16 : x14 = 0
      · rw [if_pos c16] at h
        obtain ⟨r18, _, z_, d_, t18, s18, G_, rfl, e2_, e3_, e4_, h⟩ := h
        rw [e2_, e3_, e4_] at t18
        obtain ⟨z20, h⟩ := h
        exact ⟨_, _, _, _, t_X2_join_0_ttf hN ho1 f3 hg_p0 c4 f6 ek7 ha8 ba8 hg_r5 lk7 qk7 ho10 f12 hg_r9 c13 f15 c16 t18 z20, _, _, rfl, rfl, rfl, rfl, h⟩
      · rw [if_neg c16] at h
        obtain ⟨x17, f18, h⟩ := h
        obtain ⟨x19, f20, h⟩ := h
        obtain ⟨r22, _, z_, d_, t22, s_, G_, rfl, e1_, e2_, e3_, e4_, h⟩ := h
        rw [e1_, e2_, e3_, e4_] at t22
        obtain ⟨x23, f24, h⟩ := h
        obtain ⟨r26, _, z_, d_, t26, s_, G_, rfl, e1_, e2_, e3_, e4_, h⟩ := h
        rw [e1_, e2_, e3_, e4_] at t26
        obtain ⟨x27, f28, h⟩ := h
        obtain ⟨r30, _, z_, d_, t30, s_, G_, rfl, e1_, e2_, e3_, e4_, h⟩ := h
        rw [e1_, e2_, e3_, e4_] at t30
        obtain ⟨r32, _, z_, d_, t32, s_, G_, rfl, e1_, e2_, e3_, e4_, h⟩ := h
        rw [e1_, e2_, e3_, e4_] at t32
        by_cases c33 : x11 = (1 : Int32)
        · rw [if_pos c33] at h
          by_cases c34 : r32 = 0
          · rw [if_pos c34] at h
            obtain ⟨r36, _, z_, d_, t36, s36, G_, rfl, e2_, e3_, e4_, h⟩ := h
            rw [e2_, e3_, e4_] at t36
            by_cases c38 : r36 = 0
            · rw [if_pos c38] at h
              exact ⟨_, _, _, _, t_X2_join_0_tttfft hN ho1 f3 hg_p0 c4 f6 ek7 ha8 ba8 hg_r5 lk7 qk7 ho10 f12 hg_r9 c13 f15 c16 f18 f20 t22 f24 t26 f28 t30 t32 c33 c34 t36 c38, _, _, rfl, rfl, rfl, rfl, h⟩
            · rw [if_neg c38] at h
              exact ⟨_, _, _, _, t_X2_join_0_tttfff hN ho1 f3 hg_p0 c4 f6 ek7 ha8 ba8 hg_r5 lk7 qk7 ho10 f12 hg_r9 c13 f15 c16 f18 f20 t22 f24 t26 f28 t30 t32 c33 c34 t36 c38, _, _, rfl, rfl, rfl, rfl, h⟩
          · rw [if_neg c34] at h
            exact ⟨_, _, _, _, t_X2_join_0_tttft hN ho1 f3 hg_p0 c4 f6 ek7 ha8 ba8 hg_r5 lk7 qk7 ho10 f12 hg_r9 c13 f15 c16 f18 f20 t22 f24 t26 f28 t30 t32 c33 c34, _, _, rfl, rfl, rfl, rfl, h⟩
        · rw [if_neg c33] at h
          obtain ⟨r35, _, z_, d_, t35, s_, G_, rfl, e1_, e2_, e3_, e4_, h⟩ := h
          rw [e1_, e2_, e3_, e4_] at t35
          by_cases c36 : r32 < r35
          · rw [if_pos c36] at h
            exact ⟨_, _, _, _, t_X2_join_0_ttttt hN ho1 f3 hg_p0 c4 f6 ek7 ha8 ba8 hg_r5 lk7 qk7 ho10 f12 hg_r9 c13 f15 c16 f18 f20 t22 f24 t26 f28 t30 t32 c33 t35 c36, _, _, rfl, rfl, rfl, rfl, h⟩
          · rw [if_neg c36] at h
            obtain ⟨r38, _, z_, d_, t38, s_, G_, rfl, e1_, e2_, e3_, e4_, h⟩ := h
            rw [e1_, e2_, e3_, e4_] at t38
            by_cases c39 : r38 < r32
            · rw [if_pos c39] at h
              exact ⟨_, _, _, _, t_X2_join_0_ttttft hN ho1 f3 hg_p0 c4 f6 ek7 ha8 ba8 hg_r5 lk7 qk7 ho10 f12 hg_r9 c13 f15 c16 f18 f20 t22 f24 t26 f28 t30 t32 c33 t35 c36 t38 c39, _, _, rfl, rfl, rfl, rfl, h⟩
            · rw [if_neg c39] at h
              obtain ⟨r41, _, z_, d_, t41, s41, G_, rfl, e2_, e3_, e4_, h⟩ := h
              rw [e2_, e3_, e4_] at t41
              by_cases c43 : r41 = 0
              · rw [if_pos c43] at h
                exact ⟨_, _, _, _, t_X2_join_0_ttttfft hN ho1 f3 hg_p0 c4 f6 ek7 ha8 ba8 hg_r5 lk7 qk7 ho10 f12 hg_r9 c13 f15 c16 f18 f20 t22 f24 t26 f28 t30 t32 c33 t35 c36 t38 c39 t41 c43, _, _, rfl, rfl, rfl, rfl, h⟩
              · rw [if_neg c43] at h
                exact ⟨_, _, _, _, t_X2_join_0_ttttfff hN ho1 f3 hg_p0 c4 f6 ek7 ha8 ba8 hg_r5 lk7 qk7 ho10 f12 hg_r9 c13 f15 c16 f18 f20 t22 f24 t26 f28 t30 t32 c33 t35 c36 t38 c39 t41 c43, _, _, rfl, rfl, rfl, rfl, h⟩
  · rw [if_neg c4] at h
    obtain ⟨r5, f6, h⟩ := h
    obtain ⟨fso7, ho7, h⟩ := h
    obtain ⟨x8, f9, h⟩ := h
    obtain ⟨hg_r5, h⟩ := h
    obtain ⟨x10, f11, h⟩ := h
    obtain ⟨r13, _, z_, d_, t13, s_, G_, rfl, e1_, e2_, e3_, e4_, h⟩ := h
    rw [e1_, e2_, e3_, e4_] at t13
    obtain ⟨x14, f15, h⟩ := h
    obtain ⟨r17, _, z_, d_, t17, s_, G_, rfl, e1_, e2_, e3_, e4_, h⟩ := h
    rw [e1_, e2_, e3_, e4_] at t17
    obtain ⟨x18, f19, h⟩ := h
    obtain ⟨r21, _, z_, d_, t21, s_, G_, rfl, e1_, e2_, e3_, e4_, h⟩ := h
    rw [e1_, e2_, e3_, e4_] at t21
    obtain ⟨_, _, z_, d_, t22, s22, G_, rfl, e2_, e3_, e4_, h⟩ := h
    rw [e2_, e3_, e4_] at t22
    exact ⟨_, _, _, _, t_X2_join_0_f hN ho1 f3 hg_p0 c4 f6 ho7 f9 hg_r5 f11 t13 f15 t17 f19 t21 t22, _, _, rfl, rfl, rfl, rfl, h⟩
theorem kX2_join.of {N0 : Nat} {K : Nat → Nat} {d C : Nat} {p0 : Nat} {p1 : Int32} {s : cS} {G : gm_H} {sz : Nat} {Q : Int32 → cS → Prop} (h : hX2_join_0 N0 K d C p0 p1 s G sz 0 Q) : kX2_join N0 K (d + 1) C p0 p1 s G sz Q := gC.of rfl (by decide) (Nat.le_of_ble_eq_true rfl) rfl h
theorem TX2_joinEach_0 {N0 : Nat} {K : Nat → Nat} {d C : Nat} {p0 : Nat} {p1 : Int32} {s : cS} {G : gm_H} {sz sl : Nat} {Q : Int32 → cS → Prop} (hN : N0 ≤ C) (h : ∃ fso1 : List Value, (G p0 = some (.inr (7, fso1))) ∧ (∃ r2 : Nat, (fso1[1]? = some (.ref r2)) ∧ ((C + 34 ≤ p0) ∧ (∃ k4 : Nat, (p1 = nI k4) ∧ (∃ na5 : Nat, ∃ fa5 : Nat → Option Nat, (G r2 = some (.inl (.object "RuleArena$Literal", na5, .inr (.inr (.inr (.inr fa5)))))) ∧ ((na5 < 2 ^ 31) ∧ ((C + 34 ≤ r2) ∧ ((k4 < na5) ∧ (∃ r6 : Nat, (fa5 k4 = some r6) ∧ (kX2_lowest N0 K d C p1 s G sz (fun r8 => kX2_highest N0 K d C p1 s G sz (fun r10 => ∃ fso11 : List Value, (G r6 = some (.inr (5, fso11))) ∧ (∃ x12 : Int32, (fso11[1]? = some (.int x12)) ∧ ((C + 34 ≤ r6) ∧ (∃ k14 : Nat, (x12 = nI k14) ∧ ((k14 < 112) ∧ (hX2_joinEach_38 N0 K d C p0 p1 r6 r8 r10 (0 : Int32) (s.2.1 12 k14) s G sz sl Q))))))))))))))))) : hX2_joinEach_0 N0 K d C p0 p1 s G sz sl Q := by
  obtain ⟨fso1, ho1, h⟩ := h
  obtain ⟨r2, f3, h⟩ := h
  obtain ⟨hg_p0, h⟩ := h
  obtain ⟨k4, ek4, h⟩ := h
  obtain ⟨na5, fa5, ha5, h⟩ := h
  obtain ⟨ba5, h⟩ := h
  obtain ⟨hg_r2, h⟩ := h
  obtain ⟨lk4, h⟩ := h
  obtain ⟨r6, qk4, h⟩ := h
  obtain ⟨r8, _, z_, d_, t8, s_, G_, rfl, e1_, e2_, e3_, e4_, h⟩ := h
  rw [e1_, e2_, e3_, e4_] at t8
  obtain ⟨r10, _, z_, d_, t10, s_, G_, rfl, e1_, e2_, e3_, e4_, h⟩ := h
  rw [e1_, e2_, e3_, e4_] at t10
  obtain ⟨fso11, ho11, h⟩ := h
  obtain ⟨x12, f13, h⟩ := h
  obtain ⟨hg_r6, h⟩ := h
  obtain ⟨k14, ek14, h⟩ := h
  obtain ⟨lk14, h⟩ := h
  obtain ⟨r9, M9, z9, d9, e9, h⟩ := h
  exact ⟨r9, M9, z9, d9, t_X2_joinEach_0__at38 hN ho1 f3 hg_p0 ek4 ha5 ba5 hg_r2 lk4 qk4 t8 t10 ho11 f13 hg_r6 ek14 lk14 e9, h⟩
theorem kX2_joinEach.of {N0 : Nat} {K : Nat → Nat} {d C : Nat} {p0 : Nat} {p1 : Int32} {s : cS} {G : gm_H} {sz : Nat} {Q : Int32 → cS → Prop} (h : hX2_joinEach_0 N0 K d C p0 p1 s G sz 0 Q) : kX2_joinEach N0 K (d + 1) C p0 p1 s G sz Q := gC.of rfl (by decide) (Nat.le_of_ble_eq_true rfl) rfl h
theorem TX2_joinEach_38 {N0 : Nat} {K : Nat → Nat} {d C : Nat} {p0 : Nat} {u2 : Int32} {a3 : Nat} {u4 : Int32} {u5 : Int32} {u6 : Int32} {u7 : Int32} {s : cS} {G : gm_H} {sz sl : Nat} {Q : Int32 → cS → Prop} (hN : N0 ≤ C) (h : if u7 < u4 then ((u6 = 0 ∨ u6 = 1) ∧ (Q u6 s)) else (if u5 < u7 then (∃ k3 : Nat, (u7 = nI k3) ∧ ((k3 < 201) ∧ (hX2_joinEach_38 N0 K d C p0 u2 a3 u4 u5 u6 (s.2.1 11 k3) s G sz sl Q))) else (∃ fso3 : List Value, (G a3 = some (.inr (5, fso3))) ∧ (∃ x4 : Int32, (fso3[2]? = some (.int x4)) ∧ ((C + 34 ≤ a3) ∧ (∃ k6 : Nat, (u7 = nI k6) ∧ ((k6 < 201) ∧ (∃ fso7 : List Value, (G p0 = some (.inr (7, fso7))) ∧ (∃ x8 : Int32, (fso7[3]? = some (.int x8)) ∧ ((C + 34 ≤ p0) ∧ (kX2_fits N0 K d C x4 (s.2.1 8 k6) x8 s G sz (fun r11 s11 => if r11 = 0 then (hX2_joinEach_38 N0 K d C p0 u2 a3 u4 u5 u6 (s11.2.1 11 k6) s11 G sz sl Q) else (∃ x14 : Int32, (fso3[3]? = some (.int x14)) ∧ (kX2_fits N0 K d C x14 (s11.2.1 9 k6) x8 s11 G sz (fun r18 s18 => if r18 = 0 then (hX2_joinEach_38 N0 K d C p0 u2 a3 u4 u5 u6 (s18.2.1 11 k6) s18 G sz sl Q) else (∃ x21 : Int32, (fso3[4]? = some (.int x21)) ∧ (kX2_fits N0 K d C x21 (s18.2.1 10 k6) x8 s18 G sz (fun r25 s25 => if r25 = 0 then (hX2_joinEach_38 N0 K d C p0 u2 a3 u4 u5 u6 (s25.2.1 11 k6) s25 G sz sl Q) else (kX2_join N0 K d C p0 (u2 + (1 : Int32)) s25 G sz (fun r29 s29 => if r29 = 0 then (hX2_joinEach_38 N0 K d C p0 u2 a3 u4 u5 u6 (s29.2.1 11 k6) s29 G sz sl Q) else (∃ x32 : Int32, (fso3[6]? = some (.int x32)) ∧ (if x32 = 0 then (if (s29.1 130) = 0 then (hX2_joinEach_38 N0 K d C p0 u2 a3 u4 u5 (1 : Int32) (s29.2.1 11 k6) s29 G sz sl Q) else (Q (1 : Int32) s29)) else (Q (1 : Int32) s29))))))))))))))))))))))) : hX2_joinEach_38 N0 K d C p0 u2 a3 u4 u5 u6 u7 s G sz sl Q := by
  by_cases c1 : u7 < u4
  · rw [if_pos c1] at h
    obtain ⟨z2, h⟩ := h
    exact ⟨_, _, _, _, t_X2_joinEach_38_t hN c1 z2, _, _, rfl, rfl, rfl, rfl, h⟩
  · rw [if_neg c1] at h
    by_cases c2 : u5 < u7
    · rw [if_pos c2] at h
      obtain ⟨k3, ek3, h⟩ := h
      obtain ⟨lk3, h⟩ := h
      obtain ⟨r9, M9, z9, d9, e9, h⟩ := h
      exact ⟨r9, M9, z9, d9, t_X2_joinEach_38_ft_at38 hN c1 c2 ek3 lk3 e9, h⟩
    · rw [if_neg c2] at h
      obtain ⟨fso3, ho3, h⟩ := h
      obtain ⟨x4, f5, h⟩ := h
      obtain ⟨hg_a3, h⟩ := h
      obtain ⟨k6, ek6, h⟩ := h
      obtain ⟨lk6, h⟩ := h
      obtain ⟨fso7, ho7, h⟩ := h
      obtain ⟨x8, f9, h⟩ := h
      obtain ⟨hg_p0, h⟩ := h
      obtain ⟨r11, _, z_, d_, t11, s11, G_, rfl, e2_, e3_, e4_, h⟩ := h
      rw [e2_, e3_, e4_] at t11
      by_cases c13 : r11 = 0
      · rw [if_pos c13] at h
        obtain ⟨r9, M9, z9, d9, e9, h⟩ := h
        exact ⟨r9, M9, z9, d9, t_X2_joinEach_38_fft_at38 hN c1 c2 ho3 f5 hg_a3 ek6 lk6 ho7 f9 hg_p0 t11 c13 ek6 lk6 e9, h⟩
      · rw [if_neg c13] at h
        obtain ⟨x14, f15, h⟩ := h
        obtain ⟨r18, _, z_, d_, t18, s18, G_, rfl, e2_, e3_, e4_, h⟩ := h
        rw [e2_, e3_, e4_] at t18
        by_cases c20 : r18 = 0
        · rw [if_pos c20] at h
          obtain ⟨r9, M9, z9, d9, e9, h⟩ := h
          exact ⟨r9, M9, z9, d9, t_X2_joinEach_38_ffft_at38 hN c1 c2 ho3 f5 hg_a3 ek6 lk6 ho7 f9 hg_p0 t11 c13 f15 ek6 lk6 t18 c20 ek6 lk6 e9, h⟩
        · rw [if_neg c20] at h
          obtain ⟨x21, f22, h⟩ := h
          obtain ⟨r25, _, z_, d_, t25, s25, G_, rfl, e2_, e3_, e4_, h⟩ := h
          rw [e2_, e3_, e4_] at t25
          by_cases c27 : r25 = 0
          · rw [if_pos c27] at h
            obtain ⟨r9, M9, z9, d9, e9, h⟩ := h
            exact ⟨r9, M9, z9, d9, t_X2_joinEach_38_fffft_at38 hN c1 c2 ho3 f5 hg_a3 ek6 lk6 ho7 f9 hg_p0 t11 c13 f15 ek6 lk6 t18 c20 f22 ek6 lk6 t25 c27 ek6 lk6 e9, h⟩
          · rw [if_neg c27] at h
            obtain ⟨r29, _, z_, d_, t29, s29, G_, rfl, e2_, e3_, e4_, h⟩ := h
            rw [e2_, e3_, e4_] at t29
            by_cases c31 : r29 = 0
            · rw [if_pos c31] at h
              obtain ⟨r9, M9, z9, d9, e9, h⟩ := h
              exact ⟨r9, M9, z9, d9, t_X2_joinEach_38_ffffft_at38 hN c1 c2 ho3 f5 hg_a3 ek6 lk6 ho7 f9 hg_p0 t11 c13 f15 ek6 lk6 t18 c20 f22 ek6 lk6 t25 c27 t29 c31 ek6 lk6 e9, h⟩
            · rw [if_neg c31] at h
              obtain ⟨x32, f33, h⟩ := h
              by_cases c34 : x32 = 0
              · rw [if_pos c34] at h
                by_cases c35 : (s29.1 130) = 0
                · rw [if_pos c35] at h
                  obtain ⟨r9, M9, z9, d9, e9, h⟩ := h
                  exact ⟨r9, M9, z9, d9, t_X2_joinEach_38_ffffffft_at38 hN c1 c2 ho3 f5 hg_a3 ek6 lk6 ho7 f9 hg_p0 t11 c13 f15 ek6 lk6 t18 c20 f22 ek6 lk6 t25 c27 t29 c31 f33 c34 c35 ek6 lk6 e9, h⟩
                · rw [if_neg c35] at h
                  exact ⟨_, _, _, _, t_X2_joinEach_38_ffffffff hN c1 c2 ho3 f5 hg_a3 ek6 lk6 ho7 f9 hg_p0 t11 c13 f15 ek6 lk6 t18 c20 f22 ek6 lk6 t25 c27 t29 c31 f33 c34 c35, _, _, rfl, rfl, rfl, rfl, h⟩
              · rw [if_neg c34] at h
                exact ⟨_, _, _, _, t_X2_joinEach_38_fffffft hN c1 c2 ho3 f5 hg_a3 ek6 lk6 ho7 f9 hg_p0 t11 c13 f15 ek6 lk6 t18 c20 f22 ek6 lk6 t25 c27 t29 c31 f33 c34, _, _, rfl, rfl, rfl, rfl, h⟩
theorem TX2_lowest_0 {N0 : Nat} {K : Nat → Nat} {d C : Nat} {p0 : Int32} {s : cS} {G : gm_H} {sz sl : Nat} {Q : Int32 → Prop} (hN : N0 ≤ C) (h : if p0 = (s.1 105) then (Q (s.1 106)) else (Q (1 : Int32))) : hX2_lowest_0 N0 K d C p0 s G sz sl Q := by
  by_cases c1 : p0 = (s.1 105)
  · rw [if_pos c1] at h
    exact ⟨_, _, _, _, t_X2_lowest_0_f hN c1, _, _, rfl, rfl, rfl, rfl, rfl, h⟩
  · rw [if_neg c1] at h
    exact ⟨_, _, _, _, t_X2_lowest_0_t hN c1, _, _, rfl, rfl, rfl, rfl, rfl, h⟩
theorem kX2_lowest.of {N0 : Nat} {K : Nat → Nat} {d C : Nat} {p0 : Int32} {s : cS} {G : gm_H} {sz : Nat} {Q : Int32 → Prop} (h : hX2_lowest_0 N0 K d C p0 s G sz 0 Q) : kX2_lowest N0 K (d + 1) C p0 s G sz Q := gC.of rfl (by decide) (Nat.le_of_ble_eq_true rfl) rfl h
theorem TX2_highest_0 {N0 : Nat} {K : Nat → Nat} {d C : Nat} {p0 : Int32} {s : cS} {G : gm_H} {sz sl : Nat} {Q : Int32 → Prop} (hN : N0 ≤ C) (h : if (s.1 105) ≤ p0 then (Q (s.1 107)) else (Q ((s.1 106) - (1 : Int32)))) : hX2_highest_0 N0 K d C p0 s G sz sl Q := by
  by_cases c1 : (s.1 105) ≤ p0
  · rw [if_pos c1] at h
    exact ⟨_, _, _, _, t_X2_highest_0_t hN c1, _, _, rfl, rfl, rfl, rfl, rfl, h⟩
  · rw [if_neg c1] at h
    exact ⟨_, _, _, _, t_X2_highest_0_f hN c1, _, _, rfl, rfl, rfl, rfl, rfl, h⟩
theorem kX2_highest.of {N0 : Nat} {K : Nat → Nat} {d C : Nat} {p0 : Int32} {s : cS} {G : gm_H} {sz : Nat} {Q : Int32 → Prop} (h : hX2_highest_0 N0 K d C p0 s G sz 0 Q) : kX2_highest N0 K (d + 1) C p0 s G sz Q := gC.of rfl (by decide) (Nat.le_of_ble_eq_true rfl) rfl h
theorem TX2_fill_0 {N0 : Nat} {K : Nat → Nat} {d C : Nat} {p0 : Int32} {s : cS} {G : gm_H} {sz sl : Nat} {Q : Int32 → Prop} (hN : N0 ≤ C) (h : if (12 : Int32) < (((p0).toUInt32 >>> (((21 : Int32)).toUInt32 &&& Int32.toUInt32 31)).toInt32) then (hX2_fill_24 N0 K d C p0 p0 (14 : Int32) s G sz sl Q) else (∃ k2 : Nat, ((((p0).toUInt32 >>> (((21 : Int32)).toUInt32 &&& Int32.toUInt32 31)).toInt32) = nI k2) ∧ ((k2 < 13) ∧ (Q (s.2.1 16 k2))))) : hX2_fill_0 N0 K d C p0 s G sz sl Q := by
  by_cases c1 : (12 : Int32) < (((p0).toUInt32 >>> (((21 : Int32)).toUInt32 &&& Int32.toUInt32 31)).toInt32)
  · rw [if_pos c1] at h
    obtain ⟨r9, M9, z9, d9, e9, h⟩ := h
    exact ⟨r9, M9, z9, d9, t_X2_fill_0_t_at24 hN c1 e9, h⟩
  · rw [if_neg c1] at h
    obtain ⟨k2, ek2, h⟩ := h
    obtain ⟨lk2, h⟩ := h
    exact ⟨_, _, _, _, t_X2_fill_0_f hN c1 ek2 lk2, _, _, rfl, rfl, rfl, rfl, rfl, h⟩
theorem kX2_fill.of {N0 : Nat} {K : Nat → Nat} {d C : Nat} {p0 : Int32} {s : cS} {G : gm_H} {sz : Nat} {Q : Int32 → Prop} (h : hX2_fill_0 N0 K d C p0 s G sz 0 Q) : kX2_fill N0 K (d + 1) C p0 s G sz Q := gC.of rfl (by decide) (Nat.le_of_ble_eq_true rfl) rfl h
theorem TX2_fill_24 {N0 : Nat} {K : Nat → Nat} {d C : Nat} {u1 : Int32} {u3 : Int32} {u4 : Int32} {s : cS} {G : gm_H} {sz sl : Nat} {Q : Int32 → Prop} (hN : N0 ≤ C) (h : if u4 < 0 then (Q u3) else (if (u1 &&& (2097151 : Int32)) = 0 then (Q u3) else (if (12 : Int32) < ((((u1).toUInt32 >>> ((u4).toUInt32 &&& Int32.toUInt32 31)).toInt32) &&& (127 : Int32)) then (hX2_fill_24 N0 K d C u1 u3 (u4 + (-7 : Int32)) s G sz sl Q) else (∃ k4 : Nat, (((((u1).toUInt32 >>> ((u4).toUInt32 &&& Int32.toUInt32 31)).toInt32) &&& (127 : Int32)) = nI k4) ∧ ((k4 < 13) ∧ (hX2_fill_24 N0 K d C u1 (u3 + ((((((s.2.1 16 k4)).toUInt32 >>> (((21 : Int32)).toUInt32 &&& Int32.toUInt32 31)).toInt32) - ((((u1).toUInt32 >>> ((u4).toUInt32 &&& Int32.toUInt32 31)).toInt32) &&& (127 : Int32))) <<< (u4 &&& 31))) (u4 + (-7 : Int32)) s G sz sl Q)))))) : hX2_fill_24 N0 K d C u1 u3 u4 s G sz sl Q := by
  by_cases c1 : u4 < 0
  · rw [if_pos c1] at h
    exact ⟨_, _, _, _, t_X2_fill_24_t hN c1, _, _, rfl, rfl, rfl, rfl, rfl, h⟩
  · rw [if_neg c1] at h
    by_cases c2 : (u1 &&& (2097151 : Int32)) = 0
    · rw [if_pos c2] at h
      exact ⟨_, _, _, _, t_X2_fill_24_ft hN c1 c2, _, _, rfl, rfl, rfl, rfl, rfl, h⟩
    · rw [if_neg c2] at h
      by_cases c3 : (12 : Int32) < ((((u1).toUInt32 >>> ((u4).toUInt32 &&& Int32.toUInt32 31)).toInt32) &&& (127 : Int32))
      · rw [if_pos c3] at h
        obtain ⟨r9, M9, z9, d9, e9, h⟩ := h
        exact ⟨r9, M9, z9, d9, t_X2_fill_24_fft_at24 hN c1 c2 c3 e9, h⟩
      · rw [if_neg c3] at h
        obtain ⟨k4, ek4, h⟩ := h
        obtain ⟨lk4, h⟩ := h
        obtain ⟨r9, M9, z9, d9, e9, h⟩ := h
        exact ⟨r9, M9, z9, d9, t_X2_fill_24_fff_at24 hN c1 c2 c3 ek4 lk4 e9, h⟩
theorem TX2_fits_0 {N0 : Nat} {K : Nat → Nat} {d C : Nat} {p0 : Int32} {p1 : Int32} {p2 : Int32} {s : cS} {G : gm_H} {sz sl : Nat} {Q : Int32 → cS → Prop} (hN : N0 ≤ C) (h : if p0 = p1 then (Q (1 : Int32) s) else (if (6 : Int32) < (((p0).toUInt32 >>> (((21 : Int32)).toUInt32 &&& Int32.toUInt32 31)).toInt32) then (if (12 : Int32) < (((p0).toUInt32 >>> (((21 : Int32)).toUInt32 &&& Int32.toUInt32 31)).toInt32) then (if (((p0).toUInt32 >>> (((21 : Int32)).toUInt32 &&& Int32.toUInt32 31)).toInt32) = (((p1).toUInt32 >>> (((21 : Int32)).toUInt32 &&& Int32.toUInt32 31)).toInt32) then (hX2_fits_99 N0 K d C p0 p1 (1 : Int32) (14 : Int32) s G sz sl Q) else (hX2_fits_99 N0 K d C p0 p1 (0 : Int32) (14 : Int32) s G sz sl Q)) else (∃ k4 : Nat, ((((p0).toUInt32 >>> (((21 : Int32)).toUInt32 &&& Int32.toUInt32 31)).toInt32) = nI k4) ∧ ((k4 < 13) ∧ (if (s.2.1 16 k4) = p1 then (Q (1 : Int32) s) else (Q (0 : Int32) s))))) else (∃ k3 : Nat, (((((p0).toUInt32 >>> (((21 : Int32)).toUInt32 &&& Int32.toUInt32 31)).toInt32) + (6 : Int32)) = nI k3) ∧ ((k3 < 13) ∧ (if (p2 &&& ((1 : Int32) <<< (((((p0).toUInt32 >>> (((21 : Int32)).toUInt32 &&& Int32.toUInt32 31)).toInt32) - (1 : Int32)) &&& 31))) = 0 then (Q (1 : Int32) (cA s 16 (upd (s.2.1 16) k3 p1))) else (if (p1 &&& (2097151 : Int32)) = 0 then (Q (1 : Int32) (cA s 16 (upd (s.2.1 16) k3 p1))) else (Q (0 : Int32) (cA s 16 (upd (s.2.1 16) k3 p1))))))))) : hX2_fits_0 N0 K d C p0 p1 p2 s G sz sl Q := by
  by_cases c1 : p0 = p1
  · rw [if_pos c1] at h
    exact ⟨_, _, _, _, t_X2_fits_0_f hN c1, _, _, rfl, rfl, rfl, rfl, h⟩
  · rw [if_neg c1] at h
    by_cases c2 : (6 : Int32) < (((p0).toUInt32 >>> (((21 : Int32)).toUInt32 &&& Int32.toUInt32 31)).toInt32)
    · rw [if_pos c2] at h
      by_cases c3 : (12 : Int32) < (((p0).toUInt32 >>> (((21 : Int32)).toUInt32 &&& Int32.toUInt32 31)).toInt32)
      · rw [if_pos c3] at h
        by_cases c4 : (((p0).toUInt32 >>> (((21 : Int32)).toUInt32 &&& Int32.toUInt32 31)).toInt32) = (((p1).toUInt32 >>> (((21 : Int32)).toUInt32 &&& Int32.toUInt32 31)).toInt32)
        · rw [if_pos c4] at h
          obtain ⟨r9, M9, z9, d9, e9, h⟩ := h
          exact ⟨r9, M9, z9, d9, t_X2_fits_0_tttf_at99 hN c1 c2 c3 c4 e9, h⟩
        · rw [if_neg c4] at h
          obtain ⟨r9, M9, z9, d9, e9, h⟩ := h
          exact ⟨r9, M9, z9, d9, t_X2_fits_0_tttt_at99 hN c1 c2 c3 c4 e9, h⟩
      · rw [if_neg c3] at h
        obtain ⟨k4, ek4, h⟩ := h
        obtain ⟨lk4, h⟩ := h
        by_cases c5 : (s.2.1 16 k4) = p1
        · rw [if_pos c5] at h
          exact ⟨_, _, _, _, t_X2_fits_0_ttff hN c1 c2 c3 ek4 lk4 c5, _, _, rfl, rfl, rfl, rfl, h⟩
        · rw [if_neg c5] at h
          exact ⟨_, _, _, _, t_X2_fits_0_ttft hN c1 c2 c3 ek4 lk4 c5, _, _, rfl, rfl, rfl, rfl, h⟩
    · rw [if_neg c2] at h
      obtain ⟨k3, ek3, h⟩ := h
      obtain ⟨lk3, h⟩ := h
      by_cases c4 : (p2 &&& ((1 : Int32) <<< (((((p0).toUInt32 >>> (((21 : Int32)).toUInt32 &&& Int32.toUInt32 31)).toInt32) - (1 : Int32)) &&& 31))) = 0
      · rw [if_pos c4] at h
        exact ⟨_, _, _, _, t_X2_fits_0_tft hN c1 c2 ek3 lk3 c4, _, _, rfl, rfl, rfl, rfl, h⟩
      · rw [if_neg c4] at h
        by_cases c5 : (p1 &&& (2097151 : Int32)) = 0
        · rw [if_pos c5] at h
          exact ⟨_, _, _, _, t_X2_fits_0_tfff hN c1 c2 ek3 lk3 c4 c5, _, _, rfl, rfl, rfl, rfl, h⟩
        · rw [if_neg c5] at h
          exact ⟨_, _, _, _, t_X2_fits_0_tfft hN c1 c2 ek3 lk3 c4 c5, _, _, rfl, rfl, rfl, rfl, h⟩
theorem kX2_fits.of {N0 : Nat} {K : Nat → Nat} {d C : Nat} {p0 : Int32} {p1 : Int32} {p2 : Int32} {s : cS} {G : gm_H} {sz : Nat} {Q : Int32 → cS → Prop} (h : hX2_fits_0 N0 K d C p0 p1 p2 s G sz 0 Q) : kX2_fits N0 K (d + 1) C p0 p1 p2 s G sz Q := gC.of rfl (by decide) (Nat.le_of_ble_eq_true rfl) rfl h
theorem TX2_fits_99 {N0 : Nat} {K : Nat → Nat} {d C : Nat} {u1 : Int32} {u2 : Int32} {u5 : Int32} {u6 : Int32} {s : cS} {G : gm_H} {sz sl : Nat} {Q : Int32 → cS → Prop} (hN : N0 ≤ C) (h : if u6 < 0 then ((u5 = 0 ∨ u5 = 1) ∧ (Q u5 s)) else (if u5 = 0 then ((u5 = 0 ∨ u5 = 1) ∧ (Q u5 s)) else (if ((((u1).toUInt32 >>> ((u6).toUInt32 &&& Int32.toUInt32 31)).toInt32) &&& (127 : Int32)) = 0 then (if ((((u1).toUInt32 >>> ((u6).toUInt32 &&& Int32.toUInt32 31)).toInt32) &&& (127 : Int32)) = ((((u2).toUInt32 >>> ((u6).toUInt32 &&& Int32.toUInt32 31)).toInt32) &&& (127 : Int32)) then (hX2_fits_99 N0 K d C u1 u2 (1 : Int32) (u6 + (-7 : Int32)) s G sz sl Q) else (hX2_fits_99 N0 K d C u1 u2 (0 : Int32) (u6 + (-7 : Int32)) s G sz sl Q)) else (if ((((u2).toUInt32 >>> ((u6).toUInt32 &&& Int32.toUInt32 31)).toInt32) &&& (127 : Int32)) = 0 then (if ((((u1).toUInt32 >>> ((u6).toUInt32 &&& Int32.toUInt32 31)).toInt32) &&& (127 : Int32)) = ((((u2).toUInt32 >>> ((u6).toUInt32 &&& Int32.toUInt32 31)).toInt32) &&& (127 : Int32)) then (hX2_fits_99 N0 K d C u1 u2 (1 : Int32) (u6 + (-7 : Int32)) s G sz sl Q) else (hX2_fits_99 N0 K d C u1 u2 (0 : Int32) (u6 + (-7 : Int32)) s G sz sl Q)) else (if ((((u1).toUInt32 >>> ((u6).toUInt32 &&& Int32.toUInt32 31)).toInt32) &&& (127 : Int32)) ≤ (12 : Int32) then (if (6 : Int32) < ((((u1).toUInt32 >>> ((u6).toUInt32 &&& Int32.toUInt32 31)).toInt32) &&& (127 : Int32)) then (∃ k7 : Nat, (((((u1).toUInt32 >>> ((u6).toUInt32 &&& Int32.toUInt32 31)).toInt32) &&& (127 : Int32)) = nI k7) ∧ ((k7 < 13) ∧ (if (s.2.1 16 k7) = (((((u2).toUInt32 >>> ((u6).toUInt32 &&& Int32.toUInt32 31)).toInt32) &&& (127 : Int32)) <<< ((21 : Int32) &&& 31)) then (hX2_fits_99 N0 K d C u1 u2 (1 : Int32) (u6 + (-7 : Int32)) s G sz sl Q) else (hX2_fits_99 N0 K d C u1 u2 (0 : Int32) (u6 + (-7 : Int32)) s G sz sl Q)))) else (∃ k7 : Nat, ((((((u1).toUInt32 >>> ((u6).toUInt32 &&& Int32.toUInt32 31)).toInt32) &&& (127 : Int32)) + (6 : Int32)) = nI k7) ∧ ((k7 < 13) ∧ (hX2_fits_99 N0 K d C u1 u2 u5 (u6 + (-7 : Int32)) (cA s 16 (upd (s.2.1 16) k7 (((((u2).toUInt32 >>> ((u6).toUInt32 &&& Int32.toUInt32 31)).toInt32) &&& (127 : Int32)) <<< ((21 : Int32) &&& 31)))) G sz sl Q)))) else (if ((((u1).toUInt32 >>> ((u6).toUInt32 &&& Int32.toUInt32 31)).toInt32) &&& (127 : Int32)) = ((((u2).toUInt32 >>> ((u6).toUInt32 &&& Int32.toUInt32 31)).toInt32) &&& (127 : Int32)) then (hX2_fits_99 N0 K d C u1 u2 (1 : Int32) (u6 + (-7 : Int32)) s G sz sl Q) else (hX2_fits_99 N0 K d C u1 u2 (0 : Int32) (u6 + (-7 : Int32)) s G sz sl Q))))))) : hX2_fits_99 N0 K d C u1 u2 u5 u6 s G sz sl Q := by
  by_cases c1 : u6 < 0
  · rw [if_pos c1] at h
    obtain ⟨z2, h⟩ := h
    exact ⟨_, _, _, _, t_X2_fits_99_t hN c1 z2, _, _, rfl, rfl, rfl, rfl, h⟩
  · rw [if_neg c1] at h
    by_cases c2 : u5 = 0
    · rw [if_pos c2] at h
      obtain ⟨z3, h⟩ := h
      exact ⟨_, _, _, _, t_X2_fits_99_ft hN c1 c2 z3, _, _, rfl, rfl, rfl, rfl, h⟩
    · rw [if_neg c2] at h
      by_cases c3 : ((((u1).toUInt32 >>> ((u6).toUInt32 &&& Int32.toUInt32 31)).toInt32) &&& (127 : Int32)) = 0
      · rw [if_pos c3] at h
        by_cases c4 : ((((u1).toUInt32 >>> ((u6).toUInt32 &&& Int32.toUInt32 31)).toInt32) &&& (127 : Int32)) = ((((u2).toUInt32 >>> ((u6).toUInt32 &&& Int32.toUInt32 31)).toInt32) &&& (127 : Int32))
        · rw [if_pos c4] at h
          obtain ⟨r9, M9, z9, d9, e9, h⟩ := h
          exact ⟨r9, M9, z9, d9, t_X2_fits_99_fftf_at99 hN c1 c2 c3 c4 e9, h⟩
        · rw [if_neg c4] at h
          obtain ⟨r9, M9, z9, d9, e9, h⟩ := h
          exact ⟨r9, M9, z9, d9, t_X2_fits_99_fftt_at99 hN c1 c2 c3 c4 e9, h⟩
      · rw [if_neg c3] at h
        by_cases c4 : ((((u2).toUInt32 >>> ((u6).toUInt32 &&& Int32.toUInt32 31)).toInt32) &&& (127 : Int32)) = 0
        · rw [if_pos c4] at h
          by_cases c5 : ((((u1).toUInt32 >>> ((u6).toUInt32 &&& Int32.toUInt32 31)).toInt32) &&& (127 : Int32)) = ((((u2).toUInt32 >>> ((u6).toUInt32 &&& Int32.toUInt32 31)).toInt32) &&& (127 : Int32))
          · rw [if_pos c5] at h
            obtain ⟨r9, M9, z9, d9, e9, h⟩ := h
            exact ⟨r9, M9, z9, d9, t_X2_fits_99_ffftf_at99 hN c1 c2 c3 c4 c5 e9, h⟩
          · rw [if_neg c5] at h
            obtain ⟨r9, M9, z9, d9, e9, h⟩ := h
            exact ⟨r9, M9, z9, d9, t_X2_fits_99_ffftt_at99 hN c1 c2 c3 c4 c5 e9, h⟩
        · rw [if_neg c4] at h
          by_cases c5 : ((((u1).toUInt32 >>> ((u6).toUInt32 &&& Int32.toUInt32 31)).toInt32) &&& (127 : Int32)) ≤ (12 : Int32)
          · rw [if_pos c5] at h
            by_cases c6 : (6 : Int32) < ((((u1).toUInt32 >>> ((u6).toUInt32 &&& Int32.toUInt32 31)).toInt32) &&& (127 : Int32))
            · rw [if_pos c6] at h
              obtain ⟨k7, ek7, h⟩ := h
              obtain ⟨lk7, h⟩ := h
              by_cases c8 : (s.2.1 16 k7) = (((((u2).toUInt32 >>> ((u6).toUInt32 &&& Int32.toUInt32 31)).toInt32) &&& (127 : Int32)) <<< ((21 : Int32) &&& 31))
              · rw [if_pos c8] at h
                obtain ⟨r9, M9, z9, d9, e9, h⟩ := h
                exact ⟨r9, M9, z9, d9, t_X2_fits_99_ffffttf_at99 hN c1 c2 c3 c4 c5 c6 ek7 lk7 c8 e9, h⟩
              · rw [if_neg c8] at h
                obtain ⟨r9, M9, z9, d9, e9, h⟩ := h
                exact ⟨r9, M9, z9, d9, t_X2_fits_99_ffffttt_at99 hN c1 c2 c3 c4 c5 c6 ek7 lk7 c8 e9, h⟩
            · rw [if_neg c6] at h
              obtain ⟨k7, ek7, h⟩ := h
              obtain ⟨lk7, h⟩ := h
              obtain ⟨r9, M9, z9, d9, e9, h⟩ := h
              exact ⟨r9, M9, z9, d9, t_X2_fits_99_fffftf_at99 hN c1 c2 c3 c4 c5 c6 ek7 lk7 e9, h⟩
          · rw [if_neg c5] at h
            by_cases c6 : ((((u1).toUInt32 >>> ((u6).toUInt32 &&& Int32.toUInt32 31)).toInt32) &&& (127 : Int32)) = ((((u2).toUInt32 >>> ((u6).toUInt32 &&& Int32.toUInt32 31)).toInt32) &&& (127 : Int32))
            · rw [if_pos c6] at h
              obtain ⟨r9, M9, z9, d9, e9, h⟩ := h
              exact ⟨r9, M9, z9, d9, t_X2_fits_99_ffffff_at99 hN c1 c2 c3 c4 c5 c6 e9, h⟩
            · rw [if_neg c6] at h
              obtain ⟨r9, M9, z9, d9, e9, h⟩ := h
              exact ⟨r9, M9, z9, d9, t_X2_fits_99_ffffft_at99 hN c1 c2 c3 c4 c5 c6 e9, h⟩
