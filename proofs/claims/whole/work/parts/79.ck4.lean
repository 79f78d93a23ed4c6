/-! the law: calls that may throw -/
theorem lawB_ret {N0 : Nat} {K : Nat → Nat} {d cx mi1 nL x out sz sz1 d1 : Nat} {code : Nat → Option Int32} {is : List Value} {M M1 : gm_H} {own : String} {y : MethodName} {cc : ByteArray} {ret : Option FieldType} {I : Nat → Option Instr} {lk : Nat → Option gm_L} {ini : Bool} {fs : List Value} {v : Int32} {f : Nat → Int64} (hm : ra_mt K mi1 = some (own, y, cc, nL, ret, I, lk, ini)) (hx : M x = some (.inr (cx, fs))) (hl : (gm_sl (.ref x :: is)).length ≤ nL) (hN : N0 ≤ out) (he : gm_ev N0 K ra_nm (ra_mt K) d ret I lk 0 (gm_entry nL (.ref x :: is)) [] M sz 0 (.returned (some (.int v)), M1, sz1, d1)) (ho : M1 out = some (.inl (.long, 1, .inr (.inl f)))) : ∃ n, gm_lawB N0 K ra_nm (ra_mt K) d cx n mi1 code x is out M sz = some (.returned (some (.int 0)), gm_set M1 out (.inl (.long, 1, .inr (.inl (vp_updL f 0 v.toInt64)))), sz1, d1) := by
  obtain ⟨n, k, h⟩ := he
  have h' := gm_exec_up (call' := gm_only (gm_run N0 K ra_nm (ra_mt K) d (max n k))) (fun mi av M sz R h => gm_only_up (fun mi av M sz R h => gm_run_up d d n (max n k) mi av M sz R (Nat.le_refl d) (Nat.le_max_left n k) h) h) _ _ _ _ _ _ _ _ _ (Nat.le_max_right n k) h
  refine ⟨max n k, ?_⟩
  unfold gm_lawB
  simp only [hm, hx, hl, hN, and_self, if_true, h', ho]
theorem lawB_thr {N0 : Nat} {K : Nat → Nat} {d cx mi1 nL x out sz sz1 d1 e : Nat} {code : Nat → Option Int32} {is : List Value} {M M1 : gm_H} {own : String} {y : MethodName} {cc : ByteArray} {ret : Option FieldType} {I : Nat → Option Instr} {lk : Nat → Option gm_L} {ini : Bool} {fs : List Value} {v : Int32} (hm : ra_mt K mi1 = some (own, y, cc, nL, ret, I, lk, ini)) (hx : M x = some (.inr (cx, fs))) (hl : (gm_sl (.ref x :: is)).length ≤ nL) (hN : N0 ≤ out) (he : gm_ev N0 K ra_nm (ra_mt K) d ret I lk 0 (gm_entry nL (.ref x :: is)) [] M sz 0 (.threw e, M1, sz1, d1)) (hk : code e = some v) : ∃ n, gm_lawB N0 K ra_nm (ra_mt K) d cx n mi1 code x is out M sz = some (.returned (some (.int v)), M1, sz1, d1) := by
  obtain ⟨n, k, h⟩ := he
  have h' := gm_exec_up (call' := gm_only (gm_run N0 K ra_nm (ra_mt K) d (max n k))) (fun mi av M sz R h => gm_only_up (fun mi av M sz R h => gm_run_up d d n (max n k) mi av M sz R (Nat.le_refl d) (Nat.le_max_left n k) h) h) _ _ _ _ _ _ _ _ _ (Nat.le_max_right n k) h
  refine ⟨max n k, ?_⟩
  unfold gm_lawB
  simp only [hm, hx, hl, hN, and_self, if_true, h', hk]
section
variable {N0 : Nat} {K : Nat → Nat} {C b L : Nat} {xs : Nat → Int32} {s s' : cS} {G : gm_H} {sz sz' : Nat} {m m' : mS}
theorem LV.of {f : Nat → Int64} {G2 : gm_H} (hb : b < C ∧ G2 b = some (.inl (gm_scr, L, .inl xs))) (hf : G2 (C + 184) = some (.inl (.long, 1, .inr (.inl f)))) (hi : IV K C s G2 sz m) : LV K C b L xs s (bM (C + 154) (mH (C + 154) m) G2) sz m ∧ bM C (cH C s) (bM (C + 154) (mH (C + 154) m) G2) (C + 184) = some (.inl (.long, 1, .inr (.inl f))) := by
  have hbd := hi.1.1.2.2.1
  have hsz := hi.1.1.2.2.2
  have hf' : bM (C + 154) (mH (C + 154) m) G2 (C + 184) = some (.inl (.long, 1, .inr (.inl f))) := (bM_out (by rw [mH_len]; omega)).trans hf
  refine ⟨⟨fun j hj => ?_, ⟨f, hf'⟩, ⟨hb.1, (bM_out (by rw [mH_len]; omega)).trans hb.2⟩, hi.G (bd_bM hbd (by rw [mH_len]; omega)) (fun a ha => bM_out (by rw [mH_len]; omega))⟩, (bM_out (by rw [cH_len]; omega)).trans hf'⟩
  unfold bM
  rw [if_pos (by rw [mH_len]; omega), show C + 154 + j - (C + 154) = j by omega]
theorem LV.tail {d2 mi2 : Nat} {av2 : Nat → List Value} {r : Int32} {f : Nat → Int64} {G2 : gm_H} (hN : N0 ≤ C) (hj : ∀ j, j < 30 → G2 (C + 154 + j) = (mH (C + 154) m)[j]?) (hb : b < C ∧ G2 b = some (.inl (gm_scr, L, .inl xs))) (hf : G2 (C + 184) = some (.inl (.long, 1, .inr (.inl f)))) (hi : IV K C s' G2 sz' m') (em : mC vI d2 mi2 av2 m (fun r2 m2 => r2 = r ∧ m2 = m')) (hd2 : d2 ≤ 101) (hw2 : ra_wt mi2 = none) : ∃ M13 G3, bM C (cH C s') G2 b = some (.inl (gm_scr, L, .inl xs)) ∧ (∃ fs, bM C (cH C s') G2 (C + 154) = some (.inr (11, fs))) ∧ gm_toC (gm_lawC N0 K ra_nm (ra_mt K) 100 10 ra_wt) mi2 (av2 (C + 154)) (bM C (cH C s') G2) sz' (.returned (some (.int r)), M13, sz', 0) ∧ (∃ fs, M13 (C + 154) = some (.inr (11, fs))) ∧ gm_toC (gm_lawC N0 K ra_nm (ra_mt K) 100 10 ra_wt) 119 [.ref (C + 154)] M13 sz' (.returned (some (.int (m'.1 0))), bM C (cH C s') G3, sz', 0) ∧ LV K C b L xs s' G3 sz' m' ∧ bM C (cH C s') G3 (C + 184) = some (.inl (.long, 1, .inr (.inl f))) := by
  obtain ⟨r2, m2, ⟨q1, q2⟩, t⟩ := LV.call (N0 := N0) (K := K) (C := C) (s' := s') (sz' := sz') hN hj em hd2 hw2
  subst q1
  subst q2
  obtain ⟨v1, e1⟩ := LV.of hb hf hi
  have th : mC vI 1 119 (fun B => [.ref B]) m2 (fun r3 m3 => r3 = m2.1 0 ∧ m3 = m2) := m_thrown.of (d := 0) (T_thrown_0 ⟨rfl, rfl⟩)
  obtain ⟨r3, m3, ⟨p1, p2⟩, t3⟩ := LV.call (N0 := N0) (K := K) (C := C) (s' := s') (sz' := sz') hN v1.1 th (by decide) rfl
  subst p1
  subst p2
  obtain ⟨f1, hf1⟩ := v1.2.1
  have ef : (some (.inl (.long, 1, .inr (.inl f1))) : Option gm_E) = some (.inl (.long, 1, .inr (.inl f))) := by
    rw [← hf1, ← e1]
    exact (bM_out (by rw [cH_len]; omega)).symm
  obtain ⟨v2, e2⟩ := LV.of v1.2.2.1 (hf1.trans ef) v1.2.2.2
  exact ⟨_, _, (bM_out (by rw [cH_len]; have := hb.1; omega)).trans hb.2, ⟨_, (bM_out (by rw [cH_len]; omega)).trans (hj 0 (by decide))⟩, t, ⟨_, (bM_out (by rw [cH_len]; omega)).trans (v1.1 0 (by decide))⟩, t3, v2, e2⟩
theorem LV.thr {d d2 mi1 mi2 nL : Nat} {own : String} {y : MethodName} {cc : ByteArray} {ret : Option FieldType} {I : Nat → Option Instr} {lk : Nat → Option gm_L} {ini : Bool} {is : List Value} {av2 : Nat → List Value} {code : Nat → Option Int32} {l : List (Nat × Int32)} (hN : N0 ≤ C) (h : LV K C b L xs s G sz m) (hm : ra_mt K mi1 = some (own, y, cc, nL, ret, I, lk, ini)) (hl : (gm_sl (.ref C :: is)).length ≤ nL) (hcode : ∀ e k, (e, k) ∈ l → code e = some k ∧ k ≠ 0) (hc : gP wO N0 K d ret I lk 0 (gm_entry nL (.ref C :: is)) (bM C (cH C s) G) sz 0 (kQ C (fun o s' G' sz' dd => mC vI d2 mi2 av2 m (fun r2 m' => oR l o r2 m' ∧ gB C G G' ∧ IV K C s' G' sz' m' ∧ sz' ≤ sz + 400 ∧ dd ≤ 3000)))) (hd : d ≤ 100) (hd2 : d2 ≤ 101) (hw2 : ra_wt mi2 = none) : ∃ r5 r11 M7 M13 s' G' sz' dd m', (∃ n, gm_lawB N0 K ra_nm (ra_mt K) 100 10 n mi1 code C is (C + 184) (bM C (cH C s) G) sz = some (.returned (some (.int r5)), M7, sz', dd)) ∧ M7 b = some (.inl (gm_scr, L, .inl xs)) ∧ (∃ fs, M7 (C + 154) = some (.inr (11, fs))) ∧ gm_toC (gm_lawC N0 K ra_nm (ra_mt K) 100 10 ra_wt) mi2 (av2 (C + 154)) M7 sz' (.returned (some (.int r11)), M13, sz', 0) ∧ (∃ fs, M13 (C + 154) = some (.inr (11, fs))) ∧ gm_toC (gm_lawC N0 K ra_nm (ra_mt K) 100 10 ra_wt) 119 [.ref (C + 154)] M13 sz' (.returned (some (.int r5)), bM C (cH C s') G', sz', 0) ∧ LV K C b L xs s' G' sz' m' ∧ sz' ≤ sz + 400 ∧ dd ≤ 3000 ∧ (r5 = 0 → ∃ f, bM C (cH C s') G' (C + 184) = some (.inl (.long, 1, .inr (.inl f))) ∧ f 0 = r11.toInt64) := by
  obtain ⟨o, M', sz', dd, e, s', G', eM, r, m', em, ho, hg, hi, hz, hdd⟩ := hc
  subst eM
  obtain ⟨hj, ⟨f, hf⟩, hb⟩ := h.cla hg hi
  have e' := gm_ev.up e hd
  obtain ⟨fs, hx⟩ := LV.cls (C := C) (s := s) (G := G)
  have ho' : bM C (cH C s') G' (C + 184) = some (.inl (.long, 1, .inr (.inl f))) := (bM_out (by rw [cH_len]; omega)).trans hf
  rcases ho with ⟨eo, e0⟩ | ⟨ex, k, hk, eo, e0⟩
  · subst eo
    obtain ⟨n, hn⟩ := lawB_ret (code := code) hm hx hl (show N0 ≤ C + 184 by omega) e' ho'
    rw [bM_setG (by rw [cH_len]; omega)] at hn
    obtain ⟨M13, G3, t0, t1, t2, t3, t4, t5, t6⟩ := LV.tail (N0 := N0) (G2 := gm_set G' (C + 184) (.inl (.long, 1, .inr (.inl (vp_updL f 0 r.toInt64))))) (b := b) (L := L) (xs := xs) (s' := s') (sz' := sz') (m := m) (m' := m') (r := r) hN (fun j hj' => (gm_set_ne (by omega)).trans (hj j hj')) ⟨hb.1, (gm_set_ne (by have := hb.1; omega)).trans hb.2⟩ gm_set_eq (hi.G (hi.1.1.2.2.1.set hf) (fun a ha => gm_set_ne (by omega))) ⟨r, m', em, rfl, rfl⟩ hd2 hw2
    rw [e0] at t4
    exact ⟨0, r, _, M13, s', G3, sz', dd, m', ⟨n, hn⟩, t0, t1, t2, t3, t4, t5, hz, hdd, fun _ => ⟨_, t6, vl_eq⟩⟩
  · subst eo
    obtain ⟨c1, c2⟩ := hcode ex k hk
    obtain ⟨n, hn⟩ := lawB_thr (code := code) hm hx hl (show N0 ≤ C + 184 by omega) e' c1
    obtain ⟨M13, G3, t0, t1, t2, t3, t4, t5, t6⟩ := LV.tail (N0 := N0) (G2 := G') (b := b) (L := L) (xs := xs) (s' := s') (sz' := sz') (m := m) (m' := m') (r := r) hN hj hb hf hi ⟨r, m', em, rfl, rfl⟩ hd2 hw2
    rw [e0] at t4
    exact ⟨k, r, _, M13, s', G3, sz', dd, m', ⟨n, hn⟩, t0, t1, t2, t3, t4, t5, hz, hdd, fun z => absurd z c2⟩
end
