/-! the law: a step of its loop, a lemma a call (by gen/lawstep.py) -/
theorem lw_k2 (n : Nat) : nI n + (2 : Int32) = nI (n + 2) := nI_add n 2
theorem lw_k3 (n : Nat) : nI n + (3 : Int32) = nI (n + 3) := nI_add n 3
theorem lw_k4 (n : Nat) : nI n + (4 : Int32) = nI (n + 4) := nI_add n 4
theorem lw_c2 {L i : Nat} (hL : L ≤ 2048) (hi : 4 * i + 4 ≤ L) : ¬ ((nI L) - (4 : Int32)) < nI (4 * i) := by
  rw [show (4 : Int32) = nI 4 from rfl, nI_sub (by omega)]
  exact Int32.not_lt.mpr (nI_le (by omega) (by omega))
theorem lg_self (x : Int64) : lg_cmp x x = 0 := by
  unfold lg_cmp
  rw [if_neg (fun h : x > x => Int64.lt_irrefl h), if_pos rfl]
def lwEV (N0 : Nat) (K : Nat → Nat) (b C i : Nat) (M : gm_H) (sz sl : Nat) (R : gm_R) : Prop := gm_evC N0 ra_nm (gm_lawC N0 K ra_nm (ra_mt K) 100 10 ra_wt) (some .boolean) (gm_I cL_law) (gm_lkf (lkL false K)) 23 [some (.ref b), some (.ref C), some (.ref (C + 154)), some (.ref (C + 184)), some (.int (nI i)), none, none] [] M sz sl R
def stp (N0 : Nat) (K : Nat → Nat) (C b L i : Nat) (xs : Nat → Int32) (s : cS) (G : gm_H) (sz : Nat) : Prop := ∃ s' G' m' sz' dd, LV K C b L xs s' G' sz' m' ∧ sz' ≤ sz + 400 ∧ dd ≤ 3000 ∧ ∀ sl R, lwEV N0 K b C (4 * i + 4) (bM C (cH C s') G') sz' (sl + dd) R → lwEV N0 K b C (4 * i) (bM C (cH C s) G) sz sl R
theorem ro_of {N0 : Nat} {K : Nat → Nat} {C d mi d2 mi2 : Nat} {av : List Value} {av2 : Nat → List Value} {s : cS} {G : gm_H} {sz : Nat} {m : mS} (h : gC wI N0 K d mi av (bM C (cH C s) G) sz (kQ C (fun r s' G' sz' dd => s' = s ∧ G' = G ∧ sz' = sz ∧ dd = 0 ∧ mC vI d2 mi2 av2 m (fun r2 m' => r2 = r ∧ IV K C s G sz m')))) : gC wI N0 K d mi av (bM C (cH C s) G) sz (kQ C (fun r s' G' sz' dd => G' = G ∧ sz' = sz ∧ dd = 0 ∧ mC vI d2 mi2 av2 m (fun r2 m' => r2 = r ∧ IV K C s' G sz m'))) := gC.mono h (fun r M' sz' dd hq => by
  obtain ⟨s', G', eM, es, eG, ez, ed, q⟩ := hq
  exact ⟨s', G', eM, eG, ez, ed, by rw [es]; exact q⟩)
def lw_code (w : Nat) : Nat → Option Int32 := match ra_wt w with
  | some (_, _, c) => c
  | none => fun _ => none
theorem ls_write {N0 : Nat} {K : Nat → Nat} {C b L i : Nat} {xs : Nat → Int32} {s : cS} {G : gm_H} {sz : Nat} {m : mS} (hN : N0 ≤ C) (hL : L ≤ 2048) (h : LV K C b L xs s G sz m) (hi : 4 * i + 4 ≤ L) (c4 : (xs (4 * i) &&& (15 : Int32)) = 0) : stp N0 K C b L i xs s G sz := by
  have c2 := lw_c2 hL hi
  have k1 : nI (4 * i) + (1 : Int32) = nI (4 * i + 1) := nI_1 _
  have k2 : nI (4 * i) + (2 : Int32) = nI (4 * i + 2) := lw_k2 _
  have k3 : nI (4 * i) + (3 : Int32) = nI (4 * i + 3) := lw_k3 _
  have e4 : nI (4 * i) + (4 : Int32) = nI (4 * i + 4) := lw_k4 _
  obtain ⟨fs0, e0⟩ := LV.cls (C := C) (s := s) (G := G)
  have hc : gC wI N0 K 1 103 [.ref C, .long ((((xs (4 * i + 1)).toInt64) <<< (((32 : Int32)).toInt64 &&& 63)) ||| (((xs (4 * i + 2)).toInt64) &&& (4294967295 : Int64)))] (bM C (cH C s) G) sz (kQ C (fun r s' G' sz' dd => G' = G ∧ sz' = sz ∧ dd = 0 ∧ mC vI 1 121 (fun B => [.ref B, .long ((((xs (4 * i + 1)).toInt64) <<< (((32 : Int32)).toInt64 &&& 63)) ||| (((xs (4 * i + 2)).toInt64) &&& (4294967295 : Int64)))]) m (fun r2 m' => r2 = r ∧ IV K C s' G sz m'))) := pm_write (d := 0) (d2 := 0) hN h.2.2.2
  obtain ⟨r, s', m', t1, e1, ⟨fs, e2⟩, t2, v⟩ := LV.both hN h hc (by decide) (by decide) rfl rfl
  exact ⟨s', _, m', sz, 0, v, Nat.le_add_right _ _, Nat.zero_le _, fun sl R k => w_L_law_23_fs0t_at23 h.scr (by omega) c2 rfl (by omega) c4 k1 (by omega) k2 (by omega) e0 t1 e1 (by omega) k1 (by omega) k2 (by omega) e2 t2 rfl (by rw [e4]; exact k)⟩
theorem ls_fault {N0 : Nat} {K : Nat → Nat} {C b L i : Nat} {xs : Nat → Int32} {s : cS} {G : gm_H} {sz : Nat} {m : mS} (hN : N0 ≤ C) (hL : L ≤ 2048) (h : LV K C b L xs s G sz m) (hi : 4 * i + 4 ≤ L) (c4 : (xs (4 * i) &&& (15 : Int32)) = 3) : stp N0 K C b L i xs s G sz := by
  have c2 := lw_c2 hL hi
  have k1 : nI (4 * i) + (1 : Int32) = nI (4 * i + 1) := nI_1 _
  have k2 : nI (4 * i) + (2 : Int32) = nI (4 * i + 2) := lw_k2 _
  have k3 : nI (4 * i) + (3 : Int32) = nI (4 * i + 3) := lw_k3 _
  have e4 : nI (4 * i) + (4 : Int32) = nI (4 * i + 4) := lw_k4 _
  obtain ⟨fs0, e0⟩ := LV.cls (C := C) (s := s) (G := G)
  have hc : gC wI N0 K 1 106 [.ref C, .int (xs (4 * i + 1))] (bM C (cH C s) G) sz (kQ C (fun r s' G' sz' dd => G' = G ∧ sz' = sz ∧ dd = 0 ∧ mC vI 1 169 (fun B => [.ref B, .int (xs (4 * i + 1))]) m (fun r2 m' => r2 = r ∧ IV K C s' G sz m'))) := ro_of (pm_fault (d := 0) (d2 := 0) hN h.2.2.2)
  obtain ⟨r, s', m', t1, e1, ⟨fs, e2⟩, t2, v⟩ := LV.both hN h hc (by decide) (by decide) rfl rfl
  exact ⟨s', _, m', sz, 0, v, Nat.le_add_right _ _, Nat.zero_le _, fun sl R k => w_L_law_23_fs3t_at23 h.scr (by omega) c2 rfl (by omega) c4 k1 (by omega) e0 t1 e1 (by omega) k1 (by omega) e2 t2 rfl (by rw [e4]; exact k)⟩
theorem ls_many {N0 : Nat} {K : Nat → Nat} {C b L i : Nat} {xs : Nat → Int32} {s : cS} {G : gm_H} {sz : Nat} {m : mS} (hN : N0 ≤ C) (hL : L ≤ 2048) (h : LV K C b L xs s G sz m) (hi : 4 * i + 4 ≤ L) (c4 : (xs (4 * i) &&& (15 : Int32)) = 4) : stp N0 K C b L i xs s G sz := by
  have c2 := lw_c2 hL hi
  have k1 : nI (4 * i) + (1 : Int32) = nI (4 * i + 1) := nI_1 _
  have k2 : nI (4 * i) + (2 : Int32) = nI (4 * i + 2) := lw_k2 _
  have k3 : nI (4 * i) + (3 : Int32) = nI (4 * i + 3) := lw_k3 _
  have e4 : nI (4 * i) + (4 : Int32) = nI (4 * i + 4) := lw_k4 _
  obtain ⟨fs0, e0⟩ := LV.cls (C := C) (s := s) (G := G)
  have hc : gC wI N0 K 1 107 [.ref C, .int (xs (4 * i + 1))] (bM C (cH C s) G) sz (kQ C (fun r s' G' sz' dd => G' = G ∧ sz' = sz ∧ dd = 0 ∧ mC vI 1 174 (fun B => [.ref B, .int (xs (4 * i + 1))]) m (fun r2 m' => r2 = r ∧ IV K C s' G sz m'))) := ro_of (pm_many (d := 0) (d2 := 0) hN h.2.2.2)
  obtain ⟨r, s', m', t1, e1, ⟨fs, e2⟩, t2, v⟩ := LV.both hN h hc (by decide) (by decide) rfl rfl
  exact ⟨s', _, m', sz, 0, v, Nat.le_add_right _ _, Nat.zero_le _, fun sl R k => w_L_law_23_fs4t_at23 h.scr (by omega) c2 rfl (by omega) c4 k1 (by omega) e0 t1 e1 (by omega) k1 (by omega) e2 t2 rfl (by rw [e4]; exact k)⟩
theorem ls_facts {N0 : Nat} {K : Nat → Nat} {C b L i : Nat} {xs : Nat → Int32} {s : cS} {G : gm_H} {sz : Nat} {m : mS} (hN : N0 ≤ C) (hL : L ≤ 2048) (h : LV K C b L xs s G sz m) (hi : 4 * i + 4 ≤ L) (c4 : (xs (4 * i) &&& (15 : Int32)) = 5) : stp N0 K C b L i xs s G sz := by
  have c2 := lw_c2 hL hi
  have k1 : nI (4 * i) + (1 : Int32) = nI (4 * i + 1) := nI_1 _
  have k2 : nI (4 * i) + (2 : Int32) = nI (4 * i + 2) := lw_k2 _
  have k3 : nI (4 * i) + (3 : Int32) = nI (4 * i + 3) := lw_k3 _
  have e4 : nI (4 * i) + (4 : Int32) = nI (4 * i + 4) := lw_k4 _
  obtain ⟨fs0, e0⟩ := LV.cls (C := C) (s := s) (G := G)
  have hc : gC wI N0 K 3 108 [.ref C, .int (((xs (4 * i + 1)).toUInt32 % 65536).toInt32), .int (xs (4 * i + 2))] (bM C (cH C s) G) sz (kQ C (fun r s' G' sz' dd => G' = G ∧ sz' = sz ∧ dd = 0 ∧ mC vI 10 175 (fun B => [.ref B, .int (((xs (4 * i + 1)).toUInt32 % 65536).toInt32), .int (xs (4 * i + 2))]) m (fun r2 m' => r2 = r ∧ IV K C s' G sz m'))) := ro_of (pm_facts (d := 0) (d2 := 0) hN h.2.2.2)
  obtain ⟨r, s', m', t1, e1, ⟨fs, e2⟩, t2, v⟩ := LV.both hN h hc (by decide) (by decide) rfl rfl
  exact ⟨s', _, m', sz, 0, v, Nat.le_add_right _ _, Nat.zero_le _, fun sl R k => w_L_law_23_fs5t_at23 h.scr (by omega) c2 rfl (by omega) c4 k1 (by omega) k2 (by omega) e0 t1 e1 (by omega) k1 (by omega) k2 (by omega) e2 t2 rfl (by rw [e4]; exact k)⟩
theorem ls_moves {N0 : Nat} {K : Nat → Nat} {C b L i : Nat} {xs : Nat → Int32} {s : cS} {G : gm_H} {sz : Nat} {m : mS} (hN : N0 ≤ C) (hL : L ≤ 2048) (h : LV K C b L xs s G sz m) (hi : 4 * i + 4 ≤ L) (c4 : (xs (4 * i) &&& (15 : Int32)) = 6) : stp N0 K C b L i xs s G sz := by
  have c2 := lw_c2 hL hi
  have k1 : nI (4 * i) + (1 : Int32) = nI (4 * i + 1) := nI_1 _
  have k2 : nI (4 * i) + (2 : Int32) = nI (4 * i + 2) := lw_k2 _
  have k3 : nI (4 * i) + (3 : Int32) = nI (4 * i + 3) := lw_k3 _
  have e4 : nI (4 * i) + (4 : Int32) = nI (4 * i + 4) := lw_k4 _
  obtain ⟨fs0, e0⟩ := LV.cls (C := C) (s := s) (G := G)
  have hc : gC wI N0 K 3 109 [.ref C, .int (xs (4 * i + 1))] (bM C (cH C s) G) sz (kQ C (fun r s' G' sz' dd => G' = G ∧ sz' = sz ∧ dd = 0 ∧ mC vI 10 176 (fun B => [.ref B, .int (xs (4 * i + 1))]) m (fun r2 m' => r2 = r ∧ IV K C s' G sz m'))) := ro_of (pm_moves (d := 0) (d2 := 0) hN h.2.2.2)
  obtain ⟨r, s', m', t1, e1, ⟨fs, e2⟩, t2, v⟩ := LV.both hN h hc (by decide) (by decide) rfl rfl
  exact ⟨s', _, m', sz, 0, v, Nat.le_add_right _ _, Nat.zero_le _, fun sl R k => w_L_law_23_fs6t_at23 h.scr (by omega) c2 rfl (by omega) c4 k1 (by omega) e0 t1 e1 (by omega) k1 (by omega) e2 t2 rfl (by rw [e4]; exact k)⟩
theorem ls_over {N0 : Nat} {K : Nat → Nat} {C b L i : Nat} {xs : Nat → Int32} {s : cS} {G : gm_H} {sz : Nat} {m : mS} (hN : N0 ≤ C) (hL : L ≤ 2048) (h : LV K C b L xs s G sz m) (hi : 4 * i + 4 ≤ L) (c4 : (xs (4 * i) &&& (15 : Int32)) = 7) : stp N0 K C b L i xs s G sz := by
  have c2 := lw_c2 hL hi
  have k1 : nI (4 * i) + (1 : Int32) = nI (4 * i + 1) := nI_1 _
  have k2 : nI (4 * i) + (2 : Int32) = nI (4 * i + 2) := lw_k2 _
  have k3 : nI (4 * i) + (3 : Int32) = nI (4 * i + 3) := lw_k3 _
  have e4 : nI (4 * i) + (4 : Int32) = nI (4 * i + 4) := lw_k4 _
  obtain ⟨fs0, e0⟩ := LV.cls (C := C) (s := s) (G := G)
  have hc : gC wI N0 K 2 110 [.ref C] (bM C (cH C s) G) sz (kQ C (fun r s' G' sz' dd => G' = G ∧ sz' = sz ∧ dd = 0 ∧ mC vI 10 177 (fun B => [.ref B]) m (fun r2 m' => r2 = r ∧ IV K C s' G sz m'))) := ro_of (pm_over (d := 0) (d2 := 0) hN h.2.2.2)
  obtain ⟨r, s', m', t1, e1, ⟨fs, e2⟩, t2, v⟩ := LV.both hN h hc (by decide) (by decide) rfl rfl
  exact ⟨s', _, m', sz, 0, v, Nat.le_add_right _ _, Nat.zero_le _, fun sl R k => w_L_law_23_fs7t_at23 h.scr (by omega) c2 rfl (by omega) c4 e0 t1 e2 t2 rfl (by rw [e4]; exact k)⟩
theorem ls_goal {N0 : Nat} {K : Nat → Nat} {C b L i : Nat} {xs : Nat → Int32} {s : cS} {G : gm_H} {sz : Nat} {m : mS} (hN : N0 ≤ C) (hL : L ≤ 2048) (h : LV K C b L xs s G sz m) (hi : 4 * i + 4 ≤ L) (c4 : (xs (4 * i) &&& (15 : Int32)) = 8) : stp N0 K C b L i xs s G sz := by
  have c2 := lw_c2 hL hi
  have k1 : nI (4 * i) + (1 : Int32) = nI (4 * i + 1) := nI_1 _
  have k2 : nI (4 * i) + (2 : Int32) = nI (4 * i + 2) := lw_k2 _
  have k3 : nI (4 * i) + (3 : Int32) = nI (4 * i + 3) := lw_k3 _
  have e4 : nI (4 * i) + (4 : Int32) = nI (4 * i + 4) := lw_k4 _
  obtain ⟨fs0, e0⟩ := LV.cls (C := C) (s := s) (G := G)
  have hc : gC wI N0 K 3 111 [.ref C, .int (xs (4 * i + 1))] (bM C (cH C s) G) sz (kQ C (fun r s' G' sz' dd => G' = G ∧ sz' = sz ∧ dd = 0 ∧ mC vI 10 178 (fun B => [.ref B, .int (xs (4 * i + 1))]) m (fun r2 m' => r2 = r ∧ IV K C s' G sz m'))) := ro_of (pm_goal (d := 0) (d2 := 0) hN h.2.2.2)
  obtain ⟨r, s', m', t1, e1, ⟨fs, e2⟩, t2, v⟩ := LV.both hN h hc (by decide) (by decide) rfl rfl
  exact ⟨s', _, m', sz, 0, v, Nat.le_add_right _ _, Nat.zero_le _, fun sl R k => w_L_law_23_fs8t_at23 h.scr (by omega) c2 rfl (by omega) c4 k1 (by omega) e0 t1 e1 (by omega) k1 (by omega) e2 t2 rfl (by rw [e4]; exact k)⟩
theorem ls_letter {N0 : Nat} {K : Nat → Nat} {C b L i : Nat} {xs : Nat → Int32} {s : cS} {G : gm_H} {sz : Nat} {m : mS} (hN : N0 ≤ C) (hL : L ≤ 2048) (h : LV K C b L xs s G sz m) (hi : 4 * i + 4 ≤ L) (c4 : (xs (4 * i) &&& (15 : Int32)) = 9) : stp N0 K C b L i xs s G sz := by
  have c2 := lw_c2 hL hi
  have k1 : nI (4 * i) + (1 : Int32) = nI (4 * i + 1) := nI_1 _
  have k2 : nI (4 * i) + (2 : Int32) = nI (4 * i + 2) := lw_k2 _
  have k3 : nI (4 * i) + (3 : Int32) = nI (4 * i + 3) := lw_k3 _
  have e4 : nI (4 * i) + (4 : Int32) = nI (4 * i + 4) := lw_k4 _
  obtain ⟨fs0, e0⟩ := LV.cls (C := C) (s := s) (G := G)
  have hc : gC wI N0 K 2 112 [.ref C, .int (xs (4 * i + 1)), .int (xs (4 * i + 2)), .int (xs (4 * i + 3))] (bM C (cH C s) G) sz (kQ C (fun r s' G' sz' dd => G' = G ∧ sz' = sz ∧ dd = 0 ∧ mC vI 10 179 (fun B => [.ref B, .int (xs (4 * i + 1)), .int (xs (4 * i + 2)), .int (xs (4 * i + 3))]) m (fun r2 m' => r2 = r ∧ IV K C s' G sz m'))) := ro_of (pm_letter (d := 0) (d2 := 0) hN h.2.2.2)
  obtain ⟨r, s', m', t1, e1, ⟨fs, e2⟩, t2, v⟩ := LV.both hN h hc (by decide) (by decide) rfl rfl
  exact ⟨s', _, m', sz, 0, v, Nat.le_add_right _ _, Nat.zero_le _, fun sl R k => w_L_law_23_fs9t_at23 h.scr (by omega) c2 rfl (by omega) c4 k1 (by omega) k2 (by omega) k3 (by omega) e0 t1 e1 (by omega) k1 (by omega) k2 (by omega) k3 (by omega) e2 t2 rfl (by rw [e4]; exact k)⟩
theorem ls_restart {N0 : Nat} {K : Nat → Nat} {C b L i : Nat} {xs : Nat → Int32} {s : cS} {G : gm_H} {sz : Nat} {m : mS} (hN : N0 ≤ C) (hL : L ≤ 2048) (h : LV K C b L xs s G sz m) (hi : 4 * i + 4 ≤ L) (c4 : (xs (4 * i) &&& (15 : Int32)) = 11) : stp N0 K C b L i xs s G sz := by
  have c2 := lw_c2 hL hi
  have k1 : nI (4 * i) + (1 : Int32) = nI (4 * i + 1) := nI_1 _
  have k2 : nI (4 * i) + (2 : Int32) = nI (4 * i + 2) := lw_k2 _
  have k3 : nI (4 * i) + (3 : Int32) = nI (4 * i + 3) := lw_k3 _
  have e4 : nI (4 * i) + (4 : Int32) = nI (4 * i + 4) := lw_k4 _
  obtain ⟨fs0, e0⟩ := LV.cls (C := C) (s := s) (G := G)
  have hc : gC wI N0 K 18 114 [.ref C] (bM C (cH C s) G) sz (kQ C (fun r s' G' sz' dd => G' = G ∧ sz' = sz ∧ dd = 0 ∧ mC vI 2 181 (fun B => [.ref B]) m (fun r2 m' => r2 = r ∧ IV K C s' G sz m'))) := pm_restart (d := 0) (d2 := 0) hN h.2.2.2
  obtain ⟨r, s', m', t1, e1, ⟨fs, e2⟩, t2, v⟩ := LV.both hN h hc (by decide) (by decide) rfl rfl
  exact ⟨s', _, m', sz, 0, v, Nat.le_add_right _ _, Nat.zero_le _, fun sl R k => w_L_law_23_fs11t_at23 h.scr (by omega) c2 rfl (by omega) c4 e0 t1 e2 t2 rfl (by rw [e4]; exact k)⟩
theorem ls_wipe {N0 : Nat} {K : Nat → Nat} {C b L i : Nat} {xs : Nat → Int32} {s : cS} {G : gm_H} {sz : Nat} {m : mS} (hN : N0 ≤ C) (hL : L ≤ 2048) (h : LV K C b L xs s G sz m) (hi : 4 * i + 4 ≤ L) (c4 : (xs (4 * i) &&& (15 : Int32)) = 1) : stp N0 K C b L i xs s G sz := by
  have c2 := lw_c2 hL hi
  have k1 : nI (4 * i) + (1 : Int32) = nI (4 * i + 1) := nI_1 _
  have k2 : nI (4 * i) + (2 : Int32) = nI (4 * i + 2) := lw_k2 _
  have k3 : nI (4 * i) + (3 : Int32) = nI (4 * i + 3) := lw_k3 _
  have e4 : nI (4 * i) + (4 : Int32) = nI (4 * i + 4) := lw_k4 _
  obtain ⟨fs0, e0⟩ := LV.cls (C := C) (s := s) (G := G)
  have h0 : kX11_wipe N0 K 1 C s G sz (fun _ s' => m_wipe 1 m (fun _ m' => IV K C s' G sz m')) := pm_wipe (d := 0) (d2 := 0) hN h.2.2.2
  have hc : gC wU N0 K 1 104 [.ref C] (bM C (cH C s) G) sz (kQ C (fun r s' G' sz' dd => G' = G ∧ sz' = sz ∧ dd = 0 ∧ mC vU 1 122 (fun B => [.ref B]) m (fun r2 m' => r2 = r ∧ IV K C s' G sz m'))) := gC.mono h0 (fun r M' sz' dd hq => by
    obtain ⟨s', G', eM, eG, ez, ed, q⟩ := hq
    exact ⟨s', G', eM, eG, ez, ed, mC.mono q (fun r2 m' hv => ⟨rfl, hv⟩)⟩)
  obtain ⟨r, s', m', t1, e1, ⟨fs, e2⟩, t2, v⟩ := LV.both hN h hc (by decide) (by decide) rfl rfl
  exact ⟨s', _, m', sz, 0, v, Nat.le_add_right _ _, Nat.zero_le _, fun sl R k => w_L_law_23_fs1_at23 h.scr (by omega) c2 rfl (by omega) c4 e0 t1 e2 t2 (by rw [e4]; exact k)⟩
theorem ls_load {N0 : Nat} {K : Nat → Nat} {C b L i : Nat} {xs : Nat → Int32} {s : cS} {G : gm_H} {sz : Nat} {m : mS} (hN : N0 ≤ C) (hL : L ≤ 2048) (h : LV K C b L xs s G sz m) (hi : 4 * i + 4 ≤ L) (c4 : (xs (4 * i) &&& (15 : Int32)) = 2) : stp N0 K C b L i xs s G sz := by
  have c2 := lw_c2 hL hi
  have k1 : nI (4 * i) + (1 : Int32) = nI (4 * i + 1) := nI_1 _
  have k2 : nI (4 * i) + (2 : Int32) = nI (4 * i + 2) := lw_k2 _
  have k3 : nI (4 * i) + (3 : Int32) = nI (4 * i + 3) := lw_k3 _
  have e4 : nI (4 * i) + (4 : Int32) = nI (4 * i + 4) := lw_k4 _
  obtain ⟨fs0, e0⟩ := LV.cls (C := C) (s := s) (G := G)
  have h0 := pm_load (N0 := N0) (d := 0) (d2 := 0) hN h.2.2.2
  have hc : gP wO N0 K 17 (some .int) (gm_I cX11_load) (gm_lkf (lkX11 false K)) 0 (gm_entry 5 (.ref C :: [])) (bM C (cH C s) G) sz 0 (kQ C (fun o s' G' sz' dd => mC vI 10 167 (fun B => [.ref B]) m (fun r2 m' => oR [(0, 1), (1, 2), (2, 3)] o r2 m' ∧ gB C G G' ∧ IV K C s' G' sz' m' ∧ sz' ≤ sz + 400 ∧ dd ≤ 3000))) := gP.mono h0 (fun o M' sz' dd hq => by
    exact hq)
  have hcd : ∀ e k, (e, k) ∈ ([(0, 1), (1, 2), (2, 3)] : List (Nat × Int32)) → lw_code 1000 e = some k ∧ k ≠ 0 := by
    intro e k hk
    simp only [List.mem_cons, List.not_mem_nil, or_false, Prod.mk.injEq] at hk
    rcases hk with ⟨rfl, rfl⟩ | ⟨rfl, rfl⟩ | ⟨rfl, rfl⟩
    all_goals exact ⟨rfl, by decide⟩
  obtain ⟨r5, r11, M7, M13, s', G', sz', dd, m', ⟨n, hn⟩, e1, ⟨fs2, e2⟩, t2, ⟨fs3, e3⟩, t3, v, hsz, hdd, hz0⟩ := LV.thr (code := lw_code 1000) (is := []) (nL := 5) (mi1 := 105) hN h rfl (Nat.le_of_ble_eq_true rfl) hcd hc (by decide) (by decide) rfl
  have t1 : gm_toC (gm_lawC N0 K ra_nm (ra_mt K) 100 10 ra_wt) 1000 [.ref C, .ref (C + 184)] (bM C (cH C s) G) sz (.returned (some (.int r5)), M7, sz', dd) := ⟨n, hn⟩
  refine ⟨s', G', m', sz', dd, v, hsz, hdd, fun sl R k => ?_⟩
  by_cases hz : r5 = 0
  · obtain ⟨f, ef, ef0⟩ := hz0 hz
    exact w_L_law_23_fs2tft_at23 (k25 := 0) h.scr (by omega) c2 rfl (by omega) c4 t1 e2 t2 e3 t3 rfl hz ef (by decide) rfl (by decide) (by rw [ef0]; exact lg_self _) (by rw [e4]; exact k)
  · exact w_L_law_23_fs2tt_at23 h.scr (by omega) c2 rfl (by omega) c4 t1 e2 t2 e3 t3 rfl hz (by rw [e4]; exact k)
theorem ls_play {N0 : Nat} {K : Nat → Nat} {C b L i : Nat} {xs : Nat → Int32} {s : cS} {G : gm_H} {sz : Nat} {m : mS} (hN : N0 ≤ C) (hL : L ≤ 2048) (h : LV K C b L xs s G sz m) (hi : 4 * i + 4 ≤ L) (c4 : (xs (4 * i) &&& (15 : Int32)) = 10) : stp N0 K C b L i xs s G sz := by
  have c2 := lw_c2 hL hi
  have k1 : nI (4 * i) + (1 : Int32) = nI (4 * i + 1) := nI_1 _
  have k2 : nI (4 * i) + (2 : Int32) = nI (4 * i + 2) := lw_k2 _
  have k3 : nI (4 * i) + (3 : Int32) = nI (4 * i + 3) := lw_k3 _
  have e4 : nI (4 * i) + (4 : Int32) = nI (4 * i + 4) := lw_k4 _
  obtain ⟨fs0, e0⟩ := LV.cls (C := C) (s := s) (G := G)
  have h0 := pm_play (N0 := N0) (d := 0) (d2 := 0) (p0 := xs (4 * i + 1)) (p1 := xs (4 * i + 2)) hN h.2.2.2
  have hc : gP wO N0 K 17 (some .int) (gm_I cX11_play) (gm_lkf (lkX11 false K)) 0 (gm_entry 3 (.ref C :: [.int (xs (4 * i + 1)), .int (xs (4 * i + 2))])) (bM C (cH C s) G) sz 0 (kQ C (fun o s' G' sz' dd => mC vI 10 180 (fun B => [.ref B, .int (xs (4 * i + 1)), .int (xs (4 * i + 2))]) m (fun r2 m' => oR [(2, 1), (3, 2)] o r2 m' ∧ gB C G G' ∧ IV K C s' G' sz' m' ∧ sz' ≤ sz + 400 ∧ dd ≤ 3000))) := gP.mono h0 (fun o M' sz' dd hq => by
    obtain ⟨s', G', eM, eG, q⟩ := hq
    exact ⟨s', G', eM, mC.mono q (fun r2 m' hv => ⟨hv.1, by rw [eG]; exact gB.refl C G, by rw [eG]; exact hv.2.1, by have := hv.2.2.1; omega, by have := hv.2.2.2; omega⟩)⟩)
  have hcd : ∀ e k, (e, k) ∈ ([(2, 1), (3, 2)] : List (Nat × Int32)) → lw_code 1001 e = some k ∧ k ≠ 0 := by
    intro e k hk
    simp only [List.mem_cons, List.not_mem_nil, or_false, Prod.mk.injEq] at hk
    rcases hk with ⟨rfl, rfl⟩ | ⟨rfl, rfl⟩
    all_goals exact ⟨rfl, by decide⟩
  obtain ⟨r5, r11, M7, M13, s', G', sz', dd, m', ⟨n, hn⟩, e1, ⟨fs2, e2⟩, t2, ⟨fs3, e3⟩, t3, v, hsz, hdd, hz0⟩ := LV.thr (code := lw_code 1001) (is := [.int (xs (4 * i + 1)), .int (xs (4 * i + 2))]) (nL := 3) (mi1 := 113) hN h rfl (Nat.le_of_ble_eq_true rfl) hcd hc (by decide) (by decide) rfl
  have t1 : gm_toC (gm_lawC N0 K ra_nm (ra_mt K) 100 10 ra_wt) 1001 [.ref C, .int (xs (4 * i + 1)), .int (xs (4 * i + 2)), .ref (C + 184)] (bM C (cH C s) G) sz (.returned (some (.int r5)), M7, sz', dd) := ⟨n, hn⟩
  refine ⟨s', G', m', sz', dd, v, hsz, hdd, fun sl R k => ?_⟩
  by_cases hz : r5 = 0
  · obtain ⟨f, ef, ef0⟩ := hz0 hz
    exact w_L_law_23_fs10tft_at23 (k30 := 0) h.scr (by omega) c2 rfl (by omega) c4 k1 (by omega) k2 (by omega) t1 e1 (by omega) k1 (by omega) k2 (by omega) e2 t2 e3 t3 rfl hz ef (by decide) rfl (by decide) (by rw [ef0]; exact lg_self _) (by rw [e4]; exact k)
  · exact w_L_law_23_fs10tt_at23 h.scr (by omega) c2 rfl (by omega) c4 k1 (by omega) k2 (by omega) t1 e1 (by omega) k1 (by omega) k2 (by omega) e2 t2 e3 t3 rfl hz (by rw [e4]; exact k)
theorem ls_audit {N0 : Nat} {K : Nat → Nat} {C b L i : Nat} {xs : Nat → Int32} {s : cS} {G : gm_H} {sz : Nat} {m : mS} (hN : N0 ≤ C) (hL : L ≤ 2048) (h : LV K C b L xs s G sz m) (hi : 4 * i + 4 ≤ L) (c4 : (xs (4 * i) &&& (15 : Int32)) = 12) : stp N0 K C b L i xs s G sz := by
  have c2 := lw_c2 hL hi
  have k1 : nI (4 * i) + (1 : Int32) = nI (4 * i + 1) := nI_1 _
  have k2 : nI (4 * i) + (2 : Int32) = nI (4 * i + 2) := lw_k2 _
  have k3 : nI (4 * i) + (3 : Int32) = nI (4 * i + 3) := lw_k3 _
  have e4 : nI (4 * i) + (4 : Int32) = nI (4 * i + 4) := lw_k4 _
  obtain ⟨fs0, e0⟩ := LV.cls (C := C) (s := s) (G := G)
  have h0 := pm_audit (N0 := N0) (d := 0) (d2 := 0) hN h.2.2.2
  have hc : gP wO N0 K 17 (some .int) (gm_I cX11_audit) (gm_lkf (lkX11 false K)) 0 (gm_entry 1 (.ref C :: [])) (bM C (cH C s) G) sz 0 (kQ C (fun o s' G' sz' dd => mC vI 11 187 (fun B => [.ref B]) m (fun r2 m' => oR [(2, 1)] o r2 m' ∧ gB C G G' ∧ IV K C s' G' sz' m' ∧ sz' ≤ sz + 400 ∧ dd ≤ 3000))) := gP.mono h0 (fun o M' sz' dd hq => by
    obtain ⟨s', G', eM, q⟩ := hq
    exact ⟨s', G', eM, mC.mono q (fun r2 m' hv => ⟨hv.1, hv.2.1, hv.2.2.1, by have := hv.2.2.2.1; omega, by have := hv.2.2.2.2; omega⟩)⟩)
  have hcd : ∀ e k, (e, k) ∈ ([(2, 1)] : List (Nat × Int32)) → lw_code 1002 e = some k ∧ k ≠ 0 := by
    intro e k hk
    simp only [List.mem_cons, List.not_mem_nil, or_false, Prod.mk.injEq] at hk
    rcases hk with ⟨rfl, rfl⟩
    all_goals exact ⟨rfl, by decide⟩
  obtain ⟨r5, r11, M7, M13, s', G', sz', dd, m', ⟨n, hn⟩, e1, ⟨fs2, e2⟩, t2, ⟨fs3, e3⟩, t3, v, hsz, hdd, hz0⟩ := LV.thr (code := lw_code 1002) (is := []) (nL := 1) (mi1 := 115) hN h rfl (Nat.le_of_ble_eq_true rfl) hcd hc (by decide) (by decide) rfl
  have t1 : gm_toC (gm_lawC N0 K ra_nm (ra_mt K) 100 10 ra_wt) 1002 [.ref C, .ref (C + 184)] (bM C (cH C s) G) sz (.returned (some (.int r5)), M7, sz', dd) := ⟨n, hn⟩
  refine ⟨s', G', m', sz', dd, v, hsz, hdd, fun sl R k => ?_⟩
  by_cases hz : r5 = 0
  · obtain ⟨f, ef, ef0⟩ := hz0 hz
    exact w_L_law_23_fs12tft_at23 (k25 := 0) h.scr (by omega) c2 rfl (by omega) c4 t1 e2 t2 e3 t3 rfl hz ef (by decide) rfl (by decide) (by rw [ef0]; exact lg_self _) (by rw [e4]; exact k)
  · exact w_L_law_23_fs12tt_at23 h.scr (by omega) c2 rfl (by omega) c4 t1 e2 t2 e3 t3 rfl hz (by rw [e4]; exact k)
theorem ls_worth {N0 : Nat} {K : Nat → Nat} {C b L i : Nat} {xs : Nat → Int32} {s : cS} {G : gm_H} {sz : Nat} {m : mS} (hN : N0 ≤ C) (hL : L ≤ 2048) (h : LV K C b L xs s G sz m) (hi : 4 * i + 4 ≤ L) (c4 : (xs (4 * i) &&& (15 : Int32)) = 13) : stp N0 K C b L i xs s G sz := by
  have c2 := lw_c2 hL hi
  have k1 : nI (4 * i) + (1 : Int32) = nI (4 * i + 1) := nI_1 _
  have k2 : nI (4 * i) + (2 : Int32) = nI (4 * i + 2) := lw_k2 _
  have k3 : nI (4 * i) + (3 : Int32) = nI (4 * i + 3) := lw_k3 _
  have e4 : nI (4 * i) + (4 : Int32) = nI (4 * i + 4) := lw_k4 _
  obtain ⟨fs0, e0⟩ := LV.cls (C := C) (s := s) (G := G)
  have h0 := pm_worth (N0 := N0) (d := 0) (d2 := 0) hN h.2.2.2
  have hc : gP wO N0 K 17 (some .int) (gm_I cX11_worth) (gm_lkf (lkX11 false K)) 0 (gm_entry 1 (.ref C :: [])) (bM C (cH C s) G) sz 0 (kQ C (fun o s' G' sz' dd => mC vI 12 189 (fun B => [.ref B]) m (fun r2 m' => oR [(2, 1), (1, 2)] o r2 m' ∧ gB C G G' ∧ IV K C s' G' sz' m' ∧ sz' ≤ sz + 400 ∧ dd ≤ 3000))) := gP.mono h0 (fun o M' sz' dd hq => by
    obtain ⟨s', G', eM, q⟩ := hq
    exact ⟨s', G', eM, mC.mono q (fun r2 m' hv => ⟨hv.1, hv.2.1, hv.2.2.1, by have := hv.2.2.2.1; omega, by have := hv.2.2.2.2; omega⟩)⟩)
  have hcd : ∀ e k, (e, k) ∈ ([(2, 1), (1, 2)] : List (Nat × Int32)) → lw_code 1003 e = some k ∧ k ≠ 0 := by
    intro e k hk
    simp only [List.mem_cons, List.not_mem_nil, or_false, Prod.mk.injEq] at hk
    rcases hk with ⟨rfl, rfl⟩ | ⟨rfl, rfl⟩
    all_goals exact ⟨rfl, by decide⟩
  obtain ⟨r5, r11, M7, M13, s', G', sz', dd, m', ⟨n, hn⟩, e1, ⟨fs2, e2⟩, t2, ⟨fs3, e3⟩, t3, v, hsz, hdd, hz0⟩ := LV.thr (code := lw_code 1003) (is := []) (nL := 1) (mi1 := 116) hN h rfl (Nat.le_of_ble_eq_true rfl) hcd hc (by decide) (by decide) rfl
  have t1 : gm_toC (gm_lawC N0 K ra_nm (ra_mt K) 100 10 ra_wt) 1003 [.ref C, .ref (C + 184)] (bM C (cH C s) G) sz (.returned (some (.int r5)), M7, sz', dd) := ⟨n, hn⟩
  refine ⟨s', G', m', sz', dd, v, hsz, hdd, fun sl R k => ?_⟩
  by_cases hz : r5 = 0
  · obtain ⟨f, ef, ef0⟩ := hz0 hz
    exact w_L_law_23_fs13tft_at23 (k25 := 0) h.scr (by omega) c2 rfl (by omega) c4 t1 e2 t2 e3 t3 rfl hz ef (by decide) rfl (by decide) (by rw [ef0]; exact lg_self _) (by rw [e4]; exact k)
  · exact w_L_law_23_fs13tt_at23 h.scr (by omega) c2 rfl (by omega) c4 t1 e2 t2 e3 t3 rfl hz (by rw [e4]; exact k)
theorem ls_best {N0 : Nat} {K : Nat → Nat} {C b L i : Nat} {xs : Nat → Int32} {s : cS} {G : gm_H} {sz : Nat} {m : mS} (hN : N0 ≤ C) (hL : L ≤ 2048) (h : LV K C b L xs s G sz m) (hi : 4 * i + 4 ≤ L) (c4 : (xs (4 * i) &&& (15 : Int32)) = 14) : stp N0 K C b L i xs s G sz := by
  have c2 := lw_c2 hL hi
  have k1 : nI (4 * i) + (1 : Int32) = nI (4 * i + 1) := nI_1 _
  have k2 : nI (4 * i) + (2 : Int32) = nI (4 * i + 2) := lw_k2 _
  have k3 : nI (4 * i) + (3 : Int32) = nI (4 * i + 3) := lw_k3 _
  have e4 : nI (4 * i) + (4 : Int32) = nI (4 * i + 4) := lw_k4 _
  obtain ⟨fs0, e0⟩ := LV.cls (C := C) (s := s) (G := G)
  have h0 := pm_best (N0 := N0) (d := 0) (d2 := 0) hN h.2.2.2
  have hc : gP wO N0 K 17 (some .int) (gm_I cX11_best) (gm_lkf (lkX11 false K)) 0 (gm_entry 1 (.ref C :: [])) (bM C (cH C s) G) sz 0 (kQ C (fun o s' G' sz' dd => mC vI 12 190 (fun B => [.ref B]) m (fun r2 m' => oR [(2, 1), (1, 2), (4, 3)] o r2 m' ∧ gB C G G' ∧ IV K C s' G' sz' m' ∧ sz' ≤ sz + 400 ∧ dd ≤ 3000))) := gP.mono h0 (fun o M' sz' dd hq => by
    obtain ⟨s', G', eM, q⟩ := hq
    exact ⟨s', G', eM, mC.mono q (fun r2 m' hv => ⟨hv.1, hv.2.1, hv.2.2.1, by have := hv.2.2.2.1; omega, by have := hv.2.2.2.2; omega⟩)⟩)
  have hcd : ∀ e k, (e, k) ∈ ([(2, 1), (1, 2), (4, 3)] : List (Nat × Int32)) → lw_code 1004 e = some k ∧ k ≠ 0 := by
    intro e k hk
    simp only [List.mem_cons, List.not_mem_nil, or_false, Prod.mk.injEq] at hk
    rcases hk with ⟨rfl, rfl⟩ | ⟨rfl, rfl⟩ | ⟨rfl, rfl⟩
    all_goals exact ⟨rfl, by decide⟩
  obtain ⟨r5, r11, M7, M13, s', G', sz', dd, m', ⟨n, hn⟩, e1, ⟨fs2, e2⟩, t2, ⟨fs3, e3⟩, t3, v, hsz, hdd, hz0⟩ := LV.thr (code := lw_code 1004) (is := []) (nL := 1) (mi1 := 117) hN h rfl (Nat.le_of_ble_eq_true rfl) hcd hc (by decide) (by decide) rfl
  have t1 : gm_toC (gm_lawC N0 K ra_nm (ra_mt K) 100 10 ra_wt) 1004 [.ref C, .ref (C + 184)] (bM C (cH C s) G) sz (.returned (some (.int r5)), M7, sz', dd) := ⟨n, hn⟩
  refine ⟨s', G', m', sz', dd, v, hsz, hdd, fun sl R k => ?_⟩
  by_cases hz : r5 = 0
  · obtain ⟨f, ef, ef0⟩ := hz0 hz
    exact w_L_law_23_fs14tft_at23 (k25 := 0) h.scr (by omega) c2 rfl (by omega) c4 t1 e2 t2 e3 t3 rfl hz ef (by decide) rfl (by decide) (by rw [ef0]; exact lg_self _) (by rw [e4]; exact k)
  · exact w_L_law_23_fs14tt_at23 h.scr (by omega) c2 rfl (by omega) c4 t1 e2 t2 e3 t3 rfl hz (by rw [e4]; exact k)
theorem ls_none {N0 : Nat} {K : Nat → Nat} {C b L i : Nat} {xs : Nat → Int32} {s : cS} {G : gm_H} {sz : Nat} {m : mS} (hN : N0 ≤ C) (hL : L ≤ 2048) (h : LV K C b L xs s G sz m) (hi : 4 * i + 4 ≤ L) (c4 : ((xs (4 * i) &&& (15 : Int32)).toInt < 0 ∨ 14 < (xs (4 * i) &&& (15 : Int32)).toInt)) : stp N0 K C b L i xs s G sz := by
  have c2 := lw_c2 hL hi
  have k1 : nI (4 * i) + (1 : Int32) = nI (4 * i + 1) := nI_1 _
  have k2 : nI (4 * i) + (2 : Int32) = nI (4 * i + 2) := lw_k2 _
  have k3 : nI (4 * i) + (3 : Int32) = nI (4 * i + 3) := lw_k3 _
  have e4 : nI (4 * i) + (4 : Int32) = nI (4 * i + 4) := lw_k4 _
  obtain ⟨fs0, e0⟩ := LV.cls (C := C) (s := s) (G := G)
  exact ⟨s, G, m, sz, 0, h, Nat.le_add_right _ _, Nat.zero_le _, fun sl R k => w_L_law_23_fsNone_at23 h.scr (by omega) c2 rfl (by omega) c4 (by rw [e4]; exact k)⟩
