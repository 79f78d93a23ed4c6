/-! class and reference side by side: write, wipe -/
theorem gm_ev.up {N0 : Nat} {K : Nat → Nat} {nm : Nat → Option String} {mt : Nat → Option gm_Mi} {d d' : Nat} {ret : Option FieldType} {I : Nat → Option Instr} {lk : Nat → Option gm_L} {pc : Nat} {ls : gm_Ls} {st : List Value} {M : gm_H} {sz sl : Nat} {R : gm_R} (h : gm_ev N0 K nm mt d ret I lk pc ls st M sz sl R) (hd : d ≤ d') : gm_ev N0 K nm mt d' ret I lk pc ls st M sz sl R := by
  obtain ⟨n, k, h⟩ := h
  exact ⟨n, k, gm_exec_up (fun mi av M sz R h => gm_only_up (fun mi av M sz R h => gm_run_up d d' n n mi av M sz R hd (Nat.le_refl n) h) h) _ _ _ _ _ _ _ _ _ (Nat.le_refl k) h⟩
theorem nar_good {b : Int32} (h : wGood b) : vp_nar .char b = b := by
  have key : ∀ n : Fin 127, vp_nar .char (Int32.ofNat n.1) = Int32.ofNat n.1 := by decide +kernel
  have hb : ∃ n : Nat, n < 127 ∧ b = nI n := by
    rcases h with rfl | ⟨h1, h2⟩
    · exact ⟨0, by decide, rfl⟩
    · have h0 : ¬ b < 0 := by
        intro z
        have a := Int32.le_iff_toInt_le.mp h1
        have c := Int32.lt_iff_toInt_lt.mp z
        have e1 : (32 : Int32).toInt = 32 := by decide
        have e2 : (0 : Int32).toInt = 0 := by decide
        omega
      obtain ⟨j, hj, e⟩ := nI_of2 (M := 126) (n := 126) rfl h0 h2
      exact ⟨j, by omega, e⟩
  obtain ⟨n, hn, e⟩ := hb
  rw [e]
  exact key ⟨n, hn⟩
theorem wApp_len (y : Int64) : ∀ (j : Nat) (f : Nat → Int32) (t : Nat), (wApp y j f t).2 = t + wCnt y j := by
  intro j
  induction j with
  | zero => intro f t; rfl
  | succ j ih =>
    intro f t
    rw [wApp, wCnt]
    by_cases h : wbR y (nI j) = 0
    · rw [if_pos h, if_pos h, ih]
      omega
    · rw [if_neg h, if_neg h, ih]
      omega
theorem wApp_same (y : Int64) : ∀ (j : Nat) (f g : Nat → Int32) (t : Nat), (∀ k, k < t → f k = g k) → ∀ k, k < t + wCnt y j → (wApp y j f t).1 k = (wApp y j g t).1 k := by
  intro j
  induction j with
  | zero =>
    intro f g t h k hk
    exact h k hk
  | succ j ih =>
    intro f g t h k hk
    rw [wCnt] at hk
    rw [wApp, wApp]
    by_cases h0 : wbR y (nI j) = 0
    · rw [if_pos h0, if_pos h0]
      rw [if_pos h0] at hk
      exact ih f g t h k (by omega)
    · rw [if_neg h0, if_neg h0]
      rw [if_neg h0] at hk
      refine ih _ _ (t + 1) (fun x hx => ?_) k (by omega)
      unfold upd
      by_cases e : x = t
      · rw [if_pos e, if_pos e]
      · rw [if_neg e, if_neg e]
        exact h x (by omega)
theorem wApp_nar {y : Int64} (hg : ∀ k, k < 8 → wGood (wbR y (nI k))) : ∀ (j : Nat) (f : Nat → Int32) (t : Nat), j ≤ 8 → (∀ k, k < t → vp_nar .char (f k) = f k) → ∀ k, k < t + wCnt y j → vp_nar .char ((wApp y j f t).1 k) = (wApp y j f t).1 k := by
  intro j
  induction j with
  | zero =>
    intro f t _ h k hk
    exact h k hk
  | succ j ih =>
    intro f t hj h k hk
    rw [wCnt] at hk
    rw [wApp]
    by_cases h0 : wbR y (nI j) = 0
    · rw [if_pos h0]
      rw [if_pos h0] at hk
      exact ih f t (by omega) h k (by omega)
    · rw [if_neg h0]
      rw [if_neg h0] at hk
      refine ih _ (t + 1) (by omega) (fun x hx => ?_) k (by omega)
      unfold upd
      by_cases e : x = t
      · rw [if_pos e]
        exact nar_good (hg j (by omega))
      · rw [if_neg e]
        exact h x (by omega)
theorem wCnt_8 (y : Int64) : ∀ j, wCnt y j ≤ j := by
  intro j
  induction j with
  | zero => exact Nat.le_refl _
  | succ j ih =>
    rw [wCnt]
    split <;> omega
/-- what the class's sheet, fault and reader may change -/
def ofr (s s' : cS) : Prop := (∀ i, i ≠ 1 → i ≠ 2 → i ≠ 3 → i ≠ 41 → s'.1 i = s.1 i) ∧ (∀ i, i ≠ 1 → i ≠ 3 → s'.2.1 i = s.2.1 i) ∧ ∀ i, i ≠ 40 → s'.2.2 i = s.2.2 i
theorem ofr.trans {s s' s'' : cS} (h : ofr s s') (g : ofr s' s'') : ofr s s'' := ⟨fun i a b c e => (g.1 i a b c e).trans (h.1 i a b c e), fun i a b => (g.2.1 i a b).trans (h.2.1 i a b), fun i a => (g.2.2 i a).trans (h.2.2 i a)⟩
theorem ofr.i (s : cS) {k : Nat} (v : Int32) (hk : k = 1 ∨ k = 2 ∨ k = 3) : ofr s (cI s k v) := ⟨fun i a b c _ => if_neg (by omega), fun _ _ _ => rfl, fun _ _ => rfl⟩
theorem ofr.n {s s' : cS} (h : ofr s s') : nfr s s' := ⟨h.1 102 (by decide) (by decide) (by decide) (by decide), h.1 103 (by decide) (by decide) (by decide) (by decide), h.1 129 (by decide) (by decide) (by decide) (by decide), fun i a b => h.2.1 i (by omega) (by omega), h.2.2 101 (by decide)⟩
theorem tS.o {s s' : cS} {p : Nat} {T : List Tm} (h : tS s p T) (g : ofr s s') (hp : 16 < p) : tS s' p T := h.same (g.1 _ (by omega) (by omega) (by omega) (by omega)) (g.2.1 _ (by omega) (by omega))
theorem SN.o {s s' : cS} {L : List Fct} {P : List Tm} (h : SN s L P) (g : ofr s s') : SN s' L P := by
  obtain ⟨⟨a, b⟩, c, e, f⟩ := h
  have e88 := g.1 88 (by decide) (by decide) (by decide) (by decide)
  exact ⟨⟨a.o g (by decide), b.o g (by decide)⟩, c, fun z => e88.trans (e z), fun z => e88.trans (f z)⟩
theorem CG.o {G : gm_H} {C z : Nat} {R : List Rl} {P T1 T : List Tm} {L : List Fct} {s s' : cS} (h : CG G C z R P T1 T L s) (g : ofr s s') : CG G C z R P T1 T L s' := by
  obtain ⟨a, b, c, e, f, i, j, k⟩ := h
  exact ⟨(g.2.2 80 (by decide)).trans a, b.n g.n, c, e, f.o g, i.o g (by decide), j.o g (by decide), k.o g (by decide)⟩
theorem AA.o {G : gm_H} {C : Nat} {R : List Rl} {P T1 : List Tm} {s s' : cS} {m : mS} (h : AA G C R P T1 s m) (g : ofr s s') : AA G C R P T1 s' m := by
  have e585 := g.1 585 (by decide) (by decide) (by decide) (by decide)
  have e584 := g.1 584 (by decide) (by decide) (by decide) (by decide)
  have e586 := g.1 586 (by decide) (by decide) (by decide) (by decide)
  rcases h with ⟨a, b, c, e⟩ | ⟨a, b, c, e⟩
  · exact Or.inl ⟨e585.trans a, b, e584.trans c, e⟩
  · exact Or.inr ⟨e585.trans a, b, c.fr e586 e584 (g.2.1 31 (by decide) (by decide)) (g.2.1 32 (by decide) (by decide)), e⟩
theorem IDL.o {s s' : cS} (h : IDL s) (g : ofr s s') : IDL s' := by
  obtain ⟨a, b, c, e, f, i, ⟨L, j⟩, k⟩ := h
  exact ⟨(g.2.2 80 (by decide)).trans a, (g.1 341 (by decide) (by decide) (by decide) (by decide)).trans b, (g.1 421 (by decide) (by decide) (by decide) (by decide)).trans c, (g.1 501 (by decide) (by decide) (by decide) (by decide)).trans e, (g.1 541 (by decide) (by decide) (by decide) (by decide)).trans f, (g.1 584 (by decide) (by decide) (by decide) (by decide)).trans i, ⟨L, g.n.facts j⟩, by rw [g.2.1 16 (by decide) (by decide)]; exact k⟩
/-- the sheets change on both sides -/
theorem IV.sheet {K : Nat → Nat} {C : Nat} {s s' : cS} {G : gm_H} {sz : Nat} {m m' : mS} (h : IV K C s G sz m) (g : ofr s s') (e2 : s'.1 2 = s.1 2) (e3 : s'.1 3 = s.1 3) (f1 : ∀ i, i ≠ 0 → i ≠ 2 → m'.1 i = m.1 i) (f2 : ∀ i, i ≠ 1 → m'.2.1 i = m.2.1 i) (f3 : m'.2.2 = m.2.2) (hS : SH s' m') : IV K C s' G sz m' := by
  refine ⟨⟨h.1.1, hS, ⟨(f1 6 (by decide) (by decide)).trans (h.1.2.2.1.1.trans e2.symm), (f1 7 (by decide) (by decide)).trans (h.1.2.2.1.2.trans e3.symm)⟩, h.1.2.2.2.1, h.1.2.2.2.2.fr (f1 5 (by decide) (by decide)) (f1 4 (by decide) (by decide))⟩, ?_⟩
  rcases h.2 with ⟨a, b⟩ | ⟨a, z, R, P, T1, T, L, X, hC, hR, hz, hA, rest⟩
  · exact Or.inl ⟨(f1 5 (by decide) (by decide)).trans a, b.o g⟩
  · refine Or.inr ⟨(f1 5 (by decide) (by decide)).trans a, z, R, P, T1, T, L, X, hC.o g, ?_, ?_, ?_, rest⟩
    · obtain ⟨c1, ⟨b1, b2⟩, ⟨c3, c4⟩, ⟨c5, c6⟩, c7, c8, c9, c10⟩ := hR
      exact ⟨c1.A (f1 11 (by decide) (by decide)) (fun i x y => f2 i (by omega)), ⟨b1.fr (by rw [f3]), (f1 30 (by decide) (by decide)).trans b2⟩, ⟨c3.fr (by rw [f3]), (f1 32 (by decide) (by decide)).trans c4⟩, ⟨c5.fr (by rw [f3]), (f1 36 (by decide) (by decide)).trans c6⟩, c7, (f1 4 (by decide) (by decide)).trans c8, fun k hk => by rw [f2 3 (by decide)]; exact c9 k hk, c10⟩
    · rcases hz with z0 | ⟨z0, z1, L0, z2, z3⟩
      · exact Or.inl ((f1 24 (by decide) (by decide)).trans z0)
      · exact Or.inr ⟨(f1 24 (by decide) (by decide)).trans z0, (f1 23 (by decide) (by decide)).trans z1, L0, z2.fr (f1 20 (by decide) (by decide)) (f2 21 (by decide)) (by rw [f3]), z3⟩
    · rcases hA.o g with ⟨y1, y2, y3, y4⟩ | ⟨y1, y2, y3, y4, y5⟩
      · exact Or.inl ⟨y1, (f1 41 (by decide) (by decide)).trans y2, y3, (f1 43 (by decide) (by decide)).trans y4⟩
      · exact Or.inr ⟨y1, (f1 41 (by decide) (by decide)).trans y2, y3, (f1 42 (by decide) (by decide)).trans y4, y5.fr (f1 43 (by decide) (by decide)) (fun i hi => f2 i (by omega)) (by rw [f3])⟩
theorem pm_wipe {N0 : Nat} {K : Nat → Nat} {d d2 C : Nat} {s : cS} {G : gm_H} {sz : Nat} {m : mS} (hN : N0 ≤ C) (h : IV K C s G sz m) : kX11_wipe N0 K (d + 1) C s G sz (fun _ s' => m_wipe (d2 + 1) m (fun _ m' => IV K C s' G sz m')) := by
  refine kX11_wipe.of (TX11_wipe_0 hN (m_wipe.of (T_wipe_0 ?_)))
  exact h.sheet (ofr.i s 0 (Or.inl rfl)) rfl rfl (fun i a b => (if_neg b).trans (if_neg a)) (fun _ _ => rfl) rfl ⟨[], ⟨by decide, fun x hx => by simp at hx⟩, rfl, rfl, fun k hk => absurd hk (Nat.not_lt_zero _)⟩
theorem pm_write {N0 : Nat} {K : Nat → Nat} {d d2 C : Nat} {y : Int64} {s : cS} {G : gm_H} {sz : Nat} {m : mS} (hN : N0 ≤ C) (h : IV K C s G sz m) : kX11_write N0 K (d + 1) C y s G sz (fun r s' => m_write (d2 + 1) y m (fun r2 m' => r2 = r ∧ IV K C s' G sz m')) := by
  obtain ⟨X, ⟨x1, x2⟩, x3, x4, x5⟩ := h.1.2.1
  have c8 : wCnt y 8 ≤ 8 := wCnt_8 y 8
  by_cases hg : (∀ k, k < 8 → wGood (wbR y (nI k))) ∧ X.length + wCnt y 8 ≤ 240
  · have hc := gm_ev.up (cs_write_yes (G := G) (C := C) (K := K) (sz := sz) x4 hg.1 hg.2 hN) (Nat.zero_le d)
    refine ⟨1, _, sz, 0, gm_to.of rfl (by decide) (Nat.le_of_ble_eq_true rfl) rfl hc, _, G, rfl, rfl, rfl, rfl, ?_⟩
    refine ⟨1, _, fun N0 K B G sz hB => (rs_write_yes x3 hg.1 hg.2).up (Nat.le_add_left 1 d2) N0 K B G sz hB, rfl, ?_⟩
    refine h.sheet ⟨fun i a _ _ _ => if_neg a, fun i a _ => if_neg a, fun _ _ => rfl⟩ rfl rfl (fun i a b => (if_neg b).trans (if_neg a)) (fun i a => if_neg a) rfl ?_
    refine ⟨(List.range (X.length + wCnt y 8)).map (wApp y 8 (s.2.1 1) X.length).1, ⟨by rw [List.length_map, List.length_range]; exact hg.2, fun x hx => ?_⟩, ?_, ?_, fun k hk => ?_⟩
    · obtain ⟨k, hk, rfl⟩ := List.mem_map.mp hx
      refine wApp_nar hg.1 8 _ _ (Nat.le_refl _) (fun k hk => ?_) k (List.mem_range.mp hk)
      rw [(x5 k hk).2]
      refine x2 _ ?_
      rw [List.getD_eq_getElem?_getD, List.getElem?_eq_getElem hk]
      exact List.getElem_mem hk
    · rw [List.length_map, List.length_range, ← wApp_len y 8 (m.2.1 1) X.length]
      rfl
    · rw [List.length_map, List.length_range, ← wApp_len y 8 (s.2.1 1) X.length]
      rfl
    · rw [List.length_map, List.length_range] at hk
      have e : ((List.range (X.length + wCnt y 8)).map (wApp y 8 (s.2.1 1) X.length).1).getD k 0 = (wApp y 8 (s.2.1 1) X.length).1 k := by
        rw [List.getD_eq_getElem?_getD, List.getElem?_map, List.getElem?_range hk]
        rfl
      rw [e]
      refine ⟨?_, rfl⟩
      exact wApp_same y 8 (m.2.1 1) (s.2.1 1) X.length (fun k hk => (x5 k hk).1.trans (x5 k hk).2.symm) k hk
  · have hb : (∃ k, k < 8 ∧ ¬ wGood (wbR y (nI k))) ∨ 240 < X.length + wCnt y 8 := by
      rcases Classical.em (∀ k, k < 8 → wGood (wbR y (nI k))) with z | z
      · right
        exact Nat.lt_of_not_le (fun w => hg ⟨z, w⟩)
      · left
        exact Classical.byContradiction (fun w => z (fun k hk => Classical.byContradiction (fun v => w ⟨k, hk, v⟩)))
    have hc := gm_ev.up (cs_write_no (G := G) (C := C) (K := K) (sz := sz) x4 x1 hb c8 hN) (Nat.zero_le d)
    refine ⟨0, _, sz, 0, gm_to.of rfl (by decide) (Nat.le_of_ble_eq_true rfl) rfl hc, _, G, rfl, rfl, rfl, rfl, ?_⟩
    exact ⟨0, _, fun N0 K B G sz hB => (rs_write_no x3 x1 hb c8).up (Nat.le_add_left 1 d2) N0 K B G sz hB, rfl, h.r0 0⟩
