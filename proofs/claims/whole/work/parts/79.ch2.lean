/-! the reference's audit: one state -/
def bo (D : List DT) : Nat → Nat
  | 0 => 0
  | j + 1 => bo D j + (match D[j]? with
    | some d => d.2.2.length
    | none => 0)
theorem bo_app (D K : List DT) : ∀ j, j ≤ D.length → bo (D ++ K) j = bo D j := by
  intro j
  induction j with
  | zero => intro _; rfl
  | succ j ih =>
    intro h
    rw [bo, bo, ih (by omega), List.getElem?_append_left (by omega)]
theorem bo_last (D : List DT) (d : DT) : bo (D ++ [d]) (D.length + 1) = bo D D.length + d.2.2.length := by
  rw [bo, bo_app D [d] D.length (Nat.le_refl _), List.getElem?_append_right (Nat.le_refl _), Nat.sub_self]
  rfl
theorem bo_mono (D : List DT) : ∀ k j, j ≤ k → bo D j ≤ bo D k := by
  intro k
  induction k with
  | zero => intro j h; rw [Nat.le_zero.mp h]; exact Nat.le_refl _
  | succ k ih =>
    intro j h
    by_cases e : j = k + 1
    · rw [e]; exact Nat.le_refl _
    · have := ih j (by omega)
      rw [bo]
      omega
theorem bo_le (D : List DT) (h : ∀ d ∈ D, d.2.2.length ≤ 200) : ∀ j, bo D j ≤ 200 * j := by
  intro j
  induction j with
  | zero => exact Nat.le_refl _
  | succ j ih =>
    rw [bo]
    cases e : D[j]? with
    | none => simp only; omega
    | some d =>
      have := h d (List.mem_of_getElem? e)
      simp only
      omega
theorem bo_in {D : List DT} {j : Nat} {d : DT} (h : D[j]? = some d) : bo D (j + 1) = bo D j + d.2.2.length := by
  rw [bo, h]
/-- what the reference's rows hold of the states gone through -/
def rD (D : List DT) (s : mS) : Prop := s.2.1 46 0 = 0 ∧ ∀ (j : Nat) d, D[j]? = some d → s.2.1 48 j = nI d.2.1 ∧ s.2.1 46 (j + 1) = nI (bo D (j + 1)) ∧ (∀ (k t : Nat), d.2.2[k]? = some t → s.2.1 47 (bo D j + k) = nI t) ∧ (d.2.1 = 0 → s.2.1 49 j = d.1)
theorem rD.at {D : List DT} {s : mS} (h : rD D s) : s.2.1 46 D.length = nI (bo D D.length) := by
  cases hn : D.length with
  | zero => exact h.1
  | succ n =>
    have hd : D[n]? = some (D[n]'(by omega)) := List.getElem?_eq_getElem (by omega)
    exact (h.2 n _ hd).2.1
theorem rD.fr {D : List DT} {s s' : mS} (h : rD D s) (h46 : ∀ j, j ≤ D.length → s'.2.1 46 j = s.2.1 46 j) (h47 : ∀ x, x < bo D D.length → s'.2.1 47 x = s.2.1 47 x) (h48 : ∀ j, j < D.length → s'.2.1 48 j = s.2.1 48 j) (h49 : ∀ j, j < D.length → s'.2.1 49 j = s.2.1 49 j) : rD D s' := by
  refine ⟨by rw [h46 0 (by omega)]; exact h.1, fun j d hd => ?_⟩
  have hj := (List.getElem?_eq_some_iff.mp hd).1
  obtain ⟨a, b, c, e⟩ := h.2 j d hd
  refine ⟨by rw [h48 j hj]; exact a, by rw [h46 (j + 1) (by omega)]; exact b, fun k t ht => ?_, fun z => by rw [h49 j hj]; exact e z⟩
  have hk := (List.getElem?_eq_some_iff.mp ht).1
  have h1 := bo_in hd
  have h2 := bo_mono D D.length (j + 1) (by omega)
  rw [h47 _ (by omega)]
  exact c k t ht
def xfw (s s' : mS) : Prop := (∀ i, i ≠ 20 → i ≠ 23 → i ≠ 24 → i ≠ 28 → i ≠ 34 → i ≠ 38 → i ≠ 43 → s'.1 i = s.1 i) ∧ (∀ i, i ≠ 21 → i ≠ 26 → i ≠ 27 → i < 45 → s'.2.1 i = s.2.1 i) ∧ (∀ i, i ≠ 22 → i ≠ 25 → i ≠ 33 → i ≠ 37 → i ≠ 39 → i ≠ 40 → i ≠ 44 → s'.2.2 i = s.2.2 i)
theorem xfw.refl (s : mS) : xfw s s := ⟨fun _ _ _ _ _ _ _ _ => rfl, fun _ _ _ _ _ => rfl, fun _ _ _ _ _ _ _ _ => rfl⟩
theorem xfw.trans {s s' s'' : mS} (h : xfw s s') (g : xfw s' s'') : xfw s s'' := ⟨fun i a b c e f k l => (g.1 i a b c e f k l).trans (h.1 i a b c e f k l), fun i a b c e => (g.2.1 i a b c e).trans (h.2.1 i a b c e), fun i a b c e f k l => (g.2.2 i a b c e f k l).trans (h.2.2 i a b c e f k l)⟩
theorem lfw.x {s s' : mS} (h : lfw s s') : xfw s s' := ⟨fun i a b c e f k _ => h.1 i a b c e f k, fun i a b c _ => h.2.1 i a b c, fun i a b c e _ _ _ => h.2.2 i a b c e⟩
theorem kfw.x {s s' : mS} (h : kfw s s') : xfw s s' := ⟨fun i _ _ _ _ _ _ l => h.1 i l, fun i _ _ _ e => h.2.1 i (by omega), fun i _ _ _ _ _ _ l => h.2.2 i l⟩
theorem xfw.w (s : mS) {k : Nat} (f : Nat → Int32) (hk : 45 ≤ k) : xfw s (mA s k f) := ⟨fun _ _ _ _ _ _ _ _ => rfl, fun i _ _ _ e => if_neg (by omega), fun _ _ _ _ _ _ _ _ => rfl⟩
theorem xfw.l (s : mS) {k : Nat} (f : Nat → Int64) (hk : k = 39 ∨ k = 40) : xfw s (mL s k f) := ⟨fun _ _ _ _ _ _ _ _ => rfl, fun _ _ _ _ _ => rfl, fun i _ _ _ _ a b _ => if_neg (by omega)⟩
theorem RC.x {R : List Rl} {s s' : mS} (h : RC R s) (g : xfw s s') : RC R s' := h.A (g.1 11 (by decide) (by decide) (by decide) (by decide) (by decide) (by decide) (by decide)) (fun i a b => g.2.1 i (by omega) (by omega) (by omega) (by omega))
/-- the audit's rows stay where only what follows is worked out -/
theorem rD.l {D : List DT} {s s' : mS} (h : rD D s) (g : lfw s s') : rD D s' := h.fr (fun j _ => by rw [g.2.1 46 (by decide) (by decide) (by decide)]) (fun x _ => by rw [g.2.1 47 (by decide) (by decide) (by decide)]) (fun j _ => by rw [g.2.1 48 (by decide) (by decide) (by decide)]) (fun j _ => by rw [g.2.1 49 (by decide) (by decide) (by decide)])
theorem rSt.l {S : List (List Tm)} {s s' : mS} (h : rSt S s) (g : lfw s s') : rSt S s' := h.fr (g.1 43 (by decide) (by decide) (by decide) (by decide) (by decide) (by decide)) (g.2.1 45 (by decide) (by decide) (by decide)) (g.2.2 44 (by decide) (by decide) (by decide) (by decide))
/-- k joint moves of state i -/
def YI (R : List Rl) (r0 r1 : Tm) (T M0 M1 : List Tm) (S : List (List Tm)) (D : List DT) (s0 : mS) (k : Nat) (s : mS) : Prop := xfw s0 s ∧ rSt (exK R T r0 r1 M0 M1 S k).2.1 s ∧ rD D s ∧ s.2.1 48 D.length = nI M1.length ∧ s.2.1 46 (D.length + 1) = nI (bo D D.length + k) ∧ (∀ (j t : Nat), (exK R T r0 r1 M0 M1 S k).2.2[j]? = some t → s.2.1 47 (bo D D.length + j) = nI t) ∧ rT s 39 0 M0 ∧ rT s 40 0 M1
theorem rs_look207 {d : Nat} {R : List Rl} {r0 r1 : Tm} {T M0 M1 : List Tm} {S : List (List Tm)} {D : List DT} {s0 : mS} {Q : Int32 → mS → Prop} (hc : RC R s0) (hr : rT s0 35 0 [r0, r1]) (hok : okP [r0, r1]) (hS : okS S) (hi : S[D.length]? = some T) (hD2 : ∀ d ∈ D, d.2.2.length ≤ 200) (ho0 : okT M0) (ho1 : okT M1) (hl0 : M0.length ≤ 200) (hl1 : M1.length ≤ 200) (hmn : M0.length * M1.length ≤ 200) (hn : 0 < M1.length) (q1 : ∀ s, (exK R T r0 r1 M0 M1 S (M0.length * M1.length)).1 = true → YI R r0 r1 T M0 M1 S D s0 (M0.length * M1.length) s → Q 0 s) (q0 : ∀ s, (exK R T r0 r1 M0 M1 S (M0.length * M1.length)).1 = false → xfw s0 s → rSt (exK R T r0 r1 M0 M1 S (M0.length * M1.length)).2.1 s → Q 7 s) : ∀ (m k : Nat) (s : mS), k + m = M0.length * M1.length → (exK R T r0 r1 M0 M1 S k).1 = true → YI R r0 r1 T M0 M1 S D s0 k s → h_looksAt_207 (d + 8) (nI D.length) (nI M0.length) (nI M1.length) (nI k) s Q := by
  have hil := (List.getElem?_eq_some_iff.mp hi).1
  have h60 := hS.1
  have hTo := hS.2 T (List.mem_of_getElem? hi)
  have hbo := bo_le D hD2 D.length
  have hne : r0 ≠ r1 := by
    intro e
    have := (List.pairwise_cons.mp hok.1.1).1 r1 (by simp)
    rw [e] at this
    omega
  have stop : ∀ k, k ≤ M0.length * M1.length → (exK R T r0 r1 M0 M1 S k).1 = false → exK R T r0 r1 M0 M1 S (M0.length * M1.length) = exK R T r0 r1 M0 M1 S k := by
    intro k hk hf
    have := exK_stop hf (M0.length * M1.length - k)
    rw [show k + (M0.length * M1.length - k) = M0.length * M1.length by omega] at this
    exact this
  intro m
  induction m with
  | zero =>
    intro k s hk hok' hY
    have ek : k = M0.length * M1.length := by omega
    subst ek
    refine T_looksAt_207 ?_
    rw [nI_mul, if_pos (nI_le (Nat.le_refl _) (by omega))]
    exact q1 s hok' hY
  | succ m ih =>
    intro k s hk hokk hY
    obtain ⟨y1, y2, y3, y4, y5, y6, y7, y8⟩ := hY
    refine T_looksAt_207 ?_
    rw [nI_mul, if_neg (nI_ge (by omega) (by omega))]
    have hnz : ¬ nI M1.length = 0 := nI_ne0 hn (by omega)
    have e1 : nI k / nI M1.length = nI (k / M1.length) := pk_div (by omega) hn (by omega)
    have hdm := Nat.div_add_mod k M1.length
    have e2 : nI k - nI k / nI M1.length * nI M1.length = nI (k % M1.length) := by
      rw [e1, nI_mul, nI_sub (by rw [Nat.mul_comm]; omega)]
      congr 1
      rw [Nat.mul_comm (k / M1.length)]
      omega
    have ha : k / M1.length < M0.length := by
      rw [Nat.div_lt_iff_lt_mul hn]
      omega
    have hb : k % M1.length < M1.length := Nat.mod_lt _ hn
    have ha2 : M0[k / M1.length]? = some (M0[k / M1.length]'ha) := List.getElem?_eq_getElem ha
    have hb2 : M1[k % M1.length]? = some (M1[k % M1.length]'hb) := List.getElem?_eq_getElem hb
    have v0 := y7 _ _ ha2
    have v1 := y8 _ _ hb2
    rw [Nat.zero_add] at v0 v1
    have en : exN R T r0 r1 M0 M1 k = aNx R T r0 (M0[k / M1.length]'ha) r1 (M1[k % M1.length]'hb) := by
      unfold exN
      rw [ha2, hb2]
    have ek := exK_ok (R := R) (T := T) (r0 := r0) (r1 := r1) (M0 := M0) (M1 := M1) hS k
    have eE := ek.2.2.2 hokk
    obtain ⟨Kp, eKp⟩ := ek.2.1
    have hTk : (exK R T r0 r1 M0 M1 S k).2.1[D.length]? = some T := by
      rw [eKp, List.getElem?_append_left hil]
      exact hi
    have estep : exK R T r0 r1 M0 M1 S (k + 1) = exS (exN R T r0 r1 M0 M1 k) (exK R T r0 r1 M0 M1 S k).2 := by rw [exK, if_pos hokk]
    refine ⟨D.length, rfl, by omega, hnz, k / M1.length, e1, by omega, hnz, k % M1.length, e2, by omega, ?_⟩
    obtain ⟨z1, z2⟩ := y2.2 D.length T hTk
    rw [v0, v1, z1, n_24, nI_mul]
    refine rq_leadsOn_stateTerm (d := d) (hc.x y1) z2 (hr.fr (y1.2.2 35 (by decide) (by decide) (by decide) (by decide) (by decide) (by decide) (by decide))) hTo.1 hTo.2 (by have := hTo.2; omega) (hok.1.2 r0 (by simp)) (ho0.2 _ (List.mem_of_getElem? ha2)) (hok.1.2 r1 (by simp)) (ho1.2 _ (List.mem_of_getElem? hb2)) hne (fun s9 T9 f9 n9 o9 l9 t9 g9 => ?_) (fun s9 f9 n9 => ?_)
    · rw [if_neg (by decide), g9]
      have st9 := y2.l f9
      have d9 := y3.l f9
      refine rq_find_next (d := d + 7) st9 ek.1 t9 l9 o9.2 ?_
      have x9 : xfw s0 s9 := y1.trans f9.x
      have a46 : s9.2.1 46 = s.2.1 46 := f9.2.1 46 (by decide) (by decide) (by decide)
      have a47 : s9.2.1 47 = s.2.1 47 := f9.2.1 47 (by decide) (by decide) (by decide)
      have a48 : s9.2.1 48 = s.2.1 48 := f9.2.1 48 (by decide) (by decide) (by decide)
      -- one move more is put down
      have put : ∀ (s8 : mS) (t : Nat) (S' : List (List Tm)), xfw s0 s8 → rSt S' s8 → rD D s8 → s8.2.1 46 = s9.2.1 46 → s8.2.1 47 = s9.2.1 47 → s8.2.1 48 = s9.2.1 48 → s8.2.2 39 = s9.2.2 39 → s8.2.2 40 = s9.2.2 40 → exK R T r0 r1 M0 M1 S (k + 1) = (true, S', (exK R T r0 r1 M0 M1 S k).2.2 ++ [t]) → h_looksAt_207 (d + 8) (nI D.length) (nI M0.length) (nI M1.length) (nI k + (1 : Int32)) (mA (mA s8 47 (upd (s8.2.1 47) (bo D D.length + k) (nI t))) 46 (upd (s8.2.1 46) (D.length + 1) ((s8.2.1 46 (D.length + 1)) + (1 : Int32)))) Q := by
        intro s8 t S' p1 p2 p3 p4 p5 p6 p7 p8 p9
        rw [nI_1]
        refine ih (k + 1) _ (by omega) (by rw [p9]) ?_
        unfold YI
        rw [p9]
        refine ⟨p1.trans ((xfw.w s8 _ (by decide)).trans (xfw.w _ _ (by decide))), p2.fr rfl rfl rfl, ?_, ?_, ?_, fun j t' hj => ?_, ?_, ?_⟩
        · refine p3.fr (fun j hj => ?_) (fun x hx => ?_) (fun j hj => rfl) (fun j hj => rfl)
          · show upd (s8.2.1 46) (D.length + 1) _ j = _
            exact if_neg (by omega)
          · show upd (s8.2.1 47) (bo D D.length + k) (nI t) x = _
            exact if_neg (by omega)
        · show s8.2.1 48 D.length = _
          rw [p6, a48]
          exact y4
        · show upd (s8.2.1 46) (D.length + 1) ((s8.2.1 46 (D.length + 1)) + (1 : Int32)) (D.length + 1) = _
          rw [show upd (s8.2.1 46) (D.length + 1) ((s8.2.1 46 (D.length + 1)) + (1 : Int32)) (D.length + 1) = (s8.2.1 46 (D.length + 1)) + (1 : Int32) from if_pos rfl, p4, a46, y5, nI_1, Nat.add_assoc]
        · show upd (s8.2.1 47) (bo D D.length + k) (nI t) (bo D D.length + j) = nI t'
          by_cases ej : j < k
          · rw [List.getElem?_append_left (by omega)] at hj
            rw [show upd (s8.2.1 47) (bo D D.length + k) (nI t) (bo D D.length + j) = s8.2.1 47 (bo D D.length + j) from if_neg (by omega), p5, a47]
            exact y6 j t' hj
          · have hjl := (List.getElem?_eq_some_iff.mp hj).1
            rw [List.length_append, List.length_singleton] at hjl
            have ej2 : j = k := by omega
            subst ej2
            rw [List.getElem?_append_right (by omega), eE, Nat.sub_self] at hj
            have et : t = t' := Option.some.inj hj
            rw [← et]
            exact if_pos rfl
        · exact (y7.fr (f9.2.2 39 (by decide) (by decide) (by decide) (by decide))).fr p7
        · exact (y8.fr (f9.2.2 40 (by decide) (by decide) (by decide) (by decide))).fr p8
      have e46 : s9.2.1 46 (D.length + 1) = nI (bo D D.length + k) := by rw [a46]; exact y5
      cases ef : fnd (exK R T r0 r1 M0 M1 S k).2.1 T9 with
      | some t =>
        have htl := (List.getElem?_eq_some_iff.mp (fnd_some ef)).1
        have h6 := ek.1.1
        show (if (0 : Int32) ≤ nI t then _ else _)
        rw [if_pos (nI_pos' (by omega))]
        refine ⟨D.length + 1, by rw [nI_1], by omega, bo D D.length + k, e46, by omega, ?_⟩
        refine put s9 t _ x9 st9 d9 rfl rfl rfl rfl rfl ?_
        rw [estep, en, n9]
        unfold exS
        simp only [ef]
      | none =>
        show (if (0 : Int32) ≤ (-1 : Int32) then _ else _)
        rw [if_neg (by decide), st9.1]
        have h6 := ek.1.1
        by_cases h6e : (exK R T r0 r1 M0 M1 S k).2.1.length = 60
        · rw [if_pos (by rw [h6e]; rfl)]
          have efin : exK R T r0 r1 M0 M1 S (k + 1) = (false, (exK R T r0 r1 M0 M1 S k).2) := by
            rw [estep, en, n9]
            unfold exS
            simp only [ef, h6e, if_true]
          have hst := stop (k + 1) (by omega) (by rw [efin])
          exact q0 s9 (by rw [hst, efin]) x9 (by rw [hst, efin]; exact st9)
        · rw [if_neg (fun z : nI (exK R T r0 r1 M0 M1 S k).2.1.length = (60 : Int32) => h6e ((nI_eq (a := (exK R T r0 r1 M0 M1 S k).2.1.length) (b := 60) (by omega) (by decide)).mp z))]
          refine rq_comes_next (d := d + 7) st9 ek.1 (by omega) t9 l9 (fun s17 f17 st17 => ?_)
          have b46 : s17.2.1 46 = s9.2.1 46 := f17.2.1 46 (by decide)
          have b47 : s17.2.1 47 = s9.2.1 47 := f17.2.1 47 (by decide)
          have b48 : s17.2.1 48 = s9.2.1 48 := f17.2.1 48 (by decide)
          have b49 : s17.2.1 49 = s9.2.1 49 := f17.2.1 49 (by decide)
          refine ⟨D.length + 1, by rw [nI_1], by omega, bo D D.length + k, by rw [b46]; exact e46, by omega, ?_⟩
          refine put s17 _ _ (x9.trans f17.x) st17 (d9.fr (fun j _ => by rw [b46]) (fun x _ => by rw [b47]) (fun j _ => by rw [b48]) (fun j _ => by rw [b49])) b46 b47 b48 (f17.2.2 39 (by decide)) (f17.2.2 40 (by decide)) ?_
          rw [estep, en, n9]
          unfold exS
          simp only [ef]
          rw [if_neg h6e]
    · rw [if_pos rfl]
      have efin : exK R T r0 r1 M0 M1 S (k + 1) = (false, (exK R T r0 r1 M0 M1 S k).2) := by
        rw [estep, en, n9]
        rfl
      have hst := stop (k + 1) (by omega) (by rw [efin])
      exact q0 s9 (by rw [hst, efin]) (y1.trans f9.x) (by rw [hst, efin]; exact y2.l f9)
