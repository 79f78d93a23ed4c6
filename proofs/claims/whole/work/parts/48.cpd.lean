/-! the class's reader: an atom read as a term; literals -/
/-- a heap that has grown -/
def gx (G : gm_H) (sz : Nat) (G' : gm_H) (sz' : Nat) : Prop := sz ≤ sz' ∧ gm_bd G' sz' ∧ ∀ q, q < sz → G' q = G q
theorem gx.refl {G : gm_H} {sz : Nat} (h : gm_bd G sz) : gx G sz G sz := ⟨Nat.le_refl _, h, fun _ _ => rfl⟩
theorem gx.trans {G G' G'' : gm_H} {sz sz' sz'' : Nat} (h : gx G sz G' sz') (g : gx G' sz' G'' sz'') : gx G sz G'' sz'' := ⟨Nat.le_trans h.1 g.1, g.2.1, fun q hq => (g.2.2 q (Nat.lt_of_lt_of_le hq h.1)).trans (h.2.2 q hq)⟩
theorem gx.new {G : gm_H} {sz : Nat} {x : gm_E} (h : gm_bd G sz) : gx G sz (gm_new G sz x) (sz + 1) := ⟨Nat.le_succ _, h.new, fun q hq => gm_set_ne (by omega)⟩
theorem gx.set {G G' : gm_H} {sz sz' a : Nat} {x y : gm_E} (h : gx G sz G' sz') (ha : sz ≤ a) (hy : G' a = some y) : gx G sz (gm_set G' a x) sz' := ⟨h.1, h.2.1.set hy, fun q hq => (gm_set_ne (by omega)).trans (h.2.2 q hq)⟩
theorem tE_part {x : Tm} (h : wfT x) : tE x % 2097152 = 0 ↔ x.1 = 0 := by
  have h1 := (dg_lt h 1).1
  have h2 := (dg_lt h 2).1
  have h3 := (dg_lt h 3).1
  constructor
  · intro hz
    rcases h with ⟨h0, _⟩ | ⟨h0, g1, g2, g3⟩
    · exact h0
    · exfalso
      have hd : 48 ≤ dg x 1 := by
        unfold dg
        rw [if_neg (by decide), if_neg (chL_ne h0)]
        match x.2, g1, g3 with
        | c :: cs, _, g3 => exact (chP_cn (g3 c (by simp))).1
      unfold tE at hz
      omega
  · intro h0
    unfold tE
    have e1 : dg x 1 = 0 := by unfold dg; rw [if_neg (by decide), if_pos h0]
    have e2 : dg x 2 = 0 := by unfold dg; rw [if_neg (by decide), if_pos h0]
    have e3 : dg x 3 = 0 := by unfold dg; rw [if_neg (by decide), if_pos h0]
    rw [e1, e2, e3]
    omega
def teN (ts : List Tm) (i : Nat) : Nat := match ts[i]? with
  | some t => tE t
  | none => 0
theorem te_nI (ts : List Tm) (i : Nat) : te ts i = nI (teN ts i) := by
  unfold te teN
  cases ts[i]? with
  | none => rfl
  | some t => rfl
theorem teN_lt {ts : List Tm} (h : ∀ t ∈ ts, wfT t) (i : Nat) : teN ts i < 2 ^ 28 := by
  unfold teN
  cases e : ts[i]? with
  | none => exact (by decide : 0 < 2 ^ 28)
  | some t => exact (tE_lt (h t (List.mem_of_getElem? e))).1
theorem teN_flat {ts : List Tm} (h : ∀ t ∈ ts, wfT t) (hl : ts.length ≤ 3) : ps_flat ts = true ↔ ∀ i, i < 3 → teN ts i % 2097152 = 0 := by
  constructor
  · intro hf i _
    unfold teN
    cases e : ts[i]? with
    | none => rfl
    | some t =>
      have hm := List.mem_of_getElem? e
      have := List.all_eq_true.mp hf t hm
      exact (tE_part (h t hm)).mpr (by simpa using this)
  · intro hz
    refine List.all_eq_true.mpr (fun t ht => ?_)
    obtain ⟨i, hi, e⟩ := List.getElem_of_mem ht
    have := hz i (by omega)
    unfold teN at this
    rw [List.getElem?_eq_getElem hi, e] at this
    have h0 := (tE_part (h t ht)).mp this
    rw [h0]
    rfl
theorem ps_flat_teN {ts : List Tm} (h : ∀ t ∈ ts, wfT t) (hf : ps_flat ts = true) {i : Nat} {t : Tm} (e : ts[i]? = some t) : teN ts i = cn (ps_hc t.2) * 2097152 ∧ cn (ps_hc t.2) < 128 := by
  have hm := List.mem_of_getElem? e
  have h0 : t.1 = 0 := by
    have := List.all_eq_true.mp hf t hm
    simpa using this
  unfold teN
  rw [e]
  rcases h t hm with ⟨_, c, hc, ec⟩ | ⟨g, _⟩
  · have : t = (0, [c]) := Prod.ext h0 ec
    subst this
    exact ⟨tE_k, (chP_cn hc).2.1⟩
  · rw [h0] at g
    exact absurd g (by decide)
theorem gm_ix_chL {c : Int32} (h : chL c) : gm_ix c < 0 := by
  rcases ix_K c with ⟨h1, _⟩ | ⟨k, hk, h1, h2, h3⟩
  · exact h1
  · exfalso
    unfold gm_ix at h1
    repeat' split at h1
    all_goals first | (rename_i e; rw [e] at h; exact absurd h (by decide)) | (exact absurd (by rw [← h1]; decide : nI k < 0) (nI_pos (by omega)))
theorem rn_name {m n : Nat} (h1 : 97 ≤ m) (h2 : m ≤ 122) (hn : n ≤ 3) : ((8 : Int32) + (nI m - 97) * 4) + nI n = nI (8 + (m - 97) * 4 + n) := by
  have : ∀ m, m < 123 → 97 ≤ m → ∀ n, n < 4 → ((8 : Int32) + (nI m - 97) * 4) + nI n = nI (8 + (m - 97) * 4 + n) := by decide +kernel
  exact this m (by omega) h1 n (by omega)
theorem rn_back : ∀ m, m < 123 → 97 ≤ m → ∀ n, n < 4 → (97 : Int32) + ((nI (8 + (m - 97) * 4 + n) - 8) / 4) = nI m := by decide +kernel
/-- asTerm of a cell that an atom was read into -/
theorem kq_asTerm {N0 : Nat} {K : Nat → Nat} {d C q : Nat} {s : cS} {G : gm_H} {sz : Nat} {kind c : Int32} {ts : List Tm} {Q : Int32 → Prop} (hk : kind ≠ 2) (hw : wfA c ts) (hq : C + 34 ≤ q) (hG : G q = some (.inr (5, lcell (kind, c, ts)))) (q1 : chL c → ps_flat ts = true → Q (nI (tE (ps_asT c ts)))) (q0 : ¬ (chL c ∧ ps_flat ts = true) → Q 0) : kX5_asTerm N0 K (d + 1) C q s G sz Q := by
  refine gC.kpure (gX5_asTerm.of (TX5_asTerm_0 ⟨_, cG_get hq hG, rn c ts.length, ?_, ?_⟩))
  · unfold lcell
    rw [if_neg hk]
    rfl
  · by_cases hL : chL c
    · obtain ⟨m, h2, h3⟩ := nI_of2 (x := c) (M := 122) (n := 122) rfl (Int32.not_lt.mpr (Int32.le_trans (by decide) hL.1)) hL.2
      subst h3
      have h97 := (nI_leI (a := 97) (b := m) (by decide) (by omega)).mp hL.1
      have hn := hw.2.1
      have e1 : rn (nI m) ts.length = nI (8 + (m - 97) * 4 + ts.length) := by
        unfold rn
        rw [if_pos (gm_ix_chL hL), rn_name h97 h2 hn]
      rw [e1, if_neg (by rw [show (8 : Int32) = nI 8 from rfl]; exact nI_nlt (by omega) (by omega))]
      refine ⟨te ts 0, rfl, te ts 1, rfl, te ts 2, rfl, ?_⟩
      have b0 := teN_lt hw.2.2 0
      have b1 := teN_lt hw.2.2 1
      have b2 := teN_lt hw.2.2 2
      have e2 : ((te ts 0 ||| te ts 1) ||| te ts 2) &&& (2097151 : Int32) = nI ((teN ts 0 % 2097152 ||| teN ts 1 % 2097152) ||| teN ts 2 % 2097152) := by
        rw [te_nI, te_nI, te_nI, nI_or, nI_or, show (2097151 : Int32) = nI 2097151 from rfl, nI_and, Nat.and_or_distrib_right, Nat.and_or_distrib_right, n_andPart, n_andPart, n_andPart]
      rw [e2]
      by_cases hf : ps_flat ts = true
      · have hz := (teN_flat hw.2.2 hn).mp hf
        rw [hz 0 (by decide), hz 1 (by decide), hz 2 (by decide), if_pos (show nI (0 ||| 0 ||| 0) = 0 by decide), rn_back m (by omega) h97 ts.length (by omega)]
        have e3 : nI m <<< ((21 : Int32) &&& 31) = nI (m * 2 ^ 21) := nI_shl m (k := 21) (by decide)
        have e4 : ((te ts 0).toUInt32 >>> (((7 : Int32)).toUInt32 &&& Int32.toUInt32 31)).toInt32 = nI (teN ts 0 / 2 ^ 7) := by
          rw [te_nI]; exact nI_ush (k := 7) (by omega) (by decide)
        have e5 : ((te ts 1).toUInt32 >>> (((14 : Int32)).toUInt32 &&& Int32.toUInt32 31)).toInt32 = nI (teN ts 1 / 2 ^ 14) := by
          rw [te_nI]; exact nI_ush (k := 14) (by omega) (by decide)
        have e6 : ((te ts 2).toUInt32 >>> (((21 : Int32)).toUInt32 &&& Int32.toUInt32 31)).toInt32 = nI (teN ts 2 / 2 ^ 21) := by
          rw [te_nI]; exact nI_ush (k := 21) (by omega) (by decide)
        have hm : cn (nI m) = m := cn_nI (by omega)
        rw [e3, e4, e5, e6, nI_or, nI_or, nI_or]
        have fin : ((m * 2 ^ 21 ||| teN ts 0 / 2 ^ 7) ||| teN ts 1 / 2 ^ 14) ||| teN ts 2 / 2 ^ 21 = tE (ps_asT (nI m) ts) := by
          match ts, hn, hw, hf with
          | [], _, _, _ =>
            show ((m * 2 ^ 21 ||| 0) ||| 0) ||| 0 = tE (0, [nI m])
            rw [tE_k, hm, Nat.or_zero, Nat.or_zero, Nat.or_zero]
          | [x], _, hw, hf =>
            obtain ⟨x1, x2⟩ := ps_flat_teN hw.2.2 hf (i := 0) (t := x) rfl
            rw [show teN [x] 1 = 0 from rfl, show teN [x] 2 = 0 from rfl, Nat.zero_div]
            try rw [Nat.zero_div]
            show ((m * 2 ^ 21 ||| teN [x] 0 / 2 ^ 7) ||| 0) ||| 0 = tE (nI m, [ps_hc x.2])
            rw [tE_c (chL_ne hL), hm, Nat.or_zero, Nat.or_zero, x1, show cn (ps_hc x.2) * 2097152 / 2 ^ 7 = cn (ps_hc x.2) * 16384 by omega, n_or (by omega)]
            show _ = m * 2097152 + cn (ps_hc x.2) * 16384 + 0 * 128 + 0
            omega
          | [x, y], _, hw, hf =>
            obtain ⟨x1, x2⟩ := ps_flat_teN hw.2.2 hf (i := 0) (t := x) rfl
            obtain ⟨y1, y2⟩ := ps_flat_teN hw.2.2 hf (i := 1) (t := y) rfl
            rw [show teN [x, y] 2 = 0 from rfl, Nat.zero_div]
            show ((m * 2 ^ 21 ||| teN [x, y] 0 / 2 ^ 7) ||| teN [x, y] 1 / 2 ^ 14) ||| 0 = tE (nI m, [ps_hc x.2, ps_hc y.2])
            rw [tE_c (chL_ne hL), hm, Nat.or_zero, x1, y1, show cn (ps_hc x.2) * 2097152 / 2 ^ 7 = cn (ps_hc x.2) * 16384 by omega, show cn (ps_hc y.2) * 2097152 / 2 ^ 14 = cn (ps_hc y.2) * 128 by omega, n_or (by omega), show m * 2 ^ 21 + cn (ps_hc x.2) * 16384 = (m * 128 + cn (ps_hc x.2)) * 2 ^ 14 by omega, n_or (by omega)]
            show _ = m * 2097152 + cn (ps_hc x.2) * 16384 + cn (ps_hc y.2) * 128 + 0
            omega
          | [x, y, z], _, hw, hf =>
            obtain ⟨x1, x2⟩ := ps_flat_teN hw.2.2 hf (i := 0) (t := x) rfl
            obtain ⟨y1, y2⟩ := ps_flat_teN hw.2.2 hf (i := 1) (t := y) rfl
            obtain ⟨z1, z2⟩ := ps_flat_teN hw.2.2 hf (i := 2) (t := z) rfl
            show ((m * 2 ^ 21 ||| teN [x, y, z] 0 / 2 ^ 7) ||| teN [x, y, z] 1 / 2 ^ 14) ||| teN [x, y, z] 2 / 2 ^ 21 = tE (nI m, [ps_hc x.2, ps_hc y.2, ps_hc z.2])
            rw [tE_c (chL_ne hL), hm, x1, y1, z1, show cn (ps_hc x.2) * 2097152 / 2 ^ 7 = cn (ps_hc x.2) * 16384 by omega, show cn (ps_hc y.2) * 2097152 / 2 ^ 14 = cn (ps_hc y.2) * 128 by omega, show cn (ps_hc z.2) * 2097152 / 2 ^ 21 = cn (ps_hc z.2) by omega, n_or (by omega), show m * 2 ^ 21 + cn (ps_hc x.2) * 16384 = (m * 128 + cn (ps_hc x.2)) * 2 ^ 14 by omega, n_or (by omega), show (m * 128 + cn (ps_hc x.2)) * 2 ^ 14 + cn (ps_hc y.2) * 128 = (m * 16384 + cn (ps_hc x.2) * 128 + cn (ps_hc y.2)) * 2 ^ 7 by omega, n_or (by omega)]
            show _ = m * 2097152 + cn (ps_hc x.2) * 16384 + cn (ps_hc y.2) * 128 + cn (ps_hc z.2)
            omega
        rw [fin]
        exact q1 hL hf
      · have hz : ¬ nI ((teN ts 0 % 2097152 ||| teN ts 1 % 2097152) ||| teN ts 2 % 2097152) = 0 := by
          intro z
          have hb : (teN ts 0 % 2097152 ||| teN ts 1 % 2097152) ||| teN ts 2 % 2097152 < 2 ^ 21 := Nat.or_lt_two_pow (Nat.or_lt_two_pow (by omega) (by omega)) (by omega)
          rw [← nI_0, nI_eq (by omega) (by decide)] at z
          obtain ⟨z1, z3⟩ := Nat.or_eq_zero_iff.mp z
          obtain ⟨z1, z2⟩ := Nat.or_eq_zero_iff.mp z1
          refine hf ((teN_flat hw.2.2 hn).mpr (fun i hi => ?_))
          match i, hi with
          | 0, _ => exact z1
          | 1, _ => exact z2
          | 2, _ => exact z3
        rw [if_neg hz]
        exact q0 (fun z => hf z.2)
    · have hx : rn c ts.length < 8 := by
        unfold rn
        rcases hw.1 with h | h
        · exact absurd h hL
        · rcases ix_K c with ⟨h1, h2⟩ | ⟨k, h1, h2, _⟩
          · rw [h2] at h
            exact absurd h.1 (by decide)
          · rw [h2, if_neg (nI_pos (by omega)), show (8 : Int32) = nI 8 from rfl]
            exact nI_lt h1 (by decide)
      rw [if_pos hx]
      exact q0 (fun z => hL z.1)
theorem cq_readUnlike {N0 : Nat} {K : Nat → Nat} {d C : Nat} {G : gm_H} {sz : Nat} {T l : List Int32} {a0 : Tm} {s : cS} {Q : Option Nat → cS → gm_H → Nat → Nat → Prop} (hN : N0 ≤ C) (hsz : C + 34 ≤ sz) (hbd : gm_bd G sz) (hr : cL C s T l) (q : ∀ s' l', fPa s s' → cL C s' T l' → (∀ x, ps_un a0 l = (some x, l') → Q (some sz) s' (gm_new G sz (.inr (5, lcell x))) (sz + 1) 7) ∧ (ps_un a0 l = (none, l') → Q none s' G sz 0)) : kX6_readUnlike N0 K (d + 3) C (nI (tE a0)) s G sz Q := by
  refine kX6_readUnlike.of (TX6_readUnlike_0 hN ?_)
  refine cq_take hN (by decide) hr (fun e r1 => ?_) (fun e => ?_)
  · rw [if_neg (by decide)]
    refine cq_readTerm hN r1 ?_
    intro s6 l6 f6 r6
    have f6' : fPa s s6 := (((fP.refl s).p _).trans f6).a
    refine ⟨fun t et => ?_, fun et => ?_⟩
    · rw [if_neg (nI_ne0 (tE_lt (ps_term_wf et)).2 (by have := (tE_lt (ps_term_wf et)).1; omega))]
      refine ⟨hsz, hbd, kq_init5 hN hsz ?_⟩
      rw [Nat.zero_add]
      refine (q _ _ f6' r6).1 (2, 0, [a0, t]) ?_
      rw [ps_un, if_pos e, et]
    · rw [if_pos rfl]
      refine (q _ _ f6' r6).2 ?_
      rw [ps_un, if_pos e, et]
  · rw [if_pos rfl]
    refine (q _ _ (fPa.refl s) hr).2 ?_
    rw [ps_un, if_neg e]
theorem cs_lit_atom {N0 : Nat} {K : Nat → Nat} {d C : Nat} {G : gm_H} {sz : Nat} {T l : List Int32} {s : cS} {Q : Option Nat → cS → gm_H → Nat → Nat → Prop} (hN : N0 ≤ C) (hsz : C + 34 ≤ sz) (hbd : gm_bd G sz) (hK : K 0 < C) (hG : G (K 0) = some (.inl (gm_scr, 8, .inl c_kt))) (hr : cL C s T l) (e0 : ¬ ps_hc l = 126) (hc : chL (ps_hc l) ∨ ¬ chP (ps_hc l)) (q : ∀ s' l', fPa s s' → cL C s' T l' → (∀ x, ps_lit l = (some x, l') → ∀ r G' sz' dd, gx G sz G' sz' → sz' ≤ sz + 2 → dd ≤ 14 → sz ≤ r → r < sz' → G' r = some (.inr (5, lcell x)) → Q (some r) s' G' sz' dd) ∧ (ps_lit l = (none, l') → ∀ G' sz' dd, gx G sz G' sz' → sz' ≤ sz + 2 → dd ≤ 14 → Q none s' G' sz' dd)) : kX6_readAtom N0 K (d + 3) C 0 s G sz (fun r10 s10 G10 z10 d10 => (r10 = none ∧ (Q none s10 G10 z10 (0 + d10))) ∨ (∃ a10 : Nat, r10 = some a10 ∧ ((s10.2.2 40 = some (C + 1)) ∧ (∃ k17 : Nat, ((s10.1 41) = nI k17) ∧ ((k17 < 241) ∧ (if (s10.2.1 1 k17) = (35 : Int32) then (∃ fso19 : List Value, (G10 a10 = some (.inr (5, fso19))) ∧ ((C + 34 ≤ a10) ∧ (kX5_asTerm N0 K (d + 3) C a10 s10 G10 z10 (fun r21 => if r21 = 0 then (Q (some a10) s10 G10 z10 (0 + d10)) else (kX5_asTerm N0 K (d + 3) C a10 s10 G10 z10 (fun r24 => kX6_readUnlike N0 K (d + 3) C r24 s10 G10 z10 (fun r25 s25 G25 z25 d25 => (r25 = none ∧ (Q none s25 G25 z25 ((0 + d10) + d25))) ∨ (∃ a25 : Nat, r25 = some a25 ∧ (Q (some a25) s25 G25 z25 ((0 + d10) + d25)))))))))) else (Q (some a10) s10 G10 z10 (0 + d10)))))))) := by
  refine cq_readAtom hN hsz hbd hK hG (by decide) hr ?_
  intro s10 l10 f10 r10
  refine ⟨fun x ex => Or.inr ⟨sz, rfl, ?_⟩, fun ex => Or.inl ⟨rfl, ?_⟩⟩
  · obtain ⟨k, h1, h2, h3, h4, _⟩ := r10.get
    refine ⟨h4, k, h1, h2, ?_⟩
    rw [h3]
    obtain ⟨w1, w2⟩ := ps_atom_wf ex
    have hc2 : chL (ps_hc l) ∨ 0 ≤ chK (ps_hc l) := by
      rw [w1] at w2
      exact w2.1.imp id (fun z => z.1)
    have g1 := gx.new (x := (.inr (5, lcell (0, x.1, x.2)) : gm_E)) hbd
    have fin : ¬ (ps_hc l10 = 35 ∧ chL (ps_hc l) ∧ ps_flat x.2 = true) → Q (some sz) s10 (gm_new G sz (.inr (5, lcell (0, x.1, x.2)))) (sz + 1) (0 + 7) := by
      intro hno
      refine (q _ _ f10 r10).1 (0, x.1, x.2) ?_ _ _ _ _ g1 (by omega) (by omega) (Nat.le_refl _) (by omega) gm_set_eq
      rw [ps_lit, if_neg e0, if_pos hc2, ex]
      simp only
      rw [if_neg hno]
    by_cases e1 : ps_hc l10 = 35
    · rw [if_pos e1]
      refine ⟨_, gm_set_eq, hsz, ?_⟩
      refine kq_asTerm (kind := 0) (c := x.1) (ts := x.2) (by decide) w2 hsz gm_set_eq (fun hL hf => ?_) (fun hno => ?_)
      · have wt := ps_asT_wf hL w2 hf
        have hL' : chL (ps_hc l) := by rw [← w1]; exact hL
        rw [if_neg (nI_ne0 (tE_lt wt).2 (by have := (tE_lt wt).1; omega))]
        refine kq_asTerm (kind := 0) (c := x.1) (ts := x.2) (by decide) w2 hsz gm_set_eq (fun _ _ => ?_) (fun hno => absurd ⟨hL, hf⟩ hno)
        refine cq_readUnlike hN (by omega) hbd.new r10 ?_
        intro s25 l25 f25 r25
        have eq : ps_lit l = ps_un (ps_asT x.1 x.2) l10 := by
          rw [ps_lit, if_neg e0, if_pos hc2, ex]
          simp only
          rw [if_pos ⟨e1, hL', hf⟩]
        have hq := q _ _ (f10.trans f25) r25
        rw [eq] at hq
        exact ⟨fun y ey => Or.inr ⟨_, rfl, hq.1 y ey _ _ _ _ (g1.trans (gx.new g1.2.1)) (by omega) (by omega) (by omega) (by omega) gm_set_eq⟩, fun ey => Or.inl ⟨rfl, hq.2 ey _ _ _ g1 (by omega) (by omega)⟩⟩
      · rw [if_pos rfl]
        exact fin (fun z => hno ⟨by rw [w1]; exact z.2.1, z.2.2⟩)
    · rw [if_neg e1]
      exact fin (fun z => e1 z.1)
  · refine (q _ _ f10 r10).2 ?_ _ _ _ (gx.refl hbd) (by omega) (by omega)
    by_cases hc2 : chL (ps_hc l) ∨ 0 ≤ chK (ps_hc l)
    · rw [ps_lit, if_neg e0, if_pos hc2, ex]
    · have hp : ¬ chP (ps_hc l) := hc.resolve_left (fun z => hc2 (Or.inl z))
      rw [ps_lit, if_neg e0, if_neg hc2]
      rw [ps_atom, if_neg hc2] at ex
      rw [ps_term, if_neg hp]
      simp only
      cases ex
      rfl
theorem cq_readLiteral {N0 : Nat} {K : Nat → Nat} {d C : Nat} {G : gm_H} {sz : Nat} {T l : List Int32} {s : cS} {Q : Option Nat → cS → gm_H → Nat → Nat → Prop} (hN : N0 ≤ C) (hsz : C + 34 ≤ sz) (hbd : gm_bd G sz) (hK : K 0 < C) (hG : G (K 0) = some (.inl (gm_scr, 8, .inl c_kt))) (hr : cL C s T l) (q : ∀ s' l', fPa s s' → cL C s' T l' → (∀ x, ps_lit l = (some x, l') → ∀ r G' sz' dd, gx G sz G' sz' → sz' ≤ sz + 2 → dd ≤ 14 → sz ≤ r → r < sz' → G' r = some (.inr (5, lcell x)) → Q (some r) s' G' sz' dd) ∧ (ps_lit l = (none, l') → ∀ G' sz' dd, gx G sz G' sz' → sz' ≤ sz + 2 → dd ≤ 14 → Q none s' G' sz' dd)) : kX6_readLiteral N0 K (d + 4) C s G sz Q := by
  refine kX6_readLiteral.of (TX6_readLiteral_0 hN ?_)
  refine cq_take hN (by decide) hr (fun e r1 => ?_) (fun e => ?_)
  · rw [if_neg (by decide)]
    refine cq_readAtom hN hsz hbd hK hG (by decide) r1 ?_
    intro s5 l5 f5 r5
    have hq := q _ _ (((fPa.refl s).p _).trans f5) r5
    refine ⟨fun x ex => Or.inr ⟨sz, rfl, ?_⟩, fun ex => Or.inl ⟨rfl, ?_⟩⟩
    · refine hq.1 (1, x.1, x.2) ?_ _ _ _ _ (gx.new hbd) (by omega) (by omega) (Nat.le_refl _) (by omega) gm_set_eq
      rw [ps_lit, if_pos e, ex]
    · refine hq.2 ?_ _ _ _ (gx.refl hbd) (by omega) (by omega)
      rw [ps_lit, if_pos e, ex]
  · rw [if_pos rfl]
    obtain ⟨k, h1, h2, h3, h4, _⟩ := hr.get
    refine ⟨h4, k, h1, h2, ?_⟩
    rw [h3]
    refine kq_isPlain ?_
    by_cases hp : chP (ps_hc l)
    · rw [if_neg (zb_ne.mpr hp)]
      refine kq_isLetter ?_
      by_cases hL : chL (ps_hc l)
      · rw [if_neg (zb_ne.mpr hL)]
        exact cs_lit_atom hN hsz hbd hK hG hr e (Or.inl hL) q
      · rw [if_pos (zb_eq.mpr hL)]
        have hk : ¬ (chL (ps_hc l) ∨ 0 ≤ chK (ps_hc l)) := by
          intro z
          rcases z with z | z
          · exact hL z
          · rcases ix_K (ps_hc l) with ⟨_, hx⟩ | ⟨m, hm, hx, _⟩
            · rw [hx] at z
              exact absurd z (by decide)
            · unfold gm_ix at hx
              repeat' split at hx
              all_goals first | (rename_i ee; rw [ee] at hp; exact absurd hp (by decide)) | (exact absurd (by rw [← hx]; decide : nI m < 0) (nI_pos (by omega)))
        refine cq_readTerm hN hr ?_
        intro s15 l15 f15 r15
        refine ⟨fun t et => ?_, fun et => ?_⟩
        · refine cq_readUnlike hN hsz hbd r15 ?_
          intro s17 l17 f17 r17
          have eq : ps_lit l = ps_un t l15 := by rw [ps_lit, if_neg e, if_neg hk, et]
          have hq := q _ _ (f15.a.trans f17) r17
          rw [eq] at hq
          exact ⟨fun y ey => Or.inr ⟨_, rfl, hq.1 y ey _ _ _ _ (gx.new hbd) (by omega) (by omega) (by omega) (by omega) gm_set_eq⟩, fun ey => Or.inl ⟨rfl, hq.2 ey _ _ _ (gx.refl hbd) (by omega) (by omega)⟩⟩
        · exfalso
          rw [ps_term, if_pos hp, if_neg (fun z => hL z.1)] at et
          cases et
    · rw [if_pos (zb_eq.mpr hp)]
      exact cs_lit_atom hN hsz hbd hK hG hr e (Or.inr hp) q
