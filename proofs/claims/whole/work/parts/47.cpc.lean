/-! the class's reader: atoms, whole -/
theorem cs_mk {N0 : Nat} {K : Nat → Nat} {d C : Nat} {s : cS} {G : gm_H} {sz : Nat} {kind c nn : Int32} {ts : List Tm} {Q : gm_H → Prop} (hn : nn = nI ts.length) (hN : N0 ≤ C) (hsz : C + 34 ≤ sz) (hbd : gm_bd G sz) (hK : K 0 < C) (hG : G (K 0) = some (.inl (gm_scr, 8, .inl c_kt))) (hw : wfA c ts) (hk : kind ≠ 2) (h3 : ∀ i, i < 3 → s.2.1 3 i = te ts i) (q : Q (gm_new G sz (.inr (5, lcell (kind, c, ts))))) : (C + 34 ≤ sz) ∧ ((gm_bd G sz) ∧ (kX5_relationOf N0 K (d + 2) C c nn s (gm_new G sz (.inr (5, [.int 0, .int 0, .int 0, .int 0, .int 0, .int 0, .int 0]))) (sz + 1) (fun r18 => kX5_init_g N0 K (d + 2) C sz kind r18 (s.2.1 3 0) (s.2.1 3 1) (s.2.1 3 2) s (gm_new G sz (.inr (5, [.int 0, .int 0, .int 0, .int 0, .int 0, .int 0, .int 0]))) (sz + 1) (fun _ G22 => Q G22)))) := by
  subst hn
  refine ⟨hsz, hbd, kq_relationOf hK ((gm_set_ne (by omega)).trans hG) (kq_init5 hN hsz ?_)⟩
  rw [h3 0 (by decide), h3 1 (by decide), h3 2 (by decide), rnF_wf hw]
  have e : lcell (kind, c, ts) = [.int kind, .int (rn c ts.length), .int (te ts 0), .int (te ts 1), .int (te ts 2), .int 0, .int 0] := by
    unfold lcell
    rw [if_neg hk]
  rw [e] at q
  exact q
/-- all as it was but the reader's place and its row of terms -/
def fPa (s s' : cS) : Prop := (∀ i, i ≠ 41 → s'.1 i = s.1 i) ∧ (∀ i, i ≠ 3 → s'.2.1 i = s.2.1 i) ∧ s'.2.2 = s.2.2
theorem fPa.refl (s : cS) : fPa s s := ⟨fun _ _ => rfl, fun _ _ => rfl, rfl⟩
theorem fP.a {s s' : cS} (h : fP s s') : fPa s s' := ⟨h.1, fun i _ => by rw [h.2], by rw [h.2]⟩
theorem fPa.trans {s s' s'' : cS} (h : fPa s s') (g : fPa s' s'') : fPa s s'' := ⟨fun i hi => (g.1 i hi).trans (h.1 i hi), fun i hi => (g.2.1 i hi).trans (h.2.1 i hi), g.2.2.trans h.2.2⟩
theorem fPa.p {s s' : cS} (h : fPa s s') (v : Int32) : fPa s (cI s' 41 v) := h.trans ((fP.refl s').p v).a
theorem fPa.t {s s' : cS} (h : fPa s s') (f : Nat → Int32) : fPa s (cA s' 3 f) := by
  refine ⟨h.1, fun i hi => ?_, h.2.2⟩
  show (if i = 3 then f else s'.2.1 i) = s.2.1 i
  rw [if_neg hi]; exact h.2.1 i hi
theorem te_add {acc : List Tm} {t : Tm} {f : Nat → Int32} (h : ∀ i, i < 3 → f i = te acc i) : ∀ i, i < 3 → upd f acc.length (nI (tE t)) i = te (acc ++ [t]) i := by
  intro i hi
  unfold te
  by_cases h1 : i = acc.length
  · subst h1
    rw [upd_eq]
    simp
  · rw [upd_ne h1, h i hi]
    unfold te
    by_cases h2 : i < acc.length
    · rw [List.getElem?_append_left h2]
    · rw [List.getElem?_eq_none (by omega), List.getElem?_eq_none (by simp only [List.length_append, List.length_cons, List.length_nil]; omega)]
theorem cq_readAtom_92 {N0 : Nat} {K : Nat → Nat} {d C : Nat} {G : gm_H} {sz sl : Nat} {T : List Int32} {kind c due u4 u5 : Int32} {s0 : cS} (hN : N0 ≤ C) (hsz : C + 34 ≤ sz) (hbd : gm_bd G sz) (hK : K 0 < C) (hG : G (K 0) = some (.inl (gm_scr, 8, .inl c_kt))) (hk : kind ≠ 2) (hd : (chL c ∧ due < 0) ∨ (chK c = due ∧ 0 < due)) (hm : (due < 0 ∧ u4 = 0 ∧ u5 = 3) ∨ (∃ m, due = nI m ∧ u4 = nI m ∧ u5 = nI m ∧ m ≤ 2)) : ∀ (n : Nat) (acc : List Tm) (l : List Int32) (s : cS) (Q : Option Nat → cS → gm_H → Nat → Nat → Prop), n + acc.length = 2 → (∀ m, due = nI m → m ≤ 2 → acc.length < m) → (∀ t ∈ acc, wfT t) → fPa s0 s → (∀ i, i < 3 → s.2.1 3 i = te acc i) → cL C s T l → (∀ s' l', fPa s0 s' → cL C s' T l' → (∀ x, ps_args c due n acc l = (some x, l') → Q (some sz) s' (gm_new G sz (.inr (5, lcell (kind, x.1, x.2)))) (sz + 1) (sl + 7)) ∧ (ps_args c due n acc l = (none, l') → Q none s' G sz sl)) → hX6_readAtom_92 N0 K (d + 2) C kind c u4 u5 (nI acc.length) s G sz sl Q := by
  intro n
  induction n with
  | zero =>
    intro acc l s Q hn hb ha hf h3 hr q
    rcases hm with ⟨hd0, rfl, rfl⟩ | ⟨m, hm, _, _, hm2⟩
    · refine TX6_readAtom_92 hN (cq_readTerm hN hr ?_)
      intro s2 l2 f2 r2
      have h32 : ∀ i, i < 3 → s2.2.1 3 i = te acc i := fun i hi => by rw [f2.2]; exact h3 i hi
      have f2' := (hf.trans f2.a)
      refine ⟨fun t et => ⟨acc.length, rfl, by omega, ?_⟩, fun et => ⟨acc.length, rfl, by omega, ?_⟩⟩
      · have hne : ¬ nI (tE t) = 0 := nI_ne0 (tE_lt (ps_term_wf et)).2 (by have := (tE_lt (ps_term_wf et)).1; omega)
        have hl : (acc ++ [t]).length = acc.length + 1 := by simp
        rw [upd_eq, if_neg hne, nI_1, if_pos (by rw [n_3]; exact nI_le (by omega) (by omega)), if_neg (nI_pos (by omega))]
        refine cq_take hN (by decide) r2 (fun e r3 => ?_) (fun e => ?_)
        · rw [if_neg (by decide), ← hl]
          have eq : ps_args c due 0 acc l = (some (c, acc ++ [t]), l2.tail) := by
            simp only [ps_args, et]
            rw [if_pos ⟨Or.inl hd0, e⟩]
          have hw := (ps_args_wf hd 0 acc l hn ha _ _ eq).2
          exact cs_mk rfl hN hsz hbd hK hG hw hk (te_add h32) ((q _ _ ((f2'.t _).p _) r3).1 (c, acc ++ [t]) eq)
        · rw [if_pos rfl]
          refine (q _ _ (f2'.t _) r2).2 ?_
          simp only [ps_args, et]
          rw [if_neg (fun z => e z.2)]
      · rw [upd_eq, if_pos rfl]
        refine (q _ _ (f2'.t _) r2).2 ?_
        simp only [ps_args, et]
    · have := hb m hm hm2
      omega
  | succ n ih =>
    intro acc l s Q hn hb ha hf h3 hr q
    refine TX6_readAtom_92 hN (cq_readTerm hN hr ?_)
    intro s2 l2 f2 r2
    have h32 : ∀ i, i < 3 → s2.2.1 3 i = te acc i := fun i hi => by rw [f2.2]; exact h3 i hi
    have f2' := (hf.trans f2.a)
    refine ⟨fun t et => ⟨acc.length, rfl, by omega, ?_⟩, fun et => ⟨acc.length, rfl, by omega, ?_⟩⟩
    · have hne : ¬ nI (tE t) = 0 := nI_ne0 (tE_lt (ps_term_wf et)).2 (by have := (tE_lt (ps_term_wf et)).1; omega)
      have hl : (acc ++ [t]).length = acc.length + 1 := by simp
      have ha' : ∀ y ∈ acc ++ [t], wfT y := by
        intro y hy
        simp only [List.mem_append, List.mem_singleton] at hy
        rcases hy with hy | hy
        · exact ha y hy
        · rw [hy]; exact ps_term_wf et
      rw [upd_eq, if_neg hne, nI_1]
      rcases hm with ⟨hd0, rfl, rfl⟩ | ⟨m, hm, rfl, rfl, hm2⟩
      · have hne2 : ¬ nI (acc.length + 1) = due := by
          intro z
          rw [← z] at hd0
          exact nI_pos (by omega) hd0
        rw [if_neg (by rw [n_3]; exact nI_ge (by omega) (by decide))]
        refine cq_take hN (by decide) r2 (fun e r3 => ?_) (fun e => ?_)
        · rw [if_neg (by decide), ← hl]
          have eq : ps_args c due (n + 1) acc l = ps_args c due n (acc ++ [t]) l2.tail := by
            simp only [ps_args, et]
            rw [if_neg (fun z => by rw [e] at z; exact absurd z.2 (by decide)), if_neg (fun z => z.elim hne2 (fun y => y e))]
          refine ih _ _ _ Q (by rw [hl]; omega) (fun m h1 h2 => ?_) ha' ((f2'.t _).p _) (te_add h32) r3 ?_
          · rw [h1] at hd0
            exact absurd hd0 (nI_pos (by omega))
          · intro s' l' g1 g2
            rw [← eq]
            exact q s' l' g1 g2
        · rw [if_pos rfl, if_neg (nI_pos (by omega))]
          refine cq_take hN (by decide) r2 (fun e2 r3 => ?_) (fun e2 => ?_)
          · rw [if_neg (by decide), ← hl]
            have eq : ps_args c due (n + 1) acc l = (some (c, acc ++ [t]), l2.tail) := by
              simp only [ps_args, et]
              rw [if_pos ⟨Or.inl hd0, e2⟩]
            have hw := (ps_args_wf hd (n + 1) acc l hn ha _ _ eq).2
            exact cs_mk rfl hN hsz hbd hK hG hw hk (te_add h32) ((q _ _ ((f2'.t _).p _) r3).1 (c, acc ++ [t]) eq)
          · rw [if_pos rfl]
            refine (q _ _ (f2'.t _) r2).2 ?_
            simp only [ps_args, et]
            rw [if_neg (fun z => e2 z.2), if_pos (Or.inr e)]
      · have hlt := hb m hm hm2
        have hdn : ¬ due < 0 := by
          rw [hm]
          exact nI_pos (by omega)
        by_cases hx : acc.length + 1 = m
        · rw [if_pos (nI_le (by omega) (by omega)), if_neg (nI_nlt (by omega) (by omega))]
          have hx' : nI (acc.length + 1) = due := by rw [hm, hx]
          refine cq_take hN (by decide) r2 (fun e r3 => ?_) (fun e => ?_)
          · rw [if_neg (by decide), ← hl]
            have eq : ps_args c due (n + 1) acc l = (some (c, acc ++ [t]), l2.tail) := by
              simp only [ps_args, et]
              rw [if_pos ⟨Or.inr hx', e⟩]
            have hw := (ps_args_wf hd (n + 1) acc l hn ha _ _ eq).2
            exact cs_mk rfl hN hsz hbd hK hG hw hk (te_add h32) ((q _ _ ((f2'.t _).p _) r3).1 (c, acc ++ [t]) eq)
          · rw [if_pos rfl]
            refine (q _ _ (f2'.t _) r2).2 ?_
            simp only [ps_args, et]
            rw [if_neg (fun z => e z.2), if_pos (Or.inl hx')]
        · have hx' : ¬ nI (acc.length + 1) = due := by
            rw [hm, nI_eq (by omega) (by omega)]
            exact hx
          rw [if_neg (nI_ge (by omega) (by omega))]
          refine cq_take hN (by decide) r2 (fun e r3 => ?_) (fun e => ?_)
          · rw [if_neg (by decide), ← hl]
            have eq : ps_args c due (n + 1) acc l = ps_args c due n (acc ++ [t]) l2.tail := by
              simp only [ps_args, et]
              rw [if_neg (fun z => z.1.elim hdn hx'), if_neg (fun z => z.elim hx' (fun y => y e))]
            refine ih _ _ _ Q (by rw [hl]; omega) (fun m' h1 h2 => ?_) ha' ((f2'.t _).p _) (te_add h32) r3 ?_
            · have : m' = m := by
                rw [h1, nI_eq (by omega) (by omega)] at hm
                exact hm
              rw [hl]
              omega
            · intro s' l' g1 g2
              rw [← eq]
              exact q s' l' g1 g2
          · rw [if_pos rfl, if_pos (nI_lt (by omega) (by omega))]
            refine (q _ _ (f2'.t _) r2).2 ?_
            simp only [ps_args, et]
            rw [if_neg (fun z => z.1.elim hdn hx'), if_pos (Or.inr e)]
    · rw [upd_eq, if_pos rfl]
      refine (q _ _ (f2'.t _) r2).2 ?_
      simp only [ps_args, et]
theorem cq_readAtom {N0 : Nat} {K : Nat → Nat} {d C : Nat} {G : gm_H} {sz : Nat} {T l : List Int32} {kind : Int32} {s : cS} {Q : Option Nat → cS → gm_H → Nat → Nat → Prop} (hN : N0 ≤ C) (hsz : C + 34 ≤ sz) (hbd : gm_bd G sz) (hK : K 0 < C) (hG : G (K 0) = some (.inl (gm_scr, 8, .inl c_kt))) (hk : kind ≠ 2) (hr : cL C s T l) (q : ∀ s' l', fPa s s' → cL C s' T l' → (∀ x, ps_atom l = (some x, l') → Q (some sz) s' (gm_new G sz (.inr (5, lcell (kind, x.1, x.2)))) (sz + 1) 7) ∧ (ps_atom l = (none, l') → Q none s' G sz 0)) : kX6_readAtom N0 K (d + 3) C kind s G sz Q := by
  refine kX6_readAtom.of (TX6_readAtom_0 hN ?_)
  obtain ⟨k, h1, h2, h3, h4, _⟩ := hr.get
  refine ⟨h4, k, h1, h2, by omega, ?_⟩
  rw [h3]
  have w0 : ∀ {c : Int32}, (chL c ∨ (0 ≤ chK c ∧ nI 0 = chK c)) → wfA c [] := fun h => ⟨h, Nat.zero_le _, fun t ht => absurd ht (by simp)⟩
  have F : ∀ {s1 : cS}, s1.1 = (cI s 41 (s.1 41 + 1)).1 → (∀ i, i ≠ 3 → s1.2.1 i = (cI s 41 (s.1 41 + 1)).2.1 i) → s1.2.2 = (cI s 41 (s.1 41 + 1)).2.2 → fPa s s1 := by
    intro s1 a1 a2 a3
    refine ⟨fun i hi => ?_, a2, a3⟩
    rw [a1]
    exact if_neg hi
  rcases ix_K (ps_hc l) with ⟨hx, hK1⟩ | ⟨m, hm, hx, hkt, hK0⟩
  · rw [if_neg (Int32.not_le.mpr hx)]
    refine kq_isLetter ?_
    by_cases hL : chL (ps_hc l)
    · have h0 : ps_hc l ≠ 0 := chL_ne hL
      have r1 := hr.step (ps_hc_ne h0 rfl)
      have hk0 : ¬ chK (ps_hc l) = 0 := by rw [hK1]; decide
      have hk1 : ¬ 0 ≤ chK (ps_hc l) := by rw [hK1]; decide
      rw [if_neg (zb_ne.mpr hL)]
      refine kq_fill3 hN ?_
      intro s1 a1 a2 a3 a4
      have f1 := F a1 a2 a3
      have te0 : ∀ i, i < 3 → s1.2.1 3 i = te [] i := a4
      have r1 : cL C s1 T l.tail := r1.fr (congrFun a1 41) (a2 1 (by decide)) (congrFun a3 40)
      refine cq_take hN (by decide) r1 (fun e r2 => ?_) (fun e => ?_)
      · rw [if_neg (by decide)]
        have eq : ps_atom l = ps_args (ps_hc l) (chK (ps_hc l)) 2 [] l.tail.tail := by rw [ps_atom, if_pos (Or.inl hL), if_neg hk0, if_pos e]
        refine cq_readAtom_92 (s0 := s) (due := chK (ps_hc l)) hN hsz hbd hK hG hk (Or.inl ⟨hL, by rw [hK1]; decide⟩) (Or.inl ⟨by rw [hK1]; decide, rfl, rfl⟩) 2 [] _ _ Q rfl (fun m h1 h2 => ?_) (fun t ht => absurd ht (by simp)) (f1.p _) te0 r2 ?_
        · rw [hK1] at h1
          exact absurd (by rw [← h1]; decide : nI m < 0) (nI_pos (by omega))
        · intro s' l' g1 g2
          have := q s' l' g1 g2
          rw [eq] at this
          exact ⟨fun x hx => by rw [Nat.zero_add]; exact this.1 x hx, this.2⟩
      · rw [if_pos rfl]
        have eq : ps_atom l = (some (ps_hc l, []), l.tail) := by rw [ps_atom, if_pos (Or.inl hL), if_neg hk0, if_neg e, if_neg hk1]
        exact cs_mk (ts := []) (by decide) hN hsz hbd hK hG (w0 (Or.inl hL)) hk te0 (by rw [Nat.zero_add]; exact (q _ _ f1 r1).1 (ps_hc l, []) eq)
    · rw [if_pos (zb_eq.mpr hL)]
      refine (q _ _ (fPa.refl s) hr).2 ?_
      rw [ps_atom, if_neg (fun z => z.elim hL (fun y => by rw [hK1] at y; exact absurd y (by decide)))]
  · have h0 : ps_hc l ≠ 0 := by
      intro z
      rw [z] at hK0
      exact absurd hK0 (by decide)
    have r1 := hr.step (ps_hc_ne h0 rfl)
    rw [hx, if_pos (nI_pos' (by omega))]
    refine ⟨m, rfl, c_kt, (bM_out (by omega)).trans hG, hm, ?_⟩
    refine kq_fill3 hN ?_
    intro s1 a1 a2 a3 a4
    have f1 := F a1 a2 a3
    have te0 : ∀ i, i < 3 → s1.2.1 3 i = te [] i := a4
    have r1 : cL C s1 T l.tail := r1.fr (congrFun a1 41) (a2 1 (by decide)) (congrFun a3 40)
    rw [hkt]
    by_cases hz : chK (ps_hc l) = 0
    · rw [if_pos (by rw [hz]; decide)]
      have eq : ps_atom l = (some (ps_hc l, []), l.tail) := by rw [ps_atom, if_pos (Or.inr hK0), if_pos hz]
      exact cs_mk (ts := []) (by decide) hN hsz hbd hK hG (w0 (Or.inr ⟨hK0, by rw [hz]; rfl⟩)) hk te0 (by rw [Nat.zero_add]; exact (q _ _ f1 r1).1 (ps_hc l, []) eq)
    · have hdue : ∃ j, chK (ps_hc l) = nI j ∧ 0 < j ∧ j ≤ 2 := by
        rcases chK_cases (ps_hc l) with z | z | z | z
        · rw [z] at hK0; exact absurd hK0 (by decide)
        · exact absurd z hz
        · exact ⟨1, z, by decide, by decide⟩
        · exact ⟨2, z, by decide, by decide⟩
      obtain ⟨j, hj, hj0, hj2⟩ := hdue
      have hnle : ¬ chK (ps_hc l) ≤ 0 := by
        rw [hj]
        exact nI_nle hj0 (by omega)
      rw [if_neg hnle]
      refine cq_take hN (by decide) r1 (fun e r2 => ?_) (fun e => ?_)
      · rw [if_neg (by decide)]
        have eq : ps_atom l = ps_args (ps_hc l) (chK (ps_hc l)) 2 [] l.tail.tail := by rw [ps_atom, if_pos (Or.inr hK0), if_neg hz, if_pos e]
        refine cq_readAtom_92 (s0 := s) (due := chK (ps_hc l)) hN hsz hbd hK hG hk (Or.inr ⟨rfl, Int32.not_le.mp hnle⟩) (Or.inr ⟨j, hj, hj, hj, hj2⟩) 2 [] _ _ Q rfl (fun m h1 h2 => ?_) (fun t ht => absurd ht (by simp)) (f1.p _) te0 r2 ?_
        · rw [hj, nI_eq (by omega) (by omega)] at h1
          simp only [List.length_nil]
          omega
        · intro s' l' g1 g2
          have := q s' l' g1 g2
          rw [eq] at this
          exact ⟨fun x hx => by rw [Nat.zero_add]; exact this.1 x hx, this.2⟩
      · rw [if_pos rfl]
        refine (q _ _ f1 r1).2 ?_
        rw [ps_atom, if_pos (Or.inr hK0), if_neg hz, if_neg e, if_pos hK0]
