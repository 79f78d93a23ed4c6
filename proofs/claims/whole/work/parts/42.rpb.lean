/-! the reference's reader: atoms -/
theorem rs_atom_75 {d : Nat} {T : List Int32} {a : Nat} {c due : Int32} {s0 : mS} (ha : a < 144) : ∀ (n : Nat) (acc : List Tm) (l : List Int32) (s : mS) (Q : Int32 → mS → Prop), n + acc.length = 2 → (due < 0 ∨ ∃ m, due = nI m ∧ acc.length < m ∧ m ≤ 2) → fr 24 144 a (3 * a) s0 s → rTms s.2.1 (3 * a) acc → rLs s T l → (∀ s' l', fr 24 144 a (3 * a) s0 s' → rLs s' T l' → (∀ x, ps_args c due n acc l = (some x, l') → s'.2.1 14 a = 4 * c + nI x.2.length → rTms s'.2.1 (3 * a) x.2 → Q 1 s') ∧ (ps_args c due n acc l = (none, l') → Q 0 s')) → h_atom_75 (d + 3) (nI a) c due (nI (acc.length + 1)) s Q := by
  intro n
  induction n with
  | zero =>
    intro acc l s Q hn hb hf hts hr q
    have hd : due < 0 := by
      rcases hb with hb | ⟨m, _, h1, h2⟩
      · exact hb
      · omega
    refine T_atom_75 ?_
    rw [if_neg (by rw [n_3]; exact nI_nlt (by omega) (by decide)), show ((3 : Int32) * nI a + nI (acc.length + 1)) - 1 = nI (3 * a + acc.length) by rw [n_3, nI_mul, nI_add, ← Nat.add_assoc]; exact nI_pred _]
    refine rq_term (by omega) hr ?_
    intro s4 l4 f4 r4
    have f4' := hf.trans (f4.le (b' := 24) (k' := 144) (a' := a) (t' := 3 * a) (by omega) (by omega) (by omega) (by omega))
    refine ⟨fun t et ht => ?_, fun et => ?_⟩
    · rw [if_neg (by decide)]
      refine ⟨a, rfl, ha, ?_⟩
      rw [if_pos hd]
      have f5 := f4'.a14 (x := a) (by omega) (4 * c + nI (acc.length + 1))
      have hl : (acc ++ [t]).length = acc.length + 1 := by simp
      have ht2 := (hts.fr f4 (by omega)).add ht
      refine rq_takes (by decide) r4 (fun e r5 => ?_) (fun e => ?_)
      · rw [if_neg (by decide)]
        refine (q _ _ (f5.p _) r5).1 (c, acc ++ [t]) ?_ ?_ ht2
        · simp only [ps_args, et]
          rw [if_pos ⟨Or.inl hd, e⟩]
        · show upd (s4.2.1 14) a (4 * c + nI (acc.length + 1)) a = _
          rw [upd_eq, hl]
      · rw [if_pos rfl, if_pos (by rw [show acc.length = 2 by omega]; rfl)]
        refine (q _ _ f5 r4).2 ?_
        simp only [ps_args, et]
        rw [if_neg (fun z => e z.2)]
    · rw [if_pos rfl]
      refine (q _ _ f4' r4).2 ?_
      simp only [ps_args, et]
  | succ n ih =>
    intro acc l s Q hn hb hf hts hr q
    refine T_atom_75 ?_
    rw [if_neg (by rw [n_3]; exact nI_nlt (by omega) (by decide)), show ((3 : Int32) * nI a + nI (acc.length + 1)) - 1 = nI (3 * a + acc.length) by rw [n_3, nI_mul, nI_add, ← Nat.add_assoc]; exact nI_pred _]
    refine rq_term (by omega) hr ?_
    intro s4 l4 f4 r4
    have f4' := hf.trans (f4.le (b' := 24) (k' := 144) (a' := a) (t' := 3 * a) (by omega) (by omega) (by omega) (by omega))
    refine ⟨fun t et ht => ?_, fun et => ?_⟩
    · rw [if_neg (by decide)]
      refine ⟨a, rfl, ha, ?_⟩
      have f5 := f4'.a14 (x := a) (by omega) (4 * c + nI (acc.length + 1))
      have hl : (acc ++ [t]).length = acc.length + 1 := by simp
      have ht2 := (hts.fr f4 (by omega)).add ht
      have fin : ∀ {l9 : List Int32} {s9 : mS}, fr 24 144 a (3 * a) s0 s9 → s9.2.1 = (mA s4 14 (upd (s4.2.1 14) a (4 * c + nI (acc.length + 1)))).2.1 → rLs s9 T l9 → ps_args c due (n + 1) acc l = (some (c, acc ++ [t]), l9) → Q 1 s9 := by
        intro l9 s9 g1 g2 g3 g4
        refine (q _ _ g1 g3).1 (c, acc ++ [t]) g4 ?_ ?_
        · rw [g2]
          show upd (s4.2.1 14) a (4 * c + nI (acc.length + 1)) a = _
          rw [upd_eq, hl]
        · intro i x hx
          rw [g2]
          exact ht2 i x hx
      have go : ∀ {l9 : List Int32} {s9 : mS}, fr 24 144 a (3 * a) s0 s9 → s9.2.1 = (mA s4 14 (upd (s4.2.1 14) a (4 * c + nI (acc.length + 1)))).2.1 → rLs s9 T l9 → ps_args c due (n + 1) acc l = ps_args c due n (acc ++ [t]) l9 → (due < 0 ∨ ∃ m, due = nI m ∧ acc.length + 1 < m ∧ m ≤ 2) → h_atom_75 (d + 3) (nI a) c due (nI (acc.length + 1) + 1) s9 Q := by
        intro l9 s9 g1 g2 g3 g4 g5
        rw [nI_1, ← hl]
        refine ih _ _ _ Q (by rw [hl]; omega) (by rw [hl]; exact g5) g1 ?_ g3 ?_
        · intro i x hx
          rw [g2]
          exact ht2 i x hx
        · rw [← g4]; exact q
      by_cases hd : due < 0
      · rw [if_pos hd]
        refine rq_takes (by decide) r4 (fun e r5 => ?_) (fun e => ?_)
        · rw [if_neg (by decide)]
          refine fin (f5.p _) rfl r5 ?_
          simp only [ps_args, et]
          rw [if_pos ⟨Or.inl hd, e⟩]
        · have hne : ¬ nI (acc.length + 1) = due := by
            intro z
            rw [← z] at hd
            exact nI_pos (by omega) hd
          rw [if_pos rfl, if_neg (by rw [n_3, nI_eq (by omega) (by decide)]; omega)]
          refine rq_takes (by decide) r4 (fun e2 r5 => ?_) (fun e2 => ?_)
          · rw [if_neg (by decide)]
            refine go (f5.p _) rfl r5 ?_ (Or.inl hd)
            simp only [ps_args, et]
            rw [if_neg (fun z => e z.2), if_neg (fun z => z.elim hne (fun y => y e2))]
          · rw [if_pos rfl]
            refine (q _ _ f5 r4).2 ?_
            simp only [ps_args, et]
            rw [if_neg (fun z => e z.2), if_pos (Or.inr e2)]
      · rw [if_neg hd]
        obtain ⟨m, hm, h1, h2⟩ := hb.resolve_left hd
        by_cases hx : nI (acc.length + 1) = due
        · rw [if_pos hx]
          refine rq_takes (by decide) r4 (fun e r5 => ?_) (fun e => ?_)
          · rw [if_neg (by decide)]
            refine fin (f5.p _) rfl r5 ?_
            simp only [ps_args, et]
            rw [if_pos ⟨Or.inr hx, e⟩]
          · rw [if_pos rfl]
            refine (q _ _ f5 r4).2 ?_
            simp only [ps_args, et]
            rw [if_neg (fun z => e z.2), if_pos (Or.inl hx)]
        · rw [if_neg hx]
          refine rq_takes (by decide) r4 (fun e2 r5 => ?_) (fun e2 => ?_)
          · rw [if_neg (by decide)]
            refine go (f5.p _) rfl r5 ?_ (Or.inr ⟨m, hm, ?_, h2⟩)
            · simp only [ps_args, et]
              rw [if_neg (fun z => z.1.elim hd hx), if_neg (fun z => z.elim hx (fun y => y e2))]
            · have : ¬ acc.length + 1 = m := fun z => hx (by rw [hm, z])
              omega
          · rw [if_pos rfl]
            refine (q _ _ f5 r4).2 ?_
            simp only [ps_args, et]
            rw [if_neg (fun z => z.1.elim hd hx), if_pos (Or.inr e2)]
    · rw [if_pos rfl]
      refine (q _ _ f4' r4).2 ?_
      simp only [ps_args, et]
theorem rq_atom {d : Nat} {T l : List Int32} {a : Nat} {s : mS} {Q : Int32 → mS → Prop} (ha : a < 144) (hr : rLs s T l) (q : ∀ s' l', fr 24 144 a (3 * a) s s' → rLs s' T l' → (∀ x, ps_atom l = (some x, l') → s'.2.1 14 a = 4 * x.1 + nI x.2.length → rTms s'.2.1 (3 * a) x.2 → Q 1 s') ∧ (ps_atom l = (none, l') → Q 0 s')) : m_atom (d + 4) (nI a) s Q := by
  refine m_atom.of (T_atom_0 (rq_here hr (rq_terms (rq_isLetter ?_))))
  have fin : ps_hc l ≠ 0 → ps_atom l = (some (ps_hc l, []), l.tail) → Q 1 (mA (mI s 10 (s.1 10 + 1)) 14 (upd (s.2.1 14) a (4 * ps_hc l))) := by
    intro h0 h
    refine (q _ _ (((fr.refl 24 144 a (3 * a) s).p (s.1 10 + 1)).a14 (x := a) (by omega) (4 * ps_hc l)) (hr.step (ps_hc_ne h0 rfl))).1 _ h ?_ (fun i x hx => absurd hx (by simp))
    show upd (s.2.1 14) a (4 * ps_hc l) a = 4 * ps_hc l + nI 0
    rw [upd_eq, nI_0, Int32.add_zero]
  have go : ps_hc l ≠ 0 → (ps_hc l.tail = 40 → (chK (ps_hc l) < 0 ∨ ∃ m, chK (ps_hc l) = nI m ∧ 0 < m ∧ m ≤ 2) ∧ ps_atom l = ps_args (ps_hc l) (chK (ps_hc l)) 2 [] l.tail.tail) → (¬ ps_hc l.tail = 40 → ps_atom l = (none, l.tail)) → m_takes (d + 3) 40 (mA (mI s 10 (s.1 10 + 1)) 14 (upd (s.2.1 14) a (4 * ps_hc l))) (fun r11 s13 => if r11 = 0 then Q 0 s13 else h_atom_75 (d + 3) (nI a) (ps_hc l) (chK (ps_hc l)) 1 s13 Q) := by
    intro h0 h1 h2
    have f1 := ((fr.refl 24 144 a (3 * a) s).p (s.1 10 + 1)).a14 (x := a) (by omega) (4 * ps_hc l)
    have r1 := hr.step (ps_hc_ne h0 rfl)
    refine rq_takes (by decide) r1 (fun e r2 => ?_) (fun e => ?_)
    · rw [if_neg (by decide)]
      obtain ⟨g1, g2⟩ := h1 e
      refine rs_atom_75 (s0 := s) ha 2 [] _ _ Q rfl g1 (f1.p _) (fun i x hx => absurd hx (by simp)) r2 ?_
      intro s' l' k1 k2
      have := q s' l' k1 k2
      rw [g2] at this
      refine ⟨fun x hx hy hz => this.1 x hx ?_ hz, this.2⟩
      have e9 : x.1 = ps_hc l := by
        have := ps_atom_wf (l := l) (l' := l') (x := x) (by rw [g2]; exact hx)
        exact this.1
      rw [e9]; exact hy
    · rw [if_pos rfl]
      exact (q _ _ f1 r1).2 (h2 e)
  by_cases hL : chL (ps_hc l)
  · have h0 : ps_hc l ≠ 0 := chP_ne (Or.inl hL)
    rw [if_neg (zb_ne.mpr hL)]
    refine ⟨a, rfl, ha, ?_⟩
    by_cases hk : chK (ps_hc l) = 0
    · rw [if_pos hk]
      refine fin h0 ?_
      rw [ps_atom, if_pos (Or.inl hL), if_pos hk]
    · rw [if_neg hk]
      by_cases hk2 : 0 ≤ chK (ps_hc l)
      · rw [if_pos hk2]
        refine go h0 (fun e => ⟨?_, ?_⟩) (fun e => ?_)
        · rcases chK_cases (ps_hc l) with z | z | z | z
          · rw [z] at hk2; exact absurd hk2 (by decide)
          · exact absurd z hk
          · exact Or.inr ⟨1, z, by decide, by decide⟩
          · exact Or.inr ⟨2, z, by decide, by decide⟩
        · rw [ps_atom, if_pos (Or.inl hL), if_neg hk, if_pos e]
        · rw [ps_atom, if_pos (Or.inl hL), if_neg hk, if_neg e, if_pos hk2]
      · rw [if_neg hk2]
        have r1 := hr.step (ps_hc_ne h0 rfl)
        refine rq_here r1 ?_
        by_cases e : ps_hc l.tail = 40
        · rw [if_pos e]
          refine go h0 (fun e => ⟨Or.inl (Int32.not_le.mp hk2), ?_⟩) (fun e' => absurd e e')
          rw [ps_atom, if_pos (Or.inl hL), if_neg hk, if_pos e]
        · rw [if_neg e]
          refine fin h0 ?_
          rw [ps_atom, if_pos (Or.inl hL), if_neg hk, if_neg e, if_neg hk2]
  · rw [if_pos (zb_eq.mpr hL)]
    by_cases hk2 : 0 ≤ chK (ps_hc l)
    · have h0 : ps_hc l ≠ 0 := by
        intro z
        rw [z] at hk2
        revert hk2
        decide
      rw [if_pos hk2]
      refine ⟨a, rfl, ha, ?_⟩
      by_cases hk : chK (ps_hc l) = 0
      · rw [if_pos hk]
        refine fin h0 ?_
        rw [ps_atom, if_pos (Or.inr hk2), if_pos hk]
      · rw [if_neg hk]
        refine go h0 (fun e => ⟨?_, ?_⟩) (fun e => ?_)
        · rcases chK_cases (ps_hc l) with z | z | z | z
          · rw [z] at hk2; exact absurd hk2 (by decide)
          · exact absurd z hk
          · exact Or.inr ⟨1, z, by decide, by decide⟩
          · exact Or.inr ⟨2, z, by decide, by decide⟩
        · rw [ps_atom, if_pos (Or.inr hk2), if_neg hk, if_pos e]
        · rw [ps_atom, if_pos (Or.inr hk2), if_neg hk, if_neg e, if_pos hk2]
    · rw [if_neg hk2]
      refine (q _ _ (fr.refl _ _ _ _ s) hr).2 ?_
      rw [ps_atom, if_neg (fun z => z.elim hL hk2)]
