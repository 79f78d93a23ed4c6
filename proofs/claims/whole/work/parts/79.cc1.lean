/-! Terms: sorted rows of ground terms, over a general heap -/
def srtd (T : List Tm) : Prop := T.Pairwise (fun a b => tE a < tE b)
def okT (T : List Tm) : Prop := srtd T ∧ ∀ t ∈ T, gT t
theorem srtd.get {T : List Tm} (h : srtd T) {i j : Nat} {a b : Tm} (ha : T[i]? = some a) (hb : T[j]? = some b) (hij : i < j) : tE a < tE b := by
  obtain ⟨h1, rfl⟩ := List.getElem?_eq_some_iff.mp ha
  obtain ⟨h2, rfl⟩ := List.getElem?_eq_some_iff.mp hb
  exact List.pairwise_iff_getElem.mp h i j h1 h2 hij
theorem okT.nodup {T : List Tm} (h : okT T) : T.Nodup := by
  refine List.Pairwise.imp ?_ h.1
  intro a b hab e
  rw [e] at hab
  omega
/-- two sorted rows with the same terms are one -/
theorem okT.uniq : ∀ {T T' : List Tm}, okT T → okT T' → (∀ t, t ∈ T ↔ t ∈ T') → T = T' := by
  intro T
  induction T with
  | nil =>
    intro T' _ _ h
    cases T' with
    | nil => rfl
    | cons b T' => exact absurd ((h b).mpr (by simp)) (by simp)
  | cons a T ih =>
    intro T' h1 h2 h
    cases T' with
    | nil => exact absurd ((h a).mp (by simp)) (by simp)
    | cons b T' =>
      have p1 := List.pairwise_cons.mp h1.1
      have p2 := List.pairwise_cons.mp h2.1
      have e : a = b := by
        rcases List.mem_cons.mp ((h a).mp (by simp)) with z | z
        · exact z
        · rcases List.mem_cons.mp ((h b).mpr (by simp)) with w | w
          · exact w.symm
          · have := p2.1 a z
            have := p1.1 b w
            omega
      subst e
      congr 1
      refine ih ⟨p1.2, fun t ht => h1.2 t (List.mem_cons_of_mem _ ht)⟩ ⟨p2.2, fun t ht => h2.2 t (List.mem_cons_of_mem _ ht)⟩ (fun t => ?_)
      constructor
      · intro ht
        rcases List.mem_cons.mp ((h t).mp (List.mem_cons_of_mem _ ht)) with z | z
        · have := p1.1 t ht
          rw [z] at this
          omega
        · exact z
      · intro ht
        rcases List.mem_cons.mp ((h t).mpr (List.mem_cons_of_mem _ ht)) with z | z
        · have := p2.1 t ht
          rw [z] at this
          omega
        · exact z
/-- a row of terms in a heap -/
def gTs (M : gm_H) (q r n : Nat) (T : List Tm) : Prop := M q = some (.inr (9, [.ref r, .int (nI T.length)])) ∧ ∃ f, M r = some (iarr n f) ∧ ∀ (i : Nat) t, T[i]? = some t → f i = nI (tE t)
theorem tE_31 {t : Tm} (h : gT t) : tE t < 2 ^ 31 := by
  have := (tE_lt h.1).1
  omega
/-- a term is put into its place -/
theorem ins_at {T : List Tm} {t : Tm} {p : Nat} (ho : okT T) (ht : gT t) (hp : p ≤ T.length) (h1 : ∀ (i : Nat) x, i < p → T[i]? = some x → tE x < tE t) (h2 : ∀ (i : Nat) x, p ≤ i → T[i]? = some x → tE t < tE x) : okT (T.take p ++ t :: T.drop p) ∧ (∀ x, x ∈ T.take p ++ t :: T.drop p ↔ x = t ∨ x ∈ T) ∧ (T.take p ++ t :: T.drop p).length = T.length + 1 ∧ ∀ j : Nat, (T.take p ++ t :: T.drop p)[j]? = if j < p then T[j]? else if j = p then some t else T[j - 1]? := by
  have hmem : ∀ x, x ∈ T.take p ++ t :: T.drop p ↔ x = t ∨ x ∈ T := by
    intro x
    rw [List.mem_append, List.mem_cons]
    conv => rhs; rw [← List.take_append_drop p T, List.mem_append]
    constructor
    · rintro (z | z | z)
      · exact Or.inr (Or.inl z)
      · exact Or.inl z
      · exact Or.inr (Or.inr z)
    · rintro (z | z | z)
      · exact Or.inr (Or.inl z)
      · exact Or.inl z
      · exact Or.inr (Or.inr z)
  have hl : (T.take p).length = p := by rw [List.length_take]; omega
  have hget : ∀ j : Nat, (T.take p ++ t :: T.drop p)[j]? = if j < p then T[j]? else if j = p then some t else T[j - 1]? := by
    intro j
    by_cases a : j < p
    · rw [if_pos a, List.getElem?_append_left (by omega), List.getElem?_take, if_pos a]
    · rw [if_neg a, List.getElem?_append_right (by omega), hl]
      by_cases b : j = p
      · rw [if_pos b, b, Nat.sub_self]
        rfl
      · rw [if_neg b]
        obtain ⟨m, rfl⟩ : ∃ m, j = p + 1 + m := ⟨j - p - 1, by omega⟩
        rw [show p + 1 + m - p = m + 1 by omega, List.getElem?_cons_succ, List.getElem?_drop]
        congr 1
        omega
  refine ⟨⟨?_, fun x hx => ?_⟩, hmem, ?_, hget⟩
  · have dec := List.take_append_drop p T
    have ps : (T.take p ++ T.drop p).Pairwise (fun a b => tE a < tE b) := by rw [dec]; exact ho.1
    rw [List.pairwise_append] at ps
    show List.Pairwise _ _
    rw [List.pairwise_append]
    refine ⟨ps.1, List.pairwise_cons.mpr ⟨fun b hb => ?_, ps.2.1⟩, fun a ha b hb => ?_⟩
    · obtain ⟨i, hi⟩ := List.getElem?_of_mem hb
      rw [List.getElem?_drop] at hi
      exact h2 _ b (by omega) hi
    · obtain ⟨i, hi⟩ := List.getElem?_of_mem ha
      have hil := (List.getElem?_eq_some_iff.mp hi).1
      rw [List.getElem?_take, if_pos (by omega)] at hi
      have hat := h1 i a (by omega) hi
      rcases List.mem_cons.mp hb with z | z
      · rw [z]; exact hat
      · exact ps.2.2 a ha b z
  · rcases (hmem x).mp hx with z | z
    · rw [z]; exact ht
    · exact ho.2 x z
  · rw [List.length_append, List.length_cons, hl, List.length_drop]
    omega
theorem gs_put {M M' : gm_H} {q r : Nat} {X Y : gm_E} (hqr : q ≠ r) (hq : M' q = some X) (hr : M' r = some Y) (h : ∀ a, a ≠ q → a ≠ r → M' a = M a) : M' = gm_set (gm_set M r Y) q X := by
  funext a
  by_cases e1 : a = q
  · rw [e1, gm_set_eq, hq]
  · rw [gm_set_ne e1]
    by_cases e2 : a = r
    · rw [e2, gm_set_eq, hr]
    · rw [gm_set_ne e2, h a e1 e2]
theorem gs_insert7 {N0 : Nat} {K : Nat → Nat} {d q r n : Nat} {t : Tm} {T : List Tm} {M : gm_H} {sz sl : Nat} {Q : Int32 → gm_H → Nat → Nat → Prop} (hN : N0 ≤ q) (hr : N0 ≤ r) (hqr : q ≠ r) (hT : gTs M q r n T) (hn : T.length ≤ n) (hn2 : n ≤ 201) (ho : okT T) (ht : gT t) (q1 : t ∈ T → Q 1 M sz sl) (q0 : ¬ t ∈ T → T.length = n → Q 0 M sz sl) (q2 : ¬ t ∈ T → T.length < n → ∀ M' T', gTs M' q r n T' → okT T' → T'.length = T.length + 1 → (∀ x, x ∈ T' ↔ x = t ∨ x ∈ T) → (∀ a, a ≠ q → a ≠ r → M' a = M a) → Q 1 M' sz sl) : ∀ (m lo hi : Nat), hi - lo ≤ m → lo ≤ hi → hi ≤ T.length → (∀ (i : Nat) x, i < lo → T[i]? = some x → tE x < tE t) → (∀ (i : Nat) x, hi ≤ i → T[i]? = some x → tE t ≤ tE x) → hX10_insert_7 N0 K (d + 1) q (nI (tE t)) (nI lo) (nI hi) M sz sl Q := by
  obtain ⟨hq, f, hf, hv⟩ := hT
  have h31 := tE_31 ht
  have fin : ∀ p, p ≤ T.length → (∀ (i : Nat) x, i < p → T[i]? = some x → tE x < tE t) → (∀ (i : Nat) x, p ≤ i → T[i]? = some x → tE t < tE x) → ¬ T.length = n → gC wU N0 K (d + 1) 3 [.ref r, .int (nI p), .ref r, .int (nI p + (1 : Int32)), .int (nI T.length - nI p)] M sz (fun _ M10 z10 d10 => M10 = gm_set M r (iarr n (va_cpy f f p (p + 1) (T.length - p))) ∧ z10 = sz ∧ d10 = 0) ∧ Q 1 (gm_set (gm_set (gm_set M r (iarr n (va_cpy f f p (p + 1) (T.length - p)))) r (iarr n (upd (va_cpy f f p (p + 1) (T.length - p)) p (nI (tE t))))) q (.inr (9, [.ref r, .int (nI T.length + 1)]))) sz sl := by
    intro p hp a1 a2 hne
    have hnm : ¬ t ∈ T := by
      intro z
      obtain ⟨i, hi⟩ := List.getElem?_of_mem z
      by_cases e : i < p
      · have := a1 i t e hi
        omega
      · have := a2 i t (by omega) hi
        omega
    refine ⟨⟨(), _, _, _, gm_to_copy (by omega) hf hf hr rfl (by rw [nI_1]) (nI_sub hp) (by omega) (by omega) (by omega) (by omega), rfl, rfl, rfl⟩, ?_⟩
    obtain ⟨b1, b2, b3, b4⟩ := ins_at ho ht hp a1 a2
    refine q2 hnm (by omega) _ _ ⟨?_, upd (va_cpy f f p (p + 1) (T.length - p)) p (nI (tE t)), ?_, fun j x hx => ?_⟩ b1 b3 b2 (fun a e1 e2 => by rw [gm_set_ne e1, gm_set_ne e2, gm_set_ne e2])
    · rw [gm_set_eq, b3, nI_1]
    · rw [gm_set_ne (Ne.symm hqr), gm_set_eq]
    · rw [b4 j] at hx
      by_cases e1 : j < p
      · rw [if_pos e1] at hx
        rw [show upd (va_cpy f f p (p + 1) (T.length - p)) p (nI (tE t)) j = va_cpy f f p (p + 1) (T.length - p) j from if_neg (by omega), pk_cpy_out (by omega)]
        exact hv j x hx
      · rw [if_neg e1] at hx
        by_cases e2 : j = p
        · rw [if_pos e2] at hx
          rw [← Option.some.inj hx]
          exact if_pos e2
        · rw [if_neg e2] at hx
          have := (List.getElem?_eq_some_iff.mp hx).1
          rw [show upd (va_cpy f f p (p + 1) (T.length - p)) p (nI (tE t)) j = va_cpy f f p (p + 1) (T.length - p) j from if_neg (by omega), pk_cpy_in (by omega) (by omega), show p + (j - (p + 1)) = j - 1 by omega]
          exact hv (j - 1) x hx
  intro m
  induction m with
  | zero =>
    intro lo hi hm hlo hhi h1 h2
    have e : lo = hi := by omega
    subst e
    refine TX10_insert_7 ?_
    rw [if_pos (nI_le (Nat.le_refl _) (by omega))]
    refine ⟨_, hq, nI T.length, rfl, ?_⟩
    by_cases hl : T.length ≤ lo
    · rw [if_pos (nI_le hl (by omega))]
      refine ⟨r, rfl, n, f, hf, by omega, ?_⟩
      have h2' : ∀ (i : Nat) x, lo ≤ i → T[i]? = some x → tE t < tE x := by
        intro i x hi hx
        have := (List.getElem?_eq_some_iff.mp hx).1
        omega
      by_cases hne : T.length = n
      · rw [if_pos (by rw [hne])]
        refine q0 (fun z => ?_) hne
        obtain ⟨i, hi⟩ := List.getElem?_of_mem z
        have := (List.getElem?_eq_some_iff.mp hi).1
        have := h1 i t (by omega) hi
        omega
      · rw [if_neg (fun z => hne ((nI_eq (by omega) (by omega)).mp z))]
        obtain ⟨c1, c2⟩ := fin lo hhi h1 h2' hne
        refine gC.mono c1 ?_
        rintro _ _ _ _ ⟨rfl, rfl, rfl⟩
        exact ⟨_, (gm_set_ne hqr).trans hq, r, rfl, n, _, gm_set_eq, by omega, hr, lo, rfl, by omega, nI T.length, rfl, hN, c2⟩
    · rw [if_neg (nI_ge (by omega) (by omega))]
      have hx : T[lo]? = some (T[lo]'(by omega)) := List.getElem?_eq_getElem (by omega)
      refine ⟨r, rfl, n, f, hf, by omega, lo, rfl, by omega, ?_⟩
      rw [hv lo _ hx]
      have hgx := ho.2 _ (List.mem_of_getElem? hx)
      by_cases he : tE (T[lo]'(by omega)) = tE t
      · rw [if_pos (by rw [he])]
        refine q1 ?_
        rw [← tE_inj hgx.1 ht.1 he]
        exact List.mem_of_getElem? hx
      · rw [if_neg (fun z => he ((nI_eq (tE_31 hgx) h31).mp z))]
        have h2' : ∀ (i : Nat) x, lo ≤ i → T[i]? = some x → tE t < tE x := by
          intro i x hi hx2
          have := h2 lo _ (Nat.le_refl _) hx
          by_cases ei : i = lo
          · subst ei
            rw [hx] at hx2
            rw [← Option.some.inj hx2]
            omega
          · have := ho.1.get hx hx2 (by omega)
            omega
        by_cases hne : T.length = n
        · rw [if_pos (by rw [hne])]
          refine q0 (fun z => ?_) hne
          obtain ⟨i, hi⟩ := List.getElem?_of_mem z
          by_cases ei : i < lo
          · have := h1 i t ei hi
            omega
          · have := h2' i t (by omega) hi
            omega
        · rw [if_neg (fun z => hne ((nI_eq (by omega) (by omega)).mp z))]
          obtain ⟨c1, c2⟩ := fin lo hhi h1 h2' hne
          refine gC.mono c1 ?_
          rintro _ _ _ _ ⟨rfl, rfl, rfl⟩
          exact ⟨_, (gm_set_ne hqr).trans hq, r, rfl, n, _, gm_set_eq, by omega, hr, by omega, nI T.length, rfl, hN, c2⟩
  | succ m ih =>
    intro lo hi hm hlo hhi h1 h2
    by_cases e : lo = hi
    · exact ih lo hi (by omega) hlo hhi h1 h2
    · refine TX10_insert_7 ?_
      rw [if_neg (nI_ge (by omega) (by omega))]
      have em : (((nI lo + nI hi)).toUInt32 >>> (((1 : Int32)).toUInt32 &&& Int32.toUInt32 31)).toInt32 = nI ((lo + hi) / 2) := by
        rw [nI_add]
        exact nI_ush (k := 1) (by omega) (by decide)
      rw [em]
      have hx : T[(lo + hi) / 2]? = some (T[(lo + hi) / 2]'(by omega)) := List.getElem?_eq_getElem (by omega)
      have hgx := ho.2 _ (List.mem_of_getElem? hx)
      refine ⟨_, hq, r, rfl, n, f, hf, by omega, (lo + hi) / 2, rfl, by omega, ?_⟩
      rw [hv _ _ hx]
      by_cases hle : tE t ≤ tE (T[(lo + hi) / 2]'(by omega))
      · rw [if_pos ((nI_leI h31 (tE_31 hgx)).mpr hle)]
        refine ih lo ((lo + hi) / 2) (by omega) (by omega) (by omega) h1 (fun i x hi9 hx2 => ?_)
        by_cases ei : i = (lo + hi) / 2
        · rw [ei, hx] at hx2
          rw [← Option.some.inj hx2]
          exact hle
        · have := ho.1.get hx hx2 (by omega)
          omega
      · rw [if_neg (fun z => hle ((nI_leI h31 (tE_31 hgx)).mp z)), nI_1]
        refine ih ((lo + hi) / 2 + 1) hi (by omega) (by omega) hhi (fun i x hi9 hx2 => ?_) h2
        by_cases ei : i = (lo + hi) / 2
        · rw [ei, hx] at hx2
          rw [← Option.some.inj hx2]
          omega
        · have := ho.1.get hx2 hx (by omega)
          omega
theorem gq_insert {N0 : Nat} {K : Nat → Nat} {d q r n : Nat} {t : Tm} {T : List Tm} {M : gm_H} {sz : Nat} {Q : Int32 → gm_H → Nat → Nat → Prop} (hN : N0 ≤ q) (hr : N0 ≤ r) (hqr : q ≠ r) (hT : gTs M q r n T) (hn : T.length ≤ n) (hn2 : n ≤ 201) (ho : okT T) (ht : gT t) (q1 : t ∈ T → Q 1 M sz 0) (q0 : ¬ t ∈ T → T.length = n → Q 0 M sz 0) (q2 : ¬ t ∈ T → T.length < n → ∀ M' T', gTs M' q r n T' → okT T' → T'.length = T.length + 1 → (∀ x, x ∈ T' ↔ x = t ∨ x ∈ T) → (∀ a, a ≠ q → a ≠ r → M' a = M a) → Q 1 M' sz 0) : gX10_insert N0 K (d + 2) q (nI (tE t)) M sz Q := by
  refine gX10_insert.of (TX10_insert_0 ⟨_, hT.1, nI T.length, rfl, ?_⟩)
  rw [← nI_0]
  exact gs_insert7 hN hr hqr hT hn hn2 ho ht q1 q0 q2 T.length 0 T.length (by omega) (by omega) (Nat.le_refl _) (fun i x hi => by omega) (fun i x hi hx => by have := (List.getElem?_eq_some_iff.mp hx).1; omega)
/-- the k-th term, 0 if there is none -/
def atT (T : List Tm) (p : Int32) : Int32 := if p < 0 then 0 else match T[p.toNatClampNeg]? with
  | some t => nI (tE t)
  | none => 0
theorem gs_at {N0 : Nat} {K : Nat → Nat} {d q r n : Nat} {p : Int32} {T : List Tm} {M : gm_H} {sz sl : Nat} {Q : Int32 → Prop} (hT : gTs M q r n T) (hn : T.length ≤ n) (hn2 : n ≤ 201) (qq : Q (atT T p)) : hX10_at_0 N0 K d q p M sz sl Q := by
  obtain ⟨hq, f, hf, hv⟩ := hT
  refine TX10_at_0 ?_
  unfold atT at qq
  by_cases hp : p < 0
  · rw [if_pos hp] at qq ⊢
    exact qq
  · rw [if_neg hp] at qq ⊢
    refine ⟨_, hq, nI T.length, rfl, ?_⟩
    by_cases hl : nI T.length ≤ p
    · rw [if_pos hl]
      have : T[p.toNatClampNeg]? = none := by
        rw [List.getElem?_eq_none_iff]
        obtain ⟨k, hk, e⟩ := nI_of hp
        rw [e] at hl ⊢
        rw [nI_clamp hk]
        exact (nI_leI (by omega) hk).mp hl
      rw [this] at qq
      exact qq
    · rw [if_neg hl]
      obtain ⟨k, hk, e⟩ := nI_of hp
      subst e
      have hkl : k < T.length := Nat.lt_of_not_le (fun z => hl (nI_le z hk))
      have hx : T[k]? = some (T[k]'hkl) := List.getElem?_eq_getElem hkl
      rw [nI_clamp hk, hx] at qq
      refine ⟨r, rfl, n, f, hf, by omega, k, rfl, by omega, ?_⟩
      rw [hv k _ hx]
      exact qq
theorem gs_same15 {N0 : Nat} {K : Nat → Nat} {d q r n q' r' n' : Nat} {T T' : List Tm} {M : gm_H} {sz sl : Nat} {Q : Int32 → Prop} (hT : gTs M q r n T) (hn : T.length ≤ n) (hn2 : n ≤ 201) (hT' : gTs M q' r' n' T') (hn' : T'.length ≤ n') (hn2' : n' ≤ 201) (hg : ∀ t ∈ T, gT t) (hg' : ∀ t ∈ T', gT t) (hl : T.length = T'.length) (q1 : T = T' → Q 1) (q0 : T ≠ T' → Q 0) : ∀ (m k : Nat), k + m = T.length → (∀ i, i < k → T[i]? = T'[i]?) → hX10_isSame_15 N0 K d q q' (nI k) M sz sl Q := by
  obtain ⟨hq, f, hf, hv⟩ := hT
  obtain ⟨hq', f', hf', hv'⟩ := hT'
  intro m
  induction m with
  | zero =>
    intro k hk h
    refine TX10_isSame_15 ⟨_, hq, nI T.length, rfl, ?_⟩
    rw [if_pos (nI_le (by omega) (by omega))]
    refine q1 (List.ext_getElem? (fun i => ?_))
    by_cases hi : i < k
    · exact h i hi
    · rw [List.getElem?_eq_none (by omega), List.getElem?_eq_none (by omega)]
  | succ m ih =>
    intro k hk h
    refine TX10_isSame_15 ⟨_, hq, nI T.length, rfl, ?_⟩
    rw [if_neg (nI_ge (by omega) (by omega))]
    have hx : T[k]? = some (T[k]'(by omega)) := List.getElem?_eq_getElem (by omega)
    have hx' : T'[k]? = some (T'[k]'(by omega)) := List.getElem?_eq_getElem (by omega)
    refine ⟨r, rfl, n, f, hf, by omega, k, rfl, by omega, _, hq', r', rfl, n', f', hf', by omega, by omega, ?_⟩
    rw [hv k _ hx, hv' k _ hx', nI_1]
    have g1 := hg _ (List.mem_of_getElem? hx)
    have g2 := hg' _ (List.mem_of_getElem? hx')
    by_cases e : tE (T[k]'(by omega)) = tE (T'[k]'(by omega))
    · rw [if_pos (by rw [e])]
      refine ih (k + 1) (by omega) (fun i hi => ?_)
      by_cases ei : i = k
      · rw [ei, hx, hx', tE_inj g1.1 g2.1 e]
      · exact h i (by omega)
    · rw [if_neg (fun z => e ((nI_eq (tE_31 g1) (tE_31 g2)).mp z))]
      refine q0 (fun z => e ?_)
      subst z
      rfl
theorem gs_same {N0 : Nat} {K : Nat → Nat} {d q r n q' r' n' : Nat} {T T' : List Tm} {M : gm_H} {sz sl : Nat} {Q : Int32 → Prop} (hT : gTs M q r n T) (hn : T.length ≤ n) (hn2 : n ≤ 201) (hT' : gTs M q' r' n' T') (hn' : T'.length ≤ n') (hn2' : n' ≤ 201) (hg : ∀ t ∈ T, gT t) (hg' : ∀ t ∈ T', gT t) (q1 : T = T' → Q 1) (q0 : T ≠ T' → Q 0) : hX10_isSame_0 N0 K d q q' M sz sl Q := by
  refine TX10_isSame_0 ⟨_, hT.1, nI T.length, rfl, _, hT'.1, nI T'.length, rfl, ?_⟩
  by_cases hl : T.length = T'.length
  · rw [if_pos (by rw [hl]), ← nI_0]
    exact gs_same15 hT hn hn2 hT' hn' hn2' hg hg' hl q1 q0 T.length 0 (by omega) (fun i hi => by omega)
  · rw [if_neg (fun z => hl ((nI_eq (by omega) (by omega)).mp z))]
    exact q0 (fun z => hl (by rw [z]))
theorem gq_copy {N0 : Nat} {K : Nat → Nat} {d q r n q' r' n' : Nat} {T' : List Tm} {fs0 : Int32} {f0 : Nat → Int32} {M : gm_H} {sz : Nat} {Q : Unit → gm_H → Nat → Nat → Prop} (hN : N0 ≤ q) (hr : N0 ≤ r) (hqr : q ≠ r) (hqq : q' ≠ q) (hrr : r' ≠ q) (hq : M q = some (.inr (9, [.ref r, .int fs0]))) (hf0 : M r = some (iarr n f0)) (hn2 : n ≤ 201) (hT' : gTs M q' r' n' T') (hn' : T'.length ≤ n') (hn2' : n' ≤ 201) (hT : T'.length ≤ n) (qq : ∀ f, (∀ (i : Nat) t, T'[i]? = some t → f i = nI (tE t)) → Q () (gm_set (gm_set M q (.inr (9, [.ref r, .int (nI T'.length)]))) r (iarr n f)) sz 0) : gX10_copy N0 K (d + 2) q q' M sz Q := by
  obtain ⟨hq', f', hf', hv'⟩ := hT'
  refine gX10_copy.of (TX10_copy_0 ⟨_, hq', nI T'.length, rfl, _, hq, r, rfl, n, f0, hf0, by omega, by omega, hN, Nat.le_of_ble_eq_true rfl, hqq, r', rfl, ?_⟩)
  have emin : (if nI n < nI T'.length then nI n else nI T'.length) = nI T'.length := by
    by_cases h : nI n < nI T'.length
    · have : ¬ nI T'.length ≤ nI n := Int32.not_le.mpr h
      exact absurd (nI_le hT (by omega)) this
    · rw [if_neg h]
  rw [emin]
  refine ⟨(), _, _, _, gm_to_copy (by omega) ((gm_set_ne hrr).trans hf') ((gm_set_ne (Ne.symm hqr)).trans hf0) hr nI_0.symm nI_0.symm rfl (by omega) (by omega) (by omega) (by omega), ?_⟩
  refine qq _ (fun i t ht => ?_)
  have := (List.getElem?_eq_some_iff.mp ht).1
  rw [pk_cpy_in (by omega) (by omega), show 0 + (i - 0) = i by omega]
  exact hv' i t ht
