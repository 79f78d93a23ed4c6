/-! the reference's audit: the states that came -/
def rSt (S : List (List Tm)) (s : mS) : Prop := s.1 43 = nI S.length ∧ ∀ (j : Nat) T, S[j]? = some T → s.2.1 45 j = nI T.length ∧ rT s 44 (24 * j) T
theorem rSt.fr {S : List (List Tm)} {s s' : mS} (h : rSt S s) (h1 : s'.1 43 = s.1 43) (h2 : s'.2.1 45 = s.2.1 45) (h3 : s'.2.2 44 = s.2.2 44) : rSt S s' := ⟨h1.trans h.1, fun j T hT => ⟨by rw [h2]; exact (h.2 j T hT).1, (h.2 j T hT).2.fr h3⟩⟩
theorem rs_find30_next {d k : Nat} {S : List (List Tm)} {T Tk : List Tm} {s : mS} {Q : Int32 → mS → Prop} (hS : rSt S s) (hT : rT s 33 0 T) (hk : S[k]? = some Tk) (hk60 : k < 60) (hl : T.length ≤ 24) (hgk : ∀ t ∈ Tk, gT t) (hg : ∀ t ∈ T, gT t) (he : Tk.length = T.length) (q1 : Tk = T → Q (nI k) s) (q0 : Tk ≠ T → h_find_next_2 d (nI T.length) (nI (k + 1)) s Q) : ∀ (m x : Nat), x + m = T.length → (∀ y, y < x → Tk[y]? = T[y]?) → h_find_next_30 d (nI T.length) (nI k) 1 (nI x) s Q := by
  intro m
  induction m with
  | zero =>
    intro x hx h
    refine T_find_next_30 ?_
    rw [if_pos (nI_le (by omega) (by omega)), if_neg (by decide)]
    refine q1 (List.ext_getElem? (fun i => ?_))
    by_cases hi : i < x
    · exact h i hi
    · rw [List.getElem?_eq_none (by omega), List.getElem?_eq_none (by omega)]
  | succ m ih =>
    intro x hx h
    refine T_find_next_30 ?_
    rw [if_neg (nI_ge (by omega) (by omega)), if_neg (by decide)]
    have hx1 : Tk[x]? = some (Tk[x]'(by omega)) := List.getElem?_eq_getElem (by omega)
    have hx2 : T[x]? = some (T[x]'(by omega)) := List.getElem?_eq_getElem (by omega)
    refine ⟨24 * k + x, by rw [n_24, nI_mul, nI_add], by omega, x, rfl, by omega, ?_⟩
    have v2 := hT x _ hx2
    rw [Nat.zero_add] at v2
    rw [(hS.2 k Tk hk).2 x _ hx1, v2, nI_1]
    have g1 := hgk _ (List.mem_of_getElem? hx1)
    have g2 := hg _ (List.mem_of_getElem? hx2)
    have l1 := (tL_lt g1.1).1
    have l2 := (tL_lt g2.1).1
    by_cases e : tL (Tk[x]'(by omega)) = tL (T[x]'(by omega))
    · rw [if_pos ((lg_eq _ _).mpr (by rw [e]))]
      refine ih (x + 1) (by omega) (fun y hy => ?_)
      by_cases ey : y = x
      · rw [ey, hx1, hx2, tL_inj g1.1 g2.1 e]
      · exact h y (by omega)
    · rw [if_neg (fun z => e ((lN_inj (by omega) (by omega)).mp ((lg_eq _ _).mp z)))]
      have hne : Tk ≠ T := fun z => e (by subst z; rfl)
      have fin := q0 hne
      refine T_find_next_30 ?_
      rw [nI_1]
      split
      · rw [if_pos rfl]
        exact fin
      · rw [if_pos rfl]
        exact fin
theorem rs_find2_next {d : Nat} {S : List (List Tm)} {T : List Tm} {s : mS} {Q : Int32 → mS → Prop} (hS : rSt S s) (hok : okS S) (hT : rT s 33 0 T) (hl : T.length ≤ 24) (hg : ∀ t ∈ T, gT t) (q : Q (plN (fnd S T)) s) : ∀ (m k : Nat), k + m = S.length → (∀ j, j < k → S[j]? ≠ some T) → h_find_next_2 d (nI T.length) (nI k) s Q := by
  have h60 := hok.1
  intro m
  induction m with
  | zero =>
    intro k hk hno
    refine T_find_next_2 ?_
    rw [hS.1, if_pos (nI_le (by omega) (by omega))]
    rw [fnd_none (fun j hj => hno j (by omega))] at q
    exact q
  | succ m ih =>
    intro k hk hno
    refine T_find_next_2 ?_
    have hx : S[k]? = some (S[k]'(by omega)) := List.getElem?_eq_getElem (by omega)
    have hxo := hok.2 _ (List.mem_of_getElem? hx)
    rw [hS.1, if_neg (nI_ge (by omega) (by omega))]
    refine ⟨k, rfl, by omega, ?_⟩
    rw [(hS.2 k _ hx).1]
    have nxt : S[k]'(by omega) ≠ T → h_find_next_2 d (nI T.length) (nI (k + 1)) s Q := fun hne => ih (k + 1) (by omega) (fun j hj => by
      by_cases ej : j = k
      · rw [ej, hx]
        exact fun z => hne (Option.some.inj z)
      · exact hno j (by omega))
    by_cases he : (S[k]'(by omega)).length = T.length
    · rw [if_pos (by rw [he]), ← nI_0]
      refine rs_find30_next hS hT hx (by omega) hl hxo.1.2 hg he (fun e => ?_) nxt T.length 0 (by omega) (fun y hy => by omega)
      rw [fnd_first (by rw [hx, e]) hno] at q
      exact q
    · rw [if_neg (fun z => he ((nI_eq (by omega) (by omega)).mp z))]
      have fin := nxt (fun z => he (by rw [z]))
      refine T_find_next_30 ?_
      rw [nI_1]
      split
      · rw [if_pos rfl]
        exact fin
      · rw [if_pos rfl]
        exact fin
theorem rq_find_next {d : Nat} {S : List (List Tm)} {T : List Tm} {s : mS} {Q : Int32 → Prop} (hS : rSt S s) (hok : okS S) (hT : rT s 33 0 T) (hl : T.length ≤ 24) (hg : ∀ t ∈ T, gT t) (q : Q (plN (fnd S T))) : q_find_next (d + 1) (nI T.length) s Q := q_find_next.of (T_find_next_0 (rs_find2_next hS hok hT hl hg ⟨rfl, q⟩ S.length 0 (by omega) (fun j hj => by omega)))
theorem rs_find30_now {d k : Nat} {S : List (List Tm)} {T Tk : List Tm} {s : mS} {Q : Int32 → mS → Prop} (hS : rSt S s) (hT : rT s 29 0 T) (hk : S[k]? = some Tk) (hk60 : k < 60) (hl : T.length ≤ 24) (hgk : ∀ t ∈ Tk, gT t) (hg : ∀ t ∈ T, gT t) (he : Tk.length = T.length) (q1 : Tk = T → Q (nI k) s) (q0 : Tk ≠ T → h_find_now_2 d (nI T.length) (nI (k + 1)) s Q) : ∀ (m x : Nat), x + m = T.length → (∀ y, y < x → Tk[y]? = T[y]?) → h_find_now_30 d (nI T.length) (nI k) 1 (nI x) s Q := by
  intro m
  induction m with
  | zero =>
    intro x hx h
    refine T_find_now_30 ?_
    rw [if_pos (nI_le (by omega) (by omega)), if_neg (by decide)]
    refine q1 (List.ext_getElem? (fun i => ?_))
    by_cases hi : i < x
    · exact h i hi
    · rw [List.getElem?_eq_none (by omega), List.getElem?_eq_none (by omega)]
  | succ m ih =>
    intro x hx h
    refine T_find_now_30 ?_
    rw [if_neg (nI_ge (by omega) (by omega)), if_neg (by decide)]
    have hx1 : Tk[x]? = some (Tk[x]'(by omega)) := List.getElem?_eq_getElem (by omega)
    have hx2 : T[x]? = some (T[x]'(by omega)) := List.getElem?_eq_getElem (by omega)
    refine ⟨24 * k + x, by rw [n_24, nI_mul, nI_add], by omega, x, rfl, by omega, ?_⟩
    have v2 := hT x _ hx2
    rw [Nat.zero_add] at v2
    rw [(hS.2 k Tk hk).2 x _ hx1, v2, nI_1]
    have g1 := hgk _ (List.mem_of_getElem? hx1)
    have g2 := hg _ (List.mem_of_getElem? hx2)
    have l1 := (tL_lt g1.1).1
    have l2 := (tL_lt g2.1).1
    by_cases e : tL (Tk[x]'(by omega)) = tL (T[x]'(by omega))
    · rw [if_pos ((lg_eq _ _).mpr (by rw [e]))]
      refine ih (x + 1) (by omega) (fun y hy => ?_)
      by_cases ey : y = x
      · rw [ey, hx1, hx2, tL_inj g1.1 g2.1 e]
      · exact h y (by omega)
    · rw [if_neg (fun z => e ((lN_inj (by omega) (by omega)).mp ((lg_eq _ _).mp z)))]
      have hne : Tk ≠ T := fun z => e (by subst z; rfl)
      have fin := q0 hne
      refine T_find_now_30 ?_
      rw [nI_1]
      split
      · rw [if_pos rfl]
        exact fin
      · rw [if_pos rfl]
        exact fin
theorem rs_find2_now {d : Nat} {S : List (List Tm)} {T : List Tm} {s : mS} {Q : Int32 → mS → Prop} (hS : rSt S s) (hok : okS S) (hT : rT s 29 0 T) (hl : T.length ≤ 24) (hg : ∀ t ∈ T, gT t) (q : Q (plN (fnd S T)) s) : ∀ (m k : Nat), k + m = S.length → (∀ j, j < k → S[j]? ≠ some T) → h_find_now_2 d (nI T.length) (nI k) s Q := by
  have h60 := hok.1
  intro m
  induction m with
  | zero =>
    intro k hk hno
    refine T_find_now_2 ?_
    rw [hS.1, if_pos (nI_le (by omega) (by omega))]
    rw [fnd_none (fun j hj => hno j (by omega))] at q
    exact q
  | succ m ih =>
    intro k hk hno
    refine T_find_now_2 ?_
    have hx : S[k]? = some (S[k]'(by omega)) := List.getElem?_eq_getElem (by omega)
    have hxo := hok.2 _ (List.mem_of_getElem? hx)
    rw [hS.1, if_neg (nI_ge (by omega) (by omega))]
    refine ⟨k, rfl, by omega, ?_⟩
    rw [(hS.2 k _ hx).1]
    have nxt : S[k]'(by omega) ≠ T → h_find_now_2 d (nI T.length) (nI (k + 1)) s Q := fun hne => ih (k + 1) (by omega) (fun j hj => by
      by_cases ej : j = k
      · rw [ej, hx]
        exact fun z => hne (Option.some.inj z)
      · exact hno j (by omega))
    by_cases he : (S[k]'(by omega)).length = T.length
    · rw [if_pos (by rw [he]), ← nI_0]
      refine rs_find30_now hS hT hx (by omega) hl hxo.1.2 hg he (fun e => ?_) nxt T.length 0 (by omega) (fun y hy => by omega)
      rw [fnd_first (by rw [hx, e]) hno] at q
      exact q
    · rw [if_neg (fun z => he ((nI_eq (by omega) (by omega)).mp z))]
      have fin := nxt (fun z => he (by rw [z]))
      refine T_find_now_30 ?_
      rw [nI_1]
      split
      · rw [if_pos rfl]
        exact fin
      · rw [if_pos rfl]
        exact fin
theorem rq_find_now {d : Nat} {S : List (List Tm)} {T : List Tm} {s : mS} {Q : Int32 → Prop} (hS : rSt S s) (hok : okS S) (hT : rT s 29 0 T) (hl : T.length ≤ 24) (hg : ∀ t ∈ T, gT t) (q : Q (plN (fnd S T))) : q_find_now (d + 1) (nI T.length) s Q := q_find_now.of (T_find_now_0 (rs_find2_now hS hok hT hl hg ⟨rfl, q⟩ S.length 0 (by omega) (fun j hj => by omega)))
def kfw (s s' : mS) : Prop := (∀ i, i ≠ 43 → s'.1 i = s.1 i) ∧ (∀ i, i ≠ 45 → s'.2.1 i = s.2.1 i) ∧ ∀ i, i ≠ 44 → s'.2.2 i = s.2.2 i
theorem kfw.trans {s s' s'' : mS} (h : kfw s s') (g : kfw s' s'') : kfw s s'' := ⟨fun i a => (g.1 i a).trans (h.1 i a), fun i a => (g.2.1 i a).trans (h.2.1 i a), fun i a => (g.2.2 i a).trans (h.2.2 i a)⟩
theorem rs_comes12_first {d n : Nat} {T : List Tm} {s0 : mS} {Q : Unit → mS → Prop} (hT : rT s0 31 0 T) (hl : T.length ≤ 24) (hn : n < 60) (h43 : s0.1 43 = nI n) (q : ∀ s', kfw s0 s' → s'.1 43 = nI (n + 1) → s'.2.1 45 = s0.2.1 45 → rT s' 44 (24 * n) T → (∀ x, x < 24 * n → s'.2.2 44 x = s0.2.2 44 x) → Q () s') : ∀ (m x : Nat) (s : mS), x + m = T.length → kfw s0 s → s.1 43 = nI n → s.2.1 45 = s0.2.1 45 → (∀ (y : Nat) t, y < x → T[y]? = some t → s.2.2 44 (24 * n + y) = lN (tL t)) → (∀ x, x < 24 * n → s.2.2 44 x = s0.2.2 44 x) → h_comes_first_12 d (nI T.length) (nI x) s Q := by
  intro m
  induction m with
  | zero =>
    intro x s hx hf h43' h45 hv hlow
    refine T_comes_first_12 ?_
    rw [if_pos (nI_le (by omega) (by omega))]
    refine q _ (hf.trans ⟨fun i hi => if_neg hi, fun _ _ => rfl, fun _ _ => rfl⟩) ?_ h45 (fun y t ht => ?_) hlow
    · show s.1 43 + 1 = _
      rw [h43', nI_1]
    · have := (List.getElem?_eq_some_iff.mp ht).1
      exact hv y t (by omega) ht
  | succ m ih =>
    intro x s hx hf h43' h45 hv hlow
    refine T_comes_first_12 ?_
    rw [if_neg (nI_ge (by omega) (by omega))]
    refine ⟨x, rfl, by omega, 24 * n + x, by rw [h43', n_24, nI_mul, nI_add], by omega, ?_⟩
    rw [nI_1]
    refine ih (x + 1) _ (by omega) (hf.trans ⟨fun _ _ => rfl, fun _ _ => rfl, fun i hi => if_neg hi⟩) h43' h45 (fun y t hy ht => ?_) (fun z hz => ?_)
    · show vp_updL (s.2.2 44) (24 * n + x) (s.2.2 31 x) (24 * n + y) = lN (tL t)
      by_cases e : y = x
      · subst e
        rw [vl_eq, hf.2.2 31 (by decide)]
        have := hT y t ht
        rw [Nat.zero_add] at this
        exact this
      · rw [vl_ne (by omega)]
        exact hv y t (by omega) ht
    · show vp_updL (s.2.2 44) (24 * n + x) (s.2.2 31 x) z = _
      rw [vl_ne (by omega)]
      exact hlow z hz
theorem rq_comes_first {d : Nat} {S : List (List Tm)} {T : List Tm} {s : mS} {Q : Unit → mS → Prop} (hS : rSt S s) (hok : okS S) (h60 : S.length < 60) (hT : rT s 31 0 T) (hl : T.length ≤ 24) (q : ∀ s', kfw s s' → rSt (S ++ [T]) s' → Q () s') : m_comes_first (d + 1) (nI T.length) s Q := by
  refine m_comes_first.of (T_comes_first_0 ⟨S.length, hS.1, h60, ?_⟩)
  have f0 : kfw s (mA s 45 (upd (s.2.1 45) S.length (nI T.length))) := ⟨fun _ _ => rfl, fun i hi => if_neg hi, fun _ _ => rfl⟩
  rw [← nI_0]
  refine rs_comes12_first (n := S.length) (s0 := mA s 45 (upd (s.2.1 45) S.length (nI T.length))) hT hl h60 hS.1 (fun s' a b c e g => ?_) T.length 0 _ (by omega) ⟨fun _ _ => rfl, fun _ _ => rfl, fun _ _ => rfl⟩ hS.1 rfl (fun y t hy => by omega) (fun _ _ => rfl)
  refine q s' (f0.trans a) ⟨by rw [b, List.length_append]; rfl, fun j Tj hj => ?_⟩
  by_cases hjl : j < S.length
  · rw [List.getElem?_append_left hjl] at hj
    have hTj := hok.2 Tj (List.mem_of_getElem? hj)
    obtain ⟨x1, x2⟩ := hS.2 j Tj hj
    refine ⟨?_, fun i t ht => ?_⟩
    · rw [c]
      exact (if_neg (by omega)).trans x1
    · have := (List.getElem?_eq_some_iff.mp ht).1
      have h24 := hTj.2
      rw [g _ (by omega)]
      exact x2 i t ht
  · have hjl2 := (List.getElem?_eq_some_iff.mp hj).1
    rw [List.length_append, List.length_singleton] at hjl2
    have ej : j = S.length := by omega
    subst ej
    rw [List.getElem?_append_right (Nat.le_refl _), Nat.sub_self] at hj
    have eT : T = Tj := Option.some.inj hj
    subst eT
    refine ⟨?_, e⟩
    rw [c]
    exact if_pos rfl
theorem rs_comes12_next {d n : Nat} {T : List Tm} {s0 : mS} {Q : Unit → mS → Prop} (hT : rT s0 33 0 T) (hl : T.length ≤ 24) (hn : n < 60) (h43 : s0.1 43 = nI n) (q : ∀ s', kfw s0 s' → s'.1 43 = nI (n + 1) → s'.2.1 45 = s0.2.1 45 → rT s' 44 (24 * n) T → (∀ x, x < 24 * n → s'.2.2 44 x = s0.2.2 44 x) → Q () s') : ∀ (m x : Nat) (s : mS), x + m = T.length → kfw s0 s → s.1 43 = nI n → s.2.1 45 = s0.2.1 45 → (∀ (y : Nat) t, y < x → T[y]? = some t → s.2.2 44 (24 * n + y) = lN (tL t)) → (∀ x, x < 24 * n → s.2.2 44 x = s0.2.2 44 x) → h_comes_next_12 d (nI T.length) (nI x) s Q := by
  intro m
  induction m with
  | zero =>
    intro x s hx hf h43' h45 hv hlow
    refine T_comes_next_12 ?_
    rw [if_pos (nI_le (by omega) (by omega))]
    refine q _ (hf.trans ⟨fun i hi => if_neg hi, fun _ _ => rfl, fun _ _ => rfl⟩) ?_ h45 (fun y t ht => ?_) hlow
    · show s.1 43 + 1 = _
      rw [h43', nI_1]
    · have := (List.getElem?_eq_some_iff.mp ht).1
      exact hv y t (by omega) ht
  | succ m ih =>
    intro x s hx hf h43' h45 hv hlow
    refine T_comes_next_12 ?_
    rw [if_neg (nI_ge (by omega) (by omega))]
    refine ⟨x, rfl, by omega, 24 * n + x, by rw [h43', n_24, nI_mul, nI_add], by omega, ?_⟩
    rw [nI_1]
    refine ih (x + 1) _ (by omega) (hf.trans ⟨fun _ _ => rfl, fun _ _ => rfl, fun i hi => if_neg hi⟩) h43' h45 (fun y t hy ht => ?_) (fun z hz => ?_)
    · show vp_updL (s.2.2 44) (24 * n + x) (s.2.2 33 x) (24 * n + y) = lN (tL t)
      by_cases e : y = x
      · subst e
        rw [vl_eq, hf.2.2 33 (by decide)]
        have := hT y t ht
        rw [Nat.zero_add] at this
        exact this
      · rw [vl_ne (by omega)]
        exact hv y t (by omega) ht
    · show vp_updL (s.2.2 44) (24 * n + x) (s.2.2 33 x) z = _
      rw [vl_ne (by omega)]
      exact hlow z hz
theorem rq_comes_next {d : Nat} {S : List (List Tm)} {T : List Tm} {s : mS} {Q : Unit → mS → Prop} (hS : rSt S s) (hok : okS S) (h60 : S.length < 60) (hT : rT s 33 0 T) (hl : T.length ≤ 24) (q : ∀ s', kfw s s' → rSt (S ++ [T]) s' → Q () s') : m_comes_next (d + 1) (nI T.length) s Q := by
  refine m_comes_next.of (T_comes_next_0 ⟨S.length, hS.1, h60, ?_⟩)
  have f0 : kfw s (mA s 45 (upd (s.2.1 45) S.length (nI T.length))) := ⟨fun _ _ => rfl, fun i hi => if_neg hi, fun _ _ => rfl⟩
  rw [← nI_0]
  refine rs_comes12_next (n := S.length) (s0 := mA s 45 (upd (s.2.1 45) S.length (nI T.length))) hT hl h60 hS.1 (fun s' a b c e g => ?_) T.length 0 _ (by omega) ⟨fun _ _ => rfl, fun _ _ => rfl, fun _ _ => rfl⟩ hS.1 rfl (fun y t hy => by omega) (fun _ _ => rfl)
  refine q s' (f0.trans a) ⟨by rw [b, List.length_append]; rfl, fun j Tj hj => ?_⟩
  by_cases hjl : j < S.length
  · rw [List.getElem?_append_left hjl] at hj
    have hTj := hok.2 Tj (List.mem_of_getElem? hj)
    obtain ⟨x1, x2⟩ := hS.2 j Tj hj
    refine ⟨?_, fun i t ht => ?_⟩
    · rw [c]
      exact (if_neg (by omega)).trans x1
    · have := (List.getElem?_eq_some_iff.mp ht).1
      have h24 := hTj.2
      rw [g _ (by omega)]
      exact x2 i t ht
  · have hjl2 := (List.getElem?_eq_some_iff.mp hj).1
    rw [List.length_append, List.length_singleton] at hjl2
    have ej : j = S.length := by omega
    subst ej
    rw [List.getElem?_append_right (Nat.le_refl _), Nat.sub_self] at hj
    have eT : T = Tj := Option.some.inj hj
    subst eT
    refine ⟨?_, e⟩
    rw [c]
    exact if_pos rfl
