/-! the class's audit: what states are worth -/
theorem cA_cA (s : cS) (k : Nat) (f g : Nat → Int32) : cA (cA s k f) k g = cA s k g := by
  refine Prod.ext rfl (Prod.ext (funext fun j => ?_) rfl)
  show (if j = k then g else if j = k then f else s.2.1 j) = (if j = k then g else s.2.1 j)
  by_cases e : j = k
  · rw [if_pos e, if_pos e]
  · rw [if_neg e, if_neg e, if_neg e]
def cU (f : Nat → Int32) : Nat → Nat
  | 0 => 0
  | n + 1 => cU f n + (if f n = -1 then 1 else 0)
theorem cU_le (f : Nat → Int32) : ∀ n, cU f n ≤ n := by
  intro n
  induction n with
  | zero => exact Nat.le_refl _
  | succ n ih => rw [cU]; split <;> omega
theorem cU_0 {f : Nat → Int32} : ∀ {n}, cU f n = 0 → ∀ i, i < n → f i ≠ -1 := by
  intro n
  induction n with
  | zero => intro _ i hi; omega
  | succ n ih =>
    intro h i hi
    rw [cU] at h
    by_cases e : i = n
    · subst e
      intro z
      rw [if_pos z] at h
      omega
    · exact ih (by omega) i (by omega)
theorem cU_pos {f : Nat → Int32} : ∀ {n}, cU f n ≠ 0 → ∃ i, i < n ∧ f i = -1 := by
  intro n
  induction n with
  | zero => intro h; exact absurd rfl h
  | succ n ih =>
    intro h
    rw [cU] at h
    by_cases e : f n = -1
    · exact ⟨n, by omega, e⟩
    · rw [if_neg e] at h
      obtain ⟨i, a, b⟩ := ih (by omega)
      exact ⟨i, by omega, b⟩
theorem cU_mono {f g : Nat → Int32} : ∀ {n}, (∀ i, i < n → f i ≠ -1 → g i ≠ -1) → cU g n ≤ cU f n := by
  intro n
  induction n with
  | zero => intro _; exact Nat.le_refl _
  | succ n ih =>
    intro h
    have := ih (fun i hi => h i (by omega))
    have hn := h n (by omega)
    rw [cU, cU]
    by_cases e : f n = -1
    · rw [if_pos e]
      split <;> omega
    · rw [if_neg e, if_neg (hn e)]
      omega
theorem cU_lt {f g : Nat → Int32} : ∀ {n}, (∀ i, i < n → f i ≠ -1 → g i ≠ -1) → (∃ i, i < n ∧ f i = -1 ∧ g i ≠ -1) → cU g n < cU f n := by
  intro n
  induction n with
  | zero => rintro _ ⟨i, hi, _⟩; omega
  | succ n ih =>
    rintro h ⟨i, hi, h1, h2⟩
    have hm := cU_mono (n := n) (fun i hi => h i (by omega))
    rw [cU, cU]
    by_cases e : i = n
    · subst e
      rw [if_pos h1, if_neg h2]
      omega
    · have := ih (fun i hi => h i (by omega)) ⟨i, by omega, h1, h2⟩
      have hn := h n (by omega)
      by_cases e2 : f n = -1
      · rw [if_pos e2]
        split <;> omega
      · rw [if_neg e2, if_neg (hn e2)]
        omega
/-- what is known of the states when they are weighed -/
def WI (D : List DT) (s : cS) : Prop := s.1 584 = nI D.length ∧ D.length ≤ 60 ∧ (∀ d ∈ D, d.2.1 ≤ 200 ∧ d.2.2.length ≤ 200 ∧ (∀ t ∈ d.2.2, t < D.length) ∧ (d.2.1 = 0 → 0 ≤ d.1) ∧ (d.2.1 ≠ 0 → d.2.2 ≠ [])) ∧ ∀ (j : Nat) d, D[j]? = some d → (d.2.1 ≠ 0 → (s.2.1 33 j = 0 ↔ d.2.1 ≤ 1)) ∧ wOk d.2.1 (s.2.1 31) j d.2.2
theorem WI.v {D : List DT} {s : cS} (h : WI D s) (f : Nat → Int32) : WI D (cA s 32 f) := h
theorem wOk_mem {n : Nat} {f : Nat → Int32} {i : Nat} {E : List Nat} {t : Nat} (h : wOk n f i E) (ht : t < 60) (hn : n ≤ 200) (hE : E.length ≤ 200) : f (i * 60 + t) = -1 ↔ ¬ t ∈ E := by
  rw [h t ht, wyC_m1 hn hE]
  constructor
  · exact fnN_none
  · intro z
    cases e : fnN E t with
    | none => rfl
    | some k => exact absurd (List.mem_of_getElem? (fnN_some e).1) z
theorem cs_vb4 {N0 : Nat} {K : Nat → Nat} {d C i : Nat} {D : List DT} {dd : DT} {s : cS} {G : gm_H} {sz sl : Nat} {Q : Int32 → Prop} (hN : N0 ≤ C) (hW : WI D s) (hd : D[i]? = some dd) (h0 : dd.2.1 ≠ 0) (q1 : ∀ v, (∀ t ∈ dd.2.2, s.2.1 32 t ≠ -1) → (∃ t ∈ dd.2.2, v = s.2.1 32 t) → (∀ t ∈ dd.2.2, (dd.2.1 = 1 → s.2.1 32 t ≤ v) ∧ (dd.2.1 ≠ 1 → v ≤ s.2.1 32 t)) → Q v) (q0 : (∃ t ∈ dd.2.2, s.2.1 32 t = -1) → Q (-1)) : ∀ (m t : Nat) (v : Int32), t + m = D.length → (∀ t' ∈ dd.2.2, t' < t → s.2.1 32 t' ≠ -1) → ((v = -1 ∧ ∀ t' ∈ dd.2.2, ¬ t' < t) ∨ (v ≠ -1 ∧ (∃ t' ∈ dd.2.2, t' < t ∧ v = s.2.1 32 t') ∧ ∀ t' ∈ dd.2.2, t' < t → (dd.2.1 = 1 → s.2.1 32 t' ≤ v) ∧ (dd.2.1 ≠ 1 → v ≤ s.2.1 32 t'))) → hX0_valueBehind_4 N0 K (d + 1) C (nI i) v (nI t) s G sz sl Q := by
  obtain ⟨w1, w2, w3, w4⟩ := hW
  have hil := (List.getElem?_eq_some_iff.mp hd).1
  obtain ⟨c1, c2, c3, c4, c5⟩ := w3 dd (List.mem_of_getElem? hd)
  obtain ⟨c6, c7⟩ := w4 i dd hd
  have c6 := c6 h0
  intro m
  induction m with
  | zero =>
    intro t v ht hv hI
    refine TX0_valueBehind_4 hN ?_
    rw [w1, if_pos (nI_le (by omega) (by omega))]
    rcases hI with ⟨_, hno⟩ | ⟨_, ⟨t', a, b, e⟩, hb⟩
    · exfalso
      obtain ⟨t', ht'⟩ : ∃ t', t' ∈ dd.2.2 := by
        cases hE : dd.2.2 with
        | nil => exact absurd hE (c5 h0)
        | cons x l => exact ⟨x, by simp⟩
      exact hno t' ht' (by have := c3 t' ht'; omega)
    · exact q1 v (fun t' h => hv t' h (by have := c3 t' h; omega)) ⟨t', a, e⟩ (fun t' h => hb t' h (by have := c3 t' h; omega))
  | succ m ih =>
    intro t v ht hv hI
    refine TX0_valueBehind_4 hN ?_
    rw [w1, if_neg (nI_ge (by omega) (by omega))]
    refine ⟨i * 60 + t, by rw [show (60 : Int32) = nI 60 from rfl, nI_mul, nI_add], by omega, ?_⟩
    have hmem := wOk_mem c7 (t := t) (by omega) c1 c2
    by_cases hin : t ∈ dd.2.2
    · rw [if_neg (fun z => hmem.mp z hin)]
      refine ⟨t, rfl, by omega, ?_⟩
      by_cases hm1 : s.2.1 32 t = -1
      · rw [if_pos hm1]
        exact q0 ⟨t, hin, hm1⟩
      · rw [if_neg hm1]
        have hv' : ∀ t' ∈ dd.2.2, t' < t + 1 → s.2.1 32 t' ≠ -1 := by
          intro t' h1 h2
          by_cases e : t' = t
          · rw [e]; exact hm1
          · exact hv t' h1 (by omega)
        by_cases hvm : v = -1
        · rw [if_pos hvm]
          have hno : ∀ t' ∈ dd.2.2, ¬ t' < t := by
            rcases hI with ⟨_, z⟩ | ⟨z, _⟩
            · exact z
            · exact absurd hvm z
          refine ⟨i, rfl, by omega, ?_⟩
          rw [ite_self, ite_self, nI_1]
          refine ⟨by omega, ih (t + 1) _ (by omega) hv' (Or.inr ⟨hm1, ⟨t, hin, by omega, rfl⟩, fun t' h1 h2 => ?_⟩)⟩
          have e : t' = t := by
            have := hno t' h1
            omega
          rw [e]
          exact ⟨fun _ => Int32.le_refl _, fun _ => Int32.le_refl _⟩
        · rw [if_neg hvm]
          obtain ⟨t0, a, b, e, hb⟩ : ∃ t0, t0 ∈ dd.2.2 ∧ t0 < t ∧ v = s.2.1 32 t0 ∧ ∀ t' ∈ dd.2.2, t' < t → (dd.2.1 = 1 → s.2.1 32 t' ≤ v) ∧ (dd.2.1 ≠ 1 → v ≤ s.2.1 32 t') := by
            rcases hI with ⟨z, _⟩ | ⟨_, ⟨t0, a, b, e⟩, hb⟩
            · exact absurd z hvm
            · exact ⟨t0, a, b, e, hb⟩
          refine ⟨i, rfl, by omega, ?_⟩
          rw [nI_1]
          by_cases hmax : dd.2.1 ≤ 1
          · have h1 : dd.2.1 = 1 := by omega
            rw [if_pos (c6.mpr hmax)]
            refine ⟨by omega, ?_⟩
            by_cases hlt : v < s.2.1 32 t
            · rw [if_pos hlt]
              refine ih (t + 1) _ (by omega) hv' (Or.inr ⟨hm1, ⟨t, hin, by omega, rfl⟩, fun t' x1 x2 => ⟨fun _ => ?_, fun z => absurd h1 z⟩⟩)
              by_cases et : t' = t
              · rw [et]; exact Int32.le_refl _
              · exact Int32.le_trans ((hb t' x1 (by omega)).1 h1) (Int32.le_of_lt hlt)
            · rw [if_neg hlt]
              refine ih (t + 1) _ (by omega) hv' (Or.inr ⟨hvm, ⟨t0, a, by omega, e⟩, fun t' x1 x2 => ⟨fun _ => ?_, fun z => absurd h1 z⟩⟩)
              by_cases et : t' = t
              · rw [et]; exact Int32.not_lt.mp hlt
              · exact (hb t' x1 (by omega)).1 h1
          · have h1 : dd.2.1 ≠ 1 := by omega
            rw [if_neg (fun z => hmax (c6.mp z))]
            refine ⟨by omega, ?_⟩
            by_cases hlt : s.2.1 32 t < v
            · rw [if_pos hlt]
              refine ih (t + 1) _ (by omega) hv' (Or.inr ⟨hm1, ⟨t, hin, by omega, rfl⟩, fun t' x1 x2 => ⟨fun z => absurd z h1, fun _ => ?_⟩⟩)
              by_cases et : t' = t
              · rw [et]; exact Int32.le_refl _
              · exact Int32.le_trans (Int32.le_of_lt hlt) ((hb t' x1 (by omega)).2 h1)
            · rw [if_neg hlt]
              refine ih (t + 1) _ (by omega) hv' (Or.inr ⟨hvm, ⟨t0, a, by omega, e⟩, fun t' x1 x2 => ⟨fun z => absurd z h1, fun _ => ?_⟩⟩)
              by_cases et : t' = t
              · rw [et]; exact Int32.not_lt.mp hlt
              · exact (hb t' x1 (by omega)).2 h1
    · rw [if_pos (hmem.mpr hin), nI_1]
      have hne : ∀ t' ∈ dd.2.2, t' ≠ t := fun t' h e => hin (e ▸ h)
      refine ih (t + 1) v (by omega) (fun t' x1 x2 => hv t' x1 (by have := hne t' x1; omega)) ?_
      rcases hI with ⟨z, hno⟩ | ⟨z, ⟨t0, a, b, e⟩, hb⟩
      · exact Or.inl ⟨z, fun t' x1 x2 => hno t' x1 (by have := hne t' x1; omega)⟩
      · exact Or.inr ⟨z, ⟨t0, a, by omega, e⟩, fun t' x1 x2 => hb t' x1 (by have := hne t' x1; omega)⟩
/-- values that are known are right -/
def vOk (D : List DT) (f : Nat → Int32) : Prop := ∀ (i : Nat) dd, D[i]? = some dd → (f i = -1 ∧ dd.2.1 ≠ 0) ∨ (f i ≠ -1 ∧ Val D i (f i))
/-- none of the unknown can be worked out -/
def vSt (D : List DT) (f : Nat → Int32) : Prop := ∀ i, i < D.length → f i = -1 → ∃ d, D[i]? = some d ∧ d.2.1 ≠ 0 ∧ ∃ t ∈ d.2.2, t < D.length ∧ f t = -1
theorem cs_weigh28 {N0 : Nat} {K : Nat → Nat} {d C : Nat} {D : List DT} {s0 : cS} {G : gm_H} {sz sl : Nat} {u2 : Int32} {Q : Int32 → cS → Prop} (hN : N0 ≤ C) (hW : WI D s0) (q : ∀ f, vOk D f → (∀ i, i < D.length → s0.2.1 32 i ≠ -1 → f i ≠ -1) → ((vSt D f ∧ ∀ i, i < D.length → f i = s0.2.1 32 i) ∨ cU f D.length < cU (s0.2.1 32) D.length) → hX0_weigh_7 N0 K (d + 2) C (nI (cU f D.length)) (u2 + (1 : Int32)) (cA s0 32 f) G sz sl Q) : ∀ (k u : Nat) (f : Nat → Int32), k ≤ D.length → u + cU f k = cU f D.length → vOk D f → (∀ i, i < D.length → s0.2.1 32 i ≠ -1 → f i ≠ -1) → (((∀ i, i < D.length → f i = s0.2.1 32 i) ∧ ∀ i, k ≤ i → i < D.length → f i = -1 → ∃ d, D[i]? = some d ∧ d.2.1 ≠ 0 ∧ ∃ t ∈ d.2.2, t < D.length ∧ f t = -1) ∨ ∃ i, i < D.length ∧ s0.2.1 32 i = -1 ∧ f i ≠ -1) → hX0_weigh_28 N0 K (d + 2) C (nI u) u2 (nI k + (-1 : Int32)) (cA s0 32 f) G sz sl Q := by
  have h60 := hW.2.1
  have hDge : ∀ d ∈ D, d.2.1 = 0 → 0 ≤ d.1 := fun d hd => (hW.2.2.1 d hd).2.2.2.1
  intro k
  induction k with
  | zero =>
    intro u f hk hu hv hm hp
    refine TX0_weigh_28 hN ?_
    rw [if_pos (by decide)]
    have eu : u = cU f D.length := by
      have : cU f 0 = 0 := rfl
      omega
    rw [eu]
    refine q f hv hm ?_
    rcases hp with ⟨a, b⟩ | z
    · exact Or.inl ⟨fun i hi => b i (by omega) hi, a⟩
    · exact Or.inr (cU_lt hm z)
  | succ k ih =>
    intro u f hk hu hv hm hp
    refine TX0_weigh_28 hN ?_
    rw [nI_sub1, if_neg (nI_pos (by omega))]
    refine ⟨k, rfl, by omega, ?_⟩
    have hd : D[k]? = some (D[k]'(by omega)) := List.getElem?_eq_getElem (by omega)
    have ec : cU f (k + 1) = cU f k + (if f k = -1 then 1 else 0) := rfl
    have e32 : (cA s0 32 f).2.1 32 = f := rfl
    rw [e32]
    by_cases hfk : f k = -1
    · rw [if_pos hfk]
      rw [if_pos hfk] at ec
      have h0 : (D[k]'(by omega)).2.1 ≠ 0 := by
        rcases hv k _ hd with ⟨_, z⟩ | ⟨z, _⟩
        · exact z
        · exact absurd hfk z
      have hin := (hW.2.2.1 _ (List.mem_of_getElem? hd)).2.2.1
      refine kX0_valueBehind.of (TX0_valueBehind_0 hN (cs_vb4 (d := d) hN (hW.v f) hd h0 (fun v a b c => ?_) (fun z => ?_) D.length 0 (-1) (by omega) (fun t' _ z => by omega) (Or.inl ⟨rfl, fun t' _ z => by omega⟩)))
      · have hval : Val D k v := Val.step hd h0 (f := f) (fun t ht => by
          obtain ⟨dt, hdt⟩ : ∃ dt, D[t]? = some dt := ⟨_, List.getElem?_eq_getElem (hin t ht)⟩
          rcases hv t dt hdt with ⟨z, _⟩ | ⟨_, z⟩
          · exact absurd z (a t ht)
          · exact z) b c
        have hvne := hval.ne hDge
        have eup : upd f k v k = v := if_pos rfl
        rw [eup, if_neg hvne]
        have hun : ∀ j, j ≠ k → upd f k v j = f j := fun j hj => if_neg hj
        have hlow : ∀ n, n ≤ k → cU (upd f k v) n = cU f n := by
          intro n
          induction n with
          | zero => intro _; rfl
          | succ n ihn => intro hn; rw [cU, cU, ihn (by omega), hun n (by omega)]
        have htot : ∀ n, k < n → cU (upd f k v) n + 1 = cU f n := by
          intro n
          induction n with
          | zero => intro z; omega
          | succ n ihn =>
            intro hn
            rw [cU, cU]
            by_cases e : n = k
            · subst e
              rw [hlow n (Nat.le_refl _), eup, if_neg hvne, if_pos hfk]
            · rw [hun n e]
              have := ihn (by omega)
              omega
        have t1 := htot D.length (by omega)
        rw [show nI u + (0 : Int32) = nI u from Int32.add_zero _]
        refine ih u (upd f k v) (by omega) (by rw [hlow k (Nat.le_refl _)]; omega) (fun i di hdi => ?_) (fun i hi h1 => ?_) (Or.inr ?_)
        · by_cases e : i = k
          · subst e
            rw [eup]
            exact Or.inr ⟨hvne, hval⟩
          · rw [hun i e]
            exact hv i di hdi
        · by_cases e : i = k
          · subst e
            rw [eup]
            exact hvne
          · rw [hun i e]
            exact hm i hi h1
        · rcases hp with ⟨y1, _⟩ | ⟨i, y1, y2, y3⟩
          · refine ⟨k, by omega, by rw [← y1 k (by omega)]; exact hfk, by rw [eup]; exact hvne⟩
          · by_cases e : i = k
            · subst e
              exact ⟨i, y1, y2, by rw [eup]; exact hvne⟩
            · exact ⟨i, y1, y2, by rw [hun i e]; exact y3⟩
      · have esame : upd f k (-1) = f := by
          funext j
          unfold upd
          by_cases e : j = k
          · rw [if_pos e, e, hfk]
          · rw [if_neg e]
        rw [if_pos (show upd f k (-1) k = -1 from if_pos rfl), esame, nI_1]
        rw [cA_cA]
        refine ih (u + 1) f (by omega) (by omega) hv hm ?_
        rcases hp with ⟨y1, y2⟩ | y
        · refine Or.inl ⟨y1, fun i hi h2 h3 => ?_⟩
          by_cases e : i = k
          · subst e
            obtain ⟨t, z1, z2⟩ := z
            exact ⟨_, hd, h0, t, z1, hin t z1, z2⟩
          · exact y2 i (by omega) h2 h3
        · exact Or.inr y
    · rw [if_neg hfk]
      rw [if_neg hfk] at ec
      refine ih u f (by omega) (by omega) hv hm ?_
      rcases hp with ⟨y1, y2⟩ | y
      · refine Or.inl ⟨y1, fun i hi h2 h3 => ?_⟩
        by_cases e : i = k
        · subst e
          exact absurd h3 hfk
        · exact y2 i (by omega) h2 h3
      · exact Or.inr y
theorem cs_weigh7 {N0 : Nat} {K : Nat → Nat} {d C : Nat} {D : List DT} {s0 : cS} {G : gm_H} {sz sl : Nat} {Q : Int32 → cS → Prop} (hN : N0 ≤ C) (hW : WI D s0) (hlen : 0 < D.length) (q1 : ∀ f, vOk D f → (∀ i, i < D.length → f i ≠ -1) → Q 1 (cA s0 32 f)) (q0 : ∀ f, ¬ allV D → Q 0 (cA s0 32 f)) : ∀ (m r : Nat) (f : Nat → Int32) (left : Nat), r + m = D.length → vOk D f → (r = 0 ∧ left = D.length ∨ 0 < r ∧ left = cU f D.length) → (vSt D f ∨ cU f D.length + r ≤ D.length) → hX0_weigh_7 N0 K (d + 2) C (nI left) (nI r) (cA s0 32 f) G sz sl Q := by
  have h60 := hW.2.1
  have h584 : ∀ f, (cA s0 32 f).1 584 = nI D.length := fun f => hW.1
  have done : ∀ f, vOk D f → cU f D.length = 0 → Q 1 (cA s0 32 f) := fun f hv h => q1 f hv (cU_0 h)
  have fail : ∀ f, vSt D f → cU f D.length ≠ 0 → Q 0 (cA s0 32 f) := by
    intro f hs h
    obtain ⟨i, a, b⟩ := cU_pos h
    refine q0 f (fun z => ?_)
    obtain ⟨v, hv⟩ := z i a
    exact Val.stuck hs i a b v hv
  intro m
  induction m with
  | zero =>
    intro r f left hr hv hl hs
    have hul := cU_le f D.length
    have el : left = cU f D.length := by
      rcases hl with ⟨z, _⟩ | ⟨_, z⟩
      · omega
      · exact z
    refine TX0_weigh_7 hN ?_
    rw [h584, if_pos (nI_le (by omega) (by omega)), el]
    by_cases h0 : cU f D.length = 0
    · rw [if_pos (by rw [h0]; rfl)]
      exact done f hv h0
    · rw [if_neg (nI_ne0 (by omega) (by omega))]
      rcases hs with z | z
      · exact fail f z h0
      · omega
  | succ m ih =>
    intro r f left hr hv hl hs
    have hul := cU_le f D.length
    refine TX0_weigh_7 hN ?_
    rw [h584, if_neg (nI_ge (by omega) (by omega))]
    by_cases hle : left = 0
    · have el : left = cU f D.length := by
        rcases hl with ⟨_, z⟩ | ⟨_, z⟩
        · omega
        · exact z
      rw [hle, if_pos (by decide), if_pos (by decide)]
      exact done f hv (by omega)
    · have hl60 : left ≤ 60 := by
        rcases hl with ⟨_, z⟩ | ⟨_, z⟩ <;> omega
      rw [if_neg (by rw [← nI_0]; exact nI_ge (by omega) (by omega))]
      have e1 : nI D.length - (1 : Int32) = nI D.length + (-1 : Int32) := by rw [Int32.sub_eq_add_neg]
      rw [e1]
      refine cs_weigh28 (d := d) (s0 := cA s0 32 f) (u2 := nI r) hN (hW.v f) (fun f' hv' hm' hp' => ?_) D.length 0 f (Nat.le_refl _) (by omega) hv (fun i hi z => z) (Or.inl ⟨fun _ _ => rfl, fun i h1 h2 => by omega⟩)
      rw [cA_cA, nI_1]
      refine ih (r + 1) f' _ (by omega) hv' (Or.inr ⟨by omega, rfl⟩) ?_
      rcases hp' with ⟨z, _⟩ | z
      · exact Or.inl z
      · rcases hs with y | y
        · refine Or.inl (fun i hi hfi => ?_)
          -- stuck before: nothing could have changed
          exfalso
          have z' : cU f' D.length < cU f D.length := z
          have hst := Val.stuck y
          have : cU f D.length ≤ cU f' D.length := cU_mono (fun j hj hne => by
            intro hfj
            have hdj : D[j]? = some (D[j]'hj) := List.getElem?_eq_getElem hj
            rcases hv' j _ hdj with ⟨w, _⟩ | ⟨_, w⟩
            · exact hne w
            · exact hst j hj hfj _ w)
          omega
        · have z' : cU f' D.length < cU f D.length := z
          exact Or.inr (by omega)
theorem cq_weigh {N0 : Nat} {K : Nat → Nat} {d C : Nat} {D : List DT} {s : cS} {G : gm_H} {sz : Nat} {Q : Int32 → cS → Prop} (hN : N0 ≤ C) (hW : WI D s) (hlen : 0 < D.length) (hv : ∀ (i : Nat) dd, D[i]? = some dd → s.2.1 32 i = dd.1 ∧ (dd.2.1 ≠ 0 → dd.1 = -1)) (q1 : ∀ f, vOk D f → (∀ i, i < D.length → f i ≠ -1) → Q 1 (cA s 32 f)) (q0 : ∀ f, ¬ allV D → Q 0 (cA s 32 f)) : kX0_weigh N0 K (d + 3) C s G sz Q := by
  have hself : cA s 32 (s.2.1 32) = s := by
    unfold cA
    refine Prod.ext rfl (Prod.ext (funext fun j => ?_) rfl)
    show (if j = 32 then s.2.1 32 else s.2.1 j) = s.2.1 j
    by_cases e : j = 32
    · rw [if_pos e, e]
    · rw [if_neg e]
  have hDge : ∀ d ∈ D, d.2.1 = 0 → 0 ≤ d.1 := fun d hd => (hW.2.2.1 d hd).2.2.2.1
  refine kX0_weigh.of (TX0_weigh_0 hN ?_)
  rw [hW.1]
  have := cs_weigh7 (d := d) (K := K) (G := G) (sz := sz) (sl := 0) (s0 := s) hN hW hlen q1 q0 D.length 0 (s.2.1 32) D.length (by omega) (fun i dd hd => ?_) (Or.inl ⟨rfl, rfl⟩) (Or.inr (cU_le _ _))
  · rw [hself] at this
    exact this
  · obtain ⟨a, b⟩ := hv i dd hd
    rw [a]
    by_cases h0 : dd.2.1 = 0
    · have hval := Val.end hd h0
      exact Or.inr ⟨hval.ne hDge, hval⟩
    · exact Or.inl ⟨b h0, h0⟩
