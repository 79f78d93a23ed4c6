/-! the reference's audit: what states are worth; the whole -/
/-- what is known of the states when they are weighed -/
def WR (D : List DT) (s : mS) : Prop := s.1 43 = nI D.length ∧ D.length ≤ 60 ∧ (∀ d ∈ D, d.2.1 ≤ 200 ∧ d.2.2.length ≤ 200 ∧ (∀ t ∈ d.2.2, t < D.length) ∧ (d.2.1 = 0 → 0 ≤ d.1 ∧ d.2.2 = []) ∧ (d.2.1 ≠ 0 → d.2.2 ≠ [])) ∧ ∀ (j : Nat) d, D[j]? = some d → s.2.1 48 j = nI d.2.1 ∧ s.2.1 46 j = nI (bo D j) ∧ s.2.1 46 (j + 1) = nI (bo D (j + 1)) ∧ ∀ (k t : Nat), d.2.2[k]? = some t → s.2.1 47 (bo D j + k) = nI t
theorem WR.v {D : List DT} {s : mS} (h : WR D s) (f : Nat → Int32) : WR D (mA s 49 f) := h
theorem m1_lt : (-1 : Int32) < 0 := by decide
/-- the best of the first x moves -/
def bI (dd : DT) (f : Nat → Int32) (x : Nat) (best all : Int32) : Prop := (all = 0 ∧ ∃ (j t : Nat), j < x ∧ dd.2.2[j]? = some t ∧ f t = -1) ∨ (all = 1 ∧ (∀ (j t : Nat), j < x → dd.2.2[j]? = some t → f t ≠ -1) ∧ ((x = 0 ∧ best = -1) ∨ (0 < x ∧ 0 ≤ best ∧ (∃ (j t : Nat), j < x ∧ dd.2.2[j]? = some t ∧ best = f t) ∧ ∀ (j t : Nat), j < x → dd.2.2[j]? = some t → (dd.2.1 = 1 → f t ≤ best) ∧ (dd.2.1 ≠ 1 → best ≤ f t))))
theorem rs_weigh83 {d i : Nat} {D : List DT} {dd : DT} {more : Int32} {left : Nat} {s : mS} {Q : Int32 → mS → Prop} (hW : WR D s) (hd : D[i]? = some dd) (h0 : dd.2.1 ≠ 0) (hge : ∀ t, t < D.length → s.2.1 49 t = -1 ∨ 0 ≤ s.2.1 49 t) (hmore : more = 0 ∨ more = 1) (q1 : ∀ v, (∀ t ∈ dd.2.2, s.2.1 49 t ≠ -1) → (∃ t ∈ dd.2.2, v = s.2.1 49 t) → (∀ t ∈ dd.2.2, (dd.2.1 = 1 → s.2.1 49 t ≤ v) ∧ (dd.2.1 ≠ 1 → v ≤ s.2.1 49 t)) → h_weighs_46 d (1 : Int32) (nI left) (nI (i + 1)) (mA s 49 (upd (s.2.1 49) i v)) Q) (q0 : (∃ t ∈ dd.2.2, s.2.1 49 t = -1) → h_weighs_46 d more (nI left) (nI (i + 1)) (mA s 49 (upd (s.2.1 49) i (-1 : Int32))) Q) : ∀ (m x : Nat) (best all : Int32), x + m = dd.2.2.length → bI dd (s.2.1 49) x best all → h_weighs_83 d more (nI left) (nI i) best all (nI (bo D i + x)) s Q := by
  obtain ⟨w1, w2, w3, w4⟩ := hW
  have hil := (List.getElem?_eq_some_iff.mp hd).1
  obtain ⟨c1, c2, c3, c4, c5⟩ := w3 dd (List.mem_of_getElem? hd)
  obtain ⟨e48, e46, e46', e47⟩ := w4 i dd hd
  have hb1 := bo_in hd
  have hb2 := bo_le D (fun d hd => (w3 d hd).2.1) i
  intro m
  induction m with
  | zero =>
    intro x best all hx hI
    refine T_weighs_83 ⟨i + 1, by rw [nI_1], by omega, ?_⟩
    rw [e46', if_pos (nI_le (by omega) (by omega))]
    have hlen : 0 < dd.2.2.length := by
      cases hE : dd.2.2 with
      | nil => exact absurd hE (c5 h0)
      | cons a l => simp
    have allx : ∀ t ∈ dd.2.2, ∃ j : Nat, j < x ∧ dd.2.2[j]? = some t := by
      intro t ht
      obtain ⟨j, hj⟩ := List.getElem?_of_mem ht
      exact ⟨j, by have := (List.getElem?_eq_some_iff.mp hj).1; omega, hj⟩
    rcases hI with ⟨ea, j, t, j1, j2, j3⟩ | ⟨ea, h1, h2⟩
    · rw [if_pos ea, nI_1]
      have fin := q0 ⟨t, List.mem_of_getElem? j2, j3⟩
      refine ⟨i, rfl, by omega, ?_⟩
      rcases hmore with z | z
      · rw [if_pos z]
        rw [z] at fin
        exact fin
      · rw [z] at fin ⊢
        rw [if_neg (by decide)]
        exact fin
    · rw [if_neg (by rw [ea]; decide), nI_1]
      refine ⟨i, rfl, by omega, ?_⟩
      rw [ite_self]
      rcases h2 with ⟨z, _⟩ | ⟨_, _, ⟨j, t, j1, j2, j3⟩, hb⟩
      · omega
      · refine q1 best (fun t ht => ?_) ⟨t, List.mem_of_getElem? j2, j3⟩ (fun t ht => ?_)
        · obtain ⟨j', y1, y2⟩ := allx t ht
          exact h1 j' t y1 y2
        · obtain ⟨j', y1, y2⟩ := allx t ht
          exact hb j' t y1 y2
  | succ m ih =>
    intro x best all hx hI
    have hxt : dd.2.2[x]? = some (dd.2.2[x]'(by omega)) := List.getElem?_eq_getElem (by omega)
    have htl := c3 _ (List.mem_of_getElem? hxt)
    refine T_weighs_83 ⟨i + 1, by rw [nI_1], by omega, ?_⟩
    rw [e46', if_neg (nI_ge (by omega) (by omega))]
    refine ⟨bo D i + x, rfl, by omega, dd.2.2[x]'(by omega), e47 x _ hxt, by omega, ?_⟩
    rw [nI_1, Nat.add_assoc]
    have nx0 : ∀ b, (∃ (j t : Nat), j < x + 1 ∧ dd.2.2[j]? = some t ∧ s.2.1 49 t = -1) → h_weighs_83 d more (nI left) (nI i) b 0 (nI (bo D i + (x + 1))) s Q := fun b h => ih (x + 1) b 0 (by omega) (Or.inl ⟨rfl, h⟩)
    rcases hI with ⟨ea, j, t, j1, j2, j3⟩ | ⟨ea, h1, h2⟩
    · have fin := fun b => nx0 b ⟨j, t, by omega, j2, j3⟩
      rw [if_pos ea]
      by_cases hb : best < 0
      · rw [if_pos hb]
        exact fin _
      · rw [if_neg hb]
        refine ⟨i, rfl, by omega, ?_⟩
        split
        · split
          · exact fin _
          · exact fin _
        · split
          · exact fin _
          · exact fin _
    · rw [if_neg (by rw [ea]; decide)]
      by_cases hw : s.2.1 49 (dd.2.2[x]'(by omega)) = -1
      · rw [hw, if_pos m1_lt]
        have fin := fun b => nx0 b ⟨x, _, by omega, hxt, hw⟩
        by_cases hb : best < 0
        · rw [if_pos hb]
          exact fin _
        · rw [if_neg hb]
          refine ⟨i, rfl, by omega, ?_⟩
          split
          · split
            · exact fin _
            · exact fin _
          · split
            · exact fin _
            · exact fin _
      · have hw0 : 0 ≤ s.2.1 49 (dd.2.2[x]'(by omega)) := (hge _ htl).resolve_left hw
        rw [if_neg (Int32.not_lt.mpr hw0)]
        have h1' : ∀ (j t : Nat), j < x + 1 → dd.2.2[j]? = some t → s.2.1 49 t ≠ -1 := by
          intro j t y1 y2
          by_cases e : j = x
          · subst e
            rw [hxt] at y2
            rw [← Option.some.inj y2]
            exact hw
          · exact h1 j t (by omega) y2
        have nx1 : ∀ b, 0 ≤ b → (∃ (j t : Nat), j < x + 1 ∧ dd.2.2[j]? = some t ∧ b = s.2.1 49 t) → (∀ (j t : Nat), j < x + 1 → dd.2.2[j]? = some t → (dd.2.1 = 1 → s.2.1 49 t ≤ b) ∧ (dd.2.1 ≠ 1 → b ≤ s.2.1 49 t)) → h_weighs_83 d more (nI left) (nI i) b 1 (nI (bo D i + (x + 1))) s Q := fun b y1 y2 y3 => ih (x + 1) b 1 (by omega) (Or.inr ⟨rfl, h1', Or.inr ⟨by omega, y1, y2, y3⟩⟩)
        rcases h2 with ⟨z1, z2⟩ | ⟨z1, z2, ⟨j0, t0, z3, z4, z5⟩, z6⟩
        · rw [if_pos (by rw [z2]; exact m1_lt)]
          refine nx1 _ hw0 ⟨x, _, by omega, hxt, rfl⟩ (fun j t y1 y2 => ?_)
          have e : j = x := by omega
          subst e
          rw [hxt] at y2
          rw [← Option.some.inj y2]
          exact ⟨fun _ => Int32.le_refl _, fun _ => Int32.le_refl _⟩
        · rw [if_neg (Int32.not_lt.mpr z2)]
          refine ⟨i, rfl, by omega, ?_⟩
          rw [e48]
          by_cases hn1 : dd.2.1 = 1
          · rw [if_pos (by rw [hn1]; rfl)]
            by_cases hle : s.2.1 49 (dd.2.2[x]'(by omega)) ≤ best
            · rw [if_pos hle]
              refine nx1 best z2 ⟨j0, t0, by omega, z4, z5⟩ (fun j t y1 y2 => ⟨fun _ => ?_, fun z => absurd hn1 z⟩)
              by_cases e : j = x
              · subst e
                rw [hxt] at y2
                rw [← Option.some.inj y2]
                exact hle
              · exact (z6 j t (by omega) y2).1 hn1
            · rw [if_neg hle]
              refine nx1 _ hw0 ⟨x, _, by omega, hxt, rfl⟩ (fun j t y1 y2 => ⟨fun _ => ?_, fun z => absurd hn1 z⟩)
              by_cases e : j = x
              · subst e
                rw [hxt] at y2
                rw [← Option.some.inj y2]
                exact Int32.le_refl _
              · exact Int32.le_trans ((z6 j t (by omega) y2).1 hn1) (Int32.le_of_lt (Int32.not_le.mp hle))
          · rw [if_neg (fun z : nI dd.2.1 = (1 : Int32) => hn1 ((nI_eq (a := dd.2.1) (b := 1) (by omega) (by decide)).mp z))]
            by_cases hle : best ≤ s.2.1 49 (dd.2.2[x]'(by omega))
            · rw [if_pos hle]
              refine nx1 best z2 ⟨j0, t0, by omega, z4, z5⟩ (fun j t y1 y2 => ⟨fun z => absurd z hn1, fun _ => ?_⟩)
              by_cases e : j = x
              · subst e
                rw [hxt] at y2
                rw [← Option.some.inj y2]
                exact hle
              · exact (z6 j t (by omega) y2).2 hn1
            · rw [if_neg hle]
              refine nx1 _ hw0 ⟨x, _, by omega, hxt, rfl⟩ (fun j t y1 y2 => ⟨fun z => absurd z hn1, fun _ => ?_⟩)
              by_cases e : j = x
              · subst e
                rw [hxt] at y2
                rw [← Option.some.inj y2]
                exact Int32.le_refl _
              · exact Int32.le_trans (Int32.le_of_lt (Int32.not_le.mp hle)) ((z6 j t (by omega) y2).2 hn1)
theorem vOk.ge {D : List DT} {f : Nat → Int32} (h : vOk D f) (hD : ∀ d ∈ D, d.2.1 = 0 → 0 ≤ d.1) : ∀ t, t < D.length → f t = -1 ∨ 0 ≤ f t := by
  intro t ht
  have hd : D[t]? = some (D[t]'ht) := List.getElem?_eq_getElem ht
  rcases h t _ hd with ⟨z, _⟩ | ⟨_, z⟩
  · exact Or.inl z
  · exact Or.inr (z.ge hD)
/-- one time through all states -/
theorem rs_weigh46 {d : Nat} {D : List DT} {s0 : mS} {f0 : Nat → Int32} {Q : Int32 → mS → Prop} (hW : WR D s0) (q : ∀ f (more : Int32) left, vOk D f → ((more = 0 ∧ vSt D f ∧ left = cU f D.length) ∨ (more = 1 ∧ cU f D.length < cU f0 D.length)) → left ≤ 60 → h_weighs_36 d more (nI left) (mA s0 49 f) Q) : ∀ (m k : Nat) (f : Nat → Int32) (more : Int32) (left : Nat), k + m = D.length → vOk D f → (∀ i, i < D.length → f0 i ≠ -1 → f i ≠ -1) → left ≤ k → ((more = 0 ∧ (∀ i, i < D.length → f i = f0 i) ∧ left = cU f k ∧ ∀ i, i < k → f i = -1 → ∃ d, D[i]? = some d ∧ d.2.1 ≠ 0 ∧ ∃ t ∈ d.2.2, t < D.length ∧ f t = -1) ∨ (more = 1 ∧ ∃ i, i < D.length ∧ f0 i = -1 ∧ f i ≠ -1)) → h_weighs_46 d more (nI left) (nI k) (mA s0 49 f) Q := by
  have h60 := hW.2.1
  have hDge : ∀ d ∈ D, d.2.1 = 0 → 0 ≤ d.1 := fun d hd => ((hW.2.2.1 d hd).2.2.2.1 · |>.1)
  intro m
  induction m with
  | zero =>
    intro k f more left hk hv hm hl hp
    refine T_weighs_46 ?_
    have e43 : (mA s0 49 f).1 43 = nI D.length := hW.1
    rw [e43, if_pos (nI_le (by omega) (by omega))]
    have ek : k = D.length := by omega
    subst ek
    refine q f more left hv ?_ (by omega)
    rcases hp with ⟨a, b, c, e⟩ | ⟨a, b⟩
    · exact Or.inl ⟨a, e, c⟩
    · exact Or.inr ⟨a, cU_lt hm b⟩
  | succ m ih =>
    intro k f more left hk hv hm hl hp
    refine T_weighs_46 ?_
    have e43 : (mA s0 49 f).1 43 = nI D.length := hW.1
    have e49 : (mA s0 49 f).2.1 49 = f := rfl
    rw [e43, if_neg (nI_ge (by omega) (by omega))]
    refine ⟨k, rfl, by omega, ?_⟩
    rw [e49]
    have hd : D[k]? = some (D[k]'(by omega)) := List.getElem?_eq_getElem (by omega)
    have ec : cU f (k + 1) = cU f k + (if f k = -1 then 1 else 0) := rfl
    have hin := (hW.2.2.1 _ (List.mem_of_getElem? hd)).2.2.1
    by_cases hfk : f k = -1
    · rw [if_pos (by rw [hfk]; exact m1_lt)]
      rw [if_pos hfk] at ec
      refine ⟨k, rfl, by omega, ?_⟩
      have e46 : (mA s0 49 f).2.1 46 k = nI (bo D k) := (hW.2.2.2 k _ hd).2.1
      rw [e46, nI_1]
      have h0 : (D[k]'(by omega)).2.1 ≠ 0 := by
        rcases hv k _ hd with ⟨_, z⟩ | ⟨z, _⟩
        · exact z
        · exact absurd hfk z
      refine rs_weigh83 (d := d) (s := mA s0 49 f) (hW.v f) hd h0 (hv.ge hDge) (hp.elim (fun z => Or.inl z.1) (fun z => Or.inr z.1)) (fun v a b c => ?_) (fun z => ?_) (D[k]'(by omega)).2.2.length 0 (-1) 1 (by omega) (Or.inr ⟨rfl, fun j t z => by omega, Or.inl ⟨rfl, rfl⟩⟩)
      · have hval : Val D k v := Val.step hd h0 (f := f) (fun t ht => by
          obtain ⟨dt, hdt⟩ : ∃ dt, D[t]? = some dt := ⟨_, List.getElem?_eq_getElem (hin t ht)⟩
          rcases hv t dt hdt with ⟨z, _⟩ | ⟨_, z⟩
          · exact absurd z (a t ht)
          · exact z) b c
        have hvne := hval.ne hDge
        have eup : upd f k v k = v := if_pos rfl
        have hun : ∀ j, j ≠ k → upd f k v j = f j := fun j hj => if_neg hj
        rw [mA_mA]
        refine ih (k + 1) (upd f k v) 1 (left + 1) (by omega) (fun i di hdi => ?_) (fun i hi h1 => ?_) (by omega) (Or.inr ⟨rfl, ?_⟩)
        · by_cases e : i = k
          · subst e
            rw [eup]
            exact Or.inr ⟨hvne, hval⟩
          · rw [hun i e]
            exact hv i di hdi
        · by_cases e : i = k
          · subst e
            rw [eup]
            exact hvne
          · rw [hun i e]
            exact hm i hi h1
        · rcases hp with ⟨_, y1, _⟩ | ⟨_, i, y1, y2, y3⟩
          · exact ⟨k, by omega, by rw [← y1 k (by omega)]; exact hfk, by rw [eup]; exact hvne⟩
          · by_cases e : i = k
            · subst e
              exact ⟨i, y1, y2, by rw [eup]; exact hvne⟩
            · exact ⟨i, y1, y2, by rw [hun i e]; exact y3⟩
      · have esame : upd f k (-1) = f := by
          funext j
          unfold upd
          by_cases e : j = k
          · rw [if_pos e, e, hfk]
          · rw [if_neg e]
        rw [mA_mA]
        show h_weighs_46 d more (nI (left + 1)) (nI (k + 1)) (mA s0 49 (upd f k (-1))) Q
        rw [esame]
        refine ih (k + 1) f more (left + 1) (by omega) hv hm (by omega) ?_
        rcases hp with ⟨y1, y2, y3, y4⟩ | y
        · refine Or.inl ⟨y1, y2, by omega, fun i hi h3 => ?_⟩
          by_cases e : i = k
          · subst e
            obtain ⟨t, z1, z2⟩ := z
            exact ⟨_, hd, h0, t, z1, hin t z1, z2⟩
          · exact y4 i (by omega) h3
        · exact Or.inr y
    · have hge := (hv.ge hDge k (by omega)).resolve_left hfk
      rw [if_neg (Int32.not_lt.mpr hge), nI_1]
      rw [if_neg hfk] at ec
      refine ih (k + 1) f more left (by omega) hv hm (by omega) ?_
      rcases hp with ⟨y1, y2, y3, y4⟩ | y
      · refine Or.inl ⟨y1, y2, by omega, fun i hi h3 => ?_⟩
        by_cases e : i = k
        · subst e
          exact absurd h3 hfk
        · exact y4 i (by omega) h3
      · exact Or.inr y
theorem rs_weigh36 {d : Nat} {D : List DT} {s0 : mS} {Q : Int32 → mS → Prop} (hW : WR D s0) (q1 : ∀ f, vOk D f → (∀ i, i < D.length → f i ≠ -1) → Q 1 (mA s0 49 f)) (q0 : ∀ f, ¬ allV D → Q 0 (mA s0 49 f)) : ∀ (n : Nat) (f : Nat → Int32) (left : Nat), cU f D.length ≤ n → vOk D f → h_weighs_36 d 1 (nI left) (mA s0 49 f) Q := by
  intro n
  induction n using Nat.strongRecOn with
  | _ n ih =>
    intro f left hn hv
    refine T_weighs_36 ?_
    rw [if_neg (by decide)]
    refine rs_weigh46 (d := d) (f0 := f) hW (fun f' more left' hv' hp hl => ?_) D.length 0 f 0 0 (by omega) hv (fun i _ z => z) (Nat.le_refl _) (Or.inl ⟨rfl, fun _ _ => rfl, rfl, fun i hi => by omega⟩)
    rcases hp with ⟨e, hs, hl2⟩ | ⟨e, hlt⟩
    · refine T_weighs_36 ?_
      rw [if_pos e]
      by_cases h0 : left' = 0
      · rw [if_pos (by rw [h0]; rfl)]
        exact q1 f' hv' (cU_0 (by omega))
      · rw [if_neg (nI_ne0 (by omega) (by omega))]
        obtain ⟨i, a, b⟩ := cU_pos (f := f') (n := D.length) (by omega)
        refine q0 f' (fun z => ?_)
        obtain ⟨v, hv2⟩ := z i a
        exact Val.stuck hs i a b v hv2
    · rw [e]
      exact ih (cU f' D.length) (by omega) f' left' (Nat.le_refl _) hv'
theorem rs_weigh6 {d : Nat} {D : List DT} {s0 : mS} {Q : Int32 → mS → Prop} (hW : WR D s0) (hend : ∀ (j : Nat) dd, D[j]? = some dd → dd.2.1 = 0 → s0.2.1 49 j = dd.1) (q : ∀ f, vOk D f → h_weighs_36 d 1 0 (mA s0 49 f) Q) : ∀ (m k : Nat) (f : Nat → Int32), k + m = D.length → (∀ (j : Nat) dd, D[j]? = some dd → (dd.2.1 = 0 → f j = dd.1) ∧ (j < k → dd.2.1 ≠ 0 → f j = -1)) → h_weighs_6 d 1 0 (nI k) (mA s0 49 f) Q := by
  have h60 := hW.2.1
  have hDge : ∀ d ∈ D, d.2.1 = 0 → 0 ≤ d.1 := fun d hd => ((hW.2.2.1 d hd).2.2.2.1 · |>.1)
  intro m
  induction m with
  | zero =>
    intro k f hk hf
    refine T_weighs_6 ?_
    have e43 : (mA s0 49 f).1 43 = nI D.length := hW.1
    rw [e43, if_pos (nI_le (by omega) (by omega))]
    refine q f (fun j dd hdd => ?_)
    have hj := (List.getElem?_eq_some_iff.mp hdd).1
    obtain ⟨a, b⟩ := hf j dd hdd
    by_cases h0 : dd.2.1 = 0
    · have hval := Val.end hdd h0
      rw [a h0]
      exact Or.inr ⟨hval.ne hDge, hval⟩
    · exact Or.inl ⟨b (by omega) h0, h0⟩
  | succ m ih =>
    intro k f hk hf
    have hd : D[k]? = some (D[k]'(by omega)) := List.getElem?_eq_getElem (by omega)
    have hin := hW.2.2.1 _ (List.mem_of_getElem? hd)
    refine T_weighs_6 ?_
    have e43 : (mA s0 49 f).1 43 = nI D.length := hW.1
    have e48 : (mA s0 49 f).2.1 48 k = nI (D[k]'(by omega)).2.1 := (hW.2.2.2 k _ hd).1
    rw [e43, if_neg (nI_ge (by omega) (by omega))]
    refine ⟨k, rfl, by omega, ?_⟩
    rw [e48, nI_1]
    by_cases h0 : (D[k]'(by omega)).2.1 = 0
    · rw [if_pos (by rw [h0]; decide)]
      refine ih (k + 1) f (by omega) (fun j dd hdd => ⟨(hf j dd hdd).1, fun hj hn => ?_⟩)
      by_cases e : j = k
      · subst e
        rw [hd] at hdd
        rw [← Option.some.inj hdd] at hn
        exact absurd h0 hn
      · exact (hf j dd hdd).2 (by omega) hn
    · rw [if_neg (by rw [← nI_0]; exact nI_ge (by omega) (by have := hin.1; omega)), mA_mA]
      have e49 : (mA s0 49 f).2.1 49 = f := rfl
      rw [e49]
      refine ih (k + 1) (upd f k (-1)) (by omega) (fun j dd hdd => ⟨fun hz => ?_, fun hj hn => ?_⟩)
      · have hjk : j ≠ k := by
          intro e
          subst e
          rw [hd] at hdd
          rw [← Option.some.inj hdd] at hz
          exact h0 hz
        rw [show upd f k (-1) j = f j from if_neg hjk]
        exact (hf j dd hdd).1 hz
      · by_cases e : j = k
        · rw [e]
          exact if_pos rfl
        · rw [show upd f k (-1) j = f j from if_neg e]
          exact (hf j dd hdd).2 (by omega) hn
theorem rq_weighs {d : Nat} {D : List DT} {s : mS} {Q : Int32 → mS → Prop} (hW : WR D s) (hend : ∀ (j : Nat) dd, D[j]? = some dd → dd.2.1 = 0 → s.2.1 49 j = dd.1) (q1 : ∀ f, vOk D f → (∀ i, i < D.length → f i ≠ -1) → Q 1 (mA s 49 f)) (q0 : ∀ f, ¬ allV D → Q 0 (mA s 49 f)) : m_weighs (d + 1) s Q := by
  refine m_weighs.of (T_weighs_0 ?_)
  have := rs_weigh6 (d := d) (s0 := s) hW hend (fun f hv => rs_weigh36 (d := d) hW q1 q0 (cU f D.length) f 0 (Nat.le_refl _) hv) D.length 0 (s.2.1 49) (by omega) (fun j dd hdd => ⟨hend j dd hdd, fun z => by omega⟩)
  rw [mA_self] at this
  exact this
