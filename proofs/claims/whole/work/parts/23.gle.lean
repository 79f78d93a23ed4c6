/-! fewer known locals: nothing is lost -/
def gm_le (a b : gm_Ls) : Prop := a.length = b.length ∧ ∀ i v, gm_lget a i = some v → gm_lget b i = some v
theorem gm_le.rfl' {a : gm_Ls} : gm_le a a := ⟨rfl, fun _ _ h => h⟩
theorem gm_inv_le {a b : gm_Ls} (h : gm_le a b) (i : Nat) : gm_le (gm_inv a i) (gm_inv b i) := by
  refine ⟨by rw [gm_inv_len, gm_inv_len]; exact h.1, fun j v hv => ?_⟩
  obtain ⟨h1, h2⟩ := gm_inv_get hv
  have h3 := h.2 j v h1
  cases i with
  | zero => exact h3
  | succ k =>
    simp only [gm_inv]
    split
    · rename_i w hw
      split
      · rename_i hc
        rw [gm_lget_set]
        by_cases hkj : k = j ∧ j < b.length
        · exfalso
          obtain ⟨rfl, -⟩ := hkj
          rw [hw] at h3
          cases h3
          exact h2 ⟨rfl, hc⟩
        · rw [if_neg hkj]; exact h3
      · exact h3
    · exact h3
theorem gm_set_le {a b : gm_Ls} (h : gm_le a b) (i : Nat) (o : Option Value) : gm_le (a.set i o) (b.set i o) := by
  refine ⟨by rw [List.length_set, List.length_set]; exact h.1, fun j v hv => ?_⟩
  rw [gm_lget_set] at hv ⊢
  rw [← h.1]
  by_cases hc : i = j ∧ j < a.length
  · rw [if_pos hc] at hv ⊢; exact hv
  · rw [if_neg hc] at hv ⊢; exact h.2 j v hv
theorem gm_l1_le {a b : gm_Ls} (h : gm_le a b) (i : Nat) (v : Value) : gm_le (gm_l1 a i v) (gm_l1 b i v) := gm_set_le (gm_inv_le h i) i _
theorem gm_l2_le {a b : gm_Ls} (h : gm_le a b) (i : Nat) (v : Value) : gm_le (gm_l2 a i v) (gm_l2 b i v) := gm_set_le (gm_set_le (gm_inv_le h i) _ _) i _
section GLE
variable {a b a' : gm_Ls} {pc pc' k : Nat} {st st' : List Value}
theorem gm_ldi_le (h : gm_le a b) (hp : gm_ldi pc a st k = some (pc', a', st')) : ∃ b', gm_ldi pc b st k = some (pc', b', st') ∧ gm_le a' b' := by
  unfold gm_ldi at hp ⊢
  split at hp
  · rename_i x hx
    simp only [Option.some.injEq, Prod.mk.injEq] at hp
    obtain ⟨rfl, rfl, rfl⟩ := hp
    rw [h.2 _ _ hx]
    exact ⟨b, rfl, h⟩
  · cases hp
theorem gm_ldl_le (h : gm_le a b) (hp : gm_ldl pc a st k = some (pc', a', st')) : ∃ b', gm_ldl pc b st k = some (pc', b', st') ∧ gm_le a' b' := by
  unfold gm_ldl at hp ⊢
  split at hp
  · rename_i x hx
    simp only [Option.some.injEq, Prod.mk.injEq] at hp
    obtain ⟨rfl, rfl, rfl⟩ := hp
    rw [h.2 _ _ hx]
    exact ⟨b, rfl, h⟩
  · cases hp
theorem gm_lda_le (h : gm_le a b) (hp : gm_lda pc a st k = some (pc', a', st')) : ∃ b', gm_lda pc b st k = some (pc', b', st') ∧ gm_le a' b' := by
  unfold gm_lda at hp ⊢
  split at hp
  · rename_i x hx
    simp only [Option.some.injEq, Prod.mk.injEq] at hp
    obtain ⟨rfl, rfl, rfl⟩ := hp
    rw [h.2 _ _ hx]
    exact ⟨b, rfl, h⟩
  · rename_i hx
    simp only [Option.some.injEq, Prod.mk.injEq] at hp
    obtain ⟨rfl, rfl, rfl⟩ := hp
    rw [h.2 _ _ hx]
    exact ⟨b, rfl, h⟩
  · cases hp
theorem gm_sti_le (h : gm_le a b) (hp : gm_sti pc a k st = some (pc', a', st')) : ∃ b', gm_sti pc b k st = some (pc', b', st') ∧ gm_le a' b' := by
  unfold gm_sti at hp ⊢
  split at hp
  · split at hp
    · rename_i hl
      simp only [Option.some.injEq, Prod.mk.injEq] at hp
      obtain ⟨rfl, rfl, rfl⟩ := hp
      rw [h.1] at hl
      rw [if_pos hl]
      exact ⟨_, rfl, gm_l1_le h _ _⟩
    · cases hp
  · cases hp
theorem gm_stl_le (h : gm_le a b) (hp : gm_stl pc a k st = some (pc', a', st')) : ∃ b', gm_stl pc b k st = some (pc', b', st') ∧ gm_le a' b' := by
  unfold gm_stl at hp ⊢
  split at hp
  · split at hp
    · rename_i hl
      simp only [Option.some.injEq, Prod.mk.injEq] at hp
      obtain ⟨rfl, rfl, rfl⟩ := hp
      rw [h.1] at hl
      rw [if_pos hl]
      exact ⟨_, rfl, gm_l2_le h _ _⟩
    · cases hp
  · cases hp
theorem gm_sta_le (h : gm_le a b) (hp : gm_sta pc a k st = some (pc', a', st')) : ∃ b', gm_sta pc b k st = some (pc', b', st') ∧ gm_le a' b' := by
  unfold gm_sta at hp ⊢
  split at hp
  · split at hp
    · rename_i hl
      simp only [Option.some.injEq, Prod.mk.injEq] at hp
      obtain ⟨rfl, rfl, rfl⟩ := hp
      rw [h.1] at hl
      rw [if_pos hl]
      exact ⟨_, rfl, gm_l1_le h _ _⟩
    · cases hp
  · split at hp
    · rename_i hl
      simp only [Option.some.injEq, Prod.mk.injEq] at hp
      obtain ⟨rfl, rfl, rfl⟩ := hp
      rw [h.1] at hl
      rw [if_pos hl]
      exact ⟨_, rfl, gm_l1_le h _ _⟩
    · cases hp
  · cases hp
theorem gm_jmp_le {off : Int} (h : gm_le a b) (hp : gm_jmp pc off a st = some (pc', a', st')) : ∃ b', gm_jmp pc off b st = some (pc', b', st') ∧ gm_le a' b' := by
  unfold gm_jmp at hp ⊢
  split at hp
  · rename_i hc
    simp only [Option.some.injEq, Prod.mk.injEq] at hp
    obtain ⟨rfl, rfl, rfl⟩ := hp
    rw [if_pos hc]
    exact ⟨b, rfl, h⟩
  · cases hp
theorem gm_i2_le {f : Int32 → Int32 → Int32} (h : gm_le a b) (hp : gm_i2 pc a f st = some (pc', a', st')) : ∃ b', gm_i2 pc b f st = some (pc', b', st') ∧ gm_le a' b' := by
  unfold gm_i2 at hp ⊢
  split at hp
  · simp only [Option.some.injEq, Prod.mk.injEq] at hp
    obtain ⟨rfl, rfl, rfl⟩ := hp
    exact ⟨b, rfl, h⟩
  · cases hp
theorem gm_i2z_le {f : Int32 → Int32 → Int32} (h : gm_le a b) (hp : gm_i2z pc a f st = some (pc', a', st')) : ∃ b', gm_i2z pc b f st = some (pc', b', st') ∧ gm_le a' b' := by
  unfold gm_i2z at hp ⊢
  split at hp
  · split at hp
    · cases hp
    · rename_i hc
      simp only [Option.some.injEq, Prod.mk.injEq] at hp
      obtain ⟨rfl, rfl, rfl⟩ := hp
      exact ⟨b, by rw [if_neg hc], h⟩
  · cases hp
theorem gm_l2op_le {f : Int64 → Int64 → Int64} (h : gm_le a b) (hp : gm_l2op pc a f st = some (pc', a', st')) : ∃ b', gm_l2op pc b f st = some (pc', b', st') ∧ gm_le a' b' := by
  unfold gm_l2op at hp ⊢
  split at hp
  · simp only [Option.some.injEq, Prod.mk.injEq] at hp
    obtain ⟨rfl, rfl, rfl⟩ := hp
    exact ⟨b, rfl, h⟩
  · cases hp
theorem gm_lsh_le {f : Int64 → Int32 → Int64} (h : gm_le a b) (hp : gm_lsh pc a f st = some (pc', a', st')) : ∃ b', gm_lsh pc b f st = some (pc', b', st') ∧ gm_le a' b' := by
  unfold gm_lsh at hp ⊢
  split at hp
  · simp only [Option.some.injEq, Prod.mk.injEq] at hp
    obtain ⟨rfl, rfl, rfl⟩ := hp
    exact ⟨b, rfl, h⟩
  · cases hp
set_option maxHeartbeats 4000000 in
theorem gm_pure_le {i : Instr} (h : gm_le a b) (hp : gm_pure i pc a st = some (pc', a', st')) : ∃ b', gm_pure i pc b st = some (pc', b', st') ∧ gm_le a' b' := by
  unfold gm_pure at hp ⊢
  split at hp
  all_goals first
    | exact gm_ldi_le h hp
    | exact gm_ldl_le h hp
    | exact gm_lda_le h hp
    | exact gm_sti_le h hp
    | exact gm_stl_le h hp
    | exact gm_sta_le h hp
    | exact gm_i2_le h hp
    | exact gm_i2z_le h hp
    | exact gm_l2op_le h hp
    | exact gm_lsh_le h hp
    | exact gm_jmp_le h hp
    | (simp only [Option.some.injEq, Prod.mk.injEq] at hp; obtain ⟨rfl, rfl, rfl⟩ := hp; exact ⟨b, rfl, h⟩)
    | (cases hp; done)
    | (split at hp <;> first
        | exact gm_jmp_le h hp
        | (simp only [Option.some.injEq, Prod.mk.injEq] at hp; obtain ⟨rfl, rfl, rfl⟩ := hp; exact ⟨b, rfl, h⟩)
        | (cases hp; done)
        | (rename_i hx; simp only [Option.some.injEq, Prod.mk.injEq] at hp; obtain ⟨rfl, rfl, rfl⟩ := hp; rw [h.2 _ _ hx]; exact ⟨_, rfl, gm_l1_le h _ _⟩)
        | (split at hp <;> first
            | (cases hp; done)
            | (rename_i hc; rw [if_pos hc]; exact gm_jmp_le h hp)
            | (rename_i hc; simp only [Option.some.injEq, Prod.mk.injEq] at hp; obtain ⟨rfl, rfl, rfl⟩ := hp; rw [if_pos hc]; exact ⟨b, rfl, h⟩)
            | (rename_i hc; simp only [Option.some.injEq, Prod.mk.injEq] at hp; obtain ⟨rfl, rfl, rfl⟩ := hp; rw [if_neg hc]; exact ⟨b, rfl, h⟩)
            | (rename_i hc; rw [if_neg hc]; split at hp <;> first | (cases hp; done) | exact gm_jmp_le h hp)))
end GLE
section GLX
variable {N0 : Nat} {nm : Nat → Option String} {ret : Option FieldType} {I : Nat → Option Instr} {lk : Nat → Option gm_L} {ex : Nat → gm_H → Nat → Option Nat} {call : gm_Call}
set_option maxHeartbeats 4000000 in
theorem gm_heap_le {i : Instr} {pc : Nat} {a b : gm_Ls} {st : List Value} {M : gm_H} {sz pc' : Nat} {a' : gm_Ls} {st' : List Value} {M' : gm_H} {sz' d : Nat} (h : gm_heap N0 nm lk i pc a st M sz = some (pc', a', st', M', sz', d)) : gm_heap N0 nm lk i pc b st M sz = some (pc', b, st', M', sz', d) ∧ gm_pure i pc b st = none := by
  unfold gm_heap at h ⊢
  split at h
  all_goals refine ⟨?_, by first | rfl | (cases h; done)⟩
  all_goals first
    | (cases h; done)
    | (repeat' split at h
       all_goals first
         | (cases h; done)
         | (obtain ⟨x, hx, he⟩ := Option.map_eq_some_iff.mp h; cases he; rw [hx]; rfl)
         | (rename_i hc; rw [if_pos hc]; obtain ⟨x, hx, he⟩ := Option.map_eq_some_iff.mp h; cases he; rw [hx]; rfl)
         | (rename_i hc; rw [if_pos hc]; cases h; rfl)
         | (cases h; rfl))
theorem gm_site_pure {i : Instr} {st : List Value} {M : gm_H} {r : Nat × List Value × List Value} (h : gm_site lk i st M = some r) (pc : Nat) (b : gm_Ls) : gm_pure i pc b st = none ∧ ∀ sz, gm_heap N0 nm lk i pc b st M sz = none := by
  unfold gm_site at h
  split at h
  all_goals first | (cases h; done) | exact ⟨rfl, fun _ => rfl⟩
theorem gm_end_pure {i : Instr} {st : List Value} {M : gm_H} {sz sl : Nat} {r : gm_R} (h : gm_end lk ret i st M sz sl = some r) (pc : Nat) (b : gm_Ls) : gm_pure i pc b st = none ∧ gm_heap N0 nm lk i pc b st M sz = none ∧ gm_site lk i st M = none := by
  unfold gm_end at h
  split at h
  · rename_i e he
    unfold gm_thr at he
    split at he
    · rename_i ix
      split at he
      · rename_i E hk
        exact ⟨rfl, by simp only [gm_heap, hk], rfl⟩
      · cases he
    · cases he
  · split at h
    all_goals first | (cases h; done) | exact ⟨rfl, rfl, rfl⟩
theorem gm_exec_le : ∀ (n pc : Nat) (a b : gm_Ls) (st : List Value) (M : gm_H) (sz sl : Nat) (R : gm_R), gm_le a b → gm_exec N0 nm ret I lk (fun _ _ _ => none) call n pc a st M sz sl = some R → gm_exec N0 nm ret I lk (fun _ _ _ => none) call n pc b st M sz sl = some R := by
  intro n
  induction n with
  | zero => intro pc a b st M sz sl R h hx; cases hx
  | succ n ih =>
    intro pc a b st M sz sl R h hx
    simp only [gm_exec] at hx ⊢
    cases hi : I pc with
    | none => rw [hi] at hx; cases hx
    | some i =>
      rw [hi] at hx
      dsimp only at hx ⊢
      cases hp : gm_pure i pc a st with
      | some w =>
        obtain ⟨pc', a', st'⟩ := w
        rw [hp] at hx
        obtain ⟨b', hb, hle⟩ := gm_pure_le h hp
        rw [hb]
        exact ih _ _ _ _ _ _ _ _ hle hx
      | none =>
        rw [hp] at hx
        dsimp only at hx
        cases hh : gm_heap N0 nm lk i pc a st M sz with
        | some w =>
          obtain ⟨pc', a', st', M', sz', d⟩ := w
          rw [hh] at hx
          obtain ⟨h1, h2⟩ := gm_heap_le (b := b) hh
          have ha := (gm_heap_mono hh).2
          subst ha
          rw [h2, h1]
          exact ih _ _ _ _ _ _ _ _ h hx
        | none =>
          rw [hh] at hx
          dsimp only at hx
          cases hs : gm_site lk i st M with
          | some w =>
            obtain ⟨mi, av, r⟩ := w
            rw [hs] at hx
            obtain ⟨h1, h2⟩ := gm_site_pure (N0 := N0) (nm := nm) hs pc b
            rw [h1, h2 sz]
            dsimp only at hx ⊢
            split at hx
            · exact ih _ _ _ _ _ _ _ _ h hx
            · exact hx
            · cases hx
          | none =>
            rw [hs] at hx
            obtain ⟨h1, h2, h3⟩ := gm_end_pure (N0 := N0) (nm := nm) hx pc b
            rw [h1, h2]
            exact hx
end GLX
theorem gm_ev.le {N0 : Nat} {nm : Nat → Option String} {C : Nat → gm_Call} {ret : Option FieldType} {I : Nat → Option Instr} {lk : Nat → Option gm_L} {pc : Nat} {a b : gm_Ls} {st : List Value} {M : gm_H} {sz sl : Nat} {R : gm_R} (h : gm_le a b) (k : gm_evC N0 nm C ret I lk pc a st M sz sl R) : gm_evC N0 nm C ret I lk pc b st M sz sl R := by
  obtain ⟨n, m, hk⟩ := k
  exact ⟨n, m, gm_exec_le _ _ _ _ _ _ _ _ _ h hk⟩
/-- slot by slot: unknown, or the same -/
def gm_leL : gm_Ls → gm_Ls → Prop
  | [], [] => True
  | none :: r, _ :: t => gm_leL r t
  | some v :: r, some w :: t => v = w ∧ gm_leL r t
  | _, _ => False
theorem gm_leL.le : ∀ {a b : gm_Ls}, gm_leL a b → gm_le a b
  | [], [], _ => gm_le.rfl'
  | none :: r, o :: t, h => by
    have h1 := gm_leL.le (a := r) (b := t) h
    refine ⟨by simp [h1.1], fun i v hv => ?_⟩
    cases i with
    | zero => cases hv
    | succ i => exact h1.2 i v hv
  | some v :: r, some w :: t, h => by
    obtain ⟨rfl, h⟩ := h
    have h1 := gm_leL.le (a := r) (b := t) h
    refine ⟨by simp [h1.1], fun i v hv => ?_⟩
    cases i with
    | zero => exact hv
    | succ i => exact h1.2 i v hv
  | [], _ :: _, h => h.elim
  | some _ :: _, [], h => h.elim
  | none :: _, [], h => h.elim
  | some _ :: _, none :: _, h => h.elim
