/-! gm_exec_sim: the JVM does what gm_exec says, given its calls and its ends -/
theorem gm_heap_mono {N0 : Nat} {nm : Nat → Option String} {lk : Nat → Option gm_L} {i : Instr} {pc : Nat} {ls : gm_Ls} {st : List Value} {M : gm_H} {sz : Nat} {pc' : Nat} {ls' : gm_Ls} {st' : List Value} {M' : gm_H} {sz' d : Nat}
    (h : gm_heap N0 nm lk i pc ls st M sz = some (pc', ls', st', M', sz', d)) : sz ≤ sz' ∧ ls' = ls := by
  unfold gm_heap at h
  repeat' split at h
  all_goals first
    | (cases h; done)
    | (simp only [Option.map_eq_some_iff, Prod.mk.injEq] at h; obtain ⟨x, -, -, rfl, -, -, rfl, -⟩ := h; exact ⟨by omega, rfl⟩)
    | (simp only [Option.some.injEq, Prod.mk.injEq] at h; obtain ⟨-, rfl, -, -, rfl, -⟩ := h; exact ⟨by omega, rfl⟩)
theorem gm_exec_mono {N0 : Nat} {nm : Nat → Option String} {ret : Option FieldType} {I : Nat → Option Instr} {lk : Nat → Option gm_L} {ex : Nat → gm_H → Nat → Option Nat} {call : gm_Call}
    (hcm : ∀ mi av M sz o M' sz' d, call mi av M sz = some (o, M', sz', d) → sz ≤ sz') :
    ∀ (n pc : Nat) (ls : gm_Ls) (st : List Value) (M : gm_H) (sz sl : Nat) (o : Outcome) (M' : gm_H) (sz' sl' : Nat), gm_exec N0 nm ret I lk ex call n pc ls st M sz sl = some (o, M', sz', sl') → sz ≤ sz' ∧ sl ≤ sl' := by
  intro n
  induction n with
  | zero => intro pc ls st M sz sl o M' sz' sl' h; cases h
  | succ n ih =>
    intro pc ls st M sz sl o M' sz' sl' h
    unfold gm_exec at h
    split at h
    · cases h
    · split at h
      · exact ih _ _ _ _ _ _ _ _ _ _ h
      · split at h
        · rename_i hh
          have h1 := ih _ _ _ _ _ _ _ _ _ _ h
          have h2 := (gm_heap_mono hh).1
          omega
        · split at h
          · split at h
            · rename_i hc
              have h1 := ih _ _ _ _ _ _ _ _ _ _ h
              have h2 := hcm _ _ _ _ _ _ _ _ hc
              omega
            · rename_i hc
              have h2 := hcm _ _ _ _ _ _ _ _ hc
              split at h
              · have h1 := ih _ _ _ _ _ _ _ _ _ _ h
                omega
              · cases h
                omega
            · cases h
          · unfold gm_end at h
            split at h
            · cases h; exact ⟨Nat.le_succ _, Nat.le_add_right _ _⟩
            split at h
            all_goals first
              | (cases h; done)
              | (cases h; exact ⟨Nat.le_refl _, Nat.le_refl _⟩)
              | (split at h
                 · cases h; exact ⟨Nat.le_refl _, Nat.le_refl _⟩
                 · cases h)
section GMX
variable {p : Program} {l : Launch} {e : Env} {R : Room} {s : State} {m : MethodId} {args : Array Value} {below : List Frame} {meth : Method} {c : Code} {Q : State → Prop}
variable {cc : ByteArray} {D : va_G} {cl : List vw_C} {AC : FieldType → ClassId} {N0 nL sz0 : Nat} {Ts Ns : List Cond} {own : String} {nm : Nat → Option String} {init : Bool}
/-- what the pool's places of own stand for -/
def gm_lkok (cl : List vw_C) (Ts Ns : List Cond) (own : String) (init : Bool) (s : State) (lk : Nat → Option gm_L) : Prop :=
  (∀ ix ci k ty w, lk ix = some (.inl (ci, k, ty, w)) → gm_fok cl Ts Ns own ix ci k ty) ∧
  (∀ ix ci k ty, lk ix = some (.inl (ci, k, ty, true)) → gm_pok cl Ts Ns own init ix ci k ty) ∧
  (∀ ix ci fs, lk ix = some (.inr (.inl (ci, fs))) → gm_nok cl Ts own ix ci fs) ∧
  (∀ ix C, lk (ix + 100000) = some (.inr (.inr (.inl (.object C)))) → Cond.classLink own ix C ∈ Ts ∧ va_AO C s) ∧
  (∀ ty n x, gm_zero ty n = some x → Cond.arrayClass ty ∈ Ts)
set_option maxHeartbeats 4000000 in
theorem gm_heap_sim (hexec : p.tables.exec = Jvm.exec) (hb : c.code = cc) (hts : ∀ w ∈ Ts, w.before args s = true) (hns : ∀ w ∈ Ns, va_Nw w s) (hown : s.vm.findClass own = some m.cls) (hK : va_K D cl [] s) (hAC : gm_AC AC s) (hnm : ∀ ci C, nm ci = some C → ∃ T N, cl[ci]? = some (C, T, N))
    (hin : init = true → meth.name = "<init>") (hN0 : ∀ q, N0 ≤ q → N0 ≤ q) {I : Nat → Option Instr} {lk : Nat → Option gm_L} (hlk : gm_lkok cl Ts Ns own init s lk)
    (hcs : ∀ (pc : Nat) (i : Instr) (arr : Array Slot) (st : List Value) (H : Heap) (locs : List Loc) (cells slots : Nat) (v : Value) (ix pc' : Nat), I pc = some i → gm_dec cc pc i → va_S (fun q => N0 ≤ q) s.heap H locs → ((i = .ldc ix ∧ pc' = pc + 2 ∧ lk ix = some (.inr (.inr (.inr (.inr (0, v)))))) ∨ (i = .ldc2_w ix ∧ pc' = pc + 3 ∧ lk ix = some (.inr (.inr (.inr (.inr (1, v)))))) ∨ (i = .getstatic ix ∧ pc' = pc + 3 ∧ lk ix = some (.inr (.inr (.inr (.inr (2, v)))))) ∨ (i = .ldc_w ix ∧ pc' = pc + 3 ∧ lk ix = some (.inr (.inr (.inr (.inr (3, v))))))) → W p l e R s m args below meth c H locs cells slots Q (F0 m pc' arr (v :: st)) → W p l e R s m args below meth c H locs cells slots Q (F0 m pc arr st))
    {i : Instr} {pc : Nat} {ls : gm_Ls} {arr : Array Slot} {st : List Value} {M : gm_H} {sz : Nat} {H : Heap} {locs : List Loc} {cells slots : Nat} {pc' : Nat} {ls' : gm_Ls} {st' : List Value} {M' : gm_H} {sz' d : Nat} (hi : I pc = some i) (hdg : gm_dec cc pc i)
    (h : gm_heap N0 nm lk i pc ls st M sz = some (pc', ls', st', M', sz', d)) (hS : gm_S D cl AC N0 s M sz H locs) (hcells : cells + (sz' - sz) ≤ R.cells) (hslots : slots + d ≤ R.slots)
    (kk : ∀ H1 locs1, gm_S D cl AC N0 s M' sz' H1 locs1 → W p l e R s m args below meth c H1 locs1 (cells + (sz' - sz)) (slots + d) Q (F0 m pc' arr st')) : W p l e R s m args below meth c H locs cells slots Q (F0 m pc arr st) := by
  obtain ⟨l1, l2, l3, l4, l5⟩ := hlk
  have hdg0 := hdg
  obtain ⟨len, hd, hlen⟩ := hdg
  have keep : sz' = sz → d = 0 → (∀ H1 locs1, gm_S D cl AC N0 s M' sz' H1 locs1 → W p l e R s m args below meth c H1 locs1 cells slots Q (F0 m pc' arr st')) := by
    intro e1 e2 H1 locs1 h1
    have := kk H1 locs1 h1
    rw [e1, e2, Nat.sub_self, Nat.add_zero, Nat.add_zero] at this
    exact this
  cases i with
  | getfield ix =>
    have hln : len = 3 := by simpa [gm_len] using hlen
    subst hln
    simp only [gm_heap] at h
    split at h
    · rename_i ci k ty w a r hl
      simp only [Option.map_eq_some_iff, Prod.mk.injEq] at h
      obtain ⟨v, hv, rfl, rfl, rfl, rfl, rfl, rfl⟩ := h
      exact gm_getfield hexec hb hts hns hown hK hS.1 (l1 ix ci k ty w hl) hv hd (keep rfl rfl H locs hS)
    · cases h
  | putfield ix =>
    have hln : len = 3 := by simpa [gm_len] using hlen
    subst hln
    simp only [gm_heap] at h
    split at h
    · rename_i ci k ty v a r hl
      simp only [Option.map_eq_some_iff, Prod.mk.injEq] at h
      obtain ⟨M2, hv, rfl, rfl, rfl, rfl, rfl, rfl⟩ := h
      exact gm_putfield hexec hb hts hns hown hK hS hin (l2 ix ci k ty hl) hv hd (keep rfl rfl)
    · cases h
  | iaload =>
    have hln : len = 1 := by simpa [gm_len] using hlen
    subst hln
    simp only [gm_heap] at h
    split at h
    · split at h
      · rename_i x hx
        simp only [Option.some.injEq, Prod.mk.injEq] at h
        obtain ⟨rfl, rfl, rfl, rfl, rfl, rfl⟩ := h
        exact gm_iaload hexec hb hS.1 hx hd (keep rfl rfl H locs hS)
      · simp only [Option.map_eq_some_iff, Prod.mk.injEq] at h
        obtain ⟨x, hx, rfl, rfl, rfl, rfl, rfl, rfl⟩ := h
        exact gm_ialoadS hexec hb hS.1 hx hd (keep rfl rfl H locs hS)
    · cases h
  | caload =>
    have hln : len = 1 := by simpa [gm_len] using hlen
    subst hln
    simp only [gm_heap] at h
    split at h
    · simp only [Option.map_eq_some_iff, Prod.mk.injEq] at h
      obtain ⟨x, hx, rfl, rfl, rfl, rfl, rfl, rfl⟩ := h
      exact gm_caload hexec hb hS.1 hx hd (keep rfl rfl H locs hS)
    · cases h
  | baload =>
    have hln : len = 1 := by simpa [gm_len] using hlen
    subst hln
    simp only [gm_heap] at h
    split at h
    · split at h
      · rename_i x hx
        simp only [Option.some.injEq, Prod.mk.injEq] at h
        obtain ⟨rfl, rfl, rfl, rfl, rfl, rfl⟩ := h
        exact gm_zaload hexec hb hS.1 hx hd (keep rfl rfl H locs hS)
      · simp only [Option.map_eq_some_iff, Prod.mk.injEq] at h
        obtain ⟨x, hx, rfl, rfl, rfl, rfl, rfl, rfl⟩ := h
        exact gm_baload hexec hb hS.1 hx hd (keep rfl rfl H locs hS)
    · cases h
  | laload =>
    have hln : len = 1 := by simpa [gm_len] using hlen
    subst hln
    simp only [gm_heap] at h
    split at h
    · simp only [Option.map_eq_some_iff, Prod.mk.injEq] at h
      obtain ⟨x, hx, rfl, rfl, rfl, rfl, rfl, rfl⟩ := h
      exact gm_laload hexec hb hS.1 hx hd (keep rfl rfl H locs hS)
    · cases h
  | aaload =>
    have hln : len = 1 := by simpa [gm_len] using hlen
    subst hln
    simp only [gm_heap] at h
    split at h
    · simp only [Option.map_eq_some_iff, Prod.mk.injEq] at h
      obtain ⟨x, hx, rfl, rfl, rfl, rfl, rfl, rfl⟩ := h
      exact gm_aaload hexec hb hS.1 hx hd (keep rfl rfl H locs hS)
    · cases h
  | iastore =>
    have hln : len = 1 := by simpa [gm_len] using hlen
    subst hln
    simp only [gm_heap] at h
    split at h
    · simp only [Option.map_eq_some_iff, Prod.mk.injEq] at h
      obtain ⟨x, hx, rfl, rfl, rfl, rfl, rfl, rfl⟩ := h
      exact gm_iastore hexec hb hS hx hd (keep rfl rfl)
    · cases h
  | castore =>
    have hln : len = 1 := by simpa [gm_len] using hlen
    subst hln
    simp only [gm_heap] at h
    split at h
    · simp only [Option.map_eq_some_iff, Prod.mk.injEq] at h
      obtain ⟨x, hx, rfl, rfl, rfl, rfl, rfl, rfl⟩ := h
      exact gm_castore hexec hb hS hx hd (keep rfl rfl)
    · cases h
  | bastore =>
    have hln : len = 1 := by simpa [gm_len] using hlen
    subst hln
    simp only [gm_heap] at h
    split at h
    · simp only [Option.map_eq_some_iff, Prod.mk.injEq] at h
      obtain ⟨x, hx, rfl, rfl, rfl, rfl, rfl, rfl⟩ := h
      exact gm_zastore hexec hb hS hx hd (keep rfl rfl)
    · cases h
  | lastore =>
    have hln : len = 1 := by simpa [gm_len] using hlen
    subst hln
    simp only [gm_heap] at h
    split at h
    · simp only [Option.map_eq_some_iff, Prod.mk.injEq] at h
      obtain ⟨x, hx, rfl, rfl, rfl, rfl, rfl, rfl⟩ := h
      exact gm_lastore hexec hb hS hx hd (keep rfl rfl)
    · cases h
  | aastore =>
    have hln : len = 1 := by simpa [gm_len] using hlen
    subst hln
    simp only [gm_heap] at h
    split at h
    · simp only [Option.map_eq_some_iff, Prod.mk.injEq] at h
      obtain ⟨x, hx, rfl, rfl, rfl, rfl, rfl, rfl⟩ := h
      exact gm_aastore hexec hb hK hS hnm hx hd (keep rfl rfl)
    · simp only [Option.map_eq_some_iff, Prod.mk.injEq] at h
      obtain ⟨x, hx, rfl, rfl, rfl, rfl, rfl, rfl⟩ := h
      exact gm_aastoreN hexec hb hS hx hd (keep rfl rfl)
    · cases h
  | arraylength =>
    have hln : len = 1 := by simpa [gm_len] using hlen
    subst hln
    simp only [gm_heap] at h
    split at h
    · simp only [Option.map_eq_some_iff, Prod.mk.injEq] at h
      obtain ⟨x, hx, rfl, rfl, rfl, rfl, rfl, rfl⟩ := h
      exact gm_alength hexec hb hS.1 hx hd (keep rfl rfl H locs hS)
    · cases h
  | newarray ty =>
    have hln : len = 2 := by simpa [gm_len] using hlen
    subst hln
    simp only [gm_heap] at h
    split at h
    · split at h
      · rename_i hc
        simp only [Option.map_eq_some_iff, Prod.mk.injEq] at h
        obtain ⟨x, hx, rfl, rfl, rfl, rfl, rfl, rfl⟩ := h
        rw [Nat.add_sub_cancel_left] at hcells kk
        exact gm_newarray hexec hb hAC hS (hts _ (l5 _ _ _ hx)) hx hc.1 hc.2 hcells hslots hd (fun H1 h1 => kk H1 _ h1)
      · cases h
    · cases h
  | anewarray ix =>
    have hln : len = 3 := by simpa [gm_len] using hlen
    subst hln
    simp only [gm_heap] at h
    split at h
    · rename_i C n r hl
      split at h
      · rename_i hc
        simp only [Option.some.injEq, Prod.mk.injEq] at h
        obtain ⟨rfl, rfl, rfl, rfl, rfl, rfl⟩ := h
        rw [Nat.add_sub_cancel_left] at hcells kk
        exact gm_anewarray hexec hb hts hown hAC hS (l4 ix C hl).1 (l4 ix C hl).2 hc.1 hc.2 hcells hslots hd (fun H1 h1 => kk H1 _ h1)
      · cases h
    · cases h
  | new ix =>
    have hln : len = 3 := by simpa [gm_len] using hlen
    subst hln
    simp only [gm_heap] at h
    split at h
    · rename_i ci fs hl
      simp only [Option.some.injEq, Prod.mk.injEq] at h
      obtain ⟨rfl, rfl, rfl, rfl, rfl, rfl⟩ := h
      rw [Nat.add_sub_cancel_left] at hcells kk
      exact gm_newobj hexec hb hts hown hK hS (l3 ix ci fs hl) hcells hslots hd (fun H1 h1 => kk H1 _ h1)
    · cases h
  | ldc ix =>
    simp only [gm_heap] at h
    split at h
    · rename_i v hl
      simp only [Option.some.injEq, Prod.mk.injEq] at h
      obtain ⟨rfl, rfl, rfl, rfl, rfl, rfl⟩ := h
      exact hcs pc _ arr st H locs cells slots v ix _ hi hdg0 hS.2.2 (Or.inl ⟨rfl, rfl, hl⟩) (keep rfl rfl H locs hS)
    · cases h
  | ldc2_w ix =>
    simp only [gm_heap] at h
    split at h
    · rename_i v hl
      simp only [Option.some.injEq, Prod.mk.injEq] at h
      obtain ⟨rfl, rfl, rfl, rfl, rfl, rfl⟩ := h
      exact hcs pc _ arr st H locs cells slots v ix _ hi hdg0 hS.2.2 (Or.inr (Or.inl ⟨rfl, rfl, hl⟩)) (keep rfl rfl H locs hS)
    · cases h
  | ldc_w ix =>
    simp only [gm_heap] at h
    split at h
    · rename_i v hl
      simp only [Option.some.injEq, Prod.mk.injEq] at h
      obtain ⟨rfl, rfl, rfl, rfl, rfl, rfl⟩ := h
      exact hcs pc _ arr st H locs cells slots v ix _ hi hdg0 hS.2.2 (Or.inr (Or.inr (Or.inr ⟨rfl, rfl, hl⟩))) (keep rfl rfl H locs hS)
    · cases h
  | getstatic ix =>
    simp only [gm_heap] at h
    split at h
    · rename_i v hl
      simp only [Option.some.injEq, Prod.mk.injEq] at h
      obtain ⟨rfl, rfl, rfl, rfl, rfl, rfl⟩ := h
      exact hcs pc _ arr st H locs cells slots v ix _ hi hdg0 hS.2.2 (Or.inr (Or.inr (Or.inl ⟨rfl, rfl, hl⟩))) (keep rfl rfl H locs hS)
    · cases h
  | _ => simp [gm_heap] at h
end GMX
