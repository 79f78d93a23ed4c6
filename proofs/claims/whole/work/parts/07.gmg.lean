/-! gm_exec_sim: a method's body -/
section GMY
variable {p : Program} {l : Launch} {e : Env} {R : Room} {s : State} {m : MethodId} {args : Array Value} {below : List Frame} {meth : Method} {c : Code} {Q : State → Prop}
variable {cc : ByteArray} {D : va_G} {cl : List vw_C} {AC : FieldType → ClassId} {N0 nL sz0 : Nat} {Ts Ns : List Cond} {own : String} {nm : Nat → Option String} {init : Bool}
set_option maxHeartbeats 4000000 in
theorem gm_exec_sim (hexec : p.tables.exec = Jvm.exec) (hb : c.code = cc) (hts : ∀ w ∈ Ts, w.before args s = true) (hns : ∀ w ∈ Ns, va_Nw w s) (hown : s.vm.findClass own = some m.cls) (hK : va_K D cl [] s) (hAC : gm_AC AC s) (hnm : ∀ ci C, nm ci = some C → ∃ T N, cl[ci]? = some (C, T, N))
    (hin : init = true → meth.name = "<init>") {I : Nat → Option Instr} {lk : Nat → Option gm_L} {ex : Nat → gm_H → Nat → Option Nat} {call : gm_Call} {ret : Option FieldType} (hI : ∀ pc i, I pc = some i → gm_dec cc pc i) (hlk : gm_lkok cl Ts Ns own init s lk)
    (hcs : ∀ (pc : Nat) (i : Instr) (arr : Array Slot) (st : List Value) (H : Heap) (locs : List Loc) (cells slots : Nat) (v : Value) (ix pc' : Nat), I pc = some i → gm_dec cc pc i → va_S (fun q => N0 ≤ q) s.heap H locs → ((i = .ldc ix ∧ pc' = pc + 2 ∧ lk ix = some (.inr (.inr (.inr (.inr (0, v)))))) ∨ (i = .ldc2_w ix ∧ pc' = pc + 3 ∧ lk ix = some (.inr (.inr (.inr (.inr (1, v)))))) ∨ (i = .getstatic ix ∧ pc' = pc + 3 ∧ lk ix = some (.inr (.inr (.inr (.inr (2, v)))))) ∨ (i = .ldc_w ix ∧ pc' = pc + 3 ∧ lk ix = some (.inr (.inr (.inr (.inr (3, v))))))) → W p l e R s m args below meth c H locs cells slots Q (F0 m pc' arr (v :: st)) → W p l e R s m args below meth c H locs cells slots Q (F0 m pc arr st))
    (hcm : ∀ mi av M sz o M' sz' d, call mi av M sz = some (o, M', sz', d) → sz ≤ sz')
    (hcall : ∀ (pc : Nat) (i : Instr) (arr : Array Slot) (st : List Value) (M : gm_H) (sz : Nat) (H : Heap) (locs : List Loc) (cells slots mi : Nat) (av r : List Value) (v : Option Value) (M' : gm_H) (sz' d : Nat), I pc = some i → gm_dec cc pc i → arr.size = nL → gm_site lk i st M = some (mi, av, r) → call mi av M sz = some (.returned v, M', sz', d) → gm_S D cl AC N0 s M sz H locs → cells + (sz' - sz) ≤ R.cells → slots + d ≤ R.slots →
      (∀ H1 locs1, gm_S D cl AC N0 s M' sz' H1 locs1 → W p l e R s m args below meth c H1 locs1 (cells + (sz' - sz)) (slots + d) Q (F0 m (pc + 3) arr (v.toList ++ r))) → W p l e R s m args below meth c H locs cells slots Q (F0 m pc arr st))
    {o : Outcome} {Mf : gm_H} {szf slf : Nat}
    (hthr : ∀ (pc : Nat) (i : Instr) (arr : Array Slot) (st : List Value) (M : gm_H) (sz : Nat) (H : Heap) (locs : List Loc) (cells slots mi : Nat) (av r : List Value) (a : Addr) (M' : gm_H) (sz' d : Nat), I pc = some i → gm_dec cc pc i → arr.size = nL → gm_site lk i st M = some (mi, av, r) → call mi av M sz = some (.threw a, M', sz', d) → gm_S D cl AC N0 s M sz H locs → cells + (sz' - sz) ≤ R.cells → slots + d ≤ R.slots →
      (∀ h, ex pc M' a = some h → ∀ H1 locs1, gm_S D cl AC N0 s M' sz' H1 locs1 → W p l e R s m args below meth c H1 locs1 (cells + (sz' - sz)) (slots + d) Q (F0 m h arr [.ref a])) → (ex pc M' a = none → o = .threw a ∧ Mf = M' ∧ szf = sz' ∧ slf = slots + d) → W p l e R s m args below meth c H locs cells slots Q (F0 m pc arr st))
    (hend : ∀ (pc : Nat) (i : Instr) (arr : Array Slot) (st : List Value) (M : gm_H) (sz sl : Nat) (H : Heap) (locs : List Loc), I pc = some i → gm_dec cc pc i → arr.size = nL → gm_end lk ret i st M sz sl = some (o, Mf, szf, slf) → gm_S D cl AC N0 s M sz H locs → W p l e R s m args below meth c H locs (sz - sz0) sl Q (F0 m pc arr st))
    (hcells : szf - sz0 ≤ R.cells) (hslots : slf ≤ R.slots) :
    ∀ (n pc : Nat) (ls : gm_Ls) (st : List Value) (M : gm_H) (sz sl : Nat) (arr : Array Slot) (H : Heap) (locs : List Loc), gm_exec N0 nm ret I lk ex call n pc ls st M sz sl = some (o, Mf, szf, slf) → gm_lok ls arr nL → gm_S D cl AC N0 s M sz H locs → sz0 ≤ sz →
      W p l e R s m args below meth c H locs (sz - sz0) sl Q (F0 m pc arr st) := by
  intro n
  induction n with
  | zero => intro pc ls st M sz sl arr H locs h; cases h
  | succ n ih =>
    intro pc ls st M sz sl arr H locs h hl hS hz
    unfold gm_exec at h
    split at h
    · cases h
    · rename_i i hi
      have hd := hI pc i hi
      split at h
      · rename_i pc' ls' st' hp
        exact gm_pure_sim hexec hb hd hp hl (fun arr' hl' => ih pc' ls' st' M sz sl arr' H locs h hl' hS hz)
      · split at h
        · rename_i pc' ls' st' M' sz' d hh
          have hm := gm_exec_mono hcm _ _ _ _ _ _ _ _ _ _ _ h
          obtain ⟨hm2, rfl⟩ := gm_heap_mono hh
          have e1 : sz - sz0 + (sz' - sz) = sz' - sz0 := by omega
          refine gm_heap_sim hexec hb hts hns hown hK hAC hnm hin (fun _ q => q) hlk hcs hi hd hh hS (by omega) (by omega) (fun H1 locs1 h1 => ?_)
          rw [e1]
          exact ih pc' _ st' M' sz' (sl + d) arr H1 locs1 h hl h1 (by omega)
        · split at h
          · rename_i mi av r hsite
            split at h
            · rename_i v M' sz' d hc
              have hm := gm_exec_mono hcm _ _ _ _ _ _ _ _ _ _ _ h
              have hm2 := hcm _ _ _ _ _ _ _ _ hc
              have e1 : sz - sz0 + (sz' - sz) = sz' - sz0 := by omega
              refine hcall pc i arr st M sz H locs _ _ mi av r v M' sz' d hi hd hl.1 hsite hc hS (by omega) (by omega) (fun H1 locs1 h1 => ?_)
              rw [e1]
              exact ih _ _ _ _ _ _ _ _ _ h hl h1 (by omega)
            · rename_i a M' sz' d hc
              have hm2 := hcm _ _ _ _ _ _ _ _ hc
              have e1 : sz - sz0 + (sz' - sz) = sz' - sz0 := by omega
              have hle : sz' ≤ szf ∧ sl + d ≤ slf := by
                split at h
                · exact gm_exec_mono hcm _ _ _ _ _ _ _ _ _ _ _ h
                · simp only [Option.some.injEq, Prod.mk.injEq] at h
                  omega
              refine hthr pc i arr st M sz H locs _ _ mi av r a M' sz' d hi hd hl.1 hsite hc hS (by omega) (by omega) (fun h' hx H1 locs1 h1 => ?_) (fun hx => ?_)
              · rw [hx] at h
                rw [e1]
                exact ih _ _ _ _ _ _ _ _ _ h hl h1 (by omega)
              · rw [hx] at h
                simp only [Option.some.injEq, Prod.mk.injEq] at h
                exact ⟨h.1.symm, h.2.1.symm, h.2.2.1.symm, h.2.2.2.symm⟩
            · cases h
          · exact hend pc i arr st M sz sl H locs hi hd hl.1 h hS
end GMY
