/-! a call of a method that throws; pure steps; a method that catches -/
def gm_pn (I : Nat → Option Instr) : Nat → Nat → gm_Ls → List Value → Option (Nat × gm_Ls × List Value)
  | 0, pc, ls, st => some (pc, ls, st)
  | k + 1, pc, ls, st => match I pc with
    | none => none
    | some i => match gm_pure i pc ls st with
      | none => none
      | some (pc', ls', st') => gm_pn I k pc' ls' st'
section GMWR
variable {l : Launch} {D : va_G} {cl : List vw_C} {AC : FieldType → ClassId} {N0 : Nat} {Tg Ns : List Cond} {As : List String} {Zs : List (String × String × String × Value)} {Ss : List (String × Nat × String × Nat)} {nm : Nat → Option String} {mt : Nat → Option gm_Mi} {K : Nat → Nat} {bIx : ByteArray} {nIx : Nat}
variable {p : Program} {e : Env} {R : Room} {s : State} {m : MethodId} {args : Array Value} {below : List Frame} {meth : Method} {c : Code} {H : Heap} {locs : List Loc} {cells slots : Nat} {Q : State → Prop}
variable {cc : ByteArray} {nL : Nat} {Ts : List Cond} {own : String}
theorem gm_pn_sim {I : Nat → Option Instr} (hexec : p.tables.exec = Jvm.exec) (hb : c.code = cc) (hI : ∀ pc i, I pc = some i → gm_dec cc pc i) : ∀ (k pc : Nat) (ls : gm_Ls) (st : List Value) (pc' : Nat) (ls' : gm_Ls) (st' : List Value) (arr : Array Slot), gm_pn I k pc ls st = some (pc', ls', st') → gm_lok ls arr nL →
    (∀ arr', gm_lok ls' arr' nL → W p l e R s m args below meth c H locs cells slots Q (F0 m pc' arr' st')) → W p l e R s m args below meth c H locs cells slots Q (F0 m pc arr st) := by
  intro k
  induction k with
  | zero =>
    intro pc ls st pc' ls' st' arr h hl kk
    simp only [gm_pn, Option.some.injEq, Prod.mk.injEq] at h
    obtain ⟨rfl, rfl, rfl⟩ := h
    exact kk arr hl
  | succ k ih =>
    intro pc ls st pc' ls' st' arr h hl kk
    simp only [gm_pn] at h
    split at h
    · cases h
    · rename_i i hi
      split at h
      · cases h
      · rename_i pc1 ls1 st1 hp
        exact gm_pure_sim hexec hb (hI pc i hi) hp hl (fun arr' hl' => ih pc1 ls1 st1 pc' ls' st' arr' h hl' kk)
/-- a virtual call of a method that throws -/
theorem gm_call_thr (hgw : ∀ w ∈ Tg, goodWord w = true) (hNs : ∀ w ∈ Ns, gm_nest w = true) (hexec : p.tables.exec = Jvm.exec) (hb : c.code = cc) (hml : c.maxLocals = nL) (hts : ∀ w ∈ Ts, w.before args s = true) (hTs : ∀ w ∈ Tg, w ∈ Ts) (hown : s.vm.findClass own = some m.cls) (hK : gm_K D cl AC N0 Ns As Zs Ss s) {Xs : List Cond} {Cs : List (String × String)} (hTz : gm_Tz N0 Xs Cs s) (hN0 : N0 ≤ s.heap.size)
    {y : MethodName} {bytes : ByteArray} {maxL : Nat} {ret : Option FieldType} {d dd ix na ci e9 : Nat} (hR1 : d + 1 + 4 ≤ R.frames) (hR2 : 100 * (d + 1) + 300 ≤ R.locals) (hmax : maxL ≤ 80) (hcode : Cond.code y bytes maxL ret ∈ Tg)
    {M M' : gm_H} {sz sz' : Nat} {av0 : List Value} {a : Nat} {fs : List Value}
    (hM : vx_Met l y (Cond.code y bytes maxL ret :: Tg) (gm_room d (sz' - sz) dd) (va_Pc (.ref a :: av0) (gm_PreT D cl AC N0 Ns As Zs Ss Xs Cs M sz)) (fun _ _ _ _ => False) (gm_XC D cl AC N0 e9 M' sz') (sz' - sz) dd (fun q => N0 ≤ q))
    (hini : Cond.initialized y.cls ∈ Tg) (hy1 : y.cls ≠ "java/lang/invoke/MethodHandle") (hy2 : y.cls ≠ "java/lang/invoke/VarHandle") (hpar : (parseMethodDescriptor y.desc).map (fun d => d.parameters.length) = some na) (hlk : Cond.methodLink own ix y ∈ Tg) (hin : Cond.instanceMethod y ∈ Tg) {C : String} {T : u_T} {N : Nat} (hcl : cl[ci]? = some (C, T, N)) (hsel : Cond.selects C y y ∈ Tg)
    {pc : Nat} {arr : Array Slot} {st r : List Value} (hMa : M a = some (.inr (ci, fs))) (hst : st = av0.reverse ++ .ref a :: r) (hna : av0.length = na) (hsum : (r.map fun v => v.category).sum ≤ 8) (hd : decode cc pc = .ok (.invokevirtual ix, 3)) (harr : arr.size = nL) (hS : gm_S D cl AC N0 s M sz H locs) (hf : cells + (sz' - sz) ≤ R.cells ∧ slots + dd ≤ R.slots)
    (kk : ∀ q E ce H1 locs1, gm_xs[e9]? = some E → H1[q]? = some ce → ce.vm = .none → s.vm.findClass E = some ce.cls → gm_S D cl AC N0 s M' sz' H1 locs1 → vx_W p l e R s m args below meth c H1 locs1 (cells + (sz' - sz)) (slots + dd) Q (F0 m pc arr r) q) :
    W p l e R s m args below meth c H locs cells slots Q (F0 m pc arr st) := by
  have hG : GoodIn Ts (Cond.code y bytes maxL ret :: Tg) := fun w hw => by
    rcases List.mem_cons.mp hw with rfl | hw
    · exact ⟨hTs _ hcode, good_of_word (hgw _ hcode)⟩
    · exact ⟨hTs _ hw, good_of_word (hgw _ hw)⟩
  have hRm : (gm_room d (sz' - sz) dd).frames + 1 ≤ R.frames ∧ 8 + (maxL + 11) + (gm_room d (sz' - sz) dd).locals ≤ R.locals := ⟨Nat.le_trans (gm_rm8 (d := d)) hR1, Nat.le_trans (gm_rm9 (d := d) hmax) hR2⟩
  have hFx : CallFix p m c cc nL s args Ts own := ⟨hexec, hb, hml, hown, hts⟩
  have hrv := va_recv (q0 := 0) hK.1 (gm_one (hS.1 a _ hMa)) hcl rfl
  have hrun := vx_runV (p := p) (e := e) (below := below) (meth := meth) (locs := locs) (cells := cells) (slots := slots) (g := F0 m pc arr st) (rest := r) hFx hM ⟨callB_of na hts hG rfl rfl rfl (hts _ (hTs _ hini)) (hts _ (hTs _ hlk)) ⟨hy1, hy2, hpar⟩ hRm, hts _ (hTs _ hin), hts _ (hTs _ hsel)⟩ ⟨gm_blindT hNs, hrv, fun U hU hW => ⟨rfl, gm_preT hNs hK hTz hN0 hS hU hW⟩⟩ rfl hna harr hst (by show 2 * 0 + _ ≤ 8; omega) hd hf
  intro T' hT X
  rcases hrun T' hT X with ⟨v, st₀, t, T2, L, h0, X', hL, e1, e2, hF, -⟩ | ⟨q, st₀, t, T2, L, E, ce, h0, X', hL, e1, e2, hXC, hce, hcv, hcc, hst9⟩
  · exact hF.elim
  · obtain ⟨hxe, hok, hsz, hle, hkeep⟩ := hXC
    rw [h0] at hle hkeep
    have hal : s.vm.Alike t.vm := by rw [← e2]; exact X'.warmed.alike
    obtain ⟨t2, a1, b1⟩ := kk q E ce T2.heap (locs ++ L) hxe (by rw [e1]; exact hce) hcv hcc ⟨by rw [e1]; exact hok.moved hal.symm, by rw [e1]; exact hsz, by rw [e1, hsz]; exact Nat.le_trans hS.2.2.1 hle, fun z h1 h2 => by rw [e1, hkeep z (Nat.not_le.mp h2)]; exact hS.2.2.2.1 z h1 h2, fun z hz => by
      rcases List.mem_append.mp hz with h | h
      · exact hS.2.2.2.2 z h
      · exact hL z h⟩ T2 rfl X'
    exact ⟨t2, hst9.trans a1, b1⟩
end GMWR
