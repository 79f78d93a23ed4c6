/-! a method that catches: what it answers if its call returns, and if its call throws -/
section GMWP
variable {l : Launch} {D : va_G} {cl : List vw_C} {AC : FieldType → ClassId} {N0 : Nat} {Tg Ns : List Cond} {As : List String} {Zs : List (String × String × String × Value)} {Ss : List (String × Nat × String × Nat)} {nm : Nat → Option String} {mt : Nat → Option gm_Mi} {K : Nat → Nat} {bIx : ByteArray} {nIx : Nat} {Xs : List Cond} {Cs : List (String × String)}
set_option maxHeartbeats 4000000 in
/-- the rest of a method, without calls -/
theorem gm_tail {p : Program} {e : Env} {R : Room} {s : State} {m : MethodId} {args : Array Value} {below : List Frame} {meth : Method} {c : Code} {cc : ByteArray} {nL : Nat} {Ts : List Cond} {own : String} {ini : Bool} {XC : String → State → State → Prop} {I : Nat → Option Instr} {lk : Nat → Option gm_L}
    (hexec : p.tables.exec = Jvm.exec) (hb : c.code = cc) (hts : ∀ w ∈ Ts, w.before args s = true) (hTs : ∀ w ∈ Tg, w ∈ Ts) (hown : s.vm.findClass own = some m.cls) (hK : gm_K D cl AC N0 Ns As Zs Ss s) (hN0 : N0 ≤ s.heap.size) (hnm : ∀ ci C, nm ci = some C → ∃ T N, cl[ci]? = some (C, T, N)) (hin : ini = true → meth.name = "<init>") (hI : ∀ pc i, I pc = some i → gm_dec cc pc i) (hlk : gm_lkok cl Ts Ns own ini s lk) (hconsts : gm_consts Tg Ns Zs Ss own lk) (hr : meth.sig.returnType = some .int) (hlocks : meth.locks = false)
    {n pc : Nat} {ls : gm_Ls} {st : List Value} {M : gm_H} {sz sl : Nat} {arr : Array Slot} {H : Heap} {locs : List Loc} {v : Option Value} {M' : gm_H} {sz' sl' : Nat}
    (h : gm_exec N0 nm (some .int) I lk (fun _ _ _ => none) (fun _ _ _ _ => none) n pc ls st M sz sl = some (.returned v, M', sz', sl')) (hl : gm_lok ls arr nL) (hS : gm_S D cl AC N0 s M sz H locs) (hz : s.heap.size ≤ sz) (hc : sz' - s.heap.size ≤ R.cells) (hs : sl' ≤ R.slots) :
    W p l e R s m args below meth c H locs (sz - s.heap.size) sl (vx_MQ below (gm_Qc D cl AC N0 v M' sz') XC args s (sz' - s.heap.size) sl' (fun q => N0 ≤ q)) (F0 m pc arr st) := by
  refine gm_exec_sim (l := l) (R := R) (D := D) (cl := cl) (AC := AC) (N0 := N0) (nL := nL) (sz0 := s.heap.size) (Ts := Ts) (Ns := Ns) (own := own) (nm := nm) (init := ini) (I := I) (lk := lk) (ex := fun _ _ _ => none) (call := fun _ _ _ _ => none) (ret := some .int) (o := .returned v) (Mf := M') (szf := sz') (slf := sl')
    hexec hb hts hK.2.2.1 hown hK.1 hK.2.1 hnm hin hI hlk
    (fun pc i arr st H locs cells slots w ix pc' hi hdg hvs hor kk => gm_consts_sim hexec hb hts hTs hown hK hconsts pc i arr st H locs cells slots w ix pc' hdg hvs hor kk)
    (fun mi av M sz o M' sz' d h => by cases h)
    (fun pc i arr st M1 sz1 H locs cells slots mi1 av1 r1 v1 M2 sz2 d1 hi hdg harr hsite hcl hS hc1 hs1 kk => by cases hcl)
    (fun pc i arr st M1 sz1 H locs cells slots mi1 av1 r1 a M2 sz2 d1 hi hdg harr hsite hcl hS hc1 hs1 k1 k2 => by cases hcl)
    (fun pc i arr st M1 sz1 sl1 H locs hi hdg harr he hS => ?_) hc hs n pc ls st M sz sl arr H locs h hl hS hz
  obtain ⟨len, hd, hle⟩ := hdg
  unfold gm_end at he
  split at he
  · cases he
  split at he
  · rename_i h1 h2 h3; first | (cases h1; done) | (cases h2; done) | (cases h3; done)
  · have hln : len = 1 := by simpa [gm_len] using hle
    subst hln
    simp only [Option.some.injEq, Prod.mk.injEq, Outcome.returned.injEq] at he
    obtain ⟨rfl, rfl, rfl, rfl⟩ := he
    exact vx_ret (W.iret hexec hb hr (fun t ht hW => gm_fin hS ht hW hN0) hS.2.2.2.2 hd)
  · rename_i h1 h2 h3; first | (cases h1; done) | (cases h2; done) | (cases h3; done)
  · rename_i h1 h2 h3; first | (cases h1; done) | (cases h2; done) | (cases h3; done)
  · rename_i h1 h2 h3; first | (cases h1; done) | (cases h2; done) | (cases h3; done)
  · rename_i h1 h2 h3; first | (cases h1; done) | (cases h2; done) | (cases h3; done)
  · cases he
set_option maxHeartbeats 4000000 in
/-- its call returns -/
theorem gm_wrap_ret (E : gm_env l D cl AC N0 Tg Ns As Zs Ss nm mt K bIx nIx) {y : MethodName} {cc : ByteArray} {nL : Nat} {hh : List (Nat × Nat × Nat × Nat)} {own : String} {lk : Nat → Option gm_L} {I : Nat → Option Instr} (hpl : plainName y.cls = true) (hcls : y.cls = own) (hI : ∀ pc i, I pc = some i → gm_dec cc pc i) (hpool : gm_pool cl Tg Ns As own false lk) (hconsts : gm_consts Tg Ns Zs Ss own lk) (hcalls : gm_calls cl Tg Ns mt own lk)
    {av : List Value} (hlen : (gm_sl av).length ≤ nL) {k0 pc0 n1 : Nat} {ls0 : gm_Ls} {st0 r0 : List Value} {i0 : Instr} (hpn : gm_pn I k0 0 (gm_entry nL av) [] = some (pc0, ls0, st0)) (hi0 : I pc0 = some i0)
    {M : gm_H} {sz : Nat} {d n mi1 : Nat} {av1 : List Value} {v1 : Option Value} {M1 : gm_H} {sz1 d1 : Nat} (hsite : gm_site lk i0 st0 M = some (mi1, av1, r0)) (hcl : gm_run N0 K nm mt (d + 1) n mi1 av1 M sz = some (.returned v1, M1, sz1, d1))
    {v : Option Value} {M' : gm_H} {sz' dd : Nat} (ht : gm_exec N0 nm (some .int) I lk (fun _ _ _ => none) (fun _ _ _ _ => none) n1 (pc0 + 3) ls0 (v1.toList ++ r0) M1 sz1 d1 = some (.returned v, M', sz', dd)) :
    vx_Met l y (Cond.codeWith y cc nL (some .int) hh :: Tg) (gm_room (d + 1) (sz' - sz) dd) (va_Pc av (gm_PreT D cl AC N0 Ns As Zs Ss Xs Cs M sz)) (gm_Qc D cl AC N0 v M' sz') (fun _ _ _ => False) (sz' - sz) dd (fun q => N0 ≤ q) := by
  obtain ⟨hgw, hNs, hnm, hgood, hinit, hmt4, hIc, hIn, hIs, hix⟩ := id E
  refine vx_ofWH (cc := cc) (maxL := nL) (ret := some .int) (hh := hh) hpl rfl ?_
  intro p e s m args below meth c s₁ B hml hv
  obtain ⟨rfl, ⟨hok, hsz, hN0, hK⟩, hTz⟩ := hv
  have hx := B.exec
  have hb := B.bytes
  have hr := B.returns
  have hlocks := B.notSynchronized
  have hts := atoms_spec (ws := Cond.codeWith y cc nL (some .int) hh :: Tg) B.pre
  have hown : s.vm.findClass own = some m.cls := by rw [← hcls]; exact findClass_of_methodNamed B.named
  have hTs : ∀ w ∈ Tg, w ∈ Cond.codeWith y cc nL (some .int) hh :: Tg := fun w hw => List.mem_cons_of_mem _ hw
  subst hsz
  rw [lg_entry_eq]
  have hS0 : gm_S D cl AC N0 s M s.heap.size s.heap [] := ⟨hok, rfl, va_S.rf⟩
  have hm1 := gm_run_mono _ _ _ _ _ _ _ _ _ hcl
  have hm2 := gm_exec_mono (call := fun _ _ _ _ => none) (fun _ _ _ _ _ _ _ _ h => by cases h) _ _ _ _ _ _ _ _ _ _ _ ht
  refine gm_pn_sim hx hb hI k0 0 (gm_entry nL av) [] pc0 ls0 st0 _ hpn (gm_entry_ok av hlen) (fun arr' hl' => ?_)
  refine gm_call_any (d := d) hgw hNs hgood hinit hmt4 hIc hIn hIs hix (fun mi av M sz v M' sz' dd own y cc nL ret I lk ini h h10 hm => E.met (d := d + 1) h h10 hm) hx hb hml hts hTs hown hK hN0 hcalls (Nat.le_refl (d + 1 + 4)) (Nat.le_refl (100 * (d + 1) + 300)) (hI _ _ hi0) hl'.1 hsite hcl hS0 (by show _ ≤ sz' - s.heap.size; omega) (by show _ ≤ dd; omega) (fun H1 locs1 hS1 => ?_)
  rw [Nat.zero_add, Nat.zero_add]
  exact gm_tail (Tg := Tg) (nm := nm) (own := own) (ini := false) hx hb hts hTs hown hK hN0 hnm (fun q => by cases q) hI (hpool.to hgood.1 hTs hK.2.2.2.1) hconsts hr hlocks ht hl' hS1 hm1 (Nat.le_refl _) (Nat.le_refl _)
set_option maxHeartbeats 4000000 in
/-- its call throws -/
theorem gm_wrap_thr (E : gm_env l D cl AC N0 Tg Ns As Zs Ss nm mt K bIx nIx) {y : MethodName} {cc : ByteArray} {nL : Nat} {hh : List (Nat × Nat × Nat × Nat)} {own : String} {lk : Nat → Option gm_L} {I : Nat → Option Instr} (hpl : plainName y.cls = true) (hcls : y.cls = own) (hI : ∀ pc i, I pc = some i → gm_dec cc pc i) (hpool : gm_pool cl Tg Ns As own false lk) (hconsts : gm_consts Tg Ns Zs Ss own lk)
    {av : List Value} (hlen : (gm_sl av).length ≤ nL) {k0 pc0 n1 : Nat} {ls0 : gm_Ls} {st0 r0 : List Value} (hpn : gm_pn I k0 0 (gm_entry nL av) [] = some (pc0, ls0, st0))
    {y1 : MethodName} {cc1 : ByteArray} {nL1 : Nat} {ret1 : Option FieldType} {d dd1 ix na ci e9 : Nat} (hmax : nL1 ≤ 80) (hcode : Cond.code y1 cc1 nL1 ret1 ∈ Tg) {M M' : gm_H} {sz sz' : Nat} {av0 : List Value} {a : Nat} {fs : List Value}
    (hM : vx_Met l y1 (Cond.code y1 cc1 nL1 ret1 :: Tg) (gm_room d (sz' - sz) dd1) (va_Pc (.ref a :: av0) (gm_PreT D cl AC N0 Ns As Zs Ss Xs Cs M sz)) (fun _ _ _ _ => False) (gm_XC D cl AC N0 e9 M' sz') (sz' - sz) dd1 (fun q => N0 ≤ q)) (hge : sz ≤ sz')
    (hini : Cond.initialized y1.cls ∈ Tg) (hy1 : y1.cls ≠ "java/lang/invoke/MethodHandle") (hy2 : y1.cls ≠ "java/lang/invoke/VarHandle") (hpar : (parseMethodDescriptor y1.desc).map (fun d => d.parameters.length) = some na) (hlk : Cond.methodLink own ix y1 ∈ Tg) (hin : Cond.instanceMethod y1 ∈ Tg) {C : String} {T : u_T} {N : Nat} (hcl : cl[ci]? = some (C, T, N)) (hsel : Cond.selects C y1 y1 ∈ Tg)
    (hi0 : I pc0 = some (.invokevirtual ix)) (hMa : M a = some (.inr (ci, fs))) (hst : st0 = av0.reverse ++ .ref a :: r0) (hna : av0.length = na) (hsum : (r0.map fun v => v.category).sum ≤ 8)
    {En : String} (hEn : gm_xs[e9]? = some En) (pre : List ExceptionTableEntry) (x : ExceptionTableEntry) (suf : List ExceptionTableEntry) (hsplit : tableOf hh = pre ++ x :: suf)
    (hpass : ∀ z ∈ pre, z.catchType ≠ 0 ∧ ∃ nm : String, Cond.classLink own z.catchType nm ∈ Tg ∧ (En, nm) ∈ Cs) (hcov : covers x pc0 = true) (h0 : x.catchType ≠ 0) (hlx : Cond.classLink own x.catchType En ∈ Tg) (hcx : Cond.castable En En ∈ Xs)
    {v : Option Value} {M2 : gm_H} {sz2 dd : Nat} (ht : ∀ q, gm_exec N0 nm (some .int) I lk (fun _ _ _ => none) (fun _ _ _ _ => none) n1 x.handlerPc ls0 [.ref q] M' sz' dd1 = some (.returned v, M2, sz2, dd)) :
    vx_Met l y (Cond.codeWith y cc nL (some .int) hh :: Tg) (gm_room (d + 1) (sz2 - sz) dd) (va_Pc av (gm_PreT D cl AC N0 Ns As Zs Ss Xs Cs M sz)) (gm_Qc D cl AC N0 v M2 sz2) (fun _ _ _ => False) (sz2 - sz) dd (fun q => N0 ≤ q) := by
  obtain ⟨hgw, hNs, hnm, hgood, hinit, hmt4, hIc, hIn, hIs, hix⟩ := id E
  refine vx_ofWH (cc := cc) (maxL := nL) (ret := some .int) (hh := hh) hpl rfl ?_
  intro p e s m args below meth c s₁ B hml hv
  obtain ⟨rfl, ⟨hok, hsz, hN0, hK⟩, hTz⟩ := hv
  have hx := B.exec
  have hb := B.bytes
  have hr := B.returns
  have hlocks := B.notSynchronized
  have hts := atoms_spec (ws := Cond.codeWith y cc nL (some .int) hh :: Tg) B.pre
  have htab : c.exceptionTable.toList = tableOf hh := vx_table (x := y) B (hts _ List.mem_cons_self)
  have hown : s.vm.findClass own = some m.cls := by rw [← hcls]; exact findClass_of_methodNamed B.named
  have hTs : ∀ w ∈ Tg, w ∈ Cond.codeWith y cc nL (some .int) hh :: Tg := fun w hw => List.mem_cons_of_mem _ hw
  subst hsz
  rw [lg_entry_eq]
  have hS0 : gm_S D cl AC N0 s M s.heap.size s.heap [] := ⟨hok, rfl, va_S.rf⟩
  have hm2 := gm_exec_mono (call := fun _ _ _ _ => none) (fun _ _ _ _ _ _ _ _ h => by cases h) _ _ _ _ _ _ _ _ _ _ _ (ht 0)
  obtain ⟨len, hd, hle⟩ := hI _ _ hi0
  have hln : len = 3 := by simpa [gm_len] using hle
  subst hln
  refine gm_pn_sim hx hb hI k0 0 (gm_entry nL av) [] pc0 ls0 st0 _ hpn (gm_entry_ok av hlen) (fun arr' hl' => ?_)
  refine gm_call_thr (Xs := Xs) (Cs := Cs) hgw hNs hx hb hml hts hTs hown hK hTz hN0 (Nat.le_refl (d + 1 + 4)) (Nat.le_refl (100 * (d + 1) + 300)) hmax hcode hM hini hy1 hy2 hpar hlk hin hcl hsel hMa hst hna hsum hd hl'.1 hS0 ⟨by show _ ≤ sz2 - s.heap.size; omega, by show _ ≤ dd; omega⟩ (fun q E9 ce H1 locs1 hE9 hce hcv hcc hS1 => ?_)
  cases hEn.symm.trans hE9
  refine vx_catch (name := En) hown pre x suf (htab.trans hsplit) (fun z hz => ?_) hcov h0 (hts _ (hTs _ hlx)) (va_Nw.use (gm_dc_tab (hTz.2.1 _ hcx).1) (hTz.2.1 _ hcx).2) hce hcv hcc ?_
  · obtain ⟨z0, nm9, z1, z2⟩ := hpass z hz
    exact Or.inr ⟨z0, nm9, hts _ (hTs _ z1), hTz.2.2 _ z2⟩
  · rw [Nat.zero_add, Nat.zero_add]
    exact gm_tail (Tg := Tg) (nm := nm) (own := own) (ini := false) hx hb hts hTs hown hK hN0 hnm (fun q => by cases q) hI (hpool.to hgood.1 hTs hK.2.2.2.1) hconsts hr hlocks (ht q) hl' hS1 hge (Nat.le_refl _) (Nat.le_refl _)
end GMWP
