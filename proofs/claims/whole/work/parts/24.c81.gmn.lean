/-! throwing methods, and methods that catch -/
theorem gm_throw0 {p : Program} {l : Launch} {e : Env} {R : Room} {s : State} {m : MethodId} {args : Array Value} {below : List Frame} {meth : Method} {c : Code} {H : Heap} {locs : List Loc} {cells slots : Nat} {free : Addr → Prop} {ls : Array Slot} {rest : List Value} {Qc : Array Value → State → Outcome → State → Prop} {XC : String → State → State → Prop} {cc : ByteArray} {pc : Nat} (hexec : p.tables.exec = Jvm.exec) (hb : c.code = cc) (hl : l.stackTraces = false) {own cls : String} {names : List String} {ik ic mc ms : Nat} {A : Nat → Prop}
    (hown : s.vm.findClass own = some m.cls) (hcls : Bundle.fit cls = true) (hnames : ∀ n ∈ names, Bundle.fit n = true)
    (hk : (Cond.classLink own ik cls).before args s = true) (hini : (Cond.initialized cls).before args s = true) (hat : ∀ w ∈ vx_at0 own ic cls names, w.before args s = true)
    (hgood : ∀ w ∈ Cond.classLink own ik cls :: Cond.initialized cls :: vx_at0 own ic cls names, vx_ot w = true)
    (hU : vx_Zq Bundle.tN "UNASSIGNED_STACK" Bundle.steD A s s.heap) (hN : vx_Zq Bundle.tN "SUPPRESSED_SENTINEL" Bundle.listD A s s.heap) (hS : va_S A s.heap H locs) (hsize : ls.size = c.maxLocals)
    (d0 : decode cc pc = .ok (.new ik, 3)) (d3 : decode cc (pc + 3) = .ok (.dup, 1)) (d4 : decode cc (pc + 4) = .ok (.invokespecial ic, 3)) (d7 : decode cc (pc + 7) = .ok (.athrow, 1))
    (hout : ∀ x ∈ c.exceptionTable.toList, covers x (pc + 7) = false)
    (hRframes : names.length + 3 < R.frames) (hRlocals : (rest.map fun v => v.category).sum + (13 * (names.length + 1) + 42) ≤ R.locals) (hRcells : cells + 1 ≤ R.cells) (hRslots : slots + 6 ≤ R.slots) (hlocks : meth.locks = false)
    (hx : ∀ t : State, s.vm.Alike t.vm → t.heap.size = H.size + 1 → (∀ q : Nat, q < H.size → t.heap[q]? = H[q]?) → XC cls s t)
    (hf : ∀ z ∈ locs, free z.base) (hc : cells + 1 ≤ mc) (hs : slots + 6 ≤ ms) :
    W p l e R s m args below meth c H locs cells slots (vx_MQ below Qc XC args s mc ms free) (F0 m pc ls rest) := by
  intro T hT X
  have htr : e.platform.stackTraces = false := (show e.platform.stackTraces = l.stackTraces by rw [X.admits.platform]).trans hl
  have Y := vx_rebase X (R' := { frames := R.frames, locals := R.locals, cells := 1, slots := 6 }) (Nat.le_refl _) (Nat.le_refl _) hRcells hRslots
  obtain ⟨s', hA⟩ : ∃ z, z = (T.setVm s.vm).setFrames (.invoking m args :: below) := ⟨_, rfl⟩
  rw [← hA] at Y
  have hvm : s'.vm = s.vm := by rw [hA]; rfl
  have hhp : s'.heap = H := by rw [hA]; exact hT
  have hW0 : s.WarmedH s'.vm := by rw [hvm]; exact State.WarmedH.refl s
  have hat' : ∀ w ∈ vx_at0 own ic cls names, w.before args s' = true := fun w hw => vx_ot_at hW0 hvm.symm (hgood w (List.mem_cons_of_mem _ (List.mem_cons_of_mem _ hw))) (hat w hw)
  have hk' : (Cond.classLink own ik cls).before args s' = true := vx_ot_at hW0 hvm.symm (hgood _ List.mem_cons_self) hk
  have hini' : (Cond.initialized cls).before args s' = true := vx_ot_at hW0 hvm.symm (hgood _ (List.mem_cons_of_mem _ List.mem_cons_self)) hini
  have hU' : vx_Zq Bundle.tN "UNASSIGNED_STACK" Bundle.steD A s' s'.heap := by rw [hhp]; exact vx_Zq.moved hW0.alike (hU.kept hS.2.1)
  have hN' : vx_Zq Bundle.tN "SUPPRESSED_SENTINEL" Bundle.listD A s' s'.heap := by rw [hhp]; exact vx_Zq.moved hW0.alike (hN.kept hS.2.1)
  have h : ∀ w ∈ Bundle.ownAtoms0 own ic cls names, w.before args s' = true := vx_own hat' (vx_isRefq hU'.1) (vx_isRefq hN'.1) hU'.2.word hN'.2.word
  have hown' : s'.vm.findClass own = some m.cls := by rw [hvm]; exact hown
  have hins : (Cond.instantiable cls 6).before args s' = true := h _ (by simp [Bundle.ownAtoms0])
  obtain ⟨vm₁, cX, kX, hfX, hkX, -, -, X₁, st1⟩ := Y.newCold hexec (own := own) (C := cls) (index := ik) (n := 6) hown' hk' hins hini'
    (g := F0 m pc ls rest) rfl (by rw [hb]; exact d0) (Nat.le_refl _) (Nat.le_refl _)
  generalize hT1 : (T.setVm vm₁).pushCell { cls := cX, slots := kX.instanceTypes.map defaultValue, vm := .none } = T1 at X₁ st1
  have hcat : (Value.ref T.heap.size).category = 1 := rfl
  have hcellA : T1.heap[T.heap.size]? = some (freshCell cX kX) := by rw [← hT1]; exact State.heap_pushCell_size _ _
  have d3' : decode c.code (pc + 3) = .ok (.dup, 1) := by rw [hb]; exact d3
  obtain ⟨U, hsteps, hrun, hend, hW, hsame, ce, hce, hO⟩ := X₁.ctorThrow0 hexec htr (own := own) (cls := cls) (names := names) (ic := ic) hown' hcls hnames h (fun x hx => nomatch hx) hfX hkX hcellA (by rw [hhp, hT]; exact Nat.le_refl _)
    (g := { method := m, pc := pc + 4, locals := ls, stack := .ref T.heap.size :: .ref T.heap.size :: rest, locked := none }) rfl hsize rfl rfl (rest := rest) rfl
    (by rw [hb]; exact d4) (by rw [hb]; exact d7) hout hRframes (by simp only [List.map_cons, List.sum_cons, hcat]; omega) hlocks
  obtain ⟨f1, f2⟩ := vx_frame hsame
  rw [hhp] at f1 f2
  have hWs : s.WarmedH U.vm := State.WarmedH.trans hW0 hW
  have hcl : s.vm.findClass cls = some ce.cls := by
    have h9 := hO.cls
    rw [hvm] at h9
    exact h9
  have hall : s.sameButNew ({ U with vm := s.vm } : State) locs mc ms := by
    subst hA
    obtain ⟨e1, e2⟩ := hsame
    rw [State.setFrames_setFrames] at e1
    have h2 : (T.setVm s.vm).sameButNew ({ U with vm := s.vm } : State) [] (0 + 1) (0 + 6) := ⟨e1, e2⟩
    have h3 := X.same.trans h2
    rw [List.append_nil] at h3
    exact h3.mono hc hs
  have hsz9 : U.heap.size = H.size + 1 := by
    have q1 : T.heap.size < U.heap.size := (Array.getElem?_eq_some_iff.mp hce).1
    have q2 : U.heap.size ≤ s'.heap.size + (0 + 1) := hsame.2.2.1
    rw [hhp] at q2
    rw [hT] at q1
    omega
  refine ⟨U, ?_, .threw T.heap.size, hrun, hend, Or.inr ⟨T.heap.size, rfl, cls, ce, locs, hx U hWs.alike hsz9 (fun q hq => f2 q hq (fun z hz => nomatch hz)), hce, hO.vm, hcl, hWs, hall, hf⟩⟩
  refine st1 _ ?_
  show Steps p.tables e below (T1.setTop { method := m, pc := pc + 3, locals := ls, stack := .ref T.heap.size :: rest, locked := none }) _
  jvm_step X₁.here [X₁.here.top, hexec, d3', Value.category]
  exact hsteps
/-- what the machine theorems ask of tables and methods -/
def gm_env (l : Launch) (D : va_G) (cl : List vw_C) (AC : FieldType → ClassId) (N0 : Nat) (Tg Ns : List Cond) (As : List String) (Zs : List (String × String × String × Value)) (Ss : List (String × Nat × String × Nat)) (nm : Nat → Option String) (mt : Nat → Option gm_Mi) (K : Nat → Nat) (bIx : ByteArray) (nIx : Nat) : Prop :=
  (∀ w ∈ Tg, goodWord w = true) ∧ (∀ w ∈ Ns, gm_nest w = true) ∧ (∀ ci C, nm ci = some C → ∃ T N, cl[ci]? = some (C, T, N)) ∧ gm_good cl Tg Ns As Zs Ss mt ∧ (∀ mi own y cc nL ret I lk ini, mt mi = some (own, y, cc, nL, ret, I, lk, ini) → y.name = "<init>" → ret = none) ∧ (∀ mi, mi < 10 → mt mi = none) ∧
  Cond.code gm_yix bIx nIx (some .int) ∈ Tg ∧ nIx ≤ 80 ∧ (∀ a, a = K 1 ∨ a = K 2 → ∃ q ∈ Ss, q.2.2.2 = a) ∧
  (∀ (d a : Nat) (z : Int32) (M : gm_H) (sz : Nat), a = K 1 ∨ a = K 2 → Met l gm_yix (Cond.code gm_yix bIx nIx (some .int) :: Tg) (gm_room d 0 0) (va_Pc [.ref a, .int z] (gm_Pre D cl AC N0 Ns As Zs Ss M sz)) (gm_Qc D cl AC N0 (some (.int (gm_ix z))) M sz) 0 0 (fun q => N0 ≤ q))
section GMTH
variable {l : Launch} {D : va_G} {cl : List vw_C} {AC : FieldType → ClassId} {N0 : Nat} {Tg Ns : List Cond} {As : List String} {Zs : List (String × String × String × Value)} {Ss : List (String × Nat × String × Nat)} {nm : Nat → Option String} {mt : Nat → Option gm_Mi} {K : Nat → Nat} {bIx : ByteArray} {nIx : Nat}
theorem gm_env.met (E : gm_env l D cl AC N0 Tg Ns As Zs Ss nm mt K bIx nIx) {d n mi : Nat} {av : List Value} {M : gm_H} {sz : Nat} {v : Option Value} {M' : gm_H} {sz' dd : Nat} {own : String} {y : MethodName} {cc : ByteArray} {nL : Nat} {ret : Option FieldType} {I : Nat → Option Instr} {lk : Nat → Option gm_L} {ini : Bool}
    (h : gm_run N0 K nm mt d n mi av M sz = some (.returned v, M', sz', dd)) (hmi : 10 ≤ mi) (hmt : mt mi = some (own, y, cc, nL, ret, I, lk, ini)) :
    Met l y (Cond.code y cc nL ret :: Tg) (gm_room (d - 1) (sz' - sz) dd) (va_Pc av (gm_Pre D cl AC N0 Ns As Zs Ss M sz)) (gm_Qc D cl AC N0 v M' sz') (sz' - sz) dd (fun q => N0 ≤ q) :=
  gm_sound E.1 E.2.1 E.2.2.1 E.2.2.2.1 E.2.2.2.2.1 E.2.2.2.2.2.1 E.2.2.2.2.2.2.1 E.2.2.2.2.2.2.2.1 E.2.2.2.2.2.2.2.2.1 E.2.2.2.2.2.2.2.2.2 d n mi av M sz v M' sz' dd own y cc nL ret I lk ini h hmi hmt
/-- the constants, as gm_exec_sim asks them -/
theorem gm_consts_sim {p : Program} {e : Env} {R : Room} {s : State} {m : MethodId} {args : Array Value} {below : List Frame} {meth : Method} {c : Code} {cc : ByteArray} {Ts : List Cond} {own : String} {Q : State → Prop} {lk : Nat → Option gm_L} (hx : p.tables.exec = Jvm.exec) (hb : c.code = cc) (hts : ∀ w ∈ Ts, w.before args s = true) (hTs : ∀ w ∈ Tg, w ∈ Ts) (hown : s.vm.findClass own = some m.cls) (hK : gm_K D cl AC N0 Ns As Zs Ss s) (hconsts : gm_consts Tg Ns Zs Ss own lk)
    (pc : Nat) (i : Instr) (arr : Array Slot) (st : List Value) (H : Heap) (locs : List Loc) (cells slots : Nat) (w : Value) (ix pc' : Nat) (hdg : gm_dec cc pc i) (hvs : va_S (fun q => N0 ≤ q) s.heap H locs)
    (hor : (i = .ldc ix ∧ pc' = pc + 2 ∧ lk ix = some (.inr (.inr (.inr (.inr (0, w)))))) ∨ (i = .ldc2_w ix ∧ pc' = pc + 3 ∧ lk ix = some (.inr (.inr (.inr (.inr (1, w)))))) ∨ (i = .getstatic ix ∧ pc' = pc + 3 ∧ lk ix = some (.inr (.inr (.inr (.inr (2, w)))))) ∨ (i = .ldc_w ix ∧ pc' = pc + 3 ∧ lk ix = some (.inr (.inr (.inr (.inr (3, w)))))))
    (kk : W p l e R s m args below meth c H locs cells slots Q (F0 m pc' arr (w :: st))) : W p l e R s m args below meth c H locs cells slots Q (F0 m pc arr st) := by
  obtain ⟨len, hd, hle⟩ := hdg
  obtain ⟨c1, c4, c2, c3⟩ := hconsts
  rcases hor with ⟨rfl, rfl, hl⟩ | ⟨rfl, rfl, hl⟩ | ⟨rfl, rfl, hl⟩ | ⟨rfl, rfl, hl⟩
  · have hln : len = 2 := by simpa [gm_len] using hle
    subst hln
    rcases c1 ix w hl with ⟨z, rfl, hw⟩ | ⟨tx, a, rfl, hw⟩
    · exact lv_ldc hx hb hown (hts _ (hTs _ hw)) hd kk
    · exact va_ldcS hx hb hown (hK.2.2.2.2.2 _ hw).1 hd kk
  · have hln : len = 3 := by simpa [gm_len] using hle
    subst hln
    obtain ⟨z, rfl, hw⟩ := c2 ix w hl
    exact lv_ldc2 hx hb hown (hts _ (hTs _ hw)) hd kk
  · have hln : len = 3 := by simpa [gm_len] using hle
    subst hln
    obtain ⟨C, n, dsc, hz, hw | ⟨host, hw⟩⟩ := c3 ix w hl
    · exact va_gets hx hb (hK.2.2.2.2.1 _ hz) hvs hown (hts _ (hTs _ hw)) (fun _ q => q) hd kk
    · exact va_getsN hx hb (hK.2.2.2.2.1 _ hz) hvs hown (va_Nw.use rfl (hK.2.2.1 _ hw)) (fun _ q => q) hd kk
  · have hln : len = 3 := by simpa [gm_len] using hle
    subst hln
    obtain ⟨z, rfl, hw⟩ := c4 ix w hl
    exact lv_ldcw hx hb hown (hts _ (hTs _ hw)) hd kk
/-- what a throw and a catch ask besides: two statics of Throwable, what is declared and castable, what is not castable -/
def gm_dc : Cond → Bool
  | .declares _ => true
  | .castable _ _ => true
  | _ => false
def gm_Tz (N0 : Nat) (Xs : List Cond) (Cs : List (String × String)) (U : State) : Prop := (vx_Zq Bundle.tN "UNASSIGNED_STACK" Bundle.steD (fun q => N0 ≤ q) U U.heap ∧ vx_Zq Bundle.tN "SUPPRESSED_SENTINEL" Bundle.listD (fun q => N0 ≤ q) U U.heap) ∧ (∀ w ∈ Xs, gm_dc w = true ∧ va_Nw w U) ∧ ∀ q ∈ Cs, va_Nc q.1 q.2 U
theorem gm_dc_warm {w : Cond} (hw : gm_dc w = true) {s U : State} (hW : s.WarmedH U.vm) (h : va_Nw w s) : va_Nw w U := by
  cases w <;> simp only [gm_dc, Bool.false_eq_true] at hw
  all_goals first
    | exact va_Nw.warmD hW h
    | exact va_Nw.warmC hW h
theorem gm_dc_tab {w : Cond} (hw : gm_dc w = true) : w.onTables = true := by
  cases w <;> simp only [gm_dc, Bool.false_eq_true] at hw
  all_goals rfl
theorem gm_Tz.moved {Xs : List Cond} {Cs : List (String × String)} {s U : State} (hW : s.WarmedH U.vm) (hH : ∀ q : Nat, q < s.heap.size → ¬ N0 ≤ q → U.heap[q]? = s.heap[q]?) (h : gm_Tz N0 Xs Cs s) : gm_Tz N0 Xs Cs U :=
  ⟨⟨(vx_Zq.moved hW.alike h.1.1).kept hH, (vx_Zq.moved hW.alike h.1.2).kept hH⟩, fun w hw => ⟨(h.2.1 w hw).1, gm_dc_warm (h.2.1 w hw).1 hW (h.2.1 w hw).2⟩, fun q hq => (h.2.2 q hq).moved hW.alike⟩
def gm_PreT (D : va_G) (cl : List vw_C) (AC : FieldType → ClassId) (N0 : Nat) (Ns : List Cond) (As : List String) (Zs : List (String × String × String × Value)) (Ss : List (String × Nat × String × Nat)) (Xs : List Cond) (Cs : List (String × String)) (M : gm_H) (sz : Nat) (U : State) : Prop := gm_Pre D cl AC N0 Ns As Zs Ss M sz U ∧ gm_Tz N0 Xs Cs U
theorem gm_blindT (hN : ∀ w ∈ Ns, gm_nest w = true) {Xs : List Cond} {Cs : List (String × String)} {av : List Value} {M : gm_H} {sz : Nat} : FrameBlind (va_Pc av (gm_PreT D cl AC N0 Ns As Zs Ss Xs Cs M sz)) := by
  intro a U g mk ⟨h1, h2, h3⟩
  obtain ⟨k1, k2⟩ := gm_blind (D := D) (cl := cl) (AC := AC) (N0 := N0) (As := As) (Zs := Zs) (Ss := Ss) hN a U g mk ⟨h1, h2⟩
  exact ⟨k1, k2, gm_Tz.moved (s := U) (U := U.calling g mk a) (State.WarmedH.refl U) (fun _ _ _ => rfl) h3⟩
theorem gm_preT (hN : ∀ w ∈ Ns, gm_nest w = true) {Xs : List Cond} {Cs : List (String × String)} {s : State} (hK : gm_K D cl AC N0 Ns As Zs Ss s) (hT : gm_Tz N0 Xs Cs s) (hN0 : N0 ≤ s.heap.size) {M : gm_H} {sz : Nat} {H : Heap} {locs : List Loc} (hS : gm_S D cl AC N0 s M sz H locs) {U : State} (hU : U.heap = H) (hW : s.WarmedH U.vm) : gm_PreT D cl AC N0 Ns As Zs Ss Xs Cs M sz U :=
  ⟨gm_pre hN hK hN0 hS hU hW, gm_Tz.moved hW (fun q h1 h2 => by rw [hU]; exact hS.2.2.2.1 q h1 h2) hT⟩
/-- what is known where a method has thrown an exception of number e -/
def gm_XC (D : va_G) (cl : List vw_C) (AC : FieldType → ClassId) (N0 e : Nat) (M' : gm_H) (sz' : Nat) : String → State → State → Prop := fun E st t =>
  gm_xs[e]? = some E ∧ gm_ok D cl AC N0 t M' t.heap ∧ t.heap.size = sz' ∧ st.heap.size ≤ sz' ∧ ∀ q, q < N0 → t.heap[q]? = st.heap[q]?
def gm_xn : List String := ["java/lang/RuntimeException", "java/lang/Exception"]
/-- the places where own's code throws stand as the tables say -/
def gm_thw (Tg Xs : List Cond) (own : String) (cc : ByteArray) (I : Nat → Option Instr) (lk : Nat → Option gm_L) : Prop :=
  ∀ pc ix e E, I pc = some (.new ix) → lk ix = some (.inr (.inr (.inl (.array (.object E))))) → gm_xs.findIdx? (fun x => x == E) = some e →
    gm_xs[e]? = some E ∧ Bundle.fit E = true ∧ ∃ ic, decode cc (pc + 3) = .ok (.dup, 1) ∧ decode cc (pc + 4) = .ok (.invokespecial ic, 3) ∧ decode cc (pc + 7) = .ok (.athrow, 1) ∧ Cond.classLink own ix E ∈ Tg ∧ Cond.initialized E ∈ Tg ∧ ∀ w ∈ vx_at0 own ic E gm_xn, w ∈ Tg ∨ w ∈ Xs
set_option maxHeartbeats 4000000 in
/-- a method that throws -/
theorem gm_sound_thr (E : gm_env l D cl AC N0 Tg Ns As Zs Ss nm mt K bIx nIx) (hlt : l.stackTraces = false) {d n k mi : Nat} {av : List Value} {M : gm_H} {sz : Nat} {e9 : Nat} {M' : gm_H} {sz' dd : Nat} {own : String} {y : MethodName} {cc : ByteArray} {nL : Nat} {ret : Option FieldType} {I : Nat → Option Instr} {lk : Nat → Option gm_L} {ini : Bool}
    (hd2 : 2 ≤ d) (hmt : mt mi = some (own, y, cc, nL, ret, I, lk, ini)) (hlen : (gm_sl av).length ≤ nL) {Xs : List Cond} {Cs : List (String × String)} (hth : gm_thw Tg Xs own cc I lk)
    (h : gm_exec N0 nm ret I lk (fun _ _ _ => none) (gm_only (gm_run N0 K nm mt d n)) k 0 (gm_entry nL av) [] M sz 0 = some (.threw e9, M', sz', dd)) :
    vx_Met l y (Cond.code y cc nL ret :: Tg) (gm_room d (sz' - sz) dd) (va_Pc av (gm_PreT D cl AC N0 Ns As Zs Ss Xs Cs M sz)) (fun _ _ _ _ => False) (gm_XC D cl AC N0 e9 M' sz') (sz' - sz) dd (fun q => N0 ≤ q) := by
  obtain ⟨hgw, hNs, hnm, hgood, hinit, hmt4, hIc, hIn, hIs, hix⟩ := id E
  obtain ⟨hpl, hcls, hcode, hnl, hini, hI, hpool, hconsts, hcalls⟩ := hgood.2 mi own y cc nL ret I lk ini hmt
  refine vx_ofW (cc := cc) (maxL := nL) (ret := ret) hpl rfl ?_
  intro p e s m args below meth c s₁ B hml hnt hv
  obtain ⟨rfl, ⟨hok, hsz, hN0, hK⟩, hTz⟩ := hv
  have hx := B.exec
  have hb := B.bytes
  have hr := B.returns
  have hts := atoms_spec (ws := Cond.code y cc nL ret :: Tg) B.pre
  have hown : s.vm.findClass own = some m.cls := by rw [← hcls]; exact findClass_of_methodNamed B.named
  have hlocks := B.notSynchronized
  have hTs : ∀ w ∈ Tg, w ∈ Cond.code y cc nL ret :: Tg := fun w hw => List.mem_cons_of_mem _ hw
  subst hsz
  rw [lg_entry_eq]
  have key := gm_exec_sim (l := l) (p := p) (e := e) (R := gm_room d (sz' - s.heap.size) dd) (s := s) (m := m) (args := av.toArray) (below := below) (meth := meth) (c := c) (cc := cc) (D := D) (cl := cl) (AC := AC) (N0 := N0) (nL := nL) (sz0 := s.heap.size) (Ts := Cond.code y cc nL ret :: Tg) (Ns := Ns) (own := own) (nm := nm) (init := ini)
    (Q := vx_MQ below (fun _ _ _ _ => False) (gm_XC D cl AC N0 e9 M' sz') av.toArray s (sz' - s.heap.size) dd (fun q => N0 ≤ q)) (I := I) (lk := lk) (ex := fun _ _ _ => none) (call := gm_only (gm_run N0 K nm mt d n)) (ret := ret) (o := .threw e9) (Mf := M') (szf := sz') (slf := dd)
    hx hb hts hK.2.2.1 hown hK.1 hK.2.1 hnm (fun q => (name_of_methodNamed B.named B.method).1.trans (hini q)) hI (hpool.to hgood.1 hTs hK.2.2.2.1)
    (fun pc i arr st H locs cells slots w ix pc' hi hdg hvs hor kk => gm_consts_sim hx hb hts hTs hown hK hconsts pc i arr st H locs cells slots w ix pc' hdg hvs hor kk)
    (fun mi av M sz o M' sz' d h => gm_run_mono _ mi av M sz o M' sz' d (gm_only_le h))
    (fun pc i arr st M1 sz1 H locs cells slots mi1 av1 r1 v1 M2 sz2 d1 hi hdg harr hsite hcl hS hc1 hs1 kk => by
      cases d with
      | zero => omega
      | succ d =>
      exact gm_call_any hgw hNs hgood hinit hmt4 hIc hIn hIs hix (fun mi av M sz v M' sz' dd own y cc nL ret I lk ini h h10 hm => E.met (d := d + 1) h h10 hm) hx hb hml hts hTs hown hK hN0 hcalls (Nat.le_refl _) (Nat.le_refl _) hdg harr hsite (gm_only_le hcl) hS hc1 hs1 kk)
    (fun pc i arr st M1 sz1 H locs cells slots mi1 av1 r1 a M2 sz2 d1 hi hdg harr hsite hcl hS hc1 hs1 k1 k2 => by
      unfold gm_only at hcl
      split at hcl
      · cases hcl
      · cases hcl)
    (fun pc i arr st M1 sz1 sl1 H locs hi hdg harr he hS => by
      obtain ⟨len, hd, hle⟩ := hdg
      unfold gm_end at he
      split at he
      · rename_i e1 he1
        simp only [Option.some.injEq, Prod.mk.injEq, Outcome.threw.injEq] at he
        obtain ⟨rfl, rfl, rfl, rfl⟩ := he
        unfold gm_thr at he1
        split at he1
        · rename_i ix
          split at he1
          · rename_i En hlk1
            have hln : len = 3 := by simpa [gm_len] using hle
            subst hln
            obtain ⟨hxe, hfit, ic, d3, d4, d7, w1, w2, w3⟩ := hth pc ix e1 En hi hlk1 he1
            have hgd : ∀ w ∈ Cond.classLink own ix En :: Cond.initialized En :: vx_at0 own ic En gm_xn, vx_ot w = true := fun w hw => by
              have hwT : w ∈ Tg ∨ w ∈ Xs := by
                rcases List.mem_cons.mp hw with rfl | hw
                · exact Or.inl w1
                · rcases List.mem_cons.mp hw with rfl | hw
                  · exact Or.inl w2
                  · exact w3 w hw
              unfold vx_ot
              rcases hwT with h9 | h9
              · rw [hgw w h9, Bool.or_true]
              · rw [gm_dc_tab (hTz.2.1 w h9).1, Bool.true_or]
            have hsz1 : H.size = sz1 := hS.2.1
            have hge : s.heap.size ≤ H.size := hS.2.2.1
            exact gm_throw0 hx hb hlt hown hfit (by decide +kernel) (hts _ (hTs _ w1)) (hts _ (hTs _ w2)) (fun w hw => (w3 w hw).elim (fun h9 => hts _ (hTs _ h9)) (fun h9 => va_Nw.use (gm_dc_tab (hTz.2.1 w h9).1) (hTz.2.1 w h9).2)) hgd hTz.1.1 hTz.1.2 hS.2.2 (harr.trans hml.symm) hd d3 d4 d7 (fun x hx => (hnt x hx).elim)
              (by show 2 + 3 < d + 4; omega) (by show 0 + (13 * (2 + 1) + 42) ≤ 100 * d + 300; omega) (by show _ ≤ sz1 + 1 - s.heap.size; omega) (by show _ ≤ sl1 + 6; omega) hlocks
              (fun t hal hts9 hkeep => ⟨hxe, (fun a x hx => ((hS.1 a x hx).kept (hkeep a (hS.1 a x hx).lt)).moved hal), by rw [hts9, hsz1], by omega, fun q hq => by
                rw [hkeep q (by omega)]
                exact hS.2.2.2.1 q (by omega) (by omega)⟩)
              hS.2.2.2.2 (by omega) (by omega)
          · cases he1
        · cases he1
      · split at he
        all_goals first
          | (cases he; done)
          | (split at he <;> cases he; done))
    (Nat.le_refl _) (Nat.le_refl _) k 0 (gm_entry nL av) [] M s.heap.size 0 _ s.heap [] h (gm_entry_ok av hlen) ⟨hok, rfl, va_S.rf⟩ (Nat.le_refl _)
  rw [Nat.sub_self] at key
  exact key
end GMTH
