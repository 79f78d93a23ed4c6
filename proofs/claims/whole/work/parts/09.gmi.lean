/-! what every method knows of the tables and of the cells that nobody writes; what a call owes and gives -/
/-- a constant text "RITNDLGE": class, place in its pool, text, address; its bytes -/
def gm_kb : List Int32 := [82, 73, 84, 78, 68, 76, 71, 69]
def gm_str (N0 : Nat) (q : String × Nat × String × Nat) (U : State) (H : Heap) : Prop := vk_R q.1 q.2.1 q.2.2.1 q.2.2.2 U ∧ va_O "java/lang/String" q.2.2.2 (fun q => N0 ≤ q) U H ∧ va_OF "java/lang/String" "coder" "B" (.int 0) q.2.2.2 (fun q => N0 ≤ q) U H ∧
  ∃ b, va_OF "java/lang/String" "value" "[B" (.ref b) q.2.2.2 (fun q => N0 ≤ q) U H ∧ va_T .byte b 8 (fun j => .int (gm_kb.getD j 0)) (fun q => N0 ≤ q) U H
theorem gm_str.moved {N0 : Nat} {q : String × Nat × String × Nat} {s U : State} {H H1 : Heap} (hW : s.WarmedH U.vm) (hH : ∀ q : Nat, q < H.size → ¬ N0 ≤ q → H1[q]? = H[q]?) (h : gm_str N0 q s H) : gm_str N0 q U H1 := by
  obtain ⟨h1, h2, h3, b, h4, h5⟩ := h
  exact ⟨h1.warm hW, (va_O.moved hW.alike h2).kept hH, (va_OF.moved hW.alike h3).kept hH, b, (va_OF.moved hW.alike h4).kept hH, (va_T.moved hW.alike h5).kept hH⟩
section GMK
variable (D : va_G) (cl : List vw_C) (AC : FieldType → ClassId) (N0 : Nat) (Ns : List Cond) (As : List String) (Zs : List (String × String × String × Value)) (Ss : List (String × Nat × String × Nat))
def gm_K (U : State) : Prop := va_K D cl [] U ∧ gm_AC AC U ∧ (∀ w ∈ Ns, va_Nw w U) ∧ (∀ C ∈ As, va_AO C U) ∧ (∀ z ∈ Zs, va_Z z.1 z.2.1 z.2.2.1 z.2.2.2 (fun q => N0 ≤ q) U U.heap) ∧ ∀ q ∈ Ss, gm_str N0 q U U.heap
def gm_Pre (M : gm_H) (sz : Nat) (U : State) : Prop := gm_ok D cl AC N0 U M U.heap ∧ U.heap.size = sz ∧ N0 ≤ sz ∧ gm_K D cl AC N0 Ns As Zs Ss U
def gm_Qc (v : Option Value) (M' : gm_H) (sz' : Nat) : Array Value → State → Outcome → State → Prop := fun _ st o t =>
  o = .returned v ∧ gm_ok D cl AC N0 t M' t.heap ∧ t.heap.size = sz' ∧ st.heap.size ≤ sz' ∧ ∀ q, q < N0 → t.heap[q]? = st.heap[q]?
end GMK
def gm_nest : Cond → Bool
  | .fieldLinkNest _ _ _ _ _ _ => true
  | .methodLinkNest _ _ _ _ => true
  | _ => false
theorem gm_nest_warm {w : Cond} (hw : gm_nest w = true) {s U : State} (hW : s.WarmedH U.vm) (h : va_Nw w s) : va_Nw w U := by
  cases w <;> simp only [gm_nest, Bool.false_eq_true] at hw
  · exact va_Nw.warmM hW h
  · exact va_Nw.warmF hW h
theorem gm_AC.moved {AC : FieldType → ClassId} {u U : State} (hvm : u.vm.Alike U.vm) (h : gm_AC AC u) : gm_AC AC U := fun ty cA hc => h ty cA (by rw [hvm.findClass] at hc; exact hc)
section GMKL
variable {D : va_G} {cl : List vw_C} {AC : FieldType → ClassId} {N0 : Nat} {Ns : List Cond} {As : List String} {Zs : List (String × String × String × Value)} {Ss : List (String × Nat × String × Nat)}
theorem gm_K.moved (hN : ∀ w ∈ Ns, gm_nest w = true) {s U : State} (hW : s.WarmedH U.vm) (hH : ∀ q : Nat, q < s.heap.size → ¬ N0 ≤ q → U.heap[q]? = s.heap[q]?) (h : gm_K D cl AC N0 Ns As Zs Ss s) : gm_K D cl AC N0 Ns As Zs Ss U := by
  obtain ⟨h1, h2, h3, h4, h5, h6⟩ := h
  exact ⟨h1.moved hW.alike, h2.moved hW.alike, fun w hw => gm_nest_warm (hN w hw) hW (h3 w hw), fun C hC => (h4 C hC).moved hW.alike, fun z hz => ((h5 z hz).moved hW.alike).kept hH, fun q hq => (h6 q hq).moved hW hH⟩
theorem gm_blind (hN : ∀ w ∈ Ns, gm_nest w = true) {av : List Value} {M : gm_H} {sz : Nat} : FrameBlind (va_Pc av (gm_Pre D cl AC N0 Ns As Zs Ss M sz)) := by
  intro a U g mk ⟨h1, h2, h3, h4, h5⟩
  exact ⟨h1, h2.moved (u := U) (U := U.calling g mk a) (Vm.Alike.refl U.vm), h3, h4, gm_K.moved (s := U) (U := U.calling g mk a) hN (State.WarmedH.refl U) (fun _ _ _ => rfl) h5⟩
end GMKL
section GMC
variable {p : Program} {l : Launch} {e : Env} {R : Room} {s : State} {m : MethodId} {args : Array Value} {below : List Frame} {meth : Method} {c : Code} {H : Heap} {locs : List Loc} {cells slots mc ms : Nat} {Q : State → Prop}
variable {cc : ByteArray} {pc : Nat} {arr : Array Slot} {st rest : List Value} {D : va_G} {cl : List vw_C} {AC : FieldType → ClassId} {N0 : Nat} {M M' : gm_H} {sz sz' : Nat} {v : Option Value} {Ns : List Cond} {As : List String} {Zs : List (String × String × String × Value)} {Ss : List (String × Nat × String × Nat)}
/-- behind a call -/
theorem gm_ret {a : Array Value} (hr : va_Run p l e R s m args below meth c H locs cells slots mc ms (F0 m pc arr st) rest (gm_Qc D cl AC N0 v M' sz' a) (fun q => N0 ≤ q)) (hS : gm_S D cl AC N0 s M sz H locs)
    (kk : ∀ H1 locs1, gm_S D cl AC N0 s M' sz' H1 locs1 → W p l e R s m args below meth c H1 locs1 (cells + mc) (slots + ms) Q (F0 m (pc + 3) arr (v.toList ++ rest))) : W p l e R s m args below meth c H locs cells slots Q (F0 m pc arr st) := by
  intro T hT X
  obtain ⟨v', st₀, t, T', L, h0, X', hL, e1, e2, ⟨hv, hok, hsz, hle, hk⟩, hst⟩ := hr T hT X
  cases hv
  rw [h0] at hle hk
  have hal : s.vm.Alike t.vm := by rw [← e2]; exact X'.warmed.alike
  obtain ⟨t2, a1, b1⟩ := kk T'.heap (locs ++ L) ⟨by rw [e1]; exact hok.moved hal.symm, by rw [e1]; exact hsz, by rw [e1, hsz]; exact Nat.le_trans hS.2.2.1 hle, fun q h1 h2 => by rw [e1, hk q (Nat.not_le.mp h2)]; exact hS.2.2.2.1 q h1 h2, fun q hq => by
    rcases List.mem_append.mp hq with h | h
    · exact hS.2.2.2.2 q h
    · exact hL q h⟩ T' rfl X'
  exact ⟨t2, hst t2 a1, b1⟩
/-- what a callee asks, at a call -/
theorem gm_pre (hN : ∀ w ∈ Ns, gm_nest w = true) (hK : gm_K D cl AC N0 Ns As Zs Ss s) (hN0 : N0 ≤ s.heap.size) (hS : gm_S D cl AC N0 s M sz H locs) {U : State} (hU : U.heap = H) (hW : s.WarmedH U.vm) : gm_Pre D cl AC N0 Ns As Zs Ss M sz U := by
  refine ⟨by rw [hU]; exact hS.1.moved hW.alike, by rw [hU]; exact hS.2.1, by rw [← hS.2.1]; exact Nat.le_trans hN0 hS.2.2.1, gm_K.moved hN hW (fun q h1 h2 => by rw [hU]; exact hS.2.2.2.1 q h1 h2) hK⟩
end GMC
def gm_room (d mc ms : Nat) : Room := { frames := d + 4, cells := mc, slots := ms, locals := 100 * d + 300 }
/-- a method's place in the pool of own -/
def gm_lnk (Tg Ns : List Cond) (own : String) (ix : Nat) (y : MethodName) : Prop := Cond.methodLink own ix y ∈ Tg ∨ ∃ host, Cond.methodLinkNest own ix y host ∈ Ns
/-- the words of a call of a method of ours -/
def gm_cw (cl : List vw_C) (Tg Ns : List Cond) (own : String) (ix na rc : Nat) (y : MethodName) : Prop :=
  (Cond.initialized y.cls ∈ Tg ∧ y.cls ≠ "java/lang/invoke/MethodHandle" ∧ y.cls ≠ "java/lang/invoke/VarHandle" ∧ (parseMethodDescriptor y.desc).map (fun d => d.parameters.length) = some na ∧ gm_lnk Tg Ns own ix y) ∧
  ((rc = 0 ∧ Cond.static y ∈ Tg) ∨ (rc = 1 ∧ y.name = "<init>" ∧ Cond.instanceMethod y ∈ Tg) ∨
   (Cond.instanceMethod y ∈ Tg ∧ ∃ ci C T N, rc = ci + 3 ∧ cl[ci]? = some (C, T, N) ∧ Cond.selects C y y ∈ Tg))
/-- the words of String.indexOf(int), called out of own -/
def gm_yix : MethodName := ⟨"java/lang/String", "indexOf", "(I)I"⟩
def gm_ixw (Tg : List Cond) (own : String) (ix : Nat) : Prop := Cond.methodLink own ix gm_yix ∈ Tg ∧ Cond.instanceMethod gm_yix ∈ Tg ∧ Cond.selects "java/lang/String" gm_yix gm_yix ∈ Tg ∧ Cond.initialized "java/lang/String" ∈ Tg
def gm_calls (cl : List vw_C) (Tg Ns : List Cond) (mt : Nat → Option gm_Mi) (own : String) (lk : Nat → Option gm_L) : Prop :=
  ∀ ix mi na rc, lk ix = some (.inr (.inr (.inr (.inl (mi, na, rc))))) →
    (mi = 0 ∧ rc = 1 ∧ na = 0 ∧ Cond.methodLink own ix Lib.objectInit ∈ Tg ∧ Cond.instanceMethod Lib.objectInit ∈ Tg ∧ Cond.code Lib.objectInit ⟨#[0xb1]⟩ 1 none ∈ Tg) ∨
    (mi = 1 ∧ rc = 0 ∧ na = 2 ∧ Cond.methodLink own ix Lib.Math.min.name ∈ Tg ∧ Cond.static Lib.Math.min.name ∈ Tg ∧ Cond.initialized "java/lang/Math" ∈ Tg ∧ Cond.code Lib.Math.min.name Lib.Math.min.code 2 (some .int) ∈ Tg) ∨
    (mi = 2 ∧ rc = 0 ∧ na = 2 ∧ Cond.methodLink own ix Lib.Math.max.name ∈ Tg ∧ Cond.static Lib.Math.max.name ∈ Tg ∧ Cond.initialized "java/lang/Math" ∈ Tg ∧ Cond.code Lib.Math.max.name Lib.Math.max.code 2 (some .int) ∈ Tg) ∨
    (mi = 3 ∧ rc = 0 ∧ na = 5 ∧ Cond.methodLink own ix arraycopyName ∈ Tg ∧ Cond.native arraycopyName ∈ Tg ∧ Cond.static arraycopyName ∈ Tg ∧ Cond.initialized "java/lang/System" ∈ Tg) ∨
    (mi = 4 ∧ rc = 2 ∧ na = 1 ∧ gm_ixw Tg own ix) ∨
    (10 ≤ mi ∧ ∀ own' y cc nL ret I' lk' ini, mt mi = some (own', y, cc, nL, ret, I', lk', ini) → gm_cw cl Tg Ns own ix na rc y)
/-- the constants that the code reads -/
def gm_consts (Tg Ns : List Cond) (Zs : List (String × String × String × Value)) (Ss : List (String × Nat × String × Nat)) (own : String) (lk : Nat → Option gm_L) : Prop :=
  (∀ ix v, lk ix = some (.inr (.inr (.inr (.inr (0, v))))) → (∃ z, v = .int z ∧ Cond.constant own ix z ∈ Tg) ∨ ∃ tx a, v = .ref a ∧ (own, ix, tx, a) ∈ Ss) ∧
  (∀ ix v, lk ix = some (.inr (.inr (.inr (.inr (3, v))))) → ∃ z, v = .int z ∧ Cond.constant own ix z ∈ Tg) ∧
  (∀ ix v, lk ix = some (.inr (.inr (.inr (.inr (1, v))))) → ∃ z, v = .long z ∧ Cond.constantLong own ix z ∈ Tg) ∧
  (∀ ix v, lk ix = some (.inr (.inr (.inr (.inr (2, v))))) → ∃ C n d, (C, n, d, v) ∈ Zs ∧ (Cond.fieldLink own ix C n d ∈ Tg ∨ ∃ host, Cond.fieldLinkNest own ix C n d host ∈ Ns))
/-- the pool, without a state -/
def gm_pool (cl : List vw_C) (Tg Ns : List Cond) (As : List String) (own : String) (init : Bool) (lk : Nat → Option gm_L) : Prop :=
  (∀ ix ci k ty w, lk ix = some (.inl (ci, k, ty, w)) → gm_fok cl Tg Ns own ix ci k ty) ∧
  (∀ ix ci k ty, lk ix = some (.inl (ci, k, ty, true)) → gm_pok cl Tg Ns own init ix ci k ty) ∧
  (∀ ix ci fs, lk ix = some (.inr (.inl (ci, fs))) → gm_nok cl Tg own ix ci fs) ∧
  (∀ ix C, lk (ix + 100000) = some (.inr (.inr (.inl (.object C)))) → Cond.classLink own ix C ∈ Tg ∧ C ∈ As)
/-- a method of ours stands as the tables say -/
def gm_good (cl : List vw_C) (Tg Ns : List Cond) (As : List String) (Zs : List (String × String × String × Value)) (Ss : List (String × Nat × String × Nat)) (mt : Nat → Option gm_Mi) : Prop :=
  (∀ ty n x, gm_zero ty n = some x → Cond.arrayClass ty ∈ Tg) ∧
  ∀ mi own y cc nL ret I lk ini, mt mi = some (own, y, cc, nL, ret, I, lk, ini) → plainName y.cls = true ∧ y.cls = own ∧ Cond.code y cc nL ret ∈ Tg ∧ nL ≤ 80 ∧ (ini = true → y.name = "<init>") ∧
    (∀ pc i, I pc = some i → gm_dec cc pc i) ∧ gm_pool cl Tg Ns As own ini lk ∧ gm_consts Tg Ns Zs Ss own lk ∧ gm_calls cl Tg Ns mt own lk
theorem gm_cok.mono {Ts Tg : List Cond} (h : ∀ w ∈ Tg, w ∈ Ts) {C : String} {T : u_T} {N : Nat} {ty0 : Nat → FieldType} (hc : gm_cok Tg C T N ty0) : gm_cok Ts C T N ty0 := ⟨fun w hw => h w (hc.1 w hw), hc.2⟩
theorem gm_pool.to {cl : List vw_C} {Ts Tg Ns : List Cond} {As : List String} {own : String} {init : Bool} {lk : Nat → Option gm_L} (hp : gm_pool cl Tg Ns As own init lk) (hz : ∀ ty n x, gm_zero ty n = some x → Cond.arrayClass ty ∈ Tg) (h : ∀ w ∈ Tg, w ∈ Ts) {s : State} (hA : ∀ C ∈ As, va_AO C s) : gm_lkok cl Ts Ns own init s lk := by
  obtain ⟨p1, p2, p3, p4⟩ := hp
  refine ⟨fun ix ci k ty w h2 => ?_, fun ix ci k ty h2 => ?_, fun ix ci fs h2 => ?_, fun ix C h2 => ⟨h _ (p4 ix C h2).1, hA C (p4 ix C h2).2⟩, fun ty n x h1 => h _ (hz ty n x h1)⟩
  · obtain ⟨C, T, N, ty0, a1, a2, a3, a4, a5⟩ := p1 ix ci k ty w h2
    exact ⟨C, T, N, ty0, a1, a2, a3.mono h, a4, a5.imp (h _) id⟩
  · obtain ⟨C, T, N, ty0, a1, a2, a3, a4, a5⟩ := p2 ix ci k ty h2
    exact ⟨C, T, N, ty0, a1, a2, a3.mono h, a4, a5.imp (fun q => ⟨q.1, q.2.imp (h _) id⟩) (fun q => ⟨q.1, q.2.1, q.2.2.1, h _ q.2.2.2⟩)⟩
  · obtain ⟨C, T, N, ty0, a1, a2, a3, a4, a5, a6⟩ := p3 ix ci fs h2
    exact ⟨C, T, N, ty0, a1, a2.mono h, h _ a3, h _ a4, h _ a5, a6⟩
