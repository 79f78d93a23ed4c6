/-! "RITNDLGE".indexOf(c): the JDK's own methods -/
theorem w_89 : Cond.initialized RJ1 ∈ ra_Tg := gm_in (i := 89) (by decide +kernel) (by decide +kernel)
theorem w_371 : Cond.code yJ0_indexOf_0f7a4 cJ0_indexOf_0f7a4 2 (some .int) ∈ ra_Tg := gm_in (i := 371) (by decide +kernel) (by decide +kernel)
theorem w_372 : Cond.methodLink RJ0 633 yJ0_indexOf_7cf53 ∈ ra_Tg := gm_in (i := 372) (by decide +kernel) (by decide +kernel)
theorem w_373 : Cond.instanceMethod yJ0_indexOf_7cf53 ∈ ra_Tg := gm_in (i := 373) (by decide +kernel) (by decide +kernel)
theorem w_374 : Cond.selects RJ0 yJ0_indexOf_7cf53 yJ0_indexOf_7cf53 ∈ ra_Tg := gm_in (i := 374) (by decide +kernel) (by decide +kernel)
theorem w_375 : Cond.code yJ0_indexOf_7cf53 cJ0_indexOf_7cf53 3 (some .int) ∈ ra_Tg := gm_in (i := 375) (by decide +kernel) (by decide +kernel)
theorem w_376 : Cond.methodLink RJ0 492 yJ0_isLatin1_aae02 ∈ ra_Tg := gm_in (i := 376) (by decide +kernel) (by decide +kernel)
theorem w_377 : Cond.instanceMethod yJ0_isLatin1_aae02 ∈ ra_Tg := gm_in (i := 377) (by decide +kernel) (by decide +kernel)
theorem w_378 : Cond.selects RJ0 yJ0_isLatin1_aae02 yJ0_isLatin1_aae02 ∈ ra_Tg := gm_in (i := 378) (by decide +kernel) (by decide +kernel)
theorem w_379 : Cond.code yJ0_isLatin1_aae02 cJ0_isLatin1_aae02 1 (some .boolean) ∈ ra_Tg := gm_in (i := 379) (by decide +kernel) (by decide +kernel)
theorem w_380 : Cond.fieldLink RJ0 38 "java/lang/String" "COMPACT_STRINGS" "Z" ∈ ra_Tg := gm_in (i := 380) (by decide +kernel) (by decide +kernel)
theorem w_382 : Cond.methodLink RJ0 505 yJ0_length_8abf5 ∈ ra_Tg := gm_in (i := 382) (by decide +kernel) (by decide +kernel)
theorem w_383 : Cond.instanceMethod yJ0_length_8abf5 ∈ ra_Tg := gm_in (i := 383) (by decide +kernel) (by decide +kernel)
theorem w_384 : Cond.selects RJ0 yJ0_length_8abf5 yJ0_length_8abf5 ∈ ra_Tg := gm_in (i := 384) (by decide +kernel) (by decide +kernel)
theorem w_385 : Cond.code yJ0_length_8abf5 cJ0_length_8abf5 1 (some .int) ∈ ra_Tg := gm_in (i := 385) (by decide +kernel) (by decide +kernel)
theorem w_386 : Cond.methodLink RJ0 335 yJ0_coder_7d493 ∈ ra_Tg := gm_in (i := 386) (by decide +kernel) (by decide +kernel)
theorem w_387 : Cond.instanceMethod yJ0_coder_7d493 ∈ ra_Tg := gm_in (i := 387) (by decide +kernel) (by decide +kernel)
theorem w_388 : Cond.selects RJ0 yJ0_coder_7d493 yJ0_coder_7d493 ∈ ra_Tg := gm_in (i := 388) (by decide +kernel) (by decide +kernel)
theorem w_389 : Cond.code yJ0_coder_7d493 cJ0_coder_7d493 1 (some .byte) ∈ ra_Tg := gm_in (i := 389) (by decide +kernel) (by decide +kernel)
theorem w_390 : Cond.methodLink RJ0 637 yJ1_indexOf_4cfef ∈ ra_Tg := gm_in (i := 390) (by decide +kernel) (by decide +kernel)
theorem w_391 : Cond.static yJ1_indexOf_4cfef ∈ ra_Tg := gm_in (i := 391) (by decide +kernel) (by decide +kernel)
theorem w_392 : Cond.code yJ1_indexOf_4cfef cJ1_indexOf_4cfef 4 (some .int) ∈ ra_Tg := gm_in (i := 392) (by decide +kernel) (by decide +kernel)
theorem w_393 : Cond.methodLink RJ1 88 yJ1_canEncode_9a6ad ∈ ra_Tg := gm_in (i := 393) (by decide +kernel) (by decide +kernel)
theorem w_394 : Cond.static yJ1_canEncode_9a6ad ∈ ra_Tg := gm_in (i := 394) (by decide +kernel) (by decide +kernel)
theorem w_395 : Cond.code yJ1_canEncode_9a6ad cJ1_canEncode_9a6ad 1 (some .boolean) ∈ ra_Tg := gm_in (i := 395) (by decide +kernel) (by decide +kernel)
theorem w_396 : Cond.methodLink RJ1 92 Lib.Math.max.name ∈ ra_Tg := gm_in (i := 396) (by decide +kernel) (by decide +kernel)
theorem w_399 : Cond.methodLink RJ1 38 Lib.Math.min.name ∈ ra_Tg := gm_in (i := 399) (by decide +kernel) (by decide +kernel)
theorem w_402 : Cond.methodLink RJ1 95 yJ1_indexOfChar_4cfef ∈ ra_Tg := gm_in (i := 402) (by decide +kernel) (by decide +kernel)
theorem w_403 : Cond.static yJ1_indexOfChar_4cfef ∈ ra_Tg := gm_in (i := 403) (by decide +kernel) (by decide +kernel)
theorem w_404 : Cond.code yJ1_indexOfChar_4cfef cJ1_indexOfChar_4cfef 6 (some .int) ∈ ra_Tg := gm_in (i := 404) (by decide +kernel) (by decide +kernel)
theorem w_1557 : Cond.fieldLink RJ0 15 "java/lang/String" "coder" "B" ∈ ra_Tg := gm_in (i := 1557) (by decide +kernel) (by decide +kernel)
theorem w_1558 : Cond.fieldLink RJ0 9 "java/lang/String" "value" "[B" ∈ ra_Tg := gm_in (i := 1558) (by decide +kernel) (by decide +kernel)
theorem ix_good : ∀ w ∈ ra_Tg, goodWord w = true := fun w hw => (List.mem_filter.mp hw).2
theorem ix_nest : ∀ w ∈ ra_Ns, gm_nest w = true := fun w hw => (List.mem_filter.mp hw).2
theorem ix_lt {k : Nat} (h : k < 8) : ¬ (8 : Int32) ≤ nI k := by
  have : ∀ k : Fin 8, ¬ (8 : Int32) ≤ nI k.1 := by decide +kernel
  exact this ⟨k, h⟩
theorem ix_suc {k : Nat} (h : k < 8) : nI k + Int32.ofInt 1 = nI (k + 1) := by
  have : ∀ k : Fin 8, nI k.1 + Int32.ofInt 1 = nI (k.1 + 1) := by decide +kernel
  exact this ⟨k, h⟩
section IXM
variable {l : Launch} {D : va_G} {AC : FieldType → ClassId} {N0 : Nat} {K : Nat → Nat} {M : gm_H} {sz : Nat}
theorem ix_str {s : State} (hK : gm_K D vwCl AC N0 ra_Ns ra_As (ra_Zs K) (ra_Ss K) s) {a : Nat} (ha : a = K 1 ∨ a = K 2) : va_O "java/lang/String" a (fun q => N0 ≤ q) s s.heap ∧ va_OF "java/lang/String" "coder" "B" (.int 0) a (fun q => N0 ≤ q) s s.heap ∧ ∃ b, va_OF "java/lang/String" "value" "[B" (.ref b) a (fun q => N0 ≤ q) s s.heap ∧ va_T .byte b 8 (fun j => .int (gm_kb.getD j 0)) (fun q => N0 ≤ q) s s.heap := by
  rcases ha with rfl | rfl
  · exact (hK.2.2.2.2.2 ("RuleArena$Literal", 27, "RITNDLGE", K 1) List.mem_cons_self).2
  · exact (hK.2.2.2.2.2 ("RuleArena$Reader", 81, "RITNDLGE", K 2) (List.mem_cons_of_mem _ List.mem_cons_self)).2
theorem ix_cs {s : State} (hK : gm_K D vwCl AC N0 ra_Ns ra_As (ra_Zs K) (ra_Ss K) s) : va_Z "java/lang/String" "COMPACT_STRINGS" "Z" (.int 1) (fun q => N0 ≤ q) s s.heap := hK.2.2.2.2.1 ("java/lang/String", "COMPACT_STRINGS", "Z", .int 1) (List.mem_cons_of_mem _ List.mem_cons_self)
/-- a method of the JDK that reads alone -/
def ix_room (f : Nat) : Room := { frames := f, cells := 0, slots := 0, locals := 70 * f }
def ix_Met (l : Launch) (D : va_G) (AC : FieldType → ClassId) (N0 : Nat) (K : Nat → Nat) (M : gm_H) (sz d : Nat) (y : MethodName) (cc : ByteArray) (nL : Nat) (ret : Option FieldType) (av : List Value) (v : Value) (X : State → Prop) : Prop :=
  Met l y (Cond.code y cc nL ret :: ra_Tg) (ix_room d) (va_Pc av (fun U => gm_Pre D vwCl AC N0 ra_Ns ra_As (ra_Zs K) (ra_Ss K) M sz U ∧ X U)) (gm_Qc D vwCl AC N0 (some v) M sz) 0 0 (fun q => N0 ≤ q)
/-- what stays as long as the old cells stay -/
def ix_st (N0 : Nat) (X : State → Prop) : Prop := ∀ s U : State, s.WarmedH U.vm → (∀ q : Nat, q < s.heap.size → ¬ N0 ≤ q → U.heap[q]? = s.heap[q]?) → X s → X U
theorem ix_blind {X : State → Prop} (hX : ix_st N0 X) {av : List Value} : FrameBlind (va_Pc av (fun U => gm_Pre D vwCl AC N0 ra_Ns ra_As (ra_Zs K) (ra_Ss K) M sz U ∧ X U)) := by
  intro a U g mk ⟨h1, h2, h3⟩
  obtain ⟨k1, k2⟩ := gm_blind (D := D) (cl := vwCl) (AC := AC) (N0 := N0) (As := ra_As) (Zs := ra_Zs K) (Ss := ra_Ss K) ix_nest a U g mk ⟨h1, h2⟩
  exact ⟨k1, k2, hX U (U.calling g mk a) (State.WarmedH.refl U) (fun _ _ _ => rfl) h3⟩
theorem ix_of {d : Nat} {y : MethodName} {cc : ByteArray} {nL : Nat} {ret : Option FieldType} {av : List Value} {v : Value} {X : State → Prop} (hpl : plainName y.cls = true)
    (body : ∀ (p : Program) (e : Env) (s : State) (m : MethodId) (below : List Frame) (meth : Method) (c : Code), p.tables.exec = Jvm.exec → c.code = cc → c.maxLocals = nL → meth.sig.returnType = ret → meth.locks = false → s.vm.findClass y.cls = some m.cls → (∀ w ∈ ra_Tg, w.before av.toArray s = true) → gm_K D vwCl AC N0 ra_Ns ra_As (ra_Zs K) (ra_Ss K) s → N0 ≤ s.heap.size → gm_S D vwCl AC N0 s M s.heap.size s.heap [] → X s →
      W p l e (ix_room d) s m av.toArray below meth c s.heap [] 0 0 (MQ below (gm_Qc D vwCl AC N0 (some v) M s.heap.size) av.toArray s 0 0 (fun q => N0 ≤ q)) (F0 m 0 ((lg_sl av ++ List.replicate (nL - (lg_sl av).length) Slot.unset).toArray) [])) : ix_Met l D AC N0 K M sz d y cc nL ret av v X := by
  refine Met.ofW (cc := cc) (maxL := nL) (ret := ret) hpl rfl ?_
  intro p e s m args below meth c s₁ B hml hv
  obtain ⟨rfl, ⟨hok, hsz, hN0, hK⟩, hX⟩ := hv
  subst hsz
  have hts := atoms_spec (ws := Cond.code y cc nL ret :: ra_Tg) B.pre
  rw [lg_entry_eq]
  exact body p e s m below meth c B.exec B.bytes hml B.returns B.notSynchronized (findClass_of_methodNamed B.named) (fun w hw => hts w (List.mem_cons_of_mem _ hw)) hK hN0 ⟨hok, rfl, va_S.rf⟩ hX
section IXC
variable {p : Program} {e : Env} {R : Room} {s : State} {m : MethodId} {args : Array Value} {below : List Frame} {meth : Method} {c : Code} {H : Heap} {locs : List Loc} {cells slots : Nat} {Q : State → Prop} {cc : ByteArray} {nL pc : Nat} {arr : Array Slot} {own : String}
theorem ix_G {Ts : List Cond} (hTs : ∀ w ∈ ra_Tg, w ∈ Ts) {y : MethodName} {bytes : ByteArray} {maxL : Nat} {ret : Option FieldType} (hcode : Cond.code y bytes maxL ret ∈ ra_Tg) : GoodIn Ts (Cond.code y bytes maxL ret :: ra_Tg) := fun w hw => by
  rcases List.mem_cons.mp hw with rfl | hw
  · exact ⟨hTs _ hcode, good_of_word (ix_good _ hcode)⟩
  · exact ⟨hTs _ hw, good_of_word (ix_good _ hw)⟩
theorem ix_callV (hx : p.tables.exec = Jvm.exec) (hb : c.code = cc) (hml : c.maxLocals = nL) (hown : s.vm.findClass own = some m.cls) (hts : ∀ w ∈ ra_Tg, w.before args s = true) (hK : gm_K D vwCl AC N0 ra_Ns ra_As (ra_Zs K) (ra_Ss K) s) (hN0 : N0 ≤ s.heap.size) (hS : gm_S D vwCl AC N0 s M sz H locs)
    {y : MethodName} {bytes : ByteArray} {maxL : Nat} {ret : Option FieldType} {d ix na a : Nat} {av rest : List Value} {v : Value} {X : State → Prop} (ha : a = K 1 ∨ a = K 2) (hM : ix_Met l D AC N0 K M sz d y bytes maxL ret (.ref a :: av) v X) (hXs : ix_st N0 X) (hX : X s) (hR1 : d + 1 ≤ R.frames) (hR2 : 8 + (maxL + 11) + 70 * d ≤ R.locals)
    (hcode : Cond.code y bytes maxL ret ∈ ra_Tg) (hini : Cond.initialized y.cls ∈ ra_Tg) (hy : y.cls ≠ "java/lang/invoke/MethodHandle" ∧ y.cls ≠ "java/lang/invoke/VarHandle" ∧ (parseMethodDescriptor y.desc).map (fun d => d.parameters.length) = some na) (hlk : Cond.methodLink own ix y ∈ ra_Tg) (hin : Cond.instanceMethod y ∈ ra_Tg) (hsel : Cond.selects "java/lang/String" y y ∈ ra_Tg)
    (hna : av.length = na) (harr : arr.size = nL) (hsum : (rest.map fun v => v.category).sum ≤ 8) (hd : decode cc pc = .ok (.invokevirtual ix, 3)) (hf : cells ≤ R.cells ∧ slots ≤ R.slots)
    (kk : ∀ H1 locs1, gm_S D vwCl AC N0 s M sz H1 locs1 → W p l e R s m args below meth c H1 locs1 cells slots Q (F0 m (pc + 3) arr (v :: rest))) : W p l e R s m args below meth c H locs cells slots Q (F0 m pc arr (av.reverse ++ .ref a :: rest)) := by
  obtain ⟨cB, o1, o2, o3, -⟩ := (ix_str hK ha).1.kept hS.2.2.2.1
  refine gm_ret (mc := 0) (ms := 0) (v := some v) (M' := M) (sz' := sz) (va_runV ⟨hx, hb, hml, hown, hts⟩ hM ⟨callB_of na hts (ix_G (fun _ q => q) hcode) rfl rfl rfl (hts _ hini) (hts _ hlk) hy ⟨hR1, hR2⟩, hts _ hin, hts _ hsel⟩ ⟨ix_blind hXs, ⟨cB, o1, o2, o3⟩, fun U hU hW => ⟨rfl, gm_pre ix_nest hK hN0 hS hU hW, hXs s U hW (fun q h1 h2 => by rw [hU]; exact hS.2.2.2.1 q h1 h2) hX⟩⟩ rfl hna harr rfl (by show 2 * 0 + _ ≤ 8; omega) hd ⟨hf.1, hf.2⟩) hS (fun H1 locs1 h1 => ?_)
  exact kk H1 locs1 h1
theorem ix_callS (hx : p.tables.exec = Jvm.exec) (hb : c.code = cc) (hml : c.maxLocals = nL) (hown : s.vm.findClass own = some m.cls) (hts : ∀ w ∈ ra_Tg, w.before args s = true) (hK : gm_K D vwCl AC N0 ra_Ns ra_As (ra_Zs K) (ra_Ss K) s) (hN0 : N0 ≤ s.heap.size) (hS : gm_S D vwCl AC N0 s M sz H locs)
    {y : MethodName} {bytes : ByteArray} {maxL : Nat} {ret : Option FieldType} {d ix na : Nat} {av rest : List Value} {v : Value} {X : State → Prop} (hM : ix_Met l D AC N0 K M sz d y bytes maxL ret av v X) (hXs : ix_st N0 X) (hX : X s) (hR1 : d + 1 ≤ R.frames) (hR2 : 8 + (maxL + 11) + 70 * d ≤ R.locals)
    (hcode : Cond.code y bytes maxL ret ∈ ra_Tg) (hini : Cond.initialized y.cls ∈ ra_Tg) (hy : y.cls ≠ "java/lang/invoke/MethodHandle" ∧ y.cls ≠ "java/lang/invoke/VarHandle" ∧ (parseMethodDescriptor y.desc).map (fun d => d.parameters.length) = some na) (hlk : Cond.methodLink own ix y ∈ ra_Tg) (hst : Cond.static y ∈ ra_Tg)
    (hna : av.length = na) (harr : arr.size = nL) (hsum : (rest.map fun v => v.category).sum ≤ 8) (hd : decode cc pc = .ok (.invokestatic ix, 3)) (hf : cells ≤ R.cells ∧ slots ≤ R.slots)
    (kk : ∀ H1 locs1, gm_S D vwCl AC N0 s M sz H1 locs1 → W p l e R s m args below meth c H1 locs1 cells slots Q (F0 m (pc + 3) arr (v :: rest))) : W p l e R s m args below meth c H locs cells slots Q (F0 m pc arr (av.reverse ++ rest)) := by
  refine gm_ret (mc := 0) (ms := 0) (v := some v) (M' := M) (sz' := sz) (va_runS ⟨hx, hb, hml, hown, hts⟩ hM ⟨callB_of na hts (ix_G (fun _ q => q) hcode) rfl rfl rfl (hts _ hini) (hts _ hlk) hy ⟨hR1, hR2⟩, hts _ hst⟩ ⟨ix_blind hXs, fun U hU hW => ⟨rfl, gm_pre ix_nest hK hN0 hS hU hW, hXs s U hW (fun q h1 h2 => by rw [hU]; exact hS.2.2.2.1 q h1 h2) hX⟩⟩ rfl hna harr rfl (by show 2 * 0 + _ ≤ 8; omega) hd ⟨hf.1, hf.2⟩) hS (fun H1 locs1 h1 => ?_)
  exact kk H1 locs1 h1
end IXC
theorem ix_tr : ix_st N0 (fun _ => True) := fun _ _ _ _ _ => trivial
def ix_X (N0 b : Nat) (U : State) : Prop := va_T .byte b 8 (fun j => .int (gm_kb.getD j 0)) (fun q => N0 ≤ q) U U.heap
theorem ix_Xst {b : Nat} : ix_st N0 (ix_X N0 b) := fun s U hW hH h => (va_T.moved hW.alike h).kept hH
theorem ix_latin {a : Nat} (ha : a = K 1 ∨ a = K 2) : ix_Met l D AC N0 K M sz 1 yJ0_isLatin1_aae02 cJ0_isLatin1_aae02 1 (some .boolean) [.ref a] (.int 1) (fun _ => True) := by
  refine ix_of (by decide +kernel) (fun p e s m below meth c hx hb hml hr hlocks hown hts hK hN0 hS hX => ?_)
  have hl := lv_entry ([.ref a] : List Value) (n := 1) (Nat.le_of_ble_eq_true rfl)
  generalize (lg_sl ([.ref a] : List Value) ++ List.replicate (1 - (lg_sl ([.ref a] : List Value)).length) Slot.unset).toArray = ls at hl ⊢
  have hl : lv_has ls 1 [(0, .ref a)] := hl
  obtain ⟨-, hco, -⟩ := ix_str hK ha
  refine va_gets hx hb (ix_cs hK) hS.2.2 hown (hts _ w_380) (fun _ q => q) (show decode cJ0_isLatin1_aae02 0 = .ok (.getstatic 38, 3) by decide +kernel) ?_
  refine lv_if_eq (tgt := 17) hx hb (show decode cJ0_isLatin1_aae02 3 = .ok (.ifCond .eq 14, 3) by decide +kernel) (by decide) (fun z => absurd z (by decide)) (fun _ => ?_)
  refine lv_aload_n hx hb (show decode cJ0_isLatin1_aae02 6 = .ok (.aload_n 0, 1) by decide +kernel) rfl (lv_at hl 0 rfl) ?_
  refine vk_getf hx hb hco hS.2.2 hown (hts _ w_1557) (fun _ q => q) (show decode cJ0_isLatin1_aae02 7 = .ok (.getfield 15, 3) by decide +kernel) ?_
  refine lv_if_ne (tgt := 17) hx hb (show decode cJ0_isLatin1_aae02 10 = .ok (.ifCond .ne 7, 3) by decide +kernel) (by decide) (fun z => absurd rfl z) (fun _ => ?_)
  refine lv_iconst (v := 1) hx hb (show decode cJ0_isLatin1_aae02 13 = .ok (.iconst 1, 1) by decide +kernel) (by decide) ?_
  refine lv_goto (tgt := 18) hx hb (show decode cJ0_isLatin1_aae02 14 = .ok (.goto 4, 3) by decide +kernel) (by decide) ?_
  exact W.zret hx hb hr rfl (fun t ht hW => gm_fin hS ht hW hN0) hS.2.2.2.2 (show decode cJ0_isLatin1_aae02 18 = .ok (.ireturn, 1) by decide +kernel)
theorem ix_coder {a : Nat} (ha : a = K 1 ∨ a = K 2) : ix_Met l D AC N0 K M sz 1 yJ0_coder_7d493 cJ0_coder_7d493 1 (some .byte) [.ref a] (.int 0) (fun _ => True) := by
  refine ix_of (by decide +kernel) (fun p e s m below meth c hx hb hml hr hlocks hown hts hK hN0 hS hX => ?_)
  have hl := lv_entry ([.ref a] : List Value) (n := 1) (Nat.le_of_ble_eq_true rfl)
  generalize (lg_sl ([.ref a] : List Value) ++ List.replicate (1 - (lg_sl ([.ref a] : List Value)).length) Slot.unset).toArray = ls at hl ⊢
  have hl : lv_has ls 1 [(0, .ref a)] := hl
  obtain ⟨-, hco, -⟩ := ix_str hK ha
  refine va_gets hx hb (ix_cs hK) hS.2.2 hown (hts _ w_380) (fun _ q => q) (show decode cJ0_coder_7d493 0 = .ok (.getstatic 38, 3) by decide +kernel) ?_
  refine lv_if_eq (tgt := 13) hx hb (show decode cJ0_coder_7d493 3 = .ok (.ifCond .eq 10, 3) by decide +kernel) (by decide) (fun z => absurd z (by decide)) (fun _ => ?_)
  refine lv_aload_n hx hb (show decode cJ0_coder_7d493 6 = .ok (.aload_n 0, 1) by decide +kernel) rfl (lv_at hl 0 rfl) ?_
  refine vk_getf hx hb hco hS.2.2 hown (hts _ w_1557) (fun _ q => q) (show decode cJ0_coder_7d493 7 = .ok (.getfield 15, 3) by decide +kernel) ?_
  refine lv_goto (tgt := 14) hx hb (show decode cJ0_coder_7d493 10 = .ok (.goto 4, 3) by decide +kernel) (by decide) ?_
  exact W.zret hx hb hr rfl (fun t ht hW => gm_fin hS ht hW hN0) hS.2.2.2.2 (show decode cJ0_coder_7d493 14 = .ok (.ireturn, 1) by decide +kernel)
theorem ix_len {a : Nat} (ha : a = K 1 ∨ a = K 2) : ix_Met l D AC N0 K M sz 2 yJ0_length_8abf5 cJ0_length_8abf5 1 (some .int) [.ref a] (.int 8) (fun _ => True) := by
  refine ix_of (by decide +kernel) (fun p e s m below meth c hx hb hml hr hlocks hown hts hK hN0 hS hX => ?_)
  have hl := lv_entry ([.ref a] : List Value) (n := 1) (Nat.le_of_ble_eq_true rfl)
  generalize (lg_sl ([.ref a] : List Value) ++ List.replicate (1 - (lg_sl ([.ref a] : List Value)).length) Slot.unset).toArray = ls at hl ⊢
  have hl : lv_has ls 1 [(0, .ref a)] := hl
  obtain ⟨-, -, b, hva, hT⟩ := ix_str hK ha
  refine lv_aload_n hx hb (show decode cJ0_length_8abf5 0 = .ok (.aload_n 0, 1) by decide +kernel) rfl (lv_at hl 0 rfl) ?_
  refine vk_getf hx hb hva hS.2.2 hown (hts _ w_1558) (fun _ q => q) (show decode cJ0_length_8abf5 1 = .ok (.getfield 9, 3) by decide +kernel) ?_
  refine va_tlen (v := 8) hx hb hT hS.2.2 rfl (show decode cJ0_length_8abf5 4 = .ok (.arraylength, 1) by decide +kernel) ?_
  refine lv_aload_n hx hb (show decode cJ0_length_8abf5 5 = .ok (.aload_n 0, 1) by decide +kernel) rfl (lv_at hl 0 rfl) ?_
  refine ix_callV (na := 0) (rest := [.int 8]) (av := []) hx hb hml hown hts hK hN0 hS ha (ix_coder ha) ix_tr trivial (Nat.le_of_ble_eq_true rfl) (Nat.le_of_ble_eq_true rfl) w_389 w_88 ⟨by decide, by decide, by decide +kernel⟩ w_386 w_387 w_388 rfl hl.1 (Nat.le_of_ble_eq_true rfl) (show decode cJ0_length_8abf5 6 = .ok (.invokevirtual 335, 3) by decide +kernel) ⟨Nat.le_refl _, Nat.le_refl _⟩ (fun H1 locs1 hS => ?_)
  refine lv_ishr hx hb (show decode cJ0_length_8abf5 9 = .ok (.ishr, 1) by decide +kernel) ?_
  exact W.iret hx hb hr (fun t ht hW => gm_fin hS ht hW hN0) hS.2.2.2.2 (show decode cJ0_length_8abf5 10 = .ok (.ireturn, 1) by decide +kernel)
theorem ix_enc {z : Int32} : ix_Met l D AC N0 K M sz 1 yJ1_canEncode_9a6ad cJ1_canEncode_9a6ad 1 (some .boolean) [.int z] (.int (if z < 0 then 0 else if 255 < z then 0 else 1)) (fun _ => True) := by
  refine ix_of (by decide +kernel) (fun p e s m below meth c hx hb hml hr hlocks hown hts hK hN0 hS hX => ?_)
  have hl := lv_entry ([.int z] : List Value) (n := 1) (Nat.le_of_ble_eq_true rfl)
  generalize (lg_sl ([.int z] : List Value) ++ List.replicate (1 - (lg_sl ([.int z] : List Value)).length) Slot.unset).toArray = ls at hl ⊢
  have hl : lv_has ls 1 [(0, .int z)] := hl
  refine lv_iload_n hx hb (show decode cJ1_canEncode_9a6ad 0 = .ok (.iload_n 0, 1) by decide +kernel) rfl (lv_at hl 0 rfl) ?_
  refine lv_if_lt (tgt := 15) hx hb (show decode cJ1_canEncode_9a6ad 1 = .ok (.ifCond .lt 14, 3) by decide +kernel) (by decide) (fun h1 => ?_) (fun h1 => ?_)
  · rw [if_pos h1]
    refine lv_iconst (v := 0) hx hb (show decode cJ1_canEncode_9a6ad 15 = .ok (.iconst 0, 1) by decide +kernel) (by decide) ?_
    exact W.zret hx hb hr rfl (fun t ht hW => gm_fin hS ht hW hN0) hS.2.2.2.2 (show decode cJ1_canEncode_9a6ad 16 = .ok (.ireturn, 1) by decide +kernel)
  · rw [if_neg h1]
    refine lv_iload_n hx hb (show decode cJ1_canEncode_9a6ad 4 = .ok (.iload_n 0, 1) by decide +kernel) rfl (lv_at hl 0 rfl) ?_
    refine lv_sipush (v := 255) hx hb (show decode cJ1_canEncode_9a6ad 5 = .ok (.sipush 255, 3) by decide +kernel) (by decide) ?_
    refine lv_icmp_gt (tgt := 15) hx hb (show decode cJ1_canEncode_9a6ad 8 = .ok (.if_icmp .gt 7, 3) by decide +kernel) (by decide) (fun h2 => ?_) (fun h2 => ?_)
    · rw [if_pos h2]
      refine lv_iconst (v := 0) hx hb (show decode cJ1_canEncode_9a6ad 15 = .ok (.iconst 0, 1) by decide +kernel) (by decide) ?_
      exact W.zret hx hb hr rfl (fun t ht hW => gm_fin hS ht hW hN0) hS.2.2.2.2 (show decode cJ1_canEncode_9a6ad 16 = .ok (.ireturn, 1) by decide +kernel)
    · rw [if_neg h2]
      refine lv_iconst (v := 1) hx hb (show decode cJ1_canEncode_9a6ad 11 = .ok (.iconst 1, 1) by decide +kernel) (by decide) ?_
      refine lv_goto (tgt := 16) hx hb (show decode cJ1_canEncode_9a6ad 12 = .ok (.goto 4, 3) by decide +kernel) (by decide) ?_
      exact W.zret hx hb hr rfl (fun t ht hW => gm_fin hS ht hW hN0) hS.2.2.2.2 (show decode cJ1_canEncode_9a6ad 16 = .ok (.ireturn, 1) by decide +kernel)
/-- from place k on -/
def ix_F (y : Int32) : Nat → Nat → Int32
  | 0, _ => -1
  | n + 1, k => if gm_kb.getD k 0 = y then nI k else ix_F y n (k + 1)
theorem ix_loop {p : Program} {e : Env} {R : Room} {s : State} {m : MethodId} {args : Array Value} {below : List Frame} {meth : Method} {c : Code} {b : Nat} {z y : Int32} (hx : p.tables.exec = Jvm.exec) (hb : c.code = cJ1_indexOfChar_4cfef) (hr : meth.sig.returnType = some .int) (hlocks : meth.locks = false) (hN0 : N0 ≤ s.heap.size) {H : Heap} {locs : List Loc} (hS : gm_S D vwCl AC N0 s M s.heap.size H locs) (hT : va_T .byte b 8 (fun j => .int (gm_kb.getD j 0)) (fun q => N0 ≤ q) s s.heap) :
    ∀ n k, n + k = 8 → ∀ ls : Array Slot, lv_has ls 6 [(5, .int (nI k)), (4, .int y), (0, .ref b), (1, .int z), (2, .int 0), (3, .int 8)] → W p l e R s m args below meth c H locs 0 0 (MQ below (gm_Qc D vwCl AC N0 (some (.int (ix_F y n k))) M s.heap.size) args s 0 0 (fun q => N0 ≤ q)) (F0 m 7 ls []) := by
  intro n
  induction n with
  | zero =>
    intro k hk ls hl
    obtain rfl : k = 8 := by omega
    refine lv_iload hx hb (show decode cJ1_indexOfChar_4cfef 7 = .ok (.iload 5, 2) by decide +kernel) (lv_at hl 0 rfl) ?_
    refine lv_iload_n hx hb (show decode cJ1_indexOfChar_4cfef 9 = .ok (.iload_n 3, 1) by decide +kernel) rfl (lv_at hl 5 rfl) ?_
    refine lv_icmp_ge (tgt := 31) hx hb (show decode cJ1_indexOfChar_4cfef 10 = .ok (.if_icmp .ge 21, 3) by decide +kernel) (by decide) (fun _ => ?_) (fun h => absurd (by decide) h)
    refine lv_iconst (v := -1) hx hb (show decode cJ1_indexOfChar_4cfef 31 = .ok (.iconst (-1), 1) by decide +kernel) (by decide) ?_
    exact W.iret hx hb hr (fun t ht hW => gm_fin hS ht hW hN0) hS.2.2.2.2 (show decode cJ1_indexOfChar_4cfef 32 = .ok (.ireturn, 1) by decide +kernel)
  | succ n ih =>
    intro k hk ls hl
    have hk8 : k < 8 := by omega
    refine lv_iload hx hb (show decode cJ1_indexOfChar_4cfef 7 = .ok (.iload 5, 2) by decide +kernel) (lv_at hl 0 rfl) ?_
    refine lv_iload_n hx hb (show decode cJ1_indexOfChar_4cfef 9 = .ok (.iload_n 3, 1) by decide +kernel) rfl (lv_at hl 5 rfl) ?_
    refine lv_icmp_ge (tgt := 31) hx hb (show decode cJ1_indexOfChar_4cfef 10 = .ok (.if_icmp .ge 21, 3) by decide +kernel) (by decide) (fun h => absurd h (ix_lt hk8)) (fun _ => ?_)
    refine lv_aload_n hx hb (show decode cJ1_indexOfChar_4cfef 13 = .ok (.aload_n 0, 1) by decide +kernel) rfl (lv_at hl 2 rfl) ?_
    refine lv_iload hx hb (show decode cJ1_indexOfChar_4cfef 14 = .ok (.iload 5, 2) by decide +kernel) (lv_at hl 0 rfl) ?_
    refine va_tb (v := .int (gm_kb.getD k 0)) hx hb hT hS.2.2 (gm_rng hk8 (by decide)) (by rw [nI_clamp (by omega)]) (show decode cJ1_indexOfChar_4cfef 16 = .ok (.baload, 1) by decide +kernel) ?_
    refine lv_iload hx hb (show decode cJ1_indexOfChar_4cfef 17 = .ok (.iload 4, 2) by decide +kernel) (lv_at hl 1 rfl) ?_
    refine lv_icmp_ne (tgt := 25) hx hb (show decode cJ1_indexOfChar_4cfef 19 = .ok (.if_icmp .ne 6, 3) by decide +kernel) (by decide) (fun hne => ?_) (fun he => ?_)
    · refine lv_iinc (k := 0) (v := nI (k + 1)) hx hb (show decode cJ1_indexOfChar_4cfef 25 = .ok (.iinc 5 1, 3) by decide +kernel) hl rfl (ix_suc hk8) (by decide) rfl (fun ls1 hl1 => ?_)
      refine lv_goto (tgt := 7) hx hb (show decode cJ1_indexOfChar_4cfef 28 = .ok (.goto (-21), 3) by decide +kernel) (by decide) ?_
      have h2 := ih (k + 1) (by omega) ls1 hl1
      rw [ix_F, if_neg hne]
      exact h2
    · rw [ix_F, if_pos he]
      refine lv_iload hx hb (show decode cJ1_indexOfChar_4cfef 22 = .ok (.iload 5, 2) by decide +kernel) (lv_at hl 0 rfl) ?_
      exact W.iret hx hb hr (fun t ht hW => gm_fin hS ht hW hN0) hS.2.2.2.2 (show decode cJ1_indexOfChar_4cfef 24 = .ok (.ireturn, 1) by decide +kernel)
theorem ix_char {b : Nat} {z : Int32} : ix_Met l D AC N0 K M sz 1 yJ1_indexOfChar_4cfef cJ1_indexOfChar_4cfef 6 (some .int) [.ref b, .int z, .int 0, .int 8] (.int (ix_F z.toInt8.toInt32 8 0)) (ix_X N0 b) := by
  refine ix_of (by decide +kernel) (fun p e s m below meth c hx hb hml hr hlocks hown hts hK hN0 hS hX => ?_)
  have hl := lv_entry ([.ref b, .int z, .int 0, .int 8] : List Value) (n := 6) (Nat.le_of_ble_eq_true rfl)
  generalize (lg_sl ([.ref b, .int z, .int 0, .int 8] : List Value) ++ List.replicate (6 - (lg_sl ([.ref b, .int z, .int 0, .int 8] : List Value)).length) Slot.unset).toArray = ls at hl ⊢
  have hl : lv_has ls 6 [(0, .ref b), (1, .int z), (2, .int 0), (3, .int 8)] := hl
  refine lv_iload_n hx hb (show decode cJ1_indexOfChar_4cfef 0 = .ok (.iload_n 1, 1) by decide +kernel) rfl (lv_at hl 1 rfl) ?_
  refine lv_i2b (v := z.toInt8.toInt32) hx hb (show decode cJ1_indexOfChar_4cfef 1 = .ok (.i2b, 1) by decide +kernel) rfl ?_
  refine lv_istore hx hb (show decode cJ1_indexOfChar_4cfef 2 = .ok (.istore 4, 2) by decide +kernel) hl (by decide) rfl (fun ls1 hl1 => ?_)
  refine lv_iload_n hx hb (show decode cJ1_indexOfChar_4cfef 4 = .ok (.iload_n 2, 1) by decide +kernel) rfl (lv_at hl1 3 rfl) ?_
  refine lv_istore hx hb (show decode cJ1_indexOfChar_4cfef 5 = .ok (.istore 5, 2) by decide +kernel) hl1 (by decide) rfl (fun ls2 hl2 => ?_)
  exact ix_loop hx hb hr hlocks hN0 hS hX 8 0 rfl ls2 hl2
def ix_R (z : Int32) : Int32 := if z < 0 then -1 else if 255 < z then -1 else ix_F z.toInt8.toInt32 8 0
theorem ix_lat {b : Nat} {z : Int32} : ix_Met l D AC N0 K M sz 2 yJ1_indexOf_4cfef cJ1_indexOf_4cfef 4 (some .int) [.ref b, .int z, .int 0, .int 8] (.int (ix_R z)) (ix_X N0 b) := by
  refine ix_of (by decide +kernel) (fun p e s m below meth c hx hb hml hr hlocks hown hts hK hN0 hS hX => ?_)
  have hl := lv_entry ([.ref b, .int z, .int 0, .int 8] : List Value) (n := 4) (Nat.le_of_ble_eq_true rfl)
  generalize (lg_sl ([.ref b, .int z, .int 0, .int 8] : List Value) ++ List.replicate (4 - (lg_sl ([.ref b, .int z, .int 0, .int 8] : List Value)).length) Slot.unset).toArray = ls at hl ⊢
  have hl : lv_has ls 4 [(0, .ref b), (1, .int z), (2, .int 0), (3, .int 8)] := hl
  refine lv_iload_n hx hb (show decode cJ1_indexOf_4cfef 0 = .ok (.iload_n 1, 1) by decide +kernel) rfl (lv_at hl 1 rfl) ?_
  refine ix_callS (na := 1) (rest := []) (av := [.int z]) hx hb hml hown hts hK hN0 hS (ix_enc (z := z)) ix_tr trivial (Nat.le_of_ble_eq_true rfl) (Nat.le_of_ble_eq_true rfl) w_395 w_89 ⟨by decide, by decide, by decide +kernel⟩ w_393 w_394 rfl hl.1 (Nat.le_of_ble_eq_true rfl) (show decode cJ1_indexOf_4cfef 1 = .ok (.invokestatic 88, 3) by decide +kernel) ⟨Nat.le_refl _, Nat.le_refl _⟩ (fun H1 locs1 hS => ?_)
  refine lv_if_ne (tgt := 9) hx hb (show decode cJ1_indexOf_4cfef 4 = .ok (.ifCond .ne 5, 3) by decide +kernel) (by decide) (fun h1 => ?_) (fun h1 => ?_)
  · have hzz : ix_R z = ix_F z.toInt8.toInt32 8 0 := by
      unfold ix_R
      by_cases z1 : z < 0
      · rw [if_pos z1] at h1; exact absurd rfl h1
      · rw [if_neg z1] at h1 ⊢
        by_cases z2 : 255 < z
        · rw [if_pos z2] at h1; exact absurd rfl h1
        · rw [if_neg z2]
    rw [hzz]
    refine lv_iload_n hx hb (show decode cJ1_indexOf_4cfef 9 = .ok (.iload_n 2, 1) by decide +kernel) rfl (lv_at hl 2 rfl) ?_
    refine lv_iconst (v := 0) hx hb (show decode cJ1_indexOf_4cfef 10 = .ok (.iconst 0, 1) by decide +kernel) (by decide) ?_
    refine va_mmax hx hb (hml.trans hl.1.symm) hown (hts _ w_396) (hts _ w_397) (hts _ w_90) (hts _ w_398) (Nat.le_of_ble_eq_true rfl) (Nat.le_of_ble_eq_true rfl) (Nat.le_refl _) (Nat.le_refl _) (show decode cJ1_indexOf_4cfef 11 = .ok (.invokestatic 92, 3) by decide +kernel) ?_
    refine lv_istore_n hx hb (show decode cJ1_indexOf_4cfef 14 = .ok (.istore_n 2, 1) by decide +kernel) rfl hl (by decide) rfl (fun ls1 hl => ?_)
    refine lv_iload_n hx hb (show decode cJ1_indexOf_4cfef 15 = .ok (.iload_n 3, 1) by decide +kernel) rfl (lv_at hl 3 rfl) ?_
    refine lv_aload_n hx hb (show decode cJ1_indexOf_4cfef 16 = .ok (.aload_n 0, 1) by decide +kernel) rfl (lv_at hl 1 rfl) ?_
    refine va_tlen (v := 8) hx hb hX hS.2.2 rfl (show decode cJ1_indexOf_4cfef 17 = .ok (.arraylength, 1) by decide +kernel) ?_
    refine va_mmin hx hb (hml.trans hl.1.symm) hown (hts _ w_399) (hts _ w_400) (hts _ w_90) (hts _ w_401) (Nat.le_of_ble_eq_true rfl) (Nat.le_of_ble_eq_true rfl) (Nat.le_refl _) (Nat.le_refl _) (show decode cJ1_indexOf_4cfef 18 = .ok (.invokestatic 38, 3) by decide +kernel) ?_
    refine lv_istore_n hx hb (show decode cJ1_indexOf_4cfef 21 = .ok (.istore_n 3, 1) by decide +kernel) rfl hl (by decide) rfl (fun ls2 hl => ?_)
    refine lv_iload_n hx hb (show decode cJ1_indexOf_4cfef 22 = .ok (.iload_n 2, 1) by decide +kernel) rfl (lv_at hl 1 rfl) ?_
    refine lv_iload_n hx hb (show decode cJ1_indexOf_4cfef 23 = .ok (.iload_n 3, 1) by decide +kernel) rfl (lv_at hl 0 rfl) ?_
    refine lv_icmp_lt (tgt := 29) hx hb (show decode cJ1_indexOf_4cfef 24 = .ok (.if_icmp .lt 5, 3) by decide +kernel) (by decide) (fun _ => ?_) (fun h => absurd (by decide) h)
    refine lv_aload_n hx hb (show decode cJ1_indexOf_4cfef 29 = .ok (.aload_n 0, 1) by decide +kernel) rfl (lv_at hl 2 rfl) ?_
    refine lv_iload_n hx hb (show decode cJ1_indexOf_4cfef 30 = .ok (.iload_n 1, 1) by decide +kernel) rfl (lv_at hl 3 rfl) ?_
    refine lv_iload_n hx hb (show decode cJ1_indexOf_4cfef 31 = .ok (.iload_n 2, 1) by decide +kernel) rfl (lv_at hl 1 rfl) ?_
    refine lv_iload_n hx hb (show decode cJ1_indexOf_4cfef 32 = .ok (.iload_n 3, 1) by decide +kernel) rfl (lv_at hl 0 rfl) ?_
    refine ix_callS (na := 4) (rest := []) (av := [.ref b, .int z, .int 0, .int 8]) hx hb hml hown hts hK hN0 hS (ix_char (b := b) (z := z)) ix_Xst hX (Nat.le_of_ble_eq_true rfl) (Nat.le_of_ble_eq_true rfl) w_404 w_89 ⟨by decide, by decide, by decide +kernel⟩ w_402 w_403 rfl hl.1 (Nat.le_of_ble_eq_true rfl) (show decode cJ1_indexOf_4cfef 33 = .ok (.invokestatic 95, 3) by decide +kernel) ⟨Nat.le_refl _, Nat.le_refl _⟩ (fun H1 locs1 hS => ?_)
    exact W.iret hx hb hr (fun t ht hW => gm_fin hS ht hW hN0) hS.2.2.2.2 (show decode cJ1_indexOf_4cfef 36 = .ok (.ireturn, 1) by decide +kernel)
  · have hzz : ix_R z = -1 := by
      unfold ix_R
      by_cases z1 : z < 0
      · rw [if_pos z1]
      · rw [if_neg z1] at h1 ⊢
        by_cases z2 : 255 < z
        · rw [if_pos z2]
        · rw [if_neg z2] at h1; exact absurd h1 (by decide)
    rw [hzz]
    refine lv_iconst (v := -1) hx hb (show decode cJ1_indexOf_4cfef 7 = .ok (.iconst (-1), 1) by decide +kernel) (by decide) ?_
    exact W.iret hx hb hr (fun t ht hW => gm_fin hS ht hW hN0) hS.2.2.2.2 (show decode cJ1_indexOf_4cfef 8 = .ok (.ireturn, 1) by decide +kernel)
theorem ix_two {a : Nat} (ha : a = K 1 ∨ a = K 2) {z : Int32} : ix_Met l D AC N0 K M sz 3 yJ0_indexOf_7cf53 cJ0_indexOf_7cf53 3 (some .int) [.ref a, .int z, .int 0] (.int (ix_R z)) (fun _ => True) := by
  refine ix_of (by decide +kernel) (fun p e s m below meth c hx hb hml hr hlocks hown hts hK hN0 hS hX => ?_)
  have hl := lv_entry ([.ref a, .int z, .int 0] : List Value) (n := 3) (Nat.le_of_ble_eq_true rfl)
  generalize (lg_sl ([.ref a, .int z, .int 0] : List Value) ++ List.replicate (3 - (lg_sl ([.ref a, .int z, .int 0] : List Value)).length) Slot.unset).toArray = ls at hl ⊢
  have hl : lv_has ls 3 [(0, .ref a), (1, .int z), (2, .int 0)] := hl
  obtain ⟨-, -, b, hva, hT⟩ := ix_str hK ha
  refine lv_aload_n hx hb (show decode cJ0_indexOf_7cf53 0 = .ok (.aload_n 0, 1) by decide +kernel) rfl (lv_at hl 0 rfl) ?_
  refine ix_callV (na := 0) (rest := []) (av := []) hx hb hml hown hts hK hN0 hS ha (ix_latin ha) ix_tr trivial (Nat.le_of_ble_eq_true rfl) (Nat.le_of_ble_eq_true rfl) w_379 w_88 ⟨by decide, by decide, by decide +kernel⟩ w_376 w_377 w_378 rfl hl.1 (Nat.le_of_ble_eq_true rfl) (show decode cJ0_indexOf_7cf53 1 = .ok (.invokevirtual 492, 3) by decide +kernel) ⟨Nat.le_refl _, Nat.le_refl _⟩ (fun H1 locs1 hS => ?_)
  refine lv_if_eq (tgt := 23) hx hb (show decode cJ0_indexOf_7cf53 4 = .ok (.ifCond .eq 19, 3) by decide +kernel) (by decide) (fun h => absurd h (by decide)) (fun _ => ?_)
  refine lv_aload_n hx hb (show decode cJ0_indexOf_7cf53 7 = .ok (.aload_n 0, 1) by decide +kernel) rfl (lv_at hl 0 rfl) ?_
  refine vk_getf hx hb hva hS.2.2 hown (hts _ w_1558) (fun _ q => q) (show decode cJ0_indexOf_7cf53 8 = .ok (.getfield 9, 3) by decide +kernel) ?_
  refine lv_iload_n hx hb (show decode cJ0_indexOf_7cf53 11 = .ok (.iload_n 1, 1) by decide +kernel) rfl (lv_at hl 1 rfl) ?_
  refine lv_iload_n hx hb (show decode cJ0_indexOf_7cf53 12 = .ok (.iload_n 2, 1) by decide +kernel) rfl (lv_at hl 2 rfl) ?_
  refine lv_aload_n hx hb (show decode cJ0_indexOf_7cf53 13 = .ok (.aload_n 0, 1) by decide +kernel) rfl (lv_at hl 0 rfl) ?_
  refine ix_callV (na := 0) (rest := [.int 0, .int z, .ref b]) (av := []) hx hb hml hown hts hK hN0 hS ha (ix_len ha) ix_tr trivial (Nat.le_of_ble_eq_true rfl) (Nat.le_of_ble_eq_true rfl) w_385 w_88 ⟨by decide, by decide, by decide +kernel⟩ w_382 w_383 w_384 rfl hl.1 (Nat.le_of_ble_eq_true rfl) (show decode cJ0_indexOf_7cf53 14 = .ok (.invokevirtual 505, 3) by decide +kernel) ⟨Nat.le_refl _, Nat.le_refl _⟩ (fun H1 locs1 hS => ?_)
  refine ix_callS (na := 4) (rest := []) (av := [.ref b, .int z, .int 0, .int 8]) hx hb hml hown hts hK hN0 hS (ix_lat (b := b) (z := z)) ix_Xst hT (Nat.le_of_ble_eq_true rfl) (Nat.le_of_ble_eq_true rfl) w_392 w_89 ⟨by decide, by decide, by decide +kernel⟩ w_390 w_391 rfl hl.1 (Nat.le_of_ble_eq_true rfl) (show decode cJ0_indexOf_7cf53 17 = .ok (.invokestatic 637, 3) by decide +kernel) ⟨Nat.le_refl _, Nat.le_refl _⟩ (fun H1 locs1 hS => ?_)
  refine lv_goto (tgt := 36) hx hb (show decode cJ0_indexOf_7cf53 20 = .ok (.goto 16, 3) by decide +kernel) (by decide) ?_
  exact W.iret hx hb hr (fun t ht hW => gm_fin hS ht hW hN0) hS.2.2.2.2 (show decode cJ0_indexOf_7cf53 36 = .ok (.ireturn, 1) by decide +kernel)
theorem ix_R_ix (z : Int32) : ix_R z = gm_ix z := by
  by_cases h1 : z < 0
  · rw [ix_R, if_pos h1]
    unfold gm_ix
    repeat (rw [if_neg (fun q => by rw [q] at h1; exact absurd h1 (by decide))])
  · by_cases h2 : 255 < z
    · rw [ix_R, if_neg h1, if_pos h2]
      unfold gm_ix
      repeat (rw [if_neg (fun q => by rw [q] at h2; exact absurd h2 (by decide))])
    · have key : ∀ n : Fin 256, ix_R (Int32.ofNat n.1) = gm_ix (Int32.ofNat n.1) := by decide +kernel
      have hz0 : (0 : Int) ≤ z.toInt := by
        have := Int32.not_lt.mp h1
        simpa using Int32.le_iff_toInt_le.mp this
      have hz1 : z.toInt ≤ 255 := by
        have := Int32.not_lt.mp h2
        simpa using Int32.le_iff_toInt_le.mp this
      have he : z = Int32.ofNat z.toInt.toNat := by
        apply Int32.toInt_inj.mp
        rw [Int32.toInt_ofNat_of_lt (by omega)]
        omega
      rw [he]
      exact key ⟨z.toInt.toNat, by omega⟩
/-- the contract that gm_sound asks -/
theorem ix_hix (d a : Nat) (z : Int32) (M : gm_H) (sz : Nat) (ha : a = K 1 ∨ a = K 2) : Met l gm_yix (Cond.code gm_yix cJ0_indexOf_0f7a4 2 (some .int) :: ra_Tg) (gm_room d 0 0) (va_Pc [.ref a, .int z] (gm_Pre D vwCl AC N0 ra_Ns ra_As (ra_Zs K) (ra_Ss K) M sz)) (gm_Qc D vwCl AC N0 (some (.int (gm_ix z))) M sz) 0 0 (fun q => N0 ≤ q) := by
  refine Met.ofW (cc := cJ0_indexOf_0f7a4) (maxL := 2) (ret := some .int) (by decide +kernel) rfl ?_
  intro p e s m args below meth c s₁ B hml hv
  obtain ⟨rfl, hok, hsz, hN0, hK⟩ := hv
  subst hsz
  have hts0 := atoms_spec (ws := Cond.code gm_yix cJ0_indexOf_0f7a4 2 (some .int) :: ra_Tg) B.pre
  have hts : ∀ w ∈ ra_Tg, w.before ([.ref a, .int z] : List Value).toArray s = true := fun w hw => hts0 w (List.mem_cons_of_mem _ hw)
  have hx := B.exec
  have hb := B.bytes
  have hr := B.returns
  have hlocks := B.notSynchronized
  have hown : s.vm.findClass "java/lang/String" = some m.cls := findClass_of_methodNamed B.named
  have hS : gm_S D vwCl AC N0 s M s.heap.size s.heap [] := ⟨hok, rfl, va_S.rf⟩
  rw [lg_entry_eq, ← ix_R_ix]
  have hl := lv_entry ([.ref a, .int z] : List Value) (n := 2) (Nat.le_of_ble_eq_true rfl)
  generalize (lg_sl ([.ref a, .int z] : List Value) ++ List.replicate (2 - (lg_sl ([.ref a, .int z] : List Value)).length) Slot.unset).toArray = ls at hl ⊢
  have hl : lv_has ls 2 [(0, .ref a), (1, .int z)] := hl
  refine lv_aload_n hx hb (show decode cJ0_indexOf_0f7a4 0 = .ok (.aload_n 0, 1) by decide +kernel) rfl (lv_at hl 0 rfl) ?_
  refine lv_iload_n hx hb (show decode cJ0_indexOf_0f7a4 1 = .ok (.iload_n 1, 1) by decide +kernel) rfl (lv_at hl 1 rfl) ?_
  refine lv_iconst (v := 0) hx hb (show decode cJ0_indexOf_0f7a4 2 = .ok (.iconst 0, 1) by decide +kernel) (by decide) ?_
  refine ix_callV (na := 2) (rest := []) (av := [.int z, .int 0]) hx hb hml hown hts hK hN0 hS ha (ix_two ha) ix_tr trivial (by show 3 + 1 ≤ d + 4; omega) (by show 8 + (3 + 11) + 70 * 3 ≤ 100 * d + 300; omega) w_375 w_88 ⟨by decide, by decide, by decide +kernel⟩ w_372 w_373 w_374 rfl hl.1 (Nat.le_of_ble_eq_true rfl) (show decode cJ0_indexOf_0f7a4 3 = .ok (.invokevirtual 633, 3) by decide +kernel) ⟨Nat.le_refl _, Nat.le_refl _⟩ (fun H1 locs1 hS => ?_)
  exact W.iret hx hb hr (fun t ht hW => gm_fin hS ht hW hN0) hS.2.2.2.2 (show decode cJ0_indexOf_0f7a4 6 = .ok (.ireturn, 1) by decide +kernel)
end IXM
