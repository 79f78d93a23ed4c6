/-! gm_pure: the instructions that touch neither heap nor tables -/
abbrev gm_C : Type := Nat × gm_Ls × List Value
def gm_ldi (pc : Nat) (ls : gm_Ls) (st : List Value) (i : Nat) : Option gm_C := match gm_lget ls i with
  | some (.int x) => some (pc, ls, .int x :: st)
  | _ => none
def gm_ldl (pc : Nat) (ls : gm_Ls) (st : List Value) (i : Nat) : Option gm_C := match gm_lget ls i with
  | some (.long x) => some (pc, ls, .long x :: st)
  | _ => none
def gm_lda (pc : Nat) (ls : gm_Ls) (st : List Value) (i : Nat) : Option gm_C := match gm_lget ls i with
  | some (.ref x) => some (pc, ls, .ref x :: st)
  | some .null => some (pc, ls, .null :: st)
  | _ => none
def gm_sti (pc : Nat) (ls : gm_Ls) (i : Nat) : List Value → Option gm_C
  | .int x :: r => if i < ls.length then some (pc, gm_l1 ls i (.int x), r) else none
  | _ => none
def gm_stl (pc : Nat) (ls : gm_Ls) (i : Nat) : List Value → Option gm_C
  | .long x :: r => if i + 1 < ls.length then some (pc, gm_l2 ls i (.long x), r) else none
  | _ => none
def gm_sta (pc : Nat) (ls : gm_Ls) (i : Nat) : List Value → Option gm_C
  | .ref x :: r => if i < ls.length then some (pc, gm_l1 ls i (.ref x), r) else none
  | .null :: r => if i < ls.length then some (pc, gm_l1 ls i .null, r) else none
  | _ => none
def gm_i2 (pc : Nat) (ls : gm_Ls) (f : Int32 → Int32 → Int32) : List Value → Option gm_C
  | .int y :: .int x :: r => some (pc + 1, ls, .int (f x y) :: r)
  | _ => none
def gm_i2z (pc : Nat) (ls : gm_Ls) (f : Int32 → Int32 → Int32) : List Value → Option gm_C
  | .int y :: .int x :: r => if y = 0 then none else some (pc + 1, ls, .int (f x y) :: r)
  | _ => none
def gm_l2op (pc : Nat) (ls : gm_Ls) (f : Int64 → Int64 → Int64) : List Value → Option gm_C
  | .long y :: .long x :: r => some (pc + 1, ls, .long (f x y) :: r)
  | _ => none
def gm_lsh (pc : Nat) (ls : gm_Ls) (f : Int64 → Int32 → Int64) : List Value → Option gm_C
  | .int y :: .long x :: r => some (pc + 1, ls, .long (f x y) :: r)
  | _ => none
def gm_c0 (c : ClassFile.Cond) (x : Int32) : Bool := match c with
  | .eq => decide (x = 0)
  | .ne => decide (¬ x = 0)
  | .lt => decide (x < 0)
  | .ge => decide (0 ≤ x)
  | .gt => decide (0 < x)
  | .le => decide (x ≤ 0)
def gm_c2 (c : ClassFile.Cond) (x y : Int32) : Bool := match c with
  | .eq => decide (x = y)
  | .ne => decide (¬ x = y)
  | .lt => decide (x < y)
  | .ge => decide (y ≤ x)
  | .gt => decide (y < x)
  | .le => decide (x ≤ y)
/-- a jump -/
def gm_jmp (pc : Nat) (off : Int) (ls : gm_Ls) (st : List Value) : Option gm_C := if 0 ≤ (pc : Int) + off then some (((pc : Int) + off).toNat, ls, st) else none
def gm_pure (i : Instr) (pc : Nat) (ls : gm_Ls) (st : List Value) : Option gm_C := match i with
  | .iconst n => some (pc + 1, ls, .int (Int32.ofInt n) :: st)
  | .bipush n => some (pc + 2, ls, .int (Int8.ofInt n).toInt32 :: st)
  | .sipush n => some (pc + 3, ls, .int (Int16.ofInt n).toInt32 :: st)
  | .lconst n => some (pc + 1, ls, .long (Int64.ofNat (n : Nat)) :: st)
  | .aconst_null => some (pc + 1, ls, .null :: st)
  | .iload k => gm_ldi (pc + 2) ls st k
  | .iload_n k => gm_ldi (pc + 1) ls st k
  | .lload k => gm_ldl (pc + 2) ls st k
  | .lload_n k => gm_ldl (pc + 1) ls st k
  | .aload k => gm_lda (pc + 2) ls st k
  | .aload_n k => gm_lda (pc + 1) ls st k
  | .istore k => gm_sti (pc + 2) ls k st
  | .istore_n k => gm_sti (pc + 1) ls k st
  | .lstore k => gm_stl (pc + 2) ls k st
  | .lstore_n k => gm_stl (pc + 1) ls k st
  | .astore k => gm_sta (pc + 2) ls k st
  | .astore_n k => gm_sta (pc + 1) ls k st
  | .iinc k n => match gm_lget ls k with
    | some (.int x) => some (pc + 3, gm_l1 ls k (.int (x + Int32.ofInt n)), st)
    | _ => none
  | .iadd => gm_i2 pc ls (fun x y => x + y) st
  | .isub => gm_i2 pc ls (fun x y => x - y) st
  | .imul => gm_i2 pc ls (fun x y => x * y) st
  | .iand => gm_i2 pc ls (fun x y => x &&& y) st
  | .ior => gm_i2 pc ls (fun x y => x ||| y) st
  | .ixor => gm_i2 pc ls (fun x y => x ^^^ y) st
  | .ishl => gm_i2 pc ls (fun x y => x <<< (y &&& 31)) st
  | .ishr => gm_i2 pc ls (fun x y => x >>> (y &&& 31)) st
  | .iushr => gm_i2 pc ls (fun x y => (x.toUInt32 >>> (y.toUInt32 &&& Int32.toUInt32 31)).toInt32) st
  | .idiv => gm_i2z pc ls (fun x y => x / y) st
  | .irem => gm_i2z pc ls (fun x y => x - x / y * y) st
  | .ladd => gm_l2op pc ls (fun x y => x + y) st
  | .lsub => gm_l2op pc ls (fun x y => x - y) st
  | .lmul => gm_l2op pc ls (fun x y => x * y) st
  | .land => gm_l2op pc ls (fun x y => x &&& y) st
  | .lor => gm_l2op pc ls (fun x y => x ||| y) st
  | .lxor => gm_l2op pc ls (fun x y => x ^^^ y) st
  | .lshl => gm_lsh pc ls (fun x y => x <<< (y.toInt64 &&& 63)) st
  | .lshr => gm_lsh pc ls (fun x y => x >>> (y.toInt64 &&& 63)) st
  | .lushr => gm_lsh pc ls (fun x y => (x.toUInt64 >>> (y.toInt64.toUInt64 &&& Int64.toUInt64 63)).toInt64) st
  | .lcmp => match st with
    | .long y :: .long x :: r => some (pc + 1, ls, .int (lg_cmp x y) :: r)
    | _ => none
  | .ineg => match st with
    | .int x :: r => some (pc + 1, ls, .int (-x) :: r)
    | _ => none
  | .i2l => match st with
    | .int x :: r => some (pc + 1, ls, .long x.toInt64 :: r)
    | _ => none
  | .l2i => match st with
    | .long x :: r => some (pc + 1, ls, .int x.toInt32 :: r)
    | _ => none
  | .i2c => match st with
    | .int x :: r => some (pc + 1, ls, .int (x.toUInt32 % 65536).toInt32 :: r)
    | _ => none
  | .dup => match st with
    | v :: r => if v.category = 1 then some (pc + 1, ls, v :: v :: r) else none
    | _ => none
  | .pop => match st with
    | v :: r => if v.category = 1 then some (pc + 1, ls, r) else none
    | _ => none
  | .dup_x1 => match st with
    | v :: w :: r => if v.category = 1 ∧ w.category = 1 then some (pc + 1, ls, v :: w :: v :: r) else none
    | _ => none
  | .dup_x2 => match st with
    | v :: w :: u :: r => if v.category = 1 ∧ w.category = 1 ∧ u.category = 1 then some (pc + 1, ls, v :: w :: u :: v :: r) else none
    | _ => none
  | .dup2 => match st with
    | v :: w :: r => if v.category = 1 ∧ w.category = 1 then some (pc + 1, ls, v :: w :: v :: w :: r) else none
    | _ => none
  | .goto off => gm_jmp pc off ls st
  | .ifCond c off => match st with
    | .int x :: r => if gm_c0 c x then gm_jmp pc off ls r else some (pc + 3, ls, r)
    | _ => none
  | .if_icmp c off => match st with
    | .int y :: .int x :: r => if gm_c2 c x y then gm_jmp pc off ls r else some (pc + 3, ls, r)
    | _ => none
  | .ifnull off => match st with
    | .null :: r => gm_jmp pc off ls r
    | .ref _ :: r => some (pc + 3, ls, r)
    | _ => none
  | .ifnonnull off => match st with
    | .ref _ :: r => gm_jmp pc off ls r
    | .null :: r => some (pc + 3, ls, r)
    | _ => none
  | .tableswitch d lo hi offs => match st with
    | .int x :: r => if x.toInt < lo ∨ hi < x.toInt then gm_jmp pc d ls r else (match offs[(x.toInt - lo).toNat]? with
      | some off => gm_jmp pc off ls r
      | none => none)
    | _ => none
  | .lookupswitch d ps => match st with
    | .int x :: r => if (ps.toList.zip (ps.toList.drop 1)).all (fun (a, next) => a.1 < next.1) = true then gm_jmp pc (Op.lookupswitch.offset ps.toList d x.toInt) ls r else none
    | _ => none
  | _ => none
/-- the lengths that the rows ask for -/
def gm_len (i : Instr) (len : Nat) : Bool := match i with
  | .bipush _ | .iload _ | .lload _ | .aload _ | .istore _ | .lstore _ | .astore _ | .newarray _ | .ldc _ => len == 2
  | .sipush _ | .iinc _ _ | .goto _ | .ifCond _ _ | .if_icmp _ _ | .ifnull _ | .ifnonnull _ | .getfield _ | .putfield _ | .getstatic _ | .new _ | .anewarray _ | .invokevirtual _ | .invokestatic _ | .invokespecial _ | .ldc2_w _ | .ldc_w _ | .checkcast _ => len == 3
  | .tableswitch _ _ _ _ | .lookupswitch _ _ => true
  | _ => len == 1
def gm_dec (cc : ByteArray) (pc : Nat) (i : Instr) : Prop := ∃ len, decode cc pc = .ok (i, len) ∧ gm_len i len = true
section GMP
variable {p : Program} {l : Launch} {e : Env} {R : Room} {s : State} {m : MethodId} {args : Array Value} {below : List Frame} {meth : Method} {c : Code} {H : Heap} {locs : List Loc} {cells slots : Nat} {Q : State → Prop}
variable {cc : ByteArray} {pc : Nat} {ls : gm_Ls} {arr : Array Slot} {rest : List Value}
theorem gm_null_ld (hexec : p.tables.exec = Jvm.exec) (hb : c.code = cc) {i : Nat} (hdg : decode cc pc = .ok (.aload i, 2)) (hl : arr[i]? = some (.val .null))
    (k : W p l e R s m args below meth c H locs cells slots Q (F0 m (pc + 2) arr (.null :: rest))) : W p l e R s m args below meth c H locs cells slots Q (F0 m pc arr (rest)) := by
  intro T hT X
  obtain ⟨t, a, b⟩ := k T hT X
  refine ⟨t, ?_, b⟩
  jvm_step X.here [X.here.top, hexec, hb, hdg, hl, Value.isRef]
  exact a
theorem gm_null_ldn (hexec : p.tables.exec = Jvm.exec) (hb : c.code = cc) {k : Fin 4} (hdg : decode cc pc = .ok (.aload_n k, 1)) (hl : arr[(k : Nat)]? = some (.val .null))
    (kk : W p l e R s m args below meth c H locs cells slots Q (F0 m (pc + 1) arr (.null :: rest))) : W p l e R s m args below meth c H locs cells slots Q (F0 m pc arr (rest)) := by
  intro T hT X
  obtain ⟨t, a, b⟩ := kk T hT X
  refine ⟨t, ?_, b⟩
  jvm_step X.here [X.here.top, hexec, hb, hdg, hl, Value.isRef]
  exact a
theorem gm_null_st (hexec : p.tables.exec = Jvm.exec) (hb : c.code = cc) {i : Nat} {arr' : Array Slot} (hdg : decode cc pc = .ok (.astore i, 2)) (e' : storeLocals arr i .null = some arr')
    (k : W p l e R s m args below meth c H locs cells slots Q (F0 m (pc + 2) arr' rest)) : W p l e R s m args below meth c H locs cells slots Q (F0 m pc arr (.null :: rest)) := by
  intro T hT X
  obtain ⟨t, a, b⟩ := k T hT X
  refine ⟨t, ?_, b⟩
  jvm_step X.here [X.here.top, ↓top_set X.here.top, hexec, hb, hdg, e', Value.isRef]
  exact a
theorem gm_null_stn (hexec : p.tables.exec = Jvm.exec) (hb : c.code = cc) {k : Fin 4} {arr' : Array Slot} (hdg : decode cc pc = .ok (.astore_n k, 1)) (e' : storeLocals arr (k : Nat) .null = some arr')
    (kk : W p l e R s m args below meth c H locs cells slots Q (F0 m (pc + 1) arr' rest)) : W p l e R s m args below meth c H locs cells slots Q (F0 m pc arr (.null :: rest)) := by
  intro T hT X
  obtain ⟨t, a, b⟩ := kk T hT X
  refine ⟨t, ?_, b⟩
  jvm_step X.here [X.here.top, ↓top_set X.here.top, hexec, hb, hdg, e', Value.isRef]
  exact a
end GMP
/-! gm_pure_sim: the JVM does what gm_pure says -/
theorem gm_ldi_spec {pc : Nat} {ls : gm_Ls} {st : List Value} {i pc' : Nat} {ls' : gm_Ls} {st' : List Value} (h : gm_ldi pc ls st i = some (pc', ls', st')) : ∃ x, gm_lget ls i = some (.int x) ∧ pc' = pc ∧ ls' = ls ∧ st' = .int x :: st := by
  unfold gm_ldi at h
  split at h
  · rename_i x hx
    simp only [Option.some.injEq, Prod.mk.injEq] at h
    exact ⟨x, hx, h.1.symm, h.2.1.symm, h.2.2.symm⟩
  · cases h
theorem gm_ldl_spec {pc : Nat} {ls : gm_Ls} {st : List Value} {i pc' : Nat} {ls' : gm_Ls} {st' : List Value} (h : gm_ldl pc ls st i = some (pc', ls', st')) : ∃ x, gm_lget ls i = some (.long x) ∧ pc' = pc ∧ ls' = ls ∧ st' = .long x :: st := by
  unfold gm_ldl at h
  split at h
  · rename_i x hx
    simp only [Option.some.injEq, Prod.mk.injEq] at h
    exact ⟨x, hx, h.1.symm, h.2.1.symm, h.2.2.symm⟩
  · cases h
theorem gm_lda_spec {pc : Nat} {ls : gm_Ls} {st : List Value} {i pc' : Nat} {ls' : gm_Ls} {st' : List Value} (h : gm_lda pc ls st i = some (pc', ls', st')) : pc' = pc ∧ ls' = ls ∧ ((∃ x, gm_lget ls i = some (.ref x) ∧ st' = .ref x :: st) ∨ (gm_lget ls i = some .null ∧ st' = .null :: st)) := by
  unfold gm_lda at h
  split at h
  · rename_i x hx
    simp only [Option.some.injEq, Prod.mk.injEq] at h
    exact ⟨h.1.symm, h.2.1.symm, Or.inl ⟨x, hx, h.2.2.symm⟩⟩
  · rename_i hx
    simp only [Option.some.injEq, Prod.mk.injEq] at h
    exact ⟨h.1.symm, h.2.1.symm, Or.inr ⟨hx, h.2.2.symm⟩⟩
  · cases h
theorem gm_sti_spec {pc : Nat} {ls : gm_Ls} {st : List Value} {i pc' : Nat} {ls' : gm_Ls} {st' : List Value} (h : gm_sti pc ls i st = some (pc', ls', st')) : ∃ x, st = .int x :: st' ∧ i < ls.length ∧ pc' = pc ∧ ls' = gm_l1 ls i (.int x) := by
  unfold gm_sti at h
  split at h
  · rename_i x r
    split at h
    · rename_i hi
      simp only [Option.some.injEq, Prod.mk.injEq] at h
      exact ⟨x, by rw [h.2.2], hi, h.1.symm, h.2.1.symm⟩
    · cases h
  · cases h
theorem gm_stl_spec {pc : Nat} {ls : gm_Ls} {st : List Value} {i pc' : Nat} {ls' : gm_Ls} {st' : List Value} (h : gm_stl pc ls i st = some (pc', ls', st')) : ∃ x, st = .long x :: st' ∧ i + 1 < ls.length ∧ pc' = pc ∧ ls' = gm_l2 ls i (.long x) := by
  unfold gm_stl at h
  split at h
  · rename_i x r
    split at h
    · rename_i hi
      simp only [Option.some.injEq, Prod.mk.injEq] at h
      exact ⟨x, by rw [h.2.2], hi, h.1.symm, h.2.1.symm⟩
    · cases h
  · cases h
theorem gm_sta_spec {pc : Nat} {ls : gm_Ls} {st : List Value} {i pc' : Nat} {ls' : gm_Ls} {st' : List Value} (h : gm_sta pc ls i st = some (pc', ls', st')) : i < ls.length ∧ pc' = pc ∧ ((∃ x, st = .ref x :: st' ∧ ls' = gm_l1 ls i (.ref x)) ∨ (st = .null :: st' ∧ ls' = gm_l1 ls i .null)) := by
  unfold gm_sta at h
  split at h
  · rename_i x r
    split at h
    · rename_i hi
      simp only [Option.some.injEq, Prod.mk.injEq] at h
      exact ⟨hi, h.1.symm, Or.inl ⟨x, by rw [h.2.2], h.2.1.symm⟩⟩
    · cases h
  · rename_i r
    split at h
    · rename_i hi
      simp only [Option.some.injEq, Prod.mk.injEq] at h
      exact ⟨hi, h.1.symm, Or.inr ⟨by rw [h.2.2], h.2.1.symm⟩⟩
    · cases h
  · cases h
theorem gm_i2_spec {pc : Nat} {ls : gm_Ls} {f : Int32 → Int32 → Int32} {st : List Value} {pc' : Nat} {ls' : gm_Ls} {st' : List Value} (h : gm_i2 pc ls f st = some (pc', ls', st')) : ∃ x y r, st = .int y :: .int x :: r ∧ pc' = pc + 1 ∧ ls' = ls ∧ st' = .int (f x y) :: r := by
  unfold gm_i2 at h
  split at h
  · rename_i y x r
    simp only [Option.some.injEq, Prod.mk.injEq] at h
    exact ⟨x, y, r, rfl, h.1.symm, h.2.1.symm, h.2.2.symm⟩
  · cases h
theorem gm_i2z_spec {pc : Nat} {ls : gm_Ls} {f : Int32 → Int32 → Int32} {st : List Value} {pc' : Nat} {ls' : gm_Ls} {st' : List Value} (h : gm_i2z pc ls f st = some (pc', ls', st')) : ∃ x y r, st = .int y :: .int x :: r ∧ ¬ y = 0 ∧ pc' = pc + 1 ∧ ls' = ls ∧ st' = .int (f x y) :: r := by
  unfold gm_i2z at h
  split at h
  · rename_i y x r
    split at h
    · cases h
    · rename_i hy
      simp only [Option.some.injEq, Prod.mk.injEq] at h
      exact ⟨x, y, r, rfl, hy, h.1.symm, h.2.1.symm, h.2.2.symm⟩
  · cases h
theorem gm_l2op_spec {pc : Nat} {ls : gm_Ls} {f : Int64 → Int64 → Int64} {st : List Value} {pc' : Nat} {ls' : gm_Ls} {st' : List Value} (h : gm_l2op pc ls f st = some (pc', ls', st')) : ∃ x y r, st = .long y :: .long x :: r ∧ pc' = pc + 1 ∧ ls' = ls ∧ st' = .long (f x y) :: r := by
  unfold gm_l2op at h
  split at h
  · rename_i y x r
    simp only [Option.some.injEq, Prod.mk.injEq] at h
    exact ⟨x, y, r, rfl, h.1.symm, h.2.1.symm, h.2.2.symm⟩
  · cases h
theorem gm_lsh_spec {pc : Nat} {ls : gm_Ls} {f : Int64 → Int32 → Int64} {st : List Value} {pc' : Nat} {ls' : gm_Ls} {st' : List Value} (h : gm_lsh pc ls f st = some (pc', ls', st')) : ∃ x y r, st = .int y :: .long x :: r ∧ pc' = pc + 1 ∧ ls' = ls ∧ st' = .long (f x y) :: r := by
  unfold gm_lsh at h
  split at h
  · rename_i y x r
    simp only [Option.some.injEq, Prod.mk.injEq] at h
    exact ⟨x, y, r, rfl, h.1.symm, h.2.1.symm, h.2.2.symm⟩
  · cases h
theorem gm_jmp_spec {pc : Nat} {off : Int} {ls : gm_Ls} {st : List Value} {pc' : Nat} {ls' : gm_Ls} {st' : List Value} (h : gm_jmp pc off ls st = some (pc', ls', st')) : (pc : Int) + off = (pc' : Int) ∧ ls' = ls ∧ st' = st := by
  unfold gm_jmp at h
  split at h
  · rename_i h0
    simp only [Option.some.injEq, Prod.mk.injEq] at h
    exact ⟨by rw [← h.1]; omega, h.2.1.symm, h.2.2.symm⟩
  · cases h
section GMF
variable {p : Program} {l : Launch} {e : Env} {R : Room} {s : State} {m : MethodId} {args : Array Value} {below : List Frame} {meth : Method} {c : Code} {H : Heap} {locs : List Loc} {cells slots : Nat} {Q : State → Prop}
variable {cc : ByteArray} {pc : Nat} {arr : Array Slot} {rest : List Value}
theorem gm_if_eq_f (hexec : p.tables.exec = Jvm.exec) (hb : c.code = cc) {x : Int32} {off : Int} (hdg : decode cc pc = .ok (.ifCond .eq off, 3)) (hc : ¬ x = 0) (k : W p l e R s m args below meth c H locs cells slots Q (F0 m (pc + 3) arr rest)) : W p l e R s m args below meth c H locs cells slots Q (F0 m pc arr (.int x :: rest)) := by
  intro T hT X
  obtain ⟨t, a, b⟩ := k T hT X
  refine ⟨t, ?_, b⟩
  jvm_step X.here [X.here.top, hexec, hb, hdg, Op.ifCond.holds, hc]
  exact a
theorem gm_icmp_eq_f (hexec : p.tables.exec = Jvm.exec) (hb : c.code = cc) {x y : Int32} {off : Int} (hdg : decode cc pc = .ok (.if_icmp .eq off, 3)) (hc : ¬ x = y) (k : W p l e R s m args below meth c H locs cells slots Q (F0 m (pc + 3) arr rest)) : W p l e R s m args below meth c H locs cells slots Q (F0 m pc arr (.int y :: .int x :: rest)) := by
  intro T hT X
  obtain ⟨t, a, b⟩ := k T hT X
  refine ⟨t, ?_, b⟩
  jvm_step X.here [X.here.top, hexec, hb, hdg, Op.if_icmp.holds, hc]
  exact a
theorem gm_if_ne_f (hexec : p.tables.exec = Jvm.exec) (hb : c.code = cc) {x : Int32} {off : Int} (hdg : decode cc pc = .ok (.ifCond .ne off, 3)) (hc : ¬ (¬ x = 0)) (k : W p l e R s m args below meth c H locs cells slots Q (F0 m (pc + 3) arr rest)) : W p l e R s m args below meth c H locs cells slots Q (F0 m pc arr (.int x :: rest)) := by
  intro T hT X
  obtain ⟨t, a, b⟩ := k T hT X
  refine ⟨t, ?_, b⟩
  have hc := Classical.not_not.mp hc
  jvm_step X.here [X.here.top, hexec, hb, hdg, Op.ifCond.holds, hc]
  exact a
theorem gm_icmp_ne_f (hexec : p.tables.exec = Jvm.exec) (hb : c.code = cc) {x y : Int32} {off : Int} (hdg : decode cc pc = .ok (.if_icmp .ne off, 3)) (hc : ¬ (¬ x = y)) (k : W p l e R s m args below meth c H locs cells slots Q (F0 m (pc + 3) arr rest)) : W p l e R s m args below meth c H locs cells slots Q (F0 m pc arr (.int y :: .int x :: rest)) := by
  intro T hT X
  obtain ⟨t, a, b⟩ := k T hT X
  refine ⟨t, ?_, b⟩
  have hc := Classical.not_not.mp hc
  jvm_step X.here [X.here.top, hexec, hb, hdg, Op.if_icmp.holds, hc]
  exact a
theorem gm_if_lt_f (hexec : p.tables.exec = Jvm.exec) (hb : c.code = cc) {x : Int32} {off : Int} (hdg : decode cc pc = .ok (.ifCond .lt off, 3)) (hc : ¬ x < 0) (k : W p l e R s m args below meth c H locs cells slots Q (F0 m (pc + 3) arr rest)) : W p l e R s m args below meth c H locs cells slots Q (F0 m pc arr (.int x :: rest)) := by
  intro T hT X
  obtain ⟨t, a, b⟩ := k T hT X
  refine ⟨t, ?_, b⟩
  jvm_step X.here [X.here.top, hexec, hb, hdg, Op.ifCond.holds, hc]
  exact a
theorem gm_icmp_lt_f (hexec : p.tables.exec = Jvm.exec) (hb : c.code = cc) {x y : Int32} {off : Int} (hdg : decode cc pc = .ok (.if_icmp .lt off, 3)) (hc : ¬ x < y) (k : W p l e R s m args below meth c H locs cells slots Q (F0 m (pc + 3) arr rest)) : W p l e R s m args below meth c H locs cells slots Q (F0 m pc arr (.int y :: .int x :: rest)) := by
  intro T hT X
  obtain ⟨t, a, b⟩ := k T hT X
  refine ⟨t, ?_, b⟩
  jvm_step X.here [X.here.top, hexec, hb, hdg, Op.if_icmp.holds, hc]
  exact a
theorem gm_if_ge_f (hexec : p.tables.exec = Jvm.exec) (hb : c.code = cc) {x : Int32} {off : Int} (hdg : decode cc pc = .ok (.ifCond .ge off, 3)) (hc : ¬ 0 ≤ x) (k : W p l e R s m args below meth c H locs cells slots Q (F0 m (pc + 3) arr rest)) : W p l e R s m args below meth c H locs cells slots Q (F0 m pc arr (.int x :: rest)) := by
  intro T hT X
  obtain ⟨t, a, b⟩ := k T hT X
  refine ⟨t, ?_, b⟩
  jvm_step X.here [X.here.top, hexec, hb, hdg, Op.ifCond.holds, hc]
  exact a
theorem gm_icmp_ge_f (hexec : p.tables.exec = Jvm.exec) (hb : c.code = cc) {x y : Int32} {off : Int} (hdg : decode cc pc = .ok (.if_icmp .ge off, 3)) (hc : ¬ y ≤ x) (k : W p l e R s m args below meth c H locs cells slots Q (F0 m (pc + 3) arr rest)) : W p l e R s m args below meth c H locs cells slots Q (F0 m pc arr (.int y :: .int x :: rest)) := by
  intro T hT X
  obtain ⟨t, a, b⟩ := k T hT X
  refine ⟨t, ?_, b⟩
  jvm_step X.here [X.here.top, hexec, hb, hdg, Op.if_icmp.holds, hc]
  exact a
theorem gm_if_gt_f (hexec : p.tables.exec = Jvm.exec) (hb : c.code = cc) {x : Int32} {off : Int} (hdg : decode cc pc = .ok (.ifCond .gt off, 3)) (hc : ¬ 0 < x) (k : W p l e R s m args below meth c H locs cells slots Q (F0 m (pc + 3) arr rest)) : W p l e R s m args below meth c H locs cells slots Q (F0 m pc arr (.int x :: rest)) := by
  intro T hT X
  obtain ⟨t, a, b⟩ := k T hT X
  refine ⟨t, ?_, b⟩
  jvm_step X.here [X.here.top, hexec, hb, hdg, Op.ifCond.holds, hc]
  exact a
theorem gm_icmp_gt_f (hexec : p.tables.exec = Jvm.exec) (hb : c.code = cc) {x y : Int32} {off : Int} (hdg : decode cc pc = .ok (.if_icmp .gt off, 3)) (hc : ¬ y < x) (k : W p l e R s m args below meth c H locs cells slots Q (F0 m (pc + 3) arr rest)) : W p l e R s m args below meth c H locs cells slots Q (F0 m pc arr (.int y :: .int x :: rest)) := by
  intro T hT X
  obtain ⟨t, a, b⟩ := k T hT X
  refine ⟨t, ?_, b⟩
  jvm_step X.here [X.here.top, hexec, hb, hdg, Op.if_icmp.holds, hc]
  exact a
theorem gm_if_le_f (hexec : p.tables.exec = Jvm.exec) (hb : c.code = cc) {x : Int32} {off : Int} (hdg : decode cc pc = .ok (.ifCond .le off, 3)) (hc : ¬ x ≤ 0) (k : W p l e R s m args below meth c H locs cells slots Q (F0 m (pc + 3) arr rest)) : W p l e R s m args below meth c H locs cells slots Q (F0 m pc arr (.int x :: rest)) := by
  intro T hT X
  obtain ⟨t, a, b⟩ := k T hT X
  refine ⟨t, ?_, b⟩
  jvm_step X.here [X.here.top, hexec, hb, hdg, Op.ifCond.holds, hc]
  exact a
theorem gm_icmp_le_f (hexec : p.tables.exec = Jvm.exec) (hb : c.code = cc) {x y : Int32} {off : Int} (hdg : decode cc pc = .ok (.if_icmp .le off, 3)) (hc : ¬ x ≤ y) (k : W p l e R s m args below meth c H locs cells slots Q (F0 m (pc + 3) arr rest)) : W p l e R s m args below meth c H locs cells slots Q (F0 m pc arr (.int y :: .int x :: rest)) := by
  intro T hT X
  obtain ⟨t, a, b⟩ := k T hT X
  refine ⟨t, ?_, b⟩
  jvm_step X.here [X.here.top, hexec, hb, hdg, Op.if_icmp.holds, hc]
  exact a
end GMF
section GMS
variable {p : Program} {l : Launch} {e : Env} {R : Room} {s : State} {m : MethodId} {args : Array Value} {below : List Frame} {meth : Method} {c : Code} {H : Heap} {locs : List Loc} {cells slots : Nat} {Q : State → Prop}
variable {cc : ByteArray} {pc nL : Nat} {ls : gm_Ls} {arr : Array Slot} {st : List Value}
set_option maxHeartbeats 4000000 in
theorem gm_pure_sim (hexec : p.tables.exec = Jvm.exec) (hb : c.code = cc) {i : Instr} {pc' : Nat} {ls' : gm_Ls} {st' : List Value} (hdg : gm_dec cc pc i) (h : gm_pure i pc ls st = some (pc', ls', st')) (hl : gm_lok ls arr nL)
    (k : ∀ arr', gm_lok ls' arr' nL → W p l e R s m args below meth c H locs cells slots Q (F0 m pc' arr' st')) : W p l e R s m args below meth c H locs cells slots Q (F0 m pc arr st) := by
  obtain ⟨len, hd, hlen⟩ := hdg
  cases i with
  | iconst n =>
    have hln : len = 1 := by simpa [gm_len] using hlen
    subst hln
    simp only [gm_pure, Option.some.injEq, Prod.mk.injEq] at h
    obtain ⟨rfl, rfl, rfl⟩ := h
    exact lv_iconst hexec hb hd rfl (k _ hl)
  | bipush n =>
    have hln : len = 2 := by simpa [gm_len] using hlen
    subst hln
    simp only [gm_pure, Option.some.injEq, Prod.mk.injEq] at h
    obtain ⟨rfl, rfl, rfl⟩ := h
    exact lv_bipush hexec hb hd rfl (k _ hl)
  | sipush n =>
    have hln : len = 3 := by simpa [gm_len] using hlen
    subst hln
    simp only [gm_pure, Option.some.injEq, Prod.mk.injEq] at h
    obtain ⟨rfl, rfl, rfl⟩ := h
    exact lv_sipush hexec hb hd rfl (k _ hl)
  | lconst n =>
    have hln : len = 1 := by simpa [gm_len] using hlen
    subst hln
    simp only [gm_pure, Option.some.injEq, Prod.mk.injEq] at h
    obtain ⟨rfl, rfl, rfl⟩ := h
    exact lv_lconst hexec hb hd rfl (k _ hl)
  | aconst_null =>
    have hln : len = 1 := by simpa [gm_len] using hlen
    subst hln
    simp only [gm_pure, Option.some.injEq, Prod.mk.injEq] at h
    obtain ⟨rfl, rfl, rfl⟩ := h
    exact lv_null hexec hb hd (k _ hl)
  | iload q =>
    have hln : len = 2 := by simpa [gm_len] using hlen
    subst hln
    obtain ⟨x, hx, rfl, rfl, rfl⟩ := gm_ldi_spec h
    exact lv_iload hexec hb hd (hl.2.2.2 _ _ hx) (k _ hl)
  | iload_n q =>
    have hln : len = 1 := by simpa [gm_len] using hlen
    subst hln
    obtain ⟨x, hx, rfl, rfl, rfl⟩ := gm_ldi_spec h
    exact lv_iload_n hexec hb hd rfl (hl.2.2.2 _ _ hx) (k _ hl)
  | lload q =>
    have hln : len = 2 := by simpa [gm_len] using hlen
    subst hln
    obtain ⟨x, hx, rfl, rfl, rfl⟩ := gm_ldl_spec h
    exact lv_lload hexec hb hd (hl.2.2.2 _ _ hx) (k _ hl)
  | lload_n q =>
    have hln : len = 1 := by simpa [gm_len] using hlen
    subst hln
    obtain ⟨x, hx, rfl, rfl, rfl⟩ := gm_ldl_spec h
    exact lv_lload_n hexec hb hd rfl (hl.2.2.2 _ _ hx) (k _ hl)
  | aload q =>
    have hln : len = 2 := by simpa [gm_len] using hlen
    subst hln
    obtain ⟨rfl, rfl, ⟨x, hx, rfl⟩ | ⟨hx, rfl⟩⟩ := gm_lda_spec h
    · exact lv_aload hexec hb hd (hl.2.2.2 _ _ hx) (k _ hl)
    · exact gm_null_ld hexec hb hd (hl.2.2.2 _ _ hx) (k _ hl)
  | aload_n q =>
    have hln : len = 1 := by simpa [gm_len] using hlen
    subst hln
    obtain ⟨rfl, rfl, ⟨x, hx, rfl⟩ | ⟨hx, rfl⟩⟩ := gm_lda_spec h
    · exact lv_aload_n hexec hb hd rfl (hl.2.2.2 _ _ hx) (k _ hl)
    · exact gm_null_ldn hexec hb hd (hl.2.2.2 _ _ hx) (k _ hl)
  | istore q =>
    have hln : len = 2 := by simpa [gm_len] using hlen
    subst hln
    obtain ⟨x, rfl, hi, rfl, rfl⟩ := gm_sti_spec h
    obtain ⟨arr2, e2, hl2⟩ := gm_store1 (v := .int x) hl (by rw [← hl.2.1]; exact hi) rfl
    intro T hT X
    obtain ⟨t, a, b⟩ := k _ hl2 T hT X
    refine ⟨t, ?_, b⟩
    jvm_step X.here [X.here.top, ↓top_set X.here.top, hexec, hb, hd, e2]
    exact a
  | istore_n q =>
    have hln : len = 1 := by simpa [gm_len] using hlen
    subst hln
    obtain ⟨x, rfl, hi, rfl, rfl⟩ := gm_sti_spec h
    obtain ⟨arr2, e2, hl2⟩ := gm_store1 (v := .int x) hl (by rw [← hl.2.1]; exact hi) rfl
    intro T hT X
    obtain ⟨t, a, b⟩ := k _ hl2 T hT X
    refine ⟨t, ?_, b⟩
    jvm_step X.here [X.here.top, ↓top_set X.here.top, hexec, hb, hd, e2]
    exact a
  | lstore q =>
    have hln : len = 2 := by simpa [gm_len] using hlen
    subst hln
    obtain ⟨x, rfl, hi, rfl, rfl⟩ := gm_stl_spec h
    obtain ⟨arr2, e2, hl2⟩ := gm_store2 (v := .long x) hl (by rw [← hl.2.1]; exact hi) rfl
    intro T hT X
    obtain ⟨t, a, b⟩ := k _ hl2 T hT X
    refine ⟨t, ?_, b⟩
    jvm_step X.here [X.here.top, ↓top_set X.here.top, hexec, hb, hd, e2]
    exact a
  | lstore_n q =>
    have hln : len = 1 := by simpa [gm_len] using hlen
    subst hln
    obtain ⟨x, rfl, hi, rfl, rfl⟩ := gm_stl_spec h
    obtain ⟨arr2, e2, hl2⟩ := gm_store2 (v := .long x) hl (by rw [← hl.2.1]; exact hi) rfl
    intro T hT X
    obtain ⟨t, a, b⟩ := k _ hl2 T hT X
    refine ⟨t, ?_, b⟩
    jvm_step X.here [X.here.top, ↓top_set X.here.top, hexec, hb, hd, e2]
    exact a
  | astore q =>
    have hln : len = 2 := by simpa [gm_len] using hlen
    subst hln
    obtain ⟨hi, rfl, ⟨x, rfl, rfl⟩ | ⟨rfl, rfl⟩⟩ := gm_sta_spec h
    · obtain ⟨arr2, e2, hl2⟩ := gm_store1 (v := .ref x) hl (by rw [← hl.2.1]; exact hi) rfl
      intro T hT X
      obtain ⟨t, a, b⟩ := k _ hl2 T hT X
      refine ⟨t, ?_, b⟩
      jvm_step X.here [X.here.top, ↓top_set X.here.top, hexec, hb, hd, e2, Value.isRef]
      exact a
    · obtain ⟨arr2, e2, hl2⟩ := gm_store1 (v := .null) hl (by rw [← hl.2.1]; exact hi) rfl
      exact gm_null_st hexec hb hd e2 (k _ hl2)
  | astore_n q =>
    have hln : len = 1 := by simpa [gm_len] using hlen
    subst hln
    obtain ⟨hi, rfl, ⟨x, rfl, rfl⟩ | ⟨rfl, rfl⟩⟩ := gm_sta_spec h
    · obtain ⟨arr2, e2, hl2⟩ := gm_store1 (v := .ref x) hl (by rw [← hl.2.1]; exact hi) rfl
      intro T hT X
      obtain ⟨t, a, b⟩ := k _ hl2 T hT X
      refine ⟨t, ?_, b⟩
      jvm_step X.here [X.here.top, ↓top_set X.here.top, hexec, hb, hd, e2, Value.isRef]
      exact a
    · obtain ⟨arr2, e2, hl2⟩ := gm_store1 (v := .null) hl (by rw [← hl.2.1]; exact hi) rfl
      exact gm_null_stn hexec hb hd e2 (k _ hl2)
  | iinc q n =>
    have hln : len = 3 := by simpa [gm_len] using hlen
    subst hln
    simp only [gm_pure] at h
    split at h
    · rename_i x hx
      simp only [Option.some.injEq, Prod.mk.injEq] at h
      obtain ⟨rfl, rfl, rfl⟩ := h
      have hi := gm_lget_lt hx
      have hg := hl.2.2.2 _ _ hx
      obtain ⟨arr2, e2, hl2⟩ := gm_store1 (v := .int (x + Int32.ofInt n)) hl (by rw [← hl.2.1]; exact hi) rfl
      intro T hT X
      obtain ⟨t, a, b⟩ := k _ hl2 T hT X
      refine ⟨t, ?_, b⟩
      jvm_step X.here [X.here.top, ↓top_set X.here.top, hexec, hb, hd, hg, e2]
      exact a
    · cases h
  | iadd =>
    have hln : len = 1 := by simpa [gm_len] using hlen
    subst hln
    obtain ⟨x, y, r, rfl, rfl, rfl, rfl⟩ := gm_i2_spec h
    exact lv_iadd hexec hb hd (k _ hl)
  | isub =>
    have hln : len = 1 := by simpa [gm_len] using hlen
    subst hln
    obtain ⟨x, y, r, rfl, rfl, rfl, rfl⟩ := gm_i2_spec h
    exact lv_isub hexec hb hd (k _ hl)
  | imul =>
    have hln : len = 1 := by simpa [gm_len] using hlen
    subst hln
    obtain ⟨x, y, r, rfl, rfl, rfl, rfl⟩ := gm_i2_spec h
    exact lv_imul hexec hb hd (k _ hl)
  | iand =>
    have hln : len = 1 := by simpa [gm_len] using hlen
    subst hln
    obtain ⟨x, y, r, rfl, rfl, rfl, rfl⟩ := gm_i2_spec h
    exact lv_iand hexec hb hd (k _ hl)
  | ior =>
    have hln : len = 1 := by simpa [gm_len] using hlen
    subst hln
    obtain ⟨x, y, r, rfl, rfl, rfl, rfl⟩ := gm_i2_spec h
    exact lv_ior hexec hb hd (k _ hl)
  | ixor =>
    have hln : len = 1 := by simpa [gm_len] using hlen
    subst hln
    obtain ⟨x, y, r, rfl, rfl, rfl, rfl⟩ := gm_i2_spec h
    exact lv_ixor hexec hb hd (k _ hl)
  | ishl =>
    have hln : len = 1 := by simpa [gm_len] using hlen
    subst hln
    obtain ⟨x, y, r, rfl, rfl, rfl, rfl⟩ := gm_i2_spec h
    exact lv_ishl hexec hb hd (k _ hl)
  | ishr =>
    have hln : len = 1 := by simpa [gm_len] using hlen
    subst hln
    obtain ⟨x, y, r, rfl, rfl, rfl, rfl⟩ := gm_i2_spec h
    exact lv_ishr hexec hb hd (k _ hl)
  | iushr =>
    have hln : len = 1 := by simpa [gm_len] using hlen
    subst hln
    obtain ⟨x, y, r, rfl, rfl, rfl, rfl⟩ := gm_i2_spec h
    exact lv_iushr hexec hb hd rfl (k _ hl)
  | idiv =>
    have hln : len = 1 := by simpa [gm_len] using hlen
    subst hln
    obtain ⟨x, y, r, rfl, hy, rfl, rfl, rfl⟩ := gm_i2z_spec h
    exact lv_idiv hexec hb hd hy (k _ hl)
  | irem =>
    have hln : len = 1 := by simpa [gm_len] using hlen
    subst hln
    obtain ⟨x, y, r, rfl, hy, rfl, rfl, rfl⟩ := gm_i2z_spec h
    exact lv_irem hexec hb hd hy (k _ hl)
  | ladd =>
    have hln : len = 1 := by simpa [gm_len] using hlen
    subst hln
    obtain ⟨x, y, r, rfl, rfl, rfl, rfl⟩ := gm_l2op_spec h
    exact lv_ladd hexec hb hd (k _ hl)
  | lsub =>
    have hln : len = 1 := by simpa [gm_len] using hlen
    subst hln
    obtain ⟨x, y, r, rfl, rfl, rfl, rfl⟩ := gm_l2op_spec h
    exact lv_lsub hexec hb hd (k _ hl)
  | lmul =>
    have hln : len = 1 := by simpa [gm_len] using hlen
    subst hln
    obtain ⟨x, y, r, rfl, rfl, rfl, rfl⟩ := gm_l2op_spec h
    exact lv_lmul hexec hb hd (k _ hl)
  | land =>
    have hln : len = 1 := by simpa [gm_len] using hlen
    subst hln
    obtain ⟨x, y, r, rfl, rfl, rfl, rfl⟩ := gm_l2op_spec h
    exact lv_land hexec hb hd (k _ hl)
  | lor =>
    have hln : len = 1 := by simpa [gm_len] using hlen
    subst hln
    obtain ⟨x, y, r, rfl, rfl, rfl, rfl⟩ := gm_l2op_spec h
    exact lv_lor hexec hb hd (k _ hl)
  | lxor =>
    have hln : len = 1 := by simpa [gm_len] using hlen
    subst hln
    obtain ⟨x, y, r, rfl, rfl, rfl, rfl⟩ := gm_l2op_spec h
    exact lv_lxor hexec hb hd (k _ hl)
  | lshl =>
    have hln : len = 1 := by simpa [gm_len] using hlen
    subst hln
    obtain ⟨x, y, r, rfl, rfl, rfl, rfl⟩ := gm_lsh_spec h
    exact lv_lshl hexec hb hd rfl (k _ hl)
  | lshr =>
    have hln : len = 1 := by simpa [gm_len] using hlen
    subst hln
    obtain ⟨x, y, r, rfl, rfl, rfl, rfl⟩ := gm_lsh_spec h
    exact lv_lshr hexec hb hd rfl (k _ hl)
  | lushr =>
    have hln : len = 1 := by simpa [gm_len] using hlen
    subst hln
    obtain ⟨x, y, r, rfl, rfl, rfl, rfl⟩ := gm_lsh_spec h
    exact lv_lushr hexec hb hd rfl (k _ hl)
  | lcmp =>
    have hln : len = 1 := by simpa [gm_len] using hlen
    subst hln
    simp only [gm_pure] at h
    split at h
    · rename_i y x r
      simp only [Option.some.injEq, Prod.mk.injEq] at h
      obtain ⟨rfl, rfl, rfl⟩ := h
      exact W.lcmp hexec hb hd (k _ hl)
    · cases h
  | ineg =>
    have hln : len = 1 := by simpa [gm_len] using hlen
    subst hln
    simp only [gm_pure] at h
    split at h
    · rename_i x r
      simp only [Option.some.injEq, Prod.mk.injEq] at h
      obtain ⟨rfl, rfl, rfl⟩ := h
      exact lv_ineg hexec hb hd (k _ hl)
    · cases h
  | i2l =>
    have hln : len = 1 := by simpa [gm_len] using hlen
    subst hln
    simp only [gm_pure] at h
    split at h
    · rename_i x r
      simp only [Option.some.injEq, Prod.mk.injEq] at h
      obtain ⟨rfl, rfl, rfl⟩ := h
      exact lv_i2l hexec hb hd rfl (k _ hl)
    · cases h
  | l2i =>
    have hln : len = 1 := by simpa [gm_len] using hlen
    subst hln
    simp only [gm_pure] at h
    split at h
    · rename_i x r
      simp only [Option.some.injEq, Prod.mk.injEq] at h
      obtain ⟨rfl, rfl, rfl⟩ := h
      exact lv_l2i hexec hb hd rfl (k _ hl)
    · cases h
  | i2c =>
    have hln : len = 1 := by simpa [gm_len] using hlen
    subst hln
    simp only [gm_pure] at h
    split at h
    · rename_i x r
      simp only [Option.some.injEq, Prod.mk.injEq] at h
      obtain ⟨rfl, rfl, rfl⟩ := h
      exact lv_i2c hexec hb hd rfl (k _ hl)
    · cases h
  | dup =>
    have hln : len = 1 := by simpa [gm_len] using hlen
    subst hln
    simp only [gm_pure] at h
    split at h
    · rename_i v r
      split at h
      · rename_i hc
        simp only [Option.some.injEq, Prod.mk.injEq] at h
        obtain ⟨rfl, rfl, rfl⟩ := h
        exact lv_dup hexec hb hd hc (k _ hl)
      · cases h
    · cases h
  | pop =>
    have hln : len = 1 := by simpa [gm_len] using hlen
    subst hln
    simp only [gm_pure] at h
    split at h
    · rename_i v r
      split at h
      · rename_i hc
        simp only [Option.some.injEq, Prod.mk.injEq] at h
        obtain ⟨rfl, rfl, rfl⟩ := h
        exact lv_pop hexec hb hd hc (k _ hl)
      · cases h
    · cases h
  | dup_x1 =>
    have hln : len = 1 := by simpa [gm_len] using hlen
    subst hln
    simp only [gm_pure] at h
    split at h
    · rename_i v w r
      split at h
      · rename_i hc
        simp only [Option.some.injEq, Prod.mk.injEq] at h
        obtain ⟨rfl, rfl, rfl⟩ := h
        exact lv_dup_x1 hexec hb hd hc.1 hc.2 (k _ hl)
      · cases h
    · cases h
  | dup_x2 =>
    have hln : len = 1 := by simpa [gm_len] using hlen
    subst hln
    simp only [gm_pure] at h
    split at h
    · rename_i v w u r
      split at h
      · rename_i hc
        simp only [Option.some.injEq, Prod.mk.injEq] at h
        obtain ⟨rfl, rfl, rfl⟩ := h
        exact lv_dup_x2 hexec hb hd hc.1 hc.2.1 hc.2.2 (k _ hl)
      · cases h
    · cases h
  | dup2 =>
    have hln : len = 1 := by simpa [gm_len] using hlen
    subst hln
    simp only [gm_pure] at h
    split at h
    · rename_i v w r
      split at h
      · rename_i hc
        simp only [Option.some.injEq, Prod.mk.injEq] at h
        obtain ⟨rfl, rfl, rfl⟩ := h
        exact lv_dup2_11 hexec hb hd hc.1 hc.2 (k _ hl)
      · cases h
    · cases h
  | goto off =>
    have hln : len = 3 := by simpa [gm_len] using hlen
    subst hln
    obtain ⟨ht, rfl, rfl⟩ := gm_jmp_spec h
    exact lv_goto hexec hb hd ht (k _ hl)
  | ifCond cd off =>
    have hln : len = 3 := by simpa [gm_len] using hlen
    subst hln
    simp only [gm_pure] at h
    split at h
    · rename_i x r
      cases cd with
      | eq =>
        by_cases hc : gm_c0 .eq x = true
        · rw [if_pos hc] at h
          obtain ⟨ht, rfl, rfl⟩ := gm_jmp_spec h
          exact lv_if_eq hexec hb hd ht (fun _ => k _ hl) (fun q => absurd (of_decide_eq_true hc) (by first | exact q | exact not_not_intro q))
        · rw [if_neg hc] at h
          simp only [Option.some.injEq, Prod.mk.injEq] at h
          obtain ⟨rfl, rfl, rfl⟩ := h
          exact gm_if_eq_f hexec hb hd (fun q => hc (decide_eq_true q)) (k _ hl)
      | ne =>
        by_cases hc : gm_c0 .ne x = true
        · rw [if_pos hc] at h
          obtain ⟨ht, rfl, rfl⟩ := gm_jmp_spec h
          exact lv_if_ne hexec hb hd ht (fun _ => k _ hl) (fun q => absurd (of_decide_eq_true hc) (by first | exact q | exact not_not_intro q))
        · rw [if_neg hc] at h
          simp only [Option.some.injEq, Prod.mk.injEq] at h
          obtain ⟨rfl, rfl, rfl⟩ := h
          exact gm_if_ne_f hexec hb hd (fun q => hc (decide_eq_true q)) (k _ hl)
      | lt =>
        by_cases hc : gm_c0 .lt x = true
        · rw [if_pos hc] at h
          obtain ⟨ht, rfl, rfl⟩ := gm_jmp_spec h
          exact lv_if_lt hexec hb hd ht (fun _ => k _ hl) (fun q => absurd (of_decide_eq_true hc) (by first | exact q | exact not_not_intro q))
        · rw [if_neg hc] at h
          simp only [Option.some.injEq, Prod.mk.injEq] at h
          obtain ⟨rfl, rfl, rfl⟩ := h
          exact gm_if_lt_f hexec hb hd (fun q => hc (decide_eq_true q)) (k _ hl)
      | ge =>
        by_cases hc : gm_c0 .ge x = true
        · rw [if_pos hc] at h
          obtain ⟨ht, rfl, rfl⟩ := gm_jmp_spec h
          exact lv_if_ge hexec hb hd ht (fun _ => k _ hl) (fun q => absurd (of_decide_eq_true hc) (by first | exact q | exact not_not_intro q))
        · rw [if_neg hc] at h
          simp only [Option.some.injEq, Prod.mk.injEq] at h
          obtain ⟨rfl, rfl, rfl⟩ := h
          exact gm_if_ge_f hexec hb hd (fun q => hc (decide_eq_true q)) (k _ hl)
      | gt =>
        by_cases hc : gm_c0 .gt x = true
        · rw [if_pos hc] at h
          obtain ⟨ht, rfl, rfl⟩ := gm_jmp_spec h
          exact lv_if_gt hexec hb hd ht (fun _ => k _ hl) (fun q => absurd (of_decide_eq_true hc) (by first | exact q | exact not_not_intro q))
        · rw [if_neg hc] at h
          simp only [Option.some.injEq, Prod.mk.injEq] at h
          obtain ⟨rfl, rfl, rfl⟩ := h
          exact gm_if_gt_f hexec hb hd (fun q => hc (decide_eq_true q)) (k _ hl)
      | le =>
        by_cases hc : gm_c0 .le x = true
        · rw [if_pos hc] at h
          obtain ⟨ht, rfl, rfl⟩ := gm_jmp_spec h
          exact lv_if_le hexec hb hd ht (fun _ => k _ hl) (fun q => absurd (of_decide_eq_true hc) (by first | exact q | exact not_not_intro q))
        · rw [if_neg hc] at h
          simp only [Option.some.injEq, Prod.mk.injEq] at h
          obtain ⟨rfl, rfl, rfl⟩ := h
          exact gm_if_le_f hexec hb hd (fun q => hc (decide_eq_true q)) (k _ hl)
    · cases h
  | if_icmp cd off =>
    have hln : len = 3 := by simpa [gm_len] using hlen
    subst hln
    simp only [gm_pure] at h
    split at h
    · rename_i y x r
      cases cd with
      | eq =>
        by_cases hc : gm_c2 .eq x y = true
        · rw [if_pos hc] at h
          obtain ⟨ht, rfl, rfl⟩ := gm_jmp_spec h
          exact lv_icmp_eq hexec hb hd ht (fun _ => k _ hl) (fun q => absurd (of_decide_eq_true hc) (by first | exact q | exact not_not_intro q))
        · rw [if_neg hc] at h
          simp only [Option.some.injEq, Prod.mk.injEq] at h
          obtain ⟨rfl, rfl, rfl⟩ := h
          exact gm_icmp_eq_f hexec hb hd (fun q => hc (decide_eq_true q)) (k _ hl)
      | ne =>
        by_cases hc : gm_c2 .ne x y = true
        · rw [if_pos hc] at h
          obtain ⟨ht, rfl, rfl⟩ := gm_jmp_spec h
          exact lv_icmp_ne hexec hb hd ht (fun _ => k _ hl) (fun q => absurd (of_decide_eq_true hc) (by first | exact q | exact not_not_intro q))
        · rw [if_neg hc] at h
          simp only [Option.some.injEq, Prod.mk.injEq] at h
          obtain ⟨rfl, rfl, rfl⟩ := h
          exact gm_icmp_ne_f hexec hb hd (fun q => hc (decide_eq_true q)) (k _ hl)
      | lt =>
        by_cases hc : gm_c2 .lt x y = true
        · rw [if_pos hc] at h
          obtain ⟨ht, rfl, rfl⟩ := gm_jmp_spec h
          exact lv_icmp_lt hexec hb hd ht (fun _ => k _ hl) (fun q => absurd (of_decide_eq_true hc) (by first | exact q | exact not_not_intro q))
        · rw [if_neg hc] at h
          simp only [Option.some.injEq, Prod.mk.injEq] at h
          obtain ⟨rfl, rfl, rfl⟩ := h
          exact gm_icmp_lt_f hexec hb hd (fun q => hc (decide_eq_true q)) (k _ hl)
      | ge =>
        by_cases hc : gm_c2 .ge x y = true
        · rw [if_pos hc] at h
          obtain ⟨ht, rfl, rfl⟩ := gm_jmp_spec h
          exact lv_icmp_ge hexec hb hd ht (fun _ => k _ hl) (fun q => absurd (of_decide_eq_true hc) (by first | exact q | exact not_not_intro q))
        · rw [if_neg hc] at h
          simp only [Option.some.injEq, Prod.mk.injEq] at h
          obtain ⟨rfl, rfl, rfl⟩ := h
          exact gm_icmp_ge_f hexec hb hd (fun q => hc (decide_eq_true q)) (k _ hl)
      | gt =>
        by_cases hc : gm_c2 .gt x y = true
        · rw [if_pos hc] at h
          obtain ⟨ht, rfl, rfl⟩ := gm_jmp_spec h
          exact lv_icmp_gt hexec hb hd ht (fun _ => k _ hl) (fun q => absurd (of_decide_eq_true hc) (by first | exact q | exact not_not_intro q))
        · rw [if_neg hc] at h
          simp only [Option.some.injEq, Prod.mk.injEq] at h
          obtain ⟨rfl, rfl, rfl⟩ := h
          exact gm_icmp_gt_f hexec hb hd (fun q => hc (decide_eq_true q)) (k _ hl)
      | le =>
        by_cases hc : gm_c2 .le x y = true
        · rw [if_pos hc] at h
          obtain ⟨ht, rfl, rfl⟩ := gm_jmp_spec h
          exact lv_icmp_le hexec hb hd ht (fun _ => k _ hl) (fun q => absurd (of_decide_eq_true hc) (by first | exact q | exact not_not_intro q))
        · rw [if_neg hc] at h
          simp only [Option.some.injEq, Prod.mk.injEq] at h
          obtain ⟨rfl, rfl, rfl⟩ := h
          exact gm_icmp_le_f hexec hb hd (fun q => hc (decide_eq_true q)) (k _ hl)
    · cases h
  | ifnull off =>
    have hln : len = 3 := by simpa [gm_len] using hlen
    subst hln
    simp only [gm_pure] at h
    split at h
    · obtain ⟨ht, rfl, rfl⟩ := gm_jmp_spec h
      exact lv_ifnullN hexec hb hd ht (k _ hl)
    · simp only [Option.some.injEq, Prod.mk.injEq] at h
      obtain ⟨rfl, rfl, rfl⟩ := h
      exact lv_ifnull hexec hb hd (k _ hl)
    · cases h
  | ifnonnull off =>
    have hln : len = 3 := by simpa [gm_len] using hlen
    subst hln
    simp only [gm_pure] at h
    split at h
    · obtain ⟨ht, rfl, rfl⟩ := gm_jmp_spec h
      exact lv_ifnonnull hexec hb hd ht (k _ hl)
    · simp only [Option.some.injEq, Prod.mk.injEq] at h
      obtain ⟨rfl, rfl, rfl⟩ := h
      exact lv_ifnonnullN hexec hb hd (k _ hl)
    · cases h
  | tableswitch d lo hi offs =>
    simp only [gm_pure] at h
    split at h
    · rename_i x r
      split at h
      · rename_i hc
        obtain ⟨ht, rfl, rfl⟩ := gm_jmp_spec h
        exact lv_tableOut hexec hb hd hc ht (k _ hl)
      · rename_i hc
        split at h
        · rename_i off ho
          obtain ⟨ht, rfl, rfl⟩ := gm_jmp_spec h
          exact lv_tableIn hexec hb hd (fun q => hc (Or.inl q)) (fun q => hc (Or.inr q)) ho ht (k _ hl)
        · cases h
    · cases h
  | lookupswitch d ps =>
    simp only [gm_pure] at h
    split at h
    · rename_i x r
      split at h
      · rename_i hc
        obtain ⟨ht, rfl, rfl⟩ := gm_jmp_spec h
        exact lv_lookup hexec hb hd hc rfl ht (k _ hl)
      · cases h
    · cases h
  | _ => simp [gm_pure] at h
end GMS
