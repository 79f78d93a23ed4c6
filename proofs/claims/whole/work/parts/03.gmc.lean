/-! gm_heap: the instructions that read or write the heap; what a constant pool's place stands for: gm_L (a field: class, place, type, may it be written; a class to be made: number, its fields at first; an array's component; an exception's class: an array of it; a method: number, how many values it takes, 0 static, 1 constructor, 2 a constant text's, 3 and its receiver's class; a constant: 0 ldc, 1 ldc2_w, 2 static) -/
abbrev gm_L : Type := (Nat × Nat × FieldType × Bool) ⊕ (Nat × List Value) ⊕ FieldType ⊕ (Nat × Nat × Nat) ⊕ (Nat × Value)
abbrev gm_D : Type := Nat × gm_Ls × List Value × gm_H × Nat × Nat
abbrev gm_R : Type := Outcome × gm_H × Nat × Nat
def gm_fld (M : gm_H) (a ci k : Nat) : Option Value := match M a with
  | some (.inr (c, fs)) => if c = ci then fs[k]? else none
  | _ => none
/-- an array that nobody writes (the law's own script, a static table): its type here is that of an array of arrays, which no other cell has -/
def gm_scr : FieldType := .array .int
def gm_ai (M : gm_H) (a : Nat) (ty : FieldType) (i : Int32) : Option Int32 := match M a with
  | some (.inl (t, n, .inl f)) => if t = ty ∧ ¬ (i < 0 ∨ n ≤ i.toNatClampNeg) then some (f i.toNatClampNeg) else none
  | _ => none
def gm_al64 (M : gm_H) (a : Nat) (i : Int32) : Option Int64 := match M a with
  | some (.inl (t, n, .inr (.inl f))) => if t = .long ∧ ¬ (i < 0 ∨ n ≤ i.toNatClampNeg) then some (f i.toNatClampNeg) else none
  | _ => none
def gm_aq (M : gm_H) (a : Nat) (i : Int32) : Option (Option Nat) := match M a with
  | some (.inl (.object _, n, .inr (.inr (.inr (.inr f))))) => if i < 0 ∨ n ≤ i.toNatClampNeg then none else some (f i.toNatClampNeg)
  | _ => none
def gm_alen (M : gm_H) (a : Nat) : Option Nat := match M a with
  | some (.inl (_, n, .inl _)) => some n
  | _ => none
def gm_fit (ty : FieldType) (v : Value) : Bool := decide (narrow ty v = v) && fits ty v
/-- a field is written -/
def gm_put (N0 : Nat) (M : gm_H) (a ci k : Nat) (ty : FieldType) (v : Value) : Option gm_H := match M a with
  | some (.inr (c, fs)) => if c = ci ∧ k < fs.length ∧ N0 ≤ a ∧ gm_fit ty v = true then some (gm_set M a (.inr (ci, fs.set k v))) else none
  | _ => none
def gm_asti (N0 : Nat) (M : gm_H) (a : Nat) (ty : FieldType) (i x : Int32) : Option gm_H := match M a with
  | some (.inl (t, n, .inl f)) => if t = ty ∧ N0 ≤ a ∧ ¬ (i < 0 ∨ n ≤ i.toNatClampNeg) then some (gm_set M a (.inl (ty, n, .inl (upd f i.toNatClampNeg (vp_nar ty x))))) else none
  | _ => none
def gm_astl (N0 : Nat) (M : gm_H) (a : Nat) (i : Int32) (x : Int64) : Option gm_H := match M a with
  | some (.inl (t, n, .inr (.inl f))) => if t = .long ∧ N0 ≤ a ∧ ¬ (i < 0 ∨ n ≤ i.toNatClampNeg) then some (gm_set M a (.inl (.long, n, .inr (.inl (vp_updL f i.toNatClampNeg x))))) else none
  | _ => none
/-- a reference v to an object of class ci into an array of that class, or null -/
def gm_astq (N0 : Nat) (nm : Nat → Option String) (M : gm_H) (a : Nat) (i : Int32) (v : Option Nat) : Option gm_H := match M a with
  | some (.inl (.object C, n, .inr (.inr (.inr (.inr f))))) =>
    if N0 ≤ a ∧ ¬ (i < 0 ∨ n ≤ i.toNatClampNeg) then (match v with
      | none => some (gm_set M a (.inl (.object C, n, .inr (.inr (.inr (.inr (va_up f i.toNatClampNeg none)))))))
      | some b => match M b with
        | some (.inr (ci, _)) => if nm ci = some C then some (gm_set M a (.inl (.object C, n, .inr (.inr (.inr (.inr (va_up f i.toNatClampNeg (some b)))))))) else none
        | _ => none) else none
  | _ => none
/-- a new array's contents -/
def gm_zero (ty : FieldType) (n : Nat) : Option gm_E := match ty with
  | .int | .char | .boolean => some (.inl (ty, n, .inl (fun _ => 0)))
  | .long => some (.inl (ty, n, .inr (.inl (fun _ => 0))))
  | _ => none
def gm_new (M : gm_H) (sz : Nat) (x : gm_E) : gm_H := gm_set M sz x
def gm_heap (N0 : Nat) (nm : Nat → Option String) (lk : Nat → Option gm_L) (i : Instr) (pc : Nat) (ls : gm_Ls) (st : List Value) (M : gm_H) (sz : Nat) : Option gm_D := match i with
  | .getfield ix => match lk ix, st with
    | some (.inl (ci, k, _, _)), .ref a :: r => (gm_fld M a ci k).map fun v => (pc + 3, ls, v :: r, M, sz, 0)
    | _, _ => none
  | .putfield ix => match lk ix, st with
    | some (.inl (ci, k, ty, true)), v :: .ref a :: r => (gm_put N0 M a ci k ty v).map fun M' => (pc + 3, ls, r, M', sz, 0)
    | _, _ => none
  | .iaload => match st with
    | .int j :: .ref a :: r => match gm_ai M a .int j with
      | some x => some (pc + 1, ls, .int x :: r, M, sz, 0)
      | none => (gm_ai M a gm_scr j).map fun x => (pc + 1, ls, .int x :: r, M, sz, 0)
    | _ => none
  | .caload => match st with
    | .int j :: .ref a :: r => (gm_ai M a .char j).map fun x => (pc + 1, ls, .int x :: r, M, sz, 0)
    | _ => none
  | .baload => match st with
    | .int j :: .ref a :: r => match gm_ai M a .boolean j with
      | some x => some (pc + 1, ls, .int x :: r, M, sz, 0)
      | none => (gm_ai M a .byte j).map fun x => (pc + 1, ls, .int x :: r, M, sz, 0)
    | _ => none
  | .laload => match st with
    | .int j :: .ref a :: r => (gm_al64 M a j).map fun x => (pc + 1, ls, .long x :: r, M, sz, 0)
    | _ => none
  | .aaload => match st with
    | .int j :: .ref a :: r => (gm_aq M a j).map fun x => (pc + 1, ls, va_rf x :: r, M, sz, 0)
    | _ => none
  | .iastore => match st with
    | .int x :: .int j :: .ref a :: r => (gm_asti N0 M a .int j x).map fun M' => (pc + 1, ls, r, M', sz, 0)
    | _ => none
  | .castore => match st with
    | .int x :: .int j :: .ref a :: r => (gm_asti N0 M a .char j x).map fun M' => (pc + 1, ls, r, M', sz, 0)
    | _ => none
  | .bastore => match st with
    | .int x :: .int j :: .ref a :: r => (gm_asti N0 M a .boolean j x).map fun M' => (pc + 1, ls, r, M', sz, 0)
    | _ => none
  | .lastore => match st with
    | .long x :: .int j :: .ref a :: r => (gm_astl N0 M a j x).map fun M' => (pc + 1, ls, r, M', sz, 0)
    | _ => none
  | .aastore => match st with
    | .ref b :: .int j :: .ref a :: r => (gm_astq N0 nm M a j (some b)).map fun M' => (pc + 1, ls, r, M', sz, 0)
    | .null :: .int j :: .ref a :: r => (gm_astq N0 nm M a j none).map fun M' => (pc + 1, ls, r, M', sz, 0)
    | _ => none
  | .arraylength => match st with
    | .ref a :: r => (gm_alen M a).map fun n => (pc + 1, ls, .int (Int32.ofNat n) :: r, M, sz, 0)
    | _ => none
  | .newarray ty => match st with
    | .int n :: r => if ¬ n < 0 ∧ n.toNatClampNeg ≤ 60000000 then (gm_zero (newarray.typeOf ty) n.toNatClampNeg).map fun x => (pc + 2, ls, .ref sz :: r, gm_new M sz x, sz + 1, n.toNatClampNeg) else none
    | _ => none
  | .anewarray ix => match lk (ix + 100000), st with
    | some (.inr (.inr (.inl (.object C)))), .int n :: r => if ¬ n < 0 ∧ n.toNatClampNeg ≤ 60000000 then some (pc + 3, ls, .ref sz :: r, gm_new M sz (.inl (.object C, n.toNatClampNeg, .inr (.inr (.inr (.inr (fun _ => none)))))), sz + 1, n.toNatClampNeg) else none
    | _, _ => none
  | .new ix => match lk ix with
    | some (.inr (.inl (ci, fs))) => some (pc + 3, ls, .ref sz :: st, gm_new M sz (.inr (ci, fs)), sz + 1, fs.length)
    | _ => none
  | .ldc ix => match lk ix with
    | some (.inr (.inr (.inr (.inr (0, v))))) => some (pc + 2, ls, v :: st, M, sz, 0)
    | _ => none
  | .ldc_w ix => match lk ix with
    | some (.inr (.inr (.inr (.inr (3, v))))) => some (pc + 3, ls, v :: st, M, sz, 0)
    | _ => none
  | .ldc2_w ix => match lk ix with
    | some (.inr (.inr (.inr (.inr (1, v))))) => some (pc + 3, ls, v :: st, M, sz, 0)
    | _ => none
  | .getstatic ix => match lk ix with
    | some (.inr (.inr (.inr (.inr (2, v))))) => some (pc + 3, ls, v :: st, M, sz, 0)
    | _ => none
  | _ => none
/-- the exceptions that are thrown -/
def gm_xs : List String := ["java/lang/IllegalArgumentException", "java/lang/UnsupportedOperationException", "java/lang/IllegalStateException", "java/lang/IndexOutOfBoundsException", "java/util/NoSuchElementException"]
/-- 'throw new E()': which -/
def gm_thr (lk : Nat → Option gm_L) (i : Instr) (st : List Value) : Option Nat := match i, st with
  | .new ix, [] => match lk ix with
    | some (.inr (.inr (.inl (.array (.object E))))) => gm_xs.findIdx? (fun x => x == E)
    | _ => none
  | _, _ => none
/-- how a method ends (a throw: one cell of six places more, at most) -/
def gm_end (lk : Nat → Option gm_L) (ret : Option FieldType) (i : Instr) (st : List Value) (M : gm_H) (sz sl : Nat) : Option gm_R := match gm_thr lk i st with
  | some e => some (.threw e, M, sz + 1, sl + 6)
  | none => match i, ret, st with
    | .return_, none, [] => some (.returned none, M, sz, sl)
    | .ireturn, some .int, [.int x] => some (.returned (some (.int x)), M, sz, sl)
    | .ireturn, some .boolean, [.int x] => if x = 0 ∨ x = 1 then some (.returned (some (.int x)), M, sz, sl) else none
    | .lreturn, some .long, [.long x] => some (.returned (some (.long x)), M, sz, sl)
    | .areturn, some (.object _), [.ref a] => some (.returned (some (.ref a)), M, sz, sl)
    | .areturn, some (.object _), [.null] => some (.returned (some .null), M, sz, sl)
    | _, _, _ => none
abbrev gm_Call : Type := Nat → List Value → gm_H → Nat → Option gm_R
/-- a call: of which method, its values, what is left on the stack -/
def gm_site (lk : Nat → Option gm_L) (i : Instr) (st : List Value) (M : gm_H) : Option (Nat × List Value × List Value) := match i with
  | .invokestatic ix => match lk ix with
    | some (.inr (.inr (.inr (.inl (mi, na, 0))))) => if na ≤ st.length ∧ ((st.drop na).map fun v => v.category).sum ≤ 8 then some (mi, (st.take na).reverse, st.drop na) else none
    | _ => none
  | .invokespecial ix => match lk ix with
    | some (.inr (.inr (.inr (.inl (mi, na, 1))))) => match st.drop na with
      | .ref a :: r => if (r.map fun v => v.category).sum ≤ 8 then some (mi, .ref a :: (st.take na).reverse, r) else none
      | _ => none
    | _ => none
  | .invokevirtual ix => match lk ix with
    | some (.inr (.inr (.inr (.inl (mi, na, 2))))) => match st.drop na with
      | .ref a :: r => if (r.map fun v => v.category).sum ≤ 8 then some (mi, .ref a :: (st.take na).reverse, r) else none
      | _ => none
    | some (.inr (.inr (.inr (.inl (mi, na, ci + 3))))) => match st.drop na with
      | .ref a :: r => match M a with
        | some (.inr (c, _)) => if c = ci ∧ (r.map fun v => v.category).sum ≤ 8 then some (mi, .ref a :: (st.take na).reverse, r) else none
        | _ => none
      | _ => none
    | _ => none
  | _ => none
/-- a method's own rows: code by places, the pool, what it returns; ex: where a throw out of a call is caught -/
def gm_exec (N0 : Nat) (nm : Nat → Option String) (ret : Option FieldType) (I : Nat → Option Instr) (lk : Nat → Option gm_L) (ex : Nat → gm_H → Nat → Option Nat) (call : gm_Call) : Nat → Nat → gm_Ls → List Value → gm_H → Nat → Nat → Option gm_R
  | 0, _, _, _, _, _, _ => none
  | n + 1, pc, ls, st, M, sz, sl => match I pc with
    | none => none
    | some i => match gm_pure i pc ls st with
      | some (pc', ls', st') => gm_exec N0 nm ret I lk ex call n pc' ls' st' M sz sl
      | none => match gm_heap N0 nm lk i pc ls st M sz with
        | some (pc', ls', st', M', sz', d) => gm_exec N0 nm ret I lk ex call n pc' ls' st' M' sz' (sl + d)
        | none => match gm_site lk i st M with
          | some (mi, av, r) => match call mi av M sz with
            | some (.returned v, M', sz', d) => gm_exec N0 nm ret I lk ex call n (pc + 3) ls (v.toList ++ r) M' sz' (sl + d)
            | some (.threw a, M', sz', d) => match ex pc M' a with
              | some h => gm_exec N0 nm ret I lk ex call n h ls [.ref a] M' sz' (sl + d)
              | none => some (.threw a, M', sz', sl + d)
            | none => none
          | none => gm_end lk ret i st M sz sl
/-! what a heap of the JVM holds of an abstract one -/
section GMW
variable (D : va_G) (cl : List vw_C) (AC : FieldType → ClassId) (N0 : Nat)
def gm_at (U : State) (a : Nat) (x : gm_E) (H : Heap) : Prop := match x with
  | .inl (t, v) => (∃ t', t = .array t' ∧ a < N0 ∧ ∃ f, v.2 = .inl f ∧ va_T t' a v.1 (fun j => .int (f j)) (fun q => N0 ≤ q) U H) ∨ ((∀ t', ¬ t = .array t') ∧ H[a]? = some (vp_cell (AC t) v) ∧ ArrOfT U (AC t) t ∧ va_RA U (AC t) t)
  | .inr o => ∃ r : vw_C, cl[o.1]? = some r ∧ t_OB a (D.1 o.1) r.2.2 (D.2 o.1) H (vp_V o.2)
def gm_ok (U : State) (M : gm_H) (H : Heap) : Prop := ∀ a x, M a = some x → gm_at D cl AC N0 U a x H
end GMW
section GMWL
variable {D : va_G} {cl : List vw_C} {AC : FieldType → ClassId} {N0 : Nat}
theorem gm_at.kept {U : State} {a : Nat} {x : gm_E} {H H1 : Heap} (h : gm_at D cl AC N0 U a x H) (hq : H1[a]? = H[a]?) : gm_at D cl AC N0 U a x H1 := by
  obtain ⟨t, v⟩ | o := x
  · rcases h with ⟨t', h1, h2, f, h3, cell, h4, h5⟩ | ⟨h1, h2, h3⟩
    · exact Or.inl ⟨t', h1, h2, f, h3, cell, hq.trans h4, h5⟩
    · exact Or.inr ⟨h1, hq.trans h2, h3⟩
  · obtain ⟨r, h1, h2⟩ := h
    exact ⟨r, h1, h2.kept hq⟩
theorem gm_at.moved {u U : State} (hvm : u.vm.Alike U.vm) {a : Nat} {x : gm_E} {H : Heap} (h : gm_at D cl AC N0 u a x H) : gm_at D cl AC N0 U a x H := by
  obtain ⟨t, v⟩ | o := x
  · rcases h with ⟨t', h1, h2, f, h3, h4⟩ | ⟨h1, h2, h3, h4⟩
    · exact Or.inl ⟨t', h1, h2, f, h3, h4.moved hvm⟩
    · exact Or.inr ⟨h1, h2, arrOfT_moved hvm h3, h4.moved hvm⟩
  · exact h
theorem gm_at.lt {U : State} {a : Nat} {x : gm_E} {H : Heap} (h : gm_at D cl AC N0 U a x H) : a < H.size := by
  obtain ⟨t, v⟩ | o := x
  · rcases h with ⟨-, -, -, f, -, scr, h4, -⟩ | ⟨-, h2, -⟩
    · exact (Array.getElem?_eq_some_iff.mp h4).1
    · exact (Array.getElem?_eq_some_iff.mp h2).1
  · obtain ⟨r, -, cell, h2, -⟩ := h
    exact (Array.getElem?_eq_some_iff.mp h2).1
theorem gm_ok.moved {u U : State} (hvm : u.vm.Alike U.vm) {M : gm_H} {H : Heap} (h : gm_ok D cl AC N0 u M H) : gm_ok D cl AC N0 U M H := fun a x hx => (h a x hx).moved hvm
/-- a cell is written -/
theorem gm_ok.set {U : State} {M : gm_H} {H H1 : Heap} {a : Nat} {x : gm_E} (h : gm_ok D cl AC N0 U M H) (hx : gm_at D cl AC N0 U a x H1) (oq : ∀ q : Nat, q ≠ a → H1[q]? = H[q]?) : gm_ok D cl AC N0 U (gm_set M a x) H1 := by
  intro q y hy
  by_cases hq : q = a
  · subst hq
    rw [gm_set_eq] at hy
    cases hy
    exact hx
  · rw [gm_set_ne hq] at hy
    exact (h q y hy).kept (oq q hq)
/-- a cell is made -/
theorem gm_ok.new {U : State} {M : gm_H} {H H1 : Heap} {x : gm_E} (h : gm_ok D cl AC N0 U M H) (hx : gm_at D cl AC N0 U H.size x H1) (oq : ∀ q : Nat, q < H.size → H1[q]? = H[q]?) : gm_ok D cl AC N0 U (gm_new M H.size x) H1 := by
  intro q y hy
  by_cases hq : q = H.size
  · subst hq
    rw [gm_new, gm_set_eq] at hy
    cases hy
    exact hx
  · rw [gm_new, gm_set_ne hq] at hy
    exact (h q y hy).kept (oq q (h q y hy).lt)
end GMWL
