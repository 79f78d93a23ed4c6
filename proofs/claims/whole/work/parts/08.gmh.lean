/-! the locals with which a method begins -/
def gm_sl (vs : List Value) : gm_Ls := vs.flatMap fun v => if v.category = 2 then [some v, none] else [some v]
def gm_entry (nL : Nat) (vs : List Value) : gm_Ls := gm_sl vs ++ List.replicate (nL - (gm_sl vs).length) none
def gm_unslot : Slot → Option Value
  | .val v => some v
  | _ => none
theorem gm_sl_map (vs : List Value) : gm_sl vs = (lg_sl vs).map gm_unslot := by
  induction vs with
  | nil => rfl
  | cons v r ih =>
    simp only [gm_sl, lg_sl, List.flatMap_cons, List.map_append] at ih ⊢
    rw [ih]
    by_cases h : v.category = 2 <;> simp [h, gm_unslot]
theorem gm_sl_len (vs : List Value) : (gm_sl vs).length = (lg_sl vs).length := by rw [gm_sl_map, List.length_map]
theorem gm_entry_ok {nL : Nat} (vs : List Value) (h : (gm_sl vs).length ≤ nL) : gm_lok (gm_entry nL vs) ((lg_sl vs ++ List.replicate (nL - (lg_sl vs).length) Slot.unset).toArray) nL := by
  have hl := lv_entry vs (n := nL) (by rw [← gm_sl_len]; exact h)
  have hm : gm_entry nL vs = (lg_sl vs ++ List.replicate (nL - (lg_sl vs).length) Slot.unset).map gm_unslot := by
    unfold gm_entry
    rw [List.map_append, ← gm_sl_map, gm_sl_len]
    simp [gm_unslot]
  refine ⟨hl.1, ?_, hl.2.1, fun i v hv => ?_⟩
  · unfold gm_entry
    simp
    omega
  · rw [hm] at hv
    unfold gm_lget at hv
    rw [List.getD_eq_getElem?_getD, List.getElem?_map] at hv
    rw [List.getElem?_toArray]
    cases hx : (lg_sl vs ++ List.replicate (nL - (lg_sl vs).length) Slot.unset)[i]? with
    | none => rw [hx] at hv; simp at hv
    | some x =>
      rw [hx] at hv
      cases x with
      | val w => simp [gm_unslot] at hv; rw [hv]
      | unset => simp [gm_unslot] at hv
      | second => simp [gm_unslot] at hv
/-! methods by their numbers: class, name, code, locals, answer, code by places, pool, whether a constructor -/
abbrev gm_Mi : Type := String × MethodName × ByteArray × Nat × Option FieldType × (Nat → Option Instr) × (Nat → Option gm_L) × Bool
/-- Object(), Math.min, Math.max, System.arraycopy of ints -/
def gm_bi : gm_Call := fun mi av M sz => match mi, av with
  | 0, [.ref _] => some (.returned none, M, sz, 0)
  | 1, [.int x, .int y] => some (.returned (some (.int (if y < x then y else x))), M, sz, 0)
  | 2, [.int x, .int y] => some (.returned (some (.int (if x < y then y else x))), M, sz, 0)
  | _, _ => none
/-- .. the last writes cells: it asks where the system's own cells begin -/
def gm_copy (N0 : Nat) : gm_Call := fun mi av M sz => match mi, av with
  | 3, [.ref a0, .int sp, .ref a, .int dp, .int n] => match M a0, M a with
    | some (.inl (.int, n0, .inl f)), some (.inl (.int, n1, .inl g)) =>
      if N0 ≤ a ∧ ¬ sp < 0 ∧ ¬ dp < 0 ∧ ¬ n < 0 ∧ sp.toNatClampNeg + n.toNatClampNeg ≤ n0 ∧ dp.toNatClampNeg + n.toNatClampNeg ≤ n1 then
        some (.returned none, gm_set M a (.inl (.int, n1, .inl (va_cpy f g sp.toNatClampNeg dp.toNatClampNeg n.toNatClampNeg))), sz, 0) else none
    | _, _ => none
  | _, _ => none
/-- "RITNDLGE".indexOf(c) -/
def gm_ix (c : Int32) : Int32 := if c = 82 then 0 else if c = 73 then 1 else if c = 84 then 2 else if c = 78 then 3 else if c = 68 then 4 else if c = 76 then 5 else if c = 71 then 6 else if c = 69 then 7 else -1
/-- indexOf of the constant text "RITNDLGE", at K 1 and K 2 -/
def gm_bx (K : Nat → Nat) : gm_Call := fun mi av M sz => match mi, av with
  | 4, [.ref a, .int c] => if a = K 1 ∨ a = K 2 then some (.returned (some (.int (gm_ix c))), M, sz, 0) else none
  | _, _ => none
def gm_run (N0 : Nat) (K : Nat → Nat) (nm : Nat → Option String) (mt : Nat → Option gm_Mi) : Nat → Nat → gm_Call
  | 0, _ => fun _ _ _ _ => none
  | d + 1, n => fun mi av M sz => match gm_bi mi av M sz with
    | some r => some r
    | none => match gm_copy N0 mi av M sz with
      | some r => some r
      | none => match gm_bx K mi av M sz with
        | some r => some r
        | none => match mt mi with
          | none => none
          | some (_, _, _, nL, ret, I, lk, _) => if (gm_sl av).length ≤ nL then gm_exec N0 nm ret I lk (fun _ _ _ => none) (gm_run N0 K nm mt d n) n 0 (gm_entry nL av) [] M sz 0 else none
theorem gm_run_mono {N0 : Nat} {K : Nat → Nat} {nm : Nat → Option String} {mt : Nat → Option gm_Mi} {n : Nat} : ∀ (d mi : Nat) (av : List Value) (M : gm_H) (sz : Nat) (o : Outcome) (M' : gm_H) (sz' dd : Nat), gm_run N0 K nm mt d n mi av M sz = some (o, M', sz', dd) → sz ≤ sz' := by
  intro d
  induction d with
  | zero => intro mi av M sz o M' sz' dd h; cases h
  | succ d ih =>
    intro mi av M sz o M' sz' dd h
    simp only [gm_run] at h
    split at h
    · rename_i r hr
      cases h
      unfold gm_bi at hr
      split at hr <;> first | (cases hr; done) | (cases hr; exact Nat.le_refl _)
    · split at h
      · rename_i r hr
        cases h
        unfold gm_copy at hr
        split at hr
        · split at hr
          · split at hr
            · cases hr; exact Nat.le_refl _
            · cases hr
          · cases hr
        · cases hr
      · split at h
        · rename_i r hr
          cases h
          unfold gm_bx at hr
          split at hr
          · split at hr
            · cases hr; exact Nat.le_refl _
            · cases hr
          · cases hr
        split at h
        · cases h
        · split at h
          · exact (gm_exec_mono (fun mi av M sz o M' sz' d h => ih mi av M sz o M' sz' d h) _ _ _ _ _ _ _ _ _ _ _ h).1
          · cases h
