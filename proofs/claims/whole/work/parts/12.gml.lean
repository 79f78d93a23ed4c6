/-! more fuel, deeper calls: nothing changes -/
theorem gm_exec_up {N0 : Nat} {nm : Nat → Option String} {ret : Option FieldType} {I : Nat → Option Instr} {lk : Nat → Option gm_L} {ex : Nat → gm_H → Nat → Option Nat} {call call' : gm_Call} (hc : ∀ mi av M sz R, call mi av M sz = some R → call' mi av M sz = some R) :
    ∀ (k k' pc : Nat) (ls : gm_Ls) (st : List Value) (M : gm_H) (sz sl : Nat) (R : gm_R), k ≤ k' → gm_exec N0 nm ret I lk ex call k pc ls st M sz sl = some R → gm_exec N0 nm ret I lk ex call' k' pc ls st M sz sl = some R := by
  intro k
  induction k with
  | zero => intro k' pc ls st M sz sl R hk h; cases h
  | succ k ih =>
    intro k' pc ls st M sz sl R hk h
    cases k' with
    | zero => omega
    | succ k' =>
      have hk' : k ≤ k' := by omega
      simp only [gm_exec] at h ⊢
      split at h
      · cases h
      · split at h
        · exact ih k' _ _ _ _ _ _ _ hk' h
        · split at h
          · exact ih k' _ _ _ _ _ _ _ hk' h
          · split at h
            · split at h
              · rename_i hcl
                rw [hc _ _ _ _ _ hcl]
                exact ih k' _ _ _ _ _ _ _ hk' h
              · rename_i a M1 sz1 d1 hcl
                rw [hc _ _ _ _ _ hcl]
                dsimp only
                cases hx : ex pc M1 a with
                | none =>
                  rw [hx] at h
                  exact h
                | some hh =>
                  rw [hx] at h
                  exact ih k' _ _ _ _ _ _ _ hk' h
              · cases h
            · exact h
theorem gm_run_up {N0 : Nat} {K : Nat → Nat} {nm : Nat → Option String} {mt : Nat → Option gm_Mi} : ∀ (d d' n n' mi : Nat) (av : List Value) (M : gm_H) (sz : Nat) (R : gm_R), d ≤ d' → n ≤ n' → gm_run N0 K nm mt d n mi av M sz = some R → gm_run N0 K nm mt d' n' mi av M sz = some R := by
  intro d
  induction d with
  | zero => intro d' n n' mi av M sz R hd hn h; cases h
  | succ d ih =>
    intro d' n n' mi av M sz R hd hn h
    cases d' with
    | zero => omega
    | succ d' =>
      simp only [gm_run] at h ⊢
      split at h
      · exact h
      · split at h
        · exact h
        · split at h
          · exact h
          split at h
          · cases h
          · split at h
            · rename_i hl
              rw [if_pos hl]
              exact gm_exec_up (fun mi av M sz R h => ih d' n n' mi av M sz R (by omega) hn h) _ _ _ _ _ _ _ _ _ hn h
            · cases h
/-! what a method comes to, and from within it: rows, an instruction each -/
/-- what a call comes to -/
def gm_toC (C : Nat → gm_Call) (mi : Nat) (av : List Value) (M : gm_H) (sz : Nat) (R : gm_R) : Prop := ∃ n, C n mi av M sz = some R
abbrev gm_to (N0 : Nat) (K : Nat → Nat) (nm : Nat → Option String) (mt : Nat → Option gm_Mi) (d mi : Nat) (av : List Value) (M : gm_H) (sz : Nat) (R : gm_R) : Prop := gm_toC (gm_run N0 K nm mt d) mi av M sz R
def gm_mono (C : Nat → gm_Call) : Prop := ∀ (n n' mi : Nat) (av : List Value) (M : gm_H) (sz : Nat) (R : gm_R), n ≤ n' → C n mi av M sz = some R → C n' mi av M sz = some R
theorem gm_mono_run {N0 : Nat} {K : Nat → Nat} {nm : Nat → Option String} {mt : Nat → Option gm_Mi} {d : Nat} : gm_mono (gm_run N0 K nm mt d) := fun n n' mi av M sz R h => gm_run_up d d n n' mi av M sz R (Nat.le_refl d) h
/-- a call that does not throw -/
def gm_only (f : gm_Call) : gm_Call := fun mi av M sz => match f mi av M sz with
  | some (.returned v, M', sz', d) => some (.returned v, M', sz', d)
  | _ => none
theorem gm_only_le {f : gm_Call} {mi : Nat} {av : List Value} {M : gm_H} {sz : Nat} {R : gm_R} (h : gm_only f mi av M sz = some R) : f mi av M sz = some R := by
  unfold gm_only at h
  split at h
  · rename_i hf; rw [hf]; exact h
  · cases h
theorem gm_only_ret {f : gm_Call} {mi : Nat} {av : List Value} {M M' : gm_H} {sz sz' d : Nat} {v : Option Value} (h : f mi av M sz = some (.returned v, M', sz', d)) : gm_only f mi av M sz = some (.returned v, M', sz', d) := by
  simp only [gm_only, h]
theorem gm_only_up {f g : gm_Call} (hfg : ∀ mi av M sz R, f mi av M sz = some R → g mi av M sz = some R) {mi : Nat} {av : List Value} {M : gm_H} {sz : Nat} {R : gm_R} (h : gm_only f mi av M sz = some R) : gm_only g mi av M sz = some R := by
  have h1 := gm_only_le h
  unfold gm_only at h
  split at h
  · rename_i v M' sz' d hf
    rw [hf] at h1
    rw [gm_only_ret (hfg _ _ _ _ _ hf)]
    exact h
  · cases h
def gm_evC (N0 : Nat) (nm : Nat → Option String) (C : Nat → gm_Call) (ret : Option FieldType) (I : Nat → Option Instr) (lk : Nat → Option gm_L) (pc : Nat) (ls : gm_Ls) (st : List Value) (M : gm_H) (sz sl : Nat) (R : gm_R) : Prop :=
  ∃ n k, gm_exec N0 nm ret I lk (fun _ _ _ => none) (gm_only (C n)) k pc ls st M sz sl = some R
abbrev gm_ev (N0 : Nat) (K : Nat → Nat) (nm : Nat → Option String) (mt : Nat → Option gm_Mi) (d : Nat) (ret : Option FieldType) (I : Nat → Option Instr) (lk : Nat → Option gm_L) (pc : Nat) (ls : gm_Ls) (st : List Value) (M : gm_H) (sz sl : Nat) (R : gm_R) : Prop := gm_evC N0 nm (gm_run N0 K nm mt d) ret I lk pc ls st M sz sl R
theorem gm_to.up {N0 : Nat} {K : Nat → Nat} {nm : Nat → Option String} {mt : Nat → Option gm_Mi} {d d' mi : Nat} {av : List Value} {M : gm_H} {sz : Nat} {R : gm_R} (h : gm_to N0 K nm mt d mi av M sz R) (hd : d ≤ d') : gm_to N0 K nm mt d' mi av M sz R := by
  obtain ⟨n, h⟩ := h
  exact ⟨n, gm_run_up _ _ _ _ _ _ _ _ _ hd (Nat.le_refl n) h⟩
section GMEV
variable {N0 : Nat} {K : Nat → Nat} {nm : Nat → Option String} {mt : Nat → Option gm_Mi} {d : Nat} {C : Nat → gm_Call} {ret : Option FieldType} {I : Nat → Option Instr} {lk : Nat → Option gm_L} {pc pc' : Nat} {ls ls' : gm_Ls} {st st' r : List Value} {M M' : gm_H} {sz sz' sl dd : Nat} {R : gm_R} {i : Instr}
theorem gm_ev.pure (hi : I pc = some i) (h : gm_pure i pc ls st = some (pc', ls', st')) (k : gm_evC N0 nm C ret I lk pc' ls' st' M sz sl R) : gm_evC N0 nm C ret I lk pc ls st M sz sl R := by
  obtain ⟨n, k, hk⟩ := k
  exact ⟨n, k + 1, by simp only [gm_exec, hi, h]; exact hk⟩
theorem gm_ev.heap (hi : I pc = some i) (h0 : gm_pure i pc ls st = none) (h : gm_heap N0 nm lk i pc ls st M sz = some (pc', ls', st', M', sz', dd)) (k : gm_evC N0 nm C ret I lk pc' ls' st' M' sz' (sl + dd) R) : gm_evC N0 nm C ret I lk pc ls st M sz sl R := by
  obtain ⟨n, k, hk⟩ := k
  exact ⟨n, k + 1, by simp only [gm_exec, hi, h0, h]; exact hk⟩
theorem gm_ev.call (hC : gm_mono C) {mi : Nat} {av : List Value} {v : Option Value} (hi : I pc = some i) (h0 : gm_pure i pc ls st = none) (h1 : gm_heap N0 nm lk i pc ls st M sz = none) (hs : gm_site lk i st M = some (mi, av, r)) (ht : gm_toC C mi av M sz (.returned v, M', sz', dd)) (k : gm_evC N0 nm C ret I lk (pc + 3) ls (v.toList ++ r) M' sz' (sl + dd) R) : gm_evC N0 nm C ret I lk pc ls st M sz sl R := by
  obtain ⟨n, k, hk⟩ := k
  obtain ⟨n1, ht⟩ := ht
  refine ⟨max n n1, k + 1, ?_⟩
  have e1 := hC n1 (max n n1) _ _ _ _ _ (Nat.le_max_right n n1) ht
  simp only [gm_exec, hi, h0, h1, hs, gm_only_ret e1]
  exact gm_exec_up (fun mi av M sz R h => gm_only_up (fun mi av M sz R h => hC n (max n n1) mi av M sz R (Nat.le_max_left n n1) h) h) _ _ _ _ _ _ _ _ _ (Nat.le_refl k) hk
theorem gm_ev.fin (hi : I pc = some i) (h0 : gm_pure i pc ls st = none) (h1 : gm_heap N0 nm lk i pc ls st M sz = none) (hs : gm_site lk i st M = none) (he : gm_end lk ret i st M sz sl = some R) : gm_evC N0 nm C ret I lk pc ls st M sz sl R :=
  ⟨0, 1, by simp only [gm_exec, hi, h0, h1, hs]; exact he⟩
theorem gm_to.of {mi nL : Nat} {own : String} {y : MethodName} {cc : ByteArray} {ini : Bool} {av : List Value} (hm : mt mi = some (own, y, cc, nL, ret, I, lk, ini)) (h4 : 10 ≤ mi) (hl : (gm_sl av).length ≤ nL) (hls : gm_entry nL av = ls) (k : gm_ev N0 K nm mt d ret I lk 0 ls [] M sz 0 R) : gm_to N0 K nm mt (d + 1) mi av M sz R := by
  subst hls
  obtain ⟨n, k, hk⟩ := k
  refine ⟨max n k, ?_⟩
  simp only [gm_run, gm_bi_hi (show 4 ≤ mi by omega), gm_copy_hi (show 4 ≤ mi by omega), gm_bx_ne (show mi ≠ 4 by omega), hm, if_pos hl]
  exact gm_exec_up (fun mi av M sz R h => gm_run_up d d n (max n k) mi av M sz R (Nat.le_refl d) (Nat.le_max_left n k) (gm_only_le h)) _ _ _ _ _ _ _ _ _ (Nat.le_max_right n k) hk
theorem gm_ev.iconst {n : Int} {v : Int32} (hi : I pc = some (.iconst n)) (hv : Int32.ofInt n = v) (k : gm_evC N0 nm C ret I lk (pc + 1) ls (.int v :: r) M sz sl R) : gm_evC N0 nm C ret I lk pc ls (r) M sz sl R := by subst hv; exact gm_ev.pure hi rfl k
theorem gm_ev.bipush {n : Int} {v : Int32} (hi : I pc = some (.bipush n)) (hv : (Int8.ofInt n).toInt32 = v) (k : gm_evC N0 nm C ret I lk (pc + 2) ls (.int v :: r) M sz sl R) : gm_evC N0 nm C ret I lk pc ls (r) M sz sl R := by subst hv; exact gm_ev.pure hi rfl k
theorem gm_ev.sipush {n : Int} {v : Int32} (hi : I pc = some (.sipush n)) (hv : (Int16.ofInt n).toInt32 = v) (k : gm_evC N0 nm C ret I lk (pc + 3) ls (.int v :: r) M sz sl R) : gm_evC N0 nm C ret I lk pc ls (r) M sz sl R := by subst hv; exact gm_ev.pure hi rfl k
theorem gm_ev.lconst {n : Fin 2} {v : Int64} (hi : I pc = some (.lconst n)) (hv : Int64.ofNat (n : Nat) = v) (k : gm_evC N0 nm C ret I lk (pc + 1) ls (.long v :: r) M sz sl R) : gm_evC N0 nm C ret I lk pc ls (r) M sz sl R := by subst hv; exact gm_ev.pure hi rfl k
theorem gm_ev.null (hi : I pc = some .aconst_null) (k : gm_evC N0 nm C ret I lk (pc + 1) ls (.null :: r) M sz sl R) : gm_evC N0 nm C ret I lk pc ls (r) M sz sl R := gm_ev.pure hi rfl k
theorem gm_ev.iload {j : Nat} {x : Int32} (hi : I pc = some (.iload j)) (hl : gm_lget ls j = some (.int x)) (k : gm_evC N0 nm C ret I lk (pc + 2) ls (.int x :: r) M sz sl R) : gm_evC N0 nm C ret I lk pc ls (r) M sz sl R := gm_ev.pure hi (by simp only [gm_pure, gm_ldi, hl]) k
theorem gm_ev.iload_n {j : Fin 4} {x : Int32} (hi : I pc = some (.iload_n j)) (hl : gm_lget ls (j : Nat) = some (.int x)) (k : gm_evC N0 nm C ret I lk (pc + 1) ls (.int x :: r) M sz sl R) : gm_evC N0 nm C ret I lk pc ls (r) M sz sl R := gm_ev.pure hi (by simp only [gm_pure, gm_ldi, hl]) k
theorem gm_ev.lload {j : Nat} {x : Int64} (hi : I pc = some (.lload j)) (hl : gm_lget ls j = some (.long x)) (k : gm_evC N0 nm C ret I lk (pc + 2) ls (.long x :: r) M sz sl R) : gm_evC N0 nm C ret I lk pc ls (r) M sz sl R := gm_ev.pure hi (by simp only [gm_pure, gm_ldl, hl]) k
theorem gm_ev.lload_n {j : Fin 4} {x : Int64} (hi : I pc = some (.lload_n j)) (hl : gm_lget ls (j : Nat) = some (.long x)) (k : gm_evC N0 nm C ret I lk (pc + 1) ls (.long x :: r) M sz sl R) : gm_evC N0 nm C ret I lk pc ls (r) M sz sl R := gm_ev.pure hi (by simp only [gm_pure, gm_ldl, hl]) k
theorem gm_ev.aload {j : Nat} {x : Nat} (hi : I pc = some (.aload j)) (hl : gm_lget ls j = some (.ref x)) (k : gm_evC N0 nm C ret I lk (pc + 2) ls (.ref x :: r) M sz sl R) : gm_evC N0 nm C ret I lk pc ls (r) M sz sl R := gm_ev.pure hi (by simp only [gm_pure, gm_lda, hl]) k
theorem gm_ev.aload_n {j : Fin 4} {x : Nat} (hi : I pc = some (.aload_n j)) (hl : gm_lget ls (j : Nat) = some (.ref x)) (k : gm_evC N0 nm C ret I lk (pc + 1) ls (.ref x :: r) M sz sl R) : gm_evC N0 nm C ret I lk pc ls (r) M sz sl R := gm_ev.pure hi (by simp only [gm_pure, gm_lda, hl]) k
theorem gm_ev.aloadN {j : Nat} (hi : I pc = some (.aload j)) (hl : gm_lget ls j = some (.null)) (k : gm_evC N0 nm C ret I lk (pc + 2) ls (.null :: r) M sz sl R) : gm_evC N0 nm C ret I lk pc ls (r) M sz sl R := gm_ev.pure hi (by simp only [gm_pure, gm_lda, hl]) k
theorem gm_ev.aloadN_n {j : Fin 4} (hi : I pc = some (.aload_n j)) (hl : gm_lget ls (j : Nat) = some (.null)) (k : gm_evC N0 nm C ret I lk (pc + 1) ls (.null :: r) M sz sl R) : gm_evC N0 nm C ret I lk pc ls (r) M sz sl R := gm_ev.pure hi (by simp only [gm_pure, gm_lda, hl]) k
theorem gm_ev.istore {j : Nat} {x : Int32} (hi : I pc = some (.istore j)) (hj : j < ls.length) (hl : gm_l1 ls j (.int x) = ls') (k : gm_evC N0 nm C ret I lk (pc + 2) ls' (r) M sz sl R) : gm_evC N0 nm C ret I lk pc ls (.int x :: r) M sz sl R := gm_ev.pure hi (by simp only [gm_pure, gm_sti, if_pos hj, hl]) k
theorem gm_ev.istore_n {j : Fin 4} {x : Int32} (hi : I pc = some (.istore_n j)) (hj : (j : Nat) < ls.length) (hl : gm_l1 ls (j : Nat) (.int x) = ls') (k : gm_evC N0 nm C ret I lk (pc + 1) ls' (r) M sz sl R) : gm_evC N0 nm C ret I lk pc ls (.int x :: r) M sz sl R := gm_ev.pure hi (by simp only [gm_pure, gm_sti, if_pos hj, hl]) k
theorem gm_ev.lstore {j : Nat} {x : Int64} (hi : I pc = some (.lstore j)) (hj : j + 1 < ls.length) (hl : gm_l2 ls j (.long x) = ls') (k : gm_evC N0 nm C ret I lk (pc + 2) ls' (r) M sz sl R) : gm_evC N0 nm C ret I lk pc ls (.long x :: r) M sz sl R := gm_ev.pure hi (by simp only [gm_pure, gm_stl, if_pos hj, hl]) k
theorem gm_ev.lstore_n {j : Fin 4} {x : Int64} (hi : I pc = some (.lstore_n j)) (hj : (j : Nat) + 1 < ls.length) (hl : gm_l2 ls (j : Nat) (.long x) = ls') (k : gm_evC N0 nm C ret I lk (pc + 1) ls' (r) M sz sl R) : gm_evC N0 nm C ret I lk pc ls (.long x :: r) M sz sl R := gm_ev.pure hi (by simp only [gm_pure, gm_stl, if_pos hj, hl]) k
theorem gm_ev.astore {j : Nat} {x : Nat} (hi : I pc = some (.astore j)) (hj : j < ls.length) (hl : gm_l1 ls j (.ref x) = ls') (k : gm_evC N0 nm C ret I lk (pc + 2) ls' (r) M sz sl R) : gm_evC N0 nm C ret I lk pc ls (.ref x :: r) M sz sl R := gm_ev.pure hi (by simp only [gm_pure, gm_sta, if_pos hj, hl]) k
theorem gm_ev.astore_n {j : Fin 4} {x : Nat} (hi : I pc = some (.astore_n j)) (hj : (j : Nat) < ls.length) (hl : gm_l1 ls (j : Nat) (.ref x) = ls') (k : gm_evC N0 nm C ret I lk (pc + 1) ls' (r) M sz sl R) : gm_evC N0 nm C ret I lk pc ls (.ref x :: r) M sz sl R := gm_ev.pure hi (by simp only [gm_pure, gm_sta, if_pos hj, hl]) k
theorem gm_ev.astoreN {j : Nat} (hi : I pc = some (.astore j)) (hj : j < ls.length) (hl : gm_l1 ls j (.null) = ls') (k : gm_evC N0 nm C ret I lk (pc + 2) ls' (r) M sz sl R) : gm_evC N0 nm C ret I lk pc ls (.null :: r) M sz sl R := gm_ev.pure hi (by simp only [gm_pure, gm_sta, if_pos hj, hl]) k
theorem gm_ev.astoreN_n {j : Fin 4} (hi : I pc = some (.astore_n j)) (hj : (j : Nat) < ls.length) (hl : gm_l1 ls (j : Nat) (.null) = ls') (k : gm_evC N0 nm C ret I lk (pc + 1) ls' (r) M sz sl R) : gm_evC N0 nm C ret I lk pc ls (.null :: r) M sz sl R := gm_ev.pure hi (by simp only [gm_pure, gm_sta, if_pos hj, hl]) k
theorem gm_ev.iinc {j : Nat} {n : Int} {x v : Int32} (hi : I pc = some (.iinc j n)) (hg : gm_lget ls j = some (.int x)) (hv : x + Int32.ofInt n = v) (hl : gm_l1 ls j (.int v) = ls') (k : gm_evC N0 nm C ret I lk (pc + 3) ls' (st) M sz sl R) : gm_evC N0 nm C ret I lk pc ls (st) M sz sl R := by subst hv; exact gm_ev.pure hi (by simp only [gm_pure, hg, hl]) k
theorem gm_ev.iadd {x y : Int32} (hi : I pc = some .iadd) (k : gm_evC N0 nm C ret I lk (pc + 1) ls (.int (x + y) :: r) M sz sl R) : gm_evC N0 nm C ret I lk pc ls (.int y :: .int x :: r) M sz sl R := gm_ev.pure hi rfl k
theorem gm_ev.isub {x y : Int32} (hi : I pc = some .isub) (k : gm_evC N0 nm C ret I lk (pc + 1) ls (.int (x - y) :: r) M sz sl R) : gm_evC N0 nm C ret I lk pc ls (.int y :: .int x :: r) M sz sl R := gm_ev.pure hi rfl k
theorem gm_ev.imul {x y : Int32} (hi : I pc = some .imul) (k : gm_evC N0 nm C ret I lk (pc + 1) ls (.int (x * y) :: r) M sz sl R) : gm_evC N0 nm C ret I lk pc ls (.int y :: .int x :: r) M sz sl R := gm_ev.pure hi rfl k
theorem gm_ev.iand {x y : Int32} (hi : I pc = some .iand) (k : gm_evC N0 nm C ret I lk (pc + 1) ls (.int (x &&& y) :: r) M sz sl R) : gm_evC N0 nm C ret I lk pc ls (.int y :: .int x :: r) M sz sl R := gm_ev.pure hi rfl k
theorem gm_ev.ior {x y : Int32} (hi : I pc = some .ior) (k : gm_evC N0 nm C ret I lk (pc + 1) ls (.int (x ||| y) :: r) M sz sl R) : gm_evC N0 nm C ret I lk pc ls (.int y :: .int x :: r) M sz sl R := gm_ev.pure hi rfl k
theorem gm_ev.ixor {x y : Int32} (hi : I pc = some .ixor) (k : gm_evC N0 nm C ret I lk (pc + 1) ls (.int (x ^^^ y) :: r) M sz sl R) : gm_evC N0 nm C ret I lk pc ls (.int y :: .int x :: r) M sz sl R := gm_ev.pure hi rfl k
theorem gm_ev.ishl {x y : Int32} (hi : I pc = some .ishl) (k : gm_evC N0 nm C ret I lk (pc + 1) ls (.int (x <<< (y &&& 31)) :: r) M sz sl R) : gm_evC N0 nm C ret I lk pc ls (.int y :: .int x :: r) M sz sl R := gm_ev.pure hi rfl k
theorem gm_ev.ishr {x y : Int32} (hi : I pc = some .ishr) (k : gm_evC N0 nm C ret I lk (pc + 1) ls (.int (x >>> (y &&& 31)) :: r) M sz sl R) : gm_evC N0 nm C ret I lk pc ls (.int y :: .int x :: r) M sz sl R := gm_ev.pure hi rfl k
theorem gm_ev.iushr {x y : Int32} (hi : I pc = some .iushr) (k : gm_evC N0 nm C ret I lk (pc + 1) ls (.int ((x.toUInt32 >>> (y.toUInt32 &&& Int32.toUInt32 31)).toInt32) :: r) M sz sl R) : gm_evC N0 nm C ret I lk pc ls (.int y :: .int x :: r) M sz sl R := gm_ev.pure hi rfl k
theorem gm_ev.idiv {x y : Int32} (hi : I pc = some .idiv) (hy : ¬ y = 0) (k : gm_evC N0 nm C ret I lk (pc + 1) ls (.int (x / y) :: r) M sz sl R) : gm_evC N0 nm C ret I lk pc ls (.int y :: .int x :: r) M sz sl R := gm_ev.pure hi (by simp only [gm_pure, gm_i2z, if_neg hy]) k
theorem gm_ev.irem {x y : Int32} (hi : I pc = some .irem) (hy : ¬ y = 0) (k : gm_evC N0 nm C ret I lk (pc + 1) ls (.int (x - x / y * y) :: r) M sz sl R) : gm_evC N0 nm C ret I lk pc ls (.int y :: .int x :: r) M sz sl R := gm_ev.pure hi (by simp only [gm_pure, gm_i2z, if_neg hy]) k
theorem gm_ev.ladd {x y : Int64} (hi : I pc = some .ladd) (k : gm_evC N0 nm C ret I lk (pc + 1) ls (.long (x + y) :: r) M sz sl R) : gm_evC N0 nm C ret I lk pc ls (.long y :: .long x :: r) M sz sl R := gm_ev.pure hi rfl k
theorem gm_ev.lsub {x y : Int64} (hi : I pc = some .lsub) (k : gm_evC N0 nm C ret I lk (pc + 1) ls (.long (x - y) :: r) M sz sl R) : gm_evC N0 nm C ret I lk pc ls (.long y :: .long x :: r) M sz sl R := gm_ev.pure hi rfl k
theorem gm_ev.lmul {x y : Int64} (hi : I pc = some .lmul) (k : gm_evC N0 nm C ret I lk (pc + 1) ls (.long (x * y) :: r) M sz sl R) : gm_evC N0 nm C ret I lk pc ls (.long y :: .long x :: r) M sz sl R := gm_ev.pure hi rfl k
theorem gm_ev.land {x y : Int64} (hi : I pc = some .land) (k : gm_evC N0 nm C ret I lk (pc + 1) ls (.long (x &&& y) :: r) M sz sl R) : gm_evC N0 nm C ret I lk pc ls (.long y :: .long x :: r) M sz sl R := gm_ev.pure hi rfl k
theorem gm_ev.lor {x y : Int64} (hi : I pc = some .lor) (k : gm_evC N0 nm C ret I lk (pc + 1) ls (.long (x ||| y) :: r) M sz sl R) : gm_evC N0 nm C ret I lk pc ls (.long y :: .long x :: r) M sz sl R := gm_ev.pure hi rfl k
theorem gm_ev.lxor {x y : Int64} (hi : I pc = some .lxor) (k : gm_evC N0 nm C ret I lk (pc + 1) ls (.long (x ^^^ y) :: r) M sz sl R) : gm_evC N0 nm C ret I lk pc ls (.long y :: .long x :: r) M sz sl R := gm_ev.pure hi rfl k
theorem gm_ev.lshl {x : Int64} {y : Int32} (hi : I pc = some .lshl) (k : gm_evC N0 nm C ret I lk (pc + 1) ls (.long (x <<< (y.toInt64 &&& 63)) :: r) M sz sl R) : gm_evC N0 nm C ret I lk pc ls (.int y :: .long x :: r) M sz sl R := gm_ev.pure hi rfl k
theorem gm_ev.lshr {x : Int64} {y : Int32} (hi : I pc = some .lshr) (k : gm_evC N0 nm C ret I lk (pc + 1) ls (.long (x >>> (y.toInt64 &&& 63)) :: r) M sz sl R) : gm_evC N0 nm C ret I lk pc ls (.int y :: .long x :: r) M sz sl R := gm_ev.pure hi rfl k
theorem gm_ev.lushr {x : Int64} {y : Int32} (hi : I pc = some .lushr) (k : gm_evC N0 nm C ret I lk (pc + 1) ls (.long ((x.toUInt64 >>> (y.toInt64.toUInt64 &&& Int64.toUInt64 63)).toInt64) :: r) M sz sl R) : gm_evC N0 nm C ret I lk pc ls (.int y :: .long x :: r) M sz sl R := gm_ev.pure hi rfl k
theorem gm_ev.lcmp {x y : Int64} (hi : I pc = some .lcmp) (k : gm_evC N0 nm C ret I lk (pc + 1) ls (.int (lg_cmp x y) :: r) M sz sl R) : gm_evC N0 nm C ret I lk pc ls (.long y :: .long x :: r) M sz sl R := gm_ev.pure hi rfl k
theorem gm_ev.ineg {x : Int32} (hi : I pc = some .ineg) (k : gm_evC N0 nm C ret I lk (pc + 1) ls (.int (-x) :: r) M sz sl R) : gm_evC N0 nm C ret I lk pc ls (.int x :: r) M sz sl R := gm_ev.pure hi rfl k
theorem gm_ev.i2l {x : Int32} (hi : I pc = some .i2l) (k : gm_evC N0 nm C ret I lk (pc + 1) ls (.long x.toInt64 :: r) M sz sl R) : gm_evC N0 nm C ret I lk pc ls (.int x :: r) M sz sl R := gm_ev.pure hi rfl k
theorem gm_ev.l2i {x : Int64} (hi : I pc = some .l2i) (k : gm_evC N0 nm C ret I lk (pc + 1) ls (.int x.toInt32 :: r) M sz sl R) : gm_evC N0 nm C ret I lk pc ls (.long x :: r) M sz sl R := gm_ev.pure hi rfl k
theorem gm_ev.i2c {x : Int32} (hi : I pc = some .i2c) (k : gm_evC N0 nm C ret I lk (pc + 1) ls (.int (x.toUInt32 % 65536).toInt32 :: r) M sz sl R) : gm_evC N0 nm C ret I lk pc ls (.int x :: r) M sz sl R := gm_ev.pure hi rfl k
theorem gm_ev.dup {v : Value} (hi : I pc = some .dup) (hc : v.category = 1) (k : gm_evC N0 nm C ret I lk (pc + 1) ls (v :: v :: r) M sz sl R) : gm_evC N0 nm C ret I lk pc ls (v :: r) M sz sl R := gm_ev.pure hi (by simp only [gm_pure, if_pos hc]) k
theorem gm_ev.pop {v : Value} (hi : I pc = some .pop) (hc : v.category = 1) (k : gm_evC N0 nm C ret I lk (pc + 1) ls (r) M sz sl R) : gm_evC N0 nm C ret I lk pc ls (v :: r) M sz sl R := gm_ev.pure hi (by simp only [gm_pure, if_pos hc]) k
theorem gm_ev.dup_x1 {v u : Value} (hi : I pc = some .dup_x1) (hc : v.category = 1) (hc2 : u.category = 1) (k : gm_evC N0 nm C ret I lk (pc + 1) ls (v :: u :: v :: r) M sz sl R) : gm_evC N0 nm C ret I lk pc ls (v :: u :: r) M sz sl R := gm_ev.pure hi (by simp only [gm_pure, hc, hc2, and_self, if_true]) k
theorem gm_ev.dup_x2 {v u x : Value} (hi : I pc = some .dup_x2) (hc : v.category = 1) (hc2 : u.category = 1) (hc3 : x.category = 1) (k : gm_evC N0 nm C ret I lk (pc + 1) ls (v :: u :: x :: v :: r) M sz sl R) : gm_evC N0 nm C ret I lk pc ls (v :: u :: x :: r) M sz sl R := gm_ev.pure hi (by simp only [gm_pure, hc, hc2, hc3, and_self, if_true]) k
theorem gm_ev.dup2 {v u : Value} (hi : I pc = some .dup2) (hc : v.category = 1) (hc2 : u.category = 1) (k : gm_evC N0 nm C ret I lk (pc + 1) ls (v :: u :: v :: u :: r) M sz sl R) : gm_evC N0 nm C ret I lk pc ls (v :: u :: r) M sz sl R := gm_ev.pure hi (by simp only [gm_pure, hc, hc2, and_self, if_true]) k
theorem gm_jmp_of {off : Int} {tgt : Nat} (ht : (pc : Int) + off = (tgt : Int)) : gm_jmp pc off ls st = some (tgt, ls, st) := by
  unfold gm_jmp
  rw [ht]
  simp
theorem gm_ev.goto {off : Int} {tgt : Nat} (hi : I pc = some (.goto off)) (ht : (pc : Int) + off = (tgt : Int)) (k : gm_evC N0 nm C ret I lk tgt ls (st) M sz sl R) : gm_evC N0 nm C ret I lk pc ls (st) M sz sl R := gm_ev.pure hi (gm_jmp_of ht) k
theorem gm_ev.if_eq_t {x : Int32} {off : Int} {tgt : Nat} (hi : I pc = some (.ifCond .eq off)) (ht : (pc : Int) + off = (tgt : Int)) (hc : x = 0) (k : gm_evC N0 nm C ret I lk tgt ls (r) M sz sl R) : gm_evC N0 nm C ret I lk pc ls (.int x :: r) M sz sl R := gm_ev.pure hi (by simp only [gm_pure, gm_c0, decide_eq_true_eq]; rw [if_pos hc]; exact gm_jmp_of ht) k
theorem gm_ev.if_eq_f {x : Int32} {off : Int} (hi : I pc = some (.ifCond .eq off)) (hc : ¬ x = 0) (k : gm_evC N0 nm C ret I lk (pc + 3) ls (r) M sz sl R) : gm_evC N0 nm C ret I lk pc ls (.int x :: r) M sz sl R := gm_ev.pure hi (by simp only [gm_pure, gm_c0, decide_eq_true_eq]; rw [if_neg (by first | exact hc | exact not_not_intro hc)]) k
theorem gm_ev.icmp_eq_t {x y : Int32} {off : Int} {tgt : Nat} (hi : I pc = some (.if_icmp .eq off)) (ht : (pc : Int) + off = (tgt : Int)) (hc : x = y) (k : gm_evC N0 nm C ret I lk tgt ls (r) M sz sl R) : gm_evC N0 nm C ret I lk pc ls (.int y :: .int x :: r) M sz sl R := gm_ev.pure hi (by simp only [gm_pure, gm_c2, decide_eq_true_eq]; rw [if_pos hc]; exact gm_jmp_of ht) k
theorem gm_ev.icmp_eq_f {x y : Int32} {off : Int} (hi : I pc = some (.if_icmp .eq off)) (hc : ¬ x = y) (k : gm_evC N0 nm C ret I lk (pc + 3) ls (r) M sz sl R) : gm_evC N0 nm C ret I lk pc ls (.int y :: .int x :: r) M sz sl R := gm_ev.pure hi (by simp only [gm_pure, gm_c2, decide_eq_true_eq]; rw [if_neg (by first | exact hc | exact not_not_intro hc)]) k
theorem gm_ev.if_ne_t {x : Int32} {off : Int} {tgt : Nat} (hi : I pc = some (.ifCond .ne off)) (ht : (pc : Int) + off = (tgt : Int)) (hc : ¬ x = 0) (k : gm_evC N0 nm C ret I lk tgt ls (r) M sz sl R) : gm_evC N0 nm C ret I lk pc ls (.int x :: r) M sz sl R := gm_ev.pure hi (by simp only [gm_pure, gm_c0, decide_eq_true_eq]; rw [if_pos hc]; exact gm_jmp_of ht) k
theorem gm_ev.if_ne_f {x : Int32} {off : Int} (hi : I pc = some (.ifCond .ne off)) (hc : x = 0) (k : gm_evC N0 nm C ret I lk (pc + 3) ls (r) M sz sl R) : gm_evC N0 nm C ret I lk pc ls (.int x :: r) M sz sl R := gm_ev.pure hi (by simp only [gm_pure, gm_c0, decide_eq_true_eq]; rw [if_neg (by first | exact hc | exact not_not_intro hc)]) k
theorem gm_ev.icmp_ne_t {x y : Int32} {off : Int} {tgt : Nat} (hi : I pc = some (.if_icmp .ne off)) (ht : (pc : Int) + off = (tgt : Int)) (hc : ¬ x = y) (k : gm_evC N0 nm C ret I lk tgt ls (r) M sz sl R) : gm_evC N0 nm C ret I lk pc ls (.int y :: .int x :: r) M sz sl R := gm_ev.pure hi (by simp only [gm_pure, gm_c2, decide_eq_true_eq]; rw [if_pos hc]; exact gm_jmp_of ht) k
theorem gm_ev.icmp_ne_f {x y : Int32} {off : Int} (hi : I pc = some (.if_icmp .ne off)) (hc : x = y) (k : gm_evC N0 nm C ret I lk (pc + 3) ls (r) M sz sl R) : gm_evC N0 nm C ret I lk pc ls (.int y :: .int x :: r) M sz sl R := gm_ev.pure hi (by simp only [gm_pure, gm_c2, decide_eq_true_eq]; rw [if_neg (by first | exact hc | exact not_not_intro hc)]) k
theorem gm_ev.if_lt_t {x : Int32} {off : Int} {tgt : Nat} (hi : I pc = some (.ifCond .lt off)) (ht : (pc : Int) + off = (tgt : Int)) (hc : x < 0) (k : gm_evC N0 nm C ret I lk tgt ls (r) M sz sl R) : gm_evC N0 nm C ret I lk pc ls (.int x :: r) M sz sl R := gm_ev.pure hi (by simp only [gm_pure, gm_c0, decide_eq_true_eq]; rw [if_pos hc]; exact gm_jmp_of ht) k
theorem gm_ev.if_lt_f {x : Int32} {off : Int} (hi : I pc = some (.ifCond .lt off)) (hc : ¬ x < 0) (k : gm_evC N0 nm C ret I lk (pc + 3) ls (r) M sz sl R) : gm_evC N0 nm C ret I lk pc ls (.int x :: r) M sz sl R := gm_ev.pure hi (by simp only [gm_pure, gm_c0, decide_eq_true_eq]; rw [if_neg (by first | exact hc | exact not_not_intro hc)]) k
theorem gm_ev.icmp_lt_t {x y : Int32} {off : Int} {tgt : Nat} (hi : I pc = some (.if_icmp .lt off)) (ht : (pc : Int) + off = (tgt : Int)) (hc : x < y) (k : gm_evC N0 nm C ret I lk tgt ls (r) M sz sl R) : gm_evC N0 nm C ret I lk pc ls (.int y :: .int x :: r) M sz sl R := gm_ev.pure hi (by simp only [gm_pure, gm_c2, decide_eq_true_eq]; rw [if_pos hc]; exact gm_jmp_of ht) k
theorem gm_ev.icmp_lt_f {x y : Int32} {off : Int} (hi : I pc = some (.if_icmp .lt off)) (hc : ¬ x < y) (k : gm_evC N0 nm C ret I lk (pc + 3) ls (r) M sz sl R) : gm_evC N0 nm C ret I lk pc ls (.int y :: .int x :: r) M sz sl R := gm_ev.pure hi (by simp only [gm_pure, gm_c2, decide_eq_true_eq]; rw [if_neg (by first | exact hc | exact not_not_intro hc)]) k
theorem gm_ev.if_ge_t {x : Int32} {off : Int} {tgt : Nat} (hi : I pc = some (.ifCond .ge off)) (ht : (pc : Int) + off = (tgt : Int)) (hc : 0 ≤ x) (k : gm_evC N0 nm C ret I lk tgt ls (r) M sz sl R) : gm_evC N0 nm C ret I lk pc ls (.int x :: r) M sz sl R := gm_ev.pure hi (by simp only [gm_pure, gm_c0, decide_eq_true_eq]; rw [if_pos hc]; exact gm_jmp_of ht) k
theorem gm_ev.if_ge_f {x : Int32} {off : Int} (hi : I pc = some (.ifCond .ge off)) (hc : ¬ 0 ≤ x) (k : gm_evC N0 nm C ret I lk (pc + 3) ls (r) M sz sl R) : gm_evC N0 nm C ret I lk pc ls (.int x :: r) M sz sl R := gm_ev.pure hi (by simp only [gm_pure, gm_c0, decide_eq_true_eq]; rw [if_neg (by first | exact hc | exact not_not_intro hc)]) k
theorem gm_ev.icmp_ge_t {x y : Int32} {off : Int} {tgt : Nat} (hi : I pc = some (.if_icmp .ge off)) (ht : (pc : Int) + off = (tgt : Int)) (hc : y ≤ x) (k : gm_evC N0 nm C ret I lk tgt ls (r) M sz sl R) : gm_evC N0 nm C ret I lk pc ls (.int y :: .int x :: r) M sz sl R := gm_ev.pure hi (by simp only [gm_pure, gm_c2, decide_eq_true_eq]; rw [if_pos hc]; exact gm_jmp_of ht) k
theorem gm_ev.icmp_ge_f {x y : Int32} {off : Int} (hi : I pc = some (.if_icmp .ge off)) (hc : ¬ y ≤ x) (k : gm_evC N0 nm C ret I lk (pc + 3) ls (r) M sz sl R) : gm_evC N0 nm C ret I lk pc ls (.int y :: .int x :: r) M sz sl R := gm_ev.pure hi (by simp only [gm_pure, gm_c2, decide_eq_true_eq]; rw [if_neg (by first | exact hc | exact not_not_intro hc)]) k
theorem gm_ev.if_gt_t {x : Int32} {off : Int} {tgt : Nat} (hi : I pc = some (.ifCond .gt off)) (ht : (pc : Int) + off = (tgt : Int)) (hc : 0 < x) (k : gm_evC N0 nm C ret I lk tgt ls (r) M sz sl R) : gm_evC N0 nm C ret I lk pc ls (.int x :: r) M sz sl R := gm_ev.pure hi (by simp only [gm_pure, gm_c0, decide_eq_true_eq]; rw [if_pos hc]; exact gm_jmp_of ht) k
theorem gm_ev.if_gt_f {x : Int32} {off : Int} (hi : I pc = some (.ifCond .gt off)) (hc : ¬ 0 < x) (k : gm_evC N0 nm C ret I lk (pc + 3) ls (r) M sz sl R) : gm_evC N0 nm C ret I lk pc ls (.int x :: r) M sz sl R := gm_ev.pure hi (by simp only [gm_pure, gm_c0, decide_eq_true_eq]; rw [if_neg (by first | exact hc | exact not_not_intro hc)]) k
theorem gm_ev.icmp_gt_t {x y : Int32} {off : Int} {tgt : Nat} (hi : I pc = some (.if_icmp .gt off)) (ht : (pc : Int) + off = (tgt : Int)) (hc : y < x) (k : gm_evC N0 nm C ret I lk tgt ls (r) M sz sl R) : gm_evC N0 nm C ret I lk pc ls (.int y :: .int x :: r) M sz sl R := gm_ev.pure hi (by simp only [gm_pure, gm_c2, decide_eq_true_eq]; rw [if_pos hc]; exact gm_jmp_of ht) k
theorem gm_ev.icmp_gt_f {x y : Int32} {off : Int} (hi : I pc = some (.if_icmp .gt off)) (hc : ¬ y < x) (k : gm_evC N0 nm C ret I lk (pc + 3) ls (r) M sz sl R) : gm_evC N0 nm C ret I lk pc ls (.int y :: .int x :: r) M sz sl R := gm_ev.pure hi (by simp only [gm_pure, gm_c2, decide_eq_true_eq]; rw [if_neg (by first | exact hc | exact not_not_intro hc)]) k
theorem gm_ev.if_le_t {x : Int32} {off : Int} {tgt : Nat} (hi : I pc = some (.ifCond .le off)) (ht : (pc : Int) + off = (tgt : Int)) (hc : x ≤ 0) (k : gm_evC N0 nm C ret I lk tgt ls (r) M sz sl R) : gm_evC N0 nm C ret I lk pc ls (.int x :: r) M sz sl R := gm_ev.pure hi (by simp only [gm_pure, gm_c0, decide_eq_true_eq]; rw [if_pos hc]; exact gm_jmp_of ht) k
theorem gm_ev.if_le_f {x : Int32} {off : Int} (hi : I pc = some (.ifCond .le off)) (hc : ¬ x ≤ 0) (k : gm_evC N0 nm C ret I lk (pc + 3) ls (r) M sz sl R) : gm_evC N0 nm C ret I lk pc ls (.int x :: r) M sz sl R := gm_ev.pure hi (by simp only [gm_pure, gm_c0, decide_eq_true_eq]; rw [if_neg (by first | exact hc | exact not_not_intro hc)]) k
theorem gm_ev.icmp_le_t {x y : Int32} {off : Int} {tgt : Nat} (hi : I pc = some (.if_icmp .le off)) (ht : (pc : Int) + off = (tgt : Int)) (hc : x ≤ y) (k : gm_evC N0 nm C ret I lk tgt ls (r) M sz sl R) : gm_evC N0 nm C ret I lk pc ls (.int y :: .int x :: r) M sz sl R := gm_ev.pure hi (by simp only [gm_pure, gm_c2, decide_eq_true_eq]; rw [if_pos hc]; exact gm_jmp_of ht) k
theorem gm_ev.icmp_le_f {x y : Int32} {off : Int} (hi : I pc = some (.if_icmp .le off)) (hc : ¬ x ≤ y) (k : gm_evC N0 nm C ret I lk (pc + 3) ls (r) M sz sl R) : gm_evC N0 nm C ret I lk pc ls (.int y :: .int x :: r) M sz sl R := gm_ev.pure hi (by simp only [gm_pure, gm_c2, decide_eq_true_eq]; rw [if_neg (by first | exact hc | exact not_not_intro hc)]) k
theorem gm_ev.ifnull_t {off : Int} {tgt : Nat} (hi : I pc = some (.ifnull off)) (ht : (pc : Int) + off = (tgt : Int)) (k : gm_evC N0 nm C ret I lk tgt ls (r) M sz sl R) : gm_evC N0 nm C ret I lk pc ls (.null :: r) M sz sl R := gm_ev.pure hi (gm_jmp_of ht) k
theorem gm_ev.ifnull_f {a : Nat} {off : Int} (hi : I pc = some (.ifnull off)) (k : gm_evC N0 nm C ret I lk (pc + 3) ls (r) M sz sl R) : gm_evC N0 nm C ret I lk pc ls (.ref a :: r) M sz sl R := gm_ev.pure hi rfl k
theorem gm_ev.ifnonnull_t {a : Nat} {off : Int} {tgt : Nat} (hi : I pc = some (.ifnonnull off)) (ht : (pc : Int) + off = (tgt : Int)) (k : gm_evC N0 nm C ret I lk tgt ls (r) M sz sl R) : gm_evC N0 nm C ret I lk pc ls (.ref a :: r) M sz sl R := gm_ev.pure hi (gm_jmp_of ht) k
theorem gm_ev.ifnonnull_f {off : Int} (hi : I pc = some (.ifnonnull off)) (k : gm_evC N0 nm C ret I lk (pc + 3) ls (r) M sz sl R) : gm_evC N0 nm C ret I lk pc ls (.null :: r) M sz sl R := gm_ev.pure hi rfl k
theorem gm_ev.tableOut {dflt lo hi2 : Int} {offs : Array Int} {x : Int32} {tgt : Nat} (hi : I pc = some (.tableswitch dflt lo hi2 offs)) (h : x.toInt < lo ∨ hi2 < x.toInt) (ht : (pc : Int) + dflt = (tgt : Int)) (k : gm_evC N0 nm C ret I lk tgt ls (r) M sz sl R) : gm_evC N0 nm C ret I lk pc ls (.int x :: r) M sz sl R := gm_ev.pure hi (by simp only [gm_pure]; rw [if_pos h]; exact gm_jmp_of ht) k
theorem gm_ev.tableIn {dflt lo hi2 off : Int} {offs : Array Int} {x : Int32} {tgt : Nat} (hi : I pc = some (.tableswitch dflt lo hi2 offs)) (h : ¬ (x.toInt < lo ∨ hi2 < x.toInt)) (ho : offs[(x.toInt - lo).toNat]? = some off) (ht : (pc : Int) + off = (tgt : Int)) (k : gm_evC N0 nm C ret I lk tgt ls (r) M sz sl R) : gm_evC N0 nm C ret I lk pc ls (.int x :: r) M sz sl R := gm_ev.pure hi (by simp only [gm_pure]; rw [if_neg h, ho]; exact gm_jmp_of ht) k
theorem gm_ev.lookup {dflt off : Int} {ps : Array (Int × Int)} {x : Int32} {tgt : Nat} (hi : I pc = some (.lookupswitch dflt ps)) (hp : (ps.toList.zip (ps.toList.drop 1)).all (fun (a, next) => a.1 < next.1) = true) (ho : Op.lookupswitch.offset ps.toList dflt x.toInt = off) (ht : (pc : Int) + off = (tgt : Int)) (k : gm_evC N0 nm C ret I lk tgt ls (r) M sz sl R) : gm_evC N0 nm C ret I lk pc ls (.int x :: r) M sz sl R := gm_ev.pure hi (by simp only [gm_pure]; rw [if_pos hp, ho]; exact gm_jmp_of ht) k
theorem gm_ev.getfield {ix ci f a : Nat} {ty : FieldType} {b : Bool} {v : Value} (hi : I pc = some (.getfield ix)) (hk : lk ix = some (.inl (ci, f, ty, b))) (hv : gm_fld M a ci f = some v) (k : gm_evC N0 nm C ret I lk (pc + 3) ls (v :: r) M sz sl R) : gm_evC N0 nm C ret I lk pc ls (.ref a :: r) M sz sl R := gm_ev.heap (dd := 0) hi rfl (by simp only [gm_heap, hk, hv, Option.map_some]) k
theorem gm_ev.putfield {ix ci f a : Nat} {ty : FieldType} {v : Value} (hi : I pc = some (.putfield ix)) (hk : lk ix = some (.inl (ci, f, ty, true))) (hv : gm_put N0 M a ci f ty v = some M') (k : gm_evC N0 nm C ret I lk (pc + 3) ls (r) M' sz sl R) : gm_evC N0 nm C ret I lk pc ls (v :: .ref a :: r) M sz sl R := gm_ev.heap (dd := 0) hi rfl (by simp only [gm_heap, hk, hv, Option.map_some]) k
theorem gm_ev.iaload {a : Nat} {j x : Int32} (hi : I pc = some .iaload) (hv : gm_ai M a .int j = some x) (k : gm_evC N0 nm C ret I lk (pc + 1) ls (.int x :: r) M sz sl R) : gm_evC N0 nm C ret I lk pc ls (.int j :: .ref a :: r) M sz sl R := gm_ev.heap (dd := 0) hi rfl (by simp only [gm_heap, hv]) k
theorem gm_ai_scr {M : gm_H} {a : Nat} {j x : Int32} (h : gm_ai M a gm_scr j = some x) : gm_ai M a .int j = none := by
  unfold gm_ai at h ⊢
  split at h
  · rename_i t n f hM
    split at h
    · rename_i hc
      obtain ⟨rfl, -⟩ := hc
      rw [if_neg (fun q => by cases q.1)]
    · cases h
  · cases h
theorem gm_ev.ialoadS {a : Nat} {j x : Int32} (hi : I pc = some .iaload) (hv : gm_ai M a gm_scr j = some x) (k : gm_evC N0 nm C ret I lk (pc + 1) ls (.int x :: r) M sz sl R) : gm_evC N0 nm C ret I lk pc ls (.int j :: .ref a :: r) M sz sl R := gm_ev.heap (dd := 0) hi rfl (by simp only [gm_heap, gm_ai_scr hv, hv, Option.map_some]) k
theorem gm_ev.caload {a : Nat} {j x : Int32} (hi : I pc = some .caload) (hv : gm_ai M a .char j = some x) (k : gm_evC N0 nm C ret I lk (pc + 1) ls (.int x :: r) M sz sl R) : gm_evC N0 nm C ret I lk pc ls (.int j :: .ref a :: r) M sz sl R := gm_ev.heap (dd := 0) hi rfl (by simp only [gm_heap, hv, Option.map_some]) k
theorem gm_ev.zaload {a : Nat} {j x : Int32} (hi : I pc = some .baload) (hv : gm_ai M a .boolean j = some x) (k : gm_evC N0 nm C ret I lk (pc + 1) ls (.int x :: r) M sz sl R) : gm_evC N0 nm C ret I lk pc ls (.int j :: .ref a :: r) M sz sl R := gm_ev.heap (dd := 0) hi rfl (by simp only [gm_heap, hv]) k
theorem gm_ev.laload {a : Nat} {j : Int32} {x : Int64} (hi : I pc = some .laload) (hv : gm_al64 M a j = some x) (k : gm_evC N0 nm C ret I lk (pc + 1) ls (.long x :: r) M sz sl R) : gm_evC N0 nm C ret I lk pc ls (.int j :: .ref a :: r) M sz sl R := gm_ev.heap (dd := 0) hi rfl (by simp only [gm_heap, hv, Option.map_some]) k
theorem gm_ev.aaload {a : Nat} {j : Int32} {x : Option Nat} (hi : I pc = some .aaload) (hv : gm_aq M a j = some x) (k : gm_evC N0 nm C ret I lk (pc + 1) ls (va_rf x :: r) M sz sl R) : gm_evC N0 nm C ret I lk pc ls (.int j :: .ref a :: r) M sz sl R := gm_ev.heap (dd := 0) hi rfl (by simp only [gm_heap, hv, Option.map_some]) k
theorem gm_ev.iastore {a : Nat} {j x : Int32} (hi : I pc = some .iastore) (hv : gm_asti N0 M a .int j x = some M') (k : gm_evC N0 nm C ret I lk (pc + 1) ls (r) M' sz sl R) : gm_evC N0 nm C ret I lk pc ls (.int x :: .int j :: .ref a :: r) M sz sl R := gm_ev.heap (dd := 0) hi rfl (by simp only [gm_heap, hv, Option.map_some]) k
theorem gm_ev.castore {a : Nat} {j x : Int32} (hi : I pc = some .castore) (hv : gm_asti N0 M a .char j x = some M') (k : gm_evC N0 nm C ret I lk (pc + 1) ls (r) M' sz sl R) : gm_evC N0 nm C ret I lk pc ls (.int x :: .int j :: .ref a :: r) M sz sl R := gm_ev.heap (dd := 0) hi rfl (by simp only [gm_heap, hv, Option.map_some]) k
theorem gm_ev.zastore {a : Nat} {j x : Int32} (hi : I pc = some .bastore) (hv : gm_asti N0 M a .boolean j x = some M') (k : gm_evC N0 nm C ret I lk (pc + 1) ls (r) M' sz sl R) : gm_evC N0 nm C ret I lk pc ls (.int x :: .int j :: .ref a :: r) M sz sl R := gm_ev.heap (dd := 0) hi rfl (by simp only [gm_heap, hv, Option.map_some]) k
theorem gm_ev.lastore {a : Nat} {j : Int32} {x : Int64} (hi : I pc = some .lastore) (hv : gm_astl N0 M a j x = some M') (k : gm_evC N0 nm C ret I lk (pc + 1) ls (r) M' sz sl R) : gm_evC N0 nm C ret I lk pc ls (.long x :: .int j :: .ref a :: r) M sz sl R := gm_ev.heap (dd := 0) hi rfl (by simp only [gm_heap, hv, Option.map_some]) k
theorem gm_ev.aastore {a b : Nat} {j : Int32} (hi : I pc = some .aastore) (hv : gm_astq N0 nm M a j (some b) = some M') (k : gm_evC N0 nm C ret I lk (pc + 1) ls (r) M' sz sl R) : gm_evC N0 nm C ret I lk pc ls (.ref b :: .int j :: .ref a :: r) M sz sl R := gm_ev.heap (dd := 0) hi rfl (by simp only [gm_heap, hv, Option.map_some]) k
theorem gm_ev.alen {a n : Nat} (hi : I pc = some .arraylength) (hv : gm_alen M a = some n) (k : gm_evC N0 nm C ret I lk (pc + 1) ls (.int (nI n) :: r) M sz sl R) : gm_evC N0 nm C ret I lk pc ls (.ref a :: r) M sz sl R := gm_ev.heap (dd := 0) hi rfl (by simp only [gm_heap, hv, Option.map_some]; rfl) k
theorem gm_ev.newarray {at_ : ArrayType} {n : Nat} {m : Int32} {x : gm_E} (hi : I pc = some (.newarray at_)) (hm : m = nI n) (hn : n ≤ 60000000) (hx : gm_zero (newarray.typeOf at_) n = some x) (k : gm_evC N0 nm C ret I lk (pc + 2) ls (.ref sz :: r) (gm_new M sz x) (sz + 1) (sl + n) R) : gm_evC N0 nm C ret I lk pc ls (.int m :: r) M sz sl R := gm_ev.heap (dd := n) hi rfl (by subst hm; simp only [gm_heap]; rw [if_pos ⟨nI_pos (by omega), by rw [nI_clamp (by omega)]; exact hn⟩, nI_clamp (by omega), hx]; rfl) k
theorem gm_ev.anewarray {ix n : Nat} {Cn : String} {m : Int32} (hi : I pc = some (.anewarray ix)) (hk : lk (ix + 100000) = some (.inr (.inr (.inl (.object Cn))))) (hm : m = nI n) (hn : n ≤ 60000000) (k : gm_evC N0 nm C ret I lk (pc + 3) ls (.ref sz :: r) (gm_new M sz (.inl (.object Cn, n, .inr (.inr (.inr (.inr (fun _ => none))))))) (sz + 1) (sl + n) R) : gm_evC N0 nm C ret I lk pc ls (.int m :: r) M sz sl R := gm_ev.heap (dd := n) hi rfl (by subst hm; simp only [gm_heap, hk]; rw [if_pos ⟨nI_pos (by omega), by rw [nI_clamp (by omega)]; exact hn⟩, nI_clamp (by omega)]) k
theorem gm_ev.new {ix ci : Nat} {fs : List Value} (hi : I pc = some (.new ix)) (hk : lk ix = some (.inr (.inl (ci, fs)))) (k : gm_evC N0 nm C ret I lk (pc + 3) ls (.ref sz :: st) (gm_new M sz (.inr (ci, fs))) (sz + 1) (sl + fs.length) R) : gm_evC N0 nm C ret I lk pc ls (st) M sz sl R := gm_ev.heap (dd := fs.length) hi rfl (by simp only [gm_heap, hk]) k
theorem gm_ev.ldc {ix : Nat} {v : Value} (hi : I pc = some (.ldc ix)) (hk : lk ix = some (.inr (.inr (.inr (.inr (0, v)))))) (k : gm_evC N0 nm C ret I lk (pc + 2) ls (v :: st) M sz sl R) : gm_evC N0 nm C ret I lk pc ls (st) M sz sl R := gm_ev.heap (dd := 0) hi rfl (by simp only [gm_heap, hk]) k
theorem gm_ev.ldcw {ix : Nat} {v : Value} (hi : I pc = some (.ldc_w ix)) (hk : lk ix = some (.inr (.inr (.inr (.inr (3, v)))))) (k : gm_evC N0 nm C ret I lk (pc + 3) ls (v :: st) M sz sl R) : gm_evC N0 nm C ret I lk pc ls (st) M sz sl R := gm_ev.heap (dd := 0) hi rfl (by simp only [gm_heap, hk]) k
theorem gm_ev.ldc2 {ix : Nat} {v : Value} (hi : I pc = some (.ldc2_w ix)) (hk : lk ix = some (.inr (.inr (.inr (.inr (1, v)))))) (k : gm_evC N0 nm C ret I lk (pc + 3) ls (v :: st) M sz sl R) : gm_evC N0 nm C ret I lk pc ls (st) M sz sl R := gm_ev.heap (dd := 0) hi rfl (by simp only [gm_heap, hk]) k
theorem gm_ev.getstatic {ix : Nat} {v : Value} (hi : I pc = some (.getstatic ix)) (hk : lk ix = some (.inr (.inr (.inr (.inr (2, v)))))) (k : gm_evC N0 nm C ret I lk (pc + 3) ls (v :: st) M sz sl R) : gm_evC N0 nm C ret I lk pc ls (st) M sz sl R := gm_ev.heap (dd := 0) hi rfl (by simp only [gm_heap, hk]) k
theorem gm_ev.callS (hC : gm_mono C := by first | exact gm_mono_run | assumption) {ix mi na : Nat} {av : List Value} {v : Option Value} (hi : I pc = some (.invokestatic ix)) (hk : lk ix = some (.inr (.inr (.inr (.inl (mi, na, 0)))))) (hna : av.length = na) (hst : st = av.reverse ++ r) (hr : (r.map fun v => v.category).sum ≤ 8) (ht : gm_toC C mi av M sz (.returned v, M', sz', dd)) (k : gm_evC N0 nm C ret I lk (pc + 3) ls (v.toList ++ r) M' sz' (sl + dd) R) : gm_evC N0 nm C ret I lk pc ls st M sz sl R := gm_ev.call hC hi rfl rfl (by simp only [gm_site, hk]; rw [if_pos ⟨by rw [hst, List.length_append, List.length_reverse, hna]; omega, by rw [hst, ← hna, ← List.length_reverse, List.drop_left]; exact hr⟩, hst, ← hna, ← List.length_reverse, List.take_left, List.drop_left, List.reverse_reverse]) ht k
theorem gm_ev.callI (hC : gm_mono C := by first | exact gm_mono_run | assumption) {ix mi na : Nat} {av : List Value} {v : Option Value} {a : Nat} (hi : I pc = some (.invokespecial ix)) (hk : lk ix = some (.inr (.inr (.inr (.inl (mi, na, 1)))))) (hna : av.length = na) (hst : st = av.reverse ++ .ref a :: r) (hr : (r.map fun v => v.category).sum ≤ 8) (ht : gm_toC C mi (.ref a :: av) M sz (.returned v, M', sz', dd)) (k : gm_evC N0 nm C ret I lk (pc + 3) ls (v.toList ++ r) M' sz' (sl + dd) R) : gm_evC N0 nm C ret I lk pc ls st M sz sl R := gm_ev.call hC hi rfl rfl (by simp only [gm_site, hk]; rw [hst, ← hna, ← List.length_reverse, List.drop_left, List.take_left, List.reverse_reverse]; simp only [if_pos hr]) ht k
theorem gm_ev.callV (hC : gm_mono C := by first | exact gm_mono_run | assumption) {ix mi na : Nat} {av : List Value} {v : Option Value} {a : Nat} {ci : Nat} {fs : List Value} (ho : M a = some (.inr (ci, fs))) (hi : I pc = some (.invokevirtual ix)) (hk : lk ix = some (.inr (.inr (.inr (.inl (mi, na, ci + 3)))))) (hna : av.length = na) (hst : st = av.reverse ++ .ref a :: r) (hr : (r.map fun v => v.category).sum ≤ 8) (ht : gm_toC C mi (.ref a :: av) M sz (.returned v, M', sz', dd)) (k : gm_evC N0 nm C ret I lk (pc + 3) ls (v.toList ++ r) M' sz' (sl + dd) R) : gm_evC N0 nm C ret I lk pc ls st M sz sl R := gm_ev.call hC hi rfl rfl (by simp only [gm_site, hk]; rw [hst, ← hna, ← List.length_reverse, List.drop_left, List.take_left, List.reverse_reverse]; simp only [ho, hr, and_self, if_true]) ht k
theorem gm_ev.callT (hC : gm_mono C := by first | exact gm_mono_run | assumption) {ix mi na a : Nat} {av : List Value} {v : Option Value} (hi : I pc = some (.invokevirtual ix)) (hk : lk ix = some (.inr (.inr (.inr (.inl (mi, na, 2)))))) (hna : av.length = na) (hst : st = av.reverse ++ .ref a :: r) (hr : (r.map fun v => v.category).sum ≤ 8) (ht : gm_toC C mi (.ref a :: av) M sz (.returned v, M', sz', dd)) (k : gm_evC N0 nm C ret I lk (pc + 3) ls (v.toList ++ r) M' sz' (sl + dd) R) : gm_evC N0 nm C ret I lk pc ls st M sz sl R := gm_ev.call hC hi rfl rfl (by simp only [gm_site, hk]; rw [hst, ← hna, ← List.length_reverse, List.drop_left, List.take_left, List.reverse_reverse]; simp only [if_pos hr]) ht k
theorem gm_ev.throw {ix e : Nat} {E : String} (hi : I pc = some (.new ix)) (hk : lk ix = some (.inr (.inr (.inl (.array (.object E)))))) (he : gm_xs.findIdx? (fun x => x == E) = some e) : gm_evC N0 nm C ret I lk pc ls [] M sz sl (.threw e, M, sz + 1, sl + 6) := gm_ev.fin hi rfl (by simp only [gm_heap, hk]) rfl (by simp only [gm_end, gm_thr, hk, he])
theorem gm_ev.vret (hi : I pc = some .return_) (hr : ret = none) : gm_evC N0 nm C ret I lk pc ls [] M sz sl (.returned none, M, sz, sl) := by subst hr; exact gm_ev.fin hi rfl rfl rfl rfl
theorem gm_ev.iret {x : Int32} (hi : I pc = some .ireturn) (hr : ret = some .int) : gm_evC N0 nm C ret I lk pc ls [.int x] M sz sl (.returned (some (.int x)), M, sz, sl) := by subst hr; exact gm_ev.fin hi rfl rfl rfl rfl
theorem gm_ev.zret {x : Int32} (hi : I pc = some .ireturn) (hr : ret = some .boolean) (hx : x = 0 ∨ x = 1) : gm_evC N0 nm C ret I lk pc ls [.int x] M sz sl (.returned (some (.int x)), M, sz, sl) := by subst hr; exact gm_ev.fin hi rfl rfl rfl (by simp only [gm_end, gm_thr, if_pos hx])
theorem gm_ev.lret {x : Int64} (hi : I pc = some .lreturn) (hr : ret = some .long) : gm_evC N0 nm C ret I lk pc ls [.long x] M sz sl (.returned (some (.long x)), M, sz, sl) := by subst hr; exact gm_ev.fin hi rfl rfl rfl rfl
theorem gm_ev.aret {a : Nat} {Cn : String} (hi : I pc = some .areturn) (hr : ret = some (.object Cn)) : gm_evC N0 nm C ret I lk pc ls [.ref a] M sz sl (.returned (some (.ref a)), M, sz, sl) := by subst hr; exact gm_ev.fin hi rfl rfl rfl rfl
theorem gm_ev.aretN {Cn : String} (hi : I pc = some .areturn) (hr : ret = some (.object Cn)) : gm_evC N0 nm C ret I lk pc ls [.null] M sz sl (.returned (some .null), M, sz, sl) := by subst hr; exact gm_ev.fin hi rfl rfl rfl rfl
end GMEV
