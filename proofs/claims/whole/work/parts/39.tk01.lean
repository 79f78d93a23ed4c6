/-! the class, a lemma a start: what must hold there, as a tree (by gen/tree2.py from the paths) -/
abbrev vP : Option Nat → Option Value := fun r => some (match r with | none => .null | some a => .ref a)
abbrev vR : Nat → Option Value := fun r => some (.ref r)
def gP {α : Type} (w : α → Outcome) (N0 : Nat) (K : Nat → Nat) (d : Nat) (ret : Option FieldType) (I : Nat → Option Instr) (lk : Nat → Option gm_L) (pc : Nat) (ls : gm_Ls) (M : gm_H) (sz sl : Nat) (Q : α → gm_H → Nat → Nat → Prop) : Prop := ∃ r M' sz' sl', gm_ev N0 K ra_nm (ra_mt K) d ret I lk pc ls [] M sz sl (w r, M', sz', sl') ∧ Q r M' sz' sl'
def gC {α : Type} (w : α → Outcome) (N0 : Nat) (K : Nat → Nat) (d mi : Nat) (av : List Value) (M : gm_H) (sz : Nat) (Q : α → gm_H → Nat → Nat → Prop) : Prop := ∃ r M' sz' sl', gm_to N0 K ra_nm (ra_mt K) d mi av M sz (w r, M', sz', sl') ∧ Q r M' sz' sl'
abbrev wI : Int32 → Outcome := fun r => .returned (some (.int r))
abbrev wL : Int64 → Outcome := fun r => .returned (some (.long r))
abbrev wU : Unit → Outcome := fun _ => .returned none
abbrev wP : Option Nat → Outcome := fun r => .returned (some (match r with | none => .null | some a => .ref a))
abbrev wR : Nat → Outcome := fun r => .returned (some (.ref r))
abbrev wO : Outcome → Outcome := fun r => r
theorem gC.mono {α : Type} {w : α → Outcome} {N0 : Nat} {K : Nat → Nat} {d mi : Nat} {av : List Value} {M : gm_H} {sz : Nat} {Q Q' : α → gm_H → Nat → Nat → Prop} (h : gC w N0 K d mi av M sz Q) (q : ∀ r M' sz' dd, Q r M' sz' dd → Q' r M' sz' dd) : gC w N0 K d mi av M sz Q' := by
  obtain ⟨r, M', sz', dd, e, h⟩ := h
  exact ⟨r, M', sz', dd, e, q _ _ _ _ h⟩
theorem gC.up {α : Type} {w : α → Outcome} {N0 : Nat} {K : Nat → Nat} {d d' mi : Nat} {av : List Value} {M : gm_H} {sz : Nat} {Q : α → gm_H → Nat → Nat → Prop} (h : gC w N0 K d mi av M sz Q) (hd : d ≤ d') : gC w N0 K d' mi av M sz Q := by
  obtain ⟨r, M', sz', dd, e, h⟩ := h
  exact ⟨r, M', sz', dd, gm_to.up e hd, h⟩
theorem gP.mono {α : Type} {w : α → Outcome} {N0 : Nat} {K : Nat → Nat} {d : Nat} {ret : Option FieldType} {I : Nat → Option Instr} {lk : Nat → Option gm_L} {pc : Nat} {ls : gm_Ls} {M : gm_H} {sz sl : Nat} {Q Q' : α → gm_H → Nat → Nat → Prop} (h : gP w N0 K d ret I lk pc ls M sz sl Q) (q : ∀ r M' sz' dd, Q r M' sz' dd → Q' r M' sz' dd) : gP w N0 K d ret I lk pc ls M sz sl Q' := by
  obtain ⟨r, M', sz', dd, e, h⟩ := h
  exact ⟨r, M', sz', dd, e, q _ _ _ _ h⟩
theorem gC.of {α : Type} {w : α → Outcome} {N0 : Nat} {K : Nat → Nat} {d mi nL : Nat} {own : String} {y : MethodName} {cc : ByteArray} {ini : Bool} {ret : Option FieldType} {I : Nat → Option Instr} {lk : Nat → Option gm_L} {av : List Value} {ls : gm_Ls} {M : gm_H} {sz : Nat} {Q : α → gm_H → Nat → Nat → Prop} (hm : ra_mt K mi = some (own, y, cc, nL, ret, I, lk, ini)) (h4 : 10 ≤ mi) (hl : (gm_sl av).length ≤ nL) (hls : gm_entry nL av = ls) (h : gP w N0 K d ret I lk 0 ls M sz 0 Q) : gC w N0 K (d + 1) mi av M sz Q := by
  obtain ⟨r, M', sz', dd, e, h⟩ := h
  exact ⟨r, M', sz', dd, gm_to.of hm h4 hl hls e, h⟩
/-- over the block: Q of the answer and of what has changed of it, of the rest and of the room -/
abbrev kQ {α : Type} (C : Nat) (Q : α → cS → gm_H → Nat → Nat → Prop) : α → gm_H → Nat → Nat → Prop := fun r M sz dd => ∃ s G, M = bM C (cH C s) G ∧ Q r s G sz dd
def hX4_init_0 (N0 : Nat) (K : Nat → Nat) (d : Nat) (q : Nat) (p0 : Nat) (M : gm_H) (sz sl : Nat) (Q : Unit → gm_H → Nat → Nat → Prop) : Prop := gP wU N0 K d none (gm_I cX4_init) (gm_lkf (lkX4 true K)) 0 [some (.ref q), some (.ref p0), none, none, none, none, none, none] M sz sl Q
def hX4_init_50 (N0 : Nat) (K : Nat → Nat) (d : Nat) (q : Nat) (p0 : Nat) (a2 : Nat) (a3 : Nat) (u4 : Int32) (u5 : Int32) (M : gm_H) (sz sl : Nat) (Q : Unit → gm_H → Nat → Nat → Prop) : Prop := gP wU N0 K d none (gm_I cX4_init) (gm_lkf (lkX4 true K)) 50 [some (.ref q), some (.ref p0), some (.ref a2), some (.ref a3), some (.int u4), some (.int u5), none, none] M sz sl Q
def hX4_init_152 (N0 : Nat) (K : Nat → Nat) (d : Nat) (q : Nat) (p0 : Nat) (a2 : Nat) (a3 : Nat) (u4 : Int32) (u5 : Int32) (u7 : Int32) (M : gm_H) (sz sl : Nat) (Q : Unit → gm_H → Nat → Nat → Prop) : Prop := gP wU N0 K d none (gm_I cX4_init) (gm_lkf (lkX4 true K)) 152 [some (.ref q), some (.ref p0), some (.ref a2), some (.ref a3), some (.int u4), some (.int u5), none, some (.int u7)] M sz sl Q
def hX4_sort_0 (N0 : Nat) (K : Nat → Nat) (d : Nat) (p0 : Nat) (p1 : Nat) (p2 : Nat) (M : gm_H) (sz sl : Nat) (Q : Unit → gm_H → Nat → Nat → Prop) : Prop := gP wU N0 K d none (gm_I cX4_sort) (gm_lkf (lkX4 false K)) 0 [some (.ref p0), some (.ref p1), some (.ref p2), none, none, none, none] M sz sl Q
def hX4_sort_2 (N0 : Nat) (K : Nat → Nat) (d : Nat) (p0 : Nat) (p1 : Nat) (p2 : Nat) (u3 : Int32) (M : gm_H) (sz sl : Nat) (Q : Unit → gm_H → Nat → Nat → Prop) : Prop := gP wU N0 K d none (gm_I cX4_sort) (gm_lkf (lkX4 false K)) 2 [some (.ref p0), some (.ref p1), some (.ref p2), some (.int u3), none, none, none] M sz sl Q
def hX4_sort_20 (N0 : Nat) (K : Nat → Nat) (d : Nat) (p0 : Nat) (p1 : Nat) (p2 : Nat) (u3 : Int32) (y4 : Int64) (u6 : Int32) (M : gm_H) (sz sl : Nat) (Q : Unit → gm_H → Nat → Nat → Prop) : Prop := gP wU N0 K d none (gm_I cX4_sort) (gm_lkf (lkX4 false K)) 20 [some (.ref p0), some (.ref p1), some (.ref p2), some (.int u3), some (.long y4), none, some (.int u6)] M sz sl Q
def hX4_keyOf_0 (N0 : Nat) (K : Nat → Nat) (d : Nat) (p0 : Nat) (p1 : Int32) (M : gm_H) (sz sl : Nat) (Q : Int64 → gm_H → Nat → Nat → Prop) : Prop := gP wL N0 K d (some .long) (gm_I cX4_keyOf) (gm_lkf (lkX4 false K)) 0 [some (.ref p0), some (.int p1), none] M sz sl Q
def hX4_stageOf_0 (N0 : Nat) (K : Nat → Nat) (d : Nat) (p0 : Nat) (p1 : Int32) (M : gm_H) (sz sl : Nat) (Q : Int32 → Prop) : Prop := gP wI N0 K d (some .int) (gm_I cX4_stageOf) (gm_lkf (lkX4 false K)) 0 [some (.ref p0), some (.int p1)] M sz sl (fun r M' sz' dd => M' = M ∧ sz' = sz ∧ dd = sl ∧ Q r)
def hX4_isRecursive_0 (N0 : Nat) (K : Nat → Nat) (d : Nat) (q : Nat) (p0 : Int32) (M : gm_H) (sz sl : Nat) (Q : Int32 → Prop) : Prop := gP wI N0 K d (some .boolean) (gm_I cX4_isRecursive) (gm_lkf (lkX4 false K)) 0 [some (.ref q), some (.int p0)] M sz sl (fun r M' sz' dd => M' = M ∧ sz' = sz ∧ dd = sl ∧ Q r)
def hX5_init_0 (N0 : Nat) (K : Nat → Nat) (d : Nat) (q : Nat) (p0 : Int32) (p1 : Int32) (p2 : Int32) (p3 : Int32) (p4 : Int32) (M : gm_H) (sz sl : Nat) (Q : Unit → gm_H → Nat → Nat → Prop) : Prop := gP wU N0 K d none (gm_I cX5_init) (gm_lkf (lkX5 true K)) 0 [some (.ref q), some (.int p0), some (.int p1), some (.int p2), some (.int p3), some (.int p4)] M sz sl Q
def hX5_relationOf_0 (N0 : Nat) (K : Nat → Nat) (d : Nat) (p0 : Int32) (p1 : Int32) (M : gm_H) (sz sl : Nat) (Q : Int32 → gm_H → Nat → Nat → Prop) : Prop := gP wI N0 K d (some .int) (gm_I cX5_relationOf) (gm_lkf (lkX5 false K)) 0 [some (.int p0), some (.int p1), none] M sz sl Q
def hX5_variables_0 (N0 : Nat) (K : Nat → Nat) (d : Nat) (q : Nat) (M : gm_H) (sz sl : Nat) (Q : Int32 → gm_H → Nat → Nat → Prop) : Prop := gP wI N0 K d (some .int) (gm_I cX5_variables) (gm_lkf (lkX5 false K)) 0 [some (.ref q)] M sz sl Q
def hX5_partVariables_0 (N0 : Nat) (K : Nat → Nat) (d : Nat) (q : Nat) (M : gm_H) (sz sl : Nat) (Q : Int32 → gm_H → Nat → Nat → Prop) : Prop := gP wI N0 K d (some .int) (gm_I cX5_partVariables) (gm_lkf (lkX5 false K)) 0 [some (.ref q)] M sz sl Q
def hX5_asTerm_0 (N0 : Nat) (K : Nat → Nat) (d : Nat) (q : Nat) (M : gm_H) (sz sl : Nat) (Q : Int32 → Prop) : Prop := gP wI N0 K d (some .int) (gm_I cX5_asTerm) (gm_lkf (lkX5 false K)) 0 [some (.ref q), none] M sz sl (fun r M' sz' dd => M' = M ∧ sz' = sz ∧ dd = sl ∧ Q r)
def hX5_plan_0 (N0 : Nat) (K : Nat → Nat) (d : Nat) (q : Nat) (p0 : Int32) (M : gm_H) (sz sl : Nat) (Q : Unit → gm_H → Nat → Nat → Prop) : Prop := gP wU N0 K d none (gm_I cX5_plan) (gm_lkf (lkX5 false K)) 0 [some (.ref q), some (.int p0), none, none] M sz sl Q
def hX7_init_0 (N0 : Nat) (K : Nat → Nat) (d : Nat) (q : Nat) (p0 : Nat) (M : gm_H) (sz sl : Nat) (Q : Unit → gm_H → Nat → Nat → Prop) : Prop := gP wU N0 K d none (gm_I cX7_init) (gm_lkf (lkX7 true K)) 0 [some (.ref q), some (.ref p0)] M sz sl Q
def hX7_append_0 (N0 : Nat) (K : Nat → Nat) (d : Nat) (q : Nat) (p0 : Nat) (M : gm_H) (sz sl : Nat) (Q : Unit → gm_H → Nat → Nat → Prop) : Prop := gP wU N0 K d none (gm_I cX7_append) (gm_lkf (lkX7 false K)) 0 [some (.ref q), some (.ref p0)] M sz sl Q
def hX7_isMisplaced_0 (N0 : Nat) (K : Nat → Nat) (d : Nat) (q : Nat) (M : gm_H) (sz sl : Nat) (Q : Int32 → gm_H → Nat → Nat → Prop) : Prop := gP wI N0 K d (some .boolean) (gm_I cX7_isMisplaced) (gm_lkf (lkX7 false K)) 0 [some (.ref q), none] M sz sl Q
def hX7_isMisplaced_2 (N0 : Nat) (K : Nat → Nat) (d : Nat) (q : Nat) (u1 : Int32) (M : gm_H) (sz sl : Nat) (Q : Int32 → gm_H → Nat → Nat → Prop) : Prop := gP wI N0 K d (some .boolean) (gm_I cX7_isMisplaced) (gm_lkf (lkX7 false K)) 2 [some (.ref q), some (.int u1)] M sz sl Q
def hX7_isLoose_0 (N0 : Nat) (K : Nat → Nat) (d : Nat) (q : Nat) (M : gm_H) (sz sl : Nat) (Q : Int32 → gm_H → Nat → Nat → Prop) : Prop := gP wI N0 K d (some .boolean) (gm_I cX7_isLoose) (gm_lkf (lkX7 false K)) 0 [some (.ref q), none, none, none] M sz sl Q
def hX7_isLoose_12 (N0 : Nat) (K : Nat → Nat) (d : Nat) (q : Nat) (u1 : Int32) (u2 : Int32) (u3 : Int32) (M : gm_H) (sz sl : Nat) (Q : Int32 → gm_H → Nat → Nat → Prop) : Prop := gP wI N0 K d (some .boolean) (gm_I cX7_isLoose) (gm_lkf (lkX7 false K)) 12 [some (.ref q), some (.int u1), some (.int u2), some (.int u3)] M sz sl Q
def hX7_asks_0 (N0 : Nat) (K : Nat → Nat) (d : Nat) (q : Nat) (p0 : Int32) (M : gm_H) (sz sl : Nat) (Q : Int32 → Prop) : Prop := gP wI N0 K d (some .boolean) (gm_I cX7_asks) (gm_lkf (lkX7 false K)) 0 [some (.ref q), some (.int p0), none] M sz sl (fun r M' sz' dd => M' = M ∧ sz' = sz ∧ dd = sl ∧ Q r)
def hX7_asks_2 (N0 : Nat) (K : Nat → Nat) (d : Nat) (q : Nat) (u1 : Int32) (u2 : Int32) (M : gm_H) (sz sl : Nat) (Q : Int32 → Prop) : Prop := gP wI N0 K d (some .boolean) (gm_I cX7_asks) (gm_lkf (lkX7 false K)) 2 [some (.ref q), some (.int u1), some (.int u2)] M sz sl (fun r M' sz' dd => M' = M ∧ sz' = sz ∧ dd = sl ∧ Q r)
def hX7_keywords_0 (N0 : Nat) (K : Nat → Nat) (d : Nat) (q : Nat) (M : gm_H) (sz sl : Nat) (Q : Int32 → Prop) : Prop := gP wI N0 K d (some .int) (gm_I cX7_keywords) (gm_lkf (lkX7 false K)) 0 [some (.ref q), none, none, none] M sz sl (fun r M' sz' dd => M' = M ∧ sz' = sz ∧ dd = sl ∧ Q r)
def hX7_keywords_4 (N0 : Nat) (K : Nat → Nat) (d : Nat) (q : Nat) (u1 : Int32) (u2 : Int32) (M : gm_H) (sz sl : Nat) (Q : Int32 → Prop) : Prop := gP wI N0 K d (some .int) (gm_I cX7_keywords) (gm_lkf (lkX7 false K)) 4 [some (.ref q), some (.int u1), some (.int u2), none] M sz sl (fun r M' sz' dd => M' = M ∧ sz' = sz ∧ dd = sl ∧ Q r)
def hX7_plan_0 (N0 : Nat) (K : Nat → Nat) (d : Nat) (q : Nat) (M : gm_H) (sz sl : Nat) (Q : Unit → gm_H → Nat → Nat → Prop) : Prop := gP wU N0 K d none (gm_I cX7_plan) (gm_lkf (lkX7 false K)) 0 [some (.ref q), none, none, none, none, none] M sz sl Q
def hX7_plan_24 (N0 : Nat) (K : Nat → Nat) (d : Nat) (q : Nat) (u1 : Int32) (u2 : Int32) (u3 : Int32) (M : gm_H) (sz sl : Nat) (Q : Unit → gm_H → Nat → Nat → Prop) : Prop := gP wU N0 K d none (gm_I cX7_plan) (gm_lkf (lkX7 false K)) 24 [some (.ref q), some (.int u1), some (.int u2), some (.int u3), none, none] M sz sl Q
def hX7_plan_58 (N0 : Nat) (K : Nat → Nat) (d : Nat) (q : Nat) (u1 : Int32) (u2 : Int32) (u3 : Int32) (M : gm_H) (sz sl : Nat) (Q : Unit → gm_H → Nat → Nat → Prop) : Prop := gP wU N0 K d none (gm_I cX7_plan) (gm_lkf (lkX7 false K)) 58 [some (.ref q), some (.int u1), some (.int u2), some (.int u3), none, none] M sz sl Q
def hX7_bring_0 (N0 : Nat) (K : Nat → Nat) (d : Nat) (q : Nat) (p0 : Int32) (p1 : Int32) (p2 : Int32) (M : gm_H) (sz sl : Nat) (Q : Nat → gm_H → Nat → Nat → Prop) : Prop := gP wR N0 K d (some (.object "RuleArena$Literal")) (gm_I cX7_bring) (gm_lkf (lkX7 false K)) 0 [some (.ref q), some (.int p0), some (.int p1), some (.int p2), none, none, none, none] M sz sl Q
def hX7_bring_9 (N0 : Nat) (K : Nat → Nat) (d : Nat) (q : Nat) (u1 : Int32) (u2 : Int32) (u3 : Int32) (u4 : Int32) (u5 : Int32) (u6 : Int32) (M : gm_H) (sz sl : Nat) (Q : Nat → gm_H → Nat → Nat → Prop) : Prop := gP wR N0 K d (some (.object "RuleArena$Literal")) (gm_I cX7_bring) (gm_lkf (lkX7 false K)) 9 [some (.ref q), some (.int u1), some (.int u2), some (.int u3), some (.int u4), some (.int u5), some (.int u6), none] M sz sl Q
def hX7_bring_66 (N0 : Nat) (K : Nat → Nat) (d : Nat) (q : Nat) (u1 : Int32) (a6 : Nat) (u7 : Int32) (M : gm_H) (sz sl : Nat) (Q : Nat → gm_H → Nat → Nat → Prop) : Prop := gP wR N0 K d (some (.object "RuleArena$Literal")) (gm_I cX7_bring) (gm_lkf (lkX7 false K)) 66 [some (.ref q), some (.int u1), none, none, none, none, some (.ref a6), some (.int u7)] M sz sl Q
def hX7_meritOf_0 (N0 : Nat) (K : Nat → Nat) (d : Nat) (p0 : Nat) (p1 : Int32) (p2 : Int32) (M : gm_H) (sz sl : Nat) (Q : Int32 → gm_H → Nat → Nat → Prop) : Prop := gP wI N0 K d (some .int) (gm_I cX7_meritOf) (gm_lkf (lkX7 false K)) 0 [some (.ref p0), some (.int p1), some (.int p2), none, none] M sz sl Q
def hX7_termMerit_0 (N0 : Nat) (K : Nat → Nat) (d : Nat) (p0 : Int32) (p1 : Int32) (M : gm_H) (sz sl : Nat) (Q : Int32 → gm_H → Nat → Nat → Prop) : Prop := gP wI N0 K d (some .int) (gm_I cX7_termMerit) (gm_lkf (lkX7 false K)) 0 [some (.int p0), some (.int p1)] M sz sl Q
def hX8_init_0 (N0 : Nat) (K : Nat → Nat) (d : Nat) (q : Nat) (M : gm_H) (sz sl : Nat) (Q : Unit → gm_H → Nat → Nat → Prop) : Prop := gP wU N0 K d none (gm_I cX8_init) (gm_lkf (lkX8 true K)) 0 [some (.ref q)] M sz sl Q
def hX8_append_0 (N0 : Nat) (K : Nat → Nat) (d : Nat) (q : Nat) (p0 : Nat) (M : gm_H) (sz sl : Nat) (Q : Unit → gm_H → Nat → Nat → Prop) : Prop := gP wU N0 K d none (gm_I cX8_append) (gm_lkf (lkX8 false K)) 0 [some (.ref q), some (.ref p0)] M sz sl Q
def hX8_trace_0 (N0 : Nat) (K : Nat → Nat) (d : Nat) (q : Nat) (M : gm_H) (sz sl : Nat) (Q : Unit → gm_H → Nat → Nat → Prop) : Prop := gP wU N0 K d none (gm_I cX8_trace) (gm_lkf (lkX8 false K)) 0 [some (.ref q), none, none, none] M sz sl Q
def hX8_trace_2 (N0 : Nat) (K : Nat → Nat) (d : Nat) (q : Nat) (u1 : Int32) (M : gm_H) (sz sl : Nat) (Q : Unit → gm_H → Nat → Nat → Prop) : Prop := gP wU N0 K d none (gm_I cX8_trace) (gm_lkf (lkX8 false K)) 2 [some (.ref q), some (.int u1), none, none] M sz sl Q
def hX8_trace_94 (N0 : Nat) (K : Nat → Nat) (d : Nat) (q : Nat) (u1 : Int32) (M : gm_H) (sz sl : Nat) (Q : Unit → gm_H → Nat → Nat → Prop) : Prop := gP wU N0 K d none (gm_I cX8_trace) (gm_lkf (lkX8 false K)) 94 [some (.ref q), some (.int u1), none, none] M sz sl Q
def hX8_trace_23 (N0 : Nat) (K : Nat → Nat) (d : Nat) (q : Nat) (u1 : Int32) (u2 : Int32) (u3 : Int32) (M : gm_H) (sz sl : Nat) (Q : Unit → gm_H → Nat → Nat → Prop) : Prop := gP wU N0 K d none (gm_I cX8_trace) (gm_lkf (lkX8 false K)) 23 [some (.ref q), some (.int u1), some (.int u2), some (.int u3)] M sz sl Q
def hX8_trace_154 (N0 : Nat) (K : Nat → Nat) (d : Nat) (q : Nat) (u1 : Int32) (M : gm_H) (sz sl : Nat) (Q : Unit → gm_H → Nat → Nat → Prop) : Prop := gP wU N0 K d none (gm_I cX8_trace) (gm_lkf (lkX8 false K)) 154 [some (.ref q), some (.int u1), none, none] M sz sl Q
def hX8_trace_104 (N0 : Nat) (K : Nat → Nat) (d : Nat) (q : Nat) (u1 : Int32) (u2 : Int32) (M : gm_H) (sz sl : Nat) (Q : Unit → gm_H → Nat → Nat → Prop) : Prop := gP wU N0 K d none (gm_I cX8_trace) (gm_lkf (lkX8 false K)) 104 [some (.ref q), some (.int u1), some (.int u2), none] M sz sl Q
def hX8_trace_164 (N0 : Nat) (K : Nat → Nat) (d : Nat) (q : Nat) (u1 : Int32) (u2 : Int32) (M : gm_H) (sz sl : Nat) (Q : Unit → gm_H → Nat → Nat → Prop) : Prop := gP wU N0 K d none (gm_I cX8_trace) (gm_lkf (lkX8 false K)) 164 [some (.ref q), some (.int u1), some (.int u2), none] M sz sl Q
def hX8_headsIn_0 (N0 : Nat) (K : Nat → Nat) (d : Nat) (q : Nat) (p0 : Nat) (M : gm_H) (sz sl : Nat) (Q : Int32 → gm_H → Nat → Nat → Prop) : Prop := gP wI N0 K d (some .int) (gm_I cX8_headsIn) (gm_lkf (lkX8 false K)) 0 [some (.ref q), some (.ref p0), none, none] M sz sl Q
def hX8_headsIn_4 (N0 : Nat) (K : Nat → Nat) (d : Nat) (q : Nat) (p0 : Nat) (u2 : Int32) (u3 : Int32) (M : gm_H) (sz sl : Nat) (Q : Int32 → gm_H → Nat → Nat → Prop) : Prop := gP wI N0 K d (some .int) (gm_I cX8_headsIn) (gm_lkf (lkX8 false K)) 4 [some (.ref q), some (.ref p0), some (.int u2), some (.int u3)] M sz sl Q
def hX8_placeOf_0 (N0 : Nat) (K : Nat → Nat) (d : Nat) (q : Nat) (p0 : Int32) (M : gm_H) (sz sl : Nat) (Q : Int32 → gm_H → Nat → Nat → Prop) : Prop := gP wI N0 K d (some .int) (gm_I cX8_placeOf) (gm_lkf (lkX8 false K)) 0 [some (.ref q), some (.int p0), none] M sz sl Q
def hX8_placeOf_2 (N0 : Nat) (K : Nat → Nat) (d : Nat) (q : Nat) (u1 : Int32) (u2 : Int32) (M : gm_H) (sz sl : Nat) (Q : Int32 → gm_H → Nat → Nat → Prop) : Prop := gP wI N0 K d (some .int) (gm_I cX8_placeOf) (gm_lkf (lkX8 false K)) 2 [some (.ref q), some (.int u1), some (.int u2)] M sz sl Q
def hX8_hasFault_0 (N0 : Nat) (K : Nat → Nat) (d : Nat) (q : Nat) (p0 : Int32) (p1 : Int32) (M : gm_H) (sz sl : Nat) (Q : Int32 → gm_H → Nat → Nat → Prop) : Prop := gP wI N0 K d (some .boolean) (gm_I cX8_hasFault) (gm_lkf (lkX8 false K)) 0 [some (.ref q), some (.int p0), some (.int p1)] M sz sl Q
def hX8_deniesItself_0 (N0 : Nat) (K : Nat → Nat) (d : Nat) (q : Nat) (p0 : Int32) (M : gm_H) (sz sl : Nat) (Q : Int32 → Prop) : Prop := gP wI N0 K d (some .boolean) (gm_I cX8_deniesItself) (gm_lkf (lkX8 false K)) 0 [some (.ref q), some (.int p0), none, none, none] M sz sl (fun r M' sz' dd => M' = M ∧ sz' = sz ∧ dd = sl ∧ Q r)
def hX8_deniesItself_2 (N0 : Nat) (K : Nat → Nat) (d : Nat) (q : Nat) (u1 : Int32) (u2 : Int32) (M : gm_H) (sz sl : Nat) (Q : Int32 → Prop) : Prop := gP wI N0 K d (some .boolean) (gm_I cX8_deniesItself) (gm_lkf (lkX8 false K)) 2 [some (.ref q), some (.int u1), some (.int u2), none, none] M sz sl (fun r M' sz' dd => M' = M ∧ sz' = sz ∧ dd = sl ∧ Q r)
def hX8_deniesItself_30 (N0 : Nat) (K : Nat → Nat) (d : Nat) (q : Nat) (u1 : Int32) (u2 : Int32) (a3 : Nat) (u4 : Int32) (M : gm_H) (sz sl : Nat) (Q : Int32 → Prop) : Prop := gP wI N0 K d (some .boolean) (gm_I cX8_deniesItself) (gm_lkf (lkX8 false K)) 30 [some (.ref q), some (.int u1), some (.int u2), some (.ref a3), some (.int u4)] M sz sl (fun r M' sz' dd => M' = M ∧ sz' = sz ∧ dd = sl ∧ Q r)
def hX8_looksAhead_0 (N0 : Nat) (K : Nat → Nat) (d : Nat) (q : Nat) (p0 : Int32) (M : gm_H) (sz sl : Nat) (Q : Int32 → Prop) : Prop := gP wI N0 K d (some .boolean) (gm_I cX8_looksAhead) (gm_lkf (lkX8 false K)) 0 [some (.ref q), some (.int p0)] M sz sl (fun r M' sz' dd => M' = M ∧ sz' = sz ∧ dd = sl ∧ Q r)
def hX9_isLetter_0 (N0 : Nat) (K : Nat → Nat) (d : Nat) (p0 : Int32) (M : gm_H) (sz sl : Nat) (Q : Int32 → Prop) : Prop := gP wI N0 K d (some .boolean) (gm_I cX9_isLetter) (gm_lkf (lkX9 false K)) 0 [some (.int p0)] M sz sl (fun r M' sz' dd => M' = M ∧ sz' = sz ∧ dd = sl ∧ Q r)
def hX9_isVariable_0 (N0 : Nat) (K : Nat → Nat) (d : Nat) (p0 : Int32) (M : gm_H) (sz sl : Nat) (Q : Int32 → Prop) : Prop := gP wI N0 K d (some .boolean) (gm_I cX9_isVariable) (gm_lkf (lkX9 false K)) 0 [some (.int p0)] M sz sl (fun r M' sz' dd => M' = M ∧ sz' = sz ∧ dd = sl ∧ Q r)
def hX9_isPlain_0 (N0 : Nat) (K : Nat → Nat) (d : Nat) (p0 : Int32) (M : gm_H) (sz sl : Nat) (Q : Int32 → Prop) : Prop := gP wI N0 K d (some .boolean) (gm_I cX9_isPlain) (gm_lkf (lkX9 false K)) 0 [some (.int p0)] M sz sl (fun r M' sz' dd => M' = M ∧ sz' = sz ∧ dd = sl ∧ Q r)
def hX9_variables_0 (N0 : Nat) (K : Nat → Nat) (d : Nat) (p0 : Int32) (M : gm_H) (sz sl : Nat) (Q : Int32 → gm_H → Nat → Nat → Prop) : Prop := gP wI N0 K d (some .int) (gm_I cX9_variables) (gm_lkf (lkX9 false K)) 0 [some (.int p0), none, none, none] M sz sl Q
def hX9_variables_5 (N0 : Nat) (K : Nat → Nat) (d : Nat) (u0 : Int32) (u1 : Int32) (u2 : Int32) (M : gm_H) (sz sl : Nat) (Q : Int32 → gm_H → Nat → Nat → Prop) : Prop := gP wI N0 K d (some .int) (gm_I cX9_variables) (gm_lkf (lkX9 false K)) 5 [some (.int u0), some (.int u1), some (.int u2), none] M sz sl Q
def hX9_plan_0 (N0 : Nat) (K : Nat → Nat) (d : Nat) (p0 : Int32) (p1 : Int32) (M : gm_H) (sz sl : Nat) (Q : Int32 → gm_H → Nat → Nat → Prop) : Prop := gP wI N0 K d (some .int) (gm_I cX9_plan) (gm_lkf (lkX9 false K)) 0 [some (.int p0), some (.int p1), none, none, none, none, none, none] M sz sl Q
def hX9_plan_8 (N0 : Nat) (K : Nat → Nat) (d : Nat) (u0 : Int32) (u2 : Int32) (u3 : Int32) (u4 : Int32) (M : gm_H) (sz sl : Nat) (Q : Int32 → gm_H → Nat → Nat → Prop) : Prop := gP wI N0 K d (some .int) (gm_I cX9_plan) (gm_lkf (lkX9 false K)) 8 [some (.int u0), none, some (.int u2), some (.int u3), some (.int u4), none, none, none] M sz sl Q
def hX9_character_0 (N0 : Nat) (K : Nat → Nat) (d : Nat) (p0 : Int32) (p1 : Int32) (M : gm_H) (sz sl : Nat) (Q : Int32 → Prop) : Prop := gP wI N0 K d (some .int) (gm_I cX9_character) (gm_lkf (lkX9 false K)) 0 [some (.int p0), some (.int p1), none, none] M sz sl (fun r M' sz' dd => M' = M ∧ sz' = sz ∧ dd = sl ∧ Q r)
def hX9_character_5 (N0 : Nat) (K : Nat → Nat) (d : Nat) (u0 : Int32) (u1 : Int32) (u2 : Int32) (u3 : Int32) (M : gm_H) (sz sl : Nat) (Q : Int32 → Prop) : Prop := gP wI N0 K d (some .int) (gm_I cX9_character) (gm_lkf (lkX9 false K)) 5 [some (.int u0), some (.int u1), some (.int u2), some (.int u3)] M sz sl (fun r M' sz' dd => M' = M ∧ sz' = sz ∧ dd = sl ∧ Q r)
def hX10_init_0 (N0 : Nat) (K : Nat → Nat) (d : Nat) (q : Nat) (p0 : Int32) (M : gm_H) (sz sl : Nat) (Q : Unit → gm_H → Nat → Nat → Prop) : Prop := gP wU N0 K d none (gm_I cX10_init) (gm_lkf (lkX10 true K)) 0 [some (.ref q), some (.int p0)] M sz sl Q
def hX10_at_0 (N0 : Nat) (K : Nat → Nat) (d : Nat) (q : Nat) (p0 : Int32) (M : gm_H) (sz sl : Nat) (Q : Int32 → Prop) : Prop := gP wI N0 K d (some .int) (gm_I cX10_at) (gm_lkf (lkX10 false K)) 0 [some (.ref q), some (.int p0)] M sz sl (fun r M' sz' dd => M' = M ∧ sz' = sz ∧ dd = sl ∧ Q r)
def hX10_clear_0 (N0 : Nat) (K : Nat → Nat) (d : Nat) (q : Nat) (M : gm_H) (sz sl : Nat) (Q : Unit → gm_H → Nat → Nat → Prop) : Prop := gP wU N0 K d none (gm_I cX10_clear) (gm_lkf (lkX10 false K)) 0 [some (.ref q)] M sz sl Q
def hX10_copy_0 (N0 : Nat) (K : Nat → Nat) (d : Nat) (q : Nat) (p0 : Nat) (M : gm_H) (sz sl : Nat) (Q : Unit → gm_H → Nat → Nat → Prop) : Prop := gP wU N0 K d none (gm_I cX10_copy) (gm_lkf (lkX10 false K)) 0 [some (.ref q), some (.ref p0)] M sz sl Q
def hX10_isSame_0 (N0 : Nat) (K : Nat → Nat) (d : Nat) (q : Nat) (p0 : Nat) (M : gm_H) (sz sl : Nat) (Q : Int32 → Prop) : Prop := gP wI N0 K d (some .boolean) (gm_I cX10_isSame) (gm_lkf (lkX10 false K)) 0 [some (.ref q), some (.ref p0), none] M sz sl (fun r M' sz' dd => M' = M ∧ sz' = sz ∧ dd = sl ∧ Q r)
def hX10_isSame_15 (N0 : Nat) (K : Nat → Nat) (d : Nat) (q : Nat) (p0 : Nat) (u2 : Int32) (M : gm_H) (sz sl : Nat) (Q : Int32 → Prop) : Prop := gP wI N0 K d (some .boolean) (gm_I cX10_isSame) (gm_lkf (lkX10 false K)) 15 [some (.ref q), some (.ref p0), some (.int u2)] M sz sl (fun r M' sz' dd => M' = M ∧ sz' = sz ∧ dd = sl ∧ Q r)
def hX10_insert_0 (N0 : Nat) (K : Nat → Nat) (d : Nat) (q : Nat) (p0 : Int32) (M : gm_H) (sz sl : Nat) (Q : Int32 → gm_H → Nat → Nat → Prop) : Prop := gP wI N0 K d (some .boolean) (gm_I cX10_insert) (gm_lkf (lkX10 false K)) 0 [some (.ref q), some (.int p0), none, none, none] M sz sl Q
def hX10_insert_7 (N0 : Nat) (K : Nat → Nat) (d : Nat) (q : Nat) (u1 : Int32) (u2 : Int32) (u3 : Int32) (M : gm_H) (sz sl : Nat) (Q : Int32 → gm_H → Nat → Nat → Prop) : Prop := gP wI N0 K d (some .boolean) (gm_I cX10_insert) (gm_lkf (lkX10 false K)) 7 [some (.ref q), some (.int u1), some (.int u2), some (.int u3), none] M sz sl Q
def hX10_collect_0 (N0 : Nat) (K : Nat → Nat) (d : Nat) (q : Nat) (p0 : Nat) (p1 : Int32) (M : gm_H) (sz sl : Nat) (Q : Int32 → gm_H → Nat → Nat → Prop) : Prop := gP wI N0 K d (some .boolean) (gm_I cX10_collect) (gm_lkf (lkX10 false K)) 0 [some (.ref q), some (.ref p0), some (.int p1), none] M sz sl Q
def hX10_collect_12 (N0 : Nat) (K : Nat → Nat) (d : Nat) (q : Nat) (p0 : Nat) (u3 : Int32) (M : gm_H) (sz sl : Nat) (Q : Int32 → gm_H → Nat → Nat → Prop) : Prop := gP wI N0 K d (some .boolean) (gm_I cX10_collect) (gm_lkf (lkX10 false K)) 12 [some (.ref q), some (.ref p0), none, some (.int u3)] M sz sl Q
def hX10_collectMoves_0 (N0 : Nat) (K : Nat → Nat) (d : Nat) (q : Nat) (p0 : Nat) (p1 : Int32) (M : gm_H) (sz sl : Nat) (Q : Unit → gm_H → Nat → Nat → Prop) : Prop := gP wU N0 K d none (gm_I cX10_collectMoves) (gm_lkf (lkX10 false K)) 0 [some (.ref q), some (.ref p0), some (.int p1), none] M sz sl Q
def hX10_collectMoves_12 (N0 : Nat) (K : Nat → Nat) (d : Nat) (q : Nat) (p0 : Nat) (u2 : Int32) (u3 : Int32) (M : gm_H) (sz sl : Nat) (Q : Unit → gm_H → Nat → Nat → Prop) : Prop := gP wU N0 K d none (gm_I cX10_collectMoves) (gm_lkf (lkX10 false K)) 12 [some (.ref q), some (.ref p0), some (.int u2), some (.int u3)] M sz sl Q
def hJ6_bitCount_0f7a4_0 (N0 : Nat) (K : Nat → Nat) (d : Nat) (p0 : Int32) (M : gm_H) (sz sl : Nat) (Q : Int32 → Prop) : Prop := gP wI N0 K d (some .int) (gm_I cJ6_bitCount_0f7a4) (gm_lkf (lkJ6 false K)) 0 [some (.int p0)] M sz sl (fun r M' sz' dd => M' = M ∧ sz' = sz ∧ dd = sl ∧ Q r)
def hJ7_fill_53178_0 (N0 : Nat) (K : Nat → Nat) (d : Nat) (p0 : Nat) (p1 : Int32) (M : gm_H) (sz sl : Nat) (Q : Unit → gm_H → Nat → Nat → Prop) : Prop := gP wU N0 K d none (gm_I cJ7_fill_53178) (fun _ => none) 0 [some (.ref p0), some (.int p1), none, none] M sz sl Q
def hJ7_fill_53178_5 (N0 : Nat) (K : Nat → Nat) (d : Nat) (p0 : Nat) (u1 : Int32) (u2 : Int32) (u3 : Int32) (M : gm_H) (sz sl : Nat) (Q : Unit → gm_H → Nat → Nat → Prop) : Prop := gP wU N0 K d none (gm_I cJ7_fill_53178) (fun _ => none) 5 [some (.ref p0), some (.int u1), some (.int u2), some (.int u3)] M sz sl Q
def hX0_forget_0 (N0 : Nat) (K : Nat → Nat) (d C : Nat) (s : cS) (G : gm_H) (sz sl : Nat) (Q : Unit → cS → Prop) : Prop := gP wU N0 K d none (gm_I cX0_forget) (gm_lkf (lkX0 false K)) 0 [some (.ref (C + 29))] (bM C (cH C s) G) sz sl (kQ C (fun r s' G' sz' dd => G' = G ∧ sz' = sz ∧ dd = sl ∧ Q r s'))
def hX0_run_0 (N0 : Nat) (K : Nat → Nat) (d C : Nat) (s : cS) (G : gm_H) (sz sl : Nat) (Q : Int32 → cS → gm_H → Prop) : Prop := gP wI N0 K d (some .int) (gm_I cX0_run) (gm_lkf (lkX0 false K)) 0 [some (.ref (C + 29)), some (.ref (C + 4)), none, none, none, none] (bM C (cH C s) G) sz sl (kQ C (fun r s' G' sz' dd => sz' = sz ∧ dd = sl ∧ Q r s' G'))
def hX0_run_65 (N0 : Nat) (K : Nat → Nat) (d C : Nat) (u2 : Int32) (s : cS) (G : gm_H) (sz sl : Nat) (Q : Int32 → cS → gm_H → Prop) : Prop := gP wI N0 K d (some .int) (gm_I cX0_run) (gm_lkf (lkX0 false K)) 65 [some (.ref (C + 29)), some (.ref (C + 4)), some (.int u2), none, none, none] (bM C (cH C s) G) sz sl (kQ C (fun r s' G' sz' dd => sz' = sz ∧ dd = sl ∧ Q r s' G'))
def hX0_run_130 (N0 : Nat) (K : Nat → Nat) (d C : Nat) (u2 : Int32) (u3 : Int32) (u4 : Int32) (s : cS) (G : gm_H) (sz sl : Nat) (Q : Int32 → cS → gm_H → Prop) : Prop := gP wI N0 K d (some .int) (gm_I cX0_run) (gm_lkf (lkX0 false K)) 130 [some (.ref (C + 29)), some (.ref (C + 4)), some (.int u2), some (.int u3), some (.int u4), none] (bM C (cH C s) G) sz sl (kQ C (fun r s' G' sz' dd => sz' = sz ∧ dd = sl ∧ Q r s' G'))
def hX0_run_146 (N0 : Nat) (K : Nat → Nat) (d C : Nat) (u2 : Int32) (u3 : Int32) (u4 : Int32) (u5 : Int32) (s : cS) (G : gm_H) (sz sl : Nat) (Q : Int32 → cS → gm_H → Prop) : Prop := gP wI N0 K d (some .int) (gm_I cX0_run) (gm_lkf (lkX0 false K)) 146 [some (.ref (C + 29)), some (.ref (C + 4)), some (.int u2), some (.int u3), some (.int u4), some (.int u5)] (bM C (cH C s) G) sz sl (kQ C (fun r s' G' sz' dd => sz' = sz ∧ dd = sl ∧ Q r s' G'))
def hX0_judge_0 (N0 : Nat) (K : Nat → Nat) (d C : Nat) (p1 : Int32) (s : cS) (G : gm_H) (sz sl : Nat) (Q : Int32 → cS → Prop) : Prop := gP wI N0 K d (some .int) (gm_I cX0_judge) (gm_lkf (lkX0 false K)) 0 [some (.ref (C + 29)), some (.ref (C + 4)), some (.int p1), none, none] (bM C (cH C s) G) sz sl (kQ C (fun r s' G' sz' dd => G' = G ∧ sz' = sz ∧ dd = sl ∧ Q r s'))
def hX0_note_0 (N0 : Nat) (K : Nat → Nat) (d C : Nat) (p0 : Int32) (p1 : Int32) (p2 : Nat) (s : cS) (G : gm_H) (sz sl : Nat) (Q : Int32 → cS → gm_H → Prop) : Prop := gP wI N0 K d (some .boolean) (gm_I cX0_note) (gm_lkf (lkX0 false K)) 0 [some (.ref (C + 29)), some (.int p0), some (.int p1), some (.ref p2), none] (bM C (cH C s) G) sz sl (kQ C (fun r s' G' sz' dd => sz' = sz ∧ dd = sl ∧ Q r s' G'))
def hX0_placeOf_0 (N0 : Nat) (K : Nat → Nat) (d C : Nat) (p0 : Nat) (s : cS) (G : gm_H) (sz sl : Nat) (Q : Int32 → Prop) : Prop := gP wI N0 K d (some .int) (gm_I cX0_placeOf) (gm_lkf (lkX0 false K)) 0 [some (.ref (C + 29)), some (.ref p0), none] (bM C (cH C s) G) sz sl (kQ C (fun r s' G' sz' dd => s' = s ∧ G' = G ∧ sz' = sz ∧ dd = sl ∧ Q r))
def hX0_placeOf_2 (N0 : Nat) (K : Nat → Nat) (d C : Nat) (p0 : Nat) (u2 : Int32) (s : cS) (G : gm_H) (sz sl : Nat) (Q : Int32 → Prop) : Prop := gP wI N0 K d (some .int) (gm_I cX0_placeOf) (gm_lkf (lkX0 false K)) 2 [some (.ref (C + 29)), some (.ref p0), some (.int u2)] (bM C (cH C s) G) sz sl (kQ C (fun r s' G' sz' dd => s' = s ∧ G' = G ∧ sz' = sz ∧ dd = sl ∧ Q r))
def hX0_weigh_0 (N0 : Nat) (K : Nat → Nat) (d C : Nat) (s : cS) (G : gm_H) (sz sl : Nat) (Q : Int32 → cS → Prop) : Prop := gP wI N0 K d (some .boolean) (gm_I cX0_weigh) (gm_lkf (lkX0 false K)) 0 [some (.ref (C + 29)), none, none, none] (bM C (cH C s) G) sz sl (kQ C (fun r s' G' sz' dd => G' = G ∧ sz' = sz ∧ dd = sl ∧ Q r s'))
def hX0_weigh_7 (N0 : Nat) (K : Nat → Nat) (d C : Nat) (u1 : Int32) (u2 : Int32) (s : cS) (G : gm_H) (sz sl : Nat) (Q : Int32 → cS → Prop) : Prop := gP wI N0 K d (some .boolean) (gm_I cX0_weigh) (gm_lkf (lkX0 false K)) 7 [some (.ref (C + 29)), some (.int u1), some (.int u2), none] (bM C (cH C s) G) sz sl (kQ C (fun r s' G' sz' dd => G' = G ∧ sz' = sz ∧ dd = sl ∧ Q r s'))
def hX0_weigh_28 (N0 : Nat) (K : Nat → Nat) (d C : Nat) (u1 : Int32) (u2 : Int32) (u3 : Int32) (s : cS) (G : gm_H) (sz sl : Nat) (Q : Int32 → cS → Prop) : Prop := gP wI N0 K d (some .boolean) (gm_I cX0_weigh) (gm_lkf (lkX0 false K)) 28 [some (.ref (C + 29)), some (.int u1), some (.int u2), some (.int u3)] (bM C (cH C s) G) sz sl (kQ C (fun r s' G' sz' dd => G' = G ∧ sz' = sz ∧ dd = sl ∧ Q r s'))
def hX0_valueBehind_0 (N0 : Nat) (K : Nat → Nat) (d C : Nat) (p0 : Int32) (s : cS) (G : gm_H) (sz sl : Nat) (Q : Int32 → Prop) : Prop := gP wI N0 K d (some .int) (gm_I cX0_valueBehind) (gm_lkf (lkX0 false K)) 0 [some (.ref (C + 29)), some (.int p0), none, none] (bM C (cH C s) G) sz sl (kQ C (fun r s' G' sz' dd => s' = s ∧ G' = G ∧ sz' = sz ∧ dd = sl ∧ Q r))
def hX0_valueBehind_4 (N0 : Nat) (K : Nat → Nat) (d C : Nat) (u1 : Int32) (u2 : Int32) (u3 : Int32) (s : cS) (G : gm_H) (sz sl : Nat) (Q : Int32 → Prop) : Prop := gP wI N0 K d (some .int) (gm_I cX0_valueBehind) (gm_lkf (lkX0 false K)) 4 [some (.ref (C + 29)), some (.int u1), some (.int u2), some (.int u3)] (bM C (cH C s) G) sz sl (kQ C (fun r s' G' sz' dd => s' = s ∧ G' = G ∧ sz' = sz ∧ dd = sl ∧ Q r))
def hX0_valueAt_0 (N0 : Nat) (K : Nat → Nat) (d C : Nat) (p0 : Nat) (s : cS) (G : gm_H) (sz sl : Nat) (Q : Int32 → Prop) : Prop := gP wI N0 K d (some .int) (gm_I cX0_valueAt) (gm_lkf (lkX0 false K)) 0 [some (.ref (C + 29)), some (.ref p0), none] (bM C (cH C s) G) sz sl (kQ C (fun r s' G' sz' dd => s' = s ∧ G' = G ∧ sz' = sz ∧ dd = sl ∧ Q r))
def hX0_choiceAt_0 (N0 : Nat) (K : Nat → Nat) (d C : Nat) (p0 : Nat) (s : cS) (G : gm_H) (sz sl : Nat) (Q : Int32 → Prop) : Prop := gP wI N0 K d (some .int) (gm_I cX0_choiceAt) (gm_lkf (lkX0 false K)) 0 [some (.ref (C + 29)), some (.ref p0), none, none, none, none] (bM C (cH C s) G) sz sl (kQ C (fun r s' G' sz' dd => s' = s ∧ G' = G ∧ sz' = sz ∧ dd = sl ∧ Q r))
def hX0_choiceAt_11 (N0 : Nat) (K : Nat → Nat) (d C : Nat) (u2 : Int32) (u3 : Int32) (u4 : Int32) (s : cS) (G : gm_H) (sz sl : Nat) (Q : Int32 → Prop) : Prop := gP wI N0 K d (some .int) (gm_I cX0_choiceAt) (gm_lkf (lkX0 false K)) 11 [some (.ref (C + 29)), none, some (.int u2), some (.int u3), some (.int u4), none] (bM C (cH C s) G) sz sl (kQ C (fun r s' G' sz' dd => s' = s ∧ G' = G ∧ sz' = sz ∧ dd = sl ∧ Q r))
def hX1_find_0 (N0 : Nat) (K : Nat → Nat) (d C : Nat) (p0 : Int32) (p1 : Int32) (p2 : Int32) (p3 : Int32) (s : cS) (G : gm_H) (sz sl : Nat) (Q : Int32 → Prop) : Prop := gP wI N0 K d (some .int) (gm_I cX1_find) (gm_lkf (lkX1 false K)) 0 [some (.ref (C + 6)), some (.int p0), some (.int p1), some (.int p2), some (.int p3)] (bM C (cH C s) G) sz sl (kQ C (fun r s' G' sz' dd => s' = s ∧ G' = G ∧ sz' = sz ∧ dd = sl ∧ Q r))
def hX1_add_0 (N0 : Nat) (K : Nat → Nat) (d C : Nat) (p0 : Int32) (p1 : Int32) (p2 : Int32) (p3 : Int32) (s : cS) (G : gm_H) (sz sl : Nat) (Q : Unit → cS → Prop) : Prop := gP wU N0 K d none (gm_I cX1_add) (gm_lkf (lkX1 false K)) 0 [some (.ref (C + 6)), some (.int p0), some (.int p1), some (.int p2), some (.int p3), none] (bM C (cH C s) G) sz sl (kQ C (fun r s' G' sz' dd => G' = G ∧ sz' = sz ∧ dd = sl ∧ Q r s'))
def hX1_search_0 (N0 : Nat) (K : Nat → Nat) (d C : Nat) (p0 : Int32) (p1 : Int32) (p2 : Int32) (p3 : Int32) (p4 : Int32) (s : cS) (G : gm_H) (sz sl : Nat) (Q : Int32 → Prop) : Prop := gP wI N0 K d (some .int) (gm_I cX1_search) (gm_lkf (lkX1 false K)) 0 [some (.ref (C + 6)), some (.int p0), some (.int p1), some (.int p2), some (.int p3), some (.int p4), none] (bM C (cH C s) G) sz sl (kQ C (fun r s' G' sz' dd => s' = s ∧ G' = G ∧ sz' = sz ∧ dd = sl ∧ Q r))
def hX1_search_8 (N0 : Nat) (K : Nat → Nat) (d C : Nat) (u2 : Int32) (u3 : Int32) (u4 : Int32) (u5 : Int32) (u6 : Int32) (s : cS) (G : gm_H) (sz sl : Nat) (Q : Int32 → Prop) : Prop := gP wI N0 K d (some .int) (gm_I cX1_search) (gm_lkf (lkX1 false K)) 8 [some (.ref (C + 6)), none, some (.int u2), some (.int u3), some (.int u4), some (.int u5), some (.int u6)] (bM C (cH C s) G) sz sl (kQ C (fun r s' G' sz' dd => s' = s ∧ G' = G ∧ sz' = sz ∧ dd = sl ∧ Q r))
def hX1_slotOf_0 (N0 : Nat) (K : Nat → Nat) (d C : Nat) (p0 : Int32) (p1 : Int32) (p2 : Int32) (p3 : Int32) (s : cS) (G : gm_H) (sz sl : Nat) (Q : Int32 → Prop) : Prop := gP wI N0 K d (some .int) (gm_I cX1_slotOf) (gm_lkf (lkX1 false K)) 0 [some (.int p0), some (.int p1), some (.int p2), some (.int p3), none] (bM C (cH C s) G) sz sl (kQ C (fun r s' G' sz' dd => s' = s ∧ G' = G ∧ sz' = sz ∧ dd = sl ∧ Q r))
def hX1_cut_0 (N0 : Nat) (K : Nat → Nat) (d C : Nat) (p0 : Int32) (s : cS) (G : gm_H) (sz sl : Nat) (Q : Unit → cS → Prop) : Prop := gP wU N0 K d none (gm_I cX1_cut) (gm_lkf (lkX1 false K)) 0 [some (.ref (C + 6)), some (.int p0), none, none] (bM C (cH C s) G) sz sl (kQ C (fun r s' G' sz' dd => G' = G ∧ sz' = sz ∧ dd = sl ∧ Q r s'))
def hX1_cut_5 (N0 : Nat) (K : Nat → Nat) (d C : Nat) (u1 : Int32) (u2 : Int32) (s : cS) (G : gm_H) (sz sl : Nat) (Q : Unit → cS → Prop) : Prop := gP wU N0 K d none (gm_I cX1_cut) (gm_lkf (lkX1 false K)) 5 [some (.ref (C + 6)), some (.int u1), some (.int u2), none] (bM C (cH C s) G) sz sl (kQ C (fun r s' G' sz' dd => G' = G ∧ sz' = sz ∧ dd = sl ∧ Q r s'))
def hX2_begin_0 (N0 : Nat) (K : Nat → Nat) (d C : Nat) (p0 : Nat) (s : cS) (G : gm_H) (sz sl : Nat) (Q : Int32 → cS → Prop) : Prop := gP wI N0 K d (some .boolean) (gm_I cX2_begin) (gm_lkf (lkX2 false K)) 0 [some (.ref (C + 5)), some (.ref p0), none] (bM C (cH C s) G) sz sl (kQ C (fun r s' G' sz' dd => G' = G ∧ sz' = sz ∧ dd = sl ∧ Q r s'))
def hX2_begin_15 (N0 : Nat) (K : Nat → Nat) (d C : Nat) (u2 : Int32) (s : cS) (G : gm_H) (sz sl : Nat) (Q : Int32 → cS → Prop) : Prop := gP wI N0 K d (some .boolean) (gm_I cX2_begin) (gm_lkf (lkX2 false K)) 15 [some (.ref (C + 5)), none, some (.int u2)] (bM C (cH C s) G) sz sl (kQ C (fun r s' G' sz' dd => G' = G ∧ sz' = sz ∧ dd = sl ∧ Q r s'))
def hX2_inState_0 (N0 : Nat) (K : Nat → Nat) (d C : Nat) (p0 : Nat) (s : cS) (G : gm_H) (sz sl : Nat) (Q : Int32 → cS → Prop) : Prop := gP wI N0 K d (some .boolean) (gm_I cX2_inState) (gm_lkf (lkX2 false K)) 0 [some (.ref (C + 5)), some (.ref p0), none] (bM C (cH C s) G) sz sl (kQ C (fun r s' G' sz' dd => G' = G ∧ sz' = sz ∧ dd = sl ∧ Q r s'))
def hX2_inState_13 (N0 : Nat) (K : Nat → Nat) (d C : Nat) (p0 : Nat) (u2 : Int32) (s : cS) (G : gm_H) (sz sl : Nat) (Q : Int32 → cS → Prop) : Prop := gP wI N0 K d (some .boolean) (gm_I cX2_inState) (gm_lkf (lkX2 false K)) 13 [some (.ref (C + 5)), some (.ref p0), some (.int u2)] (bM C (cH C s) G) sz sl (kQ C (fun r s' G' sz' dd => G' = G ∧ sz' = sz ∧ dd = sl ∧ Q r s'))
def hX2_inState_53 (N0 : Nat) (K : Nat → Nat) (d C : Nat) (u2 : Int32) (s : cS) (G : gm_H) (sz sl : Nat) (Q : Int32 → cS → Prop) : Prop := gP wI N0 K d (some .boolean) (gm_I cX2_inState) (gm_lkf (lkX2 false K)) 53 [some (.ref (C + 5)), none, some (.int u2)] (bM C (cH C s) G) sz sl (kQ C (fun r s' G' sz' dd => G' = G ∧ sz' = sz ∧ dd = sl ∧ Q r s'))
def hX2_inState_98 (N0 : Nat) (K : Nat → Nat) (d C : Nat) (u2 : Int32) (s : cS) (G : gm_H) (sz sl : Nat) (Q : Int32 → cS → Prop) : Prop := gP wI N0 K d (some .boolean) (gm_I cX2_inState) (gm_lkf (lkX2 false K)) 98 [some (.ref (C + 5)), none, some (.int u2)] (bM C (cH C s) G) sz sl (kQ C (fun r s' G' sz' dd => G' = G ∧ sz' = sz ∧ dd = sl ∧ Q r s'))
def hX2_byMove_0 (N0 : Nat) (K : Nat → Nat) (d C : Nat) (p0 : Int32) (p1 : Int32) (p2 : Int32) (p3 : Int32) (s : cS) (G : gm_H) (sz sl : Nat) (Q : Int32 → cS → Prop) : Prop := gP wI N0 K d (some .boolean) (gm_I cX2_byMove) (gm_lkf (lkX2 false K)) 0 [some (.ref (C + 5)), some (.int p0), some (.int p1), some (.int p2), some (.int p3), none] (bM C (cH C s) G) sz sl (kQ C (fun r s' G' sz' dd => G' = G ∧ sz' = sz ∧ dd = sl ∧ Q r s'))
def hX2_byMove_45 (N0 : Nat) (K : Nat → Nat) (d C : Nat) (u5 : Int32) (s : cS) (G : gm_H) (sz sl : Nat) (Q : Int32 → cS → Prop) : Prop := gP wI N0 K d (some .boolean) (gm_I cX2_byMove) (gm_lkf (lkX2 false K)) 45 [some (.ref (C + 5)), none, none, none, none, some (.int u5)] (bM C (cH C s) G) sz sl (kQ C (fun r s' G' sz' dd => G' = G ∧ sz' = sz ∧ dd = sl ∧ Q r s'))
def hX2_close_0 (N0 : Nat) (K : Nat → Nat) (d C : Nat) (p0 : Int32) (s : cS) (G : gm_H) (sz sl : Nat) (Q : Unit → cS → Prop) : Prop := gP wU N0 K d none (gm_I cX2_close) (gm_lkf (lkX2 false K)) 0 [some (.ref (C + 5)), some (.int p0), none, none, none, none, none, none] (bM C (cH C s) G) sz sl (kQ C (fun r s' G' sz' dd => G' = G ∧ sz' = sz ∧ dd = sl ∧ Q r s'))
def hX2_close_4 (N0 : Nat) (K : Nat → Nat) (d C : Nat) (u1 : Int32) (u2 : Int32) (u3 : Int32) (s : cS) (G : gm_H) (sz sl : Nat) (Q : Unit → cS → Prop) : Prop := gP wU N0 K d none (gm_I cX2_close) (gm_lkf (lkX2 false K)) 4 [some (.ref (C + 5)), some (.int u1), some (.int u2), some (.int u3), none, none, none, none] (bM C (cH C s) G) sz sl (kQ C (fun r s' G' sz' dd => G' = G ∧ sz' = sz ∧ dd = sl ∧ Q r s'))
def hX2_close_40 (N0 : Nat) (K : Nat → Nat) (d C : Nat) (u1 : Int32) (u3 : Int32) (u4 : Int32) (s : cS) (G : gm_H) (sz sl : Nat) (Q : Unit → cS → Prop) : Prop := gP wU N0 K d none (gm_I cX2_close) (gm_lkf (lkX2 false K)) 40 [some (.ref (C + 5)), some (.int u1), none, some (.int u3), some (.int u4), none, none, none] (bM C (cH C s) G) sz sl (kQ C (fun r s' G' sz' dd => G' = G ∧ sz' = sz ∧ dd = sl ∧ Q r s'))
def hX2_close_96 (N0 : Nat) (K : Nat → Nat) (d C : Nat) (u1 : Int32) (u3 : Int32) (u4 : Int32) (a5 : Nat) (u6 : Int32) (u7 : Int32) (s : cS) (G : gm_H) (sz sl : Nat) (Q : Unit → cS → Prop) : Prop := gP wU N0 K d none (gm_I cX2_close) (gm_lkf (lkX2 false K)) 96 [some (.ref (C + 5)), some (.int u1), none, some (.int u3), some (.int u4), some (.ref a5), some (.int u6), some (.int u7)] (bM C (cH C s) G) sz sl (kQ C (fun r s' G' sz' dd => G' = G ∧ sz' = sz ∧ dd = sl ∧ Q r s'))
def hX2_isDue_0 (N0 : Nat) (K : Nat → Nat) (d C : Nat) (p0 : Nat) (p1 : Int32) (s : cS) (G : gm_H) (sz sl : Nat) (Q : Int32 → cS → Prop) : Prop := gP wI N0 K d (some .boolean) (gm_I cX2_isDue) (gm_lkf (lkX2 false K)) 0 [some (.ref (C + 5)), some (.ref p0), some (.int p1), none, none, none] (bM C (cH C s) G) sz sl (kQ C (fun r s' G' sz' dd => G' = G ∧ sz' = sz ∧ dd = sl ∧ Q r s'))
def hX2_isDue_57 (N0 : Nat) (K : Nat → Nat) (d C : Nat) (p0 : Nat) (y3 : Int64) (u5 : Int32) (s : cS) (G : gm_H) (sz sl : Nat) (Q : Int32 → cS → Prop) : Prop := gP wI N0 K d (some .boolean) (gm_I cX2_isDue) (gm_lkf (lkX2 false K)) 57 [some (.ref (C + 5)), some (.ref p0), none, some (.long y3), none, some (.int u5)] (bM C (cH C s) G) sz sl (kQ C (fun r s' G' sz' dd => G' = G ∧ sz' = sz ∧ dd = sl ∧ Q r s'))
def hX2_join_0 (N0 : Nat) (K : Nat → Nat) (d C : Nat) (p0 : Nat) (p1 : Int32) (s : cS) (G : gm_H) (sz sl : Nat) (Q : Int32 → cS → Prop) : Prop := gP wI N0 K d (some .boolean) (gm_I cX2_join) (gm_lkf (lkX2 false K)) 0 [some (.ref (C + 5)), some (.ref p0), some (.int p1), none, none] (bM C (cH C s) G) sz sl (kQ C (fun r s' G' sz' dd => G' = G ∧ sz' = sz ∧ dd = sl ∧ Q r s'))
def hX2_joinEach_0 (N0 : Nat) (K : Nat → Nat) (d C : Nat) (p0 : Nat) (p1 : Int32) (s : cS) (G : gm_H) (sz sl : Nat) (Q : Int32 → cS → Prop) : Prop := gP wI N0 K d (some .boolean) (gm_I cX2_joinEach) (gm_lkf (lkX2 false K)) 0 [some (.ref (C + 5)), some (.ref p0), some (.int p1), none, none, none, none, none] (bM C (cH C s) G) sz sl (kQ C (fun r s' G' sz' dd => G' = G ∧ sz' = sz ∧ dd = sl ∧ Q r s'))
def hX2_joinEach_38 (N0 : Nat) (K : Nat → Nat) (d C : Nat) (p0 : Nat) (u2 : Int32) (a3 : Nat) (u4 : Int32) (u5 : Int32) (u6 : Int32) (u7 : Int32) (s : cS) (G : gm_H) (sz sl : Nat) (Q : Int32 → cS → Prop) : Prop := gP wI N0 K d (some .boolean) (gm_I cX2_joinEach) (gm_lkf (lkX2 false K)) 38 [some (.ref (C + 5)), some (.ref p0), some (.int u2), some (.ref a3), some (.int u4), some (.int u5), some (.int u6), some (.int u7)] (bM C (cH C s) G) sz sl (kQ C (fun r s' G' sz' dd => G' = G ∧ sz' = sz ∧ dd = sl ∧ Q r s'))
def hX2_lowest_0 (N0 : Nat) (K : Nat → Nat) (d C : Nat) (p0 : Int32) (s : cS) (G : gm_H) (sz sl : Nat) (Q : Int32 → Prop) : Prop := gP wI N0 K d (some .int) (gm_I cX2_lowest) (gm_lkf (lkX2 false K)) 0 [some (.ref (C + 5)), some (.int p0)] (bM C (cH C s) G) sz sl (kQ C (fun r s' G' sz' dd => s' = s ∧ G' = G ∧ sz' = sz ∧ dd = sl ∧ Q r))
def hX2_highest_0 (N0 : Nat) (K : Nat → Nat) (d C : Nat) (p0 : Int32) (s : cS) (G : gm_H) (sz sl : Nat) (Q : Int32 → Prop) : Prop := gP wI N0 K d (some .int) (gm_I cX2_highest) (gm_lkf (lkX2 false K)) 0 [some (.ref (C + 5)), some (.int p0)] (bM C (cH C s) G) sz sl (kQ C (fun r s' G' sz' dd => s' = s ∧ G' = G ∧ sz' = sz ∧ dd = sl ∧ Q r))
def hX2_fill_0 (N0 : Nat) (K : Nat → Nat) (d C : Nat) (p0 : Int32) (s : cS) (G : gm_H) (sz sl : Nat) (Q : Int32 → Prop) : Prop := gP wI N0 K d (some .int) (gm_I cX2_fill) (gm_lkf (lkX2 false K)) 0 [some (.ref (C + 5)), some (.int p0), none, none, none, none] (bM C (cH C s) G) sz sl (kQ C (fun r s' G' sz' dd => s' = s ∧ G' = G ∧ sz' = sz ∧ dd = sl ∧ Q r))
def hX2_fill_24 (N0 : Nat) (K : Nat → Nat) (d C : Nat) (u1 : Int32) (u3 : Int32) (u4 : Int32) (s : cS) (G : gm_H) (sz sl : Nat) (Q : Int32 → Prop) : Prop := gP wI N0 K d (some .int) (gm_I cX2_fill) (gm_lkf (lkX2 false K)) 24 [some (.ref (C + 5)), some (.int u1), none, some (.int u3), some (.int u4), none] (bM C (cH C s) G) sz sl (kQ C (fun r s' G' sz' dd => s' = s ∧ G' = G ∧ sz' = sz ∧ dd = sl ∧ Q r))
def hX2_fits_0 (N0 : Nat) (K : Nat → Nat) (d C : Nat) (p0 : Int32) (p1 : Int32) (p2 : Int32) (s : cS) (G : gm_H) (sz sl : Nat) (Q : Int32 → cS → Prop) : Prop := gP wI N0 K d (some .boolean) (gm_I cX2_fits) (gm_lkf (lkX2 false K)) 0 [some (.ref (C + 5)), some (.int p0), some (.int p1), some (.int p2), none, none, none, none, none] (bM C (cH C s) G) sz sl (kQ C (fun r s' G' sz' dd => G' = G ∧ sz' = sz ∧ dd = sl ∧ Q r s'))
def hX2_fits_99 (N0 : Nat) (K : Nat → Nat) (d C : Nat) (u1 : Int32) (u2 : Int32) (u5 : Int32) (u6 : Int32) (s : cS) (G : gm_H) (sz sl : Nat) (Q : Int32 → cS → Prop) : Prop := gP wI N0 K d (some .boolean) (gm_I cX2_fits) (gm_lkf (lkX2 false K)) 99 [some (.ref (C + 5)), some (.int u1), some (.int u2), none, none, some (.int u5), some (.int u6), none, none] (bM C (cH C s) G) sz sl (kQ C (fun r s' G' sz' dd => G' = G ∧ sz' = sz ∧ dd = sl ∧ Q r s'))
def hX3_isIdle_0 (N0 : Nat) (K : Nat → Nat) (d C : Nat) (s : cS) (G : gm_H) (sz sl : Nat) (Q : Int32 → Prop) : Prop := gP wI N0 K d (some .boolean) (gm_I cX3_isIdle) (gm_lkf (lkX3 false K)) 0 [some (.ref (C + 4))] (bM C (cH C s) G) sz sl (kQ C (fun r s' G' sz' dd => s' = s ∧ G' = G ∧ sz' = sz ∧ dd = sl ∧ Q r))
def hX3_take_0 (N0 : Nat) (K : Nat → Nat) (d C : Nat) (p0 : Nat) (s : cS) (G : gm_H) (sz sl : Nat) (Q : Int32 → cS → Prop) : Prop := gP wI N0 K d (some .boolean) (gm_I cX3_take) (gm_lkf (lkX3 false K)) 0 [some (.ref (C + 4)), some (.ref p0)] (bM C (cH C s) G) sz sl (kQ C (fun r s' G' sz' dd => G' = G ∧ sz' = sz ∧ dd = sl ∧ Q r s'))
def hX3_look_0 (N0 : Nat) (K : Nat → Nat) (d C : Nat) (p0 : Nat) (s : cS) (G : gm_H) (sz sl : Nat) (Q : Int32 → cS → Prop) : Prop := gP wI N0 K d (some .boolean) (gm_I cX3_look) (gm_lkf (lkX3 false K)) 0 [some (.ref (C + 4)), some (.ref p0)] (bM C (cH C s) G) sz sl (kQ C (fun r s' G' sz' dd => G' = G ∧ sz' = sz ∧ dd = sl ∧ Q r s'))
def hX3_seeMoves_0 (N0 : Nat) (K : Nat → Nat) (d C : Nat) (s : cS) (G : gm_H) (sz sl : Nat) (Q : Unit → cS → Prop) : Prop := gP wU N0 K d none (gm_I cX3_seeMoves) (gm_lkf (lkX3 false K)) 0 [some (.ref (C + 4))] (bM C (cH C s) G) sz sl (kQ C (fun r s' G' sz' dd => G' = G ∧ sz' = sz ∧ dd = sl ∧ Q r s'))
def hX3_goBack_0 (N0 : Nat) (K : Nat → Nat) (d C : Nat) (s : cS) (G : gm_H) (sz sl : Nat) (Q : Unit → cS → Prop) : Prop := gP wU N0 K d none (gm_I cX3_goBack) (gm_lkf (lkX3 false K)) 0 [some (.ref (C + 4))] (bM C (cH C s) G) sz sl (kQ C (fun r s' G' sz' dd => G' = G ∧ sz' = sz ∧ dd = sl ∧ Q r s'))
def hX3_lead_0 (N0 : Nat) (K : Nat → Nat) (d C : Nat) (p0 : Int32) (p1 : Int32) (s : cS) (G : gm_H) (sz sl : Nat) (Q : Int32 → cS → Prop) : Prop := gP wI N0 K d (some .boolean) (gm_I cX3_lead) (gm_lkf (lkX3 false K)) 0 [some (.ref (C + 4)), some (.int p0), some (.int p1)] (bM C (cH C s) G) sz sl (kQ C (fun r s' G' sz' dd => G' = G ∧ sz' = sz ∧ dd = sl ∧ Q r s'))
def hX3_advance_0 (N0 : Nat) (K : Nat → Nat) (d C : Nat) (p0 : Int32) (p1 : Int32) (s : cS) (G : gm_H) (sz sl : Nat) (Q : Int32 → cS → Prop) : Prop := gP wI N0 K d (some .boolean) (gm_I cX3_advance) (gm_lkf (lkX3 false K)) 0 [some (.ref (C + 4)), some (.int p0), some (.int p1)] (bM C (cH C s) G) sz sl (kQ C (fun r s' G' sz' dd => G' = G ∧ sz' = sz ∧ dd = sl ∧ Q r s'))
def hX3_hasPlayer_0 (N0 : Nat) (K : Nat → Nat) (d C : Nat) (p0 : Int32) (s : cS) (G : gm_H) (sz sl : Nat) (Q : Int32 → Prop) : Prop := gP wI N0 K d (some .boolean) (gm_I cX3_hasPlayer) (gm_lkf (lkX3 false K)) 0 [some (.ref (C + 4)), some (.int p0)] (bM C (cH C s) G) sz sl (kQ C (fun r s' G' sz' dd => s' = s ∧ G' = G ∧ sz' = sz ∧ dd = sl ∧ Q r))
def hX3_movesOf_0 (N0 : Nat) (K : Nat → Nat) (d C : Nat) (p0 : Int32) (s : cS) (G : gm_H) (sz sl : Nat) (Q : Nat → Prop) : Prop := gP wR N0 K d (some (.object "RuleArena$Terms")) (gm_I cX3_movesOf) (gm_lkf (lkX3 false K)) 0 [some (.ref (C + 4)), some (.int p0)] (bM C (cH C s) G) sz sl (kQ C (fun r s' G' sz' dd => s' = s ∧ G' = G ∧ sz' = sz ∧ dd = sl ∧ Q r))
def hX3_goalOf_0 (N0 : Nat) (K : Nat → Nat) (d C : Nat) (p0 : Int32) (s : cS) (G : gm_H) (sz sl : Nat) (Q : Int32 → Prop) : Prop := gP wI N0 K d (some .int) (gm_I cX3_goalOf) (gm_lkf (lkX3 false K)) 0 [some (.ref (C + 4)), some (.int p0), none, none, none] (bM C (cH C s) G) sz sl (kQ C (fun r s' G' sz' dd => s' = s ∧ G' = G ∧ sz' = sz ∧ dd = sl ∧ Q r))
def hX3_goalOf_19 (N0 : Nat) (K : Nat → Nat) (d C : Nat) (u1 : Int32) (u3 : Int32) (u4 : Int32) (s : cS) (G : gm_H) (sz sl : Nat) (Q : Int32 → Prop) : Prop := gP wI N0 K d (some .int) (gm_I cX3_goalOf) (gm_lkf (lkX3 false K)) 19 [some (.ref (C + 4)), some (.int u1), some (.ref (C + 6)), some (.int u3), some (.int u4)] (bM C (cH C s) G) sz sl (kQ C (fun r s' G' sz' dd => s' = s ∧ G' = G ∧ sz' = sz ∧ dd = sl ∧ Q r))
def hX6_place_0 (N0 : Nat) (K : Nat → Nat) (d C : Nat) (s : cS) (G : gm_H) (sz sl : Nat) (Q : Int32 → Prop) : Prop := gP wI N0 K d (some .int) (gm_I cX6_place) (gm_lkf (lkX6 false K)) 0 [some (.ref (C + 2))] (bM C (cH C s) G) sz sl (kQ C (fun r s' G' sz' dd => s' = s ∧ G' = G ∧ sz' = sz ∧ dd = sl ∧ Q r))
def hX6_read_0 (N0 : Nat) (K : Nat → Nat) (d C : Nat) (p1 : Int32) (s : cS) (G : gm_H) (sz sl : Nat) (Q : Option Nat → cS → gm_H → Nat → Nat → Prop) : Prop := gP wP N0 K d (some (.object "RuleArena$Rules")) (gm_I cX6_read) (gm_lkf (lkX6 false K)) 0 [some (.ref (C + 2)), some (.ref (C + 1)), some (.int p1), none, none, none] (bM C (cH C s) G) sz sl (kQ C (fun r s' G' sz' dd => Q r s' G' sz' dd))
def hX6_read_28 (N0 : Nat) (K : Nat → Nat) (d C : Nat) (u2 : Int32) (a3 : Nat) (u4 : Int32) (s : cS) (G : gm_H) (sz sl : Nat) (Q : Option Nat → cS → gm_H → Nat → Nat → Prop) : Prop := gP wP N0 K d (some (.object "RuleArena$Rules")) (gm_I cX6_read) (gm_lkf (lkX6 false K)) 28 [some (.ref (C + 2)), none, some (.int u2), some (.ref a3), some (.int u4), none] (bM C (cH C s) G) sz sl (kQ C (fun r s' G' sz' dd => Q r s' G' sz' dd))
def hX6_take_0 (N0 : Nat) (K : Nat → Nat) (d C : Nat) (p0 : Int32) (s : cS) (G : gm_H) (sz sl : Nat) (Q : Int32 → cS → Prop) : Prop := gP wI N0 K d (some .boolean) (gm_I cX6_take) (gm_lkf (lkX6 false K)) 0 [some (.ref (C + 2)), some (.int p0)] (bM C (cH C s) G) sz sl (kQ C (fun r s' G' sz' dd => G' = G ∧ sz' = sz ∧ dd = sl ∧ Q r s'))
def hX6_readRule_0 (N0 : Nat) (K : Nat → Nat) (d C : Nat) (s : cS) (G : gm_H) (sz sl : Nat) (Q : Option Nat → cS → gm_H → Nat → Nat → Prop) : Prop := gP wP N0 K d (some (.object "RuleArena$Rule")) (gm_I cX6_readRule) (gm_lkf (lkX6 false K)) 0 [some (.ref (C + 2)), none, none] (bM C (cH C s) G) sz sl (kQ C (fun r s' G' sz' dd => Q r s' G' sz' dd))
def hX6_readBody_0 (N0 : Nat) (K : Nat → Nat) (d C : Nat) (p0 : Nat) (s : cS) (G : gm_H) (sz sl : Nat) (Q : Int32 → cS → gm_H → Nat → Nat → Prop) : Prop := gP wI N0 K d (some .boolean) (gm_I cX6_readBody) (gm_lkf (lkX6 false K)) 0 [some (.ref (C + 2)), some (.ref p0), none, none] (bM C (cH C s) G) sz sl (kQ C (fun r s' G' sz' dd => Q r s' G' sz' dd))
def hX6_readBody_2 (N0 : Nat) (K : Nat → Nat) (d C : Nat) (p0 : Nat) (u2 : Int32) (s : cS) (G : gm_H) (sz sl : Nat) (Q : Int32 → cS → gm_H → Nat → Nat → Prop) : Prop := gP wI N0 K d (some .boolean) (gm_I cX6_readBody) (gm_lkf (lkX6 false K)) 2 [some (.ref (C + 2)), some (.ref p0), some (.int u2), none] (bM C (cH C s) G) sz sl (kQ C (fun r s' G' sz' dd => Q r s' G' sz' dd))
def hX6_readLiteral_0 (N0 : Nat) (K : Nat → Nat) (d C : Nat) (s : cS) (G : gm_H) (sz sl : Nat) (Q : Option Nat → cS → gm_H → Nat → Nat → Prop) : Prop := gP wP N0 K d (some (.object "RuleArena$Literal")) (gm_I cX6_readLiteral) (gm_lkf (lkX6 false K)) 0 [some (.ref (C + 2)), none] (bM C (cH C s) G) sz sl (kQ C (fun r s' G' sz' dd => Q r s' G' sz' dd))
def hX6_readUnlike_0 (N0 : Nat) (K : Nat → Nat) (d C : Nat) (p0 : Int32) (s : cS) (G : gm_H) (sz sl : Nat) (Q : Option Nat → cS → gm_H → Nat → Nat → Prop) : Prop := gP wP N0 K d (some (.object "RuleArena$Literal")) (gm_I cX6_readUnlike) (gm_lkf (lkX6 false K)) 0 [some (.ref (C + 2)), some (.int p0), none] (bM C (cH C s) G) sz sl (kQ C (fun r s' G' sz' dd => Q r s' G' sz' dd))
def hX6_readAtom_0 (N0 : Nat) (K : Nat → Nat) (d C : Nat) (p0 : Int32) (s : cS) (G : gm_H) (sz sl : Nat) (Q : Option Nat → cS → gm_H → Nat → Nat → Prop) : Prop := gP wP N0 K d (some (.object "RuleArena$Literal")) (gm_I cX6_readAtom) (gm_lkf (lkX6 false K)) 0 [some (.ref (C + 2)), some (.int p0), none, none, none, none, none] (bM C (cH C s) G) sz sl (kQ C (fun r s' G' sz' dd => Q r s' G' sz' dd))
def hX6_readAtom_92 (N0 : Nat) (K : Nat → Nat) (d C : Nat) (u1 : Int32) (u2 : Int32) (u4 : Int32) (u5 : Int32) (u6 : Int32) (s : cS) (G : gm_H) (sz sl : Nat) (Q : Option Nat → cS → gm_H → Nat → Nat → Prop) : Prop := gP wP N0 K d (some (.object "RuleArena$Literal")) (gm_I cX6_readAtom) (gm_lkf (lkX6 false K)) 92 [some (.ref (C + 2)), some (.int u1), some (.int u2), none, some (.int u4), some (.int u5), some (.int u6)] (bM C (cH C s) G) sz sl (kQ C (fun r s' G' sz' dd => Q r s' G' sz' dd))
def hX6_readTerm_0 (N0 : Nat) (K : Nat → Nat) (d C : Nat) (s : cS) (G : gm_H) (sz sl : Nat) (Q : Int32 → cS → Prop) : Prop := gP wI N0 K d (some .int) (gm_I cX6_readTerm) (gm_lkf (lkX6 false K)) 0 [some (.ref (C + 2)), none, none, none] (bM C (cH C s) G) sz sl (kQ C (fun r s' G' sz' dd => G' = G ∧ sz' = sz ∧ dd = sl ∧ Q r s'))
def hX6_readTerm_55 (N0 : Nat) (K : Nat → Nat) (d C : Nat) (u2 : Int32) (u3 : Int32) (s : cS) (G : gm_H) (sz sl : Nat) (Q : Int32 → cS → Prop) : Prop := gP wI N0 K d (some .int) (gm_I cX6_readTerm) (gm_lkf (lkX6 false K)) 55 [some (.ref (C + 2)), none, some (.int u2), some (.int u3)] (bM C (cH C s) G) sz sl (kQ C (fun r s' G' sz' dd => G' = G ∧ sz' = sz ∧ dd = sl ∧ Q r s'))
def hX11_write_0 (N0 : Nat) (K : Nat → Nat) (d C : Nat) (p0 : Int64) (s : cS) (G : gm_H) (sz sl : Nat) (Q : Int32 → cS → Prop) : Prop := gP wI N0 K d (some .boolean) (gm_I cX11_write) (gm_lkf (lkX11 false K)) 0 [some (.ref C), some (.long p0), none, none, none, none] (bM C (cH C s) G) sz sl (kQ C (fun r s' G' sz' dd => G' = G ∧ sz' = sz ∧ dd = sl ∧ Q r s'))
def hX11_write_6 (N0 : Nat) (K : Nat → Nat) (d C : Nat) (y1 : Int64) (u3 : Int32) (u4 : Int32) (s : cS) (G : gm_H) (sz sl : Nat) (Q : Int32 → cS → Prop) : Prop := gP wI N0 K d (some .boolean) (gm_I cX11_write) (gm_lkf (lkX11 false K)) 6 [some (.ref C), some (.long y1), none, some (.int u3), some (.int u4), none] (bM C (cH C s) G) sz sl (kQ C (fun r s' G' sz' dd => G' = G ∧ sz' = sz ∧ dd = sl ∧ Q r s'))
def hX11_write_80 (N0 : Nat) (K : Nat → Nat) (d C : Nat) (y1 : Int64) (u4 : Int32) (s : cS) (G : gm_H) (sz sl : Nat) (Q : Int32 → cS → Prop) : Prop := gP wI N0 K d (some .boolean) (gm_I cX11_write) (gm_lkf (lkX11 false K)) 80 [some (.ref C), some (.long y1), none, none, some (.int u4), none] (bM C (cH C s) G) sz sl (kQ C (fun r s' G' sz' dd => G' = G ∧ sz' = sz ∧ dd = sl ∧ Q r s'))
def hX11_wipe_0 (N0 : Nat) (K : Nat → Nat) (d C : Nat) (s : cS) (G : gm_H) (sz sl : Nat) (Q : Unit → cS → Prop) : Prop := gP wU N0 K d none (gm_I cX11_wipe) (gm_lkf (lkX11 false K)) 0 [some (.ref C)] (bM C (cH C s) G) sz sl (kQ C (fun r s' G' sz' dd => G' = G ∧ sz' = sz ∧ dd = sl ∧ Q r s'))
def hX11_load_0 (N0 : Nat) (K : Nat → Nat) (d C : Nat) (s : cS) (G : gm_H) (sz sl : Nat) (Q : Outcome → cS → gm_H → Nat → Nat → Prop) : Prop := gP wO N0 K d (some .int) (gm_I cX11_load) (gm_lkf (lkX11 false K)) 0 [some (.ref C), none, none, none, none] (bM C (cH C s) G) sz sl (kQ C (fun r s' G' sz' dd => Q r s' G' sz' dd))
def hX11_load_67 (N0 : Nat) (K : Nat → Nat) (d C : Nat) (a2 : Nat) (u3 : Int32) (s : cS) (G : gm_H) (sz sl : Nat) (Q : Outcome → cS → gm_H → Nat → Nat → Prop) : Prop := gP wO N0 K d (some .int) (gm_I cX11_load) (gm_lkf (lkX11 false K)) 67 [some (.ref C), none, some (.ref a2), some (.int u3), none] (bM C (cH C s) G) sz sl (kQ C (fun r s' G' sz' dd => Q r s' G' sz' dd))
def hX11_fault_0 (N0 : Nat) (K : Nat → Nat) (d C : Nat) (p0 : Int32) (s : cS) (G : gm_H) (sz sl : Nat) (Q : Int32 → Prop) : Prop := gP wI N0 K d (some .int) (gm_I cX11_fault) (gm_lkf (lkX11 false K)) 0 [some (.ref C), some (.int p0)] (bM C (cH C s) G) sz sl (kQ C (fun r s' G' sz' dd => s' = s ∧ G' = G ∧ sz' = sz ∧ dd = sl ∧ Q r))
def hX11_many_0 (N0 : Nat) (K : Nat → Nat) (d C : Nat) (p0 : Int32) (s : cS) (G : gm_H) (sz sl : Nat) (Q : Int32 → Prop) : Prop := gP wI N0 K d (some .int) (gm_I cX11_many) (gm_lkf (lkX11 false K)) 0 [some (.ref C), some (.int p0)] (bM C (cH C s) G) sz sl (kQ C (fun r s' G' sz' dd => s' = s ∧ G' = G ∧ sz' = sz ∧ dd = sl ∧ Q r))
def hX11_facts_0 (N0 : Nat) (K : Nat → Nat) (d C : Nat) (p0 : Int32) (p1 : Int32) (s : cS) (G : gm_H) (sz sl : Nat) (Q : Int32 → Prop) : Prop := gP wI N0 K d (some .int) (gm_I cX11_facts) (gm_lkf (lkX11 false K)) 0 [some (.ref C), some (.int p0), some (.int p1), none] (bM C (cH C s) G) sz sl (kQ C (fun r s' G' sz' dd => s' = s ∧ G' = G ∧ sz' = sz ∧ dd = sl ∧ Q r))
def hX11_moves_0 (N0 : Nat) (K : Nat → Nat) (d C : Nat) (p0 : Int32) (s : cS) (G : gm_H) (sz sl : Nat) (Q : Int32 → Prop) : Prop := gP wI N0 K d (some .int) (gm_I cX11_moves) (gm_lkf (lkX11 false K)) 0 [some (.ref C), some (.int p0)] (bM C (cH C s) G) sz sl (kQ C (fun r s' G' sz' dd => s' = s ∧ G' = G ∧ sz' = sz ∧ dd = sl ∧ Q r))
def hX11_over_0 (N0 : Nat) (K : Nat → Nat) (d C : Nat) (s : cS) (G : gm_H) (sz sl : Nat) (Q : Int32 → Prop) : Prop := gP wI N0 K d (some .int) (gm_I cX11_over) (gm_lkf (lkX11 false K)) 0 [some (.ref C)] (bM C (cH C s) G) sz sl (kQ C (fun r s' G' sz' dd => s' = s ∧ G' = G ∧ sz' = sz ∧ dd = sl ∧ Q r))
def hX11_goal_0 (N0 : Nat) (K : Nat → Nat) (d C : Nat) (p0 : Int32) (s : cS) (G : gm_H) (sz sl : Nat) (Q : Int32 → Prop) : Prop := gP wI N0 K d (some .int) (gm_I cX11_goal) (gm_lkf (lkX11 false K)) 0 [some (.ref C), some (.int p0)] (bM C (cH C s) G) sz sl (kQ C (fun r s' G' sz' dd => s' = s ∧ G' = G ∧ sz' = sz ∧ dd = sl ∧ Q r))
def hX11_letter_0 (N0 : Nat) (K : Nat → Nat) (d C : Nat) (p0 : Int32) (p1 : Int32) (p2 : Int32) (s : cS) (G : gm_H) (sz sl : Nat) (Q : Int32 → Prop) : Prop := gP wI N0 K d (some .int) (gm_I cX11_letter) (gm_lkf (lkX11 false K)) 0 [some (.ref C), some (.int p0), some (.int p1), some (.int p2)] (bM C (cH C s) G) sz sl (kQ C (fun r s' G' sz' dd => s' = s ∧ G' = G ∧ sz' = sz ∧ dd = sl ∧ Q r))
def hX11_play_0 (N0 : Nat) (K : Nat → Nat) (d C : Nat) (p0 : Int32) (p1 : Int32) (s : cS) (G : gm_H) (sz sl : Nat) (Q : Outcome → cS → Nat → Nat → Prop) : Prop := gP wO N0 K d (some .int) (gm_I cX11_play) (gm_lkf (lkX11 false K)) 0 [some (.ref C), some (.int p0), some (.int p1)] (bM C (cH C s) G) sz sl (kQ C (fun r s' G' sz' dd => G' = G ∧ Q r s' sz' dd))
def hX11_restart_0 (N0 : Nat) (K : Nat → Nat) (d C : Nat) (s : cS) (G : gm_H) (sz sl : Nat) (Q : Int32 → cS → Prop) : Prop := gP wI N0 K d (some .boolean) (gm_I cX11_restart) (gm_lkf (lkX11 false K)) 0 [some (.ref C)] (bM C (cH C s) G) sz sl (kQ C (fun r s' G' sz' dd => G' = G ∧ sz' = sz ∧ dd = sl ∧ Q r s'))
def hX11_audit_0 (N0 : Nat) (K : Nat → Nat) (d C : Nat) (s : cS) (G : gm_H) (sz sl : Nat) (Q : Outcome → cS → gm_H → Nat → Nat → Prop) : Prop := gP wO N0 K d (some .int) (gm_I cX11_audit) (gm_lkf (lkX11 false K)) 0 [some (.ref C)] (bM C (cH C s) G) sz sl (kQ C (fun r s' G' sz' dd => Q r s' G' sz' dd))
def hX11_worth_0 (N0 : Nat) (K : Nat → Nat) (d C : Nat) (s : cS) (G : gm_H) (sz sl : Nat) (Q : Outcome → cS → gm_H → Nat → Nat → Prop) : Prop := gP wO N0 K d (some .int) (gm_I cX11_worth) (gm_lkf (lkX11 false K)) 0 [some (.ref C)] (bM C (cH C s) G) sz sl (kQ C (fun r s' G' sz' dd => Q r s' G' sz' dd))
def hX11_best_0 (N0 : Nat) (K : Nat → Nat) (d C : Nat) (s : cS) (G : gm_H) (sz sl : Nat) (Q : Outcome → cS → gm_H → Nat → Nat → Prop) : Prop := gP wO N0 K d (some .int) (gm_I cX11_best) (gm_lkf (lkX11 false K)) 0 [some (.ref C)] (bM C (cH C s) G) sz sl (kQ C (fun r s' G' sz' dd => Q r s' G' sz' dd))
def kX4_init_gz (N0 : Nat) (K : Nat → Nat) (d C : Nat) (q : Nat) (p0 : Nat) (s : cS) (G : gm_H) (sz : Nat) (Q : Unit → gm_H → Nat → Nat → Prop) : Prop := gC wU N0 K d 49 [.ref q, .ref p0] (bM C (cH C s) G) sz (kQ C (fun r s' G' sz' dd => s' = s ∧ Q r G' sz' dd))
def gX4_init (N0 : Nat) (K : Nat → Nat) (d : Nat) (q : Nat) (p0 : Nat) (M : gm_H) (sz : Nat) (Q : Unit → gm_H → Nat → Nat → Prop) : Prop := gC wU N0 K d 49 [.ref q, .ref p0] M sz Q
def gX4_sort (N0 : Nat) (K : Nat → Nat) (d : Nat) (p0 : Nat) (p1 : Nat) (p2 : Nat) (M : gm_H) (sz : Nat) (Q : Unit → gm_H → Nat → Nat → Prop) : Prop := gC wU N0 K d 50 [.ref p0, .ref p1, .ref p2] M sz Q
def gX4_keyOf (N0 : Nat) (K : Nat → Nat) (d : Nat) (p0 : Nat) (p1 : Int32) (M : gm_H) (sz : Nat) (Q : Int64 → gm_H → Nat → Nat → Prop) : Prop := gC wL N0 K d 51 [.ref p0, .int p1] M sz Q
def gX4_stageOf (N0 : Nat) (K : Nat → Nat) (d : Nat) (p0 : Nat) (p1 : Int32) (M : gm_H) (sz : Nat) (Q : Int32 → gm_H → Nat → Nat → Prop) : Prop := gC wI N0 K d 52 [.ref p0, .int p1] M sz Q
def kX4_isRecursive (N0 : Nat) (K : Nat → Nat) (d C : Nat) (q : Nat) (p0 : Int32) (s : cS) (G : gm_H) (sz : Nat) (Q : Int32 → Prop) : Prop := gC wI N0 K d 53 [.ref q, .int p0] (bM C (cH C s) G) sz (kQ C (fun r s' G' sz' dd => s' = s ∧ G' = G ∧ sz' = sz ∧ dd = 0 ∧ Q r))
def gX4_isRecursive (N0 : Nat) (K : Nat → Nat) (d : Nat) (q : Nat) (p0 : Int32) (M : gm_H) (sz : Nat) (Q : Int32 → gm_H → Nat → Nat → Prop) : Prop := gC wI N0 K d 53 [.ref q, .int p0] M sz Q
def kX5_init_g (N0 : Nat) (K : Nat → Nat) (d C : Nat) (q : Nat) (p0 : Int32) (p1 : Int32) (p2 : Int32) (p3 : Int32) (p4 : Int32) (s : cS) (G : gm_H) (sz : Nat) (Q : Unit → gm_H → Prop) : Prop := gC wU N0 K d 54 [.ref q, .int p0, .int p1, .int p2, .int p3, .int p4] (bM C (cH C s) G) sz (kQ C (fun r s' G' sz' dd => s' = s ∧ sz' = sz ∧ dd = 0 ∧ Q r G'))
def gX5_init (N0 : Nat) (K : Nat → Nat) (d : Nat) (q : Nat) (p0 : Int32) (p1 : Int32) (p2 : Int32) (p3 : Int32) (p4 : Int32) (M : gm_H) (sz : Nat) (Q : Unit → gm_H → Nat → Nat → Prop) : Prop := gC wU N0 K d 54 [.ref q, .int p0, .int p1, .int p2, .int p3, .int p4] M sz Q
def kX5_relationOf (N0 : Nat) (K : Nat → Nat) (d C : Nat) (p0 : Int32) (p1 : Int32) (s : cS) (G : gm_H) (sz : Nat) (Q : Int32 → Prop) : Prop := gC wI N0 K d 55 [.int p0, .int p1] (bM C (cH C s) G) sz (kQ C (fun r s' G' sz' dd => s' = s ∧ G' = G ∧ sz' = sz ∧ dd = 0 ∧ Q r))
def gX5_relationOf (N0 : Nat) (K : Nat → Nat) (d : Nat) (p0 : Int32) (p1 : Int32) (M : gm_H) (sz : Nat) (Q : Int32 → gm_H → Nat → Nat → Prop) : Prop := gC wI N0 K d 55 [.int p0, .int p1] M sz Q
def gX5_variables (N0 : Nat) (K : Nat → Nat) (d : Nat) (q : Nat) (M : gm_H) (sz : Nat) (Q : Int32 → gm_H → Nat → Nat → Prop) : Prop := gC wI N0 K d 56 [.ref q] M sz Q
def gX5_partVariables (N0 : Nat) (K : Nat → Nat) (d : Nat) (q : Nat) (M : gm_H) (sz : Nat) (Q : Int32 → gm_H → Nat → Nat → Prop) : Prop := gC wI N0 K d 57 [.ref q] M sz Q
def kX5_asTerm (N0 : Nat) (K : Nat → Nat) (d C : Nat) (q : Nat) (s : cS) (G : gm_H) (sz : Nat) (Q : Int32 → Prop) : Prop := gC wI N0 K d 58 [.ref q] (bM C (cH C s) G) sz (kQ C (fun r s' G' sz' dd => s' = s ∧ G' = G ∧ sz' = sz ∧ dd = 0 ∧ Q r))
def gX5_asTerm (N0 : Nat) (K : Nat → Nat) (d : Nat) (q : Nat) (M : gm_H) (sz : Nat) (Q : Int32 → gm_H → Nat → Nat → Prop) : Prop := gC wI N0 K d 58 [.ref q] M sz Q
def gX5_plan (N0 : Nat) (K : Nat → Nat) (d : Nat) (q : Nat) (p0 : Int32) (M : gm_H) (sz : Nat) (Q : Unit → gm_H → Nat → Nat → Prop) : Prop := gC wU N0 K d 59 [.ref q, .int p0] M sz Q
def kX7_init_gz (N0 : Nat) (K : Nat → Nat) (d C : Nat) (q : Nat) (p0 : Nat) (s : cS) (G : gm_H) (sz : Nat) (Q : Unit → gm_H → Nat → Nat → Prop) : Prop := gC wU N0 K d 70 [.ref q, .ref p0] (bM C (cH C s) G) sz (kQ C (fun r s' G' sz' dd => s' = s ∧ Q r G' sz' dd))
def gX7_init (N0 : Nat) (K : Nat → Nat) (d : Nat) (q : Nat) (p0 : Nat) (M : gm_H) (sz : Nat) (Q : Unit → gm_H → Nat → Nat → Prop) : Prop := gC wU N0 K d 70 [.ref q, .ref p0] M sz Q
def kX7_append_g (N0 : Nat) (K : Nat → Nat) (d C : Nat) (q : Nat) (p0 : Nat) (s : cS) (G : gm_H) (sz : Nat) (Q : Unit → gm_H → Prop) : Prop := gC wU N0 K d 71 [.ref q, .ref p0] (bM C (cH C s) G) sz (kQ C (fun r s' G' sz' dd => s' = s ∧ sz' = sz ∧ dd = 0 ∧ Q r G'))
def gX7_append (N0 : Nat) (K : Nat → Nat) (d : Nat) (q : Nat) (p0 : Nat) (M : gm_H) (sz : Nat) (Q : Unit → gm_H → Nat → Nat → Prop) : Prop := gC wU N0 K d 71 [.ref q, .ref p0] M sz Q
def gX7_isMisplaced (N0 : Nat) (K : Nat → Nat) (d : Nat) (q : Nat) (M : gm_H) (sz : Nat) (Q : Int32 → gm_H → Nat → Nat → Prop) : Prop := gC wI N0 K d 72 [.ref q] M sz Q
def gX7_isLoose (N0 : Nat) (K : Nat → Nat) (d : Nat) (q : Nat) (M : gm_H) (sz : Nat) (Q : Int32 → gm_H → Nat → Nat → Prop) : Prop := gC wI N0 K d 73 [.ref q] M sz Q
def gX7_asks (N0 : Nat) (K : Nat → Nat) (d : Nat) (q : Nat) (p0 : Int32) (M : gm_H) (sz : Nat) (Q : Int32 → gm_H → Nat → Nat → Prop) : Prop := gC wI N0 K d 74 [.ref q, .int p0] M sz Q
def gX7_keywords (N0 : Nat) (K : Nat → Nat) (d : Nat) (q : Nat) (M : gm_H) (sz : Nat) (Q : Int32 → gm_H → Nat → Nat → Prop) : Prop := gC wI N0 K d 75 [.ref q] M sz Q
def gX7_plan (N0 : Nat) (K : Nat → Nat) (d : Nat) (q : Nat) (M : gm_H) (sz : Nat) (Q : Unit → gm_H → Nat → Nat → Prop) : Prop := gC wU N0 K d 76 [.ref q] M sz Q
def gX7_bring (N0 : Nat) (K : Nat → Nat) (d : Nat) (q : Nat) (p0 : Int32) (p1 : Int32) (p2 : Int32) (M : gm_H) (sz : Nat) (Q : Nat → gm_H → Nat → Nat → Prop) : Prop := gC wR N0 K d 77 [.ref q, .int p0, .int p1, .int p2] M sz Q
def gX7_meritOf (N0 : Nat) (K : Nat → Nat) (d : Nat) (p0 : Nat) (p1 : Int32) (p2 : Int32) (M : gm_H) (sz : Nat) (Q : Int32 → gm_H → Nat → Nat → Prop) : Prop := gC wI N0 K d 78 [.ref p0, .int p1, .int p2] M sz Q
def gX7_termMerit (N0 : Nat) (K : Nat → Nat) (d : Nat) (p0 : Int32) (p1 : Int32) (M : gm_H) (sz : Nat) (Q : Int32 → gm_H → Nat → Nat → Prop) : Prop := gC wI N0 K d 79 [.int p0, .int p1] M sz Q
def kX8_init_gz (N0 : Nat) (K : Nat → Nat) (d C : Nat) (q : Nat) (s : cS) (G : gm_H) (sz : Nat) (Q : Unit → gm_H → Nat → Nat → Prop) : Prop := gC wU N0 K d 80 [.ref q] (bM C (cH C s) G) sz (kQ C (fun r s' G' sz' dd => s' = s ∧ Q r G' sz' dd))
def gX8_init (N0 : Nat) (K : Nat → Nat) (d : Nat) (q : Nat) (M : gm_H) (sz : Nat) (Q : Unit → gm_H → Nat → Nat → Prop) : Prop := gC wU N0 K d 80 [.ref q] M sz Q
def kX8_append_g (N0 : Nat) (K : Nat → Nat) (d C : Nat) (q : Nat) (p0 : Nat) (s : cS) (G : gm_H) (sz : Nat) (Q : Unit → gm_H → Prop) : Prop := gC wU N0 K d 81 [.ref q, .ref p0] (bM C (cH C s) G) sz (kQ C (fun r s' G' sz' dd => s' = s ∧ sz' = sz ∧ dd = 0 ∧ Q r G'))
def gX8_append (N0 : Nat) (K : Nat → Nat) (d : Nat) (q : Nat) (p0 : Nat) (M : gm_H) (sz : Nat) (Q : Unit → gm_H → Nat → Nat → Prop) : Prop := gC wU N0 K d 81 [.ref q, .ref p0] M sz Q
def kX8_trace_g (N0 : Nat) (K : Nat → Nat) (d C : Nat) (q : Nat) (s : cS) (G : gm_H) (sz : Nat) (Q : Unit → gm_H → Prop) : Prop := gC wU N0 K d 82 [.ref q] (bM C (cH C s) G) sz (kQ C (fun r s' G' sz' dd => s' = s ∧ sz' = sz ∧ dd = 0 ∧ Q r G'))
def gX8_trace (N0 : Nat) (K : Nat → Nat) (d : Nat) (q : Nat) (M : gm_H) (sz : Nat) (Q : Unit → gm_H → Nat → Nat → Prop) : Prop := gC wU N0 K d 82 [.ref q] M sz Q
def gX8_headsIn (N0 : Nat) (K : Nat → Nat) (d : Nat) (q : Nat) (p0 : Nat) (M : gm_H) (sz : Nat) (Q : Int32 → gm_H → Nat → Nat → Prop) : Prop := gC wI N0 K d 83 [.ref q, .ref p0] M sz Q
def kX8_placeOf (N0 : Nat) (K : Nat → Nat) (d C : Nat) (q : Nat) (p0 : Int32) (s : cS) (G : gm_H) (sz : Nat) (Q : Int32 → Prop) : Prop := gC wI N0 K d 84 [.ref q, .int p0] (bM C (cH C s) G) sz (kQ C (fun r s' G' sz' dd => s' = s ∧ G' = G ∧ sz' = sz ∧ dd = 0 ∧ Q r))
def gX8_placeOf (N0 : Nat) (K : Nat → Nat) (d : Nat) (q : Nat) (p0 : Int32) (M : gm_H) (sz : Nat) (Q : Int32 → gm_H → Nat → Nat → Prop) : Prop := gC wI N0 K d 84 [.ref q, .int p0] M sz Q
def gX8_hasFault (N0 : Nat) (K : Nat → Nat) (d : Nat) (q : Nat) (p0 : Int32) (p1 : Int32) (M : gm_H) (sz : Nat) (Q : Int32 → gm_H → Nat → Nat → Prop) : Prop := gC wI N0 K d 85 [.ref q, .int p0, .int p1] M sz Q
def gX8_deniesItself (N0 : Nat) (K : Nat → Nat) (d : Nat) (q : Nat) (p0 : Int32) (M : gm_H) (sz : Nat) (Q : Int32 → gm_H → Nat → Nat → Prop) : Prop := gC wI N0 K d 86 [.ref q, .int p0] M sz Q
def gX8_looksAhead (N0 : Nat) (K : Nat → Nat) (d : Nat) (q : Nat) (p0 : Int32) (M : gm_H) (sz : Nat) (Q : Int32 → gm_H → Nat → Nat → Prop) : Prop := gC wI N0 K d 87 [.ref q, .int p0] M sz Q
def kX9_isLetter (N0 : Nat) (K : Nat → Nat) (d C : Nat) (p0 : Int32) (s : cS) (G : gm_H) (sz : Nat) (Q : Int32 → Prop) : Prop := gC wI N0 K d 88 [.int p0] (bM C (cH C s) G) sz (kQ C (fun r s' G' sz' dd => s' = s ∧ G' = G ∧ sz' = sz ∧ dd = 0 ∧ Q r))
def gX9_isLetter (N0 : Nat) (K : Nat → Nat) (d : Nat) (p0 : Int32) (M : gm_H) (sz : Nat) (Q : Int32 → gm_H → Nat → Nat → Prop) : Prop := gC wI N0 K d 88 [.int p0] M sz Q
def gX9_isVariable (N0 : Nat) (K : Nat → Nat) (d : Nat) (p0 : Int32) (M : gm_H) (sz : Nat) (Q : Int32 → gm_H → Nat → Nat → Prop) : Prop := gC wI N0 K d 89 [.int p0] M sz Q
def kX9_isPlain (N0 : Nat) (K : Nat → Nat) (d C : Nat) (p0 : Int32) (s : cS) (G : gm_H) (sz : Nat) (Q : Int32 → Prop) : Prop := gC wI N0 K d 90 [.int p0] (bM C (cH C s) G) sz (kQ C (fun r s' G' sz' dd => s' = s ∧ G' = G ∧ sz' = sz ∧ dd = 0 ∧ Q r))
def gX9_isPlain (N0 : Nat) (K : Nat → Nat) (d : Nat) (p0 : Int32) (M : gm_H) (sz : Nat) (Q : Int32 → gm_H → Nat → Nat → Prop) : Prop := gC wI N0 K d 90 [.int p0] M sz Q
def gX9_variables (N0 : Nat) (K : Nat → Nat) (d : Nat) (p0 : Int32) (M : gm_H) (sz : Nat) (Q : Int32 → gm_H → Nat → Nat → Prop) : Prop := gC wI N0 K d 91 [.int p0] M sz Q
def gX9_plan (N0 : Nat) (K : Nat → Nat) (d : Nat) (p0 : Int32) (p1 : Int32) (M : gm_H) (sz : Nat) (Q : Int32 → gm_H → Nat → Nat → Prop) : Prop := gC wI N0 K d 92 [.int p0, .int p1] M sz Q
def kX9_character (N0 : Nat) (K : Nat → Nat) (d C : Nat) (p0 : Int32) (p1 : Int32) (s : cS) (G : gm_H) (sz : Nat) (Q : Int32 → Prop) : Prop := gC wI N0 K d 93 [.int p0, .int p1] (bM C (cH C s) G) sz (kQ C (fun r s' G' sz' dd => s' = s ∧ G' = G ∧ sz' = sz ∧ dd = 0 ∧ Q r))
def gX9_character (N0 : Nat) (K : Nat → Nat) (d : Nat) (p0 : Int32) (p1 : Int32) (M : gm_H) (sz : Nat) (Q : Int32 → gm_H → Nat → Nat → Prop) : Prop := gC wI N0 K d 93 [.int p0, .int p1] M sz Q
def gX10_init (N0 : Nat) (K : Nat → Nat) (d : Nat) (q : Nat) (p0 : Int32) (M : gm_H) (sz : Nat) (Q : Unit → gm_H → Nat → Nat → Prop) : Prop := gC wU N0 K d 94 [.ref q, .int p0] M sz Q
def kX10_at (N0 : Nat) (K : Nat → Nat) (d C : Nat) (q : Nat) (p0 : Int32) (s : cS) (G : gm_H) (sz : Nat) (Q : Int32 → Prop) : Prop := gC wI N0 K d 95 [.ref q, .int p0] (bM C (cH C s) G) sz (kQ C (fun r s' G' sz' dd => s' = s ∧ G' = G ∧ sz' = sz ∧ dd = 0 ∧ Q r))
def gX10_at (N0 : Nat) (K : Nat → Nat) (d : Nat) (q : Nat) (p0 : Int32) (M : gm_H) (sz : Nat) (Q : Int32 → gm_H → Nat → Nat → Prop) : Prop := gC wI N0 K d 95 [.ref q, .int p0] M sz Q
def kX10_clear_s (N0 : Nat) (K : Nat → Nat) (d C : Nat) (q : Nat) (s : cS) (G : gm_H) (sz : Nat) (Q : Unit → cS → Prop) : Prop := gC wU N0 K d 96 [.ref q] (bM C (cH C s) G) sz (kQ C (fun r s' G' sz' dd => G' = G ∧ sz' = sz ∧ dd = 0 ∧ Q r s'))
def gX10_clear (N0 : Nat) (K : Nat → Nat) (d : Nat) (q : Nat) (M : gm_H) (sz : Nat) (Q : Unit → gm_H → Nat → Nat → Prop) : Prop := gC wU N0 K d 96 [.ref q] M sz Q
def kX10_copy_g (N0 : Nat) (K : Nat → Nat) (d C : Nat) (q : Nat) (p0 : Nat) (s : cS) (G : gm_H) (sz : Nat) (Q : Unit → gm_H → Prop) : Prop := gC wU N0 K d 97 [.ref q, .ref p0] (bM C (cH C s) G) sz (kQ C (fun r s' G' sz' dd => s' = s ∧ sz' = sz ∧ dd = 0 ∧ Q r G'))
def kX10_copy_s (N0 : Nat) (K : Nat → Nat) (d C : Nat) (q : Nat) (p0 : Nat) (s : cS) (G : gm_H) (sz : Nat) (Q : Unit → cS → Prop) : Prop := gC wU N0 K d 97 [.ref q, .ref p0] (bM C (cH C s) G) sz (kQ C (fun r s' G' sz' dd => G' = G ∧ sz' = sz ∧ dd = 0 ∧ Q r s'))
def gX10_copy (N0 : Nat) (K : Nat → Nat) (d : Nat) (q : Nat) (p0 : Nat) (M : gm_H) (sz : Nat) (Q : Unit → gm_H → Nat → Nat → Prop) : Prop := gC wU N0 K d 97 [.ref q, .ref p0] M sz Q
def kX10_isSame (N0 : Nat) (K : Nat → Nat) (d C : Nat) (q : Nat) (p0 : Nat) (s : cS) (G : gm_H) (sz : Nat) (Q : Int32 → Prop) : Prop := gC wI N0 K d 98 [.ref q, .ref p0] (bM C (cH C s) G) sz (kQ C (fun r s' G' sz' dd => s' = s ∧ G' = G ∧ sz' = sz ∧ dd = 0 ∧ Q r))
def gX10_isSame (N0 : Nat) (K : Nat → Nat) (d : Nat) (q : Nat) (p0 : Nat) (M : gm_H) (sz : Nat) (Q : Int32 → gm_H → Nat → Nat → Prop) : Prop := gC wI N0 K d 98 [.ref q, .ref p0] M sz Q
def gX10_insert (N0 : Nat) (K : Nat → Nat) (d : Nat) (q : Nat) (p0 : Int32) (M : gm_H) (sz : Nat) (Q : Int32 → gm_H → Nat → Nat → Prop) : Prop := gC wI N0 K d 99 [.ref q, .int p0] M sz Q
def kX10_collect_s (N0 : Nat) (K : Nat → Nat) (d C : Nat) (q : Nat) (p0 : Nat) (p1 : Int32) (s : cS) (G : gm_H) (sz : Nat) (Q : Int32 → cS → Prop) : Prop := gC wI N0 K d 100 [.ref q, .ref p0, .int p1] (bM C (cH C s) G) sz (kQ C (fun r s' G' sz' dd => G' = G ∧ sz' = sz ∧ dd = 0 ∧ Q r s'))
def gX10_collect (N0 : Nat) (K : Nat → Nat) (d : Nat) (q : Nat) (p0 : Nat) (p1 : Int32) (M : gm_H) (sz : Nat) (Q : Int32 → gm_H → Nat → Nat → Prop) : Prop := gC wI N0 K d 100 [.ref q, .ref p0, .int p1] M sz Q
def kX10_collectMoves_s (N0 : Nat) (K : Nat → Nat) (d C : Nat) (q : Nat) (p0 : Nat) (p1 : Int32) (s : cS) (G : gm_H) (sz : Nat) (Q : Unit → cS → Prop) : Prop := gC wU N0 K d 101 [.ref q, .ref p0, .int p1] (bM C (cH C s) G) sz (kQ C (fun r s' G' sz' dd => G' = G ∧ sz' = sz ∧ dd = 0 ∧ Q r s'))
def gX10_collectMoves (N0 : Nat) (K : Nat → Nat) (d : Nat) (q : Nat) (p0 : Nat) (p1 : Int32) (M : gm_H) (sz : Nat) (Q : Unit → gm_H → Nat → Nat → Prop) : Prop := gC wU N0 K d 101 [.ref q, .ref p0, .int p1] M sz Q
def gJ6_bitCount_0f7a4 (N0 : Nat) (K : Nat → Nat) (d : Nat) (p0 : Int32) (M : gm_H) (sz : Nat) (Q : Int32 → gm_H → Nat → Nat → Prop) : Prop := gC wI N0 K d 191 [.int p0] M sz Q
def kJ7_fill_53178_s (N0 : Nat) (K : Nat → Nat) (d C : Nat) (p0 : Nat) (p1 : Int32) (s : cS) (G : gm_H) (sz : Nat) (Q : Unit → cS → Prop) : Prop := gC wU N0 K d 192 [.ref p0, .int p1] (bM C (cH C s) G) sz (kQ C (fun r s' G' sz' dd => G' = G ∧ sz' = sz ∧ dd = 0 ∧ Q r s'))
def gJ7_fill_53178 (N0 : Nat) (K : Nat → Nat) (d : Nat) (p0 : Nat) (p1 : Int32) (M : gm_H) (sz : Nat) (Q : Unit → gm_H → Nat → Nat → Prop) : Prop := gC wU N0 K d 192 [.ref p0, .int p1] M sz Q
def kX0_forget (N0 : Nat) (K : Nat → Nat) (d C : Nat) (s : cS) (G : gm_H) (sz : Nat) (Q : Unit → cS → Prop) : Prop := gC wU N0 K d 11 [.ref (C + 29)] (bM C (cH C s) G) sz (kQ C (fun r s' G' sz' dd => G' = G ∧ sz' = sz ∧ dd = 0 ∧ Q r s'))
def kX0_run (N0 : Nat) (K : Nat → Nat) (d C : Nat) (s : cS) (G : gm_H) (sz : Nat) (Q : Int32 → cS → gm_H → Prop) : Prop := gC wI N0 K d 12 [.ref (C + 29), .ref (C + 4)] (bM C (cH C s) G) sz (kQ C (fun r s' G' sz' dd => sz' = sz ∧ dd = 0 ∧ Q r s' G'))
def kX0_judge (N0 : Nat) (K : Nat → Nat) (d C : Nat) (p1 : Int32) (s : cS) (G : gm_H) (sz : Nat) (Q : Int32 → cS → Prop) : Prop := gC wI N0 K d 13 [.ref (C + 29), .ref (C + 4), .int p1] (bM C (cH C s) G) sz (kQ C (fun r s' G' sz' dd => G' = G ∧ sz' = sz ∧ dd = 0 ∧ Q r s'))
def kX0_note (N0 : Nat) (K : Nat → Nat) (d C : Nat) (p0 : Int32) (p1 : Int32) (p2 : Nat) (s : cS) (G : gm_H) (sz : Nat) (Q : Int32 → cS → gm_H → Prop) : Prop := gC wI N0 K d 14 [.ref (C + 29), .int p0, .int p1, .ref p2] (bM C (cH C s) G) sz (kQ C (fun r s' G' sz' dd => sz' = sz ∧ dd = 0 ∧ Q r s' G'))
def kX0_placeOf (N0 : Nat) (K : Nat → Nat) (d C : Nat) (p0 : Nat) (s : cS) (G : gm_H) (sz : Nat) (Q : Int32 → Prop) : Prop := gC wI N0 K d 15 [.ref (C + 29), .ref p0] (bM C (cH C s) G) sz (kQ C (fun r s' G' sz' dd => s' = s ∧ G' = G ∧ sz' = sz ∧ dd = 0 ∧ Q r))
def kX0_weigh (N0 : Nat) (K : Nat → Nat) (d C : Nat) (s : cS) (G : gm_H) (sz : Nat) (Q : Int32 → cS → Prop) : Prop := gC wI N0 K d 16 [.ref (C + 29)] (bM C (cH C s) G) sz (kQ C (fun r s' G' sz' dd => G' = G ∧ sz' = sz ∧ dd = 0 ∧ Q r s'))
def kX0_valueBehind (N0 : Nat) (K : Nat → Nat) (d C : Nat) (p0 : Int32) (s : cS) (G : gm_H) (sz : Nat) (Q : Int32 → Prop) : Prop := gC wI N0 K d 17 [.ref (C + 29), .int p0] (bM C (cH C s) G) sz (kQ C (fun r s' G' sz' dd => s' = s ∧ G' = G ∧ sz' = sz ∧ dd = 0 ∧ Q r))
def kX0_valueAt (N0 : Nat) (K : Nat → Nat) (d C : Nat) (p0 : Nat) (s : cS) (G : gm_H) (sz : Nat) (Q : Int32 → Prop) : Prop := gC wI N0 K d 18 [.ref (C + 29), .ref p0] (bM C (cH C s) G) sz (kQ C (fun r s' G' sz' dd => s' = s ∧ G' = G ∧ sz' = sz ∧ dd = 0 ∧ Q r))
def kX0_choiceAt (N0 : Nat) (K : Nat → Nat) (d C : Nat) (p0 : Nat) (s : cS) (G : gm_H) (sz : Nat) (Q : Int32 → Prop) : Prop := gC wI N0 K d 19 [.ref (C + 29), .ref p0] (bM C (cH C s) G) sz (kQ C (fun r s' G' sz' dd => s' = s ∧ G' = G ∧ sz' = sz ∧ dd = 0 ∧ Q r))
def kX1_find (N0 : Nat) (K : Nat → Nat) (d C : Nat) (p0 : Int32) (p1 : Int32) (p2 : Int32) (p3 : Int32) (s : cS) (G : gm_H) (sz : Nat) (Q : Int32 → Prop) : Prop := gC wI N0 K d 21 [.ref (C + 6), .int p0, .int p1, .int p2, .int p3] (bM C (cH C s) G) sz (kQ C (fun r s' G' sz' dd => s' = s ∧ G' = G ∧ sz' = sz ∧ dd = 0 ∧ Q r))
def kX1_add (N0 : Nat) (K : Nat → Nat) (d C : Nat) (p0 : Int32) (p1 : Int32) (p2 : Int32) (p3 : Int32) (s : cS) (G : gm_H) (sz : Nat) (Q : Unit → cS → Prop) : Prop := gC wU N0 K d 22 [.ref (C + 6), .int p0, .int p1, .int p2, .int p3] (bM C (cH C s) G) sz (kQ C (fun r s' G' sz' dd => G' = G ∧ sz' = sz ∧ dd = 0 ∧ Q r s'))
def kX1_search (N0 : Nat) (K : Nat → Nat) (d C : Nat) (p0 : Int32) (p1 : Int32) (p2 : Int32) (p3 : Int32) (p4 : Int32) (s : cS) (G : gm_H) (sz : Nat) (Q : Int32 → Prop) : Prop := gC wI N0 K d 23 [.ref (C + 6), .int p0, .int p1, .int p2, .int p3, .int p4] (bM C (cH C s) G) sz (kQ C (fun r s' G' sz' dd => s' = s ∧ G' = G ∧ sz' = sz ∧ dd = 0 ∧ Q r))
def kX1_slotOf (N0 : Nat) (K : Nat → Nat) (d C : Nat) (p0 : Int32) (p1 : Int32) (p2 : Int32) (p3 : Int32) (s : cS) (G : gm_H) (sz : Nat) (Q : Int32 → Prop) : Prop := gC wI N0 K d 24 [.int p0, .int p1, .int p2, .int p3] (bM C (cH C s) G) sz (kQ C (fun r s' G' sz' dd => s' = s ∧ G' = G ∧ sz' = sz ∧ dd = 0 ∧ Q r))
def kX1_cut (N0 : Nat) (K : Nat → Nat) (d C : Nat) (p0 : Int32) (s : cS) (G : gm_H) (sz : Nat) (Q : Unit → cS → Prop) : Prop := gC wU N0 K d 25 [.ref (C + 6), .int p0] (bM C (cH C s) G) sz (kQ C (fun r s' G' sz' dd => G' = G ∧ sz' = sz ∧ dd = 0 ∧ Q r s'))
def kX2_begin (N0 : Nat) (K : Nat → Nat) (d C : Nat) (p0 : Nat) (s : cS) (G : gm_H) (sz : Nat) (Q : Int32 → cS → Prop) : Prop := gC wI N0 K d 27 [.ref (C + 5), .ref p0] (bM C (cH C s) G) sz (kQ C (fun r s' G' sz' dd => G' = G ∧ sz' = sz ∧ dd = 0 ∧ Q r s'))
def kX2_inState (N0 : Nat) (K : Nat → Nat) (d C : Nat) (p0 : Nat) (s : cS) (G : gm_H) (sz : Nat) (Q : Int32 → cS → Prop) : Prop := gC wI N0 K d 28 [.ref (C + 5), .ref p0] (bM C (cH C s) G) sz (kQ C (fun r s' G' sz' dd => G' = G ∧ sz' = sz ∧ dd = 0 ∧ Q r s'))
def kX2_byMove (N0 : Nat) (K : Nat → Nat) (d C : Nat) (p0 : Int32) (p1 : Int32) (p2 : Int32) (p3 : Int32) (s : cS) (G : gm_H) (sz : Nat) (Q : Int32 → cS → Prop) : Prop := gC wI N0 K d 29 [.ref (C + 5), .int p0, .int p1, .int p2, .int p3] (bM C (cH C s) G) sz (kQ C (fun r s' G' sz' dd => G' = G ∧ sz' = sz ∧ dd = 0 ∧ Q r s'))
def kX2_close (N0 : Nat) (K : Nat → Nat) (d C : Nat) (p0 : Int32) (s : cS) (G : gm_H) (sz : Nat) (Q : Unit → cS → Prop) : Prop := gC wU N0 K d 30 [.ref (C + 5), .int p0] (bM C (cH C s) G) sz (kQ C (fun r s' G' sz' dd => G' = G ∧ sz' = sz ∧ dd = 0 ∧ Q r s'))
def kX2_isDue (N0 : Nat) (K : Nat → Nat) (d C : Nat) (p0 : Nat) (p1 : Int32) (s : cS) (G : gm_H) (sz : Nat) (Q : Int32 → cS → Prop) : Prop := gC wI N0 K d 31 [.ref (C + 5), .ref p0, .int p1] (bM C (cH C s) G) sz (kQ C (fun r s' G' sz' dd => G' = G ∧ sz' = sz ∧ dd = 0 ∧ Q r s'))
def kX2_join (N0 : Nat) (K : Nat → Nat) (d C : Nat) (p0 : Nat) (p1 : Int32) (s : cS) (G : gm_H) (sz : Nat) (Q : Int32 → cS → Prop) : Prop := gC wI N0 K d 32 [.ref (C + 5), .ref p0, .int p1] (bM C (cH C s) G) sz (kQ C (fun r s' G' sz' dd => G' = G ∧ sz' = sz ∧ dd = 0 ∧ Q r s'))
def kX2_joinEach (N0 : Nat) (K : Nat → Nat) (d C : Nat) (p0 : Nat) (p1 : Int32) (s : cS) (G : gm_H) (sz : Nat) (Q : Int32 → cS → Prop) : Prop := gC wI N0 K d 33 [.ref (C + 5), .ref p0, .int p1] (bM C (cH C s) G) sz (kQ C (fun r s' G' sz' dd => G' = G ∧ sz' = sz ∧ dd = 0 ∧ Q r s'))
def kX2_lowest (N0 : Nat) (K : Nat → Nat) (d C : Nat) (p0 : Int32) (s : cS) (G : gm_H) (sz : Nat) (Q : Int32 → Prop) : Prop := gC wI N0 K d 34 [.ref (C + 5), .int p0] (bM C (cH C s) G) sz (kQ C (fun r s' G' sz' dd => s' = s ∧ G' = G ∧ sz' = sz ∧ dd = 0 ∧ Q r))
def kX2_highest (N0 : Nat) (K : Nat → Nat) (d C : Nat) (p0 : Int32) (s : cS) (G : gm_H) (sz : Nat) (Q : Int32 → Prop) : Prop := gC wI N0 K d 35 [.ref (C + 5), .int p0] (bM C (cH C s) G) sz (kQ C (fun r s' G' sz' dd => s' = s ∧ G' = G ∧ sz' = sz ∧ dd = 0 ∧ Q r))
def kX2_fill (N0 : Nat) (K : Nat → Nat) (d C : Nat) (p0 : Int32) (s : cS) (G : gm_H) (sz : Nat) (Q : Int32 → Prop) : Prop := gC wI N0 K d 36 [.ref (C + 5), .int p0] (bM C (cH C s) G) sz (kQ C (fun r s' G' sz' dd => s' = s ∧ G' = G ∧ sz' = sz ∧ dd = 0 ∧ Q r))
def kX2_fits (N0 : Nat) (K : Nat → Nat) (d C : Nat) (p0 : Int32) (p1 : Int32) (p2 : Int32) (s : cS) (G : gm_H) (sz : Nat) (Q : Int32 → cS → Prop) : Prop := gC wI N0 K d 37 [.ref (C + 5), .int p0, .int p1, .int p2] (bM C (cH C s) G) sz (kQ C (fun r s' G' sz' dd => G' = G ∧ sz' = sz ∧ dd = 0 ∧ Q r s'))
def kX3_isIdle (N0 : Nat) (K : Nat → Nat) (d C : Nat) (s : cS) (G : gm_H) (sz : Nat) (Q : Int32 → Prop) : Prop := gC wI N0 K d 39 [.ref (C + 4)] (bM C (cH C s) G) sz (kQ C (fun r s' G' sz' dd => s' = s ∧ G' = G ∧ sz' = sz ∧ dd = 0 ∧ Q r))
def kX3_take (N0 : Nat) (K : Nat → Nat) (d C : Nat) (p0 : Nat) (s : cS) (G : gm_H) (sz : Nat) (Q : Int32 → cS → Prop) : Prop := gC wI N0 K d 40 [.ref (C + 4), .ref p0] (bM C (cH C s) G) sz (kQ C (fun r s' G' sz' dd => G' = G ∧ sz' = sz ∧ dd = 0 ∧ Q r s'))
def kX3_look (N0 : Nat) (K : Nat → Nat) (d C : Nat) (p0 : Nat) (s : cS) (G : gm_H) (sz : Nat) (Q : Int32 → cS → Prop) : Prop := gC wI N0 K d 41 [.ref (C + 4), .ref p0] (bM C (cH C s) G) sz (kQ C (fun r s' G' sz' dd => G' = G ∧ sz' = sz ∧ dd = 0 ∧ Q r s'))
def kX3_seeMoves (N0 : Nat) (K : Nat → Nat) (d C : Nat) (s : cS) (G : gm_H) (sz : Nat) (Q : Unit → cS → Prop) : Prop := gC wU N0 K d 42 [.ref (C + 4)] (bM C (cH C s) G) sz (kQ C (fun r s' G' sz' dd => G' = G ∧ sz' = sz ∧ dd = 0 ∧ Q r s'))
def kX3_goBack (N0 : Nat) (K : Nat → Nat) (d C : Nat) (s : cS) (G : gm_H) (sz : Nat) (Q : Unit → cS → Prop) : Prop := gC wU N0 K d 43 [.ref (C + 4)] (bM C (cH C s) G) sz (kQ C (fun r s' G' sz' dd => G' = G ∧ sz' = sz ∧ dd = 0 ∧ Q r s'))
def kX3_lead (N0 : Nat) (K : Nat → Nat) (d C : Nat) (p0 : Int32) (p1 : Int32) (s : cS) (G : gm_H) (sz : Nat) (Q : Int32 → cS → Prop) : Prop := gC wI N0 K d 44 [.ref (C + 4), .int p0, .int p1] (bM C (cH C s) G) sz (kQ C (fun r s' G' sz' dd => G' = G ∧ sz' = sz ∧ dd = 0 ∧ Q r s'))
def kX3_advance (N0 : Nat) (K : Nat → Nat) (d C : Nat) (p0 : Int32) (p1 : Int32) (s : cS) (G : gm_H) (sz : Nat) (Q : Int32 → cS → Prop) : Prop := gC wI N0 K d 45 [.ref (C + 4), .int p0, .int p1] (bM C (cH C s) G) sz (kQ C (fun r s' G' sz' dd => G' = G ∧ sz' = sz ∧ dd = 0 ∧ Q r s'))
def kX3_hasPlayer (N0 : Nat) (K : Nat → Nat) (d C : Nat) (p0 : Int32) (s : cS) (G : gm_H) (sz : Nat) (Q : Int32 → Prop) : Prop := gC wI N0 K d 46 [.ref (C + 4), .int p0] (bM C (cH C s) G) sz (kQ C (fun r s' G' sz' dd => s' = s ∧ G' = G ∧ sz' = sz ∧ dd = 0 ∧ Q r))
def kX3_movesOf (N0 : Nat) (K : Nat → Nat) (d C : Nat) (p0 : Int32) (s : cS) (G : gm_H) (sz : Nat) (Q : Nat → Prop) : Prop := gC wR N0 K d 47 [.ref (C + 4), .int p0] (bM C (cH C s) G) sz (kQ C (fun r s' G' sz' dd => s' = s ∧ G' = G ∧ sz' = sz ∧ dd = 0 ∧ Q r))
def kX3_goalOf (N0 : Nat) (K : Nat → Nat) (d C : Nat) (p0 : Int32) (s : cS) (G : gm_H) (sz : Nat) (Q : Int32 → Prop) : Prop := gC wI N0 K d 48 [.ref (C + 4), .int p0] (bM C (cH C s) G) sz (kQ C (fun r s' G' sz' dd => s' = s ∧ G' = G ∧ sz' = sz ∧ dd = 0 ∧ Q r))
def kX6_place (N0 : Nat) (K : Nat → Nat) (d C : Nat) (s : cS) (G : gm_H) (sz : Nat) (Q : Int32 → Prop) : Prop := gC wI N0 K d 61 [.ref (C + 2)] (bM C (cH C s) G) sz (kQ C (fun r s' G' sz' dd => s' = s ∧ G' = G ∧ sz' = sz ∧ dd = 0 ∧ Q r))
def kX6_read (N0 : Nat) (K : Nat → Nat) (d C : Nat) (p1 : Int32) (s : cS) (G : gm_H) (sz : Nat) (Q : Option Nat → cS → gm_H → Nat → Nat → Prop) : Prop := gC wP N0 K d 62 [.ref (C + 2), .ref (C + 1), .int p1] (bM C (cH C s) G) sz (kQ C (fun r s' G' sz' dd => Q r s' G' sz' dd))
def kX6_take (N0 : Nat) (K : Nat → Nat) (d C : Nat) (p0 : Int32) (s : cS) (G : gm_H) (sz : Nat) (Q : Int32 → cS → Prop) : Prop := gC wI N0 K d 63 [.ref (C + 2), .int p0] (bM C (cH C s) G) sz (kQ C (fun r s' G' sz' dd => G' = G ∧ sz' = sz ∧ dd = 0 ∧ Q r s'))
def kX6_readRule (N0 : Nat) (K : Nat → Nat) (d C : Nat) (s : cS) (G : gm_H) (sz : Nat) (Q : Option Nat → cS → gm_H → Nat → Nat → Prop) : Prop := gC wP N0 K d 64 [.ref (C + 2)] (bM C (cH C s) G) sz (kQ C (fun r s' G' sz' dd => Q r s' G' sz' dd))
def kX6_readBody (N0 : Nat) (K : Nat → Nat) (d C : Nat) (p0 : Nat) (s : cS) (G : gm_H) (sz : Nat) (Q : Int32 → cS → gm_H → Nat → Nat → Prop) : Prop := gC wI N0 K d 65 [.ref (C + 2), .ref p0] (bM C (cH C s) G) sz (kQ C (fun r s' G' sz' dd => Q r s' G' sz' dd))
def kX6_readLiteral (N0 : Nat) (K : Nat → Nat) (d C : Nat) (s : cS) (G : gm_H) (sz : Nat) (Q : Option Nat → cS → gm_H → Nat → Nat → Prop) : Prop := gC wP N0 K d 66 [.ref (C + 2)] (bM C (cH C s) G) sz (kQ C (fun r s' G' sz' dd => Q r s' G' sz' dd))
def kX6_readUnlike (N0 : Nat) (K : Nat → Nat) (d C : Nat) (p0 : Int32) (s : cS) (G : gm_H) (sz : Nat) (Q : Option Nat → cS → gm_H → Nat → Nat → Prop) : Prop := gC wP N0 K d 67 [.ref (C + 2), .int p0] (bM C (cH C s) G) sz (kQ C (fun r s' G' sz' dd => Q r s' G' sz' dd))
def kX6_readAtom (N0 : Nat) (K : Nat → Nat) (d C : Nat) (p0 : Int32) (s : cS) (G : gm_H) (sz : Nat) (Q : Option Nat → cS → gm_H → Nat → Nat → Prop) : Prop := gC wP N0 K d 68 [.ref (C + 2), .int p0] (bM C (cH C s) G) sz (kQ C (fun r s' G' sz' dd => Q r s' G' sz' dd))
def kX6_readTerm (N0 : Nat) (K : Nat → Nat) (d C : Nat) (s : cS) (G : gm_H) (sz : Nat) (Q : Int32 → cS → Prop) : Prop := gC wI N0 K d 69 [.ref (C + 2)] (bM C (cH C s) G) sz (kQ C (fun r s' G' sz' dd => G' = G ∧ sz' = sz ∧ dd = 0 ∧ Q r s'))
def kX11_write (N0 : Nat) (K : Nat → Nat) (d C : Nat) (p0 : Int64) (s : cS) (G : gm_H) (sz : Nat) (Q : Int32 → cS → Prop) : Prop := gC wI N0 K d 103 [.ref C, .long p0] (bM C (cH C s) G) sz (kQ C (fun r s' G' sz' dd => G' = G ∧ sz' = sz ∧ dd = 0 ∧ Q r s'))
def kX11_wipe (N0 : Nat) (K : Nat → Nat) (d C : Nat) (s : cS) (G : gm_H) (sz : Nat) (Q : Unit → cS → Prop) : Prop := gC wU N0 K d 104 [.ref C] (bM C (cH C s) G) sz (kQ C (fun r s' G' sz' dd => G' = G ∧ sz' = sz ∧ dd = 0 ∧ Q r s'))
def kX11_load (N0 : Nat) (K : Nat → Nat) (d C : Nat) (s : cS) (G : gm_H) (sz : Nat) (Q : Outcome → cS → gm_H → Nat → Nat → Prop) : Prop := gC wO N0 K d 105 [.ref C] (bM C (cH C s) G) sz (kQ C (fun r s' G' sz' dd => Q r s' G' sz' dd))
def kX11_fault (N0 : Nat) (K : Nat → Nat) (d C : Nat) (p0 : Int32) (s : cS) (G : gm_H) (sz : Nat) (Q : Int32 → Prop) : Prop := gC wI N0 K d 106 [.ref C, .int p0] (bM C (cH C s) G) sz (kQ C (fun r s' G' sz' dd => s' = s ∧ G' = G ∧ sz' = sz ∧ dd = 0 ∧ Q r))
def kX11_many (N0 : Nat) (K : Nat → Nat) (d C : Nat) (p0 : Int32) (s : cS) (G : gm_H) (sz : Nat) (Q : Int32 → Prop) : Prop := gC wI N0 K d 107 [.ref C, .int p0] (bM C (cH C s) G) sz (kQ C (fun r s' G' sz' dd => s' = s ∧ G' = G ∧ sz' = sz ∧ dd = 0 ∧ Q r))
def kX11_facts (N0 : Nat) (K : Nat → Nat) (d C : Nat) (p0 : Int32) (p1 : Int32) (s : cS) (G : gm_H) (sz : Nat) (Q : Int32 → Prop) : Prop := gC wI N0 K d 108 [.ref C, .int p0, .int p1] (bM C (cH C s) G) sz (kQ C (fun r s' G' sz' dd => s' = s ∧ G' = G ∧ sz' = sz ∧ dd = 0 ∧ Q r))
def kX11_moves (N0 : Nat) (K : Nat → Nat) (d C : Nat) (p0 : Int32) (s : cS) (G : gm_H) (sz : Nat) (Q : Int32 → Prop) : Prop := gC wI N0 K d 109 [.ref C, .int p0] (bM C (cH C s) G) sz (kQ C (fun r s' G' sz' dd => s' = s ∧ G' = G ∧ sz' = sz ∧ dd = 0 ∧ Q r))
def kX11_over (N0 : Nat) (K : Nat → Nat) (d C : Nat) (s : cS) (G : gm_H) (sz : Nat) (Q : Int32 → Prop) : Prop := gC wI N0 K d 110 [.ref C] (bM C (cH C s) G) sz (kQ C (fun r s' G' sz' dd => s' = s ∧ G' = G ∧ sz' = sz ∧ dd = 0 ∧ Q r))
def kX11_goal (N0 : Nat) (K : Nat → Nat) (d C : Nat) (p0 : Int32) (s : cS) (G : gm_H) (sz : Nat) (Q : Int32 → Prop) : Prop := gC wI N0 K d 111 [.ref C, .int p0] (bM C (cH C s) G) sz (kQ C (fun r s' G' sz' dd => s' = s ∧ G' = G ∧ sz' = sz ∧ dd = 0 ∧ Q r))
def kX11_letter (N0 : Nat) (K : Nat → Nat) (d C : Nat) (p0 : Int32) (p1 : Int32) (p2 : Int32) (s : cS) (G : gm_H) (sz : Nat) (Q : Int32 → Prop) : Prop := gC wI N0 K d 112 [.ref C, .int p0, .int p1, .int p2] (bM C (cH C s) G) sz (kQ C (fun r s' G' sz' dd => s' = s ∧ G' = G ∧ sz' = sz ∧ dd = 0 ∧ Q r))
def kX11_play (N0 : Nat) (K : Nat → Nat) (d C : Nat) (p0 : Int32) (p1 : Int32) (s : cS) (G : gm_H) (sz : Nat) (Q : Outcome → cS → Nat → Nat → Prop) : Prop := gC wO N0 K d 113 [.ref C, .int p0, .int p1] (bM C (cH C s) G) sz (kQ C (fun r s' G' sz' dd => G' = G ∧ Q r s' sz' dd))
def kX11_restart (N0 : Nat) (K : Nat → Nat) (d C : Nat) (s : cS) (G : gm_H) (sz : Nat) (Q : Int32 → cS → Prop) : Prop := gC wI N0 K d 114 [.ref C] (bM C (cH C s) G) sz (kQ C (fun r s' G' sz' dd => G' = G ∧ sz' = sz ∧ dd = 0 ∧ Q r s'))
def kX11_audit (N0 : Nat) (K : Nat → Nat) (d C : Nat) (s : cS) (G : gm_H) (sz : Nat) (Q : Outcome → cS → gm_H → Nat → Nat → Prop) : Prop := gC wO N0 K d 115 [.ref C] (bM C (cH C s) G) sz (kQ C (fun r s' G' sz' dd => Q r s' G' sz' dd))
def kX11_worth (N0 : Nat) (K : Nat → Nat) (d C : Nat) (s : cS) (G : gm_H) (sz : Nat) (Q : Outcome → cS → gm_H → Nat → Nat → Prop) : Prop := gC wO N0 K d 116 [.ref C] (bM C (cH C s) G) sz (kQ C (fun r s' G' sz' dd => Q r s' G' sz' dd))
def kX11_best (N0 : Nat) (K : Nat → Nat) (d C : Nat) (s : cS) (G : gm_H) (sz : Nat) (Q : Outcome → cS → gm_H → Nat → Nat → Prop) : Prop := gC wO N0 K d 117 [.ref C] (bM C (cH C s) G) sz (kQ C (fun r s' G' sz' dd => Q r s' G' sz' dd))
theorem TX4_init_0 {N0 : Nat} {K : Nat → Nat} {d : Nat} {q : Nat} {p0 : Nat} {M : gm_H} {sz sl : Nat} {Q : Unit → gm_H → Nat → Nat → Prop} (h : (0 < d) ∧ ((gm_bd M sz) ∧ (∃ fso6 : List Value, ((gm_new M sz (.inl (.object "RuleArena$Rule", 24, .inr (.inr (.inr (.inr (fun _ => none))))))) q = some (.inr (4, fso6))) ∧ ((N0 ≤ q) ∧ ((0 < fso6.length) ∧ ((1 < (fso6.set 0 (.ref sz)).length) ∧ ((2 < ((fso6.set 0 (.ref sz)).set 1 (.ref (sz + 1))).length) ∧ (gX4_sort N0 K d p0 (((sz + 1) + 1) + 1) ((((sz + 1) + 1) + 1) + 1) (gm_new (gm_new (gm_set (gm_new (gm_set (gm_new (gm_set (gm_new M sz (.inl (.object "RuleArena$Rule", 24, .inr (.inr (.inr (.inr (fun _ => none))))))) q (.inr (4, (fso6.set 0 (.ref sz))))) (sz + 1) (.inl (.int, 25, .inl (fun _ => 0)))) q (.inr (4, ((fso6.set 0 (.ref sz)).set 1 (.ref (sz + 1)))))) ((sz + 1) + 1) (.inl (.int, 3, .inl (fun _ => 0)))) q (.inr (4, (((fso6.set 0 (.ref sz)).set 1 (.ref (sz + 1))).set 2 (.ref ((sz + 1) + 1)))))) (((sz + 1) + 1) + 1) (.inl (.long, 24, .inr (.inl (fun _ => 0))))) ((((sz + 1) + 1) + 1) + 1) (.inl (.int, 24, .inl (fun _ => 0)))) (((((sz + 1) + 1) + 1) + 1) + 1) (fun _ M54 z54 d54 => hX4_init_50 N0 K d q p0 (((sz + 1) + 1) + 1) ((((sz + 1) + 1) + 1) + 1) (0 : Int32) (0 : Int32) M54 z54 ((((((sl + 24) + 25) + 3) + 24) + 24) + d54) Q))))))))) : hX4_init_0 N0 K d q p0 M sz sl Q := by
  obtain ⟨hd, h⟩ := h
  obtain ⟨bd2, h⟩ := h
  obtain ⟨fso6, ho6, h⟩ := h
  obtain ⟨hNq, h⟩ := h
  obtain ⟨l7, h⟩ := h
  obtain ⟨l17, h⟩ := h
  obtain ⟨l30, h⟩ := h
  obtain ⟨_, M54, z54, d54, t54, h⟩ := h
  obtain ⟨r9, M9, z9, d9, e9, h⟩ := h
  exact ⟨r9, M9, z9, d9, c_X4_init_0__at50 hd bd2 ho6 hNq l7 l17 l30 t54 e9, h⟩
theorem gX4_init.of {N0 : Nat} {K : Nat → Nat} {d : Nat} {q : Nat} {p0 : Nat} {M : gm_H} {sz : Nat} {Q : Unit → gm_H → Nat → Nat → Prop} (h : hX4_init_0 N0 K d q p0 M sz 0 Q) : gX4_init N0 K (d + 1) q p0 M sz Q := gC.of rfl (by decide) (Nat.le_of_ble_eq_true rfl) rfl h
theorem TX4_init_50 {N0 : Nat} {K : Nat → Nat} {d : Nat} {q : Nat} {p0 : Nat} {a2 : Nat} {a3 : Nat} {u4 : Int32} {u5 : Int32} {M : gm_H} {sz sl : Nat} {Q : Unit → gm_H → Nat → Nat → Prop} (h : ∃ fso1 : List Value, (M p0 = some (.inr (8, fso1))) ∧ (∃ x2 : Int32, (fso1[1]? = some (.int x2)) ∧ (if x2 ≤ u5 then (∃ fso5 : List Value, (M q = some (.inr (4, fso5))) ∧ (∃ r6 : Nat, (fso5[1]? = some (.ref r6)) ∧ (∃ na8 : Nat, ∃ fa8 : Nat → Int32, (M r6 = some (.inl (.int, na8, .inl fa8))) ∧ ((na8 < 2 ^ 31) ∧ ((N0 ≤ r6) ∧ (∃ k9 : Nat, (u4 = nI k9) ∧ ((k9 < na8) ∧ (Q () (gm_set M r6 (.inl (.int, na8, .inl (upd fa8 k9 x2)))) sz sl)))))))) else (∃ na5 : Nat, ∃ fa5 : Nat → Int32, (M a3 = some (.inl (.int, na5, .inl fa5))) ∧ ((na5 < 2 ^ 31) ∧ (∃ k6 : Nat, (u5 = nI k6) ∧ ((k6 < na5) ∧ (∃ fso7 : List Value, (M q = some (.inr (4, fso7))) ∧ (∃ r8 : Nat, (fso7[0]? = some (.ref r8)) ∧ (∃ r10 : Nat, (fso1[0]? = some (.ref r10)) ∧ (∃ na12 : Nat, ∃ fa12 : Nat → Option Nat, (M r10 = some (.inl (.object "RuleArena$Rule", na12, .inr (.inr (.inr (.inr fa12)))))) ∧ ((na12 < 2 ^ 31) ∧ (∃ k13 : Nat, ((fa5 k6) = nI k13) ∧ ((k13 < na12) ∧ (∃ r14 : Nat, (fa12 k13 = some r14) ∧ (∃ na15 : Nat, ∃ fa15 : Nat → Option Nat, (M r8 = some (.inl (.object "RuleArena$Rule", na15, .inr (.inr (.inr (.inr fa15)))))) ∧ ((na15 < 2 ^ 31) ∧ ((N0 ≤ r8) ∧ ((k6 < na15) ∧ (∃ fso17 : List Value, (M r14 = some (.inr (7, fso17))) ∧ ((r10 ≠ r8) ∧ (∃ r25 : Nat, ((va_up fa15 k6 (some r14)) k6 = some r25) ∧ (∃ fso26 : List Value, ((gm_set M r8 (.inl (.object "RuleArena$Rule", na15, .inr (.inr (.inr (.inr (va_up fa15 k6 (some r14)))))))) r25 = some (.inr (7, fso26))) ∧ (gX7_plan N0 K d r25 (gm_set M r8 (.inl (.object "RuleArena$Rule", na15, .inr (.inr (.inr (.inr (va_up fa15 k6 (some r14)))))))) sz (fun _ M27 z27 d27 => if u5 = 0 then (∃ fso32 : List Value, (M27 q = some (.inr (4, fso32))) ∧ (∃ r33 : Nat, (fso32[1]? = some (.ref r33)) ∧ (∃ na35 : Nat, ∃ fa35 : Nat → Int32, (M27 r33 = some (.inl (.int, na35, .inl fa35))) ∧ ((na35 < 2 ^ 31) ∧ ((N0 ≤ r33) ∧ (∃ k36 : Nat, (u4 = nI k36) ∧ ((k36 < na35) ∧ (∃ x39 : Int32, (fso32[3]? = some (.int x39)) ∧ (∃ fso41 : List Value, ((gm_set M27 r33 (.inl (.int, na35, .inl (upd fa35 k36 u5)))) p0 = some (.inr (8, fso41))) ∧ (∃ r42 : Nat, (fso41[3]? = some (.ref r42)) ∧ (∃ na44 : Nat, ∃ fa44 : Nat → Int32, ((gm_set M27 r33 (.inl (.int, na35, .inl (upd fa35 k36 u5)))) r42 = some (.inl (.int, na44, .inl fa44))) ∧ ((na44 < 2 ^ 31) ∧ ((k13 < na44) ∧ ((N0 ≤ q) ∧ (gX4_stageOf N0 K d p0 (fa5 k6) (gm_set (gm_set M27 r33 (.inl (.int, na35, .inl (upd fa35 k36 u5)))) q (.inr (4, (fso32.set 3 (.int (x39 ||| ((((((fa44 k13)).toUInt32 >>> (((fa5 k6)).toUInt32 &&& Int32.toUInt32 31)).toInt32) &&& (1 : Int32)) <<< (u4 &&& 31)))))))) z27 (fun r53 M53 z53 d53 => hX4_init_152 N0 K d q p0 a2 a3 (u4 + (1 : Int32)) u5 r53 M53 z53 ((sl + d27) + d53) Q)))))))))))))))) else (∃ na32 : Nat, ∃ fa32 : Nat → Int64, (M27 a2 = some (.inl (.long, na32, .inr (.inl fa32)))) ∧ ((na32 < 2 ^ 31) ∧ ((k6 < na32) ∧ (∃ k34 : Nat, ((u5 - (1 : Int32)) = nI k34) ∧ ((k34 < na32) ∧ (if (lg_cmp (fa32 k6) (fa32 k34)) = 0 then (gX4_stageOf N0 K d p0 (fa5 k6) M27 z27 (fun r37 M37 z37 d37 => hX4_init_152 N0 K d q p0 a2 a3 u4 u5 r37 M37 z37 ((sl + d27) + d37) Q)) else (∃ fso36 : List Value, (M27 q = some (.inr (4, fso36))) ∧ (∃ r37 : Nat, (fso36[1]? = some (.ref r37)) ∧ (∃ na39 : Nat, ∃ fa39 : Nat → Int32, (M27 r37 = some (.inl (.int, na39, .inl fa39))) ∧ ((na39 < 2 ^ 31) ∧ ((N0 ≤ r37) ∧ (∃ k40 : Nat, (u4 = nI k40) ∧ ((k40 < na39) ∧ (∃ x44 : Int32, (fso36[3]? = some (.int x44)) ∧ (∃ fso46 : List Value, ((gm_set M27 r37 (.inl (.int, na39, .inl (upd fa39 k40 u5)))) p0 = some (.inr (8, fso46))) ∧ (∃ r47 : Nat, (fso46[3]? = some (.ref r47)) ∧ (∃ na49 : Nat, ∃ fa49 : Nat → Int32, ((gm_set M27 r37 (.inl (.int, na39, .inl (upd fa39 k40 u5)))) r47 = some (.inl (.int, na49, .inl fa49))) ∧ ((na49 < 2 ^ 31) ∧ ((k13 < na49) ∧ ((N0 ≤ q) ∧ (gX4_stageOf N0 K d p0 (fa5 k6) (gm_set (gm_set M27 r37 (.inl (.int, na39, .inl (upd fa39 k40 u5)))) q (.inr (4, (fso36.set 3 (.int (x44 ||| ((((((fa49 k13)).toUInt32 >>> (((fa5 k6)).toUInt32 &&& Int32.toUInt32 31)).toInt32) &&& (1 : Int32)) <<< (u4 &&& 31)))))))) z27 (fun r59 M59 z59 d59 => hX4_init_152 N0 K d q p0 a2 a3 (u4 + (1 : Int32)) u5 r59 M59 z59 ((sl + d27) + d59) Q))))))))))))))))))))))))))))))))))))))))))))))) : hX4_init_50 N0 K d q p0 a2 a3 u4 u5 M sz sl Q := by
  obtain ⟨fso1, ho1, h⟩ := h
  obtain ⟨x2, f3, h⟩ := h
  by_cases c4 : x2 ≤ u5
  · rw [if_pos c4] at h
    obtain ⟨fso5, ho5, h⟩ := h
    obtain ⟨r6, f7, h⟩ := h
    obtain ⟨na8, fa8, ha8, h⟩ := h
    obtain ⟨ba8, h⟩ := h
    obtain ⟨hNr6, h⟩ := h
    obtain ⟨k9, ek9, h⟩ := h
    obtain ⟨lk9, h⟩ := h
    exact ⟨_, _, _, _, c_X4_init_50_t ho1 f3 c4 ho5 f7 ha8 ba8 hNr6 ek9 lk9, h⟩
  · rw [if_neg c4] at h
    obtain ⟨na5, fa5, ha5, h⟩ := h
    obtain ⟨ba5, h⟩ := h
    obtain ⟨k6, ek6, h⟩ := h
    obtain ⟨lk6, h⟩ := h
    obtain ⟨fso7, ho7, h⟩ := h
    obtain ⟨r8, f9, h⟩ := h
    obtain ⟨r10, f11, h⟩ := h
    obtain ⟨na12, fa12, ha12, h⟩ := h
    obtain ⟨ba12, h⟩ := h
    obtain ⟨k13, ek13, h⟩ := h
    obtain ⟨lk13, h⟩ := h
    obtain ⟨r14, qk13, h⟩ := h
    obtain ⟨na15, fa15, ha15, h⟩ := h
    obtain ⟨ba15, h⟩ := h
    obtain ⟨hNr8, h⟩ := h
    obtain ⟨lk16, h⟩ := h
    obtain ⟨fso17, ho17, h⟩ := h
    obtain ⟨ne_r10_r8, h⟩ := h
    obtain ⟨r25, qk24, h⟩ := h
    obtain ⟨fso26, ho26, h⟩ := h
    obtain ⟨_, M27, z27, d27, t27, h⟩ := h
    by_cases c31 : u5 = 0
    · rw [if_pos c31] at h
      obtain ⟨fso32, ho32, h⟩ := h
      obtain ⟨r33, f34, h⟩ := h
      obtain ⟨na35, fa35, ha35, h⟩ := h
      obtain ⟨ba35, h⟩ := h
      obtain ⟨hNr33, h⟩ := h
      obtain ⟨k36, ek36, h⟩ := h
      obtain ⟨lk36, h⟩ := h
      obtain ⟨x39, f40, h⟩ := h
      obtain ⟨fso41, ho41, h⟩ := h
      obtain ⟨r42, f43, h⟩ := h
      obtain ⟨na44, fa44, ha44, h⟩ := h
      obtain ⟨ba44, h⟩ := h
      obtain ⟨lk45, h⟩ := h
      obtain ⟨hNq, h⟩ := h
      obtain ⟨r53, M53, z53, d53, t53, h⟩ := h
      obtain ⟨r9, M9, z9, d9, e9, h⟩ := h
      exact ⟨r9, M9, z9, d9, c_X4_init_50_ft_at152 ho1 f3 c4 ha5 ba5 ek6 lk6 ho7 f9 f11 ha12 ba12 ek13 lk13 qk13 ha15 ba15 hNr8 ek6 lk16 ho17 ne_r10_r8 ek6 lk16 qk24 ho26 t27 c31 ho32 f34 ha35 ba35 hNr33 ek36 lk36 f40 ho41 f43 ha44 ba44 ek13 lk45 hNq t53 e9, h⟩
    · rw [if_neg c31] at h
      obtain ⟨na32, fa32, ha32, h⟩ := h
      obtain ⟨ba32, h⟩ := h
      obtain ⟨lk33, h⟩ := h
      obtain ⟨k34, ek34, h⟩ := h
      obtain ⟨lk34, h⟩ := h
      by_cases c35 : (lg_cmp (fa32 k6) (fa32 k34)) = 0
      · rw [if_pos c35] at h
        obtain ⟨r37, M37, z37, d37, t37, h⟩ := h
        obtain ⟨r9, M9, z9, d9, e9, h⟩ := h
        exact ⟨r9, M9, z9, d9, c_X4_init_50_fft_at152 ho1 f3 c4 ha5 ba5 ek6 lk6 ho7 f9 f11 ha12 ba12 ek13 lk13 qk13 ha15 ba15 hNr8 ek6 lk16 ho17 ne_r10_r8 ek6 lk16 qk24 ho26 t27 c31 ha32 ba32 ek6 lk33 ek34 lk34 c35 t37 e9, h⟩
      · rw [if_neg c35] at h
        obtain ⟨fso36, ho36, h⟩ := h
        obtain ⟨r37, f38, h⟩ := h
        obtain ⟨na39, fa39, ha39, h⟩ := h
        obtain ⟨ba39, h⟩ := h
        obtain ⟨hNr37, h⟩ := h
        obtain ⟨k40, ek40, h⟩ := h
        obtain ⟨lk40, h⟩ := h
        obtain ⟨x44, f45, h⟩ := h
        obtain ⟨fso46, ho46, h⟩ := h
        obtain ⟨r47, f48, h⟩ := h
        obtain ⟨na49, fa49, ha49, h⟩ := h
        obtain ⟨ba49, h⟩ := h
        obtain ⟨lk50, h⟩ := h
        obtain ⟨hNq, h⟩ := h
        obtain ⟨r59, M59, z59, d59, t59, h⟩ := h
        obtain ⟨r9, M9, z9, d9, e9, h⟩ := h
        exact ⟨r9, M9, z9, d9, c_X4_init_50_fff_at152 ho1 f3 c4 ha5 ba5 ek6 lk6 ho7 f9 f11 ha12 ba12 ek13 lk13 qk13 ha15 ba15 hNr8 ek6 lk16 ho17 ne_r10_r8 ek6 lk16 qk24 ho26 t27 c31 ha32 ba32 ek6 lk33 ek34 lk34 c35 ho36 f38 ha39 ba39 hNr37 ek40 lk40 f45 ho46 f48 ha49 ba49 ek13 lk50 hNq t59 e9, h⟩
theorem TX4_init_152 {N0 : Nat} {K : Nat → Nat} {d : Nat} {q : Nat} {p0 : Nat} {a2 : Nat} {a3 : Nat} {u4 : Int32} {u5 : Int32} {u7 : Int32} {M : gm_H} {sz sl : Nat} {Q : Unit → gm_H → Nat → Nat → Prop} (h : if (3 : Int32) ≤ u7 then (hX4_init_50 N0 K d q p0 a2 a3 u4 (u5 + (1 : Int32)) M sz sl Q) else (∃ fso2 : List Value, (M q = some (.inr (4, fso2))) ∧ (∃ r3 : Nat, (fso2[2]? = some (.ref r3)) ∧ (∃ na5 : Nat, ∃ fa5 : Nat → Int32, (M r3 = some (.inl (.int, na5, .inl fa5))) ∧ ((na5 < 2 ^ 31) ∧ ((N0 ≤ r3) ∧ (∃ k6 : Nat, (u7 = nI k6) ∧ ((k6 < na5) ∧ (hX4_init_152 N0 K d q p0 a2 a3 u4 u5 (u7 + (1 : Int32)) (gm_set M r3 (.inl (.int, na5, .inl (upd fa5 k6 u4)))) sz sl Q))))))))) : hX4_init_152 N0 K d q p0 a2 a3 u4 u5 u7 M sz sl Q := by
  by_cases c1 : (3 : Int32) ≤ u7
  · rw [if_pos c1] at h
    obtain ⟨r9, M9, z9, d9, e9, h⟩ := h
    exact ⟨r9, M9, z9, d9, c_X4_init_152_t_at50 c1 e9, h⟩
  · rw [if_neg c1] at h
    obtain ⟨fso2, ho2, h⟩ := h
    obtain ⟨r3, f4, h⟩ := h
    obtain ⟨na5, fa5, ha5, h⟩ := h
    obtain ⟨ba5, h⟩ := h
    obtain ⟨hNr3, h⟩ := h
    obtain ⟨k6, ek6, h⟩ := h
    obtain ⟨lk6, h⟩ := h
    obtain ⟨r9, M9, z9, d9, e9, h⟩ := h
    exact ⟨r9, M9, z9, d9, c_X4_init_152_f_at152 c1 ho2 f4 ha5 ba5 hNr3 ek6 lk6 e9, h⟩
theorem TX4_sort_0 {N0 : Nat} {K : Nat → Nat} {d : Nat} {p0 : Nat} {p1 : Nat} {p2 : Nat} {M : gm_H} {sz sl : Nat} {Q : Unit → gm_H → Nat → Nat → Prop} (h : hX4_sort_2 N0 K d p0 p1 p2 (0 : Int32) M sz sl Q) : hX4_sort_0 N0 K d p0 p1 p2 M sz sl Q := by
  obtain ⟨r9, M9, z9, d9, e9, h⟩ := h
  exact ⟨r9, M9, z9, d9, c_X4_sort_0__at2  e9, h⟩
theorem gX4_sort.of {N0 : Nat} {K : Nat → Nat} {d : Nat} {p0 : Nat} {p1 : Nat} {p2 : Nat} {M : gm_H} {sz : Nat} {Q : Unit → gm_H → Nat → Nat → Prop} (h : hX4_sort_0 N0 K d p0 p1 p2 M sz 0 Q) : gX4_sort N0 K (d + 1) p0 p1 p2 M sz Q := gC.of rfl (by decide) (Nat.le_of_ble_eq_true rfl) rfl h
theorem TX4_sort_2 {N0 : Nat} {K : Nat → Nat} {d : Nat} {p0 : Nat} {p1 : Nat} {p2 : Nat} {u3 : Int32} {M : gm_H} {sz sl : Nat} {Q : Unit → gm_H → Nat → Nat → Prop} (h : ∃ fso1 : List Value, (M p0 = some (.inr (8, fso1))) ∧ (∃ x2 : Int32, (fso1[1]? = some (.int x2)) ∧ (if x2 ≤ u3 then (Q () M sz sl) else (gX4_keyOf N0 K d p0 u3 M sz (fun r6 M6 z6 d6 => hX4_sort_20 N0 K d p0 p1 p2 u3 r6 u3 M6 z6 (sl + d6) Q))))) : hX4_sort_2 N0 K d p0 p1 p2 u3 M sz sl Q := by
  obtain ⟨fso1, ho1, h⟩ := h
  obtain ⟨x2, f3, h⟩ := h
  by_cases c4 : x2 ≤ u3
  · rw [if_pos c4] at h
    exact ⟨_, _, _, _, c_X4_sort_2_t ho1 f3 c4, h⟩
  · rw [if_neg c4] at h
    obtain ⟨r6, M6, z6, d6, t6, h⟩ := h
    obtain ⟨r9, M9, z9, d9, e9, h⟩ := h
    exact ⟨r9, M9, z9, d9, c_X4_sort_2_f_at20 ho1 f3 c4 t6 e9, h⟩
theorem TX4_sort_20 {N0 : Nat} {K : Nat → Nat} {d : Nat} {p0 : Nat} {p1 : Nat} {p2 : Nat} {u3 : Int32} {y4 : Int64} {u6 : Int32} {M : gm_H} {sz sl : Nat} {Q : Unit → gm_H → Nat → Nat → Prop} (h : if u6 ≤ 0 then (∃ na2 : Nat, ∃ fa2 : Nat → Int64, (M p1 = some (.inl (.long, na2, .inr (.inl fa2)))) ∧ ((na2 < 2 ^ 31) ∧ ((N0 ≤ p1) ∧ (∃ k3 : Nat, (u6 = nI k3) ∧ ((k3 < na2) ∧ (∃ na5 : Nat, ∃ fa5 : Nat → Int32, ((gm_set M p1 (.inl (.long, na2, .inr (.inl (vp_updL fa2 k3 y4))))) p2 = some (.inl (.int, na5, .inl fa5))) ∧ ((na5 < 2 ^ 31) ∧ ((N0 ≤ p2) ∧ ((k3 < na5) ∧ (hX4_sort_2 N0 K d p0 p1 p2 (u3 + (1 : Int32)) (gm_set (gm_set M p1 (.inl (.long, na2, .inr (.inl (vp_updL fa2 k3 y4))))) p2 (.inl (.int, na5, .inl (upd fa5 k3 u3)))) sz sl Q)))))))))) else (∃ na2 : Nat, ∃ fa2 : Nat → Int64, (M p1 = some (.inl (.long, na2, .inr (.inl fa2)))) ∧ ((na2 < 2 ^ 31) ∧ (∃ k3 : Nat, ((u6 - (1 : Int32)) = nI k3) ∧ ((k3 < na2) ∧ (if (lg_cmp (fa2 k3) y4) ≤ 0 then ((N0 ≤ p1) ∧ (∃ k5 : Nat, (u6 = nI k5) ∧ ((k5 < na2) ∧ (∃ na7 : Nat, ∃ fa7 : Nat → Int32, ((gm_set M p1 (.inl (.long, na2, .inr (.inl (vp_updL fa2 k5 y4))))) p2 = some (.inl (.int, na7, .inl fa7))) ∧ ((na7 < 2 ^ 31) ∧ ((N0 ≤ p2) ∧ ((k5 < na7) ∧ (hX4_sort_2 N0 K d p0 p1 p2 (u3 + (1 : Int32)) (gm_set (gm_set M p1 (.inl (.long, na2, .inr (.inl (vp_updL fa2 k5 y4))))) p2 (.inl (.int, na7, .inl (upd fa7 k5 u3)))) sz sl Q)))))))) else ((N0 ≤ p1) ∧ (∃ k6 : Nat, (u6 = nI k6) ∧ ((k6 < na2) ∧ (∃ na8 : Nat, ∃ fa8 : Nat → Int32, ((gm_set M p1 (.inl (.long, na2, .inr (.inl (vp_updL fa2 k6 (fa2 k3)))))) p2 = some (.inl (.int, na8, .inl fa8))) ∧ ((na8 < 2 ^ 31) ∧ ((k3 < na8) ∧ ((N0 ≤ p2) ∧ ((k6 < na8) ∧ (hX4_sort_20 N0 K d p0 p1 p2 u3 y4 (u6 + (-1 : Int32)) (gm_set (gm_set M p1 (.inl (.long, na2, .inr (.inl (vp_updL fa2 k6 (fa2 k3)))))) p2 (.inl (.int, na8, .inl (upd fa8 k6 (fa8 k3))))) sz sl Q))))))))))))))) : hX4_sort_20 N0 K d p0 p1 p2 u3 y4 u6 M sz sl Q := by
  by_cases c1 : u6 ≤ 0
  · rw [if_pos c1] at h
    obtain ⟨na2, fa2, ha2, h⟩ := h
    obtain ⟨ba2, h⟩ := h
    obtain ⟨hNp1, h⟩ := h
    obtain ⟨k3, ek3, h⟩ := h
    obtain ⟨lk3, h⟩ := h
    obtain ⟨na5, fa5, ha5, h⟩ := h
    obtain ⟨ba5, h⟩ := h
    obtain ⟨hNp2, h⟩ := h
    obtain ⟨lk6, h⟩ := h
    obtain ⟨r9, M9, z9, d9, e9, h⟩ := h
    exact ⟨r9, M9, z9, d9, c_X4_sort_20_t_at2 c1 ha2 ba2 hNp1 ek3 lk3 ha5 ba5 hNp2 ek3 lk6 e9, h⟩
  · rw [if_neg c1] at h
    obtain ⟨na2, fa2, ha2, h⟩ := h
    obtain ⟨ba2, h⟩ := h
    obtain ⟨k3, ek3, h⟩ := h
    obtain ⟨lk3, h⟩ := h
    by_cases c4 : (lg_cmp (fa2 k3) y4) ≤ 0
    · rw [if_pos c4] at h
      obtain ⟨hNp1, h⟩ := h
      obtain ⟨k5, ek5, h⟩ := h
      obtain ⟨lk5, h⟩ := h
      obtain ⟨na7, fa7, ha7, h⟩ := h
      obtain ⟨ba7, h⟩ := h
      obtain ⟨hNp2, h⟩ := h
      obtain ⟨lk8, h⟩ := h
      obtain ⟨r9, M9, z9, d9, e9, h⟩ := h
      exact ⟨r9, M9, z9, d9, c_X4_sort_20_ft_at2 c1 ha2 ba2 ek3 lk3 c4 hNp1 ek5 lk5 ha7 ba7 hNp2 ek5 lk8 e9, h⟩
    · rw [if_neg c4] at h
      obtain ⟨hNp1, h⟩ := h
      obtain ⟨k6, ek6, h⟩ := h
      obtain ⟨lk6, h⟩ := h
      obtain ⟨na8, fa8, ha8, h⟩ := h
      obtain ⟨ba8, h⟩ := h
      obtain ⟨lk9, h⟩ := h
      obtain ⟨hNp2, h⟩ := h
      obtain ⟨lk10, h⟩ := h
      obtain ⟨r9, M9, z9, d9, e9, h⟩ := h
      exact ⟨r9, M9, z9, d9, c_X4_sort_20_ff_at20 c1 ha2 ba2 ek3 lk3 c4 ek3 lk3 hNp1 ek6 lk6 ha8 ba8 ek3 lk9 hNp2 ek6 lk10 e9, h⟩
theorem TX4_keyOf_0 {N0 : Nat} {K : Nat → Nat} {d : Nat} {p0 : Nat} {p1 : Int32} {M : gm_H} {sz sl : Nat} {Q : Int64 → gm_H → Nat → Nat → Prop} (h : ∃ fso1 : List Value, (M p0 = some (.inr (8, fso1))) ∧ (∃ r2 : Nat, (fso1[2]? = some (.ref r2)) ∧ (∃ na4 : Nat, ∃ fa4 : Nat → Int32, (M r2 = some (.inl (.int, na4, .inl fa4))) ∧ ((na4 < 2 ^ 31) ∧ (∃ k5 : Nat, (p1 = nI k5) ∧ ((k5 < na4) ∧ (∃ r6 : Nat, (fso1[3]? = some (.ref r6)) ∧ (∃ na8 : Nat, ∃ fa8 : Nat → Int32, (M r6 = some (.inl (.int, na8, .inl fa8))) ∧ ((na8 < 2 ^ 31) ∧ ((k5 < na8) ∧ (gX4_stageOf N0 K d p0 p1 M sz (fun r11 M11 z11 d11 => gJ6_bitCount_0f7a4 N0 K d ((fa4 k5) ||| (fa8 k5)) M11 z11 (fun r16 M16 z16 d16 => Q (((r11.toInt64 <<< (((40 : Int32)).toInt64 &&& 63)) ||| (r16.toInt64 <<< (((32 : Int32)).toInt64 &&& 63))) ||| (((fa4 k5) ||| (fa8 k5)).toInt64)) M16 z16 ((sl + d11) + d16)))))))))))))) : hX4_keyOf_0 N0 K d p0 p1 M sz sl Q := by
  obtain ⟨fso1, ho1, h⟩ := h
  obtain ⟨r2, f3, h⟩ := h
  obtain ⟨na4, fa4, ha4, h⟩ := h
  obtain ⟨ba4, h⟩ := h
  obtain ⟨k5, ek5, h⟩ := h
  obtain ⟨lk5, h⟩ := h
  obtain ⟨r6, f7, h⟩ := h
  obtain ⟨na8, fa8, ha8, h⟩ := h
  obtain ⟨ba8, h⟩ := h
  obtain ⟨lk9, h⟩ := h
  obtain ⟨r11, M11, z11, d11, t11, h⟩ := h
  obtain ⟨r16, M16, z16, d16, t16, h⟩ := h
  exact ⟨_, _, _, _, c_X4_keyOf_0_ ho1 f3 ha4 ba4 ek5 lk5 f7 ha8 ba8 ek5 lk9 t11 t16, h⟩
theorem gX4_keyOf.of {N0 : Nat} {K : Nat → Nat} {d : Nat} {p0 : Nat} {p1 : Int32} {M : gm_H} {sz : Nat} {Q : Int64 → gm_H → Nat → Nat → Prop} (h : hX4_keyOf_0 N0 K d p0 p1 M sz 0 Q) : gX4_keyOf N0 K (d + 1) p0 p1 M sz Q := gC.of rfl (by decide) (Nat.le_of_ble_eq_true rfl) rfl h
theorem TX4_stageOf_0 {N0 : Nat} {K : Nat → Nat} {d : Nat} {p0 : Nat} {p1 : Int32} {M : gm_H} {sz sl : Nat} {Q : Int32 → Prop} (h : ∃ fso1 : List Value, (M p0 = some (.inr (8, fso1))) ∧ (∃ r2 : Nat, (fso1[4]? = some (.ref r2)) ∧ (∃ na4 : Nat, ∃ fa4 : Nat → Int32, (M r2 = some (.inl (.int, na4, .inl fa4))) ∧ ((na4 < 2 ^ 31) ∧ (∃ k5 : Nat, (p1 = nI k5) ∧ ((k5 < na4) ∧ (if ((fa4 k5) &&& (16 : Int32)) = 0 then (if ((fa4 k5) &&& (4 : Int32)) = 0 then (Q (0 : Int32)) else (Q (1 : Int32))) else (Q (2 : Int32))))))))) : hX4_stageOf_0 N0 K d p0 p1 M sz sl Q := by
  obtain ⟨fso1, ho1, h⟩ := h
  obtain ⟨r2, f3, h⟩ := h
  obtain ⟨na4, fa4, ha4, h⟩ := h
  obtain ⟨ba4, h⟩ := h
  obtain ⟨k5, ek5, h⟩ := h
  obtain ⟨lk5, h⟩ := h
  by_cases c6 : ((fa4 k5) &&& (16 : Int32)) = 0
  · rw [if_pos c6] at h
    by_cases c8 : ((fa4 k5) &&& (4 : Int32)) = 0
    · rw [if_pos c8] at h
      exact ⟨_, _, _, _, c_X4_stageOf_0_tt ho1 f3 ha4 ba4 ek5 lk5 c6 ek5 lk5 c8, rfl, rfl, rfl, h⟩
    · rw [if_neg c8] at h
      exact ⟨_, _, _, _, c_X4_stageOf_0_tf ho1 f3 ha4 ba4 ek5 lk5 c6 ek5 lk5 c8, rfl, rfl, rfl, h⟩
  · rw [if_neg c6] at h
    exact ⟨_, _, _, _, c_X4_stageOf_0_f ho1 f3 ha4 ba4 ek5 lk5 c6, rfl, rfl, rfl, h⟩
theorem gX4_stageOf.of {N0 : Nat} {K : Nat → Nat} {d : Nat} {p0 : Nat} {p1 : Int32} {M : gm_H} {sz : Nat} {Q : Int32 → Prop} (h : hX4_stageOf_0 N0 K d p0 p1 M sz 0 Q) : gX4_stageOf N0 K (d + 1) p0 p1 M sz (fun r M' sz' dd => M' = M ∧ sz' = sz ∧ dd = 0 ∧ Q r) := gC.of rfl (by decide) (Nat.le_of_ble_eq_true rfl) rfl h
theorem TX4_isRecursive_0 {N0 : Nat} {K : Nat → Nat} {d : Nat} {q : Nat} {p0 : Int32} {M : gm_H} {sz sl : Nat} {Q : Int32 → Prop} (h : ∃ fso1 : List Value, (M q = some (.inr (4, fso1))) ∧ (∃ x2 : Int32, (fso1[3]? = some (.int x2)) ∧ (if ((((x2).toUInt32 >>> ((p0).toUInt32 &&& Int32.toUInt32 31)).toInt32) &&& (1 : Int32)) = 0 then (Q (0 : Int32)) else (Q (1 : Int32))))) : hX4_isRecursive_0 N0 K d q p0 M sz sl Q := by
  obtain ⟨fso1, ho1, h⟩ := h
  obtain ⟨x2, f3, h⟩ := h
  by_cases c4 : ((((x2).toUInt32 >>> ((p0).toUInt32 &&& Int32.toUInt32 31)).toInt32) &&& (1 : Int32)) = 0
  · rw [if_pos c4] at h
    exact ⟨_, _, _, _, c_X4_isRecursive_0_t ho1 f3 c4, rfl, rfl, rfl, h⟩
  · rw [if_neg c4] at h
    exact ⟨_, _, _, _, c_X4_isRecursive_0_f ho1 f3 c4, rfl, rfl, rfl, h⟩
theorem gX4_isRecursive.of {N0 : Nat} {K : Nat → Nat} {d : Nat} {q : Nat} {p0 : Int32} {M : gm_H} {sz : Nat} {Q : Int32 → Prop} (h : hX4_isRecursive_0 N0 K d q p0 M sz 0 Q) : gX4_isRecursive N0 K (d + 1) q p0 M sz (fun r M' sz' dd => M' = M ∧ sz' = sz ∧ dd = 0 ∧ Q r) := gC.of rfl (by decide) (Nat.le_of_ble_eq_true rfl) rfl h
theorem TX5_init_0 {N0 : Nat} {K : Nat → Nat} {d : Nat} {q : Nat} {p0 : Int32} {p1 : Int32} {p2 : Int32} {p3 : Int32} {p4 : Int32} {M : gm_H} {sz sl : Nat} {Q : Unit → gm_H → Nat → Nat → Prop} (h : (0 < d) ∧ (∃ fso2 : List Value, (M q = some (.inr (5, fso2))) ∧ ((N0 ≤ q) ∧ ((0 < fso2.length) ∧ ((1 < (fso2.set 0 (.int p0)).length) ∧ ((2 < ((fso2.set 0 (.int p0)).set 1 (.int p1)).length) ∧ ((3 < (((fso2.set 0 (.int p0)).set 1 (.int p1)).set 2 (.int p2)).length) ∧ ((4 < ((((fso2.set 0 (.int p0)).set 1 (.int p1)).set 2 (.int p2)).set 3 (.int p3)).length) ∧ (Q () (gm_set (gm_set (gm_set (gm_set (gm_set M q (.inr (5, (fso2.set 0 (.int p0))))) q (.inr (5, ((fso2.set 0 (.int p0)).set 1 (.int p1))))) q (.inr (5, (((fso2.set 0 (.int p0)).set 1 (.int p1)).set 2 (.int p2))))) q (.inr (5, ((((fso2.set 0 (.int p0)).set 1 (.int p1)).set 2 (.int p2)).set 3 (.int p3))))) q (.inr (5, (((((fso2.set 0 (.int p0)).set 1 (.int p1)).set 2 (.int p2)).set 3 (.int p3)).set 4 (.int p4))))) sz sl))))))))) : hX5_init_0 N0 K d q p0 p1 p2 p3 p4 M sz sl Q := by
  obtain ⟨hd, h⟩ := h
  obtain ⟨fso2, ho2, h⟩ := h
  obtain ⟨hNq, h⟩ := h
  obtain ⟨l3, h⟩ := h
  obtain ⟨l6, h⟩ := h
  obtain ⟨l10, h⟩ := h
  obtain ⟨l15, h⟩ := h
  obtain ⟨l21, h⟩ := h
  exact ⟨_, _, _, _, c_X5_init_0_ hd ho2 hNq l3 l6 l10 l15 l21, h⟩
theorem gX5_init.of {N0 : Nat} {K : Nat → Nat} {d : Nat} {q : Nat} {p0 : Int32} {p1 : Int32} {p2 : Int32} {p3 : Int32} {p4 : Int32} {M : gm_H} {sz : Nat} {Q : Unit → gm_H → Nat → Nat → Prop} (h : hX5_init_0 N0 K d q p0 p1 p2 p3 p4 M sz 0 Q) : gX5_init N0 K (d + 1) q p0 p1 p2 p3 p4 M sz Q := gC.of rfl (by decide) (Nat.le_of_ble_eq_true rfl) rfl h
theorem TX5_relationOf_0 {N0 : Nat} {K : Nat → Nat} {d : Nat} {p0 : Int32} {p1 : Int32} {M : gm_H} {sz sl : Nat} {Q : Int32 → gm_H → Nat → Nat → Prop} (h : (0 < d) ∧ (if (gm_ix p0) < 0 then (gX9_isLetter N0 K d p0 M sz (fun r5 M5 z5 d5 => if r5 = 0 then (Q (-1 : Int32) M5 z5 (sl + d5)) else (if p1 < 0 then (Q (-1 : Int32) M5 z5 (sl + d5)) else (if p1 ≤ (3 : Int32) then (Q (((8 : Int32) + ((p0 - (97 : Int32)) * (4 : Int32))) + p1) M5 z5 (sl + d5)) else (Q (-1 : Int32) M5 z5 (sl + d5)))))) else (∃ na4 : Nat, ∃ fa4 : Nat → Int32, (M (K 0) = some (.inl (gm_scr, na4, .inl fa4))) ∧ ((na4 < 2 ^ 31) ∧ (∃ k5 : Nat, ((gm_ix p0) = nI k5) ∧ ((k5 < na4) ∧ (if (fa4 k5) = p1 then (Q (gm_ix p0) M sz sl) else (Q (-1 : Int32) M sz sl)))))))) : hX5_relationOf_0 N0 K d p0 p1 M sz sl Q := by
  obtain ⟨hd, h⟩ := h
  by_cases c3 : (gm_ix p0) < 0
  · rw [if_pos c3] at h
    obtain ⟨r5, M5, z5, d5, t5, h⟩ := h
    by_cases c9 : r5 = 0
    · rw [if_pos c9] at h
      exact ⟨_, _, _, _, c_X5_relationOf_0_tt hd c3 t5 c9, h⟩
    · rw [if_neg c9] at h
      by_cases c10 : p1 < 0
      · rw [if_pos c10] at h
        exact ⟨_, _, _, _, c_X5_relationOf_0_tft hd c3 t5 c9 c10, h⟩
      · rw [if_neg c10] at h
        by_cases c11 : p1 ≤ (3 : Int32)
        · rw [if_pos c11] at h
          exact ⟨_, _, _, _, c_X5_relationOf_0_tfft hd c3 t5 c9 c10 c11, h⟩
        · rw [if_neg c11] at h
          exact ⟨_, _, _, _, c_X5_relationOf_0_tfff hd c3 t5 c9 c10 c11, h⟩
  · rw [if_neg c3] at h
    obtain ⟨na4, fa4, ha4, h⟩ := h
    obtain ⟨ba4, h⟩ := h
    obtain ⟨k5, ek5, h⟩ := h
    obtain ⟨lk5, h⟩ := h
    by_cases c6 : (fa4 k5) = p1
    · rw [if_pos c6] at h
      exact ⟨_, _, _, _, c_X5_relationOf_0_ff hd c3 ha4 ba4 ek5 lk5 c6, h⟩
    · rw [if_neg c6] at h
      exact ⟨_, _, _, _, c_X5_relationOf_0_ft hd c3 ha4 ba4 ek5 lk5 c6, h⟩
theorem gX5_relationOf.of {N0 : Nat} {K : Nat → Nat} {d : Nat} {p0 : Int32} {p1 : Int32} {M : gm_H} {sz : Nat} {Q : Int32 → gm_H → Nat → Nat → Prop} (h : hX5_relationOf_0 N0 K d p0 p1 M sz 0 Q) : gX5_relationOf N0 K (d + 1) p0 p1 M sz Q := gC.of rfl (by decide) (Nat.le_of_ble_eq_true rfl) rfl h
theorem TX5_variables_0 {N0 : Nat} {K : Nat → Nat} {d : Nat} {q : Nat} {M : gm_H} {sz sl : Nat} {Q : Int32 → gm_H → Nat → Nat → Prop} (h : ∃ fso1 : List Value, (M q = some (.inr (5, fso1))) ∧ (∃ x2 : Int32, (fso1[2]? = some (.int x2)) ∧ (gX9_variables N0 K d x2 M sz (fun r5 M5 z5 d5 => ∃ fso9 : List Value, (M5 q = some (.inr (5, fso9))) ∧ (∃ x10 : Int32, (fso9[3]? = some (.int x10)) ∧ (gX9_variables N0 K d x10 M5 z5 (fun r13 M13 z13 d13 => ∃ fso17 : List Value, (M13 q = some (.inr (5, fso17))) ∧ (∃ x18 : Int32, (fso17[4]? = some (.int x18)) ∧ (gX9_variables N0 K d x18 M13 z13 (fun r21 M21 z21 d21 => Q ((r5 ||| r13) ||| r21) M21 z21 (((sl + d5) + d13) + d21))))))))))) : hX5_variables_0 N0 K d q M sz sl Q := by
  obtain ⟨fso1, ho1, h⟩ := h
  obtain ⟨x2, f3, h⟩ := h
  obtain ⟨r5, M5, z5, d5, t5, h⟩ := h
  obtain ⟨fso9, ho9, h⟩ := h
  obtain ⟨x10, f11, h⟩ := h
  obtain ⟨r13, M13, z13, d13, t13, h⟩ := h
  obtain ⟨fso17, ho17, h⟩ := h
  obtain ⟨x18, f19, h⟩ := h
  obtain ⟨r21, M21, z21, d21, t21, h⟩ := h
  exact ⟨_, _, _, _, c_X5_variables_0_ ho1 f3 t5 ho9 f11 t13 ho17 f19 t21, h⟩
theorem gX5_variables.of {N0 : Nat} {K : Nat → Nat} {d : Nat} {q : Nat} {M : gm_H} {sz : Nat} {Q : Int32 → gm_H → Nat → Nat → Prop} (h : hX5_variables_0 N0 K d q M sz 0 Q) : gX5_variables N0 K (d + 1) q M sz Q := gC.of rfl (by decide) (Nat.le_of_ble_eq_true rfl) rfl h
theorem TX5_partVariables_0 {N0 : Nat} {K : Nat → Nat} {d : Nat} {q : Nat} {M : gm_H} {sz sl : Nat} {Q : Int32 → gm_H → Nat → Nat → Prop} (h : ∃ fso1 : List Value, (M q = some (.inr (5, fso1))) ∧ (∃ x2 : Int32, (fso1[2]? = some (.int x2)) ∧ (gX9_variables N0 K d (x2 &&& (2097151 : Int32)) M sz (fun r5 M5 z5 d5 => ∃ fso9 : List Value, (M5 q = some (.inr (5, fso9))) ∧ (∃ x10 : Int32, (fso9[3]? = some (.int x10)) ∧ (gX9_variables N0 K d (x10 &&& (2097151 : Int32)) M5 z5 (fun r13 M13 z13 d13 => ∃ fso17 : List Value, (M13 q = some (.inr (5, fso17))) ∧ (∃ x18 : Int32, (fso17[4]? = some (.int x18)) ∧ (gX9_variables N0 K d (x18 &&& (2097151 : Int32)) M13 z13 (fun r21 M21 z21 d21 => Q ((r5 ||| r13) ||| r21) M21 z21 (((sl + d5) + d13) + d21))))))))))) : hX5_partVariables_0 N0 K d q M sz sl Q := by
  obtain ⟨fso1, ho1, h⟩ := h
  obtain ⟨x2, f3, h⟩ := h
  obtain ⟨r5, M5, z5, d5, t5, h⟩ := h
  obtain ⟨fso9, ho9, h⟩ := h
  obtain ⟨x10, f11, h⟩ := h
  obtain ⟨r13, M13, z13, d13, t13, h⟩ := h
  obtain ⟨fso17, ho17, h⟩ := h
  obtain ⟨x18, f19, h⟩ := h
  obtain ⟨r21, M21, z21, d21, t21, h⟩ := h
  exact ⟨_, _, _, _, c_X5_partVariables_0_ ho1 f3 t5 ho9 f11 t13 ho17 f19 t21, h⟩
theorem gX5_partVariables.of {N0 : Nat} {K : Nat → Nat} {d : Nat} {q : Nat} {M : gm_H} {sz : Nat} {Q : Int32 → gm_H → Nat → Nat → Prop} (h : hX5_partVariables_0 N0 K d q M sz 0 Q) : gX5_partVariables N0 K (d + 1) q M sz Q := gC.of rfl (by decide) (Nat.le_of_ble_eq_true rfl) rfl h
theorem TX5_asTerm_0 {N0 : Nat} {K : Nat → Nat} {d : Nat} {q : Nat} {M : gm_H} {sz sl : Nat} {Q : Int32 → Prop} (h : ∃ fso1 : List Value, (M q = some (.inr (5, fso1))) ∧ (∃ x2 : Int32, (fso1[1]? = some (.int x2)) ∧ (if x2 < (8 : Int32) then (Q (0 : Int32)) else (∃ x5 : Int32, (fso1[2]? = some (.int x5)) ∧ (∃ x7 : Int32, (fso1[3]? = some (.int x7)) ∧ (∃ x9 : Int32, (fso1[4]? = some (.int x9)) ∧ (if (((x5 ||| x7) ||| x9) &&& (2097151 : Int32)) = 0 then (Q ((((((97 : Int32) + ((x2 - (8 : Int32)) / (4 : Int32))) <<< ((21 : Int32) &&& 31)) ||| (((x5).toUInt32 >>> (((7 : Int32)).toUInt32 &&& Int32.toUInt32 31)).toInt32)) ||| (((x7).toUInt32 >>> (((14 : Int32)).toUInt32 &&& Int32.toUInt32 31)).toInt32)) ||| (((x9).toUInt32 >>> (((21 : Int32)).toUInt32 &&& Int32.toUInt32 31)).toInt32))) else (Q (0 : Int32))))))))) : hX5_asTerm_0 N0 K d q M sz sl Q := by
  obtain ⟨fso1, ho1, h⟩ := h
  obtain ⟨x2, f3, h⟩ := h
  by_cases c4 : x2 < (8 : Int32)
  · rw [if_pos c4] at h
    exact ⟨_, _, _, _, c_X5_asTerm_0_t ho1 f3 c4, rfl, rfl, rfl, h⟩
  · rw [if_neg c4] at h
    obtain ⟨x5, f6, h⟩ := h
    obtain ⟨x7, f8, h⟩ := h
    obtain ⟨x9, f10, h⟩ := h
    by_cases c11 : (((x5 ||| x7) ||| x9) &&& (2097151 : Int32)) = 0
    · rw [if_pos c11] at h
      exact ⟨_, _, _, _, c_X5_asTerm_0_ft ho1 f3 c4 f6 f8 f10 c11, rfl, rfl, rfl, h⟩
    · rw [if_neg c11] at h
      exact ⟨_, _, _, _, c_X5_asTerm_0_ff ho1 f3 c4 f6 f8 f10 c11, rfl, rfl, rfl, h⟩
theorem gX5_asTerm.of {N0 : Nat} {K : Nat → Nat} {d : Nat} {q : Nat} {M : gm_H} {sz : Nat} {Q : Int32 → Prop} (h : hX5_asTerm_0 N0 K d q M sz 0 Q) : gX5_asTerm N0 K (d + 1) q M sz (fun r M' sz' dd => M' = M ∧ sz' = sz ∧ dd = 0 ∧ Q r) := gC.of rfl (by decide) (Nat.le_of_ble_eq_true rfl) rfl h
theorem TX5_plan_0 {N0 : Nat} {K : Nat → Nat} {d : Nat} {q : Nat} {p0 : Int32} {M : gm_H} {sz sl : Nat} {Q : Unit → gm_H → Nat → Nat → Prop} (h : ∃ fso1 : List Value, (M q = some (.inr (5, fso1))) ∧ (∃ x2 : Int32, (fso1[2]? = some (.int x2)) ∧ (gX9_variables N0 K d x2 M sz (fun r5 M5 z5 d5 => ∃ fso9 : List Value, (M5 q = some (.inr (5, fso9))) ∧ (∃ x10 : Int32, (fso9[3]? = some (.int x10)) ∧ (gX9_variables N0 K d x10 M5 z5 (fun r13 M13 z13 d13 => ∃ fso17 : List Value, (M13 q = some (.inr (5, fso17))) ∧ (∃ x18 : Int32, (fso17[2]? = some (.int x18)) ∧ (gX9_plan N0 K d x18 p0 M13 z13 (fun r21 M21 z21 d21 => ∃ fso25 : List Value, (M21 q = some (.inr (5, fso25))) ∧ ((N0 ≤ q) ∧ ((2 < fso25.length) ∧ (∃ x29 : Int32, ((fso25.set 2 (.int r21))[3]? = some (.int x29)) ∧ (gX9_plan N0 K d x29 (p0 &&& (r5 ^^^ (-1 : Int32))) (gm_set M21 q (.inr (5, (fso25.set 2 (.int r21))))) z21 (fun r32 M32 z32 d32 => ∃ fso36 : List Value, (M32 q = some (.inr (5, fso36))) ∧ ((3 < fso36.length) ∧ (∃ x40 : Int32, ((fso36.set 3 (.int r32))[4]? = some (.int x40)) ∧ (gX9_plan N0 K d x40 ((p0 &&& (r5 ^^^ (-1 : Int32))) &&& (r13 ^^^ (-1 : Int32))) (gm_set M32 q (.inr (5, (fso36.set 3 (.int r32))))) z32 (fun r43 M43 z43 d43 => ∃ fso47 : List Value, (M43 q = some (.inr (5, fso47))) ∧ ((4 < fso47.length) ∧ (Q () (gm_set M43 q (.inr (5, (fso47.set 4 (.int r43))))) z43 (((((sl + d5) + d13) + d21) + d32) + d43)))))))))))))))))))))) : hX5_plan_0 N0 K d q p0 M sz sl Q := by
  obtain ⟨fso1, ho1, h⟩ := h
  obtain ⟨x2, f3, h⟩ := h
  obtain ⟨r5, M5, z5, d5, t5, h⟩ := h
  obtain ⟨fso9, ho9, h⟩ := h
  obtain ⟨x10, f11, h⟩ := h
  obtain ⟨r13, M13, z13, d13, t13, h⟩ := h
  obtain ⟨fso17, ho17, h⟩ := h
  obtain ⟨x18, f19, h⟩ := h
  obtain ⟨r21, M21, z21, d21, t21, h⟩ := h
  obtain ⟨fso25, ho25, h⟩ := h
  obtain ⟨hNq, h⟩ := h
  obtain ⟨l26, h⟩ := h
  obtain ⟨x29, f30, h⟩ := h
  obtain ⟨r32, M32, z32, d32, t32, h⟩ := h
  obtain ⟨fso36, ho36, h⟩ := h
  obtain ⟨l37, h⟩ := h
  obtain ⟨x40, f41, h⟩ := h
  obtain ⟨r43, M43, z43, d43, t43, h⟩ := h
  obtain ⟨fso47, ho47, h⟩ := h
  obtain ⟨l48, h⟩ := h
  exact ⟨_, _, _, _, c_X5_plan_0_ ho1 f3 t5 ho9 f11 t13 ho17 f19 t21 ho25 hNq l26 f30 t32 ho36 l37 f41 t43 ho47 l48, h⟩
theorem gX5_plan.of {N0 : Nat} {K : Nat → Nat} {d : Nat} {q : Nat} {p0 : Int32} {M : gm_H} {sz : Nat} {Q : Unit → gm_H → Nat → Nat → Prop} (h : hX5_plan_0 N0 K d q p0 M sz 0 Q) : gX5_plan N0 K (d + 1) q p0 M sz Q := gC.of rfl (by decide) (Nat.le_of_ble_eq_true rfl) rfl h
theorem TX7_init_0 {N0 : Nat} {K : Nat → Nat} {d : Nat} {q : Nat} {p0 : Nat} {M : gm_H} {sz sl : Nat} {Q : Unit → gm_H → Nat → Nat → Prop} (h : (0 < d) ∧ ((gm_bd M sz) ∧ (∃ fso6 : List Value, ((gm_new M sz (.inl (.object "RuleArena$Literal", 5, .inr (.inr (.inr (.inr (fun _ => none))))))) q = some (.inr (7, fso6))) ∧ ((N0 ≤ q) ∧ ((1 < fso6.length) ∧ ((0 < (fso6.set 1 (.ref sz)).length) ∧ (Q () (gm_set (gm_set (gm_new M sz (.inl (.object "RuleArena$Literal", 5, .inr (.inr (.inr (.inr (fun _ => none))))))) q (.inr (7, (fso6.set 1 (.ref sz))))) q (.inr (7, ((fso6.set 1 (.ref sz)).set 0 (.ref p0))))) (sz + 1) (sl + 5)))))))) : hX7_init_0 N0 K d q p0 M sz sl Q := by
  obtain ⟨hd, h⟩ := h
  obtain ⟨bd2, h⟩ := h
  obtain ⟨fso6, ho6, h⟩ := h
  obtain ⟨hNq, h⟩ := h
  obtain ⟨l7, h⟩ := h
  obtain ⟨l12, h⟩ := h
  exact ⟨_, _, _, _, c_X7_init_0_ hd bd2 ho6 hNq l7 l12, h⟩
theorem gX7_init.of {N0 : Nat} {K : Nat → Nat} {d : Nat} {q : Nat} {p0 : Nat} {M : gm_H} {sz : Nat} {Q : Unit → gm_H → Nat → Nat → Prop} (h : hX7_init_0 N0 K d q p0 M sz 0 Q) : gX7_init N0 K (d + 1) q p0 M sz Q := gC.of rfl (by decide) (Nat.le_of_ble_eq_true rfl) rfl h
theorem TX7_append_0 {N0 : Nat} {K : Nat → Nat} {d : Nat} {q : Nat} {p0 : Nat} {M : gm_H} {sz sl : Nat} {Q : Unit → gm_H → Nat → Nat → Prop} (h : ∃ fso1 : List Value, (M q = some (.inr (7, fso1))) ∧ (∃ x2 : Int32, (fso1[2]? = some (.int x2)) ∧ (if (5 : Int32) ≤ x2 then (Q () M sz sl) else (∃ r5 : Nat, (fso1[1]? = some (.ref r5)) ∧ (∃ na7 : Nat, ∃ fa7 : Nat → Option Nat, (M r5 = some (.inl (.object "RuleArena$Literal", na7, .inr (.inr (.inr (.inr fa7)))))) ∧ ((na7 < 2 ^ 31) ∧ ((N0 ≤ r5) ∧ (∃ k8 : Nat, (x2 = nI k8) ∧ ((k8 < na7) ∧ (∃ fso9 : List Value, (M p0 = some (.inr (5, fso9))) ∧ ((N0 ≤ q) ∧ (Q () (gm_set (gm_set M r5 (.inl (.object "RuleArena$Literal", na7, .inr (.inr (.inr (.inr (va_up fa7 k8 (some p0)))))))) q (.inr (7, (fso1.set 2 (.int (x2 + (1 : Int32))))))) sz sl)))))))))))) : hX7_append_0 N0 K d q p0 M sz sl Q := by
  obtain ⟨fso1, ho1, h⟩ := h
  obtain ⟨x2, f3, h⟩ := h
  by_cases c4 : (5 : Int32) ≤ x2
  · rw [if_pos c4] at h
    exact ⟨_, _, _, _, c_X7_append_0_t ho1 f3 c4, h⟩
  · rw [if_neg c4] at h
    obtain ⟨r5, f6, h⟩ := h
    obtain ⟨na7, fa7, ha7, h⟩ := h
    obtain ⟨ba7, h⟩ := h
    obtain ⟨hNr5, h⟩ := h
    obtain ⟨k8, ek8, h⟩ := h
    obtain ⟨lk8, h⟩ := h
    obtain ⟨fso9, ho9, h⟩ := h
    obtain ⟨hNq, h⟩ := h
    exact ⟨_, _, _, _, c_X7_append_0_f ho1 f3 c4 f6 ha7 ba7 hNr5 ek8 lk8 ho9 hNq, h⟩
theorem gX7_append.of {N0 : Nat} {K : Nat → Nat} {d : Nat} {q : Nat} {p0 : Nat} {M : gm_H} {sz : Nat} {Q : Unit → gm_H → Nat → Nat → Prop} (h : hX7_append_0 N0 K d q p0 M sz 0 Q) : gX7_append N0 K (d + 1) q p0 M sz Q := gC.of rfl (by decide) (Nat.le_of_ble_eq_true rfl) rfl h
theorem TX7_isMisplaced_0 {N0 : Nat} {K : Nat → Nat} {d : Nat} {q : Nat} {M : gm_H} {sz sl : Nat} {Q : Int32 → gm_H → Nat → Nat → Prop} (h : hX7_isMisplaced_2 N0 K d q (0 : Int32) M sz sl Q) : hX7_isMisplaced_0 N0 K d q M sz sl Q := by
  obtain ⟨r9, M9, z9, d9, e9, h⟩ := h
  exact ⟨r9, M9, z9, d9, c_X7_isMisplaced_0__at2  e9, h⟩
theorem gX7_isMisplaced.of {N0 : Nat} {K : Nat → Nat} {d : Nat} {q : Nat} {M : gm_H} {sz : Nat} {Q : Int32 → gm_H → Nat → Nat → Prop} (h : hX7_isMisplaced_0 N0 K d q M sz 0 Q) : gX7_isMisplaced N0 K (d + 1) q M sz Q := gC.of rfl (by decide) (Nat.le_of_ble_eq_true rfl) rfl h
theorem TX7_isMisplaced_2 {N0 : Nat} {K : Nat → Nat} {d : Nat} {q : Nat} {u1 : Int32} {M : gm_H} {sz sl : Nat} {Q : Int32 → gm_H → Nat → Nat → Prop} (h : ∃ fso1 : List Value, (M q = some (.inr (7, fso1))) ∧ (∃ x2 : Int32, (fso1[2]? = some (.int x2)) ∧ (if x2 ≤ u1 then (∃ r5 : Nat, (fso1[0]? = some (.ref r5)) ∧ (∃ fso7 : List Value, (M r5 = some (.inr (5, fso7))) ∧ (∃ x8 : Int32, (fso7[1]? = some (.int x8)) ∧ (if x8 = 0 then (if 0 < x2 then (Q (1 : Int32) M sz sl) else (gX5_variables N0 K d r5 M sz (fun r13 M13 z13 d13 => if r13 = 0 then (Q (0 : Int32) M13 z13 (sl + d13)) else (Q (1 : Int32) M13 z13 (sl + d13))))) else (if x8 = (2 : Int32) then (Q (1 : Int32) M sz sl) else (if x8 = (4 : Int32) then (Q (1 : Int32) M sz sl) else (Q (0 : Int32) M sz sl))))))) else (∃ r5 : Nat, (fso1[1]? = some (.ref r5)) ∧ (∃ na7 : Nat, ∃ fa7 : Nat → Option Nat, (M r5 = some (.inl (.object "RuleArena$Literal", na7, .inr (.inr (.inr (.inr fa7)))))) ∧ ((na7 < 2 ^ 31) ∧ (∃ k8 : Nat, (u1 = nI k8) ∧ ((k8 < na7) ∧ (∃ r9 : Nat, (fa7 k8 = some r9) ∧ (∃ fso10 : List Value, (M r9 = some (.inr (5, fso10))) ∧ (∃ x11 : Int32, (fso10[1]? = some (.int x11)) ∧ (if x11 = (1 : Int32) then (Q (1 : Int32) M sz sl) else (∃ r15 : Nat, (fa7 k8 = some r15) ∧ (∃ fso16 : List Value, (M r15 = some (.inr (5, fso16))) ∧ (∃ x17 : Int32, (fso16[1]? = some (.int x17)) ∧ (if x17 = (3 : Int32) then (Q (1 : Int32) M sz sl) else (hX7_isMisplaced_2 N0 K d q (u1 + (1 : Int32)) M sz sl Q))))))))))))))))) : hX7_isMisplaced_2 N0 K d q u1 M sz sl Q := by
  obtain ⟨fso1, ho1, h⟩ := h
  obtain ⟨x2, f3, h⟩ := h
  by_cases c4 : x2 ≤ u1
  · rw [if_pos c4] at h
    obtain ⟨r5, f6, h⟩ := h
    obtain ⟨fso7, ho7, h⟩ := h
    obtain ⟨x8, f9, h⟩ := h
    by_cases c10 : x8 = 0
    · rw [if_pos c10] at h
      by_cases c11 : 0 < x2
      · rw [if_pos c11] at h
        exact ⟨_, _, _, _, c_X7_isMisplaced_2_tft ho1 f3 c4 f6 ho7 f9 c10 c11, h⟩
      · rw [if_neg c11] at h
        obtain ⟨r13, M13, z13, d13, t13, h⟩ := h
        by_cases c17 : r13 = 0
        · rw [if_pos c17] at h
          exact ⟨_, _, _, _, c_X7_isMisplaced_2_tfft ho1 f3 c4 f6 ho7 f9 c10 c11 t13 c17, h⟩
        · rw [if_neg c17] at h
          exact ⟨_, _, _, _, c_X7_isMisplaced_2_tfff ho1 f3 c4 f6 ho7 f9 c10 c11 t13 c17, h⟩
    · rw [if_neg c10] at h
      by_cases c11 : x8 = (2 : Int32)
      · rw [if_pos c11] at h
        exact ⟨_, _, _, _, c_X7_isMisplaced_2_ttt ho1 f3 c4 f6 ho7 f9 c10 c11, h⟩
      · rw [if_neg c11] at h
        by_cases c12 : x8 = (4 : Int32)
        · rw [if_pos c12] at h
          exact ⟨_, _, _, _, c_X7_isMisplaced_2_ttff ho1 f3 c4 f6 ho7 f9 c10 c11 c12, h⟩
        · rw [if_neg c12] at h
          exact ⟨_, _, _, _, c_X7_isMisplaced_2_ttft ho1 f3 c4 f6 ho7 f9 c10 c11 c12, h⟩
  · rw [if_neg c4] at h
    obtain ⟨r5, f6, h⟩ := h
    obtain ⟨na7, fa7, ha7, h⟩ := h
    obtain ⟨ba7, h⟩ := h
    obtain ⟨k8, ek8, h⟩ := h
    obtain ⟨lk8, h⟩ := h
    obtain ⟨r9, qk8, h⟩ := h
    obtain ⟨fso10, ho10, h⟩ := h
    obtain ⟨x11, f12, h⟩ := h
    by_cases c13 : x11 = (1 : Int32)
    · rw [if_pos c13] at h
      exact ⟨_, _, _, _, c_X7_isMisplaced_2_ft ho1 f3 c4 f6 ha7 ba7 ek8 lk8 qk8 ho10 f12 c13, h⟩
    · rw [if_neg c13] at h
      obtain ⟨r15, qk14, h⟩ := h
      obtain ⟨fso16, ho16, h⟩ := h
      obtain ⟨x17, f18, h⟩ := h
      by_cases c19 : x17 = (3 : Int32)
      · rw [if_pos c19] at h
        exact ⟨_, _, _, _, c_X7_isMisplaced_2_fff ho1 f3 c4 f6 ha7 ba7 ek8 lk8 qk8 ho10 f12 c13 ek8 lk8 qk14 ho16 f18 c19, h⟩
      · rw [if_neg c19] at h
        obtain ⟨r9, M9, z9, d9, e9, h⟩ := h
        exact ⟨r9, M9, z9, d9, c_X7_isMisplaced_2_fft_at2 ho1 f3 c4 f6 ha7 ba7 ek8 lk8 qk8 ho10 f12 c13 ek8 lk8 qk14 ho16 f18 c19 e9, h⟩
theorem TX7_isLoose_0 {N0 : Nat} {K : Nat → Nat} {d : Nat} {q : Nat} {M : gm_H} {sz sl : Nat} {Q : Int32 → gm_H → Nat → Nat → Prop} (h : ∃ fso1 : List Value, (M q = some (.inr (7, fso1))) ∧ (∃ r2 : Nat, (fso1[0]? = some (.ref r2)) ∧ (∃ fso4 : List Value, (M r2 = some (.inr (5, fso4))) ∧ (gX5_variables N0 K d r2 M sz (fun r6 M6 z6 d6 => hX7_isLoose_12 N0 K d q (0 : Int32) r6 (0 : Int32) M6 z6 (sl + d6) Q))))) : hX7_isLoose_0 N0 K d q M sz sl Q := by
  obtain ⟨fso1, ho1, h⟩ := h
  obtain ⟨r2, f3, h⟩ := h
  obtain ⟨fso4, ho4, h⟩ := h
  obtain ⟨r6, M6, z6, d6, t6, h⟩ := h
  obtain ⟨r9, M9, z9, d9, e9, h⟩ := h
  exact ⟨r9, M9, z9, d9, c_X7_isLoose_0__at12 ho1 f3 ho4 t6 e9, h⟩
theorem gX7_isLoose.of {N0 : Nat} {K : Nat → Nat} {d : Nat} {q : Nat} {M : gm_H} {sz : Nat} {Q : Int32 → gm_H → Nat → Nat → Prop} (h : hX7_isLoose_0 N0 K d q M sz 0 Q) : gX7_isLoose N0 K (d + 1) q M sz Q := gC.of rfl (by decide) (Nat.le_of_ble_eq_true rfl) rfl h
theorem TX7_isLoose_12 {N0 : Nat} {K : Nat → Nat} {d : Nat} {q : Nat} {u1 : Int32} {u2 : Int32} {u3 : Int32} {M : gm_H} {sz sl : Nat} {Q : Int32 → gm_H → Nat → Nat → Prop} (h : ∃ fso1 : List Value, (M q = some (.inr (7, fso1))) ∧ (∃ x2 : Int32, (fso1[2]? = some (.int x2)) ∧ (if x2 ≤ u3 then (if (u2 &&& (u1 ^^^ (-1 : Int32))) = 0 then (Q (0 : Int32) M sz sl) else (Q (1 : Int32) M sz sl)) else (∃ r5 : Nat, (fso1[1]? = some (.ref r5)) ∧ (∃ na7 : Nat, ∃ fa7 : Nat → Option Nat, (M r5 = some (.inl (.object "RuleArena$Literal", na7, .inr (.inr (.inr (.inr fa7)))))) ∧ ((na7 < 2 ^ 31) ∧ (∃ k8 : Nat, (u3 = nI k8) ∧ ((k8 < na7) ∧ (∃ r9 : Nat, (fa7 k8 = some r9) ∧ (∃ fso10 : List Value, (M r9 = some (.inr (5, fso10))) ∧ (∃ x11 : Int32, (fso10[0]? = some (.int x11)) ∧ (if x11 = 0 then (∃ r15 : Nat, (fa7 k8 = some r15) ∧ (∃ fso16 : List Value, (M r15 = some (.inr (5, fso16))) ∧ (gX5_variables N0 K d r15 M sz (fun r18 M18 z18 d18 => hX7_isLoose_12 N0 K d q (u1 ||| r18) u2 (u3 + (1 : Int32)) M18 z18 (sl + d18) Q)))) else (∃ r15 : Nat, (fa7 k8 = some r15) ∧ (∃ fso16 : List Value, (M r15 = some (.inr (5, fso16))) ∧ (gX5_variables N0 K d r15 M sz (fun r18 M18 z18 d18 => hX7_isLoose_12 N0 K d q u1 (u2 ||| r18) (u3 + (1 : Int32)) M18 z18 (sl + d18) Q)))))))))))))))) : hX7_isLoose_12 N0 K d q u1 u2 u3 M sz sl Q := by
  obtain ⟨fso1, ho1, h⟩ := h
  obtain ⟨x2, f3, h⟩ := h
  by_cases c4 : x2 ≤ u3
  · rw [if_pos c4] at h
    by_cases c5 : (u2 &&& (u1 ^^^ (-1 : Int32))) = 0
    · rw [if_pos c5] at h
      exact ⟨_, _, _, _, c_X7_isLoose_12_tt ho1 f3 c4 c5, h⟩
    · rw [if_neg c5] at h
      exact ⟨_, _, _, _, c_X7_isLoose_12_tf ho1 f3 c4 c5, h⟩
  · rw [if_neg c4] at h
    obtain ⟨r5, f6, h⟩ := h
    obtain ⟨na7, fa7, ha7, h⟩ := h
    obtain ⟨ba7, h⟩ := h
    obtain ⟨k8, ek8, h⟩ := h
    obtain ⟨lk8, h⟩ := h
    obtain ⟨r9, qk8, h⟩ := h
    obtain ⟨fso10, ho10, h⟩ := h
    obtain ⟨x11, f12, h⟩ := h
    by_cases c13 : x11 = 0
    · rw [if_pos c13] at h
      obtain ⟨r15, qk14, h⟩ := h
      obtain ⟨fso16, ho16, h⟩ := h
      obtain ⟨r18, M18, z18, d18, t18, h⟩ := h
      obtain ⟨r9, M9, z9, d9, e9, h⟩ := h
      exact ⟨r9, M9, z9, d9, c_X7_isLoose_12_ff_at12 ho1 f3 c4 f6 ha7 ba7 ek8 lk8 qk8 ho10 f12 c13 ek8 lk8 qk14 ho16 t18 e9, h⟩
    · rw [if_neg c13] at h
      obtain ⟨r15, qk14, h⟩ := h
      obtain ⟨fso16, ho16, h⟩ := h
      obtain ⟨r18, M18, z18, d18, t18, h⟩ := h
      obtain ⟨r9, M9, z9, d9, e9, h⟩ := h
      exact ⟨r9, M9, z9, d9, c_X7_isLoose_12_ft_at12 ho1 f3 c4 f6 ha7 ba7 ek8 lk8 qk8 ho10 f12 c13 ek8 lk8 qk14 ho16 t18 e9, h⟩
theorem TX7_asks_0 {N0 : Nat} {K : Nat → Nat} {d : Nat} {q : Nat} {p0 : Int32} {M : gm_H} {sz sl : Nat} {Q : Int32 → Prop} (h : hX7_asks_2 N0 K d q p0 (0 : Int32) M sz sl Q) : hX7_asks_0 N0 K d q p0 M sz sl Q := by
  obtain ⟨r9, M9, z9, d9, e9, h⟩ := h
  exact ⟨r9, M9, z9, d9, c_X7_asks_0__at2  e9, h⟩
theorem gX7_asks.of {N0 : Nat} {K : Nat → Nat} {d : Nat} {q : Nat} {p0 : Int32} {M : gm_H} {sz : Nat} {Q : Int32 → Prop} (h : hX7_asks_0 N0 K d q p0 M sz 0 Q) : gX7_asks N0 K (d + 1) q p0 M sz (fun r M' sz' dd => M' = M ∧ sz' = sz ∧ dd = 0 ∧ Q r) := gC.of rfl (by decide) (Nat.le_of_ble_eq_true rfl) rfl h
theorem TX7_asks_2 {N0 : Nat} {K : Nat → Nat} {d : Nat} {q : Nat} {u1 : Int32} {u2 : Int32} {M : gm_H} {sz sl : Nat} {Q : Int32 → Prop} (h : ∃ fso1 : List Value, (M q = some (.inr (7, fso1))) ∧ (∃ x2 : Int32, (fso1[2]? = some (.int x2)) ∧ (if x2 ≤ u2 then (Q (0 : Int32)) else (∃ r5 : Nat, (fso1[1]? = some (.ref r5)) ∧ (∃ na7 : Nat, ∃ fa7 : Nat → Option Nat, (M r5 = some (.inl (.object "RuleArena$Literal", na7, .inr (.inr (.inr (.inr fa7)))))) ∧ ((na7 < 2 ^ 31) ∧ (∃ k8 : Nat, (u2 = nI k8) ∧ ((k8 < na7) ∧ (∃ r9 : Nat, (fa7 k8 = some r9) ∧ (∃ fso10 : List Value, (M r9 = some (.inr (5, fso10))) ∧ (∃ x11 : Int32, (fso10[1]? = some (.int x11)) ∧ (if x11 = u1 then (Q (1 : Int32)) else (hX7_asks_2 N0 K d q u1 (u2 + (1 : Int32)) M sz sl Q))))))))))))) : hX7_asks_2 N0 K d q u1 u2 M sz sl Q := by
  obtain ⟨fso1, ho1, h⟩ := h
  obtain ⟨x2, f3, h⟩ := h
  by_cases c4 : x2 ≤ u2
  · rw [if_pos c4] at h
    exact ⟨_, _, _, _, c_X7_asks_2_t ho1 f3 c4, rfl, rfl, rfl, h⟩
  · rw [if_neg c4] at h
    obtain ⟨r5, f6, h⟩ := h
    obtain ⟨na7, fa7, ha7, h⟩ := h
    obtain ⟨ba7, h⟩ := h
    obtain ⟨k8, ek8, h⟩ := h
    obtain ⟨lk8, h⟩ := h
    obtain ⟨r9, qk8, h⟩ := h
    obtain ⟨fso10, ho10, h⟩ := h
    obtain ⟨x11, f12, h⟩ := h
    by_cases c13 : x11 = u1
    · rw [if_pos c13] at h
      exact ⟨_, _, _, _, c_X7_asks_2_ff ho1 f3 c4 f6 ha7 ba7 ek8 lk8 qk8 ho10 f12 c13, rfl, rfl, rfl, h⟩
    · rw [if_neg c13] at h
      obtain ⟨r9, M9, z9, d9, e9, h⟩ := h
      exact ⟨r9, M9, z9, d9, c_X7_asks_2_ft_at2 ho1 f3 c4 f6 ha7 ba7 ek8 lk8 qk8 ho10 f12 c13 e9, h⟩
theorem TX7_keywords_0 {N0 : Nat} {K : Nat → Nat} {d : Nat} {q : Nat} {M : gm_H} {sz sl : Nat} {Q : Int32 → Prop} (h : hX7_keywords_4 N0 K d q (0 : Int32) (0 : Int32) M sz sl Q) : hX7_keywords_0 N0 K d q M sz sl Q := by
  obtain ⟨r9, M9, z9, d9, e9, h⟩ := h
  exact ⟨r9, M9, z9, d9, c_X7_keywords_0__at4  e9, h⟩
theorem gX7_keywords.of {N0 : Nat} {K : Nat → Nat} {d : Nat} {q : Nat} {M : gm_H} {sz : Nat} {Q : Int32 → Prop} (h : hX7_keywords_0 N0 K d q M sz 0 Q) : gX7_keywords N0 K (d + 1) q M sz (fun r M' sz' dd => M' = M ∧ sz' = sz ∧ dd = 0 ∧ Q r) := gC.of rfl (by decide) (Nat.le_of_ble_eq_true rfl) rfl h
theorem TX7_keywords_4 {N0 : Nat} {K : Nat → Nat} {d : Nat} {q : Nat} {u1 : Int32} {u2 : Int32} {M : gm_H} {sz sl : Nat} {Q : Int32 → Prop} (h : ∃ fso1 : List Value, (M q = some (.inr (7, fso1))) ∧ (∃ x2 : Int32, (fso1[2]? = some (.int x2)) ∧ (if x2 ≤ u2 then (Q u1) else (∃ r5 : Nat, (fso1[1]? = some (.ref r5)) ∧ (∃ na7 : Nat, ∃ fa7 : Nat → Option Nat, (M r5 = some (.inl (.object "RuleArena$Literal", na7, .inr (.inr (.inr (.inr fa7)))))) ∧ ((na7 < 2 ^ 31) ∧ (∃ k8 : Nat, (u2 = nI k8) ∧ ((k8 < na7) ∧ (∃ r9 : Nat, (fa7 k8 = some r9) ∧ (∃ fso10 : List Value, (M r9 = some (.inr (5, fso10))) ∧ (∃ x11 : Int32, (fso10[1]? = some (.int x11)) ∧ (if x11 < 0 then (hX7_keywords_4 N0 K d q u1 (u2 + (1 : Int32)) M sz sl Q) else (if (8 : Int32) ≤ x11 then (hX7_keywords_4 N0 K d q u1 (u2 + (1 : Int32)) M sz sl Q) else (hX7_keywords_4 N0 K d q (u1 ||| ((1 : Int32) <<< (x11 &&& 31))) (u2 + (1 : Int32)) M sz sl Q)))))))))))))) : hX7_keywords_4 N0 K d q u1 u2 M sz sl Q := by
  obtain ⟨fso1, ho1, h⟩ := h
  obtain ⟨x2, f3, h⟩ := h
  by_cases c4 : x2 ≤ u2
  · rw [if_pos c4] at h
    exact ⟨_, _, _, _, c_X7_keywords_4_t ho1 f3 c4, rfl, rfl, rfl, h⟩
  · rw [if_neg c4] at h
    obtain ⟨r5, f6, h⟩ := h
    obtain ⟨na7, fa7, ha7, h⟩ := h
    obtain ⟨ba7, h⟩ := h
    obtain ⟨k8, ek8, h⟩ := h
    obtain ⟨lk8, h⟩ := h
    obtain ⟨r9, qk8, h⟩ := h
    obtain ⟨fso10, ho10, h⟩ := h
    obtain ⟨x11, f12, h⟩ := h
    by_cases c13 : x11 < 0
    · rw [if_pos c13] at h
      obtain ⟨r9, M9, z9, d9, e9, h⟩ := h
      exact ⟨r9, M9, z9, d9, c_X7_keywords_4_ft_at4 ho1 f3 c4 f6 ha7 ba7 ek8 lk8 qk8 ho10 f12 c13 e9, h⟩
    · rw [if_neg c13] at h
      by_cases c14 : (8 : Int32) ≤ x11
      · rw [if_pos c14] at h
        obtain ⟨r9, M9, z9, d9, e9, h⟩ := h
        exact ⟨r9, M9, z9, d9, c_X7_keywords_4_fft_at4 ho1 f3 c4 f6 ha7 ba7 ek8 lk8 qk8 ho10 f12 c13 c14 e9, h⟩
      · rw [if_neg c14] at h
        obtain ⟨r9, M9, z9, d9, e9, h⟩ := h
        exact ⟨r9, M9, z9, d9, c_X7_keywords_4_fff_at4 ho1 f3 c4 f6 ha7 ba7 ek8 lk8 qk8 ho10 f12 c13 c14 e9, h⟩
theorem TX7_plan_0 {N0 : Nat} {K : Nat → Nat} {d : Nat} {q : Nat} {M : gm_H} {sz sl : Nat} {Q : Unit → gm_H → Nat → Nat → Prop} (h : ∃ fso1 : List Value, (M q = some (.inr (7, fso1))) ∧ (∃ r2 : Nat, (fso1[0]? = some (.ref r2)) ∧ (∃ fso4 : List Value, (M r2 = some (.inr (5, fso4))) ∧ (gX5_variables N0 K d r2 M sz (fun r6 M6 z6 d6 => ∃ fso10 : List Value, (M6 q = some (.inr (7, fso10))) ∧ (∃ r11 : Nat, (fso10[0]? = some (.ref r11)) ∧ (∃ fso13 : List Value, (M6 r11 = some (.inr (5, fso13))) ∧ (gX5_partVariables N0 K d r11 M6 z6 (fun r15 M15 z15 d15 => ∃ fso19 : List Value, (M15 q = some (.inr (7, fso19))) ∧ ((N0 ≤ q) ∧ ((3 < fso19.length) ∧ (hX7_plan_24 N0 K d q (63 : Int32) r6 (0 : Int32) (gm_set M15 q (.inr (7, (fso19.set 3 (.int r15))))) z15 ((sl + d6) + d15) Q)))))))))))) : hX7_plan_0 N0 K d q M sz sl Q := by
  obtain ⟨fso1, ho1, h⟩ := h
  obtain ⟨r2, f3, h⟩ := h
  obtain ⟨fso4, ho4, h⟩ := h
  obtain ⟨r6, M6, z6, d6, t6, h⟩ := h
  obtain ⟨fso10, ho10, h⟩ := h
  obtain ⟨r11, f12, h⟩ := h
  obtain ⟨fso13, ho13, h⟩ := h
  obtain ⟨r15, M15, z15, d15, t15, h⟩ := h
  obtain ⟨fso19, ho19, h⟩ := h
  obtain ⟨hNq, h⟩ := h
  obtain ⟨l20, h⟩ := h
  obtain ⟨r9, M9, z9, d9, e9, h⟩ := h
  exact ⟨r9, M9, z9, d9, c_X7_plan_0__at24 ho1 f3 ho4 t6 ho10 f12 ho13 t15 ho19 hNq l20 e9, h⟩
theorem gX7_plan.of {N0 : Nat} {K : Nat → Nat} {d : Nat} {q : Nat} {M : gm_H} {sz : Nat} {Q : Unit → gm_H → Nat → Nat → Prop} (h : hX7_plan_0 N0 K d q M sz 0 Q) : gX7_plan N0 K (d + 1) q M sz Q := gC.of rfl (by decide) (Nat.le_of_ble_eq_true rfl) rfl h
theorem TX7_plan_24 {N0 : Nat} {K : Nat → Nat} {d : Nat} {q : Nat} {u1 : Int32} {u2 : Int32} {u3 : Int32} {M : gm_H} {sz sl : Nat} {Q : Unit → gm_H → Nat → Nat → Prop} (h : ∃ fso1 : List Value, (M q = some (.inr (7, fso1))) ∧ (∃ x2 : Int32, (fso1[2]? = some (.int x2)) ∧ (if x2 ≤ u3 then (hX7_plan_58 N0 K d q u1 u2 (0 : Int32) M sz sl Q) else (∃ x5 : Int32, (fso1[3]? = some (.int x5)) ∧ (∃ r7 : Nat, (fso1[1]? = some (.ref r7)) ∧ (∃ na9 : Nat, ∃ fa9 : Nat → Option Nat, (M r7 = some (.inl (.object "RuleArena$Literal", na9, .inr (.inr (.inr (.inr fa9)))))) ∧ ((na9 < 2 ^ 31) ∧ (∃ k10 : Nat, (u3 = nI k10) ∧ ((k10 < na9) ∧ (∃ r11 : Nat, (fa9 k10 = some r11) ∧ (∃ fso12 : List Value, (M r11 = some (.inr (5, fso12))) ∧ (gX5_partVariables N0 K d r11 M sz (fun r14 M14 z14 d14 => ∃ fso18 : List Value, (M14 q = some (.inr (7, fso18))) ∧ ((N0 ≤ q) ∧ ((3 < fso18.length) ∧ (hX7_plan_24 N0 K d q u1 u2 (u3 + (1 : Int32)) (gm_set M14 q (.inr (7, (fso18.set 3 (.int (x5 ||| r14)))))) z14 (sl + d14) Q)))))))))))))))) : hX7_plan_24 N0 K d q u1 u2 u3 M sz sl Q := by
  obtain ⟨fso1, ho1, h⟩ := h
  obtain ⟨x2, f3, h⟩ := h
  by_cases c4 : x2 ≤ u3
  · rw [if_pos c4] at h
    obtain ⟨r9, M9, z9, d9, e9, h⟩ := h
    exact ⟨r9, M9, z9, d9, c_X7_plan_24_t_at58 ho1 f3 c4 e9, h⟩
  · rw [if_neg c4] at h
    obtain ⟨x5, f6, h⟩ := h
    obtain ⟨r7, f8, h⟩ := h
    obtain ⟨na9, fa9, ha9, h⟩ := h
    obtain ⟨ba9, h⟩ := h
    obtain ⟨k10, ek10, h⟩ := h
    obtain ⟨lk10, h⟩ := h
    obtain ⟨r11, qk10, h⟩ := h
    obtain ⟨fso12, ho12, h⟩ := h
    obtain ⟨r14, M14, z14, d14, t14, h⟩ := h
    obtain ⟨fso18, ho18, h⟩ := h
    obtain ⟨hNq, h⟩ := h
    obtain ⟨l19, h⟩ := h
    obtain ⟨r9, M9, z9, d9, e9, h⟩ := h
    exact ⟨r9, M9, z9, d9, c_X7_plan_24_f_at24 ho1 f3 c4 f6 f8 ha9 ba9 ek10 lk10 qk10 ho12 t14 ho18 hNq l19 e9, h⟩
theorem TX7_plan_58 {N0 : Nat} {K : Nat → Nat} {d : Nat} {q : Nat} {u1 : Int32} {u2 : Int32} {u3 : Int32} {M : gm_H} {sz sl : Nat} {Q : Unit → gm_H → Nat → Nat → Prop} (h : ∃ fso1 : List Value, (M q = some (.inr (7, fso1))) ∧ (∃ x2 : Int32, (fso1[2]? = some (.int x2)) ∧ (if x2 ≤ u3 then (∃ r5 : Nat, (fso1[0]? = some (.ref r5)) ∧ (∃ fso7 : List Value, (M r5 = some (.inr (5, fso7))) ∧ (gX5_plan N0 K d r5 (0 : Int32) M sz (fun _ M8 z8 d8 => Q () M8 z8 (sl + d8))))) else (gX7_bring N0 K d q u3 u1 u2 M sz (fun r6 M6 z6 d6 => ∃ fso10 : List Value, (M6 r6 = some (.inr (5, fso10))) ∧ (gX5_variables N0 K d r6 M6 z6 (fun r12 M12 z12 d12 => if (r12 &&& u1) = 0 then (∃ fso17 : List Value, (M12 r6 = some (.inr (5, fso17))) ∧ ((N0 ≤ r6) ∧ ((5 < fso17.length) ∧ (if (u2 &&& u1) = 0 then ((6 < (fso17.set 5 (.int (1 : Int32))).length) ∧ (gX5_plan N0 K d r6 u1 (gm_set (gm_set M12 r6 (.inr (5, (fso17.set 5 (.int (1 : Int32)))))) r6 (.inr (5, ((fso17.set 5 (.int (1 : Int32))).set 6 (.int (1 : Int32)))))) z12 (fun _ M26 z26 d26 => hX7_plan_58 N0 K d q (u1 &&& ((r12 &&& u1) ^^^ (-1 : Int32))) u2 (u3 + (1 : Int32)) M26 z26 (((sl + d6) + d12) + d26) Q))) else ((6 < (fso17.set 5 (.int (1 : Int32))).length) ∧ (gX5_plan N0 K d r6 u1 (gm_set (gm_set M12 r6 (.inr (5, (fso17.set 5 (.int (1 : Int32)))))) r6 (.inr (5, ((fso17.set 5 (.int (1 : Int32))).set 6 (.int (0 : Int32)))))) z12 (fun _ M26 z26 d26 => hX7_plan_58 N0 K d q (u1 &&& ((r12 &&& u1) ^^^ (-1 : Int32))) u2 (u3 + (1 : Int32)) M26 z26 (((sl + d6) + d12) + d26) Q))))))) else (∃ fso17 : List Value, (M12 r6 = some (.inr (5, fso17))) ∧ ((N0 ≤ r6) ∧ ((5 < fso17.length) ∧ (if (u2 &&& u1) = 0 then ((6 < (fso17.set 5 (.int (0 : Int32))).length) ∧ (gX5_plan N0 K d r6 u1 (gm_set (gm_set M12 r6 (.inr (5, (fso17.set 5 (.int (0 : Int32)))))) r6 (.inr (5, ((fso17.set 5 (.int (0 : Int32))).set 6 (.int (1 : Int32)))))) z12 (fun _ M26 z26 d26 => hX7_plan_58 N0 K d q (u1 &&& ((r12 &&& u1) ^^^ (-1 : Int32))) u2 (u3 + (1 : Int32)) M26 z26 (((sl + d6) + d12) + d26) Q))) else ((6 < (fso17.set 5 (.int (0 : Int32))).length) ∧ (gX5_plan N0 K d r6 u1 (gm_set (gm_set M12 r6 (.inr (5, (fso17.set 5 (.int (0 : Int32)))))) r6 (.inr (5, ((fso17.set 5 (.int (0 : Int32))).set 6 (.int (0 : Int32)))))) z12 (fun _ M26 z26 d26 => hX7_plan_58 N0 K d q (u1 &&& ((r12 &&& u1) ^^^ (-1 : Int32))) u2 (u3 + (1 : Int32)) M26 z26 (((sl + d6) + d12) + d26) Q)))))))))))))) : hX7_plan_58 N0 K d q u1 u2 u3 M sz sl Q := by
  obtain ⟨fso1, ho1, h⟩ := h
  obtain ⟨x2, f3, h⟩ := h
  by_cases c4 : x2 ≤ u3
  · rw [if_pos c4] at h
    obtain ⟨r5, f6, h⟩ := h
    obtain ⟨fso7, ho7, h⟩ := h
    obtain ⟨_, M8, z8, d8, t8, h⟩ := h
    exact ⟨_, _, _, _, c_X7_plan_58_t ho1 f3 c4 f6 ho7 t8, h⟩
  · rw [if_neg c4] at h
    obtain ⟨r6, M6, z6, d6, t6, h⟩ := h
    obtain ⟨fso10, ho10, h⟩ := h
    obtain ⟨r12, M12, z12, d12, t12, h⟩ := h
    by_cases c16 : (r12 &&& u1) = 0
    · rw [if_pos c16] at h
      obtain ⟨fso17, ho17, h⟩ := h
      obtain ⟨hNr5, h⟩ := h
      obtain ⟨l18, h⟩ := h
      by_cases c21 : (u2 &&& u1) = 0
      · rw [if_pos c21] at h
        obtain ⟨l22, h⟩ := h
        obtain ⟨_, M26, z26, d26, t26, h⟩ := h
        obtain ⟨r9, M9, z9, d9, e9, h⟩ := h
        exact ⟨r9, M9, z9, d9, c_X7_plan_58_fff_at58 ho1 f3 c4 t6 ho10 t12 c16 ho17 hNr5 l18 c21 l22 t26 e9, h⟩
      · rw [if_neg c21] at h
        obtain ⟨l22, h⟩ := h
        obtain ⟨_, M26, z26, d26, t26, h⟩ := h
        obtain ⟨r9, M9, z9, d9, e9, h⟩ := h
        exact ⟨r9, M9, z9, d9, c_X7_plan_58_fft_at58 ho1 f3 c4 t6 ho10 t12 c16 ho17 hNr5 l18 c21 l22 t26 e9, h⟩
    · rw [if_neg c16] at h
      obtain ⟨fso17, ho17, h⟩ := h
      obtain ⟨hNr5, h⟩ := h
      obtain ⟨l18, h⟩ := h
      by_cases c21 : (u2 &&& u1) = 0
      · rw [if_pos c21] at h
        obtain ⟨l22, h⟩ := h
        obtain ⟨_, M26, z26, d26, t26, h⟩ := h
        obtain ⟨r9, M9, z9, d9, e9, h⟩ := h
        exact ⟨r9, M9, z9, d9, c_X7_plan_58_ftf_at58 ho1 f3 c4 t6 ho10 t12 c16 ho17 hNr5 l18 c21 l22 t26 e9, h⟩
      · rw [if_neg c21] at h
        obtain ⟨l22, h⟩ := h
        obtain ⟨_, M26, z26, d26, t26, h⟩ := h
        obtain ⟨r9, M9, z9, d9, e9, h⟩ := h
        exact ⟨r9, M9, z9, d9, c_X7_plan_58_ftt_at58 ho1 f3 c4 t6 ho10 t12 c16 ho17 hNr5 l18 c21 l22 t26 e9, h⟩
theorem TX7_bring_0 {N0 : Nat} {K : Nat → Nat} {d : Nat} {q : Nat} {p0 : Int32} {p1 : Int32} {p2 : Int32} {M : gm_H} {sz sl : Nat} {Q : Nat → gm_H → Nat → Nat → Prop} (h : hX7_bring_9 N0 K d q p0 p1 p2 p0 (-1 : Int32) p0 M sz sl Q) : hX7_bring_0 N0 K d q p0 p1 p2 M sz sl Q := by
  obtain ⟨r9, M9, z9, d9, e9, h⟩ := h
  exact ⟨r9, M9, z9, d9, c_X7_bring_0__at9  e9, h⟩
theorem gX7_bring.of {N0 : Nat} {K : Nat → Nat} {d : Nat} {q : Nat} {p0 : Int32} {p1 : Int32} {p2 : Int32} {M : gm_H} {sz : Nat} {Q : Nat → gm_H → Nat → Nat → Prop} (h : hX7_bring_0 N0 K d q p0 p1 p2 M sz 0 Q) : gX7_bring N0 K (d + 1) q p0 p1 p2 M sz Q := gC.of rfl (by decide) (Nat.le_of_ble_eq_true rfl) rfl h
theorem TX7_bring_9 {N0 : Nat} {K : Nat → Nat} {d : Nat} {q : Nat} {u1 : Int32} {u2 : Int32} {u3 : Int32} {u4 : Int32} {u5 : Int32} {u6 : Int32} {M : gm_H} {sz sl : Nat} {Q : Nat → gm_H → Nat → Nat → Prop} (h : ∃ fso1 : List Value, (M q = some (.inr (7, fso1))) ∧ (∃ x2 : Int32, (fso1[2]? = some (.int x2)) ∧ (if x2 ≤ u6 then (∃ r5 : Nat, (fso1[1]? = some (.ref r5)) ∧ (∃ na7 : Nat, ∃ fa7 : Nat → Option Nat, (M r5 = some (.inl (.object "RuleArena$Literal", na7, .inr (.inr (.inr (.inr fa7)))))) ∧ ((na7 < 2 ^ 31) ∧ (∃ k8 : Nat, (u4 = nI k8) ∧ ((k8 < na7) ∧ (∃ r9 : Nat, (fa7 k8 = some r9) ∧ (hX7_bring_66 N0 K d q u1 r9 u4 M sz sl Q))))))) else (∃ r5 : Nat, (fso1[1]? = some (.ref r5)) ∧ (∃ na7 : Nat, ∃ fa7 : Nat → Option Nat, (M r5 = some (.inl (.object "RuleArena$Literal", na7, .inr (.inr (.inr (.inr fa7)))))) ∧ ((na7 < 2 ^ 31) ∧ (∃ k8 : Nat, (u6 = nI k8) ∧ ((k8 < na7) ∧ (∃ r9 : Nat, (fa7 k8 = some r9) ∧ (gX7_meritOf N0 K d r9 u2 u3 M sz (fun r11 M11 z11 d11 => if r11 ≤ u5 then (hX7_bring_9 N0 K d q u1 u2 u3 u4 u5 (u6 + (1 : Int32)) M11 z11 (sl + d11) Q) else (hX7_bring_9 N0 K d q u1 u2 u3 u6 r11 (u6 + (1 : Int32)) M11 z11 (sl + d11) Q)))))))))))) : hX7_bring_9 N0 K d q u1 u2 u3 u4 u5 u6 M sz sl Q := by
  obtain ⟨fso1, ho1, h⟩ := h
  obtain ⟨x2, f3, h⟩ := h
  by_cases c4 : x2 ≤ u6
  · rw [if_pos c4] at h
    obtain ⟨r5, f6, h⟩ := h
    obtain ⟨na7, fa7, ha7, h⟩ := h
    obtain ⟨ba7, h⟩ := h
    obtain ⟨k8, ek8, h⟩ := h
    obtain ⟨lk8, h⟩ := h
    obtain ⟨r9, qk8, h⟩ := h
    obtain ⟨r9, M9, z9, d9, e9, h⟩ := h
    exact ⟨r9, M9, z9, d9, c_X7_bring_9_t_at66 ho1 f3 c4 f6 ha7 ba7 ek8 lk8 qk8 e9, h⟩
  · rw [if_neg c4] at h
    obtain ⟨r5, f6, h⟩ := h
    obtain ⟨na7, fa7, ha7, h⟩ := h
    obtain ⟨ba7, h⟩ := h
    obtain ⟨k8, ek8, h⟩ := h
    obtain ⟨lk8, h⟩ := h
    obtain ⟨r9, qk8, h⟩ := h
    obtain ⟨r11, M11, z11, d11, t11, h⟩ := h
    by_cases c15 : r11 ≤ u5
    · rw [if_pos c15] at h
      obtain ⟨r9, M9, z9, d9, e9, h⟩ := h
      exact ⟨r9, M9, z9, d9, c_X7_bring_9_ft_at9 ho1 f3 c4 f6 ha7 ba7 ek8 lk8 qk8 t11 c15 e9, h⟩
    · rw [if_neg c15] at h
      obtain ⟨r9, M9, z9, d9, e9, h⟩ := h
      exact ⟨r9, M9, z9, d9, c_X7_bring_9_ff_at9 ho1 f3 c4 f6 ha7 ba7 ek8 lk8 qk8 t11 c15 e9, h⟩
theorem TX7_bring_66 {N0 : Nat} {K : Nat → Nat} {d : Nat} {q : Nat} {u1 : Int32} {a6 : Nat} {u7 : Int32} {M : gm_H} {sz sl : Nat} {Q : Nat → gm_H → Nat → Nat → Prop} (h : if u7 ≤ u1 then (∃ fso2 : List Value, (M q = some (.inr (7, fso2))) ∧ (∃ r3 : Nat, (fso2[1]? = some (.ref r3)) ∧ (∃ na5 : Nat, ∃ fa5 : Nat → Option Nat, (M r3 = some (.inl (.object "RuleArena$Literal", na5, .inr (.inr (.inr (.inr fa5)))))) ∧ ((na5 < 2 ^ 31) ∧ ((N0 ≤ r3) ∧ (∃ k6 : Nat, (u1 = nI k6) ∧ ((k6 < na5) ∧ (∃ fso7 : List Value, (M a6 = some (.inr (5, fso7))) ∧ (Q a6 (gm_set M r3 (.inl (.object "RuleArena$Literal", na5, .inr (.inr (.inr (.inr (va_up fa5 k6 (some a6)))))))) sz sl))))))))) else (∃ fso2 : List Value, (M q = some (.inr (7, fso2))) ∧ (∃ r3 : Nat, (fso2[1]? = some (.ref r3)) ∧ (∃ na5 : Nat, ∃ fa5 : Nat → Option Nat, (M r3 = some (.inl (.object "RuleArena$Literal", na5, .inr (.inr (.inr (.inr fa5)))))) ∧ ((na5 < 2 ^ 31) ∧ (∃ k6 : Nat, ((u7 - (1 : Int32)) = nI k6) ∧ ((k6 < na5) ∧ (∃ r7 : Nat, (fa5 k6 = some r7) ∧ ((N0 ≤ r3) ∧ (∃ k8 : Nat, (u7 = nI k8) ∧ ((k8 < na5) ∧ (∃ fso9 : List Value, (M r7 = some (.inr (5, fso9))) ∧ (hX7_bring_66 N0 K d q u1 a6 (u7 + (-1 : Int32)) (gm_set M r3 (.inl (.object "RuleArena$Literal", na5, .inr (.inr (.inr (.inr (va_up fa5 k8 (some r7)))))))) sz sl Q))))))))))))) : hX7_bring_66 N0 K d q u1 a6 u7 M sz sl Q := by
  by_cases c1 : u7 ≤ u1
  · rw [if_pos c1] at h
    obtain ⟨fso2, ho2, h⟩ := h
    obtain ⟨r3, f4, h⟩ := h
    obtain ⟨na5, fa5, ha5, h⟩ := h
    obtain ⟨ba5, h⟩ := h
    obtain ⟨hNr3, h⟩ := h
    obtain ⟨k6, ek6, h⟩ := h
    obtain ⟨lk6, h⟩ := h
    obtain ⟨fso7, ho7, h⟩ := h
    exact ⟨_, _, _, _, c_X7_bring_66_t c1 ho2 f4 ha5 ba5 hNr3 ek6 lk6 ho7, h⟩
  · rw [if_neg c1] at h
    obtain ⟨fso2, ho2, h⟩ := h
    obtain ⟨r3, f4, h⟩ := h
    obtain ⟨na5, fa5, ha5, h⟩ := h
    obtain ⟨ba5, h⟩ := h
    obtain ⟨k6, ek6, h⟩ := h
    obtain ⟨lk6, h⟩ := h
    obtain ⟨r7, qk6, h⟩ := h
    obtain ⟨hNr3, h⟩ := h
    obtain ⟨k8, ek8, h⟩ := h
    obtain ⟨lk8, h⟩ := h
    obtain ⟨fso9, ho9, h⟩ := h
    obtain ⟨r9, M9, z9, d9, e9, h⟩ := h
    exact ⟨r9, M9, z9, d9, c_X7_bring_66_f_at66 c1 ho2 f4 ha5 ba5 ek6 lk6 qk6 hNr3 ek8 lk8 ho9 e9, h⟩
theorem TX7_meritOf_0 {N0 : Nat} {K : Nat → Nat} {d : Nat} {p0 : Nat} {p1 : Int32} {p2 : Int32} {M : gm_H} {sz sl : Nat} {Q : Int32 → gm_H → Nat → Nat → Prop} (h : ∃ fso1 : List Value, (M p0 = some (.inr (5, fso1))) ∧ (gX5_variables N0 K d p0 M sz (fun r3 M3 z3 d3 => if (r3 &&& p1) = 0 then (Q (100 : Int32) M3 z3 (sl + d3)) else (∃ fso8 : List Value, (M3 p0 = some (.inr (5, fso8))) ∧ (∃ x9 : Int32, (fso8[0]? = some (.int x9)) ∧ (if x9 = 0 then (∃ x12 : Int32, (fso8[2]? = some (.int x12)) ∧ (gX7_termMerit N0 K d x12 p1 M3 z3 (fun r15 M15 z15 d15 => ∃ fso19 : List Value, (M15 p0 = some (.inr (5, fso19))) ∧ (∃ x20 : Int32, (fso19[3]? = some (.int x20)) ∧ (gX7_termMerit N0 K d x20 p1 M15 z15 (fun r23 M23 z23 d23 => ∃ fso27 : List Value, (M23 p0 = some (.inr (5, fso27))) ∧ (∃ x28 : Int32, (fso27[4]? = some (.int x28)) ∧ (gX7_termMerit N0 K d x28 p1 M23 z23 (fun r31 M31 z31 d31 => if ((r3 &&& p1) &&& p2) = 0 then (Q ((r15 + r23) + r31) M31 z31 ((((sl + d3) + d15) + d23) + d31)) else (Q (((r15 + r23) + r31) + (5 : Int32)) M31 z31 ((((sl + d3) + d15) + d23) + d31))))))))))) else (Q (-1 : Int32) M3 z3 (sl + d3)))))))) : hX7_meritOf_0 N0 K d p0 p1 p2 M sz sl Q := by
  obtain ⟨fso1, ho1, h⟩ := h
  obtain ⟨r3, M3, z3, d3, t3, h⟩ := h
  by_cases c7 : (r3 &&& p1) = 0
  · rw [if_pos c7] at h
    exact ⟨_, _, _, _, c_X7_meritOf_0_f ho1 t3 c7, h⟩
  · rw [if_neg c7] at h
    obtain ⟨fso8, ho8, h⟩ := h
    obtain ⟨x9, f10, h⟩ := h
    by_cases c11 : x9 = 0
    · rw [if_pos c11] at h
      obtain ⟨x12, f13, h⟩ := h
      obtain ⟨r15, M15, z15, d15, t15, h⟩ := h
      obtain ⟨fso19, ho19, h⟩ := h
      obtain ⟨x20, f21, h⟩ := h
      obtain ⟨r23, M23, z23, d23, t23, h⟩ := h
      obtain ⟨fso27, ho27, h⟩ := h
      obtain ⟨x28, f29, h⟩ := h
      obtain ⟨r31, M31, z31, d31, t31, h⟩ := h
      by_cases c35 : ((r3 &&& p1) &&& p2) = 0
      · rw [if_pos c35] at h
        exact ⟨_, _, _, _, c_X7_meritOf_0_ttt ho1 t3 c7 ho8 f10 c11 f13 t15 ho19 f21 t23 ho27 f29 t31 c35, h⟩
      · rw [if_neg c35] at h
        exact ⟨_, _, _, _, c_X7_meritOf_0_ttf ho1 t3 c7 ho8 f10 c11 f13 t15 ho19 f21 t23 ho27 f29 t31 c35, h⟩
    · rw [if_neg c11] at h
      exact ⟨_, _, _, _, c_X7_meritOf_0_tf ho1 t3 c7 ho8 f10 c11, h⟩
theorem gX7_meritOf.of {N0 : Nat} {K : Nat → Nat} {d : Nat} {p0 : Nat} {p1 : Int32} {p2 : Int32} {M : gm_H} {sz : Nat} {Q : Int32 → gm_H → Nat → Nat → Prop} (h : hX7_meritOf_0 N0 K d p0 p1 p2 M sz 0 Q) : gX7_meritOf N0 K (d + 1) p0 p1 p2 M sz Q := gC.of rfl (by decide) (Nat.le_of_ble_eq_true rfl) rfl h
theorem TX7_termMerit_0 {N0 : Nat} {K : Nat → Nat} {d : Nat} {p0 : Int32} {p1 : Int32} {M : gm_H} {sz sl : Nat} {Q : Int32 → gm_H → Nat → Nat → Prop} (h : if p0 = 0 then (Q (0 : Int32) M sz sl) else (gX9_variables N0 K d p0 M sz (fun r3 M3 z3 d3 => if (r3 &&& p1) = 0 then (Q (10 : Int32) M3 z3 (sl + d3)) else (if (p0 &&& (2097151 : Int32)) = 0 then (Q (0 : Int32) M3 z3 (sl + d3)) else (Q (4 : Int32) M3 z3 (sl + d3)))))) : hX7_termMerit_0 N0 K d p0 p1 M sz sl Q := by
  by_cases c1 : p0 = 0
  · rw [if_pos c1] at h
    exact ⟨_, _, _, _, c_X7_termMerit_0_f c1, h⟩
  · rw [if_neg c1] at h
    obtain ⟨r3, M3, z3, d3, t3, h⟩ := h
    by_cases c7 : (r3 &&& p1) = 0
    · rw [if_pos c7] at h
      exact ⟨_, _, _, _, c_X7_termMerit_0_tf c1 t3 c7, h⟩
    · rw [if_neg c7] at h
      by_cases c8 : (p0 &&& (2097151 : Int32)) = 0
      · rw [if_pos c8] at h
        exact ⟨_, _, _, _, c_X7_termMerit_0_ttt c1 t3 c7 c8, h⟩
      · rw [if_neg c8] at h
        exact ⟨_, _, _, _, c_X7_termMerit_0_ttf c1 t3 c7 c8, h⟩
theorem gX7_termMerit.of {N0 : Nat} {K : Nat → Nat} {d : Nat} {p0 : Int32} {p1 : Int32} {M : gm_H} {sz : Nat} {Q : Int32 → gm_H → Nat → Nat → Prop} (h : hX7_termMerit_0 N0 K d p0 p1 M sz 0 Q) : gX7_termMerit N0 K (d + 1) p0 p1 M sz Q := gC.of rfl (by decide) (Nat.le_of_ble_eq_true rfl) rfl h
theorem TX8_init_0 {N0 : Nat} {K : Nat → Nat} {d : Nat} {q : Nat} {M : gm_H} {sz sl : Nat} {Q : Unit → gm_H → Nat → Nat → Prop} (h : (0 < d) ∧ ((gm_bd M sz) ∧ (∃ fso6 : List Value, ((gm_new M sz (.inl (.object "RuleArena$Rule", 24, .inr (.inr (.inr (.inr (fun _ => none))))))) q = some (.inr (8, fso6))) ∧ ((N0 ≤ q) ∧ ((0 < fso6.length) ∧ ((2 < (fso6.set 0 (.ref sz)).length) ∧ ((3 < ((fso6.set 0 (.ref sz)).set 2 (.ref (sz + 1))).length) ∧ ((4 < (((fso6.set 0 (.ref sz)).set 2 (.ref (sz + 1))).set 3 (.ref ((sz + 1) + 1))).length) ∧ ((1 < ((((fso6.set 0 (.ref sz)).set 2 (.ref (sz + 1))).set 3 (.ref ((sz + 1) + 1))).set 4 (.ref (((sz + 1) + 1) + 1))).length) ∧ (Q () (gm_set (gm_set (gm_new (gm_set (gm_new (gm_set (gm_new (gm_set (gm_new M sz (.inl (.object "RuleArena$Rule", 24, .inr (.inr (.inr (.inr (fun _ => none))))))) q (.inr (8, (fso6.set 0 (.ref sz))))) (sz + 1) (.inl (.int, 24, .inl (fun _ => 0)))) q (.inr (8, ((fso6.set 0 (.ref sz)).set 2 (.ref (sz + 1)))))) ((sz + 1) + 1) (.inl (.int, 24, .inl (fun _ => 0)))) q (.inr (8, (((fso6.set 0 (.ref sz)).set 2 (.ref (sz + 1))).set 3 (.ref ((sz + 1) + 1)))))) (((sz + 1) + 1) + 1) (.inl (.int, 24, .inl (fun _ => 0)))) q (.inr (8, ((((fso6.set 0 (.ref sz)).set 2 (.ref (sz + 1))).set 3 (.ref ((sz + 1) + 1))).set 4 (.ref (((sz + 1) + 1) + 1)))))) q (.inr (8, (((((fso6.set 0 (.ref sz)).set 2 (.ref (sz + 1))).set 3 (.ref ((sz + 1) + 1))).set 4 (.ref (((sz + 1) + 1) + 1))).set 1 (.int (0 : Int32)))))) ((((sz + 1) + 1) + 1) + 1) ((((sl + 24) + 24) + 24) + 24))))))))))) : hX8_init_0 N0 K d q M sz sl Q := by
  obtain ⟨hd, h⟩ := h
  obtain ⟨bd2, h⟩ := h
  obtain ⟨fso6, ho6, h⟩ := h
  obtain ⟨hNq, h⟩ := h
  obtain ⟨l7, h⟩ := h
  obtain ⟨l17, h⟩ := h
  obtain ⟨l30, h⟩ := h
  obtain ⟨l46, h⟩ := h
  obtain ⟨l57, h⟩ := h
  exact ⟨_, _, _, _, c_X8_init_0_ hd bd2 ho6 hNq l7 l17 l30 l46 l57, h⟩
theorem gX8_init.of {N0 : Nat} {K : Nat → Nat} {d : Nat} {q : Nat} {M : gm_H} {sz : Nat} {Q : Unit → gm_H → Nat → Nat → Prop} (h : hX8_init_0 N0 K d q M sz 0 Q) : gX8_init N0 K (d + 1) q M sz Q := gC.of rfl (by decide) (Nat.le_of_ble_eq_true rfl) rfl h
theorem TX8_append_0 {N0 : Nat} {K : Nat → Nat} {d : Nat} {q : Nat} {p0 : Nat} {M : gm_H} {sz sl : Nat} {Q : Unit → gm_H → Nat → Nat → Prop} (h : ∃ fso1 : List Value, (M q = some (.inr (8, fso1))) ∧ (∃ x2 : Int32, (fso1[1]? = some (.int x2)) ∧ (if (24 : Int32) ≤ x2 then (Q () M sz sl) else (∃ r5 : Nat, (fso1[0]? = some (.ref r5)) ∧ (∃ na7 : Nat, ∃ fa7 : Nat → Option Nat, (M r5 = some (.inl (.object "RuleArena$Rule", na7, .inr (.inr (.inr (.inr fa7)))))) ∧ ((na7 < 2 ^ 31) ∧ ((N0 ≤ r5) ∧ (∃ k8 : Nat, (x2 = nI k8) ∧ ((k8 < na7) ∧ (∃ fso9 : List Value, (M p0 = some (.inr (7, fso9))) ∧ ((N0 ≤ q) ∧ (Q () (gm_set (gm_set M r5 (.inl (.object "RuleArena$Rule", na7, .inr (.inr (.inr (.inr (va_up fa7 k8 (some p0)))))))) q (.inr (8, (fso1.set 1 (.int (x2 + (1 : Int32))))))) sz sl)))))))))))) : hX8_append_0 N0 K d q p0 M sz sl Q := by
  obtain ⟨fso1, ho1, h⟩ := h
  obtain ⟨x2, f3, h⟩ := h
  by_cases c4 : (24 : Int32) ≤ x2
  · rw [if_pos c4] at h
    exact ⟨_, _, _, _, c_X8_append_0_t ho1 f3 c4, h⟩
  · rw [if_neg c4] at h
    obtain ⟨r5, f6, h⟩ := h
    obtain ⟨na7, fa7, ha7, h⟩ := h
    obtain ⟨ba7, h⟩ := h
    obtain ⟨hNr5, h⟩ := h
    obtain ⟨k8, ek8, h⟩ := h
    obtain ⟨lk8, h⟩ := h
    obtain ⟨fso9, ho9, h⟩ := h
    obtain ⟨hNq, h⟩ := h
    exact ⟨_, _, _, _, c_X8_append_0_f ho1 f3 c4 f6 ha7 ba7 hNr5 ek8 lk8 ho9 hNq, h⟩
theorem gX8_append.of {N0 : Nat} {K : Nat → Nat} {d : Nat} {q : Nat} {p0 : Nat} {M : gm_H} {sz : Nat} {Q : Unit → gm_H → Nat → Nat → Prop} (h : hX8_append_0 N0 K d q p0 M sz 0 Q) : gX8_append N0 K (d + 1) q p0 M sz Q := gC.of rfl (by decide) (Nat.le_of_ble_eq_true rfl) rfl h
theorem TX8_trace_0 {N0 : Nat} {K : Nat → Nat} {d : Nat} {q : Nat} {M : gm_H} {sz sl : Nat} {Q : Unit → gm_H → Nat → Nat → Prop} (h : hX8_trace_2 N0 K d q (0 : Int32) M sz sl Q) : hX8_trace_0 N0 K d q M sz sl Q := by
  obtain ⟨r9, M9, z9, d9, e9, h⟩ := h
  exact ⟨r9, M9, z9, d9, c_X8_trace_0__at2  e9, h⟩
theorem gX8_trace.of {N0 : Nat} {K : Nat → Nat} {d : Nat} {q : Nat} {M : gm_H} {sz : Nat} {Q : Unit → gm_H → Nat → Nat → Prop} (h : hX8_trace_0 N0 K d q M sz 0 Q) : gX8_trace N0 K (d + 1) q M sz Q := gC.of rfl (by decide) (Nat.le_of_ble_eq_true rfl) rfl h
theorem TX8_trace_2 {N0 : Nat} {K : Nat → Nat} {d : Nat} {q : Nat} {u1 : Int32} {M : gm_H} {sz sl : Nat} {Q : Unit → gm_H → Nat → Nat → Prop} (h : ∃ fso1 : List Value, (M q = some (.inr (8, fso1))) ∧ (∃ x2 : Int32, (fso1[1]? = some (.int x2)) ∧ (if x2 ≤ u1 then (hX8_trace_94 N0 K d q (0 : Int32) M sz sl Q) else (∃ r5 : Nat, (fso1[0]? = some (.ref r5)) ∧ (∃ na7 : Nat, ∃ fa7 : Nat → Option Nat, (M r5 = some (.inl (.object "RuleArena$Rule", na7, .inr (.inr (.inr (.inr fa7)))))) ∧ ((na7 < 2 ^ 31) ∧ (∃ k8 : Nat, (u1 = nI k8) ∧ ((k8 < na7) ∧ (∃ r9 : Nat, (fa7 k8 = some r9) ∧ (gX8_headsIn N0 K d q r9 M sz (fun r11 M11 z11 d11 => hX8_trace_23 N0 K d q u1 r11 (0 : Int32) M11 z11 (sl + d11) Q))))))))))) : hX8_trace_2 N0 K d q u1 M sz sl Q := by
  obtain ⟨fso1, ho1, h⟩ := h
  obtain ⟨x2, f3, h⟩ := h
  by_cases c4 : x2 ≤ u1
  · rw [if_pos c4] at h
    obtain ⟨r9, M9, z9, d9, e9, h⟩ := h
    exact ⟨r9, M9, z9, d9, c_X8_trace_2_t_at94 ho1 f3 c4 e9, h⟩
  · rw [if_neg c4] at h
    obtain ⟨r5, f6, h⟩ := h
    obtain ⟨na7, fa7, ha7, h⟩ := h
    obtain ⟨ba7, h⟩ := h
    obtain ⟨k8, ek8, h⟩ := h
    obtain ⟨lk8, h⟩ := h
    obtain ⟨r9, qk8, h⟩ := h
    obtain ⟨r11, M11, z11, d11, t11, h⟩ := h
    obtain ⟨r9, M9, z9, d9, e9, h⟩ := h
    exact ⟨r9, M9, z9, d9, c_X8_trace_2_f_at23 ho1 f3 c4 f6 ha7 ba7 ek8 lk8 qk8 t11 e9, h⟩
theorem TX8_trace_94 {N0 : Nat} {K : Nat → Nat} {d : Nat} {q : Nat} {u1 : Int32} {M : gm_H} {sz sl : Nat} {Q : Unit → gm_H → Nat → Nat → Prop} (h : ∃ fso1 : List Value, (M q = some (.inr (8, fso1))) ∧ (∃ x2 : Int32, (fso1[1]? = some (.int x2)) ∧ (if x2 ≤ u1 then (hX8_trace_154 N0 K d q (0 : Int32) M sz sl Q) else (hX8_trace_104 N0 K d q u1 (0 : Int32) M sz sl Q)))) : hX8_trace_94 N0 K d q u1 M sz sl Q := by
  obtain ⟨fso1, ho1, h⟩ := h
  obtain ⟨x2, f3, h⟩ := h
  by_cases c4 : x2 ≤ u1
  · rw [if_pos c4] at h
    obtain ⟨r9, M9, z9, d9, e9, h⟩ := h
    exact ⟨r9, M9, z9, d9, c_X8_trace_94_t_at154 ho1 f3 c4 e9, h⟩
  · rw [if_neg c4] at h
    obtain ⟨r9, M9, z9, d9, e9, h⟩ := h
    exact ⟨r9, M9, z9, d9, c_X8_trace_94_f_at104 ho1 f3 c4 e9, h⟩
theorem TX8_trace_23 {N0 : Nat} {K : Nat → Nat} {d : Nat} {q : Nat} {u1 : Int32} {u2 : Int32} {u3 : Int32} {M : gm_H} {sz sl : Nat} {Q : Unit → gm_H → Nat → Nat → Prop} (h : ∃ fso1 : List Value, (M q = some (.inr (8, fso1))) ∧ (∃ x2 : Int32, (fso1[1]? = some (.int x2)) ∧ (if x2 ≤ u3 then (hX8_trace_2 N0 K d q (u1 + (1 : Int32)) M sz sl Q) else (∃ r5 : Nat, (fso1[0]? = some (.ref r5)) ∧ (∃ na7 : Nat, ∃ fa7 : Nat → Option Nat, (M r5 = some (.inl (.object "RuleArena$Rule", na7, .inr (.inr (.inr (.inr fa7)))))) ∧ ((na7 < 2 ^ 31) ∧ (∃ k8 : Nat, (u1 = nI k8) ∧ ((k8 < na7) ∧ (∃ r9 : Nat, (fa7 k8 = some r9) ∧ (∃ fso10 : List Value, (M r9 = some (.inr (7, fso10))) ∧ (∃ r11 : Nat, (fso10[0]? = some (.ref r11)) ∧ (∃ fso13 : List Value, (M r11 = some (.inr (5, fso13))) ∧ (∃ x14 : Int32, (fso13[1]? = some (.int x14)) ∧ (∃ k16 : Nat, (u3 = nI k16) ∧ ((k16 < na7) ∧ (∃ r17 : Nat, (fa7 k16 = some r17) ∧ (∃ fso18 : List Value, (M r17 = some (.inr (7, fso18))) ∧ (∃ r19 : Nat, (fso18[0]? = some (.ref r19)) ∧ (∃ fso21 : List Value, (M r19 = some (.inr (5, fso21))) ∧ (∃ x22 : Int32, (fso21[1]? = some (.int x22)) ∧ (if x14 = x22 then (∃ r25 : Nat, (fso1[2]? = some (.ref r25)) ∧ (∃ na27 : Nat, ∃ fa27 : Nat → Int32, (M r25 = some (.inl (.int, na27, .inl fa27))) ∧ ((na27 < 2 ^ 31) ∧ ((k16 < na27) ∧ ((N0 ≤ r25) ∧ (∃ r37 : Nat, (fso1[3]? = some (.ref r37)) ∧ (∃ na39 : Nat, ∃ fa39 : Nat → Int32, ((gm_set M r25 (.inl (.int, na27, .inl (upd fa27 k16 ((fa27 k16) ||| ((1 : Int32) <<< (u1 &&& 31))))))) r37 = some (.inl (.int, na39, .inl fa39))) ∧ ((na39 < 2 ^ 31) ∧ ((k16 < na39) ∧ ((N0 ≤ r37) ∧ ((r25 ≠ r37) ∧ (hX8_trace_23 N0 K d q u1 u2 (u3 + (1 : Int32)) (gm_set (gm_set M r25 (.inl (.int, na27, .inl (upd fa27 k16 ((fa27 k16) ||| ((1 : Int32) <<< (u1 &&& 31))))))) r37 (.inl (.int, na39, .inl (upd fa39 k16 ((fa39 k16) ||| u2))))) sz sl Q)))))))))))) else (hX8_trace_23 N0 K d q u1 u2 (u3 + (1 : Int32)) M sz sl Q)))))))))))))))))))))) : hX8_trace_23 N0 K d q u1 u2 u3 M sz sl Q := by
  obtain ⟨fso1, ho1, h⟩ := h
  obtain ⟨x2, f3, h⟩ := h
  by_cases c4 : x2 ≤ u3
  · rw [if_pos c4] at h
    obtain ⟨r9, M9, z9, d9, e9, h⟩ := h
    exact ⟨r9, M9, z9, d9, c_X8_trace_23_t_at2 ho1 f3 c4 e9, h⟩
  · rw [if_neg c4] at h
    obtain ⟨r5, f6, h⟩ := h
    obtain ⟨na7, fa7, ha7, h⟩ := h
    obtain ⟨ba7, h⟩ := h
    obtain ⟨k8, ek8, h⟩ := h
    obtain ⟨lk8, h⟩ := h
    obtain ⟨r9, qk8, h⟩ := h
    obtain ⟨fso10, ho10, h⟩ := h
    obtain ⟨r11, f12, h⟩ := h
    obtain ⟨fso13, ho13, h⟩ := h
    obtain ⟨x14, f15, h⟩ := h
    obtain ⟨k16, ek16, h⟩ := h
    obtain ⟨lk16, h⟩ := h
    obtain ⟨r17, qk16, h⟩ := h
    obtain ⟨fso18, ho18, h⟩ := h
    obtain ⟨r19, f20, h⟩ := h
    obtain ⟨fso21, ho21, h⟩ := h
    obtain ⟨x22, f23, h⟩ := h
    by_cases c24 : x14 = x22
    · rw [if_pos c24] at h
      obtain ⟨r25, f26, h⟩ := h
      obtain ⟨na27, fa27, ha27, h⟩ := h
      obtain ⟨ba27, h⟩ := h
      obtain ⟨lk28, h⟩ := h
      obtain ⟨hNr25, h⟩ := h
      obtain ⟨r37, f38, h⟩ := h
      obtain ⟨na39, fa39, ha39, h⟩ := h
      obtain ⟨ba39, h⟩ := h
      obtain ⟨lk40, h⟩ := h
      obtain ⟨hNr37, h⟩ := h
      obtain ⟨ne_r25_r37, h⟩ := h
      obtain ⟨r9, M9, z9, d9, e9, h⟩ := h
      exact ⟨r9, M9, z9, d9, c_X8_trace_23_ff_at23 ho1 f3 c4 f6 ha7 ba7 ek8 lk8 qk8 ho10 f12 ho13 f15 ek16 lk16 qk16 ho18 f20 ho21 f23 c24 f26 ha27 ba27 ek16 lk28 hNr25 ek16 lk28 f38 ha39 ba39 ek16 lk40 hNr37 ek16 lk40 ne_r25_r37 e9, h⟩
    · rw [if_neg c24] at h
      obtain ⟨r9, M9, z9, d9, e9, h⟩ := h
      exact ⟨r9, M9, z9, d9, c_X8_trace_23_ft_at23 ho1 f3 c4 f6 ha7 ba7 ek8 lk8 qk8 ho10 f12 ho13 f15 ek16 lk16 qk16 ho18 f20 ho21 f23 c24 e9, h⟩
theorem TX8_trace_154 {N0 : Nat} {K : Nat → Nat} {d : Nat} {q : Nat} {u1 : Int32} {M : gm_H} {sz sl : Nat} {Q : Unit → gm_H → Nat → Nat → Prop} (h : ∃ fso1 : List Value, (M q = some (.inr (8, fso1))) ∧ (∃ x2 : Int32, (fso1[1]? = some (.int x2)) ∧ (if x2 ≤ u1 then (Q () M sz sl) else (hX8_trace_164 N0 K d q u1 (0 : Int32) M sz sl Q)))) : hX8_trace_154 N0 K d q u1 M sz sl Q := by
  obtain ⟨fso1, ho1, h⟩ := h
  obtain ⟨x2, f3, h⟩ := h
  by_cases c4 : x2 ≤ u1
  · rw [if_pos c4] at h
    exact ⟨_, _, _, _, c_X8_trace_154_t ho1 f3 c4, h⟩
  · rw [if_neg c4] at h
    obtain ⟨r9, M9, z9, d9, e9, h⟩ := h
    exact ⟨r9, M9, z9, d9, c_X8_trace_154_f_at164 ho1 f3 c4 e9, h⟩
theorem TX8_trace_104 {N0 : Nat} {K : Nat → Nat} {d : Nat} {q : Nat} {u1 : Int32} {u2 : Int32} {M : gm_H} {sz sl : Nat} {Q : Unit → gm_H → Nat → Nat → Prop} (h : ∃ fso1 : List Value, (M q = some (.inr (8, fso1))) ∧ (∃ x2 : Int32, (fso1[1]? = some (.int x2)) ∧ (if x2 ≤ u2 then (hX8_trace_94 N0 K d q (u1 + (1 : Int32)) M sz sl Q) else (∃ r5 : Nat, (fso1[3]? = some (.ref r5)) ∧ (∃ na7 : Nat, ∃ fa7 : Nat → Int32, (M r5 = some (.inl (.int, na7, .inl fa7))) ∧ ((na7 < 2 ^ 31) ∧ (∃ k8 : Nat, (u2 = nI k8) ∧ ((k8 < na7) ∧ (if (((((fa7 k8)).toUInt32 >>> ((u1).toUInt32 &&& Int32.toUInt32 31)).toInt32) &&& (1 : Int32)) = 0 then (hX8_trace_104 N0 K d q u1 (u2 + (1 : Int32)) M sz sl Q) else (∃ k11 : Nat, (u1 = nI k11) ∧ ((k11 < na7) ∧ ((N0 ≤ r5) ∧ (hX8_trace_104 N0 K d q u1 (u2 + (1 : Int32)) (gm_set M r5 (.inl (.int, na7, .inl (upd fa7 k8 ((fa7 k8) ||| (fa7 k11)))))) sz sl Q))))))))))))) : hX8_trace_104 N0 K d q u1 u2 M sz sl Q := by
  obtain ⟨fso1, ho1, h⟩ := h
  obtain ⟨x2, f3, h⟩ := h
  by_cases c4 : x2 ≤ u2
  · rw [if_pos c4] at h
    obtain ⟨r9, M9, z9, d9, e9, h⟩ := h
    exact ⟨r9, M9, z9, d9, c_X8_trace_104_t_at94 ho1 f3 c4 e9, h⟩
  · rw [if_neg c4] at h
    obtain ⟨r5, f6, h⟩ := h
    obtain ⟨na7, fa7, ha7, h⟩ := h
    obtain ⟨ba7, h⟩ := h
    obtain ⟨k8, ek8, h⟩ := h
    obtain ⟨lk8, h⟩ := h
    by_cases c9 : (((((fa7 k8)).toUInt32 >>> ((u1).toUInt32 &&& Int32.toUInt32 31)).toInt32) &&& (1 : Int32)) = 0
    · rw [if_pos c9] at h
      obtain ⟨r9, M9, z9, d9, e9, h⟩ := h
      exact ⟨r9, M9, z9, d9, c_X8_trace_104_ft_at104 ho1 f3 c4 f6 ha7 ba7 ek8 lk8 c9 e9, h⟩
    · rw [if_neg c9] at h
      obtain ⟨k11, ek11, h⟩ := h
      obtain ⟨lk11, h⟩ := h
      obtain ⟨hNr5, h⟩ := h
      obtain ⟨r9, M9, z9, d9, e9, h⟩ := h
      exact ⟨r9, M9, z9, d9, c_X8_trace_104_ff_at104 ho1 f3 c4 f6 ha7 ba7 ek8 lk8 c9 ek8 lk8 ek11 lk11 hNr5 ek8 lk8 e9, h⟩
theorem TX8_trace_164 {N0 : Nat} {K : Nat → Nat} {d : Nat} {q : Nat} {u1 : Int32} {u2 : Int32} {M : gm_H} {sz sl : Nat} {Q : Unit → gm_H → Nat → Nat → Prop} (h : ∃ fso1 : List Value, (M q = some (.inr (8, fso1))) ∧ (∃ x2 : Int32, (fso1[1]? = some (.int x2)) ∧ (if x2 ≤ u2 then (hX8_trace_154 N0 K d q (u1 + (1 : Int32)) M sz sl Q) else (∃ r5 : Nat, (fso1[2]? = some (.ref r5)) ∧ (∃ na7 : Nat, ∃ fa7 : Nat → Int32, (M r5 = some (.inl (.int, na7, .inl fa7))) ∧ ((na7 < 2 ^ 31) ∧ (∃ k8 : Nat, (u1 = nI k8) ∧ ((k8 < na7) ∧ (∃ r9 : Nat, (fso1[3]? = some (.ref r9)) ∧ (∃ na11 : Nat, ∃ fa11 : Nat → Int32, (M r9 = some (.inl (.int, na11, .inl fa11))) ∧ ((na11 < 2 ^ 31) ∧ ((k8 < na11) ∧ (if ((((((fa7 k8) ||| (fa11 k8))).toUInt32 >>> ((u2).toUInt32 &&& Int32.toUInt32 31)).toInt32) &&& (1 : Int32)) = 0 then (hX8_trace_164 N0 K d q u1 (u2 + (1 : Int32)) M sz sl Q) else (∃ r14 : Nat, (fso1[4]? = some (.ref r14)) ∧ (∃ na16 : Nat, ∃ fa16 : Nat → Int32, (M r14 = some (.inl (.int, na16, .inl fa16))) ∧ ((na16 < 2 ^ 31) ∧ ((k8 < na16) ∧ (∃ r18 : Nat, (fso1[0]? = some (.ref r18)) ∧ (∃ na20 : Nat, ∃ fa20 : Nat → Option Nat, (M r18 = some (.inl (.object "RuleArena$Rule", na20, .inr (.inr (.inr (.inr fa20)))))) ∧ ((na20 < 2 ^ 31) ∧ (∃ k21 : Nat, (u2 = nI k21) ∧ ((k21 < na20) ∧ (∃ r22 : Nat, (fa20 k21 = some r22) ∧ (∃ fso23 : List Value, (M r22 = some (.inr (7, fso23))) ∧ (gX7_keywords N0 K d r22 M sz (fun r25 M25 z25 d25 => ∃ na29 : Nat, ∃ fa29 : Nat → Int32, (M25 r14 = some (.inl (.int, na29, .inl fa29))) ∧ ((na29 < 2 ^ 31) ∧ ((N0 ≤ r14) ∧ ((k8 < na29) ∧ (hX8_trace_164 N0 K d q u1 (u2 + (1 : Int32)) (gm_set M25 r14 (.inl (.int, na29, .inl (upd fa29 k8 ((fa16 k8) ||| r25))))) z25 (sl + d25) Q)))))))))))))))))))))))))))))) : hX8_trace_164 N0 K d q u1 u2 M sz sl Q := by
  obtain ⟨fso1, ho1, h⟩ := h
  obtain ⟨x2, f3, h⟩ := h
  by_cases c4 : x2 ≤ u2
  · rw [if_pos c4] at h
    obtain ⟨r9, M9, z9, d9, e9, h⟩ := h
    exact ⟨r9, M9, z9, d9, c_X8_trace_164_t_at154 ho1 f3 c4 e9, h⟩
  · rw [if_neg c4] at h
    obtain ⟨r5, f6, h⟩ := h
    obtain ⟨na7, fa7, ha7, h⟩ := h
    obtain ⟨ba7, h⟩ := h
    obtain ⟨k8, ek8, h⟩ := h
    obtain ⟨lk8, h⟩ := h
    obtain ⟨r9, f10, h⟩ := h
    obtain ⟨na11, fa11, ha11, h⟩ := h
    obtain ⟨ba11, h⟩ := h
    obtain ⟨lk12, h⟩ := h
    by_cases c13 : ((((((fa7 k8) ||| (fa11 k8))).toUInt32 >>> ((u2).toUInt32 &&& Int32.toUInt32 31)).toInt32) &&& (1 : Int32)) = 0
    · rw [if_pos c13] at h
      obtain ⟨r9, M9, z9, d9, e9, h⟩ := h
      exact ⟨r9, M9, z9, d9, c_X8_trace_164_ft_at164 ho1 f3 c4 f6 ha7 ba7 ek8 lk8 f10 ha11 ba11 ek8 lk12 c13 e9, h⟩
    · rw [if_neg c13] at h
      obtain ⟨r14, f15, h⟩ := h
      obtain ⟨na16, fa16, ha16, h⟩ := h
      obtain ⟨ba16, h⟩ := h
      obtain ⟨lk17, h⟩ := h
      obtain ⟨r18, f19, h⟩ := h
      obtain ⟨na20, fa20, ha20, h⟩ := h
      obtain ⟨ba20, h⟩ := h
      obtain ⟨k21, ek21, h⟩ := h
      obtain ⟨lk21, h⟩ := h
      obtain ⟨r22, qk21, h⟩ := h
      obtain ⟨fso23, ho23, h⟩ := h
      obtain ⟨r25, M25, z25, d25, t25, h⟩ := h
      obtain ⟨na29, fa29, ha29, h⟩ := h
      obtain ⟨ba29, h⟩ := h
      obtain ⟨hNr14, h⟩ := h
      obtain ⟨lk30, h⟩ := h
      obtain ⟨r9, M9, z9, d9, e9, h⟩ := h
      exact ⟨r9, M9, z9, d9, c_X8_trace_164_ff_at164 ho1 f3 c4 f6 ha7 ba7 ek8 lk8 f10 ha11 ba11 ek8 lk12 c13 f15 ha16 ba16 ek8 lk17 f19 ha20 ba20 ek21 lk21 qk21 ho23 t25 ha29 ba29 hNr14 ek8 lk30 e9, h⟩
theorem TX8_headsIn_0 {N0 : Nat} {K : Nat → Nat} {d : Nat} {q : Nat} {p0 : Nat} {M : gm_H} {sz sl : Nat} {Q : Int32 → gm_H → Nat → Nat → Prop} (h : hX8_headsIn_4 N0 K d q p0 (0 : Int32) (0 : Int32) M sz sl Q) : hX8_headsIn_0 N0 K d q p0 M sz sl Q := by
  obtain ⟨r9, M9, z9, d9, e9, h⟩ := h
  exact ⟨r9, M9, z9, d9, c_X8_headsIn_0__at4  e9, h⟩
theorem gX8_headsIn.of {N0 : Nat} {K : Nat → Nat} {d : Nat} {q : Nat} {p0 : Nat} {M : gm_H} {sz : Nat} {Q : Int32 → gm_H → Nat → Nat → Prop} (h : hX8_headsIn_0 N0 K d q p0 M sz 0 Q) : gX8_headsIn N0 K (d + 1) q p0 M sz Q := gC.of rfl (by decide) (Nat.le_of_ble_eq_true rfl) rfl h
theorem TX8_headsIn_4 {N0 : Nat} {K : Nat → Nat} {d : Nat} {q : Nat} {p0 : Nat} {u2 : Int32} {u3 : Int32} {M : gm_H} {sz sl : Nat} {Q : Int32 → gm_H → Nat → Nat → Prop} (h : ∃ fso1 : List Value, (M q = some (.inr (8, fso1))) ∧ (∃ x2 : Int32, (fso1[1]? = some (.int x2)) ∧ (if x2 ≤ u3 then (Q u2 M sz sl) else (∃ r5 : Nat, (fso1[0]? = some (.ref r5)) ∧ (∃ na7 : Nat, ∃ fa7 : Nat → Option Nat, (M r5 = some (.inl (.object "RuleArena$Rule", na7, .inr (.inr (.inr (.inr fa7)))))) ∧ ((na7 < 2 ^ 31) ∧ (∃ k8 : Nat, (u3 = nI k8) ∧ ((k8 < na7) ∧ (∃ r9 : Nat, (fa7 k8 = some r9) ∧ (∃ fso10 : List Value, (M r9 = some (.inr (7, fso10))) ∧ (∃ r11 : Nat, (fso10[0]? = some (.ref r11)) ∧ (∃ fso13 : List Value, (M r11 = some (.inr (5, fso13))) ∧ (∃ x14 : Int32, (fso13[1]? = some (.int x14)) ∧ (∃ fso16 : List Value, (M p0 = some (.inr (7, fso16))) ∧ (gX7_asks N0 K d p0 x14 M sz (fun r18 M18 z18 d18 => if r18 = 0 then (hX8_headsIn_4 N0 K d q p0 u2 (u3 + (1 : Int32)) M18 z18 (sl + d18) Q) else (hX8_headsIn_4 N0 K d q p0 (u2 ||| ((1 : Int32) <<< (u3 &&& 31))) (u3 + (1 : Int32)) M18 z18 (sl + d18) Q))))))))))))))))) : hX8_headsIn_4 N0 K d q p0 u2 u3 M sz sl Q := by
  obtain ⟨fso1, ho1, h⟩ := h
  obtain ⟨x2, f3, h⟩ := h
  by_cases c4 : x2 ≤ u3
  · rw [if_pos c4] at h
    exact ⟨_, _, _, _, c_X8_headsIn_4_t ho1 f3 c4, h⟩
  · rw [if_neg c4] at h
    obtain ⟨r5, f6, h⟩ := h
    obtain ⟨na7, fa7, ha7, h⟩ := h
    obtain ⟨ba7, h⟩ := h
    obtain ⟨k8, ek8, h⟩ := h
    obtain ⟨lk8, h⟩ := h
    obtain ⟨r9, qk8, h⟩ := h
    obtain ⟨fso10, ho10, h⟩ := h
    obtain ⟨r11, f12, h⟩ := h
    obtain ⟨fso13, ho13, h⟩ := h
    obtain ⟨x14, f15, h⟩ := h
    obtain ⟨fso16, ho16, h⟩ := h
    obtain ⟨r18, M18, z18, d18, t18, h⟩ := h
    by_cases c22 : r18 = 0
    · rw [if_pos c22] at h
      obtain ⟨r9, M9, z9, d9, e9, h⟩ := h
      exact ⟨r9, M9, z9, d9, c_X8_headsIn_4_ft_at4 ho1 f3 c4 f6 ha7 ba7 ek8 lk8 qk8 ho10 f12 ho13 f15 ho16 t18 c22 e9, h⟩
    · rw [if_neg c22] at h
      obtain ⟨r9, M9, z9, d9, e9, h⟩ := h
      exact ⟨r9, M9, z9, d9, c_X8_headsIn_4_ff_at4 ho1 f3 c4 f6 ha7 ba7 ek8 lk8 qk8 ho10 f12 ho13 f15 ho16 t18 c22 e9, h⟩
theorem TX8_placeOf_0 {N0 : Nat} {K : Nat → Nat} {d : Nat} {q : Nat} {p0 : Int32} {M : gm_H} {sz sl : Nat} {Q : Int32 → gm_H → Nat → Nat → Prop} (h : hX8_placeOf_2 N0 K d q p0 (0 : Int32) M sz sl Q) : hX8_placeOf_0 N0 K d q p0 M sz sl Q := by
  obtain ⟨r9, M9, z9, d9, e9, h⟩ := h
  exact ⟨r9, M9, z9, d9, c_X8_placeOf_0__at2  e9, h⟩
theorem gX8_placeOf.of {N0 : Nat} {K : Nat → Nat} {d : Nat} {q : Nat} {p0 : Int32} {M : gm_H} {sz : Nat} {Q : Int32 → gm_H → Nat → Nat → Prop} (h : hX8_placeOf_0 N0 K d q p0 M sz 0 Q) : gX8_placeOf N0 K (d + 1) q p0 M sz Q := gC.of rfl (by decide) (Nat.le_of_ble_eq_true rfl) rfl h
theorem TX8_placeOf_2 {N0 : Nat} {K : Nat → Nat} {d : Nat} {q : Nat} {u1 : Int32} {u2 : Int32} {M : gm_H} {sz sl : Nat} {Q : Int32 → gm_H → Nat → Nat → Prop} (h : ∃ fso1 : List Value, (M q = some (.inr (8, fso1))) ∧ (∃ x2 : Int32, (fso1[1]? = some (.int x2)) ∧ (if x2 ≤ u2 then (Q (-1 : Int32) M sz sl) else (gX8_hasFault N0 K d q u1 u2 M sz (fun r6 M6 z6 d6 => if r6 = 0 then (hX8_placeOf_2 N0 K d q u1 (u2 + (1 : Int32)) M6 z6 (sl + d6) Q) else (Q u2 M6 z6 (sl + d6))))))) : hX8_placeOf_2 N0 K d q u1 u2 M sz sl Q := by
  obtain ⟨fso1, ho1, h⟩ := h
  obtain ⟨x2, f3, h⟩ := h
  by_cases c4 : x2 ≤ u2
  · rw [if_pos c4] at h
    exact ⟨_, _, _, _, c_X8_placeOf_2_t ho1 f3 c4, h⟩
  · rw [if_neg c4] at h
    obtain ⟨r6, M6, z6, d6, t6, h⟩ := h
    by_cases c10 : r6 = 0
    · rw [if_pos c10] at h
      obtain ⟨r9, M9, z9, d9, e9, h⟩ := h
      exact ⟨r9, M9, z9, d9, c_X8_placeOf_2_ft_at2 ho1 f3 c4 t6 c10 e9, h⟩
    · rw [if_neg c10] at h
      exact ⟨_, _, _, _, c_X8_placeOf_2_ff ho1 f3 c4 t6 c10, h⟩
theorem TX8_hasFault_0 {N0 : Nat} {K : Nat → Nat} {d : Nat} {q : Nat} {p0 : Int32} {p1 : Int32} {M : gm_H} {sz sl : Nat} {Q : Int32 → gm_H → Nat → Nat → Prop} (h : ((p0 = 2) ∧ (∃ fso2 : List Value, (M q = some (.inr (8, fso2))) ∧ (∃ r3 : Nat, (fso2[0]? = some (.ref r3)) ∧ (∃ na5 : Nat, ∃ fa5 : Nat → Option Nat, (M r3 = some (.inl (.object "RuleArena$Rule", na5, .inr (.inr (.inr (.inr fa5)))))) ∧ ((na5 < 2 ^ 31) ∧ (∃ k6 : Nat, (p1 = nI k6) ∧ ((k6 < na5) ∧ (∃ r7 : Nat, (fa5 k6 = some r7) ∧ (∃ fso8 : List Value, (M r7 = some (.inr (7, fso8))) ∧ (gX7_isMisplaced N0 K d r7 M sz (fun r10 M10 z10 d10 => (r10 = 0 ∨ r10 = 1) ∧ (Q r10 M10 z10 (sl + d10))))))))))))) ∨ ((p0 = 3) ∧ (∃ fso2 : List Value, (M q = some (.inr (8, fso2))) ∧ (∃ r3 : Nat, (fso2[0]? = some (.ref r3)) ∧ (∃ na5 : Nat, ∃ fa5 : Nat → Option Nat, (M r3 = some (.inl (.object "RuleArena$Rule", na5, .inr (.inr (.inr (.inr fa5)))))) ∧ ((na5 < 2 ^ 31) ∧ (∃ k6 : Nat, (p1 = nI k6) ∧ ((k6 < na5) ∧ (∃ r7 : Nat, (fa5 k6 = some r7) ∧ (∃ fso8 : List Value, (M r7 = some (.inr (7, fso8))) ∧ (gX7_isLoose N0 K d r7 M sz (fun r10 M10 z10 d10 => (r10 = 0 ∨ r10 = 1) ∧ (Q r10 M10 z10 (sl + d10))))))))))))) ∨ ((p0 = 4) ∧ (∃ fso2 : List Value, (M q = some (.inr (8, fso2))) ∧ (gX8_deniesItself N0 K d q p1 M sz (fun r4 M4 z4 d4 => (r4 = 0 ∨ r4 = 1) ∧ (Q r4 M4 z4 (sl + d4)))))) ∨ ((p0.toInt < 2 ∨ 4 < p0.toInt) ∧ (∃ fso2 : List Value, (M q = some (.inr (8, fso2))) ∧ (gX8_looksAhead N0 K d q p1 M sz (fun r4 M4 z4 d4 => (r4 = 0 ∨ r4 = 1) ∧ (Q r4 M4 z4 (sl + d4))))))) : hX8_hasFault_0 N0 K d q p0 p1 M sz sl Q := by
  rcases h with ⟨cs, h⟩ | ⟨cs, h⟩ | ⟨cs, h⟩ | ⟨cs, h⟩
  · obtain ⟨fso2, ho2, h⟩ := h
    obtain ⟨r3, f4, h⟩ := h
    obtain ⟨na5, fa5, ha5, h⟩ := h
    obtain ⟨ba5, h⟩ := h
    obtain ⟨k6, ek6, h⟩ := h
    obtain ⟨lk6, h⟩ := h
    obtain ⟨r7, qk6, h⟩ := h
    obtain ⟨fso8, ho8, h⟩ := h
    obtain ⟨r10, M10, z10, d10, t10, h⟩ := h
    obtain ⟨z14, h⟩ := h
    exact ⟨_, _, _, _, c_X8_hasFault_0_s2 cs ho2 f4 ha5 ba5 ek6 lk6 qk6 ho8 t10 z14, h⟩
  · obtain ⟨fso2, ho2, h⟩ := h
    obtain ⟨r3, f4, h⟩ := h
    obtain ⟨na5, fa5, ha5, h⟩ := h
    obtain ⟨ba5, h⟩ := h
    obtain ⟨k6, ek6, h⟩ := h
    obtain ⟨lk6, h⟩ := h
    obtain ⟨r7, qk6, h⟩ := h
    obtain ⟨fso8, ho8, h⟩ := h
    obtain ⟨r10, M10, z10, d10, t10, h⟩ := h
    obtain ⟨z14, h⟩ := h
    exact ⟨_, _, _, _, c_X8_hasFault_0_s3 cs ho2 f4 ha5 ba5 ek6 lk6 qk6 ho8 t10 z14, h⟩
  · obtain ⟨fso2, ho2, h⟩ := h
    obtain ⟨r4, M4, z4, d4, t4, h⟩ := h
    obtain ⟨z8, h⟩ := h
    exact ⟨_, _, _, _, c_X8_hasFault_0_s4 cs ho2 t4 z8, h⟩
  · obtain ⟨fso2, ho2, h⟩ := h
    obtain ⟨r4, M4, z4, d4, t4, h⟩ := h
    obtain ⟨z8, h⟩ := h
    exact ⟨_, _, _, _, c_X8_hasFault_0_sNone cs ho2 t4 z8, h⟩
theorem gX8_hasFault.of {N0 : Nat} {K : Nat → Nat} {d : Nat} {q : Nat} {p0 : Int32} {p1 : Int32} {M : gm_H} {sz : Nat} {Q : Int32 → gm_H → Nat → Nat → Prop} (h : hX8_hasFault_0 N0 K d q p0 p1 M sz 0 Q) : gX8_hasFault N0 K (d + 1) q p0 p1 M sz Q := gC.of rfl (by decide) (Nat.le_of_ble_eq_true rfl) rfl h
theorem TX8_deniesItself_0 {N0 : Nat} {K : Nat → Nat} {d : Nat} {q : Nat} {p0 : Int32} {M : gm_H} {sz sl : Nat} {Q : Int32 → Prop} (h : hX8_deniesItself_2 N0 K d q p0 (0 : Int32) M sz sl Q) : hX8_deniesItself_0 N0 K d q p0 M sz sl Q := by
  obtain ⟨r9, M9, z9, d9, e9, h⟩ := h
  exact ⟨r9, M9, z9, d9, c_X8_deniesItself_0__at2  e9, h⟩
theorem gX8_deniesItself.of {N0 : Nat} {K : Nat → Nat} {d : Nat} {q : Nat} {p0 : Int32} {M : gm_H} {sz : Nat} {Q : Int32 → Prop} (h : hX8_deniesItself_0 N0 K d q p0 M sz 0 Q) : gX8_deniesItself N0 K (d + 1) q p0 M sz (fun r M' sz' dd => M' = M ∧ sz' = sz ∧ dd = 0 ∧ Q r) := gC.of rfl (by decide) (Nat.le_of_ble_eq_true rfl) rfl h
theorem TX8_deniesItself_2 {N0 : Nat} {K : Nat → Nat} {d : Nat} {q : Nat} {u1 : Int32} {u2 : Int32} {M : gm_H} {sz sl : Nat} {Q : Int32 → Prop} (h : ∃ fso1 : List Value, (M q = some (.inr (8, fso1))) ∧ (∃ r2 : Nat, (fso1[0]? = some (.ref r2)) ∧ (∃ na4 : Nat, ∃ fa4 : Nat → Option Nat, (M r2 = some (.inl (.object "RuleArena$Rule", na4, .inr (.inr (.inr (.inr fa4)))))) ∧ ((na4 < 2 ^ 31) ∧ (∃ k5 : Nat, (u1 = nI k5) ∧ ((k5 < na4) ∧ (∃ r6 : Nat, (fa4 k5 = some r6) ∧ (∃ fso7 : List Value, (M r6 = some (.inr (7, fso7))) ∧ (∃ x8 : Int32, (fso7[2]? = some (.int x8)) ∧ (if x8 ≤ u2 then (Q (0 : Int32)) else (∃ r12 : Nat, (fa4 k5 = some r12) ∧ (∃ fso13 : List Value, (M r12 = some (.inr (7, fso13))) ∧ (∃ r14 : Nat, (fso13[1]? = some (.ref r14)) ∧ (∃ na16 : Nat, ∃ fa16 : Nat → Option Nat, (M r14 = some (.inl (.object "RuleArena$Literal", na16, .inr (.inr (.inr (.inr fa16)))))) ∧ ((na16 < 2 ^ 31) ∧ (∃ k17 : Nat, (u2 = nI k17) ∧ ((k17 < na16) ∧ (∃ r18 : Nat, (fa16 k17 = some r18) ∧ (hX8_deniesItself_30 N0 K d q u1 u2 r18 (0 : Int32) M sz sl Q))))))))))))))))))) : hX8_deniesItself_2 N0 K d q u1 u2 M sz sl Q := by
  obtain ⟨fso1, ho1, h⟩ := h
  obtain ⟨r2, f3, h⟩ := h
  obtain ⟨na4, fa4, ha4, h⟩ := h
  obtain ⟨ba4, h⟩ := h
  obtain ⟨k5, ek5, h⟩ := h
  obtain ⟨lk5, h⟩ := h
  obtain ⟨r6, qk5, h⟩ := h
  obtain ⟨fso7, ho7, h⟩ := h
  obtain ⟨x8, f9, h⟩ := h
  by_cases c10 : x8 ≤ u2
  · rw [if_pos c10] at h
    exact ⟨_, _, _, _, c_X8_deniesItself_2_t ho1 f3 ha4 ba4 ek5 lk5 qk5 ho7 f9 c10, rfl, rfl, rfl, h⟩
  · rw [if_neg c10] at h
    obtain ⟨r12, qk11, h⟩ := h
    obtain ⟨fso13, ho13, h⟩ := h
    obtain ⟨r14, f15, h⟩ := h
    obtain ⟨na16, fa16, ha16, h⟩ := h
    obtain ⟨ba16, h⟩ := h
    obtain ⟨k17, ek17, h⟩ := h
    obtain ⟨lk17, h⟩ := h
    obtain ⟨r18, qk17, h⟩ := h
    obtain ⟨r9, M9, z9, d9, e9, h⟩ := h
    exact ⟨r9, M9, z9, d9, c_X8_deniesItself_2_f_at30 ho1 f3 ha4 ba4 ek5 lk5 qk5 ho7 f9 c10 ek5 lk5 qk11 ho13 f15 ha16 ba16 ek17 lk17 qk17 e9, h⟩
theorem TX8_deniesItself_30 {N0 : Nat} {K : Nat → Nat} {d : Nat} {q : Nat} {u1 : Int32} {u2 : Int32} {a3 : Nat} {u4 : Int32} {M : gm_H} {sz sl : Nat} {Q : Int32 → Prop} (h : ∃ fso1 : List Value, (M q = some (.inr (8, fso1))) ∧ (∃ x2 : Int32, (fso1[1]? = some (.int x2)) ∧ (if x2 ≤ u4 then (hX8_deniesItself_2 N0 K d q u1 (u2 + (1 : Int32)) M sz sl Q) else (∃ fso5 : List Value, (M a3 = some (.inr (5, fso5))) ∧ (∃ x6 : Int32, (fso5[0]? = some (.int x6)) ∧ (if x6 = (1 : Int32) then (∃ r9 : Nat, (fso1[0]? = some (.ref r9)) ∧ (∃ na11 : Nat, ∃ fa11 : Nat → Option Nat, (M r9 = some (.inl (.object "RuleArena$Rule", na11, .inr (.inr (.inr (.inr fa11)))))) ∧ ((na11 < 2 ^ 31) ∧ (∃ k12 : Nat, (u4 = nI k12) ∧ ((k12 < na11) ∧ (∃ r13 : Nat, (fa11 k12 = some r13) ∧ (∃ fso14 : List Value, (M r13 = some (.inr (7, fso14))) ∧ (∃ r15 : Nat, (fso14[0]? = some (.ref r15)) ∧ (∃ fso17 : List Value, (M r15 = some (.inr (5, fso17))) ∧ (∃ x18 : Int32, (fso17[1]? = some (.int x18)) ∧ (∃ x20 : Int32, (fso5[1]? = some (.int x20)) ∧ (if x18 = x20 then (∃ r23 : Nat, (fso1[3]? = some (.ref r23)) ∧ (∃ na25 : Nat, ∃ fa25 : Nat → Int32, (M r23 = some (.inl (.int, na25, .inl fa25))) ∧ ((na25 < 2 ^ 31) ∧ ((k12 < na25) ∧ (if (((((fa25 k12)).toUInt32 >>> ((u1).toUInt32 &&& Int32.toUInt32 31)).toInt32) &&& (1 : Int32)) = 0 then (hX8_deniesItself_30 N0 K d q u1 u2 a3 (u4 + (1 : Int32)) M sz sl Q) else (Q (1 : Int32))))))) else (hX8_deniesItself_30 N0 K d q u1 u2 a3 (u4 + (1 : Int32)) M sz sl Q))))))))))))) else (hX8_deniesItself_2 N0 K d q u1 (u2 + (1 : Int32)) M sz sl Q))))))) : hX8_deniesItself_30 N0 K d q u1 u2 a3 u4 M sz sl Q := by
  obtain ⟨fso1, ho1, h⟩ := h
  obtain ⟨x2, f3, h⟩ := h
  by_cases c4 : x2 ≤ u4
  · rw [if_pos c4] at h
    obtain ⟨r9, M9, z9, d9, e9, h⟩ := h
    exact ⟨r9, M9, z9, d9, c_X8_deniesItself_30_t_at2 ho1 f3 c4 e9, h⟩
  · rw [if_neg c4] at h
    obtain ⟨fso5, ho5, h⟩ := h
    obtain ⟨x6, f7, h⟩ := h
    by_cases c8 : x6 = (1 : Int32)
    · rw [if_pos c8] at h
      obtain ⟨r9, f10, h⟩ := h
      obtain ⟨na11, fa11, ha11, h⟩ := h
      obtain ⟨ba11, h⟩ := h
      obtain ⟨k12, ek12, h⟩ := h
      obtain ⟨lk12, h⟩ := h
      obtain ⟨r13, qk12, h⟩ := h
      obtain ⟨fso14, ho14, h⟩ := h
      obtain ⟨r15, f16, h⟩ := h
      obtain ⟨fso17, ho17, h⟩ := h
      obtain ⟨x18, f19, h⟩ := h
      obtain ⟨x20, f21, h⟩ := h
      by_cases c22 : x18 = x20
      · rw [if_pos c22] at h
        obtain ⟨r23, f24, h⟩ := h
        obtain ⟨na25, fa25, ha25, h⟩ := h
        obtain ⟨ba25, h⟩ := h
        obtain ⟨lk26, h⟩ := h
        by_cases c27 : (((((fa25 k12)).toUInt32 >>> ((u1).toUInt32 &&& Int32.toUInt32 31)).toInt32) &&& (1 : Int32)) = 0
        · rw [if_pos c27] at h
          obtain ⟨r9, M9, z9, d9, e9, h⟩ := h
          exact ⟨r9, M9, z9, d9, c_X8_deniesItself_30_ffft_at30 ho1 f3 c4 ho5 f7 c8 f10 ha11 ba11 ek12 lk12 qk12 ho14 f16 ho17 f19 f21 c22 f24 ha25 ba25 ek12 lk26 c27 e9, h⟩
        · rw [if_neg c27] at h
          exact ⟨_, _, _, _, c_X8_deniesItself_30_ffff ho1 f3 c4 ho5 f7 c8 f10 ha11 ba11 ek12 lk12 qk12 ho14 f16 ho17 f19 f21 c22 f24 ha25 ba25 ek12 lk26 c27, rfl, rfl, rfl, h⟩
      · rw [if_neg c22] at h
        obtain ⟨r9, M9, z9, d9, e9, h⟩ := h
        exact ⟨r9, M9, z9, d9, c_X8_deniesItself_30_fft_at30 ho1 f3 c4 ho5 f7 c8 f10 ha11 ba11 ek12 lk12 qk12 ho14 f16 ho17 f19 f21 c22 e9, h⟩
    · rw [if_neg c8] at h
      obtain ⟨r9, M9, z9, d9, e9, h⟩ := h
      exact ⟨r9, M9, z9, d9, c_X8_deniesItself_30_ft_at2 ho1 f3 c4 ho5 f7 c8 e9, h⟩
theorem TX8_looksAhead_0 {N0 : Nat} {K : Nat → Nat} {d : Nat} {q : Nat} {p0 : Int32} {M : gm_H} {sz sl : Nat} {Q : Int32 → Prop} (h : ∃ fso1 : List Value, (M q = some (.inr (8, fso1))) ∧ (∃ r2 : Nat, (fso1[0]? = some (.ref r2)) ∧ (∃ na4 : Nat, ∃ fa4 : Nat → Option Nat, (M r2 = some (.inl (.object "RuleArena$Rule", na4, .inr (.inr (.inr (.inr fa4)))))) ∧ ((na4 < 2 ^ 31) ∧ (∃ k5 : Nat, (p0 = nI k5) ∧ ((k5 < na4) ∧ (∃ r6 : Nat, (fa4 k5 = some r6) ∧ (∃ fso7 : List Value, (M r6 = some (.inr (7, fso7))) ∧ (∃ r8 : Nat, (fso7[0]? = some (.ref r8)) ∧ (∃ fso10 : List Value, (M r8 = some (.inr (5, fso10))) ∧ (∃ x11 : Int32, (fso10[1]? = some (.int x11)) ∧ (((x11 = 1) ∧ (∃ r14 : Nat, (fso1[4]? = some (.ref r14)) ∧ (∃ na16 : Nat, ∃ fa16 : Nat → Int32, (M r14 = some (.inl (.int, na16, .inl fa16))) ∧ ((na16 < 2 ^ 31) ∧ ((k5 < na16) ∧ (if ((fa16 k5) &&& (244 : Int32)) = 0 then (Q (0 : Int32)) else (Q (1 : Int32)))))))) ∨ ((x11 = 2) ∧ (Q (0 : Int32))) ∨ ((x11 = 3) ∧ (Q (0 : Int32))) ∨ ((x11 = 4) ∧ (Q (0 : Int32))) ∨ ((x11 = 5) ∧ (∃ r14 : Nat, (fso1[4]? = some (.ref r14)) ∧ (∃ na16 : Nat, ∃ fa16 : Nat → Int32, (M r14 = some (.inl (.int, na16, .inl fa16))) ∧ ((na16 < 2 ^ 31) ∧ ((k5 < na16) ∧ (if ((fa16 k5) &&& (16 : Int32)) = 0 then (Q (0 : Int32)) else (Q (1 : Int32)))))))) ∨ ((x11 = 6) ∧ (∃ r14 : Nat, (fso1[4]? = some (.ref r14)) ∧ (∃ na16 : Nat, ∃ fa16 : Nat → Int32, (M r14 = some (.inl (.int, na16, .inl fa16))) ∧ ((na16 < 2 ^ 31) ∧ ((k5 < na16) ∧ (if ((fa16 k5) &&& (16 : Int32)) = 0 then (Q (0 : Int32)) else (Q (1 : Int32)))))))) ∨ ((x11 = 7) ∧ (∃ r14 : Nat, (fso1[4]? = some (.ref r14)) ∧ (∃ na16 : Nat, ∃ fa16 : Nat → Int32, (M r14 = some (.inl (.int, na16, .inl fa16))) ∧ ((na16 < 2 ^ 31) ∧ ((k5 < na16) ∧ (if ((fa16 k5) &&& (16 : Int32)) = 0 then (Q (0 : Int32)) else (Q (1 : Int32)))))))) ∨ ((x11.toInt < 1 ∨ 7 < x11.toInt) ∧ (Q (0 : Int32))))))))))))))) : hX8_looksAhead_0 N0 K d q p0 M sz sl Q := by
  obtain ⟨fso1, ho1, h⟩ := h
  obtain ⟨r2, f3, h⟩ := h
  obtain ⟨na4, fa4, ha4, h⟩ := h
  obtain ⟨ba4, h⟩ := h
  obtain ⟨k5, ek5, h⟩ := h
  obtain ⟨lk5, h⟩ := h
  obtain ⟨r6, qk5, h⟩ := h
  obtain ⟨fso7, ho7, h⟩ := h
  obtain ⟨r8, f9, h⟩ := h
  obtain ⟨fso10, ho10, h⟩ := h
  obtain ⟨x11, f12, h⟩ := h
  rcases h with ⟨cs, h⟩ | ⟨cs, h⟩ | ⟨cs, h⟩ | ⟨cs, h⟩ | ⟨cs, h⟩ | ⟨cs, h⟩ | ⟨cs, h⟩ | ⟨cs, h⟩
  · obtain ⟨r14, f15, h⟩ := h
    obtain ⟨na16, fa16, ha16, h⟩ := h
    obtain ⟨ba16, h⟩ := h
    obtain ⟨lk17, h⟩ := h
    by_cases c18 : ((fa16 k5) &&& (244 : Int32)) = 0
    · rw [if_pos c18] at h
      exact ⟨_, _, _, _, c_X8_looksAhead_0_s1t ho1 f3 ha4 ba4 ek5 lk5 qk5 ho7 f9 ho10 f12 cs f15 ha16 ba16 ek5 lk17 c18, rfl, rfl, rfl, h⟩
    · rw [if_neg c18] at h
      exact ⟨_, _, _, _, c_X8_looksAhead_0_s1f ho1 f3 ha4 ba4 ek5 lk5 qk5 ho7 f9 ho10 f12 cs f15 ha16 ba16 ek5 lk17 c18, rfl, rfl, rfl, h⟩
  · exact ⟨_, _, _, _, c_X8_looksAhead_0_s2 ho1 f3 ha4 ba4 ek5 lk5 qk5 ho7 f9 ho10 f12 cs, rfl, rfl, rfl, h⟩
  · exact ⟨_, _, _, _, c_X8_looksAhead_0_s3 ho1 f3 ha4 ba4 ek5 lk5 qk5 ho7 f9 ho10 f12 cs, rfl, rfl, rfl, h⟩
  · exact ⟨_, _, _, _, c_X8_looksAhead_0_s4 ho1 f3 ha4 ba4 ek5 lk5 qk5 ho7 f9 ho10 f12 cs, rfl, rfl, rfl, h⟩
  · obtain ⟨r14, f15, h⟩ := h
    obtain ⟨na16, fa16, ha16, h⟩ := h
    obtain ⟨ba16, h⟩ := h
    obtain ⟨lk17, h⟩ := h
    by_cases c18 : ((fa16 k5) &&& (16 : Int32)) = 0
    · rw [if_pos c18] at h
      exact ⟨_, _, _, _, c_X8_looksAhead_0_s5t ho1 f3 ha4 ba4 ek5 lk5 qk5 ho7 f9 ho10 f12 cs f15 ha16 ba16 ek5 lk17 c18, rfl, rfl, rfl, h⟩
    · rw [if_neg c18] at h
      exact ⟨_, _, _, _, c_X8_looksAhead_0_s5f ho1 f3 ha4 ba4 ek5 lk5 qk5 ho7 f9 ho10 f12 cs f15 ha16 ba16 ek5 lk17 c18, rfl, rfl, rfl, h⟩
  · obtain ⟨r14, f15, h⟩ := h
    obtain ⟨na16, fa16, ha16, h⟩ := h
    obtain ⟨ba16, h⟩ := h
    obtain ⟨lk17, h⟩ := h
    by_cases c18 : ((fa16 k5) &&& (16 : Int32)) = 0
    · rw [if_pos c18] at h
      exact ⟨_, _, _, _, c_X8_looksAhead_0_s6t ho1 f3 ha4 ba4 ek5 lk5 qk5 ho7 f9 ho10 f12 cs f15 ha16 ba16 ek5 lk17 c18, rfl, rfl, rfl, h⟩
    · rw [if_neg c18] at h
      exact ⟨_, _, _, _, c_X8_looksAhead_0_s6f ho1 f3 ha4 ba4 ek5 lk5 qk5 ho7 f9 ho10 f12 cs f15 ha16 ba16 ek5 lk17 c18, rfl, rfl, rfl, h⟩
  · obtain ⟨r14, f15, h⟩ := h
    obtain ⟨na16, fa16, ha16, h⟩ := h
    obtain ⟨ba16, h⟩ := h
    obtain ⟨lk17, h⟩ := h
    by_cases c18 : ((fa16 k5) &&& (16 : Int32)) = 0
    · rw [if_pos c18] at h
      exact ⟨_, _, _, _, c_X8_looksAhead_0_s7t ho1 f3 ha4 ba4 ek5 lk5 qk5 ho7 f9 ho10 f12 cs f15 ha16 ba16 ek5 lk17 c18, rfl, rfl, rfl, h⟩
    · rw [if_neg c18] at h
      exact ⟨_, _, _, _, c_X8_looksAhead_0_s7f ho1 f3 ha4 ba4 ek5 lk5 qk5 ho7 f9 ho10 f12 cs f15 ha16 ba16 ek5 lk17 c18, rfl, rfl, rfl, h⟩
  · exact ⟨_, _, _, _, c_X8_looksAhead_0_sNone ho1 f3 ha4 ba4 ek5 lk5 qk5 ho7 f9 ho10 f12 cs, rfl, rfl, rfl, h⟩
theorem gX8_looksAhead.of {N0 : Nat} {K : Nat → Nat} {d : Nat} {q : Nat} {p0 : Int32} {M : gm_H} {sz : Nat} {Q : Int32 → Prop} (h : hX8_looksAhead_0 N0 K d q p0 M sz 0 Q) : gX8_looksAhead N0 K (d + 1) q p0 M sz (fun r M' sz' dd => M' = M ∧ sz' = sz ∧ dd = 0 ∧ Q r) := gC.of rfl (by decide) (Nat.le_of_ble_eq_true rfl) rfl h
theorem TX9_isLetter_0 {N0 : Nat} {K : Nat → Nat} {d : Nat} {p0 : Int32} {M : gm_H} {sz sl : Nat} {Q : Int32 → Prop} (h : if p0 < (97 : Int32) then (Q (0 : Int32)) else (if (122 : Int32) < p0 then (Q (0 : Int32)) else (Q (1 : Int32)))) : hX9_isLetter_0 N0 K d p0 M sz sl Q := by
  by_cases c1 : p0 < (97 : Int32)
  · rw [if_pos c1] at h
    exact ⟨_, _, _, _, c_X9_isLetter_0_t c1, rfl, rfl, rfl, h⟩
  · rw [if_neg c1] at h
    by_cases c2 : (122 : Int32) < p0
    · rw [if_pos c2] at h
      exact ⟨_, _, _, _, c_X9_isLetter_0_ft c1 c2, rfl, rfl, rfl, h⟩
    · rw [if_neg c2] at h
      exact ⟨_, _, _, _, c_X9_isLetter_0_ff c1 c2, rfl, rfl, rfl, h⟩
theorem gX9_isLetter.of {N0 : Nat} {K : Nat → Nat} {d : Nat} {p0 : Int32} {M : gm_H} {sz : Nat} {Q : Int32 → Prop} (h : hX9_isLetter_0 N0 K d p0 M sz 0 Q) : gX9_isLetter N0 K (d + 1) p0 M sz (fun r M' sz' dd => M' = M ∧ sz' = sz ∧ dd = 0 ∧ Q r) := gC.of rfl (by decide) (Nat.le_of_ble_eq_true rfl) rfl h
theorem TX9_isVariable_0 {N0 : Nat} {K : Nat → Nat} {d : Nat} {p0 : Int32} {M : gm_H} {sz sl : Nat} {Q : Int32 → Prop} (h : if p0 < (85 : Int32) then (Q (0 : Int32)) else (if (90 : Int32) < p0 then (Q (0 : Int32)) else (Q (1 : Int32)))) : hX9_isVariable_0 N0 K d p0 M sz sl Q := by
  by_cases c1 : p0 < (85 : Int32)
  · rw [if_pos c1] at h
    exact ⟨_, _, _, _, c_X9_isVariable_0_t c1, rfl, rfl, rfl, h⟩
  · rw [if_neg c1] at h
    by_cases c2 : (90 : Int32) < p0
    · rw [if_pos c2] at h
      exact ⟨_, _, _, _, c_X9_isVariable_0_ft c1 c2, rfl, rfl, rfl, h⟩
    · rw [if_neg c2] at h
      exact ⟨_, _, _, _, c_X9_isVariable_0_ff c1 c2, rfl, rfl, rfl, h⟩
theorem gX9_isVariable.of {N0 : Nat} {K : Nat → Nat} {d : Nat} {p0 : Int32} {M : gm_H} {sz : Nat} {Q : Int32 → Prop} (h : hX9_isVariable_0 N0 K d p0 M sz 0 Q) : gX9_isVariable N0 K (d + 1) p0 M sz (fun r M' sz' dd => M' = M ∧ sz' = sz ∧ dd = 0 ∧ Q r) := gC.of rfl (by decide) (Nat.le_of_ble_eq_true rfl) rfl h
theorem TX9_isPlain_0 {N0 : Nat} {K : Nat → Nat} {d : Nat} {p0 : Int32} {M : gm_H} {sz sl : Nat} {Q : Int32 → Prop} (h : if p0 < (97 : Int32) then (if p0 < (85 : Int32) then (if p0 < (48 : Int32) then (Q (0 : Int32)) else (if (57 : Int32) < p0 then (Q (0 : Int32)) else (Q (1 : Int32)))) else (if p0 ≤ (90 : Int32) then (Q (1 : Int32)) else (if p0 < (48 : Int32) then (Q (0 : Int32)) else (if (57 : Int32) < p0 then (Q (0 : Int32)) else (Q (1 : Int32)))))) else (if p0 ≤ (122 : Int32) then (Q (1 : Int32)) else (if p0 < (85 : Int32) then (if p0 < (48 : Int32) then (Q (0 : Int32)) else (if (57 : Int32) < p0 then (Q (0 : Int32)) else (Q (1 : Int32)))) else (if p0 ≤ (90 : Int32) then (Q (1 : Int32)) else (if p0 < (48 : Int32) then (Q (0 : Int32)) else (if (57 : Int32) < p0 then (Q (0 : Int32)) else (Q (1 : Int32)))))))) : hX9_isPlain_0 N0 K d p0 M sz sl Q := by
  by_cases c1 : p0 < (97 : Int32)
  · rw [if_pos c1] at h
    by_cases c2 : p0 < (85 : Int32)
    · rw [if_pos c2] at h
      by_cases c3 : p0 < (48 : Int32)
      · rw [if_pos c3] at h
        exact ⟨_, _, _, _, c_X9_isPlain_0_ttt c1 c2 c3, rfl, rfl, rfl, h⟩
      · rw [if_neg c3] at h
        by_cases c4 : (57 : Int32) < p0
        · rw [if_pos c4] at h
          exact ⟨_, _, _, _, c_X9_isPlain_0_ttft c1 c2 c3 c4, rfl, rfl, rfl, h⟩
        · rw [if_neg c4] at h
          exact ⟨_, _, _, _, c_X9_isPlain_0_ttff c1 c2 c3 c4, rfl, rfl, rfl, h⟩
    · rw [if_neg c2] at h
      by_cases c3 : p0 ≤ (90 : Int32)
      · rw [if_pos c3] at h
        exact ⟨_, _, _, _, c_X9_isPlain_0_tft c1 c2 c3, rfl, rfl, rfl, h⟩
      · rw [if_neg c3] at h
        by_cases c4 : p0 < (48 : Int32)
        · rw [if_pos c4] at h
          exact ⟨_, _, _, _, c_X9_isPlain_0_tfft c1 c2 c3 c4, rfl, rfl, rfl, h⟩
        · rw [if_neg c4] at h
          by_cases c5 : (57 : Int32) < p0
          · rw [if_pos c5] at h
            exact ⟨_, _, _, _, c_X9_isPlain_0_tffft c1 c2 c3 c4 c5, rfl, rfl, rfl, h⟩
          · rw [if_neg c5] at h
            exact ⟨_, _, _, _, c_X9_isPlain_0_tffff c1 c2 c3 c4 c5, rfl, rfl, rfl, h⟩
  · rw [if_neg c1] at h
    by_cases c2 : p0 ≤ (122 : Int32)
    · rw [if_pos c2] at h
      exact ⟨_, _, _, _, c_X9_isPlain_0_ft c1 c2, rfl, rfl, rfl, h⟩
    · rw [if_neg c2] at h
      by_cases c3 : p0 < (85 : Int32)
      · rw [if_pos c3] at h
        by_cases c4 : p0 < (48 : Int32)
        · rw [if_pos c4] at h
          exact ⟨_, _, _, _, c_X9_isPlain_0_fftt c1 c2 c3 c4, rfl, rfl, rfl, h⟩
        · rw [if_neg c4] at h
          by_cases c5 : (57 : Int32) < p0
          · rw [if_pos c5] at h
            exact ⟨_, _, _, _, c_X9_isPlain_0_fftft c1 c2 c3 c4 c5, rfl, rfl, rfl, h⟩
          · rw [if_neg c5] at h
            exact ⟨_, _, _, _, c_X9_isPlain_0_fftff c1 c2 c3 c4 c5, rfl, rfl, rfl, h⟩
      · rw [if_neg c3] at h
        by_cases c4 : p0 ≤ (90 : Int32)
        · rw [if_pos c4] at h
          exact ⟨_, _, _, _, c_X9_isPlain_0_ffft c1 c2 c3 c4, rfl, rfl, rfl, h⟩
        · rw [if_neg c4] at h
          by_cases c5 : p0 < (48 : Int32)
          · rw [if_pos c5] at h
            exact ⟨_, _, _, _, c_X9_isPlain_0_fffft c1 c2 c3 c4 c5, rfl, rfl, rfl, h⟩
          · rw [if_neg c5] at h
            by_cases c6 : (57 : Int32) < p0
            · rw [if_pos c6] at h
              exact ⟨_, _, _, _, c_X9_isPlain_0_ffffft c1 c2 c3 c4 c5 c6, rfl, rfl, rfl, h⟩
            · rw [if_neg c6] at h
              exact ⟨_, _, _, _, c_X9_isPlain_0_ffffff c1 c2 c3 c4 c5 c6, rfl, rfl, rfl, h⟩
