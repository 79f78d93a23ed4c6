/-! the reference, a lemma a start: what must hold there, as a tree (by gen/tree.py from the paths) -/
abbrev vI : Int32 → Option Value := fun r => some (.int r)
abbrev vL : Int64 → Option Value := fun r => some (.long r)
abbrev vU : Unit → Option Value := fun _ => none
/-- from a place in a method of the reference: it comes to an answer and a state of which Q holds -/
def mP {α : Type} (w : α → Option Value) (d : Nat) (ret : Option FieldType) (I : Nat → Option Instr) (pc : Nat) (ls : Nat → gm_Ls) (s : mS) (Q : α → mS → Prop) : Prop := ∃ r s', (∀ (N0 : Nat) (K : Nat → Nat) (B : Nat) (G : gm_H) (sz sl : Nat), N0 ≤ B → gm_ev N0 K ra_nm (ra_mt K) d ret I (gm_lkf (lkX12 false K)) pc (ls B) [] (bM B (mH B s) G) sz sl (.returned (w r), bM B (mH B s') G, sz, sl)) ∧ Q r s'
/-- a call -/
def mC {α : Type} (w : α → Option Value) (d mi : Nat) (av : Nat → List Value) (s : mS) (Q : α → mS → Prop) : Prop := ∃ r s', (∀ (N0 : Nat) (K : Nat → Nat) (B : Nat) (G : gm_H) (sz : Nat), N0 ≤ B → gm_to N0 K ra_nm (ra_mt K) d mi (av B) (bM B (mH B s) G) sz (.returned (w r), bM B (mH B s') G, sz, 0)) ∧ Q r s'
/-- a call that leaves the state as it is -/
def mQ {α : Type} (w : α → Option Value) (d mi : Nat) (av : Nat → List Value) (s : mS) (Q : α → Prop) : Prop := ∃ r, (∀ (N0 : Nat) (K : Nat → Nat) (B : Nat) (G : gm_H) (sz : Nat), N0 ≤ B → gm_to N0 K ra_nm (ra_mt K) d mi (av B) (bM B (mH B s) G) sz (.returned (w r), bM B (mH B s) G, sz, 0)) ∧ Q r
theorem mC.mono {α : Type} {w : α → Option Value} {d mi : Nat} {av : Nat → List Value} {s : mS} {Q Q' : α → mS → Prop} (h : mC w d mi av s Q) (q : ∀ r s', Q r s' → Q' r s') : mC w d mi av s Q' := by
  obtain ⟨r, s', e, h⟩ := h
  exact ⟨r, s', e, q r s' h⟩
theorem mP.mono {α : Type} {w : α → Option Value} {d pc : Nat} {ret : Option FieldType} {I : Nat → Option Instr} {ls : Nat → gm_Ls} {s : mS} {Q Q' : α → mS → Prop} (h : mP w d ret I pc ls s Q) (q : ∀ r s', Q r s' → Q' r s') : mP w d ret I pc ls s Q' := by
  obtain ⟨r, s', e, h⟩ := h
  exact ⟨r, s', e, q r s' h⟩
theorem mQ.mono {α : Type} {w : α → Option Value} {d mi : Nat} {av : Nat → List Value} {s : mS} {Q Q' : α → Prop} (h : mQ w d mi av s Q) (q : ∀ r, Q r → Q' r) : mQ w d mi av s Q' := by
  obtain ⟨r, e, h⟩ := h
  exact ⟨r, e, q r h⟩
theorem mQ.up {α : Type} {w : α → Option Value} {d d' mi : Nat} {av : Nat → List Value} {s : mS} {Q : α → Prop} (h : mQ w d mi av s Q) (hd : d ≤ d') : mQ w d' mi av s Q := by
  obtain ⟨r, e, h⟩ := h
  exact ⟨r, fun N0 K B G sz hN => gm_to.up (e N0 K B G sz hN) hd, h⟩
theorem mC.up {α : Type} {w : α → Option Value} {d d' mi : Nat} {av : Nat → List Value} {s : mS} {Q : α → mS → Prop} (h : mC w d mi av s Q) (hd : d ≤ d') : mC w d' mi av s Q := by
  obtain ⟨r, s', e, h⟩ := h
  exact ⟨r, s', fun N0 K B G sz hN => gm_to.up (e N0 K B G sz hN) hd, h⟩
theorem mC.of {α : Type} {w : α → Option Value} {d mi nL : Nat} {own : String} {y : MethodName} {cc : ByteArray} {ini : Bool} {ret : Option FieldType} {I : Nat → Option Instr} {av : Nat → List Value} {ls : Nat → gm_Ls} {s : mS} {Q : α → mS → Prop} (hm : ∀ K, ra_mt K mi = some (own, y, cc, nL, ret, I, gm_lkf (lkX12 false K), ini)) (h4 : 10 ≤ mi) (hl : ∀ B, (gm_sl (av B)).length ≤ nL) (hls : ∀ B, gm_entry nL (av B) = ls B) (h : mP w d ret I 0 ls s Q) : mC w (d + 1) mi av s Q := by
  obtain ⟨r, s', e, h⟩ := h
  exact ⟨r, s', fun N0 K B G sz hN => gm_to.of (hm K) h4 (hl B) (hls B) (e N0 K B G sz 0 hN), h⟩
theorem mQ.of {α : Type} {w : α → Option Value} {d mi : Nat} {av : Nat → List Value} {s : mS} {Q : α → Prop} (h : mC w d mi av s (fun r s' => s' = s ∧ Q r)) : mQ w d mi av s Q := by
  obtain ⟨r, s', e, h1, h⟩ := h
  subst h1
  exact ⟨r, e, h⟩
theorem mC.q {α : Type} {w : α → Option Value} {d mi : Nat} {av : Nat → List Value} {s : mS} {Q : α → mS → Prop} (h : mQ w d mi av s (fun r => Q r s)) : mC w d mi av s Q := by
  obtain ⟨r, e, h⟩ := h
  exact ⟨r, s, e, h⟩
def h_thrown_0 (d : Nat) (s : mS) (Q : Int32 → mS → Prop) : Prop := mP vI d (some .int) (gm_I cX12_thrown) 0 (fun B => [some (.ref B)]) s Q
def h_fail_0 (d : Nat) (p0 : Int32) (s : mS) (Q : Int32 → mS → Prop) : Prop := mP vI d (some .int) (gm_I cX12_fail) 0 (fun B => [some (.ref B), some (.int p0)]) s Q
def h_write_0 (d : Nat) (p0 : Int64) (s : mS) (Q : Int32 → mS → Prop) : Prop := mP vI d (some .boolean) (gm_I cX12_write) 0 (fun B => [some (.ref B), some (.long p0), none, none, none, none]) s Q
def h_write_11 (d : Nat) (y1 : Int64) (x3 : Int32) (x4 : Int32) (s : mS) (Q : Int32 → mS → Prop) : Prop := mP vI d (some .boolean) (gm_I cX12_write) 11 (fun B => [some (.ref B), some (.long y1), none, some (.int x3), some (.int x4), none]) s Q
def h_write_88 (d : Nat) (y1 : Int64) (x4 : Int32) (s : mS) (Q : Int32 → mS → Prop) : Prop := mP vI d (some .boolean) (gm_I cX12_write) 88 (fun B => [some (.ref B), some (.long y1), none, none, some (.int x4), none]) s Q
def h_wipe_0 (d : Nat) (s : mS) (Q : Unit → mS → Prop) : Prop := mP vU d none (gm_I cX12_wipe) 0 (fun B => [some (.ref B)]) s Q
def h_here_0 (d : Nat) (s : mS) (Q : Int32 → mS → Prop) : Prop := mP vI d (some .int) (gm_I cX12_here) 0 (fun B => [some (.ref B)]) s Q
def h_isLetter_0 (d : Nat) (p0 : Int32) (s : mS) (Q : Int32 → mS → Prop) : Prop := mP vI d (some .boolean) (gm_I cX12_isLetter) 0 (fun B => [some (.int p0)]) s Q
def h_isVariable_0 (d : Nat) (p0 : Int32) (s : mS) (Q : Int32 → mS → Prop) : Prop := mP vI d (some .boolean) (gm_I cX12_isVariable) 0 (fun B => [some (.int p0)]) s Q
def h_isPlain_0 (d : Nat) (p0 : Int32) (s : mS) (Q : Int32 → mS → Prop) : Prop := mP vI d (some .boolean) (gm_I cX12_isPlain) 0 (fun B => [some (.int p0)]) s Q
def h_terms_0 (d : Nat) (p0 : Int32) (s : mS) (Q : Int32 → mS → Prop) : Prop := mP vI d (some .int) (gm_I cX12_terms) 0 (fun B => [some (.int p0)]) s Q
def h_takes_0 (d : Nat) (p0 : Int32) (s : mS) (Q : Int32 → mS → Prop) : Prop := mP vI d (some .boolean) (gm_I cX12_takes) 0 (fun B => [some (.ref B), some (.int p0)]) s Q
def h_term_0 (d : Nat) (p0 : Int32) (s : mS) (Q : Int32 → mS → Prop) : Prop := mP vI d (some .boolean) (gm_I cX12_term) 0 (fun B => [some (.ref B), some (.int p0), none, none]) s Q
def h_term_81 (d : Nat) (x1 : Int32) (x3 : Int32) (s : mS) (Q : Int32 → mS → Prop) : Prop := mP vI d (some .boolean) (gm_I cX12_term) 81 (fun B => [some (.ref B), some (.int x1), none, some (.int x3)]) s Q
def h_atom_0 (d : Nat) (p0 : Int32) (s : mS) (Q : Int32 → mS → Prop) : Prop := mP vI d (some .boolean) (gm_I cX12_atom) 0 (fun B => [some (.ref B), some (.int p0), none, none, none]) s Q
def h_atom_75 (d : Nat) (x1 : Int32) (x2 : Int32) (x3 : Int32) (x4 : Int32) (s : mS) (Q : Int32 → mS → Prop) : Prop := mP vI d (some .boolean) (gm_I cX12_atom) 75 (fun B => [some (.ref B), some (.int x1), some (.int x2), some (.int x3), some (.int x4)]) s Q
def h_becomesTerm_0 (d : Nat) (p0 : Int32) (s : mS) (Q : Int32 → mS → Prop) : Prop := mP vI d (some .boolean) (gm_I cX12_becomesTerm) 0 (fun B => [some (.ref B), some (.int p0), none, none, none]) s Q
def h_becomesTerm_11 (d : Nat) (x1 : Int32) (x2 : Int32) (x3 : Int32) (s : mS) (Q : Int32 → mS → Prop) : Prop := mP vI d (some .boolean) (gm_I cX12_becomesTerm) 11 (fun B => [some (.ref B), some (.int x1), some (.int x2), some (.int x3), none]) s Q
def h_becomesTerm_51 (d : Nat) (x1 : Int32) (x2 : Int32) (x3 : Int32) (x4 : Int32) (s : mS) (Q : Int32 → mS → Prop) : Prop := mP vI d (some .boolean) (gm_I cX12_becomesTerm) 51 (fun B => [some (.ref B), some (.int x1), some (.int x2), some (.int x3), some (.int x4)]) s Q
def h_literal_0 (d : Nat) (p0 : Int32) (s : mS) (Q : Int32 → mS → Prop) : Prop := mP vI d (some .boolean) (gm_I cX12_literal) 0 (fun B => [some (.ref B), some (.int p0), none]) s Q
def h_rule_0 (d : Nat) (p0 : Int32) (s : mS) (Q : Int32 → mS → Prop) : Prop := mP vI d (some .boolean) (gm_I cX12_rule) 0 (fun B => [some (.ref B), some (.int p0), none]) s Q
def h_rule_54 (d : Nat) (x1 : Int32) (x2 : Int32) (s : mS) (Q : Int32 → mS → Prop) : Prop := mP vI d (some .boolean) (gm_I cX12_rule) 54 (fun B => [some (.ref B), some (.int x1), some (.int x2)]) s Q
def h_read_0 (d : Nat) (s : mS) (Q : Int32 → mS → Prop) : Prop := mP vI d (some .boolean) (gm_I cX12_read) 0 (fun B => [some (.ref B)]) s Q
def h_read_10 (d : Nat) (s : mS) (Q : Int32 → mS → Prop) : Prop := mP vI d (some .boolean) (gm_I cX12_read) 10 (fun B => [some (.ref B)]) s Q
def h_bits_0 (d : Nat) (p0 : Int32) (p1 : Int32) (s : mS) (Q : Int32 → mS → Prop) : Prop := mP vI d (some .int) (gm_I cX12_bits) 0 (fun B => [some (.ref B), some (.int p0), some (.int p1), none, none, none]) s Q
def h_bits_7 (d : Nat) (x1 : Int32) (x2 : Int32) (x3 : Int32) (x4 : Int32) (s : mS) (Q : Int32 → mS → Prop) : Prop := mP vI d (some .int) (gm_I cX12_bits) 7 (fun B => [some (.ref B), some (.int x1), some (.int x2), some (.int x3), some (.int x4), none]) s Q
def h_bits_23 (d : Nat) (x1 : Int32) (x2 : Int32) (x3 : Int32) (x4 : Int32) (x5 : Int32) (s : mS) (Q : Int32 → mS → Prop) : Prop := mP vI d (some .int) (gm_I cX12_bits) 23 (fun B => [some (.ref B), some (.int x1), some (.int x2), some (.int x3), some (.int x4), some (.int x5)]) s Q
def h_variables_0 (d : Nat) (p0 : Int32) (s : mS) (Q : Int32 → mS → Prop) : Prop := mP vI d (some .int) (gm_I cX12_variables) 0 (fun B => [some (.ref B), some (.int p0)]) s Q
def h_isHeadWrong_0 (d : Nat) (p0 : Int32) (s : mS) (Q : Int32 → mS → Prop) : Prop := mP vI d (some .boolean) (gm_I cX12_isHeadWrong) 0 (fun B => [some (.ref B), some (.int p0), none, none, none]) s Q
def h_isHeadWrong_64 (d : Nat) (x1 : Int32) (x3 : Int32) (x4 : Int32) (s : mS) (Q : Int32 → mS → Prop) : Prop := mP vI d (some .boolean) (gm_I cX12_isHeadWrong) 64 (fun B => [some (.ref B), some (.int x1), none, some (.int x3), some (.int x4)]) s Q
def h_isLoose_0 (d : Nat) (p0 : Int32) (s : mS) (Q : Int32 → mS → Prop) : Prop := mP vI d (some .boolean) (gm_I cX12_isLoose) 0 (fun B => [some (.ref B), some (.int p0), none, none, none]) s Q
def h_isLoose_19 (d : Nat) (x1 : Int32) (x2 : Int32) (x3 : Int32) (x4 : Int32) (s : mS) (Q : Int32 → mS → Prop) : Prop := mP vI d (some .boolean) (gm_I cX12_isLoose) 19 (fun B => [some (.ref B), some (.int x1), some (.int x2), some (.int x3), some (.int x4)]) s Q
def h_depends_0 (d : Nat) (p0 : Int32) (s : mS) (Q : Unit → mS → Prop) : Prop := mP vU d none (gm_I cX12_depends) 0 (fun B => [some (.ref B), some (.int p0), none, none, none, none]) s Q
def h_depends_2 (d : Nat) (x1 : Int32) (x2 : Int32) (s : mS) (Q : Unit → mS → Prop) : Prop := mP vU d none (gm_I cX12_depends) 2 (fun B => [some (.ref B), some (.int x1), some (.int x2), none, none, none]) s Q
def h_depends_24 (d : Nat) (x1 : Int32) (x2 : Int32) (s : mS) (Q : Unit → mS → Prop) : Prop := mP vU d none (gm_I cX12_depends) 24 (fun B => [some (.ref B), some (.int x1), some (.int x2), none, none, none]) s Q
def h_depends_32 (d : Nat) (x1 : Int32) (x2 : Int32) (x3 : Int32) (s : mS) (Q : Unit → mS → Prop) : Prop := mP vU d none (gm_I cX12_depends) 32 (fun B => [some (.ref B), some (.int x1), some (.int x2), some (.int x3), none, none]) s Q
def h_depends_59 (d : Nat) (x1 : Int32) (x2 : Int32) (x3 : Int32) (x4 : Int32) (x5 : Int32) (s : mS) (Q : Unit → mS → Prop) : Prop := mP vU d none (gm_I cX12_depends) 59 (fun B => [some (.ref B), some (.int x1), some (.int x2), some (.int x3), some (.int x4), some (.int x5)]) s Q
def h_isCircular_0 (d : Nat) (p0 : Int32) (s : mS) (Q : Int32 → mS → Prop) : Prop := mP vI d (some .boolean) (gm_I cX12_isCircular) 0 (fun B => [some (.ref B), some (.int p0), none, none, none]) s Q
def h_isCircular_20 (d : Nat) (x1 : Int32) (x2 : Int32) (x3 : Int32) (x4 : Int32) (s : mS) (Q : Int32 → mS → Prop) : Prop := mP vI d (some .boolean) (gm_I cX12_isCircular) 20 (fun B => [some (.ref B), some (.int x1), some (.int x2), some (.int x3), some (.int x4)]) s Q
def h_isMixed_0 (d : Nat) (p0 : Int32) (s : mS) (Q : Int32 → mS → Prop) : Prop := mP vI d (some .boolean) (gm_I cX12_isMixed) 0 (fun B => [some (.ref B), some (.int p0), none, none]) s Q
def h_isWell_0 (d : Nat) (s : mS) (Q : Int32 → mS → Prop) : Prop := mP vI d (some .boolean) (gm_I cX12_isWell) 0 (fun B => [some (.ref B), none, none]) s Q
def h_isWell_34 (d : Nat) (x1 : Int32) (s : mS) (Q : Int32 → mS → Prop) : Prop := mP vI d (some .boolean) (gm_I cX12_isWell) 34 (fun B => [some (.ref B), some (.int x1), none]) s Q
def h_isWell_42 (d : Nat) (x1 : Int32) (x2 : Int32) (s : mS) (Q : Int32 → mS → Prop) : Prop := mP vI d (some .boolean) (gm_I cX12_isWell) 42 (fun B => [some (.ref B), some (.int x1), some (.int x2)]) s Q
def h_layers_0 (d : Nat) (s : mS) (Q : Unit → mS → Prop) : Prop := mP vU d none (gm_I cX12_layers) 0 (fun B => [some (.ref B), none, none, none, none, none]) s Q
def h_layers_2 (d : Nat) (x1 : Int32) (s : mS) (Q : Unit → mS → Prop) : Prop := mP vU d none (gm_I cX12_layers) 2 (fun B => [some (.ref B), some (.int x1), none, none, none, none]) s Q
def h_layers_24 (d : Nat) (x1 : Int32) (s : mS) (Q : Unit → mS → Prop) : Prop := mP vU d none (gm_I cX12_layers) 24 (fun B => [some (.ref B), some (.int x1), none, none, none, none]) s Q
def h_layers_32 (d : Nat) (x1 : Int32) (x2 : Int32) (s : mS) (Q : Unit → mS → Prop) : Prop := mP vU d none (gm_I cX12_layers) 32 (fun B => [some (.ref B), some (.int x1), some (.int x2), none, none, none]) s Q
def h_layers_58 (d : Nat) (x1 : Int32) (x2 : Int32) (x3 : Int32) (x4 : Int32) (s : mS) (Q : Unit → mS → Prop) : Prop := mP vU d none (gm_I cX12_layers) 58 (fun B => [some (.ref B), some (.int x1), some (.int x2), some (.int x3), some (.int x4), none]) s Q
def h_holds_0 (d : Nat) (p0 : Int32) (p1 : Int64) (p2 : Int64) (p3 : Int64) (s : mS) (Q : Int32 → mS → Prop) : Prop := mP vI d (some .boolean) (gm_I cX12_holds) 0 (fun B => [some (.ref B), some (.int p0), some (.long p1), none, some (.long p2), none, some (.long p3), none, none]) s Q
def h_holds_3 (d : Nat) (x1 : Int32) (y2 : Int64) (y4 : Int64) (y6 : Int64) (x8 : Int32) (s : mS) (Q : Int32 → mS → Prop) : Prop := mP vI d (some .boolean) (gm_I cX12_holds) 3 (fun B => [some (.ref B), some (.int x1), some (.long y2), none, some (.long y4), none, some (.long y6), none, some (.int x8)]) s Q
def h_add_0 (d : Nat) (p0 : Int32) (p1 : Int64) (p2 : Int64) (p3 : Int64) (s : mS) (Q : Unit → mS → Prop) : Prop := mP vU d none (gm_I cX12_add) 0 (fun B => [some (.ref B), some (.int p0), some (.long p1), none, some (.long p2), none, some (.long p3), none]) s Q
def h_isConstant_0 (d : Nat) (p0 : Int64) (s : mS) (Q : Int32 → mS → Prop) : Prop := mP vI d (some .boolean) (gm_I cX12_isConstant) 0 (fun B => [some (.long p0), none]) s Q
def h_letterOf_0 (d : Nat) (p0 : Int64) (p1 : Int32) (s : mS) (Q : Int32 → mS → Prop) : Prop := mP vI d (some .int) (gm_I cX12_letterOf) 0 (fun B => [some (.long p0), none, some (.int p1)]) s Q
def h_meets_0 (d : Nat) (p0 : Int32) (p1 : Int64) (p2 : Int32) (s : mS) (Q : Int32 → mS → Prop) : Prop := mP vI d (some .boolean) (gm_I cX12_meets) 0 (fun B => [some (.ref B), some (.int p0), some (.long p1), none, some (.int p2), none]) s Q
def h_meetsTerm_0 (d : Nat) (p0 : Int32) (p1 : Int64) (p2 : Int32) (s : mS) (Q : Int32 → mS → Prop) : Prop := mP vI d (some .boolean) (gm_I cX12_meetsTerm) 0 (fun B => [some (.ref B), some (.int p0), some (.long p1), none, some (.int p2), none, none]) s Q
def h_meetsTerm_77 (d : Nat) (x1 : Int32) (y2 : Int64) (x4 : Int32) (x5 : Int32) (x6 : Int32) (s : mS) (Q : Int32 → mS → Prop) : Prop := mP vI d (some .boolean) (gm_I cX12_meetsTerm) 77 (fun B => [some (.ref B), some (.int x1), some (.long y2), none, some (.int x4), some (.int x5), some (.int x6)]) s Q
def h_meetsFact_0 (d : Nat) (p0 : Int32) (p1 : Int32) (p2 : Int32) (s : mS) (Q : Int32 → mS → Prop) : Prop := mP vI d (some .boolean) (gm_I cX12_meetsFact) 0 (fun B => [some (.ref B), some (.int p0), some (.int p1), some (.int p2), none]) s Q
def h_meetsFact_20 (d : Nat) (x1 : Int32) (x2 : Int32) (x3 : Int32) (x4 : Int32) (s : mS) (Q : Int32 → mS → Prop) : Prop := mP vI d (some .boolean) (gm_I cX12_meetsFact) 20 (fun B => [some (.ref B), some (.int x1), some (.int x2), some (.int x3), some (.int x4)]) s Q
def h_valueOf_0 (d : Nat) (p0 : Int32) (s : mS) (Q : Int64 → mS → Prop) : Prop := mP vL d (some .long) (gm_I cX12_valueOf) 0 (fun B => [some (.ref B), some (.int p0)]) s Q
def h_made_0 (d : Nat) (p0 : Int32) (s : mS) (Q : Int64 → mS → Prop) : Prop := mP vL d (some .long) (gm_I cX12_made) 0 (fun B => [some (.ref B), some (.int p0), none, none, none]) s Q
def h_made_40 (d : Nat) (x1 : Int32) (y2 : Int64) (x4 : Int32) (s : mS) (Q : Int64 → mS → Prop) : Prop := mP vL d (some .long) (gm_I cX12_made) 40 (fun B => [some (.ref B), some (.int x1), some (.long y2), none, some (.int x4)]) s Q
def h_part_0 (d : Nat) (p0 : Int32) (p1 : Int32) (s : mS) (Q : Int64 → mS → Prop) : Prop := mP vL d (some .long) (gm_I cX12_part) 0 (fun B => [some (.ref B), some (.int p0), some (.int p1)]) s Q
def h_agrees_0 (d : Nat) (p0 : Int32) (s : mS) (Q : Int32 → mS → Prop) : Prop := mP vI d (some .boolean) (gm_I cX12_agrees) 0 (fun B => [some (.ref B), some (.int p0), none]) s Q
def h_agrees_7 (d : Nat) (x1 : Int32) (x2 : Int32) (s : mS) (Q : Int32 → mS → Prop) : Prop := mP vI d (some .boolean) (gm_I cX12_agrees) 7 (fun B => [some (.ref B), some (.int x1), some (.int x2)]) s Q
def h_held_0 (d : Nat) (p0 : Int32) (s : mS) (Q : Int32 → mS → Prop) : Prop := mP vI d (some .int) (gm_I cX12_held) 0 (fun B => [some (.ref B), some (.int p0), none, none, none, none]) s Q
def h_held_7 (d : Nat) (x1 : Int32) (x2 : Int32) (x3 : Int32) (s : mS) (Q : Int32 → mS → Prop) : Prop := mP vI d (some .int) (gm_I cX12_held) 7 (fun B => [some (.ref B), some (.int x1), some (.int x2), some (.int x3), none, none]) s Q
def h_held_27 (d : Nat) (x1 : Int32) (x2 : Int32) (x3 : Int32) (x4 : Int32) (s : mS) (Q : Int32 → mS → Prop) : Prop := mP vI d (some .int) (gm_I cX12_held) 27 (fun B => [some (.ref B), some (.int x1), some (.int x2), some (.int x3), some (.int x4), none]) s Q
def h_held_61 (d : Nat) (x1 : Int32) (x2 : Int32) (x3 : Int32) (x4 : Int32) (x5 : Int32) (s : mS) (Q : Int32 → mS → Prop) : Prop := mP vI d (some .int) (gm_I cX12_held) 61 (fun B => [some (.ref B), some (.int x1), some (.int x2), some (.int x3), some (.int x4), some (.int x5)]) s Q
def h_ways_0 (d : Nat) (p0 : Int32) (s : mS) (Q : Int64 → mS → Prop) : Prop := mP vL d (some .long) (gm_I cX12_ways) 0 (fun B => [some (.ref B), some (.int p0), none, none, none, none, none, none]) s Q
def h_ways_10 (d : Nat) (x1 : Int32) (y2 : Int64) (x4 : Int32) (s : mS) (Q : Int64 → mS → Prop) : Prop := mP vL d (some .long) (gm_I cX12_ways) 10 (fun B => [some (.ref B), some (.int x1), some (.long y2), none, some (.int x4), none, none, none]) s Q
def h_ways_32 (d : Nat) (x1 : Int32) (y2 : Int64) (x4 : Int32) (y5 : Int64) (x7 : Int32) (s : mS) (Q : Int64 → mS → Prop) : Prop := mP vL d (some .long) (gm_I cX12_ways) 32 (fun B => [some (.ref B), some (.int x1), some (.long y2), none, some (.int x4), some (.long y5), none, some (.int x7)]) s Q
def h_apply_0 (d : Nat) (p0 : Int32) (s : mS) (Q : Unit → mS → Prop) : Prop := mP vU d none (gm_I cX12_apply) 0 (fun B => [some (.ref B), some (.int p0), none, none, none, none]) s Q
def h_apply_11 (d : Nat) (x1 : Int32) (x2 : Int32) (s : mS) (Q : Unit → mS → Prop) : Prop := mP vU d none (gm_I cX12_apply) 11 (fun B => [some (.ref B), some (.int x1), some (.int x2), none, none, none]) s Q
def h_apply_74 (d : Nat) (x1 : Int32) (x2 : Int32) (x3 : Int32) (s : mS) (Q : Unit → mS → Prop) : Prop := mP vU d none (gm_I cX12_apply) 74 (fun B => [some (.ref B), some (.int x1), some (.int x2), some (.int x3), none, none]) s Q
def h_apply_190 (d : Nat) (x1 : Int32) (x2 : Int32) (x3 : Int32) (x4 : Int32) (s : mS) (Q : Unit → mS → Prop) : Prop := mP vU d none (gm_I cX12_apply) 190 (fun B => [some (.ref B), some (.int x1), some (.int x2), some (.int x3), some (.int x4), none]) s Q
def h_follow_0 (d : Nat) (s : mS) (Q : Unit → mS → Prop) : Prop := mP vU d none (gm_I cX12_follow) 0 (fun B => [some (.ref B), none, none, none, none]) s Q
def h_follow_4 (d : Nat) (x1 : Int32) (x2 : Int32) (s : mS) (Q : Unit → mS → Prop) : Prop := mP vU d none (gm_I cX12_follow) 4 (fun B => [some (.ref B), some (.int x1), some (.int x2), none, none]) s Q
def h_follow_57 (d : Nat) (x1 : Int32) (x2 : Int32) (s : mS) (Q : Unit → mS → Prop) : Prop := mP vU d none (gm_I cX12_follow) 57 (fun B => [some (.ref B), some (.int x1), some (.int x2), none, none]) s Q
def h_follow_138 (d : Nat) (x2 : Int32) (s : mS) (Q : Unit → mS → Prop) : Prop := mP vU d none (gm_I cX12_follow) 138 (fun B => [some (.ref B), none, some (.int x2), none, none]) s Q
def h_follow_64 (d : Nat) (x1 : Int32) (x2 : Int32) (x3 : Int32) (s : mS) (Q : Unit → mS → Prop) : Prop := mP vU d none (gm_I cX12_follow) 64 (fun B => [some (.ref B), some (.int x1), some (.int x2), some (.int x3), none]) s Q
def h_follow_87 (d : Nat) (x1 : Int32) (x2 : Int32) (x3 : Int32) (x4 : Int32) (s : mS) (Q : Unit → mS → Prop) : Prop := mP vU d none (gm_I cX12_follow) 87 (fun B => [some (.ref B), some (.int x1), some (.int x2), some (.int x3), some (.int x4)]) s Q
def h_nothing_0 (d : Nat) (s : mS) (Q : Unit → mS → Prop) : Prop := mP vU d none (gm_I cX12_nothing) 0 (fun B => [some (.ref B)]) s Q
def h_inState_now_0 (d : Nat) (p1 : Int32) (p2 : Int32) (s : mS) (Q : Unit → mS → Prop) : Prop := mP vU d none (gm_I cX12_inState) 0 (fun B => [some (.ref B), some (.ref (B + 17)), some (.int p1), some (.int p2), none]) s Q
def h_inState_now_7 (d : Nat) (x2 : Int32) (x3 : Int32) (x4 : Int32) (s : mS) (Q : Unit → mS → Prop) : Prop := mP vU d none (gm_I cX12_inState) 7 (fun B => [some (.ref B), some (.ref (B + 17)), some (.int x2), some (.int x3), some (.int x4)]) s Q
def h_inState_next_0 (d : Nat) (p1 : Int32) (p2 : Int32) (s : mS) (Q : Unit → mS → Prop) : Prop := mP vU d none (gm_I cX12_inState) 0 (fun B => [some (.ref B), some (.ref (B + 19)), some (.int p1), some (.int p2), none]) s Q
def h_inState_next_7 (d : Nat) (x2 : Int32) (x3 : Int32) (x4 : Int32) (s : mS) (Q : Unit → mS → Prop) : Prop := mP vU d none (gm_I cX12_inState) 7 (fun B => [some (.ref B), some (.ref (B + 19)), some (.int x2), some (.int x3), some (.int x4)]) s Q
def h_inState_stateTerm_0 (d : Nat) (p1 : Int32) (p2 : Int32) (s : mS) (Q : Unit → mS → Prop) : Prop := mP vU d none (gm_I cX12_inState) 0 (fun B => [some (.ref B), some (.ref (B + 24)), some (.int p1), some (.int p2), none]) s Q
def h_inState_stateTerm_7 (d : Nat) (x2 : Int32) (x3 : Int32) (x4 : Int32) (s : mS) (Q : Unit → mS → Prop) : Prop := mP vU d none (gm_I cX12_inState) 7 (fun B => [some (.ref B), some (.ref (B + 24)), some (.int x2), some (.int x3), some (.int x4)]) s Q
def h_look_0 (d : Nat) (s : mS) (Q : Unit → mS → Prop) : Prop := mP vU d none (gm_I cX12_look) 0 (fun B => [some (.ref B)]) s Q
def h_collect_0 (d : Nat) (p0 : Int32) (p1 : Int64) (p2 : Int32) (s : mS) (Q : Unit → mS → Prop) : Prop := mP vU d none (gm_I cX12_collect) 0 (fun B => [some (.ref B), some (.int p0), some (.long p1), none, some (.int p2), none, none, none, none]) s Q
def h_collect_8 (d : Nat) (x1 : Int32) (y2 : Int64) (x4 : Int32) (x5 : Int32) (s : mS) (Q : Unit → mS → Prop) : Prop := mP vU d none (gm_I cX12_collect) 8 (fun B => [some (.ref B), some (.int x1), some (.long y2), none, some (.int x4), some (.int x5), none, none, none]) s Q
def h_collect_68 (d : Nat) (x1 : Int32) (y2 : Int64) (x4 : Int32) (x5 : Int32) (y6 : Int64) (x8 : Int32) (s : mS) (Q : Unit → mS → Prop) : Prop := mP vU d none (gm_I cX12_collect) 68 (fun B => [some (.ref B), some (.int x1), some (.long y2), none, some (.int x4), some (.int x5), some (.long y6), none, some (.int x8)]) s Q
def h_isState_0 (d : Nat) (s : mS) (Q : Int32 → mS → Prop) : Prop := mP vI d (some .boolean) (gm_I cX12_isState) 0 (fun B => [some (.ref B), none]) s Q
def h_isState_10 (d : Nat) (x1 : Int32) (s : mS) (Q : Int32 → mS → Prop) : Prop := mP vI d (some .boolean) (gm_I cX12_isState) 10 (fun B => [some (.ref B), some (.int x1)]) s Q
def h_leadsOn_now_0 (d : Nat) (p1 : Int32) (p2 : Int32) (p3 : Int64) (p4 : Int64) (s : mS) (Q : Int32 → mS → Prop) : Prop := mP vI d (some .boolean) (gm_I cX12_leadsOn) 0 (fun B => [some (.ref B), some (.ref (B + 17)), some (.int p1), some (.int p2), some (.long p3), none, some (.long p4), none, none]) s Q
def h_leadsOn_now_7 (d : Nat) (x2 : Int32) (x3 : Int32) (y4 : Int64) (y6 : Int64) (x8 : Int32) (s : mS) (Q : Int32 → mS → Prop) : Prop := mP vI d (some .boolean) (gm_I cX12_leadsOn) 7 (fun B => [some (.ref B), some (.ref (B + 17)), some (.int x2), some (.int x3), some (.long y4), none, some (.long y6), none, some (.int x8)]) s Q
def h_leadsOn_stateTerm_0 (d : Nat) (p1 : Int32) (p2 : Int32) (p3 : Int64) (p4 : Int64) (s : mS) (Q : Int32 → mS → Prop) : Prop := mP vI d (some .boolean) (gm_I cX12_leadsOn) 0 (fun B => [some (.ref B), some (.ref (B + 24)), some (.int p1), some (.int p2), some (.long p3), none, some (.long p4), none, none]) s Q
def h_leadsOn_stateTerm_7 (d : Nat) (x2 : Int32) (x3 : Int32) (y4 : Int64) (y6 : Int64) (x8 : Int32) (s : mS) (Q : Int32 → mS → Prop) : Prop := mP vI d (some .boolean) (gm_I cX12_leadsOn) 7 (fun B => [some (.ref B), some (.ref (B + 24)), some (.int x2), some (.int x3), some (.long y4), none, some (.long y6), none, some (.int x8)]) s Q
def h_fetch_sheet_0 (d : Nat) (p1 : Int32) (s : mS) (Q : Unit → mS → Prop) : Prop := mP vU d none (gm_I cX12_fetch) 0 (fun B => [some (.ref B), some (.ref (B + 1)), some (.int p1), none]) s Q
def h_fetch_sheet_2 (d : Nat) (x2 : Int32) (x3 : Int32) (s : mS) (Q : Unit → mS → Prop) : Prop := mP vU d none (gm_I cX12_fetch) 2 (fun B => [some (.ref B), some (.ref (B + 1)), some (.int x2), some (.int x3)]) s Q
def h_fetch_kept_0 (d : Nat) (p1 : Int32) (s : mS) (Q : Unit → mS → Prop) : Prop := mP vU d none (gm_I cX12_fetch) 0 (fun B => [some (.ref B), some (.ref (B + 2)), some (.int p1), none]) s Q
def h_fetch_kept_2 (d : Nat) (x2 : Int32) (x3 : Int32) (s : mS) (Q : Unit → mS → Prop) : Prop := mP vU d none (gm_I cX12_fetch) 2 (fun B => [some (.ref B), some (.ref (B + 2)), some (.int x2), some (.int x3)]) s Q
def h_begins_0 (d : Nat) (s : mS) (Q : Int32 → mS → Prop) : Prop := mP vI d (some .boolean) (gm_I cX12_begins) 0 (fun B => [some (.ref B)]) s Q
def h_load_0 (d : Nat) (s : mS) (Q : Int32 → mS → Prop) : Prop := mP vI d (some .int) (gm_I cX12_load) 0 (fun B => [some (.ref B), none, none, none]) s Q
def h_load_123 (d : Nat) (x2 : Int32) (s : mS) (Q : Int32 → mS → Prop) : Prop := mP vI d (some .int) (gm_I cX12_load) 123 (fun B => [some (.ref B), none, some (.int x2), none]) s Q
def h_load_182 (d : Nat) (x2 : Int32) (s : mS) (Q : Int32 → mS → Prop) : Prop := mP vI d (some .int) (gm_I cX12_load) 182 (fun B => [some (.ref B), none, some (.int x2), none]) s Q
def h_load_235 (d : Nat) (x2 : Int32) (s : mS) (Q : Int32 → mS → Prop) : Prop := mP vI d (some .int) (gm_I cX12_load) 235 (fun B => [some (.ref B), none, some (.int x2), none]) s Q
def h_begin_0 (d : Nat) (s : mS) (Q : Unit → mS → Prop) : Prop := mP vU d none (gm_I cX12_begin) 0 (fun B => [some (.ref B), none]) s Q
def h_begin_10 (d : Nat) (x1 : Int32) (s : mS) (Q : Unit → mS → Prop) : Prop := mP vU d none (gm_I cX12_begin) 10 (fun B => [some (.ref B), some (.int x1)]) s Q
def h_fault_0 (d : Nat) (p0 : Int32) (s : mS) (Q : Int32 → mS → Prop) : Prop := mP vI d (some .int) (gm_I cX12_fault) 0 (fun B => [some (.ref B), some (.int p0)]) s Q
def h_isPlayer_0 (d : Nat) (p0 : Int32) (s : mS) (Q : Int32 → mS → Prop) : Prop := mP vI d (some .boolean) (gm_I cX12_isPlayer) 0 (fun B => [some (.ref B), some (.int p0)]) s Q
def h_legal_0 (d : Nat) (p0 : Int32) (s : mS) (Q : Unit → mS → Prop) : Prop := mP vU d none (gm_I cX12_legal) 0 (fun B => [some (.ref B), some (.int p0)]) s Q
def h_isEnd_0 (d : Nat) (s : mS) (Q : Int32 → mS → Prop) : Prop := mP vI d (some .boolean) (gm_I cX12_isEnd) 0 (fun B => [some (.ref B)]) s Q
def h_goalOf_0 (d : Nat) (p0 : Int32) (s : mS) (Q : Int32 → mS → Prop) : Prop := mP vI d (some .int) (gm_I cX12_goalOf) 0 (fun B => [some (.ref B), some (.int p0), none]) s Q
def h_many_0 (d : Nat) (p0 : Int32) (s : mS) (Q : Int32 → mS → Prop) : Prop := mP vI d (some .int) (gm_I cX12_many) 0 (fun B => [some (.ref B), some (.int p0)]) s Q
def h_facts_0 (d : Nat) (p0 : Int32) (p1 : Int32) (s : mS) (Q : Int32 → mS → Prop) : Prop := mP vI d (some .int) (gm_I cX12_facts) 0 (fun B => [some (.ref B), some (.int p0), some (.int p1), none, none, none]) s Q
def h_facts_50 (d : Nat) (x1 : Int32) (x2 : Int32) (x4 : Int32) (x5 : Int32) (s : mS) (Q : Int32 → mS → Prop) : Prop := mP vI d (some .int) (gm_I cX12_facts) 50 (fun B => [some (.ref B), some (.int x1), some (.int x2), none, some (.int x4), some (.int x5)]) s Q
def h_moves_0 (d : Nat) (p0 : Int32) (s : mS) (Q : Int32 → mS → Prop) : Prop := mP vI d (some .int) (gm_I cX12_moves) 0 (fun B => [some (.ref B), some (.int p0)]) s Q
def h_over_0 (d : Nat) (s : mS) (Q : Int32 → mS → Prop) : Prop := mP vI d (some .int) (gm_I cX12_over) 0 (fun B => [some (.ref B)]) s Q
def h_goal_0 (d : Nat) (p0 : Int32) (s : mS) (Q : Int32 → mS → Prop) : Prop := mP vI d (some .int) (gm_I cX12_goal) 0 (fun B => [some (.ref B), some (.int p0)]) s Q
def h_letter_0 (d : Nat) (p0 : Int32) (p1 : Int32) (p2 : Int32) (s : mS) (Q : Int32 → mS → Prop) : Prop := mP vI d (some .int) (gm_I cX12_letter) 0 (fun B => [some (.ref B), some (.int p0), some (.int p1), some (.int p2), none, none]) s Q
def h_play_0 (d : Nat) (p0 : Int32) (p1 : Int32) (s : mS) (Q : Int32 → mS → Prop) : Prop := mP vI d (some .int) (gm_I cX12_play) 0 (fun B => [some (.ref B), some (.int p0), some (.int p1), none, none, none, none]) s Q
def h_play_170 (d : Nat) (x6 : Int32) (s : mS) (Q : Int32 → mS → Prop) : Prop := mP vI d (some .int) (gm_I cX12_play) 170 (fun B => [some (.ref B), none, none, none, none, none, some (.int x6)]) s Q
def h_restart_0 (d : Nat) (s : mS) (Q : Int32 → mS → Prop) : Prop := mP vI d (some .boolean) (gm_I cX12_restart) 0 (fun B => [some (.ref B)]) s Q
def h_find_next_0 (d : Nat) (p1 : Int32) (s : mS) (Q : Int32 → mS → Prop) : Prop := mP vI d (some .int) (gm_I cX12_find) 0 (fun B => [some (.ref B), some (.ref (B + 19)), some (.int p1), none, none, none]) s Q
def h_find_next_2 (d : Nat) (x2 : Int32) (x3 : Int32) (s : mS) (Q : Int32 → mS → Prop) : Prop := mP vI d (some .int) (gm_I cX12_find) 2 (fun B => [some (.ref B), some (.ref (B + 19)), some (.int x2), some (.int x3), none, none]) s Q
def h_find_next_30 (d : Nat) (x2 : Int32) (x3 : Int32) (x4 : Int32) (x5 : Int32) (s : mS) (Q : Int32 → mS → Prop) : Prop := mP vI d (some .int) (gm_I cX12_find) 30 (fun B => [some (.ref B), some (.ref (B + 19)), some (.int x2), some (.int x3), some (.int x4), some (.int x5)]) s Q
def h_find_now_0 (d : Nat) (p1 : Int32) (s : mS) (Q : Int32 → mS → Prop) : Prop := mP vI d (some .int) (gm_I cX12_find) 0 (fun B => [some (.ref B), some (.ref (B + 17)), some (.int p1), none, none, none]) s Q
def h_find_now_2 (d : Nat) (x2 : Int32) (x3 : Int32) (s : mS) (Q : Int32 → mS → Prop) : Prop := mP vI d (some .int) (gm_I cX12_find) 2 (fun B => [some (.ref B), some (.ref (B + 17)), some (.int x2), some (.int x3), none, none]) s Q
def h_find_now_30 (d : Nat) (x2 : Int32) (x3 : Int32) (x4 : Int32) (x5 : Int32) (s : mS) (Q : Int32 → mS → Prop) : Prop := mP vI d (some .int) (gm_I cX12_find) 30 (fun B => [some (.ref B), some (.ref (B + 17)), some (.int x2), some (.int x3), some (.int x4), some (.int x5)]) s Q
def h_comes_first_0 (d : Nat) (p1 : Int32) (s : mS) (Q : Unit → mS → Prop) : Prop := mP vU d none (gm_I cX12_comes) 0 (fun B => [some (.ref B), some (.ref (B + 18)), some (.int p1), none]) s Q
def h_comes_first_12 (d : Nat) (x2 : Int32) (x3 : Int32) (s : mS) (Q : Unit → mS → Prop) : Prop := mP vU d none (gm_I cX12_comes) 12 (fun B => [some (.ref B), some (.ref (B + 18)), some (.int x2), some (.int x3)]) s Q
def h_comes_next_0 (d : Nat) (p1 : Int32) (s : mS) (Q : Unit → mS → Prop) : Prop := mP vU d none (gm_I cX12_comes) 0 (fun B => [some (.ref B), some (.ref (B + 19)), some (.int p1), none]) s Q
def h_comes_next_12 (d : Nat) (x2 : Int32) (x3 : Int32) (s : mS) (Q : Unit → mS → Prop) : Prop := mP vU d none (gm_I cX12_comes) 12 (fun B => [some (.ref B), some (.ref (B + 19)), some (.int x2), some (.int x3)]) s Q
def h_looksAt_0 (d : Nat) (p0 : Int32) (s : mS) (Q : Int32 → mS → Prop) : Prop := mP vI d (some .int) (gm_I cX12_looksAt) 0 (fun B => [some (.ref B), some (.int p0), none, none, none, none]) s Q
def h_looksAt_113 (d : Nat) (x1 : Int32) (x2 : Int32) (x3 : Int32) (s : mS) (Q : Int32 → mS → Prop) : Prop := mP vI d (some .int) (gm_I cX12_looksAt) 113 (fun B => [some (.ref B), some (.int x1), some (.int x2), some (.int x3), none, none]) s Q
def h_looksAt_149 (d : Nat) (x1 : Int32) (x2 : Int32) (x3 : Int32) (x4 : Int32) (s : mS) (Q : Int32 → mS → Prop) : Prop := mP vI d (some .int) (gm_I cX12_looksAt) 149 (fun B => [some (.ref B), some (.int x1), some (.int x2), some (.int x3), some (.int x4), none]) s Q
def h_looksAt_207 (d : Nat) (x1 : Int32) (x2 : Int32) (x3 : Int32) (x4 : Int32) (s : mS) (Q : Int32 → mS → Prop) : Prop := mP vI d (some .int) (gm_I cX12_looksAt) 207 (fun B => [some (.ref B), some (.int x1), some (.int x2), some (.int x3), some (.int x4), none]) s Q
def h_weighs_0 (d : Nat) (s : mS) (Q : Int32 → mS → Prop) : Prop := mP vI d (some .boolean) (gm_I cX12_weighs) 0 (fun B => [some (.ref B), none, none, none, none, none, none, none]) s Q
def h_weighs_6 (d : Nat) (x1 : Int32) (x2 : Int32) (x3 : Int32) (s : mS) (Q : Int32 → mS → Prop) : Prop := mP vI d (some .boolean) (gm_I cX12_weighs) 6 (fun B => [some (.ref B), some (.int x1), some (.int x2), some (.int x3), none, none, none, none]) s Q
def h_weighs_36 (d : Nat) (x1 : Int32) (x2 : Int32) (s : mS) (Q : Int32 → mS → Prop) : Prop := mP vI d (some .boolean) (gm_I cX12_weighs) 36 (fun B => [some (.ref B), some (.int x1), some (.int x2), none, none, none, none, none]) s Q
def h_weighs_46 (d : Nat) (x1 : Int32) (x2 : Int32) (x3 : Int32) (s : mS) (Q : Int32 → mS → Prop) : Prop := mP vI d (some .boolean) (gm_I cX12_weighs) 46 (fun B => [some (.ref B), some (.int x1), some (.int x2), some (.int x3), none, none, none, none]) s Q
def h_weighs_83 (d : Nat) (x1 : Int32) (x2 : Int32) (x3 : Int32) (x4 : Int32) (x5 : Int32) (x6 : Int32) (s : mS) (Q : Int32 → mS → Prop) : Prop := mP vI d (some .boolean) (gm_I cX12_weighs) 83 (fun B => [some (.ref B), some (.int x1), some (.int x2), some (.int x3), some (.int x4), some (.int x5), some (.int x6), none]) s Q
def h_examine_0 (d : Nat) (s : mS) (Q : Int32 → mS → Prop) : Prop := mP vI d (some .int) (gm_I cX12_examine) 0 (fun B => [some (.ref B), none, none]) s Q
def h_examine_46 (d : Nat) (x1 : Int32) (s : mS) (Q : Int32 → mS → Prop) : Prop := mP vI d (some .int) (gm_I cX12_examine) 46 (fun B => [some (.ref B), some (.int x1), none]) s Q
def h_audit_0 (d : Nat) (s : mS) (Q : Int32 → mS → Prop) : Prop := mP vI d (some .int) (gm_I cX12_audit) 0 (fun B => [some (.ref B)]) s Q
def h_refuses_0 (d : Nat) (s : mS) (Q : Int32 → mS → Prop) : Prop := mP vI d (some .int) (gm_I cX12_refuses) 0 (fun B => [some (.ref B)]) s Q
def h_worth_0 (d : Nat) (s : mS) (Q : Int32 → mS → Prop) : Prop := mP vI d (some .int) (gm_I cX12_worth) 0 (fun B => [some (.ref B)]) s Q
def h_best_0 (d : Nat) (s : mS) (Q : Int32 → mS → Prop) : Prop := mP vI d (some .int) (gm_I cX12_best) 0 (fun B => [some (.ref B), none, none, none]) s Q
def h_best_57 (d : Nat) (x1 : Int32) (x2 : Int32) (s : mS) (Q : Int32 → mS → Prop) : Prop := mP vI d (some .int) (gm_I cX12_best) 57 (fun B => [some (.ref B), some (.int x1), some (.int x2), none]) s Q
def m_thrown (d : Nat) (s : mS) (Q : Int32 → mS → Prop) : Prop := mC vI d 119 (fun B => [.ref B]) s Q
def q_thrown (d : Nat) (s : mS) (Q : Int32 → Prop) : Prop := mQ vI d 119 (fun B => [.ref B]) s Q
def m_fail (d : Nat) (p0 : Int32) (s : mS) (Q : Int32 → mS → Prop) : Prop := mC vI d 120 (fun B => [.ref B, .int p0]) s Q
def q_fail (d : Nat) (p0 : Int32) (s : mS) (Q : Int32 → Prop) : Prop := mQ vI d 120 (fun B => [.ref B, .int p0]) s Q
def m_write (d : Nat) (p0 : Int64) (s : mS) (Q : Int32 → mS → Prop) : Prop := mC vI d 121 (fun B => [.ref B, .long p0]) s Q
def q_write (d : Nat) (p0 : Int64) (s : mS) (Q : Int32 → Prop) : Prop := mQ vI d 121 (fun B => [.ref B, .long p0]) s Q
def m_wipe (d : Nat) (s : mS) (Q : Unit → mS → Prop) : Prop := mC vU d 122 (fun B => [.ref B]) s Q
def q_wipe (d : Nat) (s : mS) (Q : Unit → Prop) : Prop := mQ vU d 122 (fun B => [.ref B]) s Q
def m_here (d : Nat) (s : mS) (Q : Int32 → mS → Prop) : Prop := mC vI d 123 (fun B => [.ref B]) s Q
def q_here (d : Nat) (s : mS) (Q : Int32 → Prop) : Prop := mQ vI d 123 (fun B => [.ref B]) s Q
def m_isLetter (d : Nat) (p0 : Int32) (s : mS) (Q : Int32 → mS → Prop) : Prop := mC vI d 124 (fun B => [.int p0]) s Q
def q_isLetter (d : Nat) (p0 : Int32) (s : mS) (Q : Int32 → Prop) : Prop := mQ vI d 124 (fun B => [.int p0]) s Q
def m_isVariable (d : Nat) (p0 : Int32) (s : mS) (Q : Int32 → mS → Prop) : Prop := mC vI d 125 (fun B => [.int p0]) s Q
def q_isVariable (d : Nat) (p0 : Int32) (s : mS) (Q : Int32 → Prop) : Prop := mQ vI d 125 (fun B => [.int p0]) s Q
def m_isPlain (d : Nat) (p0 : Int32) (s : mS) (Q : Int32 → mS → Prop) : Prop := mC vI d 126 (fun B => [.int p0]) s Q
def q_isPlain (d : Nat) (p0 : Int32) (s : mS) (Q : Int32 → Prop) : Prop := mQ vI d 126 (fun B => [.int p0]) s Q
def m_terms (d : Nat) (p0 : Int32) (s : mS) (Q : Int32 → mS → Prop) : Prop := mC vI d 127 (fun B => [.int p0]) s Q
def q_terms (d : Nat) (p0 : Int32) (s : mS) (Q : Int32 → Prop) : Prop := mQ vI d 127 (fun B => [.int p0]) s Q
def m_takes (d : Nat) (p0 : Int32) (s : mS) (Q : Int32 → mS → Prop) : Prop := mC vI d 128 (fun B => [.ref B, .int p0]) s Q
def q_takes (d : Nat) (p0 : Int32) (s : mS) (Q : Int32 → Prop) : Prop := mQ vI d 128 (fun B => [.ref B, .int p0]) s Q
def m_term (d : Nat) (p0 : Int32) (s : mS) (Q : Int32 → mS → Prop) : Prop := mC vI d 129 (fun B => [.ref B, .int p0]) s Q
def q_term (d : Nat) (p0 : Int32) (s : mS) (Q : Int32 → Prop) : Prop := mQ vI d 129 (fun B => [.ref B, .int p0]) s Q
def m_atom (d : Nat) (p0 : Int32) (s : mS) (Q : Int32 → mS → Prop) : Prop := mC vI d 130 (fun B => [.ref B, .int p0]) s Q
def q_atom (d : Nat) (p0 : Int32) (s : mS) (Q : Int32 → Prop) : Prop := mQ vI d 130 (fun B => [.ref B, .int p0]) s Q
def m_becomesTerm (d : Nat) (p0 : Int32) (s : mS) (Q : Int32 → mS → Prop) : Prop := mC vI d 131 (fun B => [.ref B, .int p0]) s Q
def q_becomesTerm (d : Nat) (p0 : Int32) (s : mS) (Q : Int32 → Prop) : Prop := mQ vI d 131 (fun B => [.ref B, .int p0]) s Q
def m_literal (d : Nat) (p0 : Int32) (s : mS) (Q : Int32 → mS → Prop) : Prop := mC vI d 132 (fun B => [.ref B, .int p0]) s Q
def q_literal (d : Nat) (p0 : Int32) (s : mS) (Q : Int32 → Prop) : Prop := mQ vI d 132 (fun B => [.ref B, .int p0]) s Q
def m_rule (d : Nat) (p0 : Int32) (s : mS) (Q : Int32 → mS → Prop) : Prop := mC vI d 133 (fun B => [.ref B, .int p0]) s Q
def q_rule (d : Nat) (p0 : Int32) (s : mS) (Q : Int32 → Prop) : Prop := mQ vI d 133 (fun B => [.ref B, .int p0]) s Q
def m_read (d : Nat) (s : mS) (Q : Int32 → mS → Prop) : Prop := mC vI d 134 (fun B => [.ref B]) s Q
def q_read (d : Nat) (s : mS) (Q : Int32 → Prop) : Prop := mQ vI d 134 (fun B => [.ref B]) s Q
def m_bits (d : Nat) (p0 : Int32) (p1 : Int32) (s : mS) (Q : Int32 → mS → Prop) : Prop := mC vI d 135 (fun B => [.ref B, .int p0, .int p1]) s Q
def q_bits (d : Nat) (p0 : Int32) (p1 : Int32) (s : mS) (Q : Int32 → Prop) : Prop := mQ vI d 135 (fun B => [.ref B, .int p0, .int p1]) s Q
def m_variables (d : Nat) (p0 : Int32) (s : mS) (Q : Int32 → mS → Prop) : Prop := mC vI d 136 (fun B => [.ref B, .int p0]) s Q
def q_variables (d : Nat) (p0 : Int32) (s : mS) (Q : Int32 → Prop) : Prop := mQ vI d 136 (fun B => [.ref B, .int p0]) s Q
def m_isHeadWrong (d : Nat) (p0 : Int32) (s : mS) (Q : Int32 → mS → Prop) : Prop := mC vI d 137 (fun B => [.ref B, .int p0]) s Q
def q_isHeadWrong (d : Nat) (p0 : Int32) (s : mS) (Q : Int32 → Prop) : Prop := mQ vI d 137 (fun B => [.ref B, .int p0]) s Q
def m_isLoose (d : Nat) (p0 : Int32) (s : mS) (Q : Int32 → mS → Prop) : Prop := mC vI d 138 (fun B => [.ref B, .int p0]) s Q
def q_isLoose (d : Nat) (p0 : Int32) (s : mS) (Q : Int32 → Prop) : Prop := mQ vI d 138 (fun B => [.ref B, .int p0]) s Q
def m_depends (d : Nat) (p0 : Int32) (s : mS) (Q : Unit → mS → Prop) : Prop := mC vU d 139 (fun B => [.ref B, .int p0]) s Q
def q_depends (d : Nat) (p0 : Int32) (s : mS) (Q : Unit → Prop) : Prop := mQ vU d 139 (fun B => [.ref B, .int p0]) s Q
def m_isCircular (d : Nat) (p0 : Int32) (s : mS) (Q : Int32 → mS → Prop) : Prop := mC vI d 140 (fun B => [.ref B, .int p0]) s Q
def q_isCircular (d : Nat) (p0 : Int32) (s : mS) (Q : Int32 → Prop) : Prop := mQ vI d 140 (fun B => [.ref B, .int p0]) s Q
def m_isMixed (d : Nat) (p0 : Int32) (s : mS) (Q : Int32 → mS → Prop) : Prop := mC vI d 141 (fun B => [.ref B, .int p0]) s Q
def q_isMixed (d : Nat) (p0 : Int32) (s : mS) (Q : Int32 → Prop) : Prop := mQ vI d 141 (fun B => [.ref B, .int p0]) s Q
def m_isWell (d : Nat) (s : mS) (Q : Int32 → mS → Prop) : Prop := mC vI d 142 (fun B => [.ref B]) s Q
def q_isWell (d : Nat) (s : mS) (Q : Int32 → Prop) : Prop := mQ vI d 142 (fun B => [.ref B]) s Q
def m_layers (d : Nat) (s : mS) (Q : Unit → mS → Prop) : Prop := mC vU d 143 (fun B => [.ref B]) s Q
def q_layers (d : Nat) (s : mS) (Q : Unit → Prop) : Prop := mQ vU d 143 (fun B => [.ref B]) s Q
def m_holds (d : Nat) (p0 : Int32) (p1 : Int64) (p2 : Int64) (p3 : Int64) (s : mS) (Q : Int32 → mS → Prop) : Prop := mC vI d 144 (fun B => [.ref B, .int p0, .long p1, .long p2, .long p3]) s Q
def q_holds (d : Nat) (p0 : Int32) (p1 : Int64) (p2 : Int64) (p3 : Int64) (s : mS) (Q : Int32 → Prop) : Prop := mQ vI d 144 (fun B => [.ref B, .int p0, .long p1, .long p2, .long p3]) s Q
def m_add (d : Nat) (p0 : Int32) (p1 : Int64) (p2 : Int64) (p3 : Int64) (s : mS) (Q : Unit → mS → Prop) : Prop := mC vU d 145 (fun B => [.ref B, .int p0, .long p1, .long p2, .long p3]) s Q
def q_add (d : Nat) (p0 : Int32) (p1 : Int64) (p2 : Int64) (p3 : Int64) (s : mS) (Q : Unit → Prop) : Prop := mQ vU d 145 (fun B => [.ref B, .int p0, .long p1, .long p2, .long p3]) s Q
def m_isConstant (d : Nat) (p0 : Int64) (s : mS) (Q : Int32 → mS → Prop) : Prop := mC vI d 146 (fun B => [.long p0]) s Q
def q_isConstant (d : Nat) (p0 : Int64) (s : mS) (Q : Int32 → Prop) : Prop := mQ vI d 146 (fun B => [.long p0]) s Q
def m_letterOf (d : Nat) (p0 : Int64) (p1 : Int32) (s : mS) (Q : Int32 → mS → Prop) : Prop := mC vI d 147 (fun B => [.long p0, .int p1]) s Q
def q_letterOf (d : Nat) (p0 : Int64) (p1 : Int32) (s : mS) (Q : Int32 → Prop) : Prop := mQ vI d 147 (fun B => [.long p0, .int p1]) s Q
def m_meets (d : Nat) (p0 : Int32) (p1 : Int64) (p2 : Int32) (s : mS) (Q : Int32 → mS → Prop) : Prop := mC vI d 148 (fun B => [.ref B, .int p0, .long p1, .int p2]) s Q
def q_meets (d : Nat) (p0 : Int32) (p1 : Int64) (p2 : Int32) (s : mS) (Q : Int32 → Prop) : Prop := mQ vI d 148 (fun B => [.ref B, .int p0, .long p1, .int p2]) s Q
def m_meetsTerm (d : Nat) (p0 : Int32) (p1 : Int64) (p2 : Int32) (s : mS) (Q : Int32 → mS → Prop) : Prop := mC vI d 149 (fun B => [.ref B, .int p0, .long p1, .int p2]) s Q
def q_meetsTerm (d : Nat) (p0 : Int32) (p1 : Int64) (p2 : Int32) (s : mS) (Q : Int32 → Prop) : Prop := mQ vI d 149 (fun B => [.ref B, .int p0, .long p1, .int p2]) s Q
def m_meetsFact (d : Nat) (p0 : Int32) (p1 : Int32) (p2 : Int32) (s : mS) (Q : Int32 → mS → Prop) : Prop := mC vI d 150 (fun B => [.ref B, .int p0, .int p1, .int p2]) s Q
def q_meetsFact (d : Nat) (p0 : Int32) (p1 : Int32) (p2 : Int32) (s : mS) (Q : Int32 → Prop) : Prop := mQ vI d 150 (fun B => [.ref B, .int p0, .int p1, .int p2]) s Q
def m_valueOf (d : Nat) (p0 : Int32) (s : mS) (Q : Int64 → mS → Prop) : Prop := mC vL d 151 (fun B => [.ref B, .int p0]) s Q
def q_valueOf (d : Nat) (p0 : Int32) (s : mS) (Q : Int64 → Prop) : Prop := mQ vL d 151 (fun B => [.ref B, .int p0]) s Q
def m_made (d : Nat) (p0 : Int32) (s : mS) (Q : Int64 → mS → Prop) : Prop := mC vL d 152 (fun B => [.ref B, .int p0]) s Q
def q_made (d : Nat) (p0 : Int32) (s : mS) (Q : Int64 → Prop) : Prop := mQ vL d 152 (fun B => [.ref B, .int p0]) s Q
def m_part (d : Nat) (p0 : Int32) (p1 : Int32) (s : mS) (Q : Int64 → mS → Prop) : Prop := mC vL d 153 (fun B => [.ref B, .int p0, .int p1]) s Q
def q_part (d : Nat) (p0 : Int32) (p1 : Int32) (s : mS) (Q : Int64 → Prop) : Prop := mQ vL d 153 (fun B => [.ref B, .int p0, .int p1]) s Q
def m_agrees (d : Nat) (p0 : Int32) (s : mS) (Q : Int32 → mS → Prop) : Prop := mC vI d 154 (fun B => [.ref B, .int p0]) s Q
def q_agrees (d : Nat) (p0 : Int32) (s : mS) (Q : Int32 → Prop) : Prop := mQ vI d 154 (fun B => [.ref B, .int p0]) s Q
def m_held (d : Nat) (p0 : Int32) (s : mS) (Q : Int32 → mS → Prop) : Prop := mC vI d 155 (fun B => [.ref B, .int p0]) s Q
def q_held (d : Nat) (p0 : Int32) (s : mS) (Q : Int32 → Prop) : Prop := mQ vI d 155 (fun B => [.ref B, .int p0]) s Q
def m_ways (d : Nat) (p0 : Int32) (s : mS) (Q : Int64 → mS → Prop) : Prop := mC vL d 156 (fun B => [.ref B, .int p0]) s Q
def q_ways (d : Nat) (p0 : Int32) (s : mS) (Q : Int64 → Prop) : Prop := mQ vL d 156 (fun B => [.ref B, .int p0]) s Q
def m_apply (d : Nat) (p0 : Int32) (s : mS) (Q : Unit → mS → Prop) : Prop := mC vU d 157 (fun B => [.ref B, .int p0]) s Q
def q_apply (d : Nat) (p0 : Int32) (s : mS) (Q : Unit → Prop) : Prop := mQ vU d 157 (fun B => [.ref B, .int p0]) s Q
def m_follow (d : Nat) (s : mS) (Q : Unit → mS → Prop) : Prop := mC vU d 158 (fun B => [.ref B]) s Q
def q_follow (d : Nat) (s : mS) (Q : Unit → Prop) : Prop := mQ vU d 158 (fun B => [.ref B]) s Q
def m_nothing (d : Nat) (s : mS) (Q : Unit → mS → Prop) : Prop := mC vU d 159 (fun B => [.ref B]) s Q
def q_nothing (d : Nat) (s : mS) (Q : Unit → Prop) : Prop := mQ vU d 159 (fun B => [.ref B]) s Q
def m_inState_now (d : Nat) (p1 : Int32) (p2 : Int32) (s : mS) (Q : Unit → mS → Prop) : Prop := mC vU d 160 (fun B => [.ref B, .ref (B + 17), .int p1, .int p2]) s Q
def q_inState_now (d : Nat) (p1 : Int32) (p2 : Int32) (s : mS) (Q : Unit → Prop) : Prop := mQ vU d 160 (fun B => [.ref B, .ref (B + 17), .int p1, .int p2]) s Q
def m_inState_next (d : Nat) (p1 : Int32) (p2 : Int32) (s : mS) (Q : Unit → mS → Prop) : Prop := mC vU d 160 (fun B => [.ref B, .ref (B + 19), .int p1, .int p2]) s Q
def q_inState_next (d : Nat) (p1 : Int32) (p2 : Int32) (s : mS) (Q : Unit → Prop) : Prop := mQ vU d 160 (fun B => [.ref B, .ref (B + 19), .int p1, .int p2]) s Q
def m_inState_stateTerm (d : Nat) (p1 : Int32) (p2 : Int32) (s : mS) (Q : Unit → mS → Prop) : Prop := mC vU d 160 (fun B => [.ref B, .ref (B + 24), .int p1, .int p2]) s Q
def q_inState_stateTerm (d : Nat) (p1 : Int32) (p2 : Int32) (s : mS) (Q : Unit → Prop) : Prop := mQ vU d 160 (fun B => [.ref B, .ref (B + 24), .int p1, .int p2]) s Q
def m_look (d : Nat) (s : mS) (Q : Unit → mS → Prop) : Prop := mC vU d 161 (fun B => [.ref B]) s Q
def q_look (d : Nat) (s : mS) (Q : Unit → Prop) : Prop := mQ vU d 161 (fun B => [.ref B]) s Q
def m_collect (d : Nat) (p0 : Int32) (p1 : Int64) (p2 : Int32) (s : mS) (Q : Unit → mS → Prop) : Prop := mC vU d 162 (fun B => [.ref B, .int p0, .long p1, .int p2]) s Q
def q_collect (d : Nat) (p0 : Int32) (p1 : Int64) (p2 : Int32) (s : mS) (Q : Unit → Prop) : Prop := mQ vU d 162 (fun B => [.ref B, .int p0, .long p1, .int p2]) s Q
def m_isState (d : Nat) (s : mS) (Q : Int32 → mS → Prop) : Prop := mC vI d 163 (fun B => [.ref B]) s Q
def q_isState (d : Nat) (s : mS) (Q : Int32 → Prop) : Prop := mQ vI d 163 (fun B => [.ref B]) s Q
def m_leadsOn_now (d : Nat) (p1 : Int32) (p2 : Int32) (p3 : Int64) (p4 : Int64) (s : mS) (Q : Int32 → mS → Prop) : Prop := mC vI d 164 (fun B => [.ref B, .ref (B + 17), .int p1, .int p2, .long p3, .long p4]) s Q
def q_leadsOn_now (d : Nat) (p1 : Int32) (p2 : Int32) (p3 : Int64) (p4 : Int64) (s : mS) (Q : Int32 → Prop) : Prop := mQ vI d 164 (fun B => [.ref B, .ref (B + 17), .int p1, .int p2, .long p3, .long p4]) s Q
def m_leadsOn_stateTerm (d : Nat) (p1 : Int32) (p2 : Int32) (p3 : Int64) (p4 : Int64) (s : mS) (Q : Int32 → mS → Prop) : Prop := mC vI d 164 (fun B => [.ref B, .ref (B + 24), .int p1, .int p2, .long p3, .long p4]) s Q
def q_leadsOn_stateTerm (d : Nat) (p1 : Int32) (p2 : Int32) (p3 : Int64) (p4 : Int64) (s : mS) (Q : Int32 → Prop) : Prop := mQ vI d 164 (fun B => [.ref B, .ref (B + 24), .int p1, .int p2, .long p3, .long p4]) s Q
def m_fetch_sheet (d : Nat) (p1 : Int32) (s : mS) (Q : Unit → mS → Prop) : Prop := mC vU d 165 (fun B => [.ref B, .ref (B + 1), .int p1]) s Q
def q_fetch_sheet (d : Nat) (p1 : Int32) (s : mS) (Q : Unit → Prop) : Prop := mQ vU d 165 (fun B => [.ref B, .ref (B + 1), .int p1]) s Q
def m_fetch_kept (d : Nat) (p1 : Int32) (s : mS) (Q : Unit → mS → Prop) : Prop := mC vU d 165 (fun B => [.ref B, .ref (B + 2), .int p1]) s Q
def q_fetch_kept (d : Nat) (p1 : Int32) (s : mS) (Q : Unit → Prop) : Prop := mQ vU d 165 (fun B => [.ref B, .ref (B + 2), .int p1]) s Q
def m_begins (d : Nat) (s : mS) (Q : Int32 → mS → Prop) : Prop := mC vI d 166 (fun B => [.ref B]) s Q
def q_begins (d : Nat) (s : mS) (Q : Int32 → Prop) : Prop := mQ vI d 166 (fun B => [.ref B]) s Q
def m_load (d : Nat) (s : mS) (Q : Int32 → mS → Prop) : Prop := mC vI d 167 (fun B => [.ref B]) s Q
def q_load (d : Nat) (s : mS) (Q : Int32 → Prop) : Prop := mQ vI d 167 (fun B => [.ref B]) s Q
def m_begin (d : Nat) (s : mS) (Q : Unit → mS → Prop) : Prop := mC vU d 168 (fun B => [.ref B]) s Q
def q_begin (d : Nat) (s : mS) (Q : Unit → Prop) : Prop := mQ vU d 168 (fun B => [.ref B]) s Q
def m_fault (d : Nat) (p0 : Int32) (s : mS) (Q : Int32 → mS → Prop) : Prop := mC vI d 169 (fun B => [.ref B, .int p0]) s Q
def q_fault (d : Nat) (p0 : Int32) (s : mS) (Q : Int32 → Prop) : Prop := mQ vI d 169 (fun B => [.ref B, .int p0]) s Q
def m_isPlayer (d : Nat) (p0 : Int32) (s : mS) (Q : Int32 → mS → Prop) : Prop := mC vI d 170 (fun B => [.ref B, .int p0]) s Q
def q_isPlayer (d : Nat) (p0 : Int32) (s : mS) (Q : Int32 → Prop) : Prop := mQ vI d 170 (fun B => [.ref B, .int p0]) s Q
def m_legal (d : Nat) (p0 : Int32) (s : mS) (Q : Unit → mS → Prop) : Prop := mC vU d 171 (fun B => [.ref B, .int p0]) s Q
def q_legal (d : Nat) (p0 : Int32) (s : mS) (Q : Unit → Prop) : Prop := mQ vU d 171 (fun B => [.ref B, .int p0]) s Q
def m_isEnd (d : Nat) (s : mS) (Q : Int32 → mS → Prop) : Prop := mC vI d 172 (fun B => [.ref B]) s Q
def q_isEnd (d : Nat) (s : mS) (Q : Int32 → Prop) : Prop := mQ vI d 172 (fun B => [.ref B]) s Q
def m_goalOf (d : Nat) (p0 : Int32) (s : mS) (Q : Int32 → mS → Prop) : Prop := mC vI d 173 (fun B => [.ref B, .int p0]) s Q
def q_goalOf (d : Nat) (p0 : Int32) (s : mS) (Q : Int32 → Prop) : Prop := mQ vI d 173 (fun B => [.ref B, .int p0]) s Q
def m_many (d : Nat) (p0 : Int32) (s : mS) (Q : Int32 → mS → Prop) : Prop := mC vI d 174 (fun B => [.ref B, .int p0]) s Q
def q_many (d : Nat) (p0 : Int32) (s : mS) (Q : Int32 → Prop) : Prop := mQ vI d 174 (fun B => [.ref B, .int p0]) s Q
def m_facts (d : Nat) (p0 : Int32) (p1 : Int32) (s : mS) (Q : Int32 → mS → Prop) : Prop := mC vI d 175 (fun B => [.ref B, .int p0, .int p1]) s Q
def q_facts (d : Nat) (p0 : Int32) (p1 : Int32) (s : mS) (Q : Int32 → Prop) : Prop := mQ vI d 175 (fun B => [.ref B, .int p0, .int p1]) s Q
def m_moves (d : Nat) (p0 : Int32) (s : mS) (Q : Int32 → mS → Prop) : Prop := mC vI d 176 (fun B => [.ref B, .int p0]) s Q
def q_moves (d : Nat) (p0 : Int32) (s : mS) (Q : Int32 → Prop) : Prop := mQ vI d 176 (fun B => [.ref B, .int p0]) s Q
def m_over (d : Nat) (s : mS) (Q : Int32 → mS → Prop) : Prop := mC vI d 177 (fun B => [.ref B]) s Q
def q_over (d : Nat) (s : mS) (Q : Int32 → Prop) : Prop := mQ vI d 177 (fun B => [.ref B]) s Q
def m_goal (d : Nat) (p0 : Int32) (s : mS) (Q : Int32 → mS → Prop) : Prop := mC vI d 178 (fun B => [.ref B, .int p0]) s Q
def q_goal (d : Nat) (p0 : Int32) (s : mS) (Q : Int32 → Prop) : Prop := mQ vI d 178 (fun B => [.ref B, .int p0]) s Q
def m_letter (d : Nat) (p0 : Int32) (p1 : Int32) (p2 : Int32) (s : mS) (Q : Int32 → mS → Prop) : Prop := mC vI d 179 (fun B => [.ref B, .int p0, .int p1, .int p2]) s Q
def q_letter (d : Nat) (p0 : Int32) (p1 : Int32) (p2 : Int32) (s : mS) (Q : Int32 → Prop) : Prop := mQ vI d 179 (fun B => [.ref B, .int p0, .int p1, .int p2]) s Q
def m_play (d : Nat) (p0 : Int32) (p1 : Int32) (s : mS) (Q : Int32 → mS → Prop) : Prop := mC vI d 180 (fun B => [.ref B, .int p0, .int p1]) s Q
def q_play (d : Nat) (p0 : Int32) (p1 : Int32) (s : mS) (Q : Int32 → Prop) : Prop := mQ vI d 180 (fun B => [.ref B, .int p0, .int p1]) s Q
def m_restart (d : Nat) (s : mS) (Q : Int32 → mS → Prop) : Prop := mC vI d 181 (fun B => [.ref B]) s Q
def q_restart (d : Nat) (s : mS) (Q : Int32 → Prop) : Prop := mQ vI d 181 (fun B => [.ref B]) s Q
def m_find_next (d : Nat) (p1 : Int32) (s : mS) (Q : Int32 → mS → Prop) : Prop := mC vI d 182 (fun B => [.ref B, .ref (B + 19), .int p1]) s Q
def q_find_next (d : Nat) (p1 : Int32) (s : mS) (Q : Int32 → Prop) : Prop := mQ vI d 182 (fun B => [.ref B, .ref (B + 19), .int p1]) s Q
def m_find_now (d : Nat) (p1 : Int32) (s : mS) (Q : Int32 → mS → Prop) : Prop := mC vI d 182 (fun B => [.ref B, .ref (B + 17), .int p1]) s Q
def q_find_now (d : Nat) (p1 : Int32) (s : mS) (Q : Int32 → Prop) : Prop := mQ vI d 182 (fun B => [.ref B, .ref (B + 17), .int p1]) s Q
def m_comes_first (d : Nat) (p1 : Int32) (s : mS) (Q : Unit → mS → Prop) : Prop := mC vU d 183 (fun B => [.ref B, .ref (B + 18), .int p1]) s Q
def q_comes_first (d : Nat) (p1 : Int32) (s : mS) (Q : Unit → Prop) : Prop := mQ vU d 183 (fun B => [.ref B, .ref (B + 18), .int p1]) s Q
def m_comes_next (d : Nat) (p1 : Int32) (s : mS) (Q : Unit → mS → Prop) : Prop := mC vU d 183 (fun B => [.ref B, .ref (B + 19), .int p1]) s Q
def q_comes_next (d : Nat) (p1 : Int32) (s : mS) (Q : Unit → Prop) : Prop := mQ vU d 183 (fun B => [.ref B, .ref (B + 19), .int p1]) s Q
def m_looksAt (d : Nat) (p0 : Int32) (s : mS) (Q : Int32 → mS → Prop) : Prop := mC vI d 184 (fun B => [.ref B, .int p0]) s Q
def q_looksAt (d : Nat) (p0 : Int32) (s : mS) (Q : Int32 → Prop) : Prop := mQ vI d 184 (fun B => [.ref B, .int p0]) s Q
def m_weighs (d : Nat) (s : mS) (Q : Int32 → mS → Prop) : Prop := mC vI d 185 (fun B => [.ref B]) s Q
def q_weighs (d : Nat) (s : mS) (Q : Int32 → Prop) : Prop := mQ vI d 185 (fun B => [.ref B]) s Q
def m_examine (d : Nat) (s : mS) (Q : Int32 → mS → Prop) : Prop := mC vI d 186 (fun B => [.ref B]) s Q
def q_examine (d : Nat) (s : mS) (Q : Int32 → Prop) : Prop := mQ vI d 186 (fun B => [.ref B]) s Q
def m_audit (d : Nat) (s : mS) (Q : Int32 → mS → Prop) : Prop := mC vI d 187 (fun B => [.ref B]) s Q
def q_audit (d : Nat) (s : mS) (Q : Int32 → Prop) : Prop := mQ vI d 187 (fun B => [.ref B]) s Q
def m_refuses (d : Nat) (s : mS) (Q : Int32 → mS → Prop) : Prop := mC vI d 188 (fun B => [.ref B]) s Q
def q_refuses (d : Nat) (s : mS) (Q : Int32 → Prop) : Prop := mQ vI d 188 (fun B => [.ref B]) s Q
def m_worth (d : Nat) (s : mS) (Q : Int32 → mS → Prop) : Prop := mC vI d 189 (fun B => [.ref B]) s Q
def q_worth (d : Nat) (s : mS) (Q : Int32 → Prop) : Prop := mQ vI d 189 (fun B => [.ref B]) s Q
def m_best (d : Nat) (s : mS) (Q : Int32 → mS → Prop) : Prop := mC vI d 190 (fun B => [.ref B]) s Q
def q_best (d : Nat) (s : mS) (Q : Int32 → Prop) : Prop := mQ vI d 190 (fun B => [.ref B]) s Q
theorem T_thrown_0 {d : Nat} {s : mS} {Q : Int32 → mS → Prop} (h : Q (s.1 0) s) : h_thrown_0 d s Q := by
  exact ⟨_, _, fun N0 K B G sz sl hN => r_thrown_0_ hN , h⟩
theorem m_thrown.of {d : Nat} {s : mS} {Q : Int32 → mS → Prop} (h : h_thrown_0 d s Q) : m_thrown (d + 1) s Q := mC.of (fun _ => rfl) (by decide) (fun _ => Nat.le_of_ble_eq_true rfl) (fun _ => rfl) h
theorem q_thrown.of {d : Nat} {s : mS} {Q : Int32 → Prop} (h : h_thrown_0 d s (fun r s' => s' = s ∧ Q r)) : q_thrown (d + 1) s Q := mQ.of (m_thrown.of h)
theorem T_fail_0 {d : Nat} {p0 : Int32} {s : mS} {Q : Int32 → mS → Prop} (h : Q (0 : Int32) (mI s 0 p0)) : h_fail_0 d p0 s Q := by
  exact ⟨_, _, fun N0 K B G sz sl hN => r_fail_0_ hN , h⟩
theorem m_fail.of {d : Nat} {p0 : Int32} {s : mS} {Q : Int32 → mS → Prop} (h : h_fail_0 d p0 s Q) : m_fail (d + 1) p0 s Q := mC.of (fun _ => rfl) (by decide) (fun _ => Nat.le_of_ble_eq_true rfl) (fun _ => rfl) h
theorem q_fail.of {d : Nat} {p0 : Int32} {s : mS} {Q : Int32 → Prop} (h : h_fail_0 d p0 s (fun r s' => s' = s ∧ Q r)) : q_fail (d + 1) p0 s Q := mQ.of (m_fail.of h)
theorem T_write_0 {d : Nat} {p0 : Int64} {s : mS} {Q : Int32 → mS → Prop} (h : h_write_11 d p0 (0 : Int32) (7 : Int32) (mI s 0 (0 : Int32)) Q) : h_write_0 d p0 s Q := by
  obtain ⟨r, s9, e, h⟩ := h
  exact ⟨r, s9, fun N0 K B G sz sl hN => r_write_0__at11 hN (e N0 K B G sz sl hN), h⟩
theorem m_write.of {d : Nat} {p0 : Int64} {s : mS} {Q : Int32 → mS → Prop} (h : h_write_0 d p0 s Q) : m_write (d + 1) p0 s Q := mC.of (fun _ => rfl) (by decide) (fun _ => Nat.le_of_ble_eq_true rfl) (fun _ => rfl) h
theorem q_write.of {d : Nat} {p0 : Int64} {s : mS} {Q : Int32 → Prop} (h : h_write_0 d p0 s (fun r s' => s' = s ∧ Q r)) : q_write (d + 1) p0 s Q := mQ.of (m_write.of h)
theorem T_write_11 {d : Nat} {y1 : Int64} {x3 : Int32} {x4 : Int32} {s : mS} {Q : Int32 → mS → Prop} (h : if x4 < 0 then (if ((s.1 2) + x3) ≤ (240 : Int32) then (h_write_88 d y1 (7 : Int32) s Q) else (Q (0 : Int32) s)) else (if (((y1 >>> ((((8 : Int32) * x4)).toInt64 &&& 63)) &&& (255 : Int64)).toInt32) = 0 then (h_write_11 d y1 x3 (x4 + (-1 : Int32)) s Q) else (if (((y1 >>> ((((8 : Int32) * x4)).toInt64 &&& 63)) &&& (255 : Int64)).toInt32) < (32 : Int32) then (Q (0 : Int32) s) else (if (((y1 >>> ((((8 : Int32) * x4)).toInt64 &&& 63)) &&& (255 : Int64)).toInt32) ≤ (126 : Int32) then (h_write_11 d y1 (x3 + (1 : Int32)) (x4 + (-1 : Int32)) s Q) else (Q (0 : Int32) s))))) : h_write_11 d y1 x3 x4 s Q := by
  by_cases c1 : x4 < 0
  · rw [if_pos c1] at h
    by_cases c2 : ((s.1 2) + x3) ≤ (240 : Int32)
    · rw [if_pos c2] at h
      obtain ⟨r, s9, e, h⟩ := h
      exact ⟨r, s9, fun N0 K B G sz sl hN => r_write_11_tt_at88 hN c1 c2 (e N0 K B G sz sl hN), h⟩
    · rw [if_neg c2] at h
      exact ⟨_, _, fun N0 K B G sz sl hN => r_write_11_tf hN c1 c2, h⟩
  · rw [if_neg c1] at h
    by_cases c2 : (((y1 >>> ((((8 : Int32) * x4)).toInt64 &&& 63)) &&& (255 : Int64)).toInt32) = 0
    · rw [if_pos c2] at h
      obtain ⟨r, s9, e, h⟩ := h
      exact ⟨r, s9, fun N0 K B G sz sl hN => r_write_11_ftf_at11 hN c1 c2 c2 (e N0 K B G sz sl hN), h⟩
    · rw [if_neg c2] at h
      by_cases c3 : (((y1 >>> ((((8 : Int32) * x4)).toInt64 &&& 63)) &&& (255 : Int64)).toInt32) < (32 : Int32)
      · rw [if_pos c3] at h
        exact ⟨_, _, fun N0 K B G sz sl hN => r_write_11_fft hN c1 c2 c3, h⟩
      · rw [if_neg c3] at h
        by_cases c4 : (((y1 >>> ((((8 : Int32) * x4)).toInt64 &&& 63)) &&& (255 : Int64)).toInt32) ≤ (126 : Int32)
        · rw [if_pos c4] at h
          obtain ⟨r, s9, e, h⟩ := h
          exact ⟨r, s9, fun N0 K B G sz sl hN => r_write_11_ffftt_at11 hN c1 c2 c3 c4 c2 (e N0 K B G sz sl hN), h⟩
        · rw [if_neg c4] at h
          exact ⟨_, _, fun N0 K B G sz sl hN => r_write_11_ffff hN c1 c2 c3 c4, h⟩
theorem T_write_88 {d : Nat} {y1 : Int64} {x4 : Int32} {s : mS} {Q : Int32 → mS → Prop} (h : if x4 < 0 then (Q (1 : Int32) s) else (if (((y1 >>> ((((8 : Int32) * x4)).toInt64 &&& 63)) &&& (255 : Int64)).toInt32) = 0 then (h_write_88 d y1 (x4 + (-1 : Int32)) s Q) else (∃ k3 : Nat, (s.1 2) = nI k3 ∧ k3 < 240 ∧ (h_write_88 d y1 (x4 + (-1 : Int32)) (mI (mA s 1 (upd (s.2.1 1) k3 (vp_nar .char (((((y1 >>> ((((8 : Int32) * x4)).toInt64 &&& 63)) &&& (255 : Int64)).toInt32).toUInt32 % 65536).toInt32)))) 2 ((s.1 2) + (1 : Int32))) Q)))) : h_write_88 d y1 x4 s Q := by
  by_cases c1 : x4 < 0
  · rw [if_pos c1] at h
    exact ⟨_, _, fun N0 K B G sz sl hN => r_write_88_t hN c1, h⟩
  · rw [if_neg c1] at h
    by_cases c2 : (((y1 >>> ((((8 : Int32) * x4)).toInt64 &&& 63)) &&& (255 : Int64)).toInt32) = 0
    · rw [if_pos c2] at h
      obtain ⟨r, s9, e, h⟩ := h
      exact ⟨r, s9, fun N0 K B G sz sl hN => r_write_88_ft_at88 hN c1 c2 (e N0 K B G sz sl hN), h⟩
    · rw [if_neg c2] at h
      obtain ⟨k3, ek3, lk3, h⟩ := h
      obtain ⟨r, s9, e, h⟩ := h
      exact ⟨r, s9, fun N0 K B G sz sl hN => r_write_88_ff_at88 hN c1 c2 ek3 lk3 (e N0 K B G sz sl hN), h⟩
theorem T_wipe_0 {d : Nat} {s : mS} {Q : Unit → mS → Prop} (h : Q () (mI (mI s 0 (0 : Int32)) 2 (0 : Int32))) : h_wipe_0 d s Q := by
  exact ⟨_, _, fun N0 K B G sz sl hN => r_wipe_0_ hN , h⟩
theorem m_wipe.of {d : Nat} {s : mS} {Q : Unit → mS → Prop} (h : h_wipe_0 d s Q) : m_wipe (d + 1) s Q := mC.of (fun _ => rfl) (by decide) (fun _ => Nat.le_of_ble_eq_true rfl) (fun _ => rfl) h
theorem q_wipe.of {d : Nat} {s : mS} {Q : Unit → Prop} (h : h_wipe_0 d s (fun r s' => s' = s ∧ Q r)) : q_wipe (d + 1) s Q := mQ.of (m_wipe.of h)
theorem T_here_0 {d : Nat} {s : mS} {Q : Int32 → mS → Prop} (h : if (s.1 9) ≤ (s.1 10) then (Q (0 : Int32) s) else (∃ k2 : Nat, (s.1 10) = nI k2 ∧ k2 < 240 ∧ (Q (s.2.1 8 k2) s))) : h_here_0 d s Q := by
  by_cases c1 : (s.1 9) ≤ (s.1 10)
  · rw [if_pos c1] at h
    exact ⟨_, _, fun N0 K B G sz sl hN => r_here_0_t hN c1, h⟩
  · rw [if_neg c1] at h
    obtain ⟨k2, ek2, lk2, h⟩ := h
    exact ⟨_, _, fun N0 K B G sz sl hN => r_here_0_f hN c1 ek2 lk2, h⟩
theorem m_here.of {d : Nat} {s : mS} {Q : Int32 → mS → Prop} (h : h_here_0 d s Q) : m_here (d + 1) s Q := mC.of (fun _ => rfl) (by decide) (fun _ => Nat.le_of_ble_eq_true rfl) (fun _ => rfl) h
theorem q_here.of {d : Nat} {s : mS} {Q : Int32 → Prop} (h : h_here_0 d s (fun r s' => s' = s ∧ Q r)) : q_here (d + 1) s Q := mQ.of (m_here.of h)
theorem T_isLetter_0 {d : Nat} {p0 : Int32} {s : mS} {Q : Int32 → mS → Prop} (h : if p0 < (97 : Int32) then (Q (0 : Int32) s) else (if (122 : Int32) < p0 then (Q (0 : Int32) s) else (Q (1 : Int32) s))) : h_isLetter_0 d p0 s Q := by
  by_cases c1 : p0 < (97 : Int32)
  · rw [if_pos c1] at h
    exact ⟨_, _, fun N0 K B G sz sl hN => r_isLetter_0_t hN c1, h⟩
  · rw [if_neg c1] at h
    by_cases c2 : (122 : Int32) < p0
    · rw [if_pos c2] at h
      exact ⟨_, _, fun N0 K B G sz sl hN => r_isLetter_0_ft hN c1 c2, h⟩
    · rw [if_neg c2] at h
      exact ⟨_, _, fun N0 K B G sz sl hN => r_isLetter_0_ff hN c1 c2, h⟩
theorem m_isLetter.of {d : Nat} {p0 : Int32} {s : mS} {Q : Int32 → mS → Prop} (h : h_isLetter_0 d p0 s Q) : m_isLetter (d + 1) p0 s Q := mC.of (fun _ => rfl) (by decide) (fun _ => Nat.le_of_ble_eq_true rfl) (fun _ => rfl) h
theorem q_isLetter.of {d : Nat} {p0 : Int32} {s : mS} {Q : Int32 → Prop} (h : h_isLetter_0 d p0 s (fun r s' => s' = s ∧ Q r)) : q_isLetter (d + 1) p0 s Q := mQ.of (m_isLetter.of h)
theorem T_isVariable_0 {d : Nat} {p0 : Int32} {s : mS} {Q : Int32 → mS → Prop} (h : if p0 < (85 : Int32) then (Q (0 : Int32) s) else (if (90 : Int32) < p0 then (Q (0 : Int32) s) else (Q (1 : Int32) s))) : h_isVariable_0 d p0 s Q := by
  by_cases c1 : p0 < (85 : Int32)
  · rw [if_pos c1] at h
    exact ⟨_, _, fun N0 K B G sz sl hN => r_isVariable_0_t hN c1, h⟩
  · rw [if_neg c1] at h
    by_cases c2 : (90 : Int32) < p0
    · rw [if_pos c2] at h
      exact ⟨_, _, fun N0 K B G sz sl hN => r_isVariable_0_ft hN c1 c2, h⟩
    · rw [if_neg c2] at h
      exact ⟨_, _, fun N0 K B G sz sl hN => r_isVariable_0_ff hN c1 c2, h⟩
theorem m_isVariable.of {d : Nat} {p0 : Int32} {s : mS} {Q : Int32 → mS → Prop} (h : h_isVariable_0 d p0 s Q) : m_isVariable (d + 1) p0 s Q := mC.of (fun _ => rfl) (by decide) (fun _ => Nat.le_of_ble_eq_true rfl) (fun _ => rfl) h
theorem q_isVariable.of {d : Nat} {p0 : Int32} {s : mS} {Q : Int32 → Prop} (h : h_isVariable_0 d p0 s (fun r s' => s' = s ∧ Q r)) : q_isVariable (d + 1) p0 s Q := mQ.of (m_isVariable.of h)
theorem T_isPlain_0 {d : Nat} {p0 : Int32} {s : mS} {Q : Int32 → mS → Prop} (h : q_isLetter d p0 s (fun r1 => if r1 = 0 then (q_isVariable d p0 s (fun r4 => if r4 = 0 then (if p0 < (48 : Int32) then (Q (0 : Int32) s) else (if (57 : Int32) < p0 then (Q (0 : Int32) s) else (Q (1 : Int32) s))) else (Q (1 : Int32) s))) else (Q (1 : Int32) s))) : h_isPlain_0 d p0 s Q := by
  obtain ⟨r1, t2, h⟩ := h
  by_cases c3 : r1 = 0
  · rw [if_pos c3] at h
    obtain ⟨r4, t5, h⟩ := h
    by_cases c6 : r4 = 0
    · rw [if_pos c6] at h
      by_cases c7 : p0 < (48 : Int32)
      · rw [if_pos c7] at h
        exact ⟨_, _, fun N0 K B G sz sl hN => r_isPlain_0_fft hN (t2 N0 K B G sz hN) c3 (t5 N0 K B G sz hN) c6 c7, h⟩
      · rw [if_neg c7] at h
        by_cases c8 : (57 : Int32) < p0
        · rw [if_pos c8] at h
          exact ⟨_, _, fun N0 K B G sz sl hN => r_isPlain_0_ffft hN (t2 N0 K B G sz hN) c3 (t5 N0 K B G sz hN) c6 c7 c8, h⟩
        · rw [if_neg c8] at h
          exact ⟨_, _, fun N0 K B G sz sl hN => r_isPlain_0_ffff hN (t2 N0 K B G sz hN) c3 (t5 N0 K B G sz hN) c6 c7 c8, h⟩
    · rw [if_neg c6] at h
      exact ⟨_, _, fun N0 K B G sz sl hN => r_isPlain_0_ft hN (t2 N0 K B G sz hN) c3 (t5 N0 K B G sz hN) c6, h⟩
  · rw [if_neg c3] at h
    exact ⟨_, _, fun N0 K B G sz sl hN => r_isPlain_0_t hN (t2 N0 K B G sz hN) c3, h⟩
theorem m_isPlain.of {d : Nat} {p0 : Int32} {s : mS} {Q : Int32 → mS → Prop} (h : h_isPlain_0 d p0 s Q) : m_isPlain (d + 1) p0 s Q := mC.of (fun _ => rfl) (by decide) (fun _ => Nat.le_of_ble_eq_true rfl) (fun _ => rfl) h
theorem q_isPlain.of {d : Nat} {p0 : Int32} {s : mS} {Q : Int32 → Prop} (h : h_isPlain_0 d p0 s (fun r s' => s' = s ∧ Q r)) : q_isPlain (d + 1) p0 s Q := mQ.of (m_isPlain.of h)
theorem T_terms_0 {d : Nat} {p0 : Int32} {s : mS} {Q : Int32 → mS → Prop} (h : if p0 = (82 : Int32) then (Q (1 : Int32) s) else (if p0 = (73 : Int32) then (Q (1 : Int32) s) else (if p0 = (84 : Int32) then (Q (1 : Int32) s) else (if p0 = (78 : Int32) then (Q (1 : Int32) s) else (if p0 = (68 : Int32) then (Q (2 : Int32) s) else (if p0 = (76 : Int32) then (Q (2 : Int32) s) else (if p0 = (71 : Int32) then (Q (2 : Int32) s) else (if p0 = (69 : Int32) then (Q (0 : Int32) s) else (Q (-1 : Int32) s))))))))) : h_terms_0 d p0 s Q := by
  by_cases c1 : p0 = (82 : Int32)
  · rw [if_pos c1] at h
    exact ⟨_, _, fun N0 K B G sz sl hN => r_terms_0_t hN c1, h⟩
  · rw [if_neg c1] at h
    by_cases c2 : p0 = (73 : Int32)
    · rw [if_pos c2] at h
      exact ⟨_, _, fun N0 K B G sz sl hN => r_terms_0_ft hN c1 c2, h⟩
    · rw [if_neg c2] at h
      by_cases c3 : p0 = (84 : Int32)
      · rw [if_pos c3] at h
        exact ⟨_, _, fun N0 K B G sz sl hN => r_terms_0_fft hN c1 c2 c3, h⟩
      · rw [if_neg c3] at h
        by_cases c4 : p0 = (78 : Int32)
        · rw [if_pos c4] at h
          exact ⟨_, _, fun N0 K B G sz sl hN => r_terms_0_ffff hN c1 c2 c3 c4, h⟩
        · rw [if_neg c4] at h
          by_cases c5 : p0 = (68 : Int32)
          · rw [if_pos c5] at h
            exact ⟨_, _, fun N0 K B G sz sl hN => r_terms_0_ffftt hN c1 c2 c3 c4 c5, h⟩
          · rw [if_neg c5] at h
            by_cases c6 : p0 = (76 : Int32)
            · rw [if_pos c6] at h
              exact ⟨_, _, fun N0 K B G sz sl hN => r_terms_0_ffftft hN c1 c2 c3 c4 c5 c6, h⟩
            · rw [if_neg c6] at h
              by_cases c7 : p0 = (71 : Int32)
              · rw [if_pos c7] at h
                exact ⟨_, _, fun N0 K B G sz sl hN => r_terms_0_ffftfff hN c1 c2 c3 c4 c5 c6 c7, h⟩
              · rw [if_neg c7] at h
                by_cases c8 : p0 = (69 : Int32)
                · rw [if_pos c8] at h
                  exact ⟨_, _, fun N0 K B G sz sl hN => r_terms_0_ffftfftf hN c1 c2 c3 c4 c5 c6 c7 c8, h⟩
                · rw [if_neg c8] at h
                  exact ⟨_, _, fun N0 K B G sz sl hN => r_terms_0_ffftfftt hN c1 c2 c3 c4 c5 c6 c7 c8, h⟩
theorem m_terms.of {d : Nat} {p0 : Int32} {s : mS} {Q : Int32 → mS → Prop} (h : h_terms_0 d p0 s Q) : m_terms (d + 1) p0 s Q := mC.of (fun _ => rfl) (by decide) (fun _ => Nat.le_of_ble_eq_true rfl) (fun _ => rfl) h
theorem q_terms.of {d : Nat} {p0 : Int32} {s : mS} {Q : Int32 → Prop} (h : h_terms_0 d p0 s (fun r s' => s' = s ∧ Q r)) : q_terms (d + 1) p0 s Q := mQ.of (m_terms.of h)
theorem T_takes_0 {d : Nat} {p0 : Int32} {s : mS} {Q : Int32 → mS → Prop} (h : q_here d s (fun r1 => if r1 = p0 then (Q (1 : Int32) (mI s 10 ((s.1 10) + (1 : Int32)))) else (Q (0 : Int32) s))) : h_takes_0 d p0 s Q := by
  obtain ⟨r1, t2, h⟩ := h
  by_cases c3 : r1 = p0
  · rw [if_pos c3] at h
    exact ⟨_, _, fun N0 K B G sz sl hN => r_takes_0_t hN (t2 N0 K B G sz hN) c3, h⟩
  · rw [if_neg c3] at h
    exact ⟨_, _, fun N0 K B G sz sl hN => r_takes_0_f hN (t2 N0 K B G sz hN) c3, h⟩
theorem m_takes.of {d : Nat} {p0 : Int32} {s : mS} {Q : Int32 → mS → Prop} (h : h_takes_0 d p0 s Q) : m_takes (d + 1) p0 s Q := mC.of (fun _ => rfl) (by decide) (fun _ => Nat.le_of_ble_eq_true rfl) (fun _ => rfl) h
theorem q_takes.of {d : Nat} {p0 : Int32} {s : mS} {Q : Int32 → Prop} (h : h_takes_0 d p0 s (fun r s' => s' = s ∧ Q r)) : q_takes (d + 1) p0 s Q := mQ.of (m_takes.of h)
theorem T_term_0 {d : Nat} {p0 : Int32} {s : mS} {Q : Int32 → mS → Prop} (h : q_here d s (fun r1 => q_isPlain d r1 s (fun r3 => if r3 = 0 then (Q (0 : Int32) s) else (∃ k6 : Nat, p0 = nI k6 ∧ k6 < 432 ∧ (∃ k8 : Nat, ((3 : Int32) * p0) = nI k8 ∧ k8 < 1296 ∧ (q_isLetter d r1 (mA (mA (mA (mI s 10 ((s.1 10) + (1 : Int32))) 15 (upd (s.2.1 15) k6 (0 : Int32))) 16 (upd (s.2.1 16) k6 (1 : Int32))) 17 (upd (s.2.1 17) k8 r1)) (fun r9 => if r9 = 0 then (Q (1 : Int32) (mA (mA (mA (mI s 10 ((s.1 10) + (1 : Int32))) 15 (upd (s.2.1 15) k6 (0 : Int32))) 16 (upd (s.2.1 16) k6 (1 : Int32))) 17 (upd (s.2.1 17) k8 r1))) else (m_takes d (40 : Int32) (mA (mA (mA (mI s 10 ((s.1 10) + (1 : Int32))) 15 (upd (s.2.1 15) k6 (0 : Int32))) 16 (upd (s.2.1 16) k6 (1 : Int32))) 17 (upd (s.2.1 17) k8 r1)) (fun r12 s14 => if r12 = 0 then (Q (1 : Int32) s14) else (h_term_81 d p0 (0 : Int32) (mA (mA s14 15 (upd (s14.2.1 15) k6 r1)) 16 (upd (s14.2.1 16) k6 (0 : Int32))) Q)))))))))) : h_term_0 d p0 s Q := by
  obtain ⟨r1, t2, h⟩ := h
  obtain ⟨r3, t4, h⟩ := h
  by_cases c5 : r3 = 0
  · rw [if_pos c5] at h
    exact ⟨_, _, fun N0 K B G sz sl hN => r_term_0_f hN (t2 N0 K B G sz hN) (t4 N0 K B G sz hN) c5, h⟩
  · rw [if_neg c5] at h
    obtain ⟨k6, ek6, lk6, h⟩ := h
    obtain ⟨k8, ek8, lk8, h⟩ := h
    obtain ⟨r9, t10, h⟩ := h
    by_cases c11 : r9 = 0
    · rw [if_pos c11] at h
      exact ⟨_, _, fun N0 K B G sz sl hN => r_term_0_tt hN (t2 N0 K B G sz hN) (t4 N0 K B G sz hN) c5 ek6 lk6 ek6 lk6 ek8 lk8 (t10 N0 K B G sz hN) c11, h⟩
    · rw [if_neg c11] at h
      obtain ⟨r12, s14, t13, h⟩ := h
      by_cases c15 : r12 = 0
      · rw [if_pos c15] at h
        exact ⟨_, _, fun N0 K B G sz sl hN => r_term_0_tff hN (t2 N0 K B G sz hN) (t4 N0 K B G sz hN) c5 ek6 lk6 ek6 lk6 ek8 lk8 (t10 N0 K B G sz hN) c11 (t13 N0 K B G sz hN) c15, h⟩
      · rw [if_neg c15] at h
        obtain ⟨r, s9, e, h⟩ := h
        exact ⟨r, s9, fun N0 K B G sz sl hN => r_term_0_tft_at81 hN (t2 N0 K B G sz hN) (t4 N0 K B G sz hN) c5 ek6 lk6 ek6 lk6 ek8 lk8 (t10 N0 K B G sz hN) c11 (t13 N0 K B G sz hN) c15 ek6 lk6 ek6 lk6 (e N0 K B G sz sl hN), h⟩
theorem m_term.of {d : Nat} {p0 : Int32} {s : mS} {Q : Int32 → mS → Prop} (h : h_term_0 d p0 s Q) : m_term (d + 1) p0 s Q := mC.of (fun _ => rfl) (by decide) (fun _ => Nat.le_of_ble_eq_true rfl) (fun _ => rfl) h
theorem q_term.of {d : Nat} {p0 : Int32} {s : mS} {Q : Int32 → Prop} (h : h_term_0 d p0 s (fun r s' => s' = s ∧ Q r)) : q_term (d + 1) p0 s Q := mQ.of (m_term.of h)
theorem T_term_81 {d : Nat} {x1 : Int32} {x3 : Int32} {s : mS} {Q : Int32 → mS → Prop} (h : if (3 : Int32) ≤ x3 then (Q (0 : Int32) s) else (q_here d s (fun r2 => q_isPlain d r2 s (fun r4 => if r4 = 0 then (Q (0 : Int32) s) else (q_here d s (fun r7 => ∃ k9 : Nat, (((3 : Int32) * x1) + x3) = nI k9 ∧ k9 < 1296 ∧ (∃ k10 : Nat, x1 = nI k10 ∧ k10 < 432 ∧ (m_takes d (41 : Int32) (mI (mA (mA s 17 (upd (s.2.1 17) k9 r7)) 16 (upd (s.2.1 16) k10 ((s.2.1 16 k10) + (1 : Int32)))) 10 ((s.1 10) + (1 : Int32))) (fun r12 s14 => if r12 = 0 then (if x3 = (2 : Int32) then (Q (0 : Int32) s14) else (m_takes d (44 : Int32) s14 (fun r17 s19 => if r17 = 0 then (Q (0 : Int32) s19) else (h_term_81 d x1 (x3 + (1 : Int32)) s19 Q)))) else (Q (1 : Int32) s14)))))))))) : h_term_81 d x1 x3 s Q := by
  by_cases c1 : (3 : Int32) ≤ x3
  · rw [if_pos c1] at h
    exact ⟨_, _, fun N0 K B G sz sl hN => r_term_81_t hN c1, h⟩
  · rw [if_neg c1] at h
    obtain ⟨r2, t3, h⟩ := h
    obtain ⟨r4, t5, h⟩ := h
    by_cases c6 : r4 = 0
    · rw [if_pos c6] at h
      exact ⟨_, _, fun N0 K B G sz sl hN => r_term_81_ff hN c1 (t3 N0 K B G sz hN) (t5 N0 K B G sz hN) c6, h⟩
    · rw [if_neg c6] at h
      obtain ⟨r7, t8, h⟩ := h
      obtain ⟨k9, ek9, lk9, h⟩ := h
      obtain ⟨k10, ek10, lk10, h⟩ := h
      obtain ⟨r12, s14, t13, h⟩ := h
      by_cases c15 : r12 = 0
      · rw [if_pos c15] at h
        by_cases c16 : x3 = (2 : Int32)
        · rw [if_pos c16] at h
          exact ⟨_, _, fun N0 K B G sz sl hN => r_term_81_fttt hN c1 (t3 N0 K B G sz hN) (t5 N0 K B G sz hN) c6 (t8 N0 K B G sz hN) ek9 lk9 ek10 lk10 ek10 lk10 (t13 N0 K B G sz hN) c15 c16, h⟩
        · rw [if_neg c16] at h
          obtain ⟨r17, s19, t18, h⟩ := h
          by_cases c20 : r17 = 0
          · rw [if_pos c20] at h
            exact ⟨_, _, fun N0 K B G sz sl hN => r_term_81_fttff hN c1 (t3 N0 K B G sz hN) (t5 N0 K B G sz hN) c6 (t8 N0 K B G sz hN) ek9 lk9 ek10 lk10 ek10 lk10 (t13 N0 K B G sz hN) c15 c16 (t18 N0 K B G sz hN) c20, h⟩
          · rw [if_neg c20] at h
            obtain ⟨r, s9, e, h⟩ := h
            exact ⟨r, s9, fun N0 K B G sz sl hN => r_term_81_fttft_at81 hN c1 (t3 N0 K B G sz hN) (t5 N0 K B G sz hN) c6 (t8 N0 K B G sz hN) ek9 lk9 ek10 lk10 ek10 lk10 (t13 N0 K B G sz hN) c15 c16 (t18 N0 K B G sz hN) c20 (e N0 K B G sz sl hN), h⟩
      · rw [if_neg c15] at h
        exact ⟨_, _, fun N0 K B G sz sl hN => r_term_81_ftf hN c1 (t3 N0 K B G sz hN) (t5 N0 K B G sz hN) c6 (t8 N0 K B G sz hN) ek9 lk9 ek10 lk10 ek10 lk10 (t13 N0 K B G sz hN) c15, h⟩
theorem T_atom_0 {d : Nat} {p0 : Int32} {s : mS} {Q : Int32 → mS → Prop} (h : q_here d s (fun r1 => q_terms d r1 s (fun r3 => q_isLetter d r1 s (fun r5 => if r5 = 0 then (if 0 ≤ r3 then (∃ k9 : Nat, p0 = nI k9 ∧ k9 < 144 ∧ (if r3 = 0 then (Q (1 : Int32) (mA (mI s 10 ((s.1 10) + (1 : Int32))) 14 (upd (s.2.1 14) k9 ((4 : Int32) * r1)))) else (m_takes d (40 : Int32) (mA (mI s 10 ((s.1 10) + (1 : Int32))) 14 (upd (s.2.1 14) k9 ((4 : Int32) * r1))) (fun r12 s14 => if r12 = 0 then (Q (0 : Int32) s14) else (h_atom_75 d p0 r1 r3 (1 : Int32) s14 Q))))) else (Q (0 : Int32) s)) else (∃ k8 : Nat, p0 = nI k8 ∧ k8 < 144 ∧ (if r3 = 0 then (Q (1 : Int32) (mA (mI s 10 ((s.1 10) + (1 : Int32))) 14 (upd (s.2.1 14) k8 ((4 : Int32) * r1)))) else (if 0 ≤ r3 then (m_takes d (40 : Int32) (mA (mI s 10 ((s.1 10) + (1 : Int32))) 14 (upd (s.2.1 14) k8 ((4 : Int32) * r1))) (fun r11 s13 => if r11 = 0 then (Q (0 : Int32) s13) else (h_atom_75 d p0 r1 r3 (1 : Int32) s13 Q))) else (q_here d (mA (mI s 10 ((s.1 10) + (1 : Int32))) 14 (upd (s.2.1 14) k8 ((4 : Int32) * r1))) (fun r11 => if r11 = (40 : Int32) then (m_takes d (40 : Int32) (mA (mI s 10 ((s.1 10) + (1 : Int32))) 14 (upd (s.2.1 14) k8 ((4 : Int32) * r1))) (fun r14 s16 => if r14 = 0 then (Q (0 : Int32) s16) else (h_atom_75 d p0 r1 r3 (1 : Int32) s16 Q))) else (Q (1 : Int32) (mA (mI s 10 ((s.1 10) + (1 : Int32))) 14 (upd (s.2.1 14) k8 ((4 : Int32) * r1))))))))))))) : h_atom_0 d p0 s Q := by
  obtain ⟨r1, t2, h⟩ := h
  obtain ⟨r3, t4, h⟩ := h
  obtain ⟨r5, t6, h⟩ := h
  by_cases c7 : r5 = 0
  · rw [if_pos c7] at h
    by_cases c8 : 0 ≤ r3
    · rw [if_pos c8] at h
      obtain ⟨k9, ek9, lk9, h⟩ := h
      by_cases c10 : r3 = 0
      · rw [if_pos c10] at h
        exact ⟨_, _, fun N0 K B G sz sl hN => r_atom_0_ftt hN (t2 N0 K B G sz hN) (t4 N0 K B G sz hN) (t6 N0 K B G sz hN) c7 c8 ek9 lk9 c10, h⟩
      · rw [if_neg c10] at h
        obtain ⟨r12, s14, t13, h⟩ := h
        by_cases c15 : r12 = 0
        · rw [if_pos c15] at h
          exact ⟨_, _, fun N0 K B G sz sl hN => r_atom_0_ftftf hN (t2 N0 K B G sz hN) (t4 N0 K B G sz hN) (t6 N0 K B G sz hN) c7 c8 ek9 lk9 c10 c8 (t13 N0 K B G sz hN) c15, h⟩
        · rw [if_neg c15] at h
          obtain ⟨r, s9, e, h⟩ := h
          exact ⟨r, s9, fun N0 K B G sz sl hN => r_atom_0_ftftt_at75 hN (t2 N0 K B G sz hN) (t4 N0 K B G sz hN) (t6 N0 K B G sz hN) c7 c8 ek9 lk9 c10 c8 (t13 N0 K B G sz hN) c15 (e N0 K B G sz sl hN), h⟩
    · rw [if_neg c8] at h
      exact ⟨_, _, fun N0 K B G sz sl hN => r_atom_0_ff hN (t2 N0 K B G sz hN) (t4 N0 K B G sz hN) (t6 N0 K B G sz hN) c7 c8, h⟩
  · rw [if_neg c7] at h
    obtain ⟨k8, ek8, lk8, h⟩ := h
    by_cases c9 : r3 = 0
    · rw [if_pos c9] at h
      exact ⟨_, _, fun N0 K B G sz sl hN => r_atom_0_tt hN (t2 N0 K B G sz hN) (t4 N0 K B G sz hN) (t6 N0 K B G sz hN) c7 ek8 lk8 c9, h⟩
    · rw [if_neg c9] at h
      by_cases c10 : 0 ≤ r3
      · rw [if_pos c10] at h
        obtain ⟨r11, s13, t12, h⟩ := h
        by_cases c14 : r11 = 0
        · rw [if_pos c14] at h
          exact ⟨_, _, fun N0 K B G sz sl hN => r_atom_0_tftf hN (t2 N0 K B G sz hN) (t4 N0 K B G sz hN) (t6 N0 K B G sz hN) c7 ek8 lk8 c9 c10 (t12 N0 K B G sz hN) c14, h⟩
        · rw [if_neg c14] at h
          obtain ⟨r, s9, e, h⟩ := h
          exact ⟨r, s9, fun N0 K B G sz sl hN => r_atom_0_tftt_at75 hN (t2 N0 K B G sz hN) (t4 N0 K B G sz hN) (t6 N0 K B G sz hN) c7 ek8 lk8 c9 c10 (t12 N0 K B G sz hN) c14 (e N0 K B G sz sl hN), h⟩
      · rw [if_neg c10] at h
        obtain ⟨r11, t12, h⟩ := h
        by_cases c13 : r11 = (40 : Int32)
        · rw [if_pos c13] at h
          obtain ⟨r14, s16, t15, h⟩ := h
          by_cases c17 : r14 = 0
          · rw [if_pos c17] at h
            exact ⟨_, _, fun N0 K B G sz sl hN => r_atom_0_tfftf hN (t2 N0 K B G sz hN) (t4 N0 K B G sz hN) (t6 N0 K B G sz hN) c7 ek8 lk8 c9 c10 (t12 N0 K B G sz hN) c13 (t15 N0 K B G sz hN) c17, h⟩
          · rw [if_neg c17] at h
            obtain ⟨r, s9, e, h⟩ := h
            exact ⟨r, s9, fun N0 K B G sz sl hN => r_atom_0_tfftt_at75 hN (t2 N0 K B G sz hN) (t4 N0 K B G sz hN) (t6 N0 K B G sz hN) c7 ek8 lk8 c9 c10 (t12 N0 K B G sz hN) c13 (t15 N0 K B G sz hN) c17 (e N0 K B G sz sl hN), h⟩
        · rw [if_neg c13] at h
          exact ⟨_, _, fun N0 K B G sz sl hN => r_atom_0_tfff hN (t2 N0 K B G sz hN) (t4 N0 K B G sz hN) (t6 N0 K B G sz hN) c7 ek8 lk8 c9 c10 (t12 N0 K B G sz hN) c13, h⟩
theorem m_atom.of {d : Nat} {p0 : Int32} {s : mS} {Q : Int32 → mS → Prop} (h : h_atom_0 d p0 s Q) : m_atom (d + 1) p0 s Q := mC.of (fun _ => rfl) (by decide) (fun _ => Nat.le_of_ble_eq_true rfl) (fun _ => rfl) h
theorem q_atom.of {d : Nat} {p0 : Int32} {s : mS} {Q : Int32 → Prop} (h : h_atom_0 d p0 s (fun r s' => s' = s ∧ Q r)) : q_atom (d + 1) p0 s Q := mQ.of (m_atom.of h)
theorem T_atom_75 {d : Nat} {x1 : Int32} {x2 : Int32} {x3 : Int32} {x4 : Int32} {s : mS} {Q : Int32 → mS → Prop} (h : if (3 : Int32) < x4 then (Q (0 : Int32) s) else (m_term d ((((3 : Int32) * x1) + x4) - (1 : Int32)) s (fun r2 s4 => if r2 = 0 then (Q (0 : Int32) s4) else (∃ k6 : Nat, x1 = nI k6 ∧ k6 < 144 ∧ (if x3 < 0 then (m_takes d (41 : Int32) (mA s4 14 (upd (s4.2.1 14) k6 (((4 : Int32) * x2) + x4))) (fun r8 s10 => if r8 = 0 then (if x4 = (3 : Int32) then (Q (0 : Int32) s10) else (m_takes d (44 : Int32) s10 (fun r14 s16 => if r14 = 0 then (Q (0 : Int32) s16) else (h_atom_75 d x1 x2 x3 (x4 + (1 : Int32)) s16 Q)))) else (Q (1 : Int32) s10))) else (if x4 = x3 then (m_takes d (41 : Int32) (mA s4 14 (upd (s4.2.1 14) k6 (((4 : Int32) * x2) + x4))) (fun r9 s11 => if r9 = 0 then (Q (0 : Int32) s11) else (Q (1 : Int32) s11))) else (m_takes d (44 : Int32) (mA s4 14 (upd (s4.2.1 14) k6 (((4 : Int32) * x2) + x4))) (fun r11 s13 => if r11 = 0 then (Q (0 : Int32) s13) else (h_atom_75 d x1 x2 x3 (x4 + (1 : Int32)) s13 Q))))))))) : h_atom_75 d x1 x2 x3 x4 s Q := by
  by_cases c1 : (3 : Int32) < x4
  · rw [if_pos c1] at h
    exact ⟨_, _, fun N0 K B G sz sl hN => r_atom_75_t hN c1, h⟩
  · rw [if_neg c1] at h
    obtain ⟨r2, s4, t3, h⟩ := h
    by_cases c5 : r2 = 0
    · rw [if_pos c5] at h
      exact ⟨_, _, fun N0 K B G sz sl hN => r_atom_75_ff hN c1 (t3 N0 K B G sz hN) c5, h⟩
    · rw [if_neg c5] at h
      obtain ⟨k6, ek6, lk6, h⟩ := h
      by_cases c7 : x3 < 0
      · rw [if_pos c7] at h
        obtain ⟨r8, s10, t9, h⟩ := h
        by_cases c11 : r8 = 0
        · rw [if_pos c11] at h
          by_cases c13 : x4 = (3 : Int32)
          · rw [if_pos c13] at h
            exact ⟨_, _, fun N0 K B G sz sl hN => r_atom_75_ftttft hN c1 (t3 N0 K B G sz hN) c5 ek6 lk6 c7 (t9 N0 K B G sz hN) c11 (Int32.not_le.mpr c7) c13, h⟩
          · rw [if_neg c13] at h
            obtain ⟨r14, s16, t15, h⟩ := h
            by_cases c17 : r14 = 0
            · rw [if_pos c17] at h
              exact ⟨_, _, fun N0 K B G sz sl hN => r_atom_75_ftttfff hN c1 (t3 N0 K B G sz hN) c5 ek6 lk6 c7 (t9 N0 K B G sz hN) c11 (Int32.not_le.mpr c7) c13 (t15 N0 K B G sz hN) c17, h⟩
            · rw [if_neg c17] at h
              obtain ⟨r, s9, e, h⟩ := h
              exact ⟨r, s9, fun N0 K B G sz sl hN => r_atom_75_ftttfft_at75 hN c1 (t3 N0 K B G sz hN) c5 ek6 lk6 c7 (t9 N0 K B G sz hN) c11 (Int32.not_le.mpr c7) c13 (t15 N0 K B G sz hN) c17 (e N0 K B G sz sl hN), h⟩
        · rw [if_neg c11] at h
          exact ⟨_, _, fun N0 K B G sz sl hN => r_atom_75_fttf hN c1 (t3 N0 K B G sz hN) c5 ek6 lk6 c7 (t9 N0 K B G sz hN) c11, h⟩
      · rw [if_neg c7] at h
        by_cases c8 : x4 = x3
        · rw [if_pos c8] at h
          obtain ⟨r9, s11, t10, h⟩ := h
          by_cases c12 : r9 = 0
          · rw [if_pos c12] at h
            exact ⟨_, _, fun N0 K B G sz sl hN => r_atom_75_ftffttt hN c1 (t3 N0 K B G sz hN) c5 ek6 lk6 c7 c8 (t10 N0 K B G sz hN) c12 (Int32.not_lt.mp c7) c8, h⟩
          · rw [if_neg c12] at h
            exact ⟨_, _, fun N0 K B G sz sl hN => r_atom_75_ftfff hN c1 (t3 N0 K B G sz hN) c5 ek6 lk6 c7 c8 (t10 N0 K B G sz hN) c12, h⟩
        · rw [if_neg c8] at h
          obtain ⟨r11, s13, t12, h⟩ := h
          by_cases c14 : r11 = 0
          · rw [if_pos c14] at h
            exact ⟨_, _, fun N0 K B G sz sl hN => r_atom_75_ftfttff hN c1 (t3 N0 K B G sz hN) c5 ek6 lk6 c7 c8 (Int32.not_lt.mp c7) c8 (t12 N0 K B G sz hN) c14, h⟩
          · rw [if_neg c14] at h
            obtain ⟨r, s9, e, h⟩ := h
            exact ⟨r, s9, fun N0 K B G sz sl hN => r_atom_75_ftfttft_at75 hN c1 (t3 N0 K B G sz hN) c5 ek6 lk6 c7 c8 (Int32.not_lt.mp c7) c8 (t12 N0 K B G sz hN) c14 (e N0 K B G sz sl hN), h⟩
theorem T_becomesTerm_0 {d : Nat} {p0 : Int32} {s : mS} {Q : Int32 → mS → Prop} (h : ∃ k1 : Nat, p0 = nI k1 ∧ k1 < 144 ∧ (h_becomesTerm_11 d p0 ((s.2.1 14 k1) &&& (3 : Int32)) (0 : Int32) s Q)) : h_becomesTerm_0 d p0 s Q := by
  obtain ⟨k1, ek1, lk1, h⟩ := h
  obtain ⟨r, s9, e, h⟩ := h
  exact ⟨r, s9, fun N0 K B G sz sl hN => r_becomesTerm_0__at11 hN ek1 lk1 (e N0 K B G sz sl hN), h⟩
theorem m_becomesTerm.of {d : Nat} {p0 : Int32} {s : mS} {Q : Int32 → mS → Prop} (h : h_becomesTerm_0 d p0 s Q) : m_becomesTerm (d + 1) p0 s Q := mC.of (fun _ => rfl) (by decide) (fun _ => Nat.le_of_ble_eq_true rfl) (fun _ => rfl) h
theorem q_becomesTerm.of {d : Nat} {p0 : Int32} {s : mS} {Q : Int32 → Prop} (h : h_becomesTerm_0 d p0 s (fun r s' => s' = s ∧ Q r)) : q_becomesTerm (d + 1) p0 s Q := mQ.of (m_becomesTerm.of h)
theorem T_becomesTerm_11 {d : Nat} {x1 : Int32} {x2 : Int32} {x3 : Int32} {s : mS} {Q : Int32 → mS → Prop} (h : if x2 ≤ x3 then (∃ k2 : Nat, x1 = nI k2 ∧ k2 < 144 ∧ (h_becomesTerm_51 d x1 x2 ((s.2.1 14 k2) / (4 : Int32)) (x2 - (1 : Int32)) s Q)) else (∃ k2 : Nat, (((3 : Int32) * x1) + x3) = nI k2 ∧ k2 < 432 ∧ (if (s.2.1 15 k2) = 0 then (h_becomesTerm_11 d x1 x2 (x3 + (1 : Int32)) s Q) else (Q (0 : Int32) s)))) : h_becomesTerm_11 d x1 x2 x3 s Q := by
  by_cases c1 : x2 ≤ x3
  · rw [if_pos c1] at h
    obtain ⟨k2, ek2, lk2, h⟩ := h
    obtain ⟨r, s9, e, h⟩ := h
    exact ⟨r, s9, fun N0 K B G sz sl hN => r_becomesTerm_11_t_at51 hN c1 ek2 lk2 (e N0 K B G sz sl hN), h⟩
  · rw [if_neg c1] at h
    obtain ⟨k2, ek2, lk2, h⟩ := h
    by_cases c3 : (s.2.1 15 k2) = 0
    · rw [if_pos c3] at h
      obtain ⟨r, s9, e, h⟩ := h
      exact ⟨r, s9, fun N0 K B G sz sl hN => r_becomesTerm_11_ft_at11 hN c1 ek2 lk2 c3 (e N0 K B G sz sl hN), h⟩
    · rw [if_neg c3] at h
      exact ⟨_, _, fun N0 K B G sz sl hN => r_becomesTerm_11_ff hN c1 ek2 lk2 c3, h⟩
theorem T_becomesTerm_51 {d : Nat} {x1 : Int32} {x2 : Int32} {x3 : Int32} {x4 : Int32} {s : mS} {Q : Int32 → mS → Prop} (h : if x4 < 0 then (if x2 = 0 then (∃ k3 : Nat, ((3 : Int32) * x1) = nI k3 ∧ k3 < 432 ∧ (∃ k7 : Nat, ((9 : Int32) * x1) = nI k7 ∧ k7 < 1296 ∧ (Q (1 : Int32) (mA (mA (mA s 15 (upd (s.2.1 15) k3 (0 : Int32))) 16 (upd (s.2.1 16) k3 (1 : Int32))) 17 (upd (s.2.1 17) k7 x3))))) else (∃ k3 : Nat, ((3 : Int32) * x1) = nI k3 ∧ k3 < 432 ∧ (∃ k7 : Nat, ((9 : Int32) * x1) = nI k7 ∧ k7 < 1296 ∧ (Q (1 : Int32) (mA (mA (mA s 15 (upd (s.2.1 15) k3 x3)) 16 (upd (s.2.1 16) k3 x2)) 17 (upd (s.2.1 17) k7 (s.2.1 17 k7))))))) else (∃ k2 : Nat, (((9 : Int32) * x1) + ((3 : Int32) * x4)) = nI k2 ∧ k2 < 1296 ∧ (∃ k3 : Nat, (((9 : Int32) * x1) + x4) = nI k3 ∧ k3 < 1296 ∧ (h_becomesTerm_51 d x1 x2 x3 (x4 + (-1 : Int32)) (mA s 17 (upd (s.2.1 17) k3 (s.2.1 17 k2))) Q)))) : h_becomesTerm_51 d x1 x2 x3 x4 s Q := by
  by_cases c1 : x4 < 0
  · rw [if_pos c1] at h
    by_cases c2 : x2 = 0
    · rw [if_pos c2] at h
      obtain ⟨k3, ek3, lk3, h⟩ := h
      obtain ⟨k7, ek7, lk7, h⟩ := h
      exact ⟨_, _, fun N0 K B G sz sl hN => r_becomesTerm_51_tfff hN c1 c2 ek3 lk3 c2 ek3 lk3 c2 ek7 lk7, h⟩
    · rw [if_neg c2] at h
      obtain ⟨k3, ek3, lk3, h⟩ := h
      obtain ⟨k7, ek7, lk7, h⟩ := h
      exact ⟨_, _, fun N0 K B G sz sl hN => r_becomesTerm_51_tttt hN c1 c2 ek3 lk3 c2 ek3 lk3 c2 ek7 lk7 ek7 lk7, h⟩
  · rw [if_neg c1] at h
    obtain ⟨k2, ek2, lk2, h⟩ := h
    obtain ⟨k3, ek3, lk3, h⟩ := h
    obtain ⟨r, s9, e, h⟩ := h
    exact ⟨r, s9, fun N0 K B G sz sl hN => r_becomesTerm_51_f_at51 hN c1 ek2 lk2 ek3 lk3 (e N0 K B G sz sl hN), h⟩
theorem T_literal_0 {d : Nat} {p0 : Int32} {s : mS} {Q : Int32 → mS → Prop} (h : ∃ k1 : Nat, p0 = nI k1 ∧ k1 < 144 ∧ (m_takes d (126 : Int32) (mA s 13 (upd (s.2.1 13) k1 (0 : Int32))) (fun r2 s4 => if r2 = 0 then (q_here d s4 (fun r6 => q_isLetter d r6 s4 (fun r8 => if r8 = 0 then (q_terms d r6 s4 (fun r11 => if r11 < 0 then (m_term d ((3 : Int32) * p0) s4 (fun r14 s16 => if r14 = 0 then (Q (0 : Int32) s16) else (m_takes d (35 : Int32) (mA s16 13 (upd (s16.2.1 13) k1 (2 : Int32))) (fun r19 s21 => if r19 = 0 then (Q (0 : Int32) s21) else (m_term d (((3 : Int32) * p0) + (1 : Int32)) s21 (fun r23 s25 => if r23 = 0 then (Q (0 : Int32) s25) else (Q (1 : Int32) s25))))))) else (m_atom d p0 s4 (fun r14 s16 => if r14 = 0 then (Q (0 : Int32) s16) else (q_here d s16 (fun r18 => if r18 = (35 : Int32) then (q_isLetter d r6 s16 (fun r21 => if r21 = 0 then (Q (1 : Int32) s16) else (m_becomesTerm d p0 s16 (fun r24 s26 => if r24 = 0 then (Q (1 : Int32) s26) else (m_takes d (35 : Int32) (mA s26 13 (upd (s26.2.1 13) k1 (2 : Int32))) (fun r29 s31 => if r29 = 0 then (Q (0 : Int32) s31) else (m_term d (((3 : Int32) * p0) + (1 : Int32)) s31 (fun r33 s35 => if r33 = 0 then (Q (0 : Int32) s35) else (Q (1 : Int32) s35))))))))) else (Q (1 : Int32) s16))))))) else (m_atom d p0 s4 (fun r11 s13 => if r11 = 0 then (Q (0 : Int32) s13) else (q_here d s13 (fun r15 => if r15 = (35 : Int32) then (q_isLetter d r6 s13 (fun r18 => if r18 = 0 then (Q (1 : Int32) s13) else (m_becomesTerm d p0 s13 (fun r21 s23 => if r21 = 0 then (Q (1 : Int32) s23) else (m_takes d (35 : Int32) (mA s23 13 (upd (s23.2.1 13) k1 (2 : Int32))) (fun r26 s28 => if r26 = 0 then (Q (0 : Int32) s28) else (m_term d (((3 : Int32) * p0) + (1 : Int32)) s28 (fun r30 s32 => if r30 = 0 then (Q (0 : Int32) s32) else (Q (1 : Int32) s32))))))))) else (Q (1 : Int32) s13)))))))) else (m_atom d p0 (mA s4 13 (upd (s4.2.1 13) k1 (1 : Int32))) (fun r7 s9 => (r7 = 0 ∨ r7 = 1) ∧ (Q r7 s9)))))) : h_literal_0 d p0 s Q := by
  obtain ⟨k1, ek1, lk1, h⟩ := h
  obtain ⟨r2, s4, t3, h⟩ := h
  by_cases c5 : r2 = 0
  · rw [if_pos c5] at h
    obtain ⟨r6, t7, h⟩ := h
    obtain ⟨r8, t9, h⟩ := h
    by_cases c10 : r8 = 0
    · rw [if_pos c10] at h
      obtain ⟨r11, t12, h⟩ := h
      by_cases c13 : r11 < 0
      · rw [if_pos c13] at h
        obtain ⟨r14, s16, t15, h⟩ := h
        by_cases c17 : r14 = 0
        · rw [if_pos c17] at h
          exact ⟨_, _, fun N0 K B G sz sl hN => r_literal_0_tftf hN ek1 lk1 (t3 N0 K B G sz hN) c5 (t7 N0 K B G sz hN) (t9 N0 K B G sz hN) c10 (t12 N0 K B G sz hN) c13 (t15 N0 K B G sz hN) c17, h⟩
        · rw [if_neg c17] at h
          obtain ⟨r19, s21, t20, h⟩ := h
          by_cases c22 : r19 = 0
          · rw [if_pos c22] at h
            exact ⟨_, _, fun N0 K B G sz sl hN => r_literal_0_tfttt hN ek1 lk1 (t3 N0 K B G sz hN) c5 (t7 N0 K B G sz hN) (t9 N0 K B G sz hN) c10 (t12 N0 K B G sz hN) c13 (t15 N0 K B G sz hN) c17 ek1 lk1 (t20 N0 K B G sz hN) c22, h⟩
          · rw [if_neg c22] at h
            obtain ⟨r23, s25, t24, h⟩ := h
            by_cases c26 : r23 = 0
            · rw [if_pos c26] at h
              exact ⟨_, _, fun N0 K B G sz sl hN => r_literal_0_tfttft hN ek1 lk1 (t3 N0 K B G sz hN) c5 (t7 N0 K B G sz hN) (t9 N0 K B G sz hN) c10 (t12 N0 K B G sz hN) c13 (t15 N0 K B G sz hN) c17 ek1 lk1 (t20 N0 K B G sz hN) c22 (t24 N0 K B G sz hN) c26, h⟩
            · rw [if_neg c26] at h
              exact ⟨_, _, fun N0 K B G sz sl hN => r_literal_0_tfttff hN ek1 lk1 (t3 N0 K B G sz hN) c5 (t7 N0 K B G sz hN) (t9 N0 K B G sz hN) c10 (t12 N0 K B G sz hN) c13 (t15 N0 K B G sz hN) c17 ek1 lk1 (t20 N0 K B G sz hN) c22 (t24 N0 K B G sz hN) c26, h⟩
      · rw [if_neg c13] at h
        obtain ⟨r14, s16, t15, h⟩ := h
        by_cases c17 : r14 = 0
        · rw [if_pos c17] at h
          exact ⟨_, _, fun N0 K B G sz sl hN => r_literal_0_tfff hN ek1 lk1 (t3 N0 K B G sz hN) c5 (t7 N0 K B G sz hN) (t9 N0 K B G sz hN) c10 (t12 N0 K B G sz hN) c13 (t15 N0 K B G sz hN) c17, h⟩
        · rw [if_neg c17] at h
          obtain ⟨r18, t19, h⟩ := h
          by_cases c20 : r18 = (35 : Int32)
          · rw [if_pos c20] at h
            obtain ⟨r21, t22, h⟩ := h
            by_cases c23 : r21 = 0
            · rw [if_pos c23] at h
              exact ⟨_, _, fun N0 K B G sz sl hN => r_literal_0_tfftft hN ek1 lk1 (t3 N0 K B G sz hN) c5 (t7 N0 K B G sz hN) (t9 N0 K B G sz hN) c10 (t12 N0 K B G sz hN) c13 (t15 N0 K B G sz hN) c17 (t19 N0 K B G sz hN) c20 (t22 N0 K B G sz hN) c23, h⟩
            · rw [if_neg c23] at h
              obtain ⟨r24, s26, t25, h⟩ := h
              by_cases c27 : r24 = 0
              · rw [if_pos c27] at h
                exact ⟨_, _, fun N0 K B G sz sl hN => r_literal_0_tfftfff hN ek1 lk1 (t3 N0 K B G sz hN) c5 (t7 N0 K B G sz hN) (t9 N0 K B G sz hN) c10 (t12 N0 K B G sz hN) c13 (t15 N0 K B G sz hN) c17 (t19 N0 K B G sz hN) c20 (t22 N0 K B G sz hN) c23 (t25 N0 K B G sz hN) c27, h⟩
              · rw [if_neg c27] at h
                obtain ⟨r29, s31, t30, h⟩ := h
                by_cases c32 : r29 = 0
                · rw [if_pos c32] at h
                  exact ⟨_, _, fun N0 K B G sz sl hN => r_literal_0_tfftfftt hN ek1 lk1 (t3 N0 K B G sz hN) c5 (t7 N0 K B G sz hN) (t9 N0 K B G sz hN) c10 (t12 N0 K B G sz hN) c13 (t15 N0 K B G sz hN) c17 (t19 N0 K B G sz hN) c20 (t22 N0 K B G sz hN) c23 (t25 N0 K B G sz hN) c27 ek1 lk1 (t30 N0 K B G sz hN) c32, h⟩
                · rw [if_neg c32] at h
                  obtain ⟨r33, s35, t34, h⟩ := h
                  by_cases c36 : r33 = 0
                  · rw [if_pos c36] at h
                    exact ⟨_, _, fun N0 K B G sz sl hN => r_literal_0_tfftfftft hN ek1 lk1 (t3 N0 K B G sz hN) c5 (t7 N0 K B G sz hN) (t9 N0 K B G sz hN) c10 (t12 N0 K B G sz hN) c13 (t15 N0 K B G sz hN) c17 (t19 N0 K B G sz hN) c20 (t22 N0 K B G sz hN) c23 (t25 N0 K B G sz hN) c27 ek1 lk1 (t30 N0 K B G sz hN) c32 (t34 N0 K B G sz hN) c36, h⟩
                  · rw [if_neg c36] at h
                    exact ⟨_, _, fun N0 K B G sz sl hN => r_literal_0_tfftfftff hN ek1 lk1 (t3 N0 K B G sz hN) c5 (t7 N0 K B G sz hN) (t9 N0 K B G sz hN) c10 (t12 N0 K B G sz hN) c13 (t15 N0 K B G sz hN) c17 (t19 N0 K B G sz hN) c20 (t22 N0 K B G sz hN) c23 (t25 N0 K B G sz hN) c27 ek1 lk1 (t30 N0 K B G sz hN) c32 (t34 N0 K B G sz hN) c36, h⟩
          · rw [if_neg c20] at h
            exact ⟨_, _, fun N0 K B G sz sl hN => r_literal_0_tfftt hN ek1 lk1 (t3 N0 K B G sz hN) c5 (t7 N0 K B G sz hN) (t9 N0 K B G sz hN) c10 (t12 N0 K B G sz hN) c13 (t15 N0 K B G sz hN) c17 (t19 N0 K B G sz hN) c20, h⟩
    · rw [if_neg c10] at h
      obtain ⟨r11, s13, t12, h⟩ := h
      by_cases c14 : r11 = 0
      · rw [if_pos c14] at h
        exact ⟨_, _, fun N0 K B G sz sl hN => r_literal_0_ttf hN ek1 lk1 (t3 N0 K B G sz hN) c5 (t7 N0 K B G sz hN) (t9 N0 K B G sz hN) c10 (t12 N0 K B G sz hN) c14, h⟩
      · rw [if_neg c14] at h
        obtain ⟨r15, t16, h⟩ := h
        by_cases c17 : r15 = (35 : Int32)
        · rw [if_pos c17] at h
          obtain ⟨r18, t19, h⟩ := h
          by_cases c20 : r18 = 0
          · rw [if_pos c20] at h
            exact ⟨_, _, fun N0 K B G sz sl hN => r_literal_0_tttft hN ek1 lk1 (t3 N0 K B G sz hN) c5 (t7 N0 K B G sz hN) (t9 N0 K B G sz hN) c10 (t12 N0 K B G sz hN) c14 (t16 N0 K B G sz hN) c17 (t19 N0 K B G sz hN) c20, h⟩
          · rw [if_neg c20] at h
            obtain ⟨r21, s23, t22, h⟩ := h
            by_cases c24 : r21 = 0
            · rw [if_pos c24] at h
              exact ⟨_, _, fun N0 K B G sz sl hN => r_literal_0_tttfff hN ek1 lk1 (t3 N0 K B G sz hN) c5 (t7 N0 K B G sz hN) (t9 N0 K B G sz hN) c10 (t12 N0 K B G sz hN) c14 (t16 N0 K B G sz hN) c17 (t19 N0 K B G sz hN) c20 (t22 N0 K B G sz hN) c24, h⟩
            · rw [if_neg c24] at h
              obtain ⟨r26, s28, t27, h⟩ := h
              by_cases c29 : r26 = 0
              · rw [if_pos c29] at h
                exact ⟨_, _, fun N0 K B G sz sl hN => r_literal_0_tttfftt hN ek1 lk1 (t3 N0 K B G sz hN) c5 (t7 N0 K B G sz hN) (t9 N0 K B G sz hN) c10 (t12 N0 K B G sz hN) c14 (t16 N0 K B G sz hN) c17 (t19 N0 K B G sz hN) c20 (t22 N0 K B G sz hN) c24 ek1 lk1 (t27 N0 K B G sz hN) c29, h⟩
              · rw [if_neg c29] at h
                obtain ⟨r30, s32, t31, h⟩ := h
                by_cases c33 : r30 = 0
                · rw [if_pos c33] at h
                  exact ⟨_, _, fun N0 K B G sz sl hN => r_literal_0_tttfftft hN ek1 lk1 (t3 N0 K B G sz hN) c5 (t7 N0 K B G sz hN) (t9 N0 K B G sz hN) c10 (t12 N0 K B G sz hN) c14 (t16 N0 K B G sz hN) c17 (t19 N0 K B G sz hN) c20 (t22 N0 K B G sz hN) c24 ek1 lk1 (t27 N0 K B G sz hN) c29 (t31 N0 K B G sz hN) c33, h⟩
                · rw [if_neg c33] at h
                  exact ⟨_, _, fun N0 K B G sz sl hN => r_literal_0_tttfftff hN ek1 lk1 (t3 N0 K B G sz hN) c5 (t7 N0 K B G sz hN) (t9 N0 K B G sz hN) c10 (t12 N0 K B G sz hN) c14 (t16 N0 K B G sz hN) c17 (t19 N0 K B G sz hN) c20 (t22 N0 K B G sz hN) c24 ek1 lk1 (t27 N0 K B G sz hN) c29 (t31 N0 K B G sz hN) c33, h⟩
        · rw [if_neg c17] at h
          exact ⟨_, _, fun N0 K B G sz sl hN => r_literal_0_tttt hN ek1 lk1 (t3 N0 K B G sz hN) c5 (t7 N0 K B G sz hN) (t9 N0 K B G sz hN) c10 (t12 N0 K B G sz hN) c14 (t16 N0 K B G sz hN) c17, h⟩
  · rw [if_neg c5] at h
    obtain ⟨r7, s9, t8, h⟩ := h
    obtain ⟨z10, h⟩ := h
    exact ⟨_, _, fun N0 K B G sz sl hN => r_literal_0_f hN ek1 lk1 (t3 N0 K B G sz hN) c5 ek1 lk1 (t8 N0 K B G sz hN) z10, h⟩
theorem m_literal.of {d : Nat} {p0 : Int32} {s : mS} {Q : Int32 → mS → Prop} (h : h_literal_0 d p0 s Q) : m_literal (d + 1) p0 s Q := mC.of (fun _ => rfl) (by decide) (fun _ => Nat.le_of_ble_eq_true rfl) (fun _ => rfl) h
theorem q_literal.of {d : Nat} {p0 : Int32} {s : mS} {Q : Int32 → Prop} (h : h_literal_0 d p0 s (fun r s' => s' = s ∧ Q r)) : q_literal (d + 1) p0 s Q := mQ.of (m_literal.of h)
theorem T_rule_0 {d : Nat} {p0 : Int32} {s : mS} {Q : Int32 → mS → Prop} (h : ∃ k1 : Nat, p0 = nI k1 ∧ k1 < 24 ∧ (∃ k2 : Nat, ((6 : Int32) * p0) = nI k2 ∧ k2 < 144 ∧ (m_atom d ((6 : Int32) * p0) (mA (mA s 12 (upd (s.2.1 12) k1 (0 : Int32))) 13 (upd (s.2.1 13) k2 (0 : Int32))) (fun r3 s5 => if r3 = 0 then (Q (0 : Int32) s5) else (m_takes d (46 : Int32) s5 (fun r7 s9 => if r7 = 0 then (m_takes d (58 : Int32) s9 (fun r11 s13 => if r11 = 0 then (Q (0 : Int32) s13) else (h_rule_54 d p0 (1 : Int32) s13 Q))) else (Q (1 : Int32) s9))))))) : h_rule_0 d p0 s Q := by
  obtain ⟨k1, ek1, lk1, h⟩ := h
  obtain ⟨k2, ek2, lk2, h⟩ := h
  obtain ⟨r3, s5, t4, h⟩ := h
  by_cases c6 : r3 = 0
  · rw [if_pos c6] at h
    exact ⟨_, _, fun N0 K B G sz sl hN => r_rule_0_f hN ek1 lk1 ek2 lk2 (t4 N0 K B G sz hN) c6, h⟩
  · rw [if_neg c6] at h
    obtain ⟨r7, s9, t8, h⟩ := h
    by_cases c10 : r7 = 0
    · rw [if_pos c10] at h
      obtain ⟨r11, s13, t12, h⟩ := h
      by_cases c14 : r11 = 0
      · rw [if_pos c14] at h
        exact ⟨_, _, fun N0 K B G sz sl hN => r_rule_0_ttf hN ek1 lk1 ek2 lk2 (t4 N0 K B G sz hN) c6 (t8 N0 K B G sz hN) c10 (t12 N0 K B G sz hN) c14, h⟩
      · rw [if_neg c14] at h
        obtain ⟨r, s9, e, h⟩ := h
        exact ⟨r, s9, fun N0 K B G sz sl hN => r_rule_0_ttt_at54 hN ek1 lk1 ek2 lk2 (t4 N0 K B G sz hN) c6 (t8 N0 K B G sz hN) c10 (t12 N0 K B G sz hN) c14 (e N0 K B G sz sl hN), h⟩
    · rw [if_neg c10] at h
      exact ⟨_, _, fun N0 K B G sz sl hN => r_rule_0_tf hN ek1 lk1 ek2 lk2 (t4 N0 K B G sz hN) c6 (t8 N0 K B G sz hN) c10, h⟩
theorem m_rule.of {d : Nat} {p0 : Int32} {s : mS} {Q : Int32 → mS → Prop} (h : h_rule_0 d p0 s Q) : m_rule (d + 1) p0 s Q := mC.of (fun _ => rfl) (by decide) (fun _ => Nat.le_of_ble_eq_true rfl) (fun _ => rfl) h
theorem q_rule.of {d : Nat} {p0 : Int32} {s : mS} {Q : Int32 → Prop} (h : h_rule_0 d p0 s (fun r s' => s' = s ∧ Q r)) : q_rule (d + 1) p0 s Q := mQ.of (m_rule.of h)
theorem T_rule_54 {d : Nat} {x1 : Int32} {x2 : Int32} {s : mS} {Q : Int32 → mS → Prop} (h : if (6 : Int32) ≤ x2 then (Q (0 : Int32) s) else (m_literal d (((6 : Int32) * x1) + x2) s (fun r2 s4 => if r2 = 0 then (Q (0 : Int32) s4) else (∃ k6 : Nat, x1 = nI k6 ∧ k6 < 24 ∧ (m_takes d (46 : Int32) (mA s4 12 (upd (s4.2.1 12) k6 x2)) (fun r7 s9 => if r7 = 0 then (m_takes d (44 : Int32) s9 (fun r11 s13 => if r11 = 0 then (Q (0 : Int32) s13) else (h_rule_54 d x1 (x2 + (1 : Int32)) s13 Q))) else (Q (1 : Int32) s9))))))) : h_rule_54 d x1 x2 s Q := by
  by_cases c1 : (6 : Int32) ≤ x2
  · rw [if_pos c1] at h
    exact ⟨_, _, fun N0 K B G sz sl hN => r_rule_54_t hN c1, h⟩
  · rw [if_neg c1] at h
    obtain ⟨r2, s4, t3, h⟩ := h
    by_cases c5 : r2 = 0
    · rw [if_pos c5] at h
      exact ⟨_, _, fun N0 K B G sz sl hN => r_rule_54_ff hN c1 (t3 N0 K B G sz hN) c5, h⟩
    · rw [if_neg c5] at h
      obtain ⟨k6, ek6, lk6, h⟩ := h
      obtain ⟨r7, s9, t8, h⟩ := h
      by_cases c10 : r7 = 0
      · rw [if_pos c10] at h
        obtain ⟨r11, s13, t12, h⟩ := h
        by_cases c14 : r11 = 0
        · rw [if_pos c14] at h
          exact ⟨_, _, fun N0 K B G sz sl hN => r_rule_54_fttf hN c1 (t3 N0 K B G sz hN) c5 ek6 lk6 (t8 N0 K B G sz hN) c10 (t12 N0 K B G sz hN) c14, h⟩
        · rw [if_neg c14] at h
          obtain ⟨r, s9, e, h⟩ := h
          exact ⟨r, s9, fun N0 K B G sz sl hN => r_rule_54_fttt_at54 hN c1 (t3 N0 K B G sz hN) c5 ek6 lk6 (t8 N0 K B G sz hN) c10 (t12 N0 K B G sz hN) c14 (e N0 K B G sz sl hN), h⟩
      · rw [if_neg c10] at h
        exact ⟨_, _, fun N0 K B G sz sl hN => r_rule_54_ftf hN c1 (t3 N0 K B G sz hN) c5 ek6 lk6 (t8 N0 K B G sz hN) c10, h⟩
theorem T_read_0 {d : Nat} {s : mS} {Q : Int32 → mS → Prop} (h : h_read_10 d (mI (mI s 10 (0 : Int32)) 11 (0 : Int32)) Q) : h_read_0 d s Q := by
  obtain ⟨r, s9, e, h⟩ := h
  exact ⟨r, s9, fun N0 K B G sz sl hN => r_read_0__at10 hN (e N0 K B G sz sl hN), h⟩
theorem m_read.of {d : Nat} {s : mS} {Q : Int32 → mS → Prop} (h : h_read_0 d s Q) : m_read (d + 1) s Q := mC.of (fun _ => rfl) (by decide) (fun _ => Nat.le_of_ble_eq_true rfl) (fun _ => rfl) h
theorem q_read.of {d : Nat} {s : mS} {Q : Int32 → Prop} (h : h_read_0 d s (fun r s' => s' = s ∧ Q r)) : q_read (d + 1) s Q := mQ.of (m_read.of h)
theorem T_read_10 {d : Nat} {s : mS} {Q : Int32 → mS → Prop} (h : if (s.1 10) < (s.1 9) then (if (s.1 11) = (24 : Int32) then (Q (0 : Int32) s) else (m_rule d (s.1 11) s (fun r3 s5 => if r3 = 0 then (Q (0 : Int32) s5) else (h_read_10 d (mI s5 11 ((s5.1 11) + (1 : Int32))) Q)))) else (if (s.1 11) = 0 then (if (s.1 11) = (24 : Int32) then (Q (0 : Int32) s) else (m_rule d (s.1 11) s (fun r4 s6 => if r4 = 0 then (Q (0 : Int32) s6) else (h_read_10 d (mI s6 11 ((s6.1 11) + (1 : Int32))) Q)))) else (Q (1 : Int32) s))) : h_read_10 d s Q := by
  by_cases c1 : (s.1 10) < (s.1 9)
  · rw [if_pos c1] at h
    by_cases c2 : (s.1 11) = (24 : Int32)
    · rw [if_pos c2] at h
      exact ⟨_, _, fun N0 K B G sz sl hN => r_read_10_tt hN c1 c2, h⟩
    · rw [if_neg c2] at h
      obtain ⟨r3, s5, t4, h⟩ := h
      by_cases c6 : r3 = 0
      · rw [if_pos c6] at h
        exact ⟨_, _, fun N0 K B G sz sl hN => r_read_10_tff hN c1 c2 (t4 N0 K B G sz hN) c6, h⟩
      · rw [if_neg c6] at h
        obtain ⟨r, s9, e, h⟩ := h
        exact ⟨r, s9, fun N0 K B G sz sl hN => r_read_10_tft_at10 hN c1 c2 (t4 N0 K B G sz hN) c6 (e N0 K B G sz sl hN), h⟩
  · rw [if_neg c1] at h
    by_cases c2 : (s.1 11) = 0
    · rw [if_pos c2] at h
      by_cases c3 : (s.1 11) = (24 : Int32)
      · rw [if_pos c3] at h
        exact ⟨_, _, fun N0 K B G sz sl hN => r_read_10_fft hN c1 c2 c3, h⟩
      · rw [if_neg c3] at h
        obtain ⟨r4, s6, t5, h⟩ := h
        by_cases c7 : r4 = 0
        · rw [if_pos c7] at h
          exact ⟨_, _, fun N0 K B G sz sl hN => r_read_10_ffff hN c1 c2 c3 (t5 N0 K B G sz hN) c7, h⟩
        · rw [if_neg c7] at h
          obtain ⟨r, s9, e, h⟩ := h
          exact ⟨r, s9, fun N0 K B G sz sl hN => r_read_10_ffft_at10 hN c1 c2 c3 (t5 N0 K B G sz hN) c7 (e N0 K B G sz sl hN), h⟩
    · rw [if_neg c2] at h
      exact ⟨_, _, fun N0 K B G sz sl hN => r_read_10_ft hN c1 c2, h⟩
theorem T_bits_0 {d : Nat} {p0 : Int32} {p1 : Int32} {s : mS} {Q : Int32 → mS → Prop} (h : h_bits_7 d p0 p1 (0 : Int32) ((3 : Int32) * p0) s Q) : h_bits_0 d p0 p1 s Q := by
  obtain ⟨r, s9, e, h⟩ := h
  exact ⟨r, s9, fun N0 K B G sz sl hN => r_bits_0__at7 hN (e N0 K B G sz sl hN), h⟩
theorem m_bits.of {d : Nat} {p0 : Int32} {p1 : Int32} {s : mS} {Q : Int32 → mS → Prop} (h : h_bits_0 d p0 p1 s Q) : m_bits (d + 1) p0 p1 s Q := mC.of (fun _ => rfl) (by decide) (fun _ => Nat.le_of_ble_eq_true rfl) (fun _ => rfl) h
theorem q_bits.of {d : Nat} {p0 : Int32} {p1 : Int32} {s : mS} {Q : Int32 → Prop} (h : h_bits_0 d p0 p1 s (fun r s' => s' = s ∧ Q r)) : q_bits (d + 1) p0 p1 s Q := mQ.of (m_bits.of h)
theorem T_bits_7 {d : Nat} {x1 : Int32} {x2 : Int32} {x3 : Int32} {x4 : Int32} {s : mS} {Q : Int32 → mS → Prop} (h : if (((3 : Int32) * x1) + x2) ≤ x4 then (Q x3 s) else (h_bits_23 d x1 x2 x3 x4 ((3 : Int32) * x4) s Q)) : h_bits_7 d x1 x2 x3 x4 s Q := by
  by_cases c1 : (((3 : Int32) * x1) + x2) ≤ x4
  · rw [if_pos c1] at h
    exact ⟨_, _, fun N0 K B G sz sl hN => r_bits_7_t hN c1, h⟩
  · rw [if_neg c1] at h
    obtain ⟨r, s9, e, h⟩ := h
    exact ⟨r, s9, fun N0 K B G sz sl hN => r_bits_7_f_at23 hN c1 (e N0 K B G sz sl hN), h⟩
theorem T_bits_23 {d : Nat} {x1 : Int32} {x2 : Int32} {x3 : Int32} {x4 : Int32} {x5 : Int32} {s : mS} {Q : Int32 → mS → Prop} (h : ∃ k1 : Nat, x4 = nI k1 ∧ k1 < 432 ∧ (if (((3 : Int32) * x4) + (s.2.1 16 k1)) ≤ x5 then (h_bits_7 d x1 x2 x3 (x4 + (1 : Int32)) s Q) else (∃ k3 : Nat, x5 = nI k3 ∧ k3 < 1296 ∧ (q_isVariable d (s.2.1 17 k3) s (fun r4 => if r4 = 0 then (h_bits_23 d x1 x2 x3 x4 (x5 + (1 : Int32)) s Q) else (h_bits_23 d x1 x2 (x3 ||| ((1 : Int32) <<< (((s.2.1 17 k3) - (85 : Int32)) &&& 31))) x4 (x5 + (1 : Int32)) s Q)))))) : h_bits_23 d x1 x2 x3 x4 x5 s Q := by
  obtain ⟨k1, ek1, lk1, h⟩ := h
  by_cases c2 : (((3 : Int32) * x4) + (s.2.1 16 k1)) ≤ x5
  · rw [if_pos c2] at h
    obtain ⟨r, s9, e, h⟩ := h
    exact ⟨r, s9, fun N0 K B G sz sl hN => r_bits_23_t_at7 hN ek1 lk1 c2 (e N0 K B G sz sl hN), h⟩
  · rw [if_neg c2] at h
    obtain ⟨k3, ek3, lk3, h⟩ := h
    obtain ⟨r4, t5, h⟩ := h
    by_cases c6 : r4 = 0
    · rw [if_pos c6] at h
      obtain ⟨r, s9, e, h⟩ := h
      exact ⟨r, s9, fun N0 K B G sz sl hN => r_bits_23_ft_at23 hN ek1 lk1 c2 ek3 lk3 (t5 N0 K B G sz hN) c6 (e N0 K B G sz sl hN), h⟩
    · rw [if_neg c6] at h
      obtain ⟨r, s9, e, h⟩ := h
      exact ⟨r, s9, fun N0 K B G sz sl hN => r_bits_23_ff_at23 hN ek1 lk1 c2 ek3 lk3 (t5 N0 K B G sz hN) c6 ek3 lk3 (e N0 K B G sz sl hN), h⟩
theorem T_variables_0 {d : Nat} {p0 : Int32} {s : mS} {Q : Int32 → mS → Prop} (h : ∃ k1 : Nat, p0 = nI k1 ∧ k1 < 144 ∧ (if (s.2.1 13 k1) = (2 : Int32) then (q_bits d p0 (2 : Int32) s (fun r3 => Q r3 s)) else (q_bits d p0 ((s.2.1 14 k1) &&& (3 : Int32)) s (fun r4 => Q r4 s)))) : h_variables_0 d p0 s Q := by
  obtain ⟨k1, ek1, lk1, h⟩ := h
  by_cases c2 : (s.2.1 13 k1) = (2 : Int32)
  · rw [if_pos c2] at h
    obtain ⟨r3, t4, h⟩ := h
    exact ⟨_, _, fun N0 K B G sz sl hN => r_variables_0_f hN ek1 lk1 c2 (t4 N0 K B G sz hN), h⟩
  · rw [if_neg c2] at h
    obtain ⟨r4, t5, h⟩ := h
    exact ⟨_, _, fun N0 K B G sz sl hN => r_variables_0_t hN ek1 lk1 c2 ek1 lk1 (t5 N0 K B G sz hN), h⟩
theorem m_variables.of {d : Nat} {p0 : Int32} {s : mS} {Q : Int32 → mS → Prop} (h : h_variables_0 d p0 s Q) : m_variables (d + 1) p0 s Q := mC.of (fun _ => rfl) (by decide) (fun _ => Nat.le_of_ble_eq_true rfl) (fun _ => rfl) h
theorem q_variables.of {d : Nat} {p0 : Int32} {s : mS} {Q : Int32 → Prop} (h : h_variables_0 d p0 s (fun r s' => s' = s ∧ Q r)) : q_variables (d + 1) p0 s Q := mQ.of (m_variables.of h)
theorem T_isHeadWrong_0 {d : Nat} {p0 : Int32} {s : mS} {Q : Int32 → mS → Prop} (h : ∃ k1 : Nat, ((6 : Int32) * p0) = nI k1 ∧ k1 < 144 ∧ (if ((s.2.1 14 k1) / (4 : Int32)) = (84 : Int32) then (h_isHeadWrong_64 d p0 (1 : Int32) (((6 : Int32) * p0) + (1 : Int32)) s Q) else (if ((s.2.1 14 k1) / (4 : Int32)) = (68 : Int32) then (h_isHeadWrong_64 d p0 (1 : Int32) (((6 : Int32) * p0) + (1 : Int32)) s Q) else (if ((s.2.1 14 k1) / (4 : Int32)) = (82 : Int32) then (∃ k5 : Nat, p0 = nI k5 ∧ k5 < 24 ∧ (if 0 < (s.2.1 12 k5) then (h_isHeadWrong_64 d p0 (1 : Int32) (((6 : Int32) * p0) + (1 : Int32)) s Q) else (q_variables d ((6 : Int32) * p0) s (fun r7 => if r7 = 0 then (h_isHeadWrong_64 d p0 (0 : Int32) (((6 : Int32) * p0) + (1 : Int32)) s Q) else (h_isHeadWrong_64 d p0 (1 : Int32) (((6 : Int32) * p0) + (1 : Int32)) s Q))))) else (h_isHeadWrong_64 d p0 (0 : Int32) (((6 : Int32) * p0) + (1 : Int32)) s Q))))) : h_isHeadWrong_0 d p0 s Q := by
  obtain ⟨k1, ek1, lk1, h⟩ := h
  by_cases c2 : ((s.2.1 14 k1) / (4 : Int32)) = (84 : Int32)
  · rw [if_pos c2] at h
    obtain ⟨r, s9, e, h⟩ := h
    exact ⟨r, s9, fun N0 K B G sz sl hN => r_isHeadWrong_0_t_at64 hN ek1 lk1 c2 (e N0 K B G sz sl hN), h⟩
  · rw [if_neg c2] at h
    by_cases c3 : ((s.2.1 14 k1) / (4 : Int32)) = (68 : Int32)
    · rw [if_pos c3] at h
      obtain ⟨r, s9, e, h⟩ := h
      exact ⟨r, s9, fun N0 K B G sz sl hN => r_isHeadWrong_0_ft_at64 hN ek1 lk1 c2 c3 (e N0 K B G sz sl hN), h⟩
    · rw [if_neg c3] at h
      by_cases c4 : ((s.2.1 14 k1) / (4 : Int32)) = (82 : Int32)
      · rw [if_pos c4] at h
        obtain ⟨k5, ek5, lk5, h⟩ := h
        by_cases c6 : 0 < (s.2.1 12 k5)
        · rw [if_pos c6] at h
          obtain ⟨r, s9, e, h⟩ := h
          exact ⟨r, s9, fun N0 K B G sz sl hN => r_isHeadWrong_0_ffft_at64 hN ek1 lk1 c2 c3 c4 ek5 lk5 c6 (e N0 K B G sz sl hN), h⟩
        · rw [if_neg c6] at h
          obtain ⟨r7, t8, h⟩ := h
          by_cases c9 : r7 = 0
          · rw [if_pos c9] at h
            obtain ⟨r, s9, e, h⟩ := h
            exact ⟨r, s9, fun N0 K B G sz sl hN => r_isHeadWrong_0_fffft_at64 hN ek1 lk1 c2 c3 c4 ek5 lk5 c6 (t8 N0 K B G sz hN) c9 (e N0 K B G sz sl hN), h⟩
          · rw [if_neg c9] at h
            obtain ⟨r, s9, e, h⟩ := h
            exact ⟨r, s9, fun N0 K B G sz sl hN => r_isHeadWrong_0_fffff_at64 hN ek1 lk1 c2 c3 c4 ek5 lk5 c6 (t8 N0 K B G sz hN) c9 (e N0 K B G sz sl hN), h⟩
      · rw [if_neg c4] at h
        obtain ⟨r, s9, e, h⟩ := h
        exact ⟨r, s9, fun N0 K B G sz sl hN => r_isHeadWrong_0_fft_at64 hN ek1 lk1 c2 c3 c4 (e N0 K B G sz sl hN), h⟩
theorem m_isHeadWrong.of {d : Nat} {p0 : Int32} {s : mS} {Q : Int32 → mS → Prop} (h : h_isHeadWrong_0 d p0 s Q) : m_isHeadWrong (d + 1) p0 s Q := mC.of (fun _ => rfl) (by decide) (fun _ => Nat.le_of_ble_eq_true rfl) (fun _ => rfl) h
theorem q_isHeadWrong.of {d : Nat} {p0 : Int32} {s : mS} {Q : Int32 → Prop} (h : h_isHeadWrong_0 d p0 s (fun r s' => s' = s ∧ Q r)) : q_isHeadWrong (d + 1) p0 s Q := mQ.of (m_isHeadWrong.of h)
theorem T_isHeadWrong_64 {d : Nat} {x1 : Int32} {x3 : Int32} {x4 : Int32} {s : mS} {Q : Int32 → mS → Prop} (h : ∃ k1 : Nat, x1 = nI k1 ∧ k1 < 24 ∧ (if (((6 : Int32) * x1) + (s.2.1 12 k1)) < x4 then ((x3 = 0 ∨ x3 = 1) ∧ (Q x3 s)) else (if x3 = 0 then (∃ k4 : Nat, x4 = nI k4 ∧ k4 < 144 ∧ (if (2 : Int32) ≤ (s.2.1 13 k4) then (h_isHeadWrong_64 d x1 (0 : Int32) (x4 + (1 : Int32)) s Q) else (if ((s.2.1 14 k4) / (4 : Int32)) = (73 : Int32) then (h_isHeadWrong_64 d x1 (1 : Int32) (x4 + (1 : Int32)) s Q) else (if ((s.2.1 14 k4) / (4 : Int32)) = (78 : Int32) then (h_isHeadWrong_64 d x1 (1 : Int32) (x4 + (1 : Int32)) s Q) else (h_isHeadWrong_64 d x1 (0 : Int32) (x4 + (1 : Int32)) s Q))))) else (h_isHeadWrong_64 d x1 (1 : Int32) (x4 + (1 : Int32)) s Q)))) : h_isHeadWrong_64 d x1 x3 x4 s Q := by
  obtain ⟨k1, ek1, lk1, h⟩ := h
  by_cases c2 : (((6 : Int32) * x1) + (s.2.1 12 k1)) < x4
  · rw [if_pos c2] at h
    obtain ⟨z3, h⟩ := h
    exact ⟨_, _, fun N0 K B G sz sl hN => r_isHeadWrong_64_t hN ek1 lk1 c2 z3, h⟩
  · rw [if_neg c2] at h
    by_cases c3 : x3 = 0
    · rw [if_pos c3] at h
      obtain ⟨k4, ek4, lk4, h⟩ := h
      by_cases c5 : (2 : Int32) ≤ (s.2.1 13 k4)
      · rw [if_pos c5] at h
        obtain ⟨r, s9, e, h⟩ := h
        exact ⟨r, s9, fun N0 K B G sz sl hN => r_isHeadWrong_64_fft_at64 hN ek1 lk1 c2 c3 ek4 lk4 c5 (e N0 K B G sz sl hN), h⟩
      · rw [if_neg c5] at h
        by_cases c7 : ((s.2.1 14 k4) / (4 : Int32)) = (73 : Int32)
        · rw [if_pos c7] at h
          obtain ⟨r, s9, e, h⟩ := h
          exact ⟨r, s9, fun N0 K B G sz sl hN => r_isHeadWrong_64_ffft_at64 hN ek1 lk1 c2 c3 ek4 lk4 c5 ek4 lk4 c7 (e N0 K B G sz sl hN), h⟩
        · rw [if_neg c7] at h
          by_cases c9 : ((s.2.1 14 k4) / (4 : Int32)) = (78 : Int32)
          · rw [if_pos c9] at h
            obtain ⟨r, s9, e, h⟩ := h
            exact ⟨r, s9, fun N0 K B G sz sl hN => r_isHeadWrong_64_fffff_at64 hN ek1 lk1 c2 c3 ek4 lk4 c5 ek4 lk4 c7 ek4 lk4 c9 (e N0 K B G sz sl hN), h⟩
          · rw [if_neg c9] at h
            obtain ⟨r, s9, e, h⟩ := h
            exact ⟨r, s9, fun N0 K B G sz sl hN => r_isHeadWrong_64_fffft_at64 hN ek1 lk1 c2 c3 ek4 lk4 c5 ek4 lk4 c7 ek4 lk4 c9 (e N0 K B G sz sl hN), h⟩
    · rw [if_neg c3] at h
      obtain ⟨r, s9, e, h⟩ := h
      exact ⟨r, s9, fun N0 K B G sz sl hN => r_isHeadWrong_64_ft_at64 hN ek1 lk1 c2 c3 (e N0 K B G sz sl hN), h⟩
theorem T_isLoose_0 {d : Nat} {p0 : Int32} {s : mS} {Q : Int32 → mS → Prop} (h : q_variables d ((6 : Int32) * p0) s (fun r1 => h_isLoose_19 d p0 r1 (0 : Int32) (((6 : Int32) * p0) + (1 : Int32)) s Q)) : h_isLoose_0 d p0 s Q := by
  obtain ⟨r1, t2, h⟩ := h
  obtain ⟨r, s9, e, h⟩ := h
  exact ⟨r, s9, fun N0 K B G sz sl hN => r_isLoose_0__at19 hN (t2 N0 K B G sz hN) (e N0 K B G sz sl hN), h⟩
theorem m_isLoose.of {d : Nat} {p0 : Int32} {s : mS} {Q : Int32 → mS → Prop} (h : h_isLoose_0 d p0 s Q) : m_isLoose (d + 1) p0 s Q := mC.of (fun _ => rfl) (by decide) (fun _ => Nat.le_of_ble_eq_true rfl) (fun _ => rfl) h
theorem q_isLoose.of {d : Nat} {p0 : Int32} {s : mS} {Q : Int32 → Prop} (h : h_isLoose_0 d p0 s (fun r s' => s' = s ∧ Q r)) : q_isLoose (d + 1) p0 s Q := mQ.of (m_isLoose.of h)
theorem T_isLoose_19 {d : Nat} {x1 : Int32} {x2 : Int32} {x3 : Int32} {x4 : Int32} {s : mS} {Q : Int32 → mS → Prop} (h : ∃ k1 : Nat, x1 = nI k1 ∧ k1 < 24 ∧ (if (((6 : Int32) * x1) + (s.2.1 12 k1)) < x4 then (if (x2 &&& (x3 ^^^ (-1 : Int32))) = 0 then (Q (0 : Int32) s) else (Q (1 : Int32) s)) else (∃ k3 : Nat, x4 = nI k3 ∧ k3 < 144 ∧ (if (s.2.1 13 k3) = 0 then (q_variables d x4 s (fun r5 => h_isLoose_19 d x1 x2 (x3 ||| r5) (x4 + (1 : Int32)) s Q)) else (q_variables d x4 s (fun r5 => h_isLoose_19 d x1 (x2 ||| r5) x3 (x4 + (1 : Int32)) s Q)))))) : h_isLoose_19 d x1 x2 x3 x4 s Q := by
  obtain ⟨k1, ek1, lk1, h⟩ := h
  by_cases c2 : (((6 : Int32) * x1) + (s.2.1 12 k1)) < x4
  · rw [if_pos c2] at h
    by_cases c3 : (x2 &&& (x3 ^^^ (-1 : Int32))) = 0
    · rw [if_pos c3] at h
      exact ⟨_, _, fun N0 K B G sz sl hN => r_isLoose_19_tt hN ek1 lk1 c2 c3, h⟩
    · rw [if_neg c3] at h
      exact ⟨_, _, fun N0 K B G sz sl hN => r_isLoose_19_tf hN ek1 lk1 c2 c3, h⟩
  · rw [if_neg c2] at h
    obtain ⟨k3, ek3, lk3, h⟩ := h
    by_cases c4 : (s.2.1 13 k3) = 0
    · rw [if_pos c4] at h
      obtain ⟨r5, t6, h⟩ := h
      obtain ⟨r, s9, e, h⟩ := h
      exact ⟨r, s9, fun N0 K B G sz sl hN => r_isLoose_19_ff_at19 hN ek1 lk1 c2 ek3 lk3 c4 (t6 N0 K B G sz hN) (e N0 K B G sz sl hN), h⟩
    · rw [if_neg c4] at h
      obtain ⟨r5, t6, h⟩ := h
      obtain ⟨r, s9, e, h⟩ := h
      exact ⟨r, s9, fun N0 K B G sz sl hN => r_isLoose_19_ft_at19 hN ek1 lk1 c2 ek3 lk3 c4 (t6 N0 K B G sz hN) (e N0 K B G sz sl hN), h⟩
theorem T_depends_0 {d : Nat} {p0 : Int32} {s : mS} {Q : Unit → mS → Prop} (h : h_depends_2 d p0 (0 : Int32) s Q) : h_depends_0 d p0 s Q := by
  obtain ⟨r, s9, e, h⟩ := h
  exact ⟨r, s9, fun N0 K B G sz sl hN => r_depends_0__at2 hN (e N0 K B G sz sl hN), h⟩
theorem m_depends.of {d : Nat} {p0 : Int32} {s : mS} {Q : Unit → mS → Prop} (h : h_depends_0 d p0 s Q) : m_depends (d + 1) p0 s Q := mC.of (fun _ => rfl) (by decide) (fun _ => Nat.le_of_ble_eq_true rfl) (fun _ => rfl) h
theorem q_depends.of {d : Nat} {p0 : Int32} {s : mS} {Q : Unit → Prop} (h : h_depends_0 d p0 s (fun r s' => s' = s ∧ Q r)) : q_depends (d + 1) p0 s Q := mQ.of (m_depends.of h)
theorem T_depends_2 {d : Nat} {x1 : Int32} {x2 : Int32} {s : mS} {Q : Unit → mS → Prop} (h : if (512 : Int32) ≤ x2 then (h_depends_24 d x1 (1 : Int32) s Q) else (∃ k2 : Nat, x2 = nI k2 ∧ k2 < 512 ∧ (h_depends_2 d x1 (x2 + (1 : Int32)) (mA s 18 (upd (s.2.1 18) k2 (vp_nar .boolean (0 : Int32)))) Q))) : h_depends_2 d x1 x2 s Q := by
  by_cases c1 : (512 : Int32) ≤ x2
  · rw [if_pos c1] at h
    obtain ⟨r, s9, e, h⟩ := h
    exact ⟨r, s9, fun N0 K B G sz sl hN => r_depends_2_t_at24 hN c1 (e N0 K B G sz sl hN), h⟩
  · rw [if_neg c1] at h
    obtain ⟨k2, ek2, lk2, h⟩ := h
    obtain ⟨r, s9, e, h⟩ := h
    exact ⟨r, s9, fun N0 K B G sz sl hN => r_depends_2_f_at2 hN c1 ek2 lk2 (e N0 K B G sz sl hN), h⟩
theorem T_depends_24 {d : Nat} {x1 : Int32} {x2 : Int32} {s : mS} {Q : Unit → mS → Prop} (h : if x2 = 0 then (Q () s) else (h_depends_32 d x1 (0 : Int32) (0 : Int32) s Q)) : h_depends_24 d x1 x2 s Q := by
  by_cases c1 : x2 = 0
  · rw [if_pos c1] at h
    exact ⟨_, _, fun N0 K B G sz sl hN => r_depends_24_t hN c1, h⟩
  · rw [if_neg c1] at h
    obtain ⟨r, s9, e, h⟩ := h
    exact ⟨r, s9, fun N0 K B G sz sl hN => r_depends_24_f_at32 hN c1 (e N0 K B G sz sl hN), h⟩
theorem T_depends_32 {d : Nat} {x1 : Int32} {x2 : Int32} {x3 : Int32} {s : mS} {Q : Unit → mS → Prop} (h : if (s.1 11) ≤ x3 then (h_depends_24 d x1 x2 s Q) else (∃ k2 : Nat, ((6 : Int32) * x3) = nI k2 ∧ k2 < 144 ∧ (h_depends_59 d x1 x2 x3 (s.2.1 14 k2) (((6 : Int32) * x3) + (1 : Int32)) s Q))) : h_depends_32 d x1 x2 x3 s Q := by
  by_cases c1 : (s.1 11) ≤ x3
  · rw [if_pos c1] at h
    obtain ⟨r, s9, e, h⟩ := h
    exact ⟨r, s9, fun N0 K B G sz sl hN => r_depends_32_t_at24 hN c1 (e N0 K B G sz sl hN), h⟩
  · rw [if_neg c1] at h
    obtain ⟨k2, ek2, lk2, h⟩ := h
    obtain ⟨r, s9, e, h⟩ := h
    exact ⟨r, s9, fun N0 K B G sz sl hN => r_depends_32_f_at59 hN c1 ek2 lk2 (e N0 K B G sz sl hN), h⟩
theorem T_depends_59 {d : Nat} {x1 : Int32} {x2 : Int32} {x3 : Int32} {x4 : Int32} {x5 : Int32} {s : mS} {Q : Unit → mS → Prop} (h : ∃ k1 : Nat, x3 = nI k1 ∧ k1 < 24 ∧ (if (((6 : Int32) * x3) + (s.2.1 12 k1)) < x5 then (h_depends_32 d x1 x2 (x3 + (1 : Int32)) s Q) else (if x4 = x1 then (∃ k4 : Nat, x5 = nI k4 ∧ k4 < 144 ∧ (if (2 : Int32) ≤ (s.2.1 13 k4) then (h_depends_59 d x1 x2 x3 x4 (x5 + (1 : Int32)) s Q) else (∃ k7 : Nat, (s.2.1 14 k4) = nI k7 ∧ k7 < 512 ∧ (if (s.2.1 18 k7) = 0 then (h_depends_59 d x1 (1 : Int32) x3 x4 (x5 + (1 : Int32)) (mA s 18 (upd (s.2.1 18) k7 (vp_nar .boolean (1 : Int32)))) Q) else (h_depends_59 d x1 x2 x3 x4 (x5 + (1 : Int32)) s Q))))) else (∃ k4 : Nat, x4 = nI k4 ∧ k4 < 512 ∧ (if (s.2.1 18 k4) = 0 then (h_depends_32 d x1 x2 (x3 + (1 : Int32)) s Q) else (∃ k6 : Nat, x5 = nI k6 ∧ k6 < 144 ∧ (if (2 : Int32) ≤ (s.2.1 13 k6) then (h_depends_59 d x1 x2 x3 x4 (x5 + (1 : Int32)) s Q) else (∃ k9 : Nat, (s.2.1 14 k6) = nI k9 ∧ k9 < 512 ∧ (if (s.2.1 18 k9) = 0 then (h_depends_59 d x1 (1 : Int32) x3 x4 (x5 + (1 : Int32)) (mA s 18 (upd (s.2.1 18) k9 (vp_nar .boolean (1 : Int32)))) Q) else (h_depends_59 d x1 x2 x3 x4 (x5 + (1 : Int32)) s Q)))))))))) : h_depends_59 d x1 x2 x3 x4 x5 s Q := by
  obtain ⟨k1, ek1, lk1, h⟩ := h
  by_cases c2 : (((6 : Int32) * x3) + (s.2.1 12 k1)) < x5
  · rw [if_pos c2] at h
    obtain ⟨r, s9, e, h⟩ := h
    exact ⟨r, s9, fun N0 K B G sz sl hN => r_depends_59_t_at32 hN ek1 lk1 c2 (e N0 K B G sz sl hN), h⟩
  · rw [if_neg c2] at h
    by_cases c3 : x4 = x1
    · rw [if_pos c3] at h
      obtain ⟨k4, ek4, lk4, h⟩ := h
      by_cases c5 : (2 : Int32) ≤ (s.2.1 13 k4)
      · rw [if_pos c5] at h
        obtain ⟨r, s9, e, h⟩ := h
        exact ⟨r, s9, fun N0 K B G sz sl hN => r_depends_59_ftt_at59 hN ek1 lk1 c2 c3 ek4 lk4 c5 (e N0 K B G sz sl hN), h⟩
      · rw [if_neg c5] at h
        obtain ⟨k7, ek7, lk7, h⟩ := h
        by_cases c8 : (s.2.1 18 k7) = 0
        · rw [if_pos c8] at h
          obtain ⟨r, s9, e, h⟩ := h
          exact ⟨r, s9, fun N0 K B G sz sl hN => r_depends_59_ftff_at59 hN ek1 lk1 c2 c3 ek4 lk4 c5 ek4 lk4 ek7 lk7 c8 ek4 lk4 ek7 lk7 (e N0 K B G sz sl hN), h⟩
        · rw [if_neg c8] at h
          obtain ⟨r, s9, e, h⟩ := h
          exact ⟨r, s9, fun N0 K B G sz sl hN => r_depends_59_ftft_at59 hN ek1 lk1 c2 c3 ek4 lk4 c5 ek4 lk4 ek7 lk7 c8 (e N0 K B G sz sl hN), h⟩
    · rw [if_neg c3] at h
      obtain ⟨k4, ek4, lk4, h⟩ := h
      by_cases c5 : (s.2.1 18 k4) = 0
      · rw [if_pos c5] at h
        obtain ⟨r, s9, e, h⟩ := h
        exact ⟨r, s9, fun N0 K B G sz sl hN => r_depends_59_fft_at32 hN ek1 lk1 c2 c3 ek4 lk4 c5 (e N0 K B G sz sl hN), h⟩
      · rw [if_neg c5] at h
        obtain ⟨k6, ek6, lk6, h⟩ := h
        by_cases c7 : (2 : Int32) ≤ (s.2.1 13 k6)
        · rw [if_pos c7] at h
          obtain ⟨r, s9, e, h⟩ := h
          exact ⟨r, s9, fun N0 K B G sz sl hN => r_depends_59_ffft_at59 hN ek1 lk1 c2 c3 ek4 lk4 c5 ek6 lk6 c7 (e N0 K B G sz sl hN), h⟩
        · rw [if_neg c7] at h
          obtain ⟨k9, ek9, lk9, h⟩ := h
          by_cases c10 : (s.2.1 18 k9) = 0
          · rw [if_pos c10] at h
            obtain ⟨r, s9, e, h⟩ := h
            exact ⟨r, s9, fun N0 K B G sz sl hN => r_depends_59_fffff_at59 hN ek1 lk1 c2 c3 ek4 lk4 c5 ek6 lk6 c7 ek6 lk6 ek9 lk9 c10 ek6 lk6 ek9 lk9 (e N0 K B G sz sl hN), h⟩
          · rw [if_neg c10] at h
            obtain ⟨r, s9, e, h⟩ := h
            exact ⟨r, s9, fun N0 K B G sz sl hN => r_depends_59_fffft_at59 hN ek1 lk1 c2 c3 ek4 lk4 c5 ek6 lk6 c7 ek6 lk6 ek9 lk9 c10 (e N0 K B G sz sl hN), h⟩
theorem T_isCircular_0 {d : Nat} {p0 : Int32} {s : mS} {Q : Int32 → mS → Prop} (h : ∃ k1 : Nat, ((6 : Int32) * p0) = nI k1 ∧ k1 < 144 ∧ (h_isCircular_20 d p0 (s.2.1 14 k1) (0 : Int32) (((6 : Int32) * p0) + (1 : Int32)) s Q)) : h_isCircular_0 d p0 s Q := by
  obtain ⟨k1, ek1, lk1, h⟩ := h
  obtain ⟨r, s9, e, h⟩ := h
  exact ⟨r, s9, fun N0 K B G sz sl hN => r_isCircular_0__at20 hN ek1 lk1 (e N0 K B G sz sl hN), h⟩
theorem m_isCircular.of {d : Nat} {p0 : Int32} {s : mS} {Q : Int32 → mS → Prop} (h : h_isCircular_0 d p0 s Q) : m_isCircular (d + 1) p0 s Q := mC.of (fun _ => rfl) (by decide) (fun _ => Nat.le_of_ble_eq_true rfl) (fun _ => rfl) h
theorem q_isCircular.of {d : Nat} {p0 : Int32} {s : mS} {Q : Int32 → Prop} (h : h_isCircular_0 d p0 s (fun r s' => s' = s ∧ Q r)) : q_isCircular (d + 1) p0 s Q := mQ.of (m_isCircular.of h)
theorem T_isCircular_20 {d : Nat} {x1 : Int32} {x2 : Int32} {x3 : Int32} {x4 : Int32} {s : mS} {Q : Int32 → mS → Prop} (h : ∃ k1 : Nat, x1 = nI k1 ∧ k1 < 24 ∧ (if (((6 : Int32) * x1) + (s.2.1 12 k1)) < x4 then ((x3 = 0 ∨ x3 = 1) ∧ (Q x3 s)) else (∃ k3 : Nat, x4 = nI k3 ∧ k3 < 144 ∧ (if (s.2.1 13 k3) = (1 : Int32) then (m_depends d (s.2.1 14 k3) s (fun _ s7 => if x3 = 0 then (if (s7.2.1 14 k3) = x2 then (h_isCircular_20 d x1 x2 (1 : Int32) (x4 + (1 : Int32)) s7 Q) else (∃ k11 : Nat, x2 = nI k11 ∧ k11 < 512 ∧ (if (s7.2.1 18 k11) = 0 then (h_isCircular_20 d x1 x2 (0 : Int32) (x4 + (1 : Int32)) s7 Q) else (h_isCircular_20 d x1 x2 (1 : Int32) (x4 + (1 : Int32)) s7 Q)))) else (h_isCircular_20 d x1 x2 (1 : Int32) (x4 + (1 : Int32)) s7 Q))) else (h_isCircular_20 d x1 x2 x3 (x4 + (1 : Int32)) s Q))))) : h_isCircular_20 d x1 x2 x3 x4 s Q := by
  obtain ⟨k1, ek1, lk1, h⟩ := h
  by_cases c2 : (((6 : Int32) * x1) + (s.2.1 12 k1)) < x4
  · rw [if_pos c2] at h
    obtain ⟨z3, h⟩ := h
    exact ⟨_, _, fun N0 K B G sz sl hN => r_isCircular_20_t hN ek1 lk1 c2 z3, h⟩
  · rw [if_neg c2] at h
    obtain ⟨k3, ek3, lk3, h⟩ := h
    by_cases c4 : (s.2.1 13 k3) = (1 : Int32)
    · rw [if_pos c4] at h
      obtain ⟨_r, s7, t6, h⟩ := h
      by_cases c8 : x3 = 0
      · rw [if_pos c8] at h
        by_cases c10 : (s7.2.1 14 k3) = x2
        · rw [if_pos c10] at h
          obtain ⟨r, s9, e, h⟩ := h
          exact ⟨r, s9, fun N0 K B G sz sl hN => r_isCircular_20_ffft_at20 hN ek1 lk1 c2 ek3 lk3 c4 ek3 lk3 (t6 N0 K B G sz hN) c8 ek3 lk3 c10 (e N0 K B G sz sl hN), h⟩
        · rw [if_neg c10] at h
          obtain ⟨k11, ek11, lk11, h⟩ := h
          by_cases c12 : (s7.2.1 18 k11) = 0
          · rw [if_pos c12] at h
            obtain ⟨r, s9, e, h⟩ := h
            exact ⟨r, s9, fun N0 K B G sz sl hN => r_isCircular_20_fffft_at20 hN ek1 lk1 c2 ek3 lk3 c4 ek3 lk3 (t6 N0 K B G sz hN) c8 ek3 lk3 c10 ek11 lk11 c12 (e N0 K B G sz sl hN), h⟩
          · rw [if_neg c12] at h
            obtain ⟨r, s9, e, h⟩ := h
            exact ⟨r, s9, fun N0 K B G sz sl hN => r_isCircular_20_fffff_at20 hN ek1 lk1 c2 ek3 lk3 c4 ek3 lk3 (t6 N0 K B G sz hN) c8 ek3 lk3 c10 ek11 lk11 c12 (e N0 K B G sz sl hN), h⟩
      · rw [if_neg c8] at h
        obtain ⟨r, s9, e, h⟩ := h
        exact ⟨r, s9, fun N0 K B G sz sl hN => r_isCircular_20_fft_at20 hN ek1 lk1 c2 ek3 lk3 c4 ek3 lk3 (t6 N0 K B G sz hN) c8 (e N0 K B G sz sl hN), h⟩
    · rw [if_neg c4] at h
      obtain ⟨r, s9, e, h⟩ := h
      exact ⟨r, s9, fun N0 K B G sz sl hN => r_isCircular_20_ft_at20 hN ek1 lk1 c2 ek3 lk3 c4 (e N0 K B G sz sl hN), h⟩
theorem T_isMixed_0 {d : Nat} {p0 : Int32} {s : mS} {Q : Int32 → mS → Prop} (h : ∃ k1 : Nat, ((6 : Int32) * p0) = nI k1 ∧ k1 < 144 ∧ (if ((s.2.1 14 k1) / (4 : Int32)) = (73 : Int32) then (m_depends d (s.2.1 14 k1) s (fun _ s5 => if (s5.2.1 18 274) = 0 then (if (s5.2.1 18 337) = 0 then (if (s5.2.1 18 306) = 0 then (if (s5.2.1 18 286) = 0 then (if (s5.2.1 18 276) = 0 then (Q (0 : Int32) s5) else (Q (1 : Int32) s5)) else (Q (1 : Int32) s5)) else (Q (1 : Int32) s5)) else (Q (1 : Int32) s5)) else (Q (1 : Int32) s5))) else (if ((s.2.1 14 k1) / (4 : Int32)) = (76 : Int32) then (m_depends d (s.2.1 14 k1) s (fun _ s6 => ((s6.2.1 18 274) = 0 ∨ (s6.2.1 18 274) = 1) ∧ (Q (s6.2.1 18 274) s6))) else (if ((s.2.1 14 k1) / (4 : Int32)) = (71 : Int32) then (m_depends d (s.2.1 14 k1) s (fun _ s7 => ((s7.2.1 18 274) = 0 ∨ (s7.2.1 18 274) = 1) ∧ (Q (s7.2.1 18 274) s7))) else (if ((s.2.1 14 k1) / (4 : Int32)) = (69 : Int32) then (m_depends d (s.2.1 14 k1) s (fun _ s8 => ((s8.2.1 18 274) = 0 ∨ (s8.2.1 18 274) = 1) ∧ (Q (s8.2.1 18 274) s8))) else (Q (0 : Int32) s)))))) : h_isMixed_0 d p0 s Q := by
  obtain ⟨k1, ek1, lk1, h⟩ := h
  by_cases c2 : ((s.2.1 14 k1) / (4 : Int32)) = (73 : Int32)
  · rw [if_pos c2] at h
    obtain ⟨_r, s5, t4, h⟩ := h
    by_cases c8 : (s5.2.1 18 274) = 0
    · rw [if_pos c8] at h
      by_cases c10 : (s5.2.1 18 337) = 0
      · rw [if_pos c10] at h
        by_cases c12 : (s5.2.1 18 306) = 0
        · rw [if_pos c12] at h
          by_cases c14 : (s5.2.1 18 286) = 0
          · rw [if_pos c14] at h
            by_cases c16 : (s5.2.1 18 276) = 0
            · rw [if_pos c16] at h
              exact ⟨_, _, fun N0 K B G sz sl hN => r_isMixed_0_ttfffft hN ek1 lk1 c2 ek1 lk1 (t4 N0 K B G sz hN) rfl (by decide) c2 c8 rfl (by decide) c10 rfl (by decide) c12 rfl (by decide) c14 rfl (by decide) c16, h⟩
            · rw [if_neg c16] at h
              exact ⟨_, _, fun N0 K B G sz sl hN => r_isMixed_0_ttfffff hN ek1 lk1 c2 ek1 lk1 (t4 N0 K B G sz hN) rfl (by decide) c2 c8 rfl (by decide) c10 rfl (by decide) c12 rfl (by decide) c14 rfl (by decide) c16, h⟩
          · rw [if_neg c14] at h
            exact ⟨_, _, fun N0 K B G sz sl hN => r_isMixed_0_ttffft hN ek1 lk1 c2 ek1 lk1 (t4 N0 K B G sz hN) rfl (by decide) c2 c8 rfl (by decide) c10 rfl (by decide) c12 rfl (by decide) c14, h⟩
        · rw [if_neg c12] at h
          exact ⟨_, _, fun N0 K B G sz sl hN => r_isMixed_0_ttfft hN ek1 lk1 c2 ek1 lk1 (t4 N0 K B G sz hN) rfl (by decide) c2 c8 rfl (by decide) c10 rfl (by decide) c12, h⟩
      · rw [if_neg c10] at h
        exact ⟨_, _, fun N0 K B G sz sl hN => r_isMixed_0_ttft hN ek1 lk1 c2 ek1 lk1 (t4 N0 K B G sz hN) rfl (by decide) c2 c8 rfl (by decide) c10, h⟩
    · rw [if_neg c8] at h
      exact ⟨_, _, fun N0 K B G sz sl hN => r_isMixed_0_ttt hN ek1 lk1 c2 ek1 lk1 (t4 N0 K B G sz hN) rfl (by decide) c2 c8, h⟩
  · rw [if_neg c2] at h
    by_cases c3 : ((s.2.1 14 k1) / (4 : Int32)) = (76 : Int32)
    · rw [if_pos c3] at h
      obtain ⟨_r, s6, t5, h⟩ := h
      obtain ⟨z9, h⟩ := h
      exact ⟨_, _, fun N0 K B G sz sl hN => r_isMixed_0_ftf hN ek1 lk1 c2 c3 ek1 lk1 (t5 N0 K B G sz hN) rfl (by decide) c2 z9, h⟩
    · rw [if_neg c3] at h
      by_cases c4 : ((s.2.1 14 k1) / (4 : Int32)) = (71 : Int32)
      · rw [if_pos c4] at h
        obtain ⟨_r, s7, t6, h⟩ := h
        obtain ⟨z10, h⟩ := h
        exact ⟨_, _, fun N0 K B G sz sl hN => r_isMixed_0_fftf hN ek1 lk1 c2 c3 c4 ek1 lk1 (t6 N0 K B G sz hN) rfl (by decide) c2 z10, h⟩
      · rw [if_neg c4] at h
        by_cases c5 : ((s.2.1 14 k1) / (4 : Int32)) = (69 : Int32)
        · rw [if_pos c5] at h
          obtain ⟨_r, s8, t7, h⟩ := h
          obtain ⟨z11, h⟩ := h
          exact ⟨_, _, fun N0 K B G sz sl hN => r_isMixed_0_ffftf hN ek1 lk1 c2 c3 c4 c5 ek1 lk1 (t7 N0 K B G sz hN) rfl (by decide) c2 z11, h⟩
        · rw [if_neg c5] at h
          exact ⟨_, _, fun N0 K B G sz sl hN => r_isMixed_0_ffff hN ek1 lk1 c2 c3 c4 c5, h⟩
theorem m_isMixed.of {d : Nat} {p0 : Int32} {s : mS} {Q : Int32 → mS → Prop} (h : h_isMixed_0 d p0 s Q) : m_isMixed (d + 1) p0 s Q := mC.of (fun _ => rfl) (by decide) (fun _ => Nat.le_of_ble_eq_true rfl) (fun _ => rfl) h
theorem q_isMixed.of {d : Nat} {p0 : Int32} {s : mS} {Q : Int32 → Prop} (h : h_isMixed_0 d p0 s (fun r s' => s' = s ∧ Q r)) : q_isMixed (d + 1) p0 s Q := mQ.of (m_isMixed.of h)
theorem T_isWell_0 {d : Nat} {s : mS} {Q : Int32 → mS → Prop} (h : m_read d (mI (mI s 6 (0 : Int32)) 7 (0 : Int32)) (fun r1 s3 => if r1 = 0 then (Q (0 : Int32) (mI (mI s3 6 (1 : Int32)) 7 (s3.1 10))) else (h_isWell_34 d (2 : Int32) s3 Q))) : h_isWell_0 d s Q := by
  obtain ⟨r1, s3, t2, h⟩ := h
  by_cases c4 : r1 = 0
  · rw [if_pos c4] at h
    exact ⟨_, _, fun N0 K B G sz sl hN => r_isWell_0_f hN (t2 N0 K B G sz hN) c4, h⟩
  · rw [if_neg c4] at h
    obtain ⟨r, s9, e, h⟩ := h
    exact ⟨r, s9, fun N0 K B G sz sl hN => r_isWell_0_t_at34 hN (t2 N0 K B G sz hN) c4 (e N0 K B G sz sl hN), h⟩
theorem m_isWell.of {d : Nat} {s : mS} {Q : Int32 → mS → Prop} (h : h_isWell_0 d s Q) : m_isWell (d + 1) s Q := mC.of (fun _ => rfl) (by decide) (fun _ => Nat.le_of_ble_eq_true rfl) (fun _ => rfl) h
theorem q_isWell.of {d : Nat} {s : mS} {Q : Int32 → Prop} (h : h_isWell_0 d s (fun r s' => s' = s ∧ Q r)) : q_isWell (d + 1) s Q := mQ.of (m_isWell.of h)
theorem T_isWell_34 {d : Nat} {x1 : Int32} {s : mS} {Q : Int32 → mS → Prop} (h : if (6 : Int32) ≤ x1 then (m_layers d s (fun _ s3 => Q (1 : Int32) s3)) else (h_isWell_42 d x1 (0 : Int32) s Q)) : h_isWell_34 d x1 s Q := by
  by_cases c1 : (6 : Int32) ≤ x1
  · rw [if_pos c1] at h
    obtain ⟨_r, s3, t2, h⟩ := h
    exact ⟨_, _, fun N0 K B G sz sl hN => r_isWell_34_t hN c1 (t2 N0 K B G sz hN), h⟩
  · rw [if_neg c1] at h
    obtain ⟨r, s9, e, h⟩ := h
    exact ⟨r, s9, fun N0 K B G sz sl hN => r_isWell_34_f_at42 hN c1 (e N0 K B G sz sl hN), h⟩
theorem T_isWell_42 {d : Nat} {x1 : Int32} {x2 : Int32} {s : mS} {Q : Int32 → mS → Prop} (h : if (s.1 11) ≤ x2 then (h_isWell_34 d (x1 + (1 : Int32)) s Q) else (if x1 = (2 : Int32) then (q_isHeadWrong d x2 s (fun r3 => if r3 = 0 then (h_isWell_42 d x1 (x2 + (1 : Int32)) s Q) else (Q (0 : Int32) (mI (mI s 6 x1) 7 x2)))) else (if x1 = (3 : Int32) then (q_isLoose d x2 s (fun r4 => if r4 = 0 then (h_isWell_42 d x1 (x2 + (1 : Int32)) s Q) else (Q (0 : Int32) (mI (mI s 6 x1) 7 x2)))) else (if x1 = (4 : Int32) then (m_isCircular d x2 s (fun r5 s7 => if r5 = 0 then (h_isWell_42 d x1 (x2 + (1 : Int32)) s7 Q) else (Q (0 : Int32) (mI (mI s7 6 x1) 7 x2)))) else (m_isMixed d x2 s (fun r5 s7 => if r5 = 0 then (h_isWell_42 d x1 (x2 + (1 : Int32)) s7 Q) else (Q (0 : Int32) (mI (mI s7 6 x1) 7 x2)))))))) : h_isWell_42 d x1 x2 s Q := by
  by_cases c1 : (s.1 11) ≤ x2
  · rw [if_pos c1] at h
    obtain ⟨r, s9, e, h⟩ := h
    exact ⟨r, s9, fun N0 K B G sz sl hN => r_isWell_42_t_at34 hN c1 (e N0 K B G sz sl hN), h⟩
  · rw [if_neg c1] at h
    by_cases c2 : x1 = (2 : Int32)
    · rw [if_pos c2] at h
      obtain ⟨r3, t4, h⟩ := h
      by_cases c5 : r3 = 0
      · rw [if_pos c5] at h
        obtain ⟨r, s9, e, h⟩ := h
        exact ⟨r, s9, fun N0 K B G sz sl hN => r_isWell_42_fft_at42 hN c1 c2 (t4 N0 K B G sz hN) c5 (e N0 K B G sz sl hN), h⟩
      · rw [if_neg c5] at h
        exact ⟨_, _, fun N0 K B G sz sl hN => r_isWell_42_fff hN c1 c2 (t4 N0 K B G sz hN) c5, h⟩
    · rw [if_neg c2] at h
      by_cases c3 : x1 = (3 : Int32)
      · rw [if_pos c3] at h
        obtain ⟨r4, t5, h⟩ := h
        by_cases c6 : r4 = 0
        · rw [if_pos c6] at h
          obtain ⟨r, s9, e, h⟩ := h
          exact ⟨r, s9, fun N0 K B G sz sl hN => r_isWell_42_ftft_at42 hN c1 c2 c3 (t5 N0 K B G sz hN) c6 (e N0 K B G sz sl hN), h⟩
        · rw [if_neg c6] at h
          exact ⟨_, _, fun N0 K B G sz sl hN => r_isWell_42_ftff hN c1 c2 c3 (t5 N0 K B G sz hN) c6, h⟩
      · rw [if_neg c3] at h
        by_cases c4 : x1 = (4 : Int32)
        · rw [if_pos c4] at h
          obtain ⟨r5, s7, t6, h⟩ := h
          by_cases c8 : r5 = 0
          · rw [if_pos c8] at h
            obtain ⟨r, s9, e, h⟩ := h
            exact ⟨r, s9, fun N0 K B G sz sl hN => r_isWell_42_fttft_at42 hN c1 c2 c3 c4 (t6 N0 K B G sz hN) c8 (e N0 K B G sz sl hN), h⟩
          · rw [if_neg c8] at h
            exact ⟨_, _, fun N0 K B G sz sl hN => r_isWell_42_fttff hN c1 c2 c3 c4 (t6 N0 K B G sz hN) c8, h⟩
        · rw [if_neg c4] at h
          obtain ⟨r5, s7, t6, h⟩ := h
          by_cases c8 : r5 = 0
          · rw [if_pos c8] at h
            obtain ⟨r, s9, e, h⟩ := h
            exact ⟨r, s9, fun N0 K B G sz sl hN => r_isWell_42_ftttt_at42 hN c1 c2 c3 c4 (t6 N0 K B G sz hN) c8 (e N0 K B G sz sl hN), h⟩
          · rw [if_neg c8] at h
            exact ⟨_, _, fun N0 K B G sz sl hN => r_isWell_42_ftttf hN c1 c2 c3 c4 (t6 N0 K B G sz hN) c8, h⟩
