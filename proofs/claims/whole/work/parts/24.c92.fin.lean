/-! the claim, out of what the small machine says of the law -/
set_option maxRecDepth 100000 in
set_option maxHeartbeats 4000000 in
theorem fi_init (K : Nat → Nat) : ∀ mi own y cc nL ret I lk ini, ra_mt K mi = some (own, y, cc, nL, ret, I, lk, ini) → y.name = "<init>" → ret = none := by
  intro mi own y cc nL ret I lk ini h
  have key : ∀ r, ra_mt K mi = some r → r.2.1.name = "<init>" → r.2.2.2.2.1 = none := by
    intro r hr
    unfold ra_mt at hr
    split at hr
    · cases hr; exact fun _ => rfl
    · cases hr; exact fun h => absurd h (show ¬ ("forget" : String) = "<init>" by decide)
    · cases hr; exact fun h => absurd h (show ¬ ("run" : String) = "<init>" by decide)
    · cases hr; exact fun h => absurd h (show ¬ ("judge" : String) = "<init>" by decide)
    · cases hr; exact fun h => absurd h (show ¬ ("note" : String) = "<init>" by decide)
    · cases hr; exact fun h => absurd h (show ¬ ("placeOf" : String) = "<init>" by decide)
    · cases hr; exact fun h => absurd h (show ¬ ("weigh" : String) = "<init>" by decide)
    · cases hr; exact fun h => absurd h (show ¬ ("valueBehind" : String) = "<init>" by decide)
    · cases hr; exact fun h => absurd h (show ¬ ("valueAt" : String) = "<init>" by decide)
    · cases hr; exact fun h => absurd h (show ¬ ("choiceAt" : String) = "<init>" by decide)
    · cases hr; exact fun _ => rfl
    · cases hr; exact fun h => absurd h (show ¬ ("find" : String) = "<init>" by decide)
    · cases hr; exact fun h => absurd h (show ¬ ("add" : String) = "<init>" by decide)
    · cases hr; exact fun h => absurd h (show ¬ ("search" : String) = "<init>" by decide)
    · cases hr; exact fun h => absurd h (show ¬ ("slotOf" : String) = "<init>" by decide)
    · cases hr; exact fun h => absurd h (show ¬ ("cut" : String) = "<init>" by decide)
    · cases hr; exact fun _ => rfl
    · cases hr; exact fun h => absurd h (show ¬ ("begin" : String) = "<init>" by decide)
    · cases hr; exact fun h => absurd h (show ¬ ("inState" : String) = "<init>" by decide)
    · cases hr; exact fun h => absurd h (show ¬ ("byMove" : String) = "<init>" by decide)
    · cases hr; exact fun h => absurd h (show ¬ ("close" : String) = "<init>" by decide)
    · cases hr; exact fun h => absurd h (show ¬ ("isDue" : String) = "<init>" by decide)
    · cases hr; exact fun h => absurd h (show ¬ ("join" : String) = "<init>" by decide)
    · cases hr; exact fun h => absurd h (show ¬ ("joinEach" : String) = "<init>" by decide)
    · cases hr; exact fun h => absurd h (show ¬ ("lowest" : String) = "<init>" by decide)
    · cases hr; exact fun h => absurd h (show ¬ ("highest" : String) = "<init>" by decide)
    · cases hr; exact fun h => absurd h (show ¬ ("fill" : String) = "<init>" by decide)
    · cases hr; exact fun h => absurd h (show ¬ ("fits" : String) = "<init>" by decide)
    · cases hr; exact fun _ => rfl
    · cases hr; exact fun h => absurd h (show ¬ ("isIdle" : String) = "<init>" by decide)
    · cases hr; exact fun h => absurd h (show ¬ ("take" : String) = "<init>" by decide)
    · cases hr; exact fun h => absurd h (show ¬ ("look" : String) = "<init>" by decide)
    · cases hr; exact fun h => absurd h (show ¬ ("seeMoves" : String) = "<init>" by decide)
    · cases hr; exact fun h => absurd h (show ¬ ("goBack" : String) = "<init>" by decide)
    · cases hr; exact fun h => absurd h (show ¬ ("lead" : String) = "<init>" by decide)
    · cases hr; exact fun h => absurd h (show ¬ ("advance" : String) = "<init>" by decide)
    · cases hr; exact fun h => absurd h (show ¬ ("hasPlayer" : String) = "<init>" by decide)
    · cases hr; exact fun h => absurd h (show ¬ ("movesOf" : String) = "<init>" by decide)
    · cases hr; exact fun h => absurd h (show ¬ ("goalOf" : String) = "<init>" by decide)
    · cases hr; exact fun _ => rfl
    · cases hr; exact fun h => absurd h (show ¬ ("sort" : String) = "<init>" by decide)
    · cases hr; exact fun h => absurd h (show ¬ ("keyOf" : String) = "<init>" by decide)
    · cases hr; exact fun h => absurd h (show ¬ ("stageOf" : String) = "<init>" by decide)
    · cases hr; exact fun h => absurd h (show ¬ ("isRecursive" : String) = "<init>" by decide)
    · cases hr; exact fun _ => rfl
    · cases hr; exact fun h => absurd h (show ¬ ("relationOf" : String) = "<init>" by decide)
    · cases hr; exact fun h => absurd h (show ¬ ("variables" : String) = "<init>" by decide)
    · cases hr; exact fun h => absurd h (show ¬ ("partVariables" : String) = "<init>" by decide)
    · cases hr; exact fun h => absurd h (show ¬ ("asTerm" : String) = "<init>" by decide)
    · cases hr; exact fun h => absurd h (show ¬ ("plan" : String) = "<init>" by decide)
    · cases hr; exact fun _ => rfl
    · cases hr; exact fun h => absurd h (show ¬ ("place" : String) = "<init>" by decide)
    · cases hr; exact fun h => absurd h (show ¬ ("read" : String) = "<init>" by decide)
    · cases hr; exact fun h => absurd h (show ¬ ("take" : String) = "<init>" by decide)
    · cases hr; exact fun h => absurd h (show ¬ ("readRule" : String) = "<init>" by decide)
    · cases hr; exact fun h => absurd h (show ¬ ("readBody" : String) = "<init>" by decide)
    · cases hr; exact fun h => absurd h (show ¬ ("readLiteral" : String) = "<init>" by decide)
    · cases hr; exact fun h => absurd h (show ¬ ("readUnlike" : String) = "<init>" by decide)
    · cases hr; exact fun h => absurd h (show ¬ ("readAtom" : String) = "<init>" by decide)
    · cases hr; exact fun h => absurd h (show ¬ ("readTerm" : String) = "<init>" by decide)
    · cases hr; exact fun _ => rfl
    · cases hr; exact fun h => absurd h (show ¬ ("append" : String) = "<init>" by decide)
    · cases hr; exact fun h => absurd h (show ¬ ("isMisplaced" : String) = "<init>" by decide)
    · cases hr; exact fun h => absurd h (show ¬ ("isLoose" : String) = "<init>" by decide)
    · cases hr; exact fun h => absurd h (show ¬ ("asks" : String) = "<init>" by decide)
    · cases hr; exact fun h => absurd h (show ¬ ("keywords" : String) = "<init>" by decide)
    · cases hr; exact fun h => absurd h (show ¬ ("plan" : String) = "<init>" by decide)
    · cases hr; exact fun h => absurd h (show ¬ ("bring" : String) = "<init>" by decide)
    · cases hr; exact fun h => absurd h (show ¬ ("meritOf" : String) = "<init>" by decide)
    · cases hr; exact fun h => absurd h (show ¬ ("termMerit" : String) = "<init>" by decide)
    · cases hr; exact fun _ => rfl
    · cases hr; exact fun h => absurd h (show ¬ ("append" : String) = "<init>" by decide)
    · cases hr; exact fun h => absurd h (show ¬ ("trace" : String) = "<init>" by decide)
    · cases hr; exact fun h => absurd h (show ¬ ("headsIn" : String) = "<init>" by decide)
    · cases hr; exact fun h => absurd h (show ¬ ("placeOf" : String) = "<init>" by decide)
    · cases hr; exact fun h => absurd h (show ¬ ("hasFault" : String) = "<init>" by decide)
    · cases hr; exact fun h => absurd h (show ¬ ("deniesItself" : String) = "<init>" by decide)
    · cases hr; exact fun h => absurd h (show ¬ ("looksAhead" : String) = "<init>" by decide)
    · cases hr; exact fun h => absurd h (show ¬ ("isLetter" : String) = "<init>" by decide)
    · cases hr; exact fun h => absurd h (show ¬ ("isVariable" : String) = "<init>" by decide)
    · cases hr; exact fun h => absurd h (show ¬ ("isPlain" : String) = "<init>" by decide)
    · cases hr; exact fun h => absurd h (show ¬ ("variables" : String) = "<init>" by decide)
    · cases hr; exact fun h => absurd h (show ¬ ("plan" : String) = "<init>" by decide)
    · cases hr; exact fun h => absurd h (show ¬ ("character" : String) = "<init>" by decide)
    · cases hr; exact fun _ => rfl
    · cases hr; exact fun h => absurd h (show ¬ ("at" : String) = "<init>" by decide)
    · cases hr; exact fun h => absurd h (show ¬ ("clear" : String) = "<init>" by decide)
    · cases hr; exact fun h => absurd h (show ¬ ("copy" : String) = "<init>" by decide)
    · cases hr; exact fun h => absurd h (show ¬ ("isSame" : String) = "<init>" by decide)
    · cases hr; exact fun h => absurd h (show ¬ ("insert" : String) = "<init>" by decide)
    · cases hr; exact fun h => absurd h (show ¬ ("collect" : String) = "<init>" by decide)
    · cases hr; exact fun h => absurd h (show ¬ ("collectMoves" : String) = "<init>" by decide)
    · cases hr; exact fun _ => rfl
    · cases hr; exact fun h => absurd h (show ¬ ("write" : String) = "<init>" by decide)
    · cases hr; exact fun h => absurd h (show ¬ ("wipe" : String) = "<init>" by decide)
    · cases hr; exact fun h => absurd h (show ¬ ("load" : String) = "<init>" by decide)
    · cases hr; exact fun h => absurd h (show ¬ ("fault" : String) = "<init>" by decide)
    · cases hr; exact fun h => absurd h (show ¬ ("many" : String) = "<init>" by decide)
    · cases hr; exact fun h => absurd h (show ¬ ("facts" : String) = "<init>" by decide)
    · cases hr; exact fun h => absurd h (show ¬ ("moves" : String) = "<init>" by decide)
    · cases hr; exact fun h => absurd h (show ¬ ("over" : String) = "<init>" by decide)
    · cases hr; exact fun h => absurd h (show ¬ ("goal" : String) = "<init>" by decide)
    · cases hr; exact fun h => absurd h (show ¬ ("letter" : String) = "<init>" by decide)
    · cases hr; exact fun h => absurd h (show ¬ ("play" : String) = "<init>" by decide)
    · cases hr; exact fun h => absurd h (show ¬ ("restart" : String) = "<init>" by decide)
    · cases hr; exact fun h => absurd h (show ¬ ("audit" : String) = "<init>" by decide)
    · cases hr; exact fun h => absurd h (show ¬ ("worth" : String) = "<init>" by decide)
    · cases hr; exact fun h => absurd h (show ¬ ("best" : String) = "<init>" by decide)
    · cases hr; exact fun _ => rfl
    · cases hr; exact fun h => absurd h (show ¬ ("thrown" : String) = "<init>" by decide)
    · cases hr; exact fun h => absurd h (show ¬ ("fail" : String) = "<init>" by decide)
    · cases hr; exact fun h => absurd h (show ¬ ("write" : String) = "<init>" by decide)
    · cases hr; exact fun h => absurd h (show ¬ ("wipe" : String) = "<init>" by decide)
    · cases hr; exact fun h => absurd h (show ¬ ("here" : String) = "<init>" by decide)
    · cases hr; exact fun h => absurd h (show ¬ ("isLetter" : String) = "<init>" by decide)
    · cases hr; exact fun h => absurd h (show ¬ ("isVariable" : String) = "<init>" by decide)
    · cases hr; exact fun h => absurd h (show ¬ ("isPlain" : String) = "<init>" by decide)
    · cases hr; exact fun h => absurd h (show ¬ ("terms" : String) = "<init>" by decide)
    · cases hr; exact fun h => absurd h (show ¬ ("takes" : String) = "<init>" by decide)
    · cases hr; exact fun h => absurd h (show ¬ ("term" : String) = "<init>" by decide)
    · cases hr; exact fun h => absurd h (show ¬ ("atom" : String) = "<init>" by decide)
    · cases hr; exact fun h => absurd h (show ¬ ("becomesTerm" : String) = "<init>" by decide)
    · cases hr; exact fun h => absurd h (show ¬ ("literal" : String) = "<init>" by decide)
    · cases hr; exact fun h => absurd h (show ¬ ("rule" : String) = "<init>" by decide)
    · cases hr; exact fun h => absurd h (show ¬ ("read" : String) = "<init>" by decide)
    · cases hr; exact fun h => absurd h (show ¬ ("bits" : String) = "<init>" by decide)
    · cases hr; exact fun h => absurd h (show ¬ ("variables" : String) = "<init>" by decide)
    · cases hr; exact fun h => absurd h (show ¬ ("isHeadWrong" : String) = "<init>" by decide)
    · cases hr; exact fun h => absurd h (show ¬ ("isLoose" : String) = "<init>" by decide)
    · cases hr; exact fun h => absurd h (show ¬ ("depends" : String) = "<init>" by decide)
    · cases hr; exact fun h => absurd h (show ¬ ("isCircular" : String) = "<init>" by decide)
    · cases hr; exact fun h => absurd h (show ¬ ("isMixed" : String) = "<init>" by decide)
    · cases hr; exact fun h => absurd h (show ¬ ("isWell" : String) = "<init>" by decide)
    · cases hr; exact fun h => absurd h (show ¬ ("layers" : String) = "<init>" by decide)
    · cases hr; exact fun h => absurd h (show ¬ ("holds" : String) = "<init>" by decide)
    · cases hr; exact fun h => absurd h (show ¬ ("add" : String) = "<init>" by decide)
    · cases hr; exact fun h => absurd h (show ¬ ("isConstant" : String) = "<init>" by decide)
    · cases hr; exact fun h => absurd h (show ¬ ("letterOf" : String) = "<init>" by decide)
    · cases hr; exact fun h => absurd h (show ¬ ("meets" : String) = "<init>" by decide)
    · cases hr; exact fun h => absurd h (show ¬ ("meetsTerm" : String) = "<init>" by decide)
    · cases hr; exact fun h => absurd h (show ¬ ("meetsFact" : String) = "<init>" by decide)
    · cases hr; exact fun h => absurd h (show ¬ ("valueOf" : String) = "<init>" by decide)
    · cases hr; exact fun h => absurd h (show ¬ ("made" : String) = "<init>" by decide)
    · cases hr; exact fun h => absurd h (show ¬ ("part" : String) = "<init>" by decide)
    · cases hr; exact fun h => absurd h (show ¬ ("agrees" : String) = "<init>" by decide)
    · cases hr; exact fun h => absurd h (show ¬ ("held" : String) = "<init>" by decide)
    · cases hr; exact fun h => absurd h (show ¬ ("ways" : String) = "<init>" by decide)
    · cases hr; exact fun h => absurd h (show ¬ ("apply" : String) = "<init>" by decide)
    · cases hr; exact fun h => absurd h (show ¬ ("follow" : String) = "<init>" by decide)
    · cases hr; exact fun h => absurd h (show ¬ ("nothing" : String) = "<init>" by decide)
    · cases hr; exact fun h => absurd h (show ¬ ("inState" : String) = "<init>" by decide)
    · cases hr; exact fun h => absurd h (show ¬ ("look" : String) = "<init>" by decide)
    · cases hr; exact fun h => absurd h (show ¬ ("collect" : String) = "<init>" by decide)
    · cases hr; exact fun h => absurd h (show ¬ ("isState" : String) = "<init>" by decide)
    · cases hr; exact fun h => absurd h (show ¬ ("leadsOn" : String) = "<init>" by decide)
    · cases hr; exact fun h => absurd h (show ¬ ("fetch" : String) = "<init>" by decide)
    · cases hr; exact fun h => absurd h (show ¬ ("begins" : String) = "<init>" by decide)
    · cases hr; exact fun h => absurd h (show ¬ ("load" : String) = "<init>" by decide)
    · cases hr; exact fun h => absurd h (show ¬ ("begin" : String) = "<init>" by decide)
    · cases hr; exact fun h => absurd h (show ¬ ("fault" : String) = "<init>" by decide)
    · cases hr; exact fun h => absurd h (show ¬ ("isPlayer" : String) = "<init>" by decide)
    · cases hr; exact fun h => absurd h (show ¬ ("legal" : String) = "<init>" by decide)
    · cases hr; exact fun h => absurd h (show ¬ ("isEnd" : String) = "<init>" by decide)
    · cases hr; exact fun h => absurd h (show ¬ ("goalOf" : String) = "<init>" by decide)
    · cases hr; exact fun h => absurd h (show ¬ ("many" : String) = "<init>" by decide)
    · cases hr; exact fun h => absurd h (show ¬ ("facts" : String) = "<init>" by decide)
    · cases hr; exact fun h => absurd h (show ¬ ("moves" : String) = "<init>" by decide)
    · cases hr; exact fun h => absurd h (show ¬ ("over" : String) = "<init>" by decide)
    · cases hr; exact fun h => absurd h (show ¬ ("goal" : String) = "<init>" by decide)
    · cases hr; exact fun h => absurd h (show ¬ ("letter" : String) = "<init>" by decide)
    · cases hr; exact fun h => absurd h (show ¬ ("play" : String) = "<init>" by decide)
    · cases hr; exact fun h => absurd h (show ¬ ("restart" : String) = "<init>" by decide)
    · cases hr; exact fun h => absurd h (show ¬ ("find" : String) = "<init>" by decide)
    · cases hr; exact fun h => absurd h (show ¬ ("comes" : String) = "<init>" by decide)
    · cases hr; exact fun h => absurd h (show ¬ ("looksAt" : String) = "<init>" by decide)
    · cases hr; exact fun h => absurd h (show ¬ ("weighs" : String) = "<init>" by decide)
    · cases hr; exact fun h => absurd h (show ¬ ("examine" : String) = "<init>" by decide)
    · cases hr; exact fun h => absurd h (show ¬ ("audit" : String) = "<init>" by decide)
    · cases hr; exact fun h => absurd h (show ¬ ("refuses" : String) = "<init>" by decide)
    · cases hr; exact fun h => absurd h (show ¬ ("worth" : String) = "<init>" by decide)
    · cases hr; exact fun h => absurd h (show ¬ ("best" : String) = "<init>" by decide)
    · cases hr; exact fun h => absurd h (show ¬ ("bitCount" : String) = "<init>" by decide)
    · cases hr; exact fun h => absurd h (show ¬ ("fill" : String) = "<init>" by decide)
    · cases hr
  exact key _ h
theorem fi_lo (K : Nat → Nat) : ∀ mi, mi < 10 → ra_mt K mi = none := by
  intro mi h
  match mi, h with
  | 0, _ => rfl
  | 1, _ => rfl
  | 2, _ => rfl
  | 3, _ => rfl
  | 4, _ => rfl
  | 5, _ => rfl
  | 6, _ => rfl
  | 7, _ => rfl
  | 8, _ => rfl
  | 9, _ => rfl
  | k + 10, h => omega
theorem fi_env {l : Launch} {D : va_G} {AC : FieldType → ClassId} {N0 : Nat} {K : Nat → Nat} : gm_env l D vwCl AC N0 ra_Tg ra_Ns ra_As (ra_Zs K) (ra_Ss K) ra_nm (ra_mt K) K cJ0_indexOf_0f7a4 2 := by
  refine ⟨ix_good, ix_nest, fun ci C h => ?_, ra_good K, fi_init K, fi_lo K, w_371, by decide, fun a ha => ?_, fun d a z M sz ha => ix_hix d a z M sz ha⟩
  · unfold ra_nm at h
    cases hc : vwCl[ci]? with
    | none => rw [hc] at h; cases h
    | some q =>
      rw [hc] at h
      cases h
      exact ⟨q.2.1, q.2.2, rfl⟩
  · rcases ha with rfl | rfl
    · exact ⟨_, List.mem_cons_self, rfl⟩
    · exact ⟨_, List.mem_cons_of_mem _ List.mem_cons_self, rfl⟩
def fi_P (q : Nat × gm_L) : Prop := ∀ mi na rc w, q.2 = .inr (.inr (.inr (.inl (mi, na, rc)))) → ra_wt mi = some w → (q.1, mi, na, rc) ∈ ([(51, 1000, 2, 0), (91, 1001, 4, 0), (100, 1002, 2, 0), (103, 1003, 2, 0), (106, 1004, 2, 0)] : List (Nat × Nat × Nat × Nat))
theorem fi_wt (K : Nat → Nat) : ∀ q ∈ lkL false K, fi_P q := List.forall_mem_cons.mpr ⟨(fun _ _ _ _ h hw => by cases h; cases hw), List.forall_mem_cons.mpr ⟨(fun _ _ _ _ h _ => by cases h), List.forall_mem_cons.mpr ⟨(fun _ _ _ _ h hw => by cases h; cases hw), List.forall_mem_cons.mpr ⟨(fun _ _ _ _ h hw => by cases h; cases hw), List.forall_mem_cons.mpr ⟨(fun _ _ _ _ h hw => by cases h; cases hw), List.forall_mem_cons.mpr ⟨(fun _ _ _ _ h hw => by cases h; cases hw), List.forall_mem_cons.mpr ⟨(fun _ _ _ _ h hw => by cases h; cases hw), List.forall_mem_cons.mpr ⟨(fun _ _ _ _ h _ => by cases h), List.forall_mem_cons.mpr ⟨(fun _ _ _ _ h hw => by cases h; cases hw), List.forall_mem_cons.mpr ⟨(fun _ _ _ _ h _ => by cases h), List.forall_mem_cons.mpr ⟨(fun _ _ _ _ h hw => by cases h; cases hw), List.forall_mem_cons.mpr ⟨(fun _ _ _ _ h hw => by cases h; cases hw), List.forall_mem_cons.mpr ⟨(fun _ _ _ _ h hw => by cases h; cases hw), List.forall_mem_cons.mpr ⟨(fun _ _ _ _ h hw => by cases h; cases hw), List.forall_mem_cons.mpr ⟨(fun _ _ _ _ h _ => by cases h; decide), List.forall_mem_cons.mpr ⟨(fun _ _ _ _ h hw => by cases h; cases hw), List.forall_mem_cons.mpr ⟨(fun _ _ _ _ h hw => by cases h; cases hw), List.forall_mem_cons.mpr ⟨(fun _ _ _ _ h hw => by cases h; cases hw), List.forall_mem_cons.mpr ⟨(fun _ _ _ _ h hw => by cases h; cases hw), List.forall_mem_cons.mpr ⟨(fun _ _ _ _ h hw => by cases h; cases hw), List.forall_mem_cons.mpr ⟨(fun _ _ _ _ h hw => by cases h; cases hw), List.forall_mem_cons.mpr ⟨(fun _ _ _ _ h hw => by cases h; cases hw), List.forall_mem_cons.mpr ⟨(fun _ _ _ _ h hw => by cases h; cases hw), List.forall_mem_cons.mpr ⟨(fun _ _ _ _ h hw => by cases h; cases hw), List.forall_mem_cons.mpr ⟨(fun _ _ _ _ h hw => by cases h; cases hw), List.forall_mem_cons.mpr ⟨(fun _ _ _ _ h hw => by cases h; cases hw), List.forall_mem_cons.mpr ⟨(fun _ _ _ _ h hw => by cases h; cases hw), List.forall_mem_cons.mpr ⟨(fun _ _ _ _ h hw => by cases h; cases hw), List.forall_mem_cons.mpr ⟨(fun _ _ _ _ h hw => by cases h; cases hw), List.forall_mem_cons.mpr ⟨(fun _ _ _ _ h hw => by cases h; cases hw), List.forall_mem_cons.mpr ⟨(fun _ _ _ _ h hw => by cases h; cases hw), List.forall_mem_cons.mpr ⟨(fun _ _ _ _ h _ => by cases h; decide), List.forall_mem_cons.mpr ⟨(fun _ _ _ _ h hw => by cases h; cases hw), List.forall_mem_cons.mpr ⟨(fun _ _ _ _ h hw => by cases h; cases hw), List.forall_mem_cons.mpr ⟨(fun _ _ _ _ h hw => by cases h; cases hw), List.forall_mem_cons.mpr ⟨(fun _ _ _ _ h _ => by cases h; decide), List.forall_mem_cons.mpr ⟨(fun _ _ _ _ h hw => by cases h; cases hw), List.forall_mem_cons.mpr ⟨(fun _ _ _ _ h _ => by cases h; decide), List.forall_mem_cons.mpr ⟨(fun _ _ _ _ h hw => by cases h; cases hw), List.forall_mem_cons.mpr ⟨(fun _ _ _ _ h _ => by cases h; decide), List.forall_mem_cons.mpr ⟨(fun _ _ _ _ h hw => by cases h; cases hw), fun _ h => absurd h List.not_mem_nil⟩⟩⟩⟩⟩⟩⟩⟩⟩⟩⟩⟩⟩⟩⟩⟩⟩⟩⟩⟩⟩⟩⟩⟩⟩⟩⟩⟩⟩⟩⟩⟩⟩⟩⟩⟩⟩⟩⟩⟩⟩
/-- what is left: what the small machine says of the law -/
def ra_pure : Prop := ∀ (N0 b L : Nat) (xs : Nat → Int32) (K : Nat → Nat) (M : gm_H), L ≤ 2048 → M b = some (.inl (gm_scr, L, .inl xs)) → M (K 0) = some (.inl (gm_scr, 8, .inl st_kt)) → gm_bd M N0 → ∃ M' sz' dd, gm_evC N0 ra_nm (gm_lawC N0 K ra_nm (ra_mt K) 100 10 ra_wt) (some .boolean) (gm_I cL_law) (gm_lkf (lkL false K)) 0 (gm_entry 7 [.ref b]) [] M N0 0 (.returned (some (.int 1)), M', sz', dd) ∧ sz' ≤ N0 + 601024 ∧ dd ≤ 7293034
theorem whole_start (hp : ra_pure) {p : Program} {e : Env} {s : State} {m : MethodId} {below : List Frame} {meth : Method} {c : Code} (l : Launch) (hlt : l.stackTraces = false) {b L : Nat} {xs : Nat → Int32} (hL : L ≤ 2048) (C0 : lw_At p s m meth c b L xs) : W p l e room_1 s m #[Value.ref b] below meth c s.heap [] 0 0 (lw_Z below #[Value.ref b] s) (entryFrame m ([Value.ref b] : List Value).toArray 7) := by
  obtain ⟨hx, hb, hr, hml, hown, hts, hX, hbl, hlocks, hg⟩ := C0
  have hf := flat_of_before _ hg
  obtain ⟨D, AC, K, hK, hT⟩ := st_K hts hf
  have hTz := st_Tz hts hf
  have hMb : st_M b L (K 0) xs b = some (.inl (gm_scr, L, .inl (st_xs L xs))) := by unfold st_M; rw [if_pos rfl]
  have hkl : K 0 < s.heap.size := by
    obtain ⟨cell, h1, -⟩ := id hT
    exact (Array.getElem?_eq_some_iff.mp h1).1
  obtain ⟨M', sz', dd, ⟨n, k, hex⟩, hc, hs⟩ := hp s.heap.size b L (st_xs L xs) K (st_M b L (K 0) xs) hL hMb (st_Mk hX hL hT) (fun a x ha => by
    unfold st_M at ha
    split at ha
    · rename_i he; rw [he]; exact hbl
    · split at ha
      · rename_i he; rw [he]; exact hkl
      · cases ha)
  obtain ⟨hpool, hconsts, hcalls⟩ := gm_all (lLf K)
  refine gm_law_sim (Xs := ra_Xs) (Cs := ra_Cs) (fi_env (l := l) (D := D) (AC := AC) (N0 := s.heap.size) (K := K)) (by decide) (fun _ _ h => gm_I_dec h) hpool hconsts hcalls (fun ix mi na rc w hlk hw => ?_) hx hb hr hml hown (Ts := lw_tbl) hts (fun w hw => (List.mem_filter.mp hw).1) hlocks hK hTz rfl (st_ok hX hbl hT) hex (by omega) hs
  have hm := fi_wt K _ (gm_lkf_mem hlk) mi na rc w rfl hw
  simp only [List.mem_cons, List.not_mem_nil, or_false, Prod.mk.injEq] at hm
  rcases hm with ⟨rfl, rfl, rfl, rfl⟩ | ⟨rfl, rfl, rfl, rfl⟩ | ⟨rfl, rfl, rfl, rfl⟩ | ⟨rfl, rfl, rfl, rfl⟩ | ⟨rfl, rfl, rfl, rfl⟩
  · exact ⟨rfl, yL_load, cL_load, 3, _, by decide, w_599, w_78, by decide, by decide, by decide +kernel, w_597, w_598, wr_load fi_env hlt (by decide)⟩
  · exact ⟨rfl, yL_play, cL_play, 5, _, by decide, w_1000, w_78, by decide, by decide, by decide +kernel, w_998, w_999, wr_play fi_env hlt (by decide)⟩
  · exact ⟨rfl, yL_audit, cL_audit, 3, _, by decide, w_1035, w_78, by decide, by decide, by decide +kernel, w_1033, w_1034, wr_audit fi_env hlt (by decide)⟩
  · exact ⟨rfl, yL_worth, cL_worth, 3, _, by decide, w_1077, w_78, by decide, by decide, by decide +kernel, w_1075, w_1076, wr_worth fi_env hlt (by decide)⟩
  · exact ⟨rfl, yL_best, cL_best, 3, _, by decide, w_1088, w_78, by decide, by decide, by decide +kernel, w_1086, w_1087, wr_best fi_env hlt (by decide)⟩
set_option maxHeartbeats 4000000 in
theorem lw_walk (hp : ra_pure) (l : Launch) (hlt : l.stackTraces = false) (b : Addr) (xs : List Int32) : MetFree l x (headSpec (Jvm.Cond.code x code maxLocals ret :: tables_1) room_1) (lw_P b xs) (fun _ _ _ _ _ => True) lw_Q := by
  refine MetFree.of_bodyS (code := code) (maxLocals := maxLocals) (ret := ret) (by decide) ?_ ?_
  · intro args s m h hn
    obtain ⟨meth, c, h1, h2, h3, h4, h5, h6, -, -⟩ := Cond.code_spec hn (atoms_spec (ws := Jvm.Cond.code x code maxLocals ret :: tables_1) h _ List.mem_cons_self)
    exact ⟨meth, c, h1, h2, h3, h4, h5, h6⟩
  · intro p e s m args below meth c s₁ B hml0 hP _
    obtain ⟨rfl, hx, hbd, hgv⟩ := hP
    obtain ⟨scr, harrAt, hlist, hof, hsmall⟩ := hx
    obtain ⟨hcb, hkn, -, -⟩ := State.arrayAt?_spec harrAt
    have hown : s.vm.findClass R_law = some m.cls := findClass_of_methodNamed B.named
    have hts0 : ∀ c ∈ (Jvm.Cond.code x code maxLocals ret :: tables_1), c.before #[Value.ref b] s = true := atoms_spec (ws := Jvm.Cond.code x code maxLocals ret :: tables_1) B.pre
    have hts : ∀ w ∈ lw_tbl, w.before #[Value.ref b] s = true := k2_hts_sels lw_privs (fun w hw => hts0 w (List.mem_cons_of_mem _ hw)) lw_privs_ok
    have hml : c.maxLocals = 7 := B.maxLocals_eq (hts0 _ List.mem_cons_self)
    have X₀ : Stand p l e room_1 s m #[Value.ref b] below meth c s₁ [] 0 0 := Stand.of_body B
    have hh0 : s₁.heap = s.heap := by rw [B.state]; rfl
    have hsz : scr.slots.size = xs.length := by rw [← Array.length_toList, hlist, List.length_map]
    have hval : ∀ j : Nat, j < xs.length → scr.slots[j]? = some (.int (xs.getD j 0)) := fun j hj => by
      rw [← Array.getElem?_toList, hlist]
      simp [hj]
    have hbl : b < s.heap.size := (Array.getElem?_eq_some_iff.mp hcb).1
    have hX : va_X b xs.length (fun j => xs.getD j 0) s s.heap := ⟨scr, hcb, hof, hkn, hsz, hval⟩
    have K : W p l e room_1 s m #[Value.ref b] below meth c s₁.heap [] 0 0 (lw_Z below #[Value.ref b] s) (entryFrame m ([Value.ref b] : List Value).toArray 7) := by
      rw [hh0]
      exact whole_start hp l hlt hbd ⟨B.exec, B.bytes, B.returns, hml, hown, hts, hX, hbl, B.notSynchronized, hgv⟩
    obtain ⟨t, a1, o, b1, b2, b3⟩ := K s₁ rfl X₀
    exact ⟨t, o, a1, b1, b2, b3⟩
theorem lw_pre_spec {args : Array Value} {s : State} (h : (Jvm.Cond.and given_1 narrow_1).before args s = true) (hr : rest_1_c.before args s = true) : ∃ (b : Addr) (xs : List Int32), lw_P b xs args s := by
  have hs := flat_of_before _ h
  have hq := flat_of_before _ hr
  have hc : (Cond.count 1).before args s = true := hs _ (by decide +kernel)
  have harr : (Cond.arrayOf (.arg 0) .int).before args s = true := hs _ (by decide +kernel)
  have hle : (Cond.le (.length (.arg 0)) (.int 2048)).before args s = true := hs _ (by decide +kernel)
  have hlen : (Cond.isInt (.length (.arg 0))).before args s = true := hq _ (by decide +kernel)
  have hall : (Cond.all (.arg 0) (.isInt (.elem (.arg 0) (.index 0)))).before args s = true := hq _ (by decide +kernel)
  obtain ⟨b, xs, hb, hx⟩ := State.ints_of_pre rfl harr hlen hall
  have hsm : xs.length < 2 ^ 31 := hx.choose_spec.2.2.2
  have hev : (Term.length (.arg 0)).eval args s none [] s = some (.int xs.length.toInt32) := hx.length_eval hb
  have hv := Cond.le_ints hev (show (Term.int 2048).eval args s none [] s = some (.int 2048) from rfl)
  have hd : xs.length.toInt32 ≤ 2048 := by
    simpa [Cond.before, Cond.holds, hv] using hle
  have hN : xs.length ≤ 2048 := (Int32.ofNat_le_ofNat hsm (by decide)).mp (show Int32.ofNat xs.length ≤ Int32.ofNat 2048 from hd)
  exact ⟨b, xs, Cond.one_arg hc (show args[0]? = some (.ref b) from hb), hx, hN, h⟩
theorem lw_comes (hp : ra_pure) (l : Launch) (hlt : l.stackTraces = false) : Comes l x (Jvm.Cond.code x code maxLocals ret :: tables_1) room_1 (fun tb e args s => Calls_1 tb e args s ∧ rest_1 tb e args s ∧ Pre_1 tb e args s)
    (fun _ _ args s o t => lw_Q args s o t) := by
  intro p e ha hc hk s m args below hf hfit hheap happ hpre
  obtain ⟨b, xs, hP⟩ := lw_pre_spec hpre.2.2 hpre.2.1
  obtain ⟨k, o, h1, h2, h3, hQ⟩ := lw_walk hp l hlt b xs p e ha hc hk s m args below hf ((Spec.applies_iff_loose hf).mp happ).1 hP trivial
  exact ⟨k, o, h1, h2, h3, hQ⟩
theorem lw_frame {s t : State} {o : Outcome} {args : Array Value} (h : Framed s o t [] 601024 7293034) :
    Framed s o t (fieldLocs frame_1_writes args s ++ arrayLocs frame_1_arrays args s ++ staticLocs frame_1_statics s) 601024 7293034 := h
theorem lw_flags {l : Launch} (h : l.flags = flags0) : l.stackTraces = false := by
  unfold Launch.stackTraces
  rw [h]
  decide +kernel
theorem lw_limb (hp : ra_pure) (L : Cond) (hL : ∀ (args : Array Value) (s t : State), L.after args s (.returned (some (.int 1))) t = true) :
    ArmFor flags0 classFile x code maxLocals ret World_1 tables_1 room_1 Calls_1 rest_1 Pre_1
      (fun tb e a s o t => postC L tb e a s o t ∧ Framed s o t (fieldLocs frame_1_writes a s ++ arrayLocs frame_1_arrays a s ++ staticLocs frame_1_statics s) 601024 7293034) := by
  intro l hfl _ _ p e ha hc hk s m args below hf hfit hheap happ hpre
  obtain ⟨k, o, h1, h2, h3, rfl, hF⟩ := lw_comes hp l (lw_flags hfl) p e ha hc hk s m args below hf hfit hheap happ hpre
  exact ⟨k, _, h1, h2, h3, hL args s _, lw_frame hF⟩
theorem ra_vc (hp : ra_pure) : Claimed_1_1 ∧ Claimed_1_2 := ⟨lw_limb hp limb_1_1 (fun args s t => by simp [limb_1_1, Cond.after, Cond.holds, Cond.value]), lw_limb hp limb_1_2 (fun args s t => Cond.after_iff.mpr (by
  first | (rw [show limb_1_2 = Cond.eq .result (.int 1) from rfl, Cond.eq_ints (x := 1) (y := 1) rfl rfl]; simp; done) | (simp [limb_1_2, Cond.value, Term.eval]; done)))⟩

