/-! what holds at the law's entry (by program) -/
theorem st_nest {w : Cond} (h : gm_nest w = true) : w.onTables = true := by
  cases w <;> simp only [gm_nest, Bool.false_eq_true] at h
  all_goals rfl
theorem st_cls : ∀ q ∈ vwCl, (∀ w ∈ u_ws q.1 q.2.1 q.2.2, w ∈ lw_tbl) ∧ ∃ n, Cond.instantiable q.1 n ∈ lw_tbl := List.forall_mem_cons.mpr ⟨⟨fun w hw => (List.mem_filter.mp (cok_X0.1 w hw)).1, 7, List.mem_of_getElem? (i := 290) (by decide +kernel)⟩, List.forall_mem_cons.mpr ⟨⟨fun w hw => (List.mem_filter.mp (cok_X1.1 w hw)).1, 11, List.mem_of_getElem? (i := 148) (by decide +kernel)⟩, List.forall_mem_cons.mpr ⟨⟨fun w hw => (List.mem_filter.mp (cok_X2.1 w hw)).1, 8, List.mem_of_getElem? (i := 142) (by decide +kernel)⟩, List.forall_mem_cons.mpr ⟨⟨fun w hw => (List.mem_filter.mp (cok_X3.1 w hw)).1, 9, List.mem_of_getElem? (i := 136) (by decide +kernel)⟩, List.forall_mem_cons.mpr ⟨⟨fun w hw => (List.mem_filter.mp (cok_X4.1 w hw)).1, 4, List.mem_of_getElem? (i := 898) (by decide +kernel)⟩, List.forall_mem_cons.mpr ⟨⟨fun w hw => (List.mem_filter.mp (cok_X5.1 w hw)).1, 7, List.mem_of_getElem? (i := 668) (by decide +kernel)⟩, List.forall_mem_cons.mpr ⟨⟨fun w hw => (List.mem_filter.mp (cok_X6.1 w hw)).1, 3, List.mem_of_getElem? (i := 118) (by decide +kernel)⟩, List.forall_mem_cons.mpr ⟨⟨fun w hw => (List.mem_filter.mp (cok_X7.1 w hw)).1, 4, List.mem_of_getElem? (i := 711) (by decide +kernel)⟩, List.forall_mem_cons.mpr ⟨⟨fun w hw => (List.mem_filter.mp (cok_X8.1 w hw)).1, 5, List.mem_of_getElem? (i := 612) (by decide +kernel)⟩, List.forall_mem_cons.mpr ⟨⟨fun w hw => (List.mem_filter.mp (cok_X10.1 w hw)).1, 2, List.mem_of_getElem? (i := 233) (by decide +kernel)⟩, List.forall_mem_cons.mpr ⟨⟨fun w hw => (List.mem_filter.mp (cok_X11.1 w hw)).1, 7, List.mem_of_getElem? (i := 110) (by decide +kernel)⟩, List.forall_mem_cons.mpr ⟨⟨fun w hw => (List.mem_filter.mp (cok_X12.1 w hw)).1, 50, List.mem_of_getElem? (i := 1114) (by decide +kernel)⟩, fun _ h => absurd h List.not_mem_nil⟩⟩⟩⟩⟩⟩⟩⟩⟩⟩⟩⟩
def st_kt : Nat → Int32 := fun j => ([1, 1, 1, 1, 2, 2, 2, 0] : List Int32).getD j 0
/-- the script, 0 behind its end -/
def st_xs (L : Nat) (xs : Nat → Int32) : Nat → Int32 := fun j => if j < L then xs j else 0
def st_M (b L k0 : Nat) (xs : Nat → Int32) : gm_H := fun q => if q = b then some (.inl (gm_scr, L, .inl (st_xs L xs))) else if q = k0 then some (.inl (gm_scr, 8, .inl st_kt)) else none
section STA
variable {s : State} {b L : Nat} {xs : Nat → Int32}
theorem st_K1 (hts : ∀ w ∈ lw_tbl, w.before #[Value.ref b] s = true) : ∃ D : va_G, va_K D vwCl [] s := by
  have h0 : ∀ c : Nat, ∃ r : ClassId × (Nat → Nat), ∀ q : vw_C, vwCl[c]? = some q → u_Kn s q.1 q.2.1 q.2.2 r.1 r.2 := by
    intro c
    cases hc : vwCl[c]? with
    | none => exact ⟨(0, fun _ => 0), fun q hq => by cases hq⟩
    | some q =>
      obtain ⟨h1, n, h2⟩ := st_cls q (List.mem_of_getElem? hc)
      obtain ⟨cC, iS, h3⟩ := u_known hts h1 (hts _ h2)
      exact ⟨(cC, iS), fun q' hq => by cases hq; exact h3⟩
  obtain ⟨r, hr⟩ := Classical.axiomOfChoice h0
  exact ⟨(fun c => (r c).1, fun c => (r c).2), fun c q hq => hr c q hq, fun k q hk => by cases hk⟩
theorem st_kw (hts : ∀ w ∈ lw_tbl, w.before #[Value.ref b] s = true) (hf : ∀ c ∈ flatC (Jvm.Cond.and given_1 narrow_1), c.before #[Value.ref b] s = true) : ∃ k0, va_Z "RuleArena" "KEYWORD_TERMS" "[I" (.ref k0) (fun q => s.heap.size ≤ q) s s.heap ∧ va_T .int k0 8 (fun j => .int (st_kt j)) (fun q => s.heap.size ≤ q) s s.heap := by
  have hel : ∀ j : Nat, j < 8 → (Term.elem (.static "RuleArena" "KEYWORD_TERMS" "[I") (.int (Int32.ofNat j))).eval #[Value.ref b] s none [] s = some (.int (st_kt j)) := by
    intro j hj
    match j, hj with
    | 0, _ => exact va_eqt (hf (.eq (.elem (.static "RuleArena" "KEYWORD_TERMS" "[I") (.int 0)) (.int 1)) (by decide +kernel))
    | 1, _ => exact va_eqt (hf (.eq (.elem (.static "RuleArena" "KEYWORD_TERMS" "[I") (.int 1)) (.int 1)) (by decide +kernel))
    | 2, _ => exact va_eqt (hf (.eq (.elem (.static "RuleArena" "KEYWORD_TERMS" "[I") (.int 2)) (.int 1)) (by decide +kernel))
    | 3, _ => exact va_eqt (hf (.eq (.elem (.static "RuleArena" "KEYWORD_TERMS" "[I") (.int 3)) (.int 1)) (by decide +kernel))
    | 4, _ => exact va_eqt (hf (.eq (.elem (.static "RuleArena" "KEYWORD_TERMS" "[I") (.int 4)) (.int 2)) (by decide +kernel))
    | 5, _ => exact va_eqt (hf (.eq (.elem (.static "RuleArena" "KEYWORD_TERMS" "[I") (.int 5)) (.int 2)) (by decide +kernel))
    | 6, _ => exact va_eqt (hf (.eq (.elem (.static "RuleArena" "KEYWORD_TERMS" "[I") (.int 6)) (.int 2)) (by decide +kernel))
    | 7, _ => exact va_eqt (hf (.eq (.elem (.static "RuleArena" "KEYWORD_TERMS" "[I") (.int 7)) (.int 0)) (by decide +kernel))
    | k + 8, hj => omega
  obtain ⟨t, ht, hT⟩ := va_Tof (tm := (.static "RuleArena" "KEYWORD_TERMS" "[I")) (ty := .int) (N := 8) (f := fun j => .int (st_kt j)) (A := fun q => s.heap.size ≤ q) (by decide) (hf (.arrayOf (.static "RuleArena" "KEYWORD_TERMS" "[I") .int) (by decide +kernel)) (va_eqt (hf (.eq (.length (.static "RuleArena" "KEYWORD_TERMS" "[I")) (.int 8)) (by decide +kernel))) hel (fun a h9 => Nat.not_le.mpr h9)
  exact ⟨t, va_Zref (hts (Cond.laysStatic "RuleArena" "KEYWORD_TERMS" "[I") (List.mem_of_getElem? (i := 455) (by decide +kernel))) (hts (Cond.initialized "RuleArena") (List.mem_of_getElem? (i := 79) (by decide +kernel))) ht (fun a h9 => Nat.not_le.mpr h9), hT⟩
theorem st_lit (hts : ∀ w ∈ lw_tbl, w.before #[Value.ref b] s = true) (hf : ∀ c ∈ flatC (Jvm.Cond.and given_1 narrow_1), c.before #[Value.ref b] s = true) : ∃ a, gm_str s.heap.size ("RuleArena$Literal", 27, "RITNDLGE", a) s s.heap := by
  have hel : ∀ j : Nat, j < 8 → (Term.elem (.field (.string "RuleArena$Literal" 27) "java/lang/String" "value" "[B") (.int (Int32.ofNat j))).eval #[Value.ref b] s none [] s = some (.int (gm_kb.getD j 0)) := by
    intro j hj
    match j, hj with
    | 0, _ => exact va_eqt (hf (.eq (.elem (.field (.string "RuleArena$Literal" 27) "java/lang/String" "value" "[B") (.int 0)) (.int 82)) (by decide +kernel))
    | 1, _ => exact va_eqt (hf (.eq (.elem (.field (.string "RuleArena$Literal" 27) "java/lang/String" "value" "[B") (.int 1)) (.int 73)) (by decide +kernel))
    | 2, _ => exact va_eqt (hf (.eq (.elem (.field (.string "RuleArena$Literal" 27) "java/lang/String" "value" "[B") (.int 2)) (.int 84)) (by decide +kernel))
    | 3, _ => exact va_eqt (hf (.eq (.elem (.field (.string "RuleArena$Literal" 27) "java/lang/String" "value" "[B") (.int 3)) (.int 78)) (by decide +kernel))
    | 4, _ => exact va_eqt (hf (.eq (.elem (.field (.string "RuleArena$Literal" 27) "java/lang/String" "value" "[B") (.int 4)) (.int 68)) (by decide +kernel))
    | 5, _ => exact va_eqt (hf (.eq (.elem (.field (.string "RuleArena$Literal" 27) "java/lang/String" "value" "[B") (.int 5)) (.int 76)) (by decide +kernel))
    | 6, _ => exact va_eqt (hf (.eq (.elem (.field (.string "RuleArena$Literal" 27) "java/lang/String" "value" "[B") (.int 6)) (.int 71)) (by decide +kernel))
    | 7, _ => exact va_eqt (hf (.eq (.elem (.field (.string "RuleArena$Literal" 27) "java/lang/String" "value" "[B") (.int 7)) (.int 69)) (by decide +kernel))
    | k + 8, hj => omega
  obtain ⟨a, c9, cA, kA, q1, q2, q3, q4, q5, q6, -⟩ := Cond.exactly_spec (args := #[Value.ref b]) (first := s) (o := none) (s := s) (idx := []) (t := (.string "RuleArena$Literal" 27)) (cls := "java/lang/String") (hf (.exactly (.string "RuleArena$Literal" 27) "java/lang/String") (by decide +kernel))
  obtain ⟨t, ht, hT⟩ := va_Tof (tm := (.field (.string "RuleArena$Literal" 27) "java/lang/String" "value" "[B")) (ty := .byte) (N := 8) (f := fun j => .int (gm_kb.getD j 0)) (A := fun q => s.heap.size ≤ q) (by decide) (hf (.arrayOf (.field (.string "RuleArena$Literal" 27) "java/lang/String" "value" "[B") .byte) (by decide +kernel)) (va_eqt (hf (.eq (.length (.field (.string "RuleArena$Literal" 27) "java/lang/String" "value" "[B")) (.int 8)) (by decide +kernel))) hel (fun a h9 => Nat.not_le.mpr h9)
  exact ⟨a, vk_R.of (A := #[Value.ref b]) (hts (Cond.stringRef "RuleArena$Literal" 27 "RITNDLGE") (List.mem_of_getElem? (i := 367) (by decide +kernel))) q1, va_Oof (hf (.exactly (.string "RuleArena$Literal" 27) "java/lang/String") (by decide +kernel)) q1 (fun a h9 => Nat.not_le.mpr h9), vk_OFof q1 (va_eqt (hf (.eq (.field (.string "RuleArena$Literal" 27) "java/lang/String" "coder" "B") (.int 0)) (by decide +kernel))) (fun a h9 => Nat.not_le.mpr h9), t, vk_OFof q1 ht (fun a h9 => Nat.not_le.mpr h9), hT⟩
theorem st_rea (hts : ∀ w ∈ lw_tbl, w.before #[Value.ref b] s = true) (hf : ∀ c ∈ flatC (Jvm.Cond.and given_1 narrow_1), c.before #[Value.ref b] s = true) : ∃ a, gm_str s.heap.size ("RuleArena$Reader", 81, "RITNDLGE", a) s s.heap := by
  have hel : ∀ j : Nat, j < 8 → (Term.elem (.field (.string "RuleArena$Reader" 81) "java/lang/String" "value" "[B") (.int (Int32.ofNat j))).eval #[Value.ref b] s none [] s = some (.int (gm_kb.getD j 0)) := by
    intro j hj
    match j, hj with
    | 0, _ => exact va_eqt (hf (.eq (.elem (.field (.string "RuleArena$Reader" 81) "java/lang/String" "value" "[B") (.int 0)) (.int 82)) (by decide +kernel))
    | 1, _ => exact va_eqt (hf (.eq (.elem (.field (.string "RuleArena$Reader" 81) "java/lang/String" "value" "[B") (.int 1)) (.int 73)) (by decide +kernel))
    | 2, _ => exact va_eqt (hf (.eq (.elem (.field (.string "RuleArena$Reader" 81) "java/lang/String" "value" "[B") (.int 2)) (.int 84)) (by decide +kernel))
    | 3, _ => exact va_eqt (hf (.eq (.elem (.field (.string "RuleArena$Reader" 81) "java/lang/String" "value" "[B") (.int 3)) (.int 78)) (by decide +kernel))
    | 4, _ => exact va_eqt (hf (.eq (.elem (.field (.string "RuleArena$Reader" 81) "java/lang/String" "value" "[B") (.int 4)) (.int 68)) (by decide +kernel))
    | 5, _ => exact va_eqt (hf (.eq (.elem (.field (.string "RuleArena$Reader" 81) "java/lang/String" "value" "[B") (.int 5)) (.int 76)) (by decide +kernel))
    | 6, _ => exact va_eqt (hf (.eq (.elem (.field (.string "RuleArena$Reader" 81) "java/lang/String" "value" "[B") (.int 6)) (.int 71)) (by decide +kernel))
    | 7, _ => exact va_eqt (hf (.eq (.elem (.field (.string "RuleArena$Reader" 81) "java/lang/String" "value" "[B") (.int 7)) (.int 69)) (by decide +kernel))
    | k + 8, hj => omega
  obtain ⟨a, c9, cA, kA, q1, q2, q3, q4, q5, q6, -⟩ := Cond.exactly_spec (args := #[Value.ref b]) (first := s) (o := none) (s := s) (idx := []) (t := (.string "RuleArena$Reader" 81)) (cls := "java/lang/String") (hf (.exactly (.string "RuleArena$Reader" 81) "java/lang/String") (by decide +kernel))
  obtain ⟨t, ht, hT⟩ := va_Tof (tm := (.field (.string "RuleArena$Reader" 81) "java/lang/String" "value" "[B")) (ty := .byte) (N := 8) (f := fun j => .int (gm_kb.getD j 0)) (A := fun q => s.heap.size ≤ q) (by decide) (hf (.arrayOf (.field (.string "RuleArena$Reader" 81) "java/lang/String" "value" "[B") .byte) (by decide +kernel)) (va_eqt (hf (.eq (.length (.field (.string "RuleArena$Reader" 81) "java/lang/String" "value" "[B")) (.int 8)) (by decide +kernel))) hel (fun a h9 => Nat.not_le.mpr h9)
  exact ⟨a, vk_R.of (A := #[Value.ref b]) (hts (Cond.stringRef "RuleArena$Reader" 81 "RITNDLGE") (List.mem_of_getElem? (i := 649) (by decide +kernel))) q1, va_Oof (hf (.exactly (.string "RuleArena$Reader" 81) "java/lang/String") (by decide +kernel)) q1 (fun a h9 => Nat.not_le.mpr h9), vk_OFof q1 (va_eqt (hf (.eq (.field (.string "RuleArena$Reader" 81) "java/lang/String" "coder" "B") (.int 0)) (by decide +kernel))) (fun a h9 => Nat.not_le.mpr h9), t, vk_OFof q1 ht (fun a h9 => Nat.not_le.mpr h9), hT⟩
theorem st_K (hts : ∀ w ∈ lw_tbl, w.before #[Value.ref b] s = true) (hf : ∀ c ∈ flatC (Jvm.Cond.and given_1 narrow_1), c.before #[Value.ref b] s = true) : ∃ (D : va_G) (AC : FieldType → ClassId) (K : Nat → Nat), gm_K D vwCl AC s.heap.size ra_Ns ra_As (ra_Zs K) (ra_Ss K) s ∧ va_T .int (K 0) 8 (fun j => .int (st_kt j)) (fun q => s.heap.size ≤ q) s s.heap := by
  obtain ⟨D, hD⟩ := st_K1 hts
  obtain ⟨k0, hz, hT⟩ := st_kw hts hf
  obtain ⟨k1, h1⟩ := st_lit hts hf
  obtain ⟨k2, h2⟩ := st_rea hts hf
  refine ⟨D, fun ty => (s.vm.findClass ("[" ++ ty.toString)).getD 0, fun i => match i with | 0 => k0 | 1 => k1 | _ => k2, ⟨hD, fun ty cA h => by simp only [h, Option.getD_some], fun w hw => va_Nw.of (st_nest (List.mem_filter.mp hw).2) (hts w (List.mem_filter.mp hw).1), ?_, ?_, ?_⟩, hT⟩
  · exact List.forall_mem_cons.mpr ⟨va_AO.of (A := #[Value.ref b]) (hts (Cond.arrayOver (.object "RuleArena$Literal")) (List.mem_of_getElem? (i := 717) (by decide +kernel))), List.forall_mem_cons.mpr ⟨va_AO.of (A := #[Value.ref b]) (hts (Cond.arrayOver (.object "RuleArena$Rule")) (List.mem_of_getElem? (i := 618) (by decide +kernel))), List.forall_mem_cons.mpr ⟨va_AO.of (A := #[Value.ref b]) (hts (Cond.arrayOver (.object "RuleArena$Terms")) (List.mem_of_getElem? (i := 296) (by decide +kernel))), fun _ h => absurd h List.not_mem_nil⟩⟩⟩
  · exact List.forall_mem_cons.mpr ⟨hz, List.forall_mem_cons.mpr ⟨va_Zof (hts (Cond.laysStatic "java/lang/String" "COMPACT_STRINGS" "Z") (List.mem_of_getElem? (i := 381) (by decide +kernel))) (hts (Cond.initialized "java/lang/String") (List.mem_of_getElem? (i := 88) (by decide +kernel))) (va_eqi (hf (.eq (.static "java/lang/String" "COMPACT_STRINGS" "Z") (.int 1)) (by decide +kernel))) (fun a h9 => Nat.not_le.mpr h9), fun _ h => absurd h List.not_mem_nil⟩⟩
  · exact List.forall_mem_cons.mpr ⟨h1, List.forall_mem_cons.mpr ⟨h2, fun _ h => absurd h List.not_mem_nil⟩⟩
theorem st_Tz (hts : ∀ w ∈ lw_tbl, w.before #[Value.ref b] s = true) (hf : ∀ c ∈ flatC (Jvm.Cond.and given_1 narrow_1), c.before #[Value.ref b] s = true) : gm_Tz s.heap.size ra_Xs ra_Cs s := by
  refine ⟨⟨vx_Zqof (hts (Cond.laysStatic Bundle.tN "UNASSIGNED_STACK" "[Ljava/lang/StackTraceElement;") (List.mem_of_getElem? (i := 794) (by decide +kernel))) (hts (Cond.initialized Bundle.tN) (List.mem_of_getElem? (i := 98) (by decide +kernel))) (hf (.isRef (.static "java/lang/Throwable" "UNASSIGNED_STACK" "[Ljava/lang/StackTraceElement;")) (by decide +kernel)) (fun a h9 => Nat.not_le.mpr h9), vx_Zqof (hts (Cond.laysStatic Bundle.tN "SUPPRESSED_SENTINEL" "Ljava/util/List;") (List.mem_of_getElem? (i := 796) (by decide +kernel))) (hts (Cond.initialized Bundle.tN) (List.mem_of_getElem? (i := 98) (by decide +kernel))) (hf (.isRef (.static "java/lang/Throwable" "SUPPRESSED_SENTINEL" "Ljava/util/List;")) (by decide +kernel)) (fun a h9 => Nat.not_le.mpr h9)⟩, ?_, ?_⟩
  · exact List.forall_mem_cons.mpr ⟨⟨rfl, va_Nw.of rfl (hts (Cond.castable "java/lang/IllegalArgumentException" "java/lang/IllegalArgumentException") (List.mem_of_getElem? (i := 769) (by decide +kernel)))⟩, List.forall_mem_cons.mpr ⟨⟨rfl, va_Nw.of rfl (hts (Cond.castable "java/lang/UnsupportedOperationException" "java/lang/UnsupportedOperationException") (List.mem_of_getElem? (i := 884) (by decide +kernel)))⟩, List.forall_mem_cons.mpr ⟨⟨rfl, va_Nw.of rfl (hts (Cond.castable "java/lang/IllegalStateException" "java/lang/IllegalStateException") (List.mem_of_getElem? (i := 981) (by decide +kernel)))⟩, List.forall_mem_cons.mpr ⟨⟨rfl, va_Nw.of rfl (hts (Cond.castable "java/lang/IndexOutOfBoundsException" "java/lang/IndexOutOfBoundsException") (List.mem_of_getElem? (i := 1008) (by decide +kernel)))⟩, List.forall_mem_cons.mpr ⟨⟨rfl, va_Nw.of rfl (hts (Cond.castable "java/util/NoSuchElementException" "java/util/NoSuchElementException") (List.mem_of_getElem? (i := 1096) (by decide +kernel)))⟩, List.forall_mem_cons.mpr ⟨⟨rfl, va_Nw.of rfl (hts (Cond.declares (Bundle.init0 "java/lang/RuntimeException")) (List.mem_of_getElem? (i := 770) (by decide +kernel)))⟩, List.forall_mem_cons.mpr ⟨⟨rfl, va_Nw.of rfl (hts (Cond.declares (Bundle.init0 "java/lang/Exception")) (List.mem_of_getElem? (i := 772) (by decide +kernel)))⟩, List.forall_mem_cons.mpr ⟨⟨rfl, va_Nw.of rfl (hts (Cond.declares (Bundle.init0 "java/lang/Throwable")) (List.mem_of_getElem? (i := 774) (by decide +kernel)))⟩, fun _ h => absurd h List.not_mem_nil⟩⟩⟩⟩⟩⟩⟩⟩
  · exact List.forall_mem_cons.mpr ⟨va_Nc.of (hf (.not (.castable "java/lang/IllegalArgumentException" "java/lang/UnsupportedOperationException")) (by decide +kernel)), List.forall_mem_cons.mpr ⟨va_Nc.of (hf (.not (.castable "java/lang/IllegalArgumentException" "java/lang/IllegalStateException")) (by decide +kernel)), List.forall_mem_cons.mpr ⟨va_Nc.of (hf (.not (.castable "java/lang/IllegalArgumentException" "java/lang/IndexOutOfBoundsException")) (by decide +kernel)), List.forall_mem_cons.mpr ⟨va_Nc.of (hf (.not (.castable "java/lang/IllegalArgumentException" "java/util/NoSuchElementException")) (by decide +kernel)), List.forall_mem_cons.mpr ⟨va_Nc.of (hf (.not (.castable "java/lang/UnsupportedOperationException" "java/lang/IllegalArgumentException")) (by decide +kernel)), List.forall_mem_cons.mpr ⟨va_Nc.of (hf (.not (.castable "java/lang/UnsupportedOperationException" "java/lang/IllegalStateException")) (by decide +kernel)), List.forall_mem_cons.mpr ⟨va_Nc.of (hf (.not (.castable "java/lang/UnsupportedOperationException" "java/lang/IndexOutOfBoundsException")) (by decide +kernel)), List.forall_mem_cons.mpr ⟨va_Nc.of (hf (.not (.castable "java/lang/UnsupportedOperationException" "java/util/NoSuchElementException")) (by decide +kernel)), List.forall_mem_cons.mpr ⟨va_Nc.of (hf (.not (.castable "java/lang/IllegalStateException" "java/lang/IllegalArgumentException")) (by decide +kernel)), List.forall_mem_cons.mpr ⟨va_Nc.of (hf (.not (.castable "java/lang/IllegalStateException" "java/lang/UnsupportedOperationException")) (by decide +kernel)), List.forall_mem_cons.mpr ⟨va_Nc.of (hf (.not (.castable "java/lang/IllegalStateException" "java/lang/IndexOutOfBoundsException")) (by decide +kernel)), List.forall_mem_cons.mpr ⟨va_Nc.of (hf (.not (.castable "java/lang/IllegalStateException" "java/util/NoSuchElementException")) (by decide +kernel)), List.forall_mem_cons.mpr ⟨va_Nc.of (hf (.not (.castable "java/lang/IndexOutOfBoundsException" "java/lang/IllegalArgumentException")) (by decide +kernel)), List.forall_mem_cons.mpr ⟨va_Nc.of (hf (.not (.castable "java/lang/IndexOutOfBoundsException" "java/lang/UnsupportedOperationException")) (by decide +kernel)), List.forall_mem_cons.mpr ⟨va_Nc.of (hf (.not (.castable "java/lang/IndexOutOfBoundsException" "java/lang/IllegalStateException")) (by decide +kernel)), List.forall_mem_cons.mpr ⟨va_Nc.of (hf (.not (.castable "java/lang/IndexOutOfBoundsException" "java/util/NoSuchElementException")) (by decide +kernel)), List.forall_mem_cons.mpr ⟨va_Nc.of (hf (.not (.castable "java/util/NoSuchElementException" "java/lang/IllegalArgumentException")) (by decide +kernel)), List.forall_mem_cons.mpr ⟨va_Nc.of (hf (.not (.castable "java/util/NoSuchElementException" "java/lang/UnsupportedOperationException")) (by decide +kernel)), List.forall_mem_cons.mpr ⟨va_Nc.of (hf (.not (.castable "java/util/NoSuchElementException" "java/lang/IllegalStateException")) (by decide +kernel)), List.forall_mem_cons.mpr ⟨va_Nc.of (hf (.not (.castable "java/util/NoSuchElementException" "java/lang/IndexOutOfBoundsException")) (by decide +kernel)), fun _ h => absurd h List.not_mem_nil⟩⟩⟩⟩⟩⟩⟩⟩⟩⟩⟩⟩⟩⟩⟩⟩⟩⟩⟩⟩
theorem st_ok {D : va_G} {AC : FieldType → ClassId} {k0 : Nat} (hX : va_X b L xs s s.heap) (hbl : b < s.heap.size) (hT : va_T .int k0 8 (fun j => .int (st_kt j)) (fun q => s.heap.size ≤ q) s s.heap) : gm_ok D vwCl AC s.heap.size s (st_M b L k0 xs) s.heap := by
  intro a x hx
  unfold st_M at hx
  split at hx
  · rename_i he
    cases hx
    subst he
    obtain ⟨scr, h1, h2, h3, h4, h5⟩ := hX
    refine Or.inl ⟨.int, rfl, hbl, _, rfl, scr, h1, h2, h3, Nat.le_of_eq h4.symm, congrArg Nat.toInt32 h4, fun j hj => ?_, Nat.not_le.mpr hbl⟩
    refine (h5 j hj).trans ?_
    show some (Value.int (xs j)) = some (.int (st_xs L xs j))
    rw [show st_xs L xs j = xs j from if_pos hj]
  · split at hx
    · rename_i he
      cases hx
      subst he
      obtain ⟨cell, h1, h2⟩ := id hT
      exact Or.inl ⟨.int, rfl, (Array.getElem?_eq_some_iff.mp h1).1, _, rfl, hT⟩
    · cases hx
theorem st_Mk {k0 : Nat} (hX : va_X b L xs s s.heap) (hL : L ≤ 2048) (hT : va_T .int k0 8 (fun j => .int (st_kt j)) (fun q => s.heap.size ≤ q) s s.heap) : st_M b L k0 xs k0 = some (.inl (gm_scr, 8, .inl st_kt)) := by
  unfold st_M
  by_cases he : k0 = b
  · rw [if_pos he]
    subst he
    obtain ⟨scr, h1, h2, h3, h4, h5⟩ := hX
    obtain ⟨cell, g1, g2, g3, g4, g5, g6, g7⟩ := hT
    cases h1.symm.trans g1
    have hL8 : L = 8 := by
      rw [h4] at g5
      have h9 : ∀ n : Fin 2049, (n.1).toInt32 = Int32.ofNat 8 → n.1 = 8 := by decide +kernel
      exact h9 ⟨L, by omega⟩ g5
    subst hL8
    have hxs : st_xs 8 xs = st_kt := by
      funext j
      unfold st_xs
      by_cases hj : j < 8
      · rw [if_pos hj]
        have e1 := (h5 j hj).symm.trans (g6 j hj)
        simpa using e1
      · rw [if_neg hj]
        unfold st_kt
        rw [List.getD_eq_getElem?_getD, List.getElem?_eq_none (by simpa using hj)]
        rfl
    rw [hxs]
  · rw [if_neg he, if_pos rfl]
end STA
