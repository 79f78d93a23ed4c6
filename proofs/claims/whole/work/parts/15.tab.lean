/-! the tables of the small machine: pools by class, methods by number (by program) -/
def gm_I (cc : ByteArray) : Nat → Option Instr := fun pc => match decode cc pc with
  | .ok (i, len) => if gm_len i len = true then some i else none
  | .error _ => none
theorem gm_I_dec {cc : ByteArray} {pc : Nat} {i : Instr} (h : gm_I cc pc = some i) : gm_dec cc pc i := by
  unfold gm_I at h
  split at h
  · rename_i j len hd
    split at h
    · rename_i hl
      cases h
      exact ⟨len, hd, hl⟩
    · cases h
  · cases h
def gm_lkf (L : List (Nat × gm_L)) : Nat → Option gm_L := fun ix => (L.find? (fun q => q.1 == ix)).map (fun q => q.2)
theorem gm_lkf_mem {L : List (Nat × gm_L)} {ix : Nat} {x : gm_L} (h : gm_lkf L ix = some x) : (ix, x) ∈ L := by
  unfold gm_lkf at h
  cases hf : L.find? (fun q => q.1 == ix) with
  | none => rw [hf] at h; cases h
  | some q =>
    rw [hf] at h
    cases h
    have h1 := List.find?_some hf
    have h2 := List.mem_of_find?_eq_some hf
    simp only [beq_iff_eq] at h1
    rw [← h1]
    exact h2
def ra_nm : Nat → Option String := fun ci => (vwCl[ci]?).map (fun q => q.1)
def lkJ6 (init : Bool) (K : Nat → Nat) : List (Nat × gm_L) := [(265, .inr (.inr (.inr (.inr (3, .int (1431655765)))))),
  (266, .inr (.inr (.inr (.inr (3, .int (858993459)))))),
  (267, .inr (.inr (.inr (.inr (3, .int (252645135))))))]
def lkX0 (init : Bool) (K : Nat → Nat) : List (Nat × gm_L) := [(3, .inr (.inr (.inr (.inl (0, 0, 1))))),
  (11, .inr (.inl (9, [.null, .int 0]))),
  (13, .inl (0, 0, .array (.object "RuleArena$Terms"), init)),
  (17, .inl (0, 1, .array .int, init)),
  (21, .inl (0, 2, .array .int, init)),
  (24, .inl (0, 3, .array .boolean, init)),
  (28, .inr (.inr (.inr (.inl (94, 1, 1))))),
  (31, .inl (0, 5, .boolean, true)),
  (35, .inl (0, 4, .int, true)),
  (39, .inl (0, 6, .int, true)),
  (42, .inl (3, 3, .object "RuleArena$Terms", false)),
  (48, .inr (.inr (.inr (.inl (97, 1, 12))))),
  (52, .inr (.inr (.inr (.inl (192, 2, 0))))),
  (58, .inl (3, 2, .object "RuleArena$Terms", false)),
  (61, .inl (9, 1, .int, true)),
  (64, .inr (.inr (.inr (.inl (41, 1, 6))))),
  (68, .inr (.inr (.inr (.inl (13, 2, 3))))),
  (72, .inl (3, 8, .boolean, true)),
  (75, .inl (3, 6, .object "RuleArena$Terms", false)),
  (78, .inl (3, 7, .object "RuleArena$Terms", false)),
  (81, .inr (.inr (.inr (.inl (44, 2, 6))))),
  (85, .inl (3, 5, .object "RuleArena$Terms", false)),
  (88, .inr (.inr (.inr (.inl (14, 3, 3))))),
  (92, .inr (.inr (.inr (.inl (16, 0, 3))))),
  (96, .inl (3, 4, .object "RuleArena$Terms", false)),
  (99, .inr (.inr (.inr (.inl (48, 1, 6))))),
  (103, .inr (.inr (.inr (.inl (15, 1, 3))))),
  (107, .inr (.inr (.inr (.inl (98, 1, 12))))),
  (110, .inr (.inr (.inr (.inl (17, 1, 3))))),
  (113, .inr (.inr (.inr (.inl (1, 2, 0))))),
  (119, .inr (.inr (.inr (.inl (2, 2, 0))))),
  (100011, .inr (.inr (.inl (.object "RuleArena$Terms"))))]
def lkX1 (init : Bool) (K : Nat → Nat) : List (Nat × gm_L) := [(3, .inr (.inr (.inr (.inl (0, 0, 1))))),
  (11, .inl (1, 0, .array .int, init)),
  (15, .inl (1, 1, .array .int, init)),
  (18, .inl (1, 2, .array .int, init)),
  (21, .inl (1, 3, .array .int, init)),
  (24, .inl (1, 4, .array .int, init)),
  (27, .inl (1, 5, .array .int, init)),
  (30, .inl (1, 6, .array .int, init)),
  (33, .inl (1, 7, .array .int, init)),
  (36, .inl (1, 8, .array .int, init)),
  (39, .inl (1, 9, .int, true)),
  (43, .inr (.inr (.inr (.inl (24, 4, 0))))),
  (47, .inr (.inr (.inr (.inl (23, 5, 4))))),
  (51, .inl (1, 10, .boolean, true)),
  (55, .inr (.inr (.inr (.inr (0, .int (-1640531535)))))),
  (56, .inr (.inr (.inr (.inl (1, 2, 0)))))]
def lkX2 (init : Bool) (K : Nat → Nat) : List (Nat × gm_L) := [(3, .inr (.inr (.inr (.inl (0, 0, 1))))),
  (9, .inr (.inl (1, [.null, .null, .null, .null, .null, .null, .null, .null, .null, .int 0, .int 0]))),
  (11, .inr (.inr (.inr (.inl (20, 0, 1))))),
  (12, .inl (2, 0, .object "RuleArena$Facts", init)),
  (20, .inl (2, 4, .array .int, init)),
  (24, .inl (2, 1, .object "RuleArena$Layers", true)),
  (28, .inr (.inr (.inr (.inl (25, 1, 4))))),
  (32, .inl (4, 2, .array .int, false)),
  (37, .inr (.inr (.inr (.inl (30, 1, 5))))),
  (40, .inl (1, 9, .int, true)),
  (44, .inl (2, 2, .int, true)),
  (47, .inl (1, 10, .boolean, true)),
  (51, .inl (9, 1, .int, true)),
  (54, .inl (9, 0, .array .int, false)),
  (57, .inr (.inr (.inr (.inl (22, 4, 4))))),
  (61, .inl (2, 3, .int, true)),
  (64, .inl (2, 6, .int, true)),
  (67, .inl (2, 7, .int, true)),
  (70, .inl (4, 1, .array .int, false)),
  (73, .inl (4, 0, .array (.object "RuleArena$Rule"), false)),
  (77, .inl (7, 2, .int, true)),
  (80, .inr (.inr (.inr (.inl (31, 2, 5))))),
  (84, .inl (2, 5, .int, true)),
  (87, .inr (.inr (.inr (.inl (32, 2, 5))))),
  (90, .inr (.inr (.inr (.inl (53, 1, 7))))),
  (94, .inl (7, 1, .array (.object "RuleArena$Literal"), false)),
  (98, .inl (5, 0, .int, false)),
  (103, .inl (1, 5, .array .int, false)),
  (106, .inl (5, 1, .int, false)),
  (109, .inl (1, 6, .array .int, false)),
  (112, .inr (.inr (.inr (.inr (1, .long (100000)))))),
  (114, .inl (7, 0, .object "RuleArena$Literal", false)),
  (118, .inl (5, 2, .int, true)),
  (121, .inr (.inr (.inr (.inl (36, 1, 5))))),
  (125, .inl (5, 3, .int, true)),
  (128, .inl (5, 4, .int, true)),
  (131, .inl (5, 5, .boolean, true)),
  (134, .inr (.inr (.inr (.inl (33, 2, 5))))),
  (137, .inr (.inr (.inr (.inl (21, 4, 4))))),
  (141, .inr (.inr (.inr (.inl (34, 1, 5))))),
  (144, .inr (.inr (.inr (.inl (35, 1, 5))))),
  (147, .inl (1, 1, .array .int, false)),
  (149, .inl (7, 3, .int, true)),
  (152, .inr (.inr (.inr (.inl (37, 3, 5))))),
  (156, .inl (1, 2, .array .int, false)),
  (158, .inl (1, 3, .array .int, false)),
  (160, .inl (5, 6, .boolean, true)),
  (163, .inl (1, 4, .array .int, false)),
  (166, .inr (.inr (.inr (.inr (0, .int (2097151))))))]
def lkX3 (init : Bool) (K : Nat → Nat) : List (Nat × gm_L) := [(3, .inr (.inr (.inr (.inl (0, 0, 1))))),
  (9, .inr (.inl (2, [.null, .null, .int 0, .int 0, .null, .int 0, .int 0, .int 0]))),
  (11, .inr (.inr (.inr (.inl (26, 0, 1))))),
  (12, .inl (3, 1, .object "RuleArena$Follows", init)),
  (18, .inr (.inl (9, [.null, .int 0]))),
  (20, .inr (.inr (.inr (.inl (94, 1, 1))))),
  (23, .inl (3, 2, .object "RuleArena$Terms", init)),
  (27, .inl (3, 3, .object "RuleArena$Terms", init)),
  (30, .inl (3, 4, .object "RuleArena$Terms", init)),
  (33, .inl (3, 5, .object "RuleArena$Terms", init)),
  (38, .inl (3, 6, .object "RuleArena$Terms", init)),
  (41, .inl (3, 7, .object "RuleArena$Terms", init)),
  (44, .inl (3, 0, .object "RuleArena$Layers", true)),
  (48, .inr (.inr (.inr (.inl (96, 0, 12))))),
  (51, .inr (.inr (.inr (.inl (27, 1, 5))))),
  (55, .inr (.inr (.inr (.inl (28, 1, 5))))),
  (59, .inl (2, 0, .object "RuleArena$Facts", false)),
  (63, .inr (.inr (.inr (.inl (100, 2, 12))))),
  (67, .inr (.inr (.inr (.inl (97, 1, 12))))),
  (71, .inr (.inr (.inr (.inl (42, 0, 6))))),
  (74, .inr (.inr (.inr (.inl (41, 1, 6))))),
  (77, .inl (1, 6, .array .int, false)),
  (81, .inl (3, 8, .boolean, true)),
  (85, .inr (.inr (.inr (.inl (95, 1, 12))))),
  (89, .inr (.inr (.inr (.inl (101, 2, 12))))),
  (93, .inr (.inr (.inr (.inl (29, 4, 5))))),
  (97, .inr (.inr (.inr (.inl (44, 2, 6))))),
  (101, .inl (9, 1, .int, true)),
  (105, .inr (.inr (.inr (.inl (1, 2, 0))))),
  (111, .inl (1, 5, .array .int, false)),
  (114, .inl (1, 1, .array .int, false)),
  (117, .inl (1, 2, .array .int, false)),
  (120, .inl (1, 4, .array .int, false)),
  (125, .inr (.inr (.inr (.inr (0, .int (2097151))))))]
def lkX4 (init : Bool) (K : Nat → Nat) : List (Nat × gm_L) := [(3, .inr (.inr (.inr (.inl (0, 0, 1))))),
  (11, .inl (4, 0, .array (.object "RuleArena$Rule"), init)),
  (17, .inl (4, 1, .array .int, init)),
  (21, .inl (4, 2, .array .int, init)),
  (24, .inr (.inr (.inr (.inl (50, 3, 0))))),
  (28, .inl (8, 1, .int, true)),
  (34, .inl (8, 0, .array (.object "RuleArena$Rule"), false)),
  (37, .inr (.inr (.inr (.inl (76, 0, 10))))),
  (40, .inl (4, 3, .int, true)),
  (43, .inl (8, 3, .array .int, false)),
  (46, .inr (.inr (.inr (.inl (52, 2, 0))))),
  (50, .inr (.inr (.inr (.inl (51, 2, 0))))),
  (54, .inl (8, 2, .array .int, false)),
  (57, .inr (.inr (.inr (.inl (191, 1, 0))))),
  (63, .inl (8, 4, .array .int, false)),
  (100009, .inr (.inr (.inl (.object "RuleArena$Rule"))))]
def lkX5 (init : Bool) (K : Nat → Nat) : List (Nat × gm_L) := [(3, .inr (.inr (.inr (.inl (0, 0, 1))))),
  (9, .inl (5, 0, .int, init)),
  (15, .inl (5, 1, .int, init)),
  (18, .inl (5, 2, .int, true)),
  (21, .inl (5, 3, .int, true)),
  (24, .inl (5, 4, .int, true)),
  (27, .inr (.inr (.inr (.inr (0, .ref (K 1)))))),
  (29, .inr (.inr (.inr (.inl (4, 1, 2))))),
  (35, .inr (.inr (.inr (.inr (2, .ref (K 0)))))),
  (39, .inr (.inr (.inr (.inl (88, 1, 0))))),
  (45, .inr (.inr (.inr (.inl (91, 1, 0))))),
  (48, .inr (.inr (.inr (.inr (0, .int (2097151)))))),
  (49, .inr (.inr (.inr (.inl (92, 2, 0)))))]
def lkX6 (init : Bool) (K : Nat → Nat) : List (Nat × gm_L) := [(3, .inr (.inr (.inr (.inl (0, 0, 1))))),
  (9, .inl (6, 2, .array .int, init)),
  (15, .inl (6, 0, .array .char, true)),
  (19, .inl (6, 1, .int, true)),
  (23, .inr (.inl (8, [.null, .int 0, .null, .null, .null]))),
  (25, .inr (.inr (.inr (.inl (80, 0, 1))))),
  (26, .inr (.inr (.inr (.inl (64, 0, 9))))),
  (30, .inr (.inr (.inr (.inl (81, 1, 11))))),
  (34, .inr (.inl (5, [.int 0, .int 0, .int 0, .int 0, .int 0, .int 0, .int 0]))),
  (36, .inr (.inr (.inr (.inl (68, 1, 9))))),
  (40, .inr (.inl (7, [.null, .null, .int 0, .int 0]))),
  (42, .inr (.inr (.inr (.inl (70, 1, 1))))),
  (45, .inr (.inr (.inr (.inl (63, 1, 9))))),
  (49, .inr (.inr (.inr (.inl (65, 1, 9))))),
  (53, .inr (.inr (.inr (.inl (66, 0, 9))))),
  (57, .inr (.inr (.inr (.inl (71, 1, 10))))),
  (59, .inr (.inr (.inr (.inl (90, 1, 0))))),
  (65, .inr (.inr (.inr (.inl (88, 1, 0))))),
  (68, .inr (.inr (.inr (.inl (69, 0, 9))))),
  (72, .inr (.inr (.inr (.inl (67, 1, 9))))),
  (75, .inr (.inr (.inr (.inl (58, 0, 8))))),
  (78, .inr (.inr (.inr (.inl (54, 5, 1))))),
  (81, .inr (.inr (.inr (.inr (0, .ref (K 2)))))),
  (83, .inr (.inr (.inr (.inl (4, 1, 2))))),
  (89, .inr (.inr (.inr (.inr (2, .ref (K 0)))))),
  (92, .inr (.inr (.inr (.inl (192, 2, 0))))),
  (98, .inr (.inr (.inr (.inl (55, 2, 0)))))]
def lkX7 (init : Bool) (K : Nat → Nat) : List (Nat × gm_L) := [(3, .inr (.inr (.inr (.inl (0, 0, 1))))),
  (11, .inl (7, 1, .array (.object "RuleArena$Literal"), init)),
  (17, .inl (7, 0, .object "RuleArena$Literal", init)),
  (21, .inl (7, 2, .int, true)),
  (25, .inl (5, 1, .int, false)),
  (28, .inr (.inr (.inr (.inl (56, 0, 8))))),
  (32, .inl (5, 0, .int, false)),
  (37, .inr (.inr (.inr (.inl (57, 0, 8))))),
  (40, .inl (7, 3, .int, true)),
  (43, .inr (.inr (.inr (.inl (77, 3, 10))))),
  (47, .inl (5, 5, .boolean, true)),
  (51, .inl (5, 6, .boolean, true)),
  (54, .inr (.inr (.inr (.inl (59, 1, 8))))),
  (58, .inr (.inr (.inr (.inl (78, 3, 0))))),
  (62, .inl (5, 2, .int, true)),
  (65, .inr (.inr (.inr (.inl (79, 2, 0))))),
  (69, .inl (5, 3, .int, true)),
  (72, .inl (5, 4, .int, true)),
  (75, .inr (.inr (.inr (.inl (91, 1, 0))))),
  (78, .inr (.inr (.inr (.inr (0, .int (2097151)))))),
  (100009, .inr (.inr (.inl (.object "RuleArena$Literal"))))]
def lkX8 (init : Bool) (K : Nat → Nat) : List (Nat × gm_L) := [(3, .inr (.inr (.inr (.inl (0, 0, 1))))),
  (11, .inl (8, 0, .array (.object "RuleArena$Rule"), init)),
  (17, .inl (8, 2, .array .int, init)),
  (21, .inl (8, 3, .array .int, init)),
  (24, .inl (8, 4, .array .int, init)),
  (27, .inl (8, 1, .int, true)),
  (31, .inr (.inr (.inr (.inl (83, 1, 11))))),
  (35, .inl (7, 0, .object "RuleArena$Literal", false)),
  (39, .inl (5, 1, .int, false)),
  (44, .inr (.inr (.inr (.inl (75, 0, 10))))),
  (47, .inr (.inr (.inr (.inl (74, 1, 10))))),
  (51, .inr (.inr (.inr (.inl (85, 2, 11))))),
  (55, .inr (.inr (.inr (.inl (72, 0, 10))))),
  (59, .inr (.inr (.inr (.inl (73, 0, 10))))),
  (62, .inr (.inr (.inr (.inl (86, 1, 11))))),
  (65, .inr (.inr (.inr (.inl (87, 1, 11))))),
  (68, .inl (7, 2, .int, true)),
  (69, .inl (7, 1, .array (.object "RuleArena$Literal"), false)),
  (73, .inl (5, 0, .int, false)),
  (100009, .inr (.inr (.inl (.object "RuleArena$Rule"))))]
def lkX9 (init : Bool) (K : Nat → Nat) : List (Nat × gm_L) := [(11, .inr (.inr (.inr (.inl (89, 1, 0)))))]
def lkX10 (init : Bool) (K : Nat → Nat) : List (Nat × gm_L) := [(3, .inr (.inr (.inr (.inl (0, 0, 1))))),
  (9, .inl (9, 0, .array .int, init)),
  (15, .inl (9, 1, .int, true)),
  (19, .inr (.inr (.inr (.inl (1, 2, 0))))),
  (25, .inr (.inr (.inr (.inl (3, 5, 0))))),
  (31, .inl (1, 5, .array .int, false)),
  (36, .inl (1, 1, .array .int, false)),
  (39, .inr (.inr (.inr (.inl (99, 1, 12))))),
  (43, .inl (1, 4, .array .int, false)),
  (46, .inl (1, 2, .array .int, false))]
def lkX11 (init : Bool) (K : Nat → Nat) : List (Nat × gm_L) := [(3, .inr (.inr (.inr (.inl (0, 0, 1))))),
  (9, .inl (10, 0, .array .char, init)),
  (13, .inr (.inl (6, [.null, .int 0, .null]))),
  (15, .inr (.inr (.inr (.inl (60, 0, 1))))),
  (16, .inl (10, 4, .object "RuleArena$Reader", init)),
  (20, .inr (.inl (3, [.null, .null, .null, .null, .null, .null, .null, .null, .int 0]))),
  (22, .inr (.inr (.inr (.inl (38, 0, 1))))),
  (23, .inl (10, 5, .object "RuleArena$Game", init)),
  (27, .inr (.inl (0, [.null, .null, .null, .null, .int 0, .int 0, .int 0]))),
  (29, .inr (.inr (.inr (.inl (10, 0, 1))))),
  (30, .inl (10, 6, .object "RuleArena$Audit", init)),
  (34, .inl (10, 1, .int, true)),
  (38, .inl (10, 2, .int, true)),
  (41, .inl (10, 3, .int, true)),
  (44, .inr (.inr (.inr (.inl (62, 2, 9))))),
  (48, .inr (.inr (.inr (.inl (61, 0, 9))))),
  (52, .inr (.inr (.inl (.array (.object "java/lang/IllegalArgumentException"))))),
  (55, .inr (.inr (.inr (.inl (82, 0, 11))))),
  (60, .inr (.inr (.inr (.inl (84, 1, 11))))),
  (64, .inr (.inr (.inl (.array (.object "java/lang/UnsupportedOperationException"))))),
  (67, .inr (.inl (4, [.null, .null, .null, .int 0]))),
  (69, .inr (.inr (.inr (.inl (49, 1, 1))))),
  (72, .inr (.inr (.inr (.inl (40, 1, 6))))),
  (76, .inr (.inr (.inl (.array (.object "java/lang/IllegalStateException"))))),
  (79, .inr (.inr (.inr (.inl (11, 0, 3))))),
  (82, .inl (8, 1, .int, true)),
  (85, .inl (3, 2, .object "RuleArena$Terms", false)),
  (89, .inl (9, 1, .int, true)),
  (92, .inl (3, 4, .object "RuleArena$Terms", false)),
  (95, .inl (0, 4, .int, true)),
  (98, .inr (.inr (.inr (.inl (55, 2, 0))))),
  (104, .inr (.inr (.inr (.inl (39, 0, 6))))),
  (108, .inl (3, 1, .object "RuleArena$Follows", false)),
  (112, .inl (2, 0, .object "RuleArena$Facts", false)),
  (118, .inl (1, 6, .array .int, false)),
  (124, .inr (.inr (.inr (.inl (46, 1, 6))))),
  (128, .inr (.inr (.inr (.inl (47, 1, 6))))),
  (132, .inl (3, 8, .boolean, true)),
  (136, .inr (.inr (.inr (.inl (48, 1, 6))))),
  (139, .inr (.inr (.inr (.inl (95, 1, 12))))),
  (142, .inr (.inr (.inr (.inl (93, 2, 0))))),
  (148, .inr (.inr (.inl (.array (.object "java/lang/IndexOutOfBoundsException"))))),
  (151, .inr (.inr (.inr (.inl (45, 2, 6))))),
  (155, .inr (.inr (.inr (.inl (43, 0, 6))))),
  (158, .inr (.inr (.inr (.inl (12, 1, 3))))),
  (162, .inr (.inr (.inr (.inl (18, 1, 3))))),
  (166, .inr (.inr (.inl (.array (.object "java/util/NoSuchElementException"))))),
  (169, .inr (.inr (.inr (.inl (19, 1, 3)))))]
def lkX12 (init : Bool) (K : Nat → Nat) : List (Nat × gm_L) := [(1, .inr (.inr (.inr (.inl (0, 0, 1))))),
  (7, .inl (11, 1, .array .char, init)),
  (13, .inl (11, 3, .array .char, init)),
  (16, .inl (11, 8, .array .char, init)),
  (19, .inl (11, 12, .array .int, init)),
  (23, .inl (11, 13, .array .int, init)),
  (26, .inl (11, 14, .array .int, init)),
  (29, .inl (11, 15, .array .int, init)),
  (32, .inl (11, 16, .array .int, init)),
  (35, .inl (11, 17, .array .int, init)),
  (38, .inl (11, 18, .array .boolean, init)),
  (42, .inl (11, 19, .array .int, init)),
  (45, .inl (11, 21, .array .int, init)),
  (48, .inl (11, 22, .array .long, init)),
  (52, .inl (11, 25, .array .long, init)),
  (55, .inl (11, 26, .array .int, init)),
  (58, .inl (11, 27, .array .int, init)),
  (61, .inl (11, 29, .array .long, init)),
  (64, .inl (11, 31, .array .long, init)),
  (67, .inl (11, 33, .array .long, init)),
  (70, .inl (11, 35, .array .long, init)),
  (73, .inl (11, 37, .array .long, init)),
  (76, .inl (11, 39, .array .long, init)),
  (79, .inl (11, 40, .array .long, init)),
  (82, .inl (11, 44, .array .long, init)),
  (85, .inl (11, 45, .array .int, init)),
  (88, .inl (11, 46, .array .int, init)),
  (91, .inl (11, 47, .array .int, init)),
  (94, .inl (11, 48, .array .int, init)),
  (97, .inl (11, 49, .array .int, init)),
  (100, .inl (11, 0, .int, true)),
  (104, .inr (.inr (.inr (.inr (1, .long (255)))))),
  (106, .inl (11, 2, .int, true)),
  (109, .inl (11, 10, .int, true)),
  (112, .inl (11, 9, .int, true)),
  (115, .inr (.inr (.inr (.inl (124, 1, 0))))),
  (119, .inr (.inr (.inr (.inl (125, 1, 0))))),
  (122, .inr (.inr (.inr (.inl (123, 0, 14))))),
  (126, .inr (.inr (.inr (.inl (126, 1, 0))))),
  (129, .inr (.inr (.inr (.inl (128, 1, 14))))),
  (132, .inr (.inr (.inr (.inl (127, 1, 0))))),
  (136, .inr (.inr (.inr (.inl (129, 1, 14))))),
  (139, .inr (.inr (.inr (.inl (130, 1, 14))))),
  (142, .inr (.inr (.inr (.inl (131, 1, 14))))),
  (145, .inr (.inr (.inr (.inl (132, 1, 14))))),
  (148, .inl (11, 11, .int, true)),
  (151, .inr (.inr (.inr (.inl (133, 1, 14))))),
  (154, .inr (.inr (.inr (.inl (135, 2, 14))))),
  (158, .inr (.inr (.inr (.inl (136, 1, 14))))),
  (161, .inr (.inr (.inr (.inl (139, 1, 14))))),
  (165, .inl (11, 6, .int, true)),
  (168, .inl (11, 7, .int, true)),
  (171, .inr (.inr (.inr (.inl (134, 0, 14))))),
  (175, .inr (.inr (.inr (.inl (137, 1, 14))))),
  (178, .inr (.inr (.inr (.inl (138, 1, 14))))),
  (181, .inr (.inr (.inr (.inl (140, 1, 14))))),
  (184, .inr (.inr (.inr (.inl (141, 1, 14))))),
  (187, .inr (.inr (.inr (.inl (143, 0, 14))))),
  (190, .inl (11, 20, .int, true)),
  (193, .inl (11, 23, .boolean, true)),
  (197, .inr (.inr (.inr (.inl (144, 4, 14))))),
  (201, .inl (11, 28, .int, true)),
  (204, .inr (.inr (.inr (.inl (146, 1, 0))))),
  (208, .inr (.inr (.inr (.inl (148, 3, 14))))),
  (212, .inr (.inr (.inr (.inl (147, 2, 0))))),
  (216, .inr (.inr (.inr (.inl (149, 3, 14))))),
  (219, .inr (.inr (.inr (.inl (151, 1, 14))))),
  (223, .inr (.inr (.inr (.inr (1, .long (11258999068426240)))))),
  (225, .inr (.inr (.inr (.inl (152, 1, 14))))),
  (228, .inr (.inr (.inr (.inl (153, 2, 14))))),
  (232, .inr (.inr (.inr (.inl (155, 1, 14))))),
  (235, .inr (.inr (.inr (.inl (156, 1, 14))))),
  (238, .inr (.inr (.inr (.inr (1, .long (100000)))))),
  (240, .inr (.inr (.inr (.inl (154, 1, 14))))),
  (243, .inr (.inr (.inr (.inl (145, 4, 14))))),
  (247, .inr (.inr (.inr (.inl (150, 3, 14))))),
  (251, .inr (.inr (.inr (.inl (157, 1, 14))))),
  (254, .inl (11, 24, .boolean, true)),
  (257, .inr (.inr (.inr (.inl (159, 0, 14))))),
  (260, .inr (.inr (.inr (.inl (158, 0, 14))))),
  (263, .inl (11, 30, .int, true)),
  (266, .inr (.inr (.inr (.inl (160, 3, 14))))),
  (270, .inl (11, 38, .int, true)),
  (273, .inl (11, 34, .int, true)),
  (276, .inr (.inr (.inr (.inl (162, 3, 14))))),
  (280, .inr (.inr (.inr (.inl (163, 0, 14))))),
  (283, .inr (.inr (.inr (.inl (165, 2, 14))))),
  (287, .inr (.inr (.inr (.inl (142, 0, 14))))),
  (290, .inr (.inr (.inr (.inl (166, 0, 14))))),
  (292, .inl (11, 4, .int, true)),
  (295, .inl (11, 5, .boolean, true)),
  (298, .inl (11, 41, .boolean, true)),
  (301, .inl (11, 43, .int, true)),
  (304, .inl (11, 32, .int, true)),
  (307, .inr (.inr (.inr (.inl (168, 0, 14))))),
  (310, .inr (.inr (.inr (.inl (161, 0, 14))))),
  (313, .inl (11, 36, .int, true)),
  (316, .inr (.inr (.inr (.inl (170, 1, 14))))),
  (319, .inr (.inr (.inr (.inl (171, 1, 14))))),
  (322, .inr (.inr (.inr (.inl (172, 0, 14))))),
  (325, .inr (.inr (.inr (.inl (173, 1, 14))))),
  (328, .inr (.inr (.inr (.inl (120, 1, 14))))),
  (331, .inr (.inr (.inr (.inl (164, 5, 14))))),
  (335, .inr (.inr (.inr (.inl (182, 2, 14))))),
  (339, .inr (.inr (.inr (.inl (183, 2, 14))))),
  (343, .inr (.inr (.inr (.inl (184, 1, 14))))),
  (346, .inr (.inr (.inr (.inl (185, 0, 14))))),
  (349, .inr (.inr (.inr (.inl (186, 0, 14))))),
  (352, .inl (11, 42, .int, true)),
  (355, .inr (.inr (.inr (.inl (188, 0, 14)))))]
abbrev m10 (K : Nat → Nat) : gm_Mi := (RX0, yX0_init, cX0_init, 2, none, gm_I cX0_init, gm_lkf (lkX0 true K), true)
abbrev m11 (K : Nat → Nat) : gm_Mi := (RX0, yX0_forget, cX0_forget, 1, none, gm_I cX0_forget, gm_lkf (lkX0 false K), false)
abbrev m12 (K : Nat → Nat) : gm_Mi := (RX0, yX0_run, cX0_run, 6, (some .int), gm_I cX0_run, gm_lkf (lkX0 false K), false)
abbrev m13 (K : Nat → Nat) : gm_Mi := (RX0, yX0_judge, cX0_judge, 5, (some .int), gm_I cX0_judge, gm_lkf (lkX0 false K), false)
abbrev m14 (K : Nat → Nat) : gm_Mi := (RX0, yX0_note, cX0_note, 5, (some .boolean), gm_I cX0_note, gm_lkf (lkX0 false K), false)
abbrev m15 (K : Nat → Nat) : gm_Mi := (RX0, yX0_placeOf, cX0_placeOf, 3, (some .int), gm_I cX0_placeOf, gm_lkf (lkX0 false K), false)
abbrev m16 (K : Nat → Nat) : gm_Mi := (RX0, yX0_weigh, cX0_weigh, 4, (some .boolean), gm_I cX0_weigh, gm_lkf (lkX0 false K), false)
abbrev m17 (K : Nat → Nat) : gm_Mi := (RX0, yX0_valueBehind, cX0_valueBehind, 4, (some .int), gm_I cX0_valueBehind, gm_lkf (lkX0 false K), false)
abbrev m18 (K : Nat → Nat) : gm_Mi := (RX0, yX0_valueAt, cX0_valueAt, 3, (some .int), gm_I cX0_valueAt, gm_lkf (lkX0 false K), false)
abbrev m19 (K : Nat → Nat) : gm_Mi := (RX0, yX0_choiceAt, cX0_choiceAt, 6, (some .int), gm_I cX0_choiceAt, gm_lkf (lkX0 false K), false)
abbrev m20 (K : Nat → Nat) : gm_Mi := (RX1, yX1_init, cX1_init, 1, none, gm_I cX1_init, gm_lkf (lkX1 true K), true)
abbrev m21 (K : Nat → Nat) : gm_Mi := (RX1, yX1_find, cX1_find, 5, (some .int), gm_I cX1_find, gm_lkf (lkX1 false K), false)
abbrev m22 (K : Nat → Nat) : gm_Mi := (RX1, yX1_add, cX1_add, 6, none, gm_I cX1_add, gm_lkf (lkX1 false K), false)
abbrev m23 (K : Nat → Nat) : gm_Mi := (RX1, yX1_search, cX1_search, 7, (some .int), gm_I cX1_search, gm_lkf (lkX1 false K), false)
abbrev m24 (K : Nat → Nat) : gm_Mi := (RX1, yX1_slotOf, cX1_slotOf, 5, (some .int), gm_I cX1_slotOf, gm_lkf (lkX1 false K), false)
abbrev m25 (K : Nat → Nat) : gm_Mi := (RX1, yX1_cut, cX1_cut, 4, none, gm_I cX1_cut, gm_lkf (lkX1 false K), false)
abbrev m26 (K : Nat → Nat) : gm_Mi := (RX2, yX2_init, cX2_init, 1, none, gm_I cX2_init, gm_lkf (lkX2 true K), true)
abbrev m27 (K : Nat → Nat) : gm_Mi := (RX2, yX2_begin, cX2_begin, 3, (some .boolean), gm_I cX2_begin, gm_lkf (lkX2 false K), false)
abbrev m28 (K : Nat → Nat) : gm_Mi := (RX2, yX2_inState, cX2_inState, 3, (some .boolean), gm_I cX2_inState, gm_lkf (lkX2 false K), false)
abbrev m29 (K : Nat → Nat) : gm_Mi := (RX2, yX2_byMove, cX2_byMove, 6, (some .boolean), gm_I cX2_byMove, gm_lkf (lkX2 false K), false)
abbrev m30 (K : Nat → Nat) : gm_Mi := (RX2, yX2_close, cX2_close, 8, none, gm_I cX2_close, gm_lkf (lkX2 false K), false)
abbrev m31 (K : Nat → Nat) : gm_Mi := (RX2, yX2_isDue, cX2_isDue, 6, (some .boolean), gm_I cX2_isDue, gm_lkf (lkX2 false K), false)
abbrev m32 (K : Nat → Nat) : gm_Mi := (RX2, yX2_join, cX2_join, 5, (some .boolean), gm_I cX2_join, gm_lkf (lkX2 false K), false)
abbrev m33 (K : Nat → Nat) : gm_Mi := (RX2, yX2_joinEach, cX2_joinEach, 8, (some .boolean), gm_I cX2_joinEach, gm_lkf (lkX2 false K), false)
abbrev m34 (K : Nat → Nat) : gm_Mi := (RX2, yX2_lowest, cX2_lowest, 2, (some .int), gm_I cX2_lowest, gm_lkf (lkX2 false K), false)
abbrev m35 (K : Nat → Nat) : gm_Mi := (RX2, yX2_highest, cX2_highest, 2, (some .int), gm_I cX2_highest, gm_lkf (lkX2 false K), false)
abbrev m36 (K : Nat → Nat) : gm_Mi := (RX2, yX2_fill, cX2_fill, 6, (some .int), gm_I cX2_fill, gm_lkf (lkX2 false K), false)
abbrev m37 (K : Nat → Nat) : gm_Mi := (RX2, yX2_fits, cX2_fits, 9, (some .boolean), gm_I cX2_fits, gm_lkf (lkX2 false K), false)
abbrev m38 (K : Nat → Nat) : gm_Mi := (RX3, yX3_init, cX3_init, 1, none, gm_I cX3_init, gm_lkf (lkX3 true K), true)
abbrev m39 (K : Nat → Nat) : gm_Mi := (RX3, yX3_isIdle, cX3_isIdle, 1, (some .boolean), gm_I cX3_isIdle, gm_lkf (lkX3 false K), false)
abbrev m40 (K : Nat → Nat) : gm_Mi := (RX3, yX3_take, cX3_take, 2, (some .boolean), gm_I cX3_take, gm_lkf (lkX3 false K), false)
abbrev m41 (K : Nat → Nat) : gm_Mi := (RX3, yX3_look, cX3_look, 2, (some .boolean), gm_I cX3_look, gm_lkf (lkX3 false K), false)
abbrev m42 (K : Nat → Nat) : gm_Mi := (RX3, yX3_seeMoves, cX3_seeMoves, 1, none, gm_I cX3_seeMoves, gm_lkf (lkX3 false K), false)
abbrev m43 (K : Nat → Nat) : gm_Mi := (RX3, yX3_goBack, cX3_goBack, 1, none, gm_I cX3_goBack, gm_lkf (lkX3 false K), false)
abbrev m44 (K : Nat → Nat) : gm_Mi := (RX3, yX3_lead, cX3_lead, 3, (some .boolean), gm_I cX3_lead, gm_lkf (lkX3 false K), false)
abbrev m45 (K : Nat → Nat) : gm_Mi := (RX3, yX3_advance, cX3_advance, 3, (some .boolean), gm_I cX3_advance, gm_lkf (lkX3 false K), false)
abbrev m46 (K : Nat → Nat) : gm_Mi := (RX3, yX3_hasPlayer, cX3_hasPlayer, 2, (some .boolean), gm_I cX3_hasPlayer, gm_lkf (lkX3 false K), false)
abbrev m47 (K : Nat → Nat) : gm_Mi := (RX3, yX3_movesOf, cX3_movesOf, 2, (some (.object "RuleArena$Terms")), gm_I cX3_movesOf, gm_lkf (lkX3 false K), false)
abbrev m48 (K : Nat → Nat) : gm_Mi := (RX3, yX3_goalOf, cX3_goalOf, 5, (some .int), gm_I cX3_goalOf, gm_lkf (lkX3 false K), false)
abbrev m49 (K : Nat → Nat) : gm_Mi := (RX4, yX4_init, cX4_init, 8, none, gm_I cX4_init, gm_lkf (lkX4 true K), true)
abbrev m50 (K : Nat → Nat) : gm_Mi := (RX4, yX4_sort, cX4_sort, 7, none, gm_I cX4_sort, gm_lkf (lkX4 false K), false)
abbrev m51 (K : Nat → Nat) : gm_Mi := (RX4, yX4_keyOf, cX4_keyOf, 3, (some .long), gm_I cX4_keyOf, gm_lkf (lkX4 false K), false)
abbrev m52 (K : Nat → Nat) : gm_Mi := (RX4, yX4_stageOf, cX4_stageOf, 2, (some .int), gm_I cX4_stageOf, gm_lkf (lkX4 false K), false)
abbrev m53 (K : Nat → Nat) : gm_Mi := (RX4, yX4_isRecursive, cX4_isRecursive, 2, (some .boolean), gm_I cX4_isRecursive, gm_lkf (lkX4 false K), false)
abbrev m54 (K : Nat → Nat) : gm_Mi := (RX5, yX5_init, cX5_init, 6, none, gm_I cX5_init, gm_lkf (lkX5 true K), true)
abbrev m55 (K : Nat → Nat) : gm_Mi := (RX5, yX5_relationOf, cX5_relationOf, 3, (some .int), gm_I cX5_relationOf, gm_lkf (lkX5 false K), false)
abbrev m56 (K : Nat → Nat) : gm_Mi := (RX5, yX5_variables, cX5_variables, 1, (some .int), gm_I cX5_variables, gm_lkf (lkX5 false K), false)
abbrev m57 (K : Nat → Nat) : gm_Mi := (RX5, yX5_partVariables, cX5_partVariables, 1, (some .int), gm_I cX5_partVariables, gm_lkf (lkX5 false K), false)
abbrev m58 (K : Nat → Nat) : gm_Mi := (RX5, yX5_asTerm, cX5_asTerm, 2, (some .int), gm_I cX5_asTerm, gm_lkf (lkX5 false K), false)
abbrev m59 (K : Nat → Nat) : gm_Mi := (RX5, yX5_plan, cX5_plan, 4, none, gm_I cX5_plan, gm_lkf (lkX5 false K), false)
abbrev m60 (K : Nat → Nat) : gm_Mi := (RX6, yX6_init, cX6_init, 1, none, gm_I cX6_init, gm_lkf (lkX6 true K), true)
abbrev m61 (K : Nat → Nat) : gm_Mi := (RX6, yX6_place, cX6_place, 1, (some .int), gm_I cX6_place, gm_lkf (lkX6 false K), false)
abbrev m62 (K : Nat → Nat) : gm_Mi := (RX6, yX6_read, cX6_read, 6, (some (.object "RuleArena$Rules")), gm_I cX6_read, gm_lkf (lkX6 false K), false)
abbrev m63 (K : Nat → Nat) : gm_Mi := (RX6, yX6_take, cX6_take, 2, (some .boolean), gm_I cX6_take, gm_lkf (lkX6 false K), false)
abbrev m64 (K : Nat → Nat) : gm_Mi := (RX6, yX6_readRule, cX6_readRule, 3, (some (.object "RuleArena$Rule")), gm_I cX6_readRule, gm_lkf (lkX6 false K), false)
abbrev m65 (K : Nat → Nat) : gm_Mi := (RX6, yX6_readBody, cX6_readBody, 4, (some .boolean), gm_I cX6_readBody, gm_lkf (lkX6 false K), false)
abbrev m66 (K : Nat → Nat) : gm_Mi := (RX6, yX6_readLiteral, cX6_readLiteral, 2, (some (.object "RuleArena$Literal")), gm_I cX6_readLiteral, gm_lkf (lkX6 false K), false)
abbrev m67 (K : Nat → Nat) : gm_Mi := (RX6, yX6_readUnlike, cX6_readUnlike, 3, (some (.object "RuleArena$Literal")), gm_I cX6_readUnlike, gm_lkf (lkX6 false K), false)
abbrev m68 (K : Nat → Nat) : gm_Mi := (RX6, yX6_readAtom, cX6_readAtom, 7, (some (.object "RuleArena$Literal")), gm_I cX6_readAtom, gm_lkf (lkX6 false K), false)
abbrev m69 (K : Nat → Nat) : gm_Mi := (RX6, yX6_readTerm, cX6_readTerm, 4, (some .int), gm_I cX6_readTerm, gm_lkf (lkX6 false K), false)
abbrev m70 (K : Nat → Nat) : gm_Mi := (RX7, yX7_init, cX7_init, 2, none, gm_I cX7_init, gm_lkf (lkX7 true K), true)
abbrev m71 (K : Nat → Nat) : gm_Mi := (RX7, yX7_append, cX7_append, 2, none, gm_I cX7_append, gm_lkf (lkX7 false K), false)
abbrev m72 (K : Nat → Nat) : gm_Mi := (RX7, yX7_isMisplaced, cX7_isMisplaced, 2, (some .boolean), gm_I cX7_isMisplaced, gm_lkf (lkX7 false K), false)
abbrev m73 (K : Nat → Nat) : gm_Mi := (RX7, yX7_isLoose, cX7_isLoose, 4, (some .boolean), gm_I cX7_isLoose, gm_lkf (lkX7 false K), false)
abbrev m74 (K : Nat → Nat) : gm_Mi := (RX7, yX7_asks, cX7_asks, 3, (some .boolean), gm_I cX7_asks, gm_lkf (lkX7 false K), false)
abbrev m75 (K : Nat → Nat) : gm_Mi := (RX7, yX7_keywords, cX7_keywords, 4, (some .int), gm_I cX7_keywords, gm_lkf (lkX7 false K), false)
abbrev m76 (K : Nat → Nat) : gm_Mi := (RX7, yX7_plan, cX7_plan, 6, none, gm_I cX7_plan, gm_lkf (lkX7 false K), false)
abbrev m77 (K : Nat → Nat) : gm_Mi := (RX7, yX7_bring, cX7_bring, 8, (some (.object "RuleArena$Literal")), gm_I cX7_bring, gm_lkf (lkX7 false K), false)
abbrev m78 (K : Nat → Nat) : gm_Mi := (RX7, yX7_meritOf, cX7_meritOf, 5, (some .int), gm_I cX7_meritOf, gm_lkf (lkX7 false K), false)
abbrev m79 (K : Nat → Nat) : gm_Mi := (RX7, yX7_termMerit, cX7_termMerit, 2, (some .int), gm_I cX7_termMerit, gm_lkf (lkX7 false K), false)
abbrev m80 (K : Nat → Nat) : gm_Mi := (RX8, yX8_init, cX8_init, 1, none, gm_I cX8_init, gm_lkf (lkX8 true K), true)
abbrev m81 (K : Nat → Nat) : gm_Mi := (RX8, yX8_append, cX8_append, 2, none, gm_I cX8_append, gm_lkf (lkX8 false K), false)
abbrev m82 (K : Nat → Nat) : gm_Mi := (RX8, yX8_trace, cX8_trace, 4, none, gm_I cX8_trace, gm_lkf (lkX8 false K), false)
abbrev m83 (K : Nat → Nat) : gm_Mi := (RX8, yX8_headsIn, cX8_headsIn, 4, (some .int), gm_I cX8_headsIn, gm_lkf (lkX8 false K), false)
abbrev m84 (K : Nat → Nat) : gm_Mi := (RX8, yX8_placeOf, cX8_placeOf, 3, (some .int), gm_I cX8_placeOf, gm_lkf (lkX8 false K), false)
abbrev m85 (K : Nat → Nat) : gm_Mi := (RX8, yX8_hasFault, cX8_hasFault, 3, (some .boolean), gm_I cX8_hasFault, gm_lkf (lkX8 false K), false)
abbrev m86 (K : Nat → Nat) : gm_Mi := (RX8, yX8_deniesItself, cX8_deniesItself, 5, (some .boolean), gm_I cX8_deniesItself, gm_lkf (lkX8 false K), false)
abbrev m87 (K : Nat → Nat) : gm_Mi := (RX8, yX8_looksAhead, cX8_looksAhead, 2, (some .boolean), gm_I cX8_looksAhead, gm_lkf (lkX8 false K), false)
abbrev m88 (K : Nat → Nat) : gm_Mi := (RX9, yX9_isLetter, cX9_isLetter, 1, (some .boolean), gm_I cX9_isLetter, gm_lkf (lkX9 false K), false)
abbrev m89 (K : Nat → Nat) : gm_Mi := (RX9, yX9_isVariable, cX9_isVariable, 1, (some .boolean), gm_I cX9_isVariable, gm_lkf (lkX9 false K), false)
abbrev m90 (K : Nat → Nat) : gm_Mi := (RX9, yX9_isPlain, cX9_isPlain, 1, (some .boolean), gm_I cX9_isPlain, gm_lkf (lkX9 false K), false)
abbrev m91 (K : Nat → Nat) : gm_Mi := (RX9, yX9_variables, cX9_variables, 4, (some .int), gm_I cX9_variables, gm_lkf (lkX9 false K), false)
abbrev m92 (K : Nat → Nat) : gm_Mi := (RX9, yX9_plan, cX9_plan, 8, (some .int), gm_I cX9_plan, gm_lkf (lkX9 false K), false)
abbrev m93 (K : Nat → Nat) : gm_Mi := (RX9, yX9_character, cX9_character, 4, (some .int), gm_I cX9_character, gm_lkf (lkX9 false K), false)
abbrev m94 (K : Nat → Nat) : gm_Mi := (RX10, yX10_init, cX10_init, 2, none, gm_I cX10_init, gm_lkf (lkX10 true K), true)
abbrev m95 (K : Nat → Nat) : gm_Mi := (RX10, yX10_at, cX10_at, 2, (some .int), gm_I cX10_at, gm_lkf (lkX10 false K), false)
abbrev m96 (K : Nat → Nat) : gm_Mi := (RX10, yX10_clear, cX10_clear, 1, none, gm_I cX10_clear, gm_lkf (lkX10 false K), false)
abbrev m97 (K : Nat → Nat) : gm_Mi := (RX10, yX10_copy, cX10_copy, 2, none, gm_I cX10_copy, gm_lkf (lkX10 false K), false)
abbrev m98 (K : Nat → Nat) : gm_Mi := (RX10, yX10_isSame, cX10_isSame, 3, (some .boolean), gm_I cX10_isSame, gm_lkf (lkX10 false K), false)
abbrev m99 (K : Nat → Nat) : gm_Mi := (RX10, yX10_insert, cX10_insert, 5, (some .boolean), gm_I cX10_insert, gm_lkf (lkX10 false K), false)
abbrev m100 (K : Nat → Nat) : gm_Mi := (RX10, yX10_collect, cX10_collect, 4, (some .boolean), gm_I cX10_collect, gm_lkf (lkX10 false K), false)
abbrev m101 (K : Nat → Nat) : gm_Mi := (RX10, yX10_collectMoves, cX10_collectMoves, 4, none, gm_I cX10_collectMoves, gm_lkf (lkX10 false K), false)
abbrev m102 (K : Nat → Nat) : gm_Mi := (RX11, yX11_init, cX11_init, 1, none, gm_I cX11_init, gm_lkf (lkX11 true K), true)
abbrev m103 (K : Nat → Nat) : gm_Mi := (RX11, yX11_write, cX11_write, 6, (some .boolean), gm_I cX11_write, gm_lkf (lkX11 false K), false)
abbrev m104 (K : Nat → Nat) : gm_Mi := (RX11, yX11_wipe, cX11_wipe, 1, none, gm_I cX11_wipe, gm_lkf (lkX11 false K), false)
abbrev m105 (K : Nat → Nat) : gm_Mi := (RX11, yX11_load, cX11_load, 5, (some .int), gm_I cX11_load, gm_lkf (lkX11 false K), false)
abbrev m106 (K : Nat → Nat) : gm_Mi := (RX11, yX11_fault, cX11_fault, 2, (some .int), gm_I cX11_fault, gm_lkf (lkX11 false K), false)
abbrev m107 (K : Nat → Nat) : gm_Mi := (RX11, yX11_many, cX11_many, 2, (some .int), gm_I cX11_many, gm_lkf (lkX11 false K), false)
abbrev m108 (K : Nat → Nat) : gm_Mi := (RX11, yX11_facts, cX11_facts, 4, (some .int), gm_I cX11_facts, gm_lkf (lkX11 false K), false)
abbrev m109 (K : Nat → Nat) : gm_Mi := (RX11, yX11_moves, cX11_moves, 2, (some .int), gm_I cX11_moves, gm_lkf (lkX11 false K), false)
abbrev m110 (K : Nat → Nat) : gm_Mi := (RX11, yX11_over, cX11_over, 1, (some .int), gm_I cX11_over, gm_lkf (lkX11 false K), false)
abbrev m111 (K : Nat → Nat) : gm_Mi := (RX11, yX11_goal, cX11_goal, 2, (some .int), gm_I cX11_goal, gm_lkf (lkX11 false K), false)
abbrev m112 (K : Nat → Nat) : gm_Mi := (RX11, yX11_letter, cX11_letter, 4, (some .int), gm_I cX11_letter, gm_lkf (lkX11 false K), false)
abbrev m113 (K : Nat → Nat) : gm_Mi := (RX11, yX11_play, cX11_play, 3, (some .int), gm_I cX11_play, gm_lkf (lkX11 false K), false)
abbrev m114 (K : Nat → Nat) : gm_Mi := (RX11, yX11_restart, cX11_restart, 1, (some .boolean), gm_I cX11_restart, gm_lkf (lkX11 false K), false)
abbrev m115 (K : Nat → Nat) : gm_Mi := (RX11, yX11_audit, cX11_audit, 1, (some .int), gm_I cX11_audit, gm_lkf (lkX11 false K), false)
abbrev m116 (K : Nat → Nat) : gm_Mi := (RX11, yX11_worth, cX11_worth, 1, (some .int), gm_I cX11_worth, gm_lkf (lkX11 false K), false)
abbrev m117 (K : Nat → Nat) : gm_Mi := (RX11, yX11_best, cX11_best, 1, (some .int), gm_I cX11_best, gm_lkf (lkX11 false K), false)
abbrev m118 (K : Nat → Nat) : gm_Mi := (RX12, yX12_init, cX12_init, 1, none, gm_I cX12_init, gm_lkf (lkX12 true K), true)
abbrev m119 (K : Nat → Nat) : gm_Mi := (RX12, yX12_thrown, cX12_thrown, 1, (some .int), gm_I cX12_thrown, gm_lkf (lkX12 false K), false)
abbrev m120 (K : Nat → Nat) : gm_Mi := (RX12, yX12_fail, cX12_fail, 2, (some .int), gm_I cX12_fail, gm_lkf (lkX12 false K), false)
abbrev m121 (K : Nat → Nat) : gm_Mi := (RX12, yX12_write, cX12_write, 6, (some .boolean), gm_I cX12_write, gm_lkf (lkX12 false K), false)
abbrev m122 (K : Nat → Nat) : gm_Mi := (RX12, yX12_wipe, cX12_wipe, 1, none, gm_I cX12_wipe, gm_lkf (lkX12 false K), false)
abbrev m123 (K : Nat → Nat) : gm_Mi := (RX12, yX12_here, cX12_here, 1, (some .int), gm_I cX12_here, gm_lkf (lkX12 false K), false)
abbrev m124 (K : Nat → Nat) : gm_Mi := (RX12, yX12_isLetter, cX12_isLetter, 1, (some .boolean), gm_I cX12_isLetter, gm_lkf (lkX12 false K), false)
abbrev m125 (K : Nat → Nat) : gm_Mi := (RX12, yX12_isVariable, cX12_isVariable, 1, (some .boolean), gm_I cX12_isVariable, gm_lkf (lkX12 false K), false)
abbrev m126 (K : Nat → Nat) : gm_Mi := (RX12, yX12_isPlain, cX12_isPlain, 1, (some .boolean), gm_I cX12_isPlain, gm_lkf (lkX12 false K), false)
abbrev m127 (K : Nat → Nat) : gm_Mi := (RX12, yX12_terms, cX12_terms, 1, (some .int), gm_I cX12_terms, gm_lkf (lkX12 false K), false)
abbrev m128 (K : Nat → Nat) : gm_Mi := (RX12, yX12_takes, cX12_takes, 2, (some .boolean), gm_I cX12_takes, gm_lkf (lkX12 false K), false)
abbrev m129 (K : Nat → Nat) : gm_Mi := (RX12, yX12_term, cX12_term, 4, (some .boolean), gm_I cX12_term, gm_lkf (lkX12 false K), false)
abbrev m130 (K : Nat → Nat) : gm_Mi := (RX12, yX12_atom, cX12_atom, 5, (some .boolean), gm_I cX12_atom, gm_lkf (lkX12 false K), false)
abbrev m131 (K : Nat → Nat) : gm_Mi := (RX12, yX12_becomesTerm, cX12_becomesTerm, 5, (some .boolean), gm_I cX12_becomesTerm, gm_lkf (lkX12 false K), false)
abbrev m132 (K : Nat → Nat) : gm_Mi := (RX12, yX12_literal, cX12_literal, 3, (some .boolean), gm_I cX12_literal, gm_lkf (lkX12 false K), false)
abbrev m133 (K : Nat → Nat) : gm_Mi := (RX12, yX12_rule, cX12_rule, 3, (some .boolean), gm_I cX12_rule, gm_lkf (lkX12 false K), false)
abbrev m134 (K : Nat → Nat) : gm_Mi := (RX12, yX12_read, cX12_read, 1, (some .boolean), gm_I cX12_read, gm_lkf (lkX12 false K), false)
abbrev m135 (K : Nat → Nat) : gm_Mi := (RX12, yX12_bits, cX12_bits, 6, (some .int), gm_I cX12_bits, gm_lkf (lkX12 false K), false)
abbrev m136 (K : Nat → Nat) : gm_Mi := (RX12, yX12_variables, cX12_variables, 2, (some .int), gm_I cX12_variables, gm_lkf (lkX12 false K), false)
abbrev m137 (K : Nat → Nat) : gm_Mi := (RX12, yX12_isHeadWrong, cX12_isHeadWrong, 5, (some .boolean), gm_I cX12_isHeadWrong, gm_lkf (lkX12 false K), false)
abbrev m138 (K : Nat → Nat) : gm_Mi := (RX12, yX12_isLoose, cX12_isLoose, 5, (some .boolean), gm_I cX12_isLoose, gm_lkf (lkX12 false K), false)
abbrev m139 (K : Nat → Nat) : gm_Mi := (RX12, yX12_depends, cX12_depends, 6, none, gm_I cX12_depends, gm_lkf (lkX12 false K), false)
abbrev m140 (K : Nat → Nat) : gm_Mi := (RX12, yX12_isCircular, cX12_isCircular, 5, (some .boolean), gm_I cX12_isCircular, gm_lkf (lkX12 false K), false)
abbrev m141 (K : Nat → Nat) : gm_Mi := (RX12, yX12_isMixed, cX12_isMixed, 4, (some .boolean), gm_I cX12_isMixed, gm_lkf (lkX12 false K), false)
abbrev m142 (K : Nat → Nat) : gm_Mi := (RX12, yX12_isWell, cX12_isWell, 3, (some .boolean), gm_I cX12_isWell, gm_lkf (lkX12 false K), false)
abbrev m143 (K : Nat → Nat) : gm_Mi := (RX12, yX12_layers, cX12_layers, 6, none, gm_I cX12_layers, gm_lkf (lkX12 false K), false)
abbrev m144 (K : Nat → Nat) : gm_Mi := (RX12, yX12_holds, cX12_holds, 9, (some .boolean), gm_I cX12_holds, gm_lkf (lkX12 false K), false)
abbrev m145 (K : Nat → Nat) : gm_Mi := (RX12, yX12_add, cX12_add, 8, none, gm_I cX12_add, gm_lkf (lkX12 false K), false)
abbrev m146 (K : Nat → Nat) : gm_Mi := (RX12, yX12_isConstant, cX12_isConstant, 2, (some .boolean), gm_I cX12_isConstant, gm_lkf (lkX12 false K), false)
abbrev m147 (K : Nat → Nat) : gm_Mi := (RX12, yX12_letterOf, cX12_letterOf, 3, (some .int), gm_I cX12_letterOf, gm_lkf (lkX12 false K), false)
abbrev m148 (K : Nat → Nat) : gm_Mi := (RX12, yX12_meets, cX12_meets, 6, (some .boolean), gm_I cX12_meets, gm_lkf (lkX12 false K), false)
abbrev m149 (K : Nat → Nat) : gm_Mi := (RX12, yX12_meetsTerm, cX12_meetsTerm, 7, (some .boolean), gm_I cX12_meetsTerm, gm_lkf (lkX12 false K), false)
abbrev m150 (K : Nat → Nat) : gm_Mi := (RX12, yX12_meetsFact, cX12_meetsFact, 5, (some .boolean), gm_I cX12_meetsFact, gm_lkf (lkX12 false K), false)
abbrev m151 (K : Nat → Nat) : gm_Mi := (RX12, yX12_valueOf, cX12_valueOf, 2, (some .long), gm_I cX12_valueOf, gm_lkf (lkX12 false K), false)
abbrev m152 (K : Nat → Nat) : gm_Mi := (RX12, yX12_made, cX12_made, 5, (some .long), gm_I cX12_made, gm_lkf (lkX12 false K), false)
abbrev m153 (K : Nat → Nat) : gm_Mi := (RX12, yX12_part, cX12_part, 3, (some .long), gm_I cX12_part, gm_lkf (lkX12 false K), false)
abbrev m154 (K : Nat → Nat) : gm_Mi := (RX12, yX12_agrees, cX12_agrees, 3, (some .boolean), gm_I cX12_agrees, gm_lkf (lkX12 false K), false)
abbrev m155 (K : Nat → Nat) : gm_Mi := (RX12, yX12_held, cX12_held, 6, (some .int), gm_I cX12_held, gm_lkf (lkX12 false K), false)
abbrev m156 (K : Nat → Nat) : gm_Mi := (RX12, yX12_ways, cX12_ways, 8, (some .long), gm_I cX12_ways, gm_lkf (lkX12 false K), false)
abbrev m157 (K : Nat → Nat) : gm_Mi := (RX12, yX12_apply, cX12_apply, 6, none, gm_I cX12_apply, gm_lkf (lkX12 false K), false)
abbrev m158 (K : Nat → Nat) : gm_Mi := (RX12, yX12_follow, cX12_follow, 5, none, gm_I cX12_follow, gm_lkf (lkX12 false K), false)
abbrev m159 (K : Nat → Nat) : gm_Mi := (RX12, yX12_nothing, cX12_nothing, 1, none, gm_I cX12_nothing, gm_lkf (lkX12 false K), false)
abbrev m160 (K : Nat → Nat) : gm_Mi := (RX12, yX12_inState, cX12_inState, 5, none, gm_I cX12_inState, gm_lkf (lkX12 false K), false)
abbrev m161 (K : Nat → Nat) : gm_Mi := (RX12, yX12_look, cX12_look, 1, none, gm_I cX12_look, gm_lkf (lkX12 false K), false)
abbrev m162 (K : Nat → Nat) : gm_Mi := (RX12, yX12_collect, cX12_collect, 9, none, gm_I cX12_collect, gm_lkf (lkX12 false K), false)
abbrev m163 (K : Nat → Nat) : gm_Mi := (RX12, yX12_isState, cX12_isState, 2, (some .boolean), gm_I cX12_isState, gm_lkf (lkX12 false K), false)
abbrev m164 (K : Nat → Nat) : gm_Mi := (RX12, yX12_leadsOn, cX12_leadsOn, 9, (some .boolean), gm_I cX12_leadsOn, gm_lkf (lkX12 false K), false)
abbrev m165 (K : Nat → Nat) : gm_Mi := (RX12, yX12_fetch, cX12_fetch, 4, none, gm_I cX12_fetch, gm_lkf (lkX12 false K), false)
abbrev m166 (K : Nat → Nat) : gm_Mi := (RX12, yX12_begins, cX12_begins, 1, (some .boolean), gm_I cX12_begins, gm_lkf (lkX12 false K), false)
abbrev m167 (K : Nat → Nat) : gm_Mi := (RX12, yX12_load, cX12_load, 4, (some .int), gm_I cX12_load, gm_lkf (lkX12 false K), false)
abbrev m168 (K : Nat → Nat) : gm_Mi := (RX12, yX12_begin, cX12_begin, 2, none, gm_I cX12_begin, gm_lkf (lkX12 false K), false)
abbrev m169 (K : Nat → Nat) : gm_Mi := (RX12, yX12_fault, cX12_fault, 2, (some .int), gm_I cX12_fault, gm_lkf (lkX12 false K), false)
abbrev m170 (K : Nat → Nat) : gm_Mi := (RX12, yX12_isPlayer, cX12_isPlayer, 2, (some .boolean), gm_I cX12_isPlayer, gm_lkf (lkX12 false K), false)
abbrev m171 (K : Nat → Nat) : gm_Mi := (RX12, yX12_legal, cX12_legal, 2, none, gm_I cX12_legal, gm_lkf (lkX12 false K), false)
abbrev m172 (K : Nat → Nat) : gm_Mi := (RX12, yX12_isEnd, cX12_isEnd, 1, (some .boolean), gm_I cX12_isEnd, gm_lkf (lkX12 false K), false)
abbrev m173 (K : Nat → Nat) : gm_Mi := (RX12, yX12_goalOf, cX12_goalOf, 3, (some .int), gm_I cX12_goalOf, gm_lkf (lkX12 false K), false)
abbrev m174 (K : Nat → Nat) : gm_Mi := (RX12, yX12_many, cX12_many, 2, (some .int), gm_I cX12_many, gm_lkf (lkX12 false K), false)
abbrev m175 (K : Nat → Nat) : gm_Mi := (RX12, yX12_facts, cX12_facts, 6, (some .int), gm_I cX12_facts, gm_lkf (lkX12 false K), false)
abbrev m176 (K : Nat → Nat) : gm_Mi := (RX12, yX12_moves, cX12_moves, 2, (some .int), gm_I cX12_moves, gm_lkf (lkX12 false K), false)
abbrev m177 (K : Nat → Nat) : gm_Mi := (RX12, yX12_over, cX12_over, 1, (some .int), gm_I cX12_over, gm_lkf (lkX12 false K), false)
abbrev m178 (K : Nat → Nat) : gm_Mi := (RX12, yX12_goal, cX12_goal, 2, (some .int), gm_I cX12_goal, gm_lkf (lkX12 false K), false)
abbrev m179 (K : Nat → Nat) : gm_Mi := (RX12, yX12_letter, cX12_letter, 6, (some .int), gm_I cX12_letter, gm_lkf (lkX12 false K), false)
abbrev m180 (K : Nat → Nat) : gm_Mi := (RX12, yX12_play, cX12_play, 7, (some .int), gm_I cX12_play, gm_lkf (lkX12 false K), false)
abbrev m181 (K : Nat → Nat) : gm_Mi := (RX12, yX12_restart, cX12_restart, 1, (some .boolean), gm_I cX12_restart, gm_lkf (lkX12 false K), false)
abbrev m182 (K : Nat → Nat) : gm_Mi := (RX12, yX12_find, cX12_find, 6, (some .int), gm_I cX12_find, gm_lkf (lkX12 false K), false)
abbrev m183 (K : Nat → Nat) : gm_Mi := (RX12, yX12_comes, cX12_comes, 4, none, gm_I cX12_comes, gm_lkf (lkX12 false K), false)
abbrev m184 (K : Nat → Nat) : gm_Mi := (RX12, yX12_looksAt, cX12_looksAt, 6, (some .int), gm_I cX12_looksAt, gm_lkf (lkX12 false K), false)
abbrev m185 (K : Nat → Nat) : gm_Mi := (RX12, yX12_weighs, cX12_weighs, 8, (some .boolean), gm_I cX12_weighs, gm_lkf (lkX12 false K), false)
abbrev m186 (K : Nat → Nat) : gm_Mi := (RX12, yX12_examine, cX12_examine, 3, (some .int), gm_I cX12_examine, gm_lkf (lkX12 false K), false)
abbrev m187 (K : Nat → Nat) : gm_Mi := (RX12, yX12_audit, cX12_audit, 1, (some .int), gm_I cX12_audit, gm_lkf (lkX12 false K), false)
abbrev m188 (K : Nat → Nat) : gm_Mi := (RX12, yX12_refuses, cX12_refuses, 1, (some .int), gm_I cX12_refuses, gm_lkf (lkX12 false K), false)
abbrev m189 (K : Nat → Nat) : gm_Mi := (RX12, yX12_worth, cX12_worth, 1, (some .int), gm_I cX12_worth, gm_lkf (lkX12 false K), false)
abbrev m190 (K : Nat → Nat) : gm_Mi := (RX12, yX12_best, cX12_best, 4, (some .int), gm_I cX12_best, gm_lkf (lkX12 false K), false)
abbrev m191 (K : Nat → Nat) : gm_Mi := (RJ6, yJ6_bitCount_0f7a4, cJ6_bitCount_0f7a4, 1, (some .int), gm_I cJ6_bitCount_0f7a4, gm_lkf (lkJ6 false K), false)
abbrev m192 (K : Nat → Nat) : gm_Mi := (RJ7, yJ7_fill_53178, cJ7_fill_53178, 4, none, gm_I cJ7_fill_53178, fun _ => none, false)
def ra_mt (K : Nat → Nat) (mi : Nat) : Option gm_Mi := match mi with
  | 10 => some (m10 K)
  | 11 => some (m11 K)
  | 12 => some (m12 K)
  | 13 => some (m13 K)
  | 14 => some (m14 K)
  | 15 => some (m15 K)
  | 16 => some (m16 K)
  | 17 => some (m17 K)
  | 18 => some (m18 K)
  | 19 => some (m19 K)
  | 20 => some (m20 K)
  | 21 => some (m21 K)
  | 22 => some (m22 K)
  | 23 => some (m23 K)
  | 24 => some (m24 K)
  | 25 => some (m25 K)
  | 26 => some (m26 K)
  | 27 => some (m27 K)
  | 28 => some (m28 K)
  | 29 => some (m29 K)
  | 30 => some (m30 K)
  | 31 => some (m31 K)
  | 32 => some (m32 K)
  | 33 => some (m33 K)
  | 34 => some (m34 K)
  | 35 => some (m35 K)
  | 36 => some (m36 K)
  | 37 => some (m37 K)
  | 38 => some (m38 K)
  | 39 => some (m39 K)
  | 40 => some (m40 K)
  | 41 => some (m41 K)
  | 42 => some (m42 K)
  | 43 => some (m43 K)
  | 44 => some (m44 K)
  | 45 => some (m45 K)
  | 46 => some (m46 K)
  | 47 => some (m47 K)
  | 48 => some (m48 K)
  | 49 => some (m49 K)
  | 50 => some (m50 K)
  | 51 => some (m51 K)
  | 52 => some (m52 K)
  | 53 => some (m53 K)
  | 54 => some (m54 K)
  | 55 => some (m55 K)
  | 56 => some (m56 K)
  | 57 => some (m57 K)
  | 58 => some (m58 K)
  | 59 => some (m59 K)
  | 60 => some (m60 K)
  | 61 => some (m61 K)
  | 62 => some (m62 K)
  | 63 => some (m63 K)
  | 64 => some (m64 K)
  | 65 => some (m65 K)
  | 66 => some (m66 K)
  | 67 => some (m67 K)
  | 68 => some (m68 K)
  | 69 => some (m69 K)
  | 70 => some (m70 K)
  | 71 => some (m71 K)
  | 72 => some (m72 K)
  | 73 => some (m73 K)
  | 74 => some (m74 K)
  | 75 => some (m75 K)
  | 76 => some (m76 K)
  | 77 => some (m77 K)
  | 78 => some (m78 K)
  | 79 => some (m79 K)
  | 80 => some (m80 K)
  | 81 => some (m81 K)
  | 82 => some (m82 K)
  | 83 => some (m83 K)
  | 84 => some (m84 K)
  | 85 => some (m85 K)
  | 86 => some (m86 K)
  | 87 => some (m87 K)
  | 88 => some (m88 K)
  | 89 => some (m89 K)
  | 90 => some (m90 K)
  | 91 => some (m91 K)
  | 92 => some (m92 K)
  | 93 => some (m93 K)
  | 94 => some (m94 K)
  | 95 => some (m95 K)
  | 96 => some (m96 K)
  | 97 => some (m97 K)
  | 98 => some (m98 K)
  | 99 => some (m99 K)
  | 100 => some (m100 K)
  | 101 => some (m101 K)
  | 102 => some (m102 K)
  | 103 => some (m103 K)
  | 104 => some (m104 K)
  | 105 => some (m105 K)
  | 106 => some (m106 K)
  | 107 => some (m107 K)
  | 108 => some (m108 K)
  | 109 => some (m109 K)
  | 110 => some (m110 K)
  | 111 => some (m111 K)
  | 112 => some (m112 K)
  | 113 => some (m113 K)
  | 114 => some (m114 K)
  | 115 => some (m115 K)
  | 116 => some (m116 K)
  | 117 => some (m117 K)
  | 118 => some (m118 K)
  | 119 => some (m119 K)
  | 120 => some (m120 K)
  | 121 => some (m121 K)
  | 122 => some (m122 K)
  | 123 => some (m123 K)
  | 124 => some (m124 K)
  | 125 => some (m125 K)
  | 126 => some (m126 K)
  | 127 => some (m127 K)
  | 128 => some (m128 K)
  | 129 => some (m129 K)
  | 130 => some (m130 K)
  | 131 => some (m131 K)
  | 132 => some (m132 K)
  | 133 => some (m133 K)
  | 134 => some (m134 K)
  | 135 => some (m135 K)
  | 136 => some (m136 K)
  | 137 => some (m137 K)
  | 138 => some (m138 K)
  | 139 => some (m139 K)
  | 140 => some (m140 K)
  | 141 => some (m141 K)
  | 142 => some (m142 K)
  | 143 => some (m143 K)
  | 144 => some (m144 K)
  | 145 => some (m145 K)
  | 146 => some (m146 K)
  | 147 => some (m147 K)
  | 148 => some (m148 K)
  | 149 => some (m149 K)
  | 150 => some (m150 K)
  | 151 => some (m151 K)
  | 152 => some (m152 K)
  | 153 => some (m153 K)
  | 154 => some (m154 K)
  | 155 => some (m155 K)
  | 156 => some (m156 K)
  | 157 => some (m157 K)
  | 158 => some (m158 K)
  | 159 => some (m159 K)
  | 160 => some (m160 K)
  | 161 => some (m161 K)
  | 162 => some (m162 K)
  | 163 => some (m163 K)
  | 164 => some (m164 K)
  | 165 => some (m165 K)
  | 166 => some (m166 K)
  | 167 => some (m167 K)
  | 168 => some (m168 K)
  | 169 => some (m169 K)
  | 170 => some (m170 K)
  | 171 => some (m171 K)
  | 172 => some (m172 K)
  | 173 => some (m173 K)
  | 174 => some (m174 K)
  | 175 => some (m175 K)
  | 176 => some (m176 K)
  | 177 => some (m177 K)
  | 178 => some (m178 K)
  | 179 => some (m179 K)
  | 180 => some (m180 K)
  | 181 => some (m181 K)
  | 182 => some (m182 K)
  | 183 => some (m183 K)
  | 184 => some (m184 K)
  | 185 => some (m185 K)
  | 186 => some (m186 K)
  | 187 => some (m187 K)
  | 188 => some (m188 K)
  | 189 => some (m189 K)
  | 190 => some (m190 K)
  | 191 => some (m191 K)
  | 192 => some (m192 K)
  | _ => none
