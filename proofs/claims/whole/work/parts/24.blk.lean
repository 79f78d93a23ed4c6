/-! a block of cells laid over a heap -/
def bM (B : Nat) (E : List gm_E) (G : gm_H) : gm_H := fun q => if B ≤ q ∧ q < B + E.length then E[q - B]? else G q
theorem bM_get {B : Nat} {E : List gm_E} {G : gm_H} {j : Nat} {x : gm_E} (h : E[j]? = some x) : bM B E G (B + j) = some x := by
  have hl : j < E.length := (List.getElem?_eq_some_iff.mp h).1
  unfold bM
  rw [if_pos ⟨Nat.le_add_right B j, by omega⟩, Nat.add_sub_cancel_left]
  exact h
theorem bM_out {B : Nat} {E : List gm_E} {G : gm_H} {q : Nat} (h : ¬ (B ≤ q ∧ q < B + E.length)) : bM B E G q = G q := by
  unfold bM
  rw [if_neg h]
theorem bM_set {B : Nat} {E : List gm_E} {G : gm_H} {j : Nat} {x y : gm_E} (h : E[j]? = some y) : gm_set (bM B E G) (B + j) x = bM B (E.set j x) G := by
  have hl : j < E.length := (List.getElem?_eq_some_iff.mp h).1
  funext q
  unfold gm_set bM
  rw [List.length_set]
  by_cases hq : q = B + j
  · subst hq
    rw [if_pos rfl, if_pos ⟨Nat.le_add_right B j, by omega⟩, Nat.add_sub_cancel_left, List.getElem?_set_self hl]
  · rw [if_neg hq]
    by_cases hr : B ≤ q ∧ q < B + E.length
    · rw [if_pos hr, if_pos hr, List.getElem?_set_ne (by omega)]
    · rw [if_neg hr, if_neg hr]
theorem bM_setG {B : Nat} {E : List gm_E} {G : gm_H} {q : Nat} {x : gm_E} (h : ¬ (B ≤ q ∧ q < B + E.length)) : gm_set (bM B E G) q x = bM B E (gm_set G q x) := by
  funext r
  unfold gm_set bM
  by_cases hr : r = q
  · subst hr
    rw [if_pos rfl, if_neg h]
    exact (if_pos rfl).symm
  · rw [if_neg hr]
    by_cases h2 : B ≤ r ∧ r < B + E.length
    · rw [if_pos h2, if_pos h2]
    · rw [if_neg h2, if_neg h2]
      exact (if_neg hr).symm
section BMR
variable {N0 B : Nat} {E E' : List gm_E} {G : gm_H} {j ci k n : Nat} {ty : FieldType} {fs : List Value} {v : Value} {f : Nat → Int32} {fl : Nat → Int64} {i x : Int32} {y : Int64}
theorem bM_fld (he : E[j]? = some (.inr (ci, fs))) (hk : fs[k]? = some v) : gm_fld (bM B E G) (B + j) ci k = some v := gm_fld_of (bM_get he) hk
theorem bM_put (he : E[j]? = some (.inr (ci, fs))) (hk : k < fs.length) (hN : N0 ≤ B) (hf : gm_fit ty v = true) (hE : E.set j (.inr (ci, fs.set k v)) = E') : gm_put N0 (bM B E G) (B + j) ci k ty v = some (bM B E' G) := by
  rw [gm_put_of (bM_get he) hk (by omega) hf, bM_set he, hE]
theorem bM_ai (he : E[j]? = some (.inl (ty, n, .inl f))) (hi : i = nI k) (hk : k < n) (hn : n < 2 ^ 31) : gm_ai (bM B E G) (B + j) ty i = some (f k) := gm_ai_of (bM_get he) hi hk hn
theorem bM_al (he : E[j]? = some (.inl (.long, n, .inr (.inl fl)))) (hi : i = nI k) (hk : k < n) (hn : n < 2 ^ 31) : gm_al64 (bM B E G) (B + j) i = some (fl k) := gm_al_of (bM_get he) hi hk hn
theorem bM_asti (he : E[j]? = some (.inl (.int, n, .inl f))) (hi : i = nI k) (hk : k < n) (hn : n < 2 ^ 31) (hN : N0 ≤ B) (hE : E.set j (.inl (.int, n, .inl (upd f k x))) = E') : gm_asti N0 (bM B E G) (B + j) .int i x = some (bM B E' G) := by
  rw [gm_asti_of (bM_get he) hi hk hn (by omega), bM_set he, hE]
theorem bM_astn (he : E[j]? = some (.inl (ty, n, .inl f))) (hi : i = nI k) (hk : k < n) (hn : n < 2 ^ 31) (hN : N0 ≤ B) (hE : E.set j (.inl (ty, n, .inl (upd f k (vp_nar ty x)))) = E') : gm_asti N0 (bM B E G) (B + j) ty i x = some (bM B E' G) := by
  rw [gm_astn_of (bM_get he) hi hk hn (by omega), bM_set he, hE]
theorem bM_astl (he : E[j]? = some (.inl (.long, n, .inr (.inl fl)))) (hi : i = nI k) (hk : k < n) (hn : n < 2 ^ 31) (hN : N0 ≤ B) (hE : E.set j (.inl (.long, n, .inr (.inl (vp_updL fl k y)))) = E') : gm_astl N0 (bM B E G) (B + j) i y = some (bM B E' G) := by
  rw [gm_astl_of (bM_get he) hi hk hn (by omega), bM_set he, hE]
end BMR
/-! the state of RuleArenaModel: ints and booleans, arrays of them and of chars, arrays of longs, each by the number of its field -/
abbrev mS : Type := (Nat → Int32) × (Nat → Nat → Int32) × (Nat → Nat → Int64)
def mI (s : mS) (k : Nat) (v : Int32) : mS := (fun j => if j = k then v else s.1 j, s.2)
def mA (s : mS) (k : Nat) (f : Nat → Int32) : mS := (s.1, fun j => if j = k then f else s.2.1 j, s.2.2)
def mL (s : mS) (k : Nat) (f : Nat → Int64) : mS := (s.1, s.2.1, fun j => if j = k then f else s.2.2 j)
def mF (B : Nat) (s : mS) : List Value := [.int (s.1 0), .ref (B + 1), .int (s.1 2), .ref (B + 2), .int (s.1 4), .int (s.1 5), .int (s.1 6), .int (s.1 7), .ref (B + 3), .int (s.1 9), .int (s.1 10), .int (s.1 11), .ref (B + 4), .ref (B + 5), .ref (B + 6), .ref (B + 7), .ref (B + 8), .ref (B + 9), .ref (B + 10), .ref (B + 11), .int (s.1 20), .ref (B + 12), .ref (B + 13), .int (s.1 23), .int (s.1 24), .ref (B + 14), .ref (B + 15), .ref (B + 16), .int (s.1 28), .ref (B + 17), .int (s.1 30), .ref (B + 18), .int (s.1 32), .ref (B + 19), .int (s.1 34), .ref (B + 20), .int (s.1 36), .ref (B + 21), .int (s.1 38), .ref (B + 22), .ref (B + 23), .int (s.1 41), .int (s.1 42), .int (s.1 43), .ref (B + 24), .ref (B + 25), .ref (B + 26), .ref (B + 27), .ref (B + 28), .ref (B + 29)]
def mH (B : Nat) (s : mS) : List gm_E := [.inr (11, mF B s), .inl (.char, 240, .inl (s.2.1 1)), .inl (.char, 240, .inl (s.2.1 3)), .inl (.char, 240, .inl (s.2.1 8)), .inl (.int, 24, .inl (s.2.1 12)), .inl (.int, 144, .inl (s.2.1 13)), .inl (.int, 144, .inl (s.2.1 14)), .inl (.int, 432, .inl (s.2.1 15)), .inl (.int, 432, .inl (s.2.1 16)), .inl (.int, 1296, .inl (s.2.1 17)), .inl (.boolean, 512, .inl (s.2.1 18)), .inl (.int, 512, .inl (s.2.1 19)), .inl (.int, 201, .inl (s.2.1 21)), .inl (.long, 603, .inr (.inl (s.2.2 22))), .inl (.long, 6, .inr (.inl (s.2.2 25))), .inl (.int, 6, .inl (s.2.1 26)), .inl (.int, 7, .inl (s.2.1 27)), .inl (.long, 24, .inr (.inl (s.2.2 29))), .inl (.long, 24, .inr (.inl (s.2.2 31))), .inl (.long, 24, .inr (.inl (s.2.2 33))), .inl (.long, 24, .inr (.inl (s.2.2 35))), .inl (.long, 201, .inr (.inl (s.2.2 37))), .inl (.long, 201, .inr (.inl (s.2.2 39))), .inl (.long, 201, .inr (.inl (s.2.2 40))), .inl (.long, 1440, .inr (.inl (s.2.2 44))), .inl (.int, 60, .inl (s.2.1 45)), .inl (.int, 61, .inl (s.2.1 46)), .inl (.int, 12500, .inl (s.2.1 47)), .inl (.int, 60, .inl (s.2.1 48)), .inl (.int, 60, .inl (s.2.1 49))]
