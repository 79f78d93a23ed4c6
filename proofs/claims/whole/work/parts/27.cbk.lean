/-! the class: 34 cells at C (RuleArena, Reader, Game, Follows, Facts, six Terms, Audit and their arrays) laid over a heap that holds the rest -/
abbrev cS : Type := (Nat → Int32) × (Nat → Nat → Int32) × (Nat → Option Nat)
def cI (s : cS) (k : Nat) (v : Int32) : cS := (fun j => if j = k then v else s.1 j, s.2)
def cA (s : cS) (k : Nat) (f : Nat → Int32) : cS := (s.1, fun j => if j = k then f else s.2.1 j, s.2.2)
def cR (s : cS) (k : Nat) (v : Option Nat) : cS := (s.1, s.2.1, fun j => if j = k then v else s.2.2 j)
def cF0 (C : Nat) (s : cS) : List Value := [.ref (C + 1), .int (s.1 1), .int (s.1 2), .int (s.1 3), .ref (C + 2), .ref (C + 4), .ref (C + 29)]
def cF2 (C : Nat) (s : cS) : List Value := [va_rf (s.2.2 40), .int (s.1 41), .ref (C + 3)]
def cF4 (C : Nat) (s : cS) : List Value := [va_rf (s.2.2 80), .ref (C + 5), .ref (C + 17), .ref (C + 19), .ref (C + 21), .ref (C + 23), .ref (C + 25), .ref (C + 27), .int (s.1 88)]
def cF5 (C : Nat) (s : cS) : List Value := [.ref (C + 6), va_rf (s.2.2 101), .int (s.1 102), .int (s.1 103), .ref (C + 16), .int (s.1 105), .int (s.1 106), .int (s.1 107)]
def cF6 (C : Nat) (s : cS) : List Value := [.ref (C + 7), .ref (C + 8), .ref (C + 9), .ref (C + 10), .ref (C + 11), .ref (C + 12), .ref (C + 13), .ref (C + 14), .ref (C + 15), .int (s.1 129), .int (s.1 130)]
def cF17 (C : Nat) (s : cS) : List Value := [.ref (C + 18), .int (s.1 341)]
def cF19 (C : Nat) (s : cS) : List Value := [.ref (C + 20), .int (s.1 381)]
def cF21 (C : Nat) (s : cS) : List Value := [.ref (C + 22), .int (s.1 421)]
def cF23 (C : Nat) (s : cS) : List Value := [.ref (C + 24), .int (s.1 461)]
def cF25 (C : Nat) (s : cS) : List Value := [.ref (C + 26), .int (s.1 501)]
def cF27 (C : Nat) (s : cS) : List Value := [.ref (C + 28), .int (s.1 541)]
def cF29 (C : Nat) (s : cS) : List Value := [.ref (C + 30), .ref (C + 31), .ref (C + 32), .ref (C + 33), .int (s.1 584), .int (s.1 585), .int (s.1 586)]
def cH (C : Nat) (s : cS) : List gm_E := [.inr (10, cF0 C s), .inl (.char, 241, .inl (s.2.1 1)), .inr (6, cF2 C s), .inl (.int, 3, .inl (s.2.1 3)), .inr (3, cF4 C s), .inr (2, cF5 C s), .inr (1, cF6 C s), .inl (.int, 201, .inl (s.2.1 7)), .inl (.int, 201, .inl (s.2.1 8)), .inl (.int, 201, .inl (s.2.1 9)), .inl (.int, 201, .inl (s.2.1 10)), .inl (.int, 201, .inl (s.2.1 11)), .inl (.int, 112, .inl (s.2.1 12)), .inl (.int, 112, .inl (s.2.1 13)), .inl (.int, 256, .inl (s.2.1 14)), .inl (.int, 201, .inl (s.2.1 15)), .inl (.int, 13, .inl (s.2.1 16)), .inr (9, cF17 C s), .inl (.int, 24, .inl (s.2.1 18)), .inr (9, cF19 C s), .inl (.int, 24, .inl (s.2.1 20)), .inr (9, cF21 C s), .inl (.int, 24, .inl (s.2.1 22)), .inr (9, cF23 C s), .inl (.int, 24, .inl (s.2.1 24)), .inr (9, cF25 C s), .inl (.int, 200, .inl (s.2.1 26)), .inr (9, cF27 C s), .inl (.int, 200, .inl (s.2.1 28)), .inr (0, cF29 C s), .inl (.object "RuleArena$Terms", 60, .inr (.inr (.inr (.inr (fun k => if k < 60 then some (C + 34 + 2 * k) else none))))), .inl (.int, 3600, .inl (s.2.1 31)), .inl (.int, 60, .inl (s.2.1 32)), .inl (.boolean, 60, .inl (s.2.1 33))]
theorem cv_some {o : Option Nat} {r : Nat} (h : o = some r) : some (va_rf o) = some (Value.ref r) := by rw [h]; rfl
theorem cv_none {o : Option Nat} (h : o = none) : some (va_rf o) = some Value.null := by rw [h]; rfl
section CLG
variable {N0 C q n k ci sz : Nat} {s : cS} {G : gm_H} {ty : FieldType} {fs : List Value} {v : Value} {f : Nat → Int32} {fl : Nat → Int64} {fq : Nat → Option Nat} {i x : Int32} {y : Int64} {e : gm_E} {Cn : String} {o : Option Nat} {nm : Nat → Option String} {b : Nat}
theorem cG_out (hq : C + 34 ≤ q) : ¬ (C ≤ q ∧ q < C + (cH C s).length) := by
  show ¬ (C ≤ q ∧ q < C + 34)
  omega
theorem cG_get (hq : C + 34 ≤ q) (h : G q = some e) : bM C (cH C s) G q = some e := (bM_out (cG_out hq)).trans h
theorem cG_set (hq : C + 34 ≤ q) : gm_set (bM C (cH C s) G) q e = bM C (cH C s) (gm_set G q e) := bM_setG (cG_out hq)
theorem cG_new (hq : C + 34 ≤ sz) : gm_new (bM C (cH C s) G) sz e = bM C (cH C s) (gm_new G sz e) := bM_setG (cG_out hq)
theorem cG_put (hq : C + 34 ≤ q) (h : G q = some (.inr (ci, fs))) (hk : k < fs.length) (hN : N0 ≤ C) (hf : gm_fit ty v = true) : gm_put N0 (bM C (cH C s) G) q ci k ty v = some (bM C (cH C s) (gm_set G q (.inr (ci, fs.set k v)))) := by
  rw [gm_put_of (cG_get hq h) hk (by omega) hf, cG_set hq]
theorem cG_asti (hq : C + 34 ≤ q) (h : G q = some (.inl (.int, n, .inl f))) (hi : i = nI k) (hk : k < n) (hn : n < 2 ^ 31) (hN : N0 ≤ C) : gm_asti N0 (bM C (cH C s) G) q .int i x = some (bM C (cH C s) (gm_set G q (.inl (.int, n, .inl (upd f k x))))) := by
  rw [gm_asti_of (cG_get hq h) hi hk hn (by omega), cG_set hq]
theorem cG_astq (hq : C + 34 ≤ q) (h : G q = some (.inl (.object Cn, n, .inr (.inr (.inr (.inr fq)))))) (hi : i = nI k) (hk : k < n) (hn : n < 2 ^ 31) (hN : N0 ≤ C) (hb : bM C (cH C s) G b = some (.inr (ci, fs))) (hc : nm ci = some Cn) : gm_astq N0 nm (bM C (cH C s) G) q i (some b) = some (bM C (cH C s) (gm_set G q (.inl (.object Cn, n, .inr (.inr (.inr (.inr (va_up fq k (some b))))))))) := by
  rw [gm_astq_of (cG_get hq h) hi hk hn (by omega) hb hc, cG_set hq]
theorem cS_states (h : k < 60) : (fun k => if k < 60 then some (C + 34 + 2 * k) else none : Nat → Option Nat) k = some (C + 34 + 2 * k) := if_pos h
end CLG
