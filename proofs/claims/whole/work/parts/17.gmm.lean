/-! cells of the abstract heap, as the paths ask them -/
theorem gm_fld_of {M : gm_H} {a ci k : Nat} {fs : List Value} {v : Value} (h : M a = some (.inr (ci, fs))) (hk : fs[k]? = some v) : gm_fld M a ci k = some v := by simp only [gm_fld, h, if_true, hk]
theorem gm_lt {fs : List Value} {k : Nat} {v : Value} (h : fs[k]? = some v) : k < fs.length := (List.getElem?_eq_some_iff.mp h).1
theorem gm_fs_ne {fs : List Value} {k j : Nat} {v : Value} (h : k ≠ j) : (fs.set k v)[j]? = fs[j]? := List.getElem?_set_ne h
theorem gm_fs_eq {fs : List Value} {k : Nat} {v : Value} (h : k < fs.length) : (fs.set k v)[k]? = some v := List.getElem?_set_self h
theorem gm_fit_i (x : Int32) : gm_fit .int (.int x) = true := by simp [gm_fit, narrow, fits]
theorem gm_fit_j (x : Int64) : gm_fit .long (.long x) = true := by simp [gm_fit, narrow, fits]
theorem gm_fit_z {x : Int32} (h : x = 0 ∨ x = 1) : gm_fit .boolean (.int x) = true := by rcases h with rfl | rfl <;> decide
theorem gm_fit_l (C : String) (a : Nat) : gm_fit (.object C) (.ref a) = true := by simp [gm_fit, narrow, fits]
theorem gm_fit_ln (C : String) : gm_fit (.object C) .null = true := by simp [gm_fit, narrow, fits]
theorem gm_fit_a (t : FieldType) (a : Nat) : gm_fit (.array t) (.ref a) = true := by simp [gm_fit, narrow, fits]
theorem gm_fit_an (t : FieldType) : gm_fit (.array t) .null = true := by simp [gm_fit, narrow, fits]
theorem gm_put_of {N0 : Nat} {M : gm_H} {a ci k : Nat} {ty : FieldType} {fs : List Value} {v : Value} (h : M a = some (.inr (ci, fs))) (hl : k < fs.length) (hN : N0 ≤ a) (hf : gm_fit ty v = true) : gm_put N0 M a ci k ty v = some (gm_set M a (.inr (ci, fs.set k v))) := by
  simp only [gm_put, h]
  rw [if_pos ⟨trivial, hl, hN, hf⟩]
theorem gm_rng {n k : Nat} (hk : k < n) (hn : n < 2 ^ 31) : ¬ (nI k < 0 ∨ n ≤ (nI k).toNatClampNeg) := nI_in hk hn
theorem gm_ai_of {M : gm_H} {a n k : Nat} {ty : FieldType} {f : Nat → Int32} {i : Int32} (h : M a = some (.inl (ty, n, .inl f))) (hi : i = nI k) (hk : k < n) (hn : n < 2 ^ 31) : gm_ai M a ty i = some (f k) := by
  subst hi
  simp only [gm_ai, h]
  rw [if_pos ⟨trivial, gm_rng hk hn⟩, nI_clamp (by omega)]
theorem gm_al_of {M : gm_H} {a n k : Nat} {f : Nat → Int64} {i : Int32} (h : M a = some (.inl (.long, n, .inr (.inl f)))) (hi : i = nI k) (hk : k < n) (hn : n < 2 ^ 31) : gm_al64 M a i = some (f k) := by
  subst hi
  simp only [gm_al64, h]
  rw [if_pos ⟨trivial, gm_rng hk hn⟩, nI_clamp (by omega)]
theorem gm_aq_of {M : gm_H} {a n k : Nat} {C : String} {f : Nat → Option Nat} {i : Int32} {x : Option Nat} (h : M a = some (.inl (.object C, n, .inr (.inr (.inr (.inr f)))))) (hi : i = nI k) (hk : k < n) (hn : n < 2 ^ 31) (hx : f k = x) : gm_aq M a i = some x := by
  subst hi
  simp only [gm_aq, h]
  rw [if_neg (gm_rng hk hn), nI_clamp (by omega), hx]
theorem gm_alen_of {M : gm_H} {a n : Nat} {ty : FieldType} {f : Nat → Int32} (h : M a = some (.inl (ty, n, .inl f))) : gm_alen M a = some n := by simp only [gm_alen, h]
theorem gm_asti_of {N0 : Nat} {M : gm_H} {a n k : Nat} {f : Nat → Int32} {i x : Int32} (h : M a = some (.inl (.int, n, .inl f))) (hi : i = nI k) (hk : k < n) (hn : n < 2 ^ 31) (hN : N0 ≤ a) : gm_asti N0 M a .int i x = some (gm_set M a (.inl (.int, n, .inl (upd f k x)))) := by
  subst hi
  simp only [gm_asti, h]
  rw [if_pos ⟨trivial, hN, gm_rng hk hn⟩, nI_clamp (by omega)]
  rfl
theorem gm_astn_of {N0 : Nat} {M : gm_H} {a n k : Nat} {ty : FieldType} {f : Nat → Int32} {i x : Int32} (h : M a = some (.inl (ty, n, .inl f))) (hi : i = nI k) (hk : k < n) (hn : n < 2 ^ 31) (hN : N0 ≤ a) : gm_asti N0 M a ty i x = some (gm_set M a (.inl (ty, n, .inl (upd f k (vp_nar ty x))))) := by
  subst hi
  simp only [gm_asti, h]
  rw [if_pos ⟨trivial, hN, gm_rng hk hn⟩, nI_clamp (by omega)]
theorem gm_astl_of {N0 : Nat} {M : gm_H} {a n k : Nat} {f : Nat → Int64} {i : Int32} {x : Int64} (h : M a = some (.inl (.long, n, .inr (.inl f)))) (hi : i = nI k) (hk : k < n) (hn : n < 2 ^ 31) (hN : N0 ≤ a) : gm_astl N0 M a i x = some (gm_set M a (.inl (.long, n, .inr (.inl (vp_updL f k x))))) := by
  subst hi
  simp only [gm_astl, h]
  rw [if_pos ⟨trivial, hN, gm_rng hk hn⟩, nI_clamp (by omega)]
theorem gm_astq_of {N0 : Nat} {nm : Nat → Option String} {M : gm_H} {a n k b ci : Nat} {C : String} {fs : List Value} {f : Nat → Option Nat} {i : Int32} (h : M a = some (.inl (.object C, n, .inr (.inr (.inr (.inr f)))))) (hi : i = nI k) (hk : k < n) (hn : n < 2 ^ 31) (hN : N0 ≤ a) (hb : M b = some (.inr (ci, fs))) (hc : nm ci = some C) : gm_astq N0 nm M a i (some b) = some (gm_set M a (.inl (.object C, n, .inr (.inr (.inr (.inr (va_up f k (some b)))))))) := by
  subst hi
  simp only [gm_astq, h]
  rw [if_pos ⟨hN, gm_rng hk hn⟩, nI_clamp (by omega)]
  simp only [hb, hc, if_true]
theorem gm_ne_oa {M : gm_H} {a b : Nat} {o : Nat × List Value} {x : FieldType × vp_A} (h1 : M a = some (.inr o)) (h2 : M b = some (.inl x)) : a ≠ b := fun e => by rw [e, h2] at h1; cases h1
theorem gm_ne_oo {M : gm_H} {a b c1 c2 : Nat} {f1 f2 : List Value} (h1 : M a = some (.inr (c1, f1))) (h2 : M b = some (.inr (c2, f2))) (h : c1 ≠ c2) : a ≠ b := fun e => by rw [e, h2] at h1; cases h1; exact h rfl
theorem gm_ne_aa {M : gm_H} {a b : Nat} {t1 t2 : FieldType} {x1 x2 : vp_A} (h1 : M a = some (.inl (t1, x1))) (h2 : M b = some (.inl (t2, x2))) (h : t1 ≠ t2) : a ≠ b := fun e => by rw [e, h2] at h1; cases h1; exact h rfl
/-- every cell lies below sz -/
def gm_bd (M : gm_H) (sz : Nat) : Prop := ∀ a x, M a = some x → a < sz
theorem gm_bd.set {M : gm_H} {sz a : Nat} {x y : gm_E} (h : gm_bd M sz) (ha : M a = some y) : gm_bd (gm_set M a x) sz := fun q z hq => by
  by_cases e : q = a
  · rw [e]; exact h a y ha
  · rw [gm_set_ne e] at hq; exact h q z hq
theorem gm_bd.new {M : gm_H} {sz : Nat} {x : gm_E} (h : gm_bd M sz) : gm_bd (gm_new M sz x) (sz + 1) := fun q z hq => by
  by_cases e : q = sz
  · omega
  · rw [gm_new, gm_set_ne e] at hq; exact Nat.lt_succ_of_lt (h q z hq)
theorem gm_new_old {M : gm_H} {sz b : Nat} {x y : gm_E} (h : gm_bd M sz) (hb : M b = some y) : gm_new M sz x b = some y := by
  rw [gm_new, gm_set_ne (Nat.ne_of_lt (h b y hb))]
  exact hb
theorem gm_set_set {M : gm_H} {a : Nat} {x y : gm_E} : gm_set (gm_set M a x) a y = gm_set M a y := by
  funext q
  by_cases e : q = a <;> simp [gm_set, e]
section GMTB
variable {N0 : Nat} {K : Nat → Nat} {nm : Nat → Option String} {mt : Nat → Option gm_Mi} {d : Nat} {M : gm_H} {sz : Nat}
theorem gm_to_obj (hd : 0 < d) (a : Nat) : gm_to N0 K nm mt d 0 [.ref a] M sz (.returned none, M, sz, 0) := by
  obtain ⟨d, rfl⟩ : ∃ e, d = e + 1 := ⟨d - 1, by omega⟩
  exact ⟨0, rfl⟩
theorem gm_to_min (hd : 0 < d) {x y : Int32} : gm_to N0 K nm mt d 1 [.int x, .int y] M sz (.returned (some (.int (if y < x then y else x))), M, sz, 0) := by
  obtain ⟨d, rfl⟩ : ∃ e, d = e + 1 := ⟨d - 1, by omega⟩
  exact ⟨0, rfl⟩
theorem gm_to_max (hd : 0 < d) {x y : Int32} : gm_to N0 K nm mt d 2 [.int x, .int y] M sz (.returned (some (.int (if x < y then y else x))), M, sz, 0) := by
  obtain ⟨d, rfl⟩ : ∃ e, d = e + 1 := ⟨d - 1, by omega⟩
  exact ⟨0, rfl⟩
theorem gm_to_copy (hd : 0 < d) {a0 a n0 n1 : Nat} {f g : Nat → Int32} {sp dp n : Nat} {sp' dp' n' : Int32} (h0 : M a0 = some (.inl (.int, n0, .inl f))) (h1 : M a = some (.inl (.int, n1, .inl g))) (hN : N0 ≤ a) (e1 : sp' = nI sp) (e2 : dp' = nI dp) (e3 : n' = nI n) (l1 : sp + n ≤ n0) (l2 : dp + n ≤ n1) (b0 : n0 < 2 ^ 31) (b1 : n1 < 2 ^ 31) :
    gm_to N0 K nm mt d 3 [.ref a0, .int sp', .ref a, .int dp', .int n'] M sz (.returned none, gm_set M a (.inl (.int, n1, .inl (va_cpy f g sp dp n))), sz, 0) := by
  obtain ⟨d, rfl⟩ : ∃ e, d = e + 1 := ⟨d - 1, by omega⟩
  subst e1; subst e2; subst e3
  refine ⟨0, ?_⟩
  simp only [gm_run, gm_bi, gm_copy, h0, h1]
  rw [nI_clamp (show sp < 2 ^ 31 by omega), nI_clamp (show dp < 2 ^ 31 by omega), nI_clamp (show n < 2 ^ 31 by omega), if_pos ⟨hN, nI_pos (by omega), nI_pos (by omega), nI_pos (by omega), l1, l2⟩]
theorem gm_to_ix (hd : 0 < d) {a : Nat} {z : Int32} (ha : a = K 1 ∨ a = K 2) : gm_to N0 K nm mt d 4 [.ref a, .int z] M sz (.returned (some (.int (gm_ix z))), M, sz, 0) := by
  obtain ⟨d, rfl⟩ : ∃ e, d = e + 1 := ⟨d - 1, by omega⟩
  exact ⟨0, by simp only [gm_run, gm_bi, gm_copy, gm_bx, if_pos ha]⟩
end GMTB
