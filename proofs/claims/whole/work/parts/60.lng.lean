/-! ground terms as longs (the reference) and as ints (the class) -/
theorem lN_or (a b : Nat) : lN a ||| lN b = lN (a ||| b) := Int64.toBitVec_inj.mp (by rw [Int64.toBitVec_or]; exact BitVec.ofNat_or.symm)
theorem lN_and (a b : Nat) : lN a &&& lN b = lN (a &&& b) := Int64.toBitVec_inj.mp (by rw [Int64.toBitVec_and]; exact BitVec.ofNat_and.symm)
theorem l_sh63 : ∀ k : Fin 64, ((nI k.1).toInt64 &&& 63).toBitVec.smod 64 = BitVec.ofNat 64 k.1 := by decide +kernel
theorem lN_shl (n : Nat) {k : Nat} (hk : k < 64) : lN n <<< ((nI k).toInt64 &&& 63) = lN (n * 2 ^ k) := by
  apply Int64.toBitVec_inj.mp
  rw [Int64.toBitVec_shiftLeft, l_sh63 ⟨k, hk⟩, BitVec.shiftLeft_eq', BitVec.toNat_ofNat, Nat.mod_eq_of_lt (show k < 2 ^ 64 by omega)]
  show BitVec.ofNat 64 n <<< k = BitVec.ofNat 64 (n * 2 ^ k)
  apply BitVec.eq_of_toNat_eq
  rw [BitVec.toNat_shiftLeft, BitVec.toNat_ofNat, BitVec.toNat_ofNat, Nat.shiftLeft_eq, Nat.mul_mod, Nat.mod_mod, ← Nat.mul_mod]
theorem lN_shr {n k : Nat} (hn : n < 2 ^ 63) (hk : k < 64) : lN n >>> ((nI k).toInt64 &&& 63) = lN (n / 2 ^ k) := by
  apply Int64.toBitVec_inj.mp
  rw [Int64.toBitVec_shiftRight, l_sh63 ⟨k, hk⟩, BitVec.sshiftRight_eq', BitVec.toNat_ofNat, Nat.mod_eq_of_lt (show k < 2 ^ 64 by omega)]
  have hm : (lN n).toBitVec.msb = false := by
    rw [BitVec.msb_eq_false_iff_two_mul_lt]
    show 2 * (BitVec.ofNat 64 n).toNat < 2 ^ 64
    rw [BitVec.toNat_ofNat, Nat.mod_eq_of_lt (by omega)]
    omega
  rw [BitVec.sshiftRight_eq_of_msb_false hm]
  show BitVec.ofNat 64 n >>> k = BitVec.ofNat 64 (n / 2 ^ k)
  apply BitVec.eq_of_toNat_eq
  have : n / 2 ^ k ≤ n := Nat.div_le_self _ _
  rw [BitVec.toNat_ushiftRight, BitVec.toNat_ofNat, BitVec.toNat_ofNat, Nat.mod_eq_of_lt (show n < 2 ^ 64 by omega), Nat.shiftRight_eq_div_pow, Nat.mod_eq_of_lt (by omega)]
theorem lN_inj {a b : Nat} (ha : a < 2 ^ 64) (hb : b < 2 ^ 64) : lN a = lN b ↔ a = b := by
  constructor
  · intro e
    have := congrArg (fun z : Int64 => z.toBitVec.toNat) e
    have e1 : (lN a).toBitVec.toNat = a := by
      show (BitVec.ofNat 64 a).toNat = a
      rw [BitVec.toNat_ofNat, Nat.mod_eq_of_lt ha]
    have e2 : (lN b).toBitVec.toNat = b := by
      show (BitVec.ofNat 64 b).toNat = b
      rw [BitVec.toNat_ofNat, Nat.mod_eq_of_lt hb]
    rw [e1, e2] at this
    exact this
  · intro e
    rw [e]
theorem lg_eq (x y : Int64) : lg_cmp x y = 0 ↔ x = y := by
  unfold lg_cmp
  by_cases h : x > y
  · rw [if_pos h]
    constructor
    · intro z
      exact absurd z (by decide)
    · intro z
      rw [z] at h
      exact (Int64.lt_irrefl h).elim
  · rw [if_neg h]
    by_cases e : x = y
    · rw [if_pos e]
      exact ⟨fun _ => e, fun _ => rfl⟩
    · rw [if_neg e]
      exact ⟨fun z => absurd z (by decide), fun z => absurd z e⟩
/-- the number of a ground term's text, eight bytes -/
def tL (t : Tm) : Nat := if t.1 = 0 then cn (ps_hc t.2) * 2 ^ 56 else match t.2 with
  | [x] => cn t.1 * 2 ^ 56 + 40 * 2 ^ 48 + cn x * 2 ^ 40 + 41 * 2 ^ 32
  | [x, y] => cn t.1 * 2 ^ 56 + 40 * 2 ^ 48 + cn x * 2 ^ 40 + 44 * 2 ^ 32 + cn y * 2 ^ 24 + 41 * 2 ^ 16
  | [x, y, z] => cn t.1 * 2 ^ 56 + 40 * 2 ^ 48 + cn x * 2 ^ 40 + 44 * 2 ^ 32 + cn y * 2 ^ 24 + 44 * 2 ^ 16 + cn z * 2 ^ 8 + 41
  | _ => 0
/-- the four shapes of a term -/
theorem wfT.shape {t : Tm} (h : wfT t) : (∃ a, 48 ≤ a ∧ a < 128 ∧ t = (0, [nI a]) ∧ tE t = a * 2097152 ∧ tL t = a * 2 ^ 56) ∨ (∃ a x, 48 ≤ a ∧ a < 128 ∧ 48 ≤ x ∧ x < 128 ∧ t = (nI a, [nI x]) ∧ chL (nI a) ∧ tE t = a * 2097152 + x * 16384 ∧ tL t = a * 2 ^ 56 + 40 * 2 ^ 48 + x * 2 ^ 40 + 41 * 2 ^ 32) ∨ (∃ a x y, 48 ≤ a ∧ a < 128 ∧ 48 ≤ x ∧ x < 128 ∧ 48 ≤ y ∧ y < 128 ∧ t = (nI a, [nI x, nI y]) ∧ chL (nI a) ∧ tE t = a * 2097152 + x * 16384 + y * 128 ∧ tL t = a * 2 ^ 56 + 40 * 2 ^ 48 + x * 2 ^ 40 + 44 * 2 ^ 32 + y * 2 ^ 24 + 41 * 2 ^ 16) ∨ (∃ a x y z, 48 ≤ a ∧ a < 128 ∧ 48 ≤ x ∧ x < 128 ∧ 48 ≤ y ∧ y < 128 ∧ 48 ≤ z ∧ z < 128 ∧ t = (nI a, [nI x, nI y, nI z]) ∧ chL (nI a) ∧ tE t = a * 2097152 + x * 16384 + y * 128 + z ∧ tL t = a * 2 ^ 56 + 40 * 2 ^ 48 + x * 2 ^ 40 + 44 * 2 ^ 32 + y * 2 ^ 24 + 44 * 2 ^ 16 + z * 2 ^ 8 + 41) := by
  obtain ⟨o, ps⟩ := t
  rcases h with ⟨h0, c, hc, e⟩ | ⟨h0, h1, h2, h3⟩
  · simp only at h0 e
    subst h0
    subst e
    obtain ⟨a, a1, a2, rfl⟩ := chP_nat hc
    refine Or.inl ⟨a, a1, a2, rfl, ?_, ?_⟩
    · rw [tE_k, cn_nI a2]
    · unfold tL
      rw [if_pos rfl]
      show cn (nI a) * 2 ^ 56 = _
      rw [cn_nI a2]
  · simp only at h0 h1 h2 h3
    obtain ⟨a, a1, a2, rfl⟩ := chP_nat (Or.inl h0)
    have hz : ¬ nI a = 0 := chL_ne h0
    match ps, h1, h2, h3 with
    | [x], _, _, h3 =>
      obtain ⟨x, x1, x2, rfl⟩ := chP_nat (h3 x (by simp))
      refine Or.inr (Or.inl ⟨a, x, a1, a2, x1, x2, rfl, h0, ?_, ?_⟩)
      · rw [tE_c hz]
        show cn (nI a) * 2097152 + cn (nI x) * 16384 + 0 * 128 + 0 = _
        rw [cn_nI a2, cn_nI x2]
        omega
      · unfold tL
        rw [if_neg hz]
        simp only
        rw [cn_nI a2, cn_nI x2]
    | [x, y], _, _, h3 =>
      obtain ⟨x', x1, x2, ex⟩ := chP_nat (h3 x (by simp))
      obtain ⟨y', y1, y2, ey⟩ := chP_nat (h3 y (by simp))
      subst ex
      subst ey
      refine Or.inr (Or.inr (Or.inl ⟨a, x', y', a1, a2, x1, x2, y1, y2, rfl, h0, ?_, ?_⟩))
      · rw [tE_c hz]
        show cn (nI a) * 2097152 + cn (nI x') * 16384 + cn (nI y') * 128 + 0 = _
        rw [cn_nI a2, cn_nI x2, cn_nI y2]
        omega
      · unfold tL
        rw [if_neg hz]
        simp only
        rw [cn_nI a2, cn_nI x2, cn_nI y2]
    | [x, y, z], _, _, h3 =>
      obtain ⟨x', x1, x2, ex⟩ := chP_nat (h3 x (by simp))
      obtain ⟨y', y1, y2, ey⟩ := chP_nat (h3 y (by simp))
      obtain ⟨z', z1, z2, ez⟩ := chP_nat (h3 z (by simp))
      subst ex
      subst ey
      subst ez
      refine Or.inr (Or.inr (Or.inr ⟨a, x', y', z', a1, a2, x1, x2, y1, y2, z1, z2, rfl, h0, ?_, ?_⟩))
      · rw [tE_c hz]
        show cn (nI a) * 2097152 + cn (nI x') * 16384 + cn (nI y') * 128 + cn (nI z') = _
        rw [cn_nI a2, cn_nI x2, cn_nI y2, cn_nI z2]
      · unfold tL
        rw [if_neg hz]
        simp only
        rw [cn_nI a2, cn_nI x2, cn_nI y2, cn_nI z2]
theorem tL_lt {t : Tm} (h : wfT t) : tL t < 2 ^ 63 ∧ 0 < tL t := by
  rcases h.shape with ⟨a, h1, h2, _, _, e⟩ | ⟨a, x, h1, h2, h3, h4, _, _, _, e⟩ | ⟨a, x, y, h1, h2, h3, h4, h5, h6, _, _, _, e⟩ | ⟨a, x, y, z, h1, h2, h3, h4, h5, h6, h7, h8, _, _, _, e⟩ <;> rw [e] <;> omega
/-- both orders are one -/
theorem tL_tE {t t' : Tm} (h : wfT t) (g : wfT t') : tE t < tE t' ↔ tL t < tL t' := by
  rcases h.shape with ⟨a, h1, h2, _, e1, e2⟩ | ⟨a, x, h1, h2, h3, h4, _, _, e1, e2⟩ | ⟨a, x, y, h1, h2, h3, h4, h5, h6, _, _, e1, e2⟩ | ⟨a, x, y, z, h1, h2, h3, h4, h5, h6, h7, h8, _, _, e1, e2⟩ <;> rcases g.shape with ⟨a', g1, g2, _, f1, f2⟩ | ⟨a', x', g1, g2, g3, g4, _, _, f1, f2⟩ | ⟨a', x', y', g1, g2, g3, g4, g5, g6, _, _, f1, f2⟩ | ⟨a', x', y', z', g1, g2, g3, g4, g5, g6, g7, g8, _, _, f1, f2⟩ <;> rw [e1, e2, f1, f2] <;> omega
theorem tE_inj {t t' : Tm} (h : wfT t) (g : wfT t') (e : tE t = tE t') : t = t' := by
  rcases h.shape with ⟨a, h1, h2, e0, e1, _⟩ | ⟨a, x, h1, h2, h3, h4, e0, _, e1, _⟩ | ⟨a, x, y, h1, h2, h3, h4, h5, h6, e0, _, e1, _⟩ | ⟨a, x, y, z, h1, h2, h3, h4, h5, h6, h7, h8, e0, _, e1, _⟩ <;> rcases g.shape with ⟨a', g1, g2, f0, f1, _⟩ | ⟨a', x', g1, g2, g3, g4, f0, _, f1, _⟩ | ⟨a', x', y', g1, g2, g3, g4, g5, g6, f0, _, f1, _⟩ | ⟨a', x', y', z', g1, g2, g3, g4, g5, g6, g7, g8, f0, _, f1, _⟩ <;> rw [e1, f1] at e <;> rw [e0, f0]
  · rw [show a = a' by omega]
  · omega
  · omega
  · omega
  · omega
  · rw [show a = a' by omega, show x = x' by omega]
  · omega
  · omega
  · omega
  · omega
  · rw [show a = a' by omega, show x = x' by omega, show y = y' by omega]
  · omega
  · omega
  · omega
  · omega
  · rw [show a = a' by omega, show x = x' by omega, show y = y' by omega, show z = z' by omega]
theorem tL_inj {t t' : Tm} (h : wfT t) (g : wfT t') (e : tL t = tL t') : t = t' := by
  refine tE_inj h g ?_
  have a := tL_tE h g
  have b := tL_tE g h
  omega
theorem lL_eq {t t' : Tm} (h : wfT t) (g : wfT t') : lN (tL t) = lN (tL t') ↔ t = t' := by
  have a := (tL_lt h).1
  have b := (tL_lt g).1
  rw [lN_inj (by omega) (by omega)]
  exact ⟨fun e => tL_inj h g e, fun e => by rw [e]⟩
/-- a term or none -/
def tl (ts : List Tm) (i : Nat) : Int64 := match ts[i]? with
  | some t => lN (tL t)
  | none => 0
theorem tl_inj {ts ts' : List Tm} (h : ∀ t ∈ ts, wfT t) (g : ∀ t ∈ ts', wfT t) (hl : ts.length = ts'.length) (h3 : ts.length ≤ 3) (e0 : tl ts 0 = tl ts' 0) (e1 : tl ts 1 = tl ts' 1) (e2 : tl ts 2 = tl ts' 2) : ts = ts' := by
  apply List.ext_getElem? 
  intro i
  by_cases hi : i < ts.length
  · have key : tl ts i = tl ts' i → ts[i]? = ts'[i]? := by
      intro e
      unfold tl at e
      rw [List.getElem?_eq_getElem hi, List.getElem?_eq_getElem (by omega : i < ts'.length)] at e ⊢
      simp only at e
      rw [(lL_eq (h _ (List.getElem_mem hi)) (g _ (List.getElem_mem (by omega)))).mp e]
    have : i = 0 ∨ i = 1 ∨ i = 2 := by omega
    rcases this with rfl | rfl | rfl
    · exact key e0
    · exact key e1
    · exact key e2
  · rw [List.getElem?_eq_none (by omega), List.getElem?_eq_none (by omega)]
