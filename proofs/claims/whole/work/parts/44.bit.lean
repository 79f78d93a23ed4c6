/-! bits of numbers that are told as nI -/
theorem nI_and (a b : Nat) : nI a &&& nI b = nI (a &&& b) := Int32.toBitVec_inj.mp (by rw [Int32.toBitVec_and]; exact BitVec.ofNat_and.symm)
theorem nI_or (a b : Nat) : nI a ||| nI b = nI (a ||| b) := Int32.toBitVec_inj.mp (by rw [Int32.toBitVec_or]; exact BitVec.ofNat_or.symm)
theorem nI_shl (n : Nat) {k : Nat} (hk : k < 32) : nI n <<< (nI k &&& 31) = nI (n * 2 ^ k) := by
  apply Int32.toBitVec_inj.mp
  have h : ∀ k : Fin 32, (nI k.1 &&& 31).toBitVec.smod 32 = BitVec.ofNat 32 k.1 := by decide +kernel
  rw [Int32.toBitVec_shiftLeft, h ⟨k, hk⟩, BitVec.shiftLeft_eq', BitVec.toNat_ofNat, Nat.mod_eq_of_lt (show k < 2 ^ 32 by omega)]
  show BitVec.ofNat 32 n <<< k = BitVec.ofNat 32 (n * 2 ^ k)
  apply BitVec.eq_of_toNat_eq
  rw [BitVec.toNat_shiftLeft, BitVec.toNat_ofNat, BitVec.toNat_ofNat, Nat.shiftLeft_eq, Nat.mul_mod, Nat.mod_mod, ← Nat.mul_mod]
theorem nI_ush {n k : Nat} (hn : n < 2 ^ 32) (hk : k < 32) : ((nI n).toUInt32 >>> ((nI k).toUInt32 &&& Int32.toUInt32 31)).toInt32 = nI (n / 2 ^ k) := by
  apply Int32.toBitVec_inj.mp
  have h : ∀ k : Fin 32, ((nI k.1).toUInt32 &&& Int32.toUInt32 31).toBitVec % 32#32 = BitVec.ofNat 32 k.1 := by decide +kernel
  show ((nI n).toUInt32 >>> ((nI k).toUInt32 &&& Int32.toUInt32 31)).toBitVec = _
  rw [UInt32.toBitVec_shiftRight]
  show (nI n).toBitVec >>> (((nI k).toUInt32 &&& Int32.toUInt32 31).toBitVec % 32#32) = _
  rw [h ⟨k, hk⟩, BitVec.ushiftRight_eq', BitVec.toNat_ofNat, Nat.mod_eq_of_lt (show k < 2 ^ 32 by omega)]
  show BitVec.ofNat 32 n >>> k = BitVec.ofNat 32 (n / 2 ^ k)
  apply BitVec.eq_of_toNat_eq
  rw [BitVec.toNat_ushiftRight, BitVec.toNat_ofNat, BitVec.toNat_ofNat, Nat.mod_eq_of_lt hn, Nat.shiftRight_eq_div_pow, Nat.mod_eq_of_lt (Nat.lt_of_le_of_lt (Nat.div_le_self _ _) hn)]
theorem n_and127 (n : Nat) : n &&& 127 = n % 128 := Nat.and_two_pow_sub_one_eq_mod n 7
theorem n_andPart (n : Nat) : n &&& 2097151 = n % 2097152 := Nat.and_two_pow_sub_one_eq_mod n 21
theorem n_or {a b k : Nat} (h : b < 2 ^ k) : a * 2 ^ k ||| b = a * 2 ^ k + b := by
  rw [← Nat.shiftLeft_eq, Nat.shiftLeft_add_eq_or_of_lt h]
/-- digit by digit of a term's number: shift 21, 14, 7, 0 -/
theorem dig {n k : Nat} (hn : n < 2 ^ 28) (hk : k < 32) : (((nI n).toUInt32 >>> ((nI k).toUInt32 &&& Int32.toUInt32 31)).toInt32) &&& (127 : Int32) = nI (n / 2 ^ k % 128) := by
  rw [nI_ush (by omega) hk, show (127 : Int32) = nI 127 from rfl, nI_and, n_and127]
/-- the number of a character -/
def cn (c : Int32) : Nat := c.toNatClampNeg
theorem cn_nI {m : Nat} (h : m < 128) : cn (nI m) = m := nI_clamp (by omega)
theorem chP_nat {c : Int32} (h : chP c) : ∃ m, 48 ≤ m ∧ m < 128 ∧ c = nI m := by
  have h1 : (48 : Int32) ≤ c ∧ c ≤ 122 := by
    rcases h with h | h | h
    · exact ⟨Int32.le_trans (by decide) h.1, h.2⟩
    · exact ⟨Int32.le_trans (by decide) h.1, Int32.le_trans h.2 (by decide)⟩
    · exact ⟨h.1, Int32.le_trans h.2 (by decide)⟩
  obtain ⟨m, h2, h3⟩ := nI_of2 (x := c) (M := 122) (n := 122) rfl (Int32.not_lt.mpr (Int32.le_trans (by decide) h1.1)) h1.2
  subst h3
  have := (nI_leI (a := 48) (b := m) (by decide) (by omega)).mp h1.1
  exact ⟨m, by omega, by omega, rfl⟩
theorem chP_cn {c : Int32} (h : chP c) : 48 ≤ cn c ∧ cn c < 128 ∧ c = nI (cn c) := by
  obtain ⟨m, h1, h2, rfl⟩ := chP_nat h
  rw [cn_nI h2]
  exact ⟨h1, h2, rfl⟩
/-- the digits of a term, and its number in the class -/
def dg (x : Tm) (i : Nat) : Nat := if i = 0 then (if x.1 = 0 then cn (x.2.getD 0 0) else cn x.1) else (if x.1 = 0 then 0 else cn (x.2.getD (i - 1) 0))
def tE (x : Tm) : Nat := dg x 0 * 2097152 + dg x 1 * 16384 + dg x 2 * 128 + dg x 3
theorem cn_0 : cn 0 = 0 := rfl
theorem dg_lt {x : Tm} (h : wfT x) (i : Nat) : dg x i < 128 ∧ (i = 0 → 48 ≤ dg x i) := by
  have hp : ∀ j, (∀ c ∈ x.2, chP c) → cn (x.2.getD j 0) < 128 := by
    intro j hc
    rw [List.getD_eq_getElem?_getD]
    cases e : x.2[j]? with
    | none => exact (by decide : cn 0 < 128)
    | some c => exact (chP_cn (hc c (List.mem_of_getElem? e))).2.1
  unfold dg
  rcases h with ⟨h0, c, hc, e⟩ | ⟨h0, h1, h2, h3⟩
  · have hm : ∀ c' ∈ x.2, chP c' := by
      intro c' hc'
      rw [e] at hc'
      simp only [List.mem_singleton] at hc'
      rw [hc']; exact hc
    by_cases hi : i = 0
    · rw [if_pos hi, if_pos h0, e]
      exact ⟨(chP_cn hc).2.1, fun _ => (chP_cn hc).1⟩
    · rw [if_neg hi, if_pos h0]
      exact ⟨by decide, fun z => absurd z hi⟩
  · have hn : ¬ x.1 = 0 := by
      intro z
      rw [z] at h0
      exact absurd h0 (by decide)
    by_cases hi : i = 0
    · rw [if_pos hi, if_neg hn]
      exact ⟨(chP_cn (Or.inl h0)).2.1, fun _ => (chP_cn (Or.inl h0)).1⟩
    · rw [if_neg hi, if_neg hn]
      exact ⟨hp _ h3, fun z => absurd z hi⟩
theorem tE_lt {x : Tm} (h : wfT x) : tE x < 2 ^ 28 ∧ 0 < tE x := by
  have h0 := dg_lt h 0
  have h1 := (dg_lt h 1).1
  have h2 := (dg_lt h 2).1
  have h3 := (dg_lt h 3).1
  have := h0.2 rfl
  unfold tE
  omega
