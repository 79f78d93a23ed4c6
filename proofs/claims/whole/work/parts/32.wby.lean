/-- byte k of a long, as the reference and as the class take it -/
def wbR (y : Int64) (k : Int32) : Int32 := ((y >>> (((8 : Int32) * k).toInt64 &&& 63)) &&& (255 : Int64)).toInt32
def wbC (y : Int64) (k : Int32) : Int32 := (((y.toUInt64 >>> (k.toInt64.toUInt64 &&& Int64.toUInt64 63)).toInt64).toInt32) &&& (255 : Int32)
theorem wb_eq (y : Int64) (k : Fin 8) : wbR y (nI k.1) = wbC y (nI (8 * k.1)) := by
  have h1 : ∀ k : Fin 8, (((8 : Int32) * nI k.1).toInt64 &&& 63) = Int64.ofNat (8 * k.1) := by decide +kernel
  have h2 : ∀ k : Fin 8, ((nI (8 * k.1)).toInt64.toUInt64 &&& Int64.toUInt64 63) = UInt64.ofNat (8 * k.1) := by decide +kernel
  unfold wbR wbC
  rw [h1 k, h2 k]
  apply Int32.toBitVec_inj.mp
  obtain ⟨n, hn⟩ := k
  have e1 : (y >>> Int64.ofNat (8 * n)).toBitVec = y.toBitVec.sshiftRight (8 * n) := by
    have : ∀ n : Fin 8, (Int64.ofNat (8 * n.1)).toBitVec.smod 64 = BitVec.ofNat 64 (8 * n.1) := by decide +kernel
    have h := this ⟨n, hn⟩
    rw [Int64.toBitVec_shiftRight, h, BitVec.sshiftRight_eq', BitVec.toNat_ofNat, Nat.mod_eq_of_lt (by omega)]
  have e2 : (y.toUInt64 >>> UInt64.ofNat (8 * n)).toBitVec = y.toBitVec >>> (8 * n) := by
    rw [UInt64.toBitVec_shiftRight]
    have : ∀ n : Fin 8, (UInt64.ofNat (8 * n.1)).toBitVec % 64#64 = BitVec.ofNat 64 (8 * n.1) := by decide +kernel
    have h := this ⟨n, hn⟩
    show y.toBitVec >>> ((UInt64.ofNat (8 * n)).toBitVec % 64#64) = _
    rw [h, BitVec.ushiftRight_eq', BitVec.toNat_ofNat, Nat.mod_eq_of_lt (by omega)]
  have e3 : ((y >>> Int64.ofNat (8 * n)) &&& (255 : Int64)).toInt32.toBitVec = ((y.toBitVec.sshiftRight (8 * n)) &&& 255#64).setWidth 32 := by
    rw [Int64.toBitVec_toInt32, BitVec.signExtend_eq_setWidth_of_le _ (by decide), Int64.toBitVec_and, e1]
    rfl
  have e4 : ((((y.toUInt64 >>> UInt64.ofNat (8 * n)).toInt64).toInt32) &&& (255 : Int32)).toBitVec = ((y.toBitVec >>> (8 * n)).setWidth 32) &&& 255#32 := by
    rw [Int32.toBitVec_and, Int64.toBitVec_toInt32, BitVec.signExtend_eq_setWidth_of_le _ (by decide)]
    show ((y.toUInt64 >>> UInt64.ofNat (8 * n)).toBitVec.setWidth 32) &&& _ = _
    rw [e2]
    rfl
  rw [e3, e4]
  apply BitVec.eq_of_getLsbD_eq
  intro i hi
  have h255a : ∀ i : Fin 32, (255#64).getLsbD i.1 = decide (i.1 < 8) := by decide +kernel
  have h255b : ∀ i : Fin 32, (255#32).getLsbD i.1 = decide (i.1 < 8) := by decide +kernel
  rw [BitVec.getLsbD_setWidth, BitVec.getLsbD_and, BitVec.getLsbD_and, BitVec.getLsbD_setWidth, h255a ⟨i, hi⟩, h255b ⟨i, hi⟩, BitVec.getLsbD_sshiftRight, BitVec.getLsbD_ushiftRight]
  by_cases h8 : i < 8
  · simp only [h8, hi, decide_true, Bool.and_true, Bool.true_and]
    rw [if_pos (by omega)]
    have : ¬ 64 ≤ i := by omega
    simp [this]
  · simp only [h8, decide_false, Bool.and_false]
