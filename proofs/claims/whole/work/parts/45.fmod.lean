/-! floorMod -/
theorem neg_msb (x : Int32) : (x < 0) = (x.toBitVec.msb = true) := by
  rw [Int32.lt_iff_toInt_lt, BitVec.msb_eq_toInt]
  show (x.toInt < 0) = (decide (x.toInt < 0) = true)
  rw [decide_eq_true_eq]
theorem nn_lt (x : Int32) : (0 ≤ x) = ¬ (x < 0) := by
  rw [Int32.le_iff_toInt_le, Int32.lt_iff_toInt_lt]
  show (0 ≤ x.toInt) = ¬ (x.toInt < 0)
  apply propext
  omega
theorem xor_nn (x : Int32) {w : Nat} (hw : w < 2147483648) : (0 ≤ x ^^^ nI w) = (0 ≤ x) := by
  have h1 : (nI w).toBitVec.msb = false := by
    have h2 : ¬ nI w < 0 := nI_pos (by omega)
    rw [neg_msb] at h2
    simpa using h2
  rw [nn_lt, nn_lt, neg_msb, neg_msb, Int32.toBitVec_xor, BitVec.msb_xor, h1, Bool.xor_false]
