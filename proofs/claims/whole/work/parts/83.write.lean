/-! numbers cut to their sort -/
theorem bv_cut (x : BitVec 64) (m s : Nat) (h : m + s = 64) (hm : 0 < m) : (x <<< s).sshiftRight s = (x.signExtend m).signExtend 64 := by
  refine BitVec.eq_of_getLsbD_eq fun i hi => ?_
  rw [BitVec.getLsbD_sshiftRight, BitVec.getLsbD_signExtend, BitVec.msb_eq_getLsbD_last, BitVec.msb_eq_getLsbD_last, BitVec.getLsbD_shiftLeft, BitVec.getLsbD_shiftLeft, BitVec.getLsbD_signExtend, BitVec.getLsbD_signExtend]
  have a1 : ¬ 64 ≤ i := by omega
  by_cases h1 : i < m
  · have a2 : s + i < 64 := by omega
    simp [hi, h1, a1, a2]
  · have a2 : ¬ s + i < 64 := by omega
    have a3 : ¬ 63 < s := by omega
    have a4 : m - 1 < m := by omega
    have a5 : m - 1 < 64 := by omega
    have a6 : 63 - s = m - 1 := by omega
    simp [hi, h1, a1, a2, a3, a4, a5, a6]
theorem bv_dn (x : BitVec 64) (a b : Nat) (h1 : b ≤ a) (h2 : a ≤ 64) : (x.signExtend a).signExtend b = x.signExtend b := by
  refine BitVec.eq_of_getLsbD_eq fun i hi => ?_
  rw [BitVec.getLsbD_signExtend, BitVec.getLsbD_signExtend, BitVec.getLsbD_signExtend]
  have a1 : i < a := by omega
  have a2 : i < 64 := by omega
  simp [hi, a1, a2]
theorem bv_up {m : Nat} (y : BitVec m) (a : Nat) (h1 : m ≤ a) (h2 : a ≤ 64) (hm : 0 < m) : (y.signExtend a).signExtend 64 = y.signExtend 64 := by
  refine BitVec.eq_of_getLsbD_eq fun i hi => ?_
  rw [BitVec.getLsbD_signExtend, BitVec.getLsbD_signExtend, BitVec.getLsbD_signExtend, BitVec.msb_eq_getLsbD_last, BitVec.msb_eq_getLsbD_last, BitVec.getLsbD_signExtend, BitVec.msb_eq_getLsbD_last]
  by_cases q1 : i < a
  · simp [hi, q1]
  · have q2 : ¬ i < m := by omega
    have q3 : a - 1 < a := by omega
    by_cases q4 : a - 1 < m
    · have : a = m := by omega
      subst this
      simp [hi, q1, q3]
    · simp [hi, q1, q2, q3, q4]
def cutv (so : Nat) (v : Int64) : Int64 := if so = 0 then v.toInt32.toInt8.toInt32.toInt64 else if so = 1 then v.toInt32.toInt16.toInt32.toInt64 else if so = 2 then v.toInt32.toInt64 else v
def cutsh (so : Nat) : Int64 := ((64 : Int32) - ((8 : Int32) <<< (nI so &&& 31))).toInt64 &&& 63
theorem sh64 (v s : Int64) (k : Nat) (hk : s.toBitVec.smod 64 = BitVec.ofNat 64 k) (h : k < 64) : ((v <<< s) >>> s).toBitVec = (v.toBitVec <<< k).sshiftRight k := by
  rw [Int64.toBitVec_shiftRight, Int64.toBitVec_shiftLeft, hk, BitVec.sshiftRight_eq', BitVec.shiftLeft_eq', BitVec.toNat_ofNat, Nat.mod_eq_of_lt (by omega)]
theorem cut_eq {so : Nat} (h : so < 4) (v : Int64) : (v <<< cutsh so) >>> cutsh so = cutv so v := by
  rcases (show so = 0 ∨ so = 1 ∨ so = 2 ∨ so = 3 by omega) with rfl | rfl | rfl | rfl
  · refine Int64.toBitVec_inj.mp ?_
    rw [sh64 v (cutsh 0) 56 (by decide +kernel) (by decide), bv_cut _ 8 56 (by decide) (by decide)]
    show _ = (((v.toBitVec.signExtend 32).signExtend 8).signExtend 32).signExtend 64
    rw [bv_up _ 32 (by decide) (by decide) (by decide), bv_dn _ 32 8 (by decide) (by decide)]
  · refine Int64.toBitVec_inj.mp ?_
    rw [sh64 v (cutsh 1) 48 (by decide +kernel) (by decide), bv_cut _ 16 48 (by decide) (by decide)]
    show _ = (((v.toBitVec.signExtend 32).signExtend 16).signExtend 32).signExtend 64
    rw [bv_up _ 32 (by decide) (by decide) (by decide), bv_dn _ 32 16 (by decide) (by decide)]
  · refine Int64.toBitVec_inj.mp ?_
    rw [sh64 v (cutsh 2) 32 (by decide +kernel) (by decide), bv_cut _ 32 32 (by decide) (by decide)]
    rfl
  · refine Int64.toBitVec_inj.mp ?_
    rw [sh64 v (cutsh 3) 0 (by decide +kernel) (by decide), bv_cut _ 64 0 (by decide) (by decide), bv_dn _ 64 64 (by decide) (by decide)]
    show v.toBitVec.signExtend 64 = v.toBitVec
    exact BitVec.signExtend_eq _
