/-! bits -/
theorem nI_bv (a : Nat) : (nI a).toBitVec = BitVec.ofNat 32 a := rfl
theorem nI_or (a b : Nat) : nI a ||| nI b = nI (a ||| b) := Int32.toBitVec_inj.mp (by rw [Int32.toBitVec_or, nI_bv, nI_bv, nI_bv, BitVec.ofNat_or])
theorem nI_and (a b : Nat) : nI a &&& nI b = nI (a &&& b) := Int32.toBitVec_inj.mp (by rw [Int32.toBitVec_and, nI_bv, nI_bv, nI_bv, BitVec.ofNat_and])
theorem nI_xor (a b : Nat) : nI a ^^^ nI b = nI (a ^^^ b) := Int32.toBitVec_inj.mp (by rw [Int32.toBitVec_xor, nI_bv, nI_bv, nI_bv, BitVec.ofNat_xor])
theorem sh1 {c : Nat} (h : c < 31) : (1 : Int32) <<< (nI c &&& 31) = nI (2 ^ c) := by
  have : ∀ c < 31, (1 : Int32) <<< (nI c &&& 31) = nI (2 ^ c) := by decide +kernel
  exact this c h
theorem hasB_bit (v : Int32) {l : Nat} (h : l < 32) : hasB v (nI l) = v.toBitVec.getLsbD l := by
  have e1 : ∀ l < 32, (nI l &&& 31).toBitVec.smod 32 = BitVec.ofNat 32 l := by decide +kernel
  have e2 : (v >>> (nI l &&& 31)).toBitVec = v.toBitVec.sshiftRight l := by
    rw [Int32.toBitVec_shiftRight, e1 l h, BitVec.sshiftRight_eq', BitVec.toNat_ofNat, Nat.mod_eq_of_lt (by omega)]
  have e3 : ((v >>> (nI l &&& 31)) &&& 1 = 1) = (v.toBitVec.getLsbD l = true) := by
    rw [← Int32.toBitVec_inj, Int32.toBitVec_and, e2]
    show (v.toBitVec.sshiftRight l &&& 1#32 = 1#32) = _
    rw [BitVec.and_one_eq_setWidth_ofBool_getLsbD, BitVec.getLsbD_sshiftRight]
    simp only [Nat.add_zero, h, if_true]
    cases v.toBitVec.getLsbD l <;> simp
  unfold hasB
  simp only [e3, Bool.decide_eq_true]
theorem hasB_nI {v l : Nat} (hl : l < 31) : hasB (nI v) (nI l) = v.testBit l := by
  rw [hasB_bit _ (by omega), nI_bv, BitVec.getLsbD_ofNat]
  simp; omega
theorem bit_or (v : Int32) {a c : Nat} (ha : a < 31) (hc : c < 31) : hasB (v ||| (1 : Int32) <<< (nI c &&& 31)) (nI a) = (hasB v (nI a) || decide (a = c)) := by
  rw [hasB_bit _ (by omega), hasB_bit _ (by omega), sh1 hc, Int32.toBitVec_or, BitVec.getLsbD_or, nI_bv, BitVec.getLsbD_ofNat, Nat.testBit_two_pow]
  have e : decide (a < 32) = true := by simp; omega
  rw [e, Bool.true_and]
  congr 1
  by_cases q : a = c
  · subst q; simp
  · have q2 : ¬ c = a := fun w => q w.symm
    simp [q, q2]
theorem reach_both (v : Int32) {a b : Nat} (ha : a < 31) (hb : b < 31) : (v &&& (((1 : Int32) <<< (nI a &&& 31)) ||| ((1 : Int32) <<< (nI b &&& 31))) = (((1 : Int32) <<< (nI a &&& 31)) ||| ((1 : Int32) <<< (nI b &&& 31)))) = ((hasB v (nI a) && hasB v (nI b)) = true) := by
  rw [hasB_bit _ (by omega), hasB_bit _ (by omega), sh1 ha, sh1 hb, nI_or]
  refine propext ⟨fun h => ?_, fun h => ?_⟩
  · have h1 := congrArg (fun z : Int32 => z.toBitVec.getLsbD a) h
    have h2 := congrArg (fun z : Int32 => z.toBitVec.getLsbD b) h
    simp only [Int32.toBitVec_and, nI_bv, BitVec.getLsbD_and, BitVec.getLsbD_ofNat, Nat.testBit_or, Nat.testBit_two_pow] at h1 h2
    have e1 : decide (a < 32) = true := by simp; omega
    have e2 : decide (b < 32) = true := by simp; omega
    simp [e1, e2] at h1 h2
    rw [h1, h2]; rfl
  · rw [Bool.and_eq_true] at h
    refine Int32.toBitVec_inj.mp (BitVec.eq_of_getLsbD_eq fun i hi => ?_)
    simp only [Int32.toBitVec_and, nI_bv, BitVec.getLsbD_and, BitVec.getLsbD_ofNat, Nat.testBit_or, Nat.testBit_two_pow]
    have e1 : decide (i < 32) = true := by simp; omega
    rw [e1, Bool.true_and]
    by_cases q1 : a = i
    · subst q1; simp [h.1]
    · by_cases q2 : b = i
      · subst q2; simp [h.2]
      · simp [q1, q2]
/-! a first one -/
theorem fnd_cases (p : Nat → Bool) : ∀ (r c : Nat), (fnd p r c = -1 ∧ ∀ k, c ≤ k → k < c + r → p k = false) ∨ ∃ k, c ≤ k ∧ k < c + r ∧ p k = true ∧ fnd p r c = nI k ∧ ∀ j, c ≤ j → j < k → p j = false
  | 0, c => .inl ⟨rfl, fun k h1 h2 => by omega⟩
  | r + 1, c => by
    by_cases h : p c = true
    · exact .inr ⟨c, Nat.le_refl _, by omega, h, by simp only [fnd, h, if_true], fun j h1 h2 => by omega⟩
    · have h' : p c = false := by simpa using h
      have e : fnd p (r + 1) c = fnd p r (c + 1) := by simp [fnd, h']
      rcases fnd_cases p r (c + 1) with ⟨h1, h2⟩ | ⟨k, h1, h2, h3, h4, h5⟩
      · refine .inl ⟨by rw [e, h1], fun k q1 q2 => ?_⟩
        by_cases q : k = c
        · subst q; exact h'
        · exact h2 k (by omega) (by omega)
      · refine .inr ⟨k, by omega, by omega, h3, by rw [e, h4], fun j q1 q2 => ?_⟩
        by_cases q : j = c
        · subst q; exact h'
        · exact h5 j (by omega) q2
theorem nI_nm1 {k : Nat} (h : k < 2147483648) : ¬ nI k = -1 := fun q => by
  have := congrArg Int32.toInt q
  rw [nI_toInt (by omega)] at this
  have e : (-1 : Int32).toInt = -1 := by decide
  omega
theorem fnd_none {p : Nat → Bool} {r : Nat} (hr : r ≤ 1000) : (fnd p r 0 = -1) = ∀ k, k < r → p k = false := by
  refine propext ⟨fun h => ?_, fun h => ?_⟩
  · rcases fnd_cases p r 0 with ⟨h1, h2⟩ | ⟨k, h1, h2, h3, h4, h5⟩
    · exact fun k hk => h2 k (Nat.zero_le _) (by omega)
    · rw [h4] at h; exact absurd h (nI_nm1 (by omega))
  · rcases fnd_cases p r 0 with ⟨h1, h2⟩ | ⟨k, h1, h2, h3, h4, h5⟩
    · exact h1
    · rw [h k (by omega)] at h3; cases h3
