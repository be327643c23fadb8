/-! bits of calls -/
def orB (p : Nat → Bool) : List Nat → Nat → Nat
  | [], v => v
  | c :: t, v => orB p t (if p c = true then v ||| 2 ^ c else v)
theorem orB_bit {p : Nat → Bool} : ∀ (l : List Nat) (v d : Nat), (orB p l v).testBit d = (v.testBit d || (decide (d ∈ l) && p d))
  | [], v, d => by simp [orB]
  | c :: t, v, d => by
    rw [orB, orB_bit t]
    by_cases h : p c = true
    · rw [if_pos h, Nat.testBit_or, Nat.testBit_two_pow]
      by_cases e : c = d
      · subst e; simp [h]
      · have e' : ¬ d = c := fun z => e z.symm
        simp [e, e']
    · rw [if_neg h]
      by_cases e : d = c
      · subst e; simp [h]
      · simp [e]
theorem orB_lt {p : Nat → Bool} {m : Nat} : ∀ (l : List Nat) (v : Nat), (∀ c ∈ l, c < m) → v < 2 ^ m → orB p l v < 2 ^ m
  | [], v, _, h => h
  | c :: t, v, hl, h => by
    rw [orB]
    refine orB_lt t _ (fun d hd => hl d (List.mem_cons_of_mem _ hd)) ?_
    split
    · exact Nat.or_lt_two_pow h (Nat.pow_lt_pow_right (by decide) (hl c List.mem_cons_self))
    · exact h
theorem sub_bits (s v : Nat) (hs : s < 1024) (hv : v < 1024) : (nI s &&& (nI v ^^^ (-1)) = 0) ↔ ∀ d, s.testBit d = true → v.testBit d = true := by
  rw [← Int32.toBitVec_inj, Int32.toBitVec_and, Int32.toBitVec_xor]
  show (BitVec.ofNat 32 s &&& (BitVec.ofNat 32 v ^^^ (-1#32)) = 0#32) ↔ _
  have e1 : (-1#32) = BitVec.allOnes 32 := by decide
  rw [e1, BitVec.xor_allOnes]
  constructor
  · intro h d hd
    have hd32 : d < 32 := by
      refine Nat.lt_of_not_le (fun q => ?_)
      have hsd : s < 2 ^ d := Nat.lt_of_lt_of_le hs (show 2 ^ 10 ≤ 2 ^ d from Nat.pow_le_pow_right (by decide) (show 10 ≤ d by omega))
      rw [Nat.testBit_lt_two_pow hsd] at hd
      cases hd
    have := congrArg (fun z => z.getLsbD d) h
    simp only [BitVec.getLsbD_and, BitVec.getLsbD_not, BitVec.getLsbD_ofNat, hd32, decide_true, Bool.true_and, hd, BitVec.getLsbD_zero] at this
    simpa using this
  · intro h
    apply BitVec.eq_of_getLsbD_eq
    intro i hi
    simp only [BitVec.getLsbD_and, BitVec.getLsbD_not, BitVec.getLsbD_ofNat, hi, decide_true, Bool.true_and, BitVec.getLsbD_zero]
    cases e : s.testBit i with
    | false => simp
    | true => simp [h i e]
theorem and_bits (u m : Nat) : (u &&& m = 0) ↔ ∀ d, u.testBit d = true → m.testBit d = false := by
  constructor
  · intro h d hd
    have := congrArg (fun z => z.testBit d) h
    simp only [Nat.testBit_and, hd, Bool.true_and, Nat.zero_testBit] at this
    exact this
  · intro h
    apply Nat.eq_of_testBit_eq
    intro d
    rw [Nat.testBit_and, Nat.zero_testBit]
    cases e : u.testBit d with
    | false => rfl
    | true => rw [h d e]; rfl
theorem two_and {a b c d : Nat} : ((2 ^ a ||| 2 ^ b) &&& (2 ^ c ||| 2 ^ d) = 0) ↔ ¬ (a = c ∨ a = d ∨ b = c ∨ b = d) := by
  rw [and_bits]
  simp only [Nat.testBit_or, Nat.testBit_two_pow, Bool.or_eq_true, decide_eq_true_eq, Bool.or_eq_false_iff, decide_eq_false_iff_not]
  constructor
  · intro h q
    have h1 := h a (.inl rfl)
    have h2 := h b (.inr rfl)
    omega
  · intro h i hi
    omega
theorem shr_z (s c : Nat) (hs : s < 1024) (hc : c < 10) : (nI s >>> (nI c &&& 31) = 0) ↔ s < 2 ^ c := by
  have key : ∀ c < 10, ∀ s < 1024, (nI s >>> (nI c &&& 31) = 0) ↔ s < 2 ^ c := by decide +kernel
  exact key c hc s hs
theorem clr_bit (u c : Nat) (hu : u < 2 ^ c) (hc : c < 10) : nI (u ||| 2 ^ c) &&& (nI (2 ^ c) ^^^ (-1)) = nI u := by
  have hp : 2 ^ c ≤ 2 ^ 9 := Nat.pow_le_pow_right (by decide) (by omega)
  apply Int32.toBitVec_inj.mp
  rw [Int32.toBitVec_and, Int32.toBitVec_xor]
  show BitVec.ofNat 32 (u ||| 2 ^ c) &&& (BitVec.ofNat 32 (2 ^ c) ^^^ (-1#32)) = BitVec.ofNat 32 u
  have e1 : (-1#32) = BitVec.allOnes 32 := by decide
  rw [e1, BitVec.xor_allOnes]
  apply BitVec.eq_of_getLsbD_eq
  intro i hi
  simp only [BitVec.getLsbD_and, BitVec.getLsbD_not, BitVec.getLsbD_ofNat, hi, decide_true, Bool.true_and, Nat.testBit_or, Nat.testBit_two_pow]
  by_cases e : c = i
  · subst e
    rw [Nat.testBit_lt_two_pow hu]; simp
  · simp [e]
