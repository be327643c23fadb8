/-! the class's board -/
def BdS (S : mkS) (R : mkR) (b ca co : Nat) : Prop := S b = (9, 0) ∧ R b 0 = some ca ∧ R b 1 = some co ∧ S ca = (1, 81) ∧ 128 ≤ b ∧ 128 ≤ ca
theorem nI_mul9 (a b : Nat) : nI a * nI b = nI (a * b) := (Int32.ofNat_mul a b).symm
section CB
variable {S : mkS} {I : mkI} {L : mkL} {R : mkR} {n : Nat × Nat} {b ca co : Nat}
theorem bd_g (h : BdS S R b ca co) : gR (mk S I L R n) (some b) 0 0 = some (some ca) := (mk_gR (by rw [h.1]) rfl).trans (by rw [h.2.1])
theorem bd_a (h : BdS S R b ca co) {k : Nat} (hk : k < 81) : aI (mk S I L R n) (some ca) 0 (nI k) = some (I ca k) := mk_aJ0 h.2.2.2.1 hk (by decide)
theorem bd_s (h : BdS S R b ca co) {k : Nat} {x : Int32} (hk : k < 81) : sI (mk S I L R n) (some ca) 0 (nI k) x = some (mk S (up2 I ca k x) L R n) := mk_sJ0 h.2.2.2.1 hk (by decide) h.2.2.2.2.2
theorem bd_v (h : BdS S R b ca co) {α : Type} {q : Option α} : cV (mk S I L R n) (some b) 0 q = q := mk_cV (by rw [h.1])
theorem c_calls (h : BdS S R b ca co) : F_X0_calls (some b) (mk S I L R n) = some (I ca 1, mk S I L R n) := by
  unfold F_X0_calls
  rw [bd_g h, Option.bind_some, show (1 : Int32) = nI 1 from rfl, bd_a h (by decide), Option.bind_some]
theorem c_minute (h : BdS S R b ca co) : F_X0_minute (some b) (mk S I L R n) = some (I ca 0, mk S I L R n) := by
  unfold F_X0_minute
  rw [bd_g h, Option.bind_some, show (0 : Int32) = nI 0 from rfl, bd_a h (by decide), Option.bind_some]
theorem c_fact (h : BdS S R b ca co) {C c w : Nat} (hC : C ≤ 10) (h1 : I ca 1 = nI C) (hc : c < C) (hw : w < 7) : F_X0_fact (some b) (nI c) (nI w) (mk S I L R n) = some (I ca (11 + 7 * c + w), mk S I L R n) := by
  have e1 : ¬ nI C ≤ nI c := nI_ge (by omega) (by omega)
  have e2 : ¬ (10 : Int32) ≤ nI c := nI_ge (b := 10) (by omega) (by omega)
  have e3 : ¬ (7 : Int32) ≤ nI w := nI_ge (b := 7) (by omega) (by omega)
  have e4 : (11 : Int32) + nI c * (7 : Int32) + nI w = nI (11 + 7 * c + w) := by
    rw [show (7 : Int32) = nI 7 from rfl, show (11 : Int32) = nI 11 from rfl, nI_mul9, nI_add, nI_add, Nat.mul_comm]
  have g1 : aI (mk S I L R n) (some ca) 0 (1 : Int32) = some (nI C) := by rw [← h1]; exact bd_a (k := 1) h (by decide)
  unfold F_X0_fact F_X0_fact_35 F_X0_fact_58
  rw [if_neg (nI_pos (by omega)), bd_g h, Option.bind_some, g1, Option.bind_some, if_neg e1, if_neg e2, if_neg (nI_pos (by omega)), if_neg e3, if_neg (by decide), Option.bind_some, e4, bd_a h (by omega), Option.bind_some]
theorem c_setFact (h : BdS S R b ca co) {C c w : Nat} (hC : C ≤ 10) (h1 : I ca 1 = nI C) (hc : c < C) (hw : w < 7) (x : Int32) : F_X0_setFact (some b) (nI c) (nI w) x (mk S I L R n) = some (mk S (up2 I ca (11 + 7 * c + w) x) L R n) := by
  have e1 : ¬ nI C ≤ nI c := nI_ge (by omega) (by omega)
  have e2 : ¬ (10 : Int32) ≤ nI c := nI_ge (b := 10) (by omega) (by omega)
  have e3 : ¬ (7 : Int32) ≤ nI w := nI_ge (b := 7) (by omega) (by omega)
  have e4 : (11 : Int32) + nI c * (7 : Int32) + nI w = nI (11 + 7 * c + w) := by
    rw [show (7 : Int32) = nI 7 from rfl, show (11 : Int32) = nI 11 from rfl, nI_mul9, nI_add, nI_add, Nat.mul_comm]
  have g1 : aI (mk S I L R n) (some ca) 0 (1 : Int32) = some (nI C) := by rw [← h1]; exact bd_a (k := 1) h (by decide)
  unfold F_X0_setFact F_X0_setFact_45
  rw [if_neg (nI_pos (by omega)), bd_g h, Option.bind_some, g1, Option.bind_some, if_neg e1, if_neg e2, if_neg (nI_pos (by omega)), if_neg e3, Option.bind_some, e4, bd_s h (by omega), Option.bind_some]
theorem c_isToCome (h : BdS S R b ca co) {C c : Nat} (hC : C ≤ 10) (h1 : I ca 1 = nI C) (hc : c < C) : F_X0_isToCome (some b) (nI c) (mk S I L R n) = some (b2i (decide (I ca (15 + 7 * c) = 0)), mk S I L R n) := by
  unfold F_X0_isToCome F_X0_isToCome_14
  rw [bd_v h, show (4 : Int32) = nI 4 from rfl, c_fact h hC h1 hc (by decide), b2_some, show 11 + 7 * c + 4 = 15 + 7 * c by omega]
  by_cases q : I ca (15 + 7 * c) = 0 <;> simp [q, rZ, b2i]
theorem c_isOn (h : BdS S R b ca co) {C c : Nat} (hC : C ≤ 10) (h1 : I ca 1 = nI C) (hc : c < C) : F_X0_isOn (some b) (nI c) (mk S I L R n) = some (b2i (decide (I ca (15 + 7 * c) = 1)), mk S I L R n) := by
  unfold F_X0_isOn F_X0_isOn_15
  rw [bd_v h, show (4 : Int32) = nI 4 from rfl, c_fact h hC h1 hc (by decide), b2_some, show 11 + 7 * c + 4 = 15 + 7 * c by omega]
  by_cases q : I ca (15 + 7 * c) = 1 <;> simp [q, rZ, b2i]
theorem c_wasOn (h : BdS S R b ca co) {C c : Nat} (hC : C ≤ 10) (h1 : I ca 1 = nI C) (hc : c < C) : F_X0_wasOn (some b) (nI c) (mk S I L R n) = some (b2i (decide (I ca (16 + 7 * c) ≠ -1)), mk S I L R n) := by
  unfold F_X0_wasOn F_X0_wasOn_15
  rw [bd_v h, show (5 : Int32) = nI 5 from rfl, c_fact h hC h1 hc (by decide), b2_some, show 11 + 7 * c + 5 = 16 + 7 * c by omega]
  by_cases q : I ca (16 + 7 * c) = -1 <;> simp [q, rZ, b2i]
theorem c_endOf (h : BdS S R b ca co) {C c : Nat} (hC : C ≤ 10) (h1 : I ca 1 = nI C) (hc : c < C) : F_X0_endOf (some b) (nI c) (mk S I L R n) = some (I ca (13 + 7 * c) + I ca (14 + 7 * c), mk S I L R n) := by
  unfold F_X0_endOf
  rw [bd_v h, show (2 : Int32) = nI 2 from rfl, c_fact h hC h1 hc (by decide), b2_some, bd_v h, show (3 : Int32) = nI 3 from rfl, c_fact h hC h1 hc (by decide), b2_some, show 11 + 7 * c + 2 = 13 + 7 * c by omega, show 11 + 7 * c + 3 = 14 + 7 * c by omega]
end CB
