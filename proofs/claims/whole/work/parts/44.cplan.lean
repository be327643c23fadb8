/-! the class's plan -/
/-- a law as the class has it: none, or a Law with that code -/
def CLaw (S : mkS) (R : mkR) (I : mkI) (r : Option Nat) (ops : List Nat) : Prop := (ops = [] ∧ r = none) ∨ (ops ≠ [] ∧ ∃ a ca sa, r = some a ∧ 221 ≤ a ∧ 221 ≤ ca ∧ 221 ≤ sa ∧ LawS S R a ca sa ops.length ∧ ∀ j, j < ops.length → I ca j = nI (ops.getD j 0))
def CPlan (P : PL) (S : mkS) (R : mkR) (I : mkI) (p : Nat) : Prop := S p = (17, 0) ∧ 128 ≤ p ∧ (I p 0 = nI (pW P) ∧ I p 1 = nI (pC P) ∧ I p 2 = nI (pT P)) ∧ (∃ ra, R p 3 = some ra ∧ 128 ≤ ra ∧ S ra = (1, 3) ∧ ∀ k, k < pC P → I ra k = pRe P k) ∧ (∃ la, R p 4 = some la ∧ 128 ≤ la ∧ S la = (1, 64) ∧ ∀ i j, i < pW P → j < pW P → I la (8 * i + j) = aLikes P (nI i) (nI j)) ∧ CLaw S R I (R p 5) (pS P) ∧ CLaw S R I (R p 6) (pM P)
section CP
variable {S : mkS} {I : mkI} {L : mkL} {R : mkR} {n : Nat × Nat} {p : Nat} {P : PL}
theorem c_reachOf (hP : PlOK P) (h : CPlan P S R I p) {k : Nat} (hk : k < pC P) : F_X8_reachOf (some p) (nI k) (mk S I L R n) = some (pRe P k, mk S I L R n) := by
  obtain ⟨s1, -, -, ⟨ra, r1, -, r2, r3⟩, -⟩ := h
  have w3 := hP.2.2.1
  have g : gR (mk S I L R n) (some p) 8 3 = some (some ra) := (mk_gR (by rw [s1]) rfl).trans (by rw [r1])
  have e : ¬ (3 : Int32) ≤ nI k := nI_ge (b := 3) (by omega) (by omega)
  unfold F_X8_reachOf F_X8_reachOf_19
  rw [if_neg (nI_pos (by omega)), if_neg e, g, Option.bind_some, mk_aJ0 r2 (by omega) (by decide), Option.bind_some, r3 k hk]
theorem c_liking (hP : PlOK P) (h : CPlan P S R I p) {i j : Nat} (hi : i < pW P) (hj : j < pW P) : F_X8_liking (some p) (nI i) (nI j) (mk S I L R n) = some (aLikes P (nI i) (nI j), mk S I L R n) := by
  obtain ⟨s1, -, -, -, ⟨la, r1, -, r2, r3⟩, -⟩ := h
  have w2 := hP.2.1
  have g : gR (mk S I L R n) (some p) 8 4 = some (some la) := (mk_gR (by rw [s1]) rfl).trans (by rw [r1])
  have e1 : ¬ (8 : Int32) ≤ nI i := nI_ge (b := 8) (by omega) (by omega)
  have e2 : ¬ (8 : Int32) ≤ nI j := nI_ge (b := 8) (by omega) (by omega)
  have e4 : nI i * (8 : Int32) + nI j = nI (8 * i + j) := by
    rw [show (8 : Int32) = nI 8 from rfl, nI_mul9, nI_add, Nat.mul_comm]
  unfold F_X8_liking F_X8_liking_25 F_X8_liking_45
  rw [if_neg (nI_pos (by omega)), if_neg e1, if_neg (nI_pos (by omega)), if_neg e2, if_neg (by decide), g, Option.bind_some, e4, mk_aJ0 r2 (by omega) (by decide), Option.bind_some, r3 i j hi hj]
end CP
