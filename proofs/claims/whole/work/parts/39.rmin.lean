/-! the reference: a call begins, a minute -/
section RH
variable {S : mkS} {L : mkL} {R : mkR} {n : Nat × Nat}
def aLostBit (P : PL) (frc : Nat → Int32) (C : Nat) (f : Nat → Int32) (c : Nat) (x : Int32) : Int32 := if aCordOf P C f (f (11 + 7 * c)) (aCame P frc f c) = -1 then x ||| ((1 : Int32) <<< (nI c &&& 31)) else x
set_option maxHeartbeats 4000000 in
theorem e_cb41 (hs : St S R) {P : PL} (hP : PlOK P) (I : mkI) (hKP : RPlan P (I 198)) {C : Nat} {f : Nat → Int32} (hB : RBoard C f (I 198)) {c a b : Nat} (hc : c < C) (ha : a < 8) (hb : b < 8) (hfr : f (11 + 7 * c) = nI a) :
    ∃ I', keepM I I' ∧ F_X12_callBegins_41 (some 197) (nI c) (nI a) (nI b) (mk S I L R n) = some (mk S I' L R n) ∧ RBoard C (aPut P f c (nI a) (nI b) (aCordOf P C f (nI a) (nI b))) (I' 198) ∧ I' 197 22 = if aCordOf P C f (nI a) (nI b) = -1 then I 197 22 ||| ((1 : Int32) <<< (nI c &&& 31)) else I 197 22 := by
  unfold F_X12_callBegins_41 F_X12_callBegins_81 aCordOf
  have k46 : I 198 46 = f 2 := hB.2.2.2.2.1
  simp only [cv_197 hs, e_isShut hs, b2_some, b2i_0, k46, e_busy hs hB, e_free hs hP hKP hB]
  have key := fun cord => e_cb91 (n := n) (L := L) hs hP I hKP hB hc ha hb hfr cord
  by_cases t1 : nI b = nI a
  · rw [if_pos t1, if_pos t1]; exact key (-1)
  · rw [if_neg t1, if_neg t1]
    by_cases t2 : hasB (f 2) (nI a) = true
    · rw [if_neg (by rw [t2]; decide), if_pos t2]; exact key (-1)
    · rw [if_pos (by simpa using t2), if_neg t2]
      by_cases t3 : hasB (f 2) (nI b) = true
      · rw [if_neg (by rw [t3]; decide), if_pos t3]; exact key (-1)
      · rw [if_pos (by simpa using t3), if_neg t3]
        by_cases t4 : aBusy C f (nI a) = -1
        · rw [if_pos t4, if_pos t4]
          by_cases t5 : aBusy C f (nI b) = -1
          · rw [if_pos t5, if_pos t5]; exact key _
          · rw [if_neg t5, if_neg t5]; exact key (-1)
        · rw [if_neg t4, if_neg t4]; exact key (-1)
theorem e_callBegins (hs : St S R) {P : PL} (hP : PlOK P) (I : mkI) (hKP : RPlan P (I 198)) {C : Nat} {f : Nat → Int32} (hB : RBoard C f (I 198)) {c a b : Nat} (hc : c < C) (ha : a < 8) (hb : b < 8) (hfr : f (11 + 7 * c) = nI a) (hcm : aCame P (I 205) f c = nI b) :
    ∃ I', keepM I I' ∧ F_X12_callBegins (some 197) (nI c) (mk S I L R n) = some (mk S I' L R n) ∧ RBoard C (aBegin P (I 205) C f c) (I' 198) ∧ I' 197 22 = aLostBit P (I 205) C f c (I 197 22) := by
  have hC := hB.1
  obtain ⟨q1, q2, q3, q4, q5, q6, q7⟩ := hB.2.2.2.2.2.2 c hc
  have s3 := hB.2.2.1
  unfold F_X12_callBegins aBegin aLostBit
  rw [hfr] at q1 ⊢
  rw [hcm]
  simp only [gr_197_0 hs, gr_197_21 hs, Option.bind_some, li_add 51, ai_198 hs (show 51 + c < 3205 by omega), q1, ai_205 hs (show c < 10 by omega), ail_198 hs (show 47 < 3205 by decide), cv_197 hs]
  unfold aCame at hcm
  by_cases t : I 205 c = -1
  · rw [if_pos t] at hcm ⊢
    obtain ⟨I1, k1, e1⟩ := e_comesBy (n := n) (L := L) hs hP I hKP (show c < 10 by omega) (I 198 47)
    rw [q1, q2, s3, ← hfr, hcm] at e1
    rw [s3, e1, b2_some]
    have u1 : I1 198 = I 198 := k1 _ (by decide) (by decide)
    have m1 : I1 197 = I 197 := k1 _ (by decide) (by decide)
    obtain ⟨I2, k2, e2, B2, l2⟩ := e_cb41 (n := n) (L := L) hs hP I1 (by rw [u1]; exact hKP) (by rw [u1]; exact hB) hc ha hb hfr
    exact ⟨I2, (keepM.ofA k1).tr k2, e2, B2, by rw [l2, m1]⟩
  · rw [if_neg t] at hcm ⊢
    rw [hcm]
    exact e_cb41 (n := n) (L := L) hs hP I hKP hB hc ha hb hfr
end RH
