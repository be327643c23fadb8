/-! the reference's minute -/
def aMin (P : PL) (frc : Nat → Int32) (C : Nat) (f : Nat → Int32) : Nat → Int32 := up1 (aBegL P frc C C 0 (aOverL C 0 f)) 0 (aBegL P frc C C 0 (aOverL C 0 f) 0 + 1)
def aMinB (P : PL) (frc : Nat → Int32) (C : Nat) (f : Nat → Int32) : Int32 := aBitL P frc C C 0 (aOverL C 0 f) 0
theorem aOver1_other {f : Nat → Int32} {c j : Nat} (h : j ≠ 15 + 7 * c) : aOver1 f c j = f j := by
  unfold aOver1; split
  · rw [up1_ne _ _ h]
  · rfl
theorem aOverL_other : ∀ (r c : Nat) (f : Nat → Int32) (j : Nat), (∀ d, j ≠ 15 + 7 * d) → aOverL r c f j = f j
  | 0, _, _, _, _ => rfl
  | r + 1, c, f, j, h => by
    show aOverL r (c + 1) (aOver1 f c) j = f j
    rw [aOverL_other r (c + 1) _ j h, aOver1_other (h c)]
theorem BInv.over {P : PL} {C : Nat} {f : Nat → Int32} (hI : BInv P C f) (r c : Nat) : BInv P C (aOverL r c f) := by
  refine ⟨?_, fun d hd => ?_⟩
  · rw [aOverL_other r c f 0 (fun d => by omega)]; exact hI.1
  · rw [aOverL_other r c f (11 + 7 * d) (fun e => by omega), aOverL_other r c f (12 + 7 * d) (fun e => by omega)]; exact hI.2 d hd
section RO
variable {S : mkS} {L : mkL} {R : mkR} {n : Nat × Nat}
theorem e_minute (hs : St S R) {P : PL} (hP : PlOK P) (I : mkI) (hKP : RPlan P (I 198)) {C : Nat} {f : Nat → Int32} (hB : RBoard C f (I 198)) (hI : BInv P C f) (hf : frcOK P (I 205)) : ∃ I', keepM I I' ∧ RBoard C (aMin P (I 205) C f) (I' 198) ∧ I' 197 22 = aMinB P (I 205) C f ∧ F_X12_minute (some 197) (mk S I L R n) = some (mk S I' L R n) := by
  have hC := hB.1
  have k0 : keepM I (up2 I 197 22 0) := ⟨fun a q1 _ _ _ => up2_ne _ _ _ q1, fun k q => by rw [up2_row, up1_ne _ _ q], fun k _ => by rw [up2_ne _ _ _ (by decide)]⟩
  have u0 : up2 I 197 22 0 198 = I 198 := up2_ne _ _ _ (by decide)
  obtain ⟨I1, k1, m1, B1, e1⟩ := e_overL (n := n) (L := L) hs C mm_N 0 (up2 I 197 22 0) f (by rw [u0]; exact hB) (by omega) (by show C < 1000000; omega)
  obtain ⟨I2, k2, B2, l2, e2⟩ := e_begL (n := n) (L := L) hs hP (I 205) hf C mm_N 0 I1 (aOverL C 0 f) ((hKP.keep hP k0.2.2).keep hP k1.2.2) B1 (hI.over C 0) (by rw [k1.1 _ (by decide) (by decide) (by decide) (by decide), up2_ne _ _ _ (by decide)]) (by omega) (by show C < 1000000; omega)
  refine ⟨I2, (k0.tr k1).tr k2, B2, ?_, ?_⟩
  · rw [l2, m1 22, up2_self]; rfl
  · unfold F_X12_minute
    rw [pi_197_22 hs, Option.bind_some]
    have e1' : F_X12_minute_7 mm_N (some 197) 0 (mk S (up2 I 197 22 0) L R n) = F_X12_minute_75 mm_N (some 197) 0 (mk S I1 L R n) := e1
    have e2' : F_X12_minute_75 mm_N (some 197) 0 (mk S I1 L R n) = some (mk S I2 L R n) := e2
    rw [e1', e2']
end RO
