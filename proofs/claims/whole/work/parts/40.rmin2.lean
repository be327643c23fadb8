/-! the reference: a minute -/
def aOver1 (f : Nat → Int32) (c : Nat) : Nat → Int32 := if f (15 + 7 * c) = 1 ∧ ¬ f 0 < f (13 + 7 * c) + f (14 + 7 * c) then up1 f (15 + 7 * c) 2 else f
def aOverL : Nat → Nat → (Nat → Int32) → Nat → Int32
  | 0, _, f => f
  | r + 1, c, f => aOverL r (c + 1) (aOver1 f c)
def aBeg1 (P : PL) (frc : Nat → Int32) (C : Nat) (f : Nat → Int32) (c : Nat) : Nat → Int32 := if f (15 + 7 * c) = 0 ∧ f (13 + 7 * c) = f 0 then aBegin P frc C f c else f
def aBegL (P : PL) (frc : Nat → Int32) (C : Nat) : Nat → Nat → (Nat → Int32) → Nat → Int32
  | 0, _, f => f
  | r + 1, c, f => aBegL P frc C r (c + 1) (aBeg1 P frc C f c)
def aBit1 (P : PL) (frc : Nat → Int32) (C : Nat) (f : Nat → Int32) (c : Nat) (x : Int32) : Int32 := if f (15 + 7 * c) = 0 ∧ f (13 + 7 * c) = f 0 then aLostBit P frc C f c x else x
def aBitL (P : PL) (frc : Nat → Int32) (C : Nat) : Nat → Nat → (Nat → Int32) → Int32 → Int32
  | 0, _, _, x => x
  | r + 1, c, f, x => aBitL P frc C r (c + 1) (aBeg1 P frc C f c) (aBit1 P frc C f c x)
section RM
variable {S : mkS} {L : mkL} {R : mkR} {n : Nat × Nat}
theorem e_overL (hs : St S R) {C : Nat} : ∀ (r g c : Nat) (I : mkI) (f : Nat → Int32), RBoard C f (I 198) → c + r = C → r < g → ∃ I', keepM I I' ∧ (∀ k, I' 197 k = I 197 k) ∧ RBoard C (aOverL r c f) (I' 198) ∧ F_X12_minute_7 g (some 197) (nI c) (mk S I L R n) = F_X12_minute_75 mm_N (some 197) 0 (mk S I' L R n) := by
  intro r
  induction r with
  | zero =>
    intro g c I f hB hc hg
    obtain ⟨g, rfl⟩ : ∃ z, g = z + 1 := ⟨g - 1, by omega⟩
    obtain ⟨b1, b2, b3, b4, b5, b6, b7⟩ := hB
    have h1 : nI C ≤ nI c := nI_le (by omega) (by omega)
    refine ⟨I, keepM.rf, fun _ => rfl, ⟨b1, b2, b3, b4, b5, b6, b7⟩, ?_⟩
    simp only [F_X12_minute_7, cv_197 hs, e_calls hs, b2_some, b4, b2, h1, if_true]
  | succ r ih =>
    intro g c I f hB hc hg
    have hB0 := hB
    obtain ⟨g, rfl⟩ : ∃ z, g = z + 1 := ⟨g - 1, by omega⟩
    obtain ⟨b1, b2, b3, b4, b5, b6, b7⟩ := hB
    have h1 : ¬ nI C ≤ nI c := nI_ge (by omega) (by omega)
    obtain ⟨q1, q2, q3, q4, q5, q6, q7⟩ := b7 c (by omega)
    simp only [F_X12_minute_7, cv_197 hs, e_calls hs, b2_some, b4, b2, h1, if_false, gr_197_0 hs, Option.bind_some, li_add 8, li_add 71, li_add 81, ai_198 hs (show 8 + c < 3205 by omega), ai_198 hs (show 71 + c < 3205 by omega), ai_198 hs (show 81 + c < 3205 by omega), ail_198 hs (show 47 < 3205 by decide), q3, q4, q5, b3, si_198 hs (show 8 + c < 3205 by omega), F_X12_minute_67, li_add' 1]
    show ∃ I' : mkI, keepM I I' ∧ (∀ k, I' 197 k = I 197 k) ∧ RBoard C (aOverL r (c + 1) (aOver1 f c)) (I' 198) ∧ _ = F_X12_minute_75 mm_N (some 197) 0 (mk S I' L R n)
    unfold aOver1
    by_cases t1 : f (15 + 7 * c) = 1
    · rw [if_pos t1]
      by_cases t2 : f 0 < f (13 + 7 * c) + f (14 + 7 * c)
      · rw [if_pos t2, if_neg (fun h => h.2 t2)]
        exact ih g (c + 1) I f hB0 (by omega) (by omega)
      · rw [if_neg t2, if_pos ⟨t1, t2⟩]
        obtain ⟨I', k1, k2, k3, k4⟩ := ih g (c + 1) (up2 I 198 (8 + c) 2) (up1 f (15 + 7 * c) 2) (by rw [up2_row]; exact rb_st hB0 (by omega) 2) (by omega) (by omega)
        exact ⟨I', (keepM.k ⟨by omega, by omega⟩).tr k1, fun k => by rw [k2 k, up2_ne _ _ _ (by decide)], k3, k4⟩
    · rw [if_neg t1, if_neg (fun h => t1 h.1)]
      exact ih g (c + 1) I f hB0 (by omega) (by omega)
end RM
