/-! the reference: a minute, whole -/
/-- lines and minute as they are on a board -/
def BInv (P : PL) (C : Nat) (f : Nat → Int32) : Prop := (∃ M : Nat, M ≤ 1000000 ∧ f 0 = nI M) ∧ ∀ c, c < C → (∃ a, a < pW P ∧ f (11 + 7 * c) = nI a) ∧ ∃ b, b < pW P ∧ f (12 + 7 * c) = nI b
def frcOK (P : PL) (frc : Nat → Int32) : Prop := ∀ c, c < 10 → frc c = -1 ∨ ∃ b, b < pW P ∧ frc c = nI b
theorem bdd_nI {k : Nat} (h : k ≤ 1000000) : bdd (nI k) := by unfold bdd; rw [nI_toInt (by omega)]; omega
theorem bdd_rem60 {M : Nat} (h : M ≤ 1000000) : bdd (remI (nI M) 60) := by
  have e : remI (nI M) 60 = nI (M % 60) := pk_rem (a := M) (d := 60) (by omega) (by omega) (by omega)
  rw [e]; exact bdd_nI (by omega)
theorem bdd_vr {a b c d e g : Int32} (h1 : bdd a) (h2 : bdd b) (h3 : bdd c) (h4 : bdd d) (h5 : bdd e) (h6 : bdd g) (j : Nat) : bdd (vr a b c d e g j) := by
  unfold vr; split <;> assumption
theorem aCame_lt {P : PL} (hP : PlOK P) {C : Nat} {f : Nat → Int32} (hI : BInv P C f) (hC : C ≤ 10) {frc : Nat → Int32} (hf : frcOK P frc) {c : Nat} (hc : c < C) : ∃ b, b < pW P ∧ aCame P frc f c = nI b := by
  unfold aCame
  by_cases t : frc c = -1
  · rw [if_pos t]
    obtain ⟨⟨M, hM, e0⟩, h2⟩ := hI
    obtain ⟨⟨a, ha, e1⟩, b, hb, e2⟩ := h2 c hc
    have w2 := hP.2.1
    rw [e0, e1, e2]
    by_cases hS : pS P = []
    · exact ⟨b, hb, by unfold aComes; rw [if_pos hS]⟩
    · refine aComes_lt hP hb _ _ _ (fun v hv => ?_)
      rw [hv]
      have z : bdd 0 := ⟨by decide, by decide⟩
      exact bdd_lawv (bdd_vr (bdd_nI (by omega)) (bdd_nI (by omega)) (bdd_rem60 hM) (bdd_nI (by omega)) z z) (hP.2.2.2.1.2.1 hS)
  · rw [if_neg t]
    exact (hf c (by omega)).resolve_left t
theorem aPut_other {P : PL} {f : Nat → Int32} {c a b : Nat} {cord : Int32} (ha : a < 8) (hb : b < 8) {j : Nat} (h1 : j ≠ 15 + 7 * c) (h2 : j ≠ 16 + 7 * c) (h3 : j ≠ 17 + 7 * c) (h4 : j < 3 ∨ 11 ≤ j) : aPut P f c (nI a) (nI b) cord j = f j := by
  unfold aPut
  rw [nI_clamp (by omega), nI_clamp (by omega)]
  split
  · rw [up1_ne _ _ h1]
  · split
    · rw [up1_ne _ _ (by omega), up1_ne _ _ (by omega), up1_ne _ _ h3, up1_ne _ _ h2, up1_ne _ _ h1]
    · rw [up1_ne _ _ h3, up1_ne _ _ h2, up1_ne _ _ h1]
theorem BInv.beg {P : PL} (hP : PlOK P) {C : Nat} {f : Nat → Int32} (hI : BInv P C f) (hC : C ≤ 10) {frc : Nat → Int32} (hf : frcOK P frc) {c : Nat} (hc : c < C) : BInv P C (aBegin P frc C f c) := by
  obtain ⟨b, hb, eb⟩ := aCame_lt hP hI hC hf hc
  obtain ⟨⟨a, ha, ea⟩, -⟩ := hI.2 c hc
  have w2 := hP.2.1
  unfold aBegin
  rw [ea, eb]
  refine ⟨?_, fun d hd => ?_⟩
  · rw [aPut_other (by omega) (by omega) (by omega) (by omega) (by omega) (by omega)]; exact hI.1
  · rw [aPut_other (by omega) (by omega) (by omega) (by omega) (by omega) (by omega), aPut_other (by omega) (by omega) (by omega) (by omega) (by omega) (by omega)]; exact hI.2 d hd
section RN
variable {S : mkS} {L : mkL} {R : mkR} {n : Nat × Nat}
theorem e_begL (hs : St S R) {P : PL} (hP : PlOK P) (frc : Nat → Int32) (hf : frcOK P frc) {C : Nat} : ∀ (r g c : Nat) (I : mkI) (f : Nat → Int32), RPlan P (I 198) → RBoard C f (I 198) → BInv P C f → I 205 = frc → c + r = C → r < g → ∃ I', keepM I I' ∧ RBoard C (up1 (aBegL P frc C r c f) 0 (aBegL P frc C r c f 0 + 1)) (I' 198) ∧ I' 197 22 = aBitL P frc C r c f (I 197 22) ∧ F_X12_minute_75 g (some 197) (nI c) (mk S I L R n) = some (mk S I' L R n) := by
  intro r
  induction r with
  | zero =>
    intro g c I f hKP hB hI hfr hc hg
    obtain ⟨g, rfl⟩ : ∃ z, g = z + 1 := ⟨g - 1, by omega⟩
    have hB0 := hB
    obtain ⟨b1, b2, b3, b4, b5, b6, b7⟩ := hB
    have h1 : nI C ≤ nI c := nI_le (by omega) (by omega)
    refine ⟨up2 I 198 47 (f 0 + 1), keepM.k ⟨by decide, by decide⟩, by rw [up2_row]; exact rb_mi hB0 _, by rw [up2_ne _ _ _ (by decide)]; rfl, ?_⟩
    have e47 : ∀ x : Int32, sI (mk S I L R n) (some 198) 0 (47 : Int32) x = some (mk S (up2 I 198 47 x) L R n) := fun x => si_198 (k := 47) hs (by decide)
    simp only [F_X12_minute_75, cv_197 hs, e_calls hs, b2_some, b4, b2, h1, if_true, gr_197_0 hs, Option.bind_some, ail_198 hs (show 47 < 3205 by decide), b3, e47]
  | succ r ih =>
    intro g c I f hKP hB hI hfr hc hg
    obtain ⟨g, rfl⟩ : ∃ z, g = z + 1 := ⟨g - 1, by omega⟩
    have hB0 := hB
    obtain ⟨b1, b2, b3, b4, b5, b6, b7⟩ := hB
    have h1 : ¬ nI C ≤ nI c := nI_ge (by omega) (by omega)
    obtain ⟨q1, q2, q3, q4, q5, q6, q7⟩ := b7 c (by omega)
    simp only [F_X12_minute_75, cv_197 hs, e_calls hs, b2_some, b4, b2, h1, if_false, gr_197_0 hs, Option.bind_some, li_add 8, li_add 71, ai_198 hs (show 8 + c < 3205 by omega), ai_198 hs (show 71 + c < 3205 by omega), ail_198 hs (show 47 < 3205 by decide), q3, q5, b3, F_X12_minute_119, li_add' 1]
    show ∃ I' : mkI, keepM I I' ∧ RBoard C (up1 (aBegL P frc C r (c + 1) (aBeg1 P frc C f c)) 0 (aBegL P frc C r (c + 1) (aBeg1 P frc C f c) 0 + 1)) (I' 198) ∧ I' 197 22 = aBitL P frc C r (c + 1) (aBeg1 P frc C f c) (aBit1 P frc C f c (I 197 22)) ∧ _ = some (mk S I' L R n)
    unfold aBeg1 aBit1
    by_cases t1 : f (15 + 7 * c) = 0
    · rw [if_pos t1]
      by_cases t2 : f (13 + 7 * c) = f 0
      · rw [if_pos t2, if_pos ⟨t1, t2⟩, if_pos ⟨t1, t2⟩]
        obtain ⟨b, hb, eb⟩ := aCame_lt hP hI b1 hf (show c < C by omega)
        obtain ⟨⟨a, ha, ea⟩, -⟩ := hI.2 c (by omega)
        have w2 := hP.2.1
        obtain ⟨I1, k1, e1, B1, l1⟩ := e_callBegins (n := n) (L := L) hs hP I hKP hB0 (show c < C by omega) (show a < 8 by omega) (show b < 8 by omega) ea (by rw [hfr]; exact eb)
        rw [hfr] at B1 l1
        rw [e1, Option.bind_some]
        obtain ⟨I', k2, B2, l2, e2⟩ := ih g (c + 1) I1 (aBegin P frc C f c) (hKP.keep hP k1.2.2) B1 (hI.beg hP b1 hf (by omega)) (by rw [k1.1 _ (by decide) (by decide) (by decide) (by decide)]; exact hfr) (by omega) (by omega)
        exact ⟨I', k1.tr k2, B2, by rw [l2, l1], e2⟩
      · rw [if_neg t2, if_neg (fun h => t2 h.2), if_neg (fun h => t2 h.2)]
        exact ih g (c + 1) I f hKP hB0 hI hfr (by omega) (by omega)
    · rw [if_neg t1, if_neg (fun h => t1 h.1), if_neg (fun h => t1 h.1)]
      exact ih g (c + 1) I f hKP hB0 hI hfr (by omega) (by omega)
end RN
