/-! the most calls: the reference -/
def I28 : BA → Int32
  | none => -1
  | some p => nI p.1
def I29 : BA → Int32
  | none => 536870912
  | some p => nI p.2
def BAok : BA → Prop
  | none => True
  | some p => p.1 ≤ 10 ∧ p.2 < 1024
def kRow (κ : KP) (d : Nat) : Int32 := match κ d with
  | none => -1
  | some k => nI k
section EB
variable {S : mkS} {L : mkL} {R : mkR} {n : Nat × Nat} {P : PL} {C M : Nat} {f : Nat → Int32} {F T A D : Nat → Nat}
def shI (f : Nat → Int32) (c : Nat) (x y : Int32) : Bool := decide (f (11 + 7 * c) = x ∨ f (11 + 7 * c) = y ∨ f (12 + 7 * c) = x ∨ f (12 + 7 * c) = y)
theorem rk (hs : St S R) {I : mkI} {z c : Nat} {x : Int32} (h : z + c < 3205) (hx : I 198 (z + c) = x) : aI (mk S I L R n) (some 198) 0 (nI z + nI c) = some x := by
  rw [nI_add, ai_198 hs h, hx]
theorem e_shares (hs : St S R) {I : mkI} (hB : RBoard C f (I 198)) {c : Nat} (hc : c < C) (x y : Int32) : F_X12_sharesLine (some 197) (nI c) x y (mk S I L R n) = some (b2i (shI f c x y), mk S I L R n) := by
  have hC := hB.1
  obtain ⟨b1, b2, -⟩ := hB.2.2.2.2.2.2 c hc
  have r1 : aI (mk S I L R n) (some 198) 0 (51 + nI c) = some (f (11 + 7 * c)) := rk hs (z := 51) (by omega) b1
  have r2 : aI (mk S I L R n) (some 198) 0 (61 + nI c) = some (f (12 + 7 * c)) := rk hs (z := 61) (by omega) b2
  unfold F_X12_sharesLine F_X12_sharesLine_52 F_X12_sharesLine_57 shI
  simp only [gr_197_0 hs, Option.bind_some, r1, r2, rZ_1, rZ_0]
  by_cases e1 : f (11 + 7 * c) = x
  · rw [if_pos e1, decide_eq_true (.inl e1)]
  · rw [if_neg e1]
    by_cases e2 : f (11 + 7 * c) = y
    · rw [if_pos e2, decide_eq_true (.inr (.inl e2))]
    · rw [if_neg e2]
      by_cases e3 : f (12 + 7 * c) = x
      · rw [if_pos e3, decide_eq_true (.inr (.inr (.inl e3)))]
      · rw [if_neg e3]
        by_cases e4 : f (12 + 7 * c) = y
        · rw [if_pos e4, decide_eq_true (.inr (.inr (.inr e4)))]
        · rw [if_neg e4, decide_eq_false (fun q => q.elim e1 (fun q => q.elim e2 (fun q => q.elim e3 e4)))]
theorem e_overlap (hs : St S R) (hV : BV P C f F T A D) {I : mkI} (hB : RBoard C f (I 198)) {c d : Nat} (hc : c < C) (hd : d < C) : F_X12_overlap (some 197) (nI c) (nI d) (mk S I L R n) = some (b2i (decide (A c < A d + D d ∧ A d < A c + D c)), mk S I L R n) := by
  have hC := hB.1
  obtain ⟨-, -, c3, c4, -⟩ := hB.2.2.2.2.2.2 c hc
  obtain ⟨-, -, d3, d4, -⟩ := hB.2.2.2.2.2.2 d hd
  obtain ⟨-, -, -, ⟨vc3, vcA⟩, vc4, -, vcD⟩ := hV.2.2 c hc
  obtain ⟨-, -, -, ⟨vd3, vdA⟩, vd4, -, vdD⟩ := hV.2.2 d hd
  have r1 : aI (mk S I L R n) (some 198) 0 (71 + nI c) = some (nI (A c)) := rk hs (z := 71) (by omega) (c3.trans vc3)
  have r2 : aI (mk S I L R n) (some 198) 0 (81 + nI c) = some (nI (D c)) := rk hs (z := 81) (by omega) (c4.trans vc4)
  have r3 : aI (mk S I L R n) (some 198) 0 (71 + nI d) = some (nI (A d)) := rk hs (z := 71) (by omega) (d3.trans vd3)
  have r4 : aI (mk S I L R n) (some 198) 0 (81 + nI d) = some (nI (D d)) := rk hs (z := 81) (by omega) (d4.trans vd4)
  unfold F_X12_overlap F_X12_overlap_66 F_X12_overlap_67
  simp only [gr_197_0 hs, Option.bind_some, r1, r2, r3, r4, nI_add, rZ_0, rZ_1]
  by_cases e1 : A c < A d + D d
  · rw [if_neg (nI_ge e1 (by omega))]
    by_cases e2 : A d < A c + D c
    · rw [if_neg (nI_ge e2 (by omega)), decide_eq_true ⟨e1, e2⟩]
    · rw [if_pos (nI_le (by omega) (by omega)), decide_eq_false (fun q => e2 q.2)]
  · rw [if_pos (nI_le (by omega) (by omega)), decide_eq_false (fun q => e1 q.1)]
/-- one call beside another, as the reference asks -/
def cbD (told : Bool) (f : Nat → Int32) (A D : Nat → Nat) (κ : KP) (ov : Nat → Nat → Bool) (c k d : Nat) : Bool := if f (15 + 7 * d) = 1 then !(decide (A c < A d + D d) && (shI f c (f (11 + 7 * d)) (f (16 + 7 * d)) || (told && decide (f (17 + 7 * d) = nI k)))) else (if d < c then (match κ d with
  | none => true
  | some k' => !(ov c d && (shI f c (f (11 + 7 * d)) (f (12 + 7 * d)) || decide (k' = k)))) else true)
def cbA (p : Nat → Bool) : Nat → Nat → Bool
  | 0, _ => true
  | r + 1, d => p d && cbA p r (d + 1)
theorem cbA_iff {p : Nat → Bool} : ∀ r d, cbA p r d = true ↔ ∀ j, d ≤ j → j < d + r → p j = true
  | 0, d => ⟨fun _ j h1 h2 => by omega, fun _ => rfl⟩
  | r + 1, d => by
    rw [cbA, Bool.and_eq_true, cbA_iff r (d + 1)]
    refine ⟨fun h j h1 h2 => ?_, fun h => ⟨h d (Nat.le_refl _) (by omega), fun j h1 h2 => h j (by omega) (by omega)⟩⟩
    rcases Nat.eq_or_lt_of_le h1 with e | e
    · exact e ▸ h.1
    · exact h.2 j e (by omega)
theorem e_cbL (hs : St S R) (hV : BV P C f F T A D) {I : mkI} (hB : RBoard C f (I 198)) {told : Bool} (h30 : I 197 30 = b2i told) {κ : KP} {c k : Nat} (hc : c < C) (hk : k < 3) (hκ : ∀ d, d < c → I 208 d = kRow κ d) (hκ2 : ∀ d k', d < c → κ d = some k' → k' < 3) : ∀ (r g d : Nat), d + r = C → r < g → F_X12_couldBe_83 g (some 197) (nI c) (nI k) (nI d) (mk S I L R n) = some (b2i (cbA (cbD told f A D κ (fun c d => decide (A c < A d + D d ∧ A d < A c + D c)) c k) r d), mk S I L R n) := by
  have hC := hB.1
  obtain ⟨-, -, c3, c4, -⟩ := hB.2.2.2.2.2.2 c hc
  obtain ⟨-, -, -, ⟨vc3, vcA⟩, vc4, -, vcD⟩ := hV.2.2 c hc
  have r1 : aI (mk S I L R n) (some 198) 0 (71 + nI c) = some (nI (A c)) := rk hs (z := 71) (by omega) (c3.trans vc3)
  have kn : I 198 7 = nI C := by rw [hB.2.2.2.1, hB.2.1]
  intro r
  induction r with
  | zero =>
    intro g d hd hg
    obtain ⟨g, rfl⟩ : ∃ y, g = y + 1 := ⟨g - 1, by omega⟩
    simp only [F_X12_couldBe_83]
    rw [cv_197 hs, e_calls hs, b2_some, kn, if_pos (nI_le (by omega) (by omega)), rZ_1]
    rfl
  | succ r ih =>
    intro g d hd hg
    obtain ⟨g, rfl⟩ : ∃ y, g = y + 1 := ⟨g - 1, by omega⟩
    have hdC : d < C := by omega
    obtain ⟨d1, d2, d3, d4, d5, d6, d7⟩ := hB.2.2.2.2.2.2 d hdC
    obtain ⟨-, -, -, ⟨vd3, vdA⟩, vd4, -, vdD⟩ := hV.2.2 d hdC
    have q1 : aI (mk S I L R n) (some 198) 0 (51 + nI d) = some (f (11 + 7 * d)) := rk hs (z := 51) (by omega) d1
    have q2 : aI (mk S I L R n) (some 198) 0 (61 + nI d) = some (f (12 + 7 * d)) := rk hs (z := 61) (by omega) d2
    have q3 : aI (mk S I L R n) (some 198) 0 (71 + nI d) = some (nI (A d)) := rk hs (z := 71) (by omega) (d3.trans vd3)
    have q4 : aI (mk S I L R n) (some 198) 0 (81 + nI d) = some (nI (D d)) := rk hs (z := 81) (by omega) (d4.trans vd4)
    have q5 : aI (mk S I L R n) (some 198) 0 (8 + nI d) = some (f (15 + 7 * d)) := rk hs (z := 8) (by omega) d5
    have q6 : aI (mk S I L R n) (some 198) 0 (18 + nI d) = some (f (16 + 7 * d)) := rk hs (z := 18) (by omega) d6
    have q7 : aI (mk S I L R n) (some 198) 0 (28 + nI d) = some (f (17 + 7 * d)) := rk hs (z := 28) (by omega) d7
    have ih' := ih g (d + 1) (by omega) (by omega)
    rw [cbA]
    unfold cbD
    simp only [F_X12_couldBe_83, F_X12_couldBe_111, F_X12_couldBe_200, F_X12_couldBe_202, F_X12_couldBe_273, F_X12_couldBe_275]
    rw [cv_197 hs, e_calls hs, b2_some, kn, if_neg (nI_ge (by omega) (by omega)), nI_1]
    simp only [gr_197_0 hs, Option.bind_some, q1, q2, q3, q4, q5, q6, q7, r1, nI_add, cv_197 hs, e_shares hs hB hc, b2_some, gi_197_30 hs, h30, gr_197_26 hs, e_overlap hs hV hB hc hdC, rZ_0, if_true, show ¬ (1 : Int32) = 0 by decide, if_false]
    by_cases e1 : f (15 + 7 * d) = 1
    · rw [if_pos e1, if_pos e1]
      by_cases e2 : A c < A d + D d
      · rw [if_neg (nI_ge e2 (by omega)), decide_eq_true e2, Bool.true_and]
        cases e3 : shI f c (f (11 + 7 * d)) (f (16 + 7 * d)) with
        | true => rw [if_neg (show ¬ b2i true = 0 by decide), Bool.true_or, Bool.not_true, Bool.false_and]
        | false =>
          rw [if_pos (show b2i false = 0 from rfl), Bool.false_or]
          cases told with
          | false => rw [if_pos (show b2i false = 0 from rfl), Bool.false_and, Bool.not_false, Bool.true_and]; exact ih'
          | true =>
            rw [if_neg (show ¬ b2i true = 0 by decide), Bool.true_and]
            by_cases e4 : f (17 + 7 * d) = nI k
            · rw [if_pos e4, decide_eq_true e4, Bool.not_true, Bool.false_and]
            · rw [if_neg e4, decide_eq_false e4, Bool.not_false, Bool.true_and]; exact ih'
      · rw [if_pos (nI_le (by omega) (by omega)), decide_eq_false e2, Bool.false_and, Bool.not_false, Bool.true_and]; exact ih'
    · rw [if_neg e1, if_neg e1]
      by_cases e2 : d < c
      · rw [if_neg (nI_ge e2 (by omega)), if_pos e2, ai_208 hs (by omega), Option.bind_some, hκ d e2]
        unfold kRow
        cases e3 : κ d with
        | none => rw [if_pos rfl, Bool.true_and]; exact ih'
        | some k' =>
          have hk' := hκ2 d k' e2 e3
          rw [if_neg (nI_nm1 (by omega))]
          have ek : (nI k' = nI k) = (k' = k) := propext (nI_eq (by omega) (by omega))
          simp only [Option.bind_some, ek]
          cases e4 : decide (A c < A d + D d ∧ A d < A c + D c) with
          | false => rw [if_pos (show b2i false = 0 from rfl), Bool.false_and, Bool.not_false, Bool.true_and]; exact ih'
          | true =>
            rw [if_neg (show ¬ b2i true = 0 by decide), Bool.true_and]
            cases e5 : shI f c (f (11 + 7 * d)) (f (12 + 7 * d)) with
            | true => rw [if_neg (show ¬ b2i true = 0 by decide), Bool.true_or, Bool.not_true, Bool.false_and]
            | false =>
              rw [if_pos (show b2i false = 0 from rfl), Bool.false_or]
              by_cases e6 : k' = k
              · rw [if_pos e6, decide_eq_true e6, Bool.not_true, Bool.false_and]
              · rw [if_neg e6, decide_eq_false e6, Bool.not_false, Bool.true_and]; exact ih'
      · rw [if_pos (nI_le (by omega) (by omega)), if_neg e2, Bool.true_and]; exact ih'
end EB
