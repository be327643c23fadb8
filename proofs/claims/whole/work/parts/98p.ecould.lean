/-! the most calls: the reference's question -/
theorem b2i_iff {a b : Bool} (h : a = true ↔ b = true) : b2i a = b2i b := by
  cases a <;> cases b <;> simp_all [b2i]
theorem shI_iff {P : PL} {C : Nat} {f : Nat → Int32} {F T A D : Nat → Nat} (hP : PlOK P) (hV : BV P C f F T A D) {c d : Nat} (hc : c < C) (hd : d < C) : shI f c (f (11 + 7 * d)) (f (12 + 7 * d)) = decide (F c = F d ∨ F c = T d ∨ T c = F d ∨ T c = T d) := by
  have w2 := hP.2.1
  obtain ⟨⟨c1, c1'⟩, ⟨c2, c2'⟩, -⟩ := hV.2.2 c hc
  obtain ⟨⟨d1, d1'⟩, ⟨d2, d2'⟩, -⟩ := hV.2.2 d hd
  unfold shI
  rw [c1, c2, d1, d2, decide_eq_decide, nI_eq (by omega) (by omega), nI_eq (by omega) (by omega), nI_eq (by omega) (by omega), nI_eq (by omega) (by omega)]
theorem cb_ok {P : PL} {C M : Nat} {f : Nat → Int32} {F T A D : Nat → Nat} (hP : PlOK P) (hV : BV P C f F T A D) {told : Bool} {κ : KP} {c k : Nat} (hc : c < C) (hκ : ∀ d k', d < c → κ d = some k' → f (15 + 7 * d) = 0) (h0 : f (15 + 7 * c) = 0) (hMA : M ≤ A c) : (hasB (f 2) (nI (F c)) = false ∧ hasB (f 2) (nI (T c)) = false ∧ (told = true → rbo P k (F c) (T c) = true) ∧ cbA (cbD told f A D κ (fun c d => decide (A c < A d + D d ∧ A d < A c + D c)) c k) C 0 = true) ↔ okB (bQ P told C f F T A D M) k c κ := by
  have hC := hV.1
  obtain ⟨⟨c1, c1'⟩, ⟨c2, c2'⟩, -, ⟨c3, cA⟩, -⟩ := hV.2.2 c hc
  have hlt : ∀ d, d < C → ((nI (A c) < f (13 + 7 * d) + f (14 + 7 * d)) ↔ A c < A d + D d) := fun d hd => by
    obtain ⟨-, -, -, ⟨d3, dA⟩, d4, -, dD⟩ := hV.2.2 d hd
    rw [d3, d4, nI_add, nI_ltI (by omega) (by omega)]
  have eO : ∀ d, qO (bQ P told C f F T A D M) c d = decide (A c < A d + D d ∧ A d < A c + D c) := fun _ => rfl
  have eS : ∀ d, qS (bQ P told C f F T A D M) c d = decide (F c = F d ∨ F c = T d ∨ T c = F d ∨ T c = T d) := fun _ => rfl
  have eE : qE (bQ P told C f F T A D M) c = (decide (f (15 + 7 * c) = 0) && (decide (M ≤ A c) && (frB C f (F c) (A c) && frB C f (T c) (A c)))) := rfl
  have eK : qC (bQ P told C f F T A D M) k c = (!told || (rbo P k (F c) (T c) && decide (onT C f (nI (A c)) (nI k) = -1))) := rfl
  unfold okB
  rw [eE, eK, h0, decide_eq_true rfl, decide_eq_true hMA, Bool.true_and, Bool.true_and, Bool.and_eq_true, cbA_iff]
  unfold frB
  rw [decide_eq_true_eq, decide_eq_true_eq, busyT_iff hC, busyT_iff hC]
  constructor
  · rintro ⟨s1, s2, s3, h⟩
    have hd1 : ∀ d, d < C → f (15 + 7 * d) = 1 → A c < A d + D d → shI f c (f (11 + 7 * d)) (f (16 + 7 * d)) = false ∧ (told = true → f (17 + 7 * d) ≠ nI k) := fun d hd e1 e2 => by
      have := h d (Nat.zero_le _) (by omega)
      unfold cbD at this
      rw [if_pos e1, decide_eq_true e2, Bool.true_and, Bool.not_eq_true', Bool.or_eq_false_iff] at this
      refine ⟨this.1, fun ht => ?_⟩
      have h2 := this.2
      rw [ht, Bool.true_and, decide_eq_false_iff_not] at h2
      exact h2
    have hsh : ∀ d, d < C → f (15 + 7 * d) = 1 → A c < A d + D d → ¬ (nI (F c) = f (11 + 7 * d) ∨ nI (F c) = f (16 + 7 * d) ∨ nI (T c) = f (11 + 7 * d) ∨ nI (T c) = f (16 + 7 * d)) := fun d hd e1 e2 => by
      have := (hd1 d hd e1 e2).1
      unfold shI at this
      rw [decide_eq_false_iff_not, c1, c2] at this
      exact this
    refine ⟨⟨⟨s1, fun d hd e1 e2 => ?_⟩, s2, fun d hd e1 e2 => ?_⟩, ?_, fun d k' hd e ho => ?_⟩
    · have := hsh d hd e1 ((hlt d hd).mp e2)
      exact ⟨fun z => this (.inl z.symm), fun z => this (.inr (.inl z.symm))⟩
    · have := hsh d hd e1 ((hlt d hd).mp e2)
      exact ⟨fun z => this (.inr (.inr (.inl z.symm))), fun z => this (.inr (.inr (.inr z.symm)))⟩
    · cases ht : told with
      | false => rfl
      | true =>
        rw [s3 ht, Bool.not_true, Bool.false_or, Bool.true_and, decide_eq_true_eq, onT_iff hC]
        exact fun d hd e1 e2 => (hd1 d hd e1 ((hlt d hd).mp e2)).2 ht
    · have := h d (Nat.zero_le _) (by omega)
      have e0 := hκ d k' hd e
      rw [eO] at ho
      unfold cbD at this
      rw [if_neg (by rw [e0]; decide), if_pos hd, e] at this
      simp only [ho, Bool.true_and, Bool.not_eq_true', Bool.or_eq_false_iff] at this
      rw [shI_iff hP hV hc (by omega)] at this
      exact ⟨by rw [eS]; exact this.1, of_decide_eq_false this.2⟩
  · rintro ⟨⟨⟨s1, b1⟩, s2, b2⟩, q, h⟩
    refine ⟨s1, s2, fun ht => ?_, fun d _ hd => ?_⟩
    · rw [ht, Bool.not_true, Bool.false_or, Bool.and_eq_true] at q
      exact q.1
    · have hdC : d < C := by omega
      unfold cbD
      by_cases e1 : f (15 + 7 * d) = 1
      · rw [if_pos e1]
        by_cases e2 : A c < A d + D d
        · rw [decide_eq_true e2, Bool.true_and, Bool.not_eq_true', Bool.or_eq_false_iff]
          obtain ⟨x1, x2⟩ := b1 d hdC e1 ((hlt d hdC).mpr e2)
          obtain ⟨x3, x4⟩ := b2 d hdC e1 ((hlt d hdC).mpr e2)
          constructor
          · unfold shI
            rw [c1, c2, decide_eq_false_iff_not]
            exact fun z => z.elim (fun z => x1 z.symm) (fun z => z.elim (fun z => x2 z.symm) (fun z => z.elim (fun z => x3 z.symm) (fun z => x4 z.symm)))
          · cases ht : told with
            | false => rfl
            | true =>
              rw [ht, Bool.not_true, Bool.false_or, Bool.and_eq_true, decide_eq_true_eq, onT_iff hC] at q
              rw [Bool.true_and, decide_eq_false_iff_not]
              exact q.2 d hdC e1 ((hlt d hdC).mpr e2)
        · rw [decide_eq_false e2, Bool.false_and]; rfl
      · rw [if_neg e1]
        by_cases e2 : d < c
        · rw [if_pos e2]
          cases e3 : κ d with
          | none => rfl
          | some k' =>
            have hh := h d k' e2 e3
            rw [eO, eS] at hh
            simp only [shI_iff hP hV hc hdC]
            cases e4 : decide (A c < A d + D d ∧ A d < A c + D c) with
            | false => rfl
            | true =>
              obtain ⟨y1, y2⟩ := hh e4
              rw [y1, decide_eq_false y2]; rfl
        · rw [if_neg e2]
section EC
variable {S : mkS} {L : mkL} {R : mkR} {n : Nat × Nat} {P : PL} {C M : Nat} {f : Nat → Int32} {F T A D : Nat → Nat}
theorem e_could (hs : St S R) (hP : PlOK P) (hV : BV P C f F T A D) {I : mkI} (hK : RPlan P (I 198)) (hB : RBoard C f (I 198)) {told : Bool} (h30 : I 197 30 = b2i told) {κ : KP} {c k : Nat} (hc : c < C) (hk : k < 3) (hkt : told = true → k < pC P) (hκ : ∀ d, d < c → I 208 d = kRow κ d) (hκ2 : ∀ d k', d < c → κ d = some k' → k' < 3 ∧ f (15 + 7 * d) = 0) (h0 : f (15 + 7 * c) = 0) (hMA : M ≤ A c) : F_X12_couldBe (some 197) (nI c) (nI k) (mk S I L R n) = some (b2i (okBb (bQ P told C f F T A D M) k c κ), mk S I L R n) := by
  have hC := hV.1
  obtain ⟨⟨c1, c1'⟩, ⟨c2, c2'⟩, -, ⟨c3, cA⟩, -⟩ := hV.2.2 c hc
  obtain ⟨b1, b2, -⟩ := hB.2.2.2.2.2.2 c hc
  have r1 : aI (mk S I L R n) (some 198) 0 (51 + nI c) = some (nI (F c)) := rk hs (z := 51) (by omega) (b1.trans c1)
  have r2 : aI (mk S I L R n) (some 198) 0 (61 + nI c) = some (nI (T c)) := rk hs (z := 61) (by omega) (b2.trans c2)
  have h46 : I 198 46 = f 2 := hB.2.2.2.2.1
  have key := cb_ok (k := k) (M := M) hP hV hc (told := told) (κ := κ) (fun d k' hd e => (hκ2 d k' hd e).2) h0 hMA
  have main : F_X12_couldBe (some 197) (nI c) (nI k) (mk S I L R n) = some (b2i (!hasB (f 2) (nI (F c)) && (!hasB (f 2) (nI (T c)) && ((!told || rbo P k (F c) (T c)) && cbA (cbD told f A D κ (fun c d => decide (A c < A d + D d ∧ A d < A c + D c)) c k) C 0))), mk S I L R n) := by
    have hL := e_cbL (L := L) (n := n) hs hV hB h30 (κ := κ) hc hk hκ (fun d k' hd e => (hκ2 d k' hd e).1) C mm_N 0 (by omega) (by show C < 1000000; omega)
    unfold F_X12_couldBe F_X12_couldBe_78 F_X12_couldBe_80
    simp only [gr_197_0 hs, Option.bind_some, r1, r2, cv_197 hs, e_isShut hs, b2_some, h46, gi_197_30 hs, h30, rZ_0]
    cases hasB (f 2) (nI (F c)) with
    | true => rw [if_neg (show ¬ b2i true = 0 by decide)]; rfl
    | false =>
      rw [if_pos (show b2i false = 0 from rfl)]
      cases hasB (f 2) (nI (T c)) with
      | true => rw [if_neg (show ¬ b2i true = 0 by decide)]; rfl
      | false =>
        rw [if_pos (show b2i false = 0 from rfl)]
        cases ht : told with
        | false => subst ht; rw [if_pos (show b2i false = 0 from rfl)]; exact hL
        | true =>
          subst ht
          rw [if_neg (show ¬ b2i true = 0 by decide), show (48 : Int32) + nI k = nI (48 + k) from nI_add 48 k, ai_198 hs (by omega), hK.2.2.2.1 k (hkt rfl)]
          simp only [Option.bind_some, e_has, b2_some]
          unfold rbo
          cases hasB (pRe P k) (nI (F c)) with
          | false => rw [if_pos (show b2i false = 0 from rfl)]; rfl
          | true =>
            rw [if_neg (show ¬ b2i true = 0 by decide), gr_197_0 hs, Option.bind_some, ai_198 hs (by omega), Option.bind_some, hK.2.2.2.1 k (hkt rfl)]
            cases hasB (pRe P k) (nI (T c)) with
            | false => rw [if_pos (show b2i false = 0 from rfl)]; rfl
            | true => rw [if_neg (show ¬ b2i true = 0 by decide)]; exact hL
  rw [main]
  have e := b2i_iff (a := !hasB (f 2) (nI (F c)) && (!hasB (f 2) (nI (T c)) && ((!told || rbo P k (F c) (T c)) && cbA (cbD told f A D κ (fun c d => decide (A c < A d + D d ∧ A d < A c + D c)) c k) C 0))) (b := okBb (bQ P told C f F T A D M) k c κ) (by
    rw [okBb_iff, ← key]
    simp only [Bool.and_eq_true, Bool.not_eq_true', Bool.or_eq_true]
    refine ⟨fun ⟨a, b, d, e⟩ => ⟨a, b, fun t => d.elim (fun z => by rw [t] at z; cases z) id, e⟩, fun ⟨a, b, d, e⟩ => ⟨a, b, ?_, e⟩⟩
    cases ht : told with
    | false => exact .inl rfl
    | true => exact .inr (d ht))
  rw [e]
end EC
