/-! fewest -/
def few (p q : Nat) (c : Int32) : Nat → Nat → Int32
  | 0, _ => -1
  | r + 1, i => if 0 < lg_cmp (nL (er p q i).1 * c.toInt64) (nL (er p q i).2) then few p q c r (i + 1) else nI i
theorem few_s (p q : Nat) (c : Int32) (r i : Nat) : few p q c (r + 1) i = if 0 < lg_cmp (nL (er p q i).1 * c.toInt64) (nL (er p q i).2) then few p q c r (i + 1) else nI i := rfl
theorem c_few {p q : Nat} (hp : 1 ≤ p) (hp2 : p ≤ 20) (hq2 : q ≤ 20) (c : Int32) (H : MH) : ∀ (r g i : Nat), i + r = 9 → r < g → F_X11_fewest_25 g (nI p) (nI q) c (nI i) H = some (.inr (few p q c r i), H) := by
  intro r
  induction r with
  | zero =>
    intro g i hi hg
    obtain ⟨g, rfl⟩ : ∃ z, g = z + 1 := ⟨g - 1, by omega⟩
    have : i = 9 := by omega
    subst this
    simp only [F_X11_fewest_25]
    rw [if_pos (by decide)]
    rfl
  | succ r ih =>
    intro g i hi hg
    obtain ⟨g, rfl⟩ : ∃ z, g = z + 1 := ⟨g - 1, by omega⟩
    simp only [F_X11_fewest_25]
    rw [if_neg (show ¬ (8 : Int32) < nI i from nI_nlt (a := 8) (by omega) (by omega)), c_lossP (by omega) hp hp2 hq2, b2_some, c_lossP (by omega) hp hp2 hq2, b2_some, if_neg (show ¬ (1 : Int32) = 0 by decide), if_pos rfl]
    unfold few
    by_cases h : 0 < lg_cmp (nL (er p q i).1 * c.toInt64) (nL (er p q i).2)
    · rw [if_pos h, if_pos h, nI_1, ih g (i + 1) (by omega) (by omega)]
    · rw [if_neg h, if_neg h]
theorem e_few {S : mkS} {I : mkI} {R : mkR} {n : Nat × Nat} (hs : St S R) {p q : Nat} (hp : 1 ≤ p) (hp2 : p ≤ 20) (hq2 : q ≤ 20) (c : Int32) : ∀ (r g i : Nat) (L : mkL), i + r = 9 → r < g → ∃ L', F_X12_fewest_34 g (some 197) (nI p) (nI q) c (nI i) (mk S I L R n) = some (few p q c r i, mk S I L' R n) ∧ ∀ x, x ≠ 197 → L' x = L x := by
  intro r
  induction r with
  | zero =>
    intro g i L hi hg
    obtain ⟨g, rfl⟩ : ∃ z, g = z + 1 := ⟨g - 1, by omega⟩
    have : i = 9 := by omega
    subst this
    refine ⟨L, ?_, fun _ _ => rfl⟩
    simp only [F_X12_fewest_34]
    rw [if_pos (by decide)]
    rfl
  | succ r ih =>
    intro g i L hi hg
    obtain ⟨g, rfl⟩ : ∃ z, g = z + 1 := ⟨g - 1, by omega⟩
    obtain ⟨L1, l1, l2, l3, l4⟩ := e_loss (I := I) (n := n) hs L (m := i) (by omega) hp hp2 hq2
    obtain ⟨L2, m1, m2⟩ := ih g (i + 1) L1 (by omega) (by omega)
    by_cases h : 0 < lg_cmp (nL (er p q i).1 * c.toInt64) (nL (er p q i).2)
    · refine ⟨L2, ?_, fun x hx => by rw [m2 x hx, l4 x hx]⟩
      simp only [F_X12_fewest_34]
      rw [if_neg (show ¬ (8 : Int32) < nI i from nI_nlt (a := 8) (by omega) (by omega)), cv_197 hs, l1, Option.bind_some, gl_197_40 hs, Option.bind_some, gl_197_41 hs, Option.bind_some, l2, l3, if_pos h, nI_1, m1, few_s, if_pos h]
    · refine ⟨L1, ?_, l4⟩
      simp only [F_X12_fewest_34]
      rw [if_neg (show ¬ (8 : Int32) < nI i from nI_nlt (a := 8) (by omega) (by omega)), cv_197 hs, l1, Option.bind_some, gl_197_40 hs, Option.bind_some, gl_197_41 hs, Option.bind_some, l2, l3, if_neg h, few_s, if_neg h]
theorem k_fewest (Ls : Nat) (xs : Nat → Int32) (b c d : Int32) : Good Ls xs (F_L_fewest (some 128) b c d (some 220)) (F_X12_fewest (some 197) b c d) := by
  intro k S I L R n ⟨hl, tb, tn, fk, fp, w, tr, im, hC, hR, hG⟩
  have hs := hC.1.1
  have e9 := fun h => e_in d 1 999 h
  rw [show (1 : Int32).toInt64 = 1 by decide, show (999 : Int32).toInt64 = 999 by decide] at e9
  have hbad : ∀ n', F_X12_fewest_25 (some 197) (mk S (up2 I 197 4 0) L R n') = some (0, mk S (up2 I 197 4 1) L R n') := fun n' => by
    unfold F_X12_fewest_25
    rw [cv_197 hs, fails_q hs I, b2_some]
  by_cases h2 : wI b 1 20 = true
  · by_cases h3 : wI c 1 20 = true
    · by_cases h4 : wI d 1 999 = true
      · obtain ⟨p, hp, hp2, rfl⟩ := (wI_iff (lo := 1) (hi := 20) (by decide) (by decide)).mp h2
        obtain ⟨q, hq, hq2, rfl⟩ := (wI_iff (lo := 1) (hi := 20) (by decide) (by decide)).mp h3
        obtain ⟨L', l1, l4⟩ := e_few (I := up2 I 197 4 0) (n := n) hs hp hp2 hq2 d 9 mm_N 0 (up2 L 220 0 (few p q d 9 0).toInt64) rfl (by unfold mm_N; decide)
        refine pk_ok (t := 0) (v := few p q d 9 0) (L' := up2 L 220 0 (few p q d 9 0).toInt64) (I'' := up2 I 197 4 0) (L'' := L') hl (L_fewest_0 (S' := S) (I' := I) (L' := L) (R' := R) (n' := n) hs hs ?_) (fun _ => up2_self _ _ _ _) ?_ (up2_self _ _ _ _) (FrC.rf.out 0 _) ?_ (hC.le.out 0 _) ?_ hG.le
        · unfold F_X11_fewest
          rw [x_within hC, if_pos h2, b3_some, x_within hC, if_pos h3, b3_some, x_within hC, if_pos h4, b3_some]
          exact c_few hp hp2 hq2 d _ 9 mm_N 0 rfl (by unfold mm_N; decide)
        · unfold F_X12_fewest
          rw [pi_197_4 hs, Option.bind_some, e_asked, h2, h3, b2_some, if_neg (by decide), e9, h4, b2_some, if_neg (by decide)]
          exact l1
        · intro x hx
          exact ⟨up2_ne _ _ _ (by omega), l4 x (by omega)⟩
        · refine InvR.l197 ((hR.m4 0).ofC (FrC.rf.out (S := S) (R := R) 0 _)) l4
      · refine pk_thr (t := 1) (by decide) hl hC hR hG (L_fewest_1 hs (S' := S) (I' := I) (L' := L) (R' := R) (n' := (n.1 + 1, n.2 + 6)) ?_) (v := 0) ?_
        · unfold F_X11_fewest; rw [x_within hC, if_pos h2, b3_some, x_within hC, if_pos h3, b3_some, x_within hC, if_neg h4, b3_thr2]; rfl
        · unfold F_X12_fewest; rw [pi_197_4 hs, Option.bind_some, e_asked, h2, h3, b2_some, if_neg (by decide), e9, b2i_ne h4, b2_some, if_pos rfl, hbad]
    · refine pk_thr (t := 1) (by decide) hl hC hR hG (L_fewest_1 hs (S' := S) (I' := I) (L' := L) (R' := R) (n' := (n.1 + 1, n.2 + 6)) ?_) (v := 0) ?_
      · unfold F_X11_fewest; rw [x_within hC, if_pos h2, b3_some, x_within hC, if_neg h3, b3_thr2]; rfl
      · unfold F_X12_fewest; rw [pi_197_4 hs, Option.bind_some, e_asked, b2i_ne (fun e => by rw [Bool.and_eq_true] at e; exact h3 e.2), b2_some, if_pos rfl, hbad]
  · refine pk_thr (t := 1) (by decide) hl hC hR hG (L_fewest_1 hs (S' := S) (I' := I) (L' := L) (R' := R) (n' := (n.1 + 1, n.2 + 6)) ?_) (v := 0) ?_
    · unfold F_X11_fewest; rw [x_within hC, if_neg h2, b3_thr2]; rfl
    · unfold F_X12_fewest; rw [pi_197_4 hs, Option.bind_some, e_asked, b2i_ne (fun e => by rw [Bool.and_eq_true] at e; exact h2 e.1), b2_some, if_pos rfl, hbad]
