/-! loss and fewest, both sides -/
section PL2
variable {Ls : Nat} {xs : Nat → Int32} {tb : Nat → Nat} {tn : Nat} {fk fp : Int32} {w : WD} {tr : TR} {im : IM} {k : Nat} {S S' : mkS} {I I' I'' : mkI} {L L' L'' : mkL} {R R' : mkR} {n n' : Nat × Nat} {c : MH → Option (Int32 × MH)} {m : MH → Option (Int64 × MH)}
theorem pkL_ok {t : Int32} {v : Int64} (hl : Low Ls xs S I R) (hc : c (mk S I L R n) = some (t, mk S' I' L' R' n')) (hv : t = 0 → L' 220 0 = v) (hm : m (mk S' I' L' R' n') = some (v, mk S' I'' L'' R' n')) (h4 : I'' 197 4 = t) (fC : FrC S S' I I' L L' R R') (fR : FrR I' I'' L' L'') (h1 : InvC tb tn fk fp w tr im k S' I' L' R' n') (h2 : InvR tb tn fk fp w tr im I'' L'') (h3 : GOK k w im) : ∃ t v S' I' L' R' n' I'' L'', c (mk S I L R n) = some (t, mk S' I' L' R' n') ∧ (t = 0 → L' 220 0 = v) ∧ m (mk S' I' L' R' n') = some (v, mk S' I'' L'' R' n') ∧ I'' 197 4 = t ∧ L'' 220 0 = L' 220 0 ∧ AllK Ls xs k S' I' I'' L'' R' n' :=
  ⟨t, v, S', I', L', R', n', I'', L'', hc, hv, hm, h4, by rw [(fR 220 (by decide)).2], AllInv.of hl fC fR h1 h2 h3⟩
theorem pkL_thr {t : Int32} (ht : t ≠ 0) (hl : Low Ls xs S I R) (hC : InvC tb tn fk fp w tr im (k + 1) S I L R n) (hR : InvR tb tn fk fp w tr im I L) (hG : GOK (k + 1) w im) (hc : c (mk S I L R n) = some (t, mk S I L R (n.1 + 1, n.2 + 6))) {v : Int64} (hm : m (mk S I L R (n.1 + 1, n.2 + 6)) = some (v, mk S (up2 I 197 4 t) L R (n.1 + 1, n.2 + 6))) : ∃ t v S' I' L' R' n' I'' L'', c (mk S I L R n) = some (t, mk S' I' L' R' n') ∧ (t = 0 → L' 220 0 = v) ∧ m (mk S' I' L' R' n') = some (v, mk S' I'' L'' R' n') ∧ I'' 197 4 = t ∧ L'' 220 0 = L' 220 0 ∧ AllK Ls xs k S' I' I'' L'' R' n' :=
  pkL_ok hl hc (fun h => absurd h ht) hm (up2_self _ _ _ _) FrC.rf (FrR.up (by decide)) hC.exc (hR.m4 t) hG.le
end PL2
theorem b2i_ne {b : Bool} (h : b ≠ true) : b2i b = 0 := by cases b; rfl; exact absurd rfl h
theorem b2i_e {b : Bool} (h : b = true) : b2i b = 1 := by subst h; rfl
theorem e_in (a lo hi : Int32) (h : MH) : F_X12_within a.toInt64 lo.toInt64 hi.toInt64 h = some (b2i (wI a lo hi), h) := by rw [e_within, inL_wI]
theorem e_asked (a b : Int32) (h : MH) : F_X12_isAsked a b h = some (b2i (wI a 1 20 && wI b 1 20), h) := by
  unfold F_X12_isAsked F_X12_isAsked_28 F_X12_isAsked_29
  have e1 := e_in a 1 20
  have e2 := e_in b 1 20
  rw [show (1 : Int32).toInt64 = 1 by decide, show (20 : Int32).toInt64 = 20 by decide] at e1 e2
  rw [e1, b2_some]
  by_cases h1 : wI a 1 20 = true
  · rw [b2i_e h1, if_neg (by decide), e2, b2_some]
    by_cases h2 : wI b 1 20 = true
    · rw [b2i_e h2, if_neg (by decide), h1, h2]; rfl
    · rw [b2i_ne h2, if_pos rfl, h1]
      have : wI b 1 20 = false := by simpa using h2
      rw [this]; rfl
  · rw [b2i_ne h1, if_pos rfl]
    have : wI a 1 20 = false := by simpa using h1
    rw [this]; rfl
theorem k_loss (Ls : Nat) (xs : Nat → Int32) (a b c d : Int32) : GoodL Ls xs (F_L_loss (some 128) a b c d (some 220)) (F_X12_loss (some 197) a b c d) := by
  intro k S I L R n ⟨hl, tb, tn, fk, fp, w, tr, im, hC, hR, hG⟩
  have hs := hC.1.1
  have e8 := fun h => e_in a 0 8 h
  have e1 := fun h => e_in d 0 1 h
  rw [show (0 : Int32).toInt64 = 0 by decide, show (8 : Int32).toInt64 = 8 by decide] at e8
  rw [show (0 : Int32).toInt64 = 0 by decide, show (1 : Int32).toInt64 = 1 by decide] at e1
  have hbad : ∀ n', F_X12_loss_36 (some 197) (mk S (up2 I 197 4 0) L R n') = some ((0 : Int32).toInt64, mk S (up2 I 197 4 1) L R n') := fun n' => by
    unfold F_X12_loss_36
    rw [cv_197 hs, fails_q hs I, b2_some]
  by_cases h1 : wI a 0 8 = true
  · by_cases h2 : wI b 1 20 = true
    · by_cases h3 : wI c 1 20 = true
      · by_cases h4 : wI d 0 1 = true
        · obtain ⟨m, -, hm, rfl⟩ := (wI_iff (lo := 0) (hi := 8) (by decide) (by decide)).mp h1
          obtain ⟨p, hp, hp2, rfl⟩ := (wI_iff (lo := 1) (hi := 20) (by decide) (by decide)).mp h2
          obtain ⟨q, hq, hq2, rfl⟩ := (wI_iff (lo := 1) (hi := 20) (by decide) (by decide)).mp h3
          obtain ⟨L', l1, l2, l3, l4⟩ := e_loss (I := up2 I 197 4 0) (n := n) hs (up2 L 220 0 (if d = 0 then nL (er p q m).1 else nL (er p q m).2)) hm hp hp2 hq2
          refine pkL_ok (t := 0) (v := if d = 0 then nL (er p q m).1 else nL (er p q m).2) (L' := up2 L 220 0 (if d = 0 then nL (er p q m).1 else nL (er p q m).2)) (I'' := up2 I 197 4 0) (L'' := L') hl (L_loss_0 (S' := S) (I' := I) (L' := L) (R' := R) (n' := n) hs hs ?_) (fun _ => up2_self _ _ _ _) ?_ (up2_self _ _ _ _) (FrC.rf.out 0 _) ?_ (hC.le.out 0 _) ?_ hG.le
          · unfold F_X11_loss F_X11_loss_41
            rw [x_within hC, if_pos h1, b3_some, x_within hC, if_pos h2, b3_some, x_within hC, if_pos h3, b3_some, x_within hC, if_pos h4, b3_some]
            by_cases hd : d = 0
            · rw [if_pos hd, if_pos hd, c_lossP hm hp hp2 hq2, b2_some, if_neg (by decide)]
            · rw [if_neg hd, if_neg hd, c_lossP hm hp hp2 hq2, b2_some, if_pos rfl]
          · unfold F_X12_loss F_X12_loss_66
            rw [pi_197_4 hs, Option.bind_some, e8, h1, b2_some, if_neg (by decide), e_asked, h2, h3, b2_some, if_neg (by decide), e1, h4, b2_some, if_neg (by decide), cv_197 hs, l1, Option.bind_some]
            by_cases hd : d = 0
            · rw [if_pos hd, if_pos hd, gl_197_40 hs, Option.bind_some, l2]
            · rw [if_neg hd, if_neg hd, gl_197_41 hs, Option.bind_some, l3]
          · intro x hx
            exact ⟨up2_ne _ _ _ (by omega), l4 x (by omega)⟩
          · refine InvR.l197 ((hR.m4 0).ofC (FrC.rf.out (S := S) (R := R) 0 _)) l4
        · refine pkL_thr (t := 1) (by decide) hl hC hR hG (L_loss_1 hs (S' := S) (I' := I) (L' := L) (R' := R) (n' := (n.1 + 1, n.2 + 6)) ?_) (v := (0 : Int32).toInt64) ?_
          · unfold F_X11_loss; rw [x_within hC, if_pos h1, b3_some, x_within hC, if_pos h2, b3_some, x_within hC, if_pos h3, b3_some, x_within hC, if_neg h4, b3_thr2]; rfl
          · unfold F_X12_loss; rw [pi_197_4 hs, Option.bind_some, e8, h1, b2_some, if_neg (by decide), e_asked, h2, h3, b2_some, if_neg (by decide), e1, b2i_ne h4, b2_some, if_pos rfl, hbad]
      · refine pkL_thr (t := 1) (by decide) hl hC hR hG (L_loss_1 hs (S' := S) (I' := I) (L' := L) (R' := R) (n' := (n.1 + 1, n.2 + 6)) ?_) (v := (0 : Int32).toInt64) ?_
        · unfold F_X11_loss; rw [x_within hC, if_pos h1, b3_some, x_within hC, if_pos h2, b3_some, x_within hC, if_neg h3, b3_thr2]; rfl
        · unfold F_X12_loss; rw [pi_197_4 hs, Option.bind_some, e8, h1, b2_some, if_neg (by decide), e_asked, b2i_ne (fun e => by rw [Bool.and_eq_true] at e; exact h3 e.2), b2_some, if_pos rfl, hbad]
    · refine pkL_thr (t := 1) (by decide) hl hC hR hG (L_loss_1 hs (S' := S) (I' := I) (L' := L) (R' := R) (n' := (n.1 + 1, n.2 + 6)) ?_) (v := (0 : Int32).toInt64) ?_
      · unfold F_X11_loss; rw [x_within hC, if_pos h1, b3_some, x_within hC, if_neg h2, b3_thr2]; rfl
      · unfold F_X12_loss; rw [pi_197_4 hs, Option.bind_some, e8, h1, b2_some, if_neg (by decide), e_asked, b2i_ne (fun e => by rw [Bool.and_eq_true] at e; exact h2 e.1), b2_some, if_pos rfl, hbad]
  · refine pkL_thr (t := 1) (by decide) hl hC hR hG (L_loss_1 hs (S' := S) (I' := I) (L' := L) (R' := R) (n' := (n.1 + 1, n.2 + 6)) ?_) (v := (0 : Int32).toInt64) ?_
    · unfold F_X11_loss; rw [x_within hC, if_neg h1, b3_thr2]; rfl
    · unfold F_X12_loss; rw [pi_197_4 hs, Option.bind_some, e8, b2i_ne h1, b2_some, if_pos rfl, hbad]
