/-! best, bestBy -/
theorem b2i_01 (b : Bool) : b2i b = 0 ∨ b2i b = 1 := by cases b <;> decide
section KB
theorem e_laysBest {S : mkS} {L : mkL} {R : mkR} {n : Nat × Nat} {P : PL} {C M : Nat} {f : Nat → Int32} {F T A D : Nat → Nat} (hs : St S R) (hP : PlOK P) (hV : BV P C f F T A D) (h0 : f 0 = nI M) (hM : M ≤ 300000) {told : Bool} {K : Nat} (hK : K ≤ 3) (hKt : told = true → K ≤ pC P) {I : mkI} (hRP : RPlan P (I 198)) (hRB : RBoard C f (I 198)) {t : Int32} (ht : t = b2i told) : ∃ I', F_X12_laysBest (some 197) (nI K) t (mk S I L R n) = some (mk S I' L R n) ∧ BIn (gC (bQ P told C f F T A D M) K C 0 0 (fun _ => none) none) I' ∧ scQ I I' ∧ I' 197 4 = I 197 4 := by
  subst ht
  have hC := hV.1
  obtain ⟨J, hJ⟩ : ∃ J, J = up2 (up2 (up2 (up2 I 197 27 (nI K)) 197 30 (b2i told)) 197 28 (-1)) 197 29 536870912 := ⟨_, rfl⟩
  have kJ : ∀ x, x ≠ 197 → J x = I x := fun x hx => by rw [hJ, up2_ne _ _ _ hx, up2_ne _ _ _ hx, up2_ne _ _ _ hx, up2_ne _ _ _ hx]
  have jJ : ∀ j, j ≠ 27 → j ≠ 28 → j ≠ 29 → j ≠ 30 → J 197 j = I 197 j := fun j q1 q2 q3 q4 => by
    rw [hJ, up2_row, up1_ne _ _ q3, up2_row, up1_ne _ _ q2, up2_row, up1_ne _ _ q4, up2_row, up1_ne _ _ q1]
  obtain ⟨I', z1, z2, z3⟩ := e_goesC (L := L) (n := n) hs hP hV h0 hM hK hKt C 64 0 0 (fun _ => none) none J (by omega) (by omega) ⟨by rw [kJ _ (by decide)]; exact hRP, by rw [kJ _ (by decide)]; exact hRB, by rw [hJ, up2_row, up1_ne _ _ (by decide), up2_row, up1_ne _ _ (by decide), up2_row, up1_ne _ _ (by decide), up2_self], by rw [hJ, up2_row, up1_ne _ _ (by decide), up2_row, up1_ne _ _ (by decide), up2_self]⟩ (fun d h => absurd h (Nat.not_lt_zero _)) (fun d k' h => absurd h (Nat.not_lt_zero _)) (by decide) ⟨by rw [hJ, up2_row, up1_ne _ _ (by decide), up2_self]; rfl, by rw [hJ, up2_self]; rfl, trivial⟩
  refine ⟨I', ?_, z2, ⟨fun x q1 _ _ _ q5 => by rw [z3.1 x q1 (by show x ≠ 208; omega), kJ x q1], fun j q => by rw [z3.2.1 j (by omega) (by omega), jJ j (by omega) (by omega) (by omega) (by omega)]⟩, by rw [z3.2.1 4 (by decide) (by decide), jJ 4 (by decide) (by decide) (by decide) (by decide)]⟩
  unfold F_X12_laysBest
  rw [pi_197_27 hs, Option.bind_some, pz_197_30 hs (b2i_01 told), Option.bind_some, pi_197_28 hs, Option.bind_some, pi_197_29 hs, Option.bind_some, ← hJ, cv_197 hs]
  rw [show G_X12_goesCalls 64 (some 197) 0 0 (mk S J L R n) = some (mk S I' L R n) from z1, Option.bind_some]
theorem k_best (Ls : Nat) (xs : Nat → Int32) (a : Int32) : Good Ls xs (F_L_best (some 128) a (some 220)) (F_X12_best (some 197) a) := by
  intro k S I L R n ⟨hl, tb, tn, fk, fp, w, tr, im, hC, hR, hG⟩
  obtain ⟨hs, hb, ⟨p, hpl, hp⟩, ⟨c1, c2⟩, hP, hRP, hRB⟩ := inv_all hC hR hG
  obtain ⟨-, g3, g4, F, T, A, D, M, hB, hM, hgo⟩ := hG.opn
  have hB' := hB.congr (fun j hj => x_cells hC hj)
  have w3 := hP.2.2.1
  have eW : ∀ h, F_X12_within a.toInt64 0 1 h = some (b2i (wI a 0 1), h) := fun h => e_in a 0 1 h
  by_cases h1 : wI a 0 1 = true
  · obtain ⟨j, hj1, hj2, rfl⟩ := (wI_iff (lo := 0) (hi := 1) (by decide) (by decide)).mp h1
    obtain ⟨I1, y, q1, q2, q3, q4, q5⟩ := c_byBoard (L := L) (n := n) hs hP hC.1.2.1 hb hpl hp rfl hB' (by omega)
    obtain ⟨v, hv⟩ : ∃ v, v = if j = 0 then nI y.1 else nI y.2 := ⟨_, rfl⟩
    have ej : (nI j = 0) ↔ j = 0 := nI_eq (b := 0) (by omega) (by omega)
    have hx : F_X11_best (some 128) (nI j) (mk S I L R n) = some (.inr v, mk S I1 L R n) := by
      unfold F_X11_best F_X11_best_38 F_X4_most F_X4_mostBits
      rw [x_within hC, if_pos h1, b3_some, gr_128_11 hs, Option.bind_some, gr_128_5 hs, Option.bind_some, cv_135 hs, q1, Option.bind_some, gr_128_11 hs, Option.bind_some, gi_135_6 hs, Option.bind_some, cv_135 hs, b2_some, Option.bind_some, gi_135_7 hs, Option.bind_some, cv_135 hs, b2_some, q3, q4, hv]
      by_cases e : j = 0
      · rw [if_pos (ej.mpr e), if_pos e]
      · rw [if_neg (fun z => e (ej.mp z)), if_neg e]
    have kn : I1 198 = I 198 := q5 _ (by decide)
    have km : I1 197 = I 197 := q5 _ (by decide)
    obtain ⟨I2, m1, m2, m3, m4⟩ := e_laysBest (L := up2 L 220 0 v.toInt64) (n := n) hs hP hB'.1 hB'.2.1 (by omega) (told := true) (K := pC w.1) w3 (fun _ => Nat.le_refl _) (I := up2 I1 197 4 0) (by rw [up2_ne _ _ _ (by decide), kn]; exact hRP) (by rw [up2_ne _ _ _ (by decide), kn]; exact hRB) (t := 1) rfl
    rw [q2] at m2
    have sc : scQ I1 I2 := scQ.m4.tr m3
    refine pk_val hl hC hR hG (L_best_0 hs hs hx) (fun x q _ => q5 x (fun z => q (by unfold scr; omega))) (fun _ _ => rfl) ⟨rfl, rfl⟩ (I'' := I2) ?_ (by rw [m4, up2_self]) sc.fr sc.inv
    unfold F_X12_best F_X12_best_47
    rw [pi_197_4 hs, Option.bind_some, eW, b2_some, h1, if_neg (show ¬ b2i true = 0 by decide), gr_197_0 hs, Option.bind_some, show aI (mk S (up2 I1 197 4 0) (up2 L 220 0 v.toInt64) R n) (some 198) 0 2 = some (nI (pC w.1)) by rw [← show (up2 I1 197 4 0) 198 2 = nI (pC w.1) by rw [up2_ne _ _ _ (by decide), kn]; exact hRP.2.2.1]; exact ai_198 (k := 2) hs (by omega), Option.bind_some, cv_197 hs, m1, Option.bind_some, gi_197_28 hs, Option.bind_some, gi_197_29 hs, Option.bind_some, m2.1, m2.2.1, hv]
    by_cases e : j = 0
    · rw [if_pos (ej.mpr e), if_pos e]; rfl
    · rw [if_neg (fun z => e (ej.mp z)), if_neg e]; rfl
  · refine pk_thr (t := 1) (by decide) hl hC hR hG (L_best_1 hs (S' := S) (I' := I) (L' := L) (R' := R) (n' := (n.1 + 1, n.2 + 6)) ?_) (v := 0) ?_
    · unfold F_X11_best; rw [x_within hC, if_neg h1, b3_thr2]; rfl
    · unfold F_X12_best
      rw [pi_197_4 hs, Option.bind_some, eW, b2i_ne h1, b2_some, if_pos rfl, cv_197 hs, fails_q hs, b2_some]
theorem k_bestBy (Ls : Nat) (xs : Nat → Int32) (a : Int32) : Good Ls xs (F_L_bestBy (some 128) a (some 220)) (F_X12_bestBy (some 197) a) := by
  intro k S I L R n ⟨hl, tb, tn, fk, fp, w, tr, im, hC, hR, hG⟩
  obtain ⟨hs, hb, ⟨p, hpl, hp⟩, ⟨c1, c2⟩, hP, hRP, hRB⟩ := inv_all hC hR hG
  obtain ⟨-, g3, g4, F, T, A, D, M, hB, hM, hgo⟩ := hG.opn
  have hB' := hB.congr (fun j hj => x_cells hC hj)
  have eW : ∀ h, F_X12_within a.toInt64 0 3 h = some (b2i (wI a 0 3), h) := fun h => e_in a 0 3 h
  by_cases h1 : wI a 0 3 = true
  · obtain ⟨j, hj1, hj2, rfl⟩ := (wI_iff (lo := 0) (hi := 3) (by decide) (by decide)).mp h1
    obtain ⟨I1, y, q1, q2, q3, q4, q5⟩ := c_byCords (L := L) (n := n) hs hP hC.1.2.1 hb hpl hp rfl hB' (by omega) (K := j) (by omega)
    obtain ⟨v, hv⟩ : ∃ v, v = nI y.1 := ⟨_, rfl⟩
    have hx : F_X11_bestBy (some 128) (nI j) (mk S I L R n) = some (.inr v, mk S I1 L R n) := by
      unfold F_X11_bestBy F_X4_most
      rw [x_within hC, if_pos h1, b3_some, gr_128_11 hs, Option.bind_some, gr_128_5 hs, Option.bind_some, cv_135 hs, q1, Option.bind_some, gr_128_11 hs, Option.bind_some, gi_135_6 hs, Option.bind_some, cv_135 hs, b2_some, q3, hv]
    have kn : I1 198 = I 198 := q5 _ (by decide)
    obtain ⟨I2, m1, m2, m3, m4⟩ := e_laysBest (L := up2 L 220 0 v.toInt64) (n := n) hs hP hB'.1 hB'.2.1 (by omega) (told := false) (K := j) (by omega) (fun h => by cases h) (I := up2 I1 197 4 0) (by rw [up2_ne _ _ _ (by decide), kn]; exact hRP) (by rw [up2_ne _ _ _ (by decide), kn]; exact hRB) (t := 0) rfl
    rw [q2] at m2
    have sc : scQ I1 I2 := scQ.m4.tr m3
    refine pk_val hl hC hR hG (L_bestBy_0 hs hs hx) (fun x q _ => q5 x (fun z => q (by unfold scr; omega))) (fun _ _ => rfl) ⟨rfl, rfl⟩ (I'' := I2) ?_ (by rw [m4, up2_self]) sc.fr sc.inv
    unfold F_X12_bestBy
    rw [pi_197_4 hs, Option.bind_some, eW, b2_some, h1, if_neg (show ¬ b2i true = 0 by decide), cv_197 hs, m1, Option.bind_some, gi_197_28 hs, Option.bind_some, m2.1, hv]
    rfl
  · refine pk_thr (t := 1) (by decide) hl hC hR hG (L_bestBy_1 hs (S' := S) (I' := I) (L' := L) (R' := R) (n' := (n.1 + 1, n.2 + 6)) ?_) (v := 0) ?_
    · unfold F_X11_bestBy; rw [x_within hC, if_neg h1, b3_thr2]; rfl
    · unfold F_X12_bestBy
      rw [pi_197_4 hs, Option.bind_some, eW, b2i_ne h1, b2_some, if_pos rfl, cv_197 hs, fails_q hs, b2_some]
end KB
