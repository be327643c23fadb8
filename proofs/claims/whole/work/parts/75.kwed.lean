/-! weddings, count, feed -/
section RWd
variable {S : mkS} {L : mkL} {R : mkR} {n : Nat × Nat} {P : PL}
theorem e_wedL (hs : St S R) (hP : PlOK P) {C : Nat} {f : Nat → Int32} {F T A D : Nat → Nat} {M : Nat} (hB : BI P C f F T A D M) {I I0 : mkI} (h1 : ∀ a, a ≠ 206 → I0 a = I a) (h2 : ∀ j, j < 41 → I0 206 j = I 198 (7 + j)) (hKP : RPlan P (I0 198)) (hf : frcOK P (I0 205)) {N : Nat} (hN : M + N ≤ 300000) : ∀ (r g k : Nat) (J : mkI), k + r = N → r < g → MinS P C f A M k I0 J → ∃ I3, F_X12_weddings_24 g (some 197) (nI N) (nI k) (mk S J L R n) = some (nI (aTwosL (fin_ C (M + N) (gRun P (I0 205) C (evU f A C M N) f)) (pW P) 0 0), mk S I3 L R n) ∧ scQ I I3 ∧ ∀ j, j ≠ 22 → I3 197 j = I 197 j := by
  have w2 := hP.2.1
  intro r
  induction r with
  | zero =>
    intro g k J hk hg h
    obtain ⟨g, rfl⟩ : ∃ z, g = z + 1 := ⟨g - 1, by omega⟩
    have : k = N := by omega
    subst this
    obtain ⟨I3, q1, q2, q3, -⟩ := e_aback (L := L) (n := n) hs h1 h2 h.1
    refine ⟨I3, ?_, q2, q3⟩
    simp only [F_X12_weddings_24]
    rw [if_pos (nI_le (by omega) (by omega)), cv_197 hs, e_twos hs w2 (hKP.keep hP h.1.2.2).2.1 h.2, b2_some, cv_197 hs, q1, Option.bind_some]
  | succ r ih =>
    intro g k J hk hg h
    obtain ⟨g, rfl⟩ : ∃ z, g = z + 1 := ⟨g - 1, by omega⟩
    obtain ⟨J1, q1, q2, q3⟩ := e_minK (L := L) (n := n) hs hP hB hKP hf (by omega) h
    obtain ⟨I3, r1, r2⟩ := ih g (k + 1) J1 (by omega) (by omega) q2
    refine ⟨I3, ?_, r2⟩
    simp only [F_X12_weddings_24]
    rw [if_neg (nI_ge (by omega) (by omega)), cv_197 hs, q1, Option.bind_some, nI_1]
    exact r1
end RWd
theorem k_weddings (Ls : Nat) (xs : Nat → Int32) (a : Int32) : Good Ls xs (F_L_weddings (some 128) a (some 220)) (F_X12_weddings (some 197) a) := by
  intro k S I L R n ⟨hl, tb, tn, fk, fp, w, tr, im, hC, hR, hG⟩
  obtain ⟨hs, hb, ⟨p, hpl, hp⟩, ⟨c1, c2⟩, hP, hRP, hRB⟩ := inv_all hC hR hG
  obtain ⟨-, g3, g4, F, T, A, D, M, hB, hM, hgo⟩ := hG.opn
  have hB' := hB.congr (fun j hj => x_cells hC hj)
  by_cases h1 : wI a 1 999 = true
  · obtain ⟨j, hj1, hj2, rfl⟩ := (wI_iff (lo := 1) (hi := 999) (by decide) (by decide)).mp h1
    obtain ⟨p, g1, I', R', e1, e2, e3, e4, e5, e6, e7, e8, kI⟩ := x_foresee hC hP hB' (q := j) (by omega)
    obtain ⟨v, hv⟩ : ∃ v, v = nI (aTwosL (fin_ w.2.1.1 (M + j) (gRun w.1 frc0 w.2.1.1 (evU g1 A w.2.1.1 M j) g1)) (pW w.1) 0 0) := ⟨_, rfl⟩
    have hx : F_X11_weddings (some 128) (nI j) (mk S I L R n) = some (.inr v, mk S I' L R' n) := by
      unfold F_X11_weddings
      rw [x_minutes hC, if_pos h1, b3_some, cv_128 hs, e3, b2_some, gr_128_7 e5, Option.bind_some, bd_v e6, c_twos hP e6 e7 e8, b2_some, e4, ← hv]
    obtain ⟨-, r2, r3, r4⟩ := q_ref hC hR kI e2 0
    obtain ⟨I1, a1, a2, a3⟩ := e_aside (L := up2 L 220 0 v.toInt64) (n := n) e5 (up2 I' 197 4 0)
    have fr1 : ∀ i, i < 10 → I1 205 i = -1 := by rw [a2 _ (by decide)]; exact r4
    obtain ⟨I3, m1, m2, m3⟩ := e_wedL (L := up2 L 220 0 v.toInt64) (n := n) e5 hP (hB'.congr e2) a2 a3 (by rw [a2 _ (by decide)]; exact r2) (frc_ok0 fr1) (N := j) (by omega) j mm_N 0 I1 (by omega) (by show j < 1000000; omega) (MinS.zero (hB'.congr e2) (by omega) (by rw [a2 _ (by decide)]; exact r3))
    rw [(run_0 (P := w.1) (n := j) (m := M) (f := g1) (A := A) fr1 c1 g1).1, ← hv] at m1
    have m1' : F_X12_weddings_24 mm_N (some 197) (nI j) 0 (mk S I1 (up2 L 220 0 v.toInt64) R' n) = some (v, mk S I3 (up2 L 220 0 v.toInt64) R' n) := m1
    have sc : scQ I' I3 := scQ.m4.tr m2
    refine pk_val hl hC hR hG (L_weddings_0 hs e5 hx) kI (fun x q => by rw [e1, up2_ne _ _ _ q]) (by rw [e1, up2_row, up1_ne _ _ (by decide), up1_ne _ _ (by decide)]; exact ⟨rfl, rfl⟩) (I'' := I3) ?_ (by rw [m3 4 (by decide), up2_self]) sc.fr sc.inv
    unfold F_X12_weddings
    rw [pi_197_4 e5, Option.bind_some, e_isSoon, b2_some, h1, if_neg (by decide), cv_197 e5, a1, Option.bind_some, m1']
  · have hx : F_X11_weddings (some 128) a (mk S I L R n) = thr "java/lang/IllegalArgumentException" S I L R n := by
      unfold F_X11_weddings
      rw [x_minutes hC, if_neg h1, b3_thr2]
    refine pk_thr (t := 1) (by decide) hl hC hR hG (L_weddings_1 hs hx) (v := 0) ?_
    unfold F_X12_weddings
    rw [pi_197_4 hs, Option.bind_some, e_isSoon, b2_some, if_pos (by rw [b2i_0]; simpa using h1), cv_197 hs, fails_q hs, b2_some]
theorem k_count (Ls : Nat) (xs : Nat → Int32) (a : Int32) : GoodP Ls xs (F_X11_count (some 128) a) (F_X12_count (some 197) a) := by
  intro k S I L R n ⟨hl, tb, tn, fk, fp, w, tr, im, hC, hR, hG⟩
  obtain ⟨hs, hb, ⟨p, hpl, hp⟩, ⟨c1, c2⟩, hP, hRP, hRB⟩ := inv_all hC hR hG
  have w2 := hP.2.1
  obtain ⟨-, -, -, hd, hDR⟩ := id hC.2.2.2.1
  have e2 : I 130 2 = nI w.2.2.length := by obtain ⟨nx, -, -, h, -⟩ := hDR; exact h
  have hK : (up2 I 197 4 0) 198 = I 198 := up2_ne _ _ _ (by decide)
  have RB2 : RBoard w.2.1.1 (I 174) ((up2 I 197 4 0) 198) := by rw [hK]; exact hRB
  have m6 : (up2 I 197 4 0) 197 6 = nI tn := by rw [up2_row, up1_ne _ _ (by decide)]; exact hR.1.2.1
  have hc : F_X11_count (some 128) a (mk S I L R n) = some (if a = 0 then nI (pT w.1) else if a = 1 then nI (pW w.1) else if a = 2 then nI (pC w.1) else if a = 3 then nI w.2.1.1 else if a = 4 then nI (aCnt w.2.1.1 (I 174) 0).length else if a = 5 then nI (aCnt w.2.1.1 (I 174) 1).length else if a = 6 then nI (aCnt w.2.1.1 (I 174) 2).length else if a = 7 then nI (aCnt w.2.1.1 (I 174) 3).length else if a = 8 then nI (aTwosL (I 174) (pW w.1) 0 0) else if a = 9 then I 174 0 else if a = 10 then nI w.2.2.length else if a = 11 then nI tn else -1, mk S I L R n) := by
    unfold F_X11_count F_X3_many
    simp only [x_bd hC, x_dd hC, Option.bind_some, bd_p hb hpl, pl_0 hp, pl_1 hp, pl_2 hp, bd_v hb, c_calls hb, b2_some, c2, c_tally hb c1 c2, c_twos hP hb hpl hp, c_minute hb, dd_v hd, dd_2 hd, e2, gi_128_1 hs, hC.2.1.2.1]
    by_cases q0 : a = 0
    · subst q0; rfl
    by_cases q1 : a = 1
    · subst q1; rfl
    by_cases q2 : a = 2
    · subst q2; rfl
    by_cases q3 : a = 3
    · subst q3; rfl
    by_cases q4 : a = 4
    · subst q4; rfl
    by_cases q5 : a = 5
    · subst q5; rfl
    by_cases q6 : a = 6
    · subst q6; rfl
    by_cases q7 : a = 7
    · subst q7; rfl
    by_cases q8 : a = 8
    · subst q8; rfl
    by_cases q9 : a = 9
    · subst q9; rfl
    by_cases q10 : a = 10
    · subst q10; rfl
    by_cases q11 : a = 11
    · subst q11; rfl
    simp only [if_neg q0, if_neg q1, if_neg q2, if_neg q3, if_neg q4, if_neg q5, if_neg q6, if_neg q7, if_neg q8, if_neg q9, if_neg q10, if_neg q11]
  refine pk_okP (I'' := up2 I 197 4 0) (L'' := L) hl hc ?_ FrC.rf (FrR.up (by decide)) hC.le (hR.m4 0) hG.le
  have a0 : aI (mk S (up2 I 197 4 0) L R n) (some 198) 0 (0 : Int32) = some (nI (pT w.1)) := by
    have := ai_198 (n := n) (L := L) (I := up2 I 197 4 0) (k := 0) hs (by decide)
    rw [hK, hRP.1] at this; exact this
  unfold F_X12_count
  simp only [pi_197_4 hs, Option.bind_some, gr_197_0 hs, a0, ail_198 hs (show 1 < 3205 by decide), ail_198 hs (show 2 < 3205 by decide), ail_198 hs (show 47 < 3205 by decide), ail_198 hs (show 6 < 3205 by decide), cv_197 hs, e_calls hs, b2_some, e_cnt hs RB2, e_twos (I := up2 I 197 4 0) (L := L) (n := n) hs w2 (by rw [hK]; exact hRP.2.1) RB2, gi_197_6 hs, m6, hK, hRP.2.1, hRP.2.2.1, hRB.2.2.1, hRB.2.2.2.1, c2, hR.2.2.1.2.2.1]
  by_cases q0 : a = 0
  · subst q0; rfl
  by_cases q1 : a = 1
  · subst q1; rfl
  by_cases q2 : a = 2
  · subst q2; rfl
  by_cases q3 : a = 3
  · subst q3; rfl
  by_cases q4 : a = 4
  · subst q4; rfl
  by_cases q5 : a = 5
  · subst q5; rfl
  by_cases q6 : a = 6
  · subst q6; rfl
  by_cases q7 : a = 7
  · subst q7; rfl
  by_cases q8 : a = 8
  · subst q8; rfl
  by_cases q9 : a = 9
  · subst q9; rfl
  by_cases q10 : a = 10
  · subst q10; rfl
  by_cases q11 : a = 11
  · subst q11; rfl
  simp only [if_neg q0, if_neg q1, if_neg q2, if_neg q3, if_neg q4, if_neg q5, if_neg q6, if_neg q7, if_neg q8, if_neg q9, if_neg q10, if_neg q11]
