/-! stable, partner, happiest: both sides -/
theorem St.r157 {S : mkS} {R R' : mkR} (hs : St S R) (hR : ∀ x, x ≠ 157 → R' x = R x) (hR2 : ∀ j, j ≠ 3 → R' 157 j = R 157 j) : St S R' := by
  refine ⟨hs.1, fun q hq => ?_⟩
  by_cases e : q.1 = 157
  · have key : ∀ q ∈ stR, q.1 = 157 → q.2.1 ≠ 3 := by decide +kernel
    rw [e, hR2 _ (key q hq e), ← e]; exact hs.2 q hq
  · rw [hR _ e]; exact hs.2 q hq
theorem InvC.prs {tb : Nat → Nat} {tn : Nat} {fk fp : Int32} {w : WD} {tr : TR} {im : IM} {k : Nat} {S : mkS} {I I' : mkI} {L : mkL} {R R' : mkR} {n : Nat × Nat} (h : InvC tb tn fk fp w tr im k S I L R n) (hI : kPr I I') (hR : ∀ x, x ≠ 157 → R' x = R x) (hR2 : ∀ j, j ≠ 3 → R' 157 j = R 157 j) (hP : CPa S R' I') : InvC tb tn fk fp w tr im k S I' L R' n := by
  obtain ⟨⟨s1, s2, s3, s4, s5, s6⟩, ⟨t1, t2, t3⟩, ⟨u1, u2⟩, v1, v2, v3, v4⟩ := h
  have lo : ∀ a, a < 157 ∨ 161 ≤ a → I' a = I a := fun a ha => hI a (by show a ≠ 157; omega) (by show a ≠ 158; omega) (by show a ≠ 159; omega) (by show a ≠ 160; omega)
  have fI : ∀ x, pa x → fineA S x → I' x = I x := fun x hx _ => lo x (by unfold pa at hx; omega)
  have fR : ∀ x, S x = (17, 0) ∨ S x = (14, 0) → R' x = R x := fun x hx => hR x (fun e => by subst e; rw [S_157 s1] at hx; simp at hx)
  refine ⟨⟨s1.r157 hR hR2, s2, s3, s4, s5, s6⟩, ⟨t1, by rw [lo _ (by decide)]; exact t2, by rw [lo _ (by decide)]; exact t3⟩, by rw [lo _ (by decide)]; exact ⟨u1, u2⟩, v1.kk (lo _ (by decide)) (lo _ (by decide)) (lo _ (by decide)) fI fR (hR _ (by decide)) (hR _ (by decide)), fun t ht => ?_, ⟨?_, fun i hi => ?_⟩, hP⟩
  · have := v2 t ht
    rw [lo _ (by omega)]
    exact this
  · rw [hR 132 (by decide)]; exact v3.1
  · have := v3.2 i hi
    revert this
    rw [hR 132 (by decide), hR 133 (by decide)]
    cases im i with
    | none => exact id
    | some w =>
      rintro ⟨a, a1, a2, a3, a4⟩
      refine ⟨a, a1, a2, a3, a4.kk (lo _ (by omega)) (lo _ (by omega)) (lo _ (by omega)) fI fR (hR _ ?_) (hR _ ?_)⟩
      · show a ≠ 157; omega
      · show a + 8 ≠ 157; omega
section PS
variable {S : mkS} {L : mkL} {R : mkR} {n : Nat × Nat} {P : PL} {p : Nat}
/-- the rows as a survey begins -/
def PR0 (I : mkI) : mkI := up2 (up2 (up2 (up2 (up1 (up1 (up1 I 158 (fun j => if 0 ≤ j ∧ j < 8 then (-2 : Int32) else I 158 j)) 159 (fun j => if 0 ≤ j ∧ j < 8 then (-1 : Int32) else I 159 j)) 160 (fun j => if 0 ≤ j ∧ j < 8 then (-1 : Int32) else I 160 j)) 157 4 0) 157 5 0) 157 6 0) 157 7 0
theorem PR0_k (I : mkI) : kPr I (PR0 I) := fun x a b c d => by unfold PR0; rw [up2_ne _ _ _ a, up2_ne _ _ _ a, up2_ne _ _ _ a, up2_ne _ _ _ a, up1_ne _ _ d, up1_ne _ _ c, up1_ne _ _ b]
theorem PR0_q (I : mkI) : (∀ j, j < 8 → PR0 I 158 j = -2) ∧ CPq false (0, fun _ => -1, false, 0, fun _ => -1) (PR0 I) := by
  unfold PR0
  refine ⟨fun j hj => ?_, ?_, ?_, ?_, ?_, fun j hj => ⟨?_, ?_⟩⟩
  · rw [up2_ne _ _ _ (by decide), up2_ne _ _ _ (by decide), up2_ne _ _ _ (by decide), up2_ne _ _ _ (by decide), up1_ne _ _ (by decide), up1_ne _ _ (by decide), up1_self, if_pos ⟨Nat.zero_le _, hj⟩]
  · rw [up2_row, up1_ne _ _ (by decide), up2_row, up1_ne _ _ (by decide), up2_row, up1_ne _ _ (by decide), up2_self]; rfl
  · rw [up2_row, up1_ne _ _ (by decide), up2_row, up1_ne _ _ (by decide), up2_self]; rfl
  · rw [up2_row, up1_ne _ _ (by decide), up2_self]; rfl
  · rw [up2_self]
  · rw [up2_ne _ _ _ (by decide), up2_ne _ _ _ (by decide), up2_ne _ _ _ (by decide), up2_ne _ _ _ (by decide), up1_ne _ _ (by decide), up1_self, if_pos ⟨Nat.zero_le _, hj⟩]
  · rw [up2_ne _ _ _ (by decide), up2_ne _ _ _ (by decide), up2_ne _ _ _ (by decide), up2_ne _ _ _ (by decide), up1_self, if_pos ⟨Nat.zero_le _, hj⟩]
theorem c_run (hs : St S R) (hP : PlOK P) {I : mkI} (hp : CPlan P S R I p) : ∃ I', G_X6_pairFrom 64 (some 157) (some p) (nI 0) (mk S (PR0 I) L R n) = some (mk S I' L R n) ∧ CPq false (aSurvey P) I' ∧ kPr I I' := by
  have w2 := hP.2.1
  have hfac : ∀ W, W < 9 → fac W ≤ 40320 := by decide
  have hf := hfac _ (show pW P < 9 by omega)
  obtain ⟨q1, q2⟩ := PR0_q I
  obtain ⟨I', z1, -, z3, z4⟩ := c_pf (L := L) (n := n) hs hP (pW P) 64 0 (PR0 I) (fun _ => -2) false (0, fun _ => -1, false, 0, fun _ => -1) (by omega) (by omega) (hp.pr (PR0_k I)) q1 ⟨fun _ _ => .inl rfl, fun _ h => absurd h (Nat.not_lt_zero _)⟩ q2 ⟨fun _ _ => ⟨rfl, rfl⟩, fun _ _ => rfl, fun _ => ⟨rfl, fun _ => rfl⟩⟩ (by show 0 + fac (pW P) < _; omega)
  exact ⟨I', z1, z3, (PR0_k I).tr z4⟩
theorem CPq.res {a : PA} {I : mkI} (h : CPq false (aSurvey P) I) : PRes P I := by
  obtain ⟨h4, h5, h6, h7, h8⟩ := h
  exact ⟨h4, h5, h7, h8⟩
/-- one plan, told twice: one survey -/
theorem pres_same (hs : St S R) {P' : PL} (hP : PlOK P) (hP' : PlOK P') {I : mkI} (hp : CPlan P S R I p) (hp' : CPlan P' S R I p) (h : PRes P' I) : PRes P I := by
  obtain ⟨I1, a1, a2, -⟩ := c_run (L := fun _ _ => 0) (n := (0, 0)) hs hP hp
  obtain ⟨I2, b1, b2, -⟩ := c_run (L := fun _ _ => 0) (n := (0, 0)) hs hP' hp'
  have e : mk S I1 (fun _ _ => 0) R (0, 0) = mk S I2 (fun _ _ => 0) R (0, 0) := Option.some.inj (a1.symm.trans b1)
  obtain ⟨a4, a5, a6, a7, a8⟩ := a2
  obtain ⟨b4, b5, b6, b7, b8⟩ := b2
  have e5 : I1 157 5 = I2 157 5 := Option.some.inj ((gi_157_5 hs).symm.trans ((congrArg (fun H => gI H (some 157) 6 5) e).trans (gi_157_5 hs)))
  have e7 : I1 157 7 = I2 157 7 := Option.some.inj ((gi_157_7 hs).symm.trans ((congrArg (fun H => gI H (some 157) 6 7) e).trans (gi_157_7 hs)))
  have es : ∀ l, l < 8 → I1 159 l = I2 159 l := fun l hl => Option.some.inj ((ai_159 hs hl).symm.trans ((congrArg (fun H => aI H (some 159) 0 (nI l)) e).trans (ai_159 hs hl)))
  have eh : ∀ l, l < 8 → I1 160 l = I2 160 l := fun l hl => Option.some.inj ((ai_160 hs hl).symm.trans ((congrArg (fun H => aI H (some 160) 0 (nI l)) e).trans (ai_160 hs hl)))
  obtain ⟨h4, h5, h7, h8⟩ := h
  exact ⟨h4, by rw [h5, ← b5, ← e5, a5], by rw [h7, ← b7, ← e7, a7], fun l hl => ⟨by rw [(h8 l hl).1, ← (b8 l hl).1, ← es l hl, (a8 l hl).1], by rw [(h8 l hl).2, ← (b8 l hl).2, ← eh l hl, (a8 l hl).2]⟩⟩
end PS
theorem x_survey {tb : Nat → Nat} {tn : Nat} {fk fp : Int32} {w : WD} {tr : TR} {im : IM} {k : Nat} {S : mkS} {I : mkI} {L : mkL} {R : mkR} {n : Nat × Nat} {p : Nat} (hC : InvC tb tn fk fp w tr im k S I L R n) (hP : PlOK w.1) (hpl : R 170 2 = some p) (hp : CPlan w.1 S R I p) : ∃ I' R', F_X6_survey (some 157) (some p) (mk S I L R n) = some (mk S I' L R' n) ∧ PRes w.1 I' ∧ InvC tb tn fk fp w tr im k S I' L R' n ∧ kPr I I' ∧ (∀ x, x ≠ 157 → R' x = R x) := by
  have hs := hC.1.1
  have hp128 : 128 ≤ p := by have := hp.2.1; unfold pa at this; omega
  have ok2 : rOK (some p) = true := decide_eq_true hp128
  have hcache := hC.2.2.2.2.2.2
  have fresh : rOK (R 157 3) = true → R 157 3 ≠ some p → ∃ I' R', F_X6_survey (some 157) (some p) (mk S I L R n) = some (mk S I' L R' n) ∧ PRes w.1 I' ∧ InvC tb tn fk fp w tr im k S I' L R' n ∧ kPr I I' ∧ (∀ x, x ≠ 157 → R' x = R x) := fun ok1 hne => by
    obtain ⟨R1, hR1⟩ : ∃ R1, R1 = up2 R 157 3 (some p) := ⟨_, rfl⟩
    have k1 : ∀ x, x ≠ 157 → R1 x = R x := fun x hx => by rw [hR1, up2_ne _ _ _ hx]
    have k2 : ∀ j, j ≠ 3 → R1 157 j = R 157 j := fun j hj => by rw [hR1, up2_row, up1_ne _ _ hj]
    have hs1 := hs.r157 k1 k2
    have hp1 : CPlan w.1 S R1 I p := hp.kk (fun _ _ _ => rfl) (fun x hx => k1 x (fun e => by subst e; rw [S_157 hs] at hx; simp at hx))
    obtain ⟨I', z1, z2, z3⟩ := c_run (L := L) (n := n) hs1 hP hp1
    have hres : PRes w.1 I' := CPq.res (a := aSurvey w.1) z2
    refine ⟨I', R1, ?_, hres, hC.prs z3 k1 k2 (.inr ⟨p, w.1, by rw [hR1, up2_self], hP, hp1.pr z3, hres⟩), z3, k1⟩
    unfold F_X6_survey
    rw [gr_157_3 hs, Option.bind_some, if_pos ⟨ok1, ok2⟩, if_neg hne, pr_157_3 hs, Option.bind_some, ← hR1, gr_157_0 hs1, Option.bind_some, c_fill (S_158 hs1) (by decide) (by decide), Option.bind_some, gr_157_1 hs1, Option.bind_some, c_fill (S_159 hs1) (by decide) (by decide), Option.bind_some, gr_157_2 hs1, Option.bind_some, c_fill (S_160 hs1) (by decide) (by decide), Option.bind_some, pz_157_4 hs1 (.inl rfl), Option.bind_some, pi_157_5 hs1, Option.bind_some, pz_157_6 hs1 (.inl rfl), Option.bind_some, pi_157_7 hs1, Option.bind_some, up1_ne _ _ (show (159 : Nat) ≠ 158 by decide), up1_ne _ _ (show (160 : Nat) ≠ 159 by decide), up1_ne _ _ (show (160 : Nat) ≠ 158 by decide), cv_157 hs1]
    exact congrArg (fun q => q.bind fun h => some h) z1
  rcases hcache with h0 | ⟨p', P', q1, q2, q3, q4⟩
  · exact fresh (by rw [h0]; rfl) (by rw [h0]; simp)
  · have hp128' : 128 ≤ p' := by have := q3.2.1; unfold pa at this; omega
    have ok1 : rOK (R 157 3) = true := by rw [q1]; exact decide_eq_true hp128'
    by_cases e : p' = p
    · subst e
      refine ⟨I, R, ?_, pres_same hs hP q2 hp q3 q4, hC, kPr.rf, fun _ _ => rfl⟩
      unfold F_X6_survey
      rw [gr_157_3 hs, Option.bind_some, if_pos ⟨ok1, ok2⟩, if_pos q1]
    · exact fresh ok1 (by rw [q1]; exact fun z => e (Option.some.inj z))
theorem kPr.fr {S : mkS} {I I' : mkI} {L : mkL} {R R' : mkR} (h : kPr I I') (hR : ∀ x, x ≠ 157 → R' x = R x) : FrC S S I I' L L R R' := ⟨fun a q => ⟨rfl, h a (by show a ≠ 157; omega) (by show a ≠ 158; omega) (by show a ≠ 159; omega) (by show a ≠ 160; omega), hR a (by show a ≠ 157; omega)⟩, fun _ _ => rfl⟩
theorem k_stable (Ls : Nat) (xs : Nat → Int32) : GoodP Ls xs (F_X11_stable (some 128)) (F_X12_stable (some 197)) := by
  intro k S I L R n ⟨hl, tb, tn, fk, fp, w, tr, im, hC, hR, hG⟩
  obtain ⟨hs, hb, ⟨p, hpl, hp⟩, ⟨c1, c2⟩, hP, hRP, hRB⟩ := inv_all hC hR hG
  obtain ⟨I1, R1, x1, x2, x3, x4, x5⟩ := x_survey hC hP hpl hp
  have hs1 := x3.1.1
  have fC : FrC S S I I1 L L R R1 := x4.fr x5
  have kn1 : I1 198 = I 198 := x4 _ (by decide) (by decide) (by decide) (by decide)
  obtain ⟨I2, L2, y1, y2, y3, y4, y5, y6⟩ := e_laysPairs (n := n) hs1 hP (up2 I1 197 4 0) L (by rw [up2_ne _ _ _ (by decide), kn1]; exact hRP)
  have sc : scQ I1 I2 := scQ.m4.tr y3
  refine pk_okP (v := nI (aSurvey w.1).1) (I'' := I2) (L'' := L2) hl ?_ ?_ fC (fun a q => ⟨sc.fr a q, y6 a (by omega)⟩) x3.le ((sc.inv (hR.ofC fC)).l197 y6) hG.le
  · unfold F_X11_stable F_X6_steadyWays
    rw [gr_128_13 hs, Option.bind_some, gr_128_5 hs, Option.bind_some, bd_p hb hpl, Option.bind_some, cv_157 hs, x1, Option.bind_some, gr_128_13 hs1, Option.bind_some, cv_157 hs1, gi_157_5 hs1, Option.bind_some, b2_some, x2.2.1]
  · unfold F_X12_stable
    rw [pi_197_4 hs1, Option.bind_some, cv_197 hs1, y1, Option.bind_some, gi_197_38 hs1, Option.bind_some, y2.1]
theorem k_partner (Ls : Nat) (xs : Nat → Int32) (a : Int32) : Good Ls xs (F_L_partner (some 128) a (some 220)) (F_X12_partner (some 197) a) := by
  intro k S I L R n ⟨hl, tb, tn, fk, fp, w, tr, im, hC, hR, hG⟩
  obtain ⟨hs, hb, ⟨p, hpl, hp⟩, ⟨c1, c2⟩, hP, hRP, hRB⟩ := inv_all hC hR hG
  have w2 := hP.2.1
  by_cases h1 : isL (pW w.1) a = true
  · obtain ⟨l, hl8, rfl⟩ := (isL_iff (by omega)).mp h1
    obtain ⟨I1, R1, x1, x2, x3, x4, x5⟩ := x_survey hC hP hpl hp
    obtain ⟨s1, s2, s3⟩ := aSurvey_ok hP
    have hs1 := x3.1.1
    have fC0 : FrC S S I I1 L L R R1 := x4.fr x5
    have kn1 : I1 198 = I 198 := x4 _ (by decide) (by decide) (by decide) (by decide)
    obtain ⟨v, hv⟩ : ∃ v, v = (aSurvey w.1).2.1 l := ⟨_, rfl⟩
    obtain ⟨L1, hL1⟩ : ∃ L1, L1 = up2 L 220 0 v.toInt64 := ⟨_, rfl⟩
    have fC : FrC S S I I1 L L1 R R1 := by rw [hL1]; exact fC0.out 0 _
    obtain ⟨I2, L2, y1, y2, y3, y4, y5, y6⟩ := e_laysPairs (n := n) hs1 hP (up2 I1 197 4 0) L1 (by rw [up2_ne _ _ _ (by decide), kn1]; exact hRP)
    have sc : scQ I1 I2 := scQ.m4.tr y3
    have hx : F_X11_partner (some 128) (nI l) (mk S I L R n) = some (.inr v, mk S I1 L R1 n) := by
      unfold F_X11_partner F_X6_steadyPartner F_X6_steadyPartner_20
      rw [cv_128 hs, x_needLine hC, if_pos h1, b3_some, gr_128_13 hs, Option.bind_some, gr_128_5 hs, Option.bind_some, bd_p hb hpl, Option.bind_some, cv_157 hs, x1, Option.bind_some, gr_128_13 hs1, Option.bind_some, cv_157 hs1, if_neg (nI_pos (by omega)), if_neg (ge_li 8 (by omega) (by decide)), gr_157_1 hs1, Option.bind_some, ai_159 hs1 (by omega), Option.bind_some, b2_some, (x2.2.2.2 l (by omega)).1, hv]
    refine pk_ok (t := 0) (v := v) (L' := L1) (I'' := I2) (L'' := L2) hl (by rw [hL1]; exact L_partner_0 hs hs1 hx) (fun _ => by rw [hL1, up2_self]) ?_ (by rw [y4 _ (by decide), up2_self]) fC (fun a q => ⟨sc.fr a q, y6 a (by omega)⟩) (by rw [hL1]; exact x3.le.out 0 _) ((sc.inv (hR.ofC fC)).l197 y6) hG.le
    unfold F_X12_partner F_X12_partner_41
    rw [pi_197_4 hs1, Option.bind_some, cv_197 hs1, e_isLine2 (W := pW w.1) hs1 (by omega) (by rw [up2_ne _ _ _ (by decide), kn1]; exact hRP.2.1), b2_some, h1, if_neg (by decide), cv_197 hs1, y1, Option.bind_some, gi_197_38 hs1, Option.bind_some, y2.1]
    by_cases e0 : (aSurvey w.1).1 = 0
    · rw [e0, if_pos (by decide), hv, s1.2.1 e0]
    · rw [if_neg (show ¬ nI (aSurvey w.1).1 = 0 from fun z => e0 ((nI_eq (b := 0) (by omega) (by omega)).mp z)), gr_197_36 hs1, Option.bind_some, ai_213 hs1 (by omega), Option.bind_some, y2.2.2.1 e0 l (by omega), hv]
  · refine pk_thr (t := 1) (by decide) hl hC hR hG (L_partner_1 hs (S' := S) (I' := I) (L' := L) (R' := R) (n' := (n.1 + 1, n.2 + 6)) ?_) (v := 0) ?_
    · unfold F_X11_partner; rw [cv_128 hs, x_needLine hC, if_neg h1, b3_thr2]; rfl
    · unfold F_X12_partner
      rw [pi_197_4 hs, Option.bind_some, cv_197 hs, e_isLine2 (W := pW w.1) hs (by omega) (by rw [up2_ne _ _ _ (by decide)]; exact hRP.2.1), b2_some, b2i_ne h1, if_pos rfl, cv_197 hs, fails_q hs, b2_some]
theorem k_happiest (Ls : Nat) (xs : Nat → Int32) (a : Int32) : Good Ls xs (F_L_happiest (some 128) a (some 220)) (F_X12_happiest (some 197) a) := by
  intro k S I L R n ⟨hl, tb, tn, fk, fp, w, tr, im, hC, hR, hG⟩
  obtain ⟨hs, hb, ⟨p, hpl, hp⟩, ⟨c1, c2⟩, hP, hRP, hRB⟩ := inv_all hC hR hG
  have w2 := hP.2.1
  obtain ⟨I1, R1, x1, x2, x3, x4, x5⟩ := x_survey hC hP hpl hp
  obtain ⟨s1, s2, s3⟩ := aSurvey_ok hP
  have hs1 := x3.1.1
  have fC0 : FrC S S I I1 L L R R1 := x4.fr x5
  have kn1 : I1 198 = I 198 := x4 _ (by decide) (by decide) (by decide) (by decide)
  have eW : ∀ h, F_X12_within a.toInt64 10 17 h = some (b2i (wI a 10 17), h) := fun h => e_in a 10 17 h
  have win : wI a 10 17 = true ↔ ∃ j, 10 ≤ j ∧ j ≤ 17 ∧ a = nI j := wI_iff (lo := 10) (hi := 17) (by decide) (by decide)
  by_cases h0 : a = 0 ∨ wI a 10 17 = true
  · obtain ⟨v, hv⟩ : ∃ v, v = if a = 0 then (aSurvey w.1).2.2.2.1 else (aSurvey w.1).2.2.2.2 (a.toNatClampNeg - 10) := ⟨_, rfl⟩
    obtain ⟨L1, hL1⟩ : ∃ L1, L1 = up2 L 220 0 v.toInt64 := ⟨_, rfl⟩
    have fC : FrC S S I I1 L L1 R R1 := by rw [hL1]; exact fC0.out 0 _
    obtain ⟨I2, L2, y1, y2, y3, y4, y5, y6⟩ := e_laysPairs (n := n) hs1 hP (up2 I1 197 4 0) L1 (by rw [up2_ne _ _ _ (by decide), kn1]; exact hRP)
    have sc : scQ I1 I2 := scQ.m4.tr y3
    have kn2 : I2 198 1 = nI (pW w.1) := by rw [y5, up2_ne _ _ _ (by decide), kn1]; exact hRP.2.1
    have h12 : F_X11_happiest_12 (some 128) a (mk S I L R n) = some (.inr v, mk S I1 L R1 n) := by
      unfold F_X11_happiest_12 F_X11_happiest_51
      rw [gr_128_13 hs, Option.bind_some, gr_128_5 hs, Option.bind_some, bd_p hb hpl, Option.bind_some, cv_157 hs, x1, Option.bind_some]
      by_cases e : a = 0
      · unfold F_X6_happySum
        rw [if_pos e, gr_128_13 hs1, Option.bind_some, cv_157 hs1, gi_157_7 hs1, Option.bind_some, b2_some, x2.2.2.1, hv, if_pos e]
      · obtain ⟨j, j1, j2, rfl⟩ := win.mp (h0.resolve_left e)
        unfold F_X6_happyPartner F_X6_happyPartner_20
        rw [if_neg e, gr_128_13 hs1, Option.bind_some, cv_157 hs1, show nI j - 10 = nI (j - 10) from nI_sub j1, if_neg (nI_pos (by omega)), if_neg (ge_li 8 (by omega) (by decide)), gr_157_2 hs1, Option.bind_some, ai_160 hs1 (by omega), Option.bind_some, b2_some, (x2.2.2.2 (j - 10) (by omega)).2, hv, if_neg e, nI_clamp (by omega)]
    have h29 : F_X12_happiest_29 (some 197) a (mk S (up2 I1 197 4 0) L1 R1 n) = some (v, mk S I2 L2 R1 n) := by
      unfold F_X12_happiest_29 F_X12_happiest_70
      rw [cv_197 hs1, y1, Option.bind_some]
      by_cases e : a = 0
      · rw [if_pos e, gl_197_39 hs1, Option.bind_some, y2.2.1, if_pos s2, Int32.toInt32_toInt64, hv, if_pos e]
      · obtain ⟨j, j1, j2, rfl⟩ := win.mp (h0.resolve_left e)
        rw [if_neg e, show nI j - 10 = nI (j - 10) from nI_sub j1, cv_197 hs1, e_isLine2 (W := pW w.1) hs1 (by omega) kn2, b2_some]
        by_cases z : j - 10 < pW w.1
        · rw [isL_nI z (by omega), if_neg (by decide), gr_197_37 hs1, Option.bind_some, ai_214 hs1 (by omega), Option.bind_some, y2.2.2.2 s2 (j - 10) (by omega), hv, if_neg e, nI_clamp (by omega)]
        · rw [isL_no (by omega) (by omega), if_pos (by decide), hv, if_neg e, nI_clamp (by omega), (s1.1 (j - 10) (by omega)).2]
    have hx : F_X11_happiest (some 128) a (mk S I L R n) = some (.inr v, mk S I1 L R1 n) := by
      unfold F_X11_happiest
      by_cases e : a = 0
      · rw [if_pos e, h12]
      · rw [if_neg e, x_within hC, if_pos (h0.resolve_left e), b3_some, h12]
    refine pk_ok (t := 0) (v := v) (L' := L1) (I'' := I2) (L'' := L2) hl (by rw [hL1]; exact L_happiest_0 hs hs1 hx) (fun _ => by rw [hL1, up2_self]) ?_ (by rw [y4 _ (by decide), up2_self]) fC (fun a q => ⟨sc.fr a q, y6 a (by omega)⟩) (by rw [hL1]; exact x3.le.out 0 _) ((sc.inv (hR.ofC fC)).l197 y6) hG.le
    unfold F_X12_happiest
    rw [pi_197_4 hs1, Option.bind_some]
    by_cases e : a = 0
    · rw [if_pos e, h29]
    · rw [if_neg e, eW, h0.resolve_left e, b2_some, if_neg (by decide), h29]
  · have e : ¬ a = 0 := fun z => h0 (.inl z)
    have h1 : ¬ wI a 10 17 = true := fun z => h0 (.inr z)
    refine pk_thr (t := 1) (by decide) hl hC hR hG (L_happiest_1 hs (S' := S) (I' := I) (L' := L) (R' := R) (n' := (n.1 + 1, n.2 + 6)) ?_) (v := 0) ?_
    · unfold F_X11_happiest; rw [if_neg e, x_within hC, if_neg h1, b3_thr2]; rfl
    · unfold F_X12_happiest
      rw [pi_197_4 hs, Option.bind_some, if_neg e, eW, b2i_ne h1, b2_some, if_pos rfl, cv_197 hs, fails_q hs, b2_some]
