/-! copy -/
section CCo
variable {S : mkS} {I : mkI} {R : mkR} {n : Nat × Nat}
theorem c_copyL (hs : St S R) (hb : BdS S R 170 174 175) {C M : Nat} (hC : C ≤ 10) (h1 : I 174 1 = nI C) (h2 : I 182 1 = nI C) (h0 : I 174 0 = nI M) {t so ma : Nat} (ht : t < 4) (hso : so < 4) (hm : ma ≤ 30) (s1 : I (189 + 2 * t) 1 = nI so) (s2 : I (189 + 2 * t) 2 = nI ma) {u : Nat → Nat} (hu : ∀ q, q < ma → (aUse C (I 174) (I 182) (nI (M + q))).length = u q) : ∀ (r g i : Nat) (L : mkL), i + r = ma → r < g → ∃ L', F_X11_copy_15 g (some 128) (some (189 + 2 * t)) (nI i) (mk S I L R n) = some (.inr (nI ma), mk S I L' R n) ∧ (∀ j, i ≤ j → j < ma → L' (190 + 2 * t) j = cutv so (nI (u j)).toInt64) ∧ (∀ j, j < i → L' (190 + 2 * t) j = L (190 + 2 * t) j) ∧ ∀ b, b ≠ 190 + 2 * t → L' b = L b := by
  intro r
  induction r with
  | zero =>
    intro g i L hi hg
    obtain ⟨g, rfl⟩ : ∃ z, g = z + 1 := ⟨g - 1, by omega⟩
    refine ⟨L, ?_, fun j _ _ => by omega, fun _ _ => rfl, fun _ _ => rfl⟩
    simp only [F_X11_copy_15]
    rw [tr_v hs ht, c_many hs ht hm s2, b2_some, if_pos (nI_le (by omega) (by omega)), tr_v hs ht, c_many hs ht hm s2, b2_some]
  | succ r ih =>
    intro g i L hi hg
    obtain ⟨g, rfl⟩ : ∃ z, g = z + 1 := ⟨g - 1, by omega⟩
    obtain ⟨L', q1, q2, q3, q4⟩ := ih g (i + 1) (up2 L (190 + 2 * t) i (cutv so (nI (u i)).toInt64)) (by omega) (by omega)
    refine ⟨L', ?_, fun j z1 z2 => ?_, fun j hj => by rw [q3 j (by omega), up2_row, up1_ne _ _ (by omega)], fun b hb => by rw [q4 b hb, up2_ne _ _ _ hb]⟩
    · simp only [F_X11_copy_15]
      rw [tr_v hs ht, c_many hs ht hm s2, b2_some, if_neg (nI_ge (by omega) (by omega)), gr_128_5 hs, Option.bind_some, bd_v hb, c_minute hb, b2_some, h0, nI_add, cv_128 hs, c_use hs hb hC h1 h2, b2_some, hu i (by omega), tr_v hs ht, c_put hs ht hso hm s1 s2 (by omega), Option.bind_some, nI_1, q1]
    · by_cases e : j = i
      · subst e; rw [q3 j (by omega), up2_self]
      · exact q2 j (by omega) z2
end CCo
section RCo
variable {S : mkS} {R : mkR} {n : Nat × Nat} {P : PL}
theorem e_copyL (hs : St S R) (hP : PlOK P) {C : Nat} {f : Nat → Int32} {F T A D : Nat → Nat} {M : Nat} (hB : BI P C f F T A D M) {I I0 : mkI} (h1 : ∀ a, a ≠ 206 → I0 a = I a) (h2 : ∀ j, j < 41 → I0 206 j = I 198 (7 + j)) (hKP : RPlan P (I0 198)) (hf : frcOK P (I0 205)) (hN : M + 100 ≤ 300000) {t so ma : Nat} (ht : t < 4) (hso : so < 4) (hm : ma ≤ 30) (s1 : I 217 t = nI so) (s2 : I 218 t = nI ma) : ∀ (r g k : Nat) (J : mkI) (L : mkL), k + r = ma → r < g → MinS P C f A M k I0 J → ∃ I3 L', F_X12_copy_24 g (some 197) (nI t) (nI k) (mk S J L R n) = some (nI ma, mk S I3 L' R n) ∧ scQ I I3 ∧ (∀ j, j ≠ 22 → I3 197 j = I 197 j) ∧ (∀ j, k ≤ j → j < ma → L' 219 (30 * t + j) = cutv so (nI (onK P (I0 205) C f A M j)).toInt64) ∧ (∀ j, j < 30 * t + k ∨ 30 * t + 30 ≤ j → L' 219 j = L 219 j) ∧ ∀ b, b ≠ 219 → L' b = L b := by
  intro r
  induction r with
  | zero =>
    intro g k J L hk hg h
    obtain ⟨g, rfl⟩ : ∃ z, g = z + 1 := ⟨g - 1, by omega⟩
    have : k = ma := by omega
    subst this
    have eM : J 218 t = nI k := by rw [h.1.1 _ (by decide) (by decide) (by decide) (by decide), h1 _ (by decide)]; exact s2
    obtain ⟨I3, q1, q2, q3, -⟩ := e_aback (L := L) (n := n) hs h1 h2 h.1
    have eM3 : I3 218 t = nI k := by rw [q2.1 _ (by decide) (by decide) (by decide) (by decide) (by decide)]; exact s2
    refine ⟨I3, L, ?_, q2, q3, fun j _ _ => by omega, fun _ _ => rfl, fun _ _ => rfl⟩
    simp only [F_X12_copy_24]
    rw [gr_197_46 hs, Option.bind_some, ai_218 hs ht, Option.bind_some, eM, if_pos (nI_le (by omega) (by omega)), cv_197 hs, q1, Option.bind_some, gr_197_46 hs, Option.bind_some, ai_218 hs ht, Option.bind_some, eM3]
  | succ r ih =>
    intro g k J L hk hg h
    obtain ⟨g, rfl⟩ : ∃ z, g = z + 1 := ⟨g - 1, by omega⟩
    have eM : J 218 t = nI ma := by rw [h.1.1 _ (by decide) (by decide) (by decide) (by decide), h1 _ (by decide)]; exact s2
    obtain ⟨J1, q1, q2, q3⟩ := e_minK (L := L) (n := n) hs hP hB hKP hf (by omega) h
    have eS : J1 217 t = nI so := by rw [q2.1.1 _ (by decide) (by decide) (by decide) (by decide), h1 _ (by decide)]; exact s1
    have ec : F_X12_callsThat (some 197) 1 (mk S J1 L R n) = some (nI (onK P (I0 205) C f A M k), mk S J1 L R n) := e_cnt (L := L) (n := n) hs q2.2 1
    obtain ⟨I3, L', r1, r2, r3, r4, r5, r6⟩ := ih g (k + 1) J1 (up2 L 219 (30 * t + k) (cutv so (nI (onK P (I0 205) C f A M k)).toInt64)) (by omega) (by omega) q2
    refine ⟨I3, L', ?_, r2, r3, fun j z1 z2 => ?_, fun j hj => by rw [r5 j (by omega), up2_row, up1_ne _ _ (by omega)], fun b hb => by rw [r6 b hb, up2_ne _ _ _ hb]⟩
    · simp only [F_X12_copy_24]
      rw [gr_197_46 hs, Option.bind_some, ai_218 hs ht, Option.bind_some, eM, if_neg (nI_ge (by omega) (by omega)), cv_197 hs, q1, Option.bind_some, cv_197 hs, ec, b2_some, cv_197 hs, e_cut hs ht hso eS (by omega), b2_some, nI_1, r1]
    · by_cases e : j = k
      · subst e; rw [r5 _ (by omega), up2_self]
      · exact r4 j (by omega) z2
end RCo
theorem k_copy (Ls : Nat) (xs : Nat → Int32) (a : Int32) : Good Ls xs (F_L_copy (some 128) a (some 220)) (F_X12_copy (some 197) a) := by
  intro k S I L R n ⟨hl, tb, tn, fk, fp, w, tr, im, hC, hR, hG⟩
  obtain ⟨hs, hb, ⟨p, hpl, hp⟩, ⟨c1, c2⟩, hP, hRP, hRB⟩ := inv_all hC hR hG
  obtain ⟨-, g3, g4, F, T, A, D, M, hB, hM, hgo⟩ := hG.opn
  have hB' : BI w.1 w.2.1.1 (I 174) F T A D M := hB.congr (fun j hj => x_cells hC hj)
  rcases x_told hC a with ⟨ha, ht⟩ | ⟨t, ht4, rfl, ⟨hn, ht⟩ | ⟨so, ma, nu, hq, ht⟩⟩
  · refine pk_thr (t := 1) (by decide) hl hC hR hG (L_copy_1 hs (n' := (n.1 + 1, n.2 + 6)) (S' := S) (I' := I) (L' := L) (R' := R) ?_) (v := 0) ?_
    · unfold F_X11_copy; rw [cv_128 hs, ht, b3_thr2]; rfl
    · unfold F_X12_copy
      rw [cv_197 hs, e_trayNo hs ha, b2_some, pi_197_4 hs, Option.bind_some, gi_197_4 hs, Option.bind_some, up2_self, if_neg (by decide)]
  · have hm := hR.2.2.2.1 t ht4
    rw [hn] at hm
    refine pk_thr (t := 2) (by decide) hl hC hR hG (L_copy_2 hs (n' := (n.1 + 1, n.2 + 6)) (S' := S) (I' := I) (L' := L) (R' := R) ?_) (v := 0) ?_
    · unfold F_X11_copy; rw [cv_128 hs, ht, b3_thr2]; rfl
    · unfold F_X12_copy
      rw [cv_197 hs, e_tray hs ht4, b2_some, if_pos hm, pi_197_4 hs, Option.bind_some, gi_197_4 hs, Option.bind_some, up2_self, if_neg (by decide)]
  · have hm := hR.2.2.2.1 t ht4
    have hc := hC.2.2.2.2.1 t ht4
    rw [hq] at hm hc
    obtain ⟨d1, d2, d3, d4, d5⟩ := hc
    obtain ⟨-, -, m3, m4, m5⟩ := hm
    have nm1 : ¬ I 217 t = -1 := by rw [m3]; exact nI_nm1 (by omega)
    obtain ⟨p, g1, I', R', e1, e2, e3, e4, e5, e6, e7, e8, kI⟩ := x_foresee hC hP hB' (q := 30) (by omega)
    have hB1 := hB'.congr e2
    have kb : I' 174 = I 174 := kI _ (by unfold scr; decide) (hs.nst hC.1.2.1 (by decide) (by decide))
    have kt : ∀ t, t < 4 → I' (189 + 2 * t) = I (189 + 2 * t) := fun t ht => kI _ (by unfold scr; omega) (hs.nst hC.1.2.1 (by omega) (by omega))
    have hb5 : BdS S R' 170 174 175 := by
      obtain ⟨z1, z2, z3, z4⟩ := hb
      exact ⟨z1, by rw [e1, up2_ne _ _ _ (by decide)]; exact z2, by rw [e1, up2_ne _ _ _ (by decide)]; exact z3, z4⟩
    have t1 : I' 182 1 = nI w.2.1.1 := by
      rw [e4]; exact (hB1.pass hP frc0_ok (n := 30) (by omega)).1.2.1
    have ue : ∀ q, q < ma → (aUse w.2.1.1 (I' 174) (I' 182) (nI (M + q))).length = onK w.1 frc0 w.2.1.1 g1 A M q := fun q hq => by
      rw [kb, e4, use_on hP frc0_ok hB1 (fun i hi => (e2 i hi).symm) (show q < 30 by omega) (by omega)]
      rfl
    obtain ⟨L1, q1, q2, -, q4⟩ := c_copyL (n := n) e5 hb5 (M := M) c1 (by rw [kb]; exact c2) t1 (by rw [kb]; exact hB'.2.1) ht4 d1 d2 (by rw [kt t ht4]; exact d3) (by rw [kt t ht4]; exact d4) ue ma mm_N 0 L (by omega) (by show ma < 1000000; omega)
    have hx : F_X11_copy (some 128) (nI t) (mk S I L R n) = some (.inr (nI ma), mk S I' L1 R' n) := by
      have e3' : F_X11_foresee (some 128) (30 : Int32) (mk S I L R n) = some (nI (gLost w.1 frc0 w.2.1.1 (evU g1 A w.2.1.1 M 30) g1).length, mk S I' L R' n) := e3
      unfold F_X11_copy
      rw [cv_128 hs, ht, b3_some, cv_128 hs, e3', b2_some]
      exact q1
    obtain ⟨nu', hnu⟩ : ∃ nu' : Nat → Int64, nu' = fun j => cutv so (nI (onK w.1 frc0 w.2.1.1 g1 A M j)).toInt64 := ⟨_, rfl⟩
    have kR : ∀ x, x ≠ 181 → R' x = R x := fun x q => by rw [e1, up2_ne _ _ _ q]
    have kR2 : R' 181 0 = R 181 0 ∧ R' 181 1 = R 181 1 := by rw [e1, up2_row, up1_ne _ _ (by decide), up1_ne _ _ (by decide)]; exact ⟨rfl, rfl⟩
    have fC : FrC S S I I' L (up2 L1 220 0 (nI ma).toInt64) R R' := (FrC.trs hl hs hC.1.2.1 (fun x _ q1 q2 => kI x q1 q2) kR (fun x q _ => q4 x (by omega))).out 0 _
    have hT : CTr (trUp tr t (so, ma, nu')) I' L1 := (hC.2.2.2.2.1.eq kt).up ht4 hq (fun j hj => by rw [q2 j (Nat.zero_le _) hj, hnu]) q4
    have hC1 : InvC tb tn fk fp w (trUp tr t (so, ma, nu')) im k S I' L1 R' n := hC.le.trs (fun x _ q1 q2 => kI x q1 q2) kR kR2 hT
    have hR1 := hR.ofC fC
    obtain ⟨-, r2, r3, r4⟩ := q_ref hC hR kI e2 0
    obtain ⟨I1, a1, a2, a3⟩ := e_aside (L := up2 L1 220 0 (nI ma).toInt64) (n := n) e5 (up2 I' 197 4 0)
    have fr1 : ∀ i, i < 10 → I1 205 i = -1 := by rw [a2 _ (by decide)]; exact r4
    have ts' : I' 217 = I 217 := kI _ (by unfold scr; decide) (hs.nst hC.1.2.1 (by decide) (by decide))
    have tm' : I' 218 = I 218 := kI _ (by unfold scr; decide) (hs.nst hC.1.2.1 (by decide) (by decide))
    obtain ⟨I3, L2, x1, x2, x3, x4, x5, x6⟩ := e_copyL (n := n) e5 hP hB1 a2 a3 (by rw [a2 _ (by decide)]; exact r2) (frc_ok0 fr1) (by omega) ht4 d1 d2 (by rw [up2_ne _ _ _ (by decide), ts']; exact m3) (by rw [up2_ne _ _ _ (by decide), tm']; exact m4) ma mm_N 0 I1 (up2 L1 220 0 (nI ma).toInt64) (by omega) (by show ma < 1000000; omega) (MinS.zero hB1 (by omega) (by rw [a2 _ (by decide)]; exact r3))
    have hon : ∀ q, onK w.1 (I1 205) w.2.1.1 g1 A M q = onK w.1 frc0 w.2.1.1 g1 A M q := fun q => by
      unfold onK
      rw [(run_0 (P := w.1) (n := q + 1) (m := M) (f := g1) (A := A) fr1 c1 g1).1]
    have x1' : F_X12_copy_24 mm_N (some 197) (nI t) 0 (mk S I1 (up2 L1 220 0 (nI ma).toInt64) R' n) = some (nI ma, mk S I3 L2 R' n) := x1
    have sc : scQ I' I3 := scQ.m4.tr x2
    have hR2 : InvR tb tn fk fp w (trUp tr t (so, ma, nu')) im I3 L2 := by
      refine hR1.trs (fun a z1 z2 z3 z4 z5 _ _ => sc.1 a z1 z2 z3 z4 z5) sc.2 ?_
      refine RTr.eq (hR1.2.2.2.1.up ht4 hq (L' := L2) (fun j hj => ?_) (fun j hj => x5 j (by omega))) (sc.1 _ (by decide) (by decide) (by decide) (by decide) (by decide)) (sc.1 _ (by decide) (by decide) (by decide) (by decide) (by decide))
      rw [x4 j (Nat.zero_le _) hj, hon, hnu]
    refine pk_ok hl (L_copy_0 hs e5 hx) (fun _ => up2_self _ _ _ _) (I'' := I3) (L'' := L2) ?_ (by rw [x3 4 (by decide), up2_self]) fC (fun a q => ⟨sc.fr a q, x6 a (by show a ≠ 219; omega)⟩) (hC1.out 0 _) hR2 hG.le
    have ts1 : ¬ I' 217 t = -1 := by rw [ts']; exact nm1
    unfold F_X12_copy
    rw [cv_197 e5, e_tray e5 ht4, b2_some, if_neg ts1, pi_197_4 e5, Option.bind_some, gi_197_4 e5, Option.bind_some, up2_self, if_pos (by decide), cv_197 e5, a1, Option.bind_some, x1']
