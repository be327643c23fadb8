/-! busiest -/
section CBu
variable {S : mkS} {I : mkI} {L : mkL} {R : mkR} {n : Nat × Nat} {P : PL}
theorem c_bsyL (hs : St S R) (hb : BdS S R 170 174 175) {C M N : Nat} (hC : C ≤ 10) (h1 : I 174 1 = nI C) (h2 : I 182 1 = nI C) {A : Nat → Nat} {u : Nat → Nat} (hA : ∀ c, c < C → I 174 (13 + 7 * c) = nI (A c)) (hu : ∀ k, k < N → (aUse C (I 174) (I 182) (nI (M + k))).length = u k ∧ u k ≤ 10) (hN : M + N ≤ 300000) (hcand : ∀ c, c < C → I 174 (15 + 7 * c) = 0 → I 182 (16 + 7 * c) ≠ -1 → M ≤ A c ∧ A c < M + N) : ∀ (r g c b : Nat), c + r = C → r < g → b < N → (u 0 < u b ∨ (u 0 = u b ∧ b ≤ 0)) → (∀ d, d < c → I 174 (15 + 7 * d) = 0 → I 182 (16 + 7 * d) ≠ -1 → u (A d - M) < u b ∨ (u (A d - M) = u b ∧ b ≤ A d - M)) → ∃ b', F_X11_busiest_30 g (some 128) (nI M) (nI (u b)) (nI b) (nI c) (mk S I L R n) = some (.inr (nI b'), mk S I L R n) ∧ b' < N ∧ (u 0 < u b' ∨ (u 0 = u b' ∧ b' ≤ 0)) ∧ ∀ d, d < C → I 174 (15 + 7 * d) = 0 → I 182 (16 + 7 * d) ≠ -1 → u (A d - M) < u b' ∨ (u (A d - M) = u b' ∧ b' ≤ A d - M) := by
  have ht := bds_t hs
  intro r
  induction r with
  | zero =>
    intro g c b hc hg hb1 hb2 hb3
    obtain ⟨g, rfl⟩ : ∃ z, g = z + 1 := ⟨g - 1, by omega⟩
    have : c = C := by omega
    subst this
    refine ⟨b, ?_, hb1, hb2, hb3⟩
    simp only [F_X11_busiest_30]
    rw [gr_128_5 hs, Option.bind_some, bd_v hb, c_calls hb, b2_some, h1, if_pos (nI_le (by omega) (by omega))]
  | succ r ih =>
    intro g c b hc hg hb1 hb2 hb3
    obtain ⟨g, rfl⟩ : ∃ z, g = z + 1 := ⟨g - 1, by omega⟩
    have hcC : c < C := by omega
    have f2 : F_X0_fact (some 170) (nI c) (2 : Int32) (mk S I L R n) = some (nI (A c), mk S I L R n) := by
      have := c_fact (n := n) (L := L) (w := 2) hb hC h1 hcC (by decide)
      rw [show 11 + 7 * c + 2 = 13 + 7 * c by omega, hA c hcC] at this; exact this
    have nle : ¬ nI C ≤ nI c := nI_ge (by omega) (by omega)
    simp only [F_X11_busiest_30, F_X11_busiest_109, F_X11_busiest_116, gr_128_5 hs, gr_128_7 hs, Option.bind_some, bd_v hb, bd_v ht, c_calls hb, b2_some, h1, if_neg nle, c_isToCome hb hC h1 hcC, b2i_0, f2, c_wasOn ht hC h2 hcC, nI_1, cv_128 hs]
    by_cases q1 : I 174 (15 + 7 * c) = 0
    · rw [if_neg (by simp [q1])]
      by_cases q3 : I 182 (16 + 7 * c) = -1
      · rw [if_pos (by simp [q3])]
        exact ih g (c + 1) b (by omega) (by omega) hb1 hb2 (fun d hd z1 z2 => by
          by_cases e : d = c
          · subst e; exact absurd q3 z2
          · exact hb3 d (by omega) z1 z2)
      · rw [if_neg (by simp [q3])]
        obtain ⟨a1, a2⟩ := hcand c hcC q1 q3
        obtain ⟨v1, v2⟩ := hu (A c - M) (by omega)
        obtain ⟨w1, w2⟩ := hu b hb1
        have eu := c_use (L := L) (n := n) hs hb hC h1 h2 (nI (M + (A c - M)))
        rw [v1] at eu
        rw [nI_sub a1, nI_add, eu, b2_some]
        have gt : (u 0 < u (A c - M) ∨ (u 0 = u (A c - M) ∧ A c - M ≤ 0)) → (u b < u (A c - M) ∨ (u b = u (A c - M) ∧ A c - M < b)) → ∃ b', F_X11_busiest_30 g (some 128) (nI M) (nI (u (A c - M))) (nI (A c - M)) (nI (c + 1)) (mk S I L R n) = some (.inr (nI b'), mk S I L R n) ∧ b' < N ∧ (u 0 < u b' ∨ (u 0 = u b' ∧ b' ≤ 0)) ∧ ∀ d, d < C → I 174 (15 + 7 * d) = 0 → I 182 (16 + 7 * d) ≠ -1 → u (A d - M) < u b' ∨ (u (A d - M) = u b' ∧ b' ≤ A d - M) := fun y1 y2 =>
          ih g (c + 1) (A c - M) (by omega) (by omega) (by omega) y1 (fun d hd z1 z2 => by
            by_cases e : d = c
            · subst e; exact .inr ⟨rfl, Nat.le_refl _⟩
            · have := hb3 d (by omega) z1 z2
              omega)
        by_cases t1 : u b < u (A c - M)
        · rw [if_pos (nI_lt t1 (by omega))]
          exact gt (by clear gt ih; omega) (.inl t1)
        · rw [if_neg (nI_nlt (by omega) (by omega))]
          by_cases t2 : u (A c - M) = u b
          · rw [if_pos (by rw [t2])]
            by_cases t3 : b ≤ A c - M
            · rw [if_pos (nI_le t3 (by omega))]
              exact ih g (c + 1) b (by omega) (by omega) hb1 hb2 (fun d hd z1 z2 => by
                by_cases e : d = c
                · subst e; exact .inr ⟨t2, t3⟩
                · exact hb3 d (by omega) z1 z2)
            · rw [if_neg (nI_ge (by omega) (by omega))]
              exact gt (by clear gt ih; omega) (.inr ⟨t2.symm, by clear gt ih; omega⟩)
          · rw [if_neg (fun w => t2 ((nI_eq (by omega) (by omega)).mp w))]
            exact ih g (c + 1) b (by omega) (by omega) hb1 hb2 (fun d hd z1 z2 => by
              by_cases e : d = c
              · subst e; exact .inl (by omega)
              · exact hb3 d (by omega) z1 z2)
    · rw [if_pos (by simp [q1])]
      exact ih g (c + 1) b (by omega) (by omega) hb1 hb2 (fun d hd z1 z2 => by
        by_cases e : d = c
        · subst e; exact absurd z1 q1
        · exact hb3 d (by omega) z1 z2)
end CBu
/-- a call that will have been on begins within -/
theorem cand_in {P : PL} (hP : PlOK P) {frc : Nat → Int32} (hf : frcOK P frc) {C : Nat} {f : Nat → Int32} {F T A D : Nat → Nat} {M n : Nat} (h : BI P C f F T A D M) {d : Nat} (hd : d < C) (h0 : f (15 + 7 * d) = 0) (h1 : fin_ C (M + n) (gRun P frc C (evU f A C M n) f) (16 + 7 * d) ≠ -1) : M ≤ A d ∧ A d < M + n := by
  obtain ⟨z1, -, z2, -⟩ := h.2.2.2.2.1 d hd h0
  refine ⟨z1, ?_⟩
  rcases Nat.lt_or_ge (A d) (M + n) with w | w
  · exact w
  · exfalso
    apply h1
    rw [fin_ne (by omega) (fun e _ => by omega), gRun_other hP hf (by omega) _ _ h.1 (fun c hc => (evU_mem.mp hc).1) (fun c hc => by
      have := (evU_mem.mp hc).2.2.2
      have : c ≠ d := fun q => by subst q; omega
      omega)]
    exact z2
theorem k_busiest (Ls : Nat) (xs : Nat → Int32) (a : Int32) : Good Ls xs (F_L_busiest (some 128) a (some 220)) (F_X12_busiest (some 197) a) := by
  intro k S I L R n ⟨hl, tb, tn, fk, fp, w, tr, im, hC, hR, hG⟩
  obtain ⟨hs, hb, ⟨p, hpl, hp⟩, ⟨c1, c2⟩, hP, hRP, hRB⟩ := inv_all hC hR hG
  obtain ⟨-, g3, g4, F, T, A, D, M, hB, hM, hgo⟩ := hG.opn
  have hB' := hB.congr (fun j hj => x_cells hC hj)
  by_cases h1 : wI a 1 999 = true
  · obtain ⟨j, hj1, hj2, rfl⟩ := (wI_iff (lo := 1) (hi := 999) (by decide) (by decide)).mp h1
    obtain ⟨p, g1, I', R', e1, e2, e3, e4, e5, e6, e7, e8, kI⟩ := x_foresee hC hP hB' (q := j) (by omega)
    have hB1 := hB'.congr e2
    have kb : I' 174 = I 174 := kI _ (by unfold scr; decide) (hs.nst hC.1.2.1 (by decide) (by decide))
    have hb5 : BdS S R' 170 174 175 := by
      obtain ⟨z1, z2, z3, z4⟩ := hb
      exact ⟨z1, by rw [e1, up2_ne _ _ _ (by decide)]; exact z2, by rw [e1, up2_ne _ _ _ (by decide)]; exact z3, z4⟩
    have t1 : I' 182 1 = nI w.2.1.1 := by
      rw [e4]; exact (hB1.pass hP frc0_ok (n := j) (by omega)).1.2.1
    have ue : ∀ q, q < j → (aUse w.2.1.1 (I' 174) (I' 182) (nI (M + q))).length = onK w.1 frc0 w.2.1.1 g1 A M q ∧ onK w.1 frc0 w.2.1.1 g1 A M q ≤ 10 := fun q hq => by
      rw [kb, e4, use_on hP frc0_ok hB1 (fun i hi => (e2 i hi).symm) hq (by omega)]
      exact ⟨rfl, by have := onK_le (P := w.1) (frc := frc0) (C := w.2.1.1) (f := g1) (A := A) (M := M) (k := q); omega⟩
    have hcd : ∀ c, c < w.2.1.1 → I' 174 (15 + 7 * c) = 0 → I' 182 (16 + 7 * c) ≠ -1 → M ≤ A c ∧ A c < M + j := fun c hc z1 z2 => by
      rw [e4] at z2
      rw [kb, ← e2 _ (by omega)] at z1
      exact cand_in hP frc0_ok hB1 hc z1 z2
    obtain ⟨b, q1, q2, q3, q4⟩ := c_bsyL (L := L) (n := n) e5 hb5 (M := M) (N := j) (A := A) (u := onK w.1 frc0 w.2.1.1 g1 A M) c1 (by rw [kb]; exact c2) t1 (fun c hc => by rw [kb]; exact (hB'.1.2.2 c hc).2.2.2.1.1) ue (by omega) hcd w.2.1.1 mm_N 0 0 (by omega) (by show w.2.1.1 < 1000000; omega) (by omega) (.inr ⟨rfl, Nat.le_refl _⟩) (fun d hd => by omega)
    have hmax : uMax (onK w.1 frc0 w.2.1.1 g1 A M) j b := by
      obtain ⟨b9, h9⟩ := uMax_ex (onK w.1 frc0 w.2.1.1 g1 A M) j (by omega)
      have hle := h9.2.1 b q2
      have key : b = b9 := by
        rcases Nat.eq_zero_or_pos b9 with z | z
        · subst z
          rcases q3 with q3 | ⟨q3, q5⟩
          · omega
          · omega
        · obtain ⟨k9, rfl⟩ : ∃ z, b9 = z + 1 := ⟨b9 - 1, by omega⟩
          obtain ⟨c, hc, s0, sA, s1⟩ := use_grow hP frc0_ok hB1 h9.1 (by omega) (h9.2.2 k9 (by omega))
          have := q4 c hc (by rw [kb, ← e2 _ (by omega)]; exact s0) (by rw [e4]; exact s1)
          rw [show A c - M = k9 + 1 by omega] at this
          rcases Nat.lt_trichotomy b (k9 + 1) with y | y | y
          · have := h9.2.2 b y; omega
          · exact y
          · omega
      rw [key]; exact h9
    have u0 := ue 0 (by omega)
    have hx : F_X11_busiest (some 128) (nI j) (mk S I L R n) = some (.inr (nI b), mk S I' L R' n) := by
      have eu := c_use (L := L) (n := n) e5 hb5 c1 (by rw [kb]; exact c2) t1 (nI (M + 0))
      rw [u0.1, Nat.add_zero] at eu
      unfold F_X11_busiest
      rw [x_minutes hC, if_pos h1, b3_some, cv_128 hs, e3, b2_some, gr_128_5 e5, Option.bind_some, bd_v hb5, c_minute hb5, b2_some, kb, show I 174 0 = nI M from hB'.2.1, cv_128 e5, eu, b2_some]
      exact q1
    obtain ⟨-, r2, r3, r4⟩ := q_ref hC hR kI e2 0
    obtain ⟨I1, a1, a2, a3⟩ := e_aside (L := up2 L 220 0 (nI b).toInt64) (n := n) e5 (up2 I' 197 4 0)
    have fr1 : ∀ i, i < 10 → I1 205 i = -1 := by rw [a2 _ (by decide)]; exact r4
    obtain ⟨I3, b', m1, mb, m2, m3⟩ := e_bsyL (L := up2 L 220 0 (nI b).toInt64) (n := n) e5 hP hB1 a2 a3 (by rw [a2 _ (by decide)]; exact r2) (frc_ok0 fr1) (N := j) (by omega) j mm_N 0 0 (-1) I1 (by omega) (by show j < 1000000; omega) (MinS.zero hB1 (by omega) (by rw [a2 _ (by decide)]; exact r3)) (.inl ⟨rfl, rfl, rfl⟩)
    have hon : onK w.1 (I1 205) w.2.1.1 g1 A M = onK w.1 frc0 w.2.1.1 g1 A M := by
      funext q
      unfold onK
      rw [(run_0 (P := w.1) (n := q + 1) (m := M) (f := g1) (A := A) fr1 c1 g1).1]
    have hbb := mb (by omega)
    rw [hon] at hbb
    have ebb : b' = b := uMax_one hbb hmax
    subst ebb
    have m1' : F_X12_busiest_29 mm_N (some 197) (nI j) 0 (-1) 0 (mk S I1 (up2 L 220 0 (nI b').toInt64) R' n) = some (nI b', mk S I3 (up2 L 220 0 (nI b').toInt64) R' n) := m1
    have sc : scQ I' I3 := scQ.m4.tr m2
    refine pk_val hl hC hR hG (L_busiest_0 hs e5 hx) kI (fun x q => by rw [e1, up2_ne _ _ _ q]) (by rw [e1, up2_row, up1_ne _ _ (by decide), up1_ne _ _ (by decide)]; exact ⟨rfl, rfl⟩) (I'' := I3) ?_ (by rw [m3 4 (by decide), up2_self]) sc.fr sc.inv
    unfold F_X12_busiest
    rw [pi_197_4 e5, Option.bind_some, e_isSoon, b2_some, h1, if_neg (by decide), cv_197 e5, a1, Option.bind_some, m1']
  · have hx : F_X11_busiest (some 128) a (mk S I L R n) = thr "java/lang/IllegalArgumentException" S I L R n := by
      unfold F_X11_busiest
      rw [x_minutes hC, if_neg h1, b3_thr2]
    refine pk_thr (t := 1) (by decide) hl hC hR hG (L_busiest_1 hs hx) (v := 0) ?_
    unfold F_X12_busiest
    rw [pi_197_4 hs, Option.bind_some, e_isSoon, b2_some, if_pos (by rw [b2i_0]; simpa using h1), cv_197 hs, fails_q hs, b2_some]
