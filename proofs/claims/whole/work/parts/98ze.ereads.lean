/-! the reference reads on -/
section ER
variable {Ls : Nat} {xs : Nat → Int32} {S : mkS} {L : mkL} {R : mkR} {n : Nat × Nat} {tb : Nat → Nat} {N : Nat}
theorem e_digits (hs : St S R) {s : Nat} : ∀ (r g q : Nat) (I : mkI), q + r = N → r < g → s ≤ q → TpR tb N I → I 197 8 = nI q → I 197 9 = nI s → (q - s ≤ 3 → I 197 11 = nI (numV tb (q - s) s 0)) → ∃ I', F_X12_readsOn_141 g (some 197) (mk S I L R n) = some (mk S I' L R n) ∧ I' 197 8 = nI (rn isDg tb r q) ∧ I' 197 10 = (if 3 < rn isDg tb r q - s then 3 else 2) ∧ (rn isDg tb r q - s ≤ 3 → I' 197 11 = nI (numV tb (rn isDg tb r q - s) s 0)) ∧ kM I I' ∧ I' 197 9 = nI s := by
  intro r
  have fin : ∀ (q : Nat) (I : mkI), s ≤ q → q ≤ N → TpR tb N I → I 197 8 = nI q → I 197 9 = nI s → (q - s ≤ 3 → I 197 11 = nI (numV tb (q - s) s 0)) → ∃ I', ((gI (mk S I L R n) (some 197) 12 8).bind fun v214 => (gI (mk S I L R n) (some 197) 12 9).bind fun v218 => if (v214 - v218) ≤ (3 : Int32) then (F_X12_readsOn_231 (2 : Int32) (some 197) (mk S I L R n)) else (F_X12_readsOn_231 (3 : Int32) (some 197) (mk S I L R n))) = some (mk S I' L R n) ∧ I' 197 8 = nI q ∧ I' 197 10 = (if 3 < q - s then 3 else 2) ∧ (q - s ≤ 3 → I' 197 11 = nI (numV tb (q - s) s 0)) ∧ kM I I' ∧ I' 197 9 = nI s := fun q I hsq hqN hT h8 h9 h11 => by
    have hN := hT.1
    unfold F_X12_readsOn_231 F_X12_readsOn_263
    rw [gi_197_8 hs, Option.bind_some, gi_197_9 hs, Option.bind_some, h8, h9, nI_sub hsq]
    by_cases e : 3 < q - s
    · rw [if_neg (show ¬ nI (q - s) ≤ 3 from nI_ge (a := 3) (b := q - s) e (by omega)), if_pos e, pi_197_10 hs, Option.bind_some]
      exact ⟨_, rfl, by rw [up2_row, up1_ne _ _ (by decide)]; exact h8, up2_self _ _ _ _, fun z => absurd z (by omega), kM.up (by omega), by rw [up2_row, up1_ne _ _ (by decide)]; exact h9⟩
    · rw [if_pos (show nI (q - s) ≤ 3 from nI_le (b := 3) (by omega) (by omega)), if_neg e, pi_197_10 hs, Option.bind_some]
      exact ⟨_, rfl, by rw [up2_row, up1_ne _ _ (by decide)]; exact h8, up2_self _ _ _ _, fun z => by rw [up2_row, up1_ne _ _ (by decide)]; exact h11 z, kM.up (by omega), by rw [up2_row, up1_ne _ _ (by decide)]; exact h9⟩
  induction r with
  | zero =>
    intro g q I hq hg hsq hT h8 h9 h11
    obtain ⟨g, rfl⟩ : ∃ y, g = y + 1 := ⟨g - 1, by omega⟩
    have hN := hT.1
    simp only [F_X12_readsOn_141]
    rw [gi_197_8 hs, Option.bind_some, h8, cv_197 hs, e_see hs hT (by omega), b2_some, if_pos (show N ≤ q by omega), e_isDg (by decide), b2_some, if_pos (show b2i (isDg 0) = 0 by decide)]
    exact fin q I hsq (by omega) hT h8 h9 h11
  | succ r ih =>
    intro g q I hq hg hsq hT h8 h9 h11
    obtain ⟨g, rfl⟩ : ∃ y, g = y + 1 := ⟨g - 1, by omega⟩
    have hN := hT.1
    have hb := (hT.2.2 q (by omega)).1
    rw [rn]
    by_cases e : isDg (tb q) = true
    · have hd := isDg_b e
      have step : ∀ v : Int32, (q + 1 - s ≤ 3 → v = nI (numV tb (q + 1 - s) s 0)) → ∃ I', F_X12_readsOn_196 (F_X12_readsOn_141 g) (some 197) v (some 197) (mk S I L R n) = some (mk S I' L R n) ∧ I' 197 8 = nI (rn isDg tb r (q + 1)) ∧ I' 197 10 = (if 3 < rn isDg tb r (q + 1) - s then 3 else 2) ∧ (rn isDg tb r (q + 1) - s ≤ 3 → I' 197 11 = nI (numV tb (rn isDg tb r (q + 1) - s) s 0)) ∧ kM I I' ∧ I' 197 9 = nI s := fun v hv => by
        have k : kM I (up2 (up2 I 197 11 v) 197 8 (nI (q + 1))) := (kM.up (by omega)).tr (kM.up (by omega))
        have c9 : (up2 (up2 I 197 11 v) 197 8 (nI (q + 1))) 197 9 = I 197 9 := by rw [up2_row, up1_ne _ _ (by decide), up2_row, up1_ne _ _ (by decide)]
        obtain ⟨I', q1, q2, q3, q4, q5, q6⟩ := ih g (q + 1) (up2 (up2 I 197 11 v) 197 8 (nI (q + 1))) (by omega) (by omega) (by omega) (k.tp hT) (up2_self _ _ _ _) (by rw [c9]; exact h9) (fun z => by rw [up2_row, up1_ne _ _ (by decide), up2_self]; exact hv z)
        refine ⟨I', ?_, q2, q3, q4, k.tr q5, q6⟩
        unfold F_X12_readsOn_196
        rw [pi_197_11 hs, Option.bind_some, gi_197_8 hs, Option.bind_some, up2_row, up1_ne _ _ (by decide), h8, nI_1, pi_197_8 hs, Option.bind_some]
        exact q1
      simp only [F_X12_readsOn_141]
      rw [gi_197_8 hs, Option.bind_some, h8, cv_197 hs, e_see hs hT (by omega), b2_some, if_neg (show ¬ N ≤ q by omega), e_isDg hb, b2_some, e, if_neg (show ¬ b2i true = 0 by decide), gi_197_8 hs, Option.bind_some, gi_197_9 hs, Option.bind_some, h8, h9, nI_sub hsq, if_pos rfl]
      by_cases e3 : 3 ≤ q - s
      · rw [if_pos (show (3 : Int32) ≤ nI (q - s) from nI_le (a := 3) e3 (by omega)), gi_197_11 hs, Option.bind_some]
        exact step _ (fun z => absurd z (by omega))
      · have hv := h11 (by omega)
        have hlt := numV_lt (tb := tb) (q - s) s 0
        rw [if_neg (show ¬ (3 : Int32) ≤ nI (q - s) from nI_ge (b := 3) (by omega) (by omega)), gi_197_11 hs, Option.bind_some, gr_197_5 hs, Option.bind_some, Option.bind_some, ab_202 hs hT (by omega), Option.bind_some, hv]
        refine step _ (fun z => ?_)
        rw [show q + 1 - s = (q - s) + 1 by omega, numV_snoc, show s + (q - s) = q by omega, show (10 : Int32) * nI (numV tb (q - s) s 0) = nI (10 * numV tb (q - s) s 0) from nI_mul9 10 _, nI_add, show (48 : Int32) = nI 48 from rfl, nI_sub (by omega)]
    · simp only [F_X12_readsOn_141]
      rw [gi_197_8 hs, Option.bind_some, h8, cv_197 hs, e_see hs hT (by omega), b2_some, if_neg (show ¬ N ≤ q by omega), e_isDg hb, b2_some, show isDg (tb q) = false by simpa using e, if_pos (show b2i false = 0 from rfl), if_neg Bool.false_ne_true]
      exact fin q I hsq (by omega) hT h8 h9 h11
theorem e_readsAt (hs : St S R) {I : mkI} (hT : TpR tb N I) {s : Nat} (hsN : s ≤ N) (h8 : I 197 8 = nI s) : ∃ I', F_X12_readsOn_52 (some 197) (mk S I L R n) = some (mk S I' L R n) ∧ TkR tb (lxAt tb N s) I' ∧ kM I I' := by
  have hN := hT.1
  obtain ⟨I1, hI1⟩ : ∃ I1, I1 = up2 I 197 9 (nI s) := ⟨_, rfl⟩
  have k1 : kM I I1 := by rw [hI1]; exact kM.up (by omega)
  have hT1 := k1.tp hT
  have a8 : I1 197 8 = nI s := by rw [hI1, up2_row, up1_ne _ _ (by decide)]; exact h8
  have a9 : I1 197 9 = nI s := by rw [hI1, up2_self]
  unfold F_X12_readsOn_52
  rw [gi_197_8 hs, Option.bind_some, h8, pi_197_9 hs, Option.bind_some, ← hI1, gi_197_8 hs, Option.bind_some, a8, gi_197_7 hs, Option.bind_some, hT1.2.1]
  unfold lxAt
  by_cases e : N ≤ s
  · rw [if_neg (nI_nlt (by omega) (by omega)), pi_197_10 hs, Option.bind_some, if_pos e]
    exact ⟨_, rfl, ⟨by rw [up2_row, up1_ne _ _ (by decide)]; exact a8, by rw [up2_row, up1_ne _ _ (by decide)]; exact a9, by rw [up2_self]; rfl, fun h => absurd (show (0 : Nat) = 3 from h) (by decide)⟩, k1.tr (kM.up (by omega))⟩
  · have hb := (hT.2.2 s (by omega)).1
    rw [if_pos (nI_lt (by omega) (by omega)), gr_197_5 hs, Option.bind_some, Option.bind_some, ab_202 hs hT1 (by omega), Option.bind_some, e_isLt hb, b2_some, if_neg e]
    by_cases e1 : isLt (tb s) = true
    · obtain ⟨I', r1, r2, r3, r4, r5⟩ := e_letters (L := L) (n := n) hs (N - s) mm_N s I1 (by omega) (by show N - s < 1000000; omega) hT1 a8
      rw [e1, if_neg (by decide), if_pos rfl, r1]
      exact ⟨I', rfl, ⟨r2, r5.trans a9, r3, fun h => absurd (show (2 : Nat) = 3 from h) (by decide)⟩, k1.tr r4⟩
    · rw [show isLt (tb s) = false by simpa using e1, if_pos (show b2i false = 0 from rfl), if_neg Bool.false_ne_true, e_isDg hb, b2_some]
      by_cases e2 : isDg (tb s) = true
      · obtain ⟨I2, hI2⟩ : ∃ I2, I2 = up2 I1 197 11 0 := ⟨_, rfl⟩
        have k2 : kM I I2 := k1.tr (by rw [hI2]; exact kM.up (by omega))
        obtain ⟨I', r1, r2, r3, r4, r5, r6⟩ := e_digits (L := L) (n := n) hs (s := s) (N - s) mm_N s I2 (by omega) (by show N - s < 1000000; omega) (Nat.le_refl _) (k2.tp hT) (by rw [hI2, up2_row, up1_ne _ _ (by decide)]; exact a8) (by rw [hI2, up2_row, up1_ne _ _ (by decide)]; exact a9) (fun _ => by rw [hI2, up2_self, Nat.sub_self]; rfl)
        rw [e2, if_neg (by decide), if_pos rfl, pi_197_11 hs, Option.bind_some, ← hI2, r1]
        refine ⟨I', rfl, ⟨r2, ?_, ?_, ?_⟩, k2.tr r5⟩
        · exact r6
        · rw [r3]
          by_cases e3 : 3 < rn isDg tb (N - s) s - s
          · rw [if_pos e3, if_pos e3]; rfl
          · rw [if_neg e3, if_neg e3]; rfl
        · intro h
          have e3 : ¬ 3 < rn isDg tb (N - s) s - s := fun z => by
            have h' : (if 3 < rn isDg tb (N - s) s - s then 1 else 3) = 3 := h
            rw [if_pos z] at h'; cases h'
          rw [r4 (by omega)]
          rfl
      · rw [show isDg (tb s) = false by simpa using e2, if_pos (show b2i false = 0 from rfl), if_neg Bool.false_ne_true, e_isSg hb, b2_some]
        have fin : ∀ v : Nat, v = rtk tb (s, s + 1, if isSg (tb s) = true then 4 else 1) → (if isSg (tb s) = true then 4 else 1) ≠ 3 → ∃ I', F_X12_readsOn_250 (some 197) (nI v) (some 197) (mk S I1 L R n) = some (mk S I' L R n) ∧ TkR tb (s, s + 1, if isSg (tb s) = true then 4 else 1) I' ∧ kM I I' := fun v hv h3 => by
          unfold F_X12_readsOn_250 F_X12_readsOn_263
          rw [pi_197_10 hs, Option.bind_some, gi_197_8 hs, Option.bind_some, up2_row, up1_ne _ _ (by decide), a8, nI_1, pi_197_8 hs, Option.bind_some]
          exact ⟨_, rfl, ⟨up2_self _ _ _ _, by rw [up2_row, up1_ne _ _ (by decide), up2_row, up1_ne _ _ (by decide)]; exact a9, by rw [up2_row, up1_ne _ _ (by decide), up2_self, hv], fun h => absurd h h3⟩, (k1.tr (kM.up (by omega))).tr (kM.up (by omega))⟩
        cases e3 : isSg (tb s) with
        | true =>
          rw [e3] at fin
          rw [if_neg (show ¬ b2i true = 0 by decide)]
          exact fin (tb s) rfl (by decide)
        | false =>
          rw [e3] at fin
          rw [if_pos (show b2i false = 0 from rfl)]
          exact fin 3 rfl (by decide)
theorem e_readsOn (hs : St S R) {I : mkI} (hT : TpR tb N I) {q : Nat} (hq : q ≤ N) (h8 : I 197 8 = nI q) : ∃ I', F_X12_readsOn (some 197) (mk S I L R n) = some (mk S I' L R n) ∧ TkR tb (lx tb N q) I' ∧ kM I I' := by
  have key : ∀ (r g q : Nat) (I : mkI), q + r = N → r < g → TpR tb N I → I 197 8 = nI q → ∃ I', F_X12_readsOn_0 g (some 197) (mk S I L R n) = some (mk S I' L R n) ∧ TkR tb (lxAt tb N (rn isSp tb r q)) I' ∧ kM I I' := by
    intro r
    induction r with
    | zero =>
      intro g q I hq hg hT h8
      obtain ⟨g, rfl⟩ : ∃ y, g = y + 1 := ⟨g - 1, by omega⟩
      have := hT.1
      simp only [F_X12_readsOn_0]
      rw [gi_197_8 hs, Option.bind_some, gi_197_7 hs, Option.bind_some, h8, hT.2.1, if_pos (nI_le (by omega) (by omega))]
      exact e_readsAt (s := q) hs hT (by omega) h8
    | succ r ih =>
      intro g q I hq hg hT h8
      obtain ⟨g, rfl⟩ : ∃ y, g = y + 1 := ⟨g - 1, by omega⟩
      have hN := hT.1
      obtain ⟨y1, y2, -⟩ := nb_all (tb q) (hT.2.2 q (by omega)).1
      have rd := ab_202 (L := L) (n := n) hs hT (show q < N by omega)
      have next : isSp (tb q) = true → ∃ I', F_X12_readsOn_39 (F_X12_readsOn_0 g) (some 197) (mk S I L R n) = some (mk S I' L R n) ∧ TkR tb (lxAt tb N (rn isSp tb (r + 1) q)) I' ∧ kM I I' := fun h => by
        unfold F_X12_readsOn_39
        rw [gi_197_8 hs, Option.bind_some, h8, nI_1, pi_197_8 hs, Option.bind_some, rn, if_pos h]
        obtain ⟨I', q1, q2, q3⟩ := ih g (q + 1) (up2 I 197 8 (nI (q + 1))) (by omega) (by omega) ((kM.up (by omega)).tp hT) (up2_self _ _ _ _)
        exact ⟨I', q1, q2, (kM.up (by omega)).tr q3⟩
      simp only [F_X12_readsOn_0]
      rw [gi_197_8 hs, Option.bind_some, gi_197_7 hs, Option.bind_some, h8, hT.2.1, if_neg (nI_ge (by omega) (by omega)), gr_197_5 hs, Option.bind_some, Option.bind_some, rd, Option.bind_some]
      by_cases e1 : tb q = 32
      · rw [if_pos (y2.mpr e1)]
        exact next (decide_eq_true (.inr e1))
      · rw [if_neg (fun z => e1 (y2.mp z)), Option.bind_some, Option.bind_some, rd, Option.bind_some]
        by_cases e2 : tb q = 10
        · rw [if_pos (y1.mpr e2)]
          exact next (decide_eq_true (.inl e2))
        · rw [if_neg (fun z => e2 (y1.mp z)), rn, if_neg (by unfold isSp; rw [decide_eq_false (fun z => z.elim e2 e1)]; exact Bool.false_ne_true)]
          exact e_readsAt hs hT (by omega) h8
  exact key (N - q) mm_N q I (by omega) (by have := hT.1; show N - q < 1000000; omega) hT h8
end ER
