/-! cord, call, likes, comesTo -/
theorem if_isL {α : Type} (W : Nat) (a : Int32) (X Y : α) : (if a < 0 then X else if a < nI W then Y else X) = if isL W a = true then Y else X := by
  unfold isL
  by_cases h1 : a < 0
  · simp [h1]
  · by_cases h2 : nI W ≤ a
    · have h3 : ¬ a < nI W := by rw [Int32.lt_iff_toInt_lt]; rw [Int32.le_iff_toInt_le] at h2; omega
      simp [h1, h2, h3]
    · have h3 : a < nI W := by rw [Int32.lt_iff_toInt_lt]; rw [Int32.le_iff_toInt_le] at h2; omega
      simp [h1, h2, h3]
theorem wI_iff {a : Int32} {lo hi : Nat} (h1 : lo < 2147483648) (h2 : hi < 2147483648) : wI a (nI lo) (nI hi) = true ↔ ∃ j, lo ≤ j ∧ j ≤ hi ∧ a = nI j := by
  unfold wI
  constructor
  · intro h
    simp only [Bool.and_eq_true, decide_eq_true_eq] at h
    have p1 : ¬ a < 0 := by
      have := h.1
      rw [Int32.lt_iff_toInt_lt, nI_toInt (by omega)] at this
      rw [Int32.lt_iff_toInt_lt, show (0 : Int32).toInt = 0 from rfl]; omega
    obtain ⟨j, hj, rfl⟩ := nI_of p1
    refine ⟨j, ?_, ?_, rfl⟩
    · have := h.1; rw [nI_ltI (by omega) (by omega)] at this; omega
    · have := h.2; rw [nI_leI (by omega) (by omega)] at this; omega
  · rintro ⟨j, q1, q2, rfl⟩
    simp only [Bool.and_eq_true, decide_eq_true_eq]
    exact ⟨nI_nlt q1 (by omega), nI_le q2 (by omega)⟩
/-- what is at hand in a read -/
theorem inv_all {tb : Nat → Nat} {tn : Nat} {fk fp : Int32} {w : WD} {tr : TR} {im : IM} {k : Nat} {S : mkS} {I : mkI} {L : mkL} {R : mkR} {n : Nat × Nat} (hC : InvC tb tn fk fp w tr im k S I L R n) (hR : InvR tb tn fk fp w tr im I L) (hG : GOK k w im) : St S R ∧ BdS S R 170 174 175 ∧ (∃ p, R 170 2 = some p ∧ CPlan w.1 S R I p) ∧ (w.2.1.1 ≤ 10 ∧ I 174 1 = nI w.2.1.1) ∧ PlOK w.1 ∧ RPlan w.1 (I 198) ∧ RBoard w.2.1.1 (I 174) (I 198) := by
  obtain ⟨hb, hp, hf, -⟩ := id hC.2.2.2.1
  obtain ⟨hRP, hRB, -, -⟩ := id hR.2.2.1
  exact ⟨hC.1.1, hb, hp, x_C hC hG, by obtain ⟨Mx, -, h, -⟩ := hG; exact h.1, hRP, hRB.congr hf⟩
theorem k_cord (Ls : Nat) (xs : Nat → Int32) (a b : Int32) : Good Ls xs (F_L_cord (some 128) a b (some 220)) (F_X12_cord (some 197) a b) := by
  intro k S I L R n ⟨hl, tb, tn, fk, fp, w, tr, im, hC, hR, hG⟩
  obtain ⟨hs, hb, ⟨p, hpl, hp⟩, ⟨c1, c2⟩, hP, hRP, hRB⟩ := inv_all hC hR hG
  have w3 := hP.2.2.1
  have eW : ∀ h, F_X12_within b.toInt64 0 1 h = some (b2i (wI b 0 1), h) := fun h => by rw [e_within]; exact congrArg (fun q => some (b2i q, h)) (inL_wI b 0 1)
  have eL : ∀ h, F_X12_within a.toInt64 0 (nI (pC w.1) - 1).toInt64 h = some (b2i (isL (pC w.1) a), h) := fun h => by rw [e_within, inL_isL (by omega)]
  have x1 : ∀ (t : Int32) (L : mkL) (n : Nat × Nat), ¬ t ≤ 0 → F_X12_cord_38 (some 197) a b t (some 197) (mk S I L R n) = some (0, mk S (up2 I 197 4 t) L R n) := by
    intro t L n ht
    unfold F_X12_cord_38
    rw [pi_197_4 hs, Option.bind_some, gi_197_4 hs, Option.bind_some, up2_self, if_neg ht]
  have hx : F_X11_cord (some 128) a b (mk S I L R n) = if isL (pC w.1) a = true then (if wI b 0 1 = true then (if b = 0 then mm_b2 (F_X8_reachOf (some p) a (mk S I L R n)) fun v h => some (.inr v, h) else mm_b2 (F_X0_callOn (some 170) a (mk S I L R n)) fun v h => some (.inr v, h)) else thr "java/lang/IllegalArgumentException" S I L R n) else thr "java/util/NoSuchElementException" S I L R n := by
    unfold F_X11_cord F_X11_cord_18 F_X11_cord_60
    simp only [x_bd hC, Option.bind_some, bd_p hb hpl, pl_1 hp, x_within hC, b3_if, b3_thr2, b3_some, pl_v hp.1, bd_v hb, hC.thr]
    exact if_isL (pC w.1) a _ _
  by_cases h1 : isL (pC w.1) a = true
  · rw [if_pos h1] at hx
    by_cases h2 : wI b 0 1 = true
    · rw [if_pos h2] at hx
      obtain ⟨c, hc, rfl⟩ := (isL_iff (show pC w.1 < 2147483648 by omega)).mp h1
      have er : ∀ L, F_X12_cord (some 197) (nI c) b (mk S I L R n) = F_X12_cord_38 (some 197) (nI c) b 0 (some 197) (mk S I L R n) := fun L => by
        unfold F_X12_cord
        rw [gr_197_0 hs, Option.bind_some, ail_198 hs (show 2 < 3205 by decide), Option.bind_some, hRP.2.2.1, eL, b2_some, h1, if_neg (by decide), eW, b2_some, h2, if_neg (by decide)]
      have RB2 : RBoard w.2.1.1 (I 174) ((up2 I 197 4 0) 198) := by rw [up2_ne _ _ _ (by decide)]; exact hRB
      have K2 : (up2 I 197 4 0) 198 (48 + c) = pRe w.1 c := by rw [up2_ne _ _ _ (by decide)]; exact hRP.2.2.2.1 c hc
      by_cases hb0 : b = 0
      · rw [if_pos hb0, c_reachOf hP hp hc, b2_some] at hx
        refine pk_val hl hC hR hG (L_cord_0 hs hs hx) (fun _ _ _ => rfl) (fun _ _ => rfl) ⟨rfl, rfl⟩ (I'' := up2 I 197 4 0) ?_ (up2_self _ _ _ _) scR.m4.fr scR.m4.inv
        rw [er]
        unfold F_X12_cord_38 F_X12_cord_71
        rw [pi_197_4 hs, Option.bind_some, gi_197_4 hs, Option.bind_some, up2_self, if_pos (by decide), if_pos hb0, gr_197_0 hs, Option.bind_some, li_add 48, ai_198 hs (show 48 + c < 3205 by omega), Option.bind_some, K2]
      · have e1 : F_X0_callOn (some 170) (nI c) (mk S I L R n) = some (aOn w.2.1.1 (I 174) (nI c), mk S I L R n) := c_callOnL hb c1 c2 (nI c) w.2.1.1 mm_N 0 (by omega) (by show w.2.1.1 < 1000000; omega)
        rw [if_neg hb0, e1, b2_some] at hx
        refine pk_val hl hC hR hG (L_cord_0 hs hs hx) (fun _ _ _ => rfl) (fun _ _ => rfl) ⟨rfl, rfl⟩ (I'' := up2 I 197 4 0) ?_ (up2_self _ _ _ _) scR.m4.fr scR.m4.inv
        rw [er]
        unfold F_X12_cord_38 F_X12_cord_71
        rw [pi_197_4 hs, Option.bind_some, gi_197_4 hs, Option.bind_some, up2_self, if_pos (by decide), if_neg hb0, cv_197 hs, e_callOn hs RB2, b2_some]
    · rw [if_neg h2] at hx
      refine pk_thr (t := 2) (by decide) hl hC hR hG (L_cord_2 hs hx) (v := 0) ?_
      unfold F_X12_cord
      rw [gr_197_0 hs, Option.bind_some, ail_198 hs (show 2 < 3205 by decide), Option.bind_some, hRP.2.2.1, eL, b2_some, h1, if_neg (by decide), eW, b2_some, if_pos (by rw [b2i_0]; simpa using h2), x1 _ _ _ (by decide)]
  · rw [if_neg h1] at hx
    refine pk_thr (t := 1) (by decide) hl hC hR hG (L_cord_1 hs hx) (v := 0) ?_
    unfold F_X12_cord
    rw [gr_197_0 hs, Option.bind_some, ail_198 hs (show 2 < 3205 by decide), Option.bind_some, hRP.2.2.1, eL, b2_some, if_pos (by rw [b2i_0]; simpa using h1), x1 _ _ _ (by decide)]
theorem k_call (Ls : Nat) (xs : Nat → Int32) (a b : Int32) : Good Ls xs (F_L_call (some 128) a b (some 220)) (F_X12_call (some 197) a b) := by
  intro k S I L R n ⟨hl, tb, tn, fk, fp, w, tr, im, hC, hR, hG⟩
  obtain ⟨hs, hb, ⟨p, hpl, hp⟩, ⟨c1, c2⟩, hP, hRP, hRB⟩ := inv_all hC hR hG
  have hK : I 198 7 = nI w.2.1.1 := by rw [hRB.2.2.2.1]; exact c2
  have eL := fun (L : mkL) (n : Nat × Nat) => e_isCall2 (L := L) (n := n) hs (show w.2.1.1 ≤ 1000000 by omega) hK a
  have eW : ∀ h, F_X12_within b.toInt64 0 6 h = some (b2i (wI b 0 6), h) := fun h => by rw [e_within]; exact congrArg (fun q => some (b2i q, h)) (inL_wI b 0 6)
  have x1 : ∀ (t : Int32) (L : mkL) (n : Nat × Nat), ¬ t ≤ 0 → F_X12_call_31 (some 197) a b t (some 197) (mk S I L R n) = some (0, mk S (up2 I 197 4 t) L R n) := by
    intro t L n ht
    unfold F_X12_call_31
    rw [pi_197_4 hs, Option.bind_some, gi_197_4 hs, Option.bind_some, up2_self, if_neg ht]
  obtain ⟨z9, hz⟩ : ∃ z, z = F_X11_call (some 128) a b (mk S I L R n) := ⟨_, rfl⟩
  have hx := hz
  unfold F_X11_call at hx
  rw [cv_128 hs, x_needCall hC hG, b3_if, b3_thr2, b3_some, x_within hC, b3_if, b3_thr2, b3_some] at hx
  by_cases h1 : isL w.2.1.1 a = true
  · rw [if_pos h1] at hx
    by_cases h2 : wI b 0 6 = true
    · rw [if_pos h2, x_bd hC, Option.bind_some, bd_v hb] at hx
      obtain ⟨c, hc, rfl⟩ := (isL_iff (show w.2.1.1 < 2147483648 by omega)).mp h1
      obtain ⟨j, -, hj, rfl⟩ := (wI_iff (lo := 0) (hi := 6) (by decide) (by decide)).mp h2
      rw [c_fact hb c1 c2 hc (by omega), b2_some] at hx
      refine pk_val hl hC hR hG (L_call_0 hs hs (hz.symm.trans hx)) (fun _ _ _ => rfl) (fun _ _ => rfl) ⟨rfl, rfl⟩ (I'' := up2 I 197 4 0) ?_ (up2_self _ _ _ _) scR.m4.fr scR.m4.inv
      unfold F_X12_call
      rw [cv_197 hs, eL, b2_some, h1, if_neg (by decide), eW, b2_some, h2, if_neg (by decide)]
      unfold F_X12_call_31
      have RB2 : RBoard w.2.1.1 (I 174) ((up2 I 197 4 0) 198) := by rw [up2_ne _ _ _ (by decide)]; exact hRB
      obtain ⟨q1, q2, q3, q4, q5, q6, q7⟩ := RB2.2.2.2.2.2.2 c hc
      rw [pi_197_4 hs, Option.bind_some, gi_197_4 hs, Option.bind_some, up2_self, if_pos (by decide)]
      simp only [gr_197_0 hs, Option.bind_some, li_add 51, li_add 61, li_add 71, li_add 81, li_add 8, li_add 18, li_add 28, ai_198 hs (show 51 + c < 3205 by omega), ai_198 hs (show 61 + c < 3205 by omega), ai_198 hs (show 71 + c < 3205 by omega), ai_198 hs (show 81 + c < 3205 by omega), ai_198 hs (show 8 + c < 3205 by omega), ai_198 hs (show 18 + c < 3205 by omega), ai_198 hs (show 28 + c < 3205 by omega), q1, q2, q3, q4, q5, q6, q7]
      rcases (show j = 0 ∨ j = 1 ∨ j = 2 ∨ j = 3 ∨ j = 4 ∨ j = 5 ∨ j = 6 by omega) with rfl | rfl | rfl | rfl | rfl | rfl | rfl
      · rw [if_pos (by decide), Nat.add_zero]
      · rw [if_neg (by decide), if_pos (by decide), show 11 + 7 * c + 1 = 12 + 7 * c by omega]
      · rw [if_neg (by decide), if_neg (by decide), if_pos (by decide), show 11 + 7 * c + 2 = 13 + 7 * c by omega]
      · rw [if_neg (by decide), if_neg (by decide), if_neg (by decide), if_pos (by decide), show 11 + 7 * c + 3 = 14 + 7 * c by omega]
      · rw [if_neg (by decide), if_neg (by decide), if_neg (by decide), if_neg (by decide), if_pos (by decide), show 11 + 7 * c + 4 = 15 + 7 * c by omega]
      · rw [if_neg (by decide), if_neg (by decide), if_neg (by decide), if_neg (by decide), if_neg (by decide), if_pos (by decide), show 11 + 7 * c + 5 = 16 + 7 * c by omega]
      · rw [if_neg (by decide), if_neg (by decide), if_neg (by decide), if_neg (by decide), if_neg (by decide), if_neg (by decide), show 11 + 7 * c + 6 = 17 + 7 * c by omega]
    · rw [if_neg h2] at hx
      refine pk_thr (t := 2) (by decide) hl hC hR hG (L_call_2 hs (hz.symm.trans hx)) (v := 0) ?_
      unfold F_X12_call
      rw [cv_197 hs, eL, b2_some, h1, if_neg (by decide), eW, b2_some, if_pos (by rw [b2i_0]; simpa using h2), x1 _ _ _ (by decide)]
  · rw [if_neg h1] at hx
    refine pk_thr (t := 1) (by decide) hl hC hR hG (L_call_1 hs (hz.symm.trans hx)) (v := 0) ?_
    unfold F_X12_call
    rw [cv_197 hs, eL, b2_some, if_pos (by rw [b2i_0]; simpa using h1), x1 _ _ _ (by decide)]
theorem k_likes (Ls : Nat) (xs : Nat → Int32) (a b : Int32) : Good Ls xs (F_L_likes (some 128) a b (some 220)) (F_X12_likes (some 197) a b) := by
  intro k S I L R n ⟨hl, tb, tn, fk, fp, w, tr, im, hC, hR, hG⟩
  obtain ⟨hs, hb, ⟨p, hpl, hp⟩, ⟨c1, c2⟩, hP, hRP, hRB⟩ := inv_all hC hR hG
  have w2 := hP.2.1
  have hK : ∀ x, (up2 I 197 4 x) 198 1 = nI (pW w.1) := fun x => by rw [up2_ne _ _ _ (by decide)]; exact hRP.2.1
  have eL := fun (L : mkL) (n : Nat × Nat) (a : Int32) => e_isLine2 (L := L) (n := n) hs (show pW w.1 ≤ 1000000 by omega) (hK 0) a
  have fa : ∀ (L : mkL) (n : Nat × Nat), F_X12_likes_32 (some 197) (mk S (up2 I 197 4 0) L R n) = some (0, mk S (up2 I 197 4 1) L R n) := by
    intro L n
    unfold F_X12_likes_32 F_X12_likes_37 F_X12_fails
    rw [cv_197 hs, pi_197_4 hs, Option.bind_some, b2_some]
    refine congrArg (fun q => some (0, mk S q L R n)) (funext fun b => funext fun j => ?_)
    simp only [up2]; split <;> rfl
  obtain ⟨z9, hz⟩ : ∃ z, z = F_X11_likes (some 128) a b (mk S I L R n) := ⟨_, rfl⟩
  have hx := hz
  unfold F_X11_likes at hx
  rw [cv_128 hs, x_needLine hC, b3_if, b3_thr2, b3_some, cv_128 hs, x_needLine hC, b3_if, b3_thr2, b3_some] at hx
  by_cases h1 : isL (pW w.1) a = true
  · rw [if_pos h1] at hx
    by_cases h2 : isL (pW w.1) b = true
    · rw [if_pos h2, x_bd hC, Option.bind_some, bd_p hb hpl, Option.bind_some, pl_v hp.1] at hx
      obtain ⟨i, hi, rfl⟩ := (isL_iff (show pW w.1 < 2147483648 by omega)).mp h1
      obtain ⟨j, hj, rfl⟩ := (isL_iff (show pW w.1 < 2147483648 by omega)).mp h2
      rw [c_liking hP hp hi hj, b2_some] at hx
      obtain ⟨I', k', e'⟩ := e_likesHow (L := up2 L 220 0 (aLikes w.1 (nI i) (nI j)).toInt64) (n := n) hs hP (up2 I 197 4 0) (by rw [up2_ne _ _ _ (by decide)]; exact hRP) (nI i) (nI j)
      have sc : scR I I' := scR.m4.tr (scR.ofA k')
      refine pk_val hl hC hR hG (L_likes_0 hs hs (hz.symm.trans hx)) (fun _ _ _ => rfl) (fun _ _ => rfl) ⟨rfl, rfl⟩ (I'' := I') ?_ (by rw [k' 197 (by decide) (by decide), up2_self]) sc.fr sc.inv
      unfold F_X12_likes F_X12_likes_37
      rw [pi_197_4 hs, Option.bind_some, cv_197 hs, eL, b2_some, h1, if_neg (by decide), cv_197 hs, eL, b2_some, h2, if_neg (by decide), cv_197 hs, e', b2_some]
    · rw [if_neg h2] at hx
      refine pk_thr (t := 1) (by decide) hl hC hR hG (L_likes_1 hs (hz.symm.trans hx)) (v := 0) ?_
      unfold F_X12_likes
      rw [pi_197_4 hs, Option.bind_some, cv_197 hs, eL, b2_some, h1, if_neg (by decide), cv_197 hs, eL, b2_some, if_pos (by rw [b2i_0]; simpa using h2), fa]
  · rw [if_neg h1] at hx
    refine pk_thr (t := 1) (by decide) hl hC hR hG (L_likes_1 hs (hz.symm.trans hx)) (v := 0) ?_
    unfold F_X12_likes
    rw [pi_197_4 hs, Option.bind_some, cv_197 hs, eL, b2_some, if_pos (by rw [b2i_0]; simpa using h1), fa]
theorem k_comesTo (Ls : Nat) (xs : Nat → Int32) (a b : Int32) : Good Ls xs (F_L_comesTo (some 128) a b (some 220)) (F_X12_comesTo (some 197) a b) := by
  intro k S I L R n ⟨hl, tb, tn, fk, fp, w, tr, im, hC, hR, hG⟩
  obtain ⟨hs, hb, ⟨p, hpl, hp⟩, ⟨c1, c2⟩, hP, hRP, hRB⟩ := inv_all hC hR hG
  have hK : I 198 7 = nI w.2.1.1 := by rw [hRB.2.2.2.1]; exact c2
  have eL := fun (L : mkL) (n : Nat × Nat) => e_isCall2 (L := L) (n := n) hs (show w.2.1.1 ≤ 1000000 by omega) hK a
  have eW : ∀ h, F_X12_within b.toInt64 0 999 h = some (b2i (wI b 0 999), h) := fun h => by rw [e_within]; exact congrArg (fun q => some (b2i q, h)) (inL_wI b 0 999)
  have x1 : ∀ (t : Int32) (L : mkL) (n : Nat × Nat), ¬ t ≤ 0 → F_X12_comesTo_31 (some 197) a b t (some 197) (mk S I L R n) = some (0, mk S (up2 I 197 4 t) L R n) := by
    intro t L n ht
    unfold F_X12_comesTo_31 F_X12_comesTo_59
    rw [pi_197_4 hs, Option.bind_some, gi_197_4 hs, Option.bind_some, up2_self, if_neg ht]
  obtain ⟨z9, hz⟩ : ∃ z, z = F_X11_comesTo (some 128) a b (mk S I L R n) := ⟨_, rfl⟩
  have hx := hz
  unfold F_X11_comesTo at hx
  rw [cv_128 hs, x_needCall hC hG, b3_if, b3_thr2, b3_some, x_within hC, b3_if, b3_thr2, b3_some] at hx
  by_cases h1 : isL w.2.1.1 a = true
  · rw [if_pos h1] at hx
    by_cases h2 : wI b 0 999 = true
    · rw [if_pos h2, x_bd hC, Option.bind_some, Option.bind_some, bd_v hb, c_minute hb, b2_some, bd_v hb] at hx
      obtain ⟨c, hc, rfl⟩ := (isL_iff (show w.2.1.1 < 2147483648 by omega)).mp h1
      obtain ⟨j, -, hj, rfl⟩ := (wI_iff (lo := 0) (hi := 999) (by decide) (by decide)).mp h2
      obtain ⟨Mx, g1, ⟨-, -, g2, -⟩, -⟩ := id hG
      obtain ⟨F, T, A, D, M, hB, hM⟩ := g2 w.2.1 List.mem_cons_self
      have hB' := hB.congr (x_cells hC (j := ·))
      have e0 := hB'.2.1
      obtain ⟨⟨e1, ha⟩, ⟨e2, hT⟩, -⟩ := hB'.1.2.2 c hc
      obtain ⟨I', k', e'⟩ := c_whereTo (L := L) (n := n) (M := M + j) hP hb hpl hp c1 c2 hc ha hT (by omega) e1 e2
      rw [e0, nI_add, e', b2_some] at hx
      have kI : ∀ x, ¬ scr x → S (x - 2) ≠ (14, 0) → I' x = I x := fun x _ q => k' x q
      have I'l : ∀ a, 197 ≤ a → a ≤ 220 → I' a = I a := fun a q1 q2 => k' a (hs.nst hC.1.2.1 (by omega) q2)
      have kn : I' 198 = I 198 := I'l 198 (by decide) (by decide)
      obtain ⟨q1, q2, q3, q4, q5, q6, q7⟩ := hRB.2.2.2.2.2.2 c hc
      obtain ⟨I'', k2, e3⟩ := e_comesBy (L := up2 L 220 0 (aComes w.1 (nI (F c)) (nI (T c)) (nI (M + j)) (nI c)).toInt64) (n := n) hs hP (up2 I' 197 4 0) (by rw [up2_ne _ _ _ (by decide), kn]; exact hRP) (show c < 10 by omega) (nI (M + j))
      rw [up2_ne _ _ _ (by decide), kn, q1, q2, e1, e2] at e3
      have sc : scR I' I'' := scR.m4.tr (scR.ofA k2)
      have eL' : ∀ L, F_X12_isCall (some 197) (nI c).toInt64 (mk S I' L R n) = some (b2i (isL w.2.1.1 (nI c)), mk S I' L R n) := fun L => e_isCall2 hs (by omega) (by rw [kn]; exact hK) (nI c)
      refine pk_val hl hC hR hG (L_comesTo_0 hs hs (hz.symm.trans hx)) kI (fun _ _ => rfl) ⟨rfl, rfl⟩ (I'' := I'') ?_ (by rw [k2 197 (by decide) (by decide), up2_self]) sc.fr sc.inv
      unfold F_X12_comesTo
      rw [cv_197 hs, eL', b2_some, h1, if_neg (by decide), eW, b2_some, h2, if_neg (by decide)]
      unfold F_X12_comesTo_31 F_X12_comesTo_59
      rw [pi_197_4 hs, Option.bind_some, gi_197_4 hs, Option.bind_some, up2_self, if_pos (by decide), gr_197_0 hs, Option.bind_some, ail_198 hs (show 47 < 3205 by decide), Option.bind_some, cv_197 hs, up2_ne _ _ _ (by decide), kn, hRB.2.2.1, e0, nI_add, e3, b2_some]
    · rw [if_neg h2] at hx
      refine pk_thr (t := 2) (by decide) hl hC hR hG (L_comesTo_2 hs (hz.symm.trans hx)) (v := 0) ?_
      unfold F_X12_comesTo
      rw [cv_197 hs, eL, b2_some, h1, if_neg (by decide), eW, b2_some, if_pos (by rw [b2i_0]; simpa using h2), x1 _ _ _ (by decide)]
  · rw [if_neg h1] at hx
    refine pk_thr (t := 1) (by decide) hl hC hR hG (L_comesTo_1 hs (hz.symm.trans hx)) (v := 0) ?_
    unfold F_X12_comesTo
    rw [cv_197 hs, eL, b2_some, if_pos (by rw [b2i_0]; simpa using h1), x1 _ _ _ (by decide)]
