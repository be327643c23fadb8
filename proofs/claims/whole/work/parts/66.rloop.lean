/-! the reference: rows put aside and back, deeds kept -/
def scQ (I I' : mkI) : Prop := (∀ a, a ≠ 197 → a ≠ 199 → a ≠ 203 → a ≠ 204 → ¬ (206 ≤ a ∧ a ≤ 216) → I' a = I a) ∧ ∀ j, (j = 6 ∨ j = 14 ∨ j = 15) → I' 197 j = I 197 j
theorem scQ.rf {I : mkI} : scQ I I := ⟨fun _ _ _ _ _ _ => rfl, fun _ _ => rfl⟩
theorem scQ.tr {I I' I'' : mkI} (h : scQ I I') (h2 : scQ I' I'') : scQ I I'' := ⟨fun a q1 q2 q3 q4 q5 => (h2.1 a q1 q2 q3 q4 q5).trans (h.1 a q1 q2 q3 q4 q5), fun j q => (h2.2 j q).trans (h.2 j q)⟩
theorem scQ.inv {tb : Nat → Nat} {tn : Nat} {fk fp : Int32} {w : WD} {tr : TR} {im : IM} {I I' : mkI} {L : mkL} (h : scQ I I') (hR : InvR tb tn fk fp w tr im I L) : InvR tb tn fk fp w tr im I' L := by
  unfold InvR RTr RIm at *
  rw [h.1 202 (by decide) (by decide) (by decide) (by decide) (by decide), h.1 198 (by decide) (by decide) (by decide) (by decide) (by decide), h.1 205 (by decide) (by decide) (by decide) (by decide) (by decide), h.1 217 (by decide) (by decide) (by decide) (by decide) (by decide), h.1 218 (by decide) (by decide) (by decide) (by decide) (by decide), h.1 201 (by decide) (by decide) (by decide) (by decide) (by decide), h.1 200 (by decide) (by decide) (by decide) (by decide) (by decide), h.2 6 (by decide), h.2 14 (by decide), h.2 15 (by decide)]
  exact hR
theorem scQ.fr {I I' : mkI} (h : scQ I I') : ∀ a, a < 197 ∨ 220 ≤ a → I' a = I a := fun a q => h.1 a (by omega) (by omega) (by omega) (by omega) (by omega)
theorem scQ.m4 {I : mkI} {x : Int32} : scQ I (up2 I 197 4 x) := ⟨fun a q _ _ _ _ => up2_ne _ _ _ q, fun j q => by rw [up2_row, up1_ne _ _ (by omega)]⟩
section RLp
variable {S : mkS} {L : mkL} {R : mkR} {n : Nat × Nat}
theorem e_asideL (hs : St S R) : ∀ (r g l : Nat) (I : mkI), l + r = 41 → r < g → ∃ I', F_X12_putsAside_2 g (some 197) (nI l) (mk S I L R n) = some (mk S I' L R n) ∧ (∀ a, a ≠ 206 → I' a = I a) ∧ (∀ j, l ≤ j → j < 41 → I' 206 j = I 198 (7 + j)) ∧ ∀ j, j < l → I' 206 j = I 206 j := by
  intro r
  induction r with
  | zero =>
    intro g l I hl hg
    obtain ⟨g, rfl⟩ : ∃ z, g = z + 1 := ⟨g - 1, by omega⟩
    refine ⟨I, ?_, fun _ _ => rfl, fun j _ _ => by omega, fun _ _ => rfl⟩
    simp only [F_X12_putsAside_2]
    rw [if_pos (le_li 41 (by omega) (by omega))]
  | succ r ih =>
    intro g l I hl hg
    obtain ⟨g, rfl⟩ : ∃ z, g = z + 1 := ⟨g - 1, by omega⟩
    obtain ⟨I', q1, q2, q3, q4⟩ := ih g (l + 1) (up2 I 206 l (I 198 (7 + l))) (by omega) (by omega)
    refine ⟨I', ?_, fun a ha => by rw [q2 a ha, up2_ne _ _ _ ha], fun j h1 h2 => ?_, fun j hj => by rw [q4 j (by omega), up2_row, up1_ne _ _ (by omega)]⟩
    · simp only [F_X12_putsAside_2]
      rw [if_neg (ge_li 41 (by omega) (by omega)), gr_197_23 hs, Option.bind_some, gr_197_0 hs, Option.bind_some, li_add 7, ai_198 hs (show 7 + l < 3205 by omega), Option.bind_some, si_206 hs (show l < 41 by omega), Option.bind_some, nI_1, q1]
    · by_cases e : j = l
      · subst e; rw [q4 j (by omega), up2_self]
      · rw [q3 j (by omega) h2, up2_ne _ _ _ (by decide)]
theorem e_aside (hs : St S R) (I : mkI) : ∃ I', F_X12_putsAside (some 197) (mk S I L R n) = some (mk S I' L R n) ∧ (∀ a, a ≠ 206 → I' a = I a) ∧ ∀ j, j < 41 → I' 206 j = I 198 (7 + j) := by
  obtain ⟨I', q1, q2, q3, -⟩ := e_asideL (L := L) (n := n) hs 41 mm_N 0 I (by omega) (by show 41 < 1000000; omega)
  exact ⟨I', q1, q2, fun j hj => q3 j (by omega) hj⟩
theorem e_backL (hs : St S R) : ∀ (r g l : Nat) (I : mkI), l + r = 41 → r < g → ∃ I', F_X12_putsBack_2 g (some 197) (nI l) (mk S I L R n) = some (mk S I' L R n) ∧ (∀ a, a ≠ 198 → I' a = I a) ∧ (∀ j, l ≤ j → j < 41 → I' 198 (7 + j) = I 206 j) ∧ ∀ k, k < 7 + l ∨ 48 ≤ k → I' 198 k = I 198 k := by
  intro r
  induction r with
  | zero =>
    intro g l I hl hg
    obtain ⟨g, rfl⟩ : ∃ z, g = z + 1 := ⟨g - 1, by omega⟩
    refine ⟨I, ?_, fun _ _ => rfl, fun j _ _ => by omega, fun _ _ => rfl⟩
    simp only [F_X12_putsBack_2]
    rw [if_pos (le_li 41 (by omega) (by omega))]
  | succ r ih =>
    intro g l I hl hg
    obtain ⟨g, rfl⟩ : ∃ z, g = z + 1 := ⟨g - 1, by omega⟩
    obtain ⟨I', q1, q2, q3, q4⟩ := ih g (l + 1) (up2 I 198 (7 + l) (I 206 l)) (by omega) (by omega)
    refine ⟨I', ?_, fun a ha => by rw [q2 a ha, up2_ne _ _ _ ha], fun j h1 h2 => ?_, fun k hk => by rw [q4 k (by omega), up2_row, up1_ne _ _ (by omega)]⟩
    · simp only [F_X12_putsBack_2]
      rw [if_neg (ge_li 41 (by omega) (by omega)), gr_197_0 hs, Option.bind_some, gr_197_23 hs, Option.bind_some, ai_206 hs (show l < 41 by omega), Option.bind_some, li_add 7, si_198 hs (show 7 + l < 3205 by omega), Option.bind_some, nI_1, q1]
    · by_cases e : j = l
      · subst e; rw [q4 (7 + j) (by omega), up2_self]
      · rw [q3 j (by omega) h2, up2_ne _ _ _ (by decide)]
theorem e_back (hs : St S R) (I : mkI) : ∃ I', F_X12_putsBack (some 197) (mk S I L R n) = some (mk S I' L R n) ∧ (∀ a, a ≠ 198 → I' a = I a) ∧ (∀ j, j < 41 → I' 198 (7 + j) = I 206 j) ∧ ∀ k, k < 7 ∨ 48 ≤ k → I' 198 k = I 198 k := by
  obtain ⟨I', q1, q2, q3, q4⟩ := e_backL (L := L) (n := n) hs 41 mm_N 0 I (by omega) (by show 41 < 1000000; omega)
  exact ⟨I', q1, q2, fun j hj => q3 j (by omega) hj, fun k hk => q4 k (by omega)⟩
/-- aside, anything that minutes may change, back: as it was but for scratch -/
theorem e_aback (hs : St S R) {I I1 I2 : mkI} (h1 : ∀ a, a ≠ 206 → I1 a = I a) (h2 : ∀ j, j < 41 → I1 206 j = I 198 (7 + j)) (h3 : keepM I1 I2) : ∃ I3, F_X12_putsBack (some 197) (mk S I2 L R n) = some (mk S I3 L R n) ∧ scQ I I3 ∧ (∀ j, j ≠ 22 → I3 197 j = I 197 j) ∧ I3 197 22 = I2 197 22 := by
  obtain ⟨I3, q1, q2, q3, q4⟩ := e_back (L := L) (n := n) hs I2
  have ek : I3 198 = I 198 := by
    funext k
    by_cases hk : k < 7 ∨ 48 ≤ k
    · rw [q4 k hk, h3.2.2 k (by omega), h1 _ (by decide)]
    · obtain ⟨j, rfl⟩ : ∃ j, k = 7 + j := ⟨k - 7, by omega⟩
      rw [q3 j (by omega), h3.1 _ (by decide) (by decide) (by decide) (by decide), h2 j (by omega)]
  refine ⟨I3, q1, ⟨fun a z1 z2 z3 z4 z5 => ?_, fun j hj => ?_⟩, fun j hj => ?_, by rw [q2 _ (by decide)]⟩
  · by_cases e : a = 198
    · rw [e, ek]
    · rw [q2 a e, h3.1 a z1 e z3 z4, h1 a (by show a ≠ 206; omega)]
  · rw [q2 197 (by decide), h3.2.1 j (by omega), h1 197 (by decide)]
  · rw [q2 197 (by decide), h3.2.1 j hj, h1 197 (by decide)]
theorem e_keepL (hs : St S R) {N : Nat} (hN : N < 10) : ∀ (r g l : Nat) (I : mkI), l + r = 41 → r < g → I 198 6 = nI N → ∃ I', F_X12_keeps_56 g (some 197) (nI l) (mk S I L R n) = some (mk S I' L R n) ∧ (∀ a, a ≠ 198 → I' a = I a) ∧ I' 198 6 = nI (N + 1) ∧ (∀ j, l ≤ j → j < 41 → I' 198 (91 + 41 * N + j) = I 198 (7 + j)) ∧ ∀ k, k ≠ 6 → k < 91 + 41 * N + l ∨ 91 + 41 * N + 41 ≤ k → I' 198 k = I 198 k := by
  intro r
  induction r with
  | zero =>
    intro g l I hl hg h6
    obtain ⟨g, rfl⟩ : ∃ z, g = z + 1 := ⟨g - 1, by omega⟩
    refine ⟨up2 I 198 6 (nI (N + 1)), ?_, fun a ha => up2_ne _ _ _ ha, up2_self _ _ _ _, fun j _ _ => by omega, fun k hk _ => by rw [up2_row, up1_ne _ _ hk]⟩
    have s6 : sI (mk S I L R n) (some 198) 0 (6 : Int32) (nI (N + 1)) = some (mk S (up2 I 198 6 (nI (N + 1))) L R n) := si_198 (k := 6) hs (by decide)
    simp only [F_X12_keeps_56]
    rw [if_pos (le_li 41 (by omega) (by omega)), gr_197_0 hs, Option.bind_some, ail_198 hs (show 6 < 3205 by decide), Option.bind_some, h6, nI_1, s6, Option.bind_some]
  | succ r ih =>
    intro g l I hl hg h6
    obtain ⟨g, rfl⟩ : ∃ z, g = z + 1 := ⟨g - 1, by omega⟩
    obtain ⟨I', q1, q2, q3, q4, q5⟩ := ih g (l + 1) (up2 I 198 (91 + 41 * N + l) (I 198 (7 + l))) (by omega) (by omega) (by rw [up2_row, up1_ne _ _ (by omega)]; exact h6)
    refine ⟨I', ?_, fun a ha => by rw [q2 a ha, up2_ne _ _ _ ha], q3, fun j h1 h2 => ?_, fun k hk hk2 => by rw [q5 k hk (by omega), up2_row, up1_ne _ _ (by omega)]⟩
    · have e9 : (91 : Int32) + (41 : Int32) * nI N + nI l = nI (91 + 41 * N + l) := by
        rw [show (41 : Int32) = nI 41 from rfl, show (91 : Int32) = nI 91 from rfl, nI_mul9, nI_add, nI_add]
      simp only [F_X12_keeps_56]
      rw [if_neg (ge_li 41 (by omega) (by omega)), gr_197_0 hs, Option.bind_some, Option.bind_some, ail_198 hs (show 6 < 3205 by decide), Option.bind_some, h6, Option.bind_some, li_add 7, ai_198 hs (show 7 + l < 3205 by omega), Option.bind_some, e9, si_198 hs (show 91 + 41 * N + l < 3205 by omega), Option.bind_some, nI_1, q1]
    · by_cases e : j = l
      · subst e; rw [q5 (91 + 41 * N + j) (by omega) (by omega), up2_self]
      · rw [q4 j (by omega) h2, up2_row, up1_ne _ _ (by omega)]
theorem e_shiftL (hs : St S R) : ∀ (r g k : Nat) (I : mkI), k + r = 460 → r < g → 91 ≤ k → I 198 6 = nI 10 → ∃ I', F_X12_keeps_15 g (some 197) (nI k) (mk S I L R n) = F_X12_keeps_54 (some 197) (mk S I' L R n) ∧ (∀ a, a ≠ 198 → I' a = I a) ∧ I' 198 6 = nI 9 ∧ (∀ j, k ≤ j → j < 460 → I' 198 j = I 198 (j + 41)) ∧ ∀ j, j ≠ 6 → j < k ∨ 460 ≤ j → I' 198 j = I 198 j := by
  intro r
  induction r with
  | zero =>
    intro g k I hk hg h91 h6
    obtain ⟨g, rfl⟩ : ∃ z, g = z + 1 := ⟨g - 1, by omega⟩
    refine ⟨up2 I 198 6 (nI 9), ?_, fun a ha => up2_ne _ _ _ ha, up2_self _ _ _ _, fun j _ _ => by omega, fun k hk _ => by rw [up2_row, up1_ne _ _ hk]⟩
    have s6 : sI (mk S I L R n) (some 198) 0 (6 : Int32) (nI 9) = some (mk S (up2 I 198 6 (nI 9)) L R n) := si_198 (k := 6) hs (by decide)
    simp only [F_X12_keeps_15]
    rw [if_pos (le_li 460 (by omega) (by omega)), gr_197_0 hs, Option.bind_some, ail_198 hs (show 6 < 3205 by decide), Option.bind_some, h6, nI_sub1 (by omega), s6, Option.bind_some]
  | succ r ih =>
    intro g k I hk hg h91 h6
    obtain ⟨g, rfl⟩ : ∃ z, g = z + 1 := ⟨g - 1, by omega⟩
    obtain ⟨I', q1, q2, q3, q4, q5⟩ := ih g (k + 1) (up2 I 198 k (I 198 (k + 41))) (by omega) (by omega) (by omega) (by rw [up2_row, up1_ne _ _ (by omega)]; exact h6)
    refine ⟨I', ?_, fun a ha => by rw [q2 a ha, up2_ne _ _ _ ha], q3, fun j h1 h2 => ?_, fun j hj hk2 => by rw [q5 j hj (by omega), up2_row, up1_ne _ _ (by omega)]⟩
    · simp only [F_X12_keeps_15]
      rw [if_neg (ge_li 460 (by omega) (by omega)), gr_197_0 hs, Option.bind_some, Option.bind_some, li_add' 41, ai_198 hs (show k + 41 < 3205 by omega), Option.bind_some, si_198 hs (show k < 3205 by omega), Option.bind_some, nI_1, q1]
    · by_cases e : j = k
      · subst e; rw [q5 j (by omega) (by omega), up2_self]
      · rw [q4 j (by omega) h2, up2_row, up1_ne _ _ (by omega)]
end RLp
theorem RSt.mv {u : BB} {K K' : Nat → Int32} {z z' : Nat} (h : RSt u K z) (hC : u.1 ≤ 10) (hk : ∀ j, j < 41 → K' (z' + j) = K (z + j)) : RSt u K' z' := by
  obtain ⟨h1, h2, h3, h4, h5⟩ := h
  refine ⟨?_, fun c hc => ?_, fun l hl => ?_, ?_, ?_⟩
  · have := hk 0 (by omega); rw [Nat.add_zero, Nat.add_zero] at this; rw [this]; exact h1
  · rw [Nat.add_assoc z' 1 c, Nat.add_assoc z' 11 c, Nat.add_assoc z' 21 c, hk (1 + c) (by omega), hk (11 + c) (by omega), hk (21 + c) (by omega), ← Nat.add_assoc, ← Nat.add_assoc, ← Nat.add_assoc]
    exact h2 c hc
  · rw [Nat.add_assoc z' 31 l, hk (31 + l) (by omega), ← Nat.add_assoc]; exact h3 l hl
  · rw [hk 39 (by omega)]; exact h4
  · rw [hk 40 (by omega)]; exact h5
theorem RBoard.st {C : Nat} {f K : Nat → Int32} (h : RBoard C f K) : RSt (C, f) K 7 := by
  obtain ⟨b1, b2, b3, b4, b5, b6, b7⟩ := h
  refine ⟨by rw [b4, b2], fun c hc => ?_, fun l hl => b6 l hl, b5, b3⟩
  obtain ⟨q1, q2, q3, q4, q5, q6, q7⟩ := b7 c hc
  exact ⟨q5, q6, q7⟩
theorem revD {U : List BB} {i : Nat} (h : i < U.length) : U.reverse.getD i bb0 = U.getD (U.length - 1 - i) bb0 := by
  rw [List.getD_eq_getElem?_getD, List.getD_eq_getElem?_getD, List.getElem?_reverse h]
def keepU (u : BB) (U : List BB) : List BB := (u :: U).take 10
theorem keepU_len {u : BB} {U : List BB} (h : U.length ≤ 10) : (keepU u U).length = min (U.length + 1) 10 := by
  unfold keepU; rw [List.length_take, List.length_cons]; omega
theorem keepU_0 {u : BB} {U : List BB} : (keepU u U).getD 0 bb0 = u := rfl
theorem keepU_s {u : BB} {U : List BB} {i : Nat} (h : i < 9) : (keepU u U).getD (i + 1) bb0 = U.getD i bb0 := by
  unfold keepU
  rw [List.getD_eq_getElem?_getD, List.getD_eq_getElem?_getD, List.getElem?_take, if_pos (by omega), List.getElem?_cons_succ]
theorem RBoard.keep {C : Nat} {f K K' : Nat → Int32} (h : RBoard C f K) (hk : ∀ k, k ≠ 6 → k < 91 → K' k = K k) : RBoard C f K' := by
  obtain ⟨b1, b2, b3, b4, b5, b6, b7⟩ := h
  refine ⟨b1, b2, by rw [hk _ (by omega) (by omega)]; exact b3, by rw [hk _ (by omega) (by omega)]; exact b4, by rw [hk _ (by omega) (by omega)]; exact b5, fun l hl => by rw [hk _ (by omega) (by omega)]; exact b6 l hl, fun c hc => ?_⟩
  rw [hk _ (by omega) (by omega), hk _ (by omega) (by omega), hk _ (by omega) (by omega), hk _ (by omega) (by omega), hk _ (by omega) (by omega), hk _ (by omega) (by omega), hk _ (by omega) (by omega)]
  exact b7 c hc
theorem RPlan.keep2 {P : PL} {K K' : Nat → Int32} (h : RPlan P K) (hP : PlOK P) (hk : ∀ k, k < 6 ∨ (48 ≤ k ∧ k < 91) ∨ 501 ≤ k → K' k = K k) : RPlan P K' := by
  obtain ⟨p0, p1, p2, p3, ⟨p4, p5⟩, ⟨p6, p7⟩, p8, p9⟩ := h
  have w3 := hP.2.2.1
  exact ⟨by rw [hk _ (by omega)]; exact p0, by rw [hk _ (by omega)]; exact p1, by rw [hk _ (by omega)]; exact p2, fun k q => by rw [hk _ (by omega)]; exact p3 k q, ⟨by rw [hk _ (by omega)]; exact p4, fun j q => by rw [hk _ (by omega)]; exact p5 j q⟩, ⟨by rw [hk _ (by omega)]; exact p6, fun j q => by rw [hk _ (by omega)]; exact p7 j q⟩, by rw [hk _ (by omega)]; exact p8, fun j q => by rw [hk _ (by omega)]; exact p9 j q⟩
section RKp
variable {S : mkS} {L : mkL} {R : mkR} {n : Nat × Nat}
/-- the reference keeps the board as it is -/
theorem e_keeps (hs : St S R) {w : WD} (hP : PlOK w.1) {I : mkI} (hW : RW w (I 198)) (hU : w.2.2.length ≤ 10) (hB : ∀ u ∈ w.2.2, u.1 ≤ 10) : ∃ I', F_X12_keeps (some 197) (mk S I L R n) = some (mk S I' L R n) ∧ (∀ a, a ≠ 198 → I' a = I a) ∧ RW (w.1, w.2.1, keepU w.2.1 w.2.2) (I' 198) := by
  obtain ⟨h1, h2, h3, h4⟩ := hW
  have hC := h2.1
  have hB' : ∀ i, (w.2.2.getD i bb0).1 ≤ 10 := fun i => by
    by_cases hi : i < w.2.2.length
    · rw [List.getD_eq_getElem?_getD, List.getElem?_eq_getElem hi]; exact hB _ (List.getElem_mem hi)
    · rw [List.getD_eq_getElem?_getD, List.getElem?_eq_none (by omega)]; exact Nat.zero_le _
  have st0 := h2.st
  unfold F_X12_keeps F_X12_keeps_54
  rw [gr_197_0 hs, Option.bind_some, ail_198 hs (show 6 < 3205 by decide), Option.bind_some, h3]
  by_cases hT : w.2.2.length = 10
  · rw [if_pos (by rw [hT]; rfl)]
    obtain ⟨I1, a1, a2, a3, a4, a5⟩ := e_shiftL (L := L) (n := n) hs 369 mm_N 91 I (by omega) (by show 369 < 1000000; omega) (by omega) (by rw [h3, hT])
    obtain ⟨I2, b1, b2, b3, b4, b5⟩ := e_keepL (L := L) (n := n) hs (N := 9) (by omega) 41 mm_N 0 I1 (by omega) (by show 41 < 1000000; omega) a3
    have kk : ∀ k, k ≠ 6 → k < 91 ∨ 501 ≤ k → I2 198 k = I 198 k := fun k q1 q2 => by rw [b5 k q1 (by omega), a5 k q1 (by omega)]
    refine ⟨I2, ?_, fun a ha => by rw [b2 a ha, a2 a ha], h1.keep2 hP (fun k q => kk k (by omega) (by omega)), h2.keep (fun k q1 q2 => kk k q1 (.inl q2)), ?_, fun i hi => ?_⟩
    · have a1' : F_X12_keeps_15 mm_N (some 197) (91 : Int32) (mk S I L R n) = F_X12_keeps_54 (some 197) (mk S I1 L R n) := a1
      have b1' : F_X12_keeps_56 mm_N (some 197) (0 : Int32) (mk S I1 L R n) = some (mk S I2 L R n) := b1
      rw [a1']
      unfold F_X12_keeps_54
      rw [b1']
    · show I2 198 6 = nI (keepU w.2.1 w.2.2).length
      rw [b3, keepU_len hU, hT]; rfl
    · have hi' : i < (keepU w.2.1 w.2.2).length := hi
      rw [keepU_len hU, hT] at hi'
      show RSt ((keepU w.2.1 w.2.2).reverse.getD i bb0) (I2 198) (91 + 41 * i)
      rw [revD hi, keepU_len hU, hT]
      by_cases e : i = 9
      · subst e
        show RSt w.2.1 _ _
        exact st0.mv hC (fun j hj => by rw [show 91 + 41 * 9 + j = 91 + 41 * 9 + j from rfl, b4 j (by omega) hj, a5 (7 + j) (by omega) (by omega)])
      · have hi9 : i < 9 := by omega
        obtain ⟨z, hz⟩ : ∃ z, 9 - i = z + 1 := ⟨8 - i, by omega⟩
        rw [show min (10 + 1) 10 - 1 - i = z + 1 by omega, keepU_s (by omega)]
        have := h4 (i + 1) (by omega)
        rw [revD (by omega), hT, show 10 - 1 - (i + 1) = z by omega] at this
        exact this.mv (hB' z) (fun j hj => by rw [b5 _ (by omega) (by omega), a4 _ (by omega) (by omega), show 91 + 41 * i + j + 41 = 91 + 41 * (i + 1) + j by omega])
  · have hlt : w.2.2.length < 10 := by omega
    rw [if_neg (show ¬ nI w.2.2.length = (10 : Int32) from fun q => hT ((nI_eq (b := 10) (by omega) (by omega)).mp q))]
    obtain ⟨I2, b1, b2, b3, b4, b5⟩ := e_keepL (L := L) (n := n) hs hlt 41 mm_N 0 I (by omega) (by show 41 < 1000000; omega) h3
    refine ⟨I2, b1, b2, h1.keep2 hP (fun k q => b5 k (by omega) (by omega)), h2.keep (fun k q1 q2 => b5 k q1 (by omega)), ?_, fun i hi => ?_⟩
    · show I2 198 6 = nI (keepU w.2.1 w.2.2).length
      rw [b3, keepU_len hU, show min (w.2.2.length + 1) 10 = w.2.2.length + 1 by omega]
    · have hi' : i < (keepU w.2.1 w.2.2).length := hi
      rw [keepU_len hU] at hi'
      show RSt ((keepU w.2.1 w.2.2).reverse.getD i bb0) (I2 198) (91 + 41 * i)
      rw [revD hi, keepU_len hU]
      by_cases e : i = w.2.2.length
      · rw [show min (w.2.2.length + 1) 10 - 1 - i = 0 by omega, e]
        show RSt w.2.1 _ _
        exact st0.mv hC (fun j hj => b4 j (by omega) hj)
      · obtain ⟨z, hz⟩ : ∃ z, w.2.2.length - i = z + 1 := ⟨w.2.2.length - i - 1, by omega⟩
        rw [show min (w.2.2.length + 1) 10 - 1 - i = z + 1 by omega, keepU_s (by omega)]
        have := h4 i (by omega)
        rw [revD (by omega), show w.2.2.length - 1 - i = z by omega] at this
        exact this.mv (hB' z) (fun j hj => b5 _ (by omega) (by omega))
end RKp
