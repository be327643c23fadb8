/-! leave, darlings -/
section LV
variable {S : mkS} {I : mkI} {L : mkL} {R : mkR} {n : Nat × Nat} {P : PL} {p : Nat}
/-- whom lines are with: nobody, or a line -/
def WV (W : Nat) (w : Nat → Int32) : Prop := ∀ l, l < W → w l = -1 ∨ ∃ s, s < W ∧ w l = nI s
theorem c_con (hP : PlOK P) (hp : CPlan P S R I p) {a : Nat} (ha : S a = (1, 8)) {w : Nat → Int32} (hw : ∀ l, l < pW P → I a l = w l) (hv : WV (pW P) w) {l : Nat} (hl : l < pW P) : F_X6_contentment (some p) (some a) (nI l) (mk S I L R n) = some (aCon P w l, mk S I L R n) := by
  have w2 := hP.2.1
  unfold F_X6_contentment F_X6_contentment_27 F_X6_contentment_28 aCon
  rw [if_neg (nI_pos (by omega)), mk_aNt0 ha, Option.bind_some, if_neg (nI_ge (by omega) (by omega)), mk_aJ0 ha (by omega) (by decide), Option.bind_some, hw l hl]
  rcases hv l hl with e | ⟨s, hs, e⟩
  · rw [e, if_pos (by decide), if_pos (by decide)]
  · rw [e, if_neg (nI_pos (by omega)), if_neg (nI_pos (by omega)), Option.bind_some, pl_v hp.1, c_liking hP hp hl hs, b2_some]
theorem c_partM (hP : PlOK P) (hp : CPlan P S R I p) {a : Nat} (ha : S a = (1, 8)) {w : Nat → Int32} (hw : ∀ l, l < pW P → I a l = w l) (hv : WV (pW P) w) {l : Nat} (hl : l < pW P) (k2 : Option Nat → Option Nat → Int32 → MH → Option (Int32 × MH)) : ∀ (r g m : Nat), m + r = pW P → r < g → F_X6_firstToPart_20 k2 g (some p) (some a) (nI l) (nI m) (mk S I L R n) = if aPartM P w l r m = -1 then k2 (some p) (some a) (nI (l + 1)) (mk S I L R n) else some (aPartM P w l r m, mk S I L R n) := by
  have w2 := hP.2.1
  intro r
  induction r with
  | zero =>
    intro g m hm hg
    obtain ⟨g, rfl⟩ : ∃ y, g = y + 1 := ⟨g - 1, by omega⟩
    simp only [F_X6_firstToPart_20, F_X6_firstToPart_84]
    rw [pl_0 hp, Option.bind_some, if_pos (nI_le (by omega) (by omega)), nI_1]
    unfold aPartM
    rw [if_pos rfl]
  | succ r ih =>
    intro g m hm hg
    obtain ⟨g, rfl⟩ : ∃ y, g = y + 1 := ⟨g - 1, by omega⟩
    have ih' := ih g (m + 1) (by omega) (by omega)
    have e10 : (10 : Int32) * nI l + nI m = nI (10 * l + m) := by
      rw [show (10 : Int32) = nI 10 from rfl, nI_mul9, nI_add]
    simp only [F_X6_firstToPart_20, F_X6_firstToPart_84, F_X6_firstToPart_78]
    rw [pl_0 hp, Option.bind_some, if_neg (nI_ge (by omega) (by omega)), mk_aNt0 ha, Option.bind_some, if_neg (nI_ge (by omega) (by omega)), mk_aJ0 ha (by omega) (by decide), Option.bind_some, hw l hl, pl_v hp.1, c_liking hP hp hl (by omega), b2_some, c_con hP hp ha hw hv hl, b2_some, pl_v hp.1, c_liking hP hp (by omega) hl, b2_some, c_con hP hp ha hw hv (by omega), b2_some, nI_1, e10, ih']
    rw [aPartM]
    unfold aPartC
    by_cases h1 : w l = nI m
    · rw [if_pos h1, decide_eq_false (fun q => q h1), Bool.false_and, if_neg Bool.false_ne_true]
    · rw [if_neg h1, decide_eq_true h1, Bool.true_and]
      by_cases h2 : aCon P w l < aLikes P (nI l) (nI m)
      · rw [if_neg (Int32.not_le.mpr h2), decide_eq_true h2, Bool.true_and]
        by_cases h3 : aCon P w m < aLikes P (nI m) (nI l)
        · rw [if_neg (Int32.not_le.mpr h3), decide_eq_true h3, if_pos rfl, if_neg (nI_nm1 (by omega))]
        · rw [if_pos (Int32.not_lt.mp h3), decide_eq_false h3, if_neg Bool.false_ne_true]
      · rw [if_pos (Int32.not_lt.mp h2), decide_eq_false h2, Bool.false_and, if_neg Bool.false_ne_true]
theorem c_partL (hP : PlOK P) (hp : CPlan P S R I p) {a : Nat} (ha : S a = (1, 8)) {w : Nat → Int32} (hw : ∀ l, l < pW P → I a l = w l) (hv : WV (pW P) w) : ∀ (r g l : Nat), l + r = pW P → r < g → F_X6_firstToPart_2 g (some p) (some a) (nI l) (mk S I L R n) = some (aPartL P w r l, mk S I L R n) := by
  have w2 := hP.2.1
  intro r
  induction r with
  | zero =>
    intro g l hm hg
    obtain ⟨g, rfl⟩ : ∃ y, g = y + 1 := ⟨g - 1, by omega⟩
    simp only [F_X6_firstToPart_2, F_X6_firstToPart_90]
    rw [pl_0 hp, Option.bind_some, if_pos (nI_le (by omega) (by omega))]
    rfl
  | succ r ih =>
    intro g l hm hg
    obtain ⟨g, rfl⟩ : ∃ y, g = y + 1 := ⟨g - 1, by omega⟩
    simp only [F_X6_firstToPart_2, F_X6_firstToPart_90]
    rw [pl_0 hp, Option.bind_some, if_neg (nI_ge (by omega) (by omega)), mk_aNt0 ha, Option.bind_some, if_neg (nI_ge (by omega) (by omega)), nI_1, c_partM hP hp ha hw hv (by omega) _ r mm_N (l + 1) (by omega) (by show r < 1000000; omega), ih g (l + 1) (by omega) (by omega)]
    rw [aPartL]
    by_cases e : aPartM P w l r (l + 1) = -1
    · rw [if_pos e, if_pos e]
    · rw [if_neg e, if_neg e]
theorem c_part (hP : PlOK P) (hp : CPlan P S R I p) {a : Nat} (ha : S a = (1, 8)) {w : Nat → Int32} (hw : ∀ l, l < pW P → I a l = w l) (hv : WV (pW P) w) : F_X6_firstToPart (some p) (some a) (mk S I L R n) = some (aPart P w, mk S I L R n) :=
  c_partL hP hp ha hw hv (pW P) mm_N 0 (by omega) (by have := hP.2.1; show pW P < 1000000; omega)
/-! the reference -/
def RLk (P : PL) (I : mkI) : Prop := ∀ l m, l < pW P → m < pW P → I 211 (8 * l + m) = aLikes P (nI l) (nI m)
theorem e_lay14 (hs : St S R) (hP : PlOK P) {l : Nat} (hl : l < pW P) (k2 : Option Nat → Int32 → MH → Option MH) : ∀ (r g m : Nat) (I : mkI), m + r = pW P → r < g → RPlan P (I 198) → ∃ I', F_X12_laysLikings_14 k2 g (some 197) (nI l) (nI m) (mk S I L R n) = k2 (some 197) (nI (l + 1)) (mk S I' L R n) ∧ (∀ x, x ≠ 211 → x ≠ 204 → x ≠ 203 → I' x = I x) ∧ (∀ j, m ≤ j → j < pW P → I' 211 (8 * l + j) = aLikes P (nI l) (nI j)) ∧ ∀ q, q < 8 * l + m ∨ 8 * l + 8 ≤ q → I' 211 q = I 211 q := by
  have w2 := hP.2.1
  intro r
  induction r with
  | zero =>
    intro g m I hm hg hK
    obtain ⟨g, rfl⟩ : ∃ y, g = y + 1 := ⟨g - 1, by omega⟩
    refine ⟨I, ?_, fun _ _ _ _ => rfl, fun j h1 h2 => by omega, fun _ _ => rfl⟩
    simp only [F_X12_laysLikings_14]
    rw [gr_197_0 hs, Option.bind_some, show aI (mk S I L R n) (some 198) 0 1 = some (I 198 1) from ai_198 (k := 1) hs (by omega), Option.bind_some, hK.2.1, if_pos (nI_le (by omega) (by omega)), nI_1]
  | succ r ih =>
    intro g m I hm hg hK
    obtain ⟨g, rfl⟩ : ∃ y, g = y + 1 := ⟨g - 1, by omega⟩
    obtain ⟨I1, p1, p2⟩ := e_likesHow (L := L) (n := n) hs hP I hK (nI l) (nI m)
    obtain ⟨I', q1, q2, q3, q4⟩ := ih g (m + 1) (up2 I1 211 (8 * l + m) (aLikes P (nI l) (nI m))) (by omega) (by omega) (by rw [up2_ne _ _ _ (by decide), p1 _ (by decide) (by decide)]; exact hK)
    refine ⟨I', ?_, fun x h1 h2 h3 => by rw [q2 x h1 h2 h3, up2_ne _ _ _ h1, p1 x h2 h3], fun j h1 h2 => ?_, fun q hq => ?_⟩
    · simp only [F_X12_laysLikings_14]
      rw [gr_197_0 hs, Option.bind_some, show aI (mk S I L R n) (some 198) 0 1 = some (I 198 1) from ai_198 (k := 1) hs (by omega), Option.bind_some, hK.2.1, if_neg (nI_ge (by omega) (by omega)), gr_197_34 hs, Option.bind_some, cv_197 hs, p2, b2_some, show (8 : Int32) * nI l = nI (8 * l) from nI_mul9 8 l, nI_add, si_211 hs (by omega), Option.bind_some, nI_1]
      exact q1
    · by_cases e : j = m
      · subst e
        rw [q4 _ (by omega), up2_self]
      · exact q3 j (by omega) h2
    · rw [q4 q (by omega), up2_row, up1_ne _ _ (by omega), p1 _ (by decide) (by decide)]
theorem e_lay2 (hs : St S R) (hP : PlOK P) : ∀ (r g l : Nat) (I : mkI), l + r = pW P → r < g → RPlan P (I 198) → (∀ i j, i < l → j < pW P → I 211 (8 * i + j) = aLikes P (nI i) (nI j)) → ∃ I', F_X12_laysLikings_2 g (some 197) (nI l) (mk S I L R n) = some (mk S I' L R n) ∧ (∀ x, x ≠ 211 → x ≠ 204 → x ≠ 203 → I' x = I x) ∧ RLk P I' := by
  have w2 := hP.2.1
  intro r
  induction r with
  | zero =>
    intro g l I hm hg hK hd
    obtain ⟨g, rfl⟩ : ∃ y, g = y + 1 := ⟨g - 1, by omega⟩
    refine ⟨I, ?_, fun _ _ _ _ => rfl, fun i j h1 h2 => hd i j (by omega) h2⟩
    simp only [F_X12_laysLikings_2]
    rw [gr_197_0 hs, Option.bind_some, show aI (mk S I L R n) (some 198) 0 1 = some (I 198 1) from ai_198 (k := 1) hs (by omega), Option.bind_some, hK.2.1, if_pos (nI_le (by omega) (by omega))]
  | succ r ih =>
    intro g l I hm hg hK hd
    obtain ⟨g, rfl⟩ : ∃ y, g = y + 1 := ⟨g - 1, by omega⟩
    obtain ⟨I1, p1, p2, p3, p4⟩ := e_lay14 (L := L) (n := n) hs hP (show l < pW P by omega) (F_X12_laysLikings_2 g) (pW P) mm_N 0 I (by omega) (by show pW P < 1000000; omega) hK
    obtain ⟨I', q1, q2, q3⟩ := ih g (l + 1) I1 (by omega) (by omega) (by rw [p2 _ (by decide) (by decide) (by decide)]; exact hK) (fun i j h1 h2 => by
      by_cases e : i = l
      · rw [e]; exact p3 j (Nat.zero_le _) h2
      · rw [p4 _ (by omega)]; exact hd i j (by omega) h2)
    refine ⟨I', ?_, fun x h1 h2 h3 => by rw [q2 x h1 h2 h3, p2 x h1 h2 h3], q3⟩
    simp only [F_X12_laysLikings_2]
    rw [gr_197_0 hs, Option.bind_some, show aI (mk S I L R n) (some 198) 0 1 = some (I 198 1) from ai_198 (k := 1) hs (by omega), Option.bind_some, hK.2.1, if_neg (nI_ge (by omega) (by omega))]
    exact p1.trans q1
theorem e_layLk (hs : St S R) (hP : PlOK P) (I : mkI) (hK : RPlan P (I 198)) : ∃ I', F_X12_laysLikings (some 197) (mk S I L R n) = some (mk S I' L R n) ∧ (∀ x, x ≠ 211 → x ≠ 204 → x ≠ 203 → I' x = I x) ∧ RLk P I' :=
  e_lay2 hs hP (pW P) mm_N 0 I (by omega) (by have := hP.2.1; show pW P < 1000000; omega) hK (fun i j h => absurd h (Nat.not_lt_zero _))
theorem e_likesMate (hs : St S R) (hP : PlOK P) (hk : RLk P I) {w : Nat → Int32} (hw : ∀ l, l < pW P → I 212 l = w l) (hv : WV (pW P) w) {l : Nat} (hl : l < pW P) : F_X12_likesMate (some 197) (nI l) (mk S I L R n) = some (aCon P w l, mk S I L R n) := by
  have w2 := hP.2.1
  unfold F_X12_likesMate F_X12_likesMate_30 aCon
  rw [gr_197_35 hs, Option.bind_some, ai_212 hs (by omega), Option.bind_some, hw l hl]
  rcases hv l hl with e | ⟨s, hs', e⟩
  · rw [e, if_pos rfl, if_pos (by decide)]
  · rw [e, if_neg (nI_nm1 (by omega)), if_neg (nI_pos (by omega)), gr_197_34 hs, Option.bind_some, Option.bind_some, ai_212 hs (by omega), Option.bind_some, hw l hl, e, show (8 : Int32) * nI l = nI (8 * l) from nI_mul9 8 l, nI_add, ai_211 hs (by omega), Option.bind_some, hk l s hl hs']
theorem e_would (hs : St S R) (hP : PlOK P) (hk : RLk P I) {w : Nat → Int32} (hw : ∀ l, l < pW P → I 212 l = w l) (hv : WV (pW P) w) {l m : Nat} (hl : l < pW P) (hm : m < pW P) (hlm : l ≠ m) : F_X12_wouldLeave (some 197) (nI l) (nI m) (mk S I L R n) = some (b2i (aPartC P w l m), mk S I L R n) := by
  have w2 := hP.2.1
  unfold F_X12_wouldLeave F_X12_wouldLeave_57 F_X12_wouldLeave_58 aPartC
  rw [if_neg (fun q => hlm ((nI_eq (by omega) (by omega)).mp q)), gr_197_35 hs, Option.bind_some, ai_212 hs (by omega), Option.bind_some, hw l hl, gr_197_34 hs, Option.bind_some, show (8 : Int32) * nI l = nI (8 * l) from nI_mul9 8 l, nI_add, ai_211 hs (by omega), Option.bind_some, hk l m hl hm, cv_197 hs, e_likesMate hs hP hk hw hv hl, b2_some, gr_197_34 hs, Option.bind_some, show (8 : Int32) * nI m = nI (8 * m) from nI_mul9 8 m, nI_add, ai_211 hs (by omega), Option.bind_some, hk m l hm hl, cv_197 hs, e_likesMate hs hP hk hw hv hm, b2_some]
  by_cases h1 : w l = nI m
  · rw [if_pos h1, rZ_0, decide_eq_false (fun q => q h1), Bool.false_and]
  · rw [if_neg h1, decide_eq_true h1, Bool.true_and]
    by_cases h2 : aCon P w l < aLikes P (nI l) (nI m)
    · rw [if_neg (Int32.not_le.mpr h2), decide_eq_true h2, Bool.true_and]
      by_cases h3 : aCon P w m < aLikes P (nI m) (nI l)
      · rw [if_neg (Int32.not_le.mpr h3), decide_eq_true h3, rZ_1]
      · rw [if_pos (Int32.not_lt.mp h3), decide_eq_false h3, rZ_0]
    · rw [if_pos (Int32.not_lt.mp h2), decide_eq_false h2, Bool.false_and, rZ_0]
theorem e_partM (hs : St S R) (hP : PlOK P) (hK : I 198 1 = nI (pW P)) (hk : RLk P I) {w : Nat → Int32} (hw : ∀ l, l < pW P → I 212 l = w l) (hv : WV (pW P) w) {l : Nat} (hl : l < pW P) (k2 : Option Nat → Int32 → MH → Option (Int32 × MH)) : ∀ (r g m : Nat), m + r = pW P → r < g → l < m → F_X12_firstLeaving_16 k2 g (some 197) (nI l) (nI m) (mk S I L R n) = if aPartM P w l r m = -1 then k2 (some 197) (nI (l + 1)) (mk S I L R n) else some (aPartM P w l r m, mk S I L R n) := by
  have w2 := hP.2.1
  intro r
  induction r with
  | zero =>
    intro g m hm hg _
    obtain ⟨g, rfl⟩ : ∃ y, g = y + 1 := ⟨g - 1, by omega⟩
    simp only [F_X12_firstLeaving_16]
    rw [gr_197_0 hs, Option.bind_some, show aI (mk S I L R n) (some 198) 0 1 = some (I 198 1) from ai_198 (k := 1) hs (by omega), Option.bind_some, hK, if_pos (nI_le (by omega) (by omega)), nI_1]
    unfold aPartM
    rw [if_pos rfl]
  | succ r ih =>
    intro g m hm hg hlm
    obtain ⟨g, rfl⟩ : ∃ y, g = y + 1 := ⟨g - 1, by omega⟩
    have ih' := ih g (m + 1) (by omega) (by omega) (by omega)
    have e10 : (10 : Int32) * nI l + nI m = nI (10 * l + m) := by
      rw [show (10 : Int32) = nI 10 from rfl, nI_mul9, nI_add]
    simp only [F_X12_firstLeaving_16]
    rw [gr_197_0 hs, Option.bind_some, show aI (mk S I L R n) (some 198) 0 1 = some (I 198 1) from ai_198 (k := 1) hs (by omega), Option.bind_some, hK, if_neg (nI_ge (by omega) (by omega)), cv_197 hs, e_would hs hP hk hw hv hl (by omega) (by omega), b2_some, nI_1, e10, ih']
    rw [aPartM]
    by_cases h1 : aPartC P w l m = true
    · rw [b2i_e h1, if_neg (by decide), if_pos h1, if_neg (nI_nm1 (by omega))]
    · rw [b2i_ne h1, if_pos rfl, if_neg h1]
theorem e_partL (hs : St S R) (hP : PlOK P) (hK : I 198 1 = nI (pW P)) (hk : RLk P I) {w : Nat → Int32} (hw : ∀ l, l < pW P → I 212 l = w l) (hv : WV (pW P) w) : ∀ (r g l : Nat), l + r = pW P → r < g → F_X12_firstLeaving_2 g (some 197) (nI l) (mk S I L R n) = some (aPartL P w r l, mk S I L R n) := by
  have w2 := hP.2.1
  intro r
  induction r with
  | zero =>
    intro g l hm hg
    obtain ⟨g, rfl⟩ : ∃ y, g = y + 1 := ⟨g - 1, by omega⟩
    simp only [F_X12_firstLeaving_2]
    rw [gr_197_0 hs, Option.bind_some, show aI (mk S I L R n) (some 198) 0 1 = some (I 198 1) from ai_198 (k := 1) hs (by omega), Option.bind_some, hK, if_pos (nI_le (by omega) (by omega))]
    rfl
  | succ r ih =>
    intro g l hm hg
    obtain ⟨g, rfl⟩ : ∃ y, g = y + 1 := ⟨g - 1, by omega⟩
    simp only [F_X12_firstLeaving_2]
    rw [gr_197_0 hs, Option.bind_some, show aI (mk S I L R n) (some 198) 0 1 = some (I 198 1) from ai_198 (k := 1) hs (by omega), Option.bind_some, hK, if_neg (nI_ge (by omega) (by omega)), nI_1, e_partM hs hP hK hk hw hv (by omega) _ r mm_N (l + 1) (by omega) (by show r < 1000000; omega) (by omega), ih g (l + 1) (by omega) (by omega)]
    rw [aPartL]
    by_cases e : aPartM P w l r (l + 1) = -1
    · rw [if_pos e, if_pos e]
    · rw [if_neg e, if_neg e]
theorem e_part (hs : St S R) (hP : PlOK P) (hK : I 198 1 = nI (pW P)) (hk : RLk P I) {w : Nat → Int32} (hw : ∀ l, l < pW P → I 212 l = w l) (hv : WV (pW P) w) : F_X12_firstLeaving (some 197) (mk S I L R n) = some (aPart P w, mk S I L R n) :=
  e_partL hs hP hK hk hw hv (pW P) mm_N 0 (by omega) (by have := hP.2.1; show pW P < 1000000; omega)
theorem c_leaveL (hs : St S R) (hP : PlOK P) {b ca co : Nat} (hpl : R 170 2 = some p) (hb : BdS S R 170 174 co) {w : Nat → Int32} (hw : ∀ l, l < pW P → I 174 (3 + l) = w l) (hv : WV (pW P) w) : ∀ (r g l : Nat) (I' : mkI), l + r = 8 → r < g → CPlan P S R I p → (∀ x, x ≠ 161 → I' x = I x) → (∀ j, j < l → j < pW P → I' 161 j = w j) → ∃ I'', F_X11_leave_2 g (some 128) (nI l) (mk S I' L R n) = some (aPart P w, mk S I'' L R n) ∧ ∀ x, x ≠ 161 → I'' x = I x := by
  have w2 := hP.2.1
  intro r
  induction r with
  | zero =>
    intro g l I' hl hg hp hk hd
    obtain ⟨g, rfl⟩ : ∃ y, g = y + 1 := ⟨g - 1, by omega⟩
    have : l = 8 := by omega
    subst this
    have hp' : CPlan P S R I' p := hp.kk (fun x hx _ => hk x (by unfold pa at hx; show x ≠ 161; omega)) (fun _ _ => rfl)
    refine ⟨I', ?_, hk⟩
    simp only [F_X11_leave_2]
    rw [if_pos (by decide), gr_128_5 hs, Option.bind_some, bd_p hb hpl, Option.bind_some, gr_128_14 hs, Option.bind_some, c_part hP hp' (S_161 hs) (fun l hl => hd l (by omega) hl) hv, b2_some]
  | succ r ih =>
    intro g l I' hl hg hp hk hd
    obtain ⟨g, rfl⟩ : ∃ y, g = y + 1 := ⟨g - 1, by omega⟩
    have hp' : CPlan P S R I' p := hp.kk (fun x hx _ => hk x (by unfold pa at hx; show x ≠ 161; omega)) (fun _ _ => rfl)
    obtain ⟨v, hvv⟩ : ∃ v, v = if l < pW P then I' 174 (3 + l) else -1 := ⟨_, rfl⟩
    obtain ⟨I'', q1, q2⟩ := ih g (l + 1) (up2 I' 161 l v) (by omega) (by omega) hp (fun x hx => by rw [up2_ne _ _ _ hx, hk x hx]) (fun j h1 h2 => by
      rw [up2_row]
      by_cases e : j = l
      · rw [e, up1_self, hvv, if_pos (e ▸ h2), hk _ (by decide), hw l (e ▸ h2)]
      · rw [up1_ne _ _ e]; exact hd j (by omega) h2)
    refine ⟨I'', ?_, q2⟩
    simp only [F_X11_leave_2]
    rw [if_neg (ge_li 8 (by omega) (by decide)), gr_128_14 hs, Option.bind_some, gr_128_5 hs, Option.bind_some, bd_v hb, c_spouse hP hb hpl hp' (by omega), b2_some, ← hvv, si_161 hs (by omega), Option.bind_some, nI_1]
    exact q1
theorem e_leaveL (hs : St S R) (hP : PlOK P) {w : Nat → Int32} (hv : WV (pW P) w) : ∀ (r g l : Nat) (I : mkI), l + r = 8 → r < g → I 198 1 = nI (pW P) → RLk P I → (∀ l, l < pW P → I 198 (38 + l) = w l) → (∀ j, j < l → j < pW P → I 212 j = w j) → ∃ I', F_X12_leave_11 g (some 197) (nI l) (mk S I L R n) = some (aPart P w, mk S I' L R n) ∧ ∀ x, x ≠ 212 → I' x = I x := by
  have w2 := hP.2.1
  intro r
  induction r with
  | zero =>
    intro g l I hl hg hK hk hw hd
    obtain ⟨g, rfl⟩ : ∃ y, g = y + 1 := ⟨g - 1, by omega⟩
    have : l = 8 := by omega
    subst this
    refine ⟨I, ?_, fun _ _ => rfl⟩
    simp only [F_X12_leave_11]
    rw [if_pos (by decide), cv_197 hs, e_part hs hP hK hk (fun l hl => hd l (by omega) hl) hv, b2_some]
  | succ r ih =>
    intro g l I hl hg hK hk hw hd
    obtain ⟨g, rfl⟩ : ∃ y, g = y + 1 := ⟨g - 1, by omega⟩
    obtain ⟨I', q1, q2⟩ := ih g (l + 1) (up2 I 212 l (I 198 (38 + l))) (by omega) (by omega) (by rw [up2_ne _ _ _ (by decide)]; exact hK) (by unfold RLk; rw [up2_ne _ _ _ (by decide)]; exact hk) (by rw [up2_ne _ _ _ (by decide)]; exact hw) (fun j h1 h2 => by
      rw [up2_row]
      by_cases e : j = l
      · rw [e, up1_self, hw l (e ▸ h2)]
      · rw [up1_ne _ _ e]; exact hd j (by omega) h2)
    refine ⟨I', ?_, fun x hx => by rw [q2 x hx, up2_ne _ _ _ hx]⟩
    simp only [F_X12_leave_11]
    rw [if_neg (ge_li 8 (by omega) (by decide)), gr_197_35 hs, Option.bind_some, gr_197_0 hs, Option.bind_some, show (38 : Int32) + nI l = nI (38 + l) from nI_add 38 l, ai_198 hs (by omega), Option.bind_some, si_212 hs (by omega), Option.bind_some, nI_1]
    exact q1
/-! darlings -/
def sumD (P : PL) (l m : Nat) : Int32 := aLikes P (nI l) (nI m) + aLikes P (nI m) (nI l)
def darM (P : PL) (l : Nat) : Nat → Nat → Nat → Nat
  | 0, _, b => b
  | r + 1, m, b => darM P l r (m + 1) (if sumD P (b / 10) (b % 10) < sumD P l m then 10 * l + m else b)
def darL (P : PL) : Nat → Nat → Nat → Nat
  | 0, _, b => b
  | r + 1, l, b => darL P r (l + 1) (darM P l r (l + 1) b)
def Dok (P : PL) (b : Nat) : Prop := b / 10 < pW P ∧ b % 10 < pW P
theorem darM_ok (P : PL) (hW : pW P ≤ 8) (l : Nat) (hl : l < pW P) : ∀ r m b, m + r = pW P → Dok P b → Dok P (darM P l r m b)
  | 0, _, _, _, h => h
  | r + 1, m, b, hm, h => by
    unfold darM
    refine darM_ok P hW l hl r (m + 1) _ (by omega) ?_
    split
    · unfold Dok; omega
    · exact h
theorem c_darM (hP : PlOK P) (hp : CPlan P S R I p) {l : Nat} (hl : l < pW P) (k15 : Option Nat → Int32 → Int32 → Int32 → MH → Option (Int32 × MH)) : ∀ (r g m b : Nat) (x2 x3 : Int32), m + r = pW P → r < g → ((x2 = -1 ∧ l = 0 ∧ m = 1 ∧ b = 1) ∨ (x2 = nI b ∧ x3 = sumD P (b / 10) (b % 10))) → Dok P b → ∃ y3, F_X11_darlings_30 k15 g (some p) x2 x3 (nI l) (nI m) (mk S I L R n) = k15 (some p) (if r = 0 then x2 else nI (darM P l r m b)) y3 (nI (l + 1)) (mk S I L R n) ∧ (r = 0 → y3 = x3) ∧ (r ≠ 0 → y3 = sumD P (darM P l r m b / 10) (darM P l r m b % 10)) := by
  have w2 := hP.2.1
  intro r
  induction r with
  | zero =>
    intro g m b x2 x3 hm hg hx hb
    obtain ⟨g, rfl⟩ : ∃ y, g = y + 1 := ⟨g - 1, by omega⟩
    refine ⟨x3, ?_, fun _ => rfl, fun q => absurd rfl q⟩
    simp only [F_X11_darlings_30]
    rw [pl_0 hp, Option.bind_some, if_pos (nI_le (by omega) (by omega)), nI_1, if_pos trivial]
  | succ r ih =>
    intro g m b x2 x3 hm hg hx hb
    obtain ⟨g, rfl⟩ : ∃ y, g = y + 1 := ⟨g - 1, by omega⟩
    have e10 : (10 : Int32) * nI l + nI m = nI (10 * l + m) := by
      rw [show (10 : Int32) = nI 10 from rfl, nI_mul9, nI_add]
    have hbn : b < 100 := by unfold Dok at hb; omega
    have key : ∀ (b' : Nat) (x2' x3' : Int32), x2' = nI b' → x3' = sumD P (b' / 10) (b' % 10) → Dok P b' → ∃ y3, F_X11_darlings_30 k15 g (some p) x2' x3' (nI l) (nI (m + 1)) (mk S I L R n) = k15 (some p) (nI (darM P l r (m + 1) b')) y3 (nI (l + 1)) (mk S I L R n) ∧ y3 = sumD P (darM P l r (m + 1) b' / 10) (darM P l r (m + 1) b' % 10) := fun b' x2' x3' h1 h2 h3 => by
      obtain ⟨y3, q1, q2, q3⟩ := ih g (m + 1) b' x2' x3' (by omega) (by omega) (.inr ⟨h1, h2⟩) h3
      refine ⟨y3, ?_, ?_⟩
      · rw [q1]
        by_cases e : r = 0
        · subst e; rw [if_pos rfl, h1]; rfl
        · rw [if_neg e]
      · by_cases e : r = 0
        · subst e; rw [q2 rfl, h2]; rfl
        · exact q3 e
    have hnew : Dok P (10 * l + m) := by unfold Dok; omega
    have hns : sumD P ((10 * l + m) / 10) ((10 * l + m) % 10) = sumD P l m := by
      rw [show (10 * l + m) / 10 = l by omega, show (10 * l + m) % 10 = m by omega]
    have head : F_X11_darlings_30 k15 (g + 1) (some p) x2 x3 (nI l) (nI m) (mk S I L R n) = if x2 = -1 then F_X11_darlings_30 k15 g (some p) (nI (10 * l + m)) (sumD P l m) (nI l) (nI (m + 1)) (mk S I L R n) else if sumD P l m ≤ x3 then F_X11_darlings_30 k15 g (some p) x2 x3 (nI l) (nI (m + 1)) (mk S I L R n) else F_X11_darlings_30 k15 g (some p) (nI (10 * l + m)) (sumD P l m) (nI l) (nI (m + 1)) (mk S I L R n) := by
      simp only [F_X11_darlings_30, F_X11_darlings_69, F_X11_darlings_81]
      rw [pl_0 hp, Option.bind_some, if_neg (nI_ge (by omega) (by omega)), pl_v hp.1, c_liking hP hp hl (by omega), b2_some, pl_v hp.1, c_liking hP hp (by omega) hl, b2_some, nI_1, e10]
      rfl
    rw [head, if_neg (Nat.succ_ne_zero r)]
    rcases hx with ⟨x1, x4, x5, x6⟩ | ⟨x1, x4⟩
    · subst x4 x5 x6
      rw [if_pos x1]
      obtain ⟨y3, q1, q2⟩ := key 1 (nI (10 * 0 + 1)) (sumD P 0 1) rfl rfl hb
      have e1 : darM P 0 (r + 1) 1 1 = darM P 0 r (1 + 1) 1 := by
        unfold darM
        rw [if_neg (by show ¬ sumD P 0 1 < sumD P 0 1; exact fun h => by rw [Int32.lt_iff_toInt_lt] at h; omega)]
        cases r <;> rfl
      exact ⟨y3, by rw [q1, e1], fun q => absurd q (Nat.succ_ne_zero r), fun _ => by rw [q2, e1]⟩
    · rw [if_neg (by rw [x1]; exact nI_nm1 (by omega)), x4]
      by_cases y : sumD P (b / 10) (b % 10) < sumD P l m
      · rw [if_neg (Int32.not_le.mpr y)]
        obtain ⟨y3, q1, q2⟩ := key (10 * l + m) (nI (10 * l + m)) (sumD P l m) rfl hns.symm hnew
        have e1 : darM P l (r + 1) m b = darM P l r (m + 1) (10 * l + m) := by
          rw [darM, if_pos y]
        exact ⟨y3, by rw [q1, e1], fun q => absurd q (Nat.succ_ne_zero r), fun _ => by rw [q2, e1]⟩
      · rw [if_pos (Int32.not_lt.mp y)]
        obtain ⟨y3, q1, q2⟩ := key b x2 _ x1 rfl hb
        have e1 : darM P l (r + 1) m b = darM P l r (m + 1) b := by
          rw [darM, if_neg y]
        exact ⟨y3, by rw [q1, e1], fun q => absurd q (Nat.succ_ne_zero r), fun _ => by rw [q2, e1]⟩
theorem c_darL (hP : PlOK P) (hp : CPlan P S R I p) : ∀ (r g l b : Nat) (x2 x3 : Int32), l + r = pW P → r < g → ((x2 = -1 ∧ l = 0 ∧ b = 1) ∨ (x2 = nI b ∧ x3 = sumD P (b / 10) (b % 10))) → Dok P b → F_X11_darlings_15 g (some p) x2 x3 (nI l) (mk S I L R n) = some (nI (darL P r l b), mk S I L R n) := by
  have w1 := hP.1
  have w2 := hP.2.1
  intro r
  induction r with
  | zero =>
    intro g l b x2 x3 hm hg hx hb
    obtain ⟨g, rfl⟩ : ∃ y, g = y + 1 := ⟨g - 1, by omega⟩
    simp only [F_X11_darlings_15]
    rw [pl_0 hp, Option.bind_some, if_pos (nI_le (by omega) (by omega))]
    rcases hx with ⟨-, q, -⟩ | ⟨q, -⟩
    · omega
    · rw [q]; rfl
  | succ r ih =>
    intro g l b x2 x3 hm hg hx hb
    obtain ⟨g, rfl⟩ : ∃ y, g = y + 1 := ⟨g - 1, by omega⟩
    obtain ⟨y3, q1, q2, q3⟩ := c_darM (L := L) (n := n) hP hp (show l < pW P by omega) (F_X11_darlings_15 g) r mm_N (l + 1) b x2 x3 (by omega) (by show r < 1000000; omega) (by
      rcases hx with ⟨a1, a2, a3⟩ | hx
      · exact .inl ⟨a1, a2, by omega, a3⟩
      · exact .inr hx) hb
    have hb' := darM_ok P w2 l (by omega) r (l + 1) b (by omega) hb
    simp only [F_X11_darlings_15]
    rw [pl_0 hp, Option.bind_some, if_neg (nI_ge (by omega) (by omega)), nI_1, q1]
    refine ih g (l + 1) (darM P l r (l + 1) b) _ y3 (by omega) (by omega) (.inr ?_) hb'
    by_cases e : r = 0
    · subst e
      rw [if_pos rfl, q2 rfl]
      rcases hx with ⟨-, a2, -⟩ | hx
      · omega
      · exact hx
    · rw [if_neg e]
      exact ⟨rfl, q3 e⟩
theorem e_sumD (hs : St S R) (hW : pW P ≤ 8) (hk : RLk P I) {α : Type} {l m : Nat} (hl : l < pW P) (hm : m < pW P) (f : Int32 → Int32 → Option α) : ((gR (mk S I L R n) (some 197) 12 34).bind fun v => (aI (mk S I L R n) v 0 (nI (8 * l + m))).bind fun x => (gR (mk S I L R n) (some 197) 12 34).bind fun v' => (aI (mk S I L R n) v' 0 (nI (8 * m + l))).bind fun y => f x y) = f (aLikes P (nI l) (nI m)) (aLikes P (nI m) (nI l)) := by
  rw [gr_197_34 hs, Option.bind_some, ai_211 hs (by omega), Option.bind_some, Option.bind_some, ai_211 hs (by omega), Option.bind_some, hk l m hl hm, hk m l hm hl]
theorem e_darM (hs : St S R) (hP : PlOK P) (hK : I 198 1 = nI (pW P)) (hk : RLk P I) {l : Nat} (hl : l < pW P) (k13 : Option Nat → Int32 → Int32 → MH → Option (Int32 × MH)) : ∀ (r g m b : Nat), m + r = pW P → r < g → Dok P b → F_X12_darlings_27 k13 g (some 197) (nI b) (nI l) (nI m) (mk S I L R n) = k13 (some 197) (nI (darM P l r m b)) (nI (l + 1)) (mk S I L R n) := by
  have w2 := hP.2.1
  intro r
  induction r with
  | zero =>
    intro g m b hm hg hb
    obtain ⟨g, rfl⟩ : ∃ y, g = y + 1 := ⟨g - 1, by omega⟩
    simp only [F_X12_darlings_27]
    rw [gr_197_0 hs, Option.bind_some, show aI (mk S I L R n) (some 198) 0 1 = some (I 198 1) from ai_198 (k := 1) hs (by omega), Option.bind_some, hK, if_pos (nI_le (by omega) (by omega)), nI_1]
    rfl
  | succ r ih =>
    intro g m b hm hg hb
    obtain ⟨g, rfl⟩ : ∃ y, g = y + 1 := ⟨g - 1, by omega⟩
    have e10 : (10 : Int32) * nI l + nI m = nI (10 * l + m) := by
      rw [show (10 : Int32) = nI 10 from rfl, nI_mul9, nI_add]
    have hnew : Dok P (10 * l + m) := by unfold Dok; omega
    obtain ⟨b1, b2⟩ := id hb
    have m8 : ∀ i j, (8 : Int32) * nI i + nI j = nI (8 * i + j) := fun i j => by rw [show (8 : Int32) = nI 8 from rfl, nI_mul9, nI_add]
    simp only [F_X12_darlings_27, F_X12_darlings_105]
    rw [gr_197_0 hs, Option.bind_some, show aI (mk S I L R n) (some 198) 0 1 = some (I 198 1) from ai_198 (k := 1) hs (by omega), Option.bind_some, hK, if_neg (nI_ge (by omega) (by omega)), show nI b / 10 = nI (b / 10) from nI_div (b := 10) (by omega) (by decide) (by decide), show nI b - nI (b / 10) * 10 = nI (b % 10) by rw [← nI_rem10 b (by omega), show nI b / 10 = nI (b / 10) from nI_div (b := 10) (by omega) (by decide) (by decide)], m8, m8, m8, m8, e_sumD hs w2 hk hl (by omega), e_sumD hs w2 hk b1 b2, e10, nI_1, ih g (m + 1) _ (by omega) (by omega) hnew, ih g (m + 1) b (by omega) (by omega) hb]
    rw [darM]
    by_cases y : sumD P (b / 10) (b % 10) < sumD P l m
    · rw [if_neg (show ¬ aLikes P (nI l) (nI m) + aLikes P (nI m) (nI l) ≤ aLikes P (nI (b / 10)) (nI (b % 10)) + aLikes P (nI (b % 10)) (nI (b / 10)) from Int32.not_le.mpr y), if_pos y]
    · rw [if_pos (show aLikes P (nI l) (nI m) + aLikes P (nI m) (nI l) ≤ aLikes P (nI (b / 10)) (nI (b % 10)) + aLikes P (nI (b % 10)) (nI (b / 10)) from Int32.not_lt.mp y), if_neg y]
theorem e_darL (hs : St S R) (hP : PlOK P) (hK : I 198 1 = nI (pW P)) (hk : RLk P I) : ∀ (r g l b : Nat), l + r = pW P → r < g → Dok P b → F_X12_darlings_13 g (some 197) (nI b) (nI l) (mk S I L R n) = some (nI (darL P r l b), mk S I L R n) := by
  have w2 := hP.2.1
  intro r
  induction r with
  | zero =>
    intro g l b hm hg hb
    obtain ⟨g, rfl⟩ : ∃ y, g = y + 1 := ⟨g - 1, by omega⟩
    simp only [F_X12_darlings_13]
    rw [gr_197_0 hs, Option.bind_some, show aI (mk S I L R n) (some 198) 0 1 = some (I 198 1) from ai_198 (k := 1) hs (by omega), Option.bind_some, hK, if_pos (nI_le (by omega) (by omega))]
    rfl
  | succ r ih =>
    intro g l b hm hg hb
    obtain ⟨g, rfl⟩ : ∃ y, g = y + 1 := ⟨g - 1, by omega⟩
    simp only [F_X12_darlings_13]
    rw [gr_197_0 hs, Option.bind_some, show aI (mk S I L R n) (some 198) 0 1 = some (I 198 1) from ai_198 (k := 1) hs (by omega), Option.bind_some, hK, if_neg (nI_ge (by omega) (by omega)), nI_1, e_darM hs hP hK hk (by omega) _ r mm_N (l + 1) b (by omega) (by show r < 1000000; omega) hb]
    exact ih g (l + 1) _ (by omega) (by omega) (darM_ok P w2 l (by omega) r (l + 1) b (by omega) hb)
end LV
theorem WV.of {P : PL} {C : Nat} {f : Nat → Int32} {F T A D : Nat → Nat} {M : Nat} (hP : PlOK P) (h : BI P C f F T A D M) : WV (pW P) (fun l => f (3 + l)) := fun l hl => h.2.2.2.2.2.2 l (by have := hP.2.1; omega)
theorem scQ.lk {I I' : mkI} (h : ∀ x, x ≠ 211 → x ≠ 204 → x ≠ 203 → I' x = I x) : scQ I I' := ⟨fun a _ _ q3 q4 q5 => h a (by show a ≠ 211; omega) q4 q3, fun j _ => by rw [h 197 (by decide) (by decide) (by decide)]⟩
theorem k_leave (Ls : Nat) (xs : Nat → Int32) : GoodP Ls xs (F_X11_leave (some 128)) (F_X12_leave (some 197)) := by
  intro k S I L R n ⟨hl, tb, tn, fk, fp, w, tr, im, hC, hR, hG⟩
  obtain ⟨hs, hb, ⟨p, hpl, hp⟩, ⟨c1, c2⟩, hP, hRP, hRB⟩ := inv_all hC hR hG
  obtain ⟨-, -, -, F, T, A, D, M, hB, -, -⟩ := hG.opn
  have w2 := hP.2.1
  have hv := WV.of hP hB
  obtain ⟨I1, x1, x2⟩ := c_leaveL (L := L) (n := n) (b := 0) (ca := 0) hs hP hpl hb (fun l hl => x_cells hC (by omega)) hv 8 mm_N 0 I (by omega) (by unfold mm_N; decide) hp (fun _ _ => rfl) (fun j h => absurd h (Nat.not_lt_zero _))
  have kI : ∀ x, ¬ scr x → S (x - 2) ≠ (14, 0) → I1 x = I x := fun x hx _ => x2 x (fun q => hx (by rw [q]; unfold scr; decide))
  have hK1 : I1 198 = I 198 := x2 _ (by decide)
  obtain ⟨I2, y1, y2, y3⟩ := e_layLk (L := L) (n := n) hs hP (up2 I1 197 4 0) (by rw [up2_ne _ _ _ (by decide), hK1]; exact hRP)
  have hK2 : I2 198 = I 198 := by rw [y2 _ (by decide) (by decide) (by decide), up2_ne _ _ _ (by decide), hK1]
  obtain ⟨I3, z1, z2⟩ := e_leaveL (L := L) (n := n) hs hP hv 8 mm_N 0 I2 (by omega) (by unfold mm_N; decide) (by rw [hK2]; exact hRP.2.1) y3 (fun l hl => by rw [hK2, hRB.2.2.2.2.2.1 l (by omega)]; exact x_cells hC (by omega)) (fun j h => absurd h (Nat.not_lt_zero _))
  have sc : scQ I1 I3 := (scQ.m4.tr (scQ.lk y2)).tr ⟨fun a _ _ _ _ q5 => z2 a (by show a ≠ 212; omega), fun j _ => by rw [z2 197 (by decide)]⟩
  have fC : FrC S S I I1 L L R R := FrC.kS hl hs hC.1.2.1 kI (fun _ _ => rfl)
  refine pk_okP (v := aPart w.1 fun l => w.2.1.2 (3 + l)) (I'' := I3) (L'' := L) hl x1 ?_ fC (fun a q => ⟨sc.fr a q, rfl⟩) (hC.le.kS kI (fun _ _ => rfl) ⟨rfl, rfl⟩) (sc.inv (hR.ofC fC)) hG.le
  unfold F_X12_leave
  rw [pi_197_4 hs, Option.bind_some, cv_197 hs, y1, Option.bind_some]
  exact z1
theorem k_darlings (Ls : Nat) (xs : Nat → Int32) : GoodP Ls xs (F_X11_darlings (some 128)) (F_X12_darlings (some 197)) := by
  intro k S I L R n ⟨hl, tb, tn, fk, fp, w, tr, im, hC, hR, hG⟩
  obtain ⟨hs, hb, ⟨p, hpl, hp⟩, ⟨c1, c2⟩, hP, hRP, hRB⟩ := inv_all hC hR hG
  have w1 := hP.1
  have w2 := hP.2.1
  have hD : Dok w.1 1 := by unfold Dok; omega
  obtain ⟨I2, y1, y2, y3⟩ := e_layLk (L := L) (n := n) hs hP (up2 I 197 4 0) (by rw [up2_ne _ _ _ (by decide)]; exact hRP)
  have hK2 : I2 198 = I 198 := by rw [y2 _ (by decide) (by decide) (by decide), up2_ne _ _ _ (by decide)]
  have sc : scQ I I2 := scQ.m4.tr (scQ.lk y2)
  refine pk_okP (v := nI (darL w.1 (pW w.1) 0 1)) (I'' := I2) (L'' := L) hl ?_ ?_ FrC.rf (fun a q => ⟨sc.fr a q, rfl⟩) hC.le (sc.inv hR) hG.le
  · unfold F_X11_darlings
    rw [gr_128_5 hs, Option.bind_some, bd_p hb hpl, Option.bind_some]
    exact c_darL hP hp (pW w.1) mm_N 0 1 (-1) 0 (by omega) (by show pW w.1 < 1000000; omega) (.inl ⟨rfl, rfl, rfl⟩) hD
  · unfold F_X12_darlings
    rw [pi_197_4 hs, Option.bind_some, cv_197 hs, y1, Option.bind_some]
    exact e_darL hs hP (by rw [hK2]; exact hRP.2.1) y3 (pW w.1) mm_N 0 1 (by omega) (by show pW w.1 < 1000000; omega) hD
