/-! crossings: the class, all numbers -/
theorem frX_ne {Q : XQ} {m : Nat} {p : Nat → Nat} : ∀ (i : Nat), (∀ j, j < i → Q.2 j (p j) < 1000) → ∀ c, (frX Q i p c ≠ -1 ↔ ∃ j, j < i ∧ p j = c)
  | 0, _, c => ⟨fun h => absurd rfl h, fun ⟨j, h, _⟩ => absurd h (Nat.not_lt_zero _)⟩
  | i + 1, h, c => by
    have ih := frX_ne (m := m) i (fun j hj => h j (by omega)) c
    rw [frX]
    by_cases e : c = p i
    · rw [e, up1_self]
      exact ⟨fun _ => ⟨i, by omega, rfl⟩, fun _ => nI_nm1 (by have := h i (by omega); omega)⟩
    · rw [up1_ne _ _ e, ih]
      constructor
      · rintro ⟨j, h1, h2⟩; exact ⟨j, by omega, h2⟩
      · rintro ⟨j, h1, h2⟩
        refine ⟨j, ?_, h2⟩
        have : j ≠ i := fun q => e (by rw [← h2, q])
        omega
theorem frX_lt {Q : XQ} {m : Nat} {p : Nat → Nat} (hp : ∀ i, i < m → p i < 10) : ∀ i, i ≤ m → ∀ c, ¬ c < 10 → frX Q i p c = -1
  | 0, _, _, _ => rfl
  | i + 1, h, c, hc => by
    rw [frX, up1_ne _ _ (by have := hp i (by omega); omega)]
    exact frX_lt hp i (by omega) c hc
section CW
variable {S : mkS} {L : mkL} {R : mkR} {n : Nat × Nat} {P : PL} {C M p co N t ma m : Nat} {f : Nat → Int32} {F T A D : Nat → Nat} {nu : Nat → Int64}
theorem ai_153' (hs : St S R) {I : mkI} {c : Nat} (h : c < 10) : aI (mk S I L R n) (some 153) 0 (nI c) = some (I 153 c) := mk_aJ0 (S_153 hs) h (by decide)
theorem c_otherOf (hs : St S R) (ht : t < 4) (hm : ma ≤ 30) {I : mkI} (h : I (189 + 2 * t) 2 = nI ma) (hl : ∀ j, j < ma → L (190 + 2 * t) j = nu j) (hnu : ∀ j, j < ma → lnv nu j < 8 ∧ nu j = (nI (lnv nu j)).toInt64) {i x : Nat} (hi : 2 * i + 1 < ma) (hx : x < 8) : F_X2_otherOf (some (189 + 2 * t)) (nI i) (nI x) (mk S I L R n) = some (if x = lnv nu (2 * i) then nI (lnv nu (2 * i + 1)) else if x = lnv nu (2 * i + 1) then nI (lnv nu (2 * i)) else -1, mk S I L R n) := by
  have n0 := hnu (2 * i) (by omega)
  have n1 := hnu (2 * i + 1) (by omega)
  unfold F_X2_otherOf F_X2_otherOf_40
  rw [show (2 : Int32) * nI i = nI (2 * i) from nI_mul9 2 i, nI_1, tr_v hs ht, c_at hs ht hm h (by omega), b2_some, tr_v hs ht, c_at hs ht hm h hi, b2_some, hl _ (by omega), hl _ hi, n0.2, n1.2, Int32.toInt32_toInt64, Int32.toInt32_toInt64]
  by_cases e0 : x = lnv nu (2 * i)
  · rw [if_pos (by rw [e0]), if_pos e0]
  · rw [if_neg (fun q => e0 ((nI_eq (by omega) (by omega)).mp q)), if_neg e0]
    by_cases e1 : x = lnv nu (2 * i + 1)
    · rw [if_pos (by rw [e1]), if_pos e1]
    · rw [if_neg (fun q => e1 ((nI_eq (by omega) (by omega)).mp q)), if_neg e1]
theorem c_leadL (hs : St S R) (hP : PlOK P) (hb : BdS S R 170 174 co) (hV : BV P C f F T A D) (ht : t < 4) (hma : ma = 2 * m) (hm3 : m ≤ 3) (hl : ∀ j, j < ma → L (190 + 2 * t) j = nu j) (hnu : ∀ j, j < ma → lnv nu j < pW P ∧ nu j = (nI (lnv nu j)).toInt64) {q : Nat → Nat} (hq : ∀ i, i < m → q i < C) : ∀ (r g i pk : Nat) (I : mkI), i + r = m → r < g → (∀ j, j < m → I 155 j = nI (q j)) → I 174 = f → I (189 + 2 * t) 2 = nI ma → vlX (qX f F (lnv nu)) i q = true → pk < 2 ^ 10 → (∀ c, c < 10 → pk.testBit c = decide (frX (qX f F (lnv nu)) i q c ≠ -1)) → (∀ c, c < C → I 154 c = cmX P F T A (frX (qX f F (lnv nu)) i q) c) → ∃ I' pk', F_X2_leadPicks_21 g (some 146) (some 170) (some (189 + 2 * t)) (nI m) (nI pk) (nI i) (mk S I L R n) = some (nI pk', mk S I' L R n) ∧ (vlX (qX f F (lnv nu)) m q = true → pk' < 2 ^ 10 ∧ (∀ c, c < 10 → pk'.testBit c = decide (frX (qX f F (lnv nu)) m q c ≠ -1)) ∧ ∀ c, c < C → I' 154 c = cmX P F T A (frX (qX f F (lnv nu)) m q) c) ∧ (vlX (qX f F (lnv nu)) m q = false → pk' = 0) ∧ ∀ x, x ≠ 154 → I' x = I x := by
  have w2 := hP.2.1
  have hC := hV.1
  intro r
  induction r with
  | zero =>
    intro g i pk I hi hg hpi hI htr hv hpk hbit hcm
    obtain ⟨g, rfl⟩ : ∃ y, g = y + 1 := ⟨g - 1, by omega⟩
    have : i = m := by omega
    subst this
    refine ⟨I, pk, ?_, fun _ => ⟨hpk, hbit, hcm⟩, fun h => (by rw [hv] at h; cases h), fun _ _ => rfl⟩
    simp only [F_X2_leadPicks_21, F_X2_leadPicks_121]
    rw [if_pos (nI_le (by omega) (by omega))]
  | succ r ih =>
    intro g i pk I hi hg hpi hI htr hv hpk hbit hcm
    obtain ⟨g, rfl⟩ : ∃ y, g = y + 1 := ⟨g - 1, by omega⟩
    have him : i < m := by omega
    have hcC := hq i him
    obtain ⟨c, hc⟩ : ∃ c, c = q i := ⟨_, rfl⟩
    rw [← hc] at hcC
    obtain ⟨⟨e1, hF⟩, -⟩ := hV.2.2 c hcC
    have hoth := c_otherOf (L := L) (n := n) (I := I) hs ht (show ma ≤ 30 by omega) htr hl (fun j hj => ⟨by have := (hnu j hj).1; omega, (hnu j hj).2⟩) (show 2 * i + 1 < ma by omega) (show F c < 8 by omega)
    have htc : F_X0_isToCome (some 170) (nI c) (mk S I L R n) = some (b2i (decide (f (15 + 7 * c) = 0)), mk S I L R n) := by
      rw [c_isToCome hb hC (by rw [hI]; exact hV.2.1) hcC, hI]
    have ebit : ((nI pk >>> (nI c &&& 31)) &&& (1 : Int32) = 1) ↔ frX (qX f F (lnv nu)) i q c ≠ -1 := by
      have := hasB_nI (v := pk) (l := c) (by omega)
      unfold hasB at this
      rw [hbit c (by omega), decide_eq_decide] at this
      exact this
    have hv1 : vlX (qX f F (lnv nu)) (i + 1) q = nwX (qX f F (lnv nu)) i q c := by rw [vlX, hv, Bool.true_and, hc]
    have hnw : nwX (qX f F (lnv nu)) i q c = (decide (f (15 + 7 * c) = 0) && decide (F c = lnv nu (2 * i) ∨ F c = lnv nu (2 * i + 1)) && decide (frX (qX f F (lnv nu)) i q c = -1)) := rfl
    have bad : nwX (qX f F (lnv nu)) i q c = false → vlX (qX f F (lnv nu)) m q = false := fun h => by
      have := vlX_no (Q := qX f F (lnv nu)) (i := i + 1) (p := q) (by rw [hv1]; exact h) r
      rw [show i + 1 + r = m by omega] at this
      exact this
    have stop : nwX (qX f F (lnv nu)) i q c = false → ∃ I' pk', F_X2_leadPicks_95 (mk S I L R n) = some (nI pk', mk S I' L R n) ∧ (vlX (qX f F (lnv nu)) m q = true → pk' < 2 ^ 10 ∧ (∀ c, c < 10 → pk'.testBit c = decide (frX (qX f F (lnv nu)) m q c ≠ -1)) ∧ ∀ c, c < C → I' 154 c = cmX P F T A (frX (qX f F (lnv nu)) m q) c) ∧ (vlX (qX f F (lnv nu)) m q = false → pk' = 0) ∧ ∀ x, x ≠ 154 → I' x = I x := fun h =>
      ⟨I, 0, rfl, fun q => (by rw [bad h] at q; cases q), fun _ => rfl, fun _ _ => rfl⟩
    simp only [F_X2_leadPicks_21]
    rw [if_neg (nI_ge (by omega) (by omega)), if_neg (show ¬ (3 : Int32) ≤ nI i from nI_ge (b := 3) (by omega) (by omega)), gr_146_3 hs, Option.bind_some, show aI (mk S I L R n) (some 155) 0 (nI i) = some (I 155 i) from mk_aJ0 (S_155 hs) (by omega) (by decide), Option.bind_some, hpi i him, ← hc, bd_v hb, fc_0 hb hV hI hcC, b2_some, hoth, b2_some, bd_v hb, htc, b2_some]
    by_cases z1 : f (15 + 7 * c) = 0
    · rw [decide_eq_true z1, if_neg (show ¬ b2i true = 0 by decide)]
      by_cases z2 : frX (qX f F (lnv nu)) i q c = -1
      · rw [if_neg (fun h => (ebit.mp h) z2)]
        by_cases z3 : F c = lnv nu (2 * i) ∨ F c = lnv nu (2 * i + 1)
        · have hok : nwX (qX f F (lnv nu)) i q c = true := by rw [hnw, decide_eq_true z1, decide_eq_true z2, decide_eq_true z3]; rfl
          obtain ⟨o, ho⟩ : ∃ o, o = (qX f F (lnv nu)).2 i c := ⟨_, rfl⟩
          have eo : (if F c = lnv nu (2 * i) then nI (lnv nu (2 * i + 1)) else if F c = lnv nu (2 * i + 1) then nI (lnv nu (2 * i)) else -1) = nI o := by
            rw [ho]
            show _ = nI (if F c = lnv nu (2 * i) then lnv nu (2 * i + 1) else lnv nu (2 * i))
            by_cases y : F c = lnv nu (2 * i)
            · rw [if_pos y, if_pos y]
            · rw [if_neg y, if_neg y, if_pos (z3.resolve_left y)]
          have ho8 : o < 8 := by
            rw [ho]
            show (if F c = lnv nu (2 * i) then lnv nu (2 * i + 1) else lnv nu (2 * i)) < 8
            have n0 := (hnu (2 * i) (by omega)).1
            have n1 := (hnu (2 * i + 1) (by omega)).1
            split <;> omega
          have efr : frX (qX f F (lnv nu)) (i + 1) q = up1 (frX (qX f F (lnv nu)) i q) c (nI o) := by rw [frX, ← hc, ho]
          have h10 : nI c < (10 : Int32) := nI_lt (b := 10) (by omega) (by omega)
          rw [eo, if_neg (nI_nm1 (by omega)), if_neg (nI_pos (by omega)), if_pos h10, gr_146_2 hs, Option.bind_some, show sI (mk S I L R n) (some 154) 0 (nI c) (nI o) = some (mk S (up2 I 154 c (nI o)) L R n) from mk_sJ0 (S_154 hs) (by omega) (by decide) (by decide), Option.bind_some, sh1 (show c < 31 by omega), nI_or, nI_1]
          obtain ⟨I', pk', y1, y2, y3, y4⟩ := ih g (i + 1) (pk ||| 2 ^ c) (up2 I 154 c (nI o)) (by omega) (by omega) (fun j hj => by rw [up2_ne _ _ _ (by decide)]; exact hpi j hj) (by rw [up2_ne _ _ _ (by decide)]; exact hI) (by rw [up2_ne _ _ _ (by omega)]; exact htr) (by rw [hv1]; exact hok) (Nat.or_lt_two_pow hpk (Nat.pow_lt_pow_right (by decide) (by omega))) (fun d hd => by
            rw [or_bit, hbit d hd, efr]
            by_cases e : d = c
            · rw [e, up1_self, decide_eq_true rfl, Bool.or_true, decide_eq_true (nI_nm1 (by omega))]
            · rw [up1_ne _ _ e, show decide (c = d) = false from decide_eq_false (fun z => e z.symm), Bool.or_false]) (fun d hd => by
            rw [up2_row, efr]
            unfold cmX
            by_cases e : d = c
            · rw [e, up1_self, up1_self, if_neg (nI_nm1 (by omega))]
            · rw [up1_ne _ _ e, up1_ne _ _ e]; exact hcm d hd)
          exact ⟨I', pk', y1, y2, y3, fun x hx => by rw [y4 x hx, up2_ne _ _ _ hx]⟩
        · have z4 : ¬ F c = lnv nu (2 * i) := fun q => z3 (.inl q)
          have z5 : ¬ F c = lnv nu (2 * i + 1) := fun q => z3 (.inr q)
          rw [if_neg z4, if_neg z5, if_pos rfl]
          exact stop (by rw [hnw, decide_eq_false z3, Bool.and_false, Bool.false_and])
      · rw [if_pos (ebit.mpr z2)]
        exact stop (by rw [hnw, decide_eq_false z2, Bool.and_false])
    · rw [decide_eq_false z1, if_pos (show b2i false = 0 from rfl)]
      exact stop (by rw [hnw, decide_eq_false z1, Bool.false_and, Bool.false_and])
theorem c_dig (hs : St S R) {k98 : Option Nat → Option Nat → Option Nat → Int32 → Int32 → Int32 → Int32 → MH → Option MH} {b tr : Option Nat} {E X : Int32} {x : Nat} (hx : x < 100000) (hC0 : 0 < C) (hC : C ≤ 10) (hm : m ≤ 3) : ∀ (j g : Nat) (I : mkI), j ≤ m → j < g → ∃ I' g' y, F_X2_seek_119 k98 g (some 146) b tr (nI C) (nI m) E X (nI (x / C ^ (m - j))) (nI j - 1) (mk S I L R n) = F_X2_seek_119 k98 (g' + 1) (some 146) b tr (nI C) (nI m) E X y (-1) (mk S I' L R n) ∧ (∀ i, i < j → I' 155 i = nI (dgX m C x i)) ∧ (∀ i, j ≤ i → I' 155 i = I 155 i) ∧ ∀ z, z ≠ 155 → I' z = I z
  | 0, g, I, _, hg => by
    obtain ⟨g, rfl⟩ : ∃ y, g = y + 1 := ⟨g - 1, by omega⟩
    exact ⟨I, g, _, rfl, fun i h => absurd h (Nat.not_lt_zero _), fun _ _ => rfl, fun _ _ => rfl⟩
  | j + 1, g, I, hj, hg => by
    obtain ⟨g, rfl⟩ : ∃ y, g = y + 1 := ⟨g - 1, by omega⟩
    obtain ⟨y, hy⟩ : ∃ y, y = x / C ^ (m - (j + 1)) := ⟨_, rfl⟩
    have hy5 : y < 100000 := by rw [hy]; exact Nat.lt_of_le_of_lt (Nat.div_le_self _ _) hx
    have ey : y / C = x / C ^ (m - j) := by
      rw [hy, Nat.div_div_eq_div_mul, ← Nat.pow_succ, show (m - (j + 1)).succ = m - j by omega]
    obtain ⟨I', g', y', q1, q2, q3, q4⟩ := c_dig hs (k98 := k98) (b := b) (tr := tr) (E := E) (X := X) hx hC0 hC hm j g (up2 I 155 j (nI (y % C))) (by omega) (by omega)
    refine ⟨I', g', y', ?_, fun i hi => ?_, fun i hi => ?_, fun z hz => by rw [q4 z hz, up2_ne _ _ _ hz]⟩
    · rw [← q1, ← hy, nI_sub1 (show 1 ≤ j + 1 by omega), show j + 1 - 1 = j by omega]
      simp only [F_X2_seek_119]
      have n0 : ¬ nI C = 0 := fun z => by have := (nI_eq (b := 0) (by omega) (by omega)).mp z; omega
      rw [if_neg (nI_pos (by omega)), gr_146_3 hs, Option.bind_some, if_neg n0, pk_rem (a := y) (d := C) (by omega) (by omega) (by omega), show sI (mk S I L R n) (some 155) 0 (nI j) (nI (y % C)) = some (mk S (up2 I 155 j (nI (y % C))) L R n) from mk_sJ0 (S_155 hs) (by omega) (by decide) (by decide), Option.bind_some, if_neg n0, nI_div (by omega) (by omega) hC0, ey, show nI j + (-1 : Int32) = nI j - 1 from (Int32.sub_eq_add_neg _ _).symm]
    · by_cases e : i = j
      · rw [e, q3 j (Nat.le_refl _), up2_self, hy]
        show nI (x / C ^ (m - (j + 1)) % C) = nI (x / C ^ (m - 1 - j) % C)
        rw [show m - (j + 1) = m - 1 - j by omega]
      · exact q2 i (by omega)
    · rw [q3 i (by omega), up2_row, up1_ne _ _ (by omega)]
end CW
