/-! rules, rule, ask -/
section RU
variable {S : mkS} {I : mkI} {L : mkL} {R : mkR} {n : Nat × Nat} {tb : Nat → Nat} {tn : Nat} {fk fp : Int32} {w : WD} {tr : TR} {im : IM} {k : Nat}
theorem x_tray (hC : InvC tb tn fk fp w tr im k S I L R n) {t so ma : Nat} {nu : Nat → Int64} (ht : t < 4) (hq : tr t = some (so, ma, nu)) : ma ≤ 30 ∧ I (189 + 2 * t) 2 = nI ma ∧ ∀ j, j < ma → L (190 + 2 * t) j = nu j := by
  have := hC.2.2.2.2.1 t ht
  rw [hq] at this
  exact ⟨this.2.1, this.2.2.2.1, this.2.2.2.2⟩
theorem c_linesL (hC : InvC tb tn fk fp w tr im (k + 1) S I L R n) (hP : PlOK w.1) {t so ma : Nat} {nu : Nat → Int64} (ht : t < 4) (hq : tr t = some (so, ma, nu)) : ∀ (r g i : Nat), i + r = ma → r < g → F_X11_needLinesIn_2 g (some 128) (some (189 + 2 * t)) (nI i) (mk S I L R n) = if allL (pW w.1) nu r i = true then some (.inr (), mk S I L R n) else thr "java/lang/IllegalArgumentException" S I L R n := by
  have hs := hC.1.1
  obtain ⟨hm, h2, hl⟩ := x_tray hC ht hq
  obtain ⟨hbd, ⟨p, hpl, hp⟩, -⟩ := id hC.2.2.2.1
  intro r
  induction r with
  | zero =>
    intro g i hi hg
    obtain ⟨g, rfl⟩ : ∃ y, g = y + 1 := ⟨g - 1, by omega⟩
    simp only [F_X11_needLinesIn_2]
    rw [tr_v hs ht, c_many hs ht hm h2, b2_some, if_pos (nI_le (by omega) (by omega))]
    rfl
  | succ r ih =>
    intro g i hi hg
    obtain ⟨g, rfl⟩ : ∃ y, g = y + 1 := ⟨g - 1, by omega⟩
    have ih' := ih g (i + 1) (by omega) (by omega)
    simp only [F_X11_needLinesIn_2, F_X11_needLinesIn_40]
    rw [tr_v hs ht, c_many hs ht hm h2, b2_some, if_neg (nI_ge (by omega) (by omega)), tr_v hs ht, c_at hs ht hm h2 (by omega), b2_some, tr_v hs ht, c_at hs ht hm h2 (by omega), b2_some, x_bd hC, Option.bind_some, bd_p hbd hpl, Option.bind_some, pl_0 hp, Option.bind_some, nI_1, ih', hC.thr, hl i (by omega), lnL_if hP.1 hP.2.1, allL]
    by_cases e : lnL (pW w.1) (nu i) = true
    · rw [if_pos e, e, Bool.true_and]
    · rw [if_neg e, if_neg (fun q => e (by rw [Bool.and_eq_true] at q; exact q.1))]
      rfl
theorem x_threes (hC : InvC tb tn fk fp w tr im (k + 1) S I L R n) (hP : PlOK w.1) {t so ma : Nat} {nu : Nat → Int64} (ht : t < 4) (hq : tr t = some (so, ma, nu)) : F_X11_needThrees (some 128) (some (189 + 2 * t)) (mk S I L R n) = if r3 (pW w.1) ma nu = true then some (.inr (), mk S I L R n) else thr "java/lang/IllegalArgumentException" S I L R n := by
  have hs := hC.1.1
  obtain ⟨hm, h2, hl⟩ := x_tray hC ht hq
  have e5 : wI (nI (ma / 3)) 1 5 = (decide (1 ≤ ma / 3) && decide (ma / 3 ≤ 5)) := wI_n (lo := 1) (hi := 5) (by omega) (by decide) (by decide)
  have ed : nI ma / 3 = nI (ma / 3) := nI_div (b := 3) (by omega) (by decide) (by decide)
  unfold F_X11_needThrees r3
  rw [tr_v hs ht, c_many hs ht hm h2, b2_some, rem3 (by omega)]
  by_cases e : ma % 3 = 0
  · rw [e, if_pos (by decide), tr_v hs ht, c_many hs ht hm h2, b2_some, ed, x_within hC, e5]
    have e1 : decide (1 ≤ ma / 3) = decide (3 ≤ ma) := by rw [decide_eq_decide]; omega
    have e2 : decide (ma / 3 ≤ 5) = decide (ma ≤ 15) := by rw [decide_eq_decide]; omega
    rw [e1, e2, decide_eq_true (show (0 : Nat) = 0 by rfl), Bool.true_and]
    by_cases z : (decide (3 ≤ ma) && decide (ma ≤ 15)) = true
    · rw [if_pos z, b3_some, z, Bool.true_and, cv_128 hs]
      unfold F_X11_needLinesIn
      rw [show F_X11_needLinesIn_2 mm_N (some 128) (some (189 + 2 * t)) 0 (mk S I L R n) = _ from c_linesL hC hP ht hq ma mm_N 0 (by omega) (by show ma < 1000000; omega)]
      by_cases y : allL (pW w.1) nu ma 0 = true
      · rw [if_pos y, b3_some]
      · rw [if_neg y, b3_thr2]
    · rw [if_neg z, b3_thr2, if_neg (fun q => z (by rw [Bool.and_eq_true] at q; exact q.1))]
  · rw [if_neg (show ¬ nI (ma % 3) = 0 from fun q => e ((nI_eq (b := 0) (by omega) (by omega)).mp q)), hC.thr, decide_eq_false e, Bool.false_and, if_neg Bool.false_ne_true]
    rfl
theorem c_byRule (hC : InvC tb tn fk fp w tr im k S I L R n) (hP : PlOK w.1) {r a b : Nat} (hr : r < 80) (ha : a < 8) (hb : b < 8) : F_X11_byRule (some 128) (nI r) (nI a) (nI b) (mk S I L R n) = some (nI ((r / 10 * a + b + r % 10) % pW w.1), mk S I L R n) := by
  obtain ⟨hbd, ⟨p, hpl, hp⟩, -⟩ := hC.2.2.2.1
  have h1 := hP.1
  have h2 := hP.2.1
  have hm : r / 10 * a ≤ 8 * 8 := Nat.mul_le_mul (by omega) (by omega)
  unfold F_X11_byRule F_X11_byRule_37
  rw [x_bd hC, Option.bind_some, bd_p hbd hpl, Option.bind_some, pl_0 hp, Option.bind_some, if_neg (show ¬ nI (pW w.1) ≤ 0 from ge_wide (b := 0) (by omega) (by omega)), if_neg (show ¬ nI (pW w.1) = 0 from fun e => absurd ((nI_eq (b := 0) (by omega) (by omega)).mp e) (by omega)), nI_rem10 r (by omega), show nI r / 10 = nI (r / 10) from nI_div (b := 10) (by omega) (by decide) (by decide), nI_mul9, nI_add, nI_add, pk_rem (by omega) (by omega) (by omega)]
theorem c_explL (hC : InvC tb tn fk fp w tr im k S I L R n) (hP : PlOK w.1) {t so ma r : Nat} {nu : Nat → Int64} (ht : t < 4) (hq : tr t = some (so, ma, nu)) (h3 : r3 (pW w.1) ma nu = true) (hr : r < 80) : ∀ (z g i : Nat), i + 3 * z = ma → z < g → F_X11_explains_32 g (some 128) (nI r) (some (189 + 2 * t)) (nI i) (mk S I L R n) = some (b2i (rexp (pW w.1) (lnv nu) (r / 10) (r % 10) z i), mk S I L R n) := by
  have hs := hC.1.1
  have h2 := hP.2.1
  obtain ⟨hm, hmm, hl⟩ := x_tray hC ht hq
  obtain ⟨-, -, -, hn⟩ := r3_d hP h3
  intro z
  induction z with
  | zero =>
    intro g i hi hg
    obtain ⟨g, rfl⟩ : ∃ y, g = y + 1 := ⟨g - 1, by omega⟩
    simp only [F_X11_explains_32]
    rw [tr_v hs ht, c_many hs ht hm hmm, b2_some, show nI i + 2 = nI (i + 2) from nI_add i 2, if_pos (nI_le (by omega) (by omega)), rZ_1]
    rfl
  | succ z ih =>
    intro g i hi hg
    obtain ⟨g, rfl⟩ : ∃ y, g = y + 1 := ⟨g - 1, by omega⟩
    obtain ⟨a1, a2⟩ := hn i (by omega)
    obtain ⟨b1, b2⟩ := hn (i + 1) (by omega)
    obtain ⟨d1, d2⟩ := hn (i + 2) (by omega)
    have hml : (r / 10 * lnv nu i + lnv nu (i + 1) + r % 10) % pW w.1 < pW w.1 := Nat.mod_lt _ (by have := hP.1; omega)
    simp only [F_X11_explains_32]
    rw [tr_v hs ht, c_many hs ht hm hmm, b2_some, show nI i + 2 = nI (i + 2) from nI_add i 2, if_neg (nI_ge (by omega) (by omega)), tr_v hs ht, c_at hs ht hm hmm (by omega), b2_some, nI_1, tr_v hs ht, c_at hs ht hm hmm (by omega), b2_some, hl i (by omega), hl (i + 1) (by omega), a2, b2, Int32.toInt32_toInt64, Int32.toInt32_toInt64, cv_128 hs, c_byRule hC hP hr (by omega) (by omega), b2_some, tr_v hs ht, c_at hs ht hm hmm (by omega), b2_some, hl (i + 2) (by omega), d2, nL_nI (by omega), nL_nI (by omega), nL_cmp (by omega) (by omega)]
    by_cases e : (r / 10 * lnv nu i + lnv nu (i + 1) + r % 10) % pW w.1 = lnv nu (i + 2)
    · rw [if_neg (show ¬ lnv nu (i + 2) < (r / 10 * lnv nu i + lnv nu (i + 1) + r % 10) % pW w.1 by omega), if_pos e, if_pos rfl, show nI i + 3 = nI (i + 3) from nI_add i 3, ih g (i + 3) (by omega) (by omega)]
      unfold rexp
      rw [decide_eq_true e, Bool.true_and]
      cases z <;> rfl
    · have : ¬ (if lnv nu (i + 2) < (r / 10 * lnv nu i + lnv nu (i + 1) + r % 10) % pW w.1 then (1 : Int32) else if (r / 10 * lnv nu i + lnv nu (i + 1) + r % 10) % pW w.1 = lnv nu (i + 2) then 0 else -1) = 0 := by
        rw [if_neg e]
        by_cases e2 : lnv nu (i + 2) < (r / 10 * lnv nu i + lnv nu (i + 1) + r % 10) % pW w.1
        · rw [if_pos e2]; decide
        · rw [if_neg e2]; decide
      rw [if_neg this, rZ_0]
      unfold rexp
      rw [decide_eq_false e, Bool.false_and]
theorem c_explains (hC : InvC tb tn fk fp w tr im k S I L R n) (hP : PlOK w.1) {t so ma r : Nat} {nu : Nat → Int64} (ht : t < 4) (hq : tr t = some (so, ma, nu)) (h3 : r3 (pW w.1) ma nu = true) (hr : r < 80) : F_X11_explains (some 128) (nI r) (some (189 + 2 * t)) (mk S I L R n) = some (b2i (rP (pW w.1) (lnv nu) (ma / 3) r), mk S I L R n) := by
  obtain ⟨hbd, ⟨p, hpl, hp⟩, -⟩ := id hC.2.2.2.1
  have h2 := hP.2.1
  have hmd := (r3_d hP h3).1
  unfold F_X11_explains F_X11_explains_27 rP
  rw [x_bd hC, Option.bind_some, bd_p hbd hpl, Option.bind_some, pl_0 hp, Option.bind_some, nI_rem10 r (by omega), show nI r / 10 = nI (r / 10) from nI_div (b := 10) (by omega) (by decide) (by decide)]
  by_cases e : r / 10 < pW w.1
  · rw [if_neg (nI_ge e (by omega))]
    by_cases e2 : r % 10 < pW w.1
    · rw [if_pos (nI_lt e2 (by omega)), decide_eq_true e, decide_eq_true e2, Bool.true_and, Bool.true_and]
      exact c_explL hC hP ht hq h3 hr (ma / 3) mm_N 0 (by omega) (by show ma / 3 < 1000000; have := (r3_d hP h3).2.1; omega)
    · rw [if_neg (nI_nlt (by omega) (by omega)), rZ_0, decide_eq_false e2, Bool.false_and, Bool.and_false]
  · rw [if_pos (nI_le (by omega) (by omega)), rZ_0, decide_eq_false e, Bool.false_and]
theorem c_rulesL (hC : InvC tb tn fk fp w tr im k S I L R n) (hP : PlOK w.1) {t so ma : Nat} {nu : Nat → Int64} (ht : t < 4) (hq : tr t = some (so, ma, nu)) (h3 : r3 (pW w.1) ma nu = true) : ∀ (z g r : Nat), r + z = 80 → z < g → F_X11_rules_16 g (some 128) (some (189 + 2 * t)) (nI (rF (pW w.1) (lnv nu) (ma / 3) r).length) (nI r) (mk S I L R n) = some (.inr (nI (rF (pW w.1) (lnv nu) (ma / 3) 80).length), mk S I L R n) := by
  have hs := hC.1.1
  intro z
  induction z with
  | zero =>
    intro g r hr hg
    obtain ⟨g, rfl⟩ : ∃ y, g = y + 1 := ⟨g - 1, by omega⟩
    have : r = 80 := by omega
    subst this
    simp only [F_X11_rules_16]
    rw [if_pos (by decide)]
  | succ z ih =>
    intro g r hr hg
    obtain ⟨g, rfl⟩ : ∃ y, g = y + 1 := ⟨g - 1, by omega⟩
    have ih' := ih g (r + 1) (by omega) (by omega)
    rw [rF_s, List.length_append] at ih'
    simp only [F_X11_rules_16, F_X11_rules_36]
    rw [if_neg (ge_li 80 (by omega) (by decide)), cv_128 hs, c_explains hC hP ht hq h3 (by omega), b2_some]
    by_cases e : rP (pW w.1) (lnv nu) (ma / 3) r = true
    · rw [b2i_e e, if_neg (by decide), nI_1, nI_1]
      rw [if_pos e] at ih'
      exact ih'
    · rw [b2i_ne e, if_pos rfl, nI_1]
      rw [if_neg e] at ih'
      exact ih'
theorem c_ruleL (hC : InvC tb tn fk fp w tr im k S I L R n) (hP : PlOK w.1) {t so ma kk : Nat} {nu : Nat → Int64} (ht : t < 4) (hq : tr t = some (so, ma, nu)) (h3 : r3 (pW w.1) ma nu = true) (hk : kk < 2147483648) : ∀ (z g r : Nat), r + z = 80 → z < g → (rF (pW w.1) (lnv nu) (ma / 3) r).length ≤ kk → (rF (pW w.1) (lnv nu) (ma / 3) r).length ≤ r → F_X11_rule_32 g (some 128) (nI kk) (some (189 + 2 * t)) (nI (rF (pW w.1) (lnv nu) (ma / 3) r).length) (nI r) (mk S I L R n) = some (.inr (if kk < (rF (pW w.1) (lnv nu) (ma / 3) 80).length then nI ((rF (pW w.1) (lnv nu) (ma / 3) 80).getD kk 0) else -1), mk S I L R n) := by
  have hs := hC.1.1
  intro z
  induction z with
  | zero =>
    intro g r hr hg hle _
    obtain ⟨g, rfl⟩ : ∃ y, g = y + 1 := ⟨g - 1, by omega⟩
    have : r = 80 := by omega
    subst this
    simp only [F_X11_rule_32]
    rw [if_pos (by decide), if_neg (by omega)]
  | succ z ih =>
    intro g r hr hg hle hle2
    obtain ⟨g, rfl⟩ : ∃ y, g = y + 1 := ⟨g - 1, by omega⟩
    have ih' := ih g (r + 1) (by omega) (by omega)
    rw [rF_s, List.length_append] at ih'
    simp only [F_X11_rule_32, F_X11_rule_61]
    rw [if_neg (ge_li 80 (by omega) (by decide)), cv_128 hs, c_explains hC hP ht hq h3 (by omega), b2_some]
    by_cases e : rP (pW w.1) (lnv nu) (ma / 3) r = true
    · rw [if_pos e] at ih'
      rw [b2i_e e, if_neg (by decide)]
      by_cases y : (rF (pW w.1) (lnv nu) (ma / 3) r).length = kk
      · rw [if_pos (by rw [y])]
        have h80 : rF (pW w.1) (lnv nu) (ma / 3) 80 = rF (pW w.1) (lnv nu) (ma / 3) r ++ r :: rQ (pW w.1) (lnv nu) (ma / 3) (r + 1) z := by
          rw [show 80 = r + (z + 1) by omega, rF_rQ, rQ_s, if_pos e]
        rw [h80, if_pos (by rw [List.length_append, List.length_cons]; omega), ← y]
        simp [List.getD]
      · rw [if_neg (fun q => y ((nI_eq (by omega) hk).mp q)), nI_1, nI_1]
        exact ih' (by rw [List.length_singleton]; omega) (by rw [List.length_singleton]; omega)
    · rw [if_neg e] at ih'
      rw [b2i_ne e, if_pos rfl, nI_1]
      exact ih' (by rw [List.length_nil]; omega) (by rw [List.length_nil]; omega)
theorem c_mostL (hP : PlOK w.1) {t so ma : Nat} {nu : Nat → Int64} (ht : t < 4) (hq : tr t = some (so, ma, nu)) (h3 : r3 (pW w.1) ma nu = true) {c C F T : Nat} (hCC : C ≤ 10) (hc : c < C) (hF : F < pW w.1) (hT : T < pW w.1) : ∀ (z g r : Nat) (I : mkI) (f : Nat → Nat) (m : Nat), r + z = 80 → z < g → InvC tb tn fk fp w tr im k S I L R n → I 174 1 = nI C → I 174 (11 + 7 * c) = nI F → I 174 (12 + 7 * c) = nI T → (∀ j, j < 8 → I 162 j = nI (f j)) → (∀ j, f j ≤ r) → m ≤ r → ∃ I', F_X11_mostToOneLine_13 g (some 128) (some (189 + 2 * t)) (nI c) (nI m) (nI r) (mk S I L R n) = some (nI (rMost (rcm (pW w.1) F T) (rQ (pW w.1) (lnv nu) (ma / 3) r z) (f, m)).2, mk S I' L R n) ∧ ∀ x, x ≠ 162 → I' x = I x := by
  have h2 := hP.2.1
  intro z
  induction z with
  | zero =>
    intro g r I f m hr hg _ _ _ _ _ _ _
    obtain ⟨g, rfl⟩ : ∃ y, g = y + 1 := ⟨g - 1, by omega⟩
    have : r = 80 := by omega
    subst this
    refine ⟨I, ?_, fun _ _ => rfl⟩
    simp only [F_X11_mostToOneLine_13]
    rw [if_pos (by decide)]
    rfl
  | succ z ih =>
    intro g r I f m hr hg hC hI1 hIF hIT hf hfr hmr
    obtain ⟨g, rfl⟩ : ∃ y, g = y + 1 := ⟨g - 1, by omega⟩
    have hs := hC.1.1
    have hbd := hC.2.2.2.1.1
    rw [rQ_s]
    by_cases e : rP (pW w.1) (lnv nu) (ma / 3) r = true
    · have hy : rcm (pW w.1) F T r < pW w.1 := Nat.mod_lt _ (by have := hP.1; omega)
      obtain ⟨y, hyy⟩ : ∃ y, y = rcm (pW w.1) F T r := ⟨_, rfl⟩
      rw [← hyy] at hy
      have f0 : F_X0_fact (some 170) (nI c) 0 (mk S I L R n) = some (nI F, mk S I L R n) := by
        have := c_fact (n := n) (L := L) (w := 0) hbd hCC hI1 hc (by decide)
        rw [show 11 + 7 * c + 0 = 11 + 7 * c by omega, hIF] at this; exact this
      have f1 : F_X0_fact (some 170) (nI c) 1 (mk S I L R n) = some (nI T, mk S I L R n) := by
        have := c_fact (n := n) (L := L) (w := 1) hbd hCC hI1 hc (by decide)
        rw [show 11 + 7 * c + 1 = 12 + 7 * c by omega, hIT] at this; exact this
      have hby : F_X11_byRule (some 128) (nI r) (nI F) (nI T) (mk S I L R n) = some (nI y, mk S I L R n) := by
        rw [c_byRule hC hP (by omega) (by omega) (by omega), hyy]; rfl
      have hfy := hfr y
      obtain ⟨I', q1, q2⟩ := ih g (r + 1) (up2 I 162 y (nI (f y + 1))) (fun j => if j = y then f j + 1 else f j) (max m (f y + 1)) (by omega) (by omega) (hC.kS (fun x hx _ => up2_ne _ _ _ (fun q => hx (by rw [q]; unfold scr; decide))) (fun _ _ => rfl) ⟨rfl, rfl⟩) (by rw [up2_ne _ _ _ (by decide)]; exact hI1) (by rw [up2_ne _ _ _ (by decide)]; exact hIF) (by rw [up2_ne _ _ _ (by decide)]; exact hIT) (fun j hj => by
          rw [up2_row]
          by_cases ej : j = y
          · subst ej; rw [up1_self, if_pos rfl]
          · rw [up1_ne _ _ ej, if_neg ej]; exact hf j hj) (fun j => by show (if j = y then f j + 1 else f j) ≤ r + 1; have := hfr j; split <;> omega) (by omega)
      refine ⟨I', ?_, fun x hx => by rw [q2 x hx, up2_ne _ _ _ hx]⟩
      simp only [F_X11_mostToOneLine_13, F_X11_mostToOneLine_91]
      rw [if_neg (ge_li 80 (by omega) (by decide)), cv_128 hs, c_explains hC hP ht hq h3 (by omega), b2_some, b2i_e e, if_neg (by decide), x_bd hC, Option.bind_some, bd_v hbd, f0, b2_some, x_bd hC, Option.bind_some, bd_v hbd, f1, b2_some, cv_128 hs, hby, b2_some, if_neg (nI_pos (by omega)), if_neg (ge_li 8 (by omega) (by decide)), gr_128_15 hs, Option.bind_some, ai_162 hs (by omega), Option.bind_some, hf y (by omega), nI_1, si_162 hs (by omega), Option.bind_some, gr_128_15 hs, Option.bind_some, ai_162 hs (by omega), Option.bind_some, up2_self, mxI_nI (by omega) (by omega), nI_1, if_pos e]
      rw [show rMost (rcm (pW w.1) F T) (r :: rQ (pW w.1) (lnv nu) (ma / 3) (r + 1) z) (f, m) = rMost (rcm (pW w.1) F T) (rQ (pW w.1) (lnv nu) (ma / 3) (r + 1) z) (fun j => if j = y then f j + 1 else f j, max m (f y + 1)) by rw [hyy]; rfl]
      exact q1
    · obtain ⟨I', q1, q2⟩ := ih g (r + 1) I f m (by omega) (by omega) hC hI1 hIF hIT hf (fun j => by have := hfr j; omega) (by omega)
      refine ⟨I', ?_, q2⟩
      simp only [F_X11_mostToOneLine_13, F_X11_mostToOneLine_91]
      rw [if_neg (ge_li 80 (by omega) (by decide)), cv_128 hs, c_explains hC hP ht hq h3 (by omega), b2_some, b2i_ne e, if_pos rfl, nI_1, if_neg e]
      exact q1
def moC (W : Nat) (l : Nat → Nat) (q : Nat) (F T : Nat → Nat) (c : Nat) : Nat := (rMost (rcm W (F c) (T c)) (rF W l q 80) (fun _ => 0, 0)).2
theorem moC_ok {W : Nat} (hW : W ≤ 8) (l : Nat → Nat) (q : Nat) (F T : Nat → Nat) (c : Nat) : moC W l q F T c ≤ 64 ∧ (rF W l q 80 = [] → moC W l q F T c = 0) ∧ (rF W l q 80 ≠ [] → 1 ≤ moC W l q F T c) := by
  have h := rMost_ok (rcm W (F c) (T c)) (rF W l q 80) (fun _ => 0, 0) 0 (fun _ => Nat.le_refl _) (Nat.le_refl _)
  have h2 := rF_len (q := q) (l := l) hW 8 0 (by omega) (by omega)
  have h3 : (rF W l q (10 * 8 + 0)) = rF W l q 80 := rfl
  rw [h3] at h2
  unfold moC
  exact ⟨by omega, fun e => by rw [e]; rfl, h.2.2⟩
theorem c_most (hC : InvC tb tn fk fp w tr im k S I L R n) (hP : PlOK w.1) {t so ma : Nat} {nu : Nat → Int64} (ht : t < 4) (hq : tr t = some (so, ma, nu)) (h3 : r3 (pW w.1) ma nu = true) {c C : Nat} {F T : Nat → Nat} (hCC : C ≤ 10) (hc : c < C) (hF : F c < pW w.1) (hT : T c < pW w.1) (hI1 : I 174 1 = nI C) (hIF : I 174 (11 + 7 * c) = nI (F c)) (hIT : I 174 (12 + 7 * c) = nI (T c)) : ∃ I', F_X11_mostToOneLine (some 128) (some (189 + 2 * t)) (nI c) (mk S I L R n) = some (nI (moC (pW w.1) (lnv nu) (ma / 3) F T c), mk S I' L R n) ∧ ∀ x, x ≠ 162 → I' x = I x := by
  have hs := hC.1.1
  obtain ⟨I1, e1⟩ : ∃ I1, I1 = up1 I 162 (fun j => if 0 ≤ j ∧ j < 8 then (0 : Int32) else I 162 j) := ⟨_, rfl⟩
  have k1 : ∀ x, x ≠ 162 → I1 x = I x := fun x hx => by rw [e1, up1_ne _ _ hx]
  obtain ⟨I', q1, q2⟩ := c_mostL (n := n) (L := L) (R := R) (S := S) (k := k) hP ht hq h3 hCC hc hF hT 80 mm_N 0 I1 (fun _ => 0) 0 (by omega) (by unfold mm_N; decide) (hC.kS (fun x hx _ => k1 x (fun q => hx (by rw [q]; unfold scr; decide))) (fun _ _ => rfl) ⟨rfl, rfl⟩) (by rw [k1 _ (by decide)]; exact hI1) (by rw [k1 _ (by decide)]; exact hIF) (by rw [k1 _ (by decide)]; exact hIT) (fun j hj => by rw [e1, up1_self, if_pos ⟨Nat.zero_le _, hj⟩]; rfl) (fun _ => Nat.le_refl _) (Nat.le_refl _)
  refine ⟨I', ?_, fun x hx => by rw [q2 x hx, k1 x hx]⟩
  unfold F_X11_mostToOneLine moC
  rw [gr_128_15 hs, Option.bind_some, c_fill (S_162 hs) (by decide) (by decide), Option.bind_some, ← e1, ← rQ_80]
  exact q1
theorem c_askL (hP : PlOK w.1) {t so ma : Nat} {nu : Nat → Int64} (ht : t < 4) (hq : tr t = some (so, ma, nu)) (h3 : r3 (pW w.1) ma nu = true) {C : Nat} {F T : Nat → Nat} (hCC : C ≤ 10) : ∀ (z g c : Nat) (I : mkI) (b : Int32) (m : Nat) (x4 : Int32), c + z = C → z < g → InvC tb tn fk fp w tr im k S I L R n → I 174 1 = nI C → (∀ d, d < C → F d < pW w.1 ∧ T d < pW w.1 ∧ I 174 (11 + 7 * d) = nI (F d) ∧ I 174 (12 + 7 * d) = nI (T d)) → ((b = -1 ∧ m = 536870912) ∨ (¬ b = -1 ∧ x4 = nI m ∧ m ≤ 64)) → ∃ I', F_X11_ask_19 g (some 128) (some (189 + 2 * t)) b x4 (nI c) (mk S I L R n) = some (.inr (if rF (pW w.1) (lnv nu) (ma / 3) 80 = [] then b else askF (moC (pW w.1) (lnv nu) (ma / 3) F T) z c b m), mk S I' L R n) ∧ ∀ x, x ≠ 162 → I' x = I x := by
  intro z
  induction z with
  | zero =>
    intro g c I b m x4 hc hg hC hI1 _ _
    obtain ⟨g, rfl⟩ : ∃ y, g = y + 1 := ⟨g - 1, by omega⟩
    have hbd := hC.2.2.2.1.1
    refine ⟨I, ?_, fun _ _ => rfl⟩
    simp only [F_X11_ask_19]
    rw [x_bd hC, Option.bind_some, bd_v hbd, c_calls hbd, b2_some, hI1, if_pos (nI_le (by omega) (by omega))]
    unfold askF
    rw [ite_self]
  | succ z ih =>
    intro g c I b m x4 hc hg hC hI1 hIf hb
    obtain ⟨g, rfl⟩ : ∃ y, g = y + 1 := ⟨g - 1, by omega⟩
    have hs := hC.1.1
    have hbd := hC.2.2.2.1.1
    obtain ⟨i1, i2, i3, i4⟩ := hIf c (by omega)
    obtain ⟨I1, p1, p2⟩ := c_most hC hP ht hq h3 (F := F) (T := T) hCC (show c < C by omega) i1 i2 hI1 i3 i4
    obtain ⟨o1, o2, o3⟩ := moC_ok hP.2.1 (lnv nu) (ma / 3) F T c
    have hC1 : InvC tb tn fk fp w tr im k S I1 L R n := hC.kS (fun x hx _ => p2 x (fun q => hx (by rw [q]; unfold scr; decide))) (fun _ _ => rfl) ⟨rfl, rfl⟩
    have kb : I1 174 = I 174 := p2 _ (by decide)
    have step := fun b m x4 => ih g (c + 1) I1 b m x4 (by omega) (by omega) hC1 (by rw [kb]; exact hI1) (fun d hd => by rw [kb]; exact hIf d hd)
    have fin : ∀ (b' : Int32) (m' : Nat) (x4' : Int32), ((b' = -1 ∧ m' = 536870912) ∨ (¬ b' = -1 ∧ x4' = nI m' ∧ m' ≤ 64)) → ∃ I', F_X11_ask_19 g (some 128) (some (189 + 2 * t)) b' x4' (nI (c + 1)) (mk S I1 L R n) = some (.inr (if rF (pW w.1) (lnv nu) (ma / 3) 80 = [] then b' else askF (moC (pW w.1) (lnv nu) (ma / 3) F T) z (c + 1) b' m'), mk S I' L R n) ∧ ∀ x, x ≠ 162 → I' x = I x := fun b' m' x4' h' => by
      obtain ⟨I', q1, q2⟩ := step b' m' x4' h'
      exact ⟨I', q1, fun x hx => by rw [q2 x hx, p2 x hx]⟩
    have head : F_X11_ask_19 (g + 1) (some 128) (some (189 + 2 * t)) b x4 (nI c) (mk S I L R n) = if nI (moC (pW w.1) (lnv nu) (ma / 3) F T c) ≤ 0 then F_X11_ask_19 g (some 128) (some (189 + 2 * t)) b x4 (nI (c + 1)) (mk S I1 L R n) else if b = -1 then F_X11_ask_19 g (some 128) (some (189 + 2 * t)) (nI c) (nI (moC (pW w.1) (lnv nu) (ma / 3) F T c)) (nI (c + 1)) (mk S I1 L R n) else if x4 ≤ nI (moC (pW w.1) (lnv nu) (ma / 3) F T c) then F_X11_ask_19 g (some 128) (some (189 + 2 * t)) b x4 (nI (c + 1)) (mk S I1 L R n) else F_X11_ask_19 g (some 128) (some (189 + 2 * t)) (nI c) (nI (moC (pW w.1) (lnv nu) (ma / 3) F T c)) (nI (c + 1)) (mk S I1 L R n) := by
      simp only [F_X11_ask_19, F_X11_ask_64, F_X11_ask_57]
      rw [x_bd hC, Option.bind_some, bd_v hbd, c_calls hbd, b2_some, hI1, if_neg (nI_ge (by omega) (by omega)), cv_128 hs, p1, b2_some, nI_1]
    rw [head]
    by_cases eE : rF (pW w.1) (lnv nu) (ma / 3) 80 = []
    · rw [o2 eE, if_pos (by decide), if_pos eE]
      obtain ⟨I', q1, q2⟩ := fin b m x4 hb
      rw [if_pos eE] at q1
      exact ⟨I', q1, q2⟩
    · have o4 := o3 eE
      rw [if_neg (show ¬ nI (moC (pW w.1) (lnv nu) (ma / 3) F T c) ≤ 0 from ge_wide (b := 0) (by omega) (by omega)), if_neg eE]
      rcases hb with ⟨b1, b2⟩ | ⟨b1, b2, b3⟩
      · rw [if_pos b1]
        obtain ⟨I', q1, q2⟩ := fin (nI c) (moC (pW w.1) (lnv nu) (ma / 3) F T c) (nI (moC (pW w.1) (lnv nu) (ma / 3) F T c)) (.inr ⟨nI_nm1 (by omega), rfl, o1⟩)
        rw [if_neg eE] at q1
        refine ⟨I', ?_, q2⟩
        unfold askF
        rw [if_pos (show moC (pW w.1) (lnv nu) (ma / 3) F T c < m by omega)]
        exact q1
      · rw [if_neg b1, b2]
        unfold askF
        by_cases y : moC (pW w.1) (lnv nu) (ma / 3) F T c < m
        · rw [if_neg (nI_ge y (by omega)), if_pos y]
          obtain ⟨I', q1, q2⟩ := fin (nI c) (moC (pW w.1) (lnv nu) (ma / 3) F T c) (nI (moC (pW w.1) (lnv nu) (ma / 3) F T c)) (.inr ⟨nI_nm1 (by omega), rfl, o1⟩)
          rw [if_neg eE] at q1
          exact ⟨I', q1, q2⟩
        · rw [if_pos (nI_le (by omega) (by omega)), if_neg y]
          obtain ⟨I', q1, q2⟩ := fin b m (nI m) (.inr ⟨b1, rfl, b3⟩)
          rw [if_neg eE] at q1
          exact ⟨I', q1, q2⟩
end RU
