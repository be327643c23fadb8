/-! both sides packed -/
section PK
variable {Ls : Nat} {xs : Nat → Int32} {tb : Nat → Nat} {tn : Nat} {fk fp : Int32} {w : WD} {tr : TR} {im : IM} {k : Nat} {S S' : mkS} {I I' I'' : mkI} {L L' L'' : mkL} {R R' : mkR} {n n' : Nat × Nat} {c m : MH → Option (Int32 × MH)}
theorem pk_ok {t v : Int32} (hl : Low Ls xs S I R) (hc : c (mk S I L R n) = some (t, mk S' I' L' R' n')) (hv : t = 0 → L' 220 0 = Int32.toInt64 v) (hm : m (mk S' I' L' R' n') = some (v, mk S' I'' L'' R' n')) (h4 : I'' 197 4 = t) (fC : FrC S S' I I' L L' R R') (fR : FrR I' I'' L' L'') (h1 : InvC tb tn fk fp w tr im k S' I' L' R' n') (h2 : InvR tb tn fk fp w tr im I'' L'') (h3 : GOK k w im) : ∃ t v S' I' L' R' n' I'' L'', c (mk S I L R n) = some (t, mk S' I' L' R' n') ∧ (t = 0 → L' 220 0 = Int32.toInt64 v) ∧ m (mk S' I' L' R' n') = some (v, mk S' I'' L'' R' n') ∧ I'' 197 4 = t ∧ L'' 220 0 = L' 220 0 ∧ AllK Ls xs k S' I' I'' L'' R' n' :=
  ⟨t, v, S', I', L', R', n', I'', L'', hc, hv, hm, h4, by rw [(fR 220 (by decide)).2], AllInv.of hl fC fR h1 h2 h3⟩
theorem pk_okP {v : Int32} (hl : Low Ls xs S I R) (hc : c (mk S I L R n) = some (v, mk S' I' L' R' n')) (hm : m (mk S' I' L' R' n') = some (v, mk S' I'' L'' R' n')) (fC : FrC S S' I I' L L' R R') (fR : FrR I' I'' L' L'') (h1 : InvC tb tn fk fp w tr im k S' I' L' R' n') (h2 : InvR tb tn fk fp w tr im I'' L'') (h3 : GOK k w im) : ∃ v S' I' L' R' n' I'' L'', c (mk S I L R n) = some (v, mk S' I' L' R' n') ∧ m (mk S' I' L' R' n') = some (v, mk S' I'' L'' R' n') ∧ AllK Ls xs k S' I' I'' L'' R' n' :=
  ⟨v, S', I', L', R', n', I'', L'', hc, hm, AllInv.of hl fC fR h1 h2 h3⟩
/-- both throw -/
theorem pk_thr {t : Int32} (ht : t ≠ 0) (hl : Low Ls xs S I R) (hC : InvC tb tn fk fp w tr im (k + 1) S I L R n) (hR : InvR tb tn fk fp w tr im I L) (hG : GOK (k + 1) w im) (hc : c (mk S I L R n) = some (t, mk S I L R (n.1 + 1, n.2 + 6))) {v : Int32} (hm : m (mk S I L R (n.1 + 1, n.2 + 6)) = some (v, mk S (up2 I 197 4 t) L R (n.1 + 1, n.2 + 6))) : ∃ t v S' I' L' R' n' I'' L'', c (mk S I L R n) = some (t, mk S' I' L' R' n') ∧ (t = 0 → L' 220 0 = Int32.toInt64 v) ∧ m (mk S' I' L' R' n') = some (v, mk S' I'' L'' R' n') ∧ I'' 197 4 = t ∧ L'' 220 0 = L' 220 0 ∧ AllK Ls xs k S' I' I'' L'' R' n' :=
  pk_ok hl hc (fun h => absurd h ht) hm (up2_self _ _ _ _) FrC.rf (FrR.up (by decide)) hC.exc (hR.m4 t) hG.le
/-- both answer, the class's side as it was but for scratch, the reference's for scratch -/
theorem pk_val {v : Int32} (hl : Low Ls xs S I R) (hC : InvC tb tn fk fp w tr im (k + 1) S I L R n) (hR : InvR tb tn fk fp w tr im I L) (hG : GOK (k + 1) w im) (hc : c (mk S I L R n) = some (0, mk S I' (up2 L 220 0 v.toInt64) R' n)) (kI : ∀ x, ¬ scr x → S (x - 2) ≠ (14, 0) → I' x = I x) (kR : ∀ x, x ≠ 181 → R' x = R x) (kR2 : R' 181 0 = R 181 0 ∧ R' 181 1 = R 181 1) (hm : m (mk S I' (up2 L 220 0 v.toInt64) R' n) = some (v, mk S I'' (up2 L 220 0 v.toInt64) R' n)) (h4 : I'' 197 4 = 0) (fR : ∀ a, a < 197 ∨ 220 ≤ a → I'' a = I' a) (hR' : InvR tb tn fk fp w tr im I' (up2 L 220 0 v.toInt64) → InvR tb tn fk fp w tr im I'' (up2 L 220 0 v.toInt64)) : ∃ t v S' I' L' R' n' I'' L'', c (mk S I L R n) = some (t, mk S' I' L' R' n') ∧ (t = 0 → L' 220 0 = Int32.toInt64 v) ∧ m (mk S' I' L' R' n') = some (v, mk S' I'' L'' R' n') ∧ I'' 197 4 = t ∧ L'' 220 0 = L' 220 0 ∧ AllK Ls xs k S' I' I'' L'' R' n' := by
  have fC : FrC S S I I' L (up2 L 220 0 v.toInt64) R R' := (FrC.kS (L := L) hl hC.1.1 hC.1.2.1 kI kR).out 0 _
  exact pk_ok hl hc (fun _ => up2_self _ _ _ _) hm h4 fC (fun a q => ⟨fR a q, rfl⟩) ((hC.le.kS kI kR kR2).out 0 _) (hR' (hR.ofC fC)) hG.le
end PK
/-- the reference's scratch -/
def scR (I I' : mkI) : Prop := (∀ a, a ≠ 197 → a ≠ 204 → a ≠ 203 → I' a = I a) ∧ ∀ j, j ≠ 4 → I' 197 j = I 197 j
theorem scR.inv {tb : Nat → Nat} {tn : Nat} {fk fp : Int32} {w : WD} {tr : TR} {im : IM} {I I' : mkI} {L : mkL} (h : scR I I') (hR : InvR tb tn fk fp w tr im I L) : InvR tb tn fk fp w tr im I' L := by
  unfold InvR RTr RIm at *
  rw [h.1 202 (by decide) (by decide) (by decide), h.1 198 (by decide) (by decide) (by decide), h.1 205 (by decide) (by decide) (by decide), h.1 217 (by decide) (by decide) (by decide), h.1 218 (by decide) (by decide) (by decide), h.1 201 (by decide) (by decide) (by decide), h.1 200 (by decide) (by decide) (by decide), h.2 6 (by decide), h.2 14 (by decide), h.2 15 (by decide)]
  exact hR
theorem scR.fr {I I' : mkI} (h : scR I I') : ∀ a, a < 197 ∨ 220 ≤ a → I' a = I a := fun a q => h.1 a (by show a ≠ 197; omega) (by show a ≠ 204; omega) (by show a ≠ 203; omega)
theorem scR.m4 {I : mkI} {x : Int32} : scR I (up2 I 197 4 x) := ⟨fun a q _ _ => up2_ne _ _ _ q, fun j q => by rw [up2_row, up1_ne _ _ q]⟩
theorem scR.tr {I I' I'' : mkI} (h : scR I I') (h2 : scR I' I'') : scR I I'' := ⟨fun a q1 q2 q3 => (h2.1 a q1 q2 q3).trans (h.1 a q1 q2 q3), fun j q => (h2.2 j q).trans (h.2 j q)⟩
theorem scR.ofA {I I' : mkI} (h : keepA I I') : scR I I' := ⟨fun a _ q2 q3 => h a q2 q3, fun j _ => by rw [h 197 (by decide) (by decide)]⟩
/-! who speaks with whom -/
def spkL (f : Nat → Int32) (l : Int32) : Nat → Nat → Int32
  | 0, _ => -1
  | r + 1, c => if aBusyP f l c = true then (if f (11 + 7 * c) = l then f (16 + 7 * c) else f (11 + 7 * c)) else spkL f l r (c + 1)
theorem spk_eq {f : Nat → Int32} {l : Int32} : ∀ (r c : Nat), c + r ≤ 1000 → ∀ v, v = fnd (aBusyP f l) r c → spkL f l r c = if v = -1 then -1 else (if f (11 + 7 * v.toNatClampNeg) = l then f (16 + 7 * v.toNatClampNeg) else f (11 + 7 * v.toNatClampNeg))
  | 0, _, _, v, hv => by
    have : v = -1 := hv
    rw [if_pos this]; rfl
  | r + 1, c, h, v, hv => by
    simp only [fnd] at hv
    simp only [spkL]
    by_cases q : aBusyP f l c = true
    · rw [if_pos q] at hv
      have hv2 : ¬ v = -1 := by rw [hv]; exact nI_nm1 (by omega)
      rw [if_pos q, if_neg hv2, hv, nI_clamp (by omega)]
    · rw [if_neg q] at hv
      rw [if_neg q, spk_eq r (c + 1) (by omega) v hv]
theorem fnd_lt {p : Nat → Bool} {r : Nat} (h : ¬ fnd p r 0 = -1) : ∃ k, k < r ∧ p k = true ∧ fnd p r 0 = nI k := by
  rcases fnd_cases p r 0 with ⟨h1, -⟩ | ⟨k, -, h2, h3, h4, -⟩
  · exact absurd h1 h
  · exact ⟨k, by omega, h3, h4⟩
section EZ
variable {S : mkS} {I : mkI} {L : mkL} {R : mkR} {n : Nat × Nat} {b ca co p : Nat} {P : PL}
theorem c_speaksL (hb : BdS S R b ca co) {C : Nat} (hC : C ≤ 10) (h1 : I ca 1 = nI C) (l : Int32) : ∀ (r g c : Nat), c + r = C → r < g → F_X0_speaksWith_2 g (some b) l (nI c) (mk S I L R n) = some (spkL (I ca) l r c, mk S I L R n) := by
  intro r
  induction r with
  | zero =>
    intro g c hc hg
    obtain ⟨g, rfl⟩ : ∃ z, g = z + 1 := ⟨g - 1, by omega⟩
    simp only [F_X0_speaksWith_2]
    rw [bd_v hb, c_calls hb, b2_some, h1, if_pos (nI_le (by omega) (by omega))]
    rfl
  | succ r ih =>
    intro g c hc hg
    obtain ⟨g, rfl⟩ : ∃ z, g = z + 1 := ⟨g - 1, by omega⟩
    have hcC : c < C := by omega
    have f0 : F_X0_fact (some b) (nI c) (0 : Int32) (mk S I L R n) = some (I ca (11 + 7 * c), mk S I L R n) := c_fact (w := 0) hb hC h1 hcC (by decide)
    have f5 : F_X0_fact (some b) (nI c) (5 : Int32) (mk S I L R n) = some (I ca (16 + 7 * c), mk S I L R n) := by
      have := c_fact (n := n) (L := L) (w := 5) hb hC h1 hcC (by decide)
      rw [show 11 + 7 * c + 5 = 16 + 7 * c by omega] at this; exact this
    have ih := ih g (c + 1) (by omega) (by omega)
    have nle : ¬ nI C ≤ nI c := nI_ge (by omega) (by omega)
    simp only [F_X0_speaksWith_2, F_X0_speaksWith_35, F_X0_speaksWith_60, bd_v hb, c_calls hb, b2_some, h1, if_neg nle, c_isOn hb hC h1 hcC, b2i_0, f0, f5, nI_1, ih, spkL, aBusyP]
    by_cases q1 : I ca (15 + 7 * c) = 1 <;> by_cases q2 : I ca (11 + 7 * c) = l <;> by_cases q3 : I ca (16 + 7 * c) = l <;> simp [q1, q2, q3]
theorem c_callOnL (hb : BdS S R b ca co) {C : Nat} (hC : C ≤ 10) (h1 : I ca 1 = nI C) (l : Int32) : ∀ (r g c : Nat), c + r = C → r < g → F_X0_callOn_2 g (some b) l (nI c) (mk S I L R n) = some (fnd (aOnP (I ca) l) r c, mk S I L R n) := by
  intro r
  induction r with
  | zero =>
    intro g c hc hg
    obtain ⟨g, rfl⟩ : ∃ z, g = z + 1 := ⟨g - 1, by omega⟩
    simp only [F_X0_callOn_2]
    rw [bd_v hb, c_calls hb, b2_some, h1, if_pos (nI_le (by omega) (by omega))]
    rfl
  | succ r ih =>
    intro g c hc hg
    obtain ⟨g, rfl⟩ : ∃ z, g = z + 1 := ⟨g - 1, by omega⟩
    have hcC : c < C := by omega
    have f6 : F_X0_fact (some b) (nI c) (6 : Int32) (mk S I L R n) = some (I ca (17 + 7 * c), mk S I L R n) := by
      have := c_fact (n := n) (L := L) (w := 6) hb hC h1 hcC (by decide)
      rw [show 11 + 7 * c + 6 = 17 + 7 * c by omega] at this; exact this
    have ih := ih g (c + 1) (by omega) (by omega)
    have nle : ¬ nI C ≤ nI c := nI_ge (by omega) (by omega)
    simp only [F_X0_callOn_2, F_X0_callOn_31, bd_v hb, c_calls hb, b2_some, h1, if_neg nle, c_isOn hb hC h1 hcC, b2i_0, f6, nI_1, ih, fnd, aOnP]
    by_cases q1 : I ca (15 + 7 * c) = 1 <;> by_cases q2 : I ca (17 + 7 * c) = l <;> simp [q1, q2]
theorem e_isLine2 (hs : St S R) {W : Nat} (hW : W ≤ 1000000) (hK : I 198 1 = nI W) (x : Int32) : F_X12_isLine (some 197) x.toInt64 (mk S I L R n) = some (b2i (isL W x), mk S I L R n) := by
  rw [e_isLine hs, hK, inL_isL hW]
theorem e_isCall2 (hs : St S R) {W : Nat} (hW : W ≤ 1000000) (hK : I 198 7 = nI W) (x : Int32) : F_X12_isCall (some 197) x.toInt64 (mk S I L R n) = some (b2i (isL W x), mk S I L R n) := by
  rw [e_isCall hs, hK, inL_isL hW]
end EZ
/-! fault, line, cord, call, likes, comesTo -/
theorem k_fault (Ls : Nat) (xs : Nat → Int32) (a : Int32) : GoodP Ls xs (F_X11_fault (some 128) a) (F_X12_fault (some 197) a) := by
  intro k S I L R n ⟨hl, tb, tn, fk, fp, w, tr, im, hC, hR, hG⟩
  have hs := hC.1.1
  refine pk_okP (v := if a = 0 then fk else if a = 1 then fp else -1) (I'' := up2 I 197 4 0) (L'' := L) hl ?_ ?_ FrC.rf (FrR.up (by decide)) hC.le (hR.m4 0) hG.le
  · unfold F_X11_fault F_X11_fault_22
    rw [gi_128_3 hs, gi_128_4 hs, hC.2.2.1.1, hC.2.2.1.2]
    by_cases h : a = 0
    · rw [if_pos h, if_pos h]; rfl
    · rw [if_neg h, if_neg h]
      by_cases h2 : a = 1
      · rw [if_pos h2, if_pos h2]; rfl
      · rw [if_neg h2, if_neg h2]
  · unfold F_X12_fault F_X12_fault_29
    rw [pi_197_4 hs, Option.bind_some, gi_197_14 hs, gi_197_15 hs, up2_row, up1_ne _ _ (by decide), up1_ne _ _ (by decide), hR.2.1.1, hR.2.1.2]
    by_cases h : a = 0
    · rw [if_pos h, if_pos h]; rfl
    · rw [if_neg h, if_neg h]
      by_cases h2 : a = 1
      · rw [if_pos h2, if_pos h2]; rfl
      · rw [if_neg h2, if_neg h2]
theorem k_line (Ls : Nat) (xs : Nat → Int32) (a b : Int32) : Good Ls xs (F_L_line (some 128) a b (some 220)) (F_X12_line (some 197) a b) := by
  intro k S I L R n ⟨hl, tb, tn, fk, fp, w, tr, im, hC, hR, hG⟩
  have hs := hC.1.1
  obtain ⟨hb, ⟨p, hpl, hp⟩, hf, -⟩ := id hC.2.2.2.1
  obtain ⟨c1, c2⟩ := x_C hC hG
  obtain ⟨hRP, hRB, -, -⟩ := id hR.2.2.1
  have hP : PlOK w.1 := by obtain ⟨Mx, -, h, -⟩ := hG; exact h.1
  have w2 := hP.2.1
  have hW : I 198 1 = nI (pW w.1) := hRP.2.1
  have RB' : RBoard w.2.1.1 (I 174) (I 198) := hRB.congr hf
  have eL := fun (L : mkL) (n : Nat × Nat) => e_isLine2 (L := L) (n := n) hs (show pW w.1 ≤ 1000000 by omega) hW a
  have eW : ∀ h, F_X12_within b.toInt64 0 2 h = some (b2i (wI b 0 2), h) := fun h => by rw [e_within]; exact congrArg (fun q => some (b2i q, h)) (inL_wI b 0 2)
  have x1 : ∀ (t : Int32) (L : mkL) (n : Nat × Nat), F_X12_line_31 (some 197) a b t (some 197) (mk S I L R n) = if t ≤ 0 then F_X12_line_31 (some 197) a b t (some 197) (mk S I L R n) else some (0, mk S (up2 I 197 4 t) L R n) := by
    intro t L n
    by_cases ht : t ≤ 0
    · rw [if_pos ht]
    · rw [if_neg ht]
      unfold F_X12_line_31
      rw [pi_197_4 hs, Option.bind_some, gi_197_4 hs, Option.bind_some, up2_self, if_neg ht]
  obtain ⟨z9, hz⟩ : ∃ z, z = F_X11_line (some 128) a b (mk S I L R n) := ⟨_, rfl⟩
  have xl := hz
  unfold F_X11_line at xl
  rw [cv_128 hs, x_needLine hC, b3_if, b3_thr2, b3_some, x_within hC, b3_if, b3_thr2, b3_some] at xl
  by_cases h1 : isL (pW w.1) a = true
  · rw [if_pos h1] at xl
    by_cases h2 : wI b 0 2 = true
    · rw [if_pos h2, x_bd hC] at xl
      obtain ⟨l, hl9, rfl⟩ := (isL_iff (show pW w.1 < 2147483648 by omega)).mp h1
      have er : ∀ L, F_X12_line (some 197) (nI l) b (mk S I L R n) = F_X12_line_31 (some 197) (nI l) b 0 (some 197) (mk S I L R n) := fun L => by
        unfold F_X12_line
        rw [cv_197 hs, eL, b2_some, h1, if_neg (by decide), eW, b2_some, h2, if_neg (by decide)]
      have RB2 : RBoard w.2.1.1 (I 174) ((up2 I 197 4 0) 198) := by rw [up2_ne _ _ _ (by decide)]; exact RB'
      by_cases hb0 : b = 0
      · subst hb0
        have e1 : F_X0_speaksWith (some 170) (nI l) (mk S I L R n) = some (spkL (I 174) (nI l) w.2.1.1 0, mk S I L R n) := c_speaksL hb c1 c2 (nI l) w.2.1.1 mm_N 0 (by omega) (by show w.2.1.1 < 1000000; omega)
        rw [if_pos rfl, Option.bind_some, bd_v hb, e1, b2_some] at xl
        refine pk_val hl hC hR hG (L_line_0 hs hs (hz.symm.trans xl)) (fun _ _ _ => rfl) (fun _ _ => rfl) ⟨rfl, rfl⟩ (I'' := up2 I 197 4 0) ?_ (up2_self _ _ _ _) scR.m4.fr scR.m4.inv
        rw [er]
        unfold F_X12_line_31 F_X12_line_127
        rw [pi_197_4 hs, Option.bind_some, gi_197_4 hs, Option.bind_some, up2_self, if_pos (by decide), if_pos (by decide), cv_197 hs, e_busy hs RB2, b2_some, spk_eq _ _ (by omega) _ rfl]
        unfold aBusy
        by_cases hq : fnd (aBusyP (I 174) (nI l)) w.2.1.1 0 = -1
        · rw [if_pos hq, if_pos hq]
        · rw [if_neg hq, if_neg hq]
          obtain ⟨c, hc, -, ec⟩ := fnd_lt hq
          rw [ec, nI_clamp (by omega)]
          obtain ⟨q1, q2, q3, q4, q5, q6, q7⟩ := RB2.2.2.2.2.2.2 c hc
          simp only [gr_197_0 hs, Option.bind_some, li_add 51, li_add 18, ai_198 hs (show 51 + c < 3205 by omega), ai_198 hs (show 18 + c < 3205 by omega), q1, q6]
          by_cases hz : I 174 (11 + 7 * c) = nI l
          · rw [if_pos hz, if_pos hz]
          · rw [if_neg hz, if_neg hz]
      · rw [if_neg hb0] at xl
        have hb1 : ¬ b ≤ 0 := by
          unfold wI at h2
          simp only [Bool.and_eq_true, decide_eq_true_eq] at h2
          have := h2.1
          rw [Int32.le_iff_toInt_le]
          rw [Int32.lt_iff_toInt_lt] at this
          have hz : b.toInt ≠ (0 : Int32).toInt := fun q => hb0 (Int32.toInt_inj.mp q)
          omega
        by_cases hb2 : b = 1
        · subst hb2
          rw [if_pos rfl, Option.bind_some, bd_v hb, c_spouse hP hb hpl hp (show l < 20 by omega), b2_some, if_pos hl9] at xl
          refine pk_val hl hC hR hG (L_line_0 hs hs (hz.symm.trans xl)) (fun _ _ _ => rfl) (fun _ _ => rfl) ⟨rfl, rfl⟩ (I'' := up2 I 197 4 0) ?_ (up2_self _ _ _ _) scR.m4.fr scR.m4.inv
          rw [er]
          unfold F_X12_line_31 F_X12_line_77
          rw [pi_197_4 hs, Option.bind_some, gi_197_4 hs, Option.bind_some, up2_self, if_pos (by decide), if_neg (by decide), if_pos rfl, gr_197_0 hs, Option.bind_some, li_add 38, ai_198 hs (show 38 + l < 3205 by omega), Option.bind_some, RB2.2.2.2.2.2.1 l (by omega)]
        · rw [if_neg hb2, Option.bind_some, bd_v hb, c_isShut hP hb hpl hp, b2_some, h1, Bool.true_and] at xl
          have xl' : F_X11_line (some 128) (nI l) b (mk S I L R n) = some (.inr (b2i (hasB (I 174 2) (nI l))), mk S I L R n) := by
            unfold F_X11_line
            rw [cv_128 hs, x_needLine hC, b3_if, b3_thr2, b3_some, x_within hC, b3_if, b3_thr2, b3_some, if_pos h1, if_pos h2, x_bd hC, if_neg hb0, if_neg hb2, Option.bind_some, bd_v hb, c_isShut hP hb hpl hp, b2_some, h1, Bool.true_and]
            cases hasB (I 174 2) (nI l) <;> rfl
          refine pk_val hl hC hR hG (L_line_0 hs hs xl') (fun _ _ _ => rfl) (fun _ _ => rfl) ⟨rfl, rfl⟩ (I'' := up2 I 197 4 0) ?_ (up2_self _ _ _ _) scR.m4.fr scR.m4.inv
          rw [er]
          unfold F_X12_line_31 F_X12_line_77
          rw [pi_197_4 hs, Option.bind_some, gi_197_4 hs, Option.bind_some, up2_self, if_pos (by decide), if_neg hb1, if_neg hb2, cv_197 hs, e_isShut hs, b2_some, RB2.2.2.2.2.1]
          cases hasB (I 174 2) (nI l) <;> rfl
    · rw [if_neg h2] at xl
      refine pk_thr (t := 2) (by decide) hl hC hR hG (L_line_2 hs (hz.symm.trans xl)) (v := 0) ?_
      unfold F_X12_line
      rw [cv_197 hs, eL, b2_some, h1, if_neg (by decide), eW, b2_some, if_pos (by rw [b2i_0]; simpa using h2), x1, if_neg (by decide)]
  · rw [if_neg h1] at xl
    refine pk_thr (t := 1) (by decide) hl hC hR hG (L_line_1 hs (hz.symm.trans xl)) (v := 0) ?_
    unfold F_X12_line
    rw [cv_197 hs, eL, b2_some, if_pos (by rw [b2i_0]; simpa using h1), x1, if_neg (by decide)]
