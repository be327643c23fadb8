/-! pairs: the reference -/
def bddK (l : Nat) (x : Int32) : Prop := -1000000 * (l : Int) ≤ x.toInt ∧ x.toInt ≤ 1000000 * l
theorem bddK_add {l : Nat} (hl : l < 9) {x c : Int32} (h : bddK l x) (hc : bdd c) : bddK (l + 1) (x + c) ∧ (x + c).toInt64 = x.toInt64 + c.toInt64 := by
  obtain ⟨h1, h2⟩ := h
  obtain ⟨c1, c2⟩ := hc
  have e : (x + c).toInt = x.toInt + c.toInt := by
    rw [Int32.toInt_add, Int.bmod_eq_of_le (by omega) (by omega)]
  refine ⟨?_, ?_⟩
  · unfold bddK
    rw [e]; omega
  · apply Int64.toInt_inj.mp
    rw [Int32.toInt_toInt64, e, Int64.toInt_add, Int32.toInt_toInt64, Int32.toInt_toInt64, Int.bmod_eq_of_le (by omega) (by omega)]
theorem lgcle (a b : Int64) : (lg_cmp a b ≤ 0) = (a.toInt ≤ b.toInt) := by
  unfold lg_cmp
  apply propext
  by_cases h : a > b
  · rw [if_pos h]
    have : b.toInt < a.toInt := Int64.lt_iff_toInt_lt.mp h
    exact ⟨fun q => absurd q (by decide), fun q => by omega⟩
  · rw [if_neg h]
    have h1 : ¬ b.toInt < a.toInt := fun q => h (Int64.lt_iff_toInt_lt.mpr q)
    refine ⟨fun _ => by omega, fun _ => ?_⟩
    split <;> decide
theorem bdd_aLikes {P : PL} (hP : PlOK P) {l m : Nat} (hl : l < 8) (hm : m < 8) : bdd (aLikes P (nI l) (nI m)) := by
  unfold aLikes
  by_cases h : pL' P = []
  · rw [if_pos h]; exact ⟨by decide, by decide⟩
  · rw [if_neg h]
    have hn : ∀ k, k < 8 → bdd (nI k) := fun k hk => by unfold bdd; rw [nI_toInt (by omega)]; omega
    have h0 : bdd (0 : Int32) := ⟨by decide, by decide⟩
    refine bdd_lawv (fun j => ?_) (hP.2.2.2.2.1.2.1 h)
    match j with
    | 0 => exact hn l hl
    | 1 => exact hn m hm
    | 2 => exact h0
    | 3 => exact h0
    | 4 => exact h0
    | _ + 5 => exact h0
theorem bdd_aCon {P : PL} (hP : PlOK P) {w : Nat → Int32} (hv : WV (pW P) w) {l : Nat} (hl : l < pW P) : bdd (aCon P w l) := by
  have w2 := hP.2.1
  unfold aCon
  rcases hv l hl with e | ⟨s, hs, e⟩
  · rw [e, if_pos (by decide)]; exact ⟨by decide, by decide⟩
  · rw [e, if_neg (nI_pos (by omega))]; exact bdd_aLikes hP (by omega) (by omega)
theorem bdd_sumL {P : PL} (hP : PlOK P) {w : Nat → Int32} (hv : WV (pW P) w) : ∀ (r l : Nat) (x : Int32), l + r = pW P → bddK l x → bddK (pW P) (aSumL P w r l x)
  | 0, l, x, hl, h => by rw [show pW P = l by omega]; exact h
  | r + 1, l, x, hl, h => bdd_sumL hP hv r (l + 1) _ (by omega) (bddK_add (by have := hP.2.1; omega) h (bdd_aCon hP hv (by omega))).1
def RPq (a : PA) (I : mkI) (L : mkL) : Prop := I 197 38 = nI a.1 ∧ L 197 39 = (if a.2.2.1 = true then a.2.2.2.1.toInt64 else -9223372036854775808) ∧ (a.1 ≠ 0 → ∀ l, l < 8 → I 213 l = a.2.1 l) ∧ (a.2.2.1 = true → ∀ l, l < 8 → I 214 l = a.2.2.2.2 l)
def kRp (I I' : mkI) (L L' : mkL) : Prop := (∀ x, x ≠ 197 → x ≠ 212 → x ≠ 213 → x ≠ 214 → I' x = I x) ∧ (∀ j, j ≠ 38 → I' 197 j = I 197 j) ∧ ∀ x, x ≠ 197 → L' x = L x
theorem kRp.rf {I : mkI} {L : mkL} : kRp I I L L := ⟨fun _ _ _ _ _ => rfl, fun _ _ => rfl, fun _ _ => rfl⟩
theorem kRp.tr {I I' I'' : mkI} {L L' L'' : mkL} (h : kRp I I' L L') (h2 : kRp I' I'' L' L'') : kRp I I'' L L'' := ⟨fun x a b c d => (h2.1 x a b c d).trans (h.1 x a b c d), fun j q => (h2.2.1 j q).trans (h.2.1 j q), fun x q => (h2.2.2 x q).trans (h.2.2 x q)⟩
theorem kRp.up {I : mkI} {L : mkL} {x k : Nat} {v : Int32} (hx : x = 212 ∨ x = 213 ∨ x = 214) : kRp I (up2 I x k v) L L := by
  refine ⟨fun y a b c d => up2_ne _ _ _ (by rcases hx with e | e | e <;> rw [e] <;> assumption), fun j _ => ?_, fun _ _ => rfl⟩
  rw [up2_ne _ _ _ (by rcases hx with e | e | e <;> rw [e] <;> decide)]
theorem kRp.lk {P : PL} {I I' : mkI} {L L' : mkL} (h : kRp I I' L L') (hk : RLk P I) : RLk P I' := by unfold RLk; rw [h.1 _ (by decide) (by decide) (by decide) (by decide)]; exact hk
theorem kRp.kn {I I' : mkI} {L L' : mkL} (h : kRp I I' L L') : I' 198 = I 198 := h.1 _ (by decide) (by decide) (by decide) (by decide)
def RMt (W : Nat) (w : Nat → Int32) (I : mkI) : Prop := (∀ j, j < W → w j ≠ -2 → I 212 j = w j) ∧ ∀ j, W ≤ j → j < 8 → I 212 j = -1
section EPF
variable {S : mkS} {R : mkR} {n : Nat × Nat} {P : PL}
theorem e_sumL (hs : St S R) (hP : PlOK P) {I : mkI} {L : mkL} (hK : I 198 1 = nI (pW P)) (hk : RLk P I) {w : Nat → Int32} (hw : ∀ l, l < pW P → I 212 l = w l) (hv : WV (pW P) w) : ∀ (r g l : Nat) (x : Int32), l + r = pW P → r < g → bddK l x → F_X12_sees_4 g (some 197) x.toInt64 (nI l) (mk S I L R n) = if (aSumL P w r l x).toInt64.toInt ≤ (L 197 39).toInt then F_X12_sees_69 (some 197) (mk S I L R n) else F_X12_sees_45 mm_N (some 197) 0 (mk S I (up2 L 197 39 (aSumL P w r l x).toInt64) R n) := by
  have w2 := hP.2.1
  intro r
  induction r with
  | zero =>
    intro g l x hl hg hx
    obtain ⟨g, rfl⟩ : ∃ y, g = y + 1 := ⟨g - 1, by omega⟩
    simp only [F_X12_sees_4, lgcle]
    rw [gr_197_0 hs, Option.bind_some, show aI (mk S I L R n) (some 198) 0 1 = some (I 198 1) from ai_198 (k := 1) hs (by omega), Option.bind_some, hK, if_pos (nI_le (by omega) (by omega)), gl_197_39 hs, Option.bind_some, pl_197_39 hs, Option.bind_some]
    rfl
  | succ r ih =>
    intro g l x hl hg hx
    obtain ⟨g, rfl⟩ : ∃ y, g = y + 1 := ⟨g - 1, by omega⟩
    obtain ⟨b1, b2⟩ := bddK_add (by omega) hx (bdd_aCon hP hv (show l < pW P by omega))
    simp only [F_X12_sees_4]
    rw [gr_197_0 hs, Option.bind_some, show aI (mk S I L R n) (some 198) 0 1 = some (I 198 1) from ai_198 (k := 1) hs (by omega), Option.bind_some, hK, if_neg (nI_ge (by omega) (by omega)), cv_197 hs, e_likesMate hs hP hk hw hv (by omega), b2_some, ← b2, nI_1, ih g (l + 1) _ (by omega) (by omega) b1]
    rfl
theorem e_cp45 (hs : St S R) {L : mkL} : ∀ (r g l : Nat) (I : mkI), l + r = 8 → r < g → ∃ I', F_X12_sees_45 g (some 197) (nI l) (mk S I L R n) = F_X12_sees_69 (some 197) (mk S I' L R n) ∧ (∀ x, x ≠ 214 → I' x = I x) ∧ ∀ j, j < 8 → I' 214 j = if l ≤ j then I 212 j else I 214 j := by
  intro r
  induction r with
  | zero =>
    intro g l I hl hg
    obtain ⟨g, rfl⟩ : ∃ y, g = y + 1 := ⟨g - 1, by omega⟩
    have : l = 8 := by omega
    subst this
    refine ⟨I, ?_, fun _ _ => rfl, fun j hj => by rw [if_neg (by omega)]⟩
    simp only [F_X12_sees_45]
    rw [if_pos (by decide)]
  | succ r ih =>
    intro g l I hl hg
    obtain ⟨g, rfl⟩ : ∃ y, g = y + 1 := ⟨g - 1, by omega⟩
    obtain ⟨I', q1, q2, q3⟩ := ih g (l + 1) (up2 I 214 l (I 212 l)) (by omega) (by omega)
    refine ⟨I', ?_, fun x hx => by rw [q2 x hx, up2_ne _ _ _ hx], fun j hj => ?_⟩
    · simp only [F_X12_sees_45]
      rw [if_neg (ge_li 8 (by omega) (by decide)), gr_197_37 hs, Option.bind_some, gr_197_35 hs, Option.bind_some, ai_212 hs (by omega), Option.bind_some, si_214 hs (by omega), Option.bind_some, nI_1]
      exact q1
    · rw [q3 j hj, up2_ne _ _ _ (show (212 : Nat) ≠ 214 by decide)]
      by_cases e : j = l
      · rw [e, if_neg (by omega), up2_self, if_pos (Nat.le_refl _)]
      · rw [up2_row, up1_ne _ _ e]
        by_cases y : l + 1 ≤ j
        · rw [if_pos y, if_pos (by omega)]
        · rw [if_neg y, if_neg (by omega)]
theorem e_cp90 (hs : St S R) {L : mkL} : ∀ (r g l : Nat) (I : mkI), l + r = 8 → r < g → I 197 38 = 1 → ∃ I', F_X12_sees_90 g (some 197) (nI l) (mk S I L R n) = some (mk S I' L R n) ∧ (∀ x, x ≠ 213 → I' x = I x) ∧ ∀ j, j < 8 → I' 213 j = if l ≤ j then I 212 j else I 213 j := by
  intro r
  induction r with
  | zero =>
    intro g l I hl hg h1
    obtain ⟨g, rfl⟩ : ∃ y, g = y + 1 := ⟨g - 1, by omega⟩
    have : l = 8 := by omega
    subst this
    refine ⟨I, ?_, fun _ _ => rfl, fun j hj => by rw [if_neg (by omega)]⟩
    simp only [F_X12_sees_90, F_X12_sees_122]
    rw [if_pos (by decide)]
  | succ r ih =>
    intro g l I hl hg h1
    obtain ⟨g, rfl⟩ : ∃ y, g = y + 1 := ⟨g - 1, by omega⟩
    obtain ⟨I', q1, q2, q3⟩ := ih g (l + 1) (up2 I 213 l (I 212 l)) (by omega) (by omega) (by rw [up2_ne _ _ _ (by decide)]; exact h1)
    refine ⟨I', ?_, fun x hx => by rw [q2 x hx, up2_ne _ _ _ hx], fun j hj => ?_⟩
    · simp only [F_X12_sees_90, F_X12_sees_122]
      rw [if_neg (ge_li 8 (by omega) (by decide)), gi_197_38 hs, Option.bind_some, h1, if_pos rfl, gr_197_36 hs, Option.bind_some, gr_197_35 hs, Option.bind_some, ai_212 hs (by omega), Option.bind_some, si_213 hs (by omega), Option.bind_some, nI_1]
      exact q1
    · rw [q3 j hj, up2_ne _ _ _ (show (212 : Nat) ≠ 213 by decide)]
      by_cases e : j = l
      · rw [e, if_neg (by omega), up2_self, if_pos (Nat.le_refl _)]
      · rw [up2_row, up1_ne _ _ e]
        by_cases y : l + 1 ≤ j
        · rw [if_pos y, if_pos (by omega)]
        · rw [if_neg y, if_neg (by omega)]
theorem RMt.cut {W : Nat} {w : Nat → Int32} {I : mkI} (h : RMt W w I) (hw : ∀ j, j < W → w j ≠ -2) {j : Nat} (hj : j < 8) : I 212 j = if j < W then w j else -1 := by
  by_cases e : j < W
  · rw [if_pos e]; exact h.1 j e (hw j e)
  · rw [if_neg e]; exact h.2 j (by omega) hj
theorem e_leav (hs : St S R) (hP : PlOK P) {I : mkI} {L : mkL} (hK : I 198 1 = nI (pW P)) (hk : RLk P I) {w : Nat → Int32} (hm : RMt (pW P) w I) (hW : WP (pW P) (pW P) w) {a : PA} (hq : RPq a I L) (ha : a.1 < 2147483647) (hQ : QP P a) : ∃ I', F_X12_sees_69 (some 197) (mk S I L R n) = some (mk S I' L R n) ∧ RPq (if aPart P w = -1 then a.1 + 1 else a.1, if aPart P w = -1 ∧ a.1 = 0 then aCutW P w else a.2.1, a.2.2) I' L ∧ kRp I I' L L ∧ I' 212 = I 212 := by
  have w2 := hP.2.1
  obtain ⟨q1, q2, q3, q4⟩ := hq
  have hpart := e_part (L := L) (n := n) hs hP hK hk (fun l hl => hm.1 l hl (hW.2 l hl)) hW.v
  unfold F_X12_sees_69
  rw [cv_197 hs, hpart, b2_some]
  by_cases e : aPart P w = -1
  · rw [if_pos e, if_pos e, gi_197_38 hs, Option.bind_some, q1, nI_1, pi_197_38 hs, Option.bind_some]
    have k1 : kRp I (up2 I 197 38 (nI (a.1 + 1))) L L := ⟨fun x b _ _ _ => up2_ne _ _ _ b, fun j hj => by rw [up2_row, up1_ne _ _ hj], fun _ _ => rfl⟩
    by_cases e0 : a.1 = 0
    · obtain ⟨I', z1, z2, z3⟩ := e_cp90 (n := n) (L := L) hs 8 mm_N 0 (up2 I 197 38 (nI (a.1 + 1))) rfl (by unfold mm_N; decide) (by rw [up2_self, e0]; rfl)
      refine ⟨I', z1, ⟨?_, q2, fun _ l hl => ?_, fun h l hl => ?_⟩, k1.tr ⟨fun x _ _ b _ => z2 x b, fun j _ => by rw [z2 _ (by decide)], fun _ _ => rfl⟩, ?_⟩
      · rw [z2 _ (by decide), up2_self]
      · rw [z3 l hl, if_pos (Nat.zero_le _), up2_ne _ _ _ (by decide), hm.cut hW.2 hl]
        have z9 : (if aPart P w = -1 ∧ a.1 = 0 then aCutW P w else a.2.1) = aCutW P w := if_pos ⟨e, e0⟩
        show _ = (if aPart P w = -1 ∧ a.1 = 0 then aCutW P w else a.2.1) l
        rw [z9]; rfl
      · rw [z2 _ (by decide), up2_ne _ _ _ (by decide)]; exact q4 h l hl
      · rw [z2 _ (by decide), up2_ne _ _ _ (by decide)]
    · refine ⟨up2 I 197 38 (nI (a.1 + 1)), ?_, ⟨up2_self _ _ _ _, q2, fun _ l hl => ?_, fun h l hl => ?_⟩, k1, up2_ne _ _ _ (by decide)⟩
      · obtain ⟨g, eg⟩ : ∃ g, mm_N = g + 1 := ⟨mm_N - 1, by unfold mm_N; omega⟩
        rw [eg]
        simp only [F_X12_sees_90, F_X12_sees_122]
        rw [if_neg (by decide), gi_197_38 hs, Option.bind_some, up2_self, if_neg (fun z => e0 (by have := (nI_eq (b := 1) (by omega) (by omega)).mp z; omega))]
      · rw [up2_ne _ _ _ (by decide)]
        show _ = (if aPart P w = -1 ∧ a.1 = 0 then aCutW P w else a.2.1) l
        rw [if_neg (fun z => e0 z.2)]; exact q3 e0 l hl
      · rw [up2_ne _ _ _ (by decide)]; exact q4 h l hl
  · rw [if_neg e, if_neg e]
    refine ⟨I, rfl, ⟨q1, q2, fun h l hl => ?_, q4⟩, kRp.rf, rfl⟩
    show _ = (if aPart P w = -1 ∧ a.1 = 0 then aCutW P w else a.2.1) l
    rw [if_neg (fun z => e z.1)]; exact q3 h l hl
theorem e_sees (hs : St S R) (hP : PlOK P) {I : mkI} {L : mkL} (hK : I 198 1 = nI (pW P)) (hk : RLk P I) {w : Nat → Int32} (hm : RMt (pW P) w I) (hW : WP (pW P) (pW P) w) {a : PA} (hq : RPq a I L) (ha : a.1 < 2147483647) (hQ : QP P a) : ∃ I' L', F_X12_sees (some 197) (mk S I L R n) = some (mk S I' L' R n) ∧ RPq (aWeigh P w a) I' L' ∧ kRp I I' L L' ∧ I' 212 = I 212 := by
  have w2 := hP.2.1
  obtain ⟨q1, q2, q3, q4⟩ := id hq
  have hsum := e_sumL (L := L) (n := n) hs hP hK hk (fun l hl => hm.1 l hl (hW.2 l hl)) hW.v (pW P) mm_N 0 0 (by omega) (by show pW P < 1000000; omega) ⟨by decide, by decide⟩
  have hb := bdd_sumL hP hW.v (pW P) 0 0 (by omega) ⟨by decide, by decide⟩
  obtain ⟨x, hx⟩ : ∃ x, x = aSumL P w (pW P) 0 0 := ⟨_, rfl⟩
  rw [← hx] at hsum hb
  have hcond : (x.toInt64.toInt ≤ (L 197 39).toInt) ↔ ¬ (a.2.2.1 = false ∨ a.2.2.2.1 < x) := by
    rw [q2, Int32.toInt_toInt64]
    cases hf : a.2.2.1 with
    | false =>
      rw [if_neg (by decide), show (-9223372036854775808 : Int64).toInt = -9223372036854775808 by decide]
      unfold bddK at hb
      exact ⟨fun h => by omega, fun h => absurd (.inl rfl) h⟩
    | true =>
      rw [if_pos rfl, Int32.toInt_toInt64, Int32.lt_iff_toInt_lt]
      exact ⟨fun h q => q.elim (fun z => by cases z) (fun z => by omega), fun h => by
        have : ¬ a.2.2.2.1.toInt < x.toInt := fun z => h (.inr z)
        omega⟩
  have hsee : F_X12_sees (some 197) (mk S I L R n) = F_X12_sees_4 mm_N (some 197) (0 : Int32).toInt64 (nI 0) (mk S I L R n) := rfl
  rw [hsee, hsum]
  by_cases e : a.2.2.1 = false ∨ a.2.2.2.1 < x
  · rw [if_neg (fun z => hcond.mp z e)]
    obtain ⟨I1, z1, z2, z3⟩ := e_cp45 (n := n) (L := up2 L 197 39 x.toInt64) hs 8 mm_N 0 I rfl (by unfold mm_N; decide)
    have k1 : kRp I I1 L (up2 L 197 39 x.toInt64) := ⟨fun y _ _ _ b => z2 y b, fun j _ => by rw [z2 _ (by decide)], fun y hy => up2_ne _ _ _ hy⟩
    obtain ⟨I', y1, y2, y3, y4⟩ := e_leav (L := up2 L 197 39 x.toInt64) (n := n) (a := (a.1, a.2.1, (true, x, aCutW P w))) hs hP (by rw [k1.kn]; exact hK) (k1.lk hk) (w := w) (by unfold RMt; rw [z2 _ (by decide)]; exact hm) hW ⟨by rw [z2 _ (by decide)]; exact q1, by rw [up2_self]; exact (if_pos rfl).symm, fun h l hl => by rw [z2 _ (by decide)]; exact q3 h l hl, fun _ l hl => by rw [z3 l hl, if_pos (Nat.zero_le _), hm.cut hW.2 hl]; rfl⟩ ha ⟨fun l hl => ⟨(hQ.1 l hl).1, if_neg (by omega)⟩, hQ.2.1, fun h => by cases h⟩
    refine ⟨I', _, z1.trans y1, ?_, k1.tr y3, by rw [y4, z2 _ (by decide)]⟩
    unfold aWeigh
    rw [← hx, if_pos e]
    exact y2
  · rw [if_pos (hcond.mpr e)]
    obtain ⟨I', y1, y2, y3, y4⟩ := e_leav (n := n) hs hP hK hk hm hW hq ha hQ
    refine ⟨I', L, y1, ?_, y3, y4⟩
    unfold aWeigh
    rw [← hx, if_neg e]
    exact y2
/-- the bits of lines that are taken -/
def TK (W T : Nat) (w : Nat → Int32) : Prop := ∀ j, j < 31 → T.testBit j = decide (j < W ∧ w j ≠ -2)
theorem e_skip (hs : St S R) {p : PT_X12_goesPairs} {T : Nat} {mb : Int32} {H : MH} : ∀ (d g j : Nat), (∀ i, j ≤ i → i < j + d → T.testBit i = true) → j + d < 31 → d < g → F_X12_goesPairs_2 p g (some 197) (nI T) mb (nI j) H = F_X12_goesPairs_2 p (g - d) (some 197) (nI T) mb (nI (j + d)) H := by
  intro d
  induction d with
  | zero => intro g j _ _ _; rfl
  | succ d ih =>
    intro g j h hj hg
    obtain ⟨g, rfl⟩ : ∃ y, g = y + 1 := ⟨g - 1, by omega⟩
    have := ih g (j + 1) (fun i h1 h2 => h i (by omega) (by omega)) (by omega) (by omega)
    rw [show g + 1 - (d + 1) = g - d by omega, show j + (d + 1) = j + 1 + d by omega, ← this]
    simp only [F_X12_goesPairs_2]
    rw [e_has, b2_some, hasB_nI (by omega), h j (Nat.le_refl _) (by omega), if_neg (by decide), nI_1]
theorem e_goes (hs : St S R) (hP : PlOK P) : ∀ (r F l T : Nat) (I : mkI) (L : mkL) (w : Nat → Int32) (b : Bool) (a : PA), l + r = pW P → r < F → I 198 1 = nI (pW P) → RLk P I → RMt (pW P) w I → WP (pW P) l w → TK (pW P) T w → RPq a I L → QP P a → a.1 + fac r < 2147483647 → ∃ I' L', G_X12_goesPairs F (some 197) (nI T) (b2i (decide (pW P % 2 = 1) && !b)) (mk S I L R n) = some (mk S I' L' R n) ∧ RPq (aPF P r l w b a) I' L' ∧ kRp I I' L L' ∧ RMt (pW P) w I' := by
  have w2 := hP.2.1
  intro r
  induction r with
  | zero =>
    intro F l T I L w b a hl hF hK hk hm hW hT hq hQ ha
    obtain ⟨F, rfl⟩ : ∃ y, F = y + 1 := ⟨F - 1, by omega⟩
    have hlW : l = pW P := by omega
    subst hlW
    obtain ⟨I', L', z1, z2, z3, z4⟩ := e_sees (n := n) hs hP hK hk hm hW hq (by unfold fac at ha; omega) hQ
    refine ⟨I', L', ?_, z2, z3, by unfold RMt; rw [z4]; exact hm⟩
    show F_X12_goesPairs (G_X12_goesPairs F) _ _ _ _ = _
    unfold F_X12_goesPairs
    have hsk := e_skip (R := R) hs (p := G_X12_goesPairs F) (T := T) (mb := b2i (decide (pW P % 2 = 1) && !b)) (H := mk S I L R n) (pW P) mm_N 0 (fun i _ h2 => by rw [hT i (by omega), decide_eq_true ⟨by omega, hW.2 i (by omega)⟩]) (by omega) (by show pW P < 1000000; omega)
    refine hsk.trans ?_
    obtain ⟨g, eg⟩ : ∃ g, mm_N - pW P = g + 1 := ⟨mm_N - pW P - 1, by unfold mm_N; omega⟩
    rw [eg, Nat.zero_add]
    simp only [F_X12_goesPairs_2]
    rw [e_has, b2_some, hasB_nI (by omega), hT _ (by omega), decide_eq_false (by omega), if_pos (by decide), gr_197_0 hs, Option.bind_some, show aI (mk S I L R n) (some 198) 0 1 = some (I 198 1) from ai_198 (k := 1) hs (by omega), Option.bind_some, hK, if_neg (nI_nlt (by omega) (by omega)), cv_197 hs, z1, Option.bind_some]
  | succ r ih =>
    intro F l T I L w b a hl hF hK hk hm hW hT hq hQ ha
    have efac : fac (r + 1) = r * fac r + fac r := Nat.succ_mul _ _
    have hf1 : 1 ≤ fac r := by
      have : ∀ r, 1 ≤ fac r := fun r => by
        induction r with
        | zero => exact Nat.le_refl _
        | succ r ih => have : fac (r + 1) = r * fac r + fac r := Nat.succ_mul _ _; omega
      exact this r
    by_cases e : w l = -2
    · obtain ⟨F, rfl⟩ : ∃ y, F = y + 1 := ⟨F - 1, by omega⟩
      have hsk := e_skip (R := R) hs (p := G_X12_goesPairs F) (T := T) (mb := b2i (decide (pW P % 2 = 1) && !b)) (H := mk S I L R n) l mm_N 0 (fun i _ h2 => by rw [hT i (by omega), decide_eq_true ⟨by omega, hW.2 i (by omega)⟩]) (by omega) (by show l < 1000000; omega)
      obtain ⟨g, eg⟩ : ∃ g, mm_N - l = g + 1 := ⟨mm_N - l - 1, by unfold mm_N; omega⟩
      have head : G_X12_goesPairs (F + 1) (some 197) (nI T) (b2i (decide (pW P % 2 = 1) && !b)) (mk S I L R n) = F_X12_goesPairs_36 (G_X12_goesPairs F) mm_N (some 197) (nI T) (b2i (decide (pW P % 2 = 1) && !b)) (nI l) (nI (l + 1)) (mk S I L R n) := by
        show F_X12_goesPairs (G_X12_goesPairs F) _ _ _ _ = _
        unfold F_X12_goesPairs
        refine hsk.trans ?_
        rw [eg, Nat.zero_add]
        simp only [F_X12_goesPairs_2]
        rw [e_has, b2_some, hasB_nI (by omega), hT _ (by omega), decide_eq_false (fun z => z.2 e), if_pos (by decide), gr_197_0 hs, Option.bind_some, show aI (mk S I L R n) (some 198) 0 1 = some (I 198 1) from ai_198 (k := 1) hs (by omega), Option.bind_some, hK, if_pos (nI_lt (by omega) (by omega)), nI_1]
      have loop : ∀ (z g m : Nat) (I1 : mkI) (L1 : mkL) (a1 : PA), m + z = pW P → z < g → l < m → kRp I I1 L L1 → RMt (pW P) w I1 → RPq a1 I1 L1 → QP P a1 → a1.1 + z * fac r + fac r < 2147483647 → ∃ I2 L2, F_X12_goesPairs_36 (G_X12_goesPairs F) g (some 197) (nI T) (b2i (decide (pW P % 2 = 1) && !b)) (nI l) (nI m) (mk S I1 L1 R n) = (if b2i (decide (pW P % 2 = 1) && !b) = 0 then some (mk S I2 L2 R n) else (gR (mk S I2 L2 R n) (some 197) 12 35).bind fun v102 => (sI (mk S I2 L2 R n) v102 0 (nI l) ((-1) : Int32)).bind fun h107 => (cV h107 (some 197) 12 (G_X12_goesPairs F (some 197) (nI T ||| ((1 : Int32) <<< (nI l &&& 31))) (0 : Int32) h107)).bind fun h115 => some h115) ∧ kRp I I2 L L2 ∧ RMt (pW P) w I2 ∧ RPq ((List.range' m z).foldl (fun a m => if w m = -2 then aPF P r (l + 1) (up1 (up1 w l (nI m)) m (nI l)) b a else a) a1) I2 L2 ∧ QP P ((List.range' m z).foldl (fun a m => if w m = -2 then aPF P r (l + 1) (up1 (up1 w l (nI m)) m (nI l)) b a else a) a1) ∧ ((List.range' m z).foldl (fun a m => if w m = -2 then aPF P r (l + 1) (up1 (up1 w l (nI m)) m (nI l)) b a else a) a1).1 + fac r < 2147483647 := by
        intro z
        induction z with
        | zero =>
          intro g m I1 L1 a1 hmm hg hlm k1 hm1 hq1 hQ1 ha1
          obtain ⟨g, rfl⟩ : ∃ y, g = y + 1 := ⟨g - 1, by omega⟩
          refine ⟨I1, L1, ?_, k1, hm1, hq1, hQ1, by rw [Nat.zero_mul] at ha1; exact ha1⟩
          simp only [F_X12_goesPairs_36]
          rw [gr_197_0 hs, Option.bind_some, show aI (mk S I1 L1 R n) (some 198) 0 1 = some (I1 198 1) from ai_198 (k := 1) hs (by omega), Option.bind_some, k1.kn, hK, if_pos (nI_le (by omega) (by omega))]
        | succ z ihz =>
          intro g m I1 L1 a1 hmm hg hlm k1 hm1 hq1 hQ1 ha1
          obtain ⟨g, rfl⟩ : ∃ y, g = y + 1 := ⟨g - 1, by omega⟩
          have ez : (z + 1) * fac r = z * fac r + fac r := Nat.succ_mul _ _
          rw [List.range'_succ, List.foldl_cons]
          simp only [F_X12_goesPairs_36, F_X12_goesPairs_90]
          rw [gr_197_0 hs, Option.bind_some, show aI (mk S I1 L1 R n) (some 198) 0 1 = some (I1 198 1) from ai_198 (k := 1) hs (by omega), Option.bind_some, k1.kn, hK, if_neg (nI_ge (by omega) (by omega)), e_has, b2_some, hasB_nI (by omega), hT m (by omega), nI_1]
          by_cases em : w m = -2
          · rw [decide_eq_false (fun z => z.2 em), if_pos (by decide), if_pos em]
            obtain ⟨I2, h2⟩ : ∃ I2, I2 = up2 (up2 I1 212 l (nI m)) 212 m (nI l) := ⟨_, rfl⟩
            have k2 : kRp I1 I2 L1 L1 := by rw [h2]; exact (kRp.up (.inl rfl)).tr (kRp.up (.inl rfl))
            have k2' : ∀ x, x ≠ 212 → I2 x = I1 x := fun x hx => by rw [h2, up2_ne _ _ _ hx, up2_ne _ _ _ hx]
            have hT2 : TK (pW P) (T ||| 2 ^ l ||| 2 ^ m) (up1 (up1 w l (nI m)) m (nI l)) := fun j hj => by
              rw [Nat.testBit_or, Nat.testBit_or, Nat.testBit_two_pow, Nat.testBit_two_pow, hT j hj]
              by_cases z1 : m = j
              · subst z1
                rw [up1_self, decide_eq_true (show m = m from rfl), Bool.or_true, decide_eq_true ⟨by omega, nI_m2 (by omega)⟩]
              · rw [decide_eq_false z1, Bool.or_false, up1_ne _ _ (fun q => z1 q.symm)]
                by_cases z2 : l = j
                · subst z2
                  rw [up1_self, decide_eq_true (show l = l from rfl), Bool.or_true, decide_eq_true ⟨by omega, nI_m2 (by omega)⟩]
                · rw [decide_eq_false z2, Bool.or_false, up1_ne _ _ (fun q => z2 q.symm)]
            obtain ⟨I3, L3, y1, y2, y3, y4⟩ := ih F (l + 1) (T ||| 2 ^ l ||| 2 ^ m) I2 L1 (up1 (up1 w l (nI m)) m (nI l)) b a1 (by omega) (by omega) (by rw [(k1.tr k2).kn]; exact hK) ((k1.tr k2).lk hk) ⟨fun j hj hne => by
              rw [h2, up2_row]
              by_cases z1 : j = m
              · subst z1; rw [up1_self, up1_self]
              · rw [up1_ne _ _ z1] at hne ⊢
                rw [up1_ne _ _ z1, up2_row]
                by_cases z2 : j = l
                · subst z2; rw [up1_self, up1_self]
                · rw [up1_ne _ _ z2] at hne ⊢
                  rw [up1_ne _ _ z2]; exact hm1.1 j hj hne, fun j h3 h4 => by
              rw [h2, up2_row, up1_ne _ _ (by omega), up2_row, up1_ne _ _ (by omega)]; exact hm1.2 j h3 h4⟩ (hW.two (by omega) (by omega) w2) hT2 (by
                unfold RPq at *
                rw [k2' _ (by decide), k2' _ (by decide), k2' _ (by decide)]; exact hq1) hQ1 (by omega)
            have hm3 : RMt (pW P) w I3 := ⟨fun j hj hne => by
              have zm : j ≠ m := fun q => hne (q ▸ em)
              have zl : j ≠ l := fun q => hne (q ▸ e)
              have := y4.1 j hj (by rw [up1_ne _ _ zm, up1_ne _ _ zl]; exact hne)
              rw [up1_ne _ _ zm, up1_ne _ _ zl] at this; exact this, y4.2⟩
            have hle := aPF_le P r (l + 1) (up1 (up1 w l (nI m)) m (nI l)) b a1
            obtain ⟨I5, L5, v1, v2⟩ := ihz g (m + 1) I3 L3 (aPF P r (l + 1) (up1 (up1 w l (nI m)) m (nI l)) b a1) (by omega) (by omega) (by omega) ((k1.tr k2).tr y3) hm3 y2 (aPF_Q _ _ _ _ _ hQ1) (by omega)
            refine ⟨I5, L5, ?_, v2⟩
            rw [gr_197_35 hs, Option.bind_some, si_212 hs (by omega), Option.bind_some, gr_197_35 hs, Option.bind_some, si_212 hs (by omega), Option.bind_some, ← h2, sh1 (show l < 31 by omega), sh1 (show m < 31 by omega), nI_or, nI_or, cv_197 hs, y1, Option.bind_some]
            rw [sh1 (show l < 31 by omega), nI_or] at v1
            exact v1
          · rw [decide_eq_true ⟨by omega, em⟩, if_neg (by decide), if_neg em]
            exact ihz g (m + 1) I1 L1 a1 (by omega) (by omega) (by omega) k1 hm1 hq1 hQ1 (by omega)
      obtain ⟨I2, L2, y1, y2, y3, y4, y5, y6⟩ := loop r mm_N (l + 1) I L a (by omega) (by show r < 1000000; omega) (by omega) kRp.rf hm hq hQ (by omega)
      obtain ⟨a2, ha2⟩ : ∃ a2, a2 = (List.range' (l + 1) r).foldl (fun a m => if w m = -2 then aPF P r (l + 1) (up1 (up1 w l (nI m)) m (nI l)) b a else a) a := ⟨_, rfl⟩
      rw [← ha2] at y4 y5 y6
      rw [head, y1]
      unfold aPF
      rw [if_pos e, ← ha2]
      by_cases o : pW P % 2 = 1 ∧ b = false
      · have ob : (decide (pW P % 2 = 1) && !b) = true := by rw [o.2, decide_eq_true o.1]; rfl
        obtain ⟨I3, h3⟩ : ∃ I3, I3 = up2 I2 212 l (-1) := ⟨_, rfl⟩
        have k3 : kRp I2 I3 L2 L2 := by rw [h3]; exact kRp.up (.inl rfl)
        have k3' : ∀ x, x ≠ 212 → I3 x = I2 x := fun x hx => by rw [h3, up2_ne _ _ _ hx]
        have hT3 : TK (pW P) (T ||| 2 ^ l) (up1 w l (-1)) := fun j hj => by
          rw [Nat.testBit_or, Nat.testBit_two_pow, hT j hj]
          by_cases z2 : l = j
          · subst z2
            rw [up1_self, decide_eq_true (show l = l from rfl), Bool.or_true, decide_eq_true ⟨by omega, by decide⟩]
          · rw [decide_eq_false z2, Bool.or_false, up1_ne _ _ (fun q => z2 q.symm)]
        obtain ⟨I4, L4, z1, z2, z3, z4⟩ := ih F (l + 1) (T ||| 2 ^ l) I3 L2 (up1 w l (-1)) true a2 (by omega) (by omega) (by rw [(y2.tr k3).kn]; exact hK) ((y2.tr k3).lk hk) ⟨fun j hj hne => by
          rw [h3, up2_row]
          by_cases z2 : j = l
          · subst z2; rw [up1_self, up1_self]
          · rw [up1_ne _ _ z2] at hne ⊢
            rw [up1_ne _ _ z2]; exact y3.1 j hj hne, fun j h5 h6 => by
          rw [h3, up2_row, up1_ne _ _ (by omega)]; exact y3.2 j h5 h6⟩ (hW.one (by omega)) hT3 (by
            unfold RPq at *
            rw [k3' _ (by decide), k3' _ (by decide), k3' _ (by decide)]; exact y4) y5 y6
        rw [Bool.not_true, Bool.and_false] at z1
        refine ⟨I4, L4, ?_, ?_, (y2.tr k3).tr z3, ⟨fun j hj hne => ?_, z4.2⟩⟩
        · rw [ob, if_neg (by decide), gr_197_35 hs, Option.bind_some, si_212 hs (by omega), Option.bind_some, ← h3, sh1 (show l < 31 by omega), nI_or, cv_197 hs]
          rw [show (0 : Int32) = b2i false from rfl, z1, Option.bind_some]
        · rw [if_pos o]; exact z2
        · have zl : j ≠ l := fun q => hne (q ▸ e)
          have := z4.1 j hj (by rw [up1_ne _ _ zl]; exact hne)
          rw [up1_ne _ _ zl] at this; exact this
      · have ob : (decide (pW P % 2 = 1) && !b) = false := by
          cases b with
          | true => rw [Bool.not_true, Bool.and_false]
          | false => rw [decide_eq_false (fun z => o ⟨z, rfl⟩), Bool.false_and]
        refine ⟨I2, L2, ?_, ?_, y2, y3⟩
        · rw [ob, if_pos (show b2i false = 0 from rfl)]
        · rw [if_neg o]; exact y4
    · obtain ⟨I', L', z1, z2, z3, z4⟩ := ih F (l + 1) T I L w b a (by omega) (by omega) hK hk hm ⟨hW.1, fun j hj => by
        by_cases y : j = l
        · rw [y]; exact e
        · exact hW.2 j (by omega)⟩ hT hq hQ (by omega)
      refine ⟨I', L', z1, ?_, z3, z4⟩
      unfold aPF
      rw [if_neg e]; exact z2
theorem e_m1L (hs : St S R) {L : mkL} : ∀ (r g l : Nat) (I : mkI), l + r = 8 → r < g → ∃ I', F_X12_laysPairs_18 g (some 197) (nI l) (mk S I L R n) = F_X12_laysPairs_18 1 (some 197) 8 (mk S I' L R n) ∧ (∀ x, x ≠ 212 → I' x = I x) ∧ (∀ j, j < l → I' 212 j = I 212 j) ∧ ∀ j, l ≤ j → j < 8 → I' 212 j = -1 := by
  intro r
  induction r with
  | zero =>
    intro g l I hl hg
    obtain ⟨g, rfl⟩ : ∃ y, g = y + 1 := ⟨g - 1, by omega⟩
    have : l = 8 := by omega
    subst this
    refine ⟨I, ?_, fun _ _ => rfl, fun _ _ => rfl, fun j h1 h2 => by omega⟩
    simp only [F_X12_laysPairs_18]
    rw [if_pos (show (8 : Int32) ≤ nI 8 by decide), if_pos (show (8 : Int32) ≤ 8 by decide)]
  | succ r ih =>
    intro g l I hl hg
    obtain ⟨g, rfl⟩ : ∃ y, g = y + 1 := ⟨g - 1, by omega⟩
    obtain ⟨I', q1, q2, q3, q4⟩ := ih g (l + 1) (up2 I 212 l (-1)) (by omega) (by omega)
    refine ⟨I', ?_, fun x hx => by rw [q2 x hx, up2_ne _ _ _ hx], fun j hj => by rw [q3 j (by omega), up2_row, up1_ne _ _ (by omega)], fun j h1 h2 => ?_⟩
    · rw [← q1]
      have : F_X12_laysPairs_18 (g + 1) (some 197) (nI l) (mk S I L R n) = F_X12_laysPairs_18 g (some 197) (nI (l + 1)) (mk S (up2 I 212 l (-1)) L R n) := by
        simp only [F_X12_laysPairs_18]
        rw [if_neg (ge_li 8 (by omega) (by decide)), gr_197_35 hs, Option.bind_some, si_212 hs (by omega), Option.bind_some, nI_1]
      exact this
    · by_cases e : j = l
      · rw [e, q3 l (by omega), up2_self]
      · exact q4 j (by omega) h2
theorem e_laysPairs (hs : St S R) (hP : PlOK P) (I : mkI) (L : mkL) (hK : RPlan P (I 198)) : ∃ I' L', F_X12_laysPairs (some 197) (mk S I L R n) = some (mk S I' L' R n) ∧ RPq (aSurvey P) I' L' ∧ scQ I I' ∧ (∀ j, j ≠ 38 → I' 197 j = I 197 j) ∧ I' 198 = I 198 ∧ ∀ x, x ≠ 197 → L' x = L x := by
  have w1 := hP.1
  have w2 := hP.2.1
  obtain ⟨I1, p1, p2, p3⟩ := e_layLk (L := L) (n := n) hs hP I hK
  obtain ⟨I2, h2⟩ : ∃ I2, I2 = up2 I1 197 38 0 := ⟨_, rfl⟩
  have k2 : ∀ x, x ≠ 197 → I2 x = I1 x := fun x hx => by rw [h2, up2_ne _ _ _ hx]
  obtain ⟨L2, hL2⟩ : ∃ L2, L2 = up2 L 197 39 (-9223372036854775808) := ⟨_, rfl⟩
  obtain ⟨I3, q1, q2, -, q4⟩ := e_m1L (n := n) (L := L2) hs 8 mm_N 0 I2 rfl (by unfold mm_N; decide)
  have kn3 : I3 198 = I 198 := by rw [q2 _ (by decide), k2 _ (by decide), p2 _ (by decide) (by decide) (by decide)]
  have hlk3 : RLk P I3 := by unfold RLk; rw [q2 _ (by decide), k2 _ (by decide)]; exact p3
  have hfac : ∀ W, W < 9 → fac W ≤ 40320 := by decide
  have hf := hfac _ (show pW P < 9 by omega)
  obtain ⟨I4, L4, z1, z2, z3, z4⟩ := e_goes (n := n) hs hP (pW P) 64 0 0 I3 L2 (fun _ => -2) false (0, fun _ => -1, false, 0, fun _ => -1) (by omega) (by omega) (by rw [kn3]; exact hK.2.1) hlk3 ⟨fun j _ h => absurd rfl h, fun j h1 h3 => q4 j (Nat.zero_le _) h3⟩ ⟨fun j _ => .inl rfl, fun j h => absurd h (Nat.not_lt_zero _)⟩ (fun j _ => by rw [Nat.zero_testBit]; exact (decide_eq_false (fun z => z.2 rfl)).symm) ⟨by rw [q2 _ (by decide), h2, up2_self]; rfl, by rw [hL2, up2_self]; exact (if_neg (by decide)).symm, fun h => absurd rfl h, fun h => by cases h⟩ ⟨fun _ _ => ⟨rfl, rfl⟩, fun _ _ => rfl, fun _ => ⟨rfl, fun _ => rfl⟩⟩ (by show 0 + fac (pW P) < _; omega)
  have m3 : ∀ j, j ≠ 38 → I3 197 j = I 197 j := fun j hj => by rw [q2 _ (by decide), h2, up2_row, up1_ne _ _ hj, p2 _ (by decide) (by decide) (by decide)]
  refine ⟨I4, L4, ?_, z2, ⟨fun x a1 a2 a3 a4 a5 => ?_, fun j hj => by rw [z3.2.1 j (by omega), m3 j (by omega)]⟩, fun j hj => by rw [z3.2.1 j hj, m3 j hj], by rw [z3.kn, kn3], fun x hx => by rw [z3.2.2 x hx, hL2, up2_ne _ _ _ hx]⟩
  · unfold F_X12_laysPairs
    rw [cv_197 hs, p1, Option.bind_some, pi_197_38 hs, Option.bind_some, ← h2, pl_197_39 hs, Option.bind_some, ← hL2]
    refine q1.trans ?_
    simp only [F_X12_laysPairs_18, F_X12_laysPairs_56]
    rw [if_pos (by decide), gr_197_0 hs, Option.bind_some, show aI (mk S I3 L2 R n) (some 198) 0 1 = some (I3 198 1) from ai_198 (k := 1) hs (by omega), Option.bind_some, kn3, hK.2.1, rem2 (by omega)]
    by_cases o : pW P % 2 = 1
    · rw [decide_eq_true o] at z1
      rw [o, if_pos (by decide), cv_197 hs]
      exact (congrArg (fun q => q.bind fun h => some h) z1)
    · rw [decide_eq_false o] at z1
      rw [if_neg (show ¬ nI (pW P % 2) = 1 from fun q => o ((nI_eq (b := 1) (by omega) (by omega)).mp q)), cv_197 hs]
      exact (congrArg (fun q => q.bind fun h => some h) z1)
  · rw [z3.1 x (by show x ≠ 197; omega) (by show x ≠ 212; omega) (by show x ≠ 213; omega) (by show x ≠ 214; omega), q2 x (by show x ≠ 212; omega), k2 x (by show x ≠ 197; omega), p2 x (by show x ≠ 211; omega) a4 a3]
end EPF
