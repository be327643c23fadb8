/-! the reference reads a law: steps -/
def PsR (Z : CX0) (B : BT) (w d : Nat) (t : TKN) (l : List Nat) (I : mkI) : Prop := Low Z.1 Z.2.1 Z.2.2.1 I Z.2.2.2 ∧ TpR B.1 B.2 I ∧ TkR B.1 t I ∧ I 197 12 = 0 ∧ I 197 16 = nI d ∧ I 197 17 = nI (3 + w) ∧ I 197 18 = nI (501 + 900 * w) ∧ I 199 (3 + w) = nI l.length ∧ ∀ j, j < l.length → I 199 (501 + 900 * w + j) = nI (gam (l.getD j 0))
def FlR (e : Nat × Nat) (I : mkI) : Prop := I 197 12 = nI e.1 ∧ I 197 13 = nI e.2 ∧ 1 ≤ e.1 ∧ e.1 ≤ 4
def kE (w : Nat) (I I' : mkI) : Prop := (∀ x, x ≠ 197 → x ≠ 199 → I' x = I x) ∧ (∀ j, ¬ (8 ≤ j ∧ j ≤ 13) → j ≠ 16 → I' 197 j = I 197 j) ∧ ∀ j, j ≠ 3 + w → ¬ (501 + 900 * w ≤ j ∧ j < 1401 + 900 * w) → I' 199 j = I 199 j
theorem kE.rf {w : Nat} {I : mkI} : kE w I I := ⟨fun _ _ _ => rfl, fun _ _ _ => rfl, fun _ _ _ => rfl⟩
theorem kE.tr {w : Nat} {I I' I'' : mkI} (h : kE w I I') (h2 : kE w I' I'') : kE w I I'' := ⟨fun x a b => (h2.1 x a b).trans (h.1 x a b), fun j a b => (h2.2.1 j a b).trans (h.2.1 j a b), fun j a b => (h2.2.2 j a b).trans (h.2.2 j a b)⟩
theorem kM.e {w : Nat} {I I' : mkI} (h : kM I I') : kE w I I' := ⟨fun x a _ => h.1 x a, fun j a _ => h.2 j (by omega), fun j _ _ => by rw [h.1 _ (by decide)]⟩
theorem kE.low {Ls : Nat} {xs : Nat → Int32} {S : mkS} {R : mkR} {w : Nat} {I I' : mkI} (k : kE w I I') (h : Low Ls xs S I R) : Low Ls xs S I' R := h.fr (fun _ _ => rfl) (fun a ha => k.1 a (by show a ≠ 197; omega) (by show a ≠ 199; omega)) (fun _ _ => rfl)
def EO (Z : CX0) (B : BT) (w d : Nat) (l : List Nat) (r : LR) (I' : mkI) : Prop := match r with
  | .inl e => FlR e I'
  | .inr (t', l') => PsR Z B w d t' (l ++ l') I'
section EL
variable {Ls : Nat} {xs : Nat → Int32} {S : mkS} {L : mkL} {R : mkR} {n : Nat × Nat} {B : BT} {w d : Nat}
def ESp (Ls : Nat) (xs : Nat → Int32) (S : mkS) (L : mkL) (R : mkR) (n : Nat × Nat) (B : BT) (w d : Nat) (φ : MH → Option MH) (f : TKN → LR) : Prop := ∀ t l I, PsR (Ls, xs, S, R) B w d t l I → TKg B.1 B.2 t → l.length ≤ t.1 → ∃ I', φ (mk S I L R n) = some (mk S I' L R n) ∧ EO (Ls, xs, S, R) B w d l (f t) I' ∧ kE w I I'
theorem PsR.k {t t' : TKN} {l : List Nat} {I I' : mkI} (h : PsR (Ls, xs, S, R) B w d t l I) (k : kM I I') (ht : TkR B.1 t' I') : PsR (Ls, xs, S, R) B w d t' l I' := by
  obtain ⟨h1, h2, h3, h4, h5, h6, h7, h8, h9⟩ := h
  exact ⟨(kM.e (w := w) k).low h1, k.tp h2, ht, by rw [k.2 12 (by omega)]; exact h4, by rw [k.2 16 (by omega)]; exact h5, by rw [k.2 17 (by omega)]; exact h6, by rw [k.2 18 (by omega)]; exact h7, by rw [k.1 _ (by decide)]; exact h8, by rw [k.1 _ (by decide)]; exact h9⟩
theorem e_adv (hs : St S R) {t : TKN} {l : List Nat} {I : mkI} (h : PsR (Ls, xs, S, R) B w d t l I) (hg : TKg B.1 B.2 t) : ∃ I', F_X12_readsOn (some 197) (mk S I L R n) = some (mk S I' L R n) ∧ PsR (Ls, xs, S, R) B w d (nx B t) l I' ∧ kM I I' := by
  obtain ⟨I', q1, q2, q3⟩ := e_readsOn (L := L) (n := n) hs h.2.1 hg.1.2.1 h.2.2.1.1
  exact ⟨I', q1, h.k q3 q2, q3⟩
/-- a fault's place and kind laid -/
theorem e_blames0 (hs : St S R) {t : TKN} {I : mkI} (hk : TkR B.1 t I) (h0 : I 197 12 = 0) (hg : TKg B.1 B.2 t) {k : Nat} (hk4 : 1 ≤ k ∧ k ≤ 4) : ∃ I', F_X12_blames (some 197) (nI k) (mk S I L R n) = some (mk S I' L R n) ∧ FlR (rf t k) I' ∧ (∀ x, x ≠ 197 → I' x = I x) ∧ ∀ j, j ≠ 12 → j ≠ 13 → I' 197 j = I 197 j := by
  obtain ⟨r1, -, r3, -⟩ := rtk_all hg
  have go : ∀ f : Nat, 1 ≤ f ∧ f ≤ 4 → ∃ I', F_X12_blames_22 (some 197) (nI f) (some 197) (mk S I L R n) = some (mk S I' L R n) ∧ FlR (f, t.1) I' ∧ (∀ x, x ≠ 197 → I' x = I x) ∧ ∀ j, j ≠ 12 → j ≠ 13 → I' 197 j = I 197 j := fun f hf => by
    unfold F_X12_blames_22
    rw [pi_197_12 hs, Option.bind_some, gi_197_9 hs, Option.bind_some, up2_row, up1_ne _ _ (by decide), hk.2.1, pi_197_13 hs, Option.bind_some]
    exact ⟨_, rfl, ⟨by rw [up2_row, up1_ne _ _ (by decide), up2_self], up2_self _ _ _ _, hf.1, hf.2⟩, fun x a => by rw [up2_ne _ _ _ a, up2_ne _ _ _ a], fun j a b => by rw [up2_row, up1_ne _ _ b, up2_row, up1_ne _ _ a]⟩
  unfold F_X12_blames rf
  rw [gi_197_12 hs, Option.bind_some, h0, if_pos rfl, gi_197_10 hs, Option.bind_some, hk.2.2.1]
  by_cases e : t.2.2 = 1
  · rw [if_pos (show nI (rtk B.1 t) = 3 by rw [r3.mpr e]; rfl), if_pos e]
    exact go 1 (by omega)
  · rw [if_neg (show ¬ nI (rtk B.1 t) = 3 from fun z => e (r3.mp ((nI_eq (b := 3) (by omega) (by omega)).mp z))), if_neg e]
    exact go k hk4
theorem e_blames (hs : St S R) {t : TKN} {l : List Nat} {I : mkI} (h : PsR (Ls, xs, S, R) B w d t l I) (hg : TKg B.1 B.2 t) {k : Nat} (hk4 : 1 ≤ k ∧ k ≤ 4) : ∃ I', F_X12_blames (some 197) (nI k) (mk S I L R n) = some (mk S I' L R n) ∧ FlR (rf t k) I' ∧ kE w I I' ∧ I' 197 10 = I 197 10 ∧ I' 197 16 = I 197 16 := by
  obtain ⟨I', q1, q2, q3, q4⟩ := e_blames0 (L := L) (n := n) hs h.2.2.1 h.2.2.2.1 hg hk4
  exact ⟨I', q1, q2, ⟨fun x a _ => q3 x a, fun j a _ => q4 j (by omega) (by omega), fun j _ _ => by rw [q3 _ (by decide)]⟩, q4 10 (by decide) (by decide), q4 16 (by decide) (by decide)⟩
/-- nothing more happens behind a fault -/
theorem FlR.ne {e : Nat × Nat} {I : mkI} (h : FlR e I) : ¬ I 197 12 = 0 := by
  rw [h.1]
  intro z
  have := (nI_eq (b := 0) (by have := h.2.2.2; omega) (by omega)).mp z
  have := h.2.2.1
  omega
theorem e_blamesF (hs : St S R) {I : mkI} (h : ¬ I 197 12 = 0) (k : Int32) : F_X12_blames (some 197) k (mk S I L R n) = some (mk S I L R n) := by
  unfold F_X12_blames
  rw [gi_197_12 hs, Option.bind_some, if_neg h]
theorem e_isWordF (hs : St S R) {I : mkI} (h : ¬ I 197 12 = 0) (a : Option Nat) : F_X12_isWord (some 197) a (mk S I L R n) = some (0, mk S I L R n) := by
  obtain ⟨g, eg⟩ : ∃ g, mm_N = g + 1 := ⟨mm_N - 1, by unfold mm_N; omega⟩
  unfold F_X12_isWord F_X12_isWord_35 F_X12_isWord_36
  rw [gi_197_12 hs, Option.bind_some, if_neg h, eg]
  simp only [F_X12_isWord_39, F_X12_isWord_82]
  rw [if_pos trivial, rZ_0]
  rfl
theorem e_tookF (hs : St S R) {I : mkI} (h : ¬ I 197 12 = 0) (a : Option Nat) : F_X12_took (some 197) a (mk S I L R n) = some (0, mk S I L R n) := by
  unfold F_X12_took F_X12_took_14
  rw [cv_197 hs, e_isWordF hs h, b2_some, if_pos rfl, rZ_0]
  rfl
theorem e_isSignF (hs : St S R) {I : mkI} (h : ¬ I 197 12 = 0) (c : Int32) : F_X12_isSign (some 197) c (mk S I L R n) = some (0, mk S I L R n) := by
  unfold F_X12_isSign F_X12_isSign_19 F_X12_isSign_20
  rw [gi_197_12 hs, Option.bind_some, if_neg h, rZ_0]
  rfl
theorem e_mustSignF (hs : St S R) {I : mkI} (h : ¬ I 197 12 = 0) (c : Int32) : F_X12_mustSign (some 197) c (mk S I L R n) = some (mk S I L R n) := by
  unfold F_X12_mustSign F_X12_mustSign_13 F_X12_mustSign_24
  rw [gi_197_10 hs, Option.bind_some, gi_197_12 hs, Option.bind_some, if_neg h, cv_197 hs, e_blamesF hs h, Option.bind_some, gi_197_12 hs, Option.bind_some, if_neg h, ite_self]
theorem e_laysF (hs : St S R) {I : mkI} (h : ¬ I 197 12 = 0) (o : Int32) : F_X12_laysStep (some 197) o (mk S I L R n) = some (mk S I L R n) := by
  unfold F_X12_laysStep
  rw [gi_197_12 hs, Option.bind_some, if_neg h]
theorem e_sign (hs : St S R) {t : TKN} {l : List Nat} {I : mkI} (h : PsR (Ls, xs, S, R) B w d t l I) (hg : TKg B.1 B.2 t) {c : Nat} (hc : 40 ≤ c ∧ c < 128) : F_X12_isSign (some 197) (nI c) (mk S I L R n) = some (b2i (sgB B.1 t c), mk S I L R n) := by
  obtain ⟨r1, -, -, -, -, r6⟩ := rtk_all hg
  unfold F_X12_isSign F_X12_isSign_19 F_X12_isSign_20 sgB
  rw [gi_197_12 hs, Option.bind_some, h.2.2.2.1, if_pos rfl, gi_197_10 hs, Option.bind_some, h.2.2.1.2.2.1, rZ_1, rZ_0]
  by_cases e : t.2.2 = 4 ∧ B.1 t.1 = c
  · rw [if_pos (by rw [(r6 c hc.1).mpr e]), decide_eq_true e.1, decide_eq_true e.2]; rfl
  · rw [if_neg (fun z => e ((r6 c hc.1).mp ((nI_eq (by omega) (by omega)).mp z)))]
    by_cases e1 : t.2.2 = 4
    · rw [decide_eq_true e1, decide_eq_false (fun z => e ⟨e1, z⟩)]; rfl
    · rw [decide_eq_false e1]; rfl
theorem e_mustSign (hs : St S R) {t : TKN} {l : List Nat} {I : mkI} (h : PsR (Ls, xs, S, R) B w d t l I) (hg : TKg B.1 B.2 t) {c : Nat} (hc : 40 ≤ c ∧ c < 128) : ∃ I', F_X12_mustSign (some 197) (nI c) (mk S I L R n) = some (mk S I' L R n) ∧ (if sgB B.1 t c = true then PsR (Ls, xs, S, R) B w d (nx B t) l I' else FlR (rf t 2) I') ∧ kE w I I' := by
  obtain ⟨r1, -, -, -, -, r6⟩ := rtk_all hg
  have esg : sgB B.1 t c = true ↔ nI (rtk B.1 t) = nI c := by
    unfold sgB
    rw [Bool.and_eq_true, decide_eq_true_eq, decide_eq_true_eq, nI_eq (by omega) (by omega), r6 c hc.1]
  unfold F_X12_mustSign F_X12_mustSign_13 F_X12_mustSign_24
  rw [gi_197_10 hs, Option.bind_some, h.2.2.1.2.2.1]
  by_cases e : sgB B.1 t c = true
  · obtain ⟨I', q1, q2, q3⟩ := e_adv (L := L) (n := n) hs h hg
    rw [if_pos (esg.mp e), gi_197_12 hs, Option.bind_some, h.2.2.2.1, if_pos rfl, cv_197 hs, q1, Option.bind_some]
    exact ⟨I', rfl, by rw [if_pos e]; exact q2, q3.e⟩
  · obtain ⟨I', q1, q2, q3, -⟩ := e_blames (L := L) (n := n) hs h hg (k := 2) (by omega)
    rw [if_neg (fun z => e (esg.mpr z)), cv_197 hs, show F_X12_blames (some 197) 2 (mk S I L R n) = _ from q1, Option.bind_some, gi_197_12 hs, Option.bind_some, if_neg q2.ne]
    exact ⟨I', rfl, by rw [if_neg e]; exact q2, q3⟩
theorem e_laysO (hs : St S R) (hw : w ≤ 2) {t : TKN} {l : List Nat} {I : mkI} (h : PsR (Ls, xs, S, R) B w d t l I) (hl : l.length < 900) (o : Nat) : ∃ I', F_X12_laysStep (some 197) (nI (gam o)) (mk S I L R n) = some (mk S I' L R n) ∧ PsR (Ls, xs, S, R) B w d t (l ++ [o]) I' ∧ kE w I I' := by
  obtain ⟨h1, h2, h3, h4, h5, h6, h7, h8, h9⟩ := h
  obtain ⟨J, hJ⟩ : ∃ J, J = up2 (up2 I 199 (501 + 900 * w + l.length) (nI (gam o))) 199 (3 + w) (nI (l.length + 1)) := ⟨_, rfl⟩
  have kJ : ∀ x, x ≠ 199 → J x = I x := fun x hx => by rw [hJ, up2_ne _ _ _ hx, up2_ne _ _ _ hx]
  have k1 : kE w I J := ⟨fun x _ b => kJ x b, fun j _ _ => by rw [kJ _ (by decide)], fun j a b => by rw [hJ, up2_row, up1_ne _ _ a, up2_row, up1_ne _ _ (by omega)]⟩
  refine ⟨J, ?_, ⟨k1.low h1, by unfold TpR; rw [kJ _ (by decide), kJ _ (by decide)]; exact h2, by unfold TkR; rw [kJ _ (by decide)]; exact h3, by rw [kJ _ (by decide)]; exact h4, by rw [kJ _ (by decide)]; exact h5, by rw [kJ _ (by decide)]; exact h6, by rw [kJ _ (by decide)]; exact h7, by rw [hJ, up2_self, List.length_append]; rfl, fun j hj => ?_⟩, k1⟩
  · unfold F_X12_laysStep
    rw [gi_197_12 hs, Option.bind_some, h4, if_pos rfl, gr_197_1 hs, Option.bind_some, gi_197_18 hs, Option.bind_some, Option.bind_some, gi_197_17 hs, Option.bind_some, h6, h7, ai_199 hs (by omega), Option.bind_some, h8, nI_add, si_199 hs (by omega), Option.bind_some, gr_197_1 hs, Option.bind_some, gi_197_17 hs, Option.bind_some, up2_ne _ _ _ (by decide), h6, ai_199 hs (by omega), Option.bind_some, up2_row, up1_ne _ _ (by omega), h8, nI_1, si_199 hs (by omega), Option.bind_some, ← hJ]
  · rw [List.length_append] at hj
    have hj' : j < l.length + 1 := hj
    rw [hJ, up2_row, up1_ne _ _ (by omega), up2_row]
    by_cases e : j = l.length
    · rw [e, up1_self, getD_last]
    · rw [up1_ne _ _ (by omega), getD_fst _ (by omega)]; exact h9 j (by omega)
end EL
