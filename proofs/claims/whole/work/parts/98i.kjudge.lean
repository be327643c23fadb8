/-! judge -/
abbrev JR : Type := GS × Int32 × Int32
def aJdg (P : PL) (nu : Nat → Int64) : Nat → Nat → GS → JR
  | 0, _, s => (s, 0, -1)
  | r + 1, i, s => if aWhy (pW P) s.1.1 s.1.2 (nu i) = 0 then aJdg P nu r (i + 1) (aDo P s (nu i)) else (s, aWhy (pW P) s.1.1 s.1.2 (nu i), nI i)
def jv (P : PL) (what : Int32) (J : JR) : Int32 := if what = 0 then J.2.2 else if what = 1 then J.2.1 else if what = 2 then nI (aCnt J.1.1.1 J.1.1.2 3).length else nI (aTwosL J.1.1.2 (pW P) 0 0)
section JD
variable {S : mkS} {L : mkL} {R : mkR} {n : Nat × Nat} {p : Nat} {P : PL}
theorem c_jdgL (hs : St S R) (hP : PlOK P) (hw : LW S) (hb : BdS S R 181 182 183) (hpl : R 181 2 = some p) {t ma : Nat} {nu : Nat → Int64} (ht : t < 4) (hma : ma ≤ 30) (hl : ∀ j, j < ma → L (190 + 2 * t) j = nu j) (what : Int32) : ∀ (r g i : Nat) (I : mkI) (s : GS), i + r = ma → r + 1 < g → CPlan P S R I p → I (189 + 2 * t) 2 = nI ma → I 182 = s.1.2 → GI P s → s.2.2 + r ≤ 200000 → ∃ I', F_X11_judge_32 g (some 128) what (some (189 + 2 * t)) 0 (-1) (nI i) (mk S I L R n) = F_X11_judge_92 (some 128) what (aJdg P nu r i s).2.1 (aJdg P nu r i s).2.2 (mk S I' L R n) ∧ I' 182 = (aJdg P nu r i s).1.1.2 ∧ GI P (aJdg P nu r i s).1 ∧ CPlan P S R I' p ∧ ∀ x, ¬ scr x → S (x - 2) ≠ (14, 0) → I' x = I x := by
  intro r
  induction r with
  | zero =>
    intro g i I s hi hg hp h2 hI hG hM
    obtain ⟨g, rfl⟩ : ∃ y, g = y + 1 := ⟨g - 1, by omega⟩
    refine ⟨I, ?_, hI, hG, hp, fun _ _ _ => rfl⟩
    simp only [F_X11_judge_32]
    rw [tr_v hs ht, c_many hs ht hma h2, b2_some, if_pos (nI_le (by omega) (by omega))]
    rfl
  | succ r ih =>
    intro g i I s hi hg hp h2 hI hG hM
    obtain ⟨g, rfl⟩ : ∃ y, g = y + 1 := ⟨g - 1, by omega⟩
    have hG0 := hG
    obtain ⟨F, T, D, hB⟩ := hG0
    have hC := hB.1.1
    have hwhy := c_whyTold (L := L) (n := n) hP hb hpl hp hC (show I 182 1 = nI s.1.1 by rw [hI]; exact hB.1.2.1) (nu i)
    rw [hI] at hwhy
    have head : F_X11_judge_32 (g + 1) (some 128) what (some (189 + 2 * t)) 0 (-1) (nI i) (mk S I L R n) = if aWhy (pW P) s.1.1 s.1.2 (nu i) = 0 then (F_X0_doTold (some 181) (nu i) (mk S I L R n)).bind fun h76 => F_X11_judge_32 g (some 128) what (some (189 + 2 * t)) (aWhy (pW P) s.1.1 s.1.2 (nu i)) (-1) (nI (i + 1)) h76 else F_X11_judge_32 g (some 128) what (some (189 + 2 * t)) (aWhy (pW P) s.1.1 s.1.2 (nu i)) (nI i) (nI (i + 1)) (mk S I L R n) := by
      simp only [F_X11_judge_32, F_X11_judge_86]
      rw [tr_v hs ht, c_many hs ht hma h2, b2_some, if_neg (nI_ge (by omega) (by omega)), if_pos trivial, gr_128_7 hs, Option.bind_some, tr_v hs ht, c_at hs ht hma h2 (by omega), b2_some, hl i (by omega), bd_v hb, hwhy, b2_some, nI_1, gr_128_7 hs, Option.bind_some, tr_v hs ht, c_at hs ht hma h2 (by omega), b2_some, hl i (by omega), bd_v hb]
    rw [head, aJdg]
    by_cases e : aWhy (pW P) s.1.1 s.1.2 (nu i) = 0
    · obtain ⟨o1, o2, -⟩ := aDo_ok hP hG (by omega) e
      obtain ⟨I1, q1, q2, q3⟩ := c_doTold (L := L) (n := n) hP hw hb (cos_t hs) npa_t hpl hp hI hG (by omega) e
      have kI : ∀ x, ¬ scr x → S (x - 2) ≠ (14, 0) → I1 x = I x := fun x z1 z2 => q3 x (by unfold scr at z1; show x ≠ 182; omega) (by unfold scr at z1; show x ≠ 183; omega) (by unfold scr at z1; omega) (by unfold scr at z1; omega) (by unfold scr at z1; omega) (by unfold scr at z1; omega) (by unfold scr at z1; omega) z2
      have htr : S (189 + 2 * t - 2) ≠ (14, 0) := hs.nst hw (by omega) (by omega)
      obtain ⟨I', z1, z2, z3, z4, z5⟩ := ih g (i + 1) I1 (aDo P s (nu i)) (by omega) (by omega) (hp.keep hw (fun x q q2 => kI x (by unfold pa at q; unfold scr; omega) q2)) (by rw [kI _ (by unfold scr; omega) htr]; exact h2) q2 o1 (by omega)
      refine ⟨I', ?_, ?_, ?_, z4, fun x y1 y2 => by rw [z5 x y1 y2, kI x y1 y2]⟩
      · rw [if_pos e, if_pos e, q1, Option.bind_some, e]; exact z1
      · rw [if_pos e]; exact z2
      · rw [if_pos e]; exact z3
    · refine ⟨I, ?_, by rw [if_neg e]; exact hI, by rw [if_neg e]; exact hG, hp, fun _ _ _ => rfl⟩
      rw [if_neg e, if_neg e]
      obtain ⟨g, rfl⟩ : ∃ y, g = y + 1 := ⟨g - 1, by omega⟩
      simp only [F_X11_judge_32]
      rw [tr_v hs ht, c_many hs ht hma h2, b2_some]
      by_cases y : nI ma ≤ nI (i + 1)
      · rw [if_pos y]
      · rw [if_neg y, if_neg e]
theorem c_j92 (hs : St S R) (hP : PlOK P) {I : mkI} (hb : BdS S R 181 182 183) (hpl : R 181 2 = some p) (hp : CPlan P S R I p) {J : JR} (hI : I 182 = J.1.1.2) (hG : GI P J.1) (what : Int32) : F_X11_judge_92 (some 128) what J.2.1 J.2.2 (mk S I L R n) = some (.inr (jv P what J), mk S I L R n) := by
  obtain ⟨F, T, D, hB⟩ := hG
  unfold F_X11_judge_92 F_X11_judge_130 jv
  rw [gr_128_7 hs, Option.bind_some, bd_v hb, c_tally hb hB.1.1 (by rw [hI]; exact hB.1.2.1), b2_some, Option.bind_some, bd_v hb, c_twos hP hb hpl hp, b2_some, hI]
  by_cases e0 : what = 0
  · rw [if_pos e0, if_pos e0]
  · rw [if_neg e0, if_neg e0]
    by_cases e1 : what = 1
    · rw [if_pos e1, if_pos e1]
    · rw [if_neg e1, if_neg e1]
      by_cases e2 : what = 2
      · rw [if_pos e2, if_pos e2]
      · rw [if_neg e2, if_neg e2]
/-! the reference -/
def kTo (I I' : mkI) : Prop := (∀ a, a ≠ 197 → a ≠ 198 → a ≠ 203 → a ≠ 204 → I' a = I a) ∧ (∀ k, k ≠ 22 → I' 197 k = I 197 k) ∧ ∀ k, k < 7 ∨ (48 ≤ k ∧ k < 51) ∨ 91 ≤ k → I' 198 k = I 198 k
theorem kTo.rf {I : mkI} : kTo I I := ⟨fun _ _ _ _ _ => rfl, fun _ _ => rfl, fun _ _ => rfl⟩
theorem kTo.tr {I I' I'' : mkI} (h : kTo I I') (h2 : kTo I' I'') : kTo I I'' := ⟨fun a b c d e => (h2.1 a b c d e).trans (h.1 a b c d e), fun k q => (h2.2.1 k q).trans (h.2.1 k q), fun k q => (h2.2.2 k q).trans (h.2.2 k q)⟩
theorem RTl.to {t ma : Nat} {nu : Nat → Int64} {I I' : mkI} (h : RTl t ma nu I L) (k : kTo I I') : RTl t ma nu I' L := by
  obtain ⟨t1, t2, t3, t4, t5⟩ := h
  exact ⟨t1, t2, by rw [k.1 _ (by decide) (by decide) (by decide) (by decide)]; exact t3, by rw [k.1 _ (by decide) (by decide) (by decide) (by decide)]; exact t4, t5⟩
theorem e_jdgL (hs : St S R) (hP : PlOK P) {t ma : Nat} {nu : Nat → Int64} (what : Int32) : ∀ (r g i : Nat) (I : mkI) (s : GS), i + r = ma → r + 1 < g → RTl t ma nu I L → RPlan P (I 198) → RBoard s.1.1 s.1.2 (I 198) → (∀ j, j < 10 → I 205 j = -1) → GI P s → s.2.2 + r ≤ 200000 → ∃ I', F_X12_judge_83 g (some 197) (nI t) what (-1) 0 (nI i) (mk S I L R n) = F_X12_judge_151 (some 197) what (aJdg P nu r i s).2.2 (aJdg P nu r i s).2.1 (mk S I' L R n) ∧ RBoard (aJdg P nu r i s).1.1.1 (aJdg P nu r i s).1.1.2 (I' 198) ∧ kTo I I' := by
  intro r
  induction r with
  | zero =>
    intro g i I s hi hg hT hK hB hf hG hM
    obtain ⟨ht, hma, -, h4, h5⟩ := id hT
    obtain ⟨g, rfl⟩ : ∃ y, g = y + 1 := ⟨g - 1, by omega⟩
    refine ⟨I, ?_, hB, kTo.rf⟩
    simp only [F_X12_judge_83]
    rw [gr_197_46 hs, Option.bind_some, ai_218 hs ht, Option.bind_some, h4, if_pos (nI_le (by omega) (by omega))]
    rfl
  | succ r ih =>
    intro g i I s hi hg hT hK hB hf hG hM
    obtain ⟨ht, hma, -, h4, h5⟩ := id hT
    obtain ⟨g, rfl⟩ : ∃ y, g = y + 1 := ⟨g - 1, by omega⟩
    have e9 : (30 : Int32) * nI t + nI i = nI (30 * t + i) := by
      rw [show (30 : Int32) = nI 30 from rfl, nI_mul9, nI_add]
    have hwhy := e_whyTold (L := L) (n := n) hs hP hK.2.1 hB (nu i)
    have head : F_X12_judge_83 (g + 1) (some 197) (nI t) what (-1) 0 (nI i) (mk S I L R n) = if aWhy (pW P) s.1.1 s.1.2 (nu i) = 0 then (F_X12_does (some 197) (nu i).toInt32 (mk S I L R n)).bind fun h136 => F_X12_judge_83 g (some 197) (nI t) what (-1) (aWhy (pW P) s.1.1 s.1.2 (nu i)) (nI (i + 1)) h136 else F_X12_judge_83 g (some 197) (nI t) what (nI i) (aWhy (pW P) s.1.1 s.1.2 (nu i)) (nI (i + 1)) (mk S I L R n) := by
      simp only [F_X12_judge_83, F_X12_judge_145]
      rw [gr_197_46 hs, Option.bind_some, ai_218 hs ht, Option.bind_some, h4, if_neg (nI_ge (by omega) (by omega)), if_pos trivial, gr_197_47 hs, Option.bind_some, e9, al_219 hs (by omega), Option.bind_some, h5 i (by omega), cv_197 hs, hwhy, b2_some, gr_197_47 hs, Option.bind_some, al_219 hs (by omega), Option.bind_some, h5 i (by omega), cv_197 hs, nI_1]
    rw [head, aJdg]
    by_cases e : aWhy (pW P) s.1.1 s.1.2 (nu i) = 0
    · obtain ⟨o1, o2, -⟩ := aDo_ok hP hG (by omega) e
      obtain ⟨I1, q1, q2, q3⟩ := e_does (L := L) (n := n) hs hP hK hB hf hG (by omega) e
      have kk : kTo I I1 := q3
      obtain ⟨I', z1, z2, z3⟩ := ih g (i + 1) I1 (aDo P s (nu i)) (by omega) (by omega) (hT.to kk) (hK.keep3 hP (fun k hk => kk.2.2 k (by omega))) q2 (by rw [kk.1 _ (by decide) (by decide) (by decide) (by decide)]; exact hf) o1 (by omega)
      refine ⟨I', ?_, ?_, kk.tr z3⟩
      · rw [if_pos e, if_pos e, q1, Option.bind_some, e]; exact z1
      · rw [if_pos e]; exact z2
    · refine ⟨I, ?_, by rw [if_neg e]; exact hB, kTo.rf⟩
      rw [if_neg e, if_neg e]
      obtain ⟨g, rfl⟩ : ∃ y, g = y + 1 := ⟨g - 1, by omega⟩
      simp only [F_X12_judge_83]
      rw [gr_197_46 hs, Option.bind_some, ai_218 hs ht, Option.bind_some, h4]
      by_cases y : nI ma ≤ nI (i + 1)
      · rw [if_pos y]
      · rw [if_neg y, if_neg (nI_nm1 (by omega))]
theorem e_cas (hs : St S R) (t what : Int32) : ∀ (r g j : Nat) (I : mkI), j + r = 40 → r < g → ∃ I', F_X12_judge_48 g (some 197) t what (nI j) (mk S I L R n) = F_X12_judge_83 mm_N (some 197) t what (-1) 0 0 (mk S I' L R n) ∧ (∀ x, x ≠ 207 → I' x = I x) ∧ (∀ q, j ≤ q → q < 40 → I' 207 q = I 198 (51 + q)) ∧ ∀ q, q < j → I' 207 q = I 207 q := by
  intro r
  induction r with
  | zero =>
    intro g j I hj hg
    obtain ⟨g, rfl⟩ : ∃ y, g = y + 1 := ⟨g - 1, by omega⟩
    have : j = 40 := by omega
    subst this
    refine ⟨I, ?_, fun _ _ => rfl, fun q h1 h2 => by omega, fun _ _ => rfl⟩
    simp only [F_X12_judge_48]
    rw [if_pos (by decide)]
  | succ r ih =>
    intro g j I hj hg
    obtain ⟨g, rfl⟩ : ∃ y, g = y + 1 := ⟨g - 1, by omega⟩
    obtain ⟨I', q1, q2, q3, q4⟩ := ih g (j + 1) (up2 I 207 j (I 198 (51 + j))) (by omega) (by omega)
    refine ⟨I', ?_, fun x hx => by rw [q2 x hx, up2_ne _ _ _ hx], fun q h1 h2 => ?_, fun q hq => by rw [q4 q (by omega), up2_row, up1_ne _ _ (by omega)]⟩
    · simp only [F_X12_judge_48]
      rw [if_neg (ge_li 40 (by omega) (by decide)), gr_197_24 hs, Option.bind_some, gr_197_0 hs, Option.bind_some, show (51 : Int32) + nI j = nI (51 + j) from nI_add 51 j, ai_198 hs (by omega), Option.bind_some, si_207 hs (by omega), Option.bind_some, nI_1]
      exact q1
    · by_cases e : q = j
      · rw [e, q4 j (by omega), up2_self]
      · rw [q3 q (by omega) h2, up2_ne _ _ _ (by decide)]
theorem e_cback (hs : St S R) (what a b c d : Int32) : ∀ (r g j : Nat) (I : mkI), j + r = 40 → r < g → ∃ I', F_X12_judge_171 g (some 197) what a b c d (nI j) (mk S I L R n) = some (if what = 0 then a else if what = 1 then b else if what = 2 then c else d, mk S I' L R n) ∧ (∀ x, x ≠ 198 → I' x = I x) ∧ (∀ q, j ≤ q → q < 40 → I' 198 (51 + q) = I 207 q) ∧ ∀ q, q < 51 + j ∨ 91 ≤ q → I' 198 q = I 198 q := by
  intro r
  induction r with
  | zero =>
    intro g j I hj hg
    obtain ⟨g, rfl⟩ : ∃ y, g = y + 1 := ⟨g - 1, by omega⟩
    have : j = 40 := by omega
    subst this
    refine ⟨I, ?_, fun _ _ => rfl, fun q h1 h2 => by omega, fun _ _ => rfl⟩
    simp only [F_X12_judge_171, F_X12_judge_231]
    rw [if_pos (by decide)]
    by_cases e0 : what = 0
    · rw [if_pos e0, if_pos e0]
    · rw [if_neg e0, if_neg e0]
      by_cases e1 : what = 1
      · rw [if_pos e1, if_pos e1]
      · rw [if_neg e1, if_neg e1]
        by_cases e2 : what = 2
        · rw [if_pos e2, if_pos e2]
        · rw [if_neg e2, if_neg e2]
  | succ r ih =>
    intro g j I hj hg
    obtain ⟨g, rfl⟩ : ∃ y, g = y + 1 := ⟨g - 1, by omega⟩
    obtain ⟨I', q1, q2, q3, q4⟩ := ih g (j + 1) (up2 I 198 (51 + j) (I 207 j)) (by omega) (by omega)
    refine ⟨I', ?_, fun x hx => by rw [q2 x hx, up2_ne _ _ _ hx], fun q h1 h2 => ?_, fun q hq => by rw [q4 q (by omega), up2_row, up1_ne _ _ (by omega)]⟩
    · simp only [F_X12_judge_171, F_X12_judge_231]
      rw [if_neg (ge_li 40 (by omega) (by decide)), gr_197_0 hs, Option.bind_some, gr_197_24 hs, Option.bind_some, ai_207 hs (by omega), Option.bind_some, show (51 : Int32) + nI j = nI (51 + j) from nI_add 51 j, si_198 hs (by omega), Option.bind_some, nI_1]
      exact q1
    · by_cases e : q = j
      · rw [e, q4 _ (by omega), up2_self]
      · rw [q3 q (by omega) h2, up2_ne _ _ _ (by decide)]
end JD
theorem k_judge (Ls : Nat) (xs : Nat → Int32) (a what : Int32) : Good Ls xs (F_L_judge (some 128) a what (some 220)) (F_X12_judge (some 197) a what) := by
  intro k S I L R n ⟨hl, tb, tn, fk, fp, w, tr, im, hC, hR, hG⟩
  obtain ⟨hs, hb, ⟨p0, hpl0, hp0⟩, ⟨c1, c2⟩, hP, hRP, hRB⟩ := inv_all hC hR hG
  obtain ⟨-, -, -, F, T, A, D, M, hB, hM, -⟩ := hG.opn
  have hw := hC.1.2.1
  have e3 : ∀ h, F_X12_within what.toInt64 0 3 h = some (b2i (wI what 0 3), h) := fun h => e_in what 0 3 h
  have bad : ∀ (f : Int32) n', ¬ f = 0 → ¬ f ≤ 0 → F_X12_trayFault (some 197) a (mk S I L R n') = some (f, mk S I L R n') → F_X12_judge (some 197) a what (mk S I L R n') = some (0, mk S (up2 I 197 4 f) L R n') := fun f n' hf hf2 h => by
    unfold F_X12_judge F_X12_judge_33
    rw [cv_197 hs, h, b2_some, pi_197_4 hs, Option.bind_some, gi_197_4 hs, Option.bind_some, up2_self, if_neg hf, Option.bind_some, if_neg hf2]
  rcases x_told hC a with ⟨ha, ht⟩ | ⟨t, ht4, rfl, ⟨hn, ht⟩ | ⟨so, ma, nu, hq, ht⟩⟩
  · refine pk_thr (t := 1) (by decide) hl hC hR hG (L_judge_1 hs (S' := S) (I' := I) (L' := L) (R' := R) (n' := (n.1 + 1, n.2 + 6)) ?_) (bad 1 _ (by decide) (by decide) (e_trayNo hs ha))
    unfold F_X11_judge; rw [cv_128 hs, ht, b3_thr2]; rfl
  · have hm := hR.2.2.2.1 t ht4
    rw [hn] at hm
    refine pk_thr (t := 2) (by decide) hl hC hR hG (L_judge_2 hs (S' := S) (I' := I) (L' := L) (R' := R) (n' := (n.1 + 1, n.2 + 6)) ?_) (bad 2 _ (by decide) (by decide) (by rw [e_tray hs ht4, if_pos hm]))
    unfold F_X11_judge; rw [cv_128 hs, ht, b3_thr2]; rfl
  · have hT := tr_ref hR ht4 hq
    obtain ⟨hma, h2, hlr⟩ := x_tray hC ht4 hq
    have htf : ∀ (J : mkI) L n, J 217 = I 217 → F_X12_trayFault (some 197) (nI t) (mk S J L R n) = some (0, mk S J L R n) := fun J L n h => by
      rw [e_tray hs ht4, h, if_neg hT.2.2.1]
    by_cases h3 : wI what 0 3 = true
    · obtain ⟨p, g1, R', e1, e2, e3', e4, e5, e6, e7, e8, e9⟩ := x_become hC
      have hB1 : BI w.1 w.2.1.1 g1 F T A D M := hB.congr (fun j hj => by rw [e4 j hj, x_cells hC hj])
      obtain ⟨s, hs0⟩ : ∃ s : GS, s = ((w.2.1.1, g1), A, M) := ⟨_, rfl⟩
      have hG0 : GI w.1 s := by rw [hs0]; exact ⟨F, T, D, hB1⟩
      have hM0 : s.2.2 + ma ≤ 200000 := by rw [hs0]; show M + ma ≤ 200000; omega
      have u1 : up1 I 182 g1 182 = s.1.2 := by rw [hs0]; exact up1_self _ _ _
      obtain ⟨I1, x1, x2, x3, x4, x5⟩ := c_jdgL (L := L) (n := n) e6 hP hw e7 e8 ht4 hma hlr what ma mm_N 0 (up1 I 182 g1) s (by omega) (by show ma + 1 < 1000000; omega) e9 (by rw [up1_ne _ _ (by show 189 + 2 * t ≠ 182; omega)]; exact h2) u1 hG0 hM0
      obtain ⟨J, hJ⟩ : ∃ J, J = aJdg w.1 nu ma 0 s := ⟨_, rfl⟩
      rw [← hJ] at x1 x2 x3
      obtain ⟨v, hv⟩ : ∃ v, v = jv w.1 what J := ⟨_, rfl⟩
      have hx : F_X11_judge (some 128) (nI t) what (mk S I L R n) = some (.inr v, mk S I1 L R' n) := by
        unfold F_X11_judge
        rw [cv_128 hs, ht, b3_some, x_within hC, if_pos h3, b3_some, gr_128_7 hs, Option.bind_some, gr_128_5 hs, Option.bind_some, bd_v (bds_t hs), e5, Option.bind_some]
        refine x1.trans ?_
        rw [c_j92 e6 hP e7 e8 x4 x2 x3, hv]
      have kI : ∀ x, ¬ scr x → S (x - 2) ≠ (14, 0) → I1 x = I x := fun x z1 z2 => by rw [x5 x z1 z2, up1_ne _ _ (by unfold scr at z1; show x ≠ 182; omega)]
      have eK : ∀ a, 197 ≤ a → a ≤ 220 → I1 a = I a := fun a q1 q2 => kI a (by unfold scr; omega) (hs.nst hw (by omega) q2)
      have kR : ∀ x, x ≠ 181 → R' x = R x := fun x q => by rw [e3', up2_ne _ _ _ q]
      have kR2 : R' 181 0 = R 181 0 ∧ R' 181 1 = R 181 1 := by rw [e3', up2_row, up1_ne _ _ (by decide), up1_ne _ _ (by decide)]; exact ⟨rfl, rfl⟩
      obtain ⟨L1, hL1⟩ : ∃ L1, L1 = up2 L 220 0 v.toInt64 := ⟨_, rfl⟩
      obtain ⟨J0, hJ0⟩ : ∃ J0, J0 = up2 I1 197 4 0 := ⟨_, rfl⟩
      have kJ0 : ∀ a, 198 ≤ a → a ≤ 220 → J0 a = I a := fun a q1 q2 => by rw [hJ0, up2_ne _ _ _ (by show a ≠ 197; omega), eK a (by omega) q2]
      have hT1 : RTl t ma nu J0 L1 := by
        obtain ⟨t1, t2, t3, t4, t5⟩ := hT
        exact ⟨t1, t2, by rw [kJ0 _ (by decide) (by decide)]; exact t3, by rw [kJ0 _ (by decide) (by decide)]; exact t4, fun j hj => by rw [hL1, up2_ne _ _ _ (by decide)]; exact t5 j hj⟩
      obtain ⟨I2, a1, a2, a3⟩ := e_aside (L := L1) (n := n) e6 J0
      obtain ⟨I3, b1, b2, b3, -⟩ := e_cas (L := L1) (n := n) e6 (nI t) what 40 mm_N 0 I2 (by omega) (by unfold mm_N; decide)
      have k3 : ∀ x, x ≠ 206 → x ≠ 207 → I3 x = J0 x := fun x q1 q2 => by rw [b2 x q2, a2 x q1]
      have kn3 : I3 198 = I 198 := by rw [k3 _ (by decide) (by decide), kJ0 _ (by decide) (by decide)]
      have hT3 : RTl t ma nu I3 L1 := by
        obtain ⟨t1, t2, t3, t4, t5⟩ := hT1
        exact ⟨t1, t2, by rw [k3 _ (by decide) (by decide)]; exact t3, by rw [k3 _ (by decide) (by decide)]; exact t4, t5⟩
      obtain ⟨I4, d1, d2, d3⟩ := e_jdgL (n := n) e6 hP (P := w.1) what ma mm_N 0 I3 s (by omega) (by show ma + 1 < 1000000; omega) hT3 (by rw [kn3]; exact hRP) (by rw [kn3, hs0]; exact hRB.congr (fun j hj => e4 j hj)) (by rw [k3 _ (by decide) (by decide), kJ0 _ (by decide) (by decide)]; exact hR.2.2.2.2.2) hG0 hM0
      rw [← hJ] at d1 d2
      have kn4 : ∀ q, q < 7 ∨ (48 ≤ q ∧ q < 51) ∨ 91 ≤ q → I4 198 q = I 198 q := fun q hq => by rw [d3.2.2 q hq, kn3]
      have hK4 : I4 198 1 = nI (pW w.1) := by rw [kn4 1 (by omega)]; exact hRP.2.1
      obtain ⟨I5, f1, f2, f3, f4⟩ := e_back (L := L1) (n := n) e6 I4
      obtain ⟨I6, y1, y2, y3, y4⟩ := e_cback (L := L1) (n := n) e6 what J.2.2 J.2.1 (nI (aCnt J.1.1.1 J.1.1.2 3).length) (nI (aTwosL J.1.1.2 (pW w.1) 0 0)) 40 mm_N 0 I5 (by omega) (by unfold mm_N; decide)
      have kn6 : ∀ q, q < 3205 → I6 198 q = I 198 q := fun q hq => by
        by_cases z1 : 51 ≤ q ∧ q < 91
        · obtain ⟨u, rfl⟩ : ∃ u, q = 51 + u := ⟨q - 51, by omega⟩
          rw [y3 u (Nat.zero_le _) (by omega), f2 _ (by decide), d3.1 _ (by decide) (by decide) (by decide) (by decide), b3 u (Nat.zero_le _) (by omega), a2 _ (by decide), kJ0 _ (by decide) (by decide)]
        · rw [y4 q (by omega)]
          by_cases z2 : q < 7 ∨ 48 ≤ q
          · rw [f4 q z2, kn4 q (by omega)]
          · obtain ⟨u, rfl⟩ : ∃ u, q = 7 + u := ⟨q - 7, by omega⟩
            rw [f3 u (by omega), d3.1 _ (by decide) (by decide) (by decide) (by decide), b2 _ (by decide), a3 u (by omega), kJ0 _ (by decide) (by decide)]
      have kz : ∀ x, x ≠ 197 → x ≠ 198 → x ≠ 203 → x ≠ 204 → x ≠ 206 → x ≠ 207 → I6 x = I1 x := fun x q1 q2 q3 q4 q5 q6 => by rw [y2 x q2, f2 x q2, d3.1 x q1 q2 q3 q4, k3 x q5 q6, hJ0, up2_ne _ _ _ q1]
      have km : ∀ j, j ≠ 22 → j ≠ 4 → I6 197 j = I1 197 j := fun j q1 q2 => by rw [y2 _ (by decide), f2 _ (by decide), d3.2.1 j q1, k3 _ (by decide) (by decide), hJ0, up2_row, up1_ne _ _ q2]
      obtain ⟨Mx, -, hWOK, -⟩ := id hG
      have fC : FrC S S I I1 L L1 R R' := by rw [hL1]; exact (FrC.kS (L := L) hl hs hw kI kR).out 0 _
      have hR1 := hR.ofC fC
      refine pk_ok (t := 0) (v := v) (L' := L1) (I'' := I6) (L'' := L1) hl (by rw [hL1]; exact L_judge_0 hs e6 hx) (fun _ => by rw [hL1, up2_self]) ?_ ?_ fC (fun x q => ⟨kz x (by show x ≠ 197; omega) (by show x ≠ 198; omega) (by show x ≠ 203; omega) (by show x ≠ 204; omega) (by show x ≠ 206; omega) (by show x ≠ 207; omega), rfl⟩) (by rw [hL1]; exact (hC.le.kS kI kR kR2).out 0 _) ?_ hG.le
      · unfold F_X12_judge F_X12_judge_33
        rw [cv_197 e6, show F_X12_trayFault (some 197) (nI t) (mk S I1 L1 R' n) = some (0, mk S I1 L1 R' n) by rw [e_tray e6 ht4, eK _ (by decide) (by decide), if_neg hT.2.2.1], b2_some, pi_197_4 e6, Option.bind_some, gi_197_4 e6, Option.bind_some, up2_self, if_pos rfl, e3, b2_some, h3, if_neg (by decide), gi_197_4 e6, Option.bind_some, up2_self, if_pos (by decide), cv_197 e6, ← hJ0, a1, Option.bind_some]
        refine (b1.trans d1).trans ?_
        unfold F_X12_judge_151
        have hcnt := e_cntL (L := L1) (n := n) e6 d2 3 J.1.1.1 mm_N 0 0 (by omega) (by have := d2.1; show J.1.1.1 < 1000000; omega)
        rw [Nat.zero_add] at hcnt
        rw [cv_197 e6, show F_X12_callsThat (some 197) 3 (mk S I4 L1 R' n) = some (nI (aCnt J.1.1.1 J.1.1.2 3).length, mk S I4 L1 R' n) from hcnt, b2_some, cv_197 e6, e_twos e6 hP.2.1 hK4 d2, b2_some, cv_197 e6, f1, Option.bind_some]
        refine y1.trans ?_
        rw [hv]; rfl
      · rw [y2 _ (by decide), f2 _ (by decide), d3.2.1 4 (by decide), k3 _ (by decide) (by decide), hJ0, up2_self]
      · refine hR1.brd (fun x q1 q2 q3 q4 q5 q6 => kz x q1 q2 q4 q5 (by show x ≠ 206; omega) (by show x ≠ 207; omega)) (fun j hj => km j (by omega) (by omega)) ?_
        exact hR1.2.2.1.k3205 hWOK (fun q hq => by rw [kn6 q hq, eK _ (by decide) (by decide)])
    · refine pk_thr (t := 3) (by decide) hl hC hR hG (L_judge_3 hs (S' := S) (I' := I) (L' := L) (R' := R) (n' := (n.1 + 1, n.2 + 6)) ?_) (v := 0) ?_
      · unfold F_X11_judge; rw [cv_128 hs, ht, b3_some, x_within hC, if_neg h3, b3_thr2]; rfl
      · unfold F_X12_judge F_X12_judge_33
        rw [cv_197 hs, htf I L _ rfl, b2_some, pi_197_4 hs, Option.bind_some, gi_197_4 hs, Option.bind_some, up2_self, if_pos rfl, e3, b2i_ne h3, b2_some, if_pos rfl, pi_197_4 hs, Option.bind_some, gi_197_4 hs, Option.bind_some, up2_self, if_neg (by decide)]
        refine congrArg (fun q => some ((0 : Int32), mk S q L R (n.1 + 1, n.2 + 6))) (funext fun b => funext fun j => ?_)
        simp only [up2]; split <;> rfl
