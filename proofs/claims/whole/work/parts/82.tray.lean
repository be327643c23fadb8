/-! trays -/
theorem tr_S {S : mkS} {R : mkR} (hs : St S R) {t : Nat} (ht : t < 4) : S (189 + 2 * t) = (19, 0) ∧ R (189 + 2 * t) 0 = some (190 + 2 * t) ∧ S (190 + 2 * t) = (2, 30) ∧ R 134 t = some (189 + 2 * t) := by
  rcases (show t = 0 ∨ t = 1 ∨ t = 2 ∨ t = 3 by omega) with rfl | rfl | rfl | rfl
  · exact ⟨S_189 hs, R_189_0 hs, S_190 hs, R_134_0 hs⟩
  · exact ⟨S_191 hs, R_191_0 hs, S_192 hs, R_134_1 hs⟩
  · exact ⟨S_193 hs, R_193_0 hs, S_194 hs, R_134_2 hs⟩
  · exact ⟨S_195 hs, R_195_0 hs, S_196 hs, R_134_3 hs⟩
theorem wI_isL (a : Int32) : wI a 0 3 = isL 4 a := by
  unfold wI isL
  congr 1
  rw [decide_eq_decide, Int32.le_iff_toInt_le, Int32.le_iff_toInt_le, nI_toInt (by omega)]
  have : (3 : Int32).toInt = 3 := by decide
  omega
section TRY
variable {S : mkS} {I : mkI} {L : mkL} {R : mkR} {n : Nat × Nat} {tb : Nat → Nat} {tn : Nat} {fk fp : Int32} {w : WD} {tr : TR} {im : IM} {k : Nat}
theorem x_anyNo (h : InvC tb tn fk fp w tr im (k + 1) S I L R n) {a : Int32} (ha : isL 4 a = false) : F_X11_anyTray (some 128) a (mk S I L R n) = thr "java/util/NoSuchElementException" S I L R n := by
  have := if_isL 4 a (some (Sum.inl "java/util/NoSuchElementException", mk S I L R (n.1 + 1, n.2 + 6)) : Option ((String ⊕ Option Nat) × MH)) ((gR (mk S I L R n) (some 128) 11 10).bind fun v21 => (aR (mk S I L R n) v21 4 a).bind fun v25 => some (Sum.inr v25, mk S I L R n))
  rw [if_neg (show ¬ isL 4 a = true from by rw [ha]; decide)] at this
  unfold F_X11_anyTray F_X11_anyTray_9
  rw [h.thr]
  exact this
theorem x_any (h : InvC tb tn fk fp w tr im k S I L R n) {t : Nat} (ht : t < 4) : F_X11_anyTray (some 128) (nI t) (mk S I L R n) = some (.inr (some (189 + 2 * t)), mk S I L R n) := by
  have hs := h.1.1
  unfold F_X11_anyTray
  rw [if_neg (nI_pos (by omega)), if_pos (show nI t < (4 : Int32) from nI_lt (b := 4) ht (by omega)), gr_128_10 hs, Option.bind_some, ar_134 hs ht, Option.bind_some, (tr_S hs ht).2.2.2]
theorem x_missing (h : InvC tb tn fk fp w tr im k S I L R n) {t : Nat} (ht : t < 4) : F_X10_isMissing (some (189 + 2 * t)) (mk S I L R n) = some (b2i (decide (I (189 + 2 * t) 2 = -1)), mk S I L R n) := by
  unfold F_X10_isMissing F_X10_isMissing_13
  rw [mk_gI (c := 10) (k := 2) (by rw [(tr_S h.1.1 ht).1]) rfl, Option.bind_some]
  by_cases q : I (189 + 2 * t) 2 = -1
  · rw [if_pos q, decide_eq_true q]; rfl
  · rw [if_neg q, decide_eq_false q]; rfl
theorem tr_v (hs : St S R) {t : Nat} (ht : t < 4) {α : Type} {q : Option α} : cV (mk S I L R n) (some (189 + 2 * t)) 10 q = q := mk_cV (by rw [(tr_S hs ht).1])
/-- no such tray; missing; there -/
theorem x_told (h : InvC tb tn fk fp w tr im (k + 1) S I L R n) (a : Int32) : (isL 4 a = false ∧ F_X11_toldTray (some 128) a (mk S I L R n) = thr "java/util/NoSuchElementException" S I L R n) ∨ ∃ t, t < 4 ∧ a = nI t ∧ ((tr t = none ∧ F_X11_toldTray (some 128) a (mk S I L R n) = thr "java/lang/IllegalStateException" S I L R n) ∨ ∃ so ma nu, tr t = some (so, ma, nu) ∧ F_X11_toldTray (some 128) a (mk S I L R n) = some (.inr (some (189 + 2 * t)), mk S I L R n)) := by
  have hs := h.1.1
  by_cases ha : isL 4 a = true
  · obtain ⟨t, ht, rfl⟩ := (isL_iff (by decide)).mp ha
    have hc := h.2.2.2.2.1 t ht
    have e : F_X11_toldTray (some 128) (nI t) (mk S I L R n) = if I (189 + 2 * t) 2 = -1 then thr "java/lang/IllegalStateException" S I L R n else some (.inr (some (189 + 2 * t)), mk S I L R n) := by
      unfold F_X11_toldTray
      rw [cv_128 hs, x_any h ht, b3_some, tr_v hs ht, x_missing h ht, b2_some, h.thr]
      by_cases q : I (189 + 2 * t) 2 = -1
      · rw [decide_eq_true q, if_neg (by decide), if_pos q]; rfl
      · rw [decide_eq_false q, if_pos (by decide), if_neg q]
    refine .inr ⟨t, ht, rfl, ?_⟩
    cases hq : tr t with
    | none =>
      rw [hq] at hc
      exact .inl ⟨rfl, by rw [e, if_pos hc]⟩
    | some q =>
      obtain ⟨so, ma, nu⟩ := q
      rw [hq] at hc
      obtain ⟨-, c2, -, c4, -⟩ := hc
      exact .inr ⟨so, ma, nu, rfl, by rw [e, if_neg (by rw [c4]; exact nI_nm1 (by omega))]⟩
  · have ha' : isL 4 a = false := by simpa using ha
    refine .inl ⟨ha', ?_⟩
    unfold F_X11_toldTray
    rw [cv_128 hs, x_anyNo h ha', b3_thr2]
theorem e_isTray (a : Int32) (h : MH) : F_X12_isTray a h = some (b2i (isL 4 a), h) := by
  unfold F_X12_isTray
  rw [e_within]
  have : inL a.toInt64 0 3 = wI a 0 3 := inL_wI a 0 3
  rw [this, b2_some, rZ_b, wI_isL]
theorem e_trayNo (hs : St S R) {a : Int32} (ha : isL 4 a = false) : F_X12_trayFault (some 197) a (mk S I L R n) = some (1, mk S I L R n) := by
  unfold F_X12_trayFault F_X12_trayFault_26
  rw [e_isTray, b2_some, ha, if_pos (by decide)]
theorem e_tray (hs : St S R) {t : Nat} (ht : t < 4) : F_X12_trayFault (some 197) (nI t) (mk S I L R n) = some (if I 217 t = -1 then 2 else 0, mk S I L R n) := by
  unfold F_X12_trayFault F_X12_trayFault_26
  rw [e_isTray, b2_some, isL_nI ht (by decide), if_neg (by decide), gr_197_45 hs, Option.bind_some, ai_217 hs ht, Option.bind_some]
  by_cases q : I 217 t = -1
  · rw [if_pos q, if_pos q]
  · rw [if_neg q, if_neg q]
theorem c_many {t ma : Nat} (hs : St S R) (ht : t < 4) (hm : ma ≤ 30) (h : I (189 + 2 * t) 2 = nI ma) : F_X10_many (some (189 + 2 * t)) (mk S I L R n) = some (nI ma, mk S I L R n) := by
  unfold F_X10_many
  rw [mk_gI (c := 10) (k := 2) (by rw [(tr_S hs ht).1]) rfl, Option.bind_some, h, show (0 : Int32) = nI 0 from rfl, mxI_nI (by omega) (by omega), show max ma 0 = ma by omega]
theorem c_at {t ma : Nat} (hs : St S R) (ht : t < 4) (hm : ma ≤ 30) (h : I (189 + 2 * t) 2 = nI ma) {j : Nat} (hj : j < ma) : F_X10_at (some (189 + 2 * t)) (nI j) (mk S I L R n) = some (L (190 + 2 * t) j, mk S I L R n) := by
  obtain ⟨t1, t2, t3, -⟩ := tr_S hs ht
  unfold F_X10_at F_X10_at_21 F_X10_at_22
  rw [if_neg (nI_pos (by omega)), tr_v hs ht, c_many hs ht hm h, b2_some, if_neg (nI_ge hj (by omega)), mk_gR (c := 10) (k := 0) (by rw [t1]) rfl, Option.bind_some, t2, mk_aL t3 (nI_pos (by omega)) (by rw [nI_clamp (by omega)]; omega), Option.bind_some, nI_clamp (by omega)]
end TRY
/-- a tray made anew, or written to -/
theorem InvC.trs {tb : Nat → Nat} {tn : Nat} {fk fp : Int32} {w : WD} {tr tr' : TR} {im : IM} {k : Nat} {S : mkS} {I I' : mkI} {L L' : mkL} {R R' : mkR} {n : Nat × Nat} (h : InvC tb tn fk fp w tr im k S I L R n) (hI : ∀ x, ¬ (189 ≤ x ∧ x ≤ 196) → ¬ scr x → S (x - 2) ≠ (14, 0) → I' x = I x) (hR : ∀ x, x ≠ 181 → R' x = R x) (hR2 : R' 181 0 = R 181 0 ∧ R' 181 1 = R 181 1) (hT : CTr tr' I' L') : InvC tb tn fk fp w tr' im k S I' L' R' n := by
  have hk := h.kS (I' := fun x => if 189 ≤ x ∧ x ≤ 196 then I x else I' x) (R' := R') (fun x q1 q2 => by
    by_cases e : 189 ≤ x ∧ x ≤ 196
    · rw [if_pos e]
    · rw [if_neg e]; exact hI x e q1 q2) hR hR2
  obtain ⟨a1, a2, a3, a4, a5, a6, a7⟩ := hk
  have hw := h.1.2.1
  have same : ∀ x, ¬ (189 ≤ x ∧ x ≤ 196) → (fun x => if 189 ≤ x ∧ x ≤ 196 then I x else I' x) x = I' x := fun x q => if_neg q
  refine ⟨a1, ?_, ?_, a4.keep hw (fun x q _ => (same x ?_).symm), hT, ⟨a6.1, fun i hi => ?_⟩, ?_⟩
  · rw [same 128 (by decide), same 129 (by decide)] at a2; exact a2
  · rw [same 128 (by decide)] at a3; exact a3
  · rcases q with q | q | q | q
    · rw [q]; decide
    · rw [q]; decide
    · rw [q]; decide
    · unfold pa at q; omega
  · have := a6.2 i hi
    revert this
    cases im i with
    | none => exact id
    | some w =>
      rintro ⟨a, z1, z2, z3, z4⟩
      exact ⟨a, z1, z2, z3, z4.keep hw (fun x q _ => (same x (by
        rcases q with q | q | q | q
        · omega
        · omega
        · omega
        · unfold pa at q; omega)).symm)⟩
  · rcases a7 with a7 | ⟨p, P, p1, p2, p3, p4⟩
    · exact .inl a7
    · refine .inr ⟨p, P, p1, p2, p3.keep hw (fun x q _ => (same x (by unfold pa at q; omega)).symm), ?_⟩
      unfold PRes at *
      rw [same 157 (by decide), same 159 (by decide), same 160 (by decide)] at p4
      exact p4
theorem FrC.trs {Ls : Nat} {xs : Nat → Int32} {S : mkS} {I I' : mkI} {L L' : mkL} {R R' : mkR} (hl : Low Ls xs S I R) (hs : St S R) (hw : LW S) (hI : ∀ x, ¬ (189 ≤ x ∧ x ≤ 196) → ¬ scr x → S (x - 2) ≠ (14, 0) → I' x = I x) (hR : ∀ x, x ≠ 181 → R' x = R x) (hL : ∀ x, ¬ (189 ≤ x ∧ x ≤ 196) → x ≠ 220 → L' x = L x) : FrC S S I I' L L' R R' := by
  refine ⟨fun a q => ⟨rfl, hI a (by omega) (by unfold scr; omega) ?_, hR a (by omega)⟩, fun a q => hL a (by omega) (by omega)⟩
  rcases q with q | q
  · exact hl.2.2.2 _ (by omega)
  · exact hs.nst hw (by omega) (by omega)
theorem InvR.trs {tb : Nat → Nat} {tn : Nat} {fk fp : Int32} {w : WD} {tr tr' : TR} {im : IM} {I I' : mkI} {L L' : mkL} (h : InvR tb tn fk fp w tr im I L) (hI : ∀ a, a ≠ 197 → a ≠ 199 → a ≠ 203 → a ≠ 204 → ¬ (206 ≤ a ∧ a ≤ 216) → a ≠ 217 → a ≠ 218 → I' a = I a) (hm : ∀ j, (j = 6 ∨ j = 14 ∨ j = 15) → I' 197 j = I 197 j) (hT : RTr tr' I' L') : InvR tb tn fk fp w tr' im I' L' := by
  obtain ⟨h1, h2, h3, h4, h5, h6⟩ := h
  unfold InvR RIm at *
  rw [hI 202 (by decide) (by decide) (by decide) (by decide) (by decide) (by decide) (by decide), hI 198 (by decide) (by decide) (by decide) (by decide) (by decide) (by decide) (by decide), hI 205 (by decide) (by decide) (by decide) (by decide) (by decide) (by decide) (by decide), hI 201 (by decide) (by decide) (by decide) (by decide) (by decide) (by decide) (by decide), hI 200 (by decide) (by decide) (by decide) (by decide) (by decide) (by decide) (by decide), hm 6 (by decide), hm 14 (by decide), hm 15 (by decide)]
  exact ⟨h1, h2, h3, hT, h5, h6⟩
section TRF
variable {S : mkS} {I : mkI} {R : mkR} {n : Nat × Nat}
theorem c_fillLL {a N : Nat} (hs : S a = (2, N)) (hN : N < 1000000) (ha : 128 ≤ a) (x : Int64) : ∀ (r g i : Nat) (L : mkL), i + r = N → r < g → ∃ L', F_J7_fill_d0a16_6 g (some a) x (nI i) (nI N) (mk S I L R n) = some (mk S I L' R n) ∧ (∀ j, i ≤ j → j < N → L' a j = x) ∧ (∀ j, j < i → L' a j = L a j) ∧ ∀ b, b ≠ a → L' b = L b := by
  intro r
  induction r with
  | zero =>
    intro g i L hi hg
    obtain ⟨g, rfl⟩ : ∃ z, g = z + 1 := ⟨g - 1, by omega⟩
    refine ⟨L, ?_, fun j _ _ => by omega, fun _ _ => rfl, fun _ _ => rfl⟩
    simp only [F_J7_fill_d0a16_6]
    rw [if_pos (nI_le (by omega) (by omega))]
  | succ r ih =>
    intro g i L hi hg
    obtain ⟨g, rfl⟩ : ∃ z, g = z + 1 := ⟨g - 1, by omega⟩
    obtain ⟨L', q1, q2, q3, q4⟩ := ih g (i + 1) (up2 L a i x) (by omega) (by omega)
    refine ⟨L', ?_, fun j h1 h2 => ?_, fun j hj => by rw [q3 j (by omega), up2_row, up1_ne _ _ (by omega)], fun b hb => by rw [q4 b hb, up2_ne _ _ _ hb]⟩
    · simp only [F_J7_fill_d0a16_6]
      rw [if_neg (nI_ge (by omega) (by omega)), mk_sL hs (nI_pos (by omega)) (by rw [nI_clamp (by omega)]; omega) ha, Option.bind_some, nI_clamp (by omega), nI_1, q1]
    · by_cases e : j = i
      · subst e; rw [q3 j (by omega), up2_self]
      · exact q2 j (by omega) h2
theorem e_trayL (hs : St S R) {t : Nat} (ht : t < 4) : ∀ (r g i : Nat) (L : mkL), i + r = 30 → r < g → ∃ L', F_X12_tray_69 g (some 197) (nI t) (nI i) (mk S I L R n) = some (mk S I L' R n) ∧ (∀ j, i ≤ j → j < 30 → L' 219 (30 * t + j) = 0) ∧ (∀ j, j < 30 * t + i ∨ 30 * t + 30 ≤ j → L' 219 j = L 219 j) ∧ ∀ b, b ≠ 219 → L' b = L b := by
  intro r
  induction r with
  | zero =>
    intro g i L hi hg
    obtain ⟨g, rfl⟩ : ∃ z, g = z + 1 := ⟨g - 1, by omega⟩
    refine ⟨L, ?_, fun j _ _ => by omega, fun _ _ => rfl, fun _ _ => rfl⟩
    simp only [F_X12_tray_69]
    rw [if_pos (le_li 30 (by omega) (by omega))]
  | succ r ih =>
    intro g i L hi hg
    obtain ⟨g, rfl⟩ : ∃ z, g = z + 1 := ⟨g - 1, by omega⟩
    obtain ⟨L', q1, q2, q3, q4⟩ := ih g (i + 1) (up2 L 219 (30 * t + i) 0) (by omega) (by omega)
    have e9 : (30 : Int32) * nI t + nI i = nI (30 * t + i) := by
      rw [show (30 : Int32) = nI 30 from rfl, nI_mul9, nI_add]
    refine ⟨L', ?_, fun j h1 h2 => ?_, fun j hj => by rw [q3 j (by omega), up2_row, up1_ne _ _ (by omega)], fun b hb => by rw [q4 b hb, up2_ne _ _ _ hb]⟩
    · simp only [F_X12_tray_69]
      rw [if_neg (ge_li 30 (by omega) (by omega)), gr_197_47 hs, Option.bind_some, e9, mk_sL (S_219 hs) (nI_pos (by omega)) (by rw [nI_clamp (by omega)]; omega) (by decide), Option.bind_some, nI_clamp (by omega), nI_1, q1]
    · by_cases e : j = i
      · subst e; rw [q3 (30 * t + j) (by omega), up2_self]
      · exact q2 j (by omega) h2
end TRF
def trUp (tr : TR) (t : Nat) (q : Nat × Nat × (Nat → Int64)) : TR := fun s => if s = t then some q else tr s
theorem k_tray (Ls : Nat) (xs : Nat → Int32) (a b c : Int32) : GoodV Ls xs (F_L_tray (some 128) a b c) (F_X12_tray (some 197) a b c) := by
  intro k S I L R n ⟨hl, tb, tn, fk, fp, w, tr, im, hC, hR, hG⟩
  have hs := hC.1.1
  have eW : ∀ (b : Int32) h, F_X12_within b.toInt64 0 3 h = some (b2i (wI b 0 3), h) := fun b h => by rw [e_within]; exact congrArg (fun q => some (b2i q, h)) (inL_wI b 0 3)
  have eW2 : ∀ h, F_X12_within c.toInt64 0 30 h = some (b2i (wI c 0 30), h) := fun h => by rw [e_within]; exact congrArg (fun q => some (b2i q, h)) (inL_wI c 0 30)
  have x41 : ∀ (t : Int32) (n : Nat × Nat), ¬ t ≤ 0 → F_X12_tray_41 (some 197) a b c t (some 197) (mk S I L R n) = some (mk S (up2 I 197 4 t) L R n) := by
    intro t n ht
    unfold F_X12_tray_41
    rw [pi_197_4 hs, Option.bind_some, gi_197_4 hs, Option.bind_some, up2_self, if_neg ht]
  have thr9 : ∀ t : Int32, F_L_tray (some 128) a b c (mk S I L R n) = some (t, mk S I L R (n.1 + 1, n.2 + 6)) → F_X12_tray (some 197) a b c (mk S I L R (n.1 + 1, n.2 + 6)) = some (mk S (up2 I 197 4 t) L R (n.1 + 1, n.2 + 6)) → ∃ t S' I' L' R' n' I'' L'', F_L_tray (some 128) a b c (mk S I L R n) = some (t, mk S' I' L' R' n') ∧ F_X12_tray (some 197) a b c (mk S' I' L' R' n') = some (mk S' I'' L'' R' n') ∧ I'' 197 4 = t ∧ AllK Ls xs k S' I' I'' L'' R' n' := fun t h1 h2 =>
    ⟨t, S, I, L, R, _, up2 I 197 4 t, L, h1, h2, up2_self _ _ _ _, AllInv.of hl FrC.rf (FrR.up (by decide)) hC.exc (hR.m4 t) hG.le⟩
  by_cases h1 : isL 4 a = true
  · obtain ⟨t, ht, rfl⟩ := (isL_iff (by decide)).mp h1
    have hx : F_X11_tray (some 128) (nI t) b c (mk S I L R n) = if wI b 0 3 = true then (if wI c 0 30 = true then (F_X10_makeOf (some (189 + 2 * t)) b c (mk S I L R n)).bind (fun h => some (.inr (), h)) else thr "java/lang/IllegalArgumentException" S I L R n) else thr "java/lang/IllegalArgumentException" S I L R n := by
      unfold F_X11_tray
      rw [cv_128 hs, x_any hC ht, b3_some, x_within hC, b3_if, b3_thr2, b3_some, x_within hC, b3_if, b3_thr2, b3_some, tr_v hs ht]
    by_cases h2 : wI b 0 3 = true
    · rw [if_pos h2] at hx
      by_cases h3 : wI c 0 30 = true
      · rw [if_pos h3] at hx
        obtain ⟨so, -, hso, rfl⟩ := (wI_iff (lo := 0) (hi := 3) (by decide) (by decide)).mp h2
        obtain ⟨ma, -, hma, rfl⟩ := (wI_iff (lo := 0) (hi := 30) (by decide) (by decide)).mp h3
        obtain ⟨t1, t2, t3, -⟩ := tr_S hs ht
        obtain ⟨L1, l1, l2, -, l4⟩ := c_fillLL (I := I) (R := R) (n := n) t3 (by decide) (by omega) 0 30 mm_N 0 L (by omega) (by show 30 < 1000000; omega)
        obtain ⟨I1, hI1⟩ : ∃ J, J = up2 (up2 I (189 + 2 * t) 1 (nI so)) (189 + 2 * t) 2 (nI ma) := ⟨_, rfl⟩
        have em : F_X10_makeOf (some (189 + 2 * t)) (nI so) (nI ma) (mk S I L R n) = some (mk S I1 L1 R n) := by
          have l1' : F_J7_fill_d0a16_6 mm_N (some (190 + 2 * t)) 0 0 (nI 30) (mk S I L R n) = some (mk S I L1 R n) := l1
          unfold F_X10_makeOf F_J7_fill_d0a16
          rw [mk_gR (c := 10) (k := 0) (by rw [t1]) rfl, Option.bind_some, t2, mk_aNt1 t3, Option.bind_some, l1', Option.bind_some, mk_pI (c := 10) (by rw [t1]) rfl (by omega), Option.bind_some, show (30 : Int32) = nI 30 from rfl, mnI_nI (by omega) (by omega), show min ma 30 = ma by omega, mk_pI (c := 10) (by rw [t1]) rfl (by omega), Option.bind_some, ← hI1]
        rw [em, Option.bind_some] at hx
        have kI : ∀ x, ¬ (189 ≤ x ∧ x ≤ 196) → ¬ scr x → S (x - 2) ≠ (14, 0) → I1 x = I x := fun x q _ _ => by rw [hI1, up2_ne _ _ _ (by omega), up2_ne _ _ _ (by omega)]
        have kL : ∀ x, ¬ (189 ≤ x ∧ x ≤ 196) → x ≠ 220 → L1 x = L x := fun x q _ => l4 x (by omega)
        have fC : FrC S S I I1 L L1 R R := FrC.trs hl hs hC.1.2.1 kI (fun _ _ => rfl) kL
        have hC1 : InvC tb tn fk fp w (trUp tr t (so, ma, fun _ => 0)) im k S I1 L1 R n := hC.le.trs kI (fun _ _ => rfl) ⟨rfl, rfl⟩ (fun s hs4 => by
          unfold trUp
          by_cases e : s = t
          · subst e
            rw [if_pos rfl]
            refine ⟨by omega, hma, ?_, ?_, fun j hj => l2 j (Nat.zero_le _) (by omega)⟩
            · rw [hI1, up2_row, up1_ne _ _ (by decide), up2_self]
            · rw [hI1, up2_self]
          · rw [if_neg e]
            have := hC.2.2.2.2.1 s hs4
            rw [hI1, up2_ne _ _ _ (by omega), up2_ne _ _ _ (by omega), l4 _ (by omega)]
            exact this)
        have hR1 := hR.ofC fC
        obtain ⟨I2, hI2⟩ : ∃ J, J = up2 (up2 (up2 I1 197 4 0) 217 t (nI so)) 218 t (nI ma) := ⟨_, rfl⟩
        obtain ⟨L2, m1, m2, m3, m4⟩ := e_trayL (I := I2) (n := n) hs ht 30 mm_N 0 L1 (by omega) (by show 30 < 1000000; omega)
        have m1' : F_X12_tray_69 mm_N (some 197) (nI t) 0 (mk S I2 L1 R n) = some (mk S I2 L2 R n) := m1
        have hR2 : InvR tb tn fk fp w (trUp tr t (so, ma, fun _ => 0)) im I2 L2 := hR1.trs (fun a q1 _ _ _ _ q6 q7 => by rw [hI2, up2_ne _ _ _ q7, up2_ne _ _ _ q6, up2_ne _ _ _ q1]) (fun j hj => by rw [hI2, up2_ne _ _ _ (by decide), up2_ne _ _ _ (by decide), up2_row, up1_ne _ _ (by omega)]) (fun s hs4 => by
          unfold trUp
          by_cases e : s = t
          · subst e
            rw [if_pos rfl]
            refine ⟨by omega, hma, ?_, ?_, fun j hj => m2 j (Nat.zero_le _) (by omega)⟩
            · rw [hI2, up2_ne _ _ _ (by decide), up2_self]
            · rw [hI2, up2_self]
          · rw [if_neg e]
            have := hR1.2.2.2.1 s hs4
            have e1 : I2 217 s = I1 217 s := by rw [hI2, up2_ne _ _ _ (by decide), up2_row, up1_ne _ _ e, up2_ne _ _ _ (by decide)]
            have e2 : I2 218 s = I1 218 s := by rw [hI2, up2_row, up1_ne _ _ e, up2_ne _ _ _ (by decide), up2_ne _ _ _ (by decide)]
            revert this
            cases tr s with
            | none => intro this; show I2 217 s = -1; rw [e1]; exact this
            | some q =>
              obtain ⟨so9, ma9, nu9⟩ := q
              rintro ⟨z1, z2, z3, z4, z5⟩
              exact ⟨z1, z2, by rw [e1]; exact z3, by rw [e2]; exact z4, fun j hj => by rw [m3 _ (by omega)]; exact z5 j hj⟩)
        refine ⟨0, S, I1, L1, R, n, I2, L2, L_tray_0 hs hx, ?_, ?_, AllInv.of hl fC (fun a q => ⟨by rw [hI2, up2_ne _ _ _ (by show a ≠ 218; omega), up2_ne _ _ _ (by show a ≠ 217; omega), up2_ne _ _ _ (by show a ≠ 197; omega)], m4 a (by show a ≠ 219; omega)⟩) hC1 hR2 hG.le⟩
        · unfold F_X12_tray F_X12_tray_41
          rw [e_isTray, b2_some, h1, if_neg (by decide), eW, b2_some, h2, if_neg (by decide), eW2, b2_some, h3, if_neg (by decide), pi_197_4 hs, Option.bind_some, gi_197_4 hs, Option.bind_some, up2_self, if_pos (by decide), gr_197_45 hs, Option.bind_some, si_217 hs ht, Option.bind_some, gr_197_46 hs, Option.bind_some, si_218 hs ht, Option.bind_some, ← hI2, m1']
        · rw [hI2, up2_ne _ _ _ (by decide), up2_ne _ _ _ (by decide), up2_self]
      · rw [if_neg h3] at hx
        refine thr9 2 (L_tray_2 hs hx) ?_
        unfold F_X12_tray F_X12_tray_36
        rw [e_isTray, b2_some, h1, if_neg (by decide), eW, b2_some, h2, if_neg (by decide), eW2, b2_some, if_pos (by rw [b2i_0]; simpa using h3), x41 _ _ (by decide)]
    · rw [if_neg h2] at hx
      refine thr9 2 (L_tray_2 hs hx) ?_
      unfold F_X12_tray F_X12_tray_36
      rw [e_isTray, b2_some, h1, if_neg (by decide), eW, b2_some, if_pos (by rw [b2i_0]; simpa using h2), x41 _ _ (by decide)]
  · have h1' : isL 4 a = false := by simpa using h1
    have hx : F_X11_tray (some 128) a b c (mk S I L R n) = thr "java/util/NoSuchElementException" S I L R n := by
      unfold F_X11_tray
      rw [cv_128 hs, x_anyNo hC h1', b3_thr2]
    refine thr9 1 (L_tray_1 hs hx) ?_
    unfold F_X12_tray
    rw [e_isTray, b2_some, h1', if_pos (by decide), x41 _ _ (by decide)]
