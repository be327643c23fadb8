/-! the class: lines, cords, weddings -/
def isL (W : Nat) (x : Int32) : Bool := decide (¬ x < 0) && decide (¬ nI W ≤ x)
theorem isL_nI {W l : Nat} (h : l < W) (hW : W < 2147483648) : isL W (nI l) = true := by
  have h1 : ¬ nI l < 0 := nI_pos (by omega)
  have h2 : ¬ nI W ≤ nI l := nI_ge h (by omega)
  simp [isL, h1, h2]
theorem isL_iff {W : Nat} (hW : W < 2147483648) {x : Int32} : isL W x = true ↔ ∃ l, l < W ∧ x = nI l := by
  constructor
  · intro h
    simp only [isL, Bool.and_eq_true, decide_eq_true_eq] at h
    obtain ⟨j, hj, rfl⟩ := nI_of h.1
    refine ⟨j, ?_, rfl⟩
    have := h.2
    rw [nI_leI (by omega) (by omega)] at this
    omega
  · rintro ⟨l, h, rfl⟩
    exact isL_nI h hW
theorem isL_no {W l : Nat} (h : W ≤ l) (hl : l < 2147483648) : isL W (nI l) = false := by
  have h2 : nI W ≤ nI l := nI_le h (by omega)
  simp [isL, h2]
theorem isL_8 {W : Nat} (hW : W ≤ 8) {x : Int32} (h : ¬ nI W ≤ x) : ¬ (8 : Int32) ≤ x := by
  rw [Int32.le_iff_toInt_le] at h ⊢
  rw [nI_toInt (by omega)] at h
  have : (8 : Int32).toInt = 8 := by decide
  omega
section CL
variable {S : mkS} {I : mkI} {L : mkL} {R : mkR} {n : Nat × Nat} {b ca co p : Nat} {P : PL}
theorem bd_p (hb : BdS S R b ca co) (hpl : R b 2 = some p) : gR (mk S I L R n) (some b) 0 2 = some (some p) := (mk_gR (by rw [hb.1]) rfl).trans (by rw [hpl])
theorem bd_c (hb : BdS S R b ca co) : gR (mk S I L R n) (some b) 0 1 = some (some co) := (mk_gR (by rw [hb.1]) rfl).trans (by rw [hb.2.2.1])
theorem pl_0 (hp : CPlan P S R I p) : gI (mk S I L R n) (some p) 8 0 = some (nI (pW P)) := (mk_gI (by rw [hp.1]) rfl).trans (by rw [hp.2.2.1.1])
theorem pl_1 (hp : CPlan P S R I p) : gI (mk S I L R n) (some p) 8 1 = some (nI (pC P)) := (mk_gI (by rw [hp.1]) rfl).trans (by rw [hp.2.2.1.2.1])
theorem pl_2 (hp : CPlan P S R I p) : gI (mk S I L R n) (some p) 8 2 = some (nI (pT P)) := (mk_gI (by rw [hp.1]) rfl).trans (by rw [hp.2.2.1.2.2])
theorem pl_v (hp : S p = (17, 0)) {α : Type} {q : Option α} : cV (mk S I L R n) (some p) 8 q = q := mk_cV (by rw [hp])
theorem c_isLine (hP : PlOK P) (hb : BdS S R b ca co) (hpl : R b 2 = some p) (hp : CPlan P S R I p) (x : Int32) : F_X0_isLine (some b) x (mk S I L R n) = some (b2i (isL (pW P) x), mk S I L R n) := by
  unfold F_X0_isLine F_X0_isLine_25 F_X0_isLine_26 isL
  simp only [bd_p hb hpl, Option.bind_some, pl_0 hp]
  by_cases h1 : x < 0
  · simp [h1, rZ, b2i]
  · by_cases h2 : nI (pW P) ≤ x
    · simp [h1, h2, rZ, b2i]
    · have h3 := isL_8 hP.2.1 h2
      simp [h1, h2, h3, rZ, b2i]
theorem c_spouse (hP : PlOK P) (hb : BdS S R b ca co) (hpl : R b 2 = some p) (hp : CPlan P S R I p) {l : Nat} (hl : l < 20) : F_X0_spouse (some b) (nI l) (mk S I L R n) = some (if l < pW P then I ca (3 + l) else -1, mk S I L R n) := by
  have w2 := hP.2.1
  unfold F_X0_spouse F_X0_spouse_20
  rw [bd_v hb, c_isLine hP hb hpl hp, b2_some]
  by_cases h : l < pW P
  · rw [isL_nI h (by omega), if_neg (by decide), bd_g hb, Option.bind_some, li_add 3, bd_a hb (by omega), Option.bind_some, if_pos h]
  · rw [isL_no (by omega) (by omega), if_pos (by decide), if_neg h]
theorem c_isShut (hP : PlOK P) (hb : BdS S R b ca co) (hpl : R b 2 = some p) (hp : CPlan P S R I p) (x : Int32) : F_X0_isShut (some b) x (mk S I L R n) = some (b2i (isL (pW P) x && hasB (I ca 2) x), mk S I L R n) := by
  unfold F_X0_isShut F_X0_isShut_26 F_X0_isShut_27
  rw [bd_v hb, c_isLine hP hb hpl hp, b2_some]
  cases h : isL (pW P) x
  · rw [if_pos (by decide)]; rfl
  · rw [if_neg (by decide), bd_g hb, Option.bind_some, show (2 : Int32) = nI 2 from rfl, bd_a hb (by decide), Option.bind_some]
    unfold hasB
    by_cases q : (I ca 2 >>> (x &&& 31)) &&& 1 = 1 <;> simp [q, rZ, b2i]
theorem c_marry (hP : PlOK P) (hb : BdS S R b ca co) (hpl : R b 2 = some p) (hp : CPlan P S R I p) {l m : Nat} (hl : l < pW P) (hm : m < pW P) : F_X0_marry (some b) (nI l) (nI m) (mk S I L R n) = some (mk S (up2 (up2 I ca (3 + l) (nI m)) ca (3 + m) (nI l)) L R n) := by
  have w2 := hP.2.1
  unfold F_X0_marry F_X0_marry_34
  rw [bd_v hb, c_isLine hP hb hpl hp, b2_some, isL_nI hl (by omega), if_neg (by decide), bd_v hb, c_isLine hP hb hpl hp, b2_some, isL_nI hm (by omega), if_neg (by decide), bd_g hb, Option.bind_some, li_add 3, bd_s hb (by omega), Option.bind_some, bd_g hb, Option.bind_some, li_add 3, bd_s hb (by omega), Option.bind_some]
theorem c_reaches (hP : PlOK P) (hp : CPlan P S R I p) {k l m : Nat} (hk : k < pC P) (hl : l < 31) (hm : m < 31) : F_X8_reaches (some p) (nI k) (nI l) (nI m) (mk S I L R n) = some (b2i (hasB (pRe P k) (nI l) && hasB (pRe P k) (nI m)), mk S I L R n) := by
  obtain ⟨s1, -, -, ⟨ra, r1, -, r2, r3⟩, -⟩ := hp
  have w3 := hP.2.2.1
  have g : gR (mk S I L R n) (some p) 8 3 = some (some ra) := (mk_gR (by rw [s1]) rfl).trans (by rw [r1])
  have e : ¬ (3 : Int32) ≤ nI k := nI_ge (b := 3) (by omega) (by omega)
  unfold F_X8_reaches F_X8_reaches_36 F_X8_reaches_37
  rw [if_neg (nI_pos (by omega)), if_neg e, g, Option.bind_some, mk_aJ0 r2 (by omega) (by decide), Option.bind_some, r3 k hk]
  simp only [reach_both _ hl hm]
  cases hasB (pRe P k) (nI l) && hasB (pRe P k) (nI m) <;> rfl
theorem lawv_b {vs : Nat → Int32} {ops : List Nat} (ht : tys ops [] = some [true]) : lawv vs ops = 0 ∨ lawv vs ops = 1 := by
  have h := ev_len (vs := vs) ops [] [true] [] ht trivial
  unfold lawv
  revert h
  generalize ev vs ops [] = l
  intro h
  cases l with
  | nil => exact h.elim
  | cons x t => exact h.1 rfl
theorem c_isWedding (hP : PlOK P) (hw : LW S) (hp : CPlan P S R I p) {a e M c : Nat} (ha : a < pW P) (he : e < pW P) :
    ∃ I', keepL S I I' ∧ F_X8_isWedding (some p) (nI a) (nI e) (nI M) (nI c) (mk S I L R n) = some (b2i (aWed P (nI a) (nI e) (nI M) (nI c)), mk S I' L R n) := by
  obtain ⟨s1, s2, s3, s4, s5, s6, hl⟩ := id hp
  have g6 : ∀ I : mkI, gR (mk S I L R n) (some p) 8 6 = some (R p 6) := fun I => mk_gR (by rw [s1]) rfl
  unfold F_X8_isWedding F_X8_isWedding_58 aWed
  rw [g6, Option.bind_some]
  rcases hl with ⟨hS, hr⟩ | ⟨hS, la, hr, q1, hL, hcode⟩
  · rw [hr, if_pos rfl, if_pos hS]; exact ⟨I, keepL.rf, rfl⟩
  · obtain ⟨lc, hlc⟩ : ∃ lc, la + 1 = lc := ⟨_, rfl⟩
    obtain ⟨ls, hls⟩ : ∃ ls, la + 2 = ls := ⟨_, rfl⟩
    have nst : ∀ x, x ≠ ls → ∀ (J : mkI) (k : Nat) (v : Int32), up2 J ls k v x = J x := fun x h9 J k v => up2_ne _ _ _ h9
    rw [hlc, hls] at hL
    rw [hlc] at hcode
    rw [hr, if_neg (by simp), if_neg hS, Option.bind_some]
    obtain ⟨I1, hI1⟩ : ∃ I1, I1 = up2 (up2 (up2 (up2 I ls 0 (nI a)) ls 1 (nI e)) ls 2 (remI (nI M) 60)) ls 3 (nI c) := ⟨_, rfl⟩
    have k1 : ∀ x, x ≠ ls → I1 x = I x := fun x h9 => by rw [hI1, nst x h9, nst x h9, nst x h9, nst x h9]
    obtain ⟨I2, hI2⟩ : ∃ I2, I2 = up2 (up2 I1 ls 4 (aLikes P (nI a) (nI e))) ls 5 (aLikes P (nI e) (nI a)) := ⟨_, rfl⟩
    have k2 : ∀ x, x ≠ ls → I2 x = I x := fun x h9 => by rw [hI2, nst x h9, nst x h9, k1 x h9]
    have e2 : F_X5_setVariables (some la) (nI a) (nI e) (nI M - nI M / 60 * 60) (nI c) (mk S I L R n) = some (mk S I1 L R n) := by rw [hI1]; exact e_setVars I hL _ _ _ _
    have e3 : F_X5_setLiking (some la) (aLikes P (nI a) (nI e)) (aLikes P (nI e) (nI a)) (mk S I1 L R n) = some (mk S I2 L R n) := by rw [hI2]; exact e_setLiking I1 hL _ _
    have hp1 : CPlan P S R I1 p := hp.keep hw (fun x _ h9 => k1 x (fun h8 => h9 (by rw [h8, ← hls, Nat.add_sub_cancel]; exact hL.1)))
    obtain ⟨g, hg⟩ := e_value (n := n) (L := L) I2 hL (pM P) true rfl (fun j hj => by rw [k2 _ hL.2.2.2.2.2.2.1]; exact hcode j hj) (hP.2.2.2.2.2.2.1 hS)
    have hv : lawv (I2 ls) (pM P) = lawv (vr (nI a) (nI e) (remI (nI M) 60) (nI c) (aLikes P (nI a) (nI e)) (aLikes P (nI e) (nI a))) (pM P) := by
      refine lawv_congr (m := 6) ?_ hP.2.2.2.2.2.2.2
      intro j hj
      rw [hI2, hI1]
      rcases (show j = 0 ∨ j = 1 ∨ j = 2 ∨ j = 3 ∨ j = 4 ∨ j = 5 by omega) with rfl | rfl | rfl | rfl | rfl | rfl <;> simp [up2, vr]
    have hcv : ∀ (I : mkI) {α : Type} (q : Option α), cV (mk S I L R n) (some la) 5 q = q := fun I α q => mk_cV (by rw [hL.1])
    refine ⟨up1 I2 ls g, fun x h9 => by have h8 : x ≠ ls := fun h7 => h9 (by rw [h7, ← hls, Nat.add_sub_cancel]; exact hL.1); rw [up1_ne _ _ h8, k2 x h8], ?_⟩
    simp only [hcv, e2, Option.bind_some, g6, hr, pl_v s1, c_liking hP hp1 ha he, c_liking hP hp1 he ha, b2_some, e3, hg, hv]
    rcases lawv_b (vs := vr (nI a) (nI e) (remI (nI M) 60) (nI c) (aLikes P (nI a) (nI e)) (aLikes P (nI e) (nI a))) (hP.2.2.2.2.2.2.1 hS) with h0 | h0
    · rw [h0, if_pos rfl]; rfl
    · rw [h0, if_neg (by decide)]; rfl
end CL
/-! the class: a course's rows -/
def CoS (S : mkS) (R : mkR) (co o lf cf lg cg : Nat) : Prop := (S co = (10, 0) ∧ 128 ≤ co) ∧ (R co 0 = some o ∧ R co 2 = some lf ∧ R co 3 = some cf ∧ R co 4 = some lg ∧ R co 5 = some cg) ∧ (S o = (1, 10) ∧ S lf = (1, 8) ∧ S cf = (1, 3) ∧ S lg = (1, 8) ∧ S cg = (1, 3)) ∧ (128 ≤ o ∧ 128 ≤ lf ∧ 128 ≤ cf ∧ 128 ≤ lg ∧ 128 ≤ cg) ∧ lf ≠ lg ∧ cf ≠ cg
def hldI (I : mkI) (lf cf a e : Nat) (v t : Int32) : mkI := if v = -1 then I else up2 (up2 (up2 I lf a t) lf e t) cf v.toNatClampNeg t
section CC
variable {S : mkS} {I : mkI} {L : mkL} {R : mkR} {n : Nat × Nat} {co o lf cf lg cg p : Nat} {P : PL}
theorem cq_v (h : CoS S R co o lf cf lg cg) {α : Type} {q : Option α} : cV (mk S I L R n) (some co) 1 q = q := mk_cV (by rw [h.1.1])
theorem cq_0 (h : CoS S R co o lf cf lg cg) : gR (mk S I L R n) (some co) 1 0 = some (some o) := (mk_gR (by rw [h.1.1]) rfl).trans (by rw [h.2.1.1])
theorem cq_1 (h : CoS S R co o lf cf lg cg) : gI (mk S I L R n) (some co) 1 1 = some (I co 1) := mk_gI (by rw [h.1.1]) rfl
theorem cq_p1 (h : CoS S R co o lf cf lg cg) {x : Int32} : pI (mk S I L R n) (some co) 1 1 x = some (mk S (up2 I co 1 x) L R n) := mk_pI (by rw [h.1.1]) rfl h.1.2
theorem cq_2 (h : CoS S R co o lf cf lg cg) : gR (mk S I L R n) (some co) 1 2 = some (some lf) := (mk_gR (by rw [h.1.1]) rfl).trans (by rw [h.2.1.2.1])
theorem cq_3 (h : CoS S R co o lf cf lg cg) : gR (mk S I L R n) (some co) 1 3 = some (some cf) := (mk_gR (by rw [h.1.1]) rfl).trans (by rw [h.2.1.2.2.1])
theorem cq_4 (h : CoS S R co o lf cf lg cg) : gR (mk S I L R n) (some co) 1 4 = some (some lg) := (mk_gR (by rw [h.1.1]) rfl).trans (by rw [h.2.1.2.2.2.1])
theorem cq_5 (h : CoS S R co o lf cf lg cg) : gR (mk S I L R n) (some co) 1 5 = some (some cg) := (mk_gR (by rw [h.1.1]) rfl).trans (by rw [h.2.1.2.2.2.2])
theorem cq_ao (h : CoS S R co o lf cf lg cg) {k : Nat} (hk : k < 10) : aI (mk S I L R n) (some o) 0 (nI k) = some (I o k) := mk_aJ0 h.2.2.1.1 hk (by decide)
theorem cq_so (h : CoS S R co o lf cf lg cg) {k : Nat} {x : Int32} (hk : k < 10) : sI (mk S I L R n) (some o) 0 (nI k) x = some (mk S (up2 I o k x) L R n) := mk_sJ0 h.2.2.1.1 hk (by decide) h.2.2.2.1.1
theorem cq_al (h : CoS S R co o lf cf lg cg) {k : Nat} (hk : k < 8) : aI (mk S I L R n) (some lf) 0 (nI k) = some (I lf k) := mk_aJ0 h.2.2.1.2.1 hk (by decide)
theorem cq_sl (h : CoS S R co o lf cf lg cg) {k : Nat} {x : Int32} (hk : k < 8) : sI (mk S I L R n) (some lf) 0 (nI k) x = some (mk S (up2 I lf k x) L R n) := mk_sJ0 h.2.2.1.2.1 hk (by decide) h.2.2.2.1.2.1
theorem cq_ac (h : CoS S R co o lf cf lg cg) {k : Nat} (hk : k < 3) : aI (mk S I L R n) (some cf) 0 (nI k) = some (I cf k) := mk_aJ0 h.2.2.1.2.2.1 hk (by decide)
theorem cq_sc (h : CoS S R co o lf cf lg cg) {k : Nat} {x : Int32} (hk : k < 3) : sI (mk S I L R n) (some cf) 0 (nI k) x = some (mk S (up2 I cf k x) L R n) := mk_sJ0 h.2.2.1.2.2.1 hk (by decide) h.2.2.2.1.2.2.1
theorem c_isL1 (x : Int32) (h : MH) : F_X1_isLine x h = some (b2i (isL 8 x), h) := by
  unfold F_X1_isLine F_X1_isLine_14 F_X1_isLine_15 isL
  show (if x < 0 then _ else if (8 : Int32) ≤ x then _ else _) = some (b2i (decide (¬ x < 0) && decide (¬ (8 : Int32) ≤ x)), h)
  by_cases h1 : x < 0
  · simp [h1, rZ, b2i]
  · by_cases h2 : (8 : Int32) ≤ x <;> simp [h1, h2, rZ, b2i]
theorem c_areFree (h : CoS S R co o lf cf lg cg) {a e : Nat} (ha : a < 8) (he : e < 8) (t : Int32) : F_X1_areFree (some co) (nI a) (nI e) t (mk S I L R n) = some (b2i (decide (¬ t < I lf a) && decide (¬ t < I lf e)), mk S I L R n) := by
  unfold F_X1_areFree F_X1_areFree_38 F_X1_areFree_39
  rw [c_isL1, b2_some, isL_nI ha (by decide), if_neg (by decide), c_isL1, b2_some, isL_nI he (by decide), if_neg (by decide), cq_2 h, Option.bind_some, cq_al h ha, Option.bind_some]
  by_cases q1 : t < I lf a
  · simp [q1, rZ, b2i]
  · rw [if_neg q1, Option.bind_some, cq_al h he, Option.bind_some]
    by_cases q2 : t < I lf e <;> simp [q1, q2, rZ, b2i]
theorem c_isCordFree (h : CoS S R co o lf cf lg cg) {k : Nat} (hk : k < 3) (t : Int32) : F_X1_isCordFree (some co) (nI k) t (mk S I L R n) = some (b2i (decide (¬ t < I cf k)), mk S I L R n) := by
  have e : ¬ (3 : Int32) ≤ nI k := nI_ge (b := 3) (by omega) (by omega)
  unfold F_X1_isCordFree F_X1_isCordFree_23 F_X1_isCordFree_24
  rw [if_neg (nI_pos (by omega)), if_neg e, cq_3 h, Option.bind_some, cq_ac h hk, Option.bind_some]
  by_cases q1 : t < I cf k <;> simp [q1, rZ, b2i]
theorem c_hold (h : CoS S R co o lf cf lg cg) {a e k : Nat} (ha : a < 8) (he : e < 8) (hk : k < 3) (t : Int32) : F_X1_hold (some co) (nI a) (nI e) (nI k) t (mk S I L R n) = some (mk S (up2 (up2 (up2 I lf a t) lf e t) cf k t) L R n) := by
  have q : ¬ (3 : Int32) ≤ nI k := nI_ge (b := 3) (by omega) (by omega)
  unfold F_X1_hold F_X1_hold_47
  rw [c_isL1, b2_some, isL_nI ha (by decide), if_neg (by decide), c_isL1, b2_some, isL_nI he (by decide), if_neg (by decide), if_neg (nI_pos (by omega)), if_neg q, cq_2 h, Option.bind_some, cq_sl h ha, Option.bind_some, cq_2 h, Option.bind_some, cq_sl h he, Option.bind_some, cq_3 h, Option.bind_some, cq_sc h hk, Option.bind_some]
def tkP (P : PL) (Y : Nat → Int32) (a e : Nat) (t : Int32) (k : Nat) : Bool := decide (¬ t < Y k) && (hasB (pRe P k) (nI a) && hasB (pRe P k) (nI e))
theorem c_takeL (hP : PlOK P) (h : CoS S R co o lf cf lg cg) (hp : CPlan P S R I p) {a e : Nat} (ha : a < 8) (he : e < 8) (t u : Int32) : ∀ (r g k : Nat), k + r = pC P → r < g → F_X1_takeCord_21 g (some co) (some p) (nI a) (nI e) t u (nI k) (mk S I L R n) = some (fnd (tkP P (I cf) a e t) r k, mk S (hldI I lf cf a e (fnd (tkP P (I cf) a e t) r k) u) L R n) := by
  have w3 := hP.2.2.1
  intro r
  induction r with
  | zero =>
    intro g k hk hg
    obtain ⟨g, rfl⟩ : ∃ z, g = z + 1 := ⟨g - 1, by omega⟩
    have h1 : nI (pC P) ≤ nI k := nI_le (by omega) (by omega)
    simp only [F_X1_takeCord_21, pl_1 hp, Option.bind_some, h1, if_true, fnd, hldI]
  | succ r ih =>
    intro g k hk hg
    obtain ⟨g, rfl⟩ : ∃ z, g = z + 1 := ⟨g - 1, by omega⟩
    have h1 : ¬ nI (pC P) ≤ nI k := nI_ge (by omega) (by omega)
    have ih := ih g (k + 1) (by omega) (by omega)
    simp only [F_X1_takeCord_21, pl_1 hp, Option.bind_some, h1, if_false, cq_v h, c_isCordFree h (show k < 3 by omega), b2_some, b2i_0, pl_v hp.1, c_reaches hP hp (show k < pC P by omega) (show a < 31 by omega) (show e < 31 by omega), F_X1_takeCord_65, li_add' 1, ih, c_hold h ha he (show k < 3 by omega)]
    have ek : (nI k).toNatClampNeg = k := nI_clamp (by omega)
    have en : ¬ nI k = -1 := nI_nm1 (by omega)
    by_cases q1 : t < I cf k
    · simp [fnd, tkP, q1]
    · cases q2 : (hasB (pRe P k) (nI a) && hasB (pRe P k) (nI e))
      · simp [fnd, tkP, q1, q2]
      · simp [fnd, tkP, q1, q2, hldI, ek, en]
def tkV (P : PL) (X Y : Nat → Int32) (a e : Nat) (t : Int32) : Int32 := if nI a = nI e then -1 else if (decide (¬ t < X a) && decide (¬ t < X e)) = false then -1 else fnd (tkP P Y a e t) (pC P) 0
theorem c_takeCord (hP : PlOK P) (h : CoS S R co o lf cf lg cg) (hp : CPlan P S R I p) {a e : Nat} (ha : a < 8) (he : e < 8) (t u : Int32) : F_X1_takeCord (some co) (some p) (nI a) (nI e) t u (mk S I L R n) = some (tkV P (I lf) (I cf) a e t, mk S (hldI I lf cf a e (tkV P (I lf) (I cf) a e t) u) L R n) := by
  unfold F_X1_takeCord F_X1_takeCord_16 tkV
  by_cases q : nI a = nI e
  · rw [if_pos q, if_pos q]; rfl
  · rw [if_neg q, if_neg q, cq_v h, c_areFree h ha he, b2_some]
    simp only [b2i_0]
    by_cases q2 : (decide (¬ t < I lf a) && decide (¬ t < I lf e)) = false
    · rw [if_pos q2, if_pos q2]; rfl
    · rw [if_neg q2, if_neg q2]
      exact c_takeL hP h hp ha he t u (pC P) mm_N 0 (by omega) (by have := hP.2.2.1; show pC P < 1000000; omega)
end CC
