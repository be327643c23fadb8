/-! rules: the reference -/
theorem getD_app (F : List Nat) (r j : Nat) (h : j < F.length + 1) : (F ++ [r]).getD j 0 = if j < F.length then F.getD j 0 else r := by
  by_cases e : j < F.length
  · rw [if_pos e]; simp [List.getD, List.getElem?_append, e]
  · rw [if_neg e]
    have : j = F.length := by omega
    subst this
    simp [List.getD]
theorem getD_mem (F : List Nat) (j : Nat) (h : j < F.length) : F.getD j 0 ∈ F := by
  simp [List.getD, List.getElem?_eq_getElem h]
theorem getD_pre (F t : List Nat) (z : Nat) : (F ++ z :: t).getD F.length 0 = z := by simp [List.getD]
def LRu (W : Nat) (l : Nat → Nat) (q : Nat) (I : mkI) (r : Nat) : Prop := I 197 43 = nI (rF W l q r).length ∧ ∀ j, j < (rF W l q r).length → I 215 j = nI ((rF W l q r).getD j 0)
def scL (I I' : mkI) : Prop := (∀ a, a ≠ 215 → a ≠ 197 → I' a = I a) ∧ ∀ j, j ≠ 43 → I' 197 j = I 197 j
theorem scL.rf {I : mkI} : scL I I := ⟨fun _ _ _ => rfl, fun _ _ => rfl⟩
theorem scL.tr {I I' I'' : mkI} (h : scL I I') (h2 : scL I' I'') : scL I I'' := ⟨fun a q1 q2 => (h2.1 a q1 q2).trans (h.1 a q1 q2), fun j q => (h2.2 j q).trans (h.2 j q)⟩
theorem scL.q {I I' : mkI} (h : scL I I') : scQ I I' := ⟨fun a q1 _ _ _ q5 => h.1 a (by show a ≠ 215; omega) q1, fun j q => h.2 j (by omega)⟩
theorem LRu.yes {W q r : Nat} {l : Nat → Nat} {I : mkI} (h : LRu W l q I r) (hp : rP W l q r = true) : LRu W l q (up2 (up2 I 215 (rF W l q r).length (nI r)) 197 43 (nI ((rF W l q r).length + 1))) (r + 1) := by
  obtain ⟨h1, h2⟩ := h
  have e : rF W l q (r + 1) = rF W l q r ++ [r] := by rw [rF_s, if_pos hp]
  unfold LRu
  rw [e, List.length_append, List.length_singleton]
  refine ⟨up2_self _ _ _ _, fun j hj => ?_⟩
  rw [up2_ne _ _ _ (by decide), up2_row, getD_app _ _ _ hj]
  by_cases y : j < (rF W l q r).length
  · rw [if_pos y, up1_ne _ _ (by omega)]; exact h2 j y
  · have : j = (rF W l q r).length := by omega
    rw [if_neg y, this, up1_self]
theorem LRu.no {W q r : Nat} {l : Nat → Nat} {I : mkI} (h : LRu W l q I r) (hp : ¬ rP W l q r = true) : LRu W l q I (r + 1) := by
  have e : rF W l q (r + 1) = rF W l q r := by rw [rF_s, if_neg hp, List.append_nil]
  unfold LRu
  rw [e]; exact h
section RR
variable {S : mkS} {I : mkI} {L : mkL} {R : mkR} {n : Nat × Nat}
theorem e_ruled (hs : St S R) {W u v x y : Nat} (h1 : 2 ≤ W) (h2 : W ≤ 8) (hu : u < 8) (hv : v < 8) (hx : x < 8) (hy : y < 8) (hK : I 198 1 = nI W) : F_X12_ruled (some 197) (nI u) (nI v) (nI x) (nI y) (mk S I L R n) = some (nI ((u * x + y + v) % W), mk S I L R n) := by
  have hm : u * x ≤ 8 * 8 := Nat.mul_le_mul (by omega) (by omega)
  unfold F_X12_ruled
  rw [gr_197_0 hs, Option.bind_some, show (1 : Int32) = nI 1 from rfl, ai_198 hs (by omega), Option.bind_some, hK, if_neg (show ¬ nI W = 0 from fun e => absurd ((nI_eq (b := 0) (by omega) (by omega)).mp e) (by omega)), nI_mul9, nI_add, nI_add, pk_rem (by omega) (by omega) (by omega)]
theorem e_told (hs : St S R) {t j : Nat} (h : 30 * t + j < 120) : F_X12_told (some 197) (nI t) (nI j) (mk S I L R n) = some ((L 219 (30 * t + j)).toInt32, mk S I L R n) := by
  unfold F_X12_told
  rw [gr_197_47 hs, Option.bind_some, show (30 : Int32) * nI t = nI (30 * t) from nI_mul9 30 t, nI_add, al_219 hs h, Option.bind_some]
/-- a tray at the reference -/
def RTl (t ma : Nat) (nu : Nat → Int64) (I : mkI) (L : mkL) : Prop := t < 4 ∧ ma ≤ 30 ∧ ¬ I 217 t = -1 ∧ I 218 t = nI ma ∧ ∀ j, j < ma → L 219 (30 * t + j) = nu j
theorem e_rfL (hs : St S R) {t ma W : Nat} {nu : Nat → Int64} (hT : RTl t ma nu I L) (hK : I 198 1 = nI W) : ∀ (r g i : Nat) (b : Bool), i + r = ma → r < g → F_X12_rulesFault_51 g (some 197) (nI t) (b2i b) (nI i) (mk S I L R n) = some (if (b && allL W nu r i) = true then 0 else 3, mk S I L R n) := by
  obtain ⟨ht, hm, -, h4, h5⟩ := hT
  intro r
  induction r with
  | zero =>
    intro g i b hi hg
    obtain ⟨g, rfl⟩ : ∃ y, g = y + 1 := ⟨g - 1, by omega⟩
    simp only [F_X12_rulesFault_51, F_X12_rulesFault_89, F_X12_rulesFault_98]
    rw [gr_197_46 hs, Option.bind_some, ai_218 hs ht, Option.bind_some, h4, if_pos (nI_le (by omega) (by omega))]
    cases b <;> rfl
  | succ r ih =>
    intro g i b hi hg
    obtain ⟨g, rfl⟩ : ∃ y, g = y + 1 := ⟨g - 1, by omega⟩
    have e0 : ¬ nI ma ≤ nI i := nI_ge (by omega) (by omega)
    cases b with
    | false =>
      simp only [F_X12_rulesFault_51, F_X12_rulesFault_89, F_X12_rulesFault_98]
      rw [gr_197_46 hs, Option.bind_some, ai_218 hs ht, Option.bind_some, h4, if_neg e0, if_pos (show b2i false = 0 from rfl), if_pos (show b2i false = 0 from rfl)]
      rfl
    | true =>
      have e9 : (30 : Int32) * nI t + nI i = nI (30 * t + i) := by
        rw [show (30 : Int32) = nI 30 from rfl, nI_mul9, nI_add]
      simp only [F_X12_rulesFault_51, F_X12_rulesFault_89, F_X12_rulesFault_98]
      rw [gr_197_46 hs, Option.bind_some, ai_218 hs ht, Option.bind_some, h4, if_neg e0, if_neg (show ¬ b2i true = 0 by decide), gr_197_47 hs, Option.bind_some, e9, al_219 hs (by omega), Option.bind_some, cv_197 hs, e_isLine hs, b2_some, hK, h5 i (by omega), nI_1]
      have := ih g (i + 1) (lnL W (nu i)) (by omega) (by omega)
      rw [Bool.true_and, allL]
      exact this
theorem e_rulesFault (hs : St S R) {t ma W : Nat} {nu : Nat → Int64} (hT : RTl t ma nu I L) (hK : I 198 1 = nI W) : F_X12_rulesFault (some 197) (nI t) (mk S I L R n) = some (if r3 W ma nu = true then 0 else 3, mk S I L R n) := by
  obtain ⟨ht, hm, h3, h4, h5⟩ := id hT
  have key := fun b => e_rfL (R := R) (n := n) hs hT hK ma mm_N 0 b (by omega) (by show ma < 1000000; omega)
  have ew : F_X12_within (nI ma).toInt64 3 15 (mk S I L R n) = some (b2i (decide (3 ≤ ma) && decide (ma ≤ 15)), mk S I L R n) := by
    have := e_in (nI ma) 3 15 (mk S I L R n)
    rw [show wI (nI ma) 3 15 = (decide (3 ≤ ma) && decide (ma ≤ 15)) from wI_n (lo := 3) (hi := 15) (by omega) (by decide) (by decide)] at this
    exact this
  unfold F_X12_rulesFault F_X12_rulesFault_46 F_X12_rulesFault_47 r3
  rw [cv_197 hs, e_tray hs ht, b2_some, if_neg h3, if_pos rfl, gr_197_46 hs, Option.bind_some, ai_218 hs ht, Option.bind_some, h4, rem3 (by omega)]
  by_cases e : ma % 3 = 0
  · rw [e, if_pos (by decide), Option.bind_some, ai_218 hs ht, Option.bind_some, h4, ew, b2_some, decide_eq_true (show (0 : Nat) = 0 by rfl), Bool.true_and]
    by_cases z : (decide (3 ≤ ma) && decide (ma ≤ 15)) = true
    · rw [z, if_neg (by decide), Bool.true_and]
      have := key true
      rw [Bool.true_and] at this
      exact this
    · have z' : (decide (3 ≤ ma) && decide (ma ≤ 15)) = false := by simpa using z
      rw [z', if_pos (by decide), Bool.false_and, if_neg Bool.false_ne_true]
      exact key false
  · rw [if_neg (show ¬ nI (ma % 3) = 0 from fun q => e ((nI_eq (b := 0) (by omega) (by omega)).mp q)), decide_eq_false e, Bool.false_and, if_neg Bool.false_ne_true]
    exact key false
theorem e_lay35 (hs : St S R) {k7 : Option Nat → Int32 → Int32 → MH → Option MH} {k19 : Option Nat → Int32 → Int32 → Int32 → MH → Option MH} {t ma W M u v : Nat} {nu : Nat → Int64} (h1 : 2 ≤ W) (h2 : W ≤ 8) (hT : RTl t ma nu I L) (hn : ∀ j, j < ma → lnv nu j < W ∧ nu j = (nI (lnv nu j)).toInt64) (hK : I 198 1 = nI W) (hM : I 197 43 = nI M) (hM2 : M < 64) (hu : u < 8) (hv : v < 8) : ∀ (r g i : Nat) (b : Bool), i + 3 * r = ma → r < g → F_X12_laysRules_35 k7 k19 g (some 197) (nI t) (nI u) (nI v) (b2i b) (nI i) (mk S I L R n) = if (b && rexp W (lnv nu) u v r i) = true then k19 (some 197) (nI t) (nI u) (nI (v + 1)) (mk S (up2 (up2 I 215 M (nI (10 * u + v))) 197 43 (nI (M + 1))) L R n) else k19 (some 197) (nI t) (nI u) (nI (v + 1)) (mk S I L R n) := by
  obtain ⟨ht, hm, -, h4, h5⟩ := hT
  intro r
  induction r with
  | zero =>
    intro g i b hi hg
    obtain ⟨g, rfl⟩ : ∃ y, g = y + 1 := ⟨g - 1, by omega⟩
    simp only [F_X12_laysRules_35, F_X12_laysRules_131]
    rw [gr_197_46 hs, Option.bind_some, ai_218 hs ht, Option.bind_some, h4, if_pos (nI_le (by omega) (by omega)), nI_1]
    cases b with
    | false => rw [if_pos (by decide), Bool.false_and, if_neg Bool.false_ne_true]
    | true =>
      rw [if_neg (show ¬ b2i true = 0 by decide), Bool.true_and, show rexp W (lnv nu) u v 0 i = true from rfl, if_pos rfl, gr_197_42 hs, Option.bind_some, gi_197_43 hs, Option.bind_some, hM, show (10 : Int32) * nI u = nI (10 * u) from nI_mul9 10 u, nI_add, si_215 hs hM2, Option.bind_some, gi_197_43 hs, Option.bind_some, up2_ne _ _ _ (by decide), hM, nI_1, pi_197_43 hs, Option.bind_some]
  | succ r ih =>
    intro g i b hi hg
    obtain ⟨g, rfl⟩ : ∃ y, g = y + 1 := ⟨g - 1, by omega⟩
    have e0 : ¬ nI ma ≤ nI i := nI_ge (by omega) (by omega)
    have e3 : nI i + 3 = nI (i + 3) := nI_add i 3
    cases b with
    | false =>
      simp only [F_X12_laysRules_35, F_X12_laysRules_89, F_X12_laysRules_90]
      rw [gr_197_46 hs, Option.bind_some, ai_218 hs ht, Option.bind_some, h4, if_neg e0, if_pos (by decide), e3]
      exact ih g (i + 3) false (by omega) (by omega)
    | true =>
      obtain ⟨a1, a2⟩ := hn i (by omega)
      obtain ⟨b1, b2⟩ := hn (i + 1) (by omega)
      obtain ⟨d1, d2⟩ := hn (i + 2) (by omega)
      have hml : (u * lnv nu i + lnv nu (i + 1) + v) % W < W := Nat.mod_lt _ (by omega)
      simp only [F_X12_laysRules_35, F_X12_laysRules_89, F_X12_laysRules_90]
      rw [gr_197_46 hs, Option.bind_some, ai_218 hs ht, Option.bind_some, h4, if_neg e0, if_neg (by decide), cv_197 hs, e_told hs (by omega), b2_some, nI_1, cv_197 hs, e_told hs (by omega), b2_some, h5 i (by omega), h5 (i + 1) (by omega), a2, b2, Int32.toInt32_toInt64, Int32.toInt32_toInt64, cv_197 hs, e_ruled hs h1 h2 hu hv (by omega) (by omega) hK, b2_some, show nI i + 2 = nI (i + 2) from nI_add i 2, cv_197 hs, e_told hs (by omega), b2_some, h5 (i + 2) (by omega), d2, Int32.toInt32_toInt64, e3]
      unfold rexp
      rw [Bool.true_and]
      by_cases e : (u * lnv nu i + lnv nu (i + 1) + v) % W = lnv nu (i + 2)
      · rw [if_pos (by rw [e]), decide_eq_true e]
        exact ih g (i + 3) true (by omega) (by omega)
      · rw [if_neg (fun q => e ((nI_eq (by omega) (by omega)).mp q)), decide_eq_false e, Bool.false_and]
        have := ih g (i + 3) false (by omega) (by omega)
        rw [Bool.false_and] at this
        exact this
theorem e_lay19 (hs : St S R) {k7 : Option Nat → Int32 → Int32 → MH → Option MH} {t ma W u : Nat} {nu : Nat → Int64} (h1 : 2 ≤ W) (h2 : W ≤ 8) (hmd : ma = 3 * (ma / 3)) (hn : ∀ j, j < ma → lnv nu j < W ∧ nu j = (nI (lnv nu j)).toInt64) (hu : u < W) : ∀ (z g v : Nat) (I : mkI), v + z = W → z < g → RTl t ma nu I L → I 198 1 = nI W → LRu W (lnv nu) (ma / 3) I (10 * u + v) → ∃ I', F_X12_laysRules_19 k7 g (some 197) (nI t) (nI u) (nI v) (mk S I L R n) = k7 (some 197) (nI t) (nI (u + 1)) (mk S I' L R n) ∧ scL I I' ∧ LRu W (lnv nu) (ma / 3) I' (10 * (u + 1)) := by
  intro z
  induction z with
  | zero =>
    intro g v I hv hg hT hK hU
    obtain ⟨g, rfl⟩ : ∃ y, g = y + 1 := ⟨g - 1, by omega⟩
    have : v = W := by omega
    subst this
    refine ⟨I, ?_, scL.rf, ?_⟩
    · simp only [F_X12_laysRules_19]
      rw [gr_197_0 hs, Option.bind_some, show (1 : Int32) = nI 1 from rfl, ai_198 hs (by omega), Option.bind_some, hK, if_pos (nI_le (by omega) (by omega)), nI_add]
    · unfold LRu at *
      rw [← rF_row u (by omega)]; exact hU
  | succ z ih =>
    intro g v I hv hg hT hK hU
    obtain ⟨g, rfl⟩ : ∃ y, g = y + 1 := ⟨g - 1, by omega⟩
    have hlen := rF_len (q := ma / 3) (l := lnv nu) h2 u v (by omega) (by omega)
    have hd : (10 * u + v) / 10 = u := by omega
    have hmo : (10 * u + v) % 10 = v := by omega
    have hrp : rP W (lnv nu) (ma / 3) (10 * u + v) = rexp W (lnv nu) u v (ma / 3) 0 := by
      unfold rP
      rw [hd, hmo, decide_eq_true hu, decide_eq_true (show v < W by omega), Bool.true_and, Bool.true_and]
    have hm30 := hT.2.1
    have step := e_lay35 (n := n) (k7 := k7) (k19 := F_X12_laysRules_19 k7 g) hs h1 h2 hT hn hK hU.1 (show (rF W (lnv nu) (ma / 3) (10 * u + v)).length < 64 by omega) (show u < 8 by omega) (show v < 8 by omega) (ma / 3) mm_N 0 true (by omega) (by show ma / 3 < 1000000; omega)
    rw [Bool.true_and, ← hrp] at step
    have head : F_X12_laysRules_19 k7 (g + 1) (some 197) (nI t) (nI u) (nI v) (mk S I L R n) = F_X12_laysRules_35 k7 (F_X12_laysRules_19 k7 g) mm_N (some 197) (nI t) (nI u) (nI v) (b2i true) (nI 0) (mk S I L R n) := by
      simp only [F_X12_laysRules_19]
      rw [gr_197_0 hs, Option.bind_some, show aI (mk S I L R n) (some 198) 0 1 = some (I 198 1) from ai_198 (k := 1) hs (by omega), Option.bind_some, hK, if_neg (nI_ge (by omega) (by omega))]
      rfl
    rw [head, step]
    by_cases e : rP W (lnv nu) (ma / 3) (10 * u + v) = true
    · rw [if_pos e]
      obtain ⟨t1, t2, t3, t4, t5⟩ := hT
      obtain ⟨I', q1, q2, q3⟩ := ih g (v + 1) (up2 (up2 I 215 (rF W (lnv nu) (ma / 3) (10 * u + v)).length (nI (10 * u + v))) 197 43 (nI ((rF W (lnv nu) (ma / 3) (10 * u + v)).length + 1))) (by omega) (by omega) ⟨t1, t2, by rw [up2_ne _ _ _ (by decide), up2_ne _ _ _ (by decide)]; exact t3, by rw [up2_ne _ _ _ (by decide), up2_ne _ _ _ (by decide)]; exact t4, t5⟩ (by rw [up2_ne _ _ _ (by decide), up2_ne _ _ _ (by decide)]; exact hK) (hU.yes e)
      refine ⟨I', q1, scL.tr ⟨fun a q1 q2 => by rw [up2_ne _ _ _ q2, up2_ne _ _ _ q1], fun j q => by rw [up2_row, up1_ne _ _ q, up2_ne _ _ _ (by decide)]⟩ q2, q3⟩
    · rw [if_neg e]
      exact ih g (v + 1) I (by omega) (by omega) hT hK (hU.no e)
theorem e_lay7 (hs : St S R) {t ma W : Nat} {nu : Nat → Int64} (h1 : 2 ≤ W) (h2 : W ≤ 8) (hmd : ma = 3 * (ma / 3)) (hn : ∀ j, j < ma → lnv nu j < W ∧ nu j = (nI (lnv nu j)).toInt64) : ∀ (z g u : Nat) (I : mkI), u + z = W → z < g → RTl t ma nu I L → I 198 1 = nI W → LRu W (lnv nu) (ma / 3) I (10 * u) → ∃ I', F_X12_laysRules_7 g (some 197) (nI t) (nI u) (mk S I L R n) = some (mk S I' L R n) ∧ scL I I' ∧ LRu W (lnv nu) (ma / 3) I' 80 := by
  intro z
  induction z with
  | zero =>
    intro g u I hv hg hT hK hU
    obtain ⟨g, rfl⟩ : ∃ y, g = y + 1 := ⟨g - 1, by omega⟩
    have : u = W := by omega
    subst this
    refine ⟨I, ?_, scL.rf, ?_⟩
    · simp only [F_X12_laysRules_7]
      rw [gr_197_0 hs, Option.bind_some, show aI (mk S I L R n) (some 198) 0 1 = some (I 198 1) from ai_198 (k := 1) hs (by omega), Option.bind_some, hK, if_pos (nI_le (by omega) (by omega))]
    · unfold LRu at *
      rw [← rF_end h2]; exact hU
  | succ z ih =>
    intro g u I hv hg hT hK hU
    obtain ⟨g, rfl⟩ : ∃ y, g = y + 1 := ⟨g - 1, by omega⟩
    obtain ⟨I1, p1, p2, p3⟩ := e_lay19 (n := n) (k7 := F_X12_laysRules_7 g) hs h1 h2 hmd hn (show u < W by omega) W mm_N 0 I (by omega) (by show W < 1000000; omega) hT hK hU
    obtain ⟨t1, t2, t3, t4, t5⟩ := hT
    obtain ⟨I', q1, q2, q3⟩ := ih g (u + 1) I1 (by omega) (by omega) ⟨t1, t2, by rw [p2.1 _ (by decide) (by decide)]; exact t3, by rw [p2.1 _ (by decide) (by decide)]; exact t4, t5⟩ (by rw [p2.1 _ (by decide) (by decide)]; exact hK) p3
    refine ⟨I', ?_, p2.tr q2, q3⟩
    simp only [F_X12_laysRules_7]
    rw [gr_197_0 hs, Option.bind_some, show aI (mk S I L R n) (some 198) 0 1 = some (I 198 1) from ai_198 (k := 1) hs (by omega), Option.bind_some, hK, if_neg (nI_ge (by omega) (by omega))]
    exact p1.trans q1
theorem e_lays (hs : St S R) {P : PL} {t ma : Nat} {nu : Nat → Int64} (hP : PlOK P) (h3 : r3 (pW P) ma nu = true) (hT : RTl t ma nu I L) (hK : I 198 1 = nI (pW P)) : ∃ I', F_X12_laysRules (some 197) (nI t) (mk S I L R n) = some (mk S I' L R n) ∧ scL I I' ∧ LRu (pW P) (lnv nu) (ma / 3) I' 80 := by
  obtain ⟨d1, d2, d3, d4⟩ := r3_d hP h3
  have w1 := hP.1
  have w2 := hP.2.1
  obtain ⟨t1, t2, t3, t4, t5⟩ := hT
  obtain ⟨I', q1, q2, q3⟩ := e_lay7 (L := L) (n := n) hs w1 w2 d1 d4 (pW P) mm_N 0 (up2 I 197 43 0) (by omega) (by show pW P < 1000000; omega) ⟨t1, t2, by rw [up2_ne _ _ _ (by decide)]; exact t3, by rw [up2_ne _ _ _ (by decide)]; exact t4, t5⟩ (by rw [up2_ne _ _ _ (by decide)]; exact hK) ⟨by rw [up2_self]; rfl, fun j hj => absurd hj (Nat.not_lt_zero _)⟩
  refine ⟨I', ?_, scL.tr ⟨fun a _ q2 => by rw [up2_ne _ _ _ q2], fun j q => by rw [up2_row, up1_ne _ _ q]⟩ q2, q3⟩
  unfold F_X12_laysRules
  rw [pi_197_43 hs, Option.bind_some]
  exact q1
theorem e_mostL (hs : St S R) {W c F T : Nat} {G : List Nat} (h1 : 2 ≤ W) (h2 : W ≤ 8) (hc : c < 10) (hF : F < 8) (hT : T < 8) (hG : ∀ z, z ∈ G → z / 10 < W ∧ z % 10 < W ∧ z < 80) (hG2 : G.length ≤ 64) : ∀ (t pre : List Nat) (g : Nat) (I : mkI) (f : Nat → Nat) (m : Nat), G = pre ++ t → t.length < g → I 198 1 = nI W → I 198 (51 + c) = nI F → I 198 (61 + c) = nI T → I 197 43 = nI G.length → (∀ j, j < G.length → I 215 j = nI (G.getD j 0)) → (∀ j, j < 8 → I 216 j = nI (f j)) → (∀ j, f j ≤ pre.length) → m ≤ pre.length → ∃ I', F_X12_mostAlike_25 g (some 197) (nI c) (nI m) (nI pre.length) (mk S I L R n) = some (nI (rMost (rcm W F T) t (f, m)).2, mk S I' L R n) ∧ ∀ x, x ≠ 216 → I' x = I x := by
  intro t
  induction t with
  | nil =>
    intro pre g I f m hGe hg _ _ _ hm _ _ _ _
    obtain ⟨g, rfl⟩ : ∃ y, g = y + 1 := ⟨g - 1, by have : ([] : List Nat).length = 0 := rfl; omega⟩
    rw [List.append_nil] at hGe
    subst hGe
    refine ⟨I, ?_, fun _ _ => rfl⟩
    simp only [F_X12_mostAlike_25]
    rw [gi_197_43 hs, Option.bind_some, hm, if_pos (nI_le (Nat.le_refl _) (by omega))]
    rfl
  | cons z t ih =>
    intro pre g I f m hGe hg hK hIF hIT hm hrow hf hfp hmp
    rw [List.length_cons] at hg
    obtain ⟨g, rfl⟩ : ∃ y, g = y + 1 := ⟨g - 1, by omega⟩
    have hlen : G.length = pre.length + (t.length + 1) := by rw [hGe, List.length_append, List.length_cons]
    have hgz : G.getD pre.length 0 = z := by rw [hGe]; exact getD_pre pre t z
    obtain ⟨z1, z2, z3⟩ := hG z (by rw [hGe]; exact List.mem_append_right _ (List.mem_cons_self ..))
    have hy : rcm W F T z < W := Nat.mod_lt _ (by omega)
    obtain ⟨y, hyy⟩ : ∃ y, y = rcm W F T z := ⟨_, rfl⟩
    rw [← hyy] at hy
    have hfy := hfp y
    have hrz : I 215 pre.length = nI z := by rw [hrow _ (by omega), hgz]
    have hru : F_X12_ruled (some 197) (nI (z / 10)) (nI (z % 10)) (nI F) (nI T) (mk S I L R n) = some (nI y, mk S I L R n) := by
      rw [e_ruled hs h1 h2 (by omega) (by omega) hF hT hK, hyy]; rfl
    have hpl : (pre ++ [z]).length = pre.length + 1 := by rw [List.length_append, List.length_singleton]
    obtain ⟨I', q1, q2⟩ := ih (pre ++ [z]) g (up2 I 216 y (nI (f y + 1))) (fun j => if j = y then f j + 1 else f j) (max m (f y + 1)) (by rw [hGe, List.append_assoc]; rfl) (by omega) (by rw [up2_ne _ _ _ (by decide)]; exact hK) (by rw [up2_ne _ _ _ (by decide)]; exact hIF) (by rw [up2_ne _ _ _ (by decide)]; exact hIT) (by rw [up2_ne _ _ _ (by decide)]; exact hm) (by rw [up2_ne _ _ _ (by decide)]; exact hrow) (fun j hj => by
        rw [up2_row]
        by_cases ej : j = y
        · subst ej; rw [up1_self, if_pos rfl]
        · rw [up1_ne _ _ ej, if_neg ej]; exact hf j hj) (fun j => by show (if j = y then f j + 1 else f j) ≤ _; rw [hpl]; have := hfp j; split <;> omega) (by rw [hpl]; omega)
    rw [hpl] at q1
    refine ⟨I', ?_, fun x hx => by rw [q2 x hx, up2_ne _ _ _ hx]⟩
    simp only [F_X12_mostAlike_25]
    rw [gi_197_43 hs, Option.bind_some, hm, if_neg (nI_ge (by omega) (by omega)), gr_197_42 hs, Option.bind_some, ai_215 hs (by omega), Option.bind_some, Option.bind_some, ai_215 hs (by omega), Option.bind_some, gr_197_0 hs, Option.bind_some, show (51 : Int32) + nI c = nI (51 + c) from nI_add 51 c, ai_198 hs (by omega), Option.bind_some, Option.bind_some, show (61 : Int32) + nI c = nI (61 + c) from nI_add 61 c, ai_198 hs (by omega), Option.bind_some, hrz, hIF, hIT, nI_rem10 z (by omega), show nI z / 10 = nI (z / 10) from nI_div (b := 10) (by omega) (by decide) (by decide), cv_197 hs, hru, b2_some, gr_197_44 hs, Option.bind_some, ai_216 hs (by omega), Option.bind_some, hf y (by omega), nI_1, si_216 hs (by omega), Option.bind_some, gr_197_44 hs, Option.bind_some, ai_216 hs (by omega), Option.bind_some, up2_self, mxI_nI (by omega) (by omega), nI_1]
    rw [show rMost (rcm W F T) (z :: t) (f, m) = rMost (rcm W F T) t (fun j => if j = y then f j + 1 else f j, max m (f y + 1)) by rw [hyy]; rfl]
    exact q1
theorem e_zeroL (hs : St S R) {c m : Nat} : ∀ (r g l : Nat) (I : mkI), l + r = 8 → r < g → ∃ I', F_X12_mostAlike_4 g (some 197) (nI c) (nI m) (nI l) (mk S I L R n) = F_X12_mostAlike_25 mm_N (some 197) (nI c) (nI m) 0 (mk S I' L R n) ∧ (∀ j, l ≤ j → j < 8 → I' 216 j = 0) ∧ (∀ j, j < l → I' 216 j = I 216 j) ∧ ∀ x, x ≠ 216 → I' x = I x := by
  intro r
  induction r with
  | zero =>
    intro g l I hl hg
    obtain ⟨g, rfl⟩ : ∃ y, g = y + 1 := ⟨g - 1, by omega⟩
    have : l = 8 := by omega
    subst this
    refine ⟨I, ?_, fun j h1 h2 => by omega, fun _ _ => rfl, fun _ _ => rfl⟩
    simp only [F_X12_mostAlike_4]
    rw [if_pos (by decide)]
  | succ r ih =>
    intro g l I hl hg
    obtain ⟨g, rfl⟩ : ∃ y, g = y + 1 := ⟨g - 1, by omega⟩
    obtain ⟨I', q1, q2, q3, q4⟩ := ih g (l + 1) (up2 I 216 l 0) (by omega) (by omega)
    refine ⟨I', ?_, fun j h1 h2 => ?_, fun j hj => by rw [q3 j (by omega), up2_row, up1_ne _ _ (by omega)], fun x hx => by rw [q4 x hx, up2_ne _ _ _ hx]⟩
    · simp only [F_X12_mostAlike_4]
      rw [if_neg (ge_li 8 (by omega) (by decide)), gr_197_44 hs, Option.bind_some, si_216 hs (by omega), Option.bind_some, nI_1]
      exact q1
    · by_cases e : j = l
      · rw [e, q3 l (by omega), up2_self]
      · exact q2 j (by omega) h2
theorem e_most (hs : St S R) {W c q : Nat} {l F T : Nat → Nat} (h1 : 2 ≤ W) (h2 : W ≤ 8) (hc : c < 10) (hF : F c < 8) (hT : T c < 8) (I : mkI) (hK : I 198 1 = nI W) (hIF : I 198 (51 + c) = nI (F c)) (hIT : I 198 (61 + c) = nI (T c)) (hU : LRu W l q I 80) : ∃ I', F_X12_mostAlike (some 197) (nI c) (mk S I L R n) = some (nI (moC W l q F T c), mk S I' L R n) ∧ ∀ x, x ≠ 216 → I' x = I x := by
  obtain ⟨I1, p1, p2, -, p4⟩ := e_zeroL (L := L) (n := n) (c := c) (m := 0) hs 8 mm_N 0 I (by omega) (by unfold mm_N; decide)
  have hlen : (rF W l q 80).length ≤ 64 := rF_len (q := q) (l := l) h2 8 0 (by omega) (by omega)
  obtain ⟨I', q1, q2⟩ := e_mostL (L := L) (n := n) hs h1 h2 hc hF hT (G := rF W l q 80) (fun z hz => by obtain ⟨a, b, d⟩ := rF_mem hz; exact ⟨b, d, a⟩) hlen (rF W l q 80) [] mm_N I1 (fun _ => 0) 0 rfl (by show _ < 1000000; omega) (by rw [p4 _ (by decide)]; exact hK) (by rw [p4 _ (by decide)]; exact hIF) (by rw [p4 _ (by decide)]; exact hIT) (by rw [p4 _ (by decide)]; exact hU.1) (by rw [p4 _ (by decide)]; exact hU.2) (fun j hj => by rw [p2 j (by omega) hj]; rfl) (fun _ => Nat.le_refl _) (Nat.le_refl _)
  refine ⟨I', ?_, fun x hx => by rw [q2 x hx, p4 x hx]⟩
  unfold F_X12_mostAlike
  exact p1.trans q1
theorem e_askL (hs : St S R) {W C q : Nat} {l F T : Nat → Nat} (h1 : 2 ≤ W) (h2 : W ≤ 8) (hC : C ≤ 10) : ∀ (z g c : Nat) (I : mkI) (b : Int32) (m : Nat), c + z = C → z < g → m ≤ 536870912 → I 198 1 = nI W → I 198 7 = nI C → (∀ d, d < C → F d < W ∧ T d < W ∧ I 198 (51 + d) = nI (F d) ∧ I 198 (61 + d) = nI (T d)) → LRu W l q I 80 → ∃ I', F_X12_ask_32 g (some 197) b (nI m) (nI c) (mk S I L R n) = some (if rF W l q 80 = [] then b else askF (moC W l q F T) z c b m, mk S I' L R n) ∧ ∀ x, x ≠ 216 → I' x = I x := by
  intro z
  induction z with
  | zero =>
    intro g c I b m hc hg _ hK hK7 _ hU
    obtain ⟨g, rfl⟩ : ∃ y, g = y + 1 := ⟨g - 1, by omega⟩
    refine ⟨I, ?_, fun _ _ => rfl⟩
    simp only [F_X12_ask_32, F_X12_ask_77]
    rw [cv_197 hs, e_calls hs, b2_some, hK7, if_pos (nI_le (by omega) (by omega))]
    unfold askF
    rw [ite_self]
  | succ z ih =>
    intro g c I b m hc hg hm hK hK7 hIf hU
    obtain ⟨g, rfl⟩ : ∃ y, g = y + 1 := ⟨g - 1, by omega⟩
    by_cases eE : rF W l q 80 = []
    · refine ⟨I, ?_, fun _ _ => rfl⟩
      have h0 : I 197 43 = 0 := by rw [hU.1, eE]; rfl
      simp only [F_X12_ask_32, F_X12_ask_77]
      rw [cv_197 hs, e_calls hs, b2_some, hK7, if_neg (nI_ge (by omega) (by omega)), gi_197_43 hs, Option.bind_some, h0, if_pos (by decide), if_pos eE]
    · have hl1 : 1 ≤ (rF W l q 80).length := by
        rcases hh : rF W l q 80 with _ | ⟨y, t⟩
        · exact absurd hh eE
        · rw [List.length_cons]; omega
      have hlen : (rF W l q 80).length ≤ 64 := rF_len (q := q) (l := l) h2 8 0 (by omega) (by omega)
      obtain ⟨i1, i2, i3, i4⟩ := hIf c (by omega)
      obtain ⟨I1, p1, p2⟩ := e_most (L := L) (n := n) (F := F) (T := T) hs h1 h2 (show c < 10 by omega) (by omega) (by omega) I hK i3 i4 hU
      obtain ⟨o1, -, -⟩ := moC_ok h2 l q F T c
      have kk : I1 198 = I 198 := p2 _ (by decide)
      have hU1 : LRu W l q I1 80 := by unfold LRu at *; rw [p2 _ (by decide), p2 _ (by decide)]; exact hU
      have step := fun b m (hm : m ≤ 536870912) => ih g (c + 1) I1 b m (by omega) (by omega) hm (by rw [kk]; exact hK) (by rw [kk]; exact hK7) (fun d hd => by rw [kk]; exact hIf d hd) hU1
      have head : F_X12_ask_32 (g + 1) (some 197) b (nI m) (nI c) (mk S I L R n) = if nI (moC W l q F T c) < nI m then F_X12_ask_32 g (some 197) (nI c) (nI (moC W l q F T c)) (nI (c + 1)) (mk S I1 L R n) else F_X12_ask_32 g (some 197) b (nI m) (nI (c + 1)) (mk S I1 L R n) := by
        simp only [F_X12_ask_32, F_X12_ask_71]
        rw [cv_197 hs, e_calls hs, b2_some, hK7, if_neg (nI_ge (by omega) (by omega)), gi_197_43 hs, Option.bind_some, hU.1, if_neg (show ¬ nI _ ≤ 0 from ge_wide (b := 0) (by omega) (by omega)), cv_197 hs, p1, b2_some, nI_1]
      rw [head, if_neg eE]
      unfold askF
      by_cases y : moC W l q F T c < m
      · rw [if_pos (nI_lt y (by omega)), if_pos y]
        obtain ⟨I', q1, q2⟩ := step (nI c) (moC W l q F T c) (by omega)
        rw [if_neg eE] at q1
        exact ⟨I', q1, fun x hx => by rw [q2 x hx, p2 x hx]⟩
      · rw [if_neg (nI_nlt (by omega) (by omega)), if_neg y]
        obtain ⟨I', q1, q2⟩ := step b m hm
        rw [if_neg eE] at q1
        exact ⟨I', q1, fun x hx => by rw [q2 x hx, p2 x hx]⟩
end RR
